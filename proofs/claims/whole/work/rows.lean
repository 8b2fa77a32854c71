section
-- ===== PART A: goes FIRST, ahead of the names: the tables' words, and 'selects' of the private methods out of them =====
/-- a private method of a class that the tables say can be made, by its rows of tables_1 -/
def lw_okq (q : MethodName × Nat) : Prop := (q.1.cls ≠ "java/lang/invoke/MethodHandle" ∧ q.1.cls ≠ "java/lang/invoke/VarHandle") ∧ Cond.instantiable q.1.cls q.2 ∈ tables_1 ∧ Cond.privateMethod q.1 ∈ tables_1 ∧ Cond.instanceMethod q.1 ∈ tables_1
theorem lw_p0 : lw_okq (⟨"ScriptTests", "addWord", "()I"⟩, 7) := ⟨⟨by decide +kernel, by decide +kernel⟩, List.mem_of_getElem? (i := 20) (by decide +kernel), List.mem_of_getElem? (i := 336) (by decide +kernel), List.mem_of_getElem? (i := 337) (by decide +kernel)⟩
theorem lw_p1 : lw_okq (⟨"ScriptTests", "addText", "()I"⟩, 7) := ⟨⟨by decide +kernel, by decide +kernel⟩, List.mem_of_getElem? (i := 20) (by decide +kernel), List.mem_of_getElem? (i := 379) (by decide +kernel), List.mem_of_getElem? (i := 380) (by decide +kernel)⟩
theorem lw_p2 : lw_okq (⟨"ScriptTests", "addScript", "()I"⟩, 7) := ⟨⟨by decide +kernel, by decide +kernel⟩, List.mem_of_getElem? (i := 20) (by decide +kernel), List.mem_of_getElem? (i := 423) (by decide +kernel), List.mem_of_getElem? (i := 424) (by decide +kernel)⟩
theorem lw_p3 : lw_okq (⟨"ScriptTests$Runner", "saysAll", "(LScriptTests$Bytes;II)Z"⟩, 8) := ⟨⟨by decide +kernel, by decide +kernel⟩, List.mem_of_getElem? (i := 234) (by decide +kernel), List.mem_of_getElem? (i := 490) (by decide +kernel), List.mem_of_getElem? (i := 491) (by decide +kernel)⟩
theorem lw_p4 : lw_okq (⟨"ScriptTests$Story", "firstThatFits", "(LScriptTests$Moment;I)I"⟩, 6) := ⟨⟨by decide +kernel, by decide +kernel⟩, List.mem_of_getElem? (i := 47) (by decide +kernel), List.mem_of_getElem? (i := 505) (by decide +kernel), List.mem_of_getElem? (i := 506) (by decide +kernel)⟩
theorem lw_p5 : lw_okq (⟨"ScriptTests$Story", "act", "(LScriptTests$Rule;LScriptTests$Moment;)I"⟩, 6) := ⟨⟨by decide +kernel, by decide +kernel⟩, List.mem_of_getElem? (i := 47) (by decide +kernel), List.mem_of_getElem? (i := 517) (by decide +kernel), List.mem_of_getElem? (i := 518) (by decide +kernel)⟩
theorem lw_p6 : lw_okq (⟨"ScriptTests$Story", "divide", "(LScriptTests$Rule;LScriptTests$Moment;)I"⟩, 6) := ⟨⟨by decide +kernel, by decide +kernel⟩, List.mem_of_getElem? (i := 47) (by decide +kernel), List.mem_of_getElem? (i := 526) (by decide +kernel), List.mem_of_getElem? (i := 527) (by decide +kernel)⟩
theorem lw_p7 : lw_okq (⟨"ScriptTests$Story", "takeItem", "(IIILScriptTests$Moment;)I"⟩, 6) := ⟨⟨by decide +kernel, by decide +kernel⟩, List.mem_of_getElem? (i := 47) (by decide +kernel), List.mem_of_getElem? (i := 530) (by decide +kernel), List.mem_of_getElem? (i := 531) (by decide +kernel)⟩
theorem lw_p8 : lw_okq (⟨"ScriptTests$Runner", "comesOut", "(LScriptTests$Bytes;II)Z"⟩, 8) := ⟨⟨by decide +kernel, by decide +kernel⟩, List.mem_of_getElem? (i := 234) (by decide +kernel), List.mem_of_getElem? (i := 549) (by decide +kernel), List.mem_of_getElem? (i := 550) (by decide +kernel)⟩
theorem lw_p9 : lw_okq (⟨"ScriptTests$Runner", "keepPoint", "(I)Z"⟩, 8) := ⟨⟨by decide +kernel, by decide +kernel⟩, List.mem_of_getElem? (i := 234) (by decide +kernel), List.mem_of_getElem? (i := 586) (by decide +kernel), List.mem_of_getElem? (i := 587) (by decide +kernel)⟩
theorem lw_p10 : lw_okq (⟨"ScriptTests$Runner", "goBack", "(I)Z"⟩, 8) := ⟨⟨by decide +kernel, by decide +kernel⟩, List.mem_of_getElem? (i := 234) (by decide +kernel), List.mem_of_getElem? (i := 595) (by decide +kernel), List.mem_of_getElem? (i := 596) (by decide +kernel)⟩
theorem lw_p11 : lw_okq (⟨"ScriptTests$Runner", "noteFailed", "(I)V"⟩, 8) := ⟨⟨by decide +kernel, by decide +kernel⟩, List.mem_of_getElem? (i := 234) (by decide +kernel), List.mem_of_getElem? (i := 599) (by decide +kernel), List.mem_of_getElem? (i := 600) (by decide +kernel)⟩
theorem lw_p12 : lw_okq (⟨"ScriptTests", "firstUnlikeLine", "()I"⟩, 7) := ⟨⟨by decide +kernel, by decide +kernel⟩, List.mem_of_getElem? (i := 20) (by decide +kernel), List.mem_of_getElem? (i := 618) (by decide +kernel), List.mem_of_getElem? (i := 619) (by decide +kernel)⟩
theorem lw_p13 : lw_okq (⟨"ScriptTests", "answersAlike", "(III)Z"⟩, 7) := ⟨⟨by decide +kernel, by decide +kernel⟩, List.mem_of_getElem? (i := 20) (by decide +kernel), List.mem_of_getElem? (i := 624) (by decide +kernel), List.mem_of_getElem? (i := 625) (by decide +kernel)⟩
theorem lw_p14 : lw_okq (⟨"ScriptTests$Storm", "ruleBroken", "(LScriptTests$Moment;Z)I"⟩, 6) := ⟨⟨by decide +kernel, by decide +kernel⟩, List.mem_of_getElem? (i := 272) (by decide +kernel), List.mem_of_getElem? (i := 648) (by decide +kernel), List.mem_of_getElem? (i := 649) (by decide +kernel)⟩
theorem lw_p15 : lw_okq (⟨"ScriptTests$Storm", "firstThatCanGo", "()I"⟩, 6) := ⟨⟨by decide +kernel, by decide +kernel⟩, List.mem_of_getElem? (i := 272) (by decide +kernel), List.mem_of_getElem? (i := 673) (by decide +kernel), List.mem_of_getElem? (i := 674) (by decide +kernel)⟩
def lw_privs_1 : List (MethodName × Nat) := [(⟨"ScriptTests", "addWord", "()I"⟩, 7), (⟨"ScriptTests", "addText", "()I"⟩, 7), (⟨"ScriptTests", "addScript", "()I"⟩, 7), (⟨"ScriptTests$Runner", "saysAll", "(LScriptTests$Bytes;II)Z"⟩, 8), (⟨"ScriptTests$Story", "firstThatFits", "(LScriptTests$Moment;I)I"⟩, 6), (⟨"ScriptTests$Story", "act", "(LScriptTests$Rule;LScriptTests$Moment;)I"⟩, 6), (⟨"ScriptTests$Story", "divide", "(LScriptTests$Rule;LScriptTests$Moment;)I"⟩, 6), (⟨"ScriptTests$Story", "takeItem", "(IIILScriptTests$Moment;)I"⟩, 6), (⟨"ScriptTests$Runner", "comesOut", "(LScriptTests$Bytes;II)Z"⟩, 8), (⟨"ScriptTests$Runner", "keepPoint", "(I)Z"⟩, 8), (⟨"ScriptTests$Runner", "goBack", "(I)Z"⟩, 8), (⟨"ScriptTests$Runner", "noteFailed", "(I)V"⟩, 8), (⟨"ScriptTests", "firstUnlikeLine", "()I"⟩, 7), (⟨"ScriptTests", "answersAlike", "(III)Z"⟩, 7), (⟨"ScriptTests$Storm", "ruleBroken", "(LScriptTests$Moment;Z)I"⟩, 6), (⟨"ScriptTests$Storm", "firstThatCanGo", "()I"⟩, 6)]
theorem lw_r1 : ∀ q ∈ lw_privs_1, lw_okq q := List.forall_mem_cons.mpr ⟨lw_p0, List.forall_mem_cons.mpr ⟨lw_p1, List.forall_mem_cons.mpr ⟨lw_p2, List.forall_mem_cons.mpr ⟨lw_p3, List.forall_mem_cons.mpr ⟨lw_p4, List.forall_mem_cons.mpr ⟨lw_p5, List.forall_mem_cons.mpr ⟨lw_p6, List.forall_mem_cons.mpr ⟨lw_p7, List.forall_mem_cons.mpr ⟨lw_p8, List.forall_mem_cons.mpr ⟨lw_p9, List.forall_mem_cons.mpr ⟨lw_p10, List.forall_mem_cons.mpr ⟨lw_p11, List.forall_mem_cons.mpr ⟨lw_p12, List.forall_mem_cons.mpr ⟨lw_p13, List.forall_mem_cons.mpr ⟨lw_p14, List.forall_mem_cons.mpr ⟨lw_p15, fun _ h => absurd h List.not_mem_nil⟩⟩⟩⟩⟩⟩⟩⟩⟩⟩⟩⟩⟩⟩⟩⟩
theorem lw_p16 : lw_okq (⟨"ScriptTests$Storm", "breaksAlikeWithout", "(I)Z"⟩, 6) := ⟨⟨by decide +kernel, by decide +kernel⟩, List.mem_of_getElem? (i := 272) (by decide +kernel), List.mem_of_getElem? (i := 677) (by decide +kernel), List.mem_of_getElem? (i := 678) (by decide +kernel)⟩
theorem lw_p17 : lw_okq (⟨"ScriptTests$Storm", "drop", "(I)V"⟩, 6) := ⟨⟨by decide +kernel, by decide +kernel⟩, List.mem_of_getElem? (i := 272) (by decide +kernel), List.mem_of_getElem? (i := 683) (by decide +kernel), List.mem_of_getElem? (i := 684) (by decide +kernel)⟩
theorem lw_p18 : lw_okq (⟨"java/lang/Throwable", "fillInStackTrace", "(I)Ljava/lang/Throwable;"⟩, 6) := ⟨⟨by decide +kernel, by decide +kernel⟩, List.mem_of_getElem? (i := 755) (by decide +kernel), List.mem_of_getElem? (i := 753) (by decide +kernel), List.mem_of_getElem? (i := 754) (by decide +kernel)⟩
theorem lw_p19 : lw_okq (⟨"ScriptTestsModel", "begin", "()V"⟩, 40) := ⟨⟨by decide +kernel, by decide +kernel⟩, List.mem_of_getElem? (i := 788) (by decide +kernel), List.mem_of_getElem? (i := 794) (by decide +kernel), List.mem_of_getElem? (i := 795) (by decide +kernel)⟩
theorem lw_p20 : lw_okq (⟨"ScriptTestsModel", "wordAt", "([III)I"⟩, 40) := ⟨⟨by decide +kernel, by decide +kernel⟩, List.mem_of_getElem? (i := 788) (by decide +kernel), List.mem_of_getElem? (i := 938) (by decide +kernel), List.mem_of_getElem? (i := 939) (by decide +kernel)⟩
theorem lw_p21 : lw_okq (⟨"ScriptTestsModel", "wrongLine", "(I)I"⟩, 40) := ⟨⟨by decide +kernel, by decide +kernel⟩, List.mem_of_getElem? (i := 788) (by decide +kernel), List.mem_of_getElem? (i := 979) (by decide +kernel), List.mem_of_getElem? (i := 980) (by decide +kernel)⟩
theorem lw_p22 : lw_okq (⟨"ScriptTestsModel", "byteAt", "(I)I"⟩, 40) := ⟨⟨by decide +kernel, by decide +kernel⟩, List.mem_of_getElem? (i := 788) (by decide +kernel), List.mem_of_getElem? (i := 983) (by decide +kernel), List.mem_of_getElem? (i := 984) (by decide +kernel)⟩
theorem lw_p23 : lw_okq (⟨"ScriptTestsModel", "wrongWords", "(IZ)I"⟩, 40) := ⟨⟨by decide +kernel, by decide +kernel⟩, List.mem_of_getElem? (i := 788) (by decide +kernel), List.mem_of_getElem? (i := 987) (by decide +kernel), List.mem_of_getElem? (i := 988) (by decide +kernel)⟩
theorem lw_p24 : lw_okq (⟨"ScriptTestsModel", "wrongPattern", "(I)I"⟩, 40) := ⟨⟨by decide +kernel, by decide +kernel⟩, List.mem_of_getElem? (i := 788) (by decide +kernel), List.mem_of_getElem? (i := 991) (by decide +kernel), List.mem_of_getElem? (i := 992) (by decide +kernel)⟩
theorem lw_p25 : lw_okq (⟨"ScriptTestsModel", "wrongFlag", "(I)I"⟩, 40) := ⟨⟨by decide +kernel, by decide +kernel⟩, List.mem_of_getElem? (i := 788) (by decide +kernel), List.mem_of_getElem? (i := 995) (by decide +kernel), List.mem_of_getElem? (i := 996) (by decide +kernel)⟩
theorem lw_p26 : lw_okq (⟨"ScriptTestsModel", "wrongDigit", "(III)I"⟩, 40) := ⟨⟨by decide +kernel, by decide +kernel⟩, List.mem_of_getElem? (i := 788) (by decide +kernel), List.mem_of_getElem? (i := 1002) (by decide +kernel), List.mem_of_getElem? (i := 1003) (by decide +kernel)⟩
theorem lw_p27 : lw_okq (⟨"ScriptTestsModel", "comesOut", "(II)Z"⟩, 40) := ⟨⟨by decide +kernel, by decide +kernel⟩, List.mem_of_getElem? (i := 788) (by decide +kernel), List.mem_of_getElem? (i := 1010) (by decide +kernel), List.mem_of_getElem? (i := 1011) (by decide +kernel)⟩
theorem lw_p28 : lw_okq (⟨"ScriptTestsModel", "saysAll", "(II)Z"⟩, 40) := ⟨⟨by decide +kernel, by decide +kernel⟩, List.mem_of_getElem? (i := 788) (by decide +kernel), List.mem_of_getElem? (i := 1014) (by decide +kernel), List.mem_of_getElem? (i := 1015) (by decide +kernel)⟩
theorem lw_p29 : lw_okq (⟨"ScriptTestsModel", "says", "(I)I"⟩, 40) := ⟨⟨by decide +kernel, by decide +kernel⟩, List.mem_of_getElem? (i := 788) (by decide +kernel), List.mem_of_getElem? (i := 1018) (by decide +kernel), List.mem_of_getElem? (i := 1019) (by decide +kernel)⟩
theorem lw_p30 : lw_okq (⟨"ScriptTestsModel", "shows", "(I)V"⟩, 40) := ⟨⟨by decide +kernel, by decide +kernel⟩, List.mem_of_getElem? (i := 788) (by decide +kernel), List.mem_of_getElem? (i := 1022) (by decide +kernel), List.mem_of_getElem? (i := 1023) (by decide +kernel)⟩
theorem lw_p31 : lw_okq (⟨"ScriptTestsModel", "acts", "(I)I"⟩, 40) := ⟨⟨by decide +kernel, by decide +kernel⟩, List.mem_of_getElem? (i := 788) (by decide +kernel), List.mem_of_getElem? (i := 1026) (by decide +kernel), List.mem_of_getElem? (i := 1027) (by decide +kernel)⟩
def lw_privs_2 : List (MethodName × Nat) := [(⟨"ScriptTests$Storm", "breaksAlikeWithout", "(I)Z"⟩, 6), (⟨"ScriptTests$Storm", "drop", "(I)V"⟩, 6), (⟨"java/lang/Throwable", "fillInStackTrace", "(I)Ljava/lang/Throwable;"⟩, 6), (⟨"ScriptTestsModel", "begin", "()V"⟩, 40), (⟨"ScriptTestsModel", "wordAt", "([III)I"⟩, 40), (⟨"ScriptTestsModel", "wrongLine", "(I)I"⟩, 40), (⟨"ScriptTestsModel", "byteAt", "(I)I"⟩, 40), (⟨"ScriptTestsModel", "wrongWords", "(IZ)I"⟩, 40), (⟨"ScriptTestsModel", "wrongPattern", "(I)I"⟩, 40), (⟨"ScriptTestsModel", "wrongFlag", "(I)I"⟩, 40), (⟨"ScriptTestsModel", "wrongDigit", "(III)I"⟩, 40), (⟨"ScriptTestsModel", "comesOut", "(II)Z"⟩, 40), (⟨"ScriptTestsModel", "saysAll", "(II)Z"⟩, 40), (⟨"ScriptTestsModel", "says", "(I)I"⟩, 40), (⟨"ScriptTestsModel", "shows", "(I)V"⟩, 40), (⟨"ScriptTestsModel", "acts", "(I)I"⟩, 40)]
theorem lw_r2 : ∀ q ∈ lw_privs_2, lw_okq q := List.forall_mem_cons.mpr ⟨lw_p16, List.forall_mem_cons.mpr ⟨lw_p17, List.forall_mem_cons.mpr ⟨lw_p18, List.forall_mem_cons.mpr ⟨lw_p19, List.forall_mem_cons.mpr ⟨lw_p20, List.forall_mem_cons.mpr ⟨lw_p21, List.forall_mem_cons.mpr ⟨lw_p22, List.forall_mem_cons.mpr ⟨lw_p23, List.forall_mem_cons.mpr ⟨lw_p24, List.forall_mem_cons.mpr ⟨lw_p25, List.forall_mem_cons.mpr ⟨lw_p26, List.forall_mem_cons.mpr ⟨lw_p27, List.forall_mem_cons.mpr ⟨lw_p28, List.forall_mem_cons.mpr ⟨lw_p29, List.forall_mem_cons.mpr ⟨lw_p30, List.forall_mem_cons.mpr ⟨lw_p31, fun _ h => absurd h List.not_mem_nil⟩⟩⟩⟩⟩⟩⟩⟩⟩⟩⟩⟩⟩⟩⟩⟩
theorem lw_p32 : lw_okq (⟨"ScriptTestsModel", "matches", "(III)Z"⟩, 40) := ⟨⟨by decide +kernel, by decide +kernel⟩, List.mem_of_getElem? (i := 788) (by decide +kernel), List.mem_of_getElem? (i := 1034) (by decide +kernel), List.mem_of_getElem? (i := 1035) (by decide +kernel)⟩
theorem lw_p33 : lw_okq (⟨"ScriptTestsModel", "signsOf", "(I)I"⟩, 40) := ⟨⟨by decide +kernel, by decide +kernel⟩, List.mem_of_getElem? (i := 788) (by decide +kernel), List.mem_of_getElem? (i := 1038) (by decide +kernel), List.mem_of_getElem? (i := 1039) (by decide +kernel)⟩
theorem lw_p34 : lw_okq (⟨"ScriptTestsModel", "signOf", "(II)I"⟩, 40) := ⟨⟨by decide +kernel, by decide +kernel⟩, List.mem_of_getElem? (i := 788) (by decide +kernel), List.mem_of_getElem? (i := 1042) (by decide +kernel), List.mem_of_getElem? (i := 1043) (by decide +kernel)⟩
theorem lw_p35 : lw_okq (⟨"ScriptTestsModel", "copy", "(II)V"⟩, 40) := ⟨⟨by decide +kernel, by decide +kernel⟩, List.mem_of_getElem? (i := 788) (by decide +kernel), List.mem_of_getElem? (i := 1046) (by decide +kernel), List.mem_of_getElem? (i := 1047) (by decide +kernel)⟩
theorem lw_p36 : lw_okq (⟨"ScriptTestsModel", "wrongTranscript", "()I"⟩, 40) := ⟨⟨by decide +kernel, by decide +kernel⟩, List.mem_of_getElem? (i := 788) (by decide +kernel), List.mem_of_getElem? (i := 1058) (by decide +kernel), List.mem_of_getElem? (i := 1059) (by decide +kernel)⟩
theorem lw_p37 : lw_okq (⟨"ScriptTestsModel", "endOf", "(I)I"⟩, 40) := ⟨⟨by decide +kernel, by decide +kernel⟩, List.mem_of_getElem? (i := 788) (by decide +kernel), List.mem_of_getElem? (i := 1062) (by decide +kernel), List.mem_of_getElem? (i := 1063) (by decide +kernel)⟩
theorem lw_p38 : lw_okq (⟨"ScriptTestsModel", "isLine", "(IIIZ)Z"⟩, 40) := ⟨⟨by decide +kernel, by decide +kernel⟩, List.mem_of_getElem? (i := 788) (by decide +kernel), List.mem_of_getElem? (i := 1066) (by decide +kernel), List.mem_of_getElem? (i := 1067) (by decide +kernel)⟩
theorem lw_p39 : lw_okq (⟨"ScriptTestsModel", "breaks", "(I)I"⟩, 40) := ⟨⟨by decide +kernel, by decide +kernel⟩, List.mem_of_getElem? (i := 788) (by decide +kernel), List.mem_of_getElem? (i := 1075) (by decide +kernel), List.mem_of_getElem? (i := 1076) (by decide +kernel)⟩
theorem lw_p40 : lw_okq (⟨"ScriptTestsModel", "canGo", "(I)Z"⟩, 40) := ⟨⟨by decide +kernel, by decide +kernel⟩, List.mem_of_getElem? (i := 788) (by decide +kernel), List.mem_of_getElem? (i := 1091) (by decide +kernel), List.mem_of_getElem? (i := 1092) (by decide +kernel)⟩
def lw_privs_3 : List (MethodName × Nat) := [(⟨"ScriptTestsModel", "matches", "(III)Z"⟩, 40), (⟨"ScriptTestsModel", "signsOf", "(I)I"⟩, 40), (⟨"ScriptTestsModel", "signOf", "(II)I"⟩, 40), (⟨"ScriptTestsModel", "copy", "(II)V"⟩, 40), (⟨"ScriptTestsModel", "wrongTranscript", "()I"⟩, 40), (⟨"ScriptTestsModel", "endOf", "(I)I"⟩, 40), (⟨"ScriptTestsModel", "isLine", "(IIIZ)Z"⟩, 40), (⟨"ScriptTestsModel", "breaks", "(I)I"⟩, 40), (⟨"ScriptTestsModel", "canGo", "(I)Z"⟩, 40)]
theorem lw_r3 : ∀ q ∈ lw_privs_3, lw_okq q := List.forall_mem_cons.mpr ⟨lw_p32, List.forall_mem_cons.mpr ⟨lw_p33, List.forall_mem_cons.mpr ⟨lw_p34, List.forall_mem_cons.mpr ⟨lw_p35, List.forall_mem_cons.mpr ⟨lw_p36, List.forall_mem_cons.mpr ⟨lw_p37, List.forall_mem_cons.mpr ⟨lw_p38, List.forall_mem_cons.mpr ⟨lw_p39, List.forall_mem_cons.mpr ⟨lw_p40, fun _ h => absurd h List.not_mem_nil⟩⟩⟩⟩⟩⟩⟩⟩⟩
def lw_privs : List (MethodName × Nat) := lw_privs_1 ++ (lw_privs_2 ++ (lw_privs_3))
def lw_tbl : List Cond := k2_sels lw_privs ++ tables_1
theorem lw_privs_ok : ∀ q ∈ lw_privs, lw_okq q := by
  show ∀ q ∈ lw_privs_1 ++ (lw_privs_2 ++ (lw_privs_3)), lw_okq q
  exact List.forall_mem_append.mpr ⟨lw_r1, List.forall_mem_append.mpr ⟨lw_r2, lw_r3⟩⟩
end
section
theorem goodIn_r {big : List Cond} (ws : List Cond) (ps : List Nat) (hp : ws = ps.filterMap (fun i => big[i]?)) (h : ws.all goodWord = true) : GoodIn big ws := by
  intro w hw
  have h1 := List.all_eq_true.mp h w hw
  rw [hp] at hw
  obtain ⟨i, -, hi⟩ := List.mem_filterMap.mp hw
  have hm : w ∈ big := by first | exact List.mem_of_getElem? hi | exact List.getElem?_mem hi
  exact ⟨hm, good_of_word h1⟩
theorem goodIn_app {big a b : List Cond} (ha : GoodIn big a) (hb : GoodIn big b) : GoodIn big (a ++ b) := fun w h => (List.mem_append.mp h).elim (ha w) (hb w)
theorem goodIn_ca {big a b : List Cond} {c : Cond} (ha : GoodIn big (c :: a)) (hb : GoodIn big b) : GoodIn big (c :: (a ++ b)) := fun w h => (List.mem_cons.mp h).elim (fun e => ha w (List.mem_cons.mpr (Or.inl e))) (fun h => (List.mem_append.mp h).elim (fun h => ha w (List.mem_cons.mpr (Or.inr h))) (hb w))
theorem goodIn_sub {big ws : List Cond} (hm : ∀ w ∈ ws, w ∈ big) (h : ws.all goodWord = true) : GoodIn big ws := fun w hw => ⟨hm w hw, good_of_word (List.all_eq_true.mp h w hw)⟩
def RX0 : String := "ScriptTests$Bytes"
def TX0 : u_T := fun k => match k with
  | 0 => ("ScriptTests$Bytes", "row", "[B", true)
  | _ => ("ScriptTests$Bytes", "length", "I", false)
def tyX0 : Nat → FieldType := fun k => match k with
  | 0 => .array .byte
  | _ => .int
abbrev wsX00 : List Cond := u_ws RX0 TX0 2
theorem nmX0 : ∀ a, a < 2 → ∀ b, b < 2 → a ≠ b → (TX0 a).2.1 ≠ (TX0 b).2.1 := by decide +kernel
theorem tyX0_ok : ∀ k, k < 2 → parseFieldDescriptor (TX0 k).2.2.1 = some (tyX0 k) := by decide +kernel
abbrev cX0_init : ByteArray := prog_2_method_1_code
def yX0_init : MethodName := ⟨RX0, "<init>", "(I)V"⟩
abbrev cX0_at : ByteArray := prog_2_method_2_code
def yX0_at : MethodName := ⟨RX0, "at", "(I)I"⟩
abbrev cX0_append : ByteArray := prog_2_method_3_code
def yX0_append : MethodName := ⟨RX0, "append", "(I)V"⟩
abbrev cX0_clear : ByteArray := prog_2_method_4_code
def yX0_clear : MethodName := ⟨RX0, "clear", "()V"⟩
abbrev cX0_copy : ByteArray := prog_2_method_5_code
def yX0_copy : MethodName := ⟨RX0, "copy", "()LScriptTests$Bytes;"⟩
def RX1 : String := "ScriptTests$Entries"
def TX1 : u_T := fun k => match k with
  | 0 => ("ScriptTests$Entries", "width", "I", true)
  | 1 => ("ScriptTests$Entries", "signs", "[B", true)
  | 2 => ("ScriptTests$Entries", "lengths", "[I", true)
  | _ => ("ScriptTests$Entries", "count", "I", false)
def tyX1 : Nat → FieldType := fun k => match k with
  | 0 => .int
  | 1 => .array .byte
  | 2 => .array .int
  | _ => .int
abbrev wsX10 : List Cond := u_ws RX1 TX1 4
theorem nmX1 : ∀ a, a < 4 → ∀ b, b < 4 → a ≠ b → (TX1 a).2.1 ≠ (TX1 b).2.1 := by decide +kernel
theorem tyX1_ok : ∀ k, k < 4 → parseFieldDescriptor (TX1 k).2.2.1 = some (tyX1 k) := by decide +kernel
abbrev cX1_init : ByteArray := prog_3_method_1_code
def yX1_init : MethodName := ⟨RX1, "<init>", "(II)V"⟩
abbrev cX1_has : ByteArray := prog_3_method_2_code
def yX1_has : MethodName := ⟨RX1, "has", "(I)Z"⟩
abbrev cX1_lengthOf : ByteArray := prog_3_method_3_code
def yX1_lengthOf : MethodName := ⟨RX1, "lengthOf", "(I)I"⟩
abbrev cX1_signOf : ByteArray := prog_3_method_4_code
def yX1_signOf : MethodName := ⟨RX1, "signOf", "(II)I"⟩
abbrev cX1_find : ByteArray := prog_3_method_5_code
def yX1_find : MethodName := ⟨RX1, "find", "(LScriptTests$Bytes;II)I"⟩
abbrev cX1_stands : ByteArray := prog_3_method_6_code
def yX1_stands : MethodName := ⟨RX1, "stands", "(ILScriptTests$Bytes;II)Z"⟩
abbrev cX1_append : ByteArray := prog_3_method_7_code
def yX1_append : MethodName := ⟨RX1, "append", "(LScriptTests$Bytes;)I"⟩
def RX2 : String := "ScriptTests$Grammar"
def TX2 : u_T := fun k => match k with
  | _ => ("", "", "", false)
def tyX2 : Nat → FieldType := fun k => match k with
  | _ => .int
abbrev wsX20 : List Cond := u_ws RX2 TX2 0
theorem nmX2 : ∀ a, a < 0 → ∀ b, b < 0 → a ≠ b → (TX2 a).2.1 ≠ (TX2 b).2.1 := by decide +kernel
theorem tyX2_ok : ∀ k, k < 0 → parseFieldDescriptor (TX2 k).2.2.1 = some (tyX2 k) := by decide +kernel
abbrev cX2_isSign : ByteArray := prog_4_method_2_code
def yX2_isSign : MethodName := ⟨RX2, "isSign", "(I)Z"⟩
abbrev cX2_endsLine : ByteArray := prog_4_method_3_code
def yX2_endsLine : MethodName := ⟨RX2, "endsLine", "(I)Z"⟩
abbrev cX2_lineEnd : ByteArray := prog_4_method_4_code
def yX2_lineEnd : MethodName := ⟨RX2, "lineEnd", "(LScriptTests$Bytes;I)I"⟩
abbrev cX2_signsEnd : ByteArray := prog_4_method_5_code
def yX2_signsEnd : MethodName := ⟨RX2, "signsEnd", "(LScriptTests$Bytes;I)I"⟩
abbrev cX2_lettersEnd : ByteArray := prog_4_method_6_code
def yX2_lettersEnd : MethodName := ⟨RX2, "lettersEnd", "(LScriptTests$Bytes;I)I"⟩
abbrev cX2_isLetter : ByteArray := prog_4_method_7_code
def yX2_isLetter : MethodName := ⟨RX2, "isLetter", "(I)Z"⟩
abbrev cX2_wrongInScript : ByteArray := prog_4_method_8_code
def yX2_wrongInScript : MethodName := ⟨RX2, "wrongInScript", "(LScriptTests$Bytes;)I"⟩
abbrev cX2_scriptLine : ByteArray := prog_4_method_9_code
def yX2_scriptLine : MethodName := ⟨RX2, "scriptLine", "(LScriptTests$Bytes;I)I"⟩
abbrev cX2_isKind : ByteArray := prog_4_method_10_code
def yX2_isKind : MethodName := ⟨RX2, "isKind", "(I)Z"⟩
abbrev cX2_words : ByteArray := prog_4_method_11_code
def yX2_words : MethodName := ⟨RX2, "words", "(LScriptTests$Bytes;I)I"⟩
abbrev cX2_pattern : ByteArray := prog_4_method_12_code
def yX2_pattern : MethodName := ⟨RX2, "pattern", "(LScriptTests$Bytes;I)I"⟩
abbrev cX2_patternPart : ByteArray := prog_4_method_13_code
def yX2_patternPart : MethodName := ⟨RX2, "patternPart", "(LScriptTests$Bytes;II)I"⟩
abbrev cX2_choice : ByteArray := prog_4_method_14_code
def yX2_choice : MethodName := ⟨RX2, "choice", "(LScriptTests$Bytes;I)I"⟩
abbrev cX2_flagAndNumber : ByteArray := prog_4_method_15_code
def yX2_flagAndNumber : MethodName := ⟨RX2, "flagAndNumber", "(LScriptTests$Bytes;I)I"⟩
abbrev cX2_onlyDigit : ByteArray := prog_4_method_16_code
def yX2_onlyDigit : MethodName := ⟨RX2, "onlyDigit", "(LScriptTests$Bytes;III)I"⟩
abbrev cX2_isDigit : ByteArray := prog_4_method_17_code
def yX2_isDigit : MethodName := ⟨RX2, "isDigit", "(III)Z"⟩
abbrev cX2_wrongInTranscript : ByteArray := prog_4_method_18_code
def yX2_wrongInTranscript : MethodName := ⟨RX2, "wrongInTranscript", "(LScriptTests$Bytes;)I"⟩
abbrev cX2_transcriptWord : ByteArray := prog_4_method_19_code
def yX2_transcriptWord : MethodName := ⟨RX2, "transcriptWord", "(LScriptTests$Bytes;I)I"⟩
def RX3 : String := "ScriptTests$Holder"
def TX3 : u_T := fun k => match k with
  | 0 => ("ScriptTests$Holder", "items", "[I", true)
  | 1 => ("ScriptTests$Holder", "sort", "I", false)
  | _ => ("ScriptTests$Holder", "count", "I", false)
def tyX3 : Nat → FieldType := fun k => match k with
  | 0 => .array .int
  | 1 => .int
  | _ => .int
abbrev wsX30 : List Cond := u_ws RX3 TX3 3
theorem nmX3 : ∀ a, a < 3 → ∀ b, b < 3 → a ≠ b → (TX3 a).2.1 ≠ (TX3 b).2.1 := by decide +kernel
theorem tyX3_ok : ∀ k, k < 3 → parseFieldDescriptor (TX3 k).2.2.1 = some (tyX3 k) := by decide +kernel
abbrev cX3_init : ByteArray := prog_5_method_1_code
def yX3_init : MethodName := ⟨RX3, "<init>", "()V"⟩
abbrev cX3_take : ByteArray := prog_5_method_2_code
def yX3_take : MethodName := ⟨RX3, "take", "(III)V"⟩
abbrev cX3_faultAt : ByteArray := prog_5_method_3_code
def yX3_faultAt : MethodName := ⟨RX3, "faultAt", "(II)I"⟩
abbrev cX3_item : ByteArray := prog_5_method_4_code
def yX3_item : MethodName := ⟨RX3, "item", "(I)I"⟩
def RX4 : String := "ScriptTests$Moment"
def TX4 : u_T := fun k => match k with
  | 0 => ("ScriptTests$Moment", "flags", "[I", true)
  | 1 => ("ScriptTests$Moment", "room", "I", false)
  | 2 => ("ScriptTests$Moment", "seed", "I", false)
  | 3 => ("ScriptTests$Moment", "end", "I", false)
  | _ => ("ScriptTests$Moment", "latest", "I", false)
def tyX4 : Nat → FieldType := fun k => match k with
  | 0 => .array .int
  | 1 => .int
  | 2 => .int
  | 3 => .int
  | _ => .int
abbrev wsX40 : List Cond := u_ws RX4 TX4 5
theorem nmX4 : ∀ a, a < 5 → ∀ b, b < 5 → a ≠ b → (TX4 a).2.1 ≠ (TX4 b).2.1 := by decide +kernel
theorem tyX4_ok : ∀ k, k < 5 → parseFieldDescriptor (TX4 k).2.2.1 = some (tyX4 k) := by decide +kernel
abbrev cX4_init : ByteArray := prog_6_method_1_code
def yX4_init : MethodName := ⟨RX4, "<init>", "()V"⟩
abbrev cX4_begin : ByteArray := prog_6_method_2_code
def yX4_begin : MethodName := ⟨RX4, "begin", "(I)V"⟩
abbrev cX4_become : ByteArray := prog_6_method_3_code
def yX4_become : MethodName := ⟨RX4, "become", "(LScriptTests$Moment;)V"⟩
abbrev cX4_flag : ByteArray := prog_6_method_4_code
def yX4_flag : MethodName := ⟨RX4, "flag", "(I)I"⟩
abbrev cX4_setFlag : ByteArray := prog_6_method_5_code
def yX4_setFlag : MethodName := ⟨RX4, "setFlag", "(II)V"⟩
abbrev cX4_hasFlagBelowZero : ByteArray := prog_6_method_6_code
def yX4_hasFlagBelowZero : MethodName := ⟨RX4, "hasFlagBelowZero", "()Z"⟩
def RX5 : String := "ScriptTests$Pattern"
def TX5 : u_T := fun k => match k with
  | _ => ("", "", "", false)
def tyX5 : Nat → FieldType := fun k => match k with
  | _ => .int
abbrev wsX50 : List Cond := u_ws RX5 TX5 0
theorem nmX5 : ∀ a, a < 0 → ∀ b, b < 0 → a ≠ b → (TX5 a).2.1 ≠ (TX5 b).2.1 := by decide +kernel
theorem tyX5_ok : ∀ k, k < 0 → parseFieldDescriptor (TX5 k).2.2.1 = some (tyX5 k) := by decide +kernel
abbrev cX5_fits : ByteArray := prog_7_method_2_code
def yX5_fits : MethodName := ⟨RX5, "fits", "(LScriptTests$Bytes;IILScriptTests$Story;I)Z"⟩
abbrev cX5_partEnd : ByteArray := prog_7_method_3_code
def yX5_partEnd : MethodName := ⟨RX5, "partEnd", "(LScriptTests$Bytes;II)I"⟩
abbrev cX5_oneSignFurther : ByteArray := prog_7_method_4_code
def yX5_oneSignFurther : MethodName := ⟨RX5, "oneSignFurther", "(LScriptTests$Bytes;IILScriptTests$Story;II)I"⟩
abbrev cX5_takes : ByteArray := prog_7_method_5_code
def yX5_takes : MethodName := ⟨RX5, "takes", "(LScriptTests$Bytes;III)Z"⟩
def RX6 : String := "ScriptTests$Rule"
def TX6 : u_T := fun k => match k with
  | 0 => ("ScriptTests$Rule", "room", "I", false)
  | 1 => ("ScriptTests$Rule", "word", "I", false)
  | 2 => ("ScriptTests$Rule", "flag", "I", false)
  | 3 => ("ScriptTests$Rule", "least", "I", false)
  | 4 => ("ScriptTests$Rule", "act", "I", false)
  | 5 => ("ScriptTests$Rule", "a", "I", false)
  | 6 => ("ScriptTests$Rule", "b", "I", false)
  | 7 => ("ScriptTests$Rule", "text", "I", false)
  | _ => ("ScriptTests$Rule", "to", "I", false)
def tyX6 : Nat → FieldType := fun k => match k with
  | 0 => .int
  | 1 => .int
  | 2 => .int
  | 3 => .int
  | 4 => .int
  | 5 => .int
  | 6 => .int
  | 7 => .int
  | _ => .int
abbrev wsX60 : List Cond := u_ws RX6 TX6 9
theorem nmX6 : ∀ a, a < 9 → ∀ b, b < 9 → a ≠ b → (TX6 a).2.1 ≠ (TX6 b).2.1 := by decide +kernel
theorem tyX6_ok : ∀ k, k < 9 → parseFieldDescriptor (TX6 k).2.2.1 = some (tyX6 k) := by decide +kernel
abbrev cX6_init : ByteArray := prog_8_method_1_code
def yX6_init : MethodName := ⟨RX6, "<init>", "()V"⟩
abbrev cX6_fits : ByteArray := prog_8_method_2_code
def yX6_fits : MethodName := ⟨RX6, "fits", "(LScriptTests$Moment;I)Z"⟩
def RX7 : String := "ScriptTests$Runner"
def TX7 : u_T := fun k => match k with
  | 0 => ("ScriptTests$Runner", "story", "LScriptTests$Story;", true)
  | 1 => ("ScriptTests$Runner", "stage", "LScriptTests$Stage;", true)
  | 2 => ("ScriptTests$Runner", "points", "[LScriptTests$Moment;", true)
  | 3 => ("ScriptTests$Runner", "kept", "[Z", true)
  | 4 => ("ScriptTests$Runner", "failedLines", "[I", true)
  | 5 => ("ScriptTests$Runner", "failedFaults", "[I", true)
  | 6 => ("ScriptTests$Runner", "failedCount", "I", false)
  | _ => ("ScriptTests$Runner", "fault", "I", false)
def tyX7 : Nat → FieldType := fun k => match k with
  | 0 => .object "ScriptTests$Story"
  | 1 => .object "ScriptTests$Stage"
  | 2 => .array (.object "ScriptTests$Moment")
  | 3 => .array .boolean
  | 4 => .array .int
  | 5 => .array .int
  | 6 => .int
  | _ => .int
abbrev wsX70 : List Cond := u_ws RX7 TX7 8
theorem nmX7 : ∀ a, a < 8 → ∀ b, b < 8 → a ≠ b → (TX7 a).2.1 ≠ (TX7 b).2.1 := by decide +kernel
theorem tyX7_ok : ∀ k, k < 8 → parseFieldDescriptor (TX7 k).2.2.1 = some (tyX7 k) := by decide +kernel
abbrev cX7_init : ByteArray := prog_9_method_1_code
def yX7_init : MethodName := ⟨RX7, "<init>", "(LScriptTests$Story;LScriptTests$Stage;)V"⟩
abbrev cX7_runThrough : ByteArray := prog_9_method_2_code
def yX7_runThrough : MethodName := ⟨RX7, "runThrough", "(LScriptTests$Bytes;)I"⟩
abbrev cX7_noteFailed : ByteArray := prog_9_method_3_code
def yX7_noteFailed : MethodName := ⟨RX7, "noteFailed", "(I)V"⟩
abbrev cX7_comesOut : ByteArray := prog_9_method_4_code
def yX7_comesOut : MethodName := ⟨RX7, "comesOut", "(LScriptTests$Bytes;II)Z"⟩
abbrev cX7_saysAll : ByteArray := prog_9_method_5_code
def yX7_saysAll : MethodName := ⟨RX7, "saysAll", "(LScriptTests$Bytes;II)Z"⟩
abbrev cX7_numberAt : ByteArray := prog_9_method_6_code
def yX7_numberAt : MethodName := ⟨RX7, "numberAt", "(LScriptTests$Bytes;II)I"⟩
abbrev cX7_keepPoint : ByteArray := prog_9_method_7_code
def yX7_keepPoint : MethodName := ⟨RX7, "keepPoint", "(I)Z"⟩
abbrev cX7_goBack : ByteArray := prog_9_method_8_code
def yX7_goBack : MethodName := ⟨RX7, "goBack", "(I)Z"⟩
def RX8 : String := "ScriptTests$Stage"
def TX8 : u_T := fun k => match k with
  | 0 => ("ScriptTests$Stage", "story", "LScriptTests$Story;", true)
  | 1 => ("ScriptTests$Stage", "now", "LScriptTests$Moment;", true)
  | 2 => ("ScriptTests$Stage", "doneCounts", "[I", true)
  | 3 => ("ScriptTests$Stage", "shownCounts", "[I", true)
  | 4 => ("ScriptTests$Stage", "saidCount", "I", false)
  | _ => ("ScriptTests$Stage", "latestFault", "I", false)
def tyX8 : Nat → FieldType := fun k => match k with
  | 0 => .object "ScriptTests$Story"
  | 1 => .object "ScriptTests$Moment"
  | 2 => .array .int
  | 3 => .array .int
  | 4 => .int
  | _ => .int
abbrev wsX80 : List Cond := u_ws RX8 TX8 6
theorem nmX8 : ∀ a, a < 6 → ∀ b, b < 6 → a ≠ b → (TX8 a).2.1 ≠ (TX8 b).2.1 := by decide +kernel
theorem tyX8_ok : ∀ k, k < 6 → parseFieldDescriptor (TX8 k).2.2.1 = some (tyX8 k) := by decide +kernel
abbrev cX8_init : ByteArray := prog_10_method_1_code
def yX8_init : MethodName := ⟨RX8, "<init>", "(LScriptTests$Story;)V"⟩
abbrev cX8_begin : ByteArray := prog_10_method_2_code
def yX8_begin : MethodName := ⟨RX8, "begin", "()V"⟩
abbrev cX8_hear : ByteArray := prog_10_method_3_code
def yX8_hear : MethodName := ⟨RX8, "hear", "(I)I"⟩
def RX9 : String := "ScriptTests$Storm"
def TX9 : u_T := fun k => match k with
  | 0 => ("ScriptTests$Storm", "story", "LScriptTests$Story;", true)
  | 1 => ("ScriptTests$Storm", "stage", "LScriptTests$Stage;", true)
  | 2 => ("ScriptTests$Storm", "trial", "LScriptTests$Moment;", true)
  | 3 => ("ScriptTests$Storm", "words", "[I", true)
  | 4 => ("ScriptTests$Storm", "length", "I", false)
  | _ => ("ScriptTests$Storm", "broke", "I", false)
def tyX9 : Nat → FieldType := fun k => match k with
  | 0 => .object "ScriptTests$Story"
  | 1 => .object "ScriptTests$Stage"
  | 2 => .object "ScriptTests$Moment"
  | 3 => .array .int
  | 4 => .int
  | _ => .int
abbrev wsX90 : List Cond := u_ws RX9 TX9 6
theorem nmX9 : ∀ a, a < 6 → ∀ b, b < 6 → a ≠ b → (TX9 a).2.1 ≠ (TX9 b).2.1 := by decide +kernel
theorem tyX9_ok : ∀ k, k < 6 → parseFieldDescriptor (TX9 k).2.2.1 = some (tyX9 k) := by decide +kernel
abbrev cX9_init : ByteArray := prog_11_method_1_code
def yX9_init : MethodName := ⟨RX9, "<init>", "(LScriptTests$Story;LScriptTests$Stage;)V"⟩
abbrev cX9_rage : ByteArray := prog_11_method_2_code
def yX9_rage : MethodName := ⟨RX9, "rage", "(II)I"⟩
abbrev cX9_ruleBroken : ByteArray := prog_11_method_3_code
def yX9_ruleBroken : MethodName := ⟨RX9, "ruleBroken", "(LScriptTests$Moment;Z)I"⟩
abbrev cX9_shorten : ByteArray := prog_11_method_4_code
def yX9_shorten : MethodName := ⟨RX9, "shorten", "()I"⟩
abbrev cX9_firstThatCanGo : ByteArray := prog_11_method_5_code
def yX9_firstThatCanGo : MethodName := ⟨RX9, "firstThatCanGo", "()I"⟩
abbrev cX9_breaksAlikeWithout : ByteArray := prog_11_method_6_code
def yX9_breaksAlikeWithout : MethodName := ⟨RX9, "breaksAlikeWithout", "(I)Z"⟩
abbrev cX9_drop : ByteArray := prog_11_method_7_code
def yX9_drop : MethodName := ⟨RX9, "drop", "(I)V"⟩
def RX10 : String := "ScriptTests$Story"
def TX10 : u_T := fun k => match k with
  | 0 => ("ScriptTests$Story", "words", "LScriptTests$Entries;", true)
  | 1 => ("ScriptTests$Story", "texts", "LScriptTests$Entries;", true)
  | 2 => ("ScriptTests$Story", "rules", "[LScriptTests$Rule;", true)
  | 3 => ("ScriptTests$Story", "holders", "[LScriptTests$Holder;", true)
  | 4 => ("ScriptTests$Story", "ruleCount", "I", false)
  | _ => ("ScriptTests$Story", "firstSeed", "I", false)
def tyX10 : Nat → FieldType := fun k => match k with
  | 0 => .object "ScriptTests$Entries"
  | 1 => .object "ScriptTests$Entries"
  | 2 => .array (.object "ScriptTests$Rule")
  | 3 => .array (.object "ScriptTests$Holder")
  | 4 => .int
  | _ => .int
abbrev wsX100 : List Cond := u_ws RX10 TX10 6
theorem nmX10 : ∀ a, a < 6 → ∀ b, b < 6 → a ≠ b → (TX10 a).2.1 ≠ (TX10 b).2.1 := by decide +kernel
theorem tyX10_ok : ∀ k, k < 6 → parseFieldDescriptor (TX10 k).2.2.1 = some (tyX10 k) := by decide +kernel
abbrev cX10_init : ByteArray := prog_12_method_1_code
def yX10_init : MethodName := ⟨RX10, "<init>", "(I)V"⟩
abbrev cX10_nextRule : ByteArray := prog_12_method_2_code
def yX10_nextRule : MethodName := ⟨RX10, "nextRule", "()LScriptTests$Rule;"⟩
abbrev cX10_say : ByteArray := prog_12_method_3_code
def yX10_say : MethodName := ⟨RX10, "say", "(LScriptTests$Moment;I)I"⟩
abbrev cX10_firstThatFits : ByteArray := prog_12_method_4_code
def yX10_firstThatFits : MethodName := ⟨RX10, "firstThatFits", "(LScriptTests$Moment;I)I"⟩
abbrev cX10_act : ByteArray := prog_12_method_5_code
def yX10_act : MethodName := ⟨RX10, "act", "(LScriptTests$Rule;LScriptTests$Moment;)I"⟩
abbrev cX10_divide : ByteArray := prog_12_method_6_code
def yX10_divide : MethodName := ⟨RX10, "divide", "(LScriptTests$Rule;LScriptTests$Moment;)I"⟩
abbrev cX10_takeItem : ByteArray := prog_12_method_7_code
def yX10_takeItem : MethodName := ⟨RX10, "takeItem", "(IIILScriptTests$Moment;)I"⟩
abbrev cX10_nextSeed : ByteArray := prog_12_method_8_code
def yX10_nextSeed : MethodName := ⟨RX10, "nextSeed", "(I)I"⟩
abbrev cX10_drawn : ByteArray := prog_12_method_9_code
def yX10_drawn : MethodName := ⟨RX10, "drawn", "(II)I"⟩
abbrev cX10_textLength : ByteArray := prog_12_method_10_code
def yX10_textLength : MethodName := ⟨RX10, "textLength", "(I)I"⟩
abbrev cX10_textSign : ByteArray := prog_12_method_11_code
def yX10_textSign : MethodName := ⟨RX10, "textSign", "(II)I"⟩
abbrev cX10_textStands : ByteArray := prog_12_method_12_code
def yX10_textStands : MethodName := ⟨RX10, "textStands", "(ILScriptTests$Bytes;II)Z"⟩
def RX11 : String := "ScriptTests"
def TX11 : u_T := fun k => match k with
  | 0 => ("ScriptTests", "tape", "LScriptTests$Bytes;", true)
  | 1 => ("ScriptTests", "story", "LScriptTests$Story;", true)
  | 2 => ("ScriptTests", "stage", "LScriptTests$Stage;", true)
  | 3 => ("ScriptTests", "runner", "LScriptTests$Runner;", true)
  | 4 => ("ScriptTests", "storms", "LScriptTests$Storm;", true)
  | 5 => ("ScriptTests", "scripts", "[LScriptTests$Bytes;", true)
  | _ => ("ScriptTests", "scriptCount", "I", false)
def tyX11 : Nat → FieldType := fun k => match k with
  | 0 => .object "ScriptTests$Bytes"
  | 1 => .object "ScriptTests$Story"
  | 2 => .object "ScriptTests$Stage"
  | 3 => .object "ScriptTests$Runner"
  | 4 => .object "ScriptTests$Storm"
  | 5 => .array (.object "ScriptTests$Bytes")
  | _ => .int
abbrev wsX110 : List Cond := u_ws RX11 TX11 7
theorem nmX11 : ∀ a, a < 7 → ∀ b, b < 7 → a ≠ b → (TX11 a).2.1 ≠ (TX11 b).2.1 := by decide +kernel
theorem tyX11_ok : ∀ k, k < 7 → parseFieldDescriptor (TX11 k).2.2.1 = some (tyX11 k) := by decide +kernel
abbrev cX11_init : ByteArray := prog_1_method_1_code
def yX11_init : MethodName := ⟨RX11, "<init>", "(I)V"⟩
abbrev cX11_feed : ByteArray := prog_1_method_2_code
def yX11_feed : MethodName := ⟨RX11, "feed", "(JI)I"⟩
abbrev cX11_word : ByteArray := prog_1_method_3_code
def yX11_word : MethodName := ⟨RX11, "word", "()I"⟩
abbrev cX11_addWord : ByteArray := prog_1_method_4_code
def yX11_addWord : MethodName := ⟨RX11, "addWord", "()I"⟩
abbrev cX11_text : ByteArray := prog_1_method_5_code
def yX11_text : MethodName := ⟨RX11, "text", "()I"⟩
abbrev cX11_addText : ByteArray := prog_1_method_6_code
def yX11_addText : MethodName := ⟨RX11, "addText", "()I"⟩
abbrev cX11_rule : ByteArray := prog_1_method_7_code
def yX11_rule : MethodName := ⟨RX11, "rule", "(IIIIIIIII)I"⟩
abbrev cX11_actWants : ByteArray := prog_1_method_8_code
def yX11_actWants : MethodName := ⟨RX11, "actWants", "(III)Z"⟩
abbrev cX11_inside : ByteArray := prog_1_method_9_code
def yX11_inside : MethodName := ⟨RX11, "inside", "(III)Z"⟩
abbrev cX11_holder : ByteArray := prog_1_method_10_code
def yX11_holder : MethodName := ⟨RX11, "holder", "(IIII)I"⟩
abbrev cX11_seed : ByteArray := prog_1_method_11_code
def yX11_seed : MethodName := ⟨RX11, "seed", "(I)I"⟩
abbrev cX11_script : ByteArray := prog_1_method_12_code
def yX11_script : MethodName := ⟨RX11, "script", "()I"⟩
abbrev cX11_addScript : ByteArray := prog_1_method_13_code
def yX11_addScript : MethodName := ⟨RX11, "addScript", "()I"⟩
abbrev cX11_run : ByteArray := prog_1_method_14_code
def yX11_run : MethodName := ⟨RX11, "run", "(I)I"⟩
abbrev cX11_failed : ByteArray := prog_1_method_15_code
def yX11_failed : MethodName := ⟨RX11, "failed", "(II)I"⟩
abbrev cX11_replay : ByteArray := prog_1_method_16_code
def yX11_replay : MethodName := ⟨RX11, "replay", "()I"⟩
abbrev cX11_firstUnlikeLine : ByteArray := prog_1_method_17_code
def yX11_firstUnlikeLine : MethodName := ⟨RX11, "firstUnlikeLine", "()I"⟩
abbrev cX11_answersAlike : ByteArray := prog_1_method_18_code
def yX11_answersAlike : MethodName := ⟨RX11, "answersAlike", "(III)Z"⟩
abbrev cX11_storm : ByteArray := prog_1_method_19_code
def yX11_storm : MethodName := ⟨RX11, "storm", "(II)I"⟩
abbrev cX11_play : ByteArray := prog_1_method_20_code
def yX11_play : MethodName := ⟨RX11, "play", "()I"⟩
abbrev cX11_played : ByteArray := prog_1_method_21_code
def yX11_played : MethodName := ⟨RX11, "played", "(I)I"⟩
abbrev cX11_shrink : ByteArray := prog_1_method_22_code
def yX11_shrink : MethodName := ⟨RX11, "shrink", "()I"⟩
abbrev cX11_state : ByteArray := prog_1_method_23_code
def yX11_state : MethodName := ⟨RX11, "state", "(I)I"⟩
abbrev cX11_done : ByteArray := prog_1_method_24_code
def yX11_done : MethodName := ⟨RX11, "done", "(I)I"⟩
abbrev cX11_shown : ByteArray := prog_1_method_25_code
def yX11_shown : MethodName := ⟨RX11, "shown", "(I)I"⟩
abbrev cX11_never : ByteArray := prog_1_method_26_code
def yX11_never : MethodName := ⟨RX11, "never", "(I)I"⟩
abbrev cX11_share : ByteArray := prog_1_method_27_code
def yX11_share : MethodName := ⟨RX11, "share", "()I"⟩
abbrev cX11_told : ByteArray := prog_1_method_28_code
def yX11_told : MethodName := ⟨RX11, "told", "(I)I"⟩
def RX12 : String := "ScriptTestsModel"
def TX12 : u_T := fun k => match k with
  | 0 => ("ScriptTestsModel", "thrown", "I", false)
  | 1 => ("ScriptTestsModel", "tape", "[I", true)
  | 2 => ("ScriptTestsModel", "taped", "I", false)
  | 3 => ("ScriptTestsModel", "seed", "I", false)
  | 4 => ("ScriptTestsModel", "words", "I", false)
  | 5 => ("ScriptTestsModel", "word", "[I", true)
  | 6 => ("ScriptTestsModel", "wordLong", "[I", true)
  | 7 => ("ScriptTestsModel", "texts", "I", false)
  | 8 => ("ScriptTestsModel", "text", "[I", true)
  | 9 => ("ScriptTestsModel", "textLong", "[I", true)
  | 10 => ("ScriptTestsModel", "rules", "I", false)
  | 11 => ("ScriptTestsModel", "ruleRoom", "[I", true)
  | 12 => ("ScriptTestsModel", "ruleWord", "[I", true)
  | 13 => ("ScriptTestsModel", "ruleFlag", "[I", true)
  | 14 => ("ScriptTestsModel", "ruleLeast", "[I", true)
  | 15 => ("ScriptTestsModel", "ruleAct", "[I", true)
  | 16 => ("ScriptTestsModel", "ruleA", "[I", true)
  | 17 => ("ScriptTestsModel", "ruleB", "[I", true)
  | 18 => ("ScriptTestsModel", "ruleText", "[I", true)
  | 19 => ("ScriptTestsModel", "ruleTo", "[I", true)
  | 20 => ("ScriptTestsModel", "doneTimes", "[I", true)
  | 21 => ("ScriptTestsModel", "shownTimes", "[I", true)
  | 22 => ("ScriptTestsModel", "holderSort", "[I", true)
  | 23 => ("ScriptTestsModel", "holderMany", "[I", true)
  | 24 => ("ScriptTestsModel", "holderV", "[I", true)
  | 25 => ("ScriptTestsModel", "lastFault", "I", false)
  | 26 => ("ScriptTestsModel", "said", "I", false)
  | 27 => ("ScriptTestsModel", "isSeen", "Z", false)
  | 28 => ("ScriptTestsModel", "now", "[I", true)
  | 29 => ("ScriptTestsModel", "isKept", "[Z", true)
  | 30 => ("ScriptTestsModel", "scripts", "I", false)
  | 31 => ("ScriptTestsModel", "script", "[I", true)
  | 32 => ("ScriptTestsModel", "scriptLong", "[I", true)
  | 33 => ("ScriptTestsModel", "failedLine", "[I", true)
  | 34 => ("ScriptTestsModel", "failedFault", "[I", true)
  | 35 => ("ScriptTestsModel", "failures", "I", false)
  | 36 => ("ScriptTestsModel", "runFault", "I", false)
  | 37 => ("ScriptTestsModel", "plays", "I", false)
  | 38 => ("ScriptTestsModel", "play", "[I", true)
  | _ => ("ScriptTestsModel", "broken", "I", false)
def tyX12 : Nat → FieldType := fun k => match k with
  | 0 => .int
  | 1 => .array .int
  | 2 => .int
  | 3 => .int
  | 4 => .int
  | 5 => .array .int
  | 6 => .array .int
  | 7 => .int
  | 8 => .array .int
  | 9 => .array .int
  | 10 => .int
  | 11 => .array .int
  | 12 => .array .int
  | 13 => .array .int
  | 14 => .array .int
  | 15 => .array .int
  | 16 => .array .int
  | 17 => .array .int
  | 18 => .array .int
  | 19 => .array .int
  | 20 => .array .int
  | 21 => .array .int
  | 22 => .array .int
  | 23 => .array .int
  | 24 => .array .int
  | 25 => .int
  | 26 => .int
  | 27 => .boolean
  | 28 => .array .int
  | 29 => .array .boolean
  | 30 => .int
  | 31 => .array .int
  | 32 => .array .int
  | 33 => .array .int
  | 34 => .array .int
  | 35 => .int
  | 36 => .int
  | 37 => .int
  | 38 => .array .int
  | _ => .int
abbrev wsX120 : List Cond := u_ws RX12 TX12 40
theorem nmX12 : ∀ a, a < 40 → ∀ b, b < 40 → a ≠ b → (TX12 a).2.1 ≠ (TX12 b).2.1 := by decide +kernel
theorem tyX12_ok : ∀ k, k < 40 → parseFieldDescriptor (TX12 k).2.2.1 = some (tyX12 k) := by decide +kernel
abbrev cX12_thrown : ByteArray := prog_14_method_1_code
def yX12_thrown : MethodName := ⟨RX12, "thrown", "()I"⟩
abbrev cX12_init : ByteArray := prog_14_method_2_code
def yX12_init : MethodName := ⟨RX12, "<init>", "(I)V"⟩
abbrev cX12_in : ByteArray := prog_14_method_3_code
def yX12_in : MethodName := ⟨RX12, "in", "(JJJ)Z"⟩
abbrev cX12_feed : ByteArray := prog_14_method_4_code
def yX12_feed : MethodName := ⟨RX12, "feed", "(JI)I"⟩
abbrev cX12_isLetter : ByteArray := prog_14_method_5_code
def yX12_isLetter : MethodName := ⟨RX12, "isLetter", "(I)Z"⟩
abbrev cX12_isSign : ByteArray := prog_14_method_6_code
def yX12_isSign : MethodName := ⟨RX12, "isSign", "(I)Z"⟩
abbrev cX12_wordAt : ByteArray := prog_14_method_7_code
def yX12_wordAt : MethodName := ⟨RX12, "wordAt", "([III)I"⟩
abbrev cX12_word : ByteArray := prog_14_method_8_code
def yX12_word : MethodName := ⟨RX12, "word", "()I"⟩
abbrev cX12_text : ByteArray := prog_14_method_9_code
def yX12_text : MethodName := ⟨RX12, "text", "()I"⟩
abbrev cX12_actFits : ByteArray := prog_14_method_10_code
def yX12_actFits : MethodName := ⟨RX12, "actFits", "(III)Z"⟩
abbrev cX12_rule : ByteArray := prog_14_method_11_code
def yX12_rule : MethodName := ⟨RX12, "rule", "(IIIIIIIII)I"⟩
abbrev cX12_holder : ByteArray := prog_14_method_12_code
def yX12_holder : MethodName := ⟨RX12, "holder", "(IIII)I"⟩
abbrev cX12_seed : ByteArray := prog_14_method_13_code
def yX12_seed : MethodName := ⟨RX12, "seed", "(I)I"⟩
abbrev cX12_begin : ByteArray := prog_14_method_14_code
def yX12_begin : MethodName := ⟨RX12, "begin", "()V"⟩
abbrev cX12_copy : ByteArray := prog_14_method_15_code
def yX12_copy : MethodName := ⟨RX12, "copy", "(II)V"⟩
abbrev cX12_drawn : ByteArray := prog_14_method_16_code
def yX12_drawn : MethodName := ⟨RX12, "drawn", "(I)I"⟩
abbrev cX12_acts : ByteArray := prog_14_method_17_code
def yX12_acts : MethodName := ⟨RX12, "acts", "(I)I"⟩
abbrev cX12_shows : ByteArray := prog_14_method_18_code
def yX12_shows : MethodName := ⟨RX12, "shows", "(I)V"⟩
abbrev cX12_says : ByteArray := prog_14_method_19_code
def yX12_says : MethodName := ⟨RX12, "says", "(I)I"⟩
abbrev cX12_byteAt : ByteArray := prog_14_method_20_code
def yX12_byteAt : MethodName := ⟨RX12, "byteAt", "(I)I"⟩
abbrev cX12_wrongWords : ByteArray := prog_14_method_21_code
def yX12_wrongWords : MethodName := ⟨RX12, "wrongWords", "(IZ)I"⟩
abbrev cX12_wrongPattern : ByteArray := prog_14_method_22_code
def yX12_wrongPattern : MethodName := ⟨RX12, "wrongPattern", "(I)I"⟩
abbrev cX12_wrongFlag : ByteArray := prog_14_method_23_code
def yX12_wrongFlag : MethodName := ⟨RX12, "wrongFlag", "(I)I"⟩
abbrev cX12_wrongDigit : ByteArray := prog_14_method_24_code
def yX12_wrongDigit : MethodName := ⟨RX12, "wrongDigit", "(III)I"⟩
abbrev cX12_wrongLine : ByteArray := prog_14_method_25_code
def yX12_wrongLine : MethodName := ⟨RX12, "wrongLine", "(I)I"⟩
abbrev cX12_script : ByteArray := prog_14_method_26_code
def yX12_script : MethodName := ⟨RX12, "script", "()I"⟩
abbrev cX12_signOf : ByteArray := prog_14_method_27_code
def yX12_signOf : MethodName := ⟨RX12, "signOf", "(II)I"⟩
abbrev cX12_signsOf : ByteArray := prog_14_method_28_code
def yX12_signsOf : MethodName := ⟨RX12, "signsOf", "(I)I"⟩
abbrev cX12_matches : ByteArray := prog_14_method_29_code
def yX12_matches : MethodName := ⟨RX12, "matches", "(III)Z"⟩
abbrev cX12_comesOut : ByteArray := prog_14_method_30_code
def yX12_comesOut : MethodName := ⟨RX12, "comesOut", "(II)Z"⟩
abbrev cX12_saysAll : ByteArray := prog_14_method_31_code
def yX12_saysAll : MethodName := ⟨RX12, "saysAll", "(II)Z"⟩
abbrev cX12_run : ByteArray := prog_14_method_32_code
def yX12_run : MethodName := ⟨RX12, "run", "(I)I"⟩
abbrev cX12_failed : ByteArray := prog_14_method_33_code
def yX12_failed : MethodName := ⟨RX12, "failed", "(II)I"⟩
abbrev cX12_endOf : ByteArray := prog_14_method_34_code
def yX12_endOf : MethodName := ⟨RX12, "endOf", "(I)I"⟩
abbrev cX12_wrongTranscript : ByteArray := prog_14_method_35_code
def yX12_wrongTranscript : MethodName := ⟨RX12, "wrongTranscript", "()I"⟩
abbrev cX12_isLine : ByteArray := prog_14_method_36_code
def yX12_isLine : MethodName := ⟨RX12, "isLine", "(IIIZ)Z"⟩
abbrev cX12_replay : ByteArray := prog_14_method_37_code
def yX12_replay : MethodName := ⟨RX12, "replay", "()I"⟩
abbrev cX12_breaks : ByteArray := prog_14_method_38_code
def yX12_breaks : MethodName := ⟨RX12, "breaks", "(I)I"⟩
abbrev cX12_storm : ByteArray := prog_14_method_39_code
def yX12_storm : MethodName := ⟨RX12, "storm", "(II)I"⟩
abbrev cX12_play : ByteArray := prog_14_method_40_code
def yX12_play : MethodName := ⟨RX12, "play", "()I"⟩
abbrev cX12_played : ByteArray := prog_14_method_41_code
def yX12_played : MethodName := ⟨RX12, "played", "(I)I"⟩
abbrev cX12_canGo : ByteArray := prog_14_method_42_code
def yX12_canGo : MethodName := ⟨RX12, "canGo", "(I)Z"⟩
abbrev cX12_shrink : ByteArray := prog_14_method_43_code
def yX12_shrink : MethodName := ⟨RX12, "shrink", "()I"⟩
abbrev cX12_state : ByteArray := prog_14_method_44_code
def yX12_state : MethodName := ⟨RX12, "state", "(I)I"⟩
abbrev cX12_done : ByteArray := prog_14_method_45_code
def yX12_done : MethodName := ⟨RX12, "done", "(I)I"⟩
abbrev cX12_shown : ByteArray := prog_14_method_46_code
def yX12_shown : MethodName := ⟨RX12, "shown", "(I)I"⟩
abbrev cX12_never : ByteArray := prog_14_method_47_code
def yX12_never : MethodName := ⟨RX12, "never", "(I)I"⟩
abbrev cX12_share : ByteArray := prog_14_method_48_code
def yX12_share : MethodName := ⟨RX12, "share", "()I"⟩
abbrev cX12_told : ByteArray := prog_14_method_49_code
def yX12_told : MethodName := ⟨RX12, "told", "(I)I"⟩
def RJ9 : String := "java/lang/Math"
def TJ9 : u_T := fun k => match k with
  | _ => ("", "", "", false)
def tyJ9 : Nat → FieldType := fun k => match k with
  | _ => .int
theorem nmJ9 : ∀ a, a < 0 → ∀ b, b < 0 → a ≠ b → (TJ9 a).2.1 ≠ (TJ9 b).2.1 := by decide +kernel
theorem tyJ9_ok : ∀ k, k < 0 → parseFieldDescriptor (TJ9 k).2.2.1 = some (tyJ9 k) := by decide +kernel
abbrev cJ9_max_7cf53 : ByteArray := prog_17_method_65_code
def yJ9_max_7cf53 : MethodName := ⟨RJ9, "max", "(II)I"⟩
abbrev cJ9_min_7cf53 : ByteArray := prog_17_method_69_code
def yJ9_min_7cf53 : MethodName := ⟨RJ9, "min", "(II)I"⟩
def RJ0 : String := "java/lang/String"
def TJ0 : u_T := fun k => match k with
  | _ => ("", "", "", false)
def tyJ0 : Nat → FieldType := fun k => match k with
  | _ => .int
theorem nmJ0 : ∀ a, a < 0 → ∀ b, b < 0 → a ≠ b → (TJ0 a).2.1 ≠ (TJ0 b).2.1 := by decide +kernel
theorem tyJ0_ok : ∀ k, k < 0 → parseFieldDescriptor (TJ0 k).2.2.1 = some (tyJ0 k) := by decide +kernel
def RL : String := "ScriptTestsLaw"
abbrev cL_cell : ByteArray := method_2_code
def yL_cell : MethodName := ⟨RL, "cell", "([II)I"⟩
abbrev cL_share : ByteArray := method_3_code
def yL_share : MethodName := ⟨RL, "share", "(LScriptTests;[J)I"⟩
abbrev cL_law : ByteArray := code
def yL_law : MethodName := ⟨RL, "law", "([I)Z"⟩
abbrev vwCl : List vw_C := [(RX0, TX0, 2), (RX1, TX1, 4), (RX3, TX3, 3), (RX4, TX4, 5), (RX6, TX6, 9), (RX7, TX7, 8), (RX8, TX8, 6), (RX9, TX9, 6), (RX10, TX10, 6), (RX11, TX11, 7), (RX12, TX12, 40)]
end
section
theorem dX0_init_0 : decode cX0_init 0 = .ok (.aload_n 0, 1) := by decide +kernel
theorem dX0_init_1 : decode cX0_init 1 = .ok (.invokespecial 3, 3) := by decide +kernel
theorem dX0_init_4 : decode cX0_init 4 = .ok (.aload_n 0, 1) := by decide +kernel
theorem dX0_init_5 : decode cX0_init 5 = .ok (.iload_n 1, 1) := by decide +kernel
theorem dX0_init_6 : decode cX0_init 6 = .ok (.ifCond .ge 7, 3) := by decide +kernel
theorem dX0_init_9 : decode cX0_init 9 = .ok (.iconst 0, 1) := by decide +kernel
theorem dX0_init_10 : decode cX0_init 10 = .ok (.goto 4, 3) := by decide +kernel
theorem dX0_init_13 : decode cX0_init 13 = .ok (.iload_n 1, 1) := by decide +kernel
theorem dX0_init_14 : decode cX0_init 14 = .ok (.newarray .byte, 2) := by decide +kernel
theorem dX0_init_16 : decode cX0_init 16 = .ok (.putfield 9, 3) := by decide +kernel
theorem dX0_init_19 : decode cX0_init 19 = .ok (.return_, 1) := by decide +kernel
theorem dX0_at_0 : decode cX0_at 0 = .ok (.iload_n 1, 1) := by decide +kernel
theorem dX0_at_1 : decode cX0_at 1 = .ok (.ifCond .lt 20, 3) := by decide +kernel
theorem dX0_at_4 : decode cX0_at 4 = .ok (.iload_n 1, 1) := by decide +kernel
theorem dX0_at_5 : decode cX0_at 5 = .ok (.aload_n 0, 1) := by decide +kernel
theorem dX0_at_6 : decode cX0_at 6 = .ok (.getfield 15, 3) := by decide +kernel
theorem dX0_at_9 : decode cX0_at 9 = .ok (.if_icmp .ge 12, 3) := by decide +kernel
theorem dX0_at_12 : decode cX0_at 12 = .ok (.iload_n 1, 1) := by decide +kernel
theorem dX0_at_13 : decode cX0_at 13 = .ok (.aload_n 0, 1) := by decide +kernel
theorem dX0_at_14 : decode cX0_at 14 = .ok (.getfield 9, 3) := by decide +kernel
theorem dX0_at_17 : decode cX0_at 17 = .ok (.arraylength, 1) := by decide +kernel
theorem dX0_at_18 : decode cX0_at 18 = .ok (.if_icmp .lt 7, 3) := by decide +kernel
theorem dX0_at_21 : decode cX0_at 21 = .ok (.iconst (-1), 1) := by decide +kernel
theorem dX0_at_22 : decode cX0_at 22 = .ok (.goto 13, 3) := by decide +kernel
theorem dX0_at_25 : decode cX0_at 25 = .ok (.aload_n 0, 1) := by decide +kernel
theorem dX0_at_26 : decode cX0_at 26 = .ok (.getfield 9, 3) := by decide +kernel
theorem dX0_at_29 : decode cX0_at 29 = .ok (.iload_n 1, 1) := by decide +kernel
theorem dX0_at_30 : decode cX0_at 30 = .ok (.baload, 1) := by decide +kernel
theorem dX0_at_31 : decode cX0_at 31 = .ok (.sipush 255, 3) := by decide +kernel
theorem dX0_at_34 : decode cX0_at 34 = .ok (.iand, 1) := by decide +kernel
theorem dX0_at_35 : decode cX0_at 35 = .ok (.ireturn, 1) := by decide +kernel
theorem dX0_append_0 : decode cX0_append 0 = .ok (.aload_n 0, 1) := by decide +kernel
theorem dX0_append_1 : decode cX0_append 1 = .ok (.getfield 15, 3) := by decide +kernel
theorem dX0_append_4 : decode cX0_append 4 = .ok (.ifCond .lt 15, 3) := by decide +kernel
theorem dX0_append_7 : decode cX0_append 7 = .ok (.aload_n 0, 1) := by decide +kernel
theorem dX0_append_8 : decode cX0_append 8 = .ok (.getfield 15, 3) := by decide +kernel
theorem dX0_append_11 : decode cX0_append 11 = .ok (.aload_n 0, 1) := by decide +kernel
theorem dX0_append_12 : decode cX0_append 12 = .ok (.getfield 9, 3) := by decide +kernel
theorem dX0_append_15 : decode cX0_append 15 = .ok (.arraylength, 1) := by decide +kernel
theorem dX0_append_16 : decode cX0_append 16 = .ok (.if_icmp .lt 4, 3) := by decide +kernel
theorem dX0_append_19 : decode cX0_append 19 = .ok (.return_, 1) := by decide +kernel
theorem dX0_append_20 : decode cX0_append 20 = .ok (.aload_n 0, 1) := by decide +kernel
theorem dX0_append_21 : decode cX0_append 21 = .ok (.getfield 9, 3) := by decide +kernel
theorem dX0_append_24 : decode cX0_append 24 = .ok (.aload_n 0, 1) := by decide +kernel
theorem dX0_append_25 : decode cX0_append 25 = .ok (.getfield 15, 3) := by decide +kernel
theorem dX0_append_28 : decode cX0_append 28 = .ok (.iload_n 1, 1) := by decide +kernel
theorem dX0_append_29 : decode cX0_append 29 = .ok (.i2b, 1) := by decide +kernel
theorem dX0_append_30 : decode cX0_append 30 = .ok (.bastore, 1) := by decide +kernel
theorem dX0_append_31 : decode cX0_append 31 = .ok (.aload_n 0, 1) := by decide +kernel
theorem dX0_append_32 : decode cX0_append 32 = .ok (.dup, 1) := by decide +kernel
theorem dX0_append_33 : decode cX0_append 33 = .ok (.getfield 15, 3) := by decide +kernel
theorem dX0_append_36 : decode cX0_append 36 = .ok (.iconst 1, 1) := by decide +kernel
theorem dX0_append_37 : decode cX0_append 37 = .ok (.iadd, 1) := by decide +kernel
theorem dX0_append_38 : decode cX0_append 38 = .ok (.putfield 15, 3) := by decide +kernel
theorem dX0_append_41 : decode cX0_append 41 = .ok (.return_, 1) := by decide +kernel
theorem dX0_clear_0 : decode cX0_clear 0 = .ok (.aload_n 0, 1) := by decide +kernel
theorem dX0_clear_1 : decode cX0_clear 1 = .ok (.iconst 0, 1) := by decide +kernel
theorem dX0_clear_2 : decode cX0_clear 2 = .ok (.putfield 15, 3) := by decide +kernel
theorem dX0_clear_5 : decode cX0_clear 5 = .ok (.return_, 1) := by decide +kernel
theorem dX0_copy_0 : decode cX0_copy 0 = .ok (.new 10, 3) := by decide +kernel
theorem dX0_copy_3 : decode cX0_copy 3 = .ok (.dup, 1) := by decide +kernel
theorem dX0_copy_4 : decode cX0_copy 4 = .ok (.aload_n 0, 1) := by decide +kernel
theorem dX0_copy_5 : decode cX0_copy 5 = .ok (.getfield 15, 3) := by decide +kernel
theorem dX0_copy_8 : decode cX0_copy 8 = .ok (.invokespecial 19, 3) := by decide +kernel
theorem dX0_copy_11 : decode cX0_copy 11 = .ok (.astore_n 1, 1) := by decide +kernel
theorem dX0_copy_12 : decode cX0_copy 12 = .ok (.iconst 0, 1) := by decide +kernel
theorem dX0_copy_13 : decode cX0_copy 13 = .ok (.istore_n 2, 1) := by decide +kernel
theorem dX0_copy_14 : decode cX0_copy 14 = .ok (.iload_n 2, 1) := by decide +kernel
theorem dX0_copy_15 : decode cX0_copy 15 = .ok (.aload_n 0, 1) := by decide +kernel
theorem dX0_copy_16 : decode cX0_copy 16 = .ok (.getfield 15, 3) := by decide +kernel
theorem dX0_copy_19 : decode cX0_copy 19 = .ok (.if_icmp .ge 18, 3) := by decide +kernel
theorem dX0_copy_22 : decode cX0_copy 22 = .ok (.aload_n 1, 1) := by decide +kernel
theorem dX0_copy_23 : decode cX0_copy 23 = .ok (.aload_n 0, 1) := by decide +kernel
theorem dX0_copy_24 : decode cX0_copy 24 = .ok (.iload_n 2, 1) := by decide +kernel
theorem dX0_copy_25 : decode cX0_copy 25 = .ok (.invokevirtual 22, 3) := by decide +kernel
theorem dX0_copy_28 : decode cX0_copy 28 = .ok (.invokevirtual 26, 3) := by decide +kernel
theorem dX0_copy_31 : decode cX0_copy 31 = .ok (.iinc 2 1, 3) := by decide +kernel
theorem dX0_copy_34 : decode cX0_copy 34 = .ok (.goto (-20), 3) := by decide +kernel
theorem dX0_copy_37 : decode cX0_copy 37 = .ok (.aload_n 1, 1) := by decide +kernel
theorem dX0_copy_38 : decode cX0_copy 38 = .ok (.areturn, 1) := by decide +kernel
theorem dX1_init_0 : decode cX1_init 0 = .ok (.aload_n 0, 1) := by decide +kernel
theorem dX1_init_1 : decode cX1_init 1 = .ok (.invokespecial 3, 3) := by decide +kernel
theorem dX1_init_4 : decode cX1_init 4 = .ok (.iload_n 1, 1) := by decide +kernel
theorem dX1_init_5 : decode cX1_init 5 = .ok (.ifCond .ge 7, 3) := by decide +kernel
theorem dX1_init_8 : decode cX1_init 8 = .ok (.iconst 0, 1) := by decide +kernel
theorem dX1_init_9 : decode cX1_init 9 = .ok (.goto 4, 3) := by decide +kernel
theorem dX1_init_12 : decode cX1_init 12 = .ok (.iload_n 1, 1) := by decide +kernel
theorem dX1_init_13 : decode cX1_init 13 = .ok (.istore_n 3, 1) := by decide +kernel
theorem dX1_init_14 : decode cX1_init 14 = .ok (.aload_n 0, 1) := by decide +kernel
theorem dX1_init_15 : decode cX1_init 15 = .ok (.iload_n 2, 1) := by decide +kernel
theorem dX1_init_16 : decode cX1_init 16 = .ok (.ifCond .ge 7, 3) := by decide +kernel
theorem dX1_init_19 : decode cX1_init 19 = .ok (.iconst 0, 1) := by decide +kernel
theorem dX1_init_20 : decode cX1_init 20 = .ok (.goto 4, 3) := by decide +kernel
theorem dX1_init_23 : decode cX1_init 23 = .ok (.iload_n 2, 1) := by decide +kernel
theorem dX1_init_24 : decode cX1_init 24 = .ok (.putfield 9, 3) := by decide +kernel
theorem dX1_init_27 : decode cX1_init 27 = .ok (.aload_n 0, 1) := by decide +kernel
theorem dX1_init_28 : decode cX1_init 28 = .ok (.iload_n 3, 1) := by decide +kernel
theorem dX1_init_29 : decode cX1_init 29 = .ok (.aload_n 0, 1) := by decide +kernel
theorem dX1_init_30 : decode cX1_init 30 = .ok (.getfield 9, 3) := by decide +kernel
theorem dX1_init_33 : decode cX1_init 33 = .ok (.imul, 1) := by decide +kernel
theorem dX1_init_34 : decode cX1_init 34 = .ok (.newarray .byte, 2) := by decide +kernel
theorem dX1_init_36 : decode cX1_init 36 = .ok (.putfield 15, 3) := by decide +kernel
theorem dX1_init_39 : decode cX1_init 39 = .ok (.aload_n 0, 1) := by decide +kernel
theorem dX1_init_40 : decode cX1_init 40 = .ok (.iload_n 3, 1) := by decide +kernel
theorem dX1_init_41 : decode cX1_init 41 = .ok (.newarray .int, 2) := by decide +kernel
theorem dX1_init_43 : decode cX1_init 43 = .ok (.putfield 19, 3) := by decide +kernel
theorem dX1_init_46 : decode cX1_init 46 = .ok (.return_, 1) := by decide +kernel
theorem dX1_has_0 : decode cX1_has 0 = .ok (.iload_n 1, 1) := by decide +kernel
theorem dX1_has_1 : decode cX1_has 1 = .ok (.ifCond .lt 24, 3) := by decide +kernel
theorem dX1_has_4 : decode cX1_has 4 = .ok (.iload_n 1, 1) := by decide +kernel
theorem dX1_has_5 : decode cX1_has 5 = .ok (.aload_n 0, 1) := by decide +kernel
theorem dX1_has_6 : decode cX1_has 6 = .ok (.getfield 23, 3) := by decide +kernel
theorem dX1_has_9 : decode cX1_has 9 = .ok (.if_icmp .ge 16, 3) := by decide +kernel
theorem dX1_has_12 : decode cX1_has 12 = .ok (.iload_n 1, 1) := by decide +kernel
theorem dX1_has_13 : decode cX1_has 13 = .ok (.aload_n 0, 1) := by decide +kernel
theorem dX1_has_14 : decode cX1_has 14 = .ok (.getfield 19, 3) := by decide +kernel
theorem dX1_has_17 : decode cX1_has 17 = .ok (.arraylength, 1) := by decide +kernel
theorem dX1_has_18 : decode cX1_has 18 = .ok (.if_icmp .ge 7, 3) := by decide +kernel
theorem dX1_has_21 : decode cX1_has 21 = .ok (.iconst 1, 1) := by decide +kernel
theorem dX1_has_22 : decode cX1_has 22 = .ok (.goto 4, 3) := by decide +kernel
theorem dX1_has_25 : decode cX1_has 25 = .ok (.iconst 0, 1) := by decide +kernel
theorem dX1_has_26 : decode cX1_has 26 = .ok (.ireturn, 1) := by decide +kernel
theorem dX1_lengthOf_0 : decode cX1_lengthOf 0 = .ok (.iload_n 1, 1) := by decide +kernel
theorem dX1_lengthOf_1 : decode cX1_lengthOf 1 = .ok (.ifCond .lt 29, 3) := by decide +kernel
theorem dX1_lengthOf_4 : decode cX1_lengthOf 4 = .ok (.iload_n 1, 1) := by decide +kernel
theorem dX1_lengthOf_5 : decode cX1_lengthOf 5 = .ok (.aload_n 0, 1) := by decide +kernel
theorem dX1_lengthOf_6 : decode cX1_lengthOf 6 = .ok (.getfield 23, 3) := by decide +kernel
theorem dX1_lengthOf_9 : decode cX1_lengthOf 9 = .ok (.if_icmp .ge 21, 3) := by decide +kernel
theorem dX1_lengthOf_12 : decode cX1_lengthOf 12 = .ok (.iload_n 1, 1) := by decide +kernel
theorem dX1_lengthOf_13 : decode cX1_lengthOf 13 = .ok (.aload_n 0, 1) := by decide +kernel
theorem dX1_lengthOf_14 : decode cX1_lengthOf 14 = .ok (.getfield 19, 3) := by decide +kernel
theorem dX1_lengthOf_17 : decode cX1_lengthOf 17 = .ok (.arraylength, 1) := by decide +kernel
theorem dX1_lengthOf_18 : decode cX1_lengthOf 18 = .ok (.if_icmp .ge 12, 3) := by decide +kernel
theorem dX1_lengthOf_21 : decode cX1_lengthOf 21 = .ok (.aload_n 0, 1) := by decide +kernel
theorem dX1_lengthOf_22 : decode cX1_lengthOf 22 = .ok (.getfield 19, 3) := by decide +kernel
theorem dX1_lengthOf_25 : decode cX1_lengthOf 25 = .ok (.iload_n 1, 1) := by decide +kernel
theorem dX1_lengthOf_26 : decode cX1_lengthOf 26 = .ok (.iaload, 1) := by decide +kernel
theorem dX1_lengthOf_27 : decode cX1_lengthOf 27 = .ok (.goto 4, 3) := by decide +kernel
theorem dX1_lengthOf_30 : decode cX1_lengthOf 30 = .ok (.iconst 0, 1) := by decide +kernel
theorem dX1_lengthOf_31 : decode cX1_lengthOf 31 = .ok (.ireturn, 1) := by decide +kernel
theorem dX1_signOf_0 : decode cX1_signOf 0 = .ok (.iload_n 2, 1) := by decide +kernel
theorem dX1_signOf_1 : decode cX1_signOf 1 = .ok (.ifCond .lt 12, 3) := by decide +kernel
theorem dX1_signOf_4 : decode cX1_signOf 4 = .ok (.iload_n 2, 1) := by decide +kernel
theorem dX1_signOf_5 : decode cX1_signOf 5 = .ok (.aload_n 0, 1) := by decide +kernel
theorem dX1_signOf_6 : decode cX1_signOf 6 = .ok (.iload_n 1, 1) := by decide +kernel
theorem dX1_signOf_7 : decode cX1_signOf 7 = .ok (.invokevirtual 26, 3) := by decide +kernel
theorem dX1_signOf_10 : decode cX1_signOf 10 = .ok (.if_icmp .lt 5, 3) := by decide +kernel
theorem dX1_signOf_13 : decode cX1_signOf 13 = .ok (.iconst (-1), 1) := by decide +kernel
theorem dX1_signOf_14 : decode cX1_signOf 14 = .ok (.ireturn, 1) := by decide +kernel
theorem dX1_signOf_15 : decode cX1_signOf 15 = .ok (.iload_n 1, 1) := by decide +kernel
theorem dX1_signOf_16 : decode cX1_signOf 16 = .ok (.aload_n 0, 1) := by decide +kernel
theorem dX1_signOf_17 : decode cX1_signOf 17 = .ok (.getfield 9, 3) := by decide +kernel
theorem dX1_signOf_20 : decode cX1_signOf 20 = .ok (.imul, 1) := by decide +kernel
theorem dX1_signOf_21 : decode cX1_signOf 21 = .ok (.iload_n 2, 1) := by decide +kernel
theorem dX1_signOf_22 : decode cX1_signOf 22 = .ok (.iadd, 1) := by decide +kernel
theorem dX1_signOf_23 : decode cX1_signOf 23 = .ok (.istore_n 3, 1) := by decide +kernel
theorem dX1_signOf_24 : decode cX1_signOf 24 = .ok (.iload_n 3, 1) := by decide +kernel
theorem dX1_signOf_25 : decode cX1_signOf 25 = .ok (.ifCond .lt 12, 3) := by decide +kernel
theorem dX1_signOf_28 : decode cX1_signOf 28 = .ok (.iload_n 3, 1) := by decide +kernel
theorem dX1_signOf_29 : decode cX1_signOf 29 = .ok (.aload_n 0, 1) := by decide +kernel
theorem dX1_signOf_30 : decode cX1_signOf 30 = .ok (.getfield 15, 3) := by decide +kernel
theorem dX1_signOf_33 : decode cX1_signOf 33 = .ok (.arraylength, 1) := by decide +kernel
theorem dX1_signOf_34 : decode cX1_signOf 34 = .ok (.if_icmp .lt 7, 3) := by decide +kernel
theorem dX1_signOf_37 : decode cX1_signOf 37 = .ok (.iconst (-1), 1) := by decide +kernel
theorem dX1_signOf_38 : decode cX1_signOf 38 = .ok (.goto 9, 3) := by decide +kernel
theorem dX1_signOf_41 : decode cX1_signOf 41 = .ok (.aload_n 0, 1) := by decide +kernel
theorem dX1_signOf_42 : decode cX1_signOf 42 = .ok (.getfield 15, 3) := by decide +kernel
theorem dX1_signOf_45 : decode cX1_signOf 45 = .ok (.iload_n 3, 1) := by decide +kernel
theorem dX1_signOf_46 : decode cX1_signOf 46 = .ok (.baload, 1) := by decide +kernel
theorem dX1_signOf_47 : decode cX1_signOf 47 = .ok (.ireturn, 1) := by decide +kernel
theorem dX1_find_0 : decode cX1_find 0 = .ok (.iconst 0, 1) := by decide +kernel
theorem dX1_find_1 : decode cX1_find 1 = .ok (.istore 4, 2) := by decide +kernel
theorem dX1_find_3 : decode cX1_find 3 = .ok (.iload 4, 2) := by decide +kernel
theorem dX1_find_5 : decode cX1_find 5 = .ok (.aload_n 0, 1) := by decide +kernel
theorem dX1_find_6 : decode cX1_find 6 = .ok (.getfield 23, 3) := by decide +kernel
theorem dX1_find_9 : decode cX1_find 9 = .ok (.if_icmp .ge 24, 3) := by decide +kernel
theorem dX1_find_12 : decode cX1_find 12 = .ok (.aload_n 0, 1) := by decide +kernel
theorem dX1_find_13 : decode cX1_find 13 = .ok (.iload 4, 2) := by decide +kernel
theorem dX1_find_15 : decode cX1_find 15 = .ok (.aload_n 1, 1) := by decide +kernel
theorem dX1_find_16 : decode cX1_find 16 = .ok (.iload_n 2, 1) := by decide +kernel
theorem dX1_find_17 : decode cX1_find 17 = .ok (.iload_n 3, 1) := by decide +kernel
theorem dX1_find_18 : decode cX1_find 18 = .ok (.invokevirtual 30, 3) := by decide +kernel
theorem dX1_find_21 : decode cX1_find 21 = .ok (.ifCond .eq 6, 3) := by decide +kernel
theorem dX1_find_24 : decode cX1_find 24 = .ok (.iload 4, 2) := by decide +kernel
theorem dX1_find_26 : decode cX1_find 26 = .ok (.ireturn, 1) := by decide +kernel
theorem dX1_find_27 : decode cX1_find 27 = .ok (.iinc 4 1, 3) := by decide +kernel
theorem dX1_find_30 : decode cX1_find 30 = .ok (.goto (-27), 3) := by decide +kernel
theorem dX1_find_33 : decode cX1_find 33 = .ok (.iconst (-1), 1) := by decide +kernel
theorem dX1_find_34 : decode cX1_find 34 = .ok (.ireturn, 1) := by decide +kernel
theorem dX1_stands_0 : decode cX1_stands 0 = .ok (.aload_n 0, 1) := by decide +kernel
theorem dX1_stands_1 : decode cX1_stands 1 = .ok (.iload_n 1, 1) := by decide +kernel
theorem dX1_stands_2 : decode cX1_stands 2 = .ok (.invokevirtual 26, 3) := by decide +kernel
theorem dX1_stands_5 : decode cX1_stands 5 = .ok (.iload 4, 2) := by decide +kernel
theorem dX1_stands_7 : decode cX1_stands 7 = .ok (.iload_n 3, 1) := by decide +kernel
theorem dX1_stands_8 : decode cX1_stands 8 = .ok (.isub, 1) := by decide +kernel
theorem dX1_stands_9 : decode cX1_stands 9 = .ok (.if_icmp .eq 5, 3) := by decide +kernel
theorem dX1_stands_12 : decode cX1_stands 12 = .ok (.iconst 0, 1) := by decide +kernel
theorem dX1_stands_13 : decode cX1_stands 13 = .ok (.ireturn, 1) := by decide +kernel
theorem dX1_stands_14 : decode cX1_stands 14 = .ok (.iconst 0, 1) := by decide +kernel
theorem dX1_stands_15 : decode cX1_stands 15 = .ok (.istore 5, 2) := by decide +kernel
theorem dX1_stands_17 : decode cX1_stands 17 = .ok (.iload 5, 2) := by decide +kernel
theorem dX1_stands_19 : decode cX1_stands 19 = .ok (.iload 4, 2) := by decide +kernel
theorem dX1_stands_21 : decode cX1_stands 21 = .ok (.iload_n 3, 1) := by decide +kernel
theorem dX1_stands_22 : decode cX1_stands 22 = .ok (.isub, 1) := by decide +kernel
theorem dX1_stands_23 : decode cX1_stands 23 = .ok (.if_icmp .ge 29, 3) := by decide +kernel
theorem dX1_stands_26 : decode cX1_stands 26 = .ok (.aload_n 0, 1) := by decide +kernel
theorem dX1_stands_27 : decode cX1_stands 27 = .ok (.iload_n 1, 1) := by decide +kernel
theorem dX1_stands_28 : decode cX1_stands 28 = .ok (.iload 5, 2) := by decide +kernel
theorem dX1_stands_30 : decode cX1_stands 30 = .ok (.invokevirtual 34, 3) := by decide +kernel
theorem dX1_stands_33 : decode cX1_stands 33 = .ok (.aload_n 2, 1) := by decide +kernel
theorem dX1_stands_34 : decode cX1_stands 34 = .ok (.iload_n 3, 1) := by decide +kernel
theorem dX1_stands_35 : decode cX1_stands 35 = .ok (.iload 5, 2) := by decide +kernel
theorem dX1_stands_37 : decode cX1_stands 37 = .ok (.iadd, 1) := by decide +kernel
theorem dX1_stands_38 : decode cX1_stands 38 = .ok (.invokevirtual 38, 3) := by decide +kernel
theorem dX1_stands_41 : decode cX1_stands 41 = .ok (.if_icmp .eq 5, 3) := by decide +kernel
theorem dX1_stands_44 : decode cX1_stands 44 = .ok (.iconst 0, 1) := by decide +kernel
theorem dX1_stands_45 : decode cX1_stands 45 = .ok (.ireturn, 1) := by decide +kernel
theorem dX1_stands_46 : decode cX1_stands 46 = .ok (.iinc 5 1, 3) := by decide +kernel
theorem dX1_stands_49 : decode cX1_stands 49 = .ok (.goto (-32), 3) := by decide +kernel
theorem dX1_stands_52 : decode cX1_stands 52 = .ok (.iconst 1, 1) := by decide +kernel
theorem dX1_stands_53 : decode cX1_stands 53 = .ok (.ireturn, 1) := by decide +kernel
theorem dX1_append_0 : decode cX1_append 0 = .ok (.aload_n 0, 1) := by decide +kernel
theorem dX1_append_1 : decode cX1_append 1 = .ok (.getfield 23, 3) := by decide +kernel
theorem dX1_append_4 : decode cX1_append 4 = .ok (.ifCond .lt 26, 3) := by decide +kernel
theorem dX1_append_7 : decode cX1_append 7 = .ok (.aload_n 0, 1) := by decide +kernel
theorem dX1_append_8 : decode cX1_append 8 = .ok (.getfield 23, 3) := by decide +kernel
theorem dX1_append_11 : decode cX1_append 11 = .ok (.aload_n 0, 1) := by decide +kernel
theorem dX1_append_12 : decode cX1_append 12 = .ok (.getfield 19, 3) := by decide +kernel
theorem dX1_append_15 : decode cX1_append 15 = .ok (.arraylength, 1) := by decide +kernel
theorem dX1_append_16 : decode cX1_append 16 = .ok (.if_icmp .ge 14, 3) := by decide +kernel
theorem dX1_append_19 : decode cX1_append 19 = .ok (.aload_n 1, 1) := by decide +kernel
theorem dX1_append_20 : decode cX1_append 20 = .ok (.getfield 43, 3) := by decide +kernel
theorem dX1_append_23 : decode cX1_append 23 = .ok (.aload_n 0, 1) := by decide +kernel
theorem dX1_append_24 : decode cX1_append 24 = .ok (.getfield 9, 3) := by decide +kernel
theorem dX1_append_27 : decode cX1_append 27 = .ok (.if_icmp .le 6, 3) := by decide +kernel
theorem dX1_append_30 : decode cX1_append 30 = .ok (.bipush (-5), 2) := by decide +kernel
theorem dX1_append_32 : decode cX1_append 32 = .ok (.ireturn, 1) := by decide +kernel
theorem dX1_append_33 : decode cX1_append 33 = .ok (.aload_n 0, 1) := by decide +kernel
theorem dX1_append_34 : decode cX1_append 34 = .ok (.getfield 23, 3) := by decide +kernel
theorem dX1_append_37 : decode cX1_append 37 = .ok (.aload_n 0, 1) := by decide +kernel
theorem dX1_append_38 : decode cX1_append 38 = .ok (.getfield 9, 3) := by decide +kernel
theorem dX1_append_41 : decode cX1_append 41 = .ok (.imul, 1) := by decide +kernel
theorem dX1_append_42 : decode cX1_append 42 = .ok (.istore_n 2, 1) := by decide +kernel
theorem dX1_append_43 : decode cX1_append 43 = .ok (.iconst 0, 1) := by decide +kernel
theorem dX1_append_44 : decode cX1_append 44 = .ok (.istore_n 3, 1) := by decide +kernel
theorem dX1_append_45 : decode cX1_append 45 = .ok (.iload_n 3, 1) := by decide +kernel
theorem dX1_append_46 : decode cX1_append 46 = .ok (.aload_n 1, 1) := by decide +kernel
theorem dX1_append_47 : decode cX1_append 47 = .ok (.getfield 43, 3) := by decide +kernel
theorem dX1_append_50 : decode cX1_append 50 = .ok (.if_icmp .ge 42, 3) := by decide +kernel
theorem dX1_append_53 : decode cX1_append 53 = .ok (.iload_n 2, 1) := by decide +kernel
theorem dX1_append_54 : decode cX1_append 54 = .ok (.iload_n 3, 1) := by decide +kernel
theorem dX1_append_55 : decode cX1_append 55 = .ok (.iadd, 1) := by decide +kernel
theorem dX1_append_56 : decode cX1_append 56 = .ok (.istore 4, 2) := by decide +kernel
theorem dX1_append_58 : decode cX1_append 58 = .ok (.iload 4, 2) := by decide +kernel
theorem dX1_append_60 : decode cX1_append 60 = .ok (.ifCond .lt 26, 3) := by decide +kernel
theorem dX1_append_63 : decode cX1_append 63 = .ok (.iload 4, 2) := by decide +kernel
theorem dX1_append_65 : decode cX1_append 65 = .ok (.aload_n 0, 1) := by decide +kernel
theorem dX1_append_66 : decode cX1_append 66 = .ok (.getfield 15, 3) := by decide +kernel
theorem dX1_append_69 : decode cX1_append 69 = .ok (.arraylength, 1) := by decide +kernel
theorem dX1_append_70 : decode cX1_append 70 = .ok (.if_icmp .ge 16, 3) := by decide +kernel
theorem dX1_append_73 : decode cX1_append 73 = .ok (.aload_n 0, 1) := by decide +kernel
theorem dX1_append_74 : decode cX1_append 74 = .ok (.getfield 15, 3) := by decide +kernel
theorem dX1_append_77 : decode cX1_append 77 = .ok (.iload 4, 2) := by decide +kernel
theorem dX1_append_79 : decode cX1_append 79 = .ok (.aload_n 1, 1) := by decide +kernel
theorem dX1_append_80 : decode cX1_append 80 = .ok (.iload_n 3, 1) := by decide +kernel
theorem dX1_append_81 : decode cX1_append 81 = .ok (.invokevirtual 38, 3) := by decide +kernel
theorem dX1_append_84 : decode cX1_append 84 = .ok (.i2b, 1) := by decide +kernel
theorem dX1_append_85 : decode cX1_append 85 = .ok (.bastore, 1) := by decide +kernel
theorem dX1_append_86 : decode cX1_append 86 = .ok (.iinc 3 1, 3) := by decide +kernel
theorem dX1_append_89 : decode cX1_append 89 = .ok (.goto (-44), 3) := by decide +kernel
theorem dX1_append_92 : decode cX1_append 92 = .ok (.aload_n 0, 1) := by decide +kernel
theorem dX1_append_93 : decode cX1_append 93 = .ok (.getfield 19, 3) := by decide +kernel
theorem dX1_append_96 : decode cX1_append 96 = .ok (.aload_n 0, 1) := by decide +kernel
theorem dX1_append_97 : decode cX1_append 97 = .ok (.getfield 23, 3) := by decide +kernel
theorem dX1_append_100 : decode cX1_append 100 = .ok (.aload_n 1, 1) := by decide +kernel
theorem dX1_append_101 : decode cX1_append 101 = .ok (.getfield 43, 3) := by decide +kernel
theorem dX1_append_104 : decode cX1_append 104 = .ok (.iastore, 1) := by decide +kernel
theorem dX1_append_105 : decode cX1_append 105 = .ok (.aload_n 0, 1) := by decide +kernel
theorem dX1_append_106 : decode cX1_append 106 = .ok (.dup, 1) := by decide +kernel
theorem dX1_append_107 : decode cX1_append 107 = .ok (.getfield 23, 3) := by decide +kernel
theorem dX1_append_110 : decode cX1_append 110 = .ok (.iconst 1, 1) := by decide +kernel
theorem dX1_append_111 : decode cX1_append 111 = .ok (.iadd, 1) := by decide +kernel
theorem dX1_append_112 : decode cX1_append 112 = .ok (.putfield 23, 3) := by decide +kernel
theorem dX1_append_115 : decode cX1_append 115 = .ok (.aload_n 0, 1) := by decide +kernel
theorem dX1_append_116 : decode cX1_append 116 = .ok (.getfield 23, 3) := by decide +kernel
theorem dX1_append_119 : decode cX1_append 119 = .ok (.iconst 1, 1) := by decide +kernel
theorem dX1_append_120 : decode cX1_append 120 = .ok (.isub, 1) := by decide +kernel
theorem dX1_append_121 : decode cX1_append 121 = .ok (.ireturn, 1) := by decide +kernel
theorem dX2_isSign_0 : decode cX2_isSign 0 = .ok (.iload_n 0, 1) := by decide +kernel
theorem dX2_isSign_1 : decode cX2_isSign 1 = .ok (.bipush 32, 2) := by decide +kernel
theorem dX2_isSign_3 : decode cX2_isSign 3 = .ok (.if_icmp .lt 13, 3) := by decide +kernel
theorem dX2_isSign_6 : decode cX2_isSign 6 = .ok (.iload_n 0, 1) := by decide +kernel
theorem dX2_isSign_7 : decode cX2_isSign 7 = .ok (.bipush 126, 2) := by decide +kernel
theorem dX2_isSign_9 : decode cX2_isSign 9 = .ok (.if_icmp .gt 7, 3) := by decide +kernel
theorem dX2_isSign_12 : decode cX2_isSign 12 = .ok (.iconst 1, 1) := by decide +kernel
theorem dX2_isSign_13 : decode cX2_isSign 13 = .ok (.goto 4, 3) := by decide +kernel
theorem dX2_isSign_16 : decode cX2_isSign 16 = .ok (.iconst 0, 1) := by decide +kernel
theorem dX2_isSign_17 : decode cX2_isSign 17 = .ok (.ireturn, 1) := by decide +kernel
theorem dX2_endsLine_0 : decode cX2_endsLine 0 = .ok (.iload_n 0, 1) := by decide +kernel
theorem dX2_endsLine_1 : decode cX2_endsLine 1 = .ok (.bipush 10, 2) := by decide +kernel
theorem dX2_endsLine_3 : decode cX2_endsLine 3 = .ok (.if_icmp .eq 8, 3) := by decide +kernel
theorem dX2_endsLine_6 : decode cX2_endsLine 6 = .ok (.iload_n 0, 1) := by decide +kernel
theorem dX2_endsLine_7 : decode cX2_endsLine 7 = .ok (.iconst (-1), 1) := by decide +kernel
theorem dX2_endsLine_8 : decode cX2_endsLine 8 = .ok (.if_icmp .ne 7, 3) := by decide +kernel
theorem dX2_endsLine_11 : decode cX2_endsLine 11 = .ok (.iconst 1, 1) := by decide +kernel
theorem dX2_endsLine_12 : decode cX2_endsLine 12 = .ok (.goto 4, 3) := by decide +kernel
theorem dX2_endsLine_15 : decode cX2_endsLine 15 = .ok (.iconst 0, 1) := by decide +kernel
theorem dX2_endsLine_16 : decode cX2_endsLine 16 = .ok (.ireturn, 1) := by decide +kernel
theorem dX2_lineEnd_0 : decode cX2_lineEnd 0 = .ok (.iload_n 1, 1) := by decide +kernel
theorem dX2_lineEnd_1 : decode cX2_lineEnd 1 = .ok (.istore_n 2, 1) := by decide +kernel
theorem dX2_lineEnd_2 : decode cX2_lineEnd 2 = .ok (.iload_n 2, 1) := by decide +kernel
theorem dX2_lineEnd_3 : decode cX2_lineEnd 3 = .ok (.aload_n 0, 1) := by decide +kernel
theorem dX2_lineEnd_4 : decode cX2_lineEnd 4 = .ok (.getfield 9, 3) := by decide +kernel
theorem dX2_lineEnd_7 : decode cX2_lineEnd 7 = .ok (.if_icmp .ge 19, 3) := by decide +kernel
theorem dX2_lineEnd_10 : decode cX2_lineEnd 10 = .ok (.aload_n 0, 1) := by decide +kernel
theorem dX2_lineEnd_11 : decode cX2_lineEnd 11 = .ok (.iload_n 2, 1) := by decide +kernel
theorem dX2_lineEnd_12 : decode cX2_lineEnd 12 = .ok (.invokevirtual 15, 3) := by decide +kernel
theorem dX2_lineEnd_15 : decode cX2_lineEnd 15 = .ok (.bipush 10, 2) := by decide +kernel
theorem dX2_lineEnd_17 : decode cX2_lineEnd 17 = .ok (.if_icmp .eq 9, 3) := by decide +kernel
theorem dX2_lineEnd_20 : decode cX2_lineEnd 20 = .ok (.iinc 2 1, 3) := by decide +kernel
theorem dX2_lineEnd_23 : decode cX2_lineEnd 23 = .ok (.goto (-21), 3) := by decide +kernel
theorem dX2_lineEnd_26 : decode cX2_lineEnd 26 = .ok (.iload_n 2, 1) := by decide +kernel
theorem dX2_lineEnd_27 : decode cX2_lineEnd 27 = .ok (.ireturn, 1) := by decide +kernel
theorem dX2_signsEnd_0 : decode cX2_signsEnd 0 = .ok (.iload_n 1, 1) := by decide +kernel
theorem dX2_signsEnd_1 : decode cX2_signsEnd 1 = .ok (.istore_n 2, 1) := by decide +kernel
theorem dX2_signsEnd_2 : decode cX2_signsEnd 2 = .ok (.iload_n 2, 1) := by decide +kernel
theorem dX2_signsEnd_3 : decode cX2_signsEnd 3 = .ok (.aload_n 0, 1) := by decide +kernel
theorem dX2_signsEnd_4 : decode cX2_signsEnd 4 = .ok (.getfield 9, 3) := by decide +kernel
theorem dX2_signsEnd_7 : decode cX2_signsEnd 7 = .ok (.if_icmp .ge 20, 3) := by decide +kernel
theorem dX2_signsEnd_10 : decode cX2_signsEnd 10 = .ok (.aload_n 0, 1) := by decide +kernel
theorem dX2_signsEnd_11 : decode cX2_signsEnd 11 = .ok (.iload_n 2, 1) := by decide +kernel
theorem dX2_signsEnd_12 : decode cX2_signsEnd 12 = .ok (.invokevirtual 15, 3) := by decide +kernel
theorem dX2_signsEnd_15 : decode cX2_signsEnd 15 = .ok (.invokestatic 19, 3) := by decide +kernel
theorem dX2_signsEnd_18 : decode cX2_signsEnd 18 = .ok (.ifCond .eq 9, 3) := by decide +kernel
theorem dX2_signsEnd_21 : decode cX2_signsEnd 21 = .ok (.iinc 2 1, 3) := by decide +kernel
theorem dX2_signsEnd_24 : decode cX2_signsEnd 24 = .ok (.goto (-22), 3) := by decide +kernel
theorem dX2_signsEnd_27 : decode cX2_signsEnd 27 = .ok (.iload_n 2, 1) := by decide +kernel
theorem dX2_signsEnd_28 : decode cX2_signsEnd 28 = .ok (.ireturn, 1) := by decide +kernel
theorem dX2_lettersEnd_0 : decode cX2_lettersEnd 0 = .ok (.iconst 0, 1) := by decide +kernel
theorem dX2_lettersEnd_1 : decode cX2_lettersEnd 1 = .ok (.istore_n 2, 1) := by decide +kernel
theorem dX2_lettersEnd_2 : decode cX2_lettersEnd 2 = .ok (.iload_n 2, 1) := by decide +kernel
theorem dX2_lettersEnd_3 : decode cX2_lettersEnd 3 = .ok (.bipush 6, 2) := by decide +kernel
theorem dX2_lettersEnd_5 : decode cX2_lettersEnd 5 = .ok (.if_icmp .ge 22, 3) := by decide +kernel
theorem dX2_lettersEnd_8 : decode cX2_lettersEnd 8 = .ok (.aload_n 0, 1) := by decide +kernel
theorem dX2_lettersEnd_9 : decode cX2_lettersEnd 9 = .ok (.iload_n 1, 1) := by decide +kernel
theorem dX2_lettersEnd_10 : decode cX2_lettersEnd 10 = .ok (.iload_n 2, 1) := by decide +kernel
theorem dX2_lettersEnd_11 : decode cX2_lettersEnd 11 = .ok (.iadd, 1) := by decide +kernel
theorem dX2_lettersEnd_12 : decode cX2_lettersEnd 12 = .ok (.invokevirtual 15, 3) := by decide +kernel
theorem dX2_lettersEnd_15 : decode cX2_lettersEnd 15 = .ok (.invokestatic 25, 3) := by decide +kernel
theorem dX2_lettersEnd_18 : decode cX2_lettersEnd 18 = .ok (.ifCond .eq 9, 3) := by decide +kernel
theorem dX2_lettersEnd_21 : decode cX2_lettersEnd 21 = .ok (.iinc 2 1, 3) := by decide +kernel
theorem dX2_lettersEnd_24 : decode cX2_lettersEnd 24 = .ok (.goto (-22), 3) := by decide +kernel
theorem dX2_lettersEnd_27 : decode cX2_lettersEnd 27 = .ok (.iload_n 2, 1) := by decide +kernel
theorem dX2_lettersEnd_28 : decode cX2_lettersEnd 28 = .ok (.ifCond .ne 9, 3) := by decide +kernel
theorem dX2_lettersEnd_31 : decode cX2_lettersEnd 31 = .ok (.iload_n 1, 1) := by decide +kernel
theorem dX2_lettersEnd_32 : decode cX2_lettersEnd 32 = .ok (.iconst (-1), 1) := by decide +kernel
theorem dX2_lettersEnd_33 : decode cX2_lettersEnd 33 = .ok (.ixor, 1) := by decide +kernel
theorem dX2_lettersEnd_34 : decode cX2_lettersEnd 34 = .ok (.goto 6, 3) := by decide +kernel
theorem dX2_lettersEnd_37 : decode cX2_lettersEnd 37 = .ok (.iload_n 1, 1) := by decide +kernel
theorem dX2_lettersEnd_38 : decode cX2_lettersEnd 38 = .ok (.iload_n 2, 1) := by decide +kernel
theorem dX2_lettersEnd_39 : decode cX2_lettersEnd 39 = .ok (.iadd, 1) := by decide +kernel
theorem dX2_lettersEnd_40 : decode cX2_lettersEnd 40 = .ok (.ireturn, 1) := by decide +kernel
theorem dX2_isLetter_0 : decode cX2_isLetter 0 = .ok (.iload_n 0, 1) := by decide +kernel
theorem dX2_isLetter_1 : decode cX2_isLetter 1 = .ok (.bipush 97, 2) := by decide +kernel
theorem dX2_isLetter_3 : decode cX2_isLetter 3 = .ok (.if_icmp .lt 13, 3) := by decide +kernel
theorem dX2_isLetter_6 : decode cX2_isLetter 6 = .ok (.iload_n 0, 1) := by decide +kernel
theorem dX2_isLetter_7 : decode cX2_isLetter 7 = .ok (.bipush 122, 2) := by decide +kernel
theorem dX2_isLetter_9 : decode cX2_isLetter 9 = .ok (.if_icmp .gt 7, 3) := by decide +kernel
theorem dX2_isLetter_12 : decode cX2_isLetter 12 = .ok (.iconst 1, 1) := by decide +kernel
theorem dX2_isLetter_13 : decode cX2_isLetter 13 = .ok (.goto 4, 3) := by decide +kernel
theorem dX2_isLetter_16 : decode cX2_isLetter 16 = .ok (.iconst 0, 1) := by decide +kernel
theorem dX2_isLetter_17 : decode cX2_isLetter 17 = .ok (.ireturn, 1) := by decide +kernel
theorem dX2_wrongInScript_0 : decode cX2_wrongInScript 0 = .ok (.iconst 0, 1) := by decide +kernel
theorem dX2_wrongInScript_1 : decode cX2_wrongInScript 1 = .ok (.istore_n 1, 1) := by decide +kernel
theorem dX2_wrongInScript_2 : decode cX2_wrongInScript 2 = .ok (.iconst 1, 1) := by decide +kernel
theorem dX2_wrongInScript_3 : decode cX2_wrongInScript 3 = .ok (.istore_n 2, 1) := by decide +kernel
theorem dX2_wrongInScript_4 : decode cX2_wrongInScript 4 = .ok (.iload_n 2, 1) := by decide +kernel
theorem dX2_wrongInScript_5 : decode cX2_wrongInScript 5 = .ok (.sipush 600, 3) := by decide +kernel
theorem dX2_wrongInScript_8 : decode cX2_wrongInScript 8 = .ok (.if_icmp .gt 54, 3) := by decide +kernel
theorem dX2_wrongInScript_11 : decode cX2_wrongInScript 11 = .ok (.iload_n 1, 1) := by decide +kernel
theorem dX2_wrongInScript_12 : decode cX2_wrongInScript 12 = .ok (.aload_n 0, 1) := by decide +kernel
theorem dX2_wrongInScript_13 : decode cX2_wrongInScript 13 = .ok (.getfield 9, 3) := by decide +kernel
theorem dX2_wrongInScript_16 : decode cX2_wrongInScript 16 = .ok (.if_icmp .ge 46, 3) := by decide +kernel
theorem dX2_wrongInScript_19 : decode cX2_wrongInScript 19 = .ok (.aload_n 0, 1) := by decide +kernel
theorem dX2_wrongInScript_20 : decode cX2_wrongInScript 20 = .ok (.iload_n 1, 1) := by decide +kernel
theorem dX2_wrongInScript_21 : decode cX2_wrongInScript 21 = .ok (.invokevirtual 15, 3) := by decide +kernel
theorem dX2_wrongInScript_24 : decode cX2_wrongInScript 24 = .ok (.bipush 10, 2) := by decide +kernel
theorem dX2_wrongInScript_26 : decode cX2_wrongInScript 26 = .ok (.if_icmp .eq 27, 3) := by decide +kernel
theorem dX2_wrongInScript_29 : decode cX2_wrongInScript 29 = .ok (.iload_n 2, 1) := by decide +kernel
theorem dX2_wrongInScript_30 : decode cX2_wrongInScript 30 = .ok (.bipush 40, 2) := by decide +kernel
theorem dX2_wrongInScript_32 : decode cX2_wrongInScript 32 = .ok (.if_icmp .le 5, 3) := by decide +kernel
theorem dX2_wrongInScript_35 : decode cX2_wrongInScript 35 = .ok (.iload_n 1, 1) := by decide +kernel
theorem dX2_wrongInScript_36 : decode cX2_wrongInScript 36 = .ok (.ireturn, 1) := by decide +kernel
theorem dX2_wrongInScript_37 : decode cX2_wrongInScript 37 = .ok (.aload_n 0, 1) := by decide +kernel
theorem dX2_wrongInScript_38 : decode cX2_wrongInScript 38 = .ok (.iload_n 1, 1) := by decide +kernel
theorem dX2_wrongInScript_39 : decode cX2_wrongInScript 39 = .ok (.invokestatic 28, 3) := by decide +kernel
theorem dX2_wrongInScript_42 : decode cX2_wrongInScript 42 = .ok (.istore_n 3, 1) := by decide +kernel
theorem dX2_wrongInScript_43 : decode cX2_wrongInScript 43 = .ok (.iload_n 3, 1) := by decide +kernel
theorem dX2_wrongInScript_44 : decode cX2_wrongInScript 44 = .ok (.ifCond .ge 7, 3) := by decide +kernel
theorem dX2_wrongInScript_47 : decode cX2_wrongInScript 47 = .ok (.iload_n 3, 1) := by decide +kernel
theorem dX2_wrongInScript_48 : decode cX2_wrongInScript 48 = .ok (.iconst (-1), 1) := by decide +kernel
theorem dX2_wrongInScript_49 : decode cX2_wrongInScript 49 = .ok (.ixor, 1) := by decide +kernel
theorem dX2_wrongInScript_50 : decode cX2_wrongInScript 50 = .ok (.ireturn, 1) := by decide +kernel
theorem dX2_wrongInScript_51 : decode cX2_wrongInScript 51 = .ok (.iload_n 3, 1) := by decide +kernel
theorem dX2_wrongInScript_52 : decode cX2_wrongInScript 52 = .ok (.istore_n 1, 1) := by decide +kernel
theorem dX2_wrongInScript_53 : decode cX2_wrongInScript 53 = .ok (.iinc 1 1, 3) := by decide +kernel
theorem dX2_wrongInScript_56 : decode cX2_wrongInScript 56 = .ok (.iinc 2 1, 3) := by decide +kernel
theorem dX2_wrongInScript_59 : decode cX2_wrongInScript 59 = .ok (.goto (-55), 3) := by decide +kernel
theorem dX2_wrongInScript_62 : decode cX2_wrongInScript 62 = .ok (.iconst (-1), 1) := by decide +kernel
theorem dX2_wrongInScript_63 : decode cX2_wrongInScript 63 = .ok (.ireturn, 1) := by decide +kernel
theorem dX2_scriptLine_0 : decode cX2_scriptLine 0 = .ok (.aload_n 0, 1) := by decide +kernel
theorem dX2_scriptLine_1 : decode cX2_scriptLine 1 = .ok (.iload_n 1, 1) := by decide +kernel
theorem dX2_scriptLine_2 : decode cX2_scriptLine 2 = .ok (.invokevirtual 15, 3) := by decide +kernel
theorem dX2_scriptLine_5 : decode cX2_scriptLine 5 = .ok (.istore_n 2, 1) := by decide +kernel
theorem dX2_scriptLine_6 : decode cX2_scriptLine 6 = .ok (.iload_n 2, 1) := by decide +kernel
theorem dX2_scriptLine_7 : decode cX2_scriptLine 7 = .ok (.invokestatic 32, 3) := by decide +kernel
theorem dX2_scriptLine_10 : decode cX2_scriptLine 10 = .ok (.ifCond .ne 7, 3) := by decide +kernel
theorem dX2_scriptLine_13 : decode cX2_scriptLine 13 = .ok (.iload_n 1, 1) := by decide +kernel
theorem dX2_scriptLine_14 : decode cX2_scriptLine 14 = .ok (.iconst (-1), 1) := by decide +kernel
theorem dX2_scriptLine_15 : decode cX2_scriptLine 15 = .ok (.ixor, 1) := by decide +kernel
theorem dX2_scriptLine_16 : decode cX2_scriptLine 16 = .ok (.ireturn, 1) := by decide +kernel
theorem dX2_scriptLine_17 : decode cX2_scriptLine 17 = .ok (.aload_n 0, 1) := by decide +kernel
theorem dX2_scriptLine_18 : decode cX2_scriptLine 18 = .ok (.iload_n 1, 1) := by decide +kernel
theorem dX2_scriptLine_19 : decode cX2_scriptLine 19 = .ok (.iconst 1, 1) := by decide +kernel
theorem dX2_scriptLine_20 : decode cX2_scriptLine 20 = .ok (.iadd, 1) := by decide +kernel
theorem dX2_scriptLine_21 : decode cX2_scriptLine 21 = .ok (.invokevirtual 15, 3) := by decide +kernel
theorem dX2_scriptLine_24 : decode cX2_scriptLine 24 = .ok (.bipush 32, 2) := by decide +kernel
theorem dX2_scriptLine_26 : decode cX2_scriptLine 26 = .ok (.if_icmp .eq 9, 3) := by decide +kernel
theorem dX2_scriptLine_29 : decode cX2_scriptLine 29 = .ok (.iload_n 1, 1) := by decide +kernel
theorem dX2_scriptLine_30 : decode cX2_scriptLine 30 = .ok (.iconst 1, 1) := by decide +kernel
theorem dX2_scriptLine_31 : decode cX2_scriptLine 31 = .ok (.iadd, 1) := by decide +kernel
theorem dX2_scriptLine_32 : decode cX2_scriptLine 32 = .ok (.iconst (-1), 1) := by decide +kernel
theorem dX2_scriptLine_33 : decode cX2_scriptLine 33 = .ok (.ixor, 1) := by decide +kernel
theorem dX2_scriptLine_34 : decode cX2_scriptLine 34 = .ok (.ireturn, 1) := by decide +kernel
theorem dX2_scriptLine_35 : decode cX2_scriptLine 35 = .ok (.iload_n 1, 1) := by decide +kernel
theorem dX2_scriptLine_36 : decode cX2_scriptLine 36 = .ok (.iconst 2, 1) := by decide +kernel
theorem dX2_scriptLine_37 : decode cX2_scriptLine 37 = .ok (.iadd, 1) := by decide +kernel
theorem dX2_scriptLine_38 : decode cX2_scriptLine 38 = .ok (.istore_n 3, 1) := by decide +kernel
theorem dX2_scriptLine_39 : decode cX2_scriptLine 39 = .ok (.iload_n 2, 1) := by decide +kernel
theorem dX2_scriptLine_40 : decode cX2_scriptLine 40 = .ok (.lookupswitch 126 #[(33, 96), (61, 74), (62, 68), (63, 80), (64, 86), (98, 116), (115, 106)], 68) := by decide +kernel
theorem dX2_scriptLine_108 : decode cX2_scriptLine 108 = .ok (.aload_n 0, 1) := by decide +kernel
theorem dX2_scriptLine_109 : decode cX2_scriptLine 109 = .ok (.iload_n 3, 1) := by decide +kernel
theorem dX2_scriptLine_110 : decode cX2_scriptLine 110 = .ok (.invokestatic 35, 3) := by decide +kernel
theorem dX2_scriptLine_113 : decode cX2_scriptLine 113 = .ok (.ireturn, 1) := by decide +kernel
theorem dX2_scriptLine_114 : decode cX2_scriptLine 114 = .ok (.aload_n 0, 1) := by decide +kernel
theorem dX2_scriptLine_115 : decode cX2_scriptLine 115 = .ok (.iload_n 3, 1) := by decide +kernel
theorem dX2_scriptLine_116 : decode cX2_scriptLine 116 = .ok (.invokestatic 38, 3) := by decide +kernel
theorem dX2_scriptLine_119 : decode cX2_scriptLine 119 = .ok (.ireturn, 1) := by decide +kernel
theorem dX2_scriptLine_120 : decode cX2_scriptLine 120 = .ok (.aload_n 0, 1) := by decide +kernel
theorem dX2_scriptLine_121 : decode cX2_scriptLine 121 = .ok (.iload_n 3, 1) := by decide +kernel
theorem dX2_scriptLine_122 : decode cX2_scriptLine 122 = .ok (.invokestatic 41, 3) := by decide +kernel
theorem dX2_scriptLine_125 : decode cX2_scriptLine 125 = .ok (.ireturn, 1) := by decide +kernel
theorem dX2_scriptLine_126 : decode cX2_scriptLine 126 = .ok (.aload_n 0, 1) := by decide +kernel
theorem dX2_scriptLine_127 : decode cX2_scriptLine 127 = .ok (.iload_n 3, 1) := by decide +kernel
theorem dX2_scriptLine_128 : decode cX2_scriptLine 128 = .ok (.bipush 48, 2) := by decide +kernel
theorem dX2_scriptLine_130 : decode cX2_scriptLine 130 = .ok (.bipush 55, 2) := by decide +kernel
theorem dX2_scriptLine_132 : decode cX2_scriptLine 132 = .ok (.invokestatic 44, 3) := by decide +kernel
theorem dX2_scriptLine_135 : decode cX2_scriptLine 135 = .ok (.ireturn, 1) := by decide +kernel
theorem dX2_scriptLine_136 : decode cX2_scriptLine 136 = .ok (.aload_n 0, 1) := by decide +kernel
theorem dX2_scriptLine_137 : decode cX2_scriptLine 137 = .ok (.iload_n 3, 1) := by decide +kernel
theorem dX2_scriptLine_138 : decode cX2_scriptLine 138 = .ok (.bipush 49, 2) := by decide +kernel
theorem dX2_scriptLine_140 : decode cX2_scriptLine 140 = .ok (.bipush 57, 2) := by decide +kernel
theorem dX2_scriptLine_142 : decode cX2_scriptLine 142 = .ok (.invokestatic 44, 3) := by decide +kernel
theorem dX2_scriptLine_145 : decode cX2_scriptLine 145 = .ok (.ireturn, 1) := by decide +kernel
theorem dX2_scriptLine_146 : decode cX2_scriptLine 146 = .ok (.aload_n 0, 1) := by decide +kernel
theorem dX2_scriptLine_147 : decode cX2_scriptLine 147 = .ok (.iload_n 3, 1) := by decide +kernel
theorem dX2_scriptLine_148 : decode cX2_scriptLine 148 = .ok (.bipush 48, 2) := by decide +kernel
theorem dX2_scriptLine_150 : decode cX2_scriptLine 150 = .ok (.bipush 51, 2) := by decide +kernel
theorem dX2_scriptLine_152 : decode cX2_scriptLine 152 = .ok (.invokestatic 44, 3) := by decide +kernel
theorem dX2_scriptLine_155 : decode cX2_scriptLine 155 = .ok (.ireturn, 1) := by decide +kernel
theorem dX2_scriptLine_156 : decode cX2_scriptLine 156 = .ok (.aload_n 0, 1) := by decide +kernel
theorem dX2_scriptLine_157 : decode cX2_scriptLine 157 = .ok (.iload_n 3, 1) := by decide +kernel
theorem dX2_scriptLine_158 : decode cX2_scriptLine 158 = .ok (.bipush 48, 2) := by decide +kernel
theorem dX2_scriptLine_160 : decode cX2_scriptLine 160 = .ok (.bipush 51, 2) := by decide +kernel
theorem dX2_scriptLine_162 : decode cX2_scriptLine 162 = .ok (.invokestatic 44, 3) := by decide +kernel
theorem dX2_scriptLine_165 : decode cX2_scriptLine 165 = .ok (.ireturn, 1) := by decide +kernel
theorem dX2_scriptLine_166 : decode cX2_scriptLine 166 = .ok (.aload_n 0, 1) := by decide +kernel
theorem dX2_scriptLine_167 : decode cX2_scriptLine 167 = .ok (.iload_n 3, 1) := by decide +kernel
theorem dX2_scriptLine_168 : decode cX2_scriptLine 168 = .ok (.invokestatic 48, 3) := by decide +kernel
theorem dX2_scriptLine_171 : decode cX2_scriptLine 171 = .ok (.ireturn, 1) := by decide +kernel
theorem dX2_isKind_0 : decode cX2_isKind 0 = .ok (.iload_n 0, 1) := by decide +kernel
theorem dX2_isKind_1 : decode cX2_isKind 1 = .ok (.bipush 62, 2) := by decide +kernel
theorem dX2_isKind_3 : decode cX2_isKind 3 = .ok (.if_icmp .eq 45, 3) := by decide +kernel
theorem dX2_isKind_6 : decode cX2_isKind 6 = .ok (.iload_n 0, 1) := by decide +kernel
theorem dX2_isKind_7 : decode cX2_isKind 7 = .ok (.bipush 61, 2) := by decide +kernel
theorem dX2_isKind_9 : decode cX2_isKind 9 = .ok (.if_icmp .eq 39, 3) := by decide +kernel
theorem dX2_isKind_12 : decode cX2_isKind 12 = .ok (.iload_n 0, 1) := by decide +kernel
theorem dX2_isKind_13 : decode cX2_isKind 13 = .ok (.bipush 63, 2) := by decide +kernel
theorem dX2_isKind_15 : decode cX2_isKind 15 = .ok (.if_icmp .eq 33, 3) := by decide +kernel
theorem dX2_isKind_18 : decode cX2_isKind 18 = .ok (.iload_n 0, 1) := by decide +kernel
theorem dX2_isKind_19 : decode cX2_isKind 19 = .ok (.bipush 64, 2) := by decide +kernel
theorem dX2_isKind_21 : decode cX2_isKind 21 = .ok (.if_icmp .eq 27, 3) := by decide +kernel
theorem dX2_isKind_24 : decode cX2_isKind 24 = .ok (.iload_n 0, 1) := by decide +kernel
theorem dX2_isKind_25 : decode cX2_isKind 25 = .ok (.bipush 33, 2) := by decide +kernel
theorem dX2_isKind_27 : decode cX2_isKind 27 = .ok (.if_icmp .eq 21, 3) := by decide +kernel
theorem dX2_isKind_30 : decode cX2_isKind 30 = .ok (.iload_n 0, 1) := by decide +kernel
theorem dX2_isKind_31 : decode cX2_isKind 31 = .ok (.bipush 115, 2) := by decide +kernel
theorem dX2_isKind_33 : decode cX2_isKind 33 = .ok (.if_icmp .eq 15, 3) := by decide +kernel
theorem dX2_isKind_36 : decode cX2_isKind 36 = .ok (.iload_n 0, 1) := by decide +kernel
theorem dX2_isKind_37 : decode cX2_isKind 37 = .ok (.bipush 98, 2) := by decide +kernel
theorem dX2_isKind_39 : decode cX2_isKind 39 = .ok (.if_icmp .eq 9, 3) := by decide +kernel
theorem dX2_isKind_42 : decode cX2_isKind 42 = .ok (.iload_n 0, 1) := by decide +kernel
theorem dX2_isKind_43 : decode cX2_isKind 43 = .ok (.bipush 35, 2) := by decide +kernel
theorem dX2_isKind_45 : decode cX2_isKind 45 = .ok (.if_icmp .ne 7, 3) := by decide +kernel
theorem dX2_isKind_48 : decode cX2_isKind 48 = .ok (.iconst 1, 1) := by decide +kernel
theorem dX2_isKind_49 : decode cX2_isKind 49 = .ok (.goto 4, 3) := by decide +kernel
theorem dX2_isKind_52 : decode cX2_isKind 52 = .ok (.iconst 0, 1) := by decide +kernel
theorem dX2_isKind_53 : decode cX2_isKind 53 = .ok (.ireturn, 1) := by decide +kernel
theorem dX2_words_0 : decode cX2_words 0 = .ok (.iload_n 1, 1) := by decide +kernel
theorem dX2_words_1 : decode cX2_words 1 = .ok (.istore_n 2, 1) := by decide +kernel
theorem dX2_words_2 : decode cX2_words 2 = .ok (.iconst 0, 1) := by decide +kernel
theorem dX2_words_3 : decode cX2_words 3 = .ok (.istore_n 3, 1) := by decide +kernel
theorem dX2_words_4 : decode cX2_words 4 = .ok (.iload_n 3, 1) := by decide +kernel
theorem dX2_words_5 : decode cX2_words 5 = .ok (.sipush 600, 3) := by decide +kernel
theorem dX2_words_8 : decode cX2_words 8 = .ok (.if_icmp .ge 57, 3) := by decide +kernel
theorem dX2_words_11 : decode cX2_words 11 = .ok (.aload_n 0, 1) := by decide +kernel
theorem dX2_words_12 : decode cX2_words 12 = .ok (.iload_n 2, 1) := by decide +kernel
theorem dX2_words_13 : decode cX2_words 13 = .ok (.invokestatic 51, 3) := by decide +kernel
theorem dX2_words_16 : decode cX2_words 16 = .ok (.istore 4, 2) := by decide +kernel
theorem dX2_words_18 : decode cX2_words 18 = .ok (.iload 4, 2) := by decide +kernel
theorem dX2_words_20 : decode cX2_words 20 = .ok (.ifCond .lt 15, 3) := by decide +kernel
theorem dX2_words_23 : decode cX2_words 23 = .ok (.aload_n 0, 1) := by decide +kernel
theorem dX2_words_24 : decode cX2_words 24 = .ok (.iload 4, 2) := by decide +kernel
theorem dX2_words_26 : decode cX2_words 26 = .ok (.invokevirtual 15, 3) := by decide +kernel
theorem dX2_words_29 : decode cX2_words 29 = .ok (.invokestatic 54, 3) := by decide +kernel
theorem dX2_words_32 : decode cX2_words 32 = .ok (.ifCond .eq 6, 3) := by decide +kernel
theorem dX2_words_35 : decode cX2_words 35 = .ok (.iload 4, 2) := by decide +kernel
theorem dX2_words_37 : decode cX2_words 37 = .ok (.ireturn, 1) := by decide +kernel
theorem dX2_words_38 : decode cX2_words 38 = .ok (.aload_n 0, 1) := by decide +kernel
theorem dX2_words_39 : decode cX2_words 39 = .ok (.iload 4, 2) := by decide +kernel
theorem dX2_words_41 : decode cX2_words 41 = .ok (.invokevirtual 15, 3) := by decide +kernel
theorem dX2_words_44 : decode cX2_words 44 = .ok (.bipush 32, 2) := by decide +kernel
theorem dX2_words_46 : decode cX2_words 46 = .ok (.if_icmp .eq 8, 3) := by decide +kernel
theorem dX2_words_49 : decode cX2_words 49 = .ok (.iload 4, 2) := by decide +kernel
theorem dX2_words_51 : decode cX2_words 51 = .ok (.iconst (-1), 1) := by decide +kernel
theorem dX2_words_52 : decode cX2_words 52 = .ok (.ixor, 1) := by decide +kernel
theorem dX2_words_53 : decode cX2_words 53 = .ok (.ireturn, 1) := by decide +kernel
theorem dX2_words_54 : decode cX2_words 54 = .ok (.iload 4, 2) := by decide +kernel
theorem dX2_words_56 : decode cX2_words 56 = .ok (.iconst 1, 1) := by decide +kernel
theorem dX2_words_57 : decode cX2_words 57 = .ok (.iadd, 1) := by decide +kernel
theorem dX2_words_58 : decode cX2_words 58 = .ok (.istore_n 2, 1) := by decide +kernel
theorem dX2_words_59 : decode cX2_words 59 = .ok (.iinc 3 1, 3) := by decide +kernel
theorem dX2_words_62 : decode cX2_words 62 = .ok (.goto (-58), 3) := by decide +kernel
theorem dX2_words_65 : decode cX2_words 65 = .ok (.iload_n 2, 1) := by decide +kernel
theorem dX2_words_66 : decode cX2_words 66 = .ok (.iconst (-1), 1) := by decide +kernel
theorem dX2_words_67 : decode cX2_words 67 = .ok (.ixor, 1) := by decide +kernel
theorem dX2_words_68 : decode cX2_words 68 = .ok (.ireturn, 1) := by decide +kernel
theorem dX2_pattern_0 : decode cX2_pattern 0 = .ok (.iload_n 1, 1) := by decide +kernel
theorem dX2_pattern_1 : decode cX2_pattern 1 = .ok (.istore_n 2, 1) := by decide +kernel
theorem dX2_pattern_2 : decode cX2_pattern 2 = .ok (.iload_n 2, 1) := by decide +kernel
theorem dX2_pattern_3 : decode cX2_pattern 3 = .ok (.aload_n 0, 1) := by decide +kernel
theorem dX2_pattern_4 : decode cX2_pattern 4 = .ok (.getfield 9, 3) := by decide +kernel
theorem dX2_pattern_7 : decode cX2_pattern 7 = .ok (.if_icmp .gt 52, 3) := by decide +kernel
theorem dX2_pattern_10 : decode cX2_pattern 10 = .ok (.aload_n 0, 1) := by decide +kernel
theorem dX2_pattern_11 : decode cX2_pattern 11 = .ok (.iload_n 2, 1) := by decide +kernel
theorem dX2_pattern_12 : decode cX2_pattern 12 = .ok (.invokevirtual 15, 3) := by decide +kernel
theorem dX2_pattern_15 : decode cX2_pattern 15 = .ok (.istore_n 3, 1) := by decide +kernel
theorem dX2_pattern_16 : decode cX2_pattern 16 = .ok (.iload_n 3, 1) := by decide +kernel
theorem dX2_pattern_17 : decode cX2_pattern 17 = .ok (.invokestatic 54, 3) := by decide +kernel
theorem dX2_pattern_20 : decode cX2_pattern 20 = .ok (.ifCond .eq 5, 3) := by decide +kernel
theorem dX2_pattern_23 : decode cX2_pattern 23 = .ok (.iload_n 2, 1) := by decide +kernel
theorem dX2_pattern_24 : decode cX2_pattern 24 = .ok (.ireturn, 1) := by decide +kernel
theorem dX2_pattern_25 : decode cX2_pattern 25 = .ok (.aload_n 0, 1) := by decide +kernel
theorem dX2_pattern_26 : decode cX2_pattern 26 = .ok (.iload_n 2, 1) := by decide +kernel
theorem dX2_pattern_27 : decode cX2_pattern 27 = .ok (.iload_n 3, 1) := by decide +kernel
theorem dX2_pattern_28 : decode cX2_pattern 28 = .ok (.invokestatic 57, 3) := by decide +kernel
theorem dX2_pattern_31 : decode cX2_pattern 31 = .ok (.istore 4, 2) := by decide +kernel
theorem dX2_pattern_33 : decode cX2_pattern 33 = .ok (.iload 4, 2) := by decide +kernel
theorem dX2_pattern_35 : decode cX2_pattern 35 = .ok (.ifCond .ge 6, 3) := by decide +kernel
theorem dX2_pattern_38 : decode cX2_pattern 38 = .ok (.iload 4, 2) := by decide +kernel
theorem dX2_pattern_40 : decode cX2_pattern 40 = .ok (.ireturn, 1) := by decide +kernel
theorem dX2_pattern_41 : decode cX2_pattern 41 = .ok (.iload 4, 2) := by decide +kernel
theorem dX2_pattern_43 : decode cX2_pattern 43 = .ok (.iload_n 2, 1) := by decide +kernel
theorem dX2_pattern_44 : decode cX2_pattern 44 = .ok (.if_icmp .le 8, 3) := by decide +kernel
theorem dX2_pattern_47 : decode cX2_pattern 47 = .ok (.iload 4, 2) := by decide +kernel
theorem dX2_pattern_49 : decode cX2_pattern 49 = .ok (.goto 6, 3) := by decide +kernel
theorem dX2_pattern_52 : decode cX2_pattern 52 = .ok (.iload_n 2, 1) := by decide +kernel
theorem dX2_pattern_53 : decode cX2_pattern 53 = .ok (.iconst 1, 1) := by decide +kernel
theorem dX2_pattern_54 : decode cX2_pattern 54 = .ok (.iadd, 1) := by decide +kernel
theorem dX2_pattern_55 : decode cX2_pattern 55 = .ok (.istore_n 2, 1) := by decide +kernel
theorem dX2_pattern_56 : decode cX2_pattern 56 = .ok (.goto (-54), 3) := by decide +kernel
theorem dX2_pattern_59 : decode cX2_pattern 59 = .ok (.iload_n 2, 1) := by decide +kernel
theorem dX2_pattern_60 : decode cX2_pattern 60 = .ok (.iconst (-1), 1) := by decide +kernel
theorem dX2_pattern_61 : decode cX2_pattern 61 = .ok (.ixor, 1) := by decide +kernel
theorem dX2_pattern_62 : decode cX2_pattern 62 = .ok (.ireturn, 1) := by decide +kernel
theorem dX2_patternPart_0 : decode cX2_patternPart 0 = .ok (.iload_n 2, 1) := by decide +kernel
theorem dX2_patternPart_1 : decode cX2_patternPart 1 = .ok (.invokestatic 19, 3) := by decide +kernel
theorem dX2_patternPart_4 : decode cX2_patternPart 4 = .ok (.ifCond .ne 7, 3) := by decide +kernel
theorem dX2_patternPart_7 : decode cX2_patternPart 7 = .ok (.iload_n 1, 1) := by decide +kernel
theorem dX2_patternPart_8 : decode cX2_patternPart 8 = .ok (.iconst (-1), 1) := by decide +kernel
theorem dX2_patternPart_9 : decode cX2_patternPart 9 = .ok (.ixor, 1) := by decide +kernel
theorem dX2_patternPart_10 : decode cX2_patternPart 10 = .ok (.ireturn, 1) := by decide +kernel
theorem dX2_patternPart_11 : decode cX2_patternPart 11 = .ok (.iload_n 2, 1) := by decide +kernel
theorem dX2_patternPart_12 : decode cX2_patternPart 12 = .ok (.bipush 92, 2) := by decide +kernel
theorem dX2_patternPart_14 : decode cX2_patternPart 14 = .ok (.if_icmp .ne 28, 3) := by decide +kernel
theorem dX2_patternPart_17 : decode cX2_patternPart 17 = .ok (.aload_n 0, 1) := by decide +kernel
theorem dX2_patternPart_18 : decode cX2_patternPart 18 = .ok (.iload_n 1, 1) := by decide +kernel
theorem dX2_patternPart_19 : decode cX2_patternPart 19 = .ok (.iconst 1, 1) := by decide +kernel
theorem dX2_patternPart_20 : decode cX2_patternPart 20 = .ok (.iadd, 1) := by decide +kernel
theorem dX2_patternPart_21 : decode cX2_patternPart 21 = .ok (.invokevirtual 15, 3) := by decide +kernel
theorem dX2_patternPart_24 : decode cX2_patternPart 24 = .ok (.invokestatic 19, 3) := by decide +kernel
theorem dX2_patternPart_27 : decode cX2_patternPart 27 = .ok (.ifCond .eq 9, 3) := by decide +kernel
theorem dX2_patternPart_30 : decode cX2_patternPart 30 = .ok (.iload_n 1, 1) := by decide +kernel
theorem dX2_patternPart_31 : decode cX2_patternPart 31 = .ok (.iconst 2, 1) := by decide +kernel
theorem dX2_patternPart_32 : decode cX2_patternPart 32 = .ok (.iadd, 1) := by decide +kernel
theorem dX2_patternPart_33 : decode cX2_patternPart 33 = .ok (.goto 8, 3) := by decide +kernel
theorem dX2_patternPart_36 : decode cX2_patternPart 36 = .ok (.iload_n 1, 1) := by decide +kernel
theorem dX2_patternPart_37 : decode cX2_patternPart 37 = .ok (.iconst 1, 1) := by decide +kernel
theorem dX2_patternPart_38 : decode cX2_patternPart 38 = .ok (.iadd, 1) := by decide +kernel
theorem dX2_patternPart_39 : decode cX2_patternPart 39 = .ok (.iconst (-1), 1) := by decide +kernel
theorem dX2_patternPart_40 : decode cX2_patternPart 40 = .ok (.ixor, 1) := by decide +kernel
theorem dX2_patternPart_41 : decode cX2_patternPart 41 = .ok (.ireturn, 1) := by decide +kernel
theorem dX2_patternPart_42 : decode cX2_patternPart 42 = .ok (.iload_n 2, 1) := by decide +kernel
theorem dX2_patternPart_43 : decode cX2_patternPart 43 = .ok (.bipush 91, 2) := by decide +kernel
theorem dX2_patternPart_45 : decode cX2_patternPart 45 = .ok (.if_icmp .ne 13, 3) := by decide +kernel
theorem dX2_patternPart_48 : decode cX2_patternPart 48 = .ok (.aload_n 0, 1) := by decide +kernel
theorem dX2_patternPart_49 : decode cX2_patternPart 49 = .ok (.iload_n 1, 1) := by decide +kernel
theorem dX2_patternPart_50 : decode cX2_patternPart 50 = .ok (.iconst 1, 1) := by decide +kernel
theorem dX2_patternPart_51 : decode cX2_patternPart 51 = .ok (.iadd, 1) := by decide +kernel
theorem dX2_patternPart_52 : decode cX2_patternPart 52 = .ok (.invokestatic 61, 3) := by decide +kernel
theorem dX2_patternPart_55 : decode cX2_patternPart 55 = .ok (.goto 6, 3) := by decide +kernel
theorem dX2_patternPart_58 : decode cX2_patternPart 58 = .ok (.iload_n 1, 1) := by decide +kernel
theorem dX2_patternPart_59 : decode cX2_patternPart 59 = .ok (.iconst 1, 1) := by decide +kernel
theorem dX2_patternPart_60 : decode cX2_patternPart 60 = .ok (.iadd, 1) := by decide +kernel
theorem dX2_patternPart_61 : decode cX2_patternPart 61 = .ok (.ireturn, 1) := by decide +kernel
theorem dX2_choice_0 : decode cX2_choice 0 = .ok (.iload_n 1, 1) := by decide +kernel
theorem dX2_choice_1 : decode cX2_choice 1 = .ok (.istore_n 2, 1) := by decide +kernel
theorem dX2_choice_2 : decode cX2_choice 2 = .ok (.iload_n 2, 1) := by decide +kernel
theorem dX2_choice_3 : decode cX2_choice 3 = .ok (.aload_n 0, 1) := by decide +kernel
theorem dX2_choice_4 : decode cX2_choice 4 = .ok (.getfield 9, 3) := by decide +kernel
theorem dX2_choice_7 : decode cX2_choice 7 = .ok (.if_icmp .ge 30, 3) := by decide +kernel
theorem dX2_choice_10 : decode cX2_choice 10 = .ok (.aload_n 0, 1) := by decide +kernel
theorem dX2_choice_11 : decode cX2_choice 11 = .ok (.iload_n 2, 1) := by decide +kernel
theorem dX2_choice_12 : decode cX2_choice 12 = .ok (.invokevirtual 15, 3) := by decide +kernel
theorem dX2_choice_15 : decode cX2_choice 15 = .ok (.invokestatic 19, 3) := by decide +kernel
theorem dX2_choice_18 : decode cX2_choice 18 = .ok (.ifCond .eq 19, 3) := by decide +kernel
theorem dX2_choice_21 : decode cX2_choice 21 = .ok (.aload_n 0, 1) := by decide +kernel
theorem dX2_choice_22 : decode cX2_choice 22 = .ok (.iload_n 2, 1) := by decide +kernel
theorem dX2_choice_23 : decode cX2_choice 23 = .ok (.invokevirtual 15, 3) := by decide +kernel
theorem dX2_choice_26 : decode cX2_choice 26 = .ok (.bipush 93, 2) := by decide +kernel
theorem dX2_choice_28 : decode cX2_choice 28 = .ok (.if_icmp .eq 9, 3) := by decide +kernel
theorem dX2_choice_31 : decode cX2_choice 31 = .ok (.iinc 2 1, 3) := by decide +kernel
theorem dX2_choice_34 : decode cX2_choice 34 = .ok (.goto (-32), 3) := by decide +kernel
theorem dX2_choice_37 : decode cX2_choice 37 = .ok (.iload_n 2, 1) := by decide +kernel
theorem dX2_choice_38 : decode cX2_choice 38 = .ok (.iload_n 1, 1) := by decide +kernel
theorem dX2_choice_39 : decode cX2_choice 39 = .ok (.if_icmp .eq 13, 3) := by decide +kernel
theorem dX2_choice_42 : decode cX2_choice 42 = .ok (.aload_n 0, 1) := by decide +kernel
theorem dX2_choice_43 : decode cX2_choice 43 = .ok (.iload_n 2, 1) := by decide +kernel
theorem dX2_choice_44 : decode cX2_choice 44 = .ok (.invokevirtual 15, 3) := by decide +kernel
theorem dX2_choice_47 : decode cX2_choice 47 = .ok (.bipush 93, 2) := by decide +kernel
theorem dX2_choice_49 : decode cX2_choice 49 = .ok (.if_icmp .eq 9, 3) := by decide +kernel
theorem dX2_choice_52 : decode cX2_choice 52 = .ok (.iload_n 2, 1) := by decide +kernel
theorem dX2_choice_53 : decode cX2_choice 53 = .ok (.iconst (-1), 1) := by decide +kernel
theorem dX2_choice_54 : decode cX2_choice 54 = .ok (.ixor, 1) := by decide +kernel
theorem dX2_choice_55 : decode cX2_choice 55 = .ok (.goto 6, 3) := by decide +kernel
theorem dX2_choice_58 : decode cX2_choice 58 = .ok (.iload_n 2, 1) := by decide +kernel
theorem dX2_choice_59 : decode cX2_choice 59 = .ok (.iconst 1, 1) := by decide +kernel
theorem dX2_choice_60 : decode cX2_choice 60 = .ok (.iadd, 1) := by decide +kernel
theorem dX2_choice_61 : decode cX2_choice 61 = .ok (.ireturn, 1) := by decide +kernel
theorem dX2_flagAndNumber_0 : decode cX2_flagAndNumber 0 = .ok (.aload_n 0, 1) := by decide +kernel
theorem dX2_flagAndNumber_1 : decode cX2_flagAndNumber 1 = .ok (.iload_n 1, 1) := by decide +kernel
theorem dX2_flagAndNumber_2 : decode cX2_flagAndNumber 2 = .ok (.invokevirtual 15, 3) := by decide +kernel
theorem dX2_flagAndNumber_5 : decode cX2_flagAndNumber 5 = .ok (.bipush 48, 2) := by decide +kernel
theorem dX2_flagAndNumber_7 : decode cX2_flagAndNumber 7 = .ok (.bipush 55, 2) := by decide +kernel
theorem dX2_flagAndNumber_9 : decode cX2_flagAndNumber 9 = .ok (.invokestatic 64, 3) := by decide +kernel
theorem dX2_flagAndNumber_12 : decode cX2_flagAndNumber 12 = .ok (.ifCond .ne 7, 3) := by decide +kernel
theorem dX2_flagAndNumber_15 : decode cX2_flagAndNumber 15 = .ok (.iload_n 1, 1) := by decide +kernel
theorem dX2_flagAndNumber_16 : decode cX2_flagAndNumber 16 = .ok (.iconst (-1), 1) := by decide +kernel
theorem dX2_flagAndNumber_17 : decode cX2_flagAndNumber 17 = .ok (.ixor, 1) := by decide +kernel
theorem dX2_flagAndNumber_18 : decode cX2_flagAndNumber 18 = .ok (.ireturn, 1) := by decide +kernel
theorem dX2_flagAndNumber_19 : decode cX2_flagAndNumber 19 = .ok (.aload_n 0, 1) := by decide +kernel
theorem dX2_flagAndNumber_20 : decode cX2_flagAndNumber 20 = .ok (.iload_n 1, 1) := by decide +kernel
theorem dX2_flagAndNumber_21 : decode cX2_flagAndNumber 21 = .ok (.iconst 1, 1) := by decide +kernel
theorem dX2_flagAndNumber_22 : decode cX2_flagAndNumber 22 = .ok (.iadd, 1) := by decide +kernel
theorem dX2_flagAndNumber_23 : decode cX2_flagAndNumber 23 = .ok (.invokevirtual 15, 3) := by decide +kernel
theorem dX2_flagAndNumber_26 : decode cX2_flagAndNumber 26 = .ok (.bipush 32, 2) := by decide +kernel
theorem dX2_flagAndNumber_28 : decode cX2_flagAndNumber 28 = .ok (.if_icmp .eq 9, 3) := by decide +kernel
theorem dX2_flagAndNumber_31 : decode cX2_flagAndNumber 31 = .ok (.iload_n 1, 1) := by decide +kernel
theorem dX2_flagAndNumber_32 : decode cX2_flagAndNumber 32 = .ok (.iconst 1, 1) := by decide +kernel
theorem dX2_flagAndNumber_33 : decode cX2_flagAndNumber 33 = .ok (.iadd, 1) := by decide +kernel
theorem dX2_flagAndNumber_34 : decode cX2_flagAndNumber 34 = .ok (.iconst (-1), 1) := by decide +kernel
theorem dX2_flagAndNumber_35 : decode cX2_flagAndNumber 35 = .ok (.ixor, 1) := by decide +kernel
theorem dX2_flagAndNumber_36 : decode cX2_flagAndNumber 36 = .ok (.ireturn, 1) := by decide +kernel
theorem dX2_flagAndNumber_37 : decode cX2_flagAndNumber 37 = .ok (.aload_n 0, 1) := by decide +kernel
theorem dX2_flagAndNumber_38 : decode cX2_flagAndNumber 38 = .ok (.iload_n 1, 1) := by decide +kernel
theorem dX2_flagAndNumber_39 : decode cX2_flagAndNumber 39 = .ok (.iconst 2, 1) := by decide +kernel
theorem dX2_flagAndNumber_40 : decode cX2_flagAndNumber 40 = .ok (.iadd, 1) := by decide +kernel
theorem dX2_flagAndNumber_41 : decode cX2_flagAndNumber 41 = .ok (.invokevirtual 15, 3) := by decide +kernel
theorem dX2_flagAndNumber_44 : decode cX2_flagAndNumber 44 = .ok (.bipush 45, 2) := by decide +kernel
theorem dX2_flagAndNumber_46 : decode cX2_flagAndNumber 46 = .ok (.if_icmp .ne 9, 3) := by decide +kernel
theorem dX2_flagAndNumber_49 : decode cX2_flagAndNumber 49 = .ok (.iload_n 1, 1) := by decide +kernel
theorem dX2_flagAndNumber_50 : decode cX2_flagAndNumber 50 = .ok (.iconst 3, 1) := by decide +kernel
theorem dX2_flagAndNumber_51 : decode cX2_flagAndNumber 51 = .ok (.iadd, 1) := by decide +kernel
theorem dX2_flagAndNumber_52 : decode cX2_flagAndNumber 52 = .ok (.goto 6, 3) := by decide +kernel
theorem dX2_flagAndNumber_55 : decode cX2_flagAndNumber 55 = .ok (.iload_n 1, 1) := by decide +kernel
theorem dX2_flagAndNumber_56 : decode cX2_flagAndNumber 56 = .ok (.iconst 2, 1) := by decide +kernel
theorem dX2_flagAndNumber_57 : decode cX2_flagAndNumber 57 = .ok (.iadd, 1) := by decide +kernel
theorem dX2_flagAndNumber_58 : decode cX2_flagAndNumber 58 = .ok (.istore_n 2, 1) := by decide +kernel
theorem dX2_flagAndNumber_59 : decode cX2_flagAndNumber 59 = .ok (.iconst 0, 1) := by decide +kernel
theorem dX2_flagAndNumber_60 : decode cX2_flagAndNumber 60 = .ok (.istore_n 3, 1) := by decide +kernel
theorem dX2_flagAndNumber_61 : decode cX2_flagAndNumber 61 = .ok (.iload_n 3, 1) := by decide +kernel
theorem dX2_flagAndNumber_62 : decode cX2_flagAndNumber 62 = .ok (.bipush 6, 2) := by decide +kernel
theorem dX2_flagAndNumber_64 : decode cX2_flagAndNumber 64 = .ok (.if_icmp .ge 26, 3) := by decide +kernel
theorem dX2_flagAndNumber_67 : decode cX2_flagAndNumber 67 = .ok (.aload_n 0, 1) := by decide +kernel
theorem dX2_flagAndNumber_68 : decode cX2_flagAndNumber 68 = .ok (.iload_n 2, 1) := by decide +kernel
theorem dX2_flagAndNumber_69 : decode cX2_flagAndNumber 69 = .ok (.iload_n 3, 1) := by decide +kernel
theorem dX2_flagAndNumber_70 : decode cX2_flagAndNumber 70 = .ok (.iadd, 1) := by decide +kernel
theorem dX2_flagAndNumber_71 : decode cX2_flagAndNumber 71 = .ok (.invokevirtual 15, 3) := by decide +kernel
theorem dX2_flagAndNumber_74 : decode cX2_flagAndNumber 74 = .ok (.bipush 48, 2) := by decide +kernel
theorem dX2_flagAndNumber_76 : decode cX2_flagAndNumber 76 = .ok (.bipush 57, 2) := by decide +kernel
theorem dX2_flagAndNumber_78 : decode cX2_flagAndNumber 78 = .ok (.invokestatic 64, 3) := by decide +kernel
theorem dX2_flagAndNumber_81 : decode cX2_flagAndNumber 81 = .ok (.ifCond .eq 9, 3) := by decide +kernel
theorem dX2_flagAndNumber_84 : decode cX2_flagAndNumber 84 = .ok (.iinc 3 1, 3) := by decide +kernel
theorem dX2_flagAndNumber_87 : decode cX2_flagAndNumber 87 = .ok (.goto (-26), 3) := by decide +kernel
theorem dX2_flagAndNumber_90 : decode cX2_flagAndNumber 90 = .ok (.iload_n 2, 1) := by decide +kernel
theorem dX2_flagAndNumber_91 : decode cX2_flagAndNumber 91 = .ok (.iload_n 3, 1) := by decide +kernel
theorem dX2_flagAndNumber_92 : decode cX2_flagAndNumber 92 = .ok (.iadd, 1) := by decide +kernel
theorem dX2_flagAndNumber_93 : decode cX2_flagAndNumber 93 = .ok (.istore 4, 2) := by decide +kernel
theorem dX2_flagAndNumber_95 : decode cX2_flagAndNumber 95 = .ok (.iload_n 3, 1) := by decide +kernel
theorem dX2_flagAndNumber_96 : decode cX2_flagAndNumber 96 = .ok (.ifCond .le 20, 3) := by decide +kernel
theorem dX2_flagAndNumber_99 : decode cX2_flagAndNumber 99 = .ok (.aload_n 0, 1) := by decide +kernel
theorem dX2_flagAndNumber_100 : decode cX2_flagAndNumber 100 = .ok (.iload 4, 2) := by decide +kernel
theorem dX2_flagAndNumber_102 : decode cX2_flagAndNumber 102 = .ok (.invokevirtual 15, 3) := by decide +kernel
theorem dX2_flagAndNumber_105 : decode cX2_flagAndNumber 105 = .ok (.invokestatic 54, 3) := by decide +kernel
theorem dX2_flagAndNumber_108 : decode cX2_flagAndNumber 108 = .ok (.ifCond .eq 8, 3) := by decide +kernel
theorem dX2_flagAndNumber_111 : decode cX2_flagAndNumber 111 = .ok (.iload 4, 2) := by decide +kernel
theorem dX2_flagAndNumber_113 : decode cX2_flagAndNumber 113 = .ok (.goto 7, 3) := by decide +kernel
theorem dX2_flagAndNumber_116 : decode cX2_flagAndNumber 116 = .ok (.iload 4, 2) := by decide +kernel
theorem dX2_flagAndNumber_118 : decode cX2_flagAndNumber 118 = .ok (.iconst (-1), 1) := by decide +kernel
theorem dX2_flagAndNumber_119 : decode cX2_flagAndNumber 119 = .ok (.ixor, 1) := by decide +kernel
theorem dX2_flagAndNumber_120 : decode cX2_flagAndNumber 120 = .ok (.ireturn, 1) := by decide +kernel
theorem dX2_onlyDigit_0 : decode cX2_onlyDigit 0 = .ok (.aload_n 0, 1) := by decide +kernel
theorem dX2_onlyDigit_1 : decode cX2_onlyDigit 1 = .ok (.iload_n 1, 1) := by decide +kernel
theorem dX2_onlyDigit_2 : decode cX2_onlyDigit 2 = .ok (.invokevirtual 15, 3) := by decide +kernel
theorem dX2_onlyDigit_5 : decode cX2_onlyDigit 5 = .ok (.iload_n 2, 1) := by decide +kernel
theorem dX2_onlyDigit_6 : decode cX2_onlyDigit 6 = .ok (.iload_n 3, 1) := by decide +kernel
theorem dX2_onlyDigit_7 : decode cX2_onlyDigit 7 = .ok (.invokestatic 64, 3) := by decide +kernel
theorem dX2_onlyDigit_10 : decode cX2_onlyDigit 10 = .ok (.ifCond .ne 7, 3) := by decide +kernel
theorem dX2_onlyDigit_13 : decode cX2_onlyDigit 13 = .ok (.iload_n 1, 1) := by decide +kernel
theorem dX2_onlyDigit_14 : decode cX2_onlyDigit 14 = .ok (.iconst (-1), 1) := by decide +kernel
theorem dX2_onlyDigit_15 : decode cX2_onlyDigit 15 = .ok (.ixor, 1) := by decide +kernel
theorem dX2_onlyDigit_16 : decode cX2_onlyDigit 16 = .ok (.ireturn, 1) := by decide +kernel
theorem dX2_onlyDigit_17 : decode cX2_onlyDigit 17 = .ok (.aload_n 0, 1) := by decide +kernel
theorem dX2_onlyDigit_18 : decode cX2_onlyDigit 18 = .ok (.iload_n 1, 1) := by decide +kernel
theorem dX2_onlyDigit_19 : decode cX2_onlyDigit 19 = .ok (.iconst 1, 1) := by decide +kernel
theorem dX2_onlyDigit_20 : decode cX2_onlyDigit 20 = .ok (.iadd, 1) := by decide +kernel
theorem dX2_onlyDigit_21 : decode cX2_onlyDigit 21 = .ok (.invokevirtual 15, 3) := by decide +kernel
theorem dX2_onlyDigit_24 : decode cX2_onlyDigit 24 = .ok (.invokestatic 54, 3) := by decide +kernel
theorem dX2_onlyDigit_27 : decode cX2_onlyDigit 27 = .ok (.ifCond .eq 9, 3) := by decide +kernel
theorem dX2_onlyDigit_30 : decode cX2_onlyDigit 30 = .ok (.iload_n 1, 1) := by decide +kernel
theorem dX2_onlyDigit_31 : decode cX2_onlyDigit 31 = .ok (.iconst 1, 1) := by decide +kernel
theorem dX2_onlyDigit_32 : decode cX2_onlyDigit 32 = .ok (.iadd, 1) := by decide +kernel
theorem dX2_onlyDigit_33 : decode cX2_onlyDigit 33 = .ok (.goto 8, 3) := by decide +kernel
theorem dX2_onlyDigit_36 : decode cX2_onlyDigit 36 = .ok (.iload_n 1, 1) := by decide +kernel
theorem dX2_onlyDigit_37 : decode cX2_onlyDigit 37 = .ok (.iconst 1, 1) := by decide +kernel
theorem dX2_onlyDigit_38 : decode cX2_onlyDigit 38 = .ok (.iadd, 1) := by decide +kernel
theorem dX2_onlyDigit_39 : decode cX2_onlyDigit 39 = .ok (.iconst (-1), 1) := by decide +kernel
theorem dX2_onlyDigit_40 : decode cX2_onlyDigit 40 = .ok (.ixor, 1) := by decide +kernel
theorem dX2_onlyDigit_41 : decode cX2_onlyDigit 41 = .ok (.ireturn, 1) := by decide +kernel
theorem dX2_isDigit_0 : decode cX2_isDigit 0 = .ok (.iload_n 0, 1) := by decide +kernel
theorem dX2_isDigit_1 : decode cX2_isDigit 1 = .ok (.iload_n 1, 1) := by decide +kernel
theorem dX2_isDigit_2 : decode cX2_isDigit 2 = .ok (.if_icmp .lt 12, 3) := by decide +kernel
theorem dX2_isDigit_5 : decode cX2_isDigit 5 = .ok (.iload_n 0, 1) := by decide +kernel
theorem dX2_isDigit_6 : decode cX2_isDigit 6 = .ok (.iload_n 2, 1) := by decide +kernel
theorem dX2_isDigit_7 : decode cX2_isDigit 7 = .ok (.if_icmp .gt 7, 3) := by decide +kernel
theorem dX2_isDigit_10 : decode cX2_isDigit 10 = .ok (.iconst 1, 1) := by decide +kernel
theorem dX2_isDigit_11 : decode cX2_isDigit 11 = .ok (.goto 4, 3) := by decide +kernel
theorem dX2_isDigit_14 : decode cX2_isDigit 14 = .ok (.iconst 0, 1) := by decide +kernel
theorem dX2_isDigit_15 : decode cX2_isDigit 15 = .ok (.ireturn, 1) := by decide +kernel
theorem dX2_wrongInTranscript_0 : decode cX2_wrongInTranscript 0 = .ok (.iconst 0, 1) := by decide +kernel
theorem dX2_wrongInTranscript_1 : decode cX2_wrongInTranscript 1 = .ok (.istore_n 1, 1) := by decide +kernel
theorem dX2_wrongInTranscript_2 : decode cX2_wrongInTranscript 2 = .ok (.iconst 1, 1) := by decide +kernel
theorem dX2_wrongInTranscript_3 : decode cX2_wrongInTranscript 3 = .ok (.istore_n 2, 1) := by decide +kernel
theorem dX2_wrongInTranscript_4 : decode cX2_wrongInTranscript 4 = .ok (.iload_n 2, 1) := by decide +kernel
theorem dX2_wrongInTranscript_5 : decode cX2_wrongInTranscript 5 = .ok (.bipush 40, 2) := by decide +kernel
theorem dX2_wrongInTranscript_7 : decode cX2_wrongInTranscript 7 = .ok (.if_icmp .gt 75, 3) := by decide +kernel
theorem dX2_wrongInTranscript_10 : decode cX2_wrongInTranscript 10 = .ok (.iload_n 1, 1) := by decide +kernel
theorem dX2_wrongInTranscript_11 : decode cX2_wrongInTranscript 11 = .ok (.aload_n 0, 1) := by decide +kernel
theorem dX2_wrongInTranscript_12 : decode cX2_wrongInTranscript 12 = .ok (.getfield 9, 3) := by decide +kernel
theorem dX2_wrongInTranscript_15 : decode cX2_wrongInTranscript 15 = .ok (.if_icmp .ge 67, 3) := by decide +kernel
theorem dX2_wrongInTranscript_18 : decode cX2_wrongInTranscript 18 = .ok (.aload_n 0, 1) := by decide +kernel
theorem dX2_wrongInTranscript_19 : decode cX2_wrongInTranscript 19 = .ok (.iload_n 1, 1) := by decide +kernel
theorem dX2_wrongInTranscript_20 : decode cX2_wrongInTranscript 20 = .ok (.invokestatic 68, 3) := by decide +kernel
theorem dX2_wrongInTranscript_23 : decode cX2_wrongInTranscript 23 = .ok (.istore_n 3, 1) := by decide +kernel
theorem dX2_wrongInTranscript_24 : decode cX2_wrongInTranscript 24 = .ok (.iload_n 3, 1) := by decide +kernel
theorem dX2_wrongInTranscript_25 : decode cX2_wrongInTranscript 25 = .ok (.ifCond .ge 7, 3) := by decide +kernel
theorem dX2_wrongInTranscript_28 : decode cX2_wrongInTranscript 28 = .ok (.iload_n 3, 1) := by decide +kernel
theorem dX2_wrongInTranscript_29 : decode cX2_wrongInTranscript 29 = .ok (.iconst (-1), 1) := by decide +kernel
theorem dX2_wrongInTranscript_30 : decode cX2_wrongInTranscript 30 = .ok (.ixor, 1) := by decide +kernel
theorem dX2_wrongInTranscript_31 : decode cX2_wrongInTranscript 31 = .ok (.ireturn, 1) := by decide +kernel
theorem dX2_wrongInTranscript_32 : decode cX2_wrongInTranscript 32 = .ok (.iload_n 3, 1) := by decide +kernel
theorem dX2_wrongInTranscript_33 : decode cX2_wrongInTranscript 33 = .ok (.iconst 1, 1) := by decide +kernel
theorem dX2_wrongInTranscript_34 : decode cX2_wrongInTranscript 34 = .ok (.iadd, 1) := by decide +kernel
theorem dX2_wrongInTranscript_35 : decode cX2_wrongInTranscript 35 = .ok (.aload_n 0, 1) := by decide +kernel
theorem dX2_wrongInTranscript_36 : decode cX2_wrongInTranscript 36 = .ok (.getfield 9, 3) := by decide +kernel
theorem dX2_wrongInTranscript_39 : decode cX2_wrongInTranscript 39 = .ok (.if_icmp .lt 8, 3) := by decide +kernel
theorem dX2_wrongInTranscript_42 : decode cX2_wrongInTranscript 42 = .ok (.aload_n 0, 1) := by decide +kernel
theorem dX2_wrongInTranscript_43 : decode cX2_wrongInTranscript 43 = .ok (.getfield 9, 3) := by decide +kernel
theorem dX2_wrongInTranscript_46 : decode cX2_wrongInTranscript 46 = .ok (.ireturn, 1) := by decide +kernel
theorem dX2_wrongInTranscript_47 : decode cX2_wrongInTranscript 47 = .ok (.aload_n 0, 1) := by decide +kernel
theorem dX2_wrongInTranscript_48 : decode cX2_wrongInTranscript 48 = .ok (.iload_n 3, 1) := by decide +kernel
theorem dX2_wrongInTranscript_49 : decode cX2_wrongInTranscript 49 = .ok (.iconst 1, 1) := by decide +kernel
theorem dX2_wrongInTranscript_50 : decode cX2_wrongInTranscript 50 = .ok (.iadd, 1) := by decide +kernel
theorem dX2_wrongInTranscript_51 : decode cX2_wrongInTranscript 51 = .ok (.invokestatic 71, 3) := by decide +kernel
theorem dX2_wrongInTranscript_54 : decode cX2_wrongInTranscript 54 = .ok (.istore 4, 2) := by decide +kernel
theorem dX2_wrongInTranscript_56 : decode cX2_wrongInTranscript 56 = .ok (.aload_n 0, 1) := by decide +kernel
theorem dX2_wrongInTranscript_57 : decode cX2_wrongInTranscript 57 = .ok (.iload 4, 2) := by decide +kernel
theorem dX2_wrongInTranscript_59 : decode cX2_wrongInTranscript 59 = .ok (.invokevirtual 15, 3) := by decide +kernel
theorem dX2_wrongInTranscript_62 : decode cX2_wrongInTranscript 62 = .ok (.invokestatic 54, 3) := by decide +kernel
theorem dX2_wrongInTranscript_65 : decode cX2_wrongInTranscript 65 = .ok (.ifCond .ne 6, 3) := by decide +kernel
theorem dX2_wrongInTranscript_68 : decode cX2_wrongInTranscript 68 = .ok (.iload 4, 2) := by decide +kernel
theorem dX2_wrongInTranscript_70 : decode cX2_wrongInTranscript 70 = .ok (.ireturn, 1) := by decide +kernel
theorem dX2_wrongInTranscript_71 : decode cX2_wrongInTranscript 71 = .ok (.iload 4, 2) := by decide +kernel
theorem dX2_wrongInTranscript_73 : decode cX2_wrongInTranscript 73 = .ok (.iconst 1, 1) := by decide +kernel
theorem dX2_wrongInTranscript_74 : decode cX2_wrongInTranscript 74 = .ok (.iadd, 1) := by decide +kernel
theorem dX2_wrongInTranscript_75 : decode cX2_wrongInTranscript 75 = .ok (.istore_n 1, 1) := by decide +kernel
theorem dX2_wrongInTranscript_76 : decode cX2_wrongInTranscript 76 = .ok (.iinc 2 2, 3) := by decide +kernel
theorem dX2_wrongInTranscript_79 : decode cX2_wrongInTranscript 79 = .ok (.goto (-75), 3) := by decide +kernel
theorem dX2_wrongInTranscript_82 : decode cX2_wrongInTranscript 82 = .ok (.iload_n 1, 1) := by decide +kernel
theorem dX2_wrongInTranscript_83 : decode cX2_wrongInTranscript 83 = .ok (.aload_n 0, 1) := by decide +kernel
theorem dX2_wrongInTranscript_84 : decode cX2_wrongInTranscript 84 = .ok (.getfield 9, 3) := by decide +kernel
theorem dX2_wrongInTranscript_87 : decode cX2_wrongInTranscript 87 = .ok (.if_icmp .ge 7, 3) := by decide +kernel
theorem dX2_wrongInTranscript_90 : decode cX2_wrongInTranscript 90 = .ok (.iload_n 1, 1) := by decide +kernel
theorem dX2_wrongInTranscript_91 : decode cX2_wrongInTranscript 91 = .ok (.goto 4, 3) := by decide +kernel
theorem dX2_wrongInTranscript_94 : decode cX2_wrongInTranscript 94 = .ok (.iconst (-1), 1) := by decide +kernel
theorem dX2_wrongInTranscript_95 : decode cX2_wrongInTranscript 95 = .ok (.ireturn, 1) := by decide +kernel
theorem dX2_transcriptWord_0 : decode cX2_transcriptWord 0 = .ok (.aload_n 0, 1) := by decide +kernel
theorem dX2_transcriptWord_1 : decode cX2_transcriptWord 1 = .ok (.iload_n 1, 1) := by decide +kernel
theorem dX2_transcriptWord_2 : decode cX2_transcriptWord 2 = .ok (.invokevirtual 15, 3) := by decide +kernel
theorem dX2_transcriptWord_5 : decode cX2_transcriptWord 5 = .ok (.bipush 62, 2) := by decide +kernel
theorem dX2_transcriptWord_7 : decode cX2_transcriptWord 7 = .ok (.if_icmp .eq 7, 3) := by decide +kernel
theorem dX2_transcriptWord_10 : decode cX2_transcriptWord 10 = .ok (.iload_n 1, 1) := by decide +kernel
theorem dX2_transcriptWord_11 : decode cX2_transcriptWord 11 = .ok (.iconst (-1), 1) := by decide +kernel
theorem dX2_transcriptWord_12 : decode cX2_transcriptWord 12 = .ok (.ixor, 1) := by decide +kernel
theorem dX2_transcriptWord_13 : decode cX2_transcriptWord 13 = .ok (.ireturn, 1) := by decide +kernel
theorem dX2_transcriptWord_14 : decode cX2_transcriptWord 14 = .ok (.aload_n 0, 1) := by decide +kernel
theorem dX2_transcriptWord_15 : decode cX2_transcriptWord 15 = .ok (.iload_n 1, 1) := by decide +kernel
theorem dX2_transcriptWord_16 : decode cX2_transcriptWord 16 = .ok (.iconst 1, 1) := by decide +kernel
theorem dX2_transcriptWord_17 : decode cX2_transcriptWord 17 = .ok (.iadd, 1) := by decide +kernel
theorem dX2_transcriptWord_18 : decode cX2_transcriptWord 18 = .ok (.invokevirtual 15, 3) := by decide +kernel
theorem dX2_transcriptWord_21 : decode cX2_transcriptWord 21 = .ok (.bipush 32, 2) := by decide +kernel
theorem dX2_transcriptWord_23 : decode cX2_transcriptWord 23 = .ok (.if_icmp .eq 9, 3) := by decide +kernel
theorem dX2_transcriptWord_26 : decode cX2_transcriptWord 26 = .ok (.iload_n 1, 1) := by decide +kernel
theorem dX2_transcriptWord_27 : decode cX2_transcriptWord 27 = .ok (.iconst 1, 1) := by decide +kernel
theorem dX2_transcriptWord_28 : decode cX2_transcriptWord 28 = .ok (.iadd, 1) := by decide +kernel
theorem dX2_transcriptWord_29 : decode cX2_transcriptWord 29 = .ok (.iconst (-1), 1) := by decide +kernel
theorem dX2_transcriptWord_30 : decode cX2_transcriptWord 30 = .ok (.ixor, 1) := by decide +kernel
theorem dX2_transcriptWord_31 : decode cX2_transcriptWord 31 = .ok (.ireturn, 1) := by decide +kernel
theorem dX2_transcriptWord_32 : decode cX2_transcriptWord 32 = .ok (.aload_n 0, 1) := by decide +kernel
theorem dX2_transcriptWord_33 : decode cX2_transcriptWord 33 = .ok (.iload_n 1, 1) := by decide +kernel
theorem dX2_transcriptWord_34 : decode cX2_transcriptWord 34 = .ok (.iconst 2, 1) := by decide +kernel
theorem dX2_transcriptWord_35 : decode cX2_transcriptWord 35 = .ok (.iadd, 1) := by decide +kernel
theorem dX2_transcriptWord_36 : decode cX2_transcriptWord 36 = .ok (.invokestatic 51, 3) := by decide +kernel
theorem dX2_transcriptWord_39 : decode cX2_transcriptWord 39 = .ok (.istore_n 2, 1) := by decide +kernel
theorem dX2_transcriptWord_40 : decode cX2_transcriptWord 40 = .ok (.iload_n 2, 1) := by decide +kernel
theorem dX2_transcriptWord_41 : decode cX2_transcriptWord 41 = .ok (.ifCond .lt 14, 3) := by decide +kernel
theorem dX2_transcriptWord_44 : decode cX2_transcriptWord 44 = .ok (.aload_n 0, 1) := by decide +kernel
theorem dX2_transcriptWord_45 : decode cX2_transcriptWord 45 = .ok (.iload_n 2, 1) := by decide +kernel
theorem dX2_transcriptWord_46 : decode cX2_transcriptWord 46 = .ok (.invokevirtual 15, 3) := by decide +kernel
theorem dX2_transcriptWord_49 : decode cX2_transcriptWord 49 = .ok (.invokestatic 54, 3) := by decide +kernel
theorem dX2_transcriptWord_52 : decode cX2_transcriptWord 52 = .ok (.ifCond .eq 7, 3) := by decide +kernel
theorem dX2_transcriptWord_55 : decode cX2_transcriptWord 55 = .ok (.iload_n 2, 1) := by decide +kernel
theorem dX2_transcriptWord_56 : decode cX2_transcriptWord 56 = .ok (.goto 6, 3) := by decide +kernel
theorem dX2_transcriptWord_59 : decode cX2_transcriptWord 59 = .ok (.iload_n 2, 1) := by decide +kernel
theorem dX2_transcriptWord_60 : decode cX2_transcriptWord 60 = .ok (.iconst (-1), 1) := by decide +kernel
theorem dX2_transcriptWord_61 : decode cX2_transcriptWord 61 = .ok (.ixor, 1) := by decide +kernel
theorem dX2_transcriptWord_62 : decode cX2_transcriptWord 62 = .ok (.ireturn, 1) := by decide +kernel
theorem dX3_init_0 : decode cX3_init 0 = .ok (.aload_n 0, 1) := by decide +kernel
theorem dX3_init_1 : decode cX3_init 1 = .ok (.invokespecial 3, 3) := by decide +kernel
theorem dX3_init_4 : decode cX3_init 4 = .ok (.aload_n 0, 1) := by decide +kernel
theorem dX3_init_5 : decode cX3_init 5 = .ok (.iconst 4, 1) := by decide +kernel
theorem dX3_init_6 : decode cX3_init 6 = .ok (.newarray .int, 2) := by decide +kernel
theorem dX3_init_8 : decode cX3_init 8 = .ok (.putfield 9, 3) := by decide +kernel
theorem dX3_init_11 : decode cX3_init 11 = .ok (.aload_n 0, 1) := by decide +kernel
theorem dX3_init_12 : decode cX3_init 12 = .ok (.iconst 0, 1) := by decide +kernel
theorem dX3_init_13 : decode cX3_init 13 = .ok (.putfield 15, 3) := by decide +kernel
theorem dX3_init_16 : decode cX3_init 16 = .ok (.return_, 1) := by decide +kernel
theorem dX3_take_0 : decode cX3_take 0 = .ok (.aload_n 0, 1) := by decide +kernel
theorem dX3_take_1 : decode cX3_take 1 = .ok (.iload_n 1, 1) := by decide +kernel
theorem dX3_take_2 : decode cX3_take 2 = .ok (.putfield 15, 3) := by decide +kernel
theorem dX3_take_5 : decode cX3_take 5 = .ok (.aload_n 0, 1) := by decide +kernel
theorem dX3_take_6 : decode cX3_take 6 = .ok (.iload_n 2, 1) := by decide +kernel
theorem dX3_take_7 : decode cX3_take 7 = .ok (.ifCond .ge 7, 3) := by decide +kernel
theorem dX3_take_10 : decode cX3_take 10 = .ok (.iconst 0, 1) := by decide +kernel
theorem dX3_take_11 : decode cX3_take 11 = .ok (.goto 21, 3) := by decide +kernel
theorem dX3_take_14 : decode cX3_take 14 = .ok (.iload_n 2, 1) := by decide +kernel
theorem dX3_take_15 : decode cX3_take 15 = .ok (.aload_n 0, 1) := by decide +kernel
theorem dX3_take_16 : decode cX3_take 16 = .ok (.getfield 9, 3) := by decide +kernel
theorem dX3_take_19 : decode cX3_take 19 = .ok (.arraylength, 1) := by decide +kernel
theorem dX3_take_20 : decode cX3_take 20 = .ok (.if_icmp .ge 7, 3) := by decide +kernel
theorem dX3_take_23 : decode cX3_take 23 = .ok (.iload_n 2, 1) := by decide +kernel
theorem dX3_take_24 : decode cX3_take 24 = .ok (.goto 8, 3) := by decide +kernel
theorem dX3_take_27 : decode cX3_take 27 = .ok (.aload_n 0, 1) := by decide +kernel
theorem dX3_take_28 : decode cX3_take 28 = .ok (.getfield 9, 3) := by decide +kernel
theorem dX3_take_31 : decode cX3_take 31 = .ok (.arraylength, 1) := by decide +kernel
theorem dX3_take_32 : decode cX3_take 32 = .ok (.putfield 19, 3) := by decide +kernel
theorem dX3_take_35 : decode cX3_take 35 = .ok (.iconst 0, 1) := by decide +kernel
theorem dX3_take_36 : decode cX3_take 36 = .ok (.istore 4, 2) := by decide +kernel
theorem dX3_take_38 : decode cX3_take 38 = .ok (.iload 4, 2) := by decide +kernel
theorem dX3_take_40 : decode cX3_take 40 = .ok (.aload_n 0, 1) := by decide +kernel
theorem dX3_take_41 : decode cX3_take 41 = .ok (.getfield 19, 3) := by decide +kernel
theorem dX3_take_44 : decode cX3_take 44 = .ok (.if_icmp .ge 30, 3) := by decide +kernel
theorem dX3_take_47 : decode cX3_take 47 = .ok (.iload 4, 2) := by decide +kernel
theorem dX3_take_49 : decode cX3_take 49 = .ok (.aload_n 0, 1) := by decide +kernel
theorem dX3_take_50 : decode cX3_take 50 = .ok (.getfield 9, 3) := by decide +kernel
theorem dX3_take_53 : decode cX3_take 53 = .ok (.arraylength, 1) := by decide +kernel
theorem dX3_take_54 : decode cX3_take 54 = .ok (.if_icmp .ge 20, 3) := by decide +kernel
theorem dX3_take_57 : decode cX3_take 57 = .ok (.aload_n 0, 1) := by decide +kernel
theorem dX3_take_58 : decode cX3_take 58 = .ok (.getfield 9, 3) := by decide +kernel
theorem dX3_take_61 : decode cX3_take 61 = .ok (.iload 4, 2) := by decide +kernel
theorem dX3_take_63 : decode cX3_take 63 = .ok (.iload_n 3, 1) := by decide +kernel
theorem dX3_take_64 : decode cX3_take 64 = .ok (.iload 4, 2) := by decide +kernel
theorem dX3_take_66 : decode cX3_take 66 = .ok (.iadd, 1) := by decide +kernel
theorem dX3_take_67 : decode cX3_take 67 = .ok (.iastore, 1) := by decide +kernel
theorem dX3_take_68 : decode cX3_take 68 = .ok (.iinc 4 1, 3) := by decide +kernel
theorem dX3_take_71 : decode cX3_take 71 = .ok (.goto (-33), 3) := by decide +kernel
theorem dX3_take_74 : decode cX3_take 74 = .ok (.return_, 1) := by decide +kernel
theorem dX3_faultAt_0 : decode cX3_faultAt 0 = .ok (.aload_n 0, 1) := by decide +kernel
theorem dX3_faultAt_1 : decode cX3_faultAt 1 = .ok (.getfield 15, 3) := by decide +kernel
theorem dX3_faultAt_4 : decode cX3_faultAt 4 = .ok (.ifCond .ne 5, 3) := by decide +kernel
theorem dX3_faultAt_7 : decode cX3_faultAt 7 = .ok (.iconst 1, 1) := by decide +kernel
theorem dX3_faultAt_8 : decode cX3_faultAt 8 = .ok (.ireturn, 1) := by decide +kernel
theorem dX3_faultAt_9 : decode cX3_faultAt 9 = .ok (.aload_n 0, 1) := by decide +kernel
theorem dX3_faultAt_10 : decode cX3_faultAt 10 = .ok (.getfield 15, 3) := by decide +kernel
theorem dX3_faultAt_13 : decode cX3_faultAt 13 = .ok (.iload_n 1, 1) := by decide +kernel
theorem dX3_faultAt_14 : decode cX3_faultAt 14 = .ok (.if_icmp .eq 5, 3) := by decide +kernel
theorem dX3_faultAt_17 : decode cX3_faultAt 17 = .ok (.iconst 2, 1) := by decide +kernel
theorem dX3_faultAt_18 : decode cX3_faultAt 18 = .ok (.ireturn, 1) := by decide +kernel
theorem dX3_faultAt_19 : decode cX3_faultAt 19 = .ok (.iload_n 2, 1) := by decide +kernel
theorem dX3_faultAt_20 : decode cX3_faultAt 20 = .ok (.ifCond .lt 11, 3) := by decide +kernel
theorem dX3_faultAt_23 : decode cX3_faultAt 23 = .ok (.iload_n 2, 1) := by decide +kernel
theorem dX3_faultAt_24 : decode cX3_faultAt 24 = .ok (.aload_n 0, 1) := by decide +kernel
theorem dX3_faultAt_25 : decode cX3_faultAt 25 = .ok (.getfield 19, 3) := by decide +kernel
theorem dX3_faultAt_28 : decode cX3_faultAt 28 = .ok (.if_icmp .lt 7, 3) := by decide +kernel
theorem dX3_faultAt_31 : decode cX3_faultAt 31 = .ok (.iconst 3, 1) := by decide +kernel
theorem dX3_faultAt_32 : decode cX3_faultAt 32 = .ok (.goto 4, 3) := by decide +kernel
theorem dX3_faultAt_35 : decode cX3_faultAt 35 = .ok (.iconst 0, 1) := by decide +kernel
theorem dX3_faultAt_36 : decode cX3_faultAt 36 = .ok (.ireturn, 1) := by decide +kernel
theorem dX3_item_0 : decode cX3_item 0 = .ok (.iload_n 1, 1) := by decide +kernel
theorem dX3_item_1 : decode cX3_item 1 = .ok (.ifCond .lt 12, 3) := by decide +kernel
theorem dX3_item_4 : decode cX3_item 4 = .ok (.iload_n 1, 1) := by decide +kernel
theorem dX3_item_5 : decode cX3_item 5 = .ok (.aload_n 0, 1) := by decide +kernel
theorem dX3_item_6 : decode cX3_item 6 = .ok (.getfield 9, 3) := by decide +kernel
theorem dX3_item_9 : decode cX3_item 9 = .ok (.arraylength, 1) := by decide +kernel
theorem dX3_item_10 : decode cX3_item 10 = .ok (.if_icmp .lt 7, 3) := by decide +kernel
theorem dX3_item_13 : decode cX3_item 13 = .ok (.iconst 0, 1) := by decide +kernel
theorem dX3_item_14 : decode cX3_item 14 = .ok (.goto 9, 3) := by decide +kernel
theorem dX3_item_17 : decode cX3_item 17 = .ok (.aload_n 0, 1) := by decide +kernel
theorem dX3_item_18 : decode cX3_item 18 = .ok (.getfield 9, 3) := by decide +kernel
theorem dX3_item_21 : decode cX3_item 21 = .ok (.iload_n 1, 1) := by decide +kernel
theorem dX3_item_22 : decode cX3_item 22 = .ok (.iaload, 1) := by decide +kernel
theorem dX3_item_23 : decode cX3_item 23 = .ok (.ireturn, 1) := by decide +kernel
theorem dX4_init_0 : decode cX4_init 0 = .ok (.aload_n 0, 1) := by decide +kernel
theorem dX4_init_1 : decode cX4_init 1 = .ok (.invokespecial 3, 3) := by decide +kernel
theorem dX4_init_4 : decode cX4_init 4 = .ok (.aload_n 0, 1) := by decide +kernel
theorem dX4_init_5 : decode cX4_init 5 = .ok (.bipush 8, 2) := by decide +kernel
theorem dX4_init_7 : decode cX4_init 7 = .ok (.newarray .int, 2) := by decide +kernel
theorem dX4_init_9 : decode cX4_init 9 = .ok (.putfield 9, 3) := by decide +kernel
theorem dX4_init_12 : decode cX4_init 12 = .ok (.aload_n 0, 1) := by decide +kernel
theorem dX4_init_13 : decode cX4_init 13 = .ok (.bipush (-2), 2) := by decide +kernel
theorem dX4_init_15 : decode cX4_init 15 = .ok (.putfield 15, 3) := by decide +kernel
theorem dX4_init_18 : decode cX4_init 18 = .ok (.return_, 1) := by decide +kernel
theorem dX4_begin_0 : decode cX4_begin 0 = .ok (.iconst 0, 1) := by decide +kernel
theorem dX4_begin_1 : decode cX4_begin 1 = .ok (.istore_n 2, 1) := by decide +kernel
theorem dX4_begin_2 : decode cX4_begin 2 = .ok (.iload_n 2, 1) := by decide +kernel
theorem dX4_begin_3 : decode cX4_begin 3 = .ok (.aload_n 0, 1) := by decide +kernel
theorem dX4_begin_4 : decode cX4_begin 4 = .ok (.getfield 9, 3) := by decide +kernel
theorem dX4_begin_7 : decode cX4_begin 7 = .ok (.arraylength, 1) := by decide +kernel
theorem dX4_begin_8 : decode cX4_begin 8 = .ok (.if_icmp .ge 16, 3) := by decide +kernel
theorem dX4_begin_11 : decode cX4_begin 11 = .ok (.aload_n 0, 1) := by decide +kernel
theorem dX4_begin_12 : decode cX4_begin 12 = .ok (.getfield 9, 3) := by decide +kernel
theorem dX4_begin_15 : decode cX4_begin 15 = .ok (.iload_n 2, 1) := by decide +kernel
theorem dX4_begin_16 : decode cX4_begin 16 = .ok (.iconst 0, 1) := by decide +kernel
theorem dX4_begin_17 : decode cX4_begin 17 = .ok (.iastore, 1) := by decide +kernel
theorem dX4_begin_18 : decode cX4_begin 18 = .ok (.iinc 2 1, 3) := by decide +kernel
theorem dX4_begin_21 : decode cX4_begin 21 = .ok (.goto (-19), 3) := by decide +kernel
theorem dX4_begin_24 : decode cX4_begin 24 = .ok (.aload_n 0, 1) := by decide +kernel
theorem dX4_begin_25 : decode cX4_begin 25 = .ok (.iconst 0, 1) := by decide +kernel
theorem dX4_begin_26 : decode cX4_begin 26 = .ok (.putfield 19, 3) := by decide +kernel
theorem dX4_begin_29 : decode cX4_begin 29 = .ok (.aload_n 0, 1) := by decide +kernel
theorem dX4_begin_30 : decode cX4_begin 30 = .ok (.iload_n 1, 1) := by decide +kernel
theorem dX4_begin_31 : decode cX4_begin 31 = .ok (.putfield 22, 3) := by decide +kernel
theorem dX4_begin_34 : decode cX4_begin 34 = .ok (.aload_n 0, 1) := by decide +kernel
theorem dX4_begin_35 : decode cX4_begin 35 = .ok (.iconst 0, 1) := by decide +kernel
theorem dX4_begin_36 : decode cX4_begin 36 = .ok (.putfield 25, 3) := by decide +kernel
theorem dX4_begin_39 : decode cX4_begin 39 = .ok (.aload_n 0, 1) := by decide +kernel
theorem dX4_begin_40 : decode cX4_begin 40 = .ok (.bipush (-2), 2) := by decide +kernel
theorem dX4_begin_42 : decode cX4_begin 42 = .ok (.putfield 15, 3) := by decide +kernel
theorem dX4_begin_45 : decode cX4_begin 45 = .ok (.return_, 1) := by decide +kernel
theorem dX4_become_0 : decode cX4_become 0 = .ok (.iconst 0, 1) := by decide +kernel
theorem dX4_become_1 : decode cX4_become 1 = .ok (.istore_n 2, 1) := by decide +kernel
theorem dX4_become_2 : decode cX4_become 2 = .ok (.iload_n 2, 1) := by decide +kernel
theorem dX4_become_3 : decode cX4_become 3 = .ok (.aload_n 0, 1) := by decide +kernel
theorem dX4_become_4 : decode cX4_become 4 = .ok (.getfield 9, 3) := by decide +kernel
theorem dX4_become_7 : decode cX4_become 7 = .ok (.arraylength, 1) := by decide +kernel
theorem dX4_become_8 : decode cX4_become 8 = .ok (.if_icmp .ge 20, 3) := by decide +kernel
theorem dX4_become_11 : decode cX4_become 11 = .ok (.aload_n 0, 1) := by decide +kernel
theorem dX4_become_12 : decode cX4_become 12 = .ok (.getfield 9, 3) := by decide +kernel
theorem dX4_become_15 : decode cX4_become 15 = .ok (.iload_n 2, 1) := by decide +kernel
theorem dX4_become_16 : decode cX4_become 16 = .ok (.aload_n 1, 1) := by decide +kernel
theorem dX4_become_17 : decode cX4_become 17 = .ok (.iload_n 2, 1) := by decide +kernel
theorem dX4_become_18 : decode cX4_become 18 = .ok (.invokevirtual 28, 3) := by decide +kernel
theorem dX4_become_21 : decode cX4_become 21 = .ok (.iastore, 1) := by decide +kernel
theorem dX4_become_22 : decode cX4_become 22 = .ok (.iinc 2 1, 3) := by decide +kernel
theorem dX4_become_25 : decode cX4_become 25 = .ok (.goto (-23), 3) := by decide +kernel
theorem dX4_become_28 : decode cX4_become 28 = .ok (.aload_n 0, 1) := by decide +kernel
theorem dX4_become_29 : decode cX4_become 29 = .ok (.aload_n 1, 1) := by decide +kernel
theorem dX4_become_30 : decode cX4_become 30 = .ok (.getfield 19, 3) := by decide +kernel
theorem dX4_become_33 : decode cX4_become 33 = .ok (.putfield 19, 3) := by decide +kernel
theorem dX4_become_36 : decode cX4_become 36 = .ok (.aload_n 0, 1) := by decide +kernel
theorem dX4_become_37 : decode cX4_become 37 = .ok (.aload_n 1, 1) := by decide +kernel
theorem dX4_become_38 : decode cX4_become 38 = .ok (.getfield 22, 3) := by decide +kernel
theorem dX4_become_41 : decode cX4_become 41 = .ok (.putfield 22, 3) := by decide +kernel
theorem dX4_become_44 : decode cX4_become 44 = .ok (.aload_n 0, 1) := by decide +kernel
theorem dX4_become_45 : decode cX4_become 45 = .ok (.aload_n 1, 1) := by decide +kernel
theorem dX4_become_46 : decode cX4_become 46 = .ok (.getfield 25, 3) := by decide +kernel
theorem dX4_become_49 : decode cX4_become 49 = .ok (.putfield 25, 3) := by decide +kernel
theorem dX4_become_52 : decode cX4_become 52 = .ok (.aload_n 0, 1) := by decide +kernel
theorem dX4_become_53 : decode cX4_become 53 = .ok (.aload_n 1, 1) := by decide +kernel
theorem dX4_become_54 : decode cX4_become 54 = .ok (.getfield 15, 3) := by decide +kernel
theorem dX4_become_57 : decode cX4_become 57 = .ok (.putfield 15, 3) := by decide +kernel
theorem dX4_become_60 : decode cX4_become 60 = .ok (.return_, 1) := by decide +kernel
theorem dX4_flag_0 : decode cX4_flag 0 = .ok (.iload_n 1, 1) := by decide +kernel
theorem dX4_flag_1 : decode cX4_flag 1 = .ok (.ifCond .lt 12, 3) := by decide +kernel
theorem dX4_flag_4 : decode cX4_flag 4 = .ok (.iload_n 1, 1) := by decide +kernel
theorem dX4_flag_5 : decode cX4_flag 5 = .ok (.aload_n 0, 1) := by decide +kernel
theorem dX4_flag_6 : decode cX4_flag 6 = .ok (.getfield 9, 3) := by decide +kernel
theorem dX4_flag_9 : decode cX4_flag 9 = .ok (.arraylength, 1) := by decide +kernel
theorem dX4_flag_10 : decode cX4_flag 10 = .ok (.if_icmp .lt 7, 3) := by decide +kernel
theorem dX4_flag_13 : decode cX4_flag 13 = .ok (.iconst 0, 1) := by decide +kernel
theorem dX4_flag_14 : decode cX4_flag 14 = .ok (.goto 9, 3) := by decide +kernel
theorem dX4_flag_17 : decode cX4_flag 17 = .ok (.aload_n 0, 1) := by decide +kernel
theorem dX4_flag_18 : decode cX4_flag 18 = .ok (.getfield 9, 3) := by decide +kernel
theorem dX4_flag_21 : decode cX4_flag 21 = .ok (.iload_n 1, 1) := by decide +kernel
theorem dX4_flag_22 : decode cX4_flag 22 = .ok (.iaload, 1) := by decide +kernel
theorem dX4_flag_23 : decode cX4_flag 23 = .ok (.ireturn, 1) := by decide +kernel
theorem dX4_setFlag_0 : decode cX4_setFlag 0 = .ok (.iload_n 1, 1) := by decide +kernel
theorem dX4_setFlag_1 : decode cX4_setFlag 1 = .ok (.ifCond .lt 19, 3) := by decide +kernel
theorem dX4_setFlag_4 : decode cX4_setFlag 4 = .ok (.iload_n 1, 1) := by decide +kernel
theorem dX4_setFlag_5 : decode cX4_setFlag 5 = .ok (.aload_n 0, 1) := by decide +kernel
theorem dX4_setFlag_6 : decode cX4_setFlag 6 = .ok (.getfield 9, 3) := by decide +kernel
theorem dX4_setFlag_9 : decode cX4_setFlag 9 = .ok (.arraylength, 1) := by decide +kernel
theorem dX4_setFlag_10 : decode cX4_setFlag 10 = .ok (.if_icmp .ge 10, 3) := by decide +kernel
theorem dX4_setFlag_13 : decode cX4_setFlag 13 = .ok (.aload_n 0, 1) := by decide +kernel
theorem dX4_setFlag_14 : decode cX4_setFlag 14 = .ok (.getfield 9, 3) := by decide +kernel
theorem dX4_setFlag_17 : decode cX4_setFlag 17 = .ok (.iload_n 1, 1) := by decide +kernel
theorem dX4_setFlag_18 : decode cX4_setFlag 18 = .ok (.iload_n 2, 1) := by decide +kernel
theorem dX4_setFlag_19 : decode cX4_setFlag 19 = .ok (.iastore, 1) := by decide +kernel
theorem dX4_setFlag_20 : decode cX4_setFlag 20 = .ok (.return_, 1) := by decide +kernel
theorem dX4_hasFlagBelowZero_0 : decode cX4_hasFlagBelowZero 0 = .ok (.iconst 0, 1) := by decide +kernel
theorem dX4_hasFlagBelowZero_1 : decode cX4_hasFlagBelowZero 1 = .ok (.istore_n 1, 1) := by decide +kernel
theorem dX4_hasFlagBelowZero_2 : decode cX4_hasFlagBelowZero 2 = .ok (.iload_n 1, 1) := by decide +kernel
theorem dX4_hasFlagBelowZero_3 : decode cX4_hasFlagBelowZero 3 = .ok (.aload_n 0, 1) := by decide +kernel
theorem dX4_hasFlagBelowZero_4 : decode cX4_hasFlagBelowZero 4 = .ok (.getfield 9, 3) := by decide +kernel
theorem dX4_hasFlagBelowZero_7 : decode cX4_hasFlagBelowZero 7 = .ok (.arraylength, 1) := by decide +kernel
theorem dX4_hasFlagBelowZero_8 : decode cX4_hasFlagBelowZero 8 = .ok (.if_icmp .ge 20, 3) := by decide +kernel
theorem dX4_hasFlagBelowZero_11 : decode cX4_hasFlagBelowZero 11 = .ok (.aload_n 0, 1) := by decide +kernel
theorem dX4_hasFlagBelowZero_12 : decode cX4_hasFlagBelowZero 12 = .ok (.getfield 9, 3) := by decide +kernel
theorem dX4_hasFlagBelowZero_15 : decode cX4_hasFlagBelowZero 15 = .ok (.iload_n 1, 1) := by decide +kernel
theorem dX4_hasFlagBelowZero_16 : decode cX4_hasFlagBelowZero 16 = .ok (.iaload, 1) := by decide +kernel
theorem dX4_hasFlagBelowZero_17 : decode cX4_hasFlagBelowZero 17 = .ok (.ifCond .ge 5, 3) := by decide +kernel
theorem dX4_hasFlagBelowZero_20 : decode cX4_hasFlagBelowZero 20 = .ok (.iconst 1, 1) := by decide +kernel
theorem dX4_hasFlagBelowZero_21 : decode cX4_hasFlagBelowZero 21 = .ok (.ireturn, 1) := by decide +kernel
theorem dX4_hasFlagBelowZero_22 : decode cX4_hasFlagBelowZero 22 = .ok (.iinc 1 1, 3) := by decide +kernel
theorem dX4_hasFlagBelowZero_25 : decode cX4_hasFlagBelowZero 25 = .ok (.goto (-23), 3) := by decide +kernel
theorem dX4_hasFlagBelowZero_28 : decode cX4_hasFlagBelowZero 28 = .ok (.iconst 0, 1) := by decide +kernel
theorem dX4_hasFlagBelowZero_29 : decode cX4_hasFlagBelowZero 29 = .ok (.ireturn, 1) := by decide +kernel
theorem dX5_fits_0 : decode cX5_fits 0 = .ok (.aload_n 3, 1) := by decide +kernel
theorem dX5_fits_1 : decode cX5_fits 1 = .ok (.iload 4, 2) := by decide +kernel
theorem dX5_fits_3 : decode cX5_fits 3 = .ok (.invokevirtual 9, 3) := by decide +kernel
theorem dX5_fits_6 : decode cX5_fits 6 = .ok (.bipush 20, 2) := by decide +kernel
theorem dX5_fits_8 : decode cX5_fits 8 = .ok (.invokestatic 15, 3) := by decide +kernel
theorem dX5_fits_11 : decode cX5_fits 11 = .ok (.istore 5, 2) := by decide +kernel
theorem dX5_fits_13 : decode cX5_fits 13 = .ok (.iconst 1, 1) := by decide +kernel
theorem dX5_fits_14 : decode cX5_fits 14 = .ok (.iload 5, 2) := by decide +kernel
theorem dX5_fits_16 : decode cX5_fits 16 = .ok (.iconst 1, 1) := by decide +kernel
theorem dX5_fits_17 : decode cX5_fits 17 = .ok (.iadd, 1) := by decide +kernel
theorem dX5_fits_18 : decode cX5_fits 18 = .ok (.ishl, 1) := by decide +kernel
theorem dX5_fits_19 : decode cX5_fits 19 = .ok (.iconst 1, 1) := by decide +kernel
theorem dX5_fits_20 : decode cX5_fits 20 = .ok (.isub, 1) := by decide +kernel
theorem dX5_fits_21 : decode cX5_fits 21 = .ok (.istore 6, 2) := by decide +kernel
theorem dX5_fits_23 : decode cX5_fits 23 = .ok (.iconst 1, 1) := by decide +kernel
theorem dX5_fits_24 : decode cX5_fits 24 = .ok (.istore 7, 2) := by decide +kernel
theorem dX5_fits_26 : decode cX5_fits 26 = .ok (.iload_n 1, 1) := by decide +kernel
theorem dX5_fits_27 : decode cX5_fits 27 = .ok (.istore 8, 2) := by decide +kernel
theorem dX5_fits_29 : decode cX5_fits 29 = .ok (.iload 8, 2) := by decide +kernel
theorem dX5_fits_31 : decode cX5_fits 31 = .ok (.iload_n 2, 1) := by decide +kernel
theorem dX5_fits_32 : decode cX5_fits 32 = .ok (.if_icmp .ge 69, 3) := by decide +kernel
theorem dX5_fits_35 : decode cX5_fits 35 = .ok (.aload_n 0, 1) := by decide +kernel
theorem dX5_fits_36 : decode cX5_fits 36 = .ok (.iload 8, 2) := by decide +kernel
theorem dX5_fits_38 : decode cX5_fits 38 = .ok (.iload_n 2, 1) := by decide +kernel
theorem dX5_fits_39 : decode cX5_fits 39 = .ok (.invokestatic 21, 3) := by decide +kernel
theorem dX5_fits_42 : decode cX5_fits 42 = .ok (.iload 8, 2) := by decide +kernel
theorem dX5_fits_44 : decode cX5_fits 44 = .ok (.iconst 1, 1) := by decide +kernel
theorem dX5_fits_45 : decode cX5_fits 45 = .ok (.iadd, 1) := by decide +kernel
theorem dX5_fits_46 : decode cX5_fits 46 = .ok (.invokestatic 27, 3) := by decide +kernel
theorem dX5_fits_49 : decode cX5_fits 49 = .ok (.istore 9, 2) := by decide +kernel
theorem dX5_fits_51 : decode cX5_fits 51 = .ok (.aload_n 0, 1) := by decide +kernel
theorem dX5_fits_52 : decode cX5_fits 52 = .ok (.iload 8, 2) := by decide +kernel
theorem dX5_fits_54 : decode cX5_fits 54 = .ok (.invokevirtual 30, 3) := by decide +kernel
theorem dX5_fits_57 : decode cX5_fits 57 = .ok (.bipush 42, 2) := by decide +kernel
theorem dX5_fits_59 : decode cX5_fits 59 = .ok (.if_icmp .ne 17, 3) := by decide +kernel
theorem dX5_fits_62 : decode cX5_fits 62 = .ok (.iload 7, 2) := by decide +kernel
theorem dX5_fits_64 : decode cX5_fits 64 = .ok (.iload 7, 2) := by decide +kernel
theorem dX5_fits_66 : decode cX5_fits 66 = .ok (.ineg, 1) := by decide +kernel
theorem dX5_fits_67 : decode cX5_fits 67 = .ok (.ior, 1) := by decide +kernel
theorem dX5_fits_68 : decode cX5_fits 68 = .ok (.iload 6, 2) := by decide +kernel
theorem dX5_fits_70 : decode cX5_fits 70 = .ok (.iand, 1) := by decide +kernel
theorem dX5_fits_71 : decode cX5_fits 71 = .ok (.istore 7, 2) := by decide +kernel
theorem dX5_fits_73 : decode cX5_fits 73 = .ok (.goto 21, 3) := by decide +kernel
theorem dX5_fits_76 : decode cX5_fits 76 = .ok (.aload_n 0, 1) := by decide +kernel
theorem dX5_fits_77 : decode cX5_fits 77 = .ok (.iload 8, 2) := by decide +kernel
theorem dX5_fits_79 : decode cX5_fits 79 = .ok (.iload 9, 2) := by decide +kernel
theorem dX5_fits_81 : decode cX5_fits 81 = .ok (.aload_n 3, 1) := by decide +kernel
theorem dX5_fits_82 : decode cX5_fits 82 = .ok (.iload 4, 2) := by decide +kernel
theorem dX5_fits_84 : decode cX5_fits 84 = .ok (.iload 7, 2) := by decide +kernel
theorem dX5_fits_86 : decode cX5_fits 86 = .ok (.invokestatic 35, 3) := by decide +kernel
theorem dX5_fits_89 : decode cX5_fits 89 = .ok (.iload 6, 2) := by decide +kernel
theorem dX5_fits_91 : decode cX5_fits 91 = .ok (.iand, 1) := by decide +kernel
theorem dX5_fits_92 : decode cX5_fits 92 = .ok (.istore 7, 2) := by decide +kernel
theorem dX5_fits_94 : decode cX5_fits 94 = .ok (.iload 9, 2) := by decide +kernel
theorem dX5_fits_96 : decode cX5_fits 96 = .ok (.istore 8, 2) := by decide +kernel
theorem dX5_fits_98 : decode cX5_fits 98 = .ok (.goto (-69), 3) := by decide +kernel
theorem dX5_fits_101 : decode cX5_fits 101 = .ok (.iload 7, 2) := by decide +kernel
theorem dX5_fits_103 : decode cX5_fits 103 = .ok (.iload 5, 2) := by decide +kernel
theorem dX5_fits_105 : decode cX5_fits 105 = .ok (.ishr, 1) := by decide +kernel
theorem dX5_fits_106 : decode cX5_fits 106 = .ok (.iconst 1, 1) := by decide +kernel
theorem dX5_fits_107 : decode cX5_fits 107 = .ok (.iand, 1) := by decide +kernel
theorem dX5_fits_108 : decode cX5_fits 108 = .ok (.ifCond .eq 7, 3) := by decide +kernel
theorem dX5_fits_111 : decode cX5_fits 111 = .ok (.iconst 1, 1) := by decide +kernel
theorem dX5_fits_112 : decode cX5_fits 112 = .ok (.goto 4, 3) := by decide +kernel
theorem dX5_fits_115 : decode cX5_fits 115 = .ok (.iconst 0, 1) := by decide +kernel
theorem dX5_fits_116 : decode cX5_fits 116 = .ok (.ireturn, 1) := by decide +kernel
theorem dX5_partEnd_0 : decode cX5_partEnd 0 = .ok (.aload_n 0, 1) := by decide +kernel
theorem dX5_partEnd_1 : decode cX5_partEnd 1 = .ok (.iload_n 1, 1) := by decide +kernel
theorem dX5_partEnd_2 : decode cX5_partEnd 2 = .ok (.invokevirtual 30, 3) := by decide +kernel
theorem dX5_partEnd_5 : decode cX5_partEnd 5 = .ok (.istore_n 3, 1) := by decide +kernel
theorem dX5_partEnd_6 : decode cX5_partEnd 6 = .ok (.iload_n 3, 1) := by decide +kernel
theorem dX5_partEnd_7 : decode cX5_partEnd 7 = .ok (.bipush 92, 2) := by decide +kernel
theorem dX5_partEnd_9 : decode cX5_partEnd 9 = .ok (.if_icmp .ne 7, 3) := by decide +kernel
theorem dX5_partEnd_12 : decode cX5_partEnd 12 = .ok (.iload_n 1, 1) := by decide +kernel
theorem dX5_partEnd_13 : decode cX5_partEnd 13 = .ok (.iconst 2, 1) := by decide +kernel
theorem dX5_partEnd_14 : decode cX5_partEnd 14 = .ok (.iadd, 1) := by decide +kernel
theorem dX5_partEnd_15 : decode cX5_partEnd 15 = .ok (.ireturn, 1) := by decide +kernel
theorem dX5_partEnd_16 : decode cX5_partEnd 16 = .ok (.iload_n 3, 1) := by decide +kernel
theorem dX5_partEnd_17 : decode cX5_partEnd 17 = .ok (.bipush 91, 2) := by decide +kernel
theorem dX5_partEnd_19 : decode cX5_partEnd 19 = .ok (.if_icmp .eq 7, 3) := by decide +kernel
theorem dX5_partEnd_22 : decode cX5_partEnd 22 = .ok (.iload_n 1, 1) := by decide +kernel
theorem dX5_partEnd_23 : decode cX5_partEnd 23 = .ok (.iconst 1, 1) := by decide +kernel
theorem dX5_partEnd_24 : decode cX5_partEnd 24 = .ok (.iadd, 1) := by decide +kernel
theorem dX5_partEnd_25 : decode cX5_partEnd 25 = .ok (.ireturn, 1) := by decide +kernel
theorem dX5_partEnd_26 : decode cX5_partEnd 26 = .ok (.iload_n 1, 1) := by decide +kernel
theorem dX5_partEnd_27 : decode cX5_partEnd 27 = .ok (.iconst 1, 1) := by decide +kernel
theorem dX5_partEnd_28 : decode cX5_partEnd 28 = .ok (.iadd, 1) := by decide +kernel
theorem dX5_partEnd_29 : decode cX5_partEnd 29 = .ok (.istore 4, 2) := by decide +kernel
theorem dX5_partEnd_31 : decode cX5_partEnd 31 = .ok (.iload 4, 2) := by decide +kernel
theorem dX5_partEnd_33 : decode cX5_partEnd 33 = .ok (.iload_n 2, 1) := by decide +kernel
theorem dX5_partEnd_34 : decode cX5_partEnd 34 = .ok (.if_icmp .ge 20, 3) := by decide +kernel
theorem dX5_partEnd_37 : decode cX5_partEnd 37 = .ok (.aload_n 0, 1) := by decide +kernel
theorem dX5_partEnd_38 : decode cX5_partEnd 38 = .ok (.iload 4, 2) := by decide +kernel
theorem dX5_partEnd_40 : decode cX5_partEnd 40 = .ok (.invokevirtual 30, 3) := by decide +kernel
theorem dX5_partEnd_43 : decode cX5_partEnd 43 = .ok (.bipush 93, 2) := by decide +kernel
theorem dX5_partEnd_45 : decode cX5_partEnd 45 = .ok (.if_icmp .eq 9, 3) := by decide +kernel
theorem dX5_partEnd_48 : decode cX5_partEnd 48 = .ok (.iinc 4 1, 3) := by decide +kernel
theorem dX5_partEnd_51 : decode cX5_partEnd 51 = .ok (.goto (-20), 3) := by decide +kernel
theorem dX5_partEnd_54 : decode cX5_partEnd 54 = .ok (.iload 4, 2) := by decide +kernel
theorem dX5_partEnd_56 : decode cX5_partEnd 56 = .ok (.iconst 1, 1) := by decide +kernel
theorem dX5_partEnd_57 : decode cX5_partEnd 57 = .ok (.iadd, 1) := by decide +kernel
theorem dX5_partEnd_58 : decode cX5_partEnd 58 = .ok (.ireturn, 1) := by decide +kernel
theorem dX5_oneSignFurther_0 : decode cX5_oneSignFurther 0 = .ok (.iconst 0, 1) := by decide +kernel
theorem dX5_oneSignFurther_1 : decode cX5_oneSignFurther 1 = .ok (.istore 6, 2) := by decide +kernel
theorem dX5_oneSignFurther_3 : decode cX5_oneSignFurther 3 = .ok (.iconst 0, 1) := by decide +kernel
theorem dX5_oneSignFurther_4 : decode cX5_oneSignFurther 4 = .ok (.istore 7, 2) := by decide +kernel
theorem dX5_oneSignFurther_6 : decode cX5_oneSignFurther 6 = .ok (.iload 7, 2) := by decide +kernel
theorem dX5_oneSignFurther_8 : decode cX5_oneSignFurther 8 = .ok (.bipush 20, 2) := by decide +kernel
theorem dX5_oneSignFurther_10 : decode cX5_oneSignFurther 10 = .ok (.if_icmp .ge 47, 3) := by decide +kernel
theorem dX5_oneSignFurther_13 : decode cX5_oneSignFurther 13 = .ok (.iload 5, 2) := by decide +kernel
theorem dX5_oneSignFurther_15 : decode cX5_oneSignFurther 15 = .ok (.iload 7, 2) := by decide +kernel
theorem dX5_oneSignFurther_17 : decode cX5_oneSignFurther 17 = .ok (.ishr, 1) := by decide +kernel
theorem dX5_oneSignFurther_18 : decode cX5_oneSignFurther 18 = .ok (.iconst 1, 1) := by decide +kernel
theorem dX5_oneSignFurther_19 : decode cX5_oneSignFurther 19 = .ok (.iand, 1) := by decide +kernel
theorem dX5_oneSignFurther_20 : decode cX5_oneSignFurther 20 = .ok (.ifCond .eq 31, 3) := by decide +kernel
theorem dX5_oneSignFurther_23 : decode cX5_oneSignFurther 23 = .ok (.aload_n 0, 1) := by decide +kernel
theorem dX5_oneSignFurther_24 : decode cX5_oneSignFurther 24 = .ok (.iload_n 1, 1) := by decide +kernel
theorem dX5_oneSignFurther_25 : decode cX5_oneSignFurther 25 = .ok (.iload_n 2, 1) := by decide +kernel
theorem dX5_oneSignFurther_26 : decode cX5_oneSignFurther 26 = .ok (.aload_n 3, 1) := by decide +kernel
theorem dX5_oneSignFurther_27 : decode cX5_oneSignFurther 27 = .ok (.iload 4, 2) := by decide +kernel
theorem dX5_oneSignFurther_29 : decode cX5_oneSignFurther 29 = .ok (.iload 7, 2) := by decide +kernel
theorem dX5_oneSignFurther_31 : decode cX5_oneSignFurther 31 = .ok (.invokevirtual 39, 3) := by decide +kernel
theorem dX5_oneSignFurther_34 : decode cX5_oneSignFurther 34 = .ok (.invokestatic 42, 3) := by decide +kernel
theorem dX5_oneSignFurther_37 : decode cX5_oneSignFurther 37 = .ok (.ifCond .eq 14, 3) := by decide +kernel
theorem dX5_oneSignFurther_40 : decode cX5_oneSignFurther 40 = .ok (.iload 6, 2) := by decide +kernel
theorem dX5_oneSignFurther_42 : decode cX5_oneSignFurther 42 = .ok (.iconst 1, 1) := by decide +kernel
theorem dX5_oneSignFurther_43 : decode cX5_oneSignFurther 43 = .ok (.iload 7, 2) := by decide +kernel
theorem dX5_oneSignFurther_45 : decode cX5_oneSignFurther 45 = .ok (.iconst 1, 1) := by decide +kernel
theorem dX5_oneSignFurther_46 : decode cX5_oneSignFurther 46 = .ok (.iadd, 1) := by decide +kernel
theorem dX5_oneSignFurther_47 : decode cX5_oneSignFurther 47 = .ok (.ishl, 1) := by decide +kernel
theorem dX5_oneSignFurther_48 : decode cX5_oneSignFurther 48 = .ok (.ior, 1) := by decide +kernel
theorem dX5_oneSignFurther_49 : decode cX5_oneSignFurther 49 = .ok (.istore 6, 2) := by decide +kernel
theorem dX5_oneSignFurther_51 : decode cX5_oneSignFurther 51 = .ok (.iinc 7 1, 3) := by decide +kernel
theorem dX5_oneSignFurther_54 : decode cX5_oneSignFurther 54 = .ok (.goto (-48), 3) := by decide +kernel
theorem dX5_oneSignFurther_57 : decode cX5_oneSignFurther 57 = .ok (.iload 6, 2) := by decide +kernel
theorem dX5_oneSignFurther_59 : decode cX5_oneSignFurther 59 = .ok (.ireturn, 1) := by decide +kernel
theorem dX5_takes_0 : decode cX5_takes 0 = .ok (.aload_n 0, 1) := by decide +kernel
theorem dX5_takes_1 : decode cX5_takes 1 = .ok (.iload_n 1, 1) := by decide +kernel
theorem dX5_takes_2 : decode cX5_takes 2 = .ok (.invokevirtual 30, 3) := by decide +kernel
theorem dX5_takes_5 : decode cX5_takes 5 = .ok (.istore 4, 2) := by decide +kernel
theorem dX5_takes_7 : decode cX5_takes 7 = .ok (.iload 4, 2) := by decide +kernel
theorem dX5_takes_9 : decode cX5_takes 9 = .ok (.bipush 46, 2) := by decide +kernel
theorem dX5_takes_11 : decode cX5_takes 11 = .ok (.if_icmp .ne 5, 3) := by decide +kernel
theorem dX5_takes_14 : decode cX5_takes 14 = .ok (.iconst 1, 1) := by decide +kernel
theorem dX5_takes_15 : decode cX5_takes 15 = .ok (.ireturn, 1) := by decide +kernel
theorem dX5_takes_16 : decode cX5_takes 16 = .ok (.iload 4, 2) := by decide +kernel
theorem dX5_takes_18 : decode cX5_takes 18 = .ok (.bipush 92, 2) := by decide +kernel
theorem dX5_takes_20 : decode cX5_takes 20 = .ok (.if_icmp .ne 20, 3) := by decide +kernel
theorem dX5_takes_23 : decode cX5_takes 23 = .ok (.aload_n 0, 1) := by decide +kernel
theorem dX5_takes_24 : decode cX5_takes 24 = .ok (.iload_n 1, 1) := by decide +kernel
theorem dX5_takes_25 : decode cX5_takes 25 = .ok (.iconst 1, 1) := by decide +kernel
theorem dX5_takes_26 : decode cX5_takes 26 = .ok (.iadd, 1) := by decide +kernel
theorem dX5_takes_27 : decode cX5_takes 27 = .ok (.invokevirtual 30, 3) := by decide +kernel
theorem dX5_takes_30 : decode cX5_takes 30 = .ok (.iload_n 3, 1) := by decide +kernel
theorem dX5_takes_31 : decode cX5_takes 31 = .ok (.if_icmp .ne 7, 3) := by decide +kernel
theorem dX5_takes_34 : decode cX5_takes 34 = .ok (.iconst 1, 1) := by decide +kernel
theorem dX5_takes_35 : decode cX5_takes 35 = .ok (.goto 4, 3) := by decide +kernel
theorem dX5_takes_38 : decode cX5_takes 38 = .ok (.iconst 0, 1) := by decide +kernel
theorem dX5_takes_39 : decode cX5_takes 39 = .ok (.ireturn, 1) := by decide +kernel
theorem dX5_takes_40 : decode cX5_takes 40 = .ok (.iload 4, 2) := by decide +kernel
theorem dX5_takes_42 : decode cX5_takes 42 = .ok (.bipush 91, 2) := by decide +kernel
theorem dX5_takes_44 : decode cX5_takes 44 = .ok (.if_icmp .eq 15, 3) := by decide +kernel
theorem dX5_takes_47 : decode cX5_takes 47 = .ok (.iload 4, 2) := by decide +kernel
theorem dX5_takes_49 : decode cX5_takes 49 = .ok (.iload_n 3, 1) := by decide +kernel
theorem dX5_takes_50 : decode cX5_takes 50 = .ok (.if_icmp .ne 7, 3) := by decide +kernel
theorem dX5_takes_53 : decode cX5_takes 53 = .ok (.iconst 1, 1) := by decide +kernel
theorem dX5_takes_54 : decode cX5_takes 54 = .ok (.goto 4, 3) := by decide +kernel
theorem dX5_takes_57 : decode cX5_takes 57 = .ok (.iconst 0, 1) := by decide +kernel
theorem dX5_takes_58 : decode cX5_takes 58 = .ok (.ireturn, 1) := by decide +kernel
theorem dX5_takes_59 : decode cX5_takes 59 = .ok (.iload_n 1, 1) := by decide +kernel
theorem dX5_takes_60 : decode cX5_takes 60 = .ok (.iconst 1, 1) := by decide +kernel
theorem dX5_takes_61 : decode cX5_takes 61 = .ok (.iadd, 1) := by decide +kernel
theorem dX5_takes_62 : decode cX5_takes 62 = .ok (.istore 5, 2) := by decide +kernel
theorem dX5_takes_64 : decode cX5_takes 64 = .ok (.iload 5, 2) := by decide +kernel
theorem dX5_takes_66 : decode cX5_takes 66 = .ok (.iload_n 2, 1) := by decide +kernel
theorem dX5_takes_67 : decode cX5_takes 67 = .ok (.iconst 1, 1) := by decide +kernel
theorem dX5_takes_68 : decode cX5_takes 68 = .ok (.isub, 1) := by decide +kernel
theorem dX5_takes_69 : decode cX5_takes 69 = .ok (.if_icmp .ge 21, 3) := by decide +kernel
theorem dX5_takes_72 : decode cX5_takes 72 = .ok (.aload_n 0, 1) := by decide +kernel
theorem dX5_takes_73 : decode cX5_takes 73 = .ok (.iload 5, 2) := by decide +kernel
theorem dX5_takes_75 : decode cX5_takes 75 = .ok (.invokevirtual 30, 3) := by decide +kernel
theorem dX5_takes_78 : decode cX5_takes 78 = .ok (.iload_n 3, 1) := by decide +kernel
theorem dX5_takes_79 : decode cX5_takes 79 = .ok (.if_icmp .ne 5, 3) := by decide +kernel
theorem dX5_takes_82 : decode cX5_takes 82 = .ok (.iconst 1, 1) := by decide +kernel
theorem dX5_takes_83 : decode cX5_takes 83 = .ok (.ireturn, 1) := by decide +kernel
theorem dX5_takes_84 : decode cX5_takes 84 = .ok (.iinc 5 1, 3) := by decide +kernel
theorem dX5_takes_87 : decode cX5_takes 87 = .ok (.goto (-23), 3) := by decide +kernel
theorem dX5_takes_90 : decode cX5_takes 90 = .ok (.iconst 0, 1) := by decide +kernel
theorem dX5_takes_91 : decode cX5_takes 91 = .ok (.ireturn, 1) := by decide +kernel
theorem dX6_init_0 : decode cX6_init 0 = .ok (.aload_n 0, 1) := by decide +kernel
theorem dX6_init_1 : decode cX6_init 1 = .ok (.invokespecial 1, 3) := by decide +kernel
theorem dX6_init_4 : decode cX6_init 4 = .ok (.return_, 1) := by decide +kernel
theorem dX6_fits_0 : decode cX6_fits 0 = .ok (.aload_n 0, 1) := by decide +kernel
theorem dX6_fits_1 : decode cX6_fits 1 = .ok (.getfield 7, 3) := by decide +kernel
theorem dX6_fits_4 : decode cX6_fits 4 = .ok (.iload_n 2, 1) := by decide +kernel
theorem dX6_fits_5 : decode cX6_fits 5 = .ok (.if_icmp .eq 5, 3) := by decide +kernel
theorem dX6_fits_8 : decode cX6_fits 8 = .ok (.iconst 0, 1) := by decide +kernel
theorem dX6_fits_9 : decode cX6_fits 9 = .ok (.ireturn, 1) := by decide +kernel
theorem dX6_fits_10 : decode cX6_fits 10 = .ok (.aload_n 0, 1) := by decide +kernel
theorem dX6_fits_11 : decode cX6_fits 11 = .ok (.getfield 13, 3) := by decide +kernel
theorem dX6_fits_14 : decode cX6_fits 14 = .ok (.iconst (-1), 1) := by decide +kernel
theorem dX6_fits_15 : decode cX6_fits 15 = .ok (.if_icmp .eq 16, 3) := by decide +kernel
theorem dX6_fits_18 : decode cX6_fits 18 = .ok (.aload_n 0, 1) := by decide +kernel
theorem dX6_fits_19 : decode cX6_fits 19 = .ok (.getfield 13, 3) := by decide +kernel
theorem dX6_fits_22 : decode cX6_fits 22 = .ok (.aload_n 1, 1) := by decide +kernel
theorem dX6_fits_23 : decode cX6_fits 23 = .ok (.getfield 16, 3) := by decide +kernel
theorem dX6_fits_26 : decode cX6_fits 26 = .ok (.if_icmp .eq 5, 3) := by decide +kernel
theorem dX6_fits_29 : decode cX6_fits 29 = .ok (.iconst 0, 1) := by decide +kernel
theorem dX6_fits_30 : decode cX6_fits 30 = .ok (.ireturn, 1) := by decide +kernel
theorem dX6_fits_31 : decode cX6_fits 31 = .ok (.aload_n 0, 1) := by decide +kernel
theorem dX6_fits_32 : decode cX6_fits 32 = .ok (.getfield 19, 3) := by decide +kernel
theorem dX6_fits_35 : decode cX6_fits 35 = .ok (.iconst (-1), 1) := by decide +kernel
theorem dX6_fits_36 : decode cX6_fits 36 = .ok (.if_icmp .eq 18, 3) := by decide +kernel
theorem dX6_fits_39 : decode cX6_fits 39 = .ok (.aload_n 1, 1) := by decide +kernel
theorem dX6_fits_40 : decode cX6_fits 40 = .ok (.aload_n 0, 1) := by decide +kernel
theorem dX6_fits_41 : decode cX6_fits 41 = .ok (.getfield 19, 3) := by decide +kernel
theorem dX6_fits_44 : decode cX6_fits 44 = .ok (.invokevirtual 22, 3) := by decide +kernel
theorem dX6_fits_47 : decode cX6_fits 47 = .ok (.aload_n 0, 1) := by decide +kernel
theorem dX6_fits_48 : decode cX6_fits 48 = .ok (.getfield 25, 3) := by decide +kernel
theorem dX6_fits_51 : decode cX6_fits 51 = .ok (.if_icmp .lt 7, 3) := by decide +kernel
theorem dX6_fits_54 : decode cX6_fits 54 = .ok (.iconst 1, 1) := by decide +kernel
theorem dX6_fits_55 : decode cX6_fits 55 = .ok (.goto 4, 3) := by decide +kernel
theorem dX6_fits_58 : decode cX6_fits 58 = .ok (.iconst 0, 1) := by decide +kernel
theorem dX6_fits_59 : decode cX6_fits 59 = .ok (.ireturn, 1) := by decide +kernel
theorem dX7_init_0 : decode cX7_init 0 = .ok (.aload_n 0, 1) := by decide +kernel
theorem dX7_init_1 : decode cX7_init 1 = .ok (.invokespecial 3, 3) := by decide +kernel
theorem dX7_init_4 : decode cX7_init 4 = .ok (.aload_n 0, 1) := by decide +kernel
theorem dX7_init_5 : decode cX7_init 5 = .ok (.iconst 4, 1) := by decide +kernel
theorem dX7_init_6 : decode cX7_init 6 = .ok (.anewarray 9, 3) := by decide +kernel
theorem dX7_init_9 : decode cX7_init 9 = .ok (.putfield 11, 3) := by decide +kernel
theorem dX7_init_12 : decode cX7_init 12 = .ok (.aload_n 0, 1) := by decide +kernel
theorem dX7_init_13 : decode cX7_init 13 = .ok (.iconst 4, 1) := by decide +kernel
theorem dX7_init_14 : decode cX7_init 14 = .ok (.newarray .boolean, 2) := by decide +kernel
theorem dX7_init_16 : decode cX7_init 16 = .ok (.putfield 17, 3) := by decide +kernel
theorem dX7_init_19 : decode cX7_init 19 = .ok (.aload_n 0, 1) := by decide +kernel
theorem dX7_init_20 : decode cX7_init 20 = .ok (.bipush 40, 2) := by decide +kernel
theorem dX7_init_22 : decode cX7_init 22 = .ok (.newarray .int, 2) := by decide +kernel
theorem dX7_init_24 : decode cX7_init 24 = .ok (.putfield 21, 3) := by decide +kernel
theorem dX7_init_27 : decode cX7_init 27 = .ok (.aload_n 0, 1) := by decide +kernel
theorem dX7_init_28 : decode cX7_init 28 = .ok (.bipush 40, 2) := by decide +kernel
theorem dX7_init_30 : decode cX7_init 30 = .ok (.newarray .int, 2) := by decide +kernel
theorem dX7_init_32 : decode cX7_init 32 = .ok (.putfield 25, 3) := by decide +kernel
theorem dX7_init_35 : decode cX7_init 35 = .ok (.aload_n 0, 1) := by decide +kernel
theorem dX7_init_36 : decode cX7_init 36 = .ok (.aload_n 1, 1) := by decide +kernel
theorem dX7_init_37 : decode cX7_init 37 = .ok (.putfield 28, 3) := by decide +kernel
theorem dX7_init_40 : decode cX7_init 40 = .ok (.aload_n 0, 1) := by decide +kernel
theorem dX7_init_41 : decode cX7_init 41 = .ok (.aload_n 2, 1) := by decide +kernel
theorem dX7_init_42 : decode cX7_init 42 = .ok (.putfield 32, 3) := by decide +kernel
theorem dX7_init_45 : decode cX7_init 45 = .ok (.iconst 0, 1) := by decide +kernel
theorem dX7_init_46 : decode cX7_init 46 = .ok (.istore_n 3, 1) := by decide +kernel
theorem dX7_init_47 : decode cX7_init 47 = .ok (.iload_n 3, 1) := by decide +kernel
theorem dX7_init_48 : decode cX7_init 48 = .ok (.aload_n 0, 1) := by decide +kernel
theorem dX7_init_49 : decode cX7_init 49 = .ok (.getfield 11, 3) := by decide +kernel
theorem dX7_init_52 : decode cX7_init 52 = .ok (.arraylength, 1) := by decide +kernel
theorem dX7_init_53 : decode cX7_init 53 = .ok (.if_icmp .ge 22, 3) := by decide +kernel
theorem dX7_init_56 : decode cX7_init 56 = .ok (.aload_n 0, 1) := by decide +kernel
theorem dX7_init_57 : decode cX7_init 57 = .ok (.getfield 11, 3) := by decide +kernel
theorem dX7_init_60 : decode cX7_init 60 = .ok (.iload_n 3, 1) := by decide +kernel
theorem dX7_init_61 : decode cX7_init 61 = .ok (.new 9, 3) := by decide +kernel
theorem dX7_init_64 : decode cX7_init 64 = .ok (.dup, 1) := by decide +kernel
theorem dX7_init_65 : decode cX7_init 65 = .ok (.invokespecial 36, 3) := by decide +kernel
theorem dX7_init_68 : decode cX7_init 68 = .ok (.aastore, 1) := by decide +kernel
theorem dX7_init_69 : decode cX7_init 69 = .ok (.iinc 3 1, 3) := by decide +kernel
theorem dX7_init_72 : decode cX7_init 72 = .ok (.goto (-25), 3) := by decide +kernel
theorem dX7_init_75 : decode cX7_init 75 = .ok (.return_, 1) := by decide +kernel
theorem dX7_runThrough_0 : decode cX7_runThrough 0 = .ok (.aload_n 0, 1) := by decide +kernel
theorem dX7_runThrough_1 : decode cX7_runThrough 1 = .ok (.getfield 32, 3) := by decide +kernel
theorem dX7_runThrough_4 : decode cX7_runThrough 4 = .ok (.invokevirtual 37, 3) := by decide +kernel
theorem dX7_runThrough_7 : decode cX7_runThrough 7 = .ok (.iconst 0, 1) := by decide +kernel
theorem dX7_runThrough_8 : decode cX7_runThrough 8 = .ok (.istore_n 2, 1) := by decide +kernel
theorem dX7_runThrough_9 : decode cX7_runThrough 9 = .ok (.iload_n 2, 1) := by decide +kernel
theorem dX7_runThrough_10 : decode cX7_runThrough 10 = .ok (.aload_n 0, 1) := by decide +kernel
theorem dX7_runThrough_11 : decode cX7_runThrough 11 = .ok (.getfield 17, 3) := by decide +kernel
theorem dX7_runThrough_14 : decode cX7_runThrough 14 = .ok (.arraylength, 1) := by decide +kernel
theorem dX7_runThrough_15 : decode cX7_runThrough 15 = .ok (.if_icmp .ge 16, 3) := by decide +kernel
theorem dX7_runThrough_18 : decode cX7_runThrough 18 = .ok (.aload_n 0, 1) := by decide +kernel
theorem dX7_runThrough_19 : decode cX7_runThrough 19 = .ok (.getfield 17, 3) := by decide +kernel
theorem dX7_runThrough_22 : decode cX7_runThrough 22 = .ok (.iload_n 2, 1) := by decide +kernel
theorem dX7_runThrough_23 : decode cX7_runThrough 23 = .ok (.iconst 0, 1) := by decide +kernel
theorem dX7_runThrough_24 : decode cX7_runThrough 24 = .ok (.bastore, 1) := by decide +kernel
theorem dX7_runThrough_25 : decode cX7_runThrough 25 = .ok (.iinc 2 1, 3) := by decide +kernel
theorem dX7_runThrough_28 : decode cX7_runThrough 28 = .ok (.goto (-19), 3) := by decide +kernel
theorem dX7_runThrough_31 : decode cX7_runThrough 31 = .ok (.aload_n 0, 1) := by decide +kernel
theorem dX7_runThrough_32 : decode cX7_runThrough 32 = .ok (.iconst 0, 1) := by decide +kernel
theorem dX7_runThrough_33 : decode cX7_runThrough 33 = .ok (.putfield 42, 3) := by decide +kernel
theorem dX7_runThrough_36 : decode cX7_runThrough 36 = .ok (.aload_n 0, 1) := by decide +kernel
theorem dX7_runThrough_37 : decode cX7_runThrough 37 = .ok (.iconst 0, 1) := by decide +kernel
theorem dX7_runThrough_38 : decode cX7_runThrough 38 = .ok (.putfield 46, 3) := by decide +kernel
theorem dX7_runThrough_41 : decode cX7_runThrough 41 = .ok (.iconst 0, 1) := by decide +kernel
theorem dX7_runThrough_42 : decode cX7_runThrough 42 = .ok (.istore_n 2, 1) := by decide +kernel
theorem dX7_runThrough_43 : decode cX7_runThrough 43 = .ok (.iconst 1, 1) := by decide +kernel
theorem dX7_runThrough_44 : decode cX7_runThrough 44 = .ok (.istore_n 3, 1) := by decide +kernel
theorem dX7_runThrough_45 : decode cX7_runThrough 45 = .ok (.iload_n 3, 1) := by decide +kernel
theorem dX7_runThrough_46 : decode cX7_runThrough 46 = .ok (.sipush 600, 3) := by decide +kernel
theorem dX7_runThrough_49 : decode cX7_runThrough 49 = .ok (.if_icmp .gt 79, 3) := by decide +kernel
theorem dX7_runThrough_52 : decode cX7_runThrough 52 = .ok (.iload_n 2, 1) := by decide +kernel
theorem dX7_runThrough_53 : decode cX7_runThrough 53 = .ok (.aload_n 1, 1) := by decide +kernel
theorem dX7_runThrough_54 : decode cX7_runThrough 54 = .ok (.getfield 49, 3) := by decide +kernel
theorem dX7_runThrough_57 : decode cX7_runThrough 57 = .ok (.if_icmp .ge 71, 3) := by decide +kernel
theorem dX7_runThrough_60 : decode cX7_runThrough 60 = .ok (.aload_n 0, 1) := by decide +kernel
theorem dX7_runThrough_61 : decode cX7_runThrough 61 = .ok (.getfield 46, 3) := by decide +kernel
theorem dX7_runThrough_64 : decode cX7_runThrough 64 = .ok (.ifCond .ne 64, 3) := by decide +kernel
theorem dX7_runThrough_67 : decode cX7_runThrough 67 = .ok (.aload_n 1, 1) := by decide +kernel
theorem dX7_runThrough_68 : decode cX7_runThrough 68 = .ok (.iload_n 2, 1) := by decide +kernel
theorem dX7_runThrough_69 : decode cX7_runThrough 69 = .ok (.invokestatic 54, 3) := by decide +kernel
theorem dX7_runThrough_72 : decode cX7_runThrough 72 = .ok (.istore 4, 2) := by decide +kernel
theorem dX7_runThrough_74 : decode cX7_runThrough 74 = .ok (.aload_n 1, 1) := by decide +kernel
theorem dX7_runThrough_75 : decode cX7_runThrough 75 = .ok (.iload_n 2, 1) := by decide +kernel
theorem dX7_runThrough_76 : decode cX7_runThrough 76 = .ok (.invokevirtual 60, 3) := by decide +kernel
theorem dX7_runThrough_79 : decode cX7_runThrough 79 = .ok (.bipush 62, 2) := by decide +kernel
theorem dX7_runThrough_81 : decode cX7_runThrough 81 = .ok (.if_icmp .ne 16, 3) := by decide +kernel
theorem dX7_runThrough_84 : decode cX7_runThrough 84 = .ok (.aload_n 0, 1) := by decide +kernel
theorem dX7_runThrough_85 : decode cX7_runThrough 85 = .ok (.aload_n 1, 1) := by decide +kernel
theorem dX7_runThrough_86 : decode cX7_runThrough 86 = .ok (.iload_n 2, 1) := by decide +kernel
theorem dX7_runThrough_87 : decode cX7_runThrough 87 = .ok (.iconst 2, 1) := by decide +kernel
theorem dX7_runThrough_88 : decode cX7_runThrough 88 = .ok (.iadd, 1) := by decide +kernel
theorem dX7_runThrough_89 : decode cX7_runThrough 89 = .ok (.iload 4, 2) := by decide +kernel
theorem dX7_runThrough_91 : decode cX7_runThrough 91 = .ok (.invokevirtual 64, 3) := by decide +kernel
theorem dX7_runThrough_94 : decode cX7_runThrough 94 = .ok (.goto 11, 3) := by decide +kernel
theorem dX7_runThrough_97 : decode cX7_runThrough 97 = .ok (.aload_n 0, 1) := by decide +kernel
theorem dX7_runThrough_98 : decode cX7_runThrough 98 = .ok (.aload_n 1, 1) := by decide +kernel
theorem dX7_runThrough_99 : decode cX7_runThrough 99 = .ok (.iload_n 2, 1) := by decide +kernel
theorem dX7_runThrough_100 : decode cX7_runThrough 100 = .ok (.iload 4, 2) := by decide +kernel
theorem dX7_runThrough_102 : decode cX7_runThrough 102 = .ok (.invokevirtual 68, 3) := by decide +kernel
theorem dX7_runThrough_105 : decode cX7_runThrough 105 = .ok (.istore 5, 2) := by decide +kernel
theorem dX7_runThrough_107 : decode cX7_runThrough 107 = .ok (.iload 5, 2) := by decide +kernel
theorem dX7_runThrough_109 : decode cX7_runThrough 109 = .ok (.ifCond .ne 8, 3) := by decide +kernel
theorem dX7_runThrough_112 : decode cX7_runThrough 112 = .ok (.aload_n 0, 1) := by decide +kernel
theorem dX7_runThrough_113 : decode cX7_runThrough 113 = .ok (.iload_n 3, 1) := by decide +kernel
theorem dX7_runThrough_114 : decode cX7_runThrough 114 = .ok (.invokevirtual 71, 3) := by decide +kernel
theorem dX7_runThrough_117 : decode cX7_runThrough 117 = .ok (.iload 4, 2) := by decide +kernel
theorem dX7_runThrough_119 : decode cX7_runThrough 119 = .ok (.iconst 1, 1) := by decide +kernel
theorem dX7_runThrough_120 : decode cX7_runThrough 120 = .ok (.iadd, 1) := by decide +kernel
theorem dX7_runThrough_121 : decode cX7_runThrough 121 = .ok (.istore_n 2, 1) := by decide +kernel
theorem dX7_runThrough_122 : decode cX7_runThrough 122 = .ok (.iinc 3 1, 3) := by decide +kernel
theorem dX7_runThrough_125 : decode cX7_runThrough 125 = .ok (.goto (-80), 3) := by decide +kernel
theorem dX7_runThrough_128 : decode cX7_runThrough 128 = .ok (.aload_n 0, 1) := by decide +kernel
theorem dX7_runThrough_129 : decode cX7_runThrough 129 = .ok (.getfield 42, 3) := by decide +kernel
theorem dX7_runThrough_132 : decode cX7_runThrough 132 = .ok (.ireturn, 1) := by decide +kernel
theorem dX7_noteFailed_0 : decode cX7_noteFailed 0 = .ok (.aload_n 0, 1) := by decide +kernel
theorem dX7_noteFailed_1 : decode cX7_noteFailed 1 = .ok (.getfield 42, 3) := by decide +kernel
theorem dX7_noteFailed_4 : decode cX7_noteFailed 4 = .ok (.ifCond .lt 27, 3) := by decide +kernel
theorem dX7_noteFailed_7 : decode cX7_noteFailed 7 = .ok (.aload_n 0, 1) := by decide +kernel
theorem dX7_noteFailed_8 : decode cX7_noteFailed 8 = .ok (.getfield 42, 3) := by decide +kernel
theorem dX7_noteFailed_11 : decode cX7_noteFailed 11 = .ok (.aload_n 0, 1) := by decide +kernel
theorem dX7_noteFailed_12 : decode cX7_noteFailed 12 = .ok (.getfield 21, 3) := by decide +kernel
theorem dX7_noteFailed_15 : decode cX7_noteFailed 15 = .ok (.arraylength, 1) := by decide +kernel
theorem dX7_noteFailed_16 : decode cX7_noteFailed 16 = .ok (.if_icmp .ge 15, 3) := by decide +kernel
theorem dX7_noteFailed_19 : decode cX7_noteFailed 19 = .ok (.aload_n 0, 1) := by decide +kernel
theorem dX7_noteFailed_20 : decode cX7_noteFailed 20 = .ok (.getfield 42, 3) := by decide +kernel
theorem dX7_noteFailed_23 : decode cX7_noteFailed 23 = .ok (.aload_n 0, 1) := by decide +kernel
theorem dX7_noteFailed_24 : decode cX7_noteFailed 24 = .ok (.getfield 25, 3) := by decide +kernel
theorem dX7_noteFailed_27 : decode cX7_noteFailed 27 = .ok (.arraylength, 1) := by decide +kernel
theorem dX7_noteFailed_28 : decode cX7_noteFailed 28 = .ok (.if_icmp .lt 4, 3) := by decide +kernel
theorem dX7_noteFailed_31 : decode cX7_noteFailed 31 = .ok (.return_, 1) := by decide +kernel
theorem dX7_noteFailed_32 : decode cX7_noteFailed 32 = .ok (.aload_n 0, 1) := by decide +kernel
theorem dX7_noteFailed_33 : decode cX7_noteFailed 33 = .ok (.getfield 21, 3) := by decide +kernel
theorem dX7_noteFailed_36 : decode cX7_noteFailed 36 = .ok (.aload_n 0, 1) := by decide +kernel
theorem dX7_noteFailed_37 : decode cX7_noteFailed 37 = .ok (.getfield 42, 3) := by decide +kernel
theorem dX7_noteFailed_40 : decode cX7_noteFailed 40 = .ok (.iload_n 1, 1) := by decide +kernel
theorem dX7_noteFailed_41 : decode cX7_noteFailed 41 = .ok (.iastore, 1) := by decide +kernel
theorem dX7_noteFailed_42 : decode cX7_noteFailed 42 = .ok (.aload_n 0, 1) := by decide +kernel
theorem dX7_noteFailed_43 : decode cX7_noteFailed 43 = .ok (.getfield 25, 3) := by decide +kernel
theorem dX7_noteFailed_46 : decode cX7_noteFailed 46 = .ok (.aload_n 0, 1) := by decide +kernel
theorem dX7_noteFailed_47 : decode cX7_noteFailed 47 = .ok (.getfield 42, 3) := by decide +kernel
theorem dX7_noteFailed_50 : decode cX7_noteFailed 50 = .ok (.aload_n 0, 1) := by decide +kernel
theorem dX7_noteFailed_51 : decode cX7_noteFailed 51 = .ok (.getfield 46, 3) := by decide +kernel
theorem dX7_noteFailed_54 : decode cX7_noteFailed 54 = .ok (.iastore, 1) := by decide +kernel
theorem dX7_noteFailed_55 : decode cX7_noteFailed 55 = .ok (.aload_n 0, 1) := by decide +kernel
theorem dX7_noteFailed_56 : decode cX7_noteFailed 56 = .ok (.dup, 1) := by decide +kernel
theorem dX7_noteFailed_57 : decode cX7_noteFailed 57 = .ok (.getfield 42, 3) := by decide +kernel
theorem dX7_noteFailed_60 : decode cX7_noteFailed 60 = .ok (.iconst 1, 1) := by decide +kernel
theorem dX7_noteFailed_61 : decode cX7_noteFailed 61 = .ok (.iadd, 1) := by decide +kernel
theorem dX7_noteFailed_62 : decode cX7_noteFailed 62 = .ok (.putfield 42, 3) := by decide +kernel
theorem dX7_noteFailed_65 : decode cX7_noteFailed 65 = .ok (.return_, 1) := by decide +kernel
theorem dX7_comesOut_0 : decode cX7_comesOut 0 = .ok (.iload_n 2, 1) := by decide +kernel
theorem dX7_comesOut_1 : decode cX7_comesOut 1 = .ok (.iconst 2, 1) := by decide +kernel
theorem dX7_comesOut_2 : decode cX7_comesOut 2 = .ok (.iadd, 1) := by decide +kernel
theorem dX7_comesOut_3 : decode cX7_comesOut 3 = .ok (.istore 4, 2) := by decide +kernel
theorem dX7_comesOut_5 : decode cX7_comesOut 5 = .ok (.aload_n 1, 1) := by decide +kernel
theorem dX7_comesOut_6 : decode cX7_comesOut 6 = .ok (.iload 4, 2) := by decide +kernel
theorem dX7_comesOut_8 : decode cX7_comesOut 8 = .ok (.invokevirtual 60, 3) := by decide +kernel
theorem dX7_comesOut_11 : decode cX7_comesOut 11 = .ok (.bipush 48, 2) := by decide +kernel
theorem dX7_comesOut_13 : decode cX7_comesOut 13 = .ok (.isub, 1) := by decide +kernel
theorem dX7_comesOut_14 : decode cX7_comesOut 14 = .ok (.istore 5, 2) := by decide +kernel
theorem dX7_comesOut_16 : decode cX7_comesOut 16 = .ok (.aload_n 1, 1) := by decide +kernel
theorem dX7_comesOut_17 : decode cX7_comesOut 17 = .ok (.iload_n 2, 1) := by decide +kernel
theorem dX7_comesOut_18 : decode cX7_comesOut 18 = .ok (.invokevirtual 60, 3) := by decide +kernel
theorem dX7_comesOut_21 : decode cX7_comesOut 21 = .ok (.lookupswitch 190 #[(33, 155), (61, 59), (63, 104), (64, 134), (98, 183), (115, 176)], 59) := by decide +kernel
theorem dX7_comesOut_80 : decode cX7_comesOut 80 = .ok (.aload_n 0, 1) := by decide +kernel
theorem dX7_comesOut_81 : decode cX7_comesOut 81 = .ok (.getfield 32, 3) := by decide +kernel
theorem dX7_comesOut_84 : decode cX7_comesOut 84 = .ok (.getfield 75, 3) := by decide +kernel
theorem dX7_comesOut_87 : decode cX7_comesOut 87 = .ok (.getfield 79, 3) := by decide +kernel
theorem dX7_comesOut_90 : decode cX7_comesOut 90 = .ok (.bipush (-2), 2) := by decide +kernel
theorem dX7_comesOut_92 : decode cX7_comesOut 92 = .ok (.if_icmp .eq 31, 3) := by decide +kernel
theorem dX7_comesOut_95 : decode cX7_comesOut 95 = .ok (.aload_n 1, 1) := by decide +kernel
theorem dX7_comesOut_96 : decode cX7_comesOut 96 = .ok (.iload 4, 2) := by decide +kernel
theorem dX7_comesOut_98 : decode cX7_comesOut 98 = .ok (.iload_n 3, 1) := by decide +kernel
theorem dX7_comesOut_99 : decode cX7_comesOut 99 = .ok (.aload_n 0, 1) := by decide +kernel
theorem dX7_comesOut_100 : decode cX7_comesOut 100 = .ok (.getfield 28, 3) := by decide +kernel
theorem dX7_comesOut_103 : decode cX7_comesOut 103 = .ok (.aload_n 0, 1) := by decide +kernel
theorem dX7_comesOut_104 : decode cX7_comesOut 104 = .ok (.getfield 32, 3) := by decide +kernel
theorem dX7_comesOut_107 : decode cX7_comesOut 107 = .ok (.getfield 75, 3) := by decide +kernel
theorem dX7_comesOut_110 : decode cX7_comesOut 110 = .ok (.getfield 79, 3) := by decide +kernel
theorem dX7_comesOut_113 : decode cX7_comesOut 113 = .ok (.invokestatic 82, 3) := by decide +kernel
theorem dX7_comesOut_116 : decode cX7_comesOut 116 = .ok (.ifCond .eq 7, 3) := by decide +kernel
theorem dX7_comesOut_119 : decode cX7_comesOut 119 = .ok (.iconst 1, 1) := by decide +kernel
theorem dX7_comesOut_120 : decode cX7_comesOut 120 = .ok (.goto 4, 3) := by decide +kernel
theorem dX7_comesOut_123 : decode cX7_comesOut 123 = .ok (.iconst 0, 1) := by decide +kernel
theorem dX7_comesOut_124 : decode cX7_comesOut 124 = .ok (.ireturn, 1) := by decide +kernel
theorem dX7_comesOut_125 : decode cX7_comesOut 125 = .ok (.aload_n 0, 1) := by decide +kernel
theorem dX7_comesOut_126 : decode cX7_comesOut 126 = .ok (.getfield 32, 3) := by decide +kernel
theorem dX7_comesOut_129 : decode cX7_comesOut 129 = .ok (.getfield 75, 3) := by decide +kernel
theorem dX7_comesOut_132 : decode cX7_comesOut 132 = .ok (.iload 5, 2) := by decide +kernel
theorem dX7_comesOut_134 : decode cX7_comesOut 134 = .ok (.invokevirtual 88, 3) := by decide +kernel
theorem dX7_comesOut_137 : decode cX7_comesOut 137 = .ok (.aload_n 1, 1) := by decide +kernel
theorem dX7_comesOut_138 : decode cX7_comesOut 138 = .ok (.iload 4, 2) := by decide +kernel
theorem dX7_comesOut_140 : decode cX7_comesOut 140 = .ok (.iconst 2, 1) := by decide +kernel
theorem dX7_comesOut_141 : decode cX7_comesOut 141 = .ok (.iadd, 1) := by decide +kernel
theorem dX7_comesOut_142 : decode cX7_comesOut 142 = .ok (.iload_n 3, 1) := by decide +kernel
theorem dX7_comesOut_143 : decode cX7_comesOut 143 = .ok (.invokestatic 91, 3) := by decide +kernel
theorem dX7_comesOut_146 : decode cX7_comesOut 146 = .ok (.if_icmp .ne 7, 3) := by decide +kernel
theorem dX7_comesOut_149 : decode cX7_comesOut 149 = .ok (.iconst 1, 1) := by decide +kernel
theorem dX7_comesOut_150 : decode cX7_comesOut 150 = .ok (.goto 4, 3) := by decide +kernel
theorem dX7_comesOut_153 : decode cX7_comesOut 153 = .ok (.iconst 0, 1) := by decide +kernel
theorem dX7_comesOut_154 : decode cX7_comesOut 154 = .ok (.ireturn, 1) := by decide +kernel
theorem dX7_comesOut_155 : decode cX7_comesOut 155 = .ok (.aload_n 0, 1) := by decide +kernel
theorem dX7_comesOut_156 : decode cX7_comesOut 156 = .ok (.getfield 32, 3) := by decide +kernel
theorem dX7_comesOut_159 : decode cX7_comesOut 159 = .ok (.getfield 75, 3) := by decide +kernel
theorem dX7_comesOut_162 : decode cX7_comesOut 162 = .ok (.getfield 95, 3) := by decide +kernel
theorem dX7_comesOut_165 : decode cX7_comesOut 165 = .ok (.iload 5, 2) := by decide +kernel
theorem dX7_comesOut_167 : decode cX7_comesOut 167 = .ok (.if_icmp .ne 7, 3) := by decide +kernel
theorem dX7_comesOut_170 : decode cX7_comesOut 170 = .ok (.iconst 1, 1) := by decide +kernel
theorem dX7_comesOut_171 : decode cX7_comesOut 171 = .ok (.goto 4, 3) := by decide +kernel
theorem dX7_comesOut_174 : decode cX7_comesOut 174 = .ok (.iconst 0, 1) := by decide +kernel
theorem dX7_comesOut_175 : decode cX7_comesOut 175 = .ok (.ireturn, 1) := by decide +kernel
theorem dX7_comesOut_176 : decode cX7_comesOut 176 = .ok (.aload_n 0, 1) := by decide +kernel
theorem dX7_comesOut_177 : decode cX7_comesOut 177 = .ok (.getfield 32, 3) := by decide +kernel
theorem dX7_comesOut_180 : decode cX7_comesOut 180 = .ok (.getfield 75, 3) := by decide +kernel
theorem dX7_comesOut_183 : decode cX7_comesOut 183 = .ok (.getfield 98, 3) := by decide +kernel
theorem dX7_comesOut_186 : decode cX7_comesOut 186 = .ok (.iload 5, 2) := by decide +kernel
theorem dX7_comesOut_188 : decode cX7_comesOut 188 = .ok (.if_icmp .ne 7, 3) := by decide +kernel
theorem dX7_comesOut_191 : decode cX7_comesOut 191 = .ok (.iconst 1, 1) := by decide +kernel
theorem dX7_comesOut_192 : decode cX7_comesOut 192 = .ok (.goto 4, 3) := by decide +kernel
theorem dX7_comesOut_195 : decode cX7_comesOut 195 = .ok (.iconst 0, 1) := by decide +kernel
theorem dX7_comesOut_196 : decode cX7_comesOut 196 = .ok (.ireturn, 1) := by decide +kernel
theorem dX7_comesOut_197 : decode cX7_comesOut 197 = .ok (.aload_n 0, 1) := by decide +kernel
theorem dX7_comesOut_198 : decode cX7_comesOut 198 = .ok (.iload 5, 2) := by decide +kernel
theorem dX7_comesOut_200 : decode cX7_comesOut 200 = .ok (.invokevirtual 101, 3) := by decide +kernel
theorem dX7_comesOut_203 : decode cX7_comesOut 203 = .ok (.ireturn, 1) := by decide +kernel
theorem dX7_comesOut_204 : decode cX7_comesOut 204 = .ok (.aload_n 0, 1) := by decide +kernel
theorem dX7_comesOut_205 : decode cX7_comesOut 205 = .ok (.iload 5, 2) := by decide +kernel
theorem dX7_comesOut_207 : decode cX7_comesOut 207 = .ok (.invokevirtual 105, 3) := by decide +kernel
theorem dX7_comesOut_210 : decode cX7_comesOut 210 = .ok (.ireturn, 1) := by decide +kernel
theorem dX7_comesOut_211 : decode cX7_comesOut 211 = .ok (.iconst 1, 1) := by decide +kernel
theorem dX7_comesOut_212 : decode cX7_comesOut 212 = .ok (.ireturn, 1) := by decide +kernel
theorem dX7_saysAll_0 : decode cX7_saysAll 0 = .ok (.iload_n 2, 1) := by decide +kernel
theorem dX7_saysAll_1 : decode cX7_saysAll 1 = .ok (.istore 4, 2) := by decide +kernel
theorem dX7_saysAll_3 : decode cX7_saysAll 3 = .ok (.iload 4, 2) := by decide +kernel
theorem dX7_saysAll_5 : decode cX7_saysAll 5 = .ok (.iload_n 3, 1) := by decide +kernel
theorem dX7_saysAll_6 : decode cX7_saysAll 6 = .ok (.if_icmp .ge 77, 3) := by decide +kernel
theorem dX7_saysAll_9 : decode cX7_saysAll 9 = .ok (.aload_n 1, 1) := by decide +kernel
theorem dX7_saysAll_10 : decode cX7_saysAll 10 = .ok (.iload 4, 2) := by decide +kernel
theorem dX7_saysAll_12 : decode cX7_saysAll 12 = .ok (.invokestatic 108, 3) := by decide +kernel
theorem dX7_saysAll_15 : decode cX7_saysAll 15 = .ok (.istore 5, 2) := by decide +kernel
theorem dX7_saysAll_17 : decode cX7_saysAll 17 = .ok (.iload 5, 2) := by decide +kernel
theorem dX7_saysAll_19 : decode cX7_saysAll 19 = .ok (.iload 4, 2) := by decide +kernel
theorem dX7_saysAll_21 : decode cX7_saysAll 21 = .ok (.if_icmp .le 16, 3) := by decide +kernel
theorem dX7_saysAll_24 : decode cX7_saysAll 24 = .ok (.aload_n 0, 1) := by decide +kernel
theorem dX7_saysAll_25 : decode cX7_saysAll 25 = .ok (.getfield 32, 3) := by decide +kernel
theorem dX7_saysAll_28 : decode cX7_saysAll 28 = .ok (.getfield 75, 3) := by decide +kernel
theorem dX7_saysAll_31 : decode cX7_saysAll 31 = .ok (.getfield 98, 3) := by decide +kernel
theorem dX7_saysAll_34 : decode cX7_saysAll 34 = .ok (.ifCond .eq 5, 3) := by decide +kernel
theorem dX7_saysAll_37 : decode cX7_saysAll 37 = .ok (.iconst 0, 1) := by decide +kernel
theorem dX7_saysAll_38 : decode cX7_saysAll 38 = .ok (.ireturn, 1) := by decide +kernel
theorem dX7_saysAll_39 : decode cX7_saysAll 39 = .ok (.aload_n 0, 1) := by decide +kernel
theorem dX7_saysAll_40 : decode cX7_saysAll 40 = .ok (.aload_n 0, 1) := by decide +kernel
theorem dX7_saysAll_41 : decode cX7_saysAll 41 = .ok (.getfield 32, 3) := by decide +kernel
theorem dX7_saysAll_44 : decode cX7_saysAll 44 = .ok (.aload_n 0, 1) := by decide +kernel
theorem dX7_saysAll_45 : decode cX7_saysAll 45 = .ok (.getfield 28, 3) := by decide +kernel
theorem dX7_saysAll_48 : decode cX7_saysAll 48 = .ok (.getfield 111, 3) := by decide +kernel
theorem dX7_saysAll_51 : decode cX7_saysAll 51 = .ok (.aload_n 1, 1) := by decide +kernel
theorem dX7_saysAll_52 : decode cX7_saysAll 52 = .ok (.iload 4, 2) := by decide +kernel
theorem dX7_saysAll_54 : decode cX7_saysAll 54 = .ok (.iload 5, 2) := by decide +kernel
theorem dX7_saysAll_56 : decode cX7_saysAll 56 = .ok (.invokevirtual 117, 3) := by decide +kernel
theorem dX7_saysAll_59 : decode cX7_saysAll 59 = .ok (.invokevirtual 122, 3) := by decide +kernel
theorem dX7_saysAll_62 : decode cX7_saysAll 62 = .ok (.putfield 46, 3) := by decide +kernel
theorem dX7_saysAll_65 : decode cX7_saysAll 65 = .ok (.aload_n 0, 1) := by decide +kernel
theorem dX7_saysAll_66 : decode cX7_saysAll 66 = .ok (.getfield 46, 3) := by decide +kernel
theorem dX7_saysAll_69 : decode cX7_saysAll 69 = .ok (.ifCond .eq 5, 3) := by decide +kernel
theorem dX7_saysAll_72 : decode cX7_saysAll 72 = .ok (.iconst 0, 1) := by decide +kernel
theorem dX7_saysAll_73 : decode cX7_saysAll 73 = .ok (.ireturn, 1) := by decide +kernel
theorem dX7_saysAll_74 : decode cX7_saysAll 74 = .ok (.iload 5, 2) := by decide +kernel
theorem dX7_saysAll_76 : decode cX7_saysAll 76 = .ok (.iconst 1, 1) := by decide +kernel
theorem dX7_saysAll_77 : decode cX7_saysAll 77 = .ok (.iadd, 1) := by decide +kernel
theorem dX7_saysAll_78 : decode cX7_saysAll 78 = .ok (.istore 4, 2) := by decide +kernel
theorem dX7_saysAll_80 : decode cX7_saysAll 80 = .ok (.goto (-77), 3) := by decide +kernel
theorem dX7_saysAll_83 : decode cX7_saysAll 83 = .ok (.iconst 1, 1) := by decide +kernel
theorem dX7_saysAll_84 : decode cX7_saysAll 84 = .ok (.ireturn, 1) := by decide +kernel
theorem dX7_numberAt_0 : decode cX7_numberAt 0 = .ok (.aload_n 0, 1) := by decide +kernel
theorem dX7_numberAt_1 : decode cX7_numberAt 1 = .ok (.iload_n 1, 1) := by decide +kernel
theorem dX7_numberAt_2 : decode cX7_numberAt 2 = .ok (.invokevirtual 60, 3) := by decide +kernel
theorem dX7_numberAt_5 : decode cX7_numberAt 5 = .ok (.bipush 45, 2) := by decide +kernel
theorem dX7_numberAt_7 : decode cX7_numberAt 7 = .ok (.if_icmp .ne 7, 3) := by decide +kernel
theorem dX7_numberAt_10 : decode cX7_numberAt 10 = .ok (.iconst 1, 1) := by decide +kernel
theorem dX7_numberAt_11 : decode cX7_numberAt 11 = .ok (.goto 4, 3) := by decide +kernel
theorem dX7_numberAt_14 : decode cX7_numberAt 14 = .ok (.iconst 0, 1) := by decide +kernel
theorem dX7_numberAt_15 : decode cX7_numberAt 15 = .ok (.istore_n 3, 1) := by decide +kernel
theorem dX7_numberAt_16 : decode cX7_numberAt 16 = .ok (.iconst 0, 1) := by decide +kernel
theorem dX7_numberAt_17 : decode cX7_numberAt 17 = .ok (.istore 4, 2) := by decide +kernel
theorem dX7_numberAt_19 : decode cX7_numberAt 19 = .ok (.iload_n 3, 1) := by decide +kernel
theorem dX7_numberAt_20 : decode cX7_numberAt 20 = .ok (.ifCond .eq 9, 3) := by decide +kernel
theorem dX7_numberAt_23 : decode cX7_numberAt 23 = .ok (.iload_n 1, 1) := by decide +kernel
theorem dX7_numberAt_24 : decode cX7_numberAt 24 = .ok (.iconst 1, 1) := by decide +kernel
theorem dX7_numberAt_25 : decode cX7_numberAt 25 = .ok (.iadd, 1) := by decide +kernel
theorem dX7_numberAt_26 : decode cX7_numberAt 26 = .ok (.goto 4, 3) := by decide +kernel
theorem dX7_numberAt_29 : decode cX7_numberAt 29 = .ok (.iload_n 1, 1) := by decide +kernel
theorem dX7_numberAt_30 : decode cX7_numberAt 30 = .ok (.istore 5, 2) := by decide +kernel
theorem dX7_numberAt_32 : decode cX7_numberAt 32 = .ok (.iload 5, 2) := by decide +kernel
theorem dX7_numberAt_34 : decode cX7_numberAt 34 = .ok (.iload_n 2, 1) := by decide +kernel
theorem dX7_numberAt_35 : decode cX7_numberAt 35 = .ok (.if_icmp .ge 26, 3) := by decide +kernel
theorem dX7_numberAt_38 : decode cX7_numberAt 38 = .ok (.iload 4, 2) := by decide +kernel
theorem dX7_numberAt_40 : decode cX7_numberAt 40 = .ok (.bipush 10, 2) := by decide +kernel
theorem dX7_numberAt_42 : decode cX7_numberAt 42 = .ok (.imul, 1) := by decide +kernel
theorem dX7_numberAt_43 : decode cX7_numberAt 43 = .ok (.aload_n 0, 1) := by decide +kernel
theorem dX7_numberAt_44 : decode cX7_numberAt 44 = .ok (.iload 5, 2) := by decide +kernel
theorem dX7_numberAt_46 : decode cX7_numberAt 46 = .ok (.invokevirtual 60, 3) := by decide +kernel
theorem dX7_numberAt_49 : decode cX7_numberAt 49 = .ok (.iadd, 1) := by decide +kernel
theorem dX7_numberAt_50 : decode cX7_numberAt 50 = .ok (.bipush 48, 2) := by decide +kernel
theorem dX7_numberAt_52 : decode cX7_numberAt 52 = .ok (.isub, 1) := by decide +kernel
theorem dX7_numberAt_53 : decode cX7_numberAt 53 = .ok (.istore 4, 2) := by decide +kernel
theorem dX7_numberAt_55 : decode cX7_numberAt 55 = .ok (.iinc 5 1, 3) := by decide +kernel
theorem dX7_numberAt_58 : decode cX7_numberAt 58 = .ok (.goto (-26), 3) := by decide +kernel
theorem dX7_numberAt_61 : decode cX7_numberAt 61 = .ok (.iload_n 3, 1) := by decide +kernel
theorem dX7_numberAt_62 : decode cX7_numberAt 62 = .ok (.ifCond .eq 9, 3) := by decide +kernel
theorem dX7_numberAt_65 : decode cX7_numberAt 65 = .ok (.iload 4, 2) := by decide +kernel
theorem dX7_numberAt_67 : decode cX7_numberAt 67 = .ok (.ineg, 1) := by decide +kernel
theorem dX7_numberAt_68 : decode cX7_numberAt 68 = .ok (.goto 5, 3) := by decide +kernel
theorem dX7_numberAt_71 : decode cX7_numberAt 71 = .ok (.iload 4, 2) := by decide +kernel
theorem dX7_numberAt_73 : decode cX7_numberAt 73 = .ok (.ireturn, 1) := by decide +kernel
theorem dX7_keepPoint_0 : decode cX7_keepPoint 0 = .ok (.iload_n 1, 1) := by decide +kernel
theorem dX7_keepPoint_1 : decode cX7_keepPoint 1 = .ok (.ifCond .lt 21, 3) := by decide +kernel
theorem dX7_keepPoint_4 : decode cX7_keepPoint 4 = .ok (.iload_n 1, 1) := by decide +kernel
theorem dX7_keepPoint_5 : decode cX7_keepPoint 5 = .ok (.aload_n 0, 1) := by decide +kernel
theorem dX7_keepPoint_6 : decode cX7_keepPoint 6 = .ok (.getfield 11, 3) := by decide +kernel
theorem dX7_keepPoint_9 : decode cX7_keepPoint 9 = .ok (.arraylength, 1) := by decide +kernel
theorem dX7_keepPoint_10 : decode cX7_keepPoint 10 = .ok (.if_icmp .ge 12, 3) := by decide +kernel
theorem dX7_keepPoint_13 : decode cX7_keepPoint 13 = .ok (.iload_n 1, 1) := by decide +kernel
theorem dX7_keepPoint_14 : decode cX7_keepPoint 14 = .ok (.aload_n 0, 1) := by decide +kernel
theorem dX7_keepPoint_15 : decode cX7_keepPoint 15 = .ok (.getfield 17, 3) := by decide +kernel
theorem dX7_keepPoint_18 : decode cX7_keepPoint 18 = .ok (.arraylength, 1) := by decide +kernel
theorem dX7_keepPoint_19 : decode cX7_keepPoint 19 = .ok (.if_icmp .lt 5, 3) := by decide +kernel
theorem dX7_keepPoint_22 : decode cX7_keepPoint 22 = .ok (.iconst 0, 1) := by decide +kernel
theorem dX7_keepPoint_23 : decode cX7_keepPoint 23 = .ok (.ireturn, 1) := by decide +kernel
theorem dX7_keepPoint_24 : decode cX7_keepPoint 24 = .ok (.aload_n 0, 1) := by decide +kernel
theorem dX7_keepPoint_25 : decode cX7_keepPoint 25 = .ok (.getfield 11, 3) := by decide +kernel
theorem dX7_keepPoint_28 : decode cX7_keepPoint 28 = .ok (.iload_n 1, 1) := by decide +kernel
theorem dX7_keepPoint_29 : decode cX7_keepPoint 29 = .ok (.aaload, 1) := by decide +kernel
theorem dX7_keepPoint_30 : decode cX7_keepPoint 30 = .ok (.aload_n 0, 1) := by decide +kernel
theorem dX7_keepPoint_31 : decode cX7_keepPoint 31 = .ok (.getfield 32, 3) := by decide +kernel
theorem dX7_keepPoint_34 : decode cX7_keepPoint 34 = .ok (.getfield 75, 3) := by decide +kernel
theorem dX7_keepPoint_37 : decode cX7_keepPoint 37 = .ok (.invokevirtual 125, 3) := by decide +kernel
theorem dX7_keepPoint_40 : decode cX7_keepPoint 40 = .ok (.aload_n 0, 1) := by decide +kernel
theorem dX7_keepPoint_41 : decode cX7_keepPoint 41 = .ok (.getfield 17, 3) := by decide +kernel
theorem dX7_keepPoint_44 : decode cX7_keepPoint 44 = .ok (.iload_n 1, 1) := by decide +kernel
theorem dX7_keepPoint_45 : decode cX7_keepPoint 45 = .ok (.iconst 1, 1) := by decide +kernel
theorem dX7_keepPoint_46 : decode cX7_keepPoint 46 = .ok (.bastore, 1) := by decide +kernel
theorem dX7_keepPoint_47 : decode cX7_keepPoint 47 = .ok (.iconst 1, 1) := by decide +kernel
theorem dX7_keepPoint_48 : decode cX7_keepPoint 48 = .ok (.ireturn, 1) := by decide +kernel
theorem dX7_goBack_0 : decode cX7_goBack 0 = .ok (.iload_n 1, 1) := by decide +kernel
theorem dX7_goBack_1 : decode cX7_goBack 1 = .ok (.ifCond .lt 30, 3) := by decide +kernel
theorem dX7_goBack_4 : decode cX7_goBack 4 = .ok (.iload_n 1, 1) := by decide +kernel
theorem dX7_goBack_5 : decode cX7_goBack 5 = .ok (.aload_n 0, 1) := by decide +kernel
theorem dX7_goBack_6 : decode cX7_goBack 6 = .ok (.getfield 11, 3) := by decide +kernel
theorem dX7_goBack_9 : decode cX7_goBack 9 = .ok (.arraylength, 1) := by decide +kernel
theorem dX7_goBack_10 : decode cX7_goBack 10 = .ok (.if_icmp .ge 21, 3) := by decide +kernel
theorem dX7_goBack_13 : decode cX7_goBack 13 = .ok (.iload_n 1, 1) := by decide +kernel
theorem dX7_goBack_14 : decode cX7_goBack 14 = .ok (.aload_n 0, 1) := by decide +kernel
theorem dX7_goBack_15 : decode cX7_goBack 15 = .ok (.getfield 17, 3) := by decide +kernel
theorem dX7_goBack_18 : decode cX7_goBack 18 = .ok (.arraylength, 1) := by decide +kernel
theorem dX7_goBack_19 : decode cX7_goBack 19 = .ok (.if_icmp .ge 12, 3) := by decide +kernel
theorem dX7_goBack_22 : decode cX7_goBack 22 = .ok (.aload_n 0, 1) := by decide +kernel
theorem dX7_goBack_23 : decode cX7_goBack 23 = .ok (.getfield 17, 3) := by decide +kernel
end
section
theorem dX7_goBack_26 : decode cX7_goBack 26 = .ok (.iload_n 1, 1) := by decide +kernel
theorem dX7_goBack_27 : decode cX7_goBack 27 = .ok (.baload, 1) := by decide +kernel
theorem dX7_goBack_28 : decode cX7_goBack 28 = .ok (.ifCond .ne 5, 3) := by decide +kernel
theorem dX7_goBack_31 : decode cX7_goBack 31 = .ok (.iconst 0, 1) := by decide +kernel
theorem dX7_goBack_32 : decode cX7_goBack 32 = .ok (.ireturn, 1) := by decide +kernel
theorem dX7_goBack_33 : decode cX7_goBack 33 = .ok (.aload_n 0, 1) := by decide +kernel
theorem dX7_goBack_34 : decode cX7_goBack 34 = .ok (.getfield 32, 3) := by decide +kernel
theorem dX7_goBack_37 : decode cX7_goBack 37 = .ok (.getfield 75, 3) := by decide +kernel
theorem dX7_goBack_40 : decode cX7_goBack 40 = .ok (.aload_n 0, 1) := by decide +kernel
theorem dX7_goBack_41 : decode cX7_goBack 41 = .ok (.getfield 11, 3) := by decide +kernel
theorem dX7_goBack_44 : decode cX7_goBack 44 = .ok (.iload_n 1, 1) := by decide +kernel
theorem dX7_goBack_45 : decode cX7_goBack 45 = .ok (.aaload, 1) := by decide +kernel
theorem dX7_goBack_46 : decode cX7_goBack 46 = .ok (.invokevirtual 125, 3) := by decide +kernel
theorem dX7_goBack_49 : decode cX7_goBack 49 = .ok (.iconst 1, 1) := by decide +kernel
theorem dX7_goBack_50 : decode cX7_goBack 50 = .ok (.ireturn, 1) := by decide +kernel
theorem dX8_init_0 : decode cX8_init 0 = .ok (.aload_n 0, 1) := by decide +kernel
theorem dX8_init_1 : decode cX8_init 1 = .ok (.invokespecial 3, 3) := by decide +kernel
theorem dX8_init_4 : decode cX8_init 4 = .ok (.aload_n 0, 1) := by decide +kernel
theorem dX8_init_5 : decode cX8_init 5 = .ok (.new 9, 3) := by decide +kernel
theorem dX8_init_8 : decode cX8_init 8 = .ok (.dup, 1) := by decide +kernel
theorem dX8_init_9 : decode cX8_init 9 = .ok (.invokespecial 11, 3) := by decide +kernel
theorem dX8_init_12 : decode cX8_init 12 = .ok (.putfield 12, 3) := by decide +kernel
theorem dX8_init_15 : decode cX8_init 15 = .ok (.aload_n 0, 1) := by decide +kernel
theorem dX8_init_16 : decode cX8_init 16 = .ok (.bipush 30, 2) := by decide +kernel
theorem dX8_init_18 : decode cX8_init 18 = .ok (.newarray .int, 2) := by decide +kernel
theorem dX8_init_20 : decode cX8_init 20 = .ok (.putfield 18, 3) := by decide +kernel
theorem dX8_init_23 : decode cX8_init 23 = .ok (.aload_n 0, 1) := by decide +kernel
theorem dX8_init_24 : decode cX8_init 24 = .ok (.bipush 25, 2) := by decide +kernel
theorem dX8_init_26 : decode cX8_init 26 = .ok (.newarray .int, 2) := by decide +kernel
theorem dX8_init_28 : decode cX8_init 28 = .ok (.putfield 22, 3) := by decide +kernel
theorem dX8_init_31 : decode cX8_init 31 = .ok (.aload_n 0, 1) := by decide +kernel
theorem dX8_init_32 : decode cX8_init 32 = .ok (.aload_n 1, 1) := by decide +kernel
theorem dX8_init_33 : decode cX8_init 33 = .ok (.putfield 25, 3) := by decide +kernel
theorem dX8_init_36 : decode cX8_init 36 = .ok (.aload_n 0, 1) := by decide +kernel
theorem dX8_init_37 : decode cX8_init 37 = .ok (.getfield 12, 3) := by decide +kernel
theorem dX8_init_40 : decode cX8_init 40 = .ok (.aload_n 1, 1) := by decide +kernel
theorem dX8_init_41 : decode cX8_init 41 = .ok (.getfield 29, 3) := by decide +kernel
theorem dX8_init_44 : decode cX8_init 44 = .ok (.putfield 35, 3) := by decide +kernel
theorem dX8_init_47 : decode cX8_init 47 = .ok (.return_, 1) := by decide +kernel
theorem dX8_begin_0 : decode cX8_begin 0 = .ok (.aload_n 0, 1) := by decide +kernel
theorem dX8_begin_1 : decode cX8_begin 1 = .ok (.getfield 12, 3) := by decide +kernel
theorem dX8_begin_4 : decode cX8_begin 4 = .ok (.aload_n 0, 1) := by decide +kernel
theorem dX8_begin_5 : decode cX8_begin 5 = .ok (.getfield 25, 3) := by decide +kernel
theorem dX8_begin_8 : decode cX8_begin 8 = .ok (.getfield 29, 3) := by decide +kernel
theorem dX8_begin_11 : decode cX8_begin 11 = .ok (.invokevirtual 38, 3) := by decide +kernel
theorem dX8_begin_14 : decode cX8_begin 14 = .ok (.return_, 1) := by decide +kernel
theorem dX8_hear_0 : decode cX8_hear 0 = .ok (.aload_n 0, 1) := by decide +kernel
theorem dX8_hear_1 : decode cX8_hear 1 = .ok (.getfield 25, 3) := by decide +kernel
theorem dX8_hear_4 : decode cX8_hear 4 = .ok (.aload_n 0, 1) := by decide +kernel
theorem dX8_hear_5 : decode cX8_hear 5 = .ok (.getfield 12, 3) := by decide +kernel
theorem dX8_hear_8 : decode cX8_hear 8 = .ok (.iload_n 1, 1) := by decide +kernel
theorem dX8_hear_9 : decode cX8_hear 9 = .ok (.invokevirtual 42, 3) := by decide +kernel
theorem dX8_hear_12 : decode cX8_hear 12 = .ok (.istore_n 2, 1) := by decide +kernel
theorem dX8_hear_13 : decode cX8_hear 13 = .ok (.aload_n 0, 1) := by decide +kernel
theorem dX8_hear_14 : decode cX8_hear 14 = .ok (.dup, 1) := by decide +kernel
theorem dX8_hear_15 : decode cX8_hear 15 = .ok (.getfield 46, 3) := by decide +kernel
theorem dX8_hear_18 : decode cX8_hear 18 = .ok (.iconst 1, 1) := by decide +kernel
theorem dX8_hear_19 : decode cX8_hear 19 = .ok (.iadd, 1) := by decide +kernel
theorem dX8_hear_20 : decode cX8_hear 20 = .ok (.putfield 46, 3) := by decide +kernel
theorem dX8_hear_23 : decode cX8_hear 23 = .ok (.iload_n 2, 1) := by decide +kernel
theorem dX8_hear_24 : decode cX8_hear 24 = .ok (.iconst (-1), 1) := by decide +kernel
theorem dX8_hear_25 : decode cX8_hear 25 = .ok (.if_icmp .ge 15, 3) := by decide +kernel
theorem dX8_hear_28 : decode cX8_hear 28 = .ok (.aload_n 0, 1) := by decide +kernel
theorem dX8_hear_29 : decode cX8_hear 29 = .ok (.iconst (-1), 1) := by decide +kernel
theorem dX8_hear_30 : decode cX8_hear 30 = .ok (.iload_n 2, 1) := by decide +kernel
theorem dX8_hear_31 : decode cX8_hear 31 = .ok (.isub, 1) := by decide +kernel
theorem dX8_hear_32 : decode cX8_hear 32 = .ok (.putfield 49, 3) := by decide +kernel
theorem dX8_hear_35 : decode cX8_hear 35 = .ok (.aload_n 0, 1) := by decide +kernel
theorem dX8_hear_36 : decode cX8_hear 36 = .ok (.getfield 49, 3) := by decide +kernel
theorem dX8_hear_39 : decode cX8_hear 39 = .ok (.ireturn, 1) := by decide +kernel
theorem dX8_hear_40 : decode cX8_hear 40 = .ok (.iload_n 2, 1) := by decide +kernel
theorem dX8_hear_41 : decode cX8_hear 41 = .ok (.ifCond .lt 22, 3) := by decide +kernel
theorem dX8_hear_44 : decode cX8_hear 44 = .ok (.iload_n 2, 1) := by decide +kernel
theorem dX8_hear_45 : decode cX8_hear 45 = .ok (.aload_n 0, 1) := by decide +kernel
theorem dX8_hear_46 : decode cX8_hear 46 = .ok (.getfield 18, 3) := by decide +kernel
theorem dX8_hear_49 : decode cX8_hear 49 = .ok (.arraylength, 1) := by decide +kernel
theorem dX8_hear_50 : decode cX8_hear 50 = .ok (.if_icmp .ge 13, 3) := by decide +kernel
theorem dX8_hear_53 : decode cX8_hear 53 = .ok (.aload_n 0, 1) := by decide +kernel
theorem dX8_hear_54 : decode cX8_hear 54 = .ok (.getfield 18, 3) := by decide +kernel
theorem dX8_hear_57 : decode cX8_hear 57 = .ok (.iload_n 2, 1) := by decide +kernel
theorem dX8_hear_58 : decode cX8_hear 58 = .ok (.dup2, 1) := by decide +kernel
theorem dX8_hear_59 : decode cX8_hear 59 = .ok (.iaload, 1) := by decide +kernel
theorem dX8_hear_60 : decode cX8_hear 60 = .ok (.iconst 1, 1) := by decide +kernel
theorem dX8_hear_61 : decode cX8_hear 61 = .ok (.iadd, 1) := by decide +kernel
theorem dX8_hear_62 : decode cX8_hear 62 = .ok (.iastore, 1) := by decide +kernel
theorem dX8_hear_63 : decode cX8_hear 63 = .ok (.aload_n 0, 1) := by decide +kernel
theorem dX8_hear_64 : decode cX8_hear 64 = .ok (.getfield 12, 3) := by decide +kernel
theorem dX8_hear_67 : decode cX8_hear 67 = .ok (.getfield 52, 3) := by decide +kernel
theorem dX8_hear_70 : decode cX8_hear 70 = .ok (.iconst 1, 1) := by decide +kernel
theorem dX8_hear_71 : decode cX8_hear 71 = .ok (.iadd, 1) := by decide +kernel
theorem dX8_hear_72 : decode cX8_hear 72 = .ok (.istore_n 3, 1) := by decide +kernel
theorem dX8_hear_73 : decode cX8_hear 73 = .ok (.iload_n 3, 1) := by decide +kernel
theorem dX8_hear_74 : decode cX8_hear 74 = .ok (.ifCond .lt 22, 3) := by decide +kernel
theorem dX8_hear_77 : decode cX8_hear 77 = .ok (.iload_n 3, 1) := by decide +kernel
theorem dX8_hear_78 : decode cX8_hear 78 = .ok (.aload_n 0, 1) := by decide +kernel
theorem dX8_hear_79 : decode cX8_hear 79 = .ok (.getfield 22, 3) := by decide +kernel
theorem dX8_hear_82 : decode cX8_hear 82 = .ok (.arraylength, 1) := by decide +kernel
theorem dX8_hear_83 : decode cX8_hear 83 = .ok (.if_icmp .ge 13, 3) := by decide +kernel
theorem dX8_hear_86 : decode cX8_hear 86 = .ok (.aload_n 0, 1) := by decide +kernel
theorem dX8_hear_87 : decode cX8_hear 87 = .ok (.getfield 22, 3) := by decide +kernel
theorem dX8_hear_90 : decode cX8_hear 90 = .ok (.iload_n 3, 1) := by decide +kernel
theorem dX8_hear_91 : decode cX8_hear 91 = .ok (.dup2, 1) := by decide +kernel
theorem dX8_hear_92 : decode cX8_hear 92 = .ok (.iaload, 1) := by decide +kernel
theorem dX8_hear_93 : decode cX8_hear 93 = .ok (.iconst 1, 1) := by decide +kernel
theorem dX8_hear_94 : decode cX8_hear 94 = .ok (.iadd, 1) := by decide +kernel
theorem dX8_hear_95 : decode cX8_hear 95 = .ok (.iastore, 1) := by decide +kernel
theorem dX8_hear_96 : decode cX8_hear 96 = .ok (.iconst 0, 1) := by decide +kernel
theorem dX8_hear_97 : decode cX8_hear 97 = .ok (.ireturn, 1) := by decide +kernel
theorem dX9_init_0 : decode cX9_init 0 = .ok (.aload_n 0, 1) := by decide +kernel
theorem dX9_init_1 : decode cX9_init 1 = .ok (.invokespecial 3, 3) := by decide +kernel
theorem dX9_init_4 : decode cX9_init 4 = .ok (.aload_n 0, 1) := by decide +kernel
theorem dX9_init_5 : decode cX9_init 5 = .ok (.new 9, 3) := by decide +kernel
theorem dX9_init_8 : decode cX9_init 8 = .ok (.dup, 1) := by decide +kernel
theorem dX9_init_9 : decode cX9_init 9 = .ok (.invokespecial 11, 3) := by decide +kernel
theorem dX9_init_12 : decode cX9_init 12 = .ok (.putfield 12, 3) := by decide +kernel
theorem dX9_init_15 : decode cX9_init 15 = .ok (.aload_n 0, 1) := by decide +kernel
theorem dX9_init_16 : decode cX9_init 16 = .ok (.bipush 60, 2) := by decide +kernel
theorem dX9_init_18 : decode cX9_init 18 = .ok (.newarray .int, 2) := by decide +kernel
theorem dX9_init_20 : decode cX9_init 20 = .ok (.putfield 18, 3) := by decide +kernel
theorem dX9_init_23 : decode cX9_init 23 = .ok (.aload_n 0, 1) := by decide +kernel
theorem dX9_init_24 : decode cX9_init 24 = .ok (.aload_n 1, 1) := by decide +kernel
theorem dX9_init_25 : decode cX9_init 25 = .ok (.putfield 22, 3) := by decide +kernel
theorem dX9_init_28 : decode cX9_init 28 = .ok (.aload_n 0, 1) := by decide +kernel
theorem dX9_init_29 : decode cX9_init 29 = .ok (.aload_n 2, 1) := by decide +kernel
theorem dX9_init_30 : decode cX9_init 30 = .ok (.putfield 26, 3) := by decide +kernel
theorem dX9_init_33 : decode cX9_init 33 = .ok (.return_, 1) := by decide +kernel
theorem dX9_rage_0 : decode cX9_rage 0 = .ok (.aload_n 0, 1) := by decide +kernel
theorem dX9_rage_1 : decode cX9_rage 1 = .ok (.getfield 26, 3) := by decide +kernel
theorem dX9_rage_4 : decode cX9_rage 4 = .ok (.invokevirtual 30, 3) := by decide +kernel
theorem dX9_rage_7 : decode cX9_rage 7 = .ok (.aload_n 0, 1) := by decide +kernel
theorem dX9_rage_8 : decode cX9_rage 8 = .ok (.iconst 0, 1) := by decide +kernel
theorem dX9_rage_9 : decode cX9_rage 9 = .ok (.putfield 35, 3) := by decide +kernel
theorem dX9_rage_12 : decode cX9_rage 12 = .ok (.aload_n 0, 1) := by decide +kernel
theorem dX9_rage_13 : decode cX9_rage 13 = .ok (.iconst 0, 1) := by decide +kernel
theorem dX9_rage_14 : decode cX9_rage 14 = .ok (.putfield 39, 3) := by decide +kernel
theorem dX9_rage_17 : decode cX9_rage 17 = .ok (.iload_n 1, 1) := by decide +kernel
theorem dX9_rage_18 : decode cX9_rage 18 = .ok (.istore_n 3, 1) := by decide +kernel
theorem dX9_rage_19 : decode cX9_rage 19 = .ok (.iconst 0, 1) := by decide +kernel
theorem dX9_rage_20 : decode cX9_rage 20 = .ok (.istore 4, 2) := by decide +kernel
theorem dX9_rage_22 : decode cX9_rage 22 = .ok (.iload 4, 2) := by decide +kernel
theorem dX9_rage_24 : decode cX9_rage 24 = .ok (.iload_n 2, 1) := by decide +kernel
theorem dX9_rage_25 : decode cX9_rage 25 = .ok (.if_icmp .ge 114, 3) := by decide +kernel
theorem dX9_rage_28 : decode cX9_rage 28 = .ok (.iload 4, 2) := by decide +kernel
theorem dX9_rage_30 : decode cX9_rage 30 = .ok (.aload_n 0, 1) := by decide +kernel
theorem dX9_rage_31 : decode cX9_rage 31 = .ok (.getfield 18, 3) := by decide +kernel
theorem dX9_rage_34 : decode cX9_rage 34 = .ok (.arraylength, 1) := by decide +kernel
theorem dX9_rage_35 : decode cX9_rage 35 = .ok (.if_icmp .ge 104, 3) := by decide +kernel
theorem dX9_rage_38 : decode cX9_rage 38 = .ok (.aload_n 0, 1) := by decide +kernel
theorem dX9_rage_39 : decode cX9_rage 39 = .ok (.getfield 39, 3) := by decide +kernel
theorem dX9_rage_42 : decode cX9_rage 42 = .ok (.ifCond .ne 97, 3) := by decide +kernel
theorem dX9_rage_45 : decode cX9_rage 45 = .ok (.aload_n 0, 1) := by decide +kernel
theorem dX9_rage_46 : decode cX9_rage 46 = .ok (.getfield 26, 3) := by decide +kernel
theorem dX9_rage_49 : decode cX9_rage 49 = .ok (.getfield 42, 3) := by decide +kernel
theorem dX9_rage_52 : decode cX9_rage 52 = .ok (.getfield 45, 3) := by decide +kernel
theorem dX9_rage_55 : decode cX9_rage 55 = .ok (.ifCond .ne 84, 3) := by decide +kernel
theorem dX9_rage_58 : decode cX9_rage 58 = .ok (.iload_n 3, 1) := by decide +kernel
theorem dX9_rage_59 : decode cX9_rage 59 = .ok (.invokestatic 48, 3) := by decide +kernel
theorem dX9_rage_62 : decode cX9_rage 62 = .ok (.istore_n 3, 1) := by decide +kernel
theorem dX9_rage_63 : decode cX9_rage 63 = .ok (.aload_n 0, 1) := by decide +kernel
theorem dX9_rage_64 : decode cX9_rage 64 = .ok (.getfield 18, 3) := by decide +kernel
theorem dX9_rage_67 : decode cX9_rage 67 = .ok (.iload 4, 2) := by decide +kernel
theorem dX9_rage_69 : decode cX9_rage 69 = .ok (.iload_n 3, 1) := by decide +kernel
theorem dX9_rage_70 : decode cX9_rage 70 = .ok (.aload_n 0, 1) := by decide +kernel
theorem dX9_rage_71 : decode cX9_rage 71 = .ok (.getfield 22, 3) := by decide +kernel
theorem dX9_rage_74 : decode cX9_rage 74 = .ok (.getfield 54, 3) := by decide +kernel
theorem dX9_rage_77 : decode cX9_rage 77 = .ok (.getfield 57, 3) := by decide +kernel
theorem dX9_rage_80 : decode cX9_rage 80 = .ok (.invokestatic 62, 3) := by decide +kernel
theorem dX9_rage_83 : decode cX9_rage 83 = .ok (.iastore, 1) := by decide +kernel
theorem dX9_rage_84 : decode cX9_rage 84 = .ok (.aload_n 0, 1) := by decide +kernel
theorem dX9_rage_85 : decode cX9_rage 85 = .ok (.iload 4, 2) := by decide +kernel
theorem dX9_rage_87 : decode cX9_rage 87 = .ok (.iconst 1, 1) := by decide +kernel
theorem dX9_rage_88 : decode cX9_rage 88 = .ok (.iadd, 1) := by decide +kernel
theorem dX9_rage_89 : decode cX9_rage 89 = .ok (.putfield 35, 3) := by decide +kernel
theorem dX9_rage_92 : decode cX9_rage 92 = .ok (.aload_n 0, 1) := by decide +kernel
theorem dX9_rage_93 : decode cX9_rage 93 = .ok (.getfield 26, 3) := by decide +kernel
theorem dX9_rage_96 : decode cX9_rage 96 = .ok (.aload_n 0, 1) := by decide +kernel
theorem dX9_rage_97 : decode cX9_rage 97 = .ok (.getfield 18, 3) := by decide +kernel
theorem dX9_rage_100 : decode cX9_rage 100 = .ok (.iload 4, 2) := by decide +kernel
theorem dX9_rage_102 : decode cX9_rage 102 = .ok (.iaload, 1) := by decide +kernel
theorem dX9_rage_103 : decode cX9_rage 103 = .ok (.invokevirtual 66, 3) := by decide +kernel
theorem dX9_rage_106 : decode cX9_rage 106 = .ok (.istore 5, 2) := by decide +kernel
theorem dX9_rage_108 : decode cX9_rage 108 = .ok (.aload_n 0, 1) := by decide +kernel
theorem dX9_rage_109 : decode cX9_rage 109 = .ok (.aload_n 0, 1) := by decide +kernel
theorem dX9_rage_110 : decode cX9_rage 110 = .ok (.aload_n 0, 1) := by decide +kernel
theorem dX9_rage_111 : decode cX9_rage 111 = .ok (.getfield 26, 3) := by decide +kernel
theorem dX9_rage_114 : decode cX9_rage 114 = .ok (.getfield 42, 3) := by decide +kernel
theorem dX9_rage_117 : decode cX9_rage 117 = .ok (.iload 5, 2) := by decide +kernel
theorem dX9_rage_119 : decode cX9_rage 119 = .ok (.ifCond .eq 7, 3) := by decide +kernel
theorem dX9_rage_122 : decode cX9_rage 122 = .ok (.iconst 1, 1) := by decide +kernel
theorem dX9_rage_123 : decode cX9_rage 123 = .ok (.goto 4, 3) := by decide +kernel
theorem dX9_rage_126 : decode cX9_rage 126 = .ok (.iconst 0, 1) := by decide +kernel
theorem dX9_rage_127 : decode cX9_rage 127 = .ok (.invokevirtual 69, 3) := by decide +kernel
theorem dX9_rage_130 : decode cX9_rage 130 = .ok (.putfield 39, 3) := by decide +kernel
theorem dX9_rage_133 : decode cX9_rage 133 = .ok (.iinc 4 1, 3) := by decide +kernel
theorem dX9_rage_136 : decode cX9_rage 136 = .ok (.goto (-114), 3) := by decide +kernel
theorem dX9_rage_139 : decode cX9_rage 139 = .ok (.aload_n 0, 1) := by decide +kernel
theorem dX9_rage_140 : decode cX9_rage 140 = .ok (.getfield 39, 3) := by decide +kernel
theorem dX9_rage_143 : decode cX9_rage 143 = .ok (.ireturn, 1) := by decide +kernel
theorem dX9_ruleBroken_0 : decode cX9_ruleBroken 0 = .ok (.iload_n 2, 1) := by decide +kernel
theorem dX9_ruleBroken_1 : decode cX9_ruleBroken 1 = .ok (.ifCond .eq 5, 3) := by decide +kernel
theorem dX9_ruleBroken_4 : decode cX9_ruleBroken 4 = .ok (.iconst 1, 1) := by decide +kernel
theorem dX9_ruleBroken_5 : decode cX9_ruleBroken 5 = .ok (.ireturn, 1) := by decide +kernel
theorem dX9_ruleBroken_6 : decode cX9_ruleBroken 6 = .ok (.aload_n 0, 1) := by decide +kernel
theorem dX9_ruleBroken_7 : decode cX9_ruleBroken 7 = .ok (.getfield 22, 3) := by decide +kernel
theorem dX9_ruleBroken_10 : decode cX9_ruleBroken 10 = .ok (.aload_n 1, 1) := by decide +kernel
theorem dX9_ruleBroken_11 : decode cX9_ruleBroken 11 = .ok (.getfield 73, 3) := by decide +kernel
theorem dX9_ruleBroken_14 : decode cX9_ruleBroken 14 = .ok (.invokevirtual 76, 3) := by decide +kernel
theorem dX9_ruleBroken_17 : decode cX9_ruleBroken 17 = .ok (.ifCond .ne 5, 3) := by decide +kernel
theorem dX9_ruleBroken_20 : decode cX9_ruleBroken 20 = .ok (.iconst 2, 1) := by decide +kernel
theorem dX9_ruleBroken_21 : decode cX9_ruleBroken 21 = .ok (.ireturn, 1) := by decide +kernel
theorem dX9_ruleBroken_22 : decode cX9_ruleBroken 22 = .ok (.aload_n 1, 1) := by decide +kernel
theorem dX9_ruleBroken_23 : decode cX9_ruleBroken 23 = .ok (.invokevirtual 79, 3) := by decide +kernel
theorem dX9_ruleBroken_26 : decode cX9_ruleBroken 26 = .ok (.ifCond .eq 7, 3) := by decide +kernel
theorem dX9_ruleBroken_29 : decode cX9_ruleBroken 29 = .ok (.iconst 3, 1) := by decide +kernel
theorem dX9_ruleBroken_30 : decode cX9_ruleBroken 30 = .ok (.goto 4, 3) := by decide +kernel
theorem dX9_ruleBroken_33 : decode cX9_ruleBroken 33 = .ok (.iconst 0, 1) := by decide +kernel
theorem dX9_ruleBroken_34 : decode cX9_ruleBroken 34 = .ok (.ireturn, 1) := by decide +kernel
theorem dX9_shorten_0 : decode cX9_shorten 0 = .ok (.iconst 0, 1) := by decide +kernel
theorem dX9_shorten_1 : decode cX9_shorten 1 = .ok (.istore_n 1, 1) := by decide +kernel
theorem dX9_shorten_2 : decode cX9_shorten 2 = .ok (.iload_n 1, 1) := by decide +kernel
theorem dX9_shorten_3 : decode cX9_shorten 3 = .ok (.aload_n 0, 1) := by decide +kernel
theorem dX9_shorten_4 : decode cX9_shorten 4 = .ok (.getfield 18, 3) := by decide +kernel
theorem dX9_shorten_7 : decode cX9_shorten 7 = .ok (.arraylength, 1) := by decide +kernel
theorem dX9_shorten_8 : decode cX9_shorten 8 = .ok (.if_icmp .ge 27, 3) := by decide +kernel
theorem dX9_shorten_11 : decode cX9_shorten 11 = .ok (.aload_n 0, 1) := by decide +kernel
theorem dX9_shorten_12 : decode cX9_shorten 12 = .ok (.invokevirtual 83, 3) := by decide +kernel
theorem dX9_shorten_15 : decode cX9_shorten 15 = .ok (.istore_n 2, 1) := by decide +kernel
theorem dX9_shorten_16 : decode cX9_shorten 16 = .ok (.iload_n 2, 1) := by decide +kernel
theorem dX9_shorten_17 : decode cX9_shorten 17 = .ok (.iconst (-1), 1) := by decide +kernel
theorem dX9_shorten_18 : decode cX9_shorten 18 = .ok (.if_icmp .ne 6, 3) := by decide +kernel
theorem dX9_shorten_21 : decode cX9_shorten 21 = .ok (.goto 14, 3) := by decide +kernel
theorem dX9_shorten_24 : decode cX9_shorten 24 = .ok (.aload_n 0, 1) := by decide +kernel
theorem dX9_shorten_25 : decode cX9_shorten 25 = .ok (.iload_n 2, 1) := by decide +kernel
theorem dX9_shorten_26 : decode cX9_shorten 26 = .ok (.invokevirtual 87, 3) := by decide +kernel
theorem dX9_shorten_29 : decode cX9_shorten 29 = .ok (.iinc 1 1, 3) := by decide +kernel
theorem dX9_shorten_32 : decode cX9_shorten 32 = .ok (.goto (-30), 3) := by decide +kernel
theorem dX9_shorten_35 : decode cX9_shorten 35 = .ok (.aload_n 0, 1) := by decide +kernel
theorem dX9_shorten_36 : decode cX9_shorten 36 = .ok (.getfield 35, 3) := by decide +kernel
theorem dX9_shorten_39 : decode cX9_shorten 39 = .ok (.ireturn, 1) := by decide +kernel
theorem dX9_firstThatCanGo_0 : decode cX9_firstThatCanGo 0 = .ok (.iconst 0, 1) := by decide +kernel
theorem dX9_firstThatCanGo_1 : decode cX9_firstThatCanGo 1 = .ok (.istore_n 1, 1) := by decide +kernel
theorem dX9_firstThatCanGo_2 : decode cX9_firstThatCanGo 2 = .ok (.iload_n 1, 1) := by decide +kernel
theorem dX9_firstThatCanGo_3 : decode cX9_firstThatCanGo 3 = .ok (.aload_n 0, 1) := by decide +kernel
theorem dX9_firstThatCanGo_4 : decode cX9_firstThatCanGo 4 = .ok (.getfield 35, 3) := by decide +kernel
theorem dX9_firstThatCanGo_7 : decode cX9_firstThatCanGo 7 = .ok (.if_icmp .ge 19, 3) := by decide +kernel
theorem dX9_firstThatCanGo_10 : decode cX9_firstThatCanGo 10 = .ok (.aload_n 0, 1) := by decide +kernel
theorem dX9_firstThatCanGo_11 : decode cX9_firstThatCanGo 11 = .ok (.iload_n 1, 1) := by decide +kernel
theorem dX9_firstThatCanGo_12 : decode cX9_firstThatCanGo 12 = .ok (.invokevirtual 91, 3) := by decide +kernel
theorem dX9_firstThatCanGo_15 : decode cX9_firstThatCanGo 15 = .ok (.ifCond .eq 5, 3) := by decide +kernel
theorem dX9_firstThatCanGo_18 : decode cX9_firstThatCanGo 18 = .ok (.iload_n 1, 1) := by decide +kernel
theorem dX9_firstThatCanGo_19 : decode cX9_firstThatCanGo 19 = .ok (.ireturn, 1) := by decide +kernel
theorem dX9_firstThatCanGo_20 : decode cX9_firstThatCanGo 20 = .ok (.iinc 1 1, 3) := by decide +kernel
theorem dX9_firstThatCanGo_23 : decode cX9_firstThatCanGo 23 = .ok (.goto (-21), 3) := by decide +kernel
theorem dX9_firstThatCanGo_26 : decode cX9_firstThatCanGo 26 = .ok (.iconst (-1), 1) := by decide +kernel
theorem dX9_firstThatCanGo_27 : decode cX9_firstThatCanGo 27 = .ok (.ireturn, 1) := by decide +kernel
theorem dX9_breaksAlikeWithout_0 : decode cX9_breaksAlikeWithout 0 = .ok (.aload_n 0, 1) := by decide +kernel
theorem dX9_breaksAlikeWithout_1 : decode cX9_breaksAlikeWithout 1 = .ok (.getfield 12, 3) := by decide +kernel
theorem dX9_breaksAlikeWithout_4 : decode cX9_breaksAlikeWithout 4 = .ok (.aload_n 0, 1) := by decide +kernel
theorem dX9_breaksAlikeWithout_5 : decode cX9_breaksAlikeWithout 5 = .ok (.getfield 22, 3) := by decide +kernel
theorem dX9_breaksAlikeWithout_8 : decode cX9_breaksAlikeWithout 8 = .ok (.getfield 95, 3) := by decide +kernel
theorem dX9_breaksAlikeWithout_11 : decode cX9_breaksAlikeWithout 11 = .ok (.invokevirtual 98, 3) := by decide +kernel
theorem dX9_breaksAlikeWithout_14 : decode cX9_breaksAlikeWithout 14 = .ok (.iload_n 1, 1) := by decide +kernel
theorem dX9_breaksAlikeWithout_15 : decode cX9_breaksAlikeWithout 15 = .ok (.aload_n 0, 1) := by decide +kernel
theorem dX9_breaksAlikeWithout_16 : decode cX9_breaksAlikeWithout 16 = .ok (.getfield 35, 3) := by decide +kernel
theorem dX9_breaksAlikeWithout_19 : decode cX9_breaksAlikeWithout 19 = .ok (.iconst 1, 1) := by decide +kernel
theorem dX9_breaksAlikeWithout_20 : decode cX9_breaksAlikeWithout 20 = .ok (.isub, 1) := by decide +kernel
theorem dX9_breaksAlikeWithout_21 : decode cX9_breaksAlikeWithout 21 = .ok (.if_icmp .ne 12, 3) := by decide +kernel
theorem dX9_breaksAlikeWithout_24 : decode cX9_breaksAlikeWithout 24 = .ok (.aload_n 0, 1) := by decide +kernel
theorem dX9_breaksAlikeWithout_25 : decode cX9_breaksAlikeWithout 25 = .ok (.getfield 35, 3) := by decide +kernel
theorem dX9_breaksAlikeWithout_28 : decode cX9_breaksAlikeWithout 28 = .ok (.iconst 2, 1) := by decide +kernel
theorem dX9_breaksAlikeWithout_29 : decode cX9_breaksAlikeWithout 29 = .ok (.isub, 1) := by decide +kernel
theorem dX9_breaksAlikeWithout_30 : decode cX9_breaksAlikeWithout 30 = .ok (.goto 9, 3) := by decide +kernel
theorem dX9_breaksAlikeWithout_33 : decode cX9_breaksAlikeWithout 33 = .ok (.aload_n 0, 1) := by decide +kernel
theorem dX9_breaksAlikeWithout_34 : decode cX9_breaksAlikeWithout 34 = .ok (.getfield 35, 3) := by decide +kernel
theorem dX9_breaksAlikeWithout_37 : decode cX9_breaksAlikeWithout 37 = .ok (.iconst 1, 1) := by decide +kernel
theorem dX9_breaksAlikeWithout_38 : decode cX9_breaksAlikeWithout 38 = .ok (.isub, 1) := by decide +kernel
theorem dX9_breaksAlikeWithout_39 : decode cX9_breaksAlikeWithout 39 = .ok (.istore_n 2, 1) := by decide +kernel
theorem dX9_breaksAlikeWithout_40 : decode cX9_breaksAlikeWithout 40 = .ok (.iconst 0, 1) := by decide +kernel
theorem dX9_breaksAlikeWithout_41 : decode cX9_breaksAlikeWithout 41 = .ok (.istore_n 3, 1) := by decide +kernel
theorem dX9_breaksAlikeWithout_42 : decode cX9_breaksAlikeWithout 42 = .ok (.iload_n 3, 1) := by decide +kernel
theorem dX9_breaksAlikeWithout_43 : decode cX9_breaksAlikeWithout 43 = .ok (.iload_n 2, 1) := by decide +kernel
theorem dX9_breaksAlikeWithout_44 : decode cX9_breaksAlikeWithout 44 = .ok (.if_icmp .gt 105, 3) := by decide +kernel
theorem dX9_breaksAlikeWithout_47 : decode cX9_breaksAlikeWithout 47 = .ok (.iload_n 3, 1) := by decide +kernel
theorem dX9_breaksAlikeWithout_48 : decode cX9_breaksAlikeWithout 48 = .ok (.aload_n 0, 1) := by decide +kernel
theorem dX9_breaksAlikeWithout_49 : decode cX9_breaksAlikeWithout 49 = .ok (.getfield 18, 3) := by decide +kernel
theorem dX9_breaksAlikeWithout_52 : decode cX9_breaksAlikeWithout 52 = .ok (.arraylength, 1) := by decide +kernel
theorem dX9_breaksAlikeWithout_53 : decode cX9_breaksAlikeWithout 53 = .ok (.if_icmp .ge 96, 3) := by decide +kernel
theorem dX9_breaksAlikeWithout_56 : decode cX9_breaksAlikeWithout 56 = .ok (.iload_n 3, 1) := by decide +kernel
theorem dX9_breaksAlikeWithout_57 : decode cX9_breaksAlikeWithout 57 = .ok (.iload_n 1, 1) := by decide +kernel
theorem dX9_breaksAlikeWithout_58 : decode cX9_breaksAlikeWithout 58 = .ok (.if_icmp .ne 6, 3) := by decide +kernel
theorem dX9_breaksAlikeWithout_61 : decode cX9_breaksAlikeWithout 61 = .ok (.goto 82, 3) := by decide +kernel
theorem dX9_breaksAlikeWithout_64 : decode cX9_breaksAlikeWithout 64 = .ok (.aload_n 0, 1) := by decide +kernel
theorem dX9_breaksAlikeWithout_65 : decode cX9_breaksAlikeWithout 65 = .ok (.getfield 12, 3) := by decide +kernel
theorem dX9_breaksAlikeWithout_68 : decode cX9_breaksAlikeWithout 68 = .ok (.getfield 45, 3) := by decide +kernel
theorem dX9_breaksAlikeWithout_71 : decode cX9_breaksAlikeWithout 71 = .ok (.ifCond .eq 5, 3) := by decide +kernel
theorem dX9_breaksAlikeWithout_74 : decode cX9_breaksAlikeWithout 74 = .ok (.iconst 0, 1) := by decide +kernel
theorem dX9_breaksAlikeWithout_75 : decode cX9_breaksAlikeWithout 75 = .ok (.ireturn, 1) := by decide +kernel
theorem dX9_breaksAlikeWithout_76 : decode cX9_breaksAlikeWithout 76 = .ok (.aload_n 0, 1) := by decide +kernel
theorem dX9_breaksAlikeWithout_77 : decode cX9_breaksAlikeWithout 77 = .ok (.getfield 22, 3) := by decide +kernel
theorem dX9_breaksAlikeWithout_80 : decode cX9_breaksAlikeWithout 80 = .ok (.aload_n 0, 1) := by decide +kernel
theorem dX9_breaksAlikeWithout_81 : decode cX9_breaksAlikeWithout 81 = .ok (.getfield 12, 3) := by decide +kernel
theorem dX9_breaksAlikeWithout_84 : decode cX9_breaksAlikeWithout 84 = .ok (.aload_n 0, 1) := by decide +kernel
theorem dX9_breaksAlikeWithout_85 : decode cX9_breaksAlikeWithout 85 = .ok (.getfield 18, 3) := by decide +kernel
theorem dX9_breaksAlikeWithout_88 : decode cX9_breaksAlikeWithout 88 = .ok (.iload_n 3, 1) := by decide +kernel
theorem dX9_breaksAlikeWithout_89 : decode cX9_breaksAlikeWithout 89 = .ok (.iaload, 1) := by decide +kernel
theorem dX9_breaksAlikeWithout_90 : decode cX9_breaksAlikeWithout 90 = .ok (.invokevirtual 100, 3) := by decide +kernel
theorem dX9_breaksAlikeWithout_93 : decode cX9_breaksAlikeWithout 93 = .ok (.istore 4, 2) := by decide +kernel
theorem dX9_breaksAlikeWithout_95 : decode cX9_breaksAlikeWithout 95 = .ok (.aload_n 0, 1) := by decide +kernel
theorem dX9_breaksAlikeWithout_96 : decode cX9_breaksAlikeWithout 96 = .ok (.aload_n 0, 1) := by decide +kernel
theorem dX9_breaksAlikeWithout_97 : decode cX9_breaksAlikeWithout 97 = .ok (.getfield 12, 3) := by decide +kernel
theorem dX9_breaksAlikeWithout_100 : decode cX9_breaksAlikeWithout 100 = .ok (.iload 4, 2) := by decide +kernel
theorem dX9_breaksAlikeWithout_102 : decode cX9_breaksAlikeWithout 102 = .ok (.iconst (-1), 1) := by decide +kernel
theorem dX9_breaksAlikeWithout_103 : decode cX9_breaksAlikeWithout 103 = .ok (.if_icmp .ge 7, 3) := by decide +kernel
theorem dX9_breaksAlikeWithout_106 : decode cX9_breaksAlikeWithout 106 = .ok (.iconst 1, 1) := by decide +kernel
theorem dX9_breaksAlikeWithout_107 : decode cX9_breaksAlikeWithout 107 = .ok (.goto 4, 3) := by decide +kernel
theorem dX9_breaksAlikeWithout_110 : decode cX9_breaksAlikeWithout 110 = .ok (.iconst 0, 1) := by decide +kernel
theorem dX9_breaksAlikeWithout_111 : decode cX9_breaksAlikeWithout 111 = .ok (.invokevirtual 69, 3) := by decide +kernel
theorem dX9_breaksAlikeWithout_114 : decode cX9_breaksAlikeWithout 114 = .ok (.istore 5, 2) := by decide +kernel
theorem dX9_breaksAlikeWithout_116 : decode cX9_breaksAlikeWithout 116 = .ok (.iload_n 3, 1) := by decide +kernel
theorem dX9_breaksAlikeWithout_117 : decode cX9_breaksAlikeWithout 117 = .ok (.iload_n 2, 1) := by decide +kernel
theorem dX9_breaksAlikeWithout_118 : decode cX9_breaksAlikeWithout 118 = .ok (.if_icmp .ne 18, 3) := by decide +kernel
theorem dX9_breaksAlikeWithout_121 : decode cX9_breaksAlikeWithout 121 = .ok (.iload 5, 2) := by decide +kernel
theorem dX9_breaksAlikeWithout_123 : decode cX9_breaksAlikeWithout 123 = .ok (.aload_n 0, 1) := by decide +kernel
theorem dX9_breaksAlikeWithout_124 : decode cX9_breaksAlikeWithout 124 = .ok (.getfield 39, 3) := by decide +kernel
theorem dX9_breaksAlikeWithout_127 : decode cX9_breaksAlikeWithout 127 = .ok (.if_icmp .ne 7, 3) := by decide +kernel
theorem dX9_breaksAlikeWithout_130 : decode cX9_breaksAlikeWithout 130 = .ok (.iconst 1, 1) := by decide +kernel
theorem dX9_breaksAlikeWithout_131 : decode cX9_breaksAlikeWithout 131 = .ok (.goto 4, 3) := by decide +kernel
theorem dX9_breaksAlikeWithout_134 : decode cX9_breaksAlikeWithout 134 = .ok (.iconst 0, 1) := by decide +kernel
theorem dX9_breaksAlikeWithout_135 : decode cX9_breaksAlikeWithout 135 = .ok (.ireturn, 1) := by decide +kernel
theorem dX9_breaksAlikeWithout_136 : decode cX9_breaksAlikeWithout 136 = .ok (.iload 5, 2) := by decide +kernel
theorem dX9_breaksAlikeWithout_138 : decode cX9_breaksAlikeWithout 138 = .ok (.ifCond .eq 5, 3) := by decide +kernel
theorem dX9_breaksAlikeWithout_141 : decode cX9_breaksAlikeWithout 141 = .ok (.iconst 0, 1) := by decide +kernel
theorem dX9_breaksAlikeWithout_142 : decode cX9_breaksAlikeWithout 142 = .ok (.ireturn, 1) := by decide +kernel
theorem dX9_breaksAlikeWithout_143 : decode cX9_breaksAlikeWithout 143 = .ok (.iinc 3 1, 3) := by decide +kernel
theorem dX9_breaksAlikeWithout_146 : decode cX9_breaksAlikeWithout 146 = .ok (.goto (-104), 3) := by decide +kernel
theorem dX9_breaksAlikeWithout_149 : decode cX9_breaksAlikeWithout 149 = .ok (.iconst 0, 1) := by decide +kernel
theorem dX9_breaksAlikeWithout_150 : decode cX9_breaksAlikeWithout 150 = .ok (.ireturn, 1) := by decide +kernel
theorem dX9_drop_0 : decode cX9_drop 0 = .ok (.iload_n 1, 1) := by decide +kernel
theorem dX9_drop_1 : decode cX9_drop 1 = .ok (.istore_n 2, 1) := by decide +kernel
theorem dX9_drop_2 : decode cX9_drop 2 = .ok (.iload_n 2, 1) := by decide +kernel
theorem dX9_drop_3 : decode cX9_drop 3 = .ok (.ifCond .lt 44, 3) := by decide +kernel
theorem dX9_drop_6 : decode cX9_drop 6 = .ok (.iload_n 2, 1) := by decide +kernel
theorem dX9_drop_7 : decode cX9_drop 7 = .ok (.aload_n 0, 1) := by decide +kernel
theorem dX9_drop_8 : decode cX9_drop 8 = .ok (.getfield 35, 3) := by decide +kernel
theorem dX9_drop_11 : decode cX9_drop 11 = .ok (.iconst 1, 1) := by decide +kernel
theorem dX9_drop_12 : decode cX9_drop 12 = .ok (.isub, 1) := by decide +kernel
theorem dX9_drop_13 : decode cX9_drop 13 = .ok (.if_icmp .ge 34, 3) := by decide +kernel
theorem dX9_drop_16 : decode cX9_drop 16 = .ok (.iload_n 2, 1) := by decide +kernel
theorem dX9_drop_17 : decode cX9_drop 17 = .ok (.aload_n 0, 1) := by decide +kernel
theorem dX9_drop_18 : decode cX9_drop 18 = .ok (.getfield 18, 3) := by decide +kernel
theorem dX9_drop_21 : decode cX9_drop 21 = .ok (.arraylength, 1) := by decide +kernel
theorem dX9_drop_22 : decode cX9_drop 22 = .ok (.iconst 1, 1) := by decide +kernel
theorem dX9_drop_23 : decode cX9_drop 23 = .ok (.isub, 1) := by decide +kernel
theorem dX9_drop_24 : decode cX9_drop 24 = .ok (.if_icmp .ge 23, 3) := by decide +kernel
theorem dX9_drop_27 : decode cX9_drop 27 = .ok (.aload_n 0, 1) := by decide +kernel
theorem dX9_drop_28 : decode cX9_drop 28 = .ok (.getfield 18, 3) := by decide +kernel
theorem dX9_drop_31 : decode cX9_drop 31 = .ok (.iload_n 2, 1) := by decide +kernel
theorem dX9_drop_32 : decode cX9_drop 32 = .ok (.aload_n 0, 1) := by decide +kernel
theorem dX9_drop_33 : decode cX9_drop 33 = .ok (.getfield 18, 3) := by decide +kernel
theorem dX9_drop_36 : decode cX9_drop 36 = .ok (.iload_n 2, 1) := by decide +kernel
theorem dX9_drop_37 : decode cX9_drop 37 = .ok (.iconst 1, 1) := by decide +kernel
theorem dX9_drop_38 : decode cX9_drop 38 = .ok (.iadd, 1) := by decide +kernel
theorem dX9_drop_39 : decode cX9_drop 39 = .ok (.iaload, 1) := by decide +kernel
theorem dX9_drop_40 : decode cX9_drop 40 = .ok (.iastore, 1) := by decide +kernel
theorem dX9_drop_41 : decode cX9_drop 41 = .ok (.iinc 2 1, 3) := by decide +kernel
theorem dX9_drop_44 : decode cX9_drop 44 = .ok (.goto (-42), 3) := by decide +kernel
theorem dX9_drop_47 : decode cX9_drop 47 = .ok (.aload_n 0, 1) := by decide +kernel
theorem dX9_drop_48 : decode cX9_drop 48 = .ok (.dup, 1) := by decide +kernel
theorem dX9_drop_49 : decode cX9_drop 49 = .ok (.getfield 35, 3) := by decide +kernel
theorem dX9_drop_52 : decode cX9_drop 52 = .ok (.iconst 1, 1) := by decide +kernel
theorem dX9_drop_53 : decode cX9_drop 53 = .ok (.isub, 1) := by decide +kernel
theorem dX9_drop_54 : decode cX9_drop 54 = .ok (.putfield 35, 3) := by decide +kernel
theorem dX9_drop_57 : decode cX9_drop 57 = .ok (.return_, 1) := by decide +kernel
theorem dX10_init_0 : decode cX10_init 0 = .ok (.aload_n 0, 1) := by decide +kernel
theorem dX10_init_1 : decode cX10_init 1 = .ok (.invokespecial 3, 3) := by decide +kernel
theorem dX10_init_4 : decode cX10_init 4 = .ok (.aload_n 0, 1) := by decide +kernel
theorem dX10_init_5 : decode cX10_init 5 = .ok (.new 9, 3) := by decide +kernel
theorem dX10_init_8 : decode cX10_init 8 = .ok (.dup, 1) := by decide +kernel
theorem dX10_init_9 : decode cX10_init 9 = .ok (.bipush 16, 2) := by decide +kernel
theorem dX10_init_11 : decode cX10_init 11 = .ok (.bipush 6, 2) := by decide +kernel
theorem dX10_init_13 : decode cX10_init 13 = .ok (.invokespecial 11, 3) := by decide +kernel
theorem dX10_init_16 : decode cX10_init 16 = .ok (.putfield 14, 3) := by decide +kernel
theorem dX10_init_19 : decode cX10_init 19 = .ok (.aload_n 0, 1) := by decide +kernel
theorem dX10_init_20 : decode cX10_init 20 = .ok (.new 9, 3) := by decide +kernel
theorem dX10_init_23 : decode cX10_init 23 = .ok (.dup, 1) := by decide +kernel
theorem dX10_init_24 : decode cX10_init 24 = .ok (.bipush 24, 2) := by decide +kernel
theorem dX10_init_26 : decode cX10_init 26 = .ok (.bipush 20, 2) := by decide +kernel
theorem dX10_init_28 : decode cX10_init 28 = .ok (.invokespecial 11, 3) := by decide +kernel
theorem dX10_init_31 : decode cX10_init 31 = .ok (.putfield 20, 3) := by decide +kernel
theorem dX10_init_34 : decode cX10_init 34 = .ok (.aload_n 0, 1) := by decide +kernel
theorem dX10_init_35 : decode cX10_init 35 = .ok (.bipush 30, 2) := by decide +kernel
theorem dX10_init_37 : decode cX10_init 37 = .ok (.anewarray 23, 3) := by decide +kernel
theorem dX10_init_40 : decode cX10_init 40 = .ok (.putfield 25, 3) := by decide +kernel
theorem dX10_init_43 : decode cX10_init 43 = .ok (.aload_n 0, 1) := by decide +kernel
theorem dX10_init_44 : decode cX10_init 44 = .ok (.iconst 4, 1) := by decide +kernel
theorem dX10_init_45 : decode cX10_init 45 = .ok (.anewarray 29, 3) := by decide +kernel
theorem dX10_init_48 : decode cX10_init 48 = .ok (.putfield 31, 3) := by decide +kernel
theorem dX10_init_51 : decode cX10_init 51 = .ok (.aload_n 0, 1) := by decide +kernel
theorem dX10_init_52 : decode cX10_init 52 = .ok (.iload_n 1, 1) := by decide +kernel
theorem dX10_init_53 : decode cX10_init 53 = .ok (.putfield 35, 3) := by decide +kernel
theorem dX10_init_56 : decode cX10_init 56 = .ok (.iconst 0, 1) := by decide +kernel
theorem dX10_init_57 : decode cX10_init 57 = .ok (.istore_n 2, 1) := by decide +kernel
theorem dX10_init_58 : decode cX10_init 58 = .ok (.iload_n 2, 1) := by decide +kernel
theorem dX10_init_59 : decode cX10_init 59 = .ok (.aload_n 0, 1) := by decide +kernel
theorem dX10_init_60 : decode cX10_init 60 = .ok (.getfield 25, 3) := by decide +kernel
theorem dX10_init_63 : decode cX10_init 63 = .ok (.arraylength, 1) := by decide +kernel
theorem dX10_init_64 : decode cX10_init 64 = .ok (.if_icmp .ge 22, 3) := by decide +kernel
theorem dX10_init_67 : decode cX10_init 67 = .ok (.aload_n 0, 1) := by decide +kernel
theorem dX10_init_68 : decode cX10_init 68 = .ok (.getfield 25, 3) := by decide +kernel
theorem dX10_init_71 : decode cX10_init 71 = .ok (.iload_n 2, 1) := by decide +kernel
theorem dX10_init_72 : decode cX10_init 72 = .ok (.new 23, 3) := by decide +kernel
theorem dX10_init_75 : decode cX10_init 75 = .ok (.dup, 1) := by decide +kernel
theorem dX10_init_76 : decode cX10_init 76 = .ok (.invokespecial 39, 3) := by decide +kernel
theorem dX10_init_79 : decode cX10_init 79 = .ok (.aastore, 1) := by decide +kernel
theorem dX10_init_80 : decode cX10_init 80 = .ok (.iinc 2 1, 3) := by decide +kernel
theorem dX10_init_83 : decode cX10_init 83 = .ok (.goto (-25), 3) := by decide +kernel
theorem dX10_init_86 : decode cX10_init 86 = .ok (.iconst 0, 1) := by decide +kernel
theorem dX10_init_87 : decode cX10_init 87 = .ok (.istore_n 2, 1) := by decide +kernel
theorem dX10_init_88 : decode cX10_init 88 = .ok (.iload_n 2, 1) := by decide +kernel
theorem dX10_init_89 : decode cX10_init 89 = .ok (.aload_n 0, 1) := by decide +kernel
theorem dX10_init_90 : decode cX10_init 90 = .ok (.getfield 31, 3) := by decide +kernel
theorem dX10_init_93 : decode cX10_init 93 = .ok (.arraylength, 1) := by decide +kernel
theorem dX10_init_94 : decode cX10_init 94 = .ok (.if_icmp .ge 22, 3) := by decide +kernel
theorem dX10_init_97 : decode cX10_init 97 = .ok (.aload_n 0, 1) := by decide +kernel
theorem dX10_init_98 : decode cX10_init 98 = .ok (.getfield 31, 3) := by decide +kernel
theorem dX10_init_101 : decode cX10_init 101 = .ok (.iload_n 2, 1) := by decide +kernel
theorem dX10_init_102 : decode cX10_init 102 = .ok (.new 29, 3) := by decide +kernel
theorem dX10_init_105 : decode cX10_init 105 = .ok (.dup, 1) := by decide +kernel
theorem dX10_init_106 : decode cX10_init 106 = .ok (.invokespecial 40, 3) := by decide +kernel
theorem dX10_init_109 : decode cX10_init 109 = .ok (.aastore, 1) := by decide +kernel
theorem dX10_init_110 : decode cX10_init 110 = .ok (.iinc 2 1, 3) := by decide +kernel
theorem dX10_init_113 : decode cX10_init 113 = .ok (.goto (-25), 3) := by decide +kernel
theorem dX10_init_116 : decode cX10_init 116 = .ok (.return_, 1) := by decide +kernel
theorem dX10_nextRule_0 : decode cX10_nextRule 0 = .ok (.aload_n 0, 1) := by decide +kernel
theorem dX10_nextRule_1 : decode cX10_nextRule 1 = .ok (.getfield 41, 3) := by decide +kernel
theorem dX10_nextRule_4 : decode cX10_nextRule 4 = .ok (.ifCond .lt 15, 3) := by decide +kernel
theorem dX10_nextRule_7 : decode cX10_nextRule 7 = .ok (.aload_n 0, 1) := by decide +kernel
theorem dX10_nextRule_8 : decode cX10_nextRule 8 = .ok (.getfield 41, 3) := by decide +kernel
theorem dX10_nextRule_11 : decode cX10_nextRule 11 = .ok (.aload_n 0, 1) := by decide +kernel
theorem dX10_nextRule_12 : decode cX10_nextRule 12 = .ok (.getfield 25, 3) := by decide +kernel
theorem dX10_nextRule_15 : decode cX10_nextRule 15 = .ok (.arraylength, 1) := by decide +kernel
theorem dX10_nextRule_16 : decode cX10_nextRule 16 = .ok (.if_icmp .lt 5, 3) := by decide +kernel
theorem dX10_nextRule_19 : decode cX10_nextRule 19 = .ok (.aconst_null, 1) := by decide +kernel
theorem dX10_nextRule_20 : decode cX10_nextRule 20 = .ok (.areturn, 1) := by decide +kernel
theorem dX10_nextRule_21 : decode cX10_nextRule 21 = .ok (.aload_n 0, 1) := by decide +kernel
theorem dX10_nextRule_22 : decode cX10_nextRule 22 = .ok (.dup, 1) := by decide +kernel
theorem dX10_nextRule_23 : decode cX10_nextRule 23 = .ok (.getfield 41, 3) := by decide +kernel
theorem dX10_nextRule_26 : decode cX10_nextRule 26 = .ok (.iconst 1, 1) := by decide +kernel
theorem dX10_nextRule_27 : decode cX10_nextRule 27 = .ok (.iadd, 1) := by decide +kernel
theorem dX10_nextRule_28 : decode cX10_nextRule 28 = .ok (.putfield 41, 3) := by decide +kernel
theorem dX10_nextRule_31 : decode cX10_nextRule 31 = .ok (.aload_n 0, 1) := by decide +kernel
theorem dX10_nextRule_32 : decode cX10_nextRule 32 = .ok (.getfield 25, 3) := by decide +kernel
theorem dX10_nextRule_35 : decode cX10_nextRule 35 = .ok (.aload_n 0, 1) := by decide +kernel
theorem dX10_nextRule_36 : decode cX10_nextRule 36 = .ok (.getfield 41, 3) := by decide +kernel
theorem dX10_nextRule_39 : decode cX10_nextRule 39 = .ok (.iconst 1, 1) := by decide +kernel
theorem dX10_nextRule_40 : decode cX10_nextRule 40 = .ok (.isub, 1) := by decide +kernel
theorem dX10_nextRule_41 : decode cX10_nextRule 41 = .ok (.aaload, 1) := by decide +kernel
theorem dX10_nextRule_42 : decode cX10_nextRule 42 = .ok (.areturn, 1) := by decide +kernel
theorem dX10_say_0 : decode cX10_say 0 = .ok (.aload_n 0, 1) := by decide +kernel
theorem dX10_say_1 : decode cX10_say 1 = .ok (.getfield 14, 3) := by decide +kernel
theorem dX10_say_4 : decode cX10_say 4 = .ok (.iload_n 2, 1) := by decide +kernel
theorem dX10_say_5 : decode cX10_say 5 = .ok (.invokevirtual 44, 3) := by decide +kernel
theorem dX10_say_8 : decode cX10_say 8 = .ok (.ifCond .eq 12, 3) := by decide +kernel
theorem dX10_say_11 : decode cX10_say 11 = .ok (.aload_n 0, 1) := by decide +kernel
theorem dX10_say_12 : decode cX10_say 12 = .ok (.aload_n 1, 1) := by decide +kernel
theorem dX10_say_13 : decode cX10_say 13 = .ok (.iload_n 2, 1) := by decide +kernel
theorem dX10_say_14 : decode cX10_say 14 = .ok (.invokevirtual 48, 3) := by decide +kernel
theorem dX10_say_17 : decode cX10_say 17 = .ok (.goto 4, 3) := by decide +kernel
theorem dX10_say_20 : decode cX10_say 20 = .ok (.iconst (-1), 1) := by decide +kernel
theorem dX10_say_21 : decode cX10_say 21 = .ok (.istore_n 3, 1) := by decide +kernel
theorem dX10_say_22 : decode cX10_say 22 = .ok (.iload_n 3, 1) := by decide +kernel
theorem dX10_say_23 : decode cX10_say 23 = .ok (.ifCond .lt 12, 3) := by decide +kernel
theorem dX10_say_26 : decode cX10_say 26 = .ok (.iload_n 3, 1) := by decide +kernel
theorem dX10_say_27 : decode cX10_say 27 = .ok (.aload_n 0, 1) := by decide +kernel
theorem dX10_say_28 : decode cX10_say 28 = .ok (.getfield 25, 3) := by decide +kernel
theorem dX10_say_31 : decode cX10_say 31 = .ok (.arraylength, 1) := by decide +kernel
theorem dX10_say_32 : decode cX10_say 32 = .ok (.if_icmp .lt 10, 3) := by decide +kernel
theorem dX10_say_35 : decode cX10_say 35 = .ok (.aload_n 1, 1) := by decide +kernel
theorem dX10_say_36 : decode cX10_say 36 = .ok (.iconst (-1), 1) := by decide +kernel
theorem dX10_say_37 : decode cX10_say 37 = .ok (.putfield 52, 3) := by decide +kernel
theorem dX10_say_40 : decode cX10_say 40 = .ok (.iconst (-1), 1) := by decide +kernel
theorem dX10_say_41 : decode cX10_say 41 = .ok (.ireturn, 1) := by decide +kernel
theorem dX10_say_42 : decode cX10_say 42 = .ok (.aload_n 0, 1) := by decide +kernel
theorem dX10_say_43 : decode cX10_say 43 = .ok (.getfield 25, 3) := by decide +kernel
theorem dX10_say_46 : decode cX10_say 46 = .ok (.iload_n 3, 1) := by decide +kernel
theorem dX10_say_47 : decode cX10_say 47 = .ok (.aaload, 1) := by decide +kernel
theorem dX10_say_48 : decode cX10_say 48 = .ok (.astore 4, 2) := by decide +kernel
theorem dX10_say_50 : decode cX10_say 50 = .ok (.aload_n 0, 1) := by decide +kernel
theorem dX10_say_51 : decode cX10_say 51 = .ok (.aload 4, 2) := by decide +kernel
theorem dX10_say_53 : decode cX10_say 53 = .ok (.aload_n 1, 1) := by decide +kernel
theorem dX10_say_54 : decode cX10_say 54 = .ok (.invokevirtual 57, 3) := by decide +kernel
theorem dX10_say_57 : decode cX10_say 57 = .ok (.istore 5, 2) := by decide +kernel
theorem dX10_say_59 : decode cX10_say 59 = .ok (.iload 5, 2) := by decide +kernel
theorem dX10_say_61 : decode cX10_say 61 = .ok (.ifCond .eq 8, 3) := by decide +kernel
theorem dX10_say_64 : decode cX10_say 64 = .ok (.iconst (-1), 1) := by decide +kernel
theorem dX10_say_65 : decode cX10_say 65 = .ok (.iload 5, 2) := by decide +kernel
theorem dX10_say_67 : decode cX10_say 67 = .ok (.isub, 1) := by decide +kernel
theorem dX10_say_68 : decode cX10_say 68 = .ok (.ireturn, 1) := by decide +kernel
theorem dX10_say_69 : decode cX10_say 69 = .ok (.aload 4, 2) := by decide +kernel
theorem dX10_say_71 : decode cX10_say 71 = .ok (.getfield 61, 3) := by decide +kernel
theorem dX10_say_74 : decode cX10_say 74 = .ok (.iconst (-1), 1) := by decide +kernel
theorem dX10_say_75 : decode cX10_say 75 = .ok (.if_icmp .eq 12, 3) := by decide +kernel
theorem dX10_say_78 : decode cX10_say 78 = .ok (.aload_n 1, 1) := by decide +kernel
theorem dX10_say_79 : decode cX10_say 79 = .ok (.aload 4, 2) := by decide +kernel
theorem dX10_say_81 : decode cX10_say 81 = .ok (.getfield 61, 3) := by decide +kernel
theorem dX10_say_84 : decode cX10_say 84 = .ok (.putfield 64, 3) := by decide +kernel
theorem dX10_say_87 : decode cX10_say 87 = .ok (.aload_n 1, 1) := by decide +kernel
theorem dX10_say_88 : decode cX10_say 88 = .ok (.aload 4, 2) := by decide +kernel
theorem dX10_say_90 : decode cX10_say 90 = .ok (.getfield 67, 3) := by decide +kernel
theorem dX10_say_93 : decode cX10_say 93 = .ok (.putfield 52, 3) := by decide +kernel
theorem dX10_say_96 : decode cX10_say 96 = .ok (.iload_n 3, 1) := by decide +kernel
theorem dX10_say_97 : decode cX10_say 97 = .ok (.ireturn, 1) := by decide +kernel
theorem dX10_firstThatFits_0 : decode cX10_firstThatFits 0 = .ok (.iconst 0, 1) := by decide +kernel
theorem dX10_firstThatFits_1 : decode cX10_firstThatFits 1 = .ok (.istore_n 3, 1) := by decide +kernel
theorem dX10_firstThatFits_2 : decode cX10_firstThatFits 2 = .ok (.iload_n 3, 1) := by decide +kernel
theorem dX10_firstThatFits_3 : decode cX10_firstThatFits 3 = .ok (.aload_n 0, 1) := by decide +kernel
theorem dX10_firstThatFits_4 : decode cX10_firstThatFits 4 = .ok (.getfield 41, 3) := by decide +kernel
theorem dX10_firstThatFits_7 : decode cX10_firstThatFits 7 = .ok (.if_icmp .ge 34, 3) := by decide +kernel
theorem dX10_firstThatFits_10 : decode cX10_firstThatFits 10 = .ok (.iload_n 3, 1) := by decide +kernel
theorem dX10_firstThatFits_11 : decode cX10_firstThatFits 11 = .ok (.aload_n 0, 1) := by decide +kernel
theorem dX10_firstThatFits_12 : decode cX10_firstThatFits 12 = .ok (.getfield 25, 3) := by decide +kernel
theorem dX10_firstThatFits_15 : decode cX10_firstThatFits 15 = .ok (.arraylength, 1) := by decide +kernel
theorem dX10_firstThatFits_16 : decode cX10_firstThatFits 16 = .ok (.if_icmp .ge 25, 3) := by decide +kernel
theorem dX10_firstThatFits_19 : decode cX10_firstThatFits 19 = .ok (.aload_n 0, 1) := by decide +kernel
theorem dX10_firstThatFits_20 : decode cX10_firstThatFits 20 = .ok (.getfield 25, 3) := by decide +kernel
theorem dX10_firstThatFits_23 : decode cX10_firstThatFits 23 = .ok (.iload_n 3, 1) := by decide +kernel
theorem dX10_firstThatFits_24 : decode cX10_firstThatFits 24 = .ok (.aaload, 1) := by decide +kernel
theorem dX10_firstThatFits_25 : decode cX10_firstThatFits 25 = .ok (.aload_n 1, 1) := by decide +kernel
theorem dX10_firstThatFits_26 : decode cX10_firstThatFits 26 = .ok (.iload_n 2, 1) := by decide +kernel
theorem dX10_firstThatFits_27 : decode cX10_firstThatFits 27 = .ok (.invokevirtual 70, 3) := by decide +kernel
theorem dX10_firstThatFits_30 : decode cX10_firstThatFits 30 = .ok (.ifCond .eq 5, 3) := by decide +kernel
theorem dX10_firstThatFits_33 : decode cX10_firstThatFits 33 = .ok (.iload_n 3, 1) := by decide +kernel
theorem dX10_firstThatFits_34 : decode cX10_firstThatFits 34 = .ok (.ireturn, 1) := by decide +kernel
theorem dX10_firstThatFits_35 : decode cX10_firstThatFits 35 = .ok (.iinc 3 1, 3) := by decide +kernel
theorem dX10_firstThatFits_38 : decode cX10_firstThatFits 38 = .ok (.goto (-36), 3) := by decide +kernel
theorem dX10_firstThatFits_41 : decode cX10_firstThatFits 41 = .ok (.iconst (-1), 1) := by decide +kernel
theorem dX10_firstThatFits_42 : decode cX10_firstThatFits 42 = .ok (.ireturn, 1) := by decide +kernel
theorem dX10_act_0 : decode cX10_act 0 = .ok (.aload_n 1, 1) := by decide +kernel
theorem dX10_act_1 : decode cX10_act 1 = .ok (.getfield 74, 3) := by decide +kernel
theorem dX10_act_4 : decode cX10_act 4 = .ok (.tableswitch 143 1 6 #[40, 63, 70, 89, 101, 133], 40) := by decide +kernel
theorem dX10_act_44 : decode cX10_act 44 = .ok (.aload_n 2, 1) := by decide +kernel
theorem dX10_act_45 : decode cX10_act 45 = .ok (.aload_n 1, 1) := by decide +kernel
theorem dX10_act_46 : decode cX10_act 46 = .ok (.getfield 76, 3) := by decide +kernel
theorem dX10_act_49 : decode cX10_act 49 = .ok (.aload_n 2, 1) := by decide +kernel
theorem dX10_act_50 : decode cX10_act 50 = .ok (.aload_n 1, 1) := by decide +kernel
theorem dX10_act_51 : decode cX10_act 51 = .ok (.getfield 76, 3) := by decide +kernel
theorem dX10_act_54 : decode cX10_act 54 = .ok (.invokevirtual 79, 3) := by decide +kernel
theorem dX10_act_57 : decode cX10_act 57 = .ok (.aload_n 1, 1) := by decide +kernel
theorem dX10_act_58 : decode cX10_act 58 = .ok (.getfield 83, 3) := by decide +kernel
theorem dX10_act_61 : decode cX10_act 61 = .ok (.iadd, 1) := by decide +kernel
theorem dX10_act_62 : decode cX10_act 62 = .ok (.invokevirtual 86, 3) := by decide +kernel
theorem dX10_act_65 : decode cX10_act 65 = .ok (.iconst 0, 1) := by decide +kernel
theorem dX10_act_66 : decode cX10_act 66 = .ok (.ireturn, 1) := by decide +kernel
theorem dX10_act_67 : decode cX10_act 67 = .ok (.aload_n 0, 1) := by decide +kernel
theorem dX10_act_68 : decode cX10_act 68 = .ok (.aload_n 1, 1) := by decide +kernel
theorem dX10_act_69 : decode cX10_act 69 = .ok (.aload_n 2, 1) := by decide +kernel
theorem dX10_act_70 : decode cX10_act 70 = .ok (.invokevirtual 89, 3) := by decide +kernel
theorem dX10_act_73 : decode cX10_act 73 = .ok (.ireturn, 1) := by decide +kernel
theorem dX10_act_74 : decode cX10_act 74 = .ok (.aload_n 0, 1) := by decide +kernel
theorem dX10_act_75 : decode cX10_act 75 = .ok (.aload_n 1, 1) := by decide +kernel
theorem dX10_act_76 : decode cX10_act 76 = .ok (.getfield 76, 3) := by decide +kernel
theorem dX10_act_79 : decode cX10_act 79 = .ok (.iconst 2, 1) := by decide +kernel
theorem dX10_act_80 : decode cX10_act 80 = .ok (.aload_n 2, 1) := by decide +kernel
theorem dX10_act_81 : decode cX10_act 81 = .ok (.aload_n 1, 1) := by decide +kernel
theorem dX10_act_82 : decode cX10_act 82 = .ok (.getfield 83, 3) := by decide +kernel
theorem dX10_act_85 : decode cX10_act 85 = .ok (.invokevirtual 79, 3) := by decide +kernel
theorem dX10_act_88 : decode cX10_act 88 = .ok (.aload_n 2, 1) := by decide +kernel
theorem dX10_act_89 : decode cX10_act 89 = .ok (.invokevirtual 92, 3) := by decide +kernel
theorem dX10_act_92 : decode cX10_act 92 = .ok (.ireturn, 1) := by decide +kernel
theorem dX10_act_93 : decode cX10_act 93 = .ok (.aload_n 0, 1) := by decide +kernel
theorem dX10_act_94 : decode cX10_act 94 = .ok (.aload_n 1, 1) := by decide +kernel
theorem dX10_act_95 : decode cX10_act 95 = .ok (.getfield 76, 3) := by decide +kernel
theorem dX10_act_98 : decode cX10_act 98 = .ok (.iconst 1, 1) := by decide +kernel
theorem dX10_act_99 : decode cX10_act 99 = .ok (.iconst 0, 1) := by decide +kernel
theorem dX10_act_100 : decode cX10_act 100 = .ok (.aload_n 2, 1) := by decide +kernel
theorem dX10_act_101 : decode cX10_act 101 = .ok (.invokevirtual 92, 3) := by decide +kernel
theorem dX10_act_104 : decode cX10_act 104 = .ok (.ireturn, 1) := by decide +kernel
theorem dX10_act_105 : decode cX10_act 105 = .ok (.aload_n 2, 1) := by decide +kernel
theorem dX10_act_106 : decode cX10_act 106 = .ok (.aload_n 2, 1) := by decide +kernel
theorem dX10_act_107 : decode cX10_act 107 = .ok (.getfield 96, 3) := by decide +kernel
theorem dX10_act_110 : decode cX10_act 110 = .ok (.invokestatic 99, 3) := by decide +kernel
theorem dX10_act_113 : decode cX10_act 113 = .ok (.putfield 96, 3) := by decide +kernel
theorem dX10_act_116 : decode cX10_act 116 = .ok (.aload_n 2, 1) := by decide +kernel
theorem dX10_act_117 : decode cX10_act 117 = .ok (.aload_n 1, 1) := by decide +kernel
theorem dX10_act_118 : decode cX10_act 118 = .ok (.getfield 76, 3) := by decide +kernel
theorem dX10_act_121 : decode cX10_act 121 = .ok (.aload_n 2, 1) := by decide +kernel
theorem dX10_act_122 : decode cX10_act 122 = .ok (.getfield 96, 3) := by decide +kernel
theorem dX10_act_125 : decode cX10_act 125 = .ok (.aload_n 1, 1) := by decide +kernel
theorem dX10_act_126 : decode cX10_act 126 = .ok (.getfield 83, 3) := by decide +kernel
theorem dX10_act_129 : decode cX10_act 129 = .ok (.invokestatic 102, 3) := by decide +kernel
theorem dX10_act_132 : decode cX10_act 132 = .ok (.invokevirtual 86, 3) := by decide +kernel
theorem dX10_act_135 : decode cX10_act 135 = .ok (.iconst 0, 1) := by decide +kernel
theorem dX10_act_136 : decode cX10_act 136 = .ok (.ireturn, 1) := by decide +kernel
theorem dX10_act_137 : decode cX10_act 137 = .ok (.aload_n 2, 1) := by decide +kernel
theorem dX10_act_138 : decode cX10_act 138 = .ok (.aload_n 1, 1) := by decide +kernel
theorem dX10_act_139 : decode cX10_act 139 = .ok (.getfield 76, 3) := by decide +kernel
theorem dX10_act_142 : decode cX10_act 142 = .ok (.putfield 106, 3) := by decide +kernel
theorem dX10_act_145 : decode cX10_act 145 = .ok (.iconst 0, 1) := by decide +kernel
theorem dX10_act_146 : decode cX10_act 146 = .ok (.ireturn, 1) := by decide +kernel
theorem dX10_act_147 : decode cX10_act 147 = .ok (.iconst 0, 1) := by decide +kernel
theorem dX10_act_148 : decode cX10_act 148 = .ok (.ireturn, 1) := by decide +kernel
theorem dX10_divide_0 : decode cX10_divide 0 = .ok (.aload_n 2, 1) := by decide +kernel
theorem dX10_divide_1 : decode cX10_divide 1 = .ok (.aload_n 1, 1) := by decide +kernel
theorem dX10_divide_2 : decode cX10_divide 2 = .ok (.getfield 83, 3) := by decide +kernel
theorem dX10_divide_5 : decode cX10_divide 5 = .ok (.invokevirtual 79, 3) := by decide +kernel
theorem dX10_divide_8 : decode cX10_divide 8 = .ok (.istore_n 3, 1) := by decide +kernel
theorem dX10_divide_9 : decode cX10_divide 9 = .ok (.iload_n 3, 1) := by decide +kernel
theorem dX10_divide_10 : decode cX10_divide 10 = .ok (.ifCond .ne 5, 3) := by decide +kernel
theorem dX10_divide_13 : decode cX10_divide 13 = .ok (.iconst 4, 1) := by decide +kernel
theorem dX10_divide_14 : decode cX10_divide 14 = .ok (.ireturn, 1) := by decide +kernel
theorem dX10_divide_15 : decode cX10_divide 15 = .ok (.aload_n 2, 1) := by decide +kernel
theorem dX10_divide_16 : decode cX10_divide 16 = .ok (.aload_n 1, 1) := by decide +kernel
theorem dX10_divide_17 : decode cX10_divide 17 = .ok (.getfield 76, 3) := by decide +kernel
theorem dX10_divide_20 : decode cX10_divide 20 = .ok (.bipush 12, 2) := by decide +kernel
theorem dX10_divide_22 : decode cX10_divide 22 = .ok (.iload_n 3, 1) := by decide +kernel
theorem dX10_divide_23 : decode cX10_divide 23 = .ok (.idiv, 1) := by decide +kernel
theorem dX10_divide_24 : decode cX10_divide 24 = .ok (.invokevirtual 86, 3) := by decide +kernel
theorem dX10_divide_27 : decode cX10_divide 27 = .ok (.iconst 0, 1) := by decide +kernel
theorem dX10_divide_28 : decode cX10_divide 28 = .ok (.ireturn, 1) := by decide +kernel
theorem dX10_takeItem_0 : decode cX10_takeItem 0 = .ok (.iload_n 1, 1) := by decide +kernel
theorem dX10_takeItem_1 : decode cX10_takeItem 1 = .ok (.ifCond .lt 12, 3) := by decide +kernel
theorem dX10_takeItem_4 : decode cX10_takeItem 4 = .ok (.iload_n 1, 1) := by decide +kernel
theorem dX10_takeItem_5 : decode cX10_takeItem 5 = .ok (.aload_n 0, 1) := by decide +kernel
theorem dX10_takeItem_6 : decode cX10_takeItem 6 = .ok (.getfield 31, 3) := by decide +kernel
theorem dX10_takeItem_9 : decode cX10_takeItem 9 = .ok (.arraylength, 1) := by decide +kernel
theorem dX10_takeItem_10 : decode cX10_takeItem 10 = .ok (.if_icmp .lt 5, 3) := by decide +kernel
theorem dX10_takeItem_13 : decode cX10_takeItem 13 = .ok (.iconst 1, 1) := by decide +kernel
theorem dX10_takeItem_14 : decode cX10_takeItem 14 = .ok (.ireturn, 1) := by decide +kernel
theorem dX10_takeItem_15 : decode cX10_takeItem 15 = .ok (.aload_n 0, 1) := by decide +kernel
theorem dX10_takeItem_16 : decode cX10_takeItem 16 = .ok (.getfield 31, 3) := by decide +kernel
theorem dX10_takeItem_19 : decode cX10_takeItem 19 = .ok (.iload_n 1, 1) := by decide +kernel
theorem dX10_takeItem_20 : decode cX10_takeItem 20 = .ok (.aaload, 1) := by decide +kernel
theorem dX10_takeItem_21 : decode cX10_takeItem 21 = .ok (.iload_n 2, 1) := by decide +kernel
theorem dX10_takeItem_22 : decode cX10_takeItem 22 = .ok (.iload_n 3, 1) := by decide +kernel
theorem dX10_takeItem_23 : decode cX10_takeItem 23 = .ok (.invokevirtual 109, 3) := by decide +kernel
theorem dX10_takeItem_26 : decode cX10_takeItem 26 = .ok (.istore 5, 2) := by decide +kernel
theorem dX10_takeItem_28 : decode cX10_takeItem 28 = .ok (.iload 5, 2) := by decide +kernel
theorem dX10_takeItem_30 : decode cX10_takeItem 30 = .ok (.ifCond .ne 20, 3) := by decide +kernel
theorem dX10_takeItem_33 : decode cX10_takeItem 33 = .ok (.aload 4, 2) := by decide +kernel
theorem dX10_takeItem_35 : decode cX10_takeItem 35 = .ok (.bipush 7, 2) := by decide +kernel
theorem dX10_takeItem_37 : decode cX10_takeItem 37 = .ok (.aload_n 0, 1) := by decide +kernel
theorem dX10_takeItem_38 : decode cX10_takeItem 38 = .ok (.getfield 31, 3) := by decide +kernel
theorem dX10_takeItem_41 : decode cX10_takeItem 41 = .ok (.iload_n 1, 1) := by decide +kernel
theorem dX10_takeItem_42 : decode cX10_takeItem 42 = .ok (.aaload, 1) := by decide +kernel
theorem dX10_takeItem_43 : decode cX10_takeItem 43 = .ok (.iload_n 3, 1) := by decide +kernel
theorem dX10_takeItem_44 : decode cX10_takeItem 44 = .ok (.invokevirtual 112, 3) := by decide +kernel
theorem dX10_takeItem_47 : decode cX10_takeItem 47 = .ok (.invokevirtual 86, 3) := by decide +kernel
theorem dX10_takeItem_50 : decode cX10_takeItem 50 = .ok (.iload 5, 2) := by decide +kernel
theorem dX10_takeItem_52 : decode cX10_takeItem 52 = .ok (.ireturn, 1) := by decide +kernel
theorem dX10_nextSeed_0 : decode cX10_nextSeed 0 = .ok (.iload_n 0, 1) := by decide +kernel
theorem dX10_nextSeed_1 : decode cX10_nextSeed 1 = .ok (.ldc 115, 2) := by decide +kernel
theorem dX10_nextSeed_3 : decode cX10_nextSeed 3 = .ok (.imul, 1) := by decide +kernel
theorem dX10_nextSeed_4 : decode cX10_nextSeed 4 = .ok (.sipush 12345, 3) := by decide +kernel
theorem dX10_nextSeed_7 : decode cX10_nextSeed 7 = .ok (.iadd, 1) := by decide +kernel
theorem dX10_nextSeed_8 : decode cX10_nextSeed 8 = .ok (.ireturn, 1) := by decide +kernel
theorem dX10_drawn_0 : decode cX10_drawn 0 = .ok (.iload_n 1, 1) := by decide +kernel
theorem dX10_drawn_1 : decode cX10_drawn 1 = .ok (.iconst 1, 1) := by decide +kernel
theorem dX10_drawn_2 : decode cX10_drawn 2 = .ok (.if_icmp .ge 7, 3) := by decide +kernel
theorem dX10_drawn_5 : decode cX10_drawn 5 = .ok (.iconst 0, 1) := by decide +kernel
theorem dX10_drawn_6 : decode cX10_drawn 6 = .ok (.goto 13, 3) := by decide +kernel
theorem dX10_drawn_9 : decode cX10_drawn 9 = .ok (.iload_n 0, 1) := by decide +kernel
theorem dX10_drawn_10 : decode cX10_drawn 10 = .ok (.bipush 16, 2) := by decide +kernel
theorem dX10_drawn_12 : decode cX10_drawn 12 = .ok (.iushr, 1) := by decide +kernel
theorem dX10_drawn_13 : decode cX10_drawn 13 = .ok (.sipush 32767, 3) := by decide +kernel
theorem dX10_drawn_16 : decode cX10_drawn 16 = .ok (.iand, 1) := by decide +kernel
theorem dX10_drawn_17 : decode cX10_drawn 17 = .ok (.iload_n 1, 1) := by decide +kernel
theorem dX10_drawn_18 : decode cX10_drawn 18 = .ok (.irem, 1) := by decide +kernel
theorem dX10_drawn_19 : decode cX10_drawn 19 = .ok (.ireturn, 1) := by decide +kernel
theorem dX10_textLength_0 : decode cX10_textLength 0 = .ok (.iload_n 1, 1) := by decide +kernel
theorem dX10_textLength_1 : decode cX10_textLength 1 = .ok (.iconst (-1), 1) := by decide +kernel
theorem dX10_textLength_2 : decode cX10_textLength 2 = .ok (.if_icmp .ne 7, 3) := by decide +kernel
theorem dX10_textLength_5 : decode cX10_textLength 5 = .ok (.iconst 1, 1) := by decide +kernel
theorem dX10_textLength_6 : decode cX10_textLength 6 = .ok (.goto 11, 3) := by decide +kernel
theorem dX10_textLength_9 : decode cX10_textLength 9 = .ok (.aload_n 0, 1) := by decide +kernel
theorem dX10_textLength_10 : decode cX10_textLength 10 = .ok (.getfield 20, 3) := by decide +kernel
theorem dX10_textLength_13 : decode cX10_textLength 13 = .ok (.iload_n 1, 1) := by decide +kernel
theorem dX10_textLength_14 : decode cX10_textLength 14 = .ok (.invokevirtual 116, 3) := by decide +kernel
theorem dX10_textLength_17 : decode cX10_textLength 17 = .ok (.ireturn, 1) := by decide +kernel
theorem dX10_textSign_0 : decode cX10_textSign 0 = .ok (.iload_n 1, 1) := by decide +kernel
theorem dX10_textSign_1 : decode cX10_textSign 1 = .ok (.iconst (-1), 1) := by decide +kernel
theorem dX10_textSign_2 : decode cX10_textSign 2 = .ok (.if_icmp .ne 8, 3) := by decide +kernel
theorem dX10_textSign_5 : decode cX10_textSign 5 = .ok (.bipush 63, 2) := by decide +kernel
theorem dX10_textSign_7 : decode cX10_textSign 7 = .ok (.goto 12, 3) := by decide +kernel
theorem dX10_textSign_10 : decode cX10_textSign 10 = .ok (.aload_n 0, 1) := by decide +kernel
theorem dX10_textSign_11 : decode cX10_textSign 11 = .ok (.getfield 20, 3) := by decide +kernel
theorem dX10_textSign_14 : decode cX10_textSign 14 = .ok (.iload_n 1, 1) := by decide +kernel
theorem dX10_textSign_15 : decode cX10_textSign 15 = .ok (.iload_n 2, 1) := by decide +kernel
theorem dX10_textSign_16 : decode cX10_textSign 16 = .ok (.invokevirtual 119, 3) := by decide +kernel
theorem dX10_textSign_19 : decode cX10_textSign 19 = .ok (.ireturn, 1) := by decide +kernel
theorem dX10_textStands_0 : decode cX10_textStands 0 = .ok (.iload_n 1, 1) := by decide +kernel
theorem dX10_textStands_1 : decode cX10_textStands 1 = .ok (.iconst (-1), 1) := by decide +kernel
theorem dX10_textStands_2 : decode cX10_textStands 2 = .ok (.if_icmp .ne 27, 3) := by decide +kernel
theorem dX10_textStands_5 : decode cX10_textStands 5 = .ok (.iload 4, 2) := by decide +kernel
theorem dX10_textStands_7 : decode cX10_textStands 7 = .ok (.iload_n 3, 1) := by decide +kernel
theorem dX10_textStands_8 : decode cX10_textStands 8 = .ok (.isub, 1) := by decide +kernel
theorem dX10_textStands_9 : decode cX10_textStands 9 = .ok (.iconst 1, 1) := by decide +kernel
theorem dX10_textStands_10 : decode cX10_textStands 10 = .ok (.if_icmp .ne 17, 3) := by decide +kernel
theorem dX10_textStands_13 : decode cX10_textStands 13 = .ok (.aload_n 2, 1) := by decide +kernel
theorem dX10_textStands_14 : decode cX10_textStands 14 = .ok (.iload_n 3, 1) := by decide +kernel
theorem dX10_textStands_15 : decode cX10_textStands 15 = .ok (.invokevirtual 122, 3) := by decide +kernel
theorem dX10_textStands_18 : decode cX10_textStands 18 = .ok (.bipush 63, 2) := by decide +kernel
theorem dX10_textStands_20 : decode cX10_textStands 20 = .ok (.if_icmp .ne 7, 3) := by decide +kernel
theorem dX10_textStands_23 : decode cX10_textStands 23 = .ok (.iconst 1, 1) := by decide +kernel
theorem dX10_textStands_24 : decode cX10_textStands 24 = .ok (.goto 4, 3) := by decide +kernel
theorem dX10_textStands_27 : decode cX10_textStands 27 = .ok (.iconst 0, 1) := by decide +kernel
theorem dX10_textStands_28 : decode cX10_textStands 28 = .ok (.ireturn, 1) := by decide +kernel
theorem dX10_textStands_29 : decode cX10_textStands 29 = .ok (.aload_n 0, 1) := by decide +kernel
theorem dX10_textStands_30 : decode cX10_textStands 30 = .ok (.getfield 20, 3) := by decide +kernel
theorem dX10_textStands_33 : decode cX10_textStands 33 = .ok (.iload_n 1, 1) := by decide +kernel
theorem dX10_textStands_34 : decode cX10_textStands 34 = .ok (.aload_n 2, 1) := by decide +kernel
theorem dX10_textStands_35 : decode cX10_textStands 35 = .ok (.iload_n 3, 1) := by decide +kernel
theorem dX10_textStands_36 : decode cX10_textStands 36 = .ok (.iload 4, 2) := by decide +kernel
theorem dX10_textStands_38 : decode cX10_textStands 38 = .ok (.invokevirtual 127, 3) := by decide +kernel
theorem dX10_textStands_41 : decode cX10_textStands 41 = .ok (.ireturn, 1) := by decide +kernel
theorem dX11_init_0 : decode cX11_init 0 = .ok (.aload_n 0, 1) := by decide +kernel
theorem dX11_init_1 : decode cX11_init 1 = .ok (.invokespecial 1, 3) := by decide +kernel
theorem dX11_init_4 : decode cX11_init 4 = .ok (.aload_n 0, 1) := by decide +kernel
theorem dX11_init_5 : decode cX11_init 5 = .ok (.new 7, 3) := by decide +kernel
theorem dX11_init_8 : decode cX11_init 8 = .ok (.dup, 1) := by decide +kernel
theorem dX11_init_9 : decode cX11_init 9 = .ok (.sipush 600, 3) := by decide +kernel
theorem dX11_init_12 : decode cX11_init 12 = .ok (.invokespecial 11, 3) := by decide +kernel
theorem dX11_init_15 : decode cX11_init 15 = .ok (.putfield 14, 3) := by decide +kernel
theorem dX11_init_18 : decode cX11_init 18 = .ok (.aload_n 0, 1) := by decide +kernel
theorem dX11_init_19 : decode cX11_init 19 = .ok (.bipush 10, 2) := by decide +kernel
theorem dX11_init_21 : decode cX11_init 21 = .ok (.anewarray 7, 3) := by decide +kernel
theorem dX11_init_24 : decode cX11_init 24 = .ok (.putfield 18, 3) := by decide +kernel
theorem dX11_init_27 : decode cX11_init 27 = .ok (.aload_n 0, 1) := by decide +kernel
theorem dX11_init_28 : decode cX11_init 28 = .ok (.new 22, 3) := by decide +kernel
theorem dX11_init_31 : decode cX11_init 31 = .ok (.dup, 1) := by decide +kernel
theorem dX11_init_32 : decode cX11_init 32 = .ok (.iload_n 1, 1) := by decide +kernel
theorem dX11_init_33 : decode cX11_init 33 = .ok (.invokespecial 24, 3) := by decide +kernel
theorem dX11_init_36 : decode cX11_init 36 = .ok (.putfield 25, 3) := by decide +kernel
theorem dX11_init_39 : decode cX11_init 39 = .ok (.aload_n 0, 1) := by decide +kernel
theorem dX11_init_40 : decode cX11_init 40 = .ok (.new 29, 3) := by decide +kernel
theorem dX11_init_43 : decode cX11_init 43 = .ok (.dup, 1) := by decide +kernel
theorem dX11_init_44 : decode cX11_init 44 = .ok (.aload_n 0, 1) := by decide +kernel
theorem dX11_init_45 : decode cX11_init 45 = .ok (.getfield 25, 3) := by decide +kernel
theorem dX11_init_48 : decode cX11_init 48 = .ok (.invokespecial 31, 3) := by decide +kernel
theorem dX11_init_51 : decode cX11_init 51 = .ok (.putfield 34, 3) := by decide +kernel
theorem dX11_init_54 : decode cX11_init 54 = .ok (.aload_n 0, 1) := by decide +kernel
theorem dX11_init_55 : decode cX11_init 55 = .ok (.new 38, 3) := by decide +kernel
theorem dX11_init_58 : decode cX11_init 58 = .ok (.dup, 1) := by decide +kernel
theorem dX11_init_59 : decode cX11_init 59 = .ok (.aload_n 0, 1) := by decide +kernel
theorem dX11_init_60 : decode cX11_init 60 = .ok (.getfield 25, 3) := by decide +kernel
theorem dX11_init_63 : decode cX11_init 63 = .ok (.aload_n 0, 1) := by decide +kernel
theorem dX11_init_64 : decode cX11_init 64 = .ok (.getfield 34, 3) := by decide +kernel
theorem dX11_init_67 : decode cX11_init 67 = .ok (.invokespecial 40, 3) := by decide +kernel
theorem dX11_init_70 : decode cX11_init 70 = .ok (.putfield 43, 3) := by decide +kernel
theorem dX11_init_73 : decode cX11_init 73 = .ok (.aload_n 0, 1) := by decide +kernel
theorem dX11_init_74 : decode cX11_init 74 = .ok (.new 47, 3) := by decide +kernel
theorem dX11_init_77 : decode cX11_init 77 = .ok (.dup, 1) := by decide +kernel
theorem dX11_init_78 : decode cX11_init 78 = .ok (.aload_n 0, 1) := by decide +kernel
theorem dX11_init_79 : decode cX11_init 79 = .ok (.getfield 25, 3) := by decide +kernel
theorem dX11_init_82 : decode cX11_init 82 = .ok (.aload_n 0, 1) := by decide +kernel
theorem dX11_init_83 : decode cX11_init 83 = .ok (.getfield 34, 3) := by decide +kernel
theorem dX11_init_86 : decode cX11_init 86 = .ok (.invokespecial 49, 3) := by decide +kernel
theorem dX11_init_89 : decode cX11_init 89 = .ok (.putfield 50, 3) := by decide +kernel
theorem dX11_init_92 : decode cX11_init 92 = .ok (.return_, 1) := by decide +kernel
theorem dX11_feed_0 : decode cX11_feed 0 = .ok (.iload_n 3, 1) := by decide +kernel
theorem dX11_feed_1 : decode cX11_feed 1 = .ok (.iconst 1, 1) := by decide +kernel
theorem dX11_feed_2 : decode cX11_feed 2 = .ok (.if_icmp .lt 9, 3) := by decide +kernel
theorem dX11_feed_5 : decode cX11_feed 5 = .ok (.iload_n 3, 1) := by decide +kernel
theorem dX11_feed_6 : decode cX11_feed 6 = .ok (.bipush 8, 2) := by decide +kernel
theorem dX11_feed_8 : decode cX11_feed 8 = .ok (.if_icmp .le 6, 3) := by decide +kernel
theorem dX11_feed_11 : decode cX11_feed 11 = .ok (.bipush (-3), 2) := by decide +kernel
theorem dX11_feed_13 : decode cX11_feed 13 = .ok (.ireturn, 1) := by decide +kernel
theorem dX11_feed_14 : decode cX11_feed 14 = .ok (.aload_n 0, 1) := by decide +kernel
theorem dX11_feed_15 : decode cX11_feed 15 = .ok (.getfield 14, 3) := by decide +kernel
theorem dX11_feed_18 : decode cX11_feed 18 = .ok (.getfield 54, 3) := by decide +kernel
theorem dX11_feed_21 : decode cX11_feed 21 = .ok (.iload_n 3, 1) := by decide +kernel
theorem dX11_feed_22 : decode cX11_feed 22 = .ok (.iadd, 1) := by decide +kernel
theorem dX11_feed_23 : decode cX11_feed 23 = .ok (.sipush 600, 3) := by decide +kernel
theorem dX11_feed_26 : decode cX11_feed 26 = .ok (.if_icmp .le 6, 3) := by decide +kernel
theorem dX11_feed_29 : decode cX11_feed 29 = .ok (.bipush (-5), 2) := by decide +kernel
theorem dX11_feed_31 : decode cX11_feed 31 = .ok (.ireturn, 1) := by decide +kernel
theorem dX11_feed_32 : decode cX11_feed 32 = .ok (.iload_n 3, 1) := by decide +kernel
theorem dX11_feed_33 : decode cX11_feed 33 = .ok (.iconst 1, 1) := by decide +kernel
theorem dX11_feed_34 : decode cX11_feed 34 = .ok (.isub, 1) := by decide +kernel
theorem dX11_feed_35 : decode cX11_feed 35 = .ok (.istore 4, 2) := by decide +kernel
theorem dX11_feed_37 : decode cX11_feed 37 = .ok (.iload 4, 2) := by decide +kernel
theorem dX11_feed_39 : decode cX11_feed 39 = .ok (.ifCond .lt 28, 3) := by decide +kernel
theorem dX11_feed_42 : decode cX11_feed 42 = .ok (.aload_n 0, 1) := by decide +kernel
theorem dX11_feed_43 : decode cX11_feed 43 = .ok (.getfield 14, 3) := by decide +kernel
theorem dX11_feed_46 : decode cX11_feed 46 = .ok (.lload_n 1, 1) := by decide +kernel
theorem dX11_feed_47 : decode cX11_feed 47 = .ok (.bipush 8, 2) := by decide +kernel
theorem dX11_feed_49 : decode cX11_feed 49 = .ok (.iload 4, 2) := by decide +kernel
theorem dX11_feed_51 : decode cX11_feed 51 = .ok (.imul, 1) := by decide +kernel
theorem dX11_feed_52 : decode cX11_feed 52 = .ok (.lushr, 1) := by decide +kernel
theorem dX11_feed_53 : decode cX11_feed 53 = .ok (.l2i, 1) := by decide +kernel
theorem dX11_feed_54 : decode cX11_feed 54 = .ok (.sipush 255, 3) := by decide +kernel
theorem dX11_feed_57 : decode cX11_feed 57 = .ok (.iand, 1) := by decide +kernel
theorem dX11_feed_58 : decode cX11_feed 58 = .ok (.invokevirtual 58, 3) := by decide +kernel
theorem dX11_feed_61 : decode cX11_feed 61 = .ok (.iinc 4 (-1), 3) := by decide +kernel
theorem dX11_feed_64 : decode cX11_feed 64 = .ok (.goto (-27), 3) := by decide +kernel
theorem dX11_feed_67 : decode cX11_feed 67 = .ok (.aload_n 0, 1) := by decide +kernel
theorem dX11_feed_68 : decode cX11_feed 68 = .ok (.getfield 14, 3) := by decide +kernel
theorem dX11_feed_71 : decode cX11_feed 71 = .ok (.getfield 54, 3) := by decide +kernel
theorem dX11_feed_74 : decode cX11_feed 74 = .ok (.ireturn, 1) := by decide +kernel
theorem dX11_word_0 : decode cX11_word 0 = .ok (.aload_n 0, 1) := by decide +kernel
theorem dX11_word_1 : decode cX11_word 1 = .ok (.invokevirtual 61, 3) := by decide +kernel
theorem dX11_word_4 : decode cX11_word 4 = .ok (.istore_n 1, 1) := by decide +kernel
theorem dX11_word_5 : decode cX11_word 5 = .ok (.aload_n 0, 1) := by decide +kernel
theorem dX11_word_6 : decode cX11_word 6 = .ok (.getfield 14, 3) := by decide +kernel
theorem dX11_word_9 : decode cX11_word 9 = .ok (.invokevirtual 65, 3) := by decide +kernel
theorem dX11_word_12 : decode cX11_word 12 = .ok (.iload_n 1, 1) := by decide +kernel
theorem dX11_word_13 : decode cX11_word 13 = .ok (.ireturn, 1) := by decide +kernel
theorem dX11_addWord_0 : decode cX11_addWord 0 = .ok (.aload_n 0, 1) := by decide +kernel
theorem dX11_addWord_1 : decode cX11_addWord 1 = .ok (.getfield 14, 3) := by decide +kernel
theorem dX11_addWord_4 : decode cX11_addWord 4 = .ok (.iconst 0, 1) := by decide +kernel
theorem dX11_addWord_5 : decode cX11_addWord 5 = .ok (.invokestatic 68, 3) := by decide +kernel
theorem dX11_addWord_8 : decode cX11_addWord 8 = .ok (.aload_n 0, 1) := by decide +kernel
theorem dX11_addWord_9 : decode cX11_addWord 9 = .ok (.getfield 14, 3) := by decide +kernel
theorem dX11_addWord_12 : decode cX11_addWord 12 = .ok (.getfield 54, 3) := by decide +kernel
theorem dX11_addWord_15 : decode cX11_addWord 15 = .ok (.if_icmp .eq 6, 3) := by decide +kernel
theorem dX11_addWord_18 : decode cX11_addWord 18 = .ok (.bipush (-3), 2) := by decide +kernel
theorem dX11_addWord_20 : decode cX11_addWord 20 = .ok (.ireturn, 1) := by decide +kernel
theorem dX11_addWord_21 : decode cX11_addWord 21 = .ok (.aload_n 0, 1) := by decide +kernel
theorem dX11_addWord_22 : decode cX11_addWord 22 = .ok (.getfield 25, 3) := by decide +kernel
theorem dX11_addWord_25 : decode cX11_addWord 25 = .ok (.getfield 74, 3) := by decide +kernel
theorem dX11_addWord_28 : decode cX11_addWord 28 = .ok (.aload_n 0, 1) := by decide +kernel
theorem dX11_addWord_29 : decode cX11_addWord 29 = .ok (.getfield 14, 3) := by decide +kernel
theorem dX11_addWord_32 : decode cX11_addWord 32 = .ok (.iconst 0, 1) := by decide +kernel
theorem dX11_addWord_33 : decode cX11_addWord 33 = .ok (.aload_n 0, 1) := by decide +kernel
theorem dX11_addWord_34 : decode cX11_addWord 34 = .ok (.getfield 14, 3) := by decide +kernel
theorem dX11_addWord_37 : decode cX11_addWord 37 = .ok (.getfield 54, 3) := by decide +kernel
theorem dX11_addWord_40 : decode cX11_addWord 40 = .ok (.invokevirtual 78, 3) := by decide +kernel
theorem dX11_addWord_43 : decode cX11_addWord 43 = .ok (.istore_n 1, 1) := by decide +kernel
theorem dX11_addWord_44 : decode cX11_addWord 44 = .ok (.iload_n 1, 1) := by decide +kernel
theorem dX11_addWord_45 : decode cX11_addWord 45 = .ok (.iconst (-1), 1) := by decide +kernel
theorem dX11_addWord_46 : decode cX11_addWord 46 = .ok (.if_icmp .eq 7, 3) := by decide +kernel
theorem dX11_addWord_49 : decode cX11_addWord 49 = .ok (.iload_n 1, 1) := by decide +kernel
theorem dX11_addWord_50 : decode cX11_addWord 50 = .ok (.goto 17, 3) := by decide +kernel
theorem dX11_addWord_53 : decode cX11_addWord 53 = .ok (.aload_n 0, 1) := by decide +kernel
theorem dX11_addWord_54 : decode cX11_addWord 54 = .ok (.getfield 25, 3) := by decide +kernel
theorem dX11_addWord_57 : decode cX11_addWord 57 = .ok (.getfield 74, 3) := by decide +kernel
theorem dX11_addWord_60 : decode cX11_addWord 60 = .ok (.aload_n 0, 1) := by decide +kernel
theorem dX11_addWord_61 : decode cX11_addWord 61 = .ok (.getfield 14, 3) := by decide +kernel
theorem dX11_addWord_64 : decode cX11_addWord 64 = .ok (.invokevirtual 84, 3) := by decide +kernel
theorem dX11_addWord_67 : decode cX11_addWord 67 = .ok (.ireturn, 1) := by decide +kernel
theorem dX11_text_0 : decode cX11_text 0 = .ok (.aload_n 0, 1) := by decide +kernel
theorem dX11_text_1 : decode cX11_text 1 = .ok (.invokevirtual 87, 3) := by decide +kernel
theorem dX11_text_4 : decode cX11_text 4 = .ok (.istore_n 1, 1) := by decide +kernel
theorem dX11_text_5 : decode cX11_text 5 = .ok (.aload_n 0, 1) := by decide +kernel
theorem dX11_text_6 : decode cX11_text 6 = .ok (.getfield 14, 3) := by decide +kernel
theorem dX11_text_9 : decode cX11_text 9 = .ok (.invokevirtual 65, 3) := by decide +kernel
theorem dX11_text_12 : decode cX11_text 12 = .ok (.iload_n 1, 1) := by decide +kernel
theorem dX11_text_13 : decode cX11_text 13 = .ok (.ireturn, 1) := by decide +kernel
theorem dX11_addText_0 : decode cX11_addText 0 = .ok (.aload_n 0, 1) := by decide +kernel
theorem dX11_addText_1 : decode cX11_addText 1 = .ok (.getfield 14, 3) := by decide +kernel
theorem dX11_addText_4 : decode cX11_addText 4 = .ok (.getfield 54, 3) := by decide +kernel
theorem dX11_addText_7 : decode cX11_addText 7 = .ok (.bipush 20, 2) := by decide +kernel
theorem dX11_addText_9 : decode cX11_addText 9 = .ok (.if_icmp .gt 21, 3) := by decide +kernel
theorem dX11_addText_12 : decode cX11_addText 12 = .ok (.aload_n 0, 1) := by decide +kernel
theorem dX11_addText_13 : decode cX11_addText 13 = .ok (.getfield 14, 3) := by decide +kernel
theorem dX11_addText_16 : decode cX11_addText 16 = .ok (.iconst 0, 1) := by decide +kernel
theorem dX11_addText_17 : decode cX11_addText 17 = .ok (.invokestatic 90, 3) := by decide +kernel
theorem dX11_addText_20 : decode cX11_addText 20 = .ok (.aload_n 0, 1) := by decide +kernel
theorem dX11_addText_21 : decode cX11_addText 21 = .ok (.getfield 14, 3) := by decide +kernel
theorem dX11_addText_24 : decode cX11_addText 24 = .ok (.getfield 54, 3) := by decide +kernel
theorem dX11_addText_27 : decode cX11_addText 27 = .ok (.if_icmp .eq 6, 3) := by decide +kernel
theorem dX11_addText_30 : decode cX11_addText 30 = .ok (.bipush (-3), 2) := by decide +kernel
theorem dX11_addText_32 : decode cX11_addText 32 = .ok (.ireturn, 1) := by decide +kernel
theorem dX11_addText_33 : decode cX11_addText 33 = .ok (.aload_n 0, 1) := by decide +kernel
theorem dX11_addText_34 : decode cX11_addText 34 = .ok (.getfield 25, 3) := by decide +kernel
theorem dX11_addText_37 : decode cX11_addText 37 = .ok (.getfield 93, 3) := by decide +kernel
theorem dX11_addText_40 : decode cX11_addText 40 = .ok (.aload_n 0, 1) := by decide +kernel
theorem dX11_addText_41 : decode cX11_addText 41 = .ok (.getfield 14, 3) := by decide +kernel
theorem dX11_addText_44 : decode cX11_addText 44 = .ok (.invokevirtual 84, 3) := by decide +kernel
theorem dX11_addText_47 : decode cX11_addText 47 = .ok (.ireturn, 1) := by decide +kernel
theorem dX11_rule_0 : decode cX11_rule 0 = .ok (.aload_n 0, 1) := by decide +kernel
theorem dX11_rule_1 : decode cX11_rule 1 = .ok (.getfield 25, 3) := by decide +kernel
theorem dX11_rule_4 : decode cX11_rule 4 = .ok (.getfield 74, 3) := by decide +kernel
theorem dX11_rule_7 : decode cX11_rule 7 = .ok (.iload_n 2, 1) := by decide +kernel
theorem dX11_rule_8 : decode cX11_rule 8 = .ok (.invokevirtual 96, 3) := by decide +kernel
theorem dX11_rule_11 : decode cX11_rule 11 = .ok (.ifCond .eq 18, 3) := by decide +kernel
theorem dX11_rule_14 : decode cX11_rule 14 = .ok (.aload_n 0, 1) := by decide +kernel
theorem dX11_rule_15 : decode cX11_rule 15 = .ok (.getfield 25, 3) := by decide +kernel
theorem dX11_rule_18 : decode cX11_rule 18 = .ok (.getfield 93, 3) := by decide +kernel
theorem dX11_rule_21 : decode cX11_rule 21 = .ok (.iload 8, 2) := by decide +kernel
theorem dX11_rule_23 : decode cX11_rule 23 = .ok (.invokevirtual 96, 3) := by decide +kernel
theorem dX11_rule_26 : decode cX11_rule 26 = .ok (.ifCond .ne 6, 3) := by decide +kernel
theorem dX11_rule_29 : decode cX11_rule 29 = .ok (.bipush (-2), 2) := by decide +kernel
theorem dX11_rule_31 : decode cX11_rule 31 = .ok (.ireturn, 1) := by decide +kernel
theorem dX11_rule_32 : decode cX11_rule 32 = .ok (.iload_n 1, 1) := by decide +kernel
theorem dX11_rule_33 : decode cX11_rule 33 = .ok (.iconst (-1), 1) := by decide +kernel
theorem dX11_rule_34 : decode cX11_rule 34 = .ok (.bipush 7, 2) := by decide +kernel
theorem dX11_rule_36 : decode cX11_rule 36 = .ok (.invokestatic 100, 3) := by decide +kernel
theorem dX11_rule_39 : decode cX11_rule 39 = .ok (.ifCond .eq 24, 3) := by decide +kernel
theorem dX11_rule_42 : decode cX11_rule 42 = .ok (.iload 9, 2) := by decide +kernel
theorem dX11_rule_44 : decode cX11_rule 44 = .ok (.iconst (-1), 1) := by decide +kernel
theorem dX11_rule_45 : decode cX11_rule 45 = .ok (.bipush 7, 2) := by decide +kernel
theorem dX11_rule_47 : decode cX11_rule 47 = .ok (.invokestatic 100, 3) := by decide +kernel
theorem dX11_rule_50 : decode cX11_rule 50 = .ok (.ifCond .eq 13, 3) := by decide +kernel
theorem dX11_rule_53 : decode cX11_rule 53 = .ok (.iload_n 3, 1) := by decide +kernel
theorem dX11_rule_54 : decode cX11_rule 54 = .ok (.iconst (-1), 1) := by decide +kernel
theorem dX11_rule_55 : decode cX11_rule 55 = .ok (.bipush 7, 2) := by decide +kernel
theorem dX11_rule_57 : decode cX11_rule 57 = .ok (.invokestatic 100, 3) := by decide +kernel
theorem dX11_rule_60 : decode cX11_rule 60 = .ok (.ifCond .ne 6, 3) := by decide +kernel
theorem dX11_rule_63 : decode cX11_rule 63 = .ok (.bipush (-3), 2) := by decide +kernel
theorem dX11_rule_65 : decode cX11_rule 65 = .ok (.ireturn, 1) := by decide +kernel
theorem dX11_rule_66 : decode cX11_rule 66 = .ok (.iload 5, 2) := by decide +kernel
theorem dX11_rule_68 : decode cX11_rule 68 = .ok (.iload 6, 2) := by decide +kernel
theorem dX11_rule_70 : decode cX11_rule 70 = .ok (.iload 7, 2) := by decide +kernel
theorem dX11_rule_72 : decode cX11_rule 72 = .ok (.invokestatic 104, 3) := by decide +kernel
theorem dX11_rule_75 : decode cX11_rule 75 = .ok (.ifCond .ne 6, 3) := by decide +kernel
theorem dX11_rule_78 : decode cX11_rule 78 = .ok (.bipush (-3), 2) := by decide +kernel
theorem dX11_rule_80 : decode cX11_rule 80 = .ok (.ireturn, 1) := by decide +kernel
theorem dX11_rule_81 : decode cX11_rule 81 = .ok (.aload_n 0, 1) := by decide +kernel
theorem dX11_rule_82 : decode cX11_rule 82 = .ok (.getfield 25, 3) := by decide +kernel
theorem dX11_rule_85 : decode cX11_rule 85 = .ok (.invokevirtual 107, 3) := by decide +kernel
theorem dX11_rule_88 : decode cX11_rule 88 = .ok (.astore 10, 2) := by decide +kernel
theorem dX11_rule_90 : decode cX11_rule 90 = .ok (.aload 10, 2) := by decide +kernel
theorem dX11_rule_92 : decode cX11_rule 92 = .ok (.ifnonnull 6, 3) := by decide +kernel
theorem dX11_rule_95 : decode cX11_rule 95 = .ok (.bipush (-5), 2) := by decide +kernel
theorem dX11_rule_97 : decode cX11_rule 97 = .ok (.ireturn, 1) := by decide +kernel
theorem dX11_rule_98 : decode cX11_rule 98 = .ok (.aload 10, 2) := by decide +kernel
theorem dX11_rule_100 : decode cX11_rule 100 = .ok (.iload_n 1, 1) := by decide +kernel
theorem dX11_rule_101 : decode cX11_rule 101 = .ok (.putfield 111, 3) := by decide +kernel
theorem dX11_rule_104 : decode cX11_rule 104 = .ok (.aload 10, 2) := by decide +kernel
theorem dX11_rule_106 : decode cX11_rule 106 = .ok (.iload_n 2, 1) := by decide +kernel
theorem dX11_rule_107 : decode cX11_rule 107 = .ok (.putfield 116, 3) := by decide +kernel
theorem dX11_rule_110 : decode cX11_rule 110 = .ok (.aload 10, 2) := by decide +kernel
theorem dX11_rule_112 : decode cX11_rule 112 = .ok (.iload_n 3, 1) := by decide +kernel
theorem dX11_rule_113 : decode cX11_rule 113 = .ok (.putfield 119, 3) := by decide +kernel
theorem dX11_rule_116 : decode cX11_rule 116 = .ok (.aload 10, 2) := by decide +kernel
theorem dX11_rule_118 : decode cX11_rule 118 = .ok (.iload 4, 2) := by decide +kernel
theorem dX11_rule_120 : decode cX11_rule 120 = .ok (.putfield 122, 3) := by decide +kernel
theorem dX11_rule_123 : decode cX11_rule 123 = .ok (.aload 10, 2) := by decide +kernel
theorem dX11_rule_125 : decode cX11_rule 125 = .ok (.iload 5, 2) := by decide +kernel
theorem dX11_rule_127 : decode cX11_rule 127 = .ok (.putfield 125, 3) := by decide +kernel
theorem dX11_rule_130 : decode cX11_rule 130 = .ok (.aload 10, 2) := by decide +kernel
theorem dX11_rule_132 : decode cX11_rule 132 = .ok (.iload 6, 2) := by decide +kernel
theorem dX11_rule_134 : decode cX11_rule 134 = .ok (.putfield 128, 3) := by decide +kernel
theorem dX11_rule_137 : decode cX11_rule 137 = .ok (.aload 10, 2) := by decide +kernel
theorem dX11_rule_139 : decode cX11_rule 139 = .ok (.iload 7, 2) := by decide +kernel
theorem dX11_rule_141 : decode cX11_rule 141 = .ok (.putfield 131, 3) := by decide +kernel
theorem dX11_rule_144 : decode cX11_rule 144 = .ok (.aload 10, 2) := by decide +kernel
theorem dX11_rule_146 : decode cX11_rule 146 = .ok (.iload 8, 2) := by decide +kernel
theorem dX11_rule_148 : decode cX11_rule 148 = .ok (.putfield 134, 3) := by decide +kernel
theorem dX11_rule_151 : decode cX11_rule 151 = .ok (.aload 10, 2) := by decide +kernel
theorem dX11_rule_153 : decode cX11_rule 153 = .ok (.iload 9, 2) := by decide +kernel
theorem dX11_rule_155 : decode cX11_rule 155 = .ok (.putfield 137, 3) := by decide +kernel
theorem dX11_rule_158 : decode cX11_rule 158 = .ok (.aload_n 0, 1) := by decide +kernel
theorem dX11_rule_159 : decode cX11_rule 159 = .ok (.getfield 25, 3) := by decide +kernel
theorem dX11_rule_162 : decode cX11_rule 162 = .ok (.getfield 140, 3) := by decide +kernel
theorem dX11_rule_165 : decode cX11_rule 165 = .ok (.iconst 1, 1) := by decide +kernel
theorem dX11_rule_166 : decode cX11_rule 166 = .ok (.isub, 1) := by decide +kernel
theorem dX11_rule_167 : decode cX11_rule 167 = .ok (.ireturn, 1) := by decide +kernel
theorem dX11_actWants_0 : decode cX11_actWants 0 = .ok (.iload_n 0, 1) := by decide +kernel
theorem dX11_actWants_1 : decode cX11_actWants 1 = .ok (.tableswitch 166 0 6 #[43, 45, 74, 100, 125, 132, 158], 43) := by decide +kernel
theorem dX11_actWants_44 : decode cX11_actWants 44 = .ok (.iconst 1, 1) := by decide +kernel
theorem dX11_actWants_45 : decode cX11_actWants 45 = .ok (.ireturn, 1) := by decide +kernel
theorem dX11_actWants_46 : decode cX11_actWants 46 = .ok (.iload_n 1, 1) := by decide +kernel
theorem dX11_actWants_47 : decode cX11_actWants 47 = .ok (.iconst 0, 1) := by decide +kernel
theorem dX11_actWants_48 : decode cX11_actWants 48 = .ok (.bipush 7, 2) := by decide +kernel
theorem dX11_actWants_50 : decode cX11_actWants 50 = .ok (.invokestatic 100, 3) := by decide +kernel
theorem dX11_actWants_53 : decode cX11_actWants 53 = .ok (.ifCond .eq 20, 3) := by decide +kernel
theorem dX11_actWants_56 : decode cX11_actWants 56 = .ok (.iload_n 2, 1) := by decide +kernel
theorem dX11_actWants_57 : decode cX11_actWants 57 = .ok (.sipush (-1000), 3) := by decide +kernel
theorem dX11_actWants_60 : decode cX11_actWants 60 = .ok (.sipush 1000, 3) := by decide +kernel
theorem dX11_actWants_63 : decode cX11_actWants 63 = .ok (.invokestatic 100, 3) := by decide +kernel
theorem dX11_actWants_66 : decode cX11_actWants 66 = .ok (.ifCond .eq 7, 3) := by decide +kernel
theorem dX11_actWants_69 : decode cX11_actWants 69 = .ok (.iconst 1, 1) := by decide +kernel
theorem dX11_actWants_70 : decode cX11_actWants 70 = .ok (.goto 4, 3) := by decide +kernel
theorem dX11_actWants_73 : decode cX11_actWants 73 = .ok (.iconst 0, 1) := by decide +kernel
theorem dX11_actWants_74 : decode cX11_actWants 74 = .ok (.ireturn, 1) := by decide +kernel
theorem dX11_actWants_75 : decode cX11_actWants 75 = .ok (.iload_n 1, 1) := by decide +kernel
theorem dX11_actWants_76 : decode cX11_actWants 76 = .ok (.iconst 0, 1) := by decide +kernel
theorem dX11_actWants_77 : decode cX11_actWants 77 = .ok (.bipush 7, 2) := by decide +kernel
theorem dX11_actWants_79 : decode cX11_actWants 79 = .ok (.invokestatic 100, 3) := by decide +kernel
theorem dX11_actWants_82 : decode cX11_actWants 82 = .ok (.ifCond .eq 17, 3) := by decide +kernel
theorem dX11_actWants_85 : decode cX11_actWants 85 = .ok (.iload_n 2, 1) := by decide +kernel
theorem dX11_actWants_86 : decode cX11_actWants 86 = .ok (.iconst 0, 1) := by decide +kernel
theorem dX11_actWants_87 : decode cX11_actWants 87 = .ok (.bipush 7, 2) := by decide +kernel
theorem dX11_actWants_89 : decode cX11_actWants 89 = .ok (.invokestatic 100, 3) := by decide +kernel
theorem dX11_actWants_92 : decode cX11_actWants 92 = .ok (.ifCond .eq 7, 3) := by decide +kernel
theorem dX11_actWants_95 : decode cX11_actWants 95 = .ok (.iconst 1, 1) := by decide +kernel
theorem dX11_actWants_96 : decode cX11_actWants 96 = .ok (.goto 4, 3) := by decide +kernel
theorem dX11_actWants_99 : decode cX11_actWants 99 = .ok (.iconst 0, 1) := by decide +kernel
theorem dX11_actWants_100 : decode cX11_actWants 100 = .ok (.ireturn, 1) := by decide +kernel
theorem dX11_actWants_101 : decode cX11_actWants 101 = .ok (.iload_n 1, 1) := by decide +kernel
theorem dX11_actWants_102 : decode cX11_actWants 102 = .ok (.iconst 0, 1) := by decide +kernel
theorem dX11_actWants_103 : decode cX11_actWants 103 = .ok (.iconst 3, 1) := by decide +kernel
theorem dX11_actWants_104 : decode cX11_actWants 104 = .ok (.invokestatic 100, 3) := by decide +kernel
theorem dX11_actWants_107 : decode cX11_actWants 107 = .ok (.ifCond .eq 17, 3) := by decide +kernel
theorem dX11_actWants_110 : decode cX11_actWants 110 = .ok (.iload_n 2, 1) := by decide +kernel
theorem dX11_actWants_111 : decode cX11_actWants 111 = .ok (.iconst 0, 1) := by decide +kernel
theorem dX11_actWants_112 : decode cX11_actWants 112 = .ok (.bipush 7, 2) := by decide +kernel
theorem dX11_actWants_114 : decode cX11_actWants 114 = .ok (.invokestatic 100, 3) := by decide +kernel
theorem dX11_actWants_117 : decode cX11_actWants 117 = .ok (.ifCond .eq 7, 3) := by decide +kernel
theorem dX11_actWants_120 : decode cX11_actWants 120 = .ok (.iconst 1, 1) := by decide +kernel
theorem dX11_actWants_121 : decode cX11_actWants 121 = .ok (.goto 4, 3) := by decide +kernel
theorem dX11_actWants_124 : decode cX11_actWants 124 = .ok (.iconst 0, 1) := by decide +kernel
theorem dX11_actWants_125 : decode cX11_actWants 125 = .ok (.ireturn, 1) := by decide +kernel
theorem dX11_actWants_126 : decode cX11_actWants 126 = .ok (.iload_n 1, 1) := by decide +kernel
theorem dX11_actWants_127 : decode cX11_actWants 127 = .ok (.iconst 0, 1) := by decide +kernel
theorem dX11_actWants_128 : decode cX11_actWants 128 = .ok (.iconst 3, 1) := by decide +kernel
theorem dX11_actWants_129 : decode cX11_actWants 129 = .ok (.invokestatic 100, 3) := by decide +kernel
theorem dX11_actWants_132 : decode cX11_actWants 132 = .ok (.ireturn, 1) := by decide +kernel
theorem dX11_actWants_133 : decode cX11_actWants 133 = .ok (.iload_n 1, 1) := by decide +kernel
theorem dX11_actWants_134 : decode cX11_actWants 134 = .ok (.iconst 0, 1) := by decide +kernel
theorem dX11_actWants_135 : decode cX11_actWants 135 = .ok (.bipush 7, 2) := by decide +kernel
theorem dX11_actWants_137 : decode cX11_actWants 137 = .ok (.invokestatic 100, 3) := by decide +kernel
theorem dX11_actWants_140 : decode cX11_actWants 140 = .ok (.ifCond .eq 17, 3) := by decide +kernel
theorem dX11_actWants_143 : decode cX11_actWants 143 = .ok (.iload_n 2, 1) := by decide +kernel
theorem dX11_actWants_144 : decode cX11_actWants 144 = .ok (.iconst 1, 1) := by decide +kernel
theorem dX11_actWants_145 : decode cX11_actWants 145 = .ok (.bipush 100, 2) := by decide +kernel
theorem dX11_actWants_147 : decode cX11_actWants 147 = .ok (.invokestatic 100, 3) := by decide +kernel
theorem dX11_actWants_150 : decode cX11_actWants 150 = .ok (.ifCond .eq 7, 3) := by decide +kernel
theorem dX11_actWants_153 : decode cX11_actWants 153 = .ok (.iconst 1, 1) := by decide +kernel
theorem dX11_actWants_154 : decode cX11_actWants 154 = .ok (.goto 4, 3) := by decide +kernel
theorem dX11_actWants_157 : decode cX11_actWants 157 = .ok (.iconst 0, 1) := by decide +kernel
theorem dX11_actWants_158 : decode cX11_actWants 158 = .ok (.ireturn, 1) := by decide +kernel
theorem dX11_actWants_159 : decode cX11_actWants 159 = .ok (.iload_n 1, 1) := by decide +kernel
theorem dX11_actWants_160 : decode cX11_actWants 160 = .ok (.iconst 1, 1) := by decide +kernel
theorem dX11_actWants_161 : decode cX11_actWants 161 = .ok (.bipush 9, 2) := by decide +kernel
theorem dX11_actWants_163 : decode cX11_actWants 163 = .ok (.invokestatic 100, 3) := by decide +kernel
theorem dX11_actWants_166 : decode cX11_actWants 166 = .ok (.ireturn, 1) := by decide +kernel
theorem dX11_actWants_167 : decode cX11_actWants 167 = .ok (.iconst 0, 1) := by decide +kernel
theorem dX11_actWants_168 : decode cX11_actWants 168 = .ok (.ireturn, 1) := by decide +kernel
theorem dX11_inside_0 : decode cX11_inside 0 = .ok (.iload_n 0, 1) := by decide +kernel
theorem dX11_inside_1 : decode cX11_inside 1 = .ok (.iload_n 1, 1) := by decide +kernel
theorem dX11_inside_2 : decode cX11_inside 2 = .ok (.if_icmp .lt 12, 3) := by decide +kernel
theorem dX11_inside_5 : decode cX11_inside 5 = .ok (.iload_n 0, 1) := by decide +kernel
theorem dX11_inside_6 : decode cX11_inside 6 = .ok (.iload_n 2, 1) := by decide +kernel
theorem dX11_inside_7 : decode cX11_inside 7 = .ok (.if_icmp .gt 7, 3) := by decide +kernel
theorem dX11_inside_10 : decode cX11_inside 10 = .ok (.iconst 1, 1) := by decide +kernel
theorem dX11_inside_11 : decode cX11_inside 11 = .ok (.goto 4, 3) := by decide +kernel
theorem dX11_inside_14 : decode cX11_inside 14 = .ok (.iconst 0, 1) := by decide +kernel
theorem dX11_inside_15 : decode cX11_inside 15 = .ok (.ireturn, 1) := by decide +kernel
theorem dX11_holder_0 : decode cX11_holder 0 = .ok (.iload_n 1, 1) := by decide +kernel
theorem dX11_holder_1 : decode cX11_holder 1 = .ok (.iconst 0, 1) := by decide +kernel
theorem dX11_holder_2 : decode cX11_holder 2 = .ok (.iconst 3, 1) := by decide +kernel
theorem dX11_holder_3 : decode cX11_holder 3 = .ok (.invokestatic 100, 3) := by decide +kernel
theorem dX11_holder_6 : decode cX11_holder 6 = .ok (.ifCond .ne 6, 3) := by decide +kernel
theorem dX11_holder_9 : decode cX11_holder 9 = .ok (.bipush (-2), 2) := by decide +kernel
theorem dX11_holder_11 : decode cX11_holder 11 = .ok (.ireturn, 1) := by decide +kernel
theorem dX11_holder_12 : decode cX11_holder 12 = .ok (.iload_n 2, 1) := by decide +kernel
theorem dX11_holder_13 : decode cX11_holder 13 = .ok (.iconst 0, 1) := by decide +kernel
theorem dX11_holder_14 : decode cX11_holder 14 = .ok (.iconst 2, 1) := by decide +kernel
theorem dX11_holder_15 : decode cX11_holder 15 = .ok (.invokestatic 100, 3) := by decide +kernel
theorem dX11_holder_18 : decode cX11_holder 18 = .ok (.ifCond .ne 6, 3) := by decide +kernel
theorem dX11_holder_21 : decode cX11_holder 21 = .ok (.bipush (-3), 2) := by decide +kernel
theorem dX11_holder_23 : decode cX11_holder 23 = .ok (.ireturn, 1) := by decide +kernel
theorem dX11_holder_24 : decode cX11_holder 24 = .ok (.iload_n 2, 1) := by decide +kernel
theorem dX11_holder_25 : decode cX11_holder 25 = .ok (.iconst 2, 1) := by decide +kernel
theorem dX11_holder_26 : decode cX11_holder 26 = .ok (.if_icmp .ne 15, 3) := by decide +kernel
theorem dX11_holder_29 : decode cX11_holder 29 = .ok (.iload_n 3, 1) := by decide +kernel
theorem dX11_holder_30 : decode cX11_holder 30 = .ok (.iconst 1, 1) := by decide +kernel
theorem dX11_holder_31 : decode cX11_holder 31 = .ok (.iconst 4, 1) := by decide +kernel
theorem dX11_holder_32 : decode cX11_holder 32 = .ok (.invokestatic 100, 3) := by decide +kernel
theorem dX11_holder_35 : decode cX11_holder 35 = .ok (.ifCond .ne 6, 3) := by decide +kernel
theorem dX11_holder_38 : decode cX11_holder 38 = .ok (.bipush (-3), 2) := by decide +kernel
theorem dX11_holder_40 : decode cX11_holder 40 = .ok (.ireturn, 1) := by decide +kernel
theorem dX11_holder_41 : decode cX11_holder 41 = .ok (.aload_n 0, 1) := by decide +kernel
theorem dX11_holder_42 : decode cX11_holder 42 = .ok (.getfield 25, 3) := by decide +kernel
theorem dX11_holder_45 : decode cX11_holder 45 = .ok (.getfield 143, 3) := by decide +kernel
theorem dX11_holder_48 : decode cX11_holder 48 = .ok (.iload_n 1, 1) := by decide +kernel
theorem dX11_holder_49 : decode cX11_holder 49 = .ok (.aaload, 1) := by decide +kernel
theorem dX11_holder_50 : decode cX11_holder 50 = .ok (.iload_n 2, 1) := by decide +kernel
theorem dX11_holder_51 : decode cX11_holder 51 = .ok (.iload_n 2, 1) := by decide +kernel
theorem dX11_holder_52 : decode cX11_holder 52 = .ok (.iconst 2, 1) := by decide +kernel
theorem dX11_holder_53 : decode cX11_holder 53 = .ok (.if_icmp .ne 7, 3) := by decide +kernel
theorem dX11_holder_56 : decode cX11_holder 56 = .ok (.iload_n 3, 1) := by decide +kernel
theorem dX11_holder_57 : decode cX11_holder 57 = .ok (.goto 4, 3) := by decide +kernel
theorem dX11_holder_60 : decode cX11_holder 60 = .ok (.iconst 1, 1) := by decide +kernel
theorem dX11_holder_61 : decode cX11_holder 61 = .ok (.iload 4, 2) := by decide +kernel
theorem dX11_holder_63 : decode cX11_holder 63 = .ok (.invokevirtual 147, 3) := by decide +kernel
theorem dX11_holder_66 : decode cX11_holder 66 = .ok (.iconst 1, 1) := by decide +kernel
theorem dX11_holder_67 : decode cX11_holder 67 = .ok (.ireturn, 1) := by decide +kernel
theorem dX11_seed_0 : decode cX11_seed 0 = .ok (.aload_n 0, 1) := by decide +kernel
theorem dX11_seed_1 : decode cX11_seed 1 = .ok (.getfield 25, 3) := by decide +kernel
theorem dX11_seed_4 : decode cX11_seed 4 = .ok (.getfield 153, 3) := by decide +kernel
theorem dX11_seed_7 : decode cX11_seed 7 = .ok (.istore_n 2, 1) := by decide +kernel
theorem dX11_seed_8 : decode cX11_seed 8 = .ok (.aload_n 0, 1) := by decide +kernel
theorem dX11_seed_9 : decode cX11_seed 9 = .ok (.getfield 25, 3) := by decide +kernel
theorem dX11_seed_12 : decode cX11_seed 12 = .ok (.iload_n 1, 1) := by decide +kernel
theorem dX11_seed_13 : decode cX11_seed 13 = .ok (.putfield 153, 3) := by decide +kernel
theorem dX11_seed_16 : decode cX11_seed 16 = .ok (.iload_n 2, 1) := by decide +kernel
theorem dX11_seed_17 : decode cX11_seed 17 = .ok (.ireturn, 1) := by decide +kernel
theorem dX11_script_0 : decode cX11_script 0 = .ok (.aload_n 0, 1) := by decide +kernel
theorem dX11_script_1 : decode cX11_script 1 = .ok (.invokevirtual 156, 3) := by decide +kernel
theorem dX11_script_4 : decode cX11_script 4 = .ok (.istore_n 1, 1) := by decide +kernel
theorem dX11_script_5 : decode cX11_script 5 = .ok (.aload_n 0, 1) := by decide +kernel
theorem dX11_script_6 : decode cX11_script 6 = .ok (.getfield 14, 3) := by decide +kernel
theorem dX11_script_9 : decode cX11_script 9 = .ok (.invokevirtual 65, 3) := by decide +kernel
theorem dX11_script_12 : decode cX11_script 12 = .ok (.iload_n 1, 1) := by decide +kernel
theorem dX11_script_13 : decode cX11_script 13 = .ok (.ireturn, 1) := by decide +kernel
theorem dX11_addScript_0 : decode cX11_addScript 0 = .ok (.aload_n 0, 1) := by decide +kernel
theorem dX11_addScript_1 : decode cX11_addScript 1 = .ok (.getfield 159, 3) := by decide +kernel
theorem dX11_addScript_4 : decode cX11_addScript 4 = .ok (.ifCond .lt 15, 3) := by decide +kernel
theorem dX11_addScript_7 : decode cX11_addScript 7 = .ok (.aload_n 0, 1) := by decide +kernel
theorem dX11_addScript_8 : decode cX11_addScript 8 = .ok (.getfield 159, 3) := by decide +kernel
theorem dX11_addScript_11 : decode cX11_addScript 11 = .ok (.aload_n 0, 1) := by decide +kernel
theorem dX11_addScript_12 : decode cX11_addScript 12 = .ok (.getfield 18, 3) := by decide +kernel
theorem dX11_addScript_15 : decode cX11_addScript 15 = .ok (.arraylength, 1) := by decide +kernel
theorem dX11_addScript_16 : decode cX11_addScript 16 = .ok (.if_icmp .lt 6, 3) := by decide +kernel
theorem dX11_addScript_19 : decode cX11_addScript 19 = .ok (.bipush (-5), 2) := by decide +kernel
theorem dX11_addScript_21 : decode cX11_addScript 21 = .ok (.ireturn, 1) := by decide +kernel
theorem dX11_addScript_22 : decode cX11_addScript 22 = .ok (.aload_n 0, 1) := by decide +kernel
theorem dX11_addScript_23 : decode cX11_addScript 23 = .ok (.getfield 14, 3) := by decide +kernel
theorem dX11_addScript_26 : decode cX11_addScript 26 = .ok (.invokestatic 162, 3) := by decide +kernel
theorem dX11_addScript_29 : decode cX11_addScript 29 = .ok (.istore_n 1, 1) := by decide +kernel
theorem dX11_addScript_30 : decode cX11_addScript 30 = .ok (.iload_n 1, 1) := by decide +kernel
theorem dX11_addScript_31 : decode cX11_addScript 31 = .ok (.iconst (-1), 1) := by decide +kernel
theorem dX11_addScript_32 : decode cX11_addScript 32 = .ok (.if_icmp .eq 8, 3) := by decide +kernel
theorem dX11_addScript_35 : decode cX11_addScript 35 = .ok (.bipush (-10), 2) := by decide +kernel
theorem dX11_addScript_37 : decode cX11_addScript 37 = .ok (.iload_n 1, 1) := by decide +kernel
theorem dX11_addScript_38 : decode cX11_addScript 38 = .ok (.isub, 1) := by decide +kernel
theorem dX11_addScript_39 : decode cX11_addScript 39 = .ok (.ireturn, 1) := by decide +kernel
theorem dX11_addScript_40 : decode cX11_addScript 40 = .ok (.aload_n 0, 1) := by decide +kernel
theorem dX11_addScript_41 : decode cX11_addScript 41 = .ok (.getfield 18, 3) := by decide +kernel
theorem dX11_addScript_44 : decode cX11_addScript 44 = .ok (.aload_n 0, 1) := by decide +kernel
theorem dX11_addScript_45 : decode cX11_addScript 45 = .ok (.getfield 159, 3) := by decide +kernel
theorem dX11_addScript_48 : decode cX11_addScript 48 = .ok (.aload_n 0, 1) := by decide +kernel
theorem dX11_addScript_49 : decode cX11_addScript 49 = .ok (.getfield 14, 3) := by decide +kernel
theorem dX11_addScript_52 : decode cX11_addScript 52 = .ok (.invokevirtual 165, 3) := by decide +kernel
theorem dX11_addScript_55 : decode cX11_addScript 55 = .ok (.aastore, 1) := by decide +kernel
theorem dX11_addScript_56 : decode cX11_addScript 56 = .ok (.aload_n 0, 1) := by decide +kernel
theorem dX11_addScript_57 : decode cX11_addScript 57 = .ok (.dup, 1) := by decide +kernel
theorem dX11_addScript_58 : decode cX11_addScript 58 = .ok (.getfield 159, 3) := by decide +kernel
theorem dX11_addScript_61 : decode cX11_addScript 61 = .ok (.iconst 1, 1) := by decide +kernel
theorem dX11_addScript_62 : decode cX11_addScript 62 = .ok (.iadd, 1) := by decide +kernel
theorem dX11_addScript_63 : decode cX11_addScript 63 = .ok (.putfield 159, 3) := by decide +kernel
theorem dX11_addScript_66 : decode cX11_addScript 66 = .ok (.aload_n 0, 1) := by decide +kernel
theorem dX11_addScript_67 : decode cX11_addScript 67 = .ok (.getfield 159, 3) := by decide +kernel
theorem dX11_addScript_70 : decode cX11_addScript 70 = .ok (.iconst 1, 1) := by decide +kernel
theorem dX11_addScript_71 : decode cX11_addScript 71 = .ok (.isub, 1) := by decide +kernel
theorem dX11_addScript_72 : decode cX11_addScript 72 = .ok (.ireturn, 1) := by decide +kernel
theorem dX11_run_0 : decode cX11_run 0 = .ok (.iload_n 1, 1) := by decide +kernel
theorem dX11_run_1 : decode cX11_run 1 = .ok (.iconst 0, 1) := by decide +kernel
theorem dX11_run_2 : decode cX11_run 2 = .ok (.aload_n 0, 1) := by decide +kernel
theorem dX11_run_3 : decode cX11_run 3 = .ok (.getfield 159, 3) := by decide +kernel
theorem dX11_run_6 : decode cX11_run 6 = .ok (.iconst 1, 1) := by decide +kernel
theorem dX11_run_7 : decode cX11_run 7 = .ok (.isub, 1) := by decide +kernel
theorem dX11_run_8 : decode cX11_run 8 = .ok (.invokestatic 100, 3) := by decide +kernel
theorem dX11_run_11 : decode cX11_run 11 = .ok (.ifCond .ne 6, 3) := by decide +kernel
theorem dX11_run_14 : decode cX11_run 14 = .ok (.bipush (-2), 2) := by decide +kernel
theorem dX11_run_16 : decode cX11_run 16 = .ok (.ireturn, 1) := by decide +kernel
theorem dX11_run_17 : decode cX11_run 17 = .ok (.aload_n 0, 1) := by decide +kernel
theorem dX11_run_18 : decode cX11_run 18 = .ok (.getfield 18, 3) := by decide +kernel
theorem dX11_run_21 : decode cX11_run 21 = .ok (.iload_n 1, 1) := by decide +kernel
theorem dX11_run_22 : decode cX11_run 22 = .ok (.aaload, 1) := by decide +kernel
theorem dX11_run_23 : decode cX11_run 23 = .ok (.astore_n 2, 1) := by decide +kernel
theorem dX11_run_24 : decode cX11_run 24 = .ok (.aload_n 2, 1) := by decide +kernel
theorem dX11_run_25 : decode cX11_run 25 = .ok (.ifnonnull 8, 3) := by decide +kernel
theorem dX11_run_28 : decode cX11_run 28 = .ok (.bipush (-2), 2) := by decide +kernel
theorem dX11_run_30 : decode cX11_run 30 = .ok (.goto 11, 3) := by decide +kernel
theorem dX11_run_33 : decode cX11_run 33 = .ok (.aload_n 0, 1) := by decide +kernel
theorem dX11_run_34 : decode cX11_run 34 = .ok (.getfield 43, 3) := by decide +kernel
theorem dX11_run_37 : decode cX11_run 37 = .ok (.aload_n 2, 1) := by decide +kernel
theorem dX11_run_38 : decode cX11_run 38 = .ok (.invokevirtual 169, 3) := by decide +kernel
theorem dX11_run_41 : decode cX11_run 41 = .ok (.ireturn, 1) := by decide +kernel
theorem dX11_failed_0 : decode cX11_failed 0 = .ok (.iload_n 1, 1) := by decide +kernel
theorem dX11_failed_1 : decode cX11_failed 1 = .ok (.iconst 0, 1) := by decide +kernel
theorem dX11_failed_2 : decode cX11_failed 2 = .ok (.aload_n 0, 1) := by decide +kernel
theorem dX11_failed_3 : decode cX11_failed 3 = .ok (.getfield 43, 3) := by decide +kernel
theorem dX11_failed_6 : decode cX11_failed 6 = .ok (.getfield 172, 3) := by decide +kernel
theorem dX11_failed_9 : decode cX11_failed 9 = .ok (.iconst 1, 1) := by decide +kernel
theorem dX11_failed_10 : decode cX11_failed 10 = .ok (.isub, 1) := by decide +kernel
theorem dX11_failed_11 : decode cX11_failed 11 = .ok (.invokestatic 100, 3) := by decide +kernel
theorem dX11_failed_14 : decode cX11_failed 14 = .ok (.ifCond .ne 6, 3) := by decide +kernel
theorem dX11_failed_17 : decode cX11_failed 17 = .ok (.bipush (-2), 2) := by decide +kernel
theorem dX11_failed_19 : decode cX11_failed 19 = .ok (.ireturn, 1) := by decide +kernel
theorem dX11_failed_20 : decode cX11_failed 20 = .ok (.iload_n 2, 1) := by decide +kernel
theorem dX11_failed_21 : decode cX11_failed 21 = .ok (.iconst 0, 1) := by decide +kernel
theorem dX11_failed_22 : decode cX11_failed 22 = .ok (.iconst 1, 1) := by decide +kernel
theorem dX11_failed_23 : decode cX11_failed 23 = .ok (.invokestatic 100, 3) := by decide +kernel
theorem dX11_failed_26 : decode cX11_failed 26 = .ok (.ifCond .ne 6, 3) := by decide +kernel
theorem dX11_failed_29 : decode cX11_failed 29 = .ok (.bipush (-3), 2) := by decide +kernel
theorem dX11_failed_31 : decode cX11_failed 31 = .ok (.ireturn, 1) := by decide +kernel
theorem dX11_failed_32 : decode cX11_failed 32 = .ok (.iload_n 2, 1) := by decide +kernel
theorem dX11_failed_33 : decode cX11_failed 33 = .ok (.ifCond .ne 15, 3) := by decide +kernel
theorem dX11_failed_36 : decode cX11_failed 36 = .ok (.aload_n 0, 1) := by decide +kernel
theorem dX11_failed_37 : decode cX11_failed 37 = .ok (.getfield 43, 3) := by decide +kernel
theorem dX11_failed_40 : decode cX11_failed 40 = .ok (.getfield 175, 3) := by decide +kernel
theorem dX11_failed_43 : decode cX11_failed 43 = .ok (.iload_n 1, 1) := by decide +kernel
theorem dX11_failed_44 : decode cX11_failed 44 = .ok (.iaload, 1) := by decide +kernel
theorem dX11_failed_45 : decode cX11_failed 45 = .ok (.goto 12, 3) := by decide +kernel
theorem dX11_failed_48 : decode cX11_failed 48 = .ok (.aload_n 0, 1) := by decide +kernel
theorem dX11_failed_49 : decode cX11_failed 49 = .ok (.getfield 43, 3) := by decide +kernel
theorem dX11_failed_52 : decode cX11_failed 52 = .ok (.getfield 179, 3) := by decide +kernel
theorem dX11_failed_55 : decode cX11_failed 55 = .ok (.iload_n 1, 1) := by decide +kernel
theorem dX11_failed_56 : decode cX11_failed 56 = .ok (.iaload, 1) := by decide +kernel
theorem dX11_failed_57 : decode cX11_failed 57 = .ok (.ireturn, 1) := by decide +kernel
theorem dX11_replay_0 : decode cX11_replay 0 = .ok (.aload_n 0, 1) := by decide +kernel
theorem dX11_replay_1 : decode cX11_replay 1 = .ok (.getfield 14, 3) := by decide +kernel
theorem dX11_replay_4 : decode cX11_replay 4 = .ok (.invokestatic 182, 3) := by decide +kernel
theorem dX11_replay_7 : decode cX11_replay 7 = .ok (.istore_n 1, 1) := by decide +kernel
theorem dX11_replay_8 : decode cX11_replay 8 = .ok (.iload_n 1, 1) := by decide +kernel
theorem dX11_replay_9 : decode cX11_replay 9 = .ok (.iconst (-1), 1) := by decide +kernel
theorem dX11_replay_10 : decode cX11_replay 10 = .ok (.if_icmp .eq 10, 3) := by decide +kernel
theorem dX11_replay_13 : decode cX11_replay 13 = .ok (.bipush (-10), 2) := by decide +kernel
theorem dX11_replay_15 : decode cX11_replay 15 = .ok (.iload_n 1, 1) := by decide +kernel
theorem dX11_replay_16 : decode cX11_replay 16 = .ok (.isub, 1) := by decide +kernel
theorem dX11_replay_17 : decode cX11_replay 17 = .ok (.goto 7, 3) := by decide +kernel
theorem dX11_replay_20 : decode cX11_replay 20 = .ok (.aload_n 0, 1) := by decide +kernel
theorem dX11_replay_21 : decode cX11_replay 21 = .ok (.invokevirtual 185, 3) := by decide +kernel
theorem dX11_replay_24 : decode cX11_replay 24 = .ok (.istore_n 2, 1) := by decide +kernel
theorem dX11_replay_25 : decode cX11_replay 25 = .ok (.aload_n 0, 1) := by decide +kernel
theorem dX11_replay_26 : decode cX11_replay 26 = .ok (.getfield 14, 3) := by decide +kernel
theorem dX11_replay_29 : decode cX11_replay 29 = .ok (.invokevirtual 65, 3) := by decide +kernel
theorem dX11_replay_32 : decode cX11_replay 32 = .ok (.iload_n 2, 1) := by decide +kernel
theorem dX11_replay_33 : decode cX11_replay 33 = .ok (.ireturn, 1) := by decide +kernel
theorem dX11_firstUnlikeLine_0 : decode cX11_firstUnlikeLine 0 = .ok (.aload_n 0, 1) := by decide +kernel
theorem dX11_firstUnlikeLine_1 : decode cX11_firstUnlikeLine 1 = .ok (.getfield 34, 3) := by decide +kernel
theorem dX11_firstUnlikeLine_4 : decode cX11_firstUnlikeLine 4 = .ok (.invokevirtual 188, 3) := by decide +kernel
theorem dX11_firstUnlikeLine_7 : decode cX11_firstUnlikeLine 7 = .ok (.iconst 0, 1) := by decide +kernel
theorem dX11_firstUnlikeLine_8 : decode cX11_firstUnlikeLine 8 = .ok (.istore_n 1, 1) := by decide +kernel
theorem dX11_firstUnlikeLine_9 : decode cX11_firstUnlikeLine 9 = .ok (.iconst 2, 1) := by decide +kernel
theorem dX11_firstUnlikeLine_10 : decode cX11_firstUnlikeLine 10 = .ok (.istore_n 2, 1) := by decide +kernel
theorem dX11_firstUnlikeLine_11 : decode cX11_firstUnlikeLine 11 = .ok (.iload_n 2, 1) := by decide +kernel
theorem dX11_firstUnlikeLine_12 : decode cX11_firstUnlikeLine 12 = .ok (.bipush 40, 2) := by decide +kernel
theorem dX11_firstUnlikeLine_14 : decode cX11_firstUnlikeLine 14 = .ok (.if_icmp .gt 61, 3) := by decide +kernel
theorem dX11_firstUnlikeLine_17 : decode cX11_firstUnlikeLine 17 = .ok (.iload_n 1, 1) := by decide +kernel
theorem dX11_firstUnlikeLine_18 : decode cX11_firstUnlikeLine 18 = .ok (.aload_n 0, 1) := by decide +kernel
theorem dX11_firstUnlikeLine_19 : decode cX11_firstUnlikeLine 19 = .ok (.getfield 14, 3) := by decide +kernel
theorem dX11_firstUnlikeLine_22 : decode cX11_firstUnlikeLine 22 = .ok (.getfield 54, 3) := by decide +kernel
theorem dX11_firstUnlikeLine_25 : decode cX11_firstUnlikeLine 25 = .ok (.if_icmp .ge 50, 3) := by decide +kernel
theorem dX11_firstUnlikeLine_28 : decode cX11_firstUnlikeLine 28 = .ok (.aload_n 0, 1) := by decide +kernel
theorem dX11_firstUnlikeLine_29 : decode cX11_firstUnlikeLine 29 = .ok (.getfield 14, 3) := by decide +kernel
theorem dX11_firstUnlikeLine_32 : decode cX11_firstUnlikeLine 32 = .ok (.iload_n 1, 1) := by decide +kernel
theorem dX11_firstUnlikeLine_33 : decode cX11_firstUnlikeLine 33 = .ok (.invokestatic 191, 3) := by decide +kernel
theorem dX11_firstUnlikeLine_36 : decode cX11_firstUnlikeLine 36 = .ok (.istore_n 3, 1) := by decide +kernel
theorem dX11_firstUnlikeLine_37 : decode cX11_firstUnlikeLine 37 = .ok (.aload_n 0, 1) := by decide +kernel
theorem dX11_firstUnlikeLine_38 : decode cX11_firstUnlikeLine 38 = .ok (.getfield 14, 3) := by decide +kernel
theorem dX11_firstUnlikeLine_41 : decode cX11_firstUnlikeLine 41 = .ok (.iload_n 3, 1) := by decide +kernel
theorem dX11_firstUnlikeLine_42 : decode cX11_firstUnlikeLine 42 = .ok (.iconst 1, 1) := by decide +kernel
theorem dX11_firstUnlikeLine_43 : decode cX11_firstUnlikeLine 43 = .ok (.iadd, 1) := by decide +kernel
theorem dX11_firstUnlikeLine_44 : decode cX11_firstUnlikeLine 44 = .ok (.invokestatic 191, 3) := by decide +kernel
theorem dX11_firstUnlikeLine_47 : decode cX11_firstUnlikeLine 47 = .ok (.istore 4, 2) := by decide +kernel
theorem dX11_firstUnlikeLine_49 : decode cX11_firstUnlikeLine 49 = .ok (.aload_n 0, 1) := by decide +kernel
theorem dX11_firstUnlikeLine_50 : decode cX11_firstUnlikeLine 50 = .ok (.iload_n 1, 1) := by decide +kernel
theorem dX11_firstUnlikeLine_51 : decode cX11_firstUnlikeLine 51 = .ok (.iconst 2, 1) := by decide +kernel
theorem dX11_firstUnlikeLine_52 : decode cX11_firstUnlikeLine 52 = .ok (.iadd, 1) := by decide +kernel
theorem dX11_firstUnlikeLine_53 : decode cX11_firstUnlikeLine 53 = .ok (.iload_n 3, 1) := by decide +kernel
theorem dX11_firstUnlikeLine_54 : decode cX11_firstUnlikeLine 54 = .ok (.iload 4, 2) := by decide +kernel
theorem dX11_firstUnlikeLine_56 : decode cX11_firstUnlikeLine 56 = .ok (.invokevirtual 194, 3) := by decide +kernel
theorem dX11_firstUnlikeLine_59 : decode cX11_firstUnlikeLine 59 = .ok (.ifCond .ne 5, 3) := by decide +kernel
theorem dX11_firstUnlikeLine_62 : decode cX11_firstUnlikeLine 62 = .ok (.iload_n 2, 1) := by decide +kernel
theorem dX11_firstUnlikeLine_63 : decode cX11_firstUnlikeLine 63 = .ok (.ireturn, 1) := by decide +kernel
theorem dX11_firstUnlikeLine_64 : decode cX11_firstUnlikeLine 64 = .ok (.iload 4, 2) := by decide +kernel
theorem dX11_firstUnlikeLine_66 : decode cX11_firstUnlikeLine 66 = .ok (.iconst 1, 1) := by decide +kernel
theorem dX11_firstUnlikeLine_67 : decode cX11_firstUnlikeLine 67 = .ok (.iadd, 1) := by decide +kernel
theorem dX11_firstUnlikeLine_68 : decode cX11_firstUnlikeLine 68 = .ok (.istore_n 1, 1) := by decide +kernel
theorem dX11_firstUnlikeLine_69 : decode cX11_firstUnlikeLine 69 = .ok (.iinc 2 2, 3) := by decide +kernel
theorem dX11_firstUnlikeLine_72 : decode cX11_firstUnlikeLine 72 = .ok (.goto (-61), 3) := by decide +kernel
theorem dX11_firstUnlikeLine_75 : decode cX11_firstUnlikeLine 75 = .ok (.iconst 0, 1) := by decide +kernel
theorem dX11_firstUnlikeLine_76 : decode cX11_firstUnlikeLine 76 = .ok (.ireturn, 1) := by decide +kernel
theorem dX11_answersAlike_0 : decode cX11_answersAlike 0 = .ok (.iload_n 2, 1) := by decide +kernel
theorem dX11_answersAlike_1 : decode cX11_answersAlike 1 = .ok (.iconst 1, 1) := by decide +kernel
theorem dX11_answersAlike_2 : decode cX11_answersAlike 2 = .ok (.iadd, 1) := by decide +kernel
theorem dX11_answersAlike_3 : decode cX11_answersAlike 3 = .ok (.istore 4, 2) := by decide +kernel
theorem dX11_answersAlike_5 : decode cX11_answersAlike 5 = .ok (.aload_n 0, 1) := by decide +kernel
theorem dX11_answersAlike_6 : decode cX11_answersAlike 6 = .ok (.getfield 34, 3) := by decide +kernel
theorem dX11_answersAlike_9 : decode cX11_answersAlike 9 = .ok (.getfield 197, 3) := by decide +kernel
theorem dX11_answersAlike_12 : decode cX11_answersAlike 12 = .ok (.getfield 201, 3) := by decide +kernel
theorem dX11_answersAlike_15 : decode cX11_answersAlike 15 = .ok (.ifCond .eq 31, 3) := by decide +kernel
theorem dX11_answersAlike_18 : decode cX11_answersAlike 18 = .ok (.iload_n 3, 1) := by decide +kernel
theorem dX11_answersAlike_19 : decode cX11_answersAlike 19 = .ok (.iload 4, 2) := by decide +kernel
theorem dX11_answersAlike_21 : decode cX11_answersAlike 21 = .ok (.isub, 1) := by decide +kernel
theorem dX11_answersAlike_22 : decode cX11_answersAlike 22 = .ok (.iconst 1, 1) := by decide +kernel
theorem dX11_answersAlike_23 : decode cX11_answersAlike 23 = .ok (.if_icmp .ne 21, 3) := by decide +kernel
theorem dX11_answersAlike_26 : decode cX11_answersAlike 26 = .ok (.aload_n 0, 1) := by decide +kernel
theorem dX11_answersAlike_27 : decode cX11_answersAlike 27 = .ok (.getfield 14, 3) := by decide +kernel
theorem dX11_answersAlike_30 : decode cX11_answersAlike 30 = .ok (.iload 4, 2) := by decide +kernel
theorem dX11_answersAlike_32 : decode cX11_answersAlike 32 = .ok (.invokevirtual 206, 3) := by decide +kernel
theorem dX11_answersAlike_35 : decode cX11_answersAlike 35 = .ok (.bipush 46, 2) := by decide +kernel
theorem dX11_answersAlike_37 : decode cX11_answersAlike 37 = .ok (.if_icmp .ne 7, 3) := by decide +kernel
theorem dX11_answersAlike_40 : decode cX11_answersAlike 40 = .ok (.iconst 1, 1) := by decide +kernel
theorem dX11_answersAlike_41 : decode cX11_answersAlike 41 = .ok (.goto 4, 3) := by decide +kernel
theorem dX11_answersAlike_44 : decode cX11_answersAlike 44 = .ok (.iconst 0, 1) := by decide +kernel
theorem dX11_answersAlike_45 : decode cX11_answersAlike 45 = .ok (.ireturn, 1) := by decide +kernel
theorem dX11_answersAlike_46 : decode cX11_answersAlike 46 = .ok (.aload_n 0, 1) := by decide +kernel
theorem dX11_answersAlike_47 : decode cX11_answersAlike 47 = .ok (.getfield 34, 3) := by decide +kernel
theorem dX11_answersAlike_50 : decode cX11_answersAlike 50 = .ok (.aload_n 0, 1) := by decide +kernel
theorem dX11_answersAlike_51 : decode cX11_answersAlike 51 = .ok (.getfield 25, 3) := by decide +kernel
theorem dX11_answersAlike_54 : decode cX11_answersAlike 54 = .ok (.getfield 74, 3) := by decide +kernel
theorem dX11_answersAlike_57 : decode cX11_answersAlike 57 = .ok (.aload_n 0, 1) := by decide +kernel
theorem dX11_answersAlike_58 : decode cX11_answersAlike 58 = .ok (.getfield 14, 3) := by decide +kernel
theorem dX11_answersAlike_61 : decode cX11_answersAlike 61 = .ok (.iload_n 1, 1) := by decide +kernel
theorem dX11_answersAlike_62 : decode cX11_answersAlike 62 = .ok (.iload_n 2, 1) := by decide +kernel
theorem dX11_answersAlike_63 : decode cX11_answersAlike 63 = .ok (.invokevirtual 78, 3) := by decide +kernel
theorem dX11_answersAlike_66 : decode cX11_answersAlike 66 = .ok (.invokevirtual 210, 3) := by decide +kernel
theorem dX11_answersAlike_69 : decode cX11_answersAlike 69 = .ok (.istore 5, 2) := by decide +kernel
theorem dX11_answersAlike_71 : decode cX11_answersAlike 71 = .ok (.iload 5, 2) := by decide +kernel
theorem dX11_answersAlike_73 : decode cX11_answersAlike 73 = .ok (.ifCond .eq 50, 3) := by decide +kernel
theorem dX11_answersAlike_76 : decode cX11_answersAlike 76 = .ok (.iload_n 3, 1) := by decide +kernel
theorem dX11_answersAlike_77 : decode cX11_answersAlike 77 = .ok (.iload 4, 2) := by decide +kernel
theorem dX11_answersAlike_79 : decode cX11_answersAlike 79 = .ok (.isub, 1) := by decide +kernel
theorem dX11_answersAlike_80 : decode cX11_answersAlike 80 = .ok (.iconst 2, 1) := by decide +kernel
theorem dX11_answersAlike_81 : decode cX11_answersAlike 81 = .ok (.if_icmp .ne 40, 3) := by decide +kernel
theorem dX11_answersAlike_84 : decode cX11_answersAlike 84 = .ok (.aload_n 0, 1) := by decide +kernel
theorem dX11_answersAlike_85 : decode cX11_answersAlike 85 = .ok (.getfield 14, 3) := by decide +kernel
theorem dX11_answersAlike_88 : decode cX11_answersAlike 88 = .ok (.iload 4, 2) := by decide +kernel
theorem dX11_answersAlike_90 : decode cX11_answersAlike 90 = .ok (.invokevirtual 206, 3) := by decide +kernel
theorem dX11_answersAlike_93 : decode cX11_answersAlike 93 = .ok (.bipush 33, 2) := by decide +kernel
theorem dX11_answersAlike_95 : decode cX11_answersAlike 95 = .ok (.if_icmp .ne 26, 3) := by decide +kernel
theorem dX11_answersAlike_98 : decode cX11_answersAlike 98 = .ok (.aload_n 0, 1) := by decide +kernel
theorem dX11_answersAlike_99 : decode cX11_answersAlike 99 = .ok (.getfield 14, 3) := by decide +kernel
theorem dX11_answersAlike_102 : decode cX11_answersAlike 102 = .ok (.iload 4, 2) := by decide +kernel
theorem dX11_answersAlike_104 : decode cX11_answersAlike 104 = .ok (.iconst 1, 1) := by decide +kernel
theorem dX11_answersAlike_105 : decode cX11_answersAlike 105 = .ok (.iadd, 1) := by decide +kernel
theorem dX11_answersAlike_106 : decode cX11_answersAlike 106 = .ok (.invokevirtual 206, 3) := by decide +kernel
theorem dX11_answersAlike_109 : decode cX11_answersAlike 109 = .ok (.bipush 48, 2) := by decide +kernel
theorem dX11_answersAlike_111 : decode cX11_answersAlike 111 = .ok (.iload 5, 2) := by decide +kernel
theorem dX11_answersAlike_113 : decode cX11_answersAlike 113 = .ok (.iadd, 1) := by decide +kernel
theorem dX11_answersAlike_114 : decode cX11_answersAlike 114 = .ok (.if_icmp .ne 7, 3) := by decide +kernel
theorem dX11_answersAlike_117 : decode cX11_answersAlike 117 = .ok (.iconst 1, 1) := by decide +kernel
theorem dX11_answersAlike_118 : decode cX11_answersAlike 118 = .ok (.goto 4, 3) := by decide +kernel
theorem dX11_answersAlike_121 : decode cX11_answersAlike 121 = .ok (.iconst 0, 1) := by decide +kernel
theorem dX11_answersAlike_122 : decode cX11_answersAlike 122 = .ok (.ireturn, 1) := by decide +kernel
theorem dX11_answersAlike_123 : decode cX11_answersAlike 123 = .ok (.aload_n 0, 1) := by decide +kernel
theorem dX11_answersAlike_124 : decode cX11_answersAlike 124 = .ok (.getfield 25, 3) := by decide +kernel
theorem dX11_answersAlike_127 : decode cX11_answersAlike 127 = .ok (.aload_n 0, 1) := by decide +kernel
theorem dX11_answersAlike_128 : decode cX11_answersAlike 128 = .ok (.getfield 34, 3) := by decide +kernel
theorem dX11_answersAlike_131 : decode cX11_answersAlike 131 = .ok (.getfield 197, 3) := by decide +kernel
theorem dX11_answersAlike_134 : decode cX11_answersAlike 134 = .ok (.getfield 213, 3) := by decide +kernel
theorem dX11_answersAlike_137 : decode cX11_answersAlike 137 = .ok (.aload_n 0, 1) := by decide +kernel
theorem dX11_answersAlike_138 : decode cX11_answersAlike 138 = .ok (.getfield 14, 3) := by decide +kernel
theorem dX11_answersAlike_141 : decode cX11_answersAlike 141 = .ok (.iload 4, 2) := by decide +kernel
theorem dX11_answersAlike_143 : decode cX11_answersAlike 143 = .ok (.iload_n 3, 1) := by decide +kernel
theorem dX11_answersAlike_144 : decode cX11_answersAlike 144 = .ok (.invokevirtual 216, 3) := by decide +kernel
theorem dX11_answersAlike_147 : decode cX11_answersAlike 147 = .ok (.ireturn, 1) := by decide +kernel
theorem dX11_storm_0 : decode cX11_storm 0 = .ok (.iload_n 2, 1) := by decide +kernel
theorem dX11_storm_1 : decode cX11_storm 1 = .ok (.iconst 0, 1) := by decide +kernel
theorem dX11_storm_2 : decode cX11_storm 2 = .ok (.bipush 60, 2) := by decide +kernel
theorem dX11_storm_4 : decode cX11_storm 4 = .ok (.invokestatic 100, 3) := by decide +kernel
theorem dX11_storm_7 : decode cX11_storm 7 = .ok (.ifCond .ne 6, 3) := by decide +kernel
theorem dX11_storm_10 : decode cX11_storm 10 = .ok (.bipush (-3), 2) := by decide +kernel
theorem dX11_storm_12 : decode cX11_storm 12 = .ok (.ireturn, 1) := by decide +kernel
theorem dX11_storm_13 : decode cX11_storm 13 = .ok (.aload_n 0, 1) := by decide +kernel
theorem dX11_storm_14 : decode cX11_storm 14 = .ok (.getfield 25, 3) := by decide +kernel
theorem dX11_storm_17 : decode cX11_storm 17 = .ok (.getfield 74, 3) := by decide +kernel
theorem dX11_storm_20 : decode cX11_storm 20 = .ok (.getfield 220, 3) := by decide +kernel
theorem dX11_storm_23 : decode cX11_storm 23 = .ok (.ifCond .ne 6, 3) := by decide +kernel
theorem dX11_storm_26 : decode cX11_storm 26 = .ok (.bipush (-4), 2) := by decide +kernel
theorem dX11_storm_28 : decode cX11_storm 28 = .ok (.ireturn, 1) := by decide +kernel
theorem dX11_storm_29 : decode cX11_storm 29 = .ok (.aload_n 0, 1) := by decide +kernel
theorem dX11_storm_30 : decode cX11_storm 30 = .ok (.getfield 50, 3) := by decide +kernel
theorem dX11_storm_33 : decode cX11_storm 33 = .ok (.iload_n 1, 1) := by decide +kernel
theorem dX11_storm_34 : decode cX11_storm 34 = .ok (.iload_n 2, 1) := by decide +kernel
theorem dX11_storm_35 : decode cX11_storm 35 = .ok (.invokevirtual 223, 3) := by decide +kernel
theorem dX11_storm_38 : decode cX11_storm 38 = .ok (.ireturn, 1) := by decide +kernel
theorem dX11_play_0 : decode cX11_play 0 = .ok (.aload_n 0, 1) := by decide +kernel
theorem dX11_play_1 : decode cX11_play 1 = .ok (.getfield 50, 3) := by decide +kernel
theorem dX11_play_4 : decode cX11_play 4 = .ok (.getfield 227, 3) := by decide +kernel
theorem dX11_play_7 : decode cX11_play 7 = .ok (.ireturn, 1) := by decide +kernel
theorem dX11_played_0 : decode cX11_played 0 = .ok (.iload_n 1, 1) := by decide +kernel
theorem dX11_played_1 : decode cX11_played 1 = .ok (.iconst 0, 1) := by decide +kernel
theorem dX11_played_2 : decode cX11_played 2 = .ok (.aload_n 0, 1) := by decide +kernel
theorem dX11_played_3 : decode cX11_played 3 = .ok (.getfield 50, 3) := by decide +kernel
theorem dX11_played_6 : decode cX11_played 6 = .ok (.getfield 227, 3) := by decide +kernel
theorem dX11_played_9 : decode cX11_played 9 = .ok (.iconst 1, 1) := by decide +kernel
theorem dX11_played_10 : decode cX11_played 10 = .ok (.isub, 1) := by decide +kernel
theorem dX11_played_11 : decode cX11_played 11 = .ok (.invokestatic 100, 3) := by decide +kernel
theorem dX11_played_14 : decode cX11_played 14 = .ok (.ifCond .eq 15, 3) := by decide +kernel
theorem dX11_played_17 : decode cX11_played 17 = .ok (.aload_n 0, 1) := by decide +kernel
theorem dX11_played_18 : decode cX11_played 18 = .ok (.getfield 50, 3) := by decide +kernel
theorem dX11_played_21 : decode cX11_played 21 = .ok (.getfield 228, 3) := by decide +kernel
theorem dX11_played_24 : decode cX11_played 24 = .ok (.iload_n 1, 1) := by decide +kernel
theorem dX11_played_25 : decode cX11_played 25 = .ok (.iaload, 1) := by decide +kernel
theorem dX11_played_26 : decode cX11_played 26 = .ok (.goto 5, 3) := by decide +kernel
theorem dX11_played_29 : decode cX11_played 29 = .ok (.bipush (-2), 2) := by decide +kernel
theorem dX11_played_31 : decode cX11_played 31 = .ok (.ireturn, 1) := by decide +kernel
theorem dX11_shrink_0 : decode cX11_shrink 0 = .ok (.aload_n 0, 1) := by decide +kernel
theorem dX11_shrink_1 : decode cX11_shrink 1 = .ok (.getfield 50, 3) := by decide +kernel
theorem dX11_shrink_4 : decode cX11_shrink 4 = .ok (.getfield 230, 3) := by decide +kernel
theorem dX11_shrink_7 : decode cX11_shrink 7 = .ok (.ifCond .ne 6, 3) := by decide +kernel
theorem dX11_shrink_10 : decode cX11_shrink 10 = .ok (.bipush (-4), 2) := by decide +kernel
theorem dX11_shrink_12 : decode cX11_shrink 12 = .ok (.ireturn, 1) := by decide +kernel
theorem dX11_shrink_13 : decode cX11_shrink 13 = .ok (.aload_n 0, 1) := by decide +kernel
theorem dX11_shrink_14 : decode cX11_shrink 14 = .ok (.getfield 50, 3) := by decide +kernel
theorem dX11_shrink_17 : decode cX11_shrink 17 = .ok (.invokevirtual 233, 3) := by decide +kernel
theorem dX11_shrink_20 : decode cX11_shrink 20 = .ok (.ireturn, 1) := by decide +kernel
theorem dX11_state_0 : decode cX11_state 0 = .ok (.iload_n 1, 1) := by decide +kernel
theorem dX11_state_1 : decode cX11_state 1 = .ok (.tableswitch 75 0 3 #[31, 42, 53, 64], 31) := by decide +kernel
theorem dX11_state_32 : decode cX11_state 32 = .ok (.aload_n 0, 1) := by decide +kernel
theorem dX11_state_33 : decode cX11_state 33 = .ok (.getfield 34, 3) := by decide +kernel
theorem dX11_state_36 : decode cX11_state 36 = .ok (.getfield 197, 3) := by decide +kernel
theorem dX11_state_39 : decode cX11_state 39 = .ok (.getfield 236, 3) := by decide +kernel
theorem dX11_state_42 : decode cX11_state 42 = .ok (.ireturn, 1) := by decide +kernel
theorem dX11_state_43 : decode cX11_state 43 = .ok (.aload_n 0, 1) := by decide +kernel
theorem dX11_state_44 : decode cX11_state 44 = .ok (.getfield 34, 3) := by decide +kernel
theorem dX11_state_47 : decode cX11_state 47 = .ok (.getfield 197, 3) := by decide +kernel
theorem dX11_state_50 : decode cX11_state 50 = .ok (.getfield 201, 3) := by decide +kernel
theorem dX11_state_53 : decode cX11_state 53 = .ok (.ireturn, 1) := by decide +kernel
theorem dX11_state_54 : decode cX11_state 54 = .ok (.aload_n 0, 1) := by decide +kernel
theorem dX11_state_55 : decode cX11_state 55 = .ok (.getfield 34, 3) := by decide +kernel
theorem dX11_state_58 : decode cX11_state 58 = .ok (.getfield 197, 3) := by decide +kernel
theorem dX11_state_61 : decode cX11_state 61 = .ok (.getfield 237, 3) := by decide +kernel
theorem dX11_state_64 : decode cX11_state 64 = .ok (.ireturn, 1) := by decide +kernel
theorem dX11_state_65 : decode cX11_state 65 = .ok (.aload_n 0, 1) := by decide +kernel
theorem dX11_state_66 : decode cX11_state 66 = .ok (.getfield 34, 3) := by decide +kernel
theorem dX11_state_69 : decode cX11_state 69 = .ok (.getfield 197, 3) := by decide +kernel
theorem dX11_state_72 : decode cX11_state 72 = .ok (.getfield 213, 3) := by decide +kernel
theorem dX11_state_75 : decode cX11_state 75 = .ok (.ireturn, 1) := by decide +kernel
theorem dX11_state_76 : decode cX11_state 76 = .ok (.iload_n 1, 1) := by decide +kernel
theorem dX11_state_77 : decode cX11_state 77 = .ok (.iconst 4, 1) := by decide +kernel
theorem dX11_state_78 : decode cX11_state 78 = .ok (.bipush 11, 2) := by decide +kernel
theorem dX11_state_80 : decode cX11_state 80 = .ok (.invokestatic 100, 3) := by decide +kernel
theorem dX11_state_83 : decode cX11_state 83 = .ok (.ifCond .eq 19, 3) := by decide +kernel
theorem dX11_state_86 : decode cX11_state 86 = .ok (.aload_n 0, 1) := by decide +kernel
theorem dX11_state_87 : decode cX11_state 87 = .ok (.getfield 34, 3) := by decide +kernel
theorem dX11_state_90 : decode cX11_state 90 = .ok (.getfield 197, 3) := by decide +kernel
theorem dX11_state_93 : decode cX11_state 93 = .ok (.iload_n 1, 1) := by decide +kernel
theorem dX11_state_94 : decode cX11_state 94 = .ok (.iconst 4, 1) := by decide +kernel
theorem dX11_state_95 : decode cX11_state 95 = .ok (.isub, 1) := by decide +kernel
theorem dX11_state_96 : decode cX11_state 96 = .ok (.invokevirtual 240, 3) := by decide +kernel
theorem dX11_state_99 : decode cX11_state 99 = .ok (.goto 5, 3) := by decide +kernel
theorem dX11_state_102 : decode cX11_state 102 = .ok (.bipush (-3), 2) := by decide +kernel
theorem dX11_state_104 : decode cX11_state 104 = .ok (.ireturn, 1) := by decide +kernel
theorem dX11_done_0 : decode cX11_done 0 = .ok (.iload_n 1, 1) := by decide +kernel
theorem dX11_done_1 : decode cX11_done 1 = .ok (.iconst 0, 1) := by decide +kernel
theorem dX11_done_2 : decode cX11_done 2 = .ok (.aload_n 0, 1) := by decide +kernel
theorem dX11_done_3 : decode cX11_done 3 = .ok (.getfield 25, 3) := by decide +kernel
theorem dX11_done_6 : decode cX11_done 6 = .ok (.getfield 140, 3) := by decide +kernel
theorem dX11_done_9 : decode cX11_done 9 = .ok (.iconst 1, 1) := by decide +kernel
theorem dX11_done_10 : decode cX11_done 10 = .ok (.isub, 1) := by decide +kernel
theorem dX11_done_11 : decode cX11_done 11 = .ok (.invokestatic 100, 3) := by decide +kernel
theorem dX11_done_14 : decode cX11_done 14 = .ok (.ifCond .eq 15, 3) := by decide +kernel
theorem dX11_done_17 : decode cX11_done 17 = .ok (.aload_n 0, 1) := by decide +kernel
theorem dX11_done_18 : decode cX11_done 18 = .ok (.getfield 34, 3) := by decide +kernel
theorem dX11_done_21 : decode cX11_done 21 = .ok (.getfield 242, 3) := by decide +kernel
theorem dX11_done_24 : decode cX11_done 24 = .ok (.iload_n 1, 1) := by decide +kernel
theorem dX11_done_25 : decode cX11_done 25 = .ok (.iaload, 1) := by decide +kernel
theorem dX11_done_26 : decode cX11_done 26 = .ok (.goto 5, 3) := by decide +kernel
theorem dX11_done_29 : decode cX11_done 29 = .ok (.bipush (-2), 2) := by decide +kernel
theorem dX11_done_31 : decode cX11_done 31 = .ok (.ireturn, 1) := by decide +kernel
theorem dX11_shown_0 : decode cX11_shown 0 = .ok (.iload_n 1, 1) := by decide +kernel
theorem dX11_shown_1 : decode cX11_shown 1 = .ok (.iconst (-1), 1) := by decide +kernel
theorem dX11_shown_2 : decode cX11_shown 2 = .ok (.if_icmp .eq 20, 3) := by decide +kernel
theorem dX11_shown_5 : decode cX11_shown 5 = .ok (.aload_n 0, 1) := by decide +kernel
theorem dX11_shown_6 : decode cX11_shown 6 = .ok (.getfield 25, 3) := by decide +kernel
theorem dX11_shown_9 : decode cX11_shown 9 = .ok (.getfield 93, 3) := by decide +kernel
theorem dX11_shown_12 : decode cX11_shown 12 = .ok (.iload_n 1, 1) := by decide +kernel
theorem dX11_shown_13 : decode cX11_shown 13 = .ok (.invokevirtual 96, 3) := by decide +kernel
theorem dX11_shown_16 : decode cX11_shown 16 = .ok (.ifCond .ne 6, 3) := by decide +kernel
theorem dX11_shown_19 : decode cX11_shown 19 = .ok (.bipush (-2), 2) := by decide +kernel
theorem dX11_shown_21 : decode cX11_shown 21 = .ok (.ireturn, 1) := by decide +kernel
theorem dX11_shown_22 : decode cX11_shown 22 = .ok (.aload_n 0, 1) := by decide +kernel
theorem dX11_shown_23 : decode cX11_shown 23 = .ok (.getfield 34, 3) := by decide +kernel
theorem dX11_shown_26 : decode cX11_shown 26 = .ok (.getfield 245, 3) := by decide +kernel
theorem dX11_shown_29 : decode cX11_shown 29 = .ok (.iload_n 1, 1) := by decide +kernel
theorem dX11_shown_30 : decode cX11_shown 30 = .ok (.iconst 1, 1) := by decide +kernel
theorem dX11_shown_31 : decode cX11_shown 31 = .ok (.iadd, 1) := by decide +kernel
theorem dX11_shown_32 : decode cX11_shown 32 = .ok (.iaload, 1) := by decide +kernel
theorem dX11_shown_33 : decode cX11_shown 33 = .ok (.ireturn, 1) := by decide +kernel
theorem dX11_never_0 : decode cX11_never 0 = .ok (.iload_n 1, 1) := by decide +kernel
theorem dX11_never_1 : decode cX11_never 1 = .ok (.istore_n 2, 1) := by decide +kernel
theorem dX11_never_2 : decode cX11_never 2 = .ok (.iconst 0, 1) := by decide +kernel
theorem dX11_never_3 : decode cX11_never 3 = .ok (.istore_n 3, 1) := by decide +kernel
theorem dX11_never_4 : decode cX11_never 4 = .ok (.iload_n 3, 1) := by decide +kernel
theorem dX11_never_5 : decode cX11_never 5 = .ok (.aload_n 0, 1) := by decide +kernel
theorem dX11_never_6 : decode cX11_never 6 = .ok (.getfield 25, 3) := by decide +kernel
theorem dX11_never_9 : decode cX11_never 9 = .ok (.getfield 140, 3) := by decide +kernel
theorem dX11_never_12 : decode cX11_never 12 = .ok (.if_icmp .ge 33, 3) := by decide +kernel
theorem dX11_never_15 : decode cX11_never 15 = .ok (.aload_n 0, 1) := by decide +kernel
theorem dX11_never_16 : decode cX11_never 16 = .ok (.getfield 34, 3) := by decide +kernel
theorem dX11_never_19 : decode cX11_never 19 = .ok (.getfield 242, 3) := by decide +kernel
theorem dX11_never_22 : decode cX11_never 22 = .ok (.iload_n 3, 1) := by decide +kernel
theorem dX11_never_23 : decode cX11_never 23 = .ok (.iaload, 1) := by decide +kernel
theorem dX11_never_24 : decode cX11_never 24 = .ok (.ifCond .eq 6, 3) := by decide +kernel
theorem dX11_never_27 : decode cX11_never 27 = .ok (.goto 12, 3) := by decide +kernel
theorem dX11_never_30 : decode cX11_never 30 = .ok (.iload_n 2, 1) := by decide +kernel
theorem dX11_never_31 : decode cX11_never 31 = .ok (.ifCond .ne 5, 3) := by decide +kernel
theorem dX11_never_34 : decode cX11_never 34 = .ok (.iload_n 3, 1) := by decide +kernel
theorem dX11_never_35 : decode cX11_never 35 = .ok (.ireturn, 1) := by decide +kernel
theorem dX11_never_36 : decode cX11_never 36 = .ok (.iinc 2 (-1), 3) := by decide +kernel
theorem dX11_never_39 : decode cX11_never 39 = .ok (.iinc 3 1, 3) := by decide +kernel
theorem dX11_never_42 : decode cX11_never 42 = .ok (.goto (-38), 3) := by decide +kernel
theorem dX11_never_45 : decode cX11_never 45 = .ok (.iconst (-1), 1) := by decide +kernel
theorem dX11_never_46 : decode cX11_never 46 = .ok (.ireturn, 1) := by decide +kernel
theorem dX11_share_0 : decode cX11_share 0 = .ok (.iconst 0, 1) := by decide +kernel
theorem dX11_share_1 : decode cX11_share 1 = .ok (.istore_n 1, 1) := by decide +kernel
theorem dX11_share_2 : decode cX11_share 2 = .ok (.iconst 0, 1) := by decide +kernel
theorem dX11_share_3 : decode cX11_share 3 = .ok (.istore_n 2, 1) := by decide +kernel
theorem dX11_share_4 : decode cX11_share 4 = .ok (.iconst 0, 1) := by decide +kernel
theorem dX11_share_5 : decode cX11_share 5 = .ok (.istore_n 3, 1) := by decide +kernel
theorem dX11_share_6 : decode cX11_share 6 = .ok (.iload_n 3, 1) := by decide +kernel
theorem dX11_share_7 : decode cX11_share 7 = .ok (.aload_n 0, 1) := by decide +kernel
theorem dX11_share_8 : decode cX11_share 8 = .ok (.getfield 25, 3) := by decide +kernel
theorem dX11_share_11 : decode cX11_share 11 = .ok (.getfield 140, 3) := by decide +kernel
theorem dX11_share_14 : decode cX11_share 14 = .ok (.if_icmp .ge 36, 3) := by decide +kernel
theorem dX11_share_17 : decode cX11_share 17 = .ok (.iload_n 1, 1) := by decide +kernel
theorem dX11_share_18 : decode cX11_share 18 = .ok (.aload_n 0, 1) := by decide +kernel
theorem dX11_share_19 : decode cX11_share 19 = .ok (.getfield 34, 3) := by decide +kernel
theorem dX11_share_22 : decode cX11_share 22 = .ok (.getfield 242, 3) := by decide +kernel
theorem dX11_share_25 : decode cX11_share 25 = .ok (.iload_n 3, 1) := by decide +kernel
theorem dX11_share_26 : decode cX11_share 26 = .ok (.iaload, 1) := by decide +kernel
theorem dX11_share_27 : decode cX11_share 27 = .ok (.iadd, 1) := by decide +kernel
theorem dX11_share_28 : decode cX11_share 28 = .ok (.istore_n 1, 1) := by decide +kernel
theorem dX11_share_29 : decode cX11_share 29 = .ok (.aload_n 0, 1) := by decide +kernel
theorem dX11_share_30 : decode cX11_share 30 = .ok (.getfield 34, 3) := by decide +kernel
theorem dX11_share_33 : decode cX11_share 33 = .ok (.getfield 242, 3) := by decide +kernel
theorem dX11_share_36 : decode cX11_share 36 = .ok (.iload_n 3, 1) := by decide +kernel
theorem dX11_share_37 : decode cX11_share 37 = .ok (.iaload, 1) := by decide +kernel
theorem dX11_share_38 : decode cX11_share 38 = .ok (.ifCond .le 6, 3) := by decide +kernel
theorem dX11_share_41 : decode cX11_share 41 = .ok (.iinc 2 1, 3) := by decide +kernel
theorem dX11_share_44 : decode cX11_share 44 = .ok (.iinc 3 1, 3) := by decide +kernel
theorem dX11_share_47 : decode cX11_share 47 = .ok (.goto (-41), 3) := by decide +kernel
theorem dX11_share_50 : decode cX11_share 50 = .ok (.iload_n 2, 1) := by decide +kernel
theorem dX11_share_51 : decode cX11_share 51 = .ok (.ifCond .ne 13, 3) := by decide +kernel
theorem dX11_share_54 : decode cX11_share 54 = .ok (.new 248, 3) := by decide +kernel
theorem dX11_share_57 : decode cX11_share 57 = .ok (.dup, 1) := by decide +kernel
theorem dX11_share_58 : decode cX11_share 58 = .ok (.ldc 250, 2) := by decide +kernel
theorem dX11_share_60 : decode cX11_share 60 = .ok (.invokespecial 252, 3) := by decide +kernel
theorem dX11_share_63 : decode cX11_share 63 = .ok (.athrow, 1) := by decide +kernel
theorem dX11_share_64 : decode cX11_share 64 = .ok (.iload_n 1, 1) := by decide +kernel
theorem dX11_share_65 : decode cX11_share 65 = .ok (.iload_n 2, 1) := by decide +kernel
theorem dX11_share_66 : decode cX11_share 66 = .ok (.idiv, 1) := by decide +kernel
theorem dX11_share_67 : decode cX11_share 67 = .ok (.ireturn, 1) := by decide +kernel
theorem dX11_told_0 : decode cX11_told 0 = .ok (.iload_n 1, 1) := by decide +kernel
theorem dX11_told_1 : decode cX11_told 1 = .ok (.tableswitch 114 0 7 #[47, 55, 66, 77, 85, 90, 98, 106], 47) := by decide +kernel
theorem dX11_told_48 : decode cX11_told 48 = .ok (.aload_n 0, 1) := by decide +kernel
theorem dX11_told_49 : decode cX11_told 49 = .ok (.getfield 14, 3) := by decide +kernel
theorem dX11_told_52 : decode cX11_told 52 = .ok (.getfield 54, 3) := by decide +kernel
theorem dX11_told_55 : decode cX11_told 55 = .ok (.ireturn, 1) := by decide +kernel
theorem dX11_told_56 : decode cX11_told 56 = .ok (.aload_n 0, 1) := by decide +kernel
theorem dX11_told_57 : decode cX11_told 57 = .ok (.getfield 25, 3) := by decide +kernel
theorem dX11_told_60 : decode cX11_told 60 = .ok (.getfield 74, 3) := by decide +kernel
theorem dX11_told_63 : decode cX11_told 63 = .ok (.getfield 220, 3) := by decide +kernel
theorem dX11_told_66 : decode cX11_told 66 = .ok (.ireturn, 1) := by decide +kernel
theorem dX11_told_67 : decode cX11_told 67 = .ok (.aload_n 0, 1) := by decide +kernel
theorem dX11_told_68 : decode cX11_told 68 = .ok (.getfield 25, 3) := by decide +kernel
theorem dX11_told_71 : decode cX11_told 71 = .ok (.getfield 93, 3) := by decide +kernel
theorem dX11_told_74 : decode cX11_told 74 = .ok (.getfield 220, 3) := by decide +kernel
theorem dX11_told_77 : decode cX11_told 77 = .ok (.ireturn, 1) := by decide +kernel
theorem dX11_told_78 : decode cX11_told 78 = .ok (.aload_n 0, 1) := by decide +kernel
theorem dX11_told_79 : decode cX11_told 79 = .ok (.getfield 25, 3) := by decide +kernel
theorem dX11_told_82 : decode cX11_told 82 = .ok (.getfield 140, 3) := by decide +kernel
theorem dX11_told_85 : decode cX11_told 85 = .ok (.ireturn, 1) := by decide +kernel
theorem dX11_told_86 : decode cX11_told 86 = .ok (.aload_n 0, 1) := by decide +kernel
theorem dX11_told_87 : decode cX11_told 87 = .ok (.getfield 159, 3) := by decide +kernel
theorem dX11_told_90 : decode cX11_told 90 = .ok (.ireturn, 1) := by decide +kernel
theorem dX11_told_91 : decode cX11_told 91 = .ok (.aload_n 0, 1) := by decide +kernel
theorem dX11_told_92 : decode cX11_told 92 = .ok (.getfield 43, 3) := by decide +kernel
theorem dX11_told_95 : decode cX11_told 95 = .ok (.getfield 172, 3) := by decide +kernel
theorem dX11_told_98 : decode cX11_told 98 = .ok (.ireturn, 1) := by decide +kernel
theorem dX11_told_99 : decode cX11_told 99 = .ok (.aload_n 0, 1) := by decide +kernel
theorem dX11_told_100 : decode cX11_told 100 = .ok (.getfield 34, 3) := by decide +kernel
theorem dX11_told_103 : decode cX11_told 103 = .ok (.getfield 255, 3) := by decide +kernel
theorem dX11_told_106 : decode cX11_told 106 = .ok (.ireturn, 1) := by decide +kernel
theorem dX11_told_107 : decode cX11_told 107 = .ok (.aload_n 0, 1) := by decide +kernel
theorem dX11_told_108 : decode cX11_told 108 = .ok (.getfield 34, 3) := by decide +kernel
theorem dX11_told_111 : decode cX11_told 111 = .ok (.getfield 258, 3) := by decide +kernel
theorem dX11_told_114 : decode cX11_told 114 = .ok (.ireturn, 1) := by decide +kernel
theorem dX11_told_115 : decode cX11_told 115 = .ok (.bipush (-3), 2) := by decide +kernel
theorem dX11_told_117 : decode cX11_told 117 = .ok (.ireturn, 1) := by decide +kernel
theorem dX12_thrown_0 : decode cX12_thrown 0 = .ok (.aload_n 0, 1) := by decide +kernel
theorem dX12_thrown_1 : decode cX12_thrown 1 = .ok (.getfield 1, 3) := by decide +kernel
theorem dX12_thrown_4 : decode cX12_thrown 4 = .ok (.ireturn, 1) := by decide +kernel
theorem dX12_init_0 : decode cX12_init 0 = .ok (.aload_n 0, 1) := by decide +kernel
theorem dX12_init_1 : decode cX12_init 1 = .ok (.invokespecial 7, 3) := by decide +kernel
theorem dX12_init_4 : decode cX12_init 4 = .ok (.aload_n 0, 1) := by decide +kernel
theorem dX12_init_5 : decode cX12_init 5 = .ok (.sipush 600, 3) := by decide +kernel
theorem dX12_init_8 : decode cX12_init 8 = .ok (.newarray .int, 2) := by decide +kernel
theorem dX12_init_10 : decode cX12_init 10 = .ok (.putfield 13, 3) := by decide +kernel
theorem dX12_init_13 : decode cX12_init 13 = .ok (.aload_n 0, 1) := by decide +kernel
theorem dX12_init_14 : decode cX12_init 14 = .ok (.bipush 96, 2) := by decide +kernel
theorem dX12_init_16 : decode cX12_init 16 = .ok (.newarray .int, 2) := by decide +kernel
theorem dX12_init_18 : decode cX12_init 18 = .ok (.putfield 17, 3) := by decide +kernel
theorem dX12_init_21 : decode cX12_init 21 = .ok (.aload_n 0, 1) := by decide +kernel
theorem dX12_init_22 : decode cX12_init 22 = .ok (.bipush 16, 2) := by decide +kernel
theorem dX12_init_24 : decode cX12_init 24 = .ok (.newarray .int, 2) := by decide +kernel
theorem dX12_init_26 : decode cX12_init 26 = .ok (.putfield 20, 3) := by decide +kernel
theorem dX12_init_29 : decode cX12_init 29 = .ok (.aload_n 0, 1) := by decide +kernel
theorem dX12_init_30 : decode cX12_init 30 = .ok (.sipush 480, 3) := by decide +kernel
theorem dX12_init_33 : decode cX12_init 33 = .ok (.newarray .int, 2) := by decide +kernel
theorem dX12_init_35 : decode cX12_init 35 = .ok (.putfield 23, 3) := by decide +kernel
theorem dX12_init_38 : decode cX12_init 38 = .ok (.aload_n 0, 1) := by decide +kernel
theorem dX12_init_39 : decode cX12_init 39 = .ok (.bipush 24, 2) := by decide +kernel
theorem dX12_init_41 : decode cX12_init 41 = .ok (.newarray .int, 2) := by decide +kernel
theorem dX12_init_43 : decode cX12_init 43 = .ok (.putfield 26, 3) := by decide +kernel
theorem dX12_init_46 : decode cX12_init 46 = .ok (.aload_n 0, 1) := by decide +kernel
theorem dX12_init_47 : decode cX12_init 47 = .ok (.bipush 30, 2) := by decide +kernel
theorem dX12_init_49 : decode cX12_init 49 = .ok (.newarray .int, 2) := by decide +kernel
theorem dX12_init_51 : decode cX12_init 51 = .ok (.putfield 29, 3) := by decide +kernel
theorem dX12_init_54 : decode cX12_init 54 = .ok (.aload_n 0, 1) := by decide +kernel
theorem dX12_init_55 : decode cX12_init 55 = .ok (.bipush 30, 2) := by decide +kernel
theorem dX12_init_57 : decode cX12_init 57 = .ok (.newarray .int, 2) := by decide +kernel
theorem dX12_init_59 : decode cX12_init 59 = .ok (.putfield 32, 3) := by decide +kernel
theorem dX12_init_62 : decode cX12_init 62 = .ok (.aload_n 0, 1) := by decide +kernel
theorem dX12_init_63 : decode cX12_init 63 = .ok (.bipush 30, 2) := by decide +kernel
theorem dX12_init_65 : decode cX12_init 65 = .ok (.newarray .int, 2) := by decide +kernel
theorem dX12_init_67 : decode cX12_init 67 = .ok (.putfield 35, 3) := by decide +kernel
theorem dX12_init_70 : decode cX12_init 70 = .ok (.aload_n 0, 1) := by decide +kernel
theorem dX12_init_71 : decode cX12_init 71 = .ok (.bipush 30, 2) := by decide +kernel
theorem dX12_init_73 : decode cX12_init 73 = .ok (.newarray .int, 2) := by decide +kernel
theorem dX12_init_75 : decode cX12_init 75 = .ok (.putfield 38, 3) := by decide +kernel
theorem dX12_init_78 : decode cX12_init 78 = .ok (.aload_n 0, 1) := by decide +kernel
theorem dX12_init_79 : decode cX12_init 79 = .ok (.bipush 30, 2) := by decide +kernel
theorem dX12_init_81 : decode cX12_init 81 = .ok (.newarray .int, 2) := by decide +kernel
theorem dX12_init_83 : decode cX12_init 83 = .ok (.putfield 41, 3) := by decide +kernel
theorem dX12_init_86 : decode cX12_init 86 = .ok (.aload_n 0, 1) := by decide +kernel
theorem dX12_init_87 : decode cX12_init 87 = .ok (.bipush 30, 2) := by decide +kernel
theorem dX12_init_89 : decode cX12_init 89 = .ok (.newarray .int, 2) := by decide +kernel
theorem dX12_init_91 : decode cX12_init 91 = .ok (.putfield 44, 3) := by decide +kernel
theorem dX12_init_94 : decode cX12_init 94 = .ok (.aload_n 0, 1) := by decide +kernel
theorem dX12_init_95 : decode cX12_init 95 = .ok (.bipush 30, 2) := by decide +kernel
theorem dX12_init_97 : decode cX12_init 97 = .ok (.newarray .int, 2) := by decide +kernel
theorem dX12_init_99 : decode cX12_init 99 = .ok (.putfield 47, 3) := by decide +kernel
theorem dX12_init_102 : decode cX12_init 102 = .ok (.aload_n 0, 1) := by decide +kernel
theorem dX12_init_103 : decode cX12_init 103 = .ok (.bipush 30, 2) := by decide +kernel
theorem dX12_init_105 : decode cX12_init 105 = .ok (.newarray .int, 2) := by decide +kernel
theorem dX12_init_107 : decode cX12_init 107 = .ok (.putfield 50, 3) := by decide +kernel
theorem dX12_init_110 : decode cX12_init 110 = .ok (.aload_n 0, 1) := by decide +kernel
theorem dX12_init_111 : decode cX12_init 111 = .ok (.bipush 30, 2) := by decide +kernel
theorem dX12_init_113 : decode cX12_init 113 = .ok (.newarray .int, 2) := by decide +kernel
theorem dX12_init_115 : decode cX12_init 115 = .ok (.putfield 53, 3) := by decide +kernel
theorem dX12_init_118 : decode cX12_init 118 = .ok (.aload_n 0, 1) := by decide +kernel
theorem dX12_init_119 : decode cX12_init 119 = .ok (.bipush 30, 2) := by decide +kernel
theorem dX12_init_121 : decode cX12_init 121 = .ok (.newarray .int, 2) := by decide +kernel
theorem dX12_init_123 : decode cX12_init 123 = .ok (.putfield 56, 3) := by decide +kernel
theorem dX12_init_126 : decode cX12_init 126 = .ok (.aload_n 0, 1) := by decide +kernel
theorem dX12_init_127 : decode cX12_init 127 = .ok (.bipush 25, 2) := by decide +kernel
theorem dX12_init_129 : decode cX12_init 129 = .ok (.newarray .int, 2) := by decide +kernel
theorem dX12_init_131 : decode cX12_init 131 = .ok (.putfield 59, 3) := by decide +kernel
theorem dX12_init_134 : decode cX12_init 134 = .ok (.aload_n 0, 1) := by decide +kernel
theorem dX12_init_135 : decode cX12_init 135 = .ok (.iconst 4, 1) := by decide +kernel
theorem dX12_init_136 : decode cX12_init 136 = .ok (.newarray .int, 2) := by decide +kernel
theorem dX12_init_138 : decode cX12_init 138 = .ok (.putfield 62, 3) := by decide +kernel
theorem dX12_init_141 : decode cX12_init 141 = .ok (.aload_n 0, 1) := by decide +kernel
theorem dX12_init_142 : decode cX12_init 142 = .ok (.iconst 4, 1) := by decide +kernel
theorem dX12_init_143 : decode cX12_init 143 = .ok (.newarray .int, 2) := by decide +kernel
theorem dX12_init_145 : decode cX12_init 145 = .ok (.putfield 65, 3) := by decide +kernel
theorem dX12_init_148 : decode cX12_init 148 = .ok (.aload_n 0, 1) := by decide +kernel
theorem dX12_init_149 : decode cX12_init 149 = .ok (.iconst 4, 1) := by decide +kernel
theorem dX12_init_150 : decode cX12_init 150 = .ok (.newarray .int, 2) := by decide +kernel
theorem dX12_init_152 : decode cX12_init 152 = .ok (.putfield 68, 3) := by decide +kernel
theorem dX12_init_155 : decode cX12_init 155 = .ok (.aload_n 0, 1) := by decide +kernel
theorem dX12_init_156 : decode cX12_init 156 = .ok (.iconst 1, 1) := by decide +kernel
theorem dX12_init_157 : decode cX12_init 157 = .ok (.putfield 71, 3) := by decide +kernel
theorem dX12_init_160 : decode cX12_init 160 = .ok (.aload_n 0, 1) := by decide +kernel
theorem dX12_init_161 : decode cX12_init 161 = .ok (.bipush 72, 2) := by decide +kernel
theorem dX12_init_163 : decode cX12_init 163 = .ok (.newarray .int, 2) := by decide +kernel
theorem dX12_init_165 : decode cX12_init 165 = .ok (.putfield 75, 3) := by decide +kernel
theorem dX12_init_168 : decode cX12_init 168 = .ok (.aload_n 0, 1) := by decide +kernel
theorem dX12_init_169 : decode cX12_init 169 = .ok (.bipush 6, 2) := by decide +kernel
theorem dX12_init_171 : decode cX12_init 171 = .ok (.newarray .boolean, 2) := by decide +kernel
theorem dX12_init_173 : decode cX12_init 173 = .ok (.putfield 78, 3) := by decide +kernel
theorem dX12_init_176 : decode cX12_init 176 = .ok (.aload_n 0, 1) := by decide +kernel
theorem dX12_init_177 : decode cX12_init 177 = .ok (.sipush 6000, 3) := by decide +kernel
theorem dX12_init_180 : decode cX12_init 180 = .ok (.newarray .int, 2) := by decide +kernel
theorem dX12_init_182 : decode cX12_init 182 = .ok (.putfield 82, 3) := by decide +kernel
theorem dX12_init_185 : decode cX12_init 185 = .ok (.aload_n 0, 1) := by decide +kernel
theorem dX12_init_186 : decode cX12_init 186 = .ok (.bipush 10, 2) := by decide +kernel
theorem dX12_init_188 : decode cX12_init 188 = .ok (.newarray .int, 2) := by decide +kernel
theorem dX12_init_190 : decode cX12_init 190 = .ok (.putfield 85, 3) := by decide +kernel
theorem dX12_init_193 : decode cX12_init 193 = .ok (.aload_n 0, 1) := by decide +kernel
end
section
theorem dX12_init_194 : decode cX12_init 194 = .ok (.bipush 40, 2) := by decide +kernel
theorem dX12_init_196 : decode cX12_init 196 = .ok (.newarray .int, 2) := by decide +kernel
theorem dX12_init_198 : decode cX12_init 198 = .ok (.putfield 88, 3) := by decide +kernel
theorem dX12_init_201 : decode cX12_init 201 = .ok (.aload_n 0, 1) := by decide +kernel
theorem dX12_init_202 : decode cX12_init 202 = .ok (.bipush 40, 2) := by decide +kernel
theorem dX12_init_204 : decode cX12_init 204 = .ok (.newarray .int, 2) := by decide +kernel
theorem dX12_init_206 : decode cX12_init 206 = .ok (.putfield 91, 3) := by decide +kernel
theorem dX12_init_209 : decode cX12_init 209 = .ok (.aload_n 0, 1) := by decide +kernel
theorem dX12_init_210 : decode cX12_init 210 = .ok (.bipush 60, 2) := by decide +kernel
theorem dX12_init_212 : decode cX12_init 212 = .ok (.newarray .int, 2) := by decide +kernel
theorem dX12_init_214 : decode cX12_init 214 = .ok (.putfield 94, 3) := by decide +kernel
theorem dX12_init_217 : decode cX12_init 217 = .ok (.aload_n 0, 1) := by decide +kernel
theorem dX12_init_218 : decode cX12_init 218 = .ok (.iload_n 1, 1) := by decide +kernel
theorem dX12_init_219 : decode cX12_init 219 = .ok (.putfield 97, 3) := by decide +kernel
theorem dX12_init_222 : decode cX12_init 222 = .ok (.aload_n 0, 1) := by decide +kernel
theorem dX12_init_223 : decode cX12_init 223 = .ok (.invokevirtual 100, 3) := by decide +kernel
theorem dX12_init_226 : decode cX12_init 226 = .ok (.return_, 1) := by decide +kernel
theorem dX12_in_0 : decode cX12_in 0 = .ok (.lload_n 0, 1) := by decide +kernel
theorem dX12_in_1 : decode cX12_in 1 = .ok (.lload_n 2, 1) := by decide +kernel
theorem dX12_in_2 : decode cX12_in 2 = .ok (.lcmp, 1) := by decide +kernel
theorem dX12_in_3 : decode cX12_in 3 = .ok (.ifCond .lt 14, 3) := by decide +kernel
theorem dX12_in_6 : decode cX12_in 6 = .ok (.lload_n 0, 1) := by decide +kernel
theorem dX12_in_7 : decode cX12_in 7 = .ok (.lload 4, 2) := by decide +kernel
theorem dX12_in_9 : decode cX12_in 9 = .ok (.lcmp, 1) := by decide +kernel
theorem dX12_in_10 : decode cX12_in 10 = .ok (.ifCond .gt 7, 3) := by decide +kernel
theorem dX12_in_13 : decode cX12_in 13 = .ok (.iconst 1, 1) := by decide +kernel
theorem dX12_in_14 : decode cX12_in 14 = .ok (.goto 4, 3) := by decide +kernel
theorem dX12_in_17 : decode cX12_in 17 = .ok (.iconst 0, 1) := by decide +kernel
theorem dX12_in_18 : decode cX12_in 18 = .ok (.ireturn, 1) := by decide +kernel
theorem dX12_feed_0 : decode cX12_feed 0 = .ok (.aload_n 0, 1) := by decide +kernel
theorem dX12_feed_1 : decode cX12_feed 1 = .ok (.iconst 0, 1) := by decide +kernel
theorem dX12_feed_2 : decode cX12_feed 2 = .ok (.putfield 1, 3) := by decide +kernel
theorem dX12_feed_5 : decode cX12_feed 5 = .ok (.iload_n 3, 1) := by decide +kernel
theorem dX12_feed_6 : decode cX12_feed 6 = .ok (.i2l, 1) := by decide +kernel
theorem dX12_feed_7 : decode cX12_feed 7 = .ok (.lconst 1, 1) := by decide +kernel
theorem dX12_feed_8 : decode cX12_feed 8 = .ok (.ldc2_w 103, 3) := by decide +kernel
theorem dX12_feed_11 : decode cX12_feed 11 = .ok (.invokestatic 105, 3) := by decide +kernel
theorem dX12_feed_14 : decode cX12_feed 14 = .ok (.ifCond .ne 6, 3) := by decide +kernel
theorem dX12_feed_17 : decode cX12_feed 17 = .ok (.bipush (-3), 2) := by decide +kernel
theorem dX12_feed_19 : decode cX12_feed 19 = .ok (.ireturn, 1) := by decide +kernel
theorem dX12_feed_20 : decode cX12_feed 20 = .ok (.aload_n 0, 1) := by decide +kernel
theorem dX12_feed_21 : decode cX12_feed 21 = .ok (.getfield 109, 3) := by decide +kernel
theorem dX12_feed_24 : decode cX12_feed 24 = .ok (.iload_n 3, 1) := by decide +kernel
theorem dX12_feed_25 : decode cX12_feed 25 = .ok (.iadd, 1) := by decide +kernel
theorem dX12_feed_26 : decode cX12_feed 26 = .ok (.sipush 600, 3) := by decide +kernel
theorem dX12_feed_29 : decode cX12_feed 29 = .ok (.if_icmp .le 6, 3) := by decide +kernel
theorem dX12_feed_32 : decode cX12_feed 32 = .ok (.bipush (-5), 2) := by decide +kernel
theorem dX12_feed_34 : decode cX12_feed 34 = .ok (.ireturn, 1) := by decide +kernel
theorem dX12_feed_35 : decode cX12_feed 35 = .ok (.iload_n 3, 1) := by decide +kernel
theorem dX12_feed_36 : decode cX12_feed 36 = .ok (.iconst 1, 1) := by decide +kernel
theorem dX12_feed_37 : decode cX12_feed 37 = .ok (.isub, 1) := by decide +kernel
theorem dX12_feed_38 : decode cX12_feed 38 = .ok (.istore 4, 2) := by decide +kernel
theorem dX12_feed_40 : decode cX12_feed 40 = .ok (.iload 4, 2) := by decide +kernel
theorem dX12_feed_42 : decode cX12_feed 42 = .ok (.ifCond .lt 40, 3) := by decide +kernel
theorem dX12_feed_45 : decode cX12_feed 45 = .ok (.aload_n 0, 1) := by decide +kernel
theorem dX12_feed_46 : decode cX12_feed 46 = .ok (.getfield 13, 3) := by decide +kernel
theorem dX12_feed_49 : decode cX12_feed 49 = .ok (.aload_n 0, 1) := by decide +kernel
theorem dX12_feed_50 : decode cX12_feed 50 = .ok (.getfield 109, 3) := by decide +kernel
theorem dX12_feed_53 : decode cX12_feed 53 = .ok (.lload_n 1, 1) := by decide +kernel
theorem dX12_feed_54 : decode cX12_feed 54 = .ok (.bipush 8, 2) := by decide +kernel
theorem dX12_feed_56 : decode cX12_feed 56 = .ok (.iload 4, 2) := by decide +kernel
theorem dX12_feed_58 : decode cX12_feed 58 = .ok (.imul, 1) := by decide +kernel
theorem dX12_feed_59 : decode cX12_feed 59 = .ok (.lshr, 1) := by decide +kernel
theorem dX12_feed_60 : decode cX12_feed 60 = .ok (.ldc2_w 112, 3) := by decide +kernel
theorem dX12_feed_63 : decode cX12_feed 63 = .ok (.land, 1) := by decide +kernel
theorem dX12_feed_64 : decode cX12_feed 64 = .ok (.l2i, 1) := by decide +kernel
theorem dX12_feed_65 : decode cX12_feed 65 = .ok (.iastore, 1) := by decide +kernel
theorem dX12_feed_66 : decode cX12_feed 66 = .ok (.aload_n 0, 1) := by decide +kernel
theorem dX12_feed_67 : decode cX12_feed 67 = .ok (.dup, 1) := by decide +kernel
theorem dX12_feed_68 : decode cX12_feed 68 = .ok (.getfield 109, 3) := by decide +kernel
theorem dX12_feed_71 : decode cX12_feed 71 = .ok (.iconst 1, 1) := by decide +kernel
theorem dX12_feed_72 : decode cX12_feed 72 = .ok (.iadd, 1) := by decide +kernel
theorem dX12_feed_73 : decode cX12_feed 73 = .ok (.putfield 109, 3) := by decide +kernel
theorem dX12_feed_76 : decode cX12_feed 76 = .ok (.iinc 4 (-1), 3) := by decide +kernel
theorem dX12_feed_79 : decode cX12_feed 79 = .ok (.goto (-39), 3) := by decide +kernel
theorem dX12_feed_82 : decode cX12_feed 82 = .ok (.aload_n 0, 1) := by decide +kernel
theorem dX12_feed_83 : decode cX12_feed 83 = .ok (.getfield 109, 3) := by decide +kernel
theorem dX12_feed_86 : decode cX12_feed 86 = .ok (.ireturn, 1) := by decide +kernel
theorem dX12_isLetter_0 : decode cX12_isLetter 0 = .ok (.iload_n 0, 1) := by decide +kernel
theorem dX12_isLetter_1 : decode cX12_isLetter 1 = .ok (.i2l, 1) := by decide +kernel
theorem dX12_isLetter_2 : decode cX12_isLetter 2 = .ok (.ldc2_w 114, 3) := by decide +kernel
theorem dX12_isLetter_5 : decode cX12_isLetter 5 = .ok (.ldc2_w 116, 3) := by decide +kernel
theorem dX12_isLetter_8 : decode cX12_isLetter 8 = .ok (.invokestatic 105, 3) := by decide +kernel
theorem dX12_isLetter_11 : decode cX12_isLetter 11 = .ok (.ireturn, 1) := by decide +kernel
theorem dX12_isSign_0 : decode cX12_isSign 0 = .ok (.iload_n 0, 1) := by decide +kernel
theorem dX12_isSign_1 : decode cX12_isSign 1 = .ok (.i2l, 1) := by decide +kernel
theorem dX12_isSign_2 : decode cX12_isSign 2 = .ok (.ldc2_w 118, 3) := by decide +kernel
theorem dX12_isSign_5 : decode cX12_isSign 5 = .ok (.ldc2_w 120, 3) := by decide +kernel
theorem dX12_isSign_8 : decode cX12_isSign 8 = .ok (.invokestatic 105, 3) := by decide +kernel
theorem dX12_isSign_11 : decode cX12_isSign 11 = .ok (.ireturn, 1) := by decide +kernel
theorem dX12_wordAt_0 : decode cX12_wordAt 0 = .ok (.iconst 0, 1) := by decide +kernel
theorem dX12_wordAt_1 : decode cX12_wordAt 1 = .ok (.istore 4, 2) := by decide +kernel
theorem dX12_wordAt_3 : decode cX12_wordAt 3 = .ok (.iload 4, 2) := by decide +kernel
theorem dX12_wordAt_5 : decode cX12_wordAt 5 = .ok (.aload_n 0, 1) := by decide +kernel
theorem dX12_wordAt_6 : decode cX12_wordAt 6 = .ok (.getfield 122, 3) := by decide +kernel
theorem dX12_wordAt_9 : decode cX12_wordAt 9 = .ok (.if_icmp .ge 84, 3) := by decide +kernel
theorem dX12_wordAt_12 : decode cX12_wordAt 12 = .ok (.aload_n 0, 1) := by decide +kernel
theorem dX12_wordAt_13 : decode cX12_wordAt 13 = .ok (.getfield 20, 3) := by decide +kernel
theorem dX12_wordAt_16 : decode cX12_wordAt 16 = .ok (.iload 4, 2) := by decide +kernel
theorem dX12_wordAt_18 : decode cX12_wordAt 18 = .ok (.iaload, 1) := by decide +kernel
theorem dX12_wordAt_19 : decode cX12_wordAt 19 = .ok (.iload_n 3, 1) := by decide +kernel
theorem dX12_wordAt_20 : decode cX12_wordAt 20 = .ok (.if_icmp .ne 7, 3) := by decide +kernel
theorem dX12_wordAt_23 : decode cX12_wordAt 23 = .ok (.iconst 1, 1) := by decide +kernel
theorem dX12_wordAt_24 : decode cX12_wordAt 24 = .ok (.goto 4, 3) := by decide +kernel
theorem dX12_wordAt_27 : decode cX12_wordAt 27 = .ok (.iconst 0, 1) := by decide +kernel
theorem dX12_wordAt_28 : decode cX12_wordAt 28 = .ok (.istore 5, 2) := by decide +kernel
theorem dX12_wordAt_30 : decode cX12_wordAt 30 = .ok (.iconst 0, 1) := by decide +kernel
theorem dX12_wordAt_31 : decode cX12_wordAt 31 = .ok (.istore 6, 2) := by decide +kernel
theorem dX12_wordAt_33 : decode cX12_wordAt 33 = .ok (.iload 6, 2) := by decide +kernel
theorem dX12_wordAt_35 : decode cX12_wordAt 35 = .ok (.iload_n 3, 1) := by decide +kernel
theorem dX12_wordAt_36 : decode cX12_wordAt 36 = .ok (.if_icmp .ge 43, 3) := by decide +kernel
theorem dX12_wordAt_39 : decode cX12_wordAt 39 = .ok (.iload 5, 2) := by decide +kernel
theorem dX12_wordAt_41 : decode cX12_wordAt 41 = .ok (.ifCond .eq 38, 3) := by decide +kernel
theorem dX12_wordAt_44 : decode cX12_wordAt 44 = .ok (.aload_n 0, 1) := by decide +kernel
theorem dX12_wordAt_45 : decode cX12_wordAt 45 = .ok (.getfield 17, 3) := by decide +kernel
theorem dX12_wordAt_48 : decode cX12_wordAt 48 = .ok (.bipush 6, 2) := by decide +kernel
theorem dX12_wordAt_50 : decode cX12_wordAt 50 = .ok (.iload 4, 2) := by decide +kernel
theorem dX12_wordAt_52 : decode cX12_wordAt 52 = .ok (.imul, 1) := by decide +kernel
theorem dX12_wordAt_53 : decode cX12_wordAt 53 = .ok (.iload 6, 2) := by decide +kernel
theorem dX12_wordAt_55 : decode cX12_wordAt 55 = .ok (.iadd, 1) := by decide +kernel
theorem dX12_wordAt_56 : decode cX12_wordAt 56 = .ok (.iaload, 1) := by decide +kernel
theorem dX12_wordAt_57 : decode cX12_wordAt 57 = .ok (.aload_n 1, 1) := by decide +kernel
theorem dX12_wordAt_58 : decode cX12_wordAt 58 = .ok (.iload_n 2, 1) := by decide +kernel
theorem dX12_wordAt_59 : decode cX12_wordAt 59 = .ok (.iload 6, 2) := by decide +kernel
theorem dX12_wordAt_61 : decode cX12_wordAt 61 = .ok (.iadd, 1) := by decide +kernel
theorem dX12_wordAt_62 : decode cX12_wordAt 62 = .ok (.iaload, 1) := by decide +kernel
theorem dX12_wordAt_63 : decode cX12_wordAt 63 = .ok (.if_icmp .ne 7, 3) := by decide +kernel
theorem dX12_wordAt_66 : decode cX12_wordAt 66 = .ok (.iconst 1, 1) := by decide +kernel
theorem dX12_wordAt_67 : decode cX12_wordAt 67 = .ok (.goto 4, 3) := by decide +kernel
theorem dX12_wordAt_70 : decode cX12_wordAt 70 = .ok (.iconst 0, 1) := by decide +kernel
theorem dX12_wordAt_71 : decode cX12_wordAt 71 = .ok (.istore 5, 2) := by decide +kernel
theorem dX12_wordAt_73 : decode cX12_wordAt 73 = .ok (.iinc 6 1, 3) := by decide +kernel
theorem dX12_wordAt_76 : decode cX12_wordAt 76 = .ok (.goto (-43), 3) := by decide +kernel
theorem dX12_wordAt_79 : decode cX12_wordAt 79 = .ok (.iload 5, 2) := by decide +kernel
theorem dX12_wordAt_81 : decode cX12_wordAt 81 = .ok (.ifCond .eq 6, 3) := by decide +kernel
theorem dX12_wordAt_84 : decode cX12_wordAt 84 = .ok (.iload 4, 2) := by decide +kernel
theorem dX12_wordAt_86 : decode cX12_wordAt 86 = .ok (.ireturn, 1) := by decide +kernel
theorem dX12_wordAt_87 : decode cX12_wordAt 87 = .ok (.iinc 4 1, 3) := by decide +kernel
theorem dX12_wordAt_90 : decode cX12_wordAt 90 = .ok (.goto (-87), 3) := by decide +kernel
theorem dX12_wordAt_93 : decode cX12_wordAt 93 = .ok (.iconst (-1), 1) := by decide +kernel
theorem dX12_wordAt_94 : decode cX12_wordAt 94 = .ok (.ireturn, 1) := by decide +kernel
theorem dX12_word_0 : decode cX12_word 0 = .ok (.aload_n 0, 1) := by decide +kernel
theorem dX12_word_1 : decode cX12_word 1 = .ok (.iconst 0, 1) := by decide +kernel
theorem dX12_word_2 : decode cX12_word 2 = .ok (.putfield 1, 3) := by decide +kernel
theorem dX12_word_5 : decode cX12_word 5 = .ok (.aload_n 0, 1) := by decide +kernel
theorem dX12_word_6 : decode cX12_word 6 = .ok (.getfield 109, 3) := by decide +kernel
theorem dX12_word_9 : decode cX12_word 9 = .ok (.istore_n 1, 1) := by decide +kernel
theorem dX12_word_10 : decode cX12_word 10 = .ok (.aload_n 0, 1) := by decide +kernel
theorem dX12_word_11 : decode cX12_word 11 = .ok (.iconst 0, 1) := by decide +kernel
theorem dX12_word_12 : decode cX12_word 12 = .ok (.putfield 109, 3) := by decide +kernel
theorem dX12_word_15 : decode cX12_word 15 = .ok (.iload_n 1, 1) := by decide +kernel
theorem dX12_word_16 : decode cX12_word 16 = .ok (.i2l, 1) := by decide +kernel
theorem dX12_word_17 : decode cX12_word 17 = .ok (.lconst 1, 1) := by decide +kernel
theorem dX12_word_18 : decode cX12_word 18 = .ok (.ldc2_w 125, 3) := by decide +kernel
theorem dX12_word_21 : decode cX12_word 21 = .ok (.invokestatic 105, 3) := by decide +kernel
theorem dX12_word_24 : decode cX12_word 24 = .ok (.istore_n 2, 1) := by decide +kernel
theorem dX12_word_25 : decode cX12_word 25 = .ok (.iconst 0, 1) := by decide +kernel
theorem dX12_word_26 : decode cX12_word 26 = .ok (.istore_n 3, 1) := by decide +kernel
theorem dX12_word_27 : decode cX12_word 27 = .ok (.iload_n 3, 1) := by decide +kernel
theorem dX12_word_28 : decode cX12_word 28 = .ok (.iload_n 1, 1) := by decide +kernel
theorem dX12_word_29 : decode cX12_word 29 = .ok (.if_icmp .ge 23, 3) := by decide +kernel
theorem dX12_word_32 : decode cX12_word 32 = .ok (.iload_n 2, 1) := by decide +kernel
theorem dX12_word_33 : decode cX12_word 33 = .ok (.ifCond .eq 19, 3) := by decide +kernel
theorem dX12_word_36 : decode cX12_word 36 = .ok (.aload_n 0, 1) := by decide +kernel
theorem dX12_word_37 : decode cX12_word 37 = .ok (.getfield 13, 3) := by decide +kernel
theorem dX12_word_40 : decode cX12_word 40 = .ok (.iload_n 3, 1) := by decide +kernel
theorem dX12_word_41 : decode cX12_word 41 = .ok (.iaload, 1) := by decide +kernel
theorem dX12_word_42 : decode cX12_word 42 = .ok (.invokestatic 127, 3) := by decide +kernel
theorem dX12_word_45 : decode cX12_word 45 = .ok (.istore_n 2, 1) := by decide +kernel
theorem dX12_word_46 : decode cX12_word 46 = .ok (.iinc 3 1, 3) := by decide +kernel
theorem dX12_word_49 : decode cX12_word 49 = .ok (.goto (-22), 3) := by decide +kernel
theorem dX12_word_52 : decode cX12_word 52 = .ok (.iload_n 2, 1) := by decide +kernel
theorem dX12_word_53 : decode cX12_word 53 = .ok (.ifCond .ne 6, 3) := by decide +kernel
theorem dX12_word_56 : decode cX12_word 56 = .ok (.bipush (-3), 2) := by decide +kernel
theorem dX12_word_58 : decode cX12_word 58 = .ok (.ireturn, 1) := by decide +kernel
theorem dX12_word_59 : decode cX12_word 59 = .ok (.aload_n 0, 1) := by decide +kernel
theorem dX12_word_60 : decode cX12_word 60 = .ok (.aload_n 0, 1) := by decide +kernel
theorem dX12_word_61 : decode cX12_word 61 = .ok (.getfield 13, 3) := by decide +kernel
theorem dX12_word_64 : decode cX12_word 64 = .ok (.iconst 0, 1) := by decide +kernel
theorem dX12_word_65 : decode cX12_word 65 = .ok (.iload_n 1, 1) := by decide +kernel
theorem dX12_word_66 : decode cX12_word 66 = .ok (.invokevirtual 131, 3) := by decide +kernel
theorem dX12_word_69 : decode cX12_word 69 = .ok (.istore_n 3, 1) := by decide +kernel
theorem dX12_word_70 : decode cX12_word 70 = .ok (.iload_n 3, 1) := by decide +kernel
theorem dX12_word_71 : decode cX12_word 71 = .ok (.ifCond .ge 12, 3) := by decide +kernel
theorem dX12_word_74 : decode cX12_word 74 = .ok (.aload_n 0, 1) := by decide +kernel
theorem dX12_word_75 : decode cX12_word 75 = .ok (.getfield 122, 3) := by decide +kernel
theorem dX12_word_78 : decode cX12_word 78 = .ok (.bipush 16, 2) := by decide +kernel
theorem dX12_word_80 : decode cX12_word 80 = .ok (.if_icmp .ne 14, 3) := by decide +kernel
theorem dX12_word_83 : decode cX12_word 83 = .ok (.iload_n 3, 1) := by decide +kernel
theorem dX12_word_84 : decode cX12_word 84 = .ok (.ifCond .lt 7, 3) := by decide +kernel
theorem dX12_word_87 : decode cX12_word 87 = .ok (.iload_n 3, 1) := by decide +kernel
theorem dX12_word_88 : decode cX12_word 88 = .ok (.goto 5, 3) := by decide +kernel
theorem dX12_word_91 : decode cX12_word 91 = .ok (.bipush (-5), 2) := by decide +kernel
theorem dX12_word_93 : decode cX12_word 93 = .ok (.ireturn, 1) := by decide +kernel
theorem dX12_word_94 : decode cX12_word 94 = .ok (.iconst 0, 1) := by decide +kernel
theorem dX12_word_95 : decode cX12_word 95 = .ok (.istore 4, 2) := by decide +kernel
theorem dX12_word_97 : decode cX12_word 97 = .ok (.iload 4, 2) := by decide +kernel
theorem dX12_word_99 : decode cX12_word 99 = .ok (.iload_n 1, 1) := by decide +kernel
theorem dX12_word_100 : decode cX12_word 100 = .ok (.if_icmp .ge 31, 3) := by decide +kernel
theorem dX12_word_103 : decode cX12_word 103 = .ok (.aload_n 0, 1) := by decide +kernel
theorem dX12_word_104 : decode cX12_word 104 = .ok (.getfield 17, 3) := by decide +kernel
theorem dX12_word_107 : decode cX12_word 107 = .ok (.bipush 6, 2) := by decide +kernel
theorem dX12_word_109 : decode cX12_word 109 = .ok (.aload_n 0, 1) := by decide +kernel
theorem dX12_word_110 : decode cX12_word 110 = .ok (.getfield 122, 3) := by decide +kernel
theorem dX12_word_113 : decode cX12_word 113 = .ok (.imul, 1) := by decide +kernel
theorem dX12_word_114 : decode cX12_word 114 = .ok (.iload 4, 2) := by decide +kernel
theorem dX12_word_116 : decode cX12_word 116 = .ok (.iadd, 1) := by decide +kernel
theorem dX12_word_117 : decode cX12_word 117 = .ok (.aload_n 0, 1) := by decide +kernel
theorem dX12_word_118 : decode cX12_word 118 = .ok (.getfield 13, 3) := by decide +kernel
theorem dX12_word_121 : decode cX12_word 121 = .ok (.iload 4, 2) := by decide +kernel
theorem dX12_word_123 : decode cX12_word 123 = .ok (.iaload, 1) := by decide +kernel
theorem dX12_word_124 : decode cX12_word 124 = .ok (.iastore, 1) := by decide +kernel
theorem dX12_word_125 : decode cX12_word 125 = .ok (.iinc 4 1, 3) := by decide +kernel
theorem dX12_word_128 : decode cX12_word 128 = .ok (.goto (-31), 3) := by decide +kernel
theorem dX12_word_131 : decode cX12_word 131 = .ok (.aload_n 0, 1) := by decide +kernel
theorem dX12_word_132 : decode cX12_word 132 = .ok (.getfield 20, 3) := by decide +kernel
theorem dX12_word_135 : decode cX12_word 135 = .ok (.aload_n 0, 1) := by decide +kernel
theorem dX12_word_136 : decode cX12_word 136 = .ok (.getfield 122, 3) := by decide +kernel
theorem dX12_word_139 : decode cX12_word 139 = .ok (.iload_n 1, 1) := by decide +kernel
theorem dX12_word_140 : decode cX12_word 140 = .ok (.iastore, 1) := by decide +kernel
theorem dX12_word_141 : decode cX12_word 141 = .ok (.aload_n 0, 1) := by decide +kernel
theorem dX12_word_142 : decode cX12_word 142 = .ok (.dup, 1) := by decide +kernel
theorem dX12_word_143 : decode cX12_word 143 = .ok (.getfield 122, 3) := by decide +kernel
theorem dX12_word_146 : decode cX12_word 146 = .ok (.iconst 1, 1) := by decide +kernel
theorem dX12_word_147 : decode cX12_word 147 = .ok (.iadd, 1) := by decide +kernel
theorem dX12_word_148 : decode cX12_word 148 = .ok (.putfield 122, 3) := by decide +kernel
theorem dX12_word_151 : decode cX12_word 151 = .ok (.aload_n 0, 1) := by decide +kernel
theorem dX12_word_152 : decode cX12_word 152 = .ok (.getfield 122, 3) := by decide +kernel
theorem dX12_word_155 : decode cX12_word 155 = .ok (.iconst 1, 1) := by decide +kernel
theorem dX12_word_156 : decode cX12_word 156 = .ok (.isub, 1) := by decide +kernel
theorem dX12_word_157 : decode cX12_word 157 = .ok (.ireturn, 1) := by decide +kernel
theorem dX12_text_0 : decode cX12_text 0 = .ok (.aload_n 0, 1) := by decide +kernel
theorem dX12_text_1 : decode cX12_text 1 = .ok (.iconst 0, 1) := by decide +kernel
theorem dX12_text_2 : decode cX12_text 2 = .ok (.putfield 1, 3) := by decide +kernel
theorem dX12_text_5 : decode cX12_text 5 = .ok (.aload_n 0, 1) := by decide +kernel
theorem dX12_text_6 : decode cX12_text 6 = .ok (.getfield 109, 3) := by decide +kernel
theorem dX12_text_9 : decode cX12_text 9 = .ok (.istore_n 1, 1) := by decide +kernel
theorem dX12_text_10 : decode cX12_text 10 = .ok (.aload_n 0, 1) := by decide +kernel
theorem dX12_text_11 : decode cX12_text 11 = .ok (.iconst 0, 1) := by decide +kernel
theorem dX12_text_12 : decode cX12_text 12 = .ok (.putfield 109, 3) := by decide +kernel
theorem dX12_text_15 : decode cX12_text 15 = .ok (.iload_n 1, 1) := by decide +kernel
theorem dX12_text_16 : decode cX12_text 16 = .ok (.bipush 20, 2) := by decide +kernel
theorem dX12_text_18 : decode cX12_text 18 = .ok (.if_icmp .gt 7, 3) := by decide +kernel
theorem dX12_text_21 : decode cX12_text 21 = .ok (.iconst 1, 1) := by decide +kernel
theorem dX12_text_22 : decode cX12_text 22 = .ok (.goto 4, 3) := by decide +kernel
theorem dX12_text_25 : decode cX12_text 25 = .ok (.iconst 0, 1) := by decide +kernel
theorem dX12_text_26 : decode cX12_text 26 = .ok (.istore_n 2, 1) := by decide +kernel
theorem dX12_text_27 : decode cX12_text 27 = .ok (.iconst 0, 1) := by decide +kernel
theorem dX12_text_28 : decode cX12_text 28 = .ok (.istore_n 3, 1) := by decide +kernel
theorem dX12_text_29 : decode cX12_text 29 = .ok (.iload_n 3, 1) := by decide +kernel
theorem dX12_text_30 : decode cX12_text 30 = .ok (.iload_n 1, 1) := by decide +kernel
theorem dX12_text_31 : decode cX12_text 31 = .ok (.if_icmp .ge 23, 3) := by decide +kernel
theorem dX12_text_34 : decode cX12_text 34 = .ok (.iload_n 2, 1) := by decide +kernel
theorem dX12_text_35 : decode cX12_text 35 = .ok (.ifCond .eq 19, 3) := by decide +kernel
theorem dX12_text_38 : decode cX12_text 38 = .ok (.aload_n 0, 1) := by decide +kernel
theorem dX12_text_39 : decode cX12_text 39 = .ok (.getfield 13, 3) := by decide +kernel
theorem dX12_text_42 : decode cX12_text 42 = .ok (.iload_n 3, 1) := by decide +kernel
theorem dX12_text_43 : decode cX12_text 43 = .ok (.iaload, 1) := by decide +kernel
theorem dX12_text_44 : decode cX12_text 44 = .ok (.invokestatic 135, 3) := by decide +kernel
theorem dX12_text_47 : decode cX12_text 47 = .ok (.istore_n 2, 1) := by decide +kernel
theorem dX12_text_48 : decode cX12_text 48 = .ok (.iinc 3 1, 3) := by decide +kernel
theorem dX12_text_51 : decode cX12_text 51 = .ok (.goto (-22), 3) := by decide +kernel
theorem dX12_text_54 : decode cX12_text 54 = .ok (.iload_n 2, 1) := by decide +kernel
theorem dX12_text_55 : decode cX12_text 55 = .ok (.ifCond .ne 6, 3) := by decide +kernel
theorem dX12_text_58 : decode cX12_text 58 = .ok (.bipush (-3), 2) := by decide +kernel
theorem dX12_text_60 : decode cX12_text 60 = .ok (.ireturn, 1) := by decide +kernel
theorem dX12_text_61 : decode cX12_text 61 = .ok (.aload_n 0, 1) := by decide +kernel
theorem dX12_text_62 : decode cX12_text 62 = .ok (.getfield 138, 3) := by decide +kernel
theorem dX12_text_65 : decode cX12_text 65 = .ok (.bipush 24, 2) := by decide +kernel
theorem dX12_text_67 : decode cX12_text 67 = .ok (.if_icmp .ne 6, 3) := by decide +kernel
theorem dX12_text_70 : decode cX12_text 70 = .ok (.bipush (-5), 2) := by decide +kernel
theorem dX12_text_72 : decode cX12_text 72 = .ok (.ireturn, 1) := by decide +kernel
theorem dX12_text_73 : decode cX12_text 73 = .ok (.iconst 0, 1) := by decide +kernel
theorem dX12_text_74 : decode cX12_text 74 = .ok (.istore_n 3, 1) := by decide +kernel
theorem dX12_text_75 : decode cX12_text 75 = .ok (.iload_n 3, 1) := by decide +kernel
theorem dX12_text_76 : decode cX12_text 76 = .ok (.iload_n 1, 1) := by decide +kernel
theorem dX12_text_77 : decode cX12_text 77 = .ok (.if_icmp .ge 29, 3) := by decide +kernel
theorem dX12_text_80 : decode cX12_text 80 = .ok (.aload_n 0, 1) := by decide +kernel
theorem dX12_text_81 : decode cX12_text 81 = .ok (.getfield 23, 3) := by decide +kernel
theorem dX12_text_84 : decode cX12_text 84 = .ok (.bipush 20, 2) := by decide +kernel
theorem dX12_text_86 : decode cX12_text 86 = .ok (.aload_n 0, 1) := by decide +kernel
theorem dX12_text_87 : decode cX12_text 87 = .ok (.getfield 138, 3) := by decide +kernel
theorem dX12_text_90 : decode cX12_text 90 = .ok (.imul, 1) := by decide +kernel
theorem dX12_text_91 : decode cX12_text 91 = .ok (.iload_n 3, 1) := by decide +kernel
theorem dX12_text_92 : decode cX12_text 92 = .ok (.iadd, 1) := by decide +kernel
theorem dX12_text_93 : decode cX12_text 93 = .ok (.aload_n 0, 1) := by decide +kernel
theorem dX12_text_94 : decode cX12_text 94 = .ok (.getfield 13, 3) := by decide +kernel
theorem dX12_text_97 : decode cX12_text 97 = .ok (.iload_n 3, 1) := by decide +kernel
theorem dX12_text_98 : decode cX12_text 98 = .ok (.iaload, 1) := by decide +kernel
theorem dX12_text_99 : decode cX12_text 99 = .ok (.iastore, 1) := by decide +kernel
theorem dX12_text_100 : decode cX12_text 100 = .ok (.iinc 3 1, 3) := by decide +kernel
theorem dX12_text_103 : decode cX12_text 103 = .ok (.goto (-28), 3) := by decide +kernel
theorem dX12_text_106 : decode cX12_text 106 = .ok (.aload_n 0, 1) := by decide +kernel
theorem dX12_text_107 : decode cX12_text 107 = .ok (.getfield 26, 3) := by decide +kernel
theorem dX12_text_110 : decode cX12_text 110 = .ok (.aload_n 0, 1) := by decide +kernel
theorem dX12_text_111 : decode cX12_text 111 = .ok (.getfield 138, 3) := by decide +kernel
theorem dX12_text_114 : decode cX12_text 114 = .ok (.iload_n 1, 1) := by decide +kernel
theorem dX12_text_115 : decode cX12_text 115 = .ok (.iastore, 1) := by decide +kernel
theorem dX12_text_116 : decode cX12_text 116 = .ok (.aload_n 0, 1) := by decide +kernel
theorem dX12_text_117 : decode cX12_text 117 = .ok (.dup, 1) := by decide +kernel
theorem dX12_text_118 : decode cX12_text 118 = .ok (.getfield 138, 3) := by decide +kernel
theorem dX12_text_121 : decode cX12_text 121 = .ok (.iconst 1, 1) := by decide +kernel
theorem dX12_text_122 : decode cX12_text 122 = .ok (.iadd, 1) := by decide +kernel
theorem dX12_text_123 : decode cX12_text 123 = .ok (.putfield 138, 3) := by decide +kernel
theorem dX12_text_126 : decode cX12_text 126 = .ok (.aload_n 0, 1) := by decide +kernel
theorem dX12_text_127 : decode cX12_text 127 = .ok (.getfield 138, 3) := by decide +kernel
theorem dX12_text_130 : decode cX12_text 130 = .ok (.iconst 1, 1) := by decide +kernel
theorem dX12_text_131 : decode cX12_text 131 = .ok (.isub, 1) := by decide +kernel
theorem dX12_text_132 : decode cX12_text 132 = .ok (.ireturn, 1) := by decide +kernel
theorem dX12_actFits_0 : decode cX12_actFits 0 = .ok (.iload_n 0, 1) := by decide +kernel
theorem dX12_actFits_1 : decode cX12_actFits 1 = .ok (.tableswitch 187 0 6 #[43, 45, 77, 107, 137, 147, 177], 43) := by decide +kernel
theorem dX12_actFits_44 : decode cX12_actFits 44 = .ok (.iconst 1, 1) := by decide +kernel
theorem dX12_actFits_45 : decode cX12_actFits 45 = .ok (.ireturn, 1) := by decide +kernel
theorem dX12_actFits_46 : decode cX12_actFits 46 = .ok (.iload_n 1, 1) := by decide +kernel
theorem dX12_actFits_47 : decode cX12_actFits 47 = .ok (.i2l, 1) := by decide +kernel
theorem dX12_actFits_48 : decode cX12_actFits 48 = .ok (.lconst 0, 1) := by decide +kernel
theorem dX12_actFits_49 : decode cX12_actFits 49 = .ok (.ldc2_w 141, 3) := by decide +kernel
theorem dX12_actFits_52 : decode cX12_actFits 52 = .ok (.invokestatic 105, 3) := by decide +kernel
theorem dX12_actFits_55 : decode cX12_actFits 55 = .ok (.ifCond .eq 21, 3) := by decide +kernel
theorem dX12_actFits_58 : decode cX12_actFits 58 = .ok (.iload_n 2, 1) := by decide +kernel
theorem dX12_actFits_59 : decode cX12_actFits 59 = .ok (.i2l, 1) := by decide +kernel
theorem dX12_actFits_60 : decode cX12_actFits 60 = .ok (.ldc2_w 143, 3) := by decide +kernel
theorem dX12_actFits_63 : decode cX12_actFits 63 = .ok (.ldc2_w 145, 3) := by decide +kernel
theorem dX12_actFits_66 : decode cX12_actFits 66 = .ok (.invokestatic 105, 3) := by decide +kernel
theorem dX12_actFits_69 : decode cX12_actFits 69 = .ok (.ifCond .eq 7, 3) := by decide +kernel
theorem dX12_actFits_72 : decode cX12_actFits 72 = .ok (.iconst 1, 1) := by decide +kernel
theorem dX12_actFits_73 : decode cX12_actFits 73 = .ok (.goto 4, 3) := by decide +kernel
theorem dX12_actFits_76 : decode cX12_actFits 76 = .ok (.iconst 0, 1) := by decide +kernel
theorem dX12_actFits_77 : decode cX12_actFits 77 = .ok (.ireturn, 1) := by decide +kernel
theorem dX12_actFits_78 : decode cX12_actFits 78 = .ok (.iload_n 1, 1) := by decide +kernel
theorem dX12_actFits_79 : decode cX12_actFits 79 = .ok (.i2l, 1) := by decide +kernel
theorem dX12_actFits_80 : decode cX12_actFits 80 = .ok (.lconst 0, 1) := by decide +kernel
theorem dX12_actFits_81 : decode cX12_actFits 81 = .ok (.ldc2_w 141, 3) := by decide +kernel
theorem dX12_actFits_84 : decode cX12_actFits 84 = .ok (.invokestatic 105, 3) := by decide +kernel
theorem dX12_actFits_87 : decode cX12_actFits 87 = .ok (.ifCond .eq 19, 3) := by decide +kernel
theorem dX12_actFits_90 : decode cX12_actFits 90 = .ok (.iload_n 2, 1) := by decide +kernel
theorem dX12_actFits_91 : decode cX12_actFits 91 = .ok (.i2l, 1) := by decide +kernel
theorem dX12_actFits_92 : decode cX12_actFits 92 = .ok (.lconst 0, 1) := by decide +kernel
theorem dX12_actFits_93 : decode cX12_actFits 93 = .ok (.ldc2_w 141, 3) := by decide +kernel
theorem dX12_actFits_96 : decode cX12_actFits 96 = .ok (.invokestatic 105, 3) := by decide +kernel
theorem dX12_actFits_99 : decode cX12_actFits 99 = .ok (.ifCond .eq 7, 3) := by decide +kernel
theorem dX12_actFits_102 : decode cX12_actFits 102 = .ok (.iconst 1, 1) := by decide +kernel
theorem dX12_actFits_103 : decode cX12_actFits 103 = .ok (.goto 4, 3) := by decide +kernel
theorem dX12_actFits_106 : decode cX12_actFits 106 = .ok (.iconst 0, 1) := by decide +kernel
theorem dX12_actFits_107 : decode cX12_actFits 107 = .ok (.ireturn, 1) := by decide +kernel
theorem dX12_actFits_108 : decode cX12_actFits 108 = .ok (.iload_n 1, 1) := by decide +kernel
theorem dX12_actFits_109 : decode cX12_actFits 109 = .ok (.i2l, 1) := by decide +kernel
theorem dX12_actFits_110 : decode cX12_actFits 110 = .ok (.lconst 0, 1) := by decide +kernel
theorem dX12_actFits_111 : decode cX12_actFits 111 = .ok (.ldc2_w 147, 3) := by decide +kernel
theorem dX12_actFits_114 : decode cX12_actFits 114 = .ok (.invokestatic 105, 3) := by decide +kernel
theorem dX12_actFits_117 : decode cX12_actFits 117 = .ok (.ifCond .eq 19, 3) := by decide +kernel
theorem dX12_actFits_120 : decode cX12_actFits 120 = .ok (.iload_n 2, 1) := by decide +kernel
theorem dX12_actFits_121 : decode cX12_actFits 121 = .ok (.i2l, 1) := by decide +kernel
theorem dX12_actFits_122 : decode cX12_actFits 122 = .ok (.lconst 0, 1) := by decide +kernel
theorem dX12_actFits_123 : decode cX12_actFits 123 = .ok (.ldc2_w 141, 3) := by decide +kernel
theorem dX12_actFits_126 : decode cX12_actFits 126 = .ok (.invokestatic 105, 3) := by decide +kernel
theorem dX12_actFits_129 : decode cX12_actFits 129 = .ok (.ifCond .eq 7, 3) := by decide +kernel
theorem dX12_actFits_132 : decode cX12_actFits 132 = .ok (.iconst 1, 1) := by decide +kernel
theorem dX12_actFits_133 : decode cX12_actFits 133 = .ok (.goto 4, 3) := by decide +kernel
theorem dX12_actFits_136 : decode cX12_actFits 136 = .ok (.iconst 0, 1) := by decide +kernel
theorem dX12_actFits_137 : decode cX12_actFits 137 = .ok (.ireturn, 1) := by decide +kernel
theorem dX12_actFits_138 : decode cX12_actFits 138 = .ok (.iload_n 1, 1) := by decide +kernel
theorem dX12_actFits_139 : decode cX12_actFits 139 = .ok (.i2l, 1) := by decide +kernel
theorem dX12_actFits_140 : decode cX12_actFits 140 = .ok (.lconst 0, 1) := by decide +kernel
theorem dX12_actFits_141 : decode cX12_actFits 141 = .ok (.ldc2_w 147, 3) := by decide +kernel
theorem dX12_actFits_144 : decode cX12_actFits 144 = .ok (.invokestatic 105, 3) := by decide +kernel
theorem dX12_actFits_147 : decode cX12_actFits 147 = .ok (.ireturn, 1) := by decide +kernel
theorem dX12_actFits_148 : decode cX12_actFits 148 = .ok (.iload_n 1, 1) := by decide +kernel
theorem dX12_actFits_149 : decode cX12_actFits 149 = .ok (.i2l, 1) := by decide +kernel
theorem dX12_actFits_150 : decode cX12_actFits 150 = .ok (.lconst 0, 1) := by decide +kernel
theorem dX12_actFits_151 : decode cX12_actFits 151 = .ok (.ldc2_w 141, 3) := by decide +kernel
theorem dX12_actFits_154 : decode cX12_actFits 154 = .ok (.invokestatic 105, 3) := by decide +kernel
theorem dX12_actFits_157 : decode cX12_actFits 157 = .ok (.ifCond .eq 19, 3) := by decide +kernel
theorem dX12_actFits_160 : decode cX12_actFits 160 = .ok (.iload_n 2, 1) := by decide +kernel
theorem dX12_actFits_161 : decode cX12_actFits 161 = .ok (.i2l, 1) := by decide +kernel
theorem dX12_actFits_162 : decode cX12_actFits 162 = .ok (.lconst 1, 1) := by decide +kernel
theorem dX12_actFits_163 : decode cX12_actFits 163 = .ok (.ldc2_w 149, 3) := by decide +kernel
theorem dX12_actFits_166 : decode cX12_actFits 166 = .ok (.invokestatic 105, 3) := by decide +kernel
theorem dX12_actFits_169 : decode cX12_actFits 169 = .ok (.ifCond .eq 7, 3) := by decide +kernel
theorem dX12_actFits_172 : decode cX12_actFits 172 = .ok (.iconst 1, 1) := by decide +kernel
theorem dX12_actFits_173 : decode cX12_actFits 173 = .ok (.goto 4, 3) := by decide +kernel
theorem dX12_actFits_176 : decode cX12_actFits 176 = .ok (.iconst 0, 1) := by decide +kernel
theorem dX12_actFits_177 : decode cX12_actFits 177 = .ok (.ireturn, 1) := by decide +kernel
theorem dX12_actFits_178 : decode cX12_actFits 178 = .ok (.iload_n 1, 1) := by decide +kernel
theorem dX12_actFits_179 : decode cX12_actFits 179 = .ok (.i2l, 1) := by decide +kernel
theorem dX12_actFits_180 : decode cX12_actFits 180 = .ok (.lconst 1, 1) := by decide +kernel
theorem dX12_actFits_181 : decode cX12_actFits 181 = .ok (.ldc2_w 151, 3) := by decide +kernel
theorem dX12_actFits_184 : decode cX12_actFits 184 = .ok (.invokestatic 105, 3) := by decide +kernel
theorem dX12_actFits_187 : decode cX12_actFits 187 = .ok (.ireturn, 1) := by decide +kernel
theorem dX12_actFits_188 : decode cX12_actFits 188 = .ok (.iconst 0, 1) := by decide +kernel
theorem dX12_actFits_189 : decode cX12_actFits 189 = .ok (.ireturn, 1) := by decide +kernel
theorem dX12_rule_0 : decode cX12_rule 0 = .ok (.aload_n 0, 1) := by decide +kernel
theorem dX12_rule_1 : decode cX12_rule 1 = .ok (.iconst 0, 1) := by decide +kernel
theorem dX12_rule_2 : decode cX12_rule 2 = .ok (.putfield 1, 3) := by decide +kernel
theorem dX12_rule_5 : decode cX12_rule 5 = .ok (.iload_n 2, 1) := by decide +kernel
theorem dX12_rule_6 : decode cX12_rule 6 = .ok (.i2l, 1) := by decide +kernel
theorem dX12_rule_7 : decode cX12_rule 7 = .ok (.lconst 0, 1) := by decide +kernel
theorem dX12_rule_8 : decode cX12_rule 8 = .ok (.aload_n 0, 1) := by decide +kernel
theorem dX12_rule_9 : decode cX12_rule 9 = .ok (.getfield 122, 3) := by decide +kernel
theorem dX12_rule_12 : decode cX12_rule 12 = .ok (.iconst 1, 1) := by decide +kernel
theorem dX12_rule_13 : decode cX12_rule 13 = .ok (.isub, 1) := by decide +kernel
theorem dX12_rule_14 : decode cX12_rule 14 = .ok (.i2l, 1) := by decide +kernel
theorem dX12_rule_15 : decode cX12_rule 15 = .ok (.invokestatic 105, 3) := by decide +kernel
theorem dX12_rule_18 : decode cX12_rule 18 = .ok (.ifCond .eq 20, 3) := by decide +kernel
theorem dX12_rule_21 : decode cX12_rule 21 = .ok (.iload 8, 2) := by decide +kernel
theorem dX12_rule_23 : decode cX12_rule 23 = .ok (.i2l, 1) := by decide +kernel
theorem dX12_rule_24 : decode cX12_rule 24 = .ok (.lconst 0, 1) := by decide +kernel
theorem dX12_rule_25 : decode cX12_rule 25 = .ok (.aload_n 0, 1) := by decide +kernel
theorem dX12_rule_26 : decode cX12_rule 26 = .ok (.getfield 138, 3) := by decide +kernel
theorem dX12_rule_29 : decode cX12_rule 29 = .ok (.iconst 1, 1) := by decide +kernel
theorem dX12_rule_30 : decode cX12_rule 30 = .ok (.isub, 1) := by decide +kernel
theorem dX12_rule_31 : decode cX12_rule 31 = .ok (.i2l, 1) := by decide +kernel
theorem dX12_rule_32 : decode cX12_rule 32 = .ok (.invokestatic 105, 3) := by decide +kernel
theorem dX12_rule_35 : decode cX12_rule 35 = .ok (.ifCond .ne 6, 3) := by decide +kernel
theorem dX12_rule_38 : decode cX12_rule 38 = .ok (.bipush (-2), 2) := by decide +kernel
theorem dX12_rule_40 : decode cX12_rule 40 = .ok (.ireturn, 1) := by decide +kernel
theorem dX12_rule_41 : decode cX12_rule 41 = .ok (.iload_n 1, 1) := by decide +kernel
theorem dX12_rule_42 : decode cX12_rule 42 = .ok (.i2l, 1) := by decide +kernel
theorem dX12_rule_43 : decode cX12_rule 43 = .ok (.ldc2_w 153, 3) := by decide +kernel
theorem dX12_rule_46 : decode cX12_rule 46 = .ok (.ldc2_w 141, 3) := by decide +kernel
theorem dX12_rule_49 : decode cX12_rule 49 = .ok (.invokestatic 105, 3) := by decide +kernel
theorem dX12_rule_52 : decode cX12_rule 52 = .ok (.ifCond .eq 44, 3) := by decide +kernel
theorem dX12_rule_55 : decode cX12_rule 55 = .ok (.iload 9, 2) := by decide +kernel
theorem dX12_rule_57 : decode cX12_rule 57 = .ok (.i2l, 1) := by decide +kernel
theorem dX12_rule_58 : decode cX12_rule 58 = .ok (.ldc2_w 153, 3) := by decide +kernel
theorem dX12_rule_61 : decode cX12_rule 61 = .ok (.ldc2_w 141, 3) := by decide +kernel
theorem dX12_rule_64 : decode cX12_rule 64 = .ok (.invokestatic 105, 3) := by decide +kernel
theorem dX12_rule_67 : decode cX12_rule 67 = .ok (.ifCond .eq 29, 3) := by decide +kernel
theorem dX12_rule_70 : decode cX12_rule 70 = .ok (.iload_n 3, 1) := by decide +kernel
theorem dX12_rule_71 : decode cX12_rule 71 = .ok (.i2l, 1) := by decide +kernel
theorem dX12_rule_72 : decode cX12_rule 72 = .ok (.ldc2_w 153, 3) := by decide +kernel
theorem dX12_rule_75 : decode cX12_rule 75 = .ok (.ldc2_w 141, 3) := by decide +kernel
theorem dX12_rule_78 : decode cX12_rule 78 = .ok (.invokestatic 105, 3) := by decide +kernel
theorem dX12_rule_81 : decode cX12_rule 81 = .ok (.ifCond .eq 15, 3) := by decide +kernel
theorem dX12_rule_84 : decode cX12_rule 84 = .ok (.iload 5, 2) := by decide +kernel
theorem dX12_rule_86 : decode cX12_rule 86 = .ok (.iload 6, 2) := by decide +kernel
theorem dX12_rule_88 : decode cX12_rule 88 = .ok (.iload 7, 2) := by decide +kernel
theorem dX12_rule_90 : decode cX12_rule 90 = .ok (.invokestatic 155, 3) := by decide +kernel
theorem dX12_rule_93 : decode cX12_rule 93 = .ok (.ifCond .ne 6, 3) := by decide +kernel
theorem dX12_rule_96 : decode cX12_rule 96 = .ok (.bipush (-3), 2) := by decide +kernel
theorem dX12_rule_98 : decode cX12_rule 98 = .ok (.ireturn, 1) := by decide +kernel
theorem dX12_rule_99 : decode cX12_rule 99 = .ok (.aload_n 0, 1) := by decide +kernel
theorem dX12_rule_100 : decode cX12_rule 100 = .ok (.getfield 159, 3) := by decide +kernel
theorem dX12_rule_103 : decode cX12_rule 103 = .ok (.bipush 30, 2) := by decide +kernel
theorem dX12_rule_105 : decode cX12_rule 105 = .ok (.if_icmp .ne 6, 3) := by decide +kernel
theorem dX12_rule_108 : decode cX12_rule 108 = .ok (.bipush (-5), 2) := by decide +kernel
theorem dX12_rule_110 : decode cX12_rule 110 = .ok (.ireturn, 1) := by decide +kernel
theorem dX12_rule_111 : decode cX12_rule 111 = .ok (.aload_n 0, 1) := by decide +kernel
theorem dX12_rule_112 : decode cX12_rule 112 = .ok (.getfield 159, 3) := by decide +kernel
theorem dX12_rule_115 : decode cX12_rule 115 = .ok (.istore 10, 2) := by decide +kernel
theorem dX12_rule_117 : decode cX12_rule 117 = .ok (.aload_n 0, 1) := by decide +kernel
theorem dX12_rule_118 : decode cX12_rule 118 = .ok (.dup, 1) := by decide +kernel
theorem dX12_rule_119 : decode cX12_rule 119 = .ok (.getfield 159, 3) := by decide +kernel
theorem dX12_rule_122 : decode cX12_rule 122 = .ok (.iconst 1, 1) := by decide +kernel
theorem dX12_rule_123 : decode cX12_rule 123 = .ok (.iadd, 1) := by decide +kernel
theorem dX12_rule_124 : decode cX12_rule 124 = .ok (.putfield 159, 3) := by decide +kernel
theorem dX12_rule_127 : decode cX12_rule 127 = .ok (.aload_n 0, 1) := by decide +kernel
theorem dX12_rule_128 : decode cX12_rule 128 = .ok (.getfield 29, 3) := by decide +kernel
theorem dX12_rule_131 : decode cX12_rule 131 = .ok (.iload 10, 2) := by decide +kernel
theorem dX12_rule_133 : decode cX12_rule 133 = .ok (.iload_n 1, 1) := by decide +kernel
theorem dX12_rule_134 : decode cX12_rule 134 = .ok (.iastore, 1) := by decide +kernel
theorem dX12_rule_135 : decode cX12_rule 135 = .ok (.aload_n 0, 1) := by decide +kernel
theorem dX12_rule_136 : decode cX12_rule 136 = .ok (.getfield 32, 3) := by decide +kernel
theorem dX12_rule_139 : decode cX12_rule 139 = .ok (.iload 10, 2) := by decide +kernel
theorem dX12_rule_141 : decode cX12_rule 141 = .ok (.iload_n 2, 1) := by decide +kernel
theorem dX12_rule_142 : decode cX12_rule 142 = .ok (.iastore, 1) := by decide +kernel
theorem dX12_rule_143 : decode cX12_rule 143 = .ok (.aload_n 0, 1) := by decide +kernel
theorem dX12_rule_144 : decode cX12_rule 144 = .ok (.getfield 35, 3) := by decide +kernel
theorem dX12_rule_147 : decode cX12_rule 147 = .ok (.iload 10, 2) := by decide +kernel
theorem dX12_rule_149 : decode cX12_rule 149 = .ok (.iload_n 3, 1) := by decide +kernel
theorem dX12_rule_150 : decode cX12_rule 150 = .ok (.iastore, 1) := by decide +kernel
theorem dX12_rule_151 : decode cX12_rule 151 = .ok (.aload_n 0, 1) := by decide +kernel
theorem dX12_rule_152 : decode cX12_rule 152 = .ok (.getfield 38, 3) := by decide +kernel
theorem dX12_rule_155 : decode cX12_rule 155 = .ok (.iload 10, 2) := by decide +kernel
theorem dX12_rule_157 : decode cX12_rule 157 = .ok (.iload 4, 2) := by decide +kernel
theorem dX12_rule_159 : decode cX12_rule 159 = .ok (.iastore, 1) := by decide +kernel
theorem dX12_rule_160 : decode cX12_rule 160 = .ok (.aload_n 0, 1) := by decide +kernel
theorem dX12_rule_161 : decode cX12_rule 161 = .ok (.getfield 41, 3) := by decide +kernel
theorem dX12_rule_164 : decode cX12_rule 164 = .ok (.iload 10, 2) := by decide +kernel
theorem dX12_rule_166 : decode cX12_rule 166 = .ok (.iload 5, 2) := by decide +kernel
theorem dX12_rule_168 : decode cX12_rule 168 = .ok (.iastore, 1) := by decide +kernel
theorem dX12_rule_169 : decode cX12_rule 169 = .ok (.aload_n 0, 1) := by decide +kernel
theorem dX12_rule_170 : decode cX12_rule 170 = .ok (.getfield 44, 3) := by decide +kernel
theorem dX12_rule_173 : decode cX12_rule 173 = .ok (.iload 10, 2) := by decide +kernel
theorem dX12_rule_175 : decode cX12_rule 175 = .ok (.iload 6, 2) := by decide +kernel
theorem dX12_rule_177 : decode cX12_rule 177 = .ok (.iastore, 1) := by decide +kernel
theorem dX12_rule_178 : decode cX12_rule 178 = .ok (.aload_n 0, 1) := by decide +kernel
theorem dX12_rule_179 : decode cX12_rule 179 = .ok (.getfield 47, 3) := by decide +kernel
theorem dX12_rule_182 : decode cX12_rule 182 = .ok (.iload 10, 2) := by decide +kernel
theorem dX12_rule_184 : decode cX12_rule 184 = .ok (.iload 7, 2) := by decide +kernel
theorem dX12_rule_186 : decode cX12_rule 186 = .ok (.iastore, 1) := by decide +kernel
theorem dX12_rule_187 : decode cX12_rule 187 = .ok (.aload_n 0, 1) := by decide +kernel
theorem dX12_rule_188 : decode cX12_rule 188 = .ok (.getfield 50, 3) := by decide +kernel
theorem dX12_rule_191 : decode cX12_rule 191 = .ok (.iload 10, 2) := by decide +kernel
theorem dX12_rule_193 : decode cX12_rule 193 = .ok (.iload 8, 2) := by decide +kernel
theorem dX12_rule_195 : decode cX12_rule 195 = .ok (.iastore, 1) := by decide +kernel
theorem dX12_rule_196 : decode cX12_rule 196 = .ok (.aload_n 0, 1) := by decide +kernel
theorem dX12_rule_197 : decode cX12_rule 197 = .ok (.getfield 53, 3) := by decide +kernel
theorem dX12_rule_200 : decode cX12_rule 200 = .ok (.iload 10, 2) := by decide +kernel
theorem dX12_rule_202 : decode cX12_rule 202 = .ok (.iload 9, 2) := by decide +kernel
theorem dX12_rule_204 : decode cX12_rule 204 = .ok (.iastore, 1) := by decide +kernel
theorem dX12_rule_205 : decode cX12_rule 205 = .ok (.iload 10, 2) := by decide +kernel
theorem dX12_rule_207 : decode cX12_rule 207 = .ok (.ireturn, 1) := by decide +kernel
theorem dX12_holder_0 : decode cX12_holder 0 = .ok (.aload_n 0, 1) := by decide +kernel
theorem dX12_holder_1 : decode cX12_holder 1 = .ok (.iconst 0, 1) := by decide +kernel
theorem dX12_holder_2 : decode cX12_holder 2 = .ok (.putfield 1, 3) := by decide +kernel
theorem dX12_holder_5 : decode cX12_holder 5 = .ok (.iload_n 1, 1) := by decide +kernel
theorem dX12_holder_6 : decode cX12_holder 6 = .ok (.i2l, 1) := by decide +kernel
theorem dX12_holder_7 : decode cX12_holder 7 = .ok (.lconst 0, 1) := by decide +kernel
theorem dX12_holder_8 : decode cX12_holder 8 = .ok (.ldc2_w 147, 3) := by decide +kernel
theorem dX12_holder_11 : decode cX12_holder 11 = .ok (.invokestatic 105, 3) := by decide +kernel
theorem dX12_holder_14 : decode cX12_holder 14 = .ok (.ifCond .ne 6, 3) := by decide +kernel
theorem dX12_holder_17 : decode cX12_holder 17 = .ok (.bipush (-2), 2) := by decide +kernel
theorem dX12_holder_19 : decode cX12_holder 19 = .ok (.ireturn, 1) := by decide +kernel
theorem dX12_holder_20 : decode cX12_holder 20 = .ok (.iload_n 2, 1) := by decide +kernel
theorem dX12_holder_21 : decode cX12_holder 21 = .ok (.i2l, 1) := by decide +kernel
theorem dX12_holder_22 : decode cX12_holder 22 = .ok (.lconst 0, 1) := by decide +kernel
theorem dX12_holder_23 : decode cX12_holder 23 = .ok (.ldc2_w 162, 3) := by decide +kernel
theorem dX12_holder_26 : decode cX12_holder 26 = .ok (.invokestatic 105, 3) := by decide +kernel
theorem dX12_holder_29 : decode cX12_holder 29 = .ok (.ifCond .eq 20, 3) := by decide +kernel
theorem dX12_holder_32 : decode cX12_holder 32 = .ok (.iload_n 2, 1) := by decide +kernel
theorem dX12_holder_33 : decode cX12_holder 33 = .ok (.iconst 2, 1) := by decide +kernel
theorem dX12_holder_34 : decode cX12_holder 34 = .ok (.if_icmp .ne 18, 3) := by decide +kernel
theorem dX12_holder_37 : decode cX12_holder 37 = .ok (.iload_n 3, 1) := by decide +kernel
theorem dX12_holder_38 : decode cX12_holder 38 = .ok (.i2l, 1) := by decide +kernel
theorem dX12_holder_39 : decode cX12_holder 39 = .ok (.lconst 1, 1) := by decide +kernel
theorem dX12_holder_40 : decode cX12_holder 40 = .ok (.ldc2_w 164, 3) := by decide +kernel
theorem dX12_holder_43 : decode cX12_holder 43 = .ok (.invokestatic 105, 3) := by decide +kernel
theorem dX12_holder_46 : decode cX12_holder 46 = .ok (.ifCond .ne 6, 3) := by decide +kernel
theorem dX12_holder_49 : decode cX12_holder 49 = .ok (.bipush (-3), 2) := by decide +kernel
theorem dX12_holder_51 : decode cX12_holder 51 = .ok (.ireturn, 1) := by decide +kernel
theorem dX12_holder_52 : decode cX12_holder 52 = .ok (.aload_n 0, 1) := by decide +kernel
theorem dX12_holder_53 : decode cX12_holder 53 = .ok (.getfield 62, 3) := by decide +kernel
theorem dX12_holder_56 : decode cX12_holder 56 = .ok (.iload_n 1, 1) := by decide +kernel
theorem dX12_holder_57 : decode cX12_holder 57 = .ok (.iload_n 2, 1) := by decide +kernel
theorem dX12_holder_58 : decode cX12_holder 58 = .ok (.iastore, 1) := by decide +kernel
theorem dX12_holder_59 : decode cX12_holder 59 = .ok (.aload_n 0, 1) := by decide +kernel
theorem dX12_holder_60 : decode cX12_holder 60 = .ok (.getfield 65, 3) := by decide +kernel
theorem dX12_holder_63 : decode cX12_holder 63 = .ok (.iload_n 1, 1) := by decide +kernel
theorem dX12_holder_64 : decode cX12_holder 64 = .ok (.iload_n 3, 1) := by decide +kernel
theorem dX12_holder_65 : decode cX12_holder 65 = .ok (.iastore, 1) := by decide +kernel
theorem dX12_holder_66 : decode cX12_holder 66 = .ok (.aload_n 0, 1) := by decide +kernel
theorem dX12_holder_67 : decode cX12_holder 67 = .ok (.getfield 68, 3) := by decide +kernel
theorem dX12_holder_70 : decode cX12_holder 70 = .ok (.iload_n 1, 1) := by decide +kernel
theorem dX12_holder_71 : decode cX12_holder 71 = .ok (.iload 4, 2) := by decide +kernel
theorem dX12_holder_73 : decode cX12_holder 73 = .ok (.iastore, 1) := by decide +kernel
theorem dX12_holder_74 : decode cX12_holder 74 = .ok (.iconst 1, 1) := by decide +kernel
theorem dX12_holder_75 : decode cX12_holder 75 = .ok (.ireturn, 1) := by decide +kernel
theorem dX12_seed_0 : decode cX12_seed 0 = .ok (.aload_n 0, 1) := by decide +kernel
theorem dX12_seed_1 : decode cX12_seed 1 = .ok (.iconst 0, 1) := by decide +kernel
theorem dX12_seed_2 : decode cX12_seed 2 = .ok (.putfield 1, 3) := by decide +kernel
theorem dX12_seed_5 : decode cX12_seed 5 = .ok (.aload_n 0, 1) := by decide +kernel
theorem dX12_seed_6 : decode cX12_seed 6 = .ok (.getfield 97, 3) := by decide +kernel
theorem dX12_seed_9 : decode cX12_seed 9 = .ok (.istore_n 2, 1) := by decide +kernel
theorem dX12_seed_10 : decode cX12_seed 10 = .ok (.aload_n 0, 1) := by decide +kernel
theorem dX12_seed_11 : decode cX12_seed 11 = .ok (.iload_n 1, 1) := by decide +kernel
theorem dX12_seed_12 : decode cX12_seed 12 = .ok (.putfield 97, 3) := by decide +kernel
theorem dX12_seed_15 : decode cX12_seed 15 = .ok (.iload_n 2, 1) := by decide +kernel
theorem dX12_seed_16 : decode cX12_seed 16 = .ok (.ireturn, 1) := by decide +kernel
theorem dX12_begin_0 : decode cX12_begin 0 = .ok (.iconst 0, 1) := by decide +kernel
theorem dX12_begin_1 : decode cX12_begin 1 = .ok (.istore_n 1, 1) := by decide +kernel
theorem dX12_begin_2 : decode cX12_begin 2 = .ok (.iload_n 1, 1) := by decide +kernel
theorem dX12_begin_3 : decode cX12_begin 3 = .ok (.bipush 12, 2) := by decide +kernel
theorem dX12_begin_5 : decode cX12_begin 5 = .ok (.if_icmp .ge 16, 3) := by decide +kernel
theorem dX12_begin_8 : decode cX12_begin 8 = .ok (.aload_n 0, 1) := by decide +kernel
theorem dX12_begin_9 : decode cX12_begin 9 = .ok (.getfield 75, 3) := by decide +kernel
theorem dX12_begin_12 : decode cX12_begin 12 = .ok (.iload_n 1, 1) := by decide +kernel
theorem dX12_begin_13 : decode cX12_begin 13 = .ok (.iconst 0, 1) := by decide +kernel
theorem dX12_begin_14 : decode cX12_begin 14 = .ok (.iastore, 1) := by decide +kernel
theorem dX12_begin_15 : decode cX12_begin 15 = .ok (.iinc 1 1, 3) := by decide +kernel
theorem dX12_begin_18 : decode cX12_begin 18 = .ok (.goto (-16), 3) := by decide +kernel
theorem dX12_begin_21 : decode cX12_begin 21 = .ok (.aload_n 0, 1) := by decide +kernel
theorem dX12_begin_22 : decode cX12_begin 22 = .ok (.getfield 75, 3) := by decide +kernel
theorem dX12_begin_25 : decode cX12_begin 25 = .ok (.iconst 2, 1) := by decide +kernel
theorem dX12_begin_26 : decode cX12_begin 26 = .ok (.aload_n 0, 1) := by decide +kernel
theorem dX12_begin_27 : decode cX12_begin 27 = .ok (.getfield 97, 3) := by decide +kernel
theorem dX12_begin_30 : decode cX12_begin 30 = .ok (.iastore, 1) := by decide +kernel
theorem dX12_begin_31 : decode cX12_begin 31 = .ok (.aload_n 0, 1) := by decide +kernel
theorem dX12_begin_32 : decode cX12_begin 32 = .ok (.getfield 75, 3) := by decide +kernel
theorem dX12_begin_35 : decode cX12_begin 35 = .ok (.iconst 3, 1) := by decide +kernel
theorem dX12_begin_36 : decode cX12_begin 36 = .ok (.bipush (-2), 2) := by decide +kernel
theorem dX12_begin_38 : decode cX12_begin 38 = .ok (.iastore, 1) := by decide +kernel
theorem dX12_begin_39 : decode cX12_begin 39 = .ok (.iconst 1, 1) := by decide +kernel
theorem dX12_begin_40 : decode cX12_begin 40 = .ok (.istore_n 1, 1) := by decide +kernel
theorem dX12_begin_41 : decode cX12_begin 41 = .ok (.iload_n 1, 1) := by decide +kernel
theorem dX12_begin_42 : decode cX12_begin 42 = .ok (.iconst 5, 1) := by decide +kernel
theorem dX12_begin_43 : decode cX12_begin 43 = .ok (.if_icmp .ge 16, 3) := by decide +kernel
theorem dX12_begin_46 : decode cX12_begin 46 = .ok (.aload_n 0, 1) := by decide +kernel
theorem dX12_begin_47 : decode cX12_begin 47 = .ok (.getfield 78, 3) := by decide +kernel
theorem dX12_begin_50 : decode cX12_begin 50 = .ok (.iload_n 1, 1) := by decide +kernel
theorem dX12_begin_51 : decode cX12_begin 51 = .ok (.iconst 0, 1) := by decide +kernel
theorem dX12_begin_52 : decode cX12_begin 52 = .ok (.bastore, 1) := by decide +kernel
theorem dX12_begin_53 : decode cX12_begin 53 = .ok (.iinc 1 1, 3) := by decide +kernel
theorem dX12_begin_56 : decode cX12_begin 56 = .ok (.goto (-15), 3) := by decide +kernel
theorem dX12_begin_59 : decode cX12_begin 59 = .ok (.return_, 1) := by decide +kernel
theorem dX12_copy_0 : decode cX12_copy 0 = .ok (.iconst 0, 1) := by decide +kernel
theorem dX12_copy_1 : decode cX12_copy 1 = .ok (.istore_n 3, 1) := by decide +kernel
theorem dX12_copy_2 : decode cX12_copy 2 = .ok (.iload_n 3, 1) := by decide +kernel
theorem dX12_copy_3 : decode cX12_copy 3 = .ok (.bipush 12, 2) := by decide +kernel
theorem dX12_copy_5 : decode cX12_copy 5 = .ok (.if_icmp .ge 31, 3) := by decide +kernel
theorem dX12_copy_8 : decode cX12_copy 8 = .ok (.aload_n 0, 1) := by decide +kernel
theorem dX12_copy_9 : decode cX12_copy 9 = .ok (.getfield 75, 3) := by decide +kernel
theorem dX12_copy_12 : decode cX12_copy 12 = .ok (.bipush 12, 2) := by decide +kernel
theorem dX12_copy_14 : decode cX12_copy 14 = .ok (.iload_n 2, 1) := by decide +kernel
theorem dX12_copy_15 : decode cX12_copy 15 = .ok (.imul, 1) := by decide +kernel
theorem dX12_copy_16 : decode cX12_copy 16 = .ok (.iload_n 3, 1) := by decide +kernel
theorem dX12_copy_17 : decode cX12_copy 17 = .ok (.iadd, 1) := by decide +kernel
theorem dX12_copy_18 : decode cX12_copy 18 = .ok (.aload_n 0, 1) := by decide +kernel
theorem dX12_copy_19 : decode cX12_copy 19 = .ok (.getfield 75, 3) := by decide +kernel
theorem dX12_copy_22 : decode cX12_copy 22 = .ok (.bipush 12, 2) := by decide +kernel
theorem dX12_copy_24 : decode cX12_copy 24 = .ok (.iload_n 1, 1) := by decide +kernel
theorem dX12_copy_25 : decode cX12_copy 25 = .ok (.imul, 1) := by decide +kernel
theorem dX12_copy_26 : decode cX12_copy 26 = .ok (.iload_n 3, 1) := by decide +kernel
theorem dX12_copy_27 : decode cX12_copy 27 = .ok (.iadd, 1) := by decide +kernel
theorem dX12_copy_28 : decode cX12_copy 28 = .ok (.iaload, 1) := by decide +kernel
theorem dX12_copy_29 : decode cX12_copy 29 = .ok (.iastore, 1) := by decide +kernel
theorem dX12_copy_30 : decode cX12_copy 30 = .ok (.iinc 3 1, 3) := by decide +kernel
theorem dX12_copy_33 : decode cX12_copy 33 = .ok (.goto (-31), 3) := by decide +kernel
theorem dX12_copy_36 : decode cX12_copy 36 = .ok (.return_, 1) := by decide +kernel
theorem dX12_drawn_0 : decode cX12_drawn 0 = .ok (.iload_n 0, 1) := by decide +kernel
theorem dX12_drawn_1 : decode cX12_drawn 1 = .ok (.ldc 166, 2) := by decide +kernel
theorem dX12_drawn_3 : decode cX12_drawn 3 = .ok (.imul, 1) := by decide +kernel
theorem dX12_drawn_4 : decode cX12_drawn 4 = .ok (.sipush 12345, 3) := by decide +kernel
theorem dX12_drawn_7 : decode cX12_drawn 7 = .ok (.iadd, 1) := by decide +kernel
theorem dX12_drawn_8 : decode cX12_drawn 8 = .ok (.ireturn, 1) := by decide +kernel
theorem dX12_acts_0 : decode cX12_acts 0 = .ok (.aload_n 0, 1) := by decide +kernel
theorem dX12_acts_1 : decode cX12_acts 1 = .ok (.getfield 44, 3) := by decide +kernel
theorem dX12_acts_4 : decode cX12_acts 4 = .ok (.iload_n 1, 1) := by decide +kernel
theorem dX12_acts_5 : decode cX12_acts 5 = .ok (.iaload, 1) := by decide +kernel
theorem dX12_acts_6 : decode cX12_acts 6 = .ok (.istore_n 2, 1) := by decide +kernel
theorem dX12_acts_7 : decode cX12_acts 7 = .ok (.aload_n 0, 1) := by decide +kernel
theorem dX12_acts_8 : decode cX12_acts 8 = .ok (.getfield 47, 3) := by decide +kernel
theorem dX12_acts_11 : decode cX12_acts 11 = .ok (.iload_n 1, 1) := by decide +kernel
theorem dX12_acts_12 : decode cX12_acts 12 = .ok (.iaload, 1) := by decide +kernel
theorem dX12_acts_13 : decode cX12_acts 13 = .ok (.istore_n 3, 1) := by decide +kernel
theorem dX12_acts_14 : decode cX12_acts 14 = .ok (.aload_n 0, 1) := by decide +kernel
theorem dX12_acts_15 : decode cX12_acts 15 = .ok (.getfield 41, 3) := by decide +kernel
theorem dX12_acts_18 : decode cX12_acts 18 = .ok (.iload_n 1, 1) := by decide +kernel
theorem dX12_acts_19 : decode cX12_acts 19 = .ok (.iaload, 1) := by decide +kernel
theorem dX12_acts_20 : decode cX12_acts 20 = .ok (.tableswitch 253 1 6 #[40, 54, 88, 164, 204, 244], 40) := by decide +kernel
theorem dX12_acts_60 : decode cX12_acts 60 = .ok (.aload_n 0, 1) := by decide +kernel
theorem dX12_acts_61 : decode cX12_acts 61 = .ok (.getfield 75, 3) := by decide +kernel
theorem dX12_acts_64 : decode cX12_acts 64 = .ok (.iconst 4, 1) := by decide +kernel
theorem dX12_acts_65 : decode cX12_acts 65 = .ok (.iload_n 2, 1) := by decide +kernel
theorem dX12_acts_66 : decode cX12_acts 66 = .ok (.iadd, 1) := by decide +kernel
theorem dX12_acts_67 : decode cX12_acts 67 = .ok (.dup2, 1) := by decide +kernel
theorem dX12_acts_68 : decode cX12_acts 68 = .ok (.iaload, 1) := by decide +kernel
theorem dX12_acts_69 : decode cX12_acts 69 = .ok (.iload_n 3, 1) := by decide +kernel
theorem dX12_acts_70 : decode cX12_acts 70 = .ok (.iadd, 1) := by decide +kernel
theorem dX12_acts_71 : decode cX12_acts 71 = .ok (.iastore, 1) := by decide +kernel
theorem dX12_acts_72 : decode cX12_acts 72 = .ok (.iconst 0, 1) := by decide +kernel
theorem dX12_acts_73 : decode cX12_acts 73 = .ok (.ireturn, 1) := by decide +kernel
theorem dX12_acts_74 : decode cX12_acts 74 = .ok (.aload_n 0, 1) := by decide +kernel
theorem dX12_acts_75 : decode cX12_acts 75 = .ok (.getfield 75, 3) := by decide +kernel
theorem dX12_acts_78 : decode cX12_acts 78 = .ok (.iconst 4, 1) := by decide +kernel
theorem dX12_acts_79 : decode cX12_acts 79 = .ok (.iload_n 3, 1) := by decide +kernel
theorem dX12_acts_80 : decode cX12_acts 80 = .ok (.iadd, 1) := by decide +kernel
theorem dX12_acts_81 : decode cX12_acts 81 = .ok (.iaload, 1) := by decide +kernel
theorem dX12_acts_82 : decode cX12_acts 82 = .ok (.ifCond .ne 5, 3) := by decide +kernel
theorem dX12_acts_85 : decode cX12_acts 85 = .ok (.iconst 4, 1) := by decide +kernel
theorem dX12_acts_86 : decode cX12_acts 86 = .ok (.ireturn, 1) := by decide +kernel
theorem dX12_acts_87 : decode cX12_acts 87 = .ok (.aload_n 0, 1) := by decide +kernel
theorem dX12_acts_88 : decode cX12_acts 88 = .ok (.getfield 75, 3) := by decide +kernel
theorem dX12_acts_91 : decode cX12_acts 91 = .ok (.iconst 4, 1) := by decide +kernel
theorem dX12_acts_92 : decode cX12_acts 92 = .ok (.iload_n 2, 1) := by decide +kernel
theorem dX12_acts_93 : decode cX12_acts 93 = .ok (.iadd, 1) := by decide +kernel
theorem dX12_acts_94 : decode cX12_acts 94 = .ok (.bipush 12, 2) := by decide +kernel
theorem dX12_acts_96 : decode cX12_acts 96 = .ok (.aload_n 0, 1) := by decide +kernel
theorem dX12_acts_97 : decode cX12_acts 97 = .ok (.getfield 75, 3) := by decide +kernel
theorem dX12_acts_100 : decode cX12_acts 100 = .ok (.iconst 4, 1) := by decide +kernel
theorem dX12_acts_101 : decode cX12_acts 101 = .ok (.iload_n 3, 1) := by decide +kernel
theorem dX12_acts_102 : decode cX12_acts 102 = .ok (.iadd, 1) := by decide +kernel
theorem dX12_acts_103 : decode cX12_acts 103 = .ok (.iaload, 1) := by decide +kernel
theorem dX12_acts_104 : decode cX12_acts 104 = .ok (.idiv, 1) := by decide +kernel
theorem dX12_acts_105 : decode cX12_acts 105 = .ok (.iastore, 1) := by decide +kernel
theorem dX12_acts_106 : decode cX12_acts 106 = .ok (.iconst 0, 1) := by decide +kernel
theorem dX12_acts_107 : decode cX12_acts 107 = .ok (.ireturn, 1) := by decide +kernel
theorem dX12_acts_108 : decode cX12_acts 108 = .ok (.aload_n 0, 1) := by decide +kernel
theorem dX12_acts_109 : decode cX12_acts 109 = .ok (.getfield 62, 3) := by decide +kernel
theorem dX12_acts_112 : decode cX12_acts 112 = .ok (.iload_n 2, 1) := by decide +kernel
theorem dX12_acts_113 : decode cX12_acts 113 = .ok (.iaload, 1) := by decide +kernel
theorem dX12_acts_114 : decode cX12_acts 114 = .ok (.iconst 2, 1) := by decide +kernel
theorem dX12_acts_115 : decode cX12_acts 115 = .ok (.if_icmp .eq 18, 3) := by decide +kernel
theorem dX12_acts_118 : decode cX12_acts 118 = .ok (.aload_n 0, 1) := by decide +kernel
theorem dX12_acts_119 : decode cX12_acts 119 = .ok (.getfield 62, 3) := by decide +kernel
theorem dX12_acts_122 : decode cX12_acts 122 = .ok (.iload_n 2, 1) := by decide +kernel
theorem dX12_acts_123 : decode cX12_acts 123 = .ok (.iaload, 1) := by decide +kernel
theorem dX12_acts_124 : decode cX12_acts 124 = .ok (.ifCond .ne 7, 3) := by decide +kernel
theorem dX12_acts_127 : decode cX12_acts 127 = .ok (.iconst 1, 1) := by decide +kernel
theorem dX12_acts_128 : decode cX12_acts 128 = .ok (.goto 4, 3) := by decide +kernel
theorem dX12_acts_131 : decode cX12_acts 131 = .ok (.iconst 2, 1) := by decide +kernel
theorem dX12_acts_132 : decode cX12_acts 132 = .ok (.ireturn, 1) := by decide +kernel
theorem dX12_acts_133 : decode cX12_acts 133 = .ok (.aload_n 0, 1) := by decide +kernel
theorem dX12_acts_134 : decode cX12_acts 134 = .ok (.getfield 75, 3) := by decide +kernel
theorem dX12_acts_137 : decode cX12_acts 137 = .ok (.iconst 4, 1) := by decide +kernel
theorem dX12_acts_138 : decode cX12_acts 138 = .ok (.iload_n 3, 1) := by decide +kernel
theorem dX12_acts_139 : decode cX12_acts 139 = .ok (.iadd, 1) := by decide +kernel
theorem dX12_acts_140 : decode cX12_acts 140 = .ok (.iaload, 1) := by decide +kernel
theorem dX12_acts_141 : decode cX12_acts 141 = .ok (.i2l, 1) := by decide +kernel
theorem dX12_acts_142 : decode cX12_acts 142 = .ok (.lconst 0, 1) := by decide +kernel
theorem dX12_acts_143 : decode cX12_acts 143 = .ok (.aload_n 0, 1) := by decide +kernel
theorem dX12_acts_144 : decode cX12_acts 144 = .ok (.getfield 65, 3) := by decide +kernel
theorem dX12_acts_147 : decode cX12_acts 147 = .ok (.iload_n 2, 1) := by decide +kernel
theorem dX12_acts_148 : decode cX12_acts 148 = .ok (.iaload, 1) := by decide +kernel
theorem dX12_acts_149 : decode cX12_acts 149 = .ok (.iconst 1, 1) := by decide +kernel
theorem dX12_acts_150 : decode cX12_acts 150 = .ok (.isub, 1) := by decide +kernel
theorem dX12_acts_151 : decode cX12_acts 151 = .ok (.i2l, 1) := by decide +kernel
theorem dX12_acts_152 : decode cX12_acts 152 = .ok (.invokestatic 105, 3) := by decide +kernel
theorem dX12_acts_155 : decode cX12_acts 155 = .ok (.ifCond .ne 5, 3) := by decide +kernel
theorem dX12_acts_158 : decode cX12_acts 158 = .ok (.iconst 3, 1) := by decide +kernel
theorem dX12_acts_159 : decode cX12_acts 159 = .ok (.ireturn, 1) := by decide +kernel
theorem dX12_acts_160 : decode cX12_acts 160 = .ok (.aload_n 0, 1) := by decide +kernel
theorem dX12_acts_161 : decode cX12_acts 161 = .ok (.getfield 75, 3) := by decide +kernel
theorem dX12_acts_164 : decode cX12_acts 164 = .ok (.bipush 11, 2) := by decide +kernel
theorem dX12_acts_166 : decode cX12_acts 166 = .ok (.aload_n 0, 1) := by decide +kernel
theorem dX12_acts_167 : decode cX12_acts 167 = .ok (.getfield 68, 3) := by decide +kernel
theorem dX12_acts_170 : decode cX12_acts 170 = .ok (.iload_n 2, 1) := by decide +kernel
theorem dX12_acts_171 : decode cX12_acts 171 = .ok (.iaload, 1) := by decide +kernel
theorem dX12_acts_172 : decode cX12_acts 172 = .ok (.aload_n 0, 1) := by decide +kernel
theorem dX12_acts_173 : decode cX12_acts 173 = .ok (.getfield 75, 3) := by decide +kernel
theorem dX12_acts_176 : decode cX12_acts 176 = .ok (.iconst 4, 1) := by decide +kernel
theorem dX12_acts_177 : decode cX12_acts 177 = .ok (.iload_n 3, 1) := by decide +kernel
theorem dX12_acts_178 : decode cX12_acts 178 = .ok (.iadd, 1) := by decide +kernel
theorem dX12_acts_179 : decode cX12_acts 179 = .ok (.iaload, 1) := by decide +kernel
theorem dX12_acts_180 : decode cX12_acts 180 = .ok (.iadd, 1) := by decide +kernel
theorem dX12_acts_181 : decode cX12_acts 181 = .ok (.iastore, 1) := by decide +kernel
theorem dX12_acts_182 : decode cX12_acts 182 = .ok (.iconst 0, 1) := by decide +kernel
theorem dX12_acts_183 : decode cX12_acts 183 = .ok (.ireturn, 1) := by decide +kernel
theorem dX12_acts_184 : decode cX12_acts 184 = .ok (.aload_n 0, 1) := by decide +kernel
theorem dX12_acts_185 : decode cX12_acts 185 = .ok (.getfield 62, 3) := by decide +kernel
theorem dX12_acts_188 : decode cX12_acts 188 = .ok (.iload_n 2, 1) := by decide +kernel
theorem dX12_acts_189 : decode cX12_acts 189 = .ok (.iaload, 1) := by decide +kernel
theorem dX12_acts_190 : decode cX12_acts 190 = .ok (.iconst 1, 1) := by decide +kernel
theorem dX12_acts_191 : decode cX12_acts 191 = .ok (.if_icmp .eq 18, 3) := by decide +kernel
theorem dX12_acts_194 : decode cX12_acts 194 = .ok (.aload_n 0, 1) := by decide +kernel
theorem dX12_acts_195 : decode cX12_acts 195 = .ok (.getfield 62, 3) := by decide +kernel
theorem dX12_acts_198 : decode cX12_acts 198 = .ok (.iload_n 2, 1) := by decide +kernel
theorem dX12_acts_199 : decode cX12_acts 199 = .ok (.iaload, 1) := by decide +kernel
theorem dX12_acts_200 : decode cX12_acts 200 = .ok (.ifCond .ne 7, 3) := by decide +kernel
theorem dX12_acts_203 : decode cX12_acts 203 = .ok (.iconst 1, 1) := by decide +kernel
theorem dX12_acts_204 : decode cX12_acts 204 = .ok (.goto 4, 3) := by decide +kernel
theorem dX12_acts_207 : decode cX12_acts 207 = .ok (.iconst 2, 1) := by decide +kernel
theorem dX12_acts_208 : decode cX12_acts 208 = .ok (.ireturn, 1) := by decide +kernel
theorem dX12_acts_209 : decode cX12_acts 209 = .ok (.aload_n 0, 1) := by decide +kernel
theorem dX12_acts_210 : decode cX12_acts 210 = .ok (.getfield 75, 3) := by decide +kernel
theorem dX12_acts_213 : decode cX12_acts 213 = .ok (.bipush 11, 2) := by decide +kernel
theorem dX12_acts_215 : decode cX12_acts 215 = .ok (.aload_n 0, 1) := by decide +kernel
theorem dX12_acts_216 : decode cX12_acts 216 = .ok (.getfield 68, 3) := by decide +kernel
theorem dX12_acts_219 : decode cX12_acts 219 = .ok (.iload_n 2, 1) := by decide +kernel
theorem dX12_acts_220 : decode cX12_acts 220 = .ok (.iaload, 1) := by decide +kernel
theorem dX12_acts_221 : decode cX12_acts 221 = .ok (.iastore, 1) := by decide +kernel
theorem dX12_acts_222 : decode cX12_acts 222 = .ok (.iconst 0, 1) := by decide +kernel
theorem dX12_acts_223 : decode cX12_acts 223 = .ok (.ireturn, 1) := by decide +kernel
theorem dX12_acts_224 : decode cX12_acts 224 = .ok (.aload_n 0, 1) := by decide +kernel
theorem dX12_acts_225 : decode cX12_acts 225 = .ok (.getfield 75, 3) := by decide +kernel
theorem dX12_acts_228 : decode cX12_acts 228 = .ok (.iconst 2, 1) := by decide +kernel
theorem dX12_acts_229 : decode cX12_acts 229 = .ok (.aload_n 0, 1) := by decide +kernel
theorem dX12_acts_230 : decode cX12_acts 230 = .ok (.getfield 75, 3) := by decide +kernel
theorem dX12_acts_233 : decode cX12_acts 233 = .ok (.iconst 2, 1) := by decide +kernel
theorem dX12_acts_234 : decode cX12_acts 234 = .ok (.iaload, 1) := by decide +kernel
theorem dX12_acts_235 : decode cX12_acts 235 = .ok (.invokestatic 167, 3) := by decide +kernel
theorem dX12_acts_238 : decode cX12_acts 238 = .ok (.iastore, 1) := by decide +kernel
theorem dX12_acts_239 : decode cX12_acts 239 = .ok (.aload_n 0, 1) := by decide +kernel
theorem dX12_acts_240 : decode cX12_acts 240 = .ok (.getfield 75, 3) := by decide +kernel
theorem dX12_acts_243 : decode cX12_acts 243 = .ok (.iconst 4, 1) := by decide +kernel
theorem dX12_acts_244 : decode cX12_acts 244 = .ok (.iload_n 2, 1) := by decide +kernel
theorem dX12_acts_245 : decode cX12_acts 245 = .ok (.iadd, 1) := by decide +kernel
theorem dX12_acts_246 : decode cX12_acts 246 = .ok (.aload_n 0, 1) := by decide +kernel
theorem dX12_acts_247 : decode cX12_acts 247 = .ok (.getfield 75, 3) := by decide +kernel
theorem dX12_acts_250 : decode cX12_acts 250 = .ok (.iconst 2, 1) := by decide +kernel
theorem dX12_acts_251 : decode cX12_acts 251 = .ok (.iaload, 1) := by decide +kernel
theorem dX12_acts_252 : decode cX12_acts 252 = .ok (.bipush 16, 2) := by decide +kernel
theorem dX12_acts_254 : decode cX12_acts 254 = .ok (.iushr, 1) := by decide +kernel
theorem dX12_acts_255 : decode cX12_acts 255 = .ok (.sipush 32767, 3) := by decide +kernel
theorem dX12_acts_258 : decode cX12_acts 258 = .ok (.iand, 1) := by decide +kernel
theorem dX12_acts_259 : decode cX12_acts 259 = .ok (.iload_n 3, 1) := by decide +kernel
theorem dX12_acts_260 : decode cX12_acts 260 = .ok (.irem, 1) := by decide +kernel
theorem dX12_acts_261 : decode cX12_acts 261 = .ok (.iastore, 1) := by decide +kernel
theorem dX12_acts_262 : decode cX12_acts 262 = .ok (.iconst 0, 1) := by decide +kernel
theorem dX12_acts_263 : decode cX12_acts 263 = .ok (.ireturn, 1) := by decide +kernel
theorem dX12_acts_264 : decode cX12_acts 264 = .ok (.aload_n 0, 1) := by decide +kernel
theorem dX12_acts_265 : decode cX12_acts 265 = .ok (.getfield 75, 3) := by decide +kernel
theorem dX12_acts_268 : decode cX12_acts 268 = .ok (.iconst 1, 1) := by decide +kernel
theorem dX12_acts_269 : decode cX12_acts 269 = .ok (.iload_n 2, 1) := by decide +kernel
theorem dX12_acts_270 : decode cX12_acts 270 = .ok (.iastore, 1) := by decide +kernel
theorem dX12_acts_271 : decode cX12_acts 271 = .ok (.iconst 0, 1) := by decide +kernel
theorem dX12_acts_272 : decode cX12_acts 272 = .ok (.ireturn, 1) := by decide +kernel
theorem dX12_acts_273 : decode cX12_acts 273 = .ok (.iconst 0, 1) := by decide +kernel
theorem dX12_acts_274 : decode cX12_acts 274 = .ok (.ireturn, 1) := by decide +kernel
theorem dX12_shows_0 : decode cX12_shows 0 = .ok (.aload_n 0, 1) := by decide +kernel
theorem dX12_shows_1 : decode cX12_shows 1 = .ok (.getfield 75, 3) := by decide +kernel
theorem dX12_shows_4 : decode cX12_shows 4 = .ok (.iconst 3, 1) := by decide +kernel
theorem dX12_shows_5 : decode cX12_shows 5 = .ok (.iload_n 1, 1) := by decide +kernel
theorem dX12_shows_6 : decode cX12_shows 6 = .ok (.iastore, 1) := by decide +kernel
theorem dX12_shows_7 : decode cX12_shows 7 = .ok (.aload_n 0, 1) := by decide +kernel
theorem dX12_shows_8 : decode cX12_shows 8 = .ok (.getfield 59, 3) := by decide +kernel
theorem dX12_shows_11 : decode cX12_shows 11 = .ok (.iload_n 1, 1) := by decide +kernel
theorem dX12_shows_12 : decode cX12_shows 12 = .ok (.ifCond .ge 8, 3) := by decide +kernel
theorem dX12_shows_15 : decode cX12_shows 15 = .ok (.bipush 24, 2) := by decide +kernel
theorem dX12_shows_17 : decode cX12_shows 17 = .ok (.goto 4, 3) := by decide +kernel
theorem dX12_shows_20 : decode cX12_shows 20 = .ok (.iload_n 1, 1) := by decide +kernel
theorem dX12_shows_21 : decode cX12_shows 21 = .ok (.dup2, 1) := by decide +kernel
theorem dX12_shows_22 : decode cX12_shows 22 = .ok (.iaload, 1) := by decide +kernel
theorem dX12_shows_23 : decode cX12_shows 23 = .ok (.aload_n 0, 1) := by decide +kernel
theorem dX12_shows_24 : decode cX12_shows 24 = .ok (.getfield 71, 3) := by decide +kernel
theorem dX12_shows_27 : decode cX12_shows 27 = .ok (.ifCond .eq 7, 3) := by decide +kernel
theorem dX12_shows_30 : decode cX12_shows 30 = .ok (.iconst 1, 1) := by decide +kernel
theorem dX12_shows_31 : decode cX12_shows 31 = .ok (.goto 4, 3) := by decide +kernel
theorem dX12_shows_34 : decode cX12_shows 34 = .ok (.iconst 0, 1) := by decide +kernel
theorem dX12_shows_35 : decode cX12_shows 35 = .ok (.iadd, 1) := by decide +kernel
theorem dX12_shows_36 : decode cX12_shows 36 = .ok (.iastore, 1) := by decide +kernel
theorem dX12_shows_37 : decode cX12_shows 37 = .ok (.return_, 1) := by decide +kernel
theorem dX12_says_0 : decode cX12_says 0 = .ok (.aload_n 0, 1) := by decide +kernel
theorem dX12_says_1 : decode cX12_says 1 = .ok (.dup, 1) := by decide +kernel
theorem dX12_says_2 : decode cX12_says 2 = .ok (.getfield 171, 3) := by decide +kernel
theorem dX12_says_5 : decode cX12_says 5 = .ok (.aload_n 0, 1) := by decide +kernel
theorem dX12_says_6 : decode cX12_says 6 = .ok (.getfield 71, 3) := by decide +kernel
theorem dX12_says_9 : decode cX12_says 9 = .ok (.ifCond .eq 7, 3) := by decide +kernel
theorem dX12_says_12 : decode cX12_says 12 = .ok (.iconst 1, 1) := by decide +kernel
theorem dX12_says_13 : decode cX12_says 13 = .ok (.goto 4, 3) := by decide +kernel
theorem dX12_says_16 : decode cX12_says 16 = .ok (.iconst 0, 1) := by decide +kernel
theorem dX12_says_17 : decode cX12_says 17 = .ok (.iadd, 1) := by decide +kernel
theorem dX12_says_18 : decode cX12_says 18 = .ok (.putfield 171, 3) := by decide +kernel
theorem dX12_says_21 : decode cX12_says 21 = .ok (.iconst 0, 1) := by decide +kernel
theorem dX12_says_22 : decode cX12_says 22 = .ok (.istore_n 2, 1) := by decide +kernel
theorem dX12_says_23 : decode cX12_says 23 = .ok (.iload_n 2, 1) := by decide +kernel
theorem dX12_says_24 : decode cX12_says 24 = .ok (.aload_n 0, 1) := by decide +kernel
theorem dX12_says_25 : decode cX12_says 25 = .ok (.getfield 159, 3) := by decide +kernel
theorem dX12_says_28 : decode cX12_says 28 = .ok (.if_icmp .ge 74, 3) := by decide +kernel
theorem dX12_says_31 : decode cX12_says 31 = .ok (.iload_n 1, 1) := by decide +kernel
theorem dX12_says_32 : decode cX12_says 32 = .ok (.aload_n 0, 1) := by decide +kernel
theorem dX12_says_33 : decode cX12_says 33 = .ok (.getfield 32, 3) := by decide +kernel
theorem dX12_says_36 : decode cX12_says 36 = .ok (.iload_n 2, 1) := by decide +kernel
theorem dX12_says_37 : decode cX12_says 37 = .ok (.iaload, 1) := by decide +kernel
theorem dX12_says_38 : decode cX12_says 38 = .ok (.if_icmp .ne 58, 3) := by decide +kernel
theorem dX12_says_41 : decode cX12_says 41 = .ok (.aload_n 0, 1) := by decide +kernel
theorem dX12_says_42 : decode cX12_says 42 = .ok (.getfield 29, 3) := by decide +kernel
theorem dX12_says_45 : decode cX12_says 45 = .ok (.iload_n 2, 1) := by decide +kernel
theorem dX12_says_46 : decode cX12_says 46 = .ok (.iaload, 1) := by decide +kernel
theorem dX12_says_47 : decode cX12_says 47 = .ok (.ifCond .lt 18, 3) := by decide +kernel
theorem dX12_says_50 : decode cX12_says 50 = .ok (.aload_n 0, 1) := by decide +kernel
theorem dX12_says_51 : decode cX12_says 51 = .ok (.getfield 29, 3) := by decide +kernel
theorem dX12_says_54 : decode cX12_says 54 = .ok (.iload_n 2, 1) := by decide +kernel
theorem dX12_says_55 : decode cX12_says 55 = .ok (.iaload, 1) := by decide +kernel
theorem dX12_says_56 : decode cX12_says 56 = .ok (.aload_n 0, 1) := by decide +kernel
theorem dX12_says_57 : decode cX12_says 57 = .ok (.getfield 75, 3) := by decide +kernel
theorem dX12_says_60 : decode cX12_says 60 = .ok (.iconst 0, 1) := by decide +kernel
theorem dX12_says_61 : decode cX12_says 61 = .ok (.iaload, 1) := by decide +kernel
theorem dX12_says_62 : decode cX12_says 62 = .ok (.if_icmp .ne 34, 3) := by decide +kernel
theorem dX12_says_65 : decode cX12_says 65 = .ok (.aload_n 0, 1) := by decide +kernel
theorem dX12_says_66 : decode cX12_says 66 = .ok (.getfield 35, 3) := by decide +kernel
theorem dX12_says_69 : decode cX12_says 69 = .ok (.iload_n 2, 1) := by decide +kernel
theorem dX12_says_70 : decode cX12_says 70 = .ok (.iaload, 1) := by decide +kernel
theorem dX12_says_71 : decode cX12_says 71 = .ok (.ifCond .lt 31, 3) := by decide +kernel
theorem dX12_says_74 : decode cX12_says 74 = .ok (.aload_n 0, 1) := by decide +kernel
theorem dX12_says_75 : decode cX12_says 75 = .ok (.getfield 75, 3) := by decide +kernel
theorem dX12_says_78 : decode cX12_says 78 = .ok (.iconst 4, 1) := by decide +kernel
theorem dX12_says_79 : decode cX12_says 79 = .ok (.aload_n 0, 1) := by decide +kernel
theorem dX12_says_80 : decode cX12_says 80 = .ok (.getfield 35, 3) := by decide +kernel
theorem dX12_says_83 : decode cX12_says 83 = .ok (.iload_n 2, 1) := by decide +kernel
theorem dX12_says_84 : decode cX12_says 84 = .ok (.iaload, 1) := by decide +kernel
theorem dX12_says_85 : decode cX12_says 85 = .ok (.iadd, 1) := by decide +kernel
theorem dX12_says_86 : decode cX12_says 86 = .ok (.iaload, 1) := by decide +kernel
theorem dX12_says_87 : decode cX12_says 87 = .ok (.aload_n 0, 1) := by decide +kernel
theorem dX12_says_88 : decode cX12_says 88 = .ok (.getfield 38, 3) := by decide +kernel
theorem dX12_says_91 : decode cX12_says 91 = .ok (.iload_n 2, 1) := by decide +kernel
theorem dX12_says_92 : decode cX12_says 92 = .ok (.iaload, 1) := by decide +kernel
theorem dX12_says_93 : decode cX12_says 93 = .ok (.if_icmp .ge 9, 3) := by decide +kernel
theorem dX12_says_96 : decode cX12_says 96 = .ok (.iinc 2 1, 3) := by decide +kernel
theorem dX12_says_99 : decode cX12_says 99 = .ok (.goto (-76), 3) := by decide +kernel
theorem dX12_says_102 : decode cX12_says 102 = .ok (.iload_n 1, 1) := by decide +kernel
theorem dX12_says_103 : decode cX12_says 103 = .ok (.ifCond .lt 11, 3) := by decide +kernel
theorem dX12_says_106 : decode cX12_says 106 = .ok (.iload_n 2, 1) := by decide +kernel
theorem dX12_says_107 : decode cX12_says 107 = .ok (.aload_n 0, 1) := by decide +kernel
theorem dX12_says_108 : decode cX12_says 108 = .ok (.getfield 159, 3) := by decide +kernel
theorem dX12_says_111 : decode cX12_says 111 = .ok (.if_icmp .ne 10, 3) := by decide +kernel
theorem dX12_says_114 : decode cX12_says 114 = .ok (.aload_n 0, 1) := by decide +kernel
theorem dX12_says_115 : decode cX12_says 115 = .ok (.iconst (-1), 1) := by decide +kernel
theorem dX12_says_116 : decode cX12_says 116 = .ok (.invokevirtual 174, 3) := by decide +kernel
theorem dX12_says_119 : decode cX12_says 119 = .ok (.iconst 0, 1) := by decide +kernel
theorem dX12_says_120 : decode cX12_says 120 = .ok (.ireturn, 1) := by decide +kernel
theorem dX12_says_121 : decode cX12_says 121 = .ok (.aload_n 0, 1) := by decide +kernel
theorem dX12_says_122 : decode cX12_says 122 = .ok (.iload_n 2, 1) := by decide +kernel
theorem dX12_says_123 : decode cX12_says 123 = .ok (.invokevirtual 178, 3) := by decide +kernel
theorem dX12_says_126 : decode cX12_says 126 = .ok (.istore_n 3, 1) := by decide +kernel
theorem dX12_says_127 : decode cX12_says 127 = .ok (.iload_n 3, 1) := by decide +kernel
theorem dX12_says_128 : decode cX12_says 128 = .ok (.ifCond .le 24, 3) := by decide +kernel
theorem dX12_says_131 : decode cX12_says 131 = .ok (.aload_n 0, 1) := by decide +kernel
theorem dX12_says_132 : decode cX12_says 132 = .ok (.aload_n 0, 1) := by decide +kernel
theorem dX12_says_133 : decode cX12_says 133 = .ok (.getfield 71, 3) := by decide +kernel
theorem dX12_says_136 : decode cX12_says 136 = .ok (.ifCond .eq 7, 3) := by decide +kernel
theorem dX12_says_139 : decode cX12_says 139 = .ok (.iload_n 3, 1) := by decide +kernel
theorem dX12_says_140 : decode cX12_says 140 = .ok (.goto 7, 3) := by decide +kernel
theorem dX12_says_143 : decode cX12_says 143 = .ok (.aload_n 0, 1) := by decide +kernel
theorem dX12_says_144 : decode cX12_says 144 = .ok (.getfield 181, 3) := by decide +kernel
theorem dX12_says_147 : decode cX12_says 147 = .ok (.putfield 181, 3) := by decide +kernel
theorem dX12_says_150 : decode cX12_says 150 = .ok (.iload_n 3, 1) := by decide +kernel
theorem dX12_says_151 : decode cX12_says 151 = .ok (.ireturn, 1) := by decide +kernel
theorem dX12_says_152 : decode cX12_says 152 = .ok (.aload_n 0, 1) := by decide +kernel
theorem dX12_says_153 : decode cX12_says 153 = .ok (.getfield 75, 3) := by decide +kernel
theorem dX12_says_156 : decode cX12_says 156 = .ok (.iconst 0, 1) := by decide +kernel
theorem dX12_says_157 : decode cX12_says 157 = .ok (.aload_n 0, 1) := by decide +kernel
theorem dX12_says_158 : decode cX12_says 158 = .ok (.getfield 53, 3) := by decide +kernel
theorem dX12_says_161 : decode cX12_says 161 = .ok (.iload_n 2, 1) := by decide +kernel
theorem dX12_says_162 : decode cX12_says 162 = .ok (.iaload, 1) := by decide +kernel
theorem dX12_says_163 : decode cX12_says 163 = .ok (.ifCond .ge 12, 3) := by decide +kernel
theorem dX12_says_166 : decode cX12_says 166 = .ok (.aload_n 0, 1) := by decide +kernel
theorem dX12_says_167 : decode cX12_says 167 = .ok (.getfield 75, 3) := by decide +kernel
theorem dX12_says_170 : decode cX12_says 170 = .ok (.iconst 0, 1) := by decide +kernel
theorem dX12_says_171 : decode cX12_says 171 = .ok (.iaload, 1) := by decide +kernel
theorem dX12_says_172 : decode cX12_says 172 = .ok (.goto 9, 3) := by decide +kernel
theorem dX12_says_175 : decode cX12_says 175 = .ok (.aload_n 0, 1) := by decide +kernel
theorem dX12_says_176 : decode cX12_says 176 = .ok (.getfield 53, 3) := by decide +kernel
theorem dX12_says_179 : decode cX12_says 179 = .ok (.iload_n 2, 1) := by decide +kernel
theorem dX12_says_180 : decode cX12_says 180 = .ok (.iaload, 1) := by decide +kernel
theorem dX12_says_181 : decode cX12_says 181 = .ok (.iastore, 1) := by decide +kernel
theorem dX12_says_182 : decode cX12_says 182 = .ok (.aload_n 0, 1) := by decide +kernel
theorem dX12_says_183 : decode cX12_says 183 = .ok (.getfield 56, 3) := by decide +kernel
theorem dX12_says_186 : decode cX12_says 186 = .ok (.iload_n 2, 1) := by decide +kernel
theorem dX12_says_187 : decode cX12_says 187 = .ok (.dup2, 1) := by decide +kernel
theorem dX12_says_188 : decode cX12_says 188 = .ok (.iaload, 1) := by decide +kernel
theorem dX12_says_189 : decode cX12_says 189 = .ok (.aload_n 0, 1) := by decide +kernel
theorem dX12_says_190 : decode cX12_says 190 = .ok (.getfield 71, 3) := by decide +kernel
theorem dX12_says_193 : decode cX12_says 193 = .ok (.ifCond .eq 7, 3) := by decide +kernel
theorem dX12_says_196 : decode cX12_says 196 = .ok (.iconst 1, 1) := by decide +kernel
theorem dX12_says_197 : decode cX12_says 197 = .ok (.goto 4, 3) := by decide +kernel
theorem dX12_says_200 : decode cX12_says 200 = .ok (.iconst 0, 1) := by decide +kernel
theorem dX12_says_201 : decode cX12_says 201 = .ok (.iadd, 1) := by decide +kernel
theorem dX12_says_202 : decode cX12_says 202 = .ok (.iastore, 1) := by decide +kernel
theorem dX12_says_203 : decode cX12_says 203 = .ok (.aload_n 0, 1) := by decide +kernel
theorem dX12_says_204 : decode cX12_says 204 = .ok (.aload_n 0, 1) := by decide +kernel
theorem dX12_says_205 : decode cX12_says 205 = .ok (.getfield 50, 3) := by decide +kernel
theorem dX12_says_208 : decode cX12_says 208 = .ok (.iload_n 2, 1) := by decide +kernel
theorem dX12_says_209 : decode cX12_says 209 = .ok (.iaload, 1) := by decide +kernel
theorem dX12_says_210 : decode cX12_says 210 = .ok (.invokevirtual 174, 3) := by decide +kernel
theorem dX12_says_213 : decode cX12_says 213 = .ok (.iconst 0, 1) := by decide +kernel
theorem dX12_says_214 : decode cX12_says 214 = .ok (.ireturn, 1) := by decide +kernel
theorem dX12_byteAt_0 : decode cX12_byteAt 0 = .ok (.iload_n 1, 1) := by decide +kernel
theorem dX12_byteAt_1 : decode cX12_byteAt 1 = .ok (.aload_n 0, 1) := by decide +kernel
theorem dX12_byteAt_2 : decode cX12_byteAt 2 = .ok (.getfield 109, 3) := by decide +kernel
theorem dX12_byteAt_5 : decode cX12_byteAt 5 = .ok (.if_icmp .ge 12, 3) := by decide +kernel
theorem dX12_byteAt_8 : decode cX12_byteAt 8 = .ok (.aload_n 0, 1) := by decide +kernel
theorem dX12_byteAt_9 : decode cX12_byteAt 9 = .ok (.getfield 13, 3) := by decide +kernel
theorem dX12_byteAt_12 : decode cX12_byteAt 12 = .ok (.iload_n 1, 1) := by decide +kernel
theorem dX12_byteAt_13 : decode cX12_byteAt 13 = .ok (.iaload, 1) := by decide +kernel
theorem dX12_byteAt_14 : decode cX12_byteAt 14 = .ok (.goto 5, 3) := by decide +kernel
theorem dX12_byteAt_17 : decode cX12_byteAt 17 = .ok (.bipush 10, 2) := by decide +kernel
theorem dX12_byteAt_19 : decode cX12_byteAt 19 = .ok (.ireturn, 1) := by decide +kernel
theorem dX12_wrongWords_0 : decode cX12_wrongWords 0 = .ok (.iload_n 1, 1) := by decide +kernel
theorem dX12_wrongWords_1 : decode cX12_wrongWords 1 = .ok (.istore_n 3, 1) := by decide +kernel
theorem dX12_wrongWords_2 : decode cX12_wrongWords 2 = .ok (.iconst 0, 1) := by decide +kernel
theorem dX12_wrongWords_3 : decode cX12_wrongWords 3 = .ok (.istore 4, 2) := by decide +kernel
theorem dX12_wrongWords_5 : decode cX12_wrongWords 5 = .ok (.aload_n 0, 1) := by decide +kernel
theorem dX12_wrongWords_6 : decode cX12_wrongWords 6 = .ok (.iload_n 3, 1) := by decide +kernel
theorem dX12_wrongWords_7 : decode cX12_wrongWords 7 = .ok (.invokevirtual 184, 3) := by decide +kernel
theorem dX12_wrongWords_10 : decode cX12_wrongWords 10 = .ok (.istore 5, 2) := by decide +kernel
theorem dX12_wrongWords_12 : decode cX12_wrongWords 12 = .ok (.iload 5, 2) := by decide +kernel
theorem dX12_wrongWords_14 : decode cX12_wrongWords 14 = .ok (.bipush 10, 2) := by decide +kernel
theorem dX12_wrongWords_16 : decode cX12_wrongWords 16 = .ok (.if_icmp .eq 14, 3) := by decide +kernel
theorem dX12_wrongWords_19 : decode cX12_wrongWords 19 = .ok (.iload 5, 2) := by decide +kernel
theorem dX12_wrongWords_21 : decode cX12_wrongWords 21 = .ok (.bipush 32, 2) := by decide +kernel
theorem dX12_wrongWords_23 : decode cX12_wrongWords 23 = .ok (.if_icmp .ne 11, 3) := by decide +kernel
theorem dX12_wrongWords_26 : decode cX12_wrongWords 26 = .ok (.iload_n 2, 1) := by decide +kernel
theorem dX12_wrongWords_27 : decode cX12_wrongWords 27 = .ok (.ifCond .ne 7, 3) := by decide +kernel
theorem dX12_wrongWords_30 : decode cX12_wrongWords 30 = .ok (.iconst 1, 1) := by decide +kernel
theorem dX12_wrongWords_31 : decode cX12_wrongWords 31 = .ok (.goto 4, 3) := by decide +kernel
theorem dX12_wrongWords_34 : decode cX12_wrongWords 34 = .ok (.iconst 0, 1) := by decide +kernel
theorem dX12_wrongWords_35 : decode cX12_wrongWords 35 = .ok (.istore 6, 2) := by decide +kernel
theorem dX12_wrongWords_37 : decode cX12_wrongWords 37 = .ok (.iload 6, 2) := by decide +kernel
theorem dX12_wrongWords_39 : decode cX12_wrongWords 39 = .ok (.ifCond .eq 23, 3) := by decide +kernel
theorem dX12_wrongWords_42 : decode cX12_wrongWords 42 = .ok (.iload 4, 2) := by decide +kernel
theorem dX12_wrongWords_44 : decode cX12_wrongWords 44 = .ok (.ifCond .le 18, 3) := by decide +kernel
theorem dX12_wrongWords_47 : decode cX12_wrongWords 47 = .ok (.iload 5, 2) := by decide +kernel
theorem dX12_wrongWords_49 : decode cX12_wrongWords 49 = .ok (.bipush 10, 2) := by decide +kernel
theorem dX12_wrongWords_51 : decode cX12_wrongWords 51 = .ok (.if_icmp .ne 5, 3) := by decide +kernel
theorem dX12_wrongWords_54 : decode cX12_wrongWords 54 = .ok (.iconst (-1), 1) := by decide +kernel
theorem dX12_wrongWords_55 : decode cX12_wrongWords 55 = .ok (.ireturn, 1) := by decide +kernel
theorem dX12_wrongWords_56 : decode cX12_wrongWords 56 = .ok (.iconst 0, 1) := by decide +kernel
theorem dX12_wrongWords_57 : decode cX12_wrongWords 57 = .ok (.istore 4, 2) := by decide +kernel
theorem dX12_wrongWords_59 : decode cX12_wrongWords 59 = .ok (.goto 26, 3) := by decide +kernel
theorem dX12_wrongWords_62 : decode cX12_wrongWords 62 = .ok (.iload 5, 2) := by decide +kernel
theorem dX12_wrongWords_64 : decode cX12_wrongWords 64 = .ok (.invokestatic 127, 3) := by decide +kernel
theorem dX12_wrongWords_67 : decode cX12_wrongWords 67 = .ok (.ifCond .eq 16, 3) := by decide +kernel
theorem dX12_wrongWords_70 : decode cX12_wrongWords 70 = .ok (.iload 4, 2) := by decide +kernel
theorem dX12_wrongWords_72 : decode cX12_wrongWords 72 = .ok (.bipush 6, 2) := by decide +kernel
theorem dX12_wrongWords_74 : decode cX12_wrongWords 74 = .ok (.if_icmp .ge 9, 3) := by decide +kernel
theorem dX12_wrongWords_77 : decode cX12_wrongWords 77 = .ok (.iinc 4 1, 3) := by decide +kernel
theorem dX12_wrongWords_80 : decode cX12_wrongWords 80 = .ok (.goto 5, 3) := by decide +kernel
theorem dX12_wrongWords_83 : decode cX12_wrongWords 83 = .ok (.iload_n 3, 1) := by decide +kernel
theorem dX12_wrongWords_84 : decode cX12_wrongWords 84 = .ok (.ireturn, 1) := by decide +kernel
theorem dX12_wrongWords_85 : decode cX12_wrongWords 85 = .ok (.iinc 3 1, 3) := by decide +kernel
theorem dX12_wrongWords_88 : decode cX12_wrongWords 88 = .ok (.goto (-83), 3) := by decide +kernel
theorem dX12_wrongPattern_0 : decode cX12_wrongPattern 0 = .ok (.iload_n 1, 1) := by decide +kernel
theorem dX12_wrongPattern_1 : decode cX12_wrongPattern 1 = .ok (.istore_n 2, 1) := by decide +kernel
theorem dX12_wrongPattern_2 : decode cX12_wrongPattern 2 = .ok (.iconst 0, 1) := by decide +kernel
theorem dX12_wrongPattern_3 : decode cX12_wrongPattern 3 = .ok (.istore_n 3, 1) := by decide +kernel
theorem dX12_wrongPattern_4 : decode cX12_wrongPattern 4 = .ok (.aload_n 0, 1) := by decide +kernel
theorem dX12_wrongPattern_5 : decode cX12_wrongPattern 5 = .ok (.iload_n 2, 1) := by decide +kernel
theorem dX12_wrongPattern_6 : decode cX12_wrongPattern 6 = .ok (.invokevirtual 184, 3) := by decide +kernel
theorem dX12_wrongPattern_9 : decode cX12_wrongPattern 9 = .ok (.bipush 10, 2) := by decide +kernel
theorem dX12_wrongPattern_11 : decode cX12_wrongPattern 11 = .ok (.if_icmp .eq 100, 3) := by decide +kernel
theorem dX12_wrongPattern_14 : decode cX12_wrongPattern 14 = .ok (.aload_n 0, 1) := by decide +kernel
theorem dX12_wrongPattern_15 : decode cX12_wrongPattern 15 = .ok (.iload_n 2, 1) := by decide +kernel
theorem dX12_wrongPattern_16 : decode cX12_wrongPattern 16 = .ok (.invokevirtual 184, 3) := by decide +kernel
theorem dX12_wrongPattern_19 : decode cX12_wrongPattern 19 = .ok (.istore 4, 2) := by decide +kernel
theorem dX12_wrongPattern_21 : decode cX12_wrongPattern 21 = .ok (.iload 4, 2) := by decide +kernel
theorem dX12_wrongPattern_23 : decode cX12_wrongPattern 23 = .ok (.invokestatic 135, 3) := by decide +kernel
theorem dX12_wrongPattern_26 : decode cX12_wrongPattern 26 = .ok (.ifCond .eq 15, 3) := by decide +kernel
theorem dX12_wrongPattern_29 : decode cX12_wrongPattern 29 = .ok (.iload_n 3, 1) := by decide +kernel
theorem dX12_wrongPattern_30 : decode cX12_wrongPattern 30 = .ok (.iconst 1, 1) := by decide +kernel
theorem dX12_wrongPattern_31 : decode cX12_wrongPattern 31 = .ok (.if_icmp .ne 12, 3) := by decide +kernel
theorem dX12_wrongPattern_34 : decode cX12_wrongPattern 34 = .ok (.iload 4, 2) := by decide +kernel
theorem dX12_wrongPattern_36 : decode cX12_wrongPattern 36 = .ok (.bipush 93, 2) := by decide +kernel
theorem dX12_wrongPattern_38 : decode cX12_wrongPattern 38 = .ok (.if_icmp .ne 5, 3) := by decide +kernel
theorem dX12_wrongPattern_41 : decode cX12_wrongPattern 41 = .ok (.iload_n 2, 1) := by decide +kernel
theorem dX12_wrongPattern_42 : decode cX12_wrongPattern 42 = .ok (.ireturn, 1) := by decide +kernel
theorem dX12_wrongPattern_43 : decode cX12_wrongPattern 43 = .ok (.iload_n 3, 1) := by decide +kernel
theorem dX12_wrongPattern_44 : decode cX12_wrongPattern 44 = .ok (.iconst 3, 1) := by decide +kernel
theorem dX12_wrongPattern_45 : decode cX12_wrongPattern 45 = .ok (.if_icmp .ne 7, 3) := by decide +kernel
theorem dX12_wrongPattern_48 : decode cX12_wrongPattern 48 = .ok (.iconst 0, 1) := by decide +kernel
theorem dX12_wrongPattern_49 : decode cX12_wrongPattern 49 = .ok (.goto 55, 3) := by decide +kernel
theorem dX12_wrongPattern_52 : decode cX12_wrongPattern 52 = .ok (.iload_n 3, 1) := by decide +kernel
theorem dX12_wrongPattern_53 : decode cX12_wrongPattern 53 = .ok (.iconst 1, 1) := by decide +kernel
theorem dX12_wrongPattern_54 : decode cX12_wrongPattern 54 = .ok (.if_icmp .ne 7, 3) := by decide +kernel
theorem dX12_wrongPattern_57 : decode cX12_wrongPattern 57 = .ok (.iconst 2, 1) := by decide +kernel
theorem dX12_wrongPattern_58 : decode cX12_wrongPattern 58 = .ok (.goto 46, 3) := by decide +kernel
theorem dX12_wrongPattern_61 : decode cX12_wrongPattern 61 = .ok (.iload_n 3, 1) := by decide +kernel
theorem dX12_wrongPattern_62 : decode cX12_wrongPattern 62 = .ok (.iconst 2, 1) := by decide +kernel
theorem dX12_wrongPattern_63 : decode cX12_wrongPattern 63 = .ok (.if_icmp .ne 18, 3) := by decide +kernel
theorem dX12_wrongPattern_66 : decode cX12_wrongPattern 66 = .ok (.iload 4, 2) := by decide +kernel
theorem dX12_wrongPattern_68 : decode cX12_wrongPattern 68 = .ok (.bipush 93, 2) := by decide +kernel
theorem dX12_wrongPattern_70 : decode cX12_wrongPattern 70 = .ok (.if_icmp .ne 7, 3) := by decide +kernel
theorem dX12_wrongPattern_73 : decode cX12_wrongPattern 73 = .ok (.iconst 0, 1) := by decide +kernel
theorem dX12_wrongPattern_74 : decode cX12_wrongPattern 74 = .ok (.goto 30, 3) := by decide +kernel
theorem dX12_wrongPattern_77 : decode cX12_wrongPattern 77 = .ok (.iconst 2, 1) := by decide +kernel
theorem dX12_wrongPattern_78 : decode cX12_wrongPattern 78 = .ok (.goto 26, 3) := by decide +kernel
theorem dX12_wrongPattern_81 : decode cX12_wrongPattern 81 = .ok (.iload 4, 2) := by decide +kernel
theorem dX12_wrongPattern_83 : decode cX12_wrongPattern 83 = .ok (.bipush 91, 2) := by decide +kernel
theorem dX12_wrongPattern_85 : decode cX12_wrongPattern 85 = .ok (.if_icmp .ne 7, 3) := by decide +kernel
theorem dX12_wrongPattern_88 : decode cX12_wrongPattern 88 = .ok (.iconst 1, 1) := by decide +kernel
theorem dX12_wrongPattern_89 : decode cX12_wrongPattern 89 = .ok (.goto 15, 3) := by decide +kernel
theorem dX12_wrongPattern_92 : decode cX12_wrongPattern 92 = .ok (.iload 4, 2) := by decide +kernel
theorem dX12_wrongPattern_94 : decode cX12_wrongPattern 94 = .ok (.bipush 92, 2) := by decide +kernel
theorem dX12_wrongPattern_96 : decode cX12_wrongPattern 96 = .ok (.if_icmp .ne 7, 3) := by decide +kernel
theorem dX12_wrongPattern_99 : decode cX12_wrongPattern 99 = .ok (.iconst 3, 1) := by decide +kernel
theorem dX12_wrongPattern_100 : decode cX12_wrongPattern 100 = .ok (.goto 4, 3) := by decide +kernel
theorem dX12_wrongPattern_103 : decode cX12_wrongPattern 103 = .ok (.iconst 0, 1) := by decide +kernel
theorem dX12_wrongPattern_104 : decode cX12_wrongPattern 104 = .ok (.istore_n 3, 1) := by decide +kernel
theorem dX12_wrongPattern_105 : decode cX12_wrongPattern 105 = .ok (.iinc 2 1, 3) := by decide +kernel
theorem dX12_wrongPattern_108 : decode cX12_wrongPattern 108 = .ok (.goto (-104), 3) := by decide +kernel
theorem dX12_wrongPattern_111 : decode cX12_wrongPattern 111 = .ok (.iload_n 3, 1) := by decide +kernel
theorem dX12_wrongPattern_112 : decode cX12_wrongPattern 112 = .ok (.ifCond .ne 7, 3) := by decide +kernel
theorem dX12_wrongPattern_115 : decode cX12_wrongPattern 115 = .ok (.iconst (-1), 1) := by decide +kernel
theorem dX12_wrongPattern_116 : decode cX12_wrongPattern 116 = .ok (.goto 4, 3) := by decide +kernel
theorem dX12_wrongPattern_119 : decode cX12_wrongPattern 119 = .ok (.iload_n 2, 1) := by decide +kernel
theorem dX12_wrongPattern_120 : decode cX12_wrongPattern 120 = .ok (.ireturn, 1) := by decide +kernel
theorem dX12_wrongFlag_0 : decode cX12_wrongFlag 0 = .ok (.aload_n 0, 1) := by decide +kernel
theorem dX12_wrongFlag_1 : decode cX12_wrongFlag 1 = .ok (.iload_n 1, 1) := by decide +kernel
theorem dX12_wrongFlag_2 : decode cX12_wrongFlag 2 = .ok (.invokevirtual 184, 3) := by decide +kernel
theorem dX12_wrongFlag_5 : decode cX12_wrongFlag 5 = .ok (.i2l, 1) := by decide +kernel
theorem dX12_wrongFlag_6 : decode cX12_wrongFlag 6 = .ok (.ldc2_w 187, 3) := by decide +kernel
theorem dX12_wrongFlag_9 : decode cX12_wrongFlag 9 = .ok (.ldc2_w 189, 3) := by decide +kernel
theorem dX12_wrongFlag_12 : decode cX12_wrongFlag 12 = .ok (.invokestatic 105, 3) := by decide +kernel
theorem dX12_wrongFlag_15 : decode cX12_wrongFlag 15 = .ok (.ifCond .ne 5, 3) := by decide +kernel
theorem dX12_wrongFlag_18 : decode cX12_wrongFlag 18 = .ok (.iload_n 1, 1) := by decide +kernel
theorem dX12_wrongFlag_19 : decode cX12_wrongFlag 19 = .ok (.ireturn, 1) := by decide +kernel
theorem dX12_wrongFlag_20 : decode cX12_wrongFlag 20 = .ok (.aload_n 0, 1) := by decide +kernel
theorem dX12_wrongFlag_21 : decode cX12_wrongFlag 21 = .ok (.iload_n 1, 1) := by decide +kernel
theorem dX12_wrongFlag_22 : decode cX12_wrongFlag 22 = .ok (.iconst 1, 1) := by decide +kernel
theorem dX12_wrongFlag_23 : decode cX12_wrongFlag 23 = .ok (.iadd, 1) := by decide +kernel
theorem dX12_wrongFlag_24 : decode cX12_wrongFlag 24 = .ok (.invokevirtual 184, 3) := by decide +kernel
theorem dX12_wrongFlag_27 : decode cX12_wrongFlag 27 = .ok (.bipush 32, 2) := by decide +kernel
theorem dX12_wrongFlag_29 : decode cX12_wrongFlag 29 = .ok (.if_icmp .eq 7, 3) := by decide +kernel
theorem dX12_wrongFlag_32 : decode cX12_wrongFlag 32 = .ok (.iload_n 1, 1) := by decide +kernel
theorem dX12_wrongFlag_33 : decode cX12_wrongFlag 33 = .ok (.iconst 1, 1) := by decide +kernel
theorem dX12_wrongFlag_34 : decode cX12_wrongFlag 34 = .ok (.iadd, 1) := by decide +kernel
theorem dX12_wrongFlag_35 : decode cX12_wrongFlag 35 = .ok (.ireturn, 1) := by decide +kernel
theorem dX12_wrongFlag_36 : decode cX12_wrongFlag 36 = .ok (.iload_n 1, 1) := by decide +kernel
theorem dX12_wrongFlag_37 : decode cX12_wrongFlag 37 = .ok (.iconst 2, 1) := by decide +kernel
theorem dX12_wrongFlag_38 : decode cX12_wrongFlag 38 = .ok (.iadd, 1) := by decide +kernel
theorem dX12_wrongFlag_39 : decode cX12_wrongFlag 39 = .ok (.istore_n 2, 1) := by decide +kernel
theorem dX12_wrongFlag_40 : decode cX12_wrongFlag 40 = .ok (.iload_n 2, 1) := by decide +kernel
theorem dX12_wrongFlag_41 : decode cX12_wrongFlag 41 = .ok (.aload_n 0, 1) := by decide +kernel
theorem dX12_wrongFlag_42 : decode cX12_wrongFlag 42 = .ok (.iload_n 2, 1) := by decide +kernel
theorem dX12_wrongFlag_43 : decode cX12_wrongFlag 43 = .ok (.invokevirtual 184, 3) := by decide +kernel
theorem dX12_wrongFlag_46 : decode cX12_wrongFlag 46 = .ok (.bipush 45, 2) := by decide +kernel
theorem dX12_wrongFlag_48 : decode cX12_wrongFlag 48 = .ok (.if_icmp .ne 7, 3) := by decide +kernel
theorem dX12_wrongFlag_51 : decode cX12_wrongFlag 51 = .ok (.iconst 1, 1) := by decide +kernel
theorem dX12_wrongFlag_52 : decode cX12_wrongFlag 52 = .ok (.goto 4, 3) := by decide +kernel
theorem dX12_wrongFlag_55 : decode cX12_wrongFlag 55 = .ok (.iconst 0, 1) := by decide +kernel
theorem dX12_wrongFlag_56 : decode cX12_wrongFlag 56 = .ok (.iadd, 1) := by decide +kernel
theorem dX12_wrongFlag_57 : decode cX12_wrongFlag 57 = .ok (.istore_n 2, 1) := by decide +kernel
theorem dX12_wrongFlag_58 : decode cX12_wrongFlag 58 = .ok (.iconst 0, 1) := by decide +kernel
theorem dX12_wrongFlag_59 : decode cX12_wrongFlag 59 = .ok (.istore_n 3, 1) := by decide +kernel
theorem dX12_wrongFlag_60 : decode cX12_wrongFlag 60 = .ok (.aload_n 0, 1) := by decide +kernel
theorem dX12_wrongFlag_61 : decode cX12_wrongFlag 61 = .ok (.iload_n 2, 1) := by decide +kernel
theorem dX12_wrongFlag_62 : decode cX12_wrongFlag 62 = .ok (.invokevirtual 184, 3) := by decide +kernel
theorem dX12_wrongFlag_65 : decode cX12_wrongFlag 65 = .ok (.i2l, 1) := by decide +kernel
theorem dX12_wrongFlag_66 : decode cX12_wrongFlag 66 = .ok (.ldc2_w 187, 3) := by decide +kernel
theorem dX12_wrongFlag_69 : decode cX12_wrongFlag 69 = .ok (.ldc2_w 191, 3) := by decide +kernel
theorem dX12_wrongFlag_72 : decode cX12_wrongFlag 72 = .ok (.invokestatic 105, 3) := by decide +kernel
theorem dX12_wrongFlag_75 : decode cX12_wrongFlag 75 = .ok (.ifCond .eq 18, 3) := by decide +kernel
theorem dX12_wrongFlag_78 : decode cX12_wrongFlag 78 = .ok (.iload_n 3, 1) := by decide +kernel
theorem dX12_wrongFlag_79 : decode cX12_wrongFlag 79 = .ok (.bipush 6, 2) := by decide +kernel
theorem dX12_wrongFlag_81 : decode cX12_wrongFlag 81 = .ok (.if_icmp .ge 12, 3) := by decide +kernel
theorem dX12_wrongFlag_84 : decode cX12_wrongFlag 84 = .ok (.iinc 3 1, 3) := by decide +kernel
theorem dX12_wrongFlag_87 : decode cX12_wrongFlag 87 = .ok (.iinc 2 1, 3) := by decide +kernel
theorem dX12_wrongFlag_90 : decode cX12_wrongFlag 90 = .ok (.goto (-30), 3) := by decide +kernel
theorem dX12_wrongFlag_93 : decode cX12_wrongFlag 93 = .ok (.iload_n 3, 1) := by decide +kernel
theorem dX12_wrongFlag_94 : decode cX12_wrongFlag 94 = .ok (.ifCond .le 17, 3) := by decide +kernel
theorem dX12_wrongFlag_97 : decode cX12_wrongFlag 97 = .ok (.aload_n 0, 1) := by decide +kernel
theorem dX12_wrongFlag_98 : decode cX12_wrongFlag 98 = .ok (.iload_n 2, 1) := by decide +kernel
theorem dX12_wrongFlag_99 : decode cX12_wrongFlag 99 = .ok (.invokevirtual 184, 3) := by decide +kernel
theorem dX12_wrongFlag_102 : decode cX12_wrongFlag 102 = .ok (.bipush 10, 2) := by decide +kernel
theorem dX12_wrongFlag_104 : decode cX12_wrongFlag 104 = .ok (.if_icmp .ne 7, 3) := by decide +kernel
theorem dX12_wrongFlag_107 : decode cX12_wrongFlag 107 = .ok (.iconst (-1), 1) := by decide +kernel
theorem dX12_wrongFlag_108 : decode cX12_wrongFlag 108 = .ok (.goto 4, 3) := by decide +kernel
theorem dX12_wrongFlag_111 : decode cX12_wrongFlag 111 = .ok (.iload_n 2, 1) := by decide +kernel
theorem dX12_wrongFlag_112 : decode cX12_wrongFlag 112 = .ok (.ireturn, 1) := by decide +kernel
theorem dX12_wrongDigit_0 : decode cX12_wrongDigit 0 = .ok (.aload_n 0, 1) := by decide +kernel
theorem dX12_wrongDigit_1 : decode cX12_wrongDigit 1 = .ok (.iload_n 1, 1) := by decide +kernel
theorem dX12_wrongDigit_2 : decode cX12_wrongDigit 2 = .ok (.invokevirtual 184, 3) := by decide +kernel
theorem dX12_wrongDigit_5 : decode cX12_wrongDigit 5 = .ok (.i2l, 1) := by decide +kernel
theorem dX12_wrongDigit_6 : decode cX12_wrongDigit 6 = .ok (.iload_n 2, 1) := by decide +kernel
theorem dX12_wrongDigit_7 : decode cX12_wrongDigit 7 = .ok (.i2l, 1) := by decide +kernel
theorem dX12_wrongDigit_8 : decode cX12_wrongDigit 8 = .ok (.iload_n 3, 1) := by decide +kernel
theorem dX12_wrongDigit_9 : decode cX12_wrongDigit 9 = .ok (.i2l, 1) := by decide +kernel
theorem dX12_wrongDigit_10 : decode cX12_wrongDigit 10 = .ok (.invokestatic 105, 3) := by decide +kernel
theorem dX12_wrongDigit_13 : decode cX12_wrongDigit 13 = .ok (.ifCond .ne 7, 3) := by decide +kernel
theorem dX12_wrongDigit_16 : decode cX12_wrongDigit 16 = .ok (.iload_n 1, 1) := by decide +kernel
theorem dX12_wrongDigit_17 : decode cX12_wrongDigit 17 = .ok (.goto 22, 3) := by decide +kernel
theorem dX12_wrongDigit_20 : decode cX12_wrongDigit 20 = .ok (.aload_n 0, 1) := by decide +kernel
theorem dX12_wrongDigit_21 : decode cX12_wrongDigit 21 = .ok (.iload_n 1, 1) := by decide +kernel
theorem dX12_wrongDigit_22 : decode cX12_wrongDigit 22 = .ok (.iconst 1, 1) := by decide +kernel
theorem dX12_wrongDigit_23 : decode cX12_wrongDigit 23 = .ok (.iadd, 1) := by decide +kernel
theorem dX12_wrongDigit_24 : decode cX12_wrongDigit 24 = .ok (.invokevirtual 184, 3) := by decide +kernel
theorem dX12_wrongDigit_27 : decode cX12_wrongDigit 27 = .ok (.bipush 10, 2) := by decide +kernel
theorem dX12_wrongDigit_29 : decode cX12_wrongDigit 29 = .ok (.if_icmp .eq 9, 3) := by decide +kernel
theorem dX12_wrongDigit_32 : decode cX12_wrongDigit 32 = .ok (.iload_n 1, 1) := by decide +kernel
theorem dX12_wrongDigit_33 : decode cX12_wrongDigit 33 = .ok (.iconst 1, 1) := by decide +kernel
theorem dX12_wrongDigit_34 : decode cX12_wrongDigit 34 = .ok (.iadd, 1) := by decide +kernel
theorem dX12_wrongDigit_35 : decode cX12_wrongDigit 35 = .ok (.goto 4, 3) := by decide +kernel
theorem dX12_wrongDigit_38 : decode cX12_wrongDigit 38 = .ok (.iconst (-1), 1) := by decide +kernel
theorem dX12_wrongDigit_39 : decode cX12_wrongDigit 39 = .ok (.ireturn, 1) := by decide +kernel
theorem dX12_wrongLine_0 : decode cX12_wrongLine 0 = .ok (.aload_n 0, 1) := by decide +kernel
theorem dX12_wrongLine_1 : decode cX12_wrongLine 1 = .ok (.iload_n 1, 1) := by decide +kernel
theorem dX12_wrongLine_2 : decode cX12_wrongLine 2 = .ok (.invokevirtual 184, 3) := by decide +kernel
theorem dX12_wrongLine_5 : decode cX12_wrongLine 5 = .ok (.istore_n 2, 1) := by decide +kernel
theorem dX12_wrongLine_6 : decode cX12_wrongLine 6 = .ok (.iload_n 2, 1) := by decide +kernel
theorem dX12_wrongLine_7 : decode cX12_wrongLine 7 = .ok (.bipush 62, 2) := by decide +kernel
theorem dX12_wrongLine_9 : decode cX12_wrongLine 9 = .ok (.if_icmp .eq 47, 3) := by decide +kernel
theorem dX12_wrongLine_12 : decode cX12_wrongLine 12 = .ok (.iload_n 2, 1) := by decide +kernel
theorem dX12_wrongLine_13 : decode cX12_wrongLine 13 = .ok (.bipush 61, 2) := by decide +kernel
theorem dX12_wrongLine_15 : decode cX12_wrongLine 15 = .ok (.if_icmp .eq 41, 3) := by decide +kernel
theorem dX12_wrongLine_18 : decode cX12_wrongLine 18 = .ok (.iload_n 2, 1) := by decide +kernel
theorem dX12_wrongLine_19 : decode cX12_wrongLine 19 = .ok (.bipush 63, 2) := by decide +kernel
theorem dX12_wrongLine_21 : decode cX12_wrongLine 21 = .ok (.if_icmp .eq 35, 3) := by decide +kernel
theorem dX12_wrongLine_24 : decode cX12_wrongLine 24 = .ok (.iload_n 2, 1) := by decide +kernel
theorem dX12_wrongLine_25 : decode cX12_wrongLine 25 = .ok (.bipush 64, 2) := by decide +kernel
theorem dX12_wrongLine_27 : decode cX12_wrongLine 27 = .ok (.if_icmp .eq 29, 3) := by decide +kernel
theorem dX12_wrongLine_30 : decode cX12_wrongLine 30 = .ok (.iload_n 2, 1) := by decide +kernel
theorem dX12_wrongLine_31 : decode cX12_wrongLine 31 = .ok (.bipush 33, 2) := by decide +kernel
theorem dX12_wrongLine_33 : decode cX12_wrongLine 33 = .ok (.if_icmp .eq 23, 3) := by decide +kernel
theorem dX12_wrongLine_36 : decode cX12_wrongLine 36 = .ok (.iload_n 2, 1) := by decide +kernel
theorem dX12_wrongLine_37 : decode cX12_wrongLine 37 = .ok (.bipush 115, 2) := by decide +kernel
theorem dX12_wrongLine_39 : decode cX12_wrongLine 39 = .ok (.if_icmp .eq 17, 3) := by decide +kernel
theorem dX12_wrongLine_42 : decode cX12_wrongLine 42 = .ok (.iload_n 2, 1) := by decide +kernel
theorem dX12_wrongLine_43 : decode cX12_wrongLine 43 = .ok (.bipush 98, 2) := by decide +kernel
theorem dX12_wrongLine_45 : decode cX12_wrongLine 45 = .ok (.if_icmp .eq 11, 3) := by decide +kernel
theorem dX12_wrongLine_48 : decode cX12_wrongLine 48 = .ok (.iload_n 2, 1) := by decide +kernel
theorem dX12_wrongLine_49 : decode cX12_wrongLine 49 = .ok (.bipush 35, 2) := by decide +kernel
theorem dX12_wrongLine_51 : decode cX12_wrongLine 51 = .ok (.if_icmp .eq 5, 3) := by decide +kernel
theorem dX12_wrongLine_54 : decode cX12_wrongLine 54 = .ok (.iload_n 1, 1) := by decide +kernel
theorem dX12_wrongLine_55 : decode cX12_wrongLine 55 = .ok (.ireturn, 1) := by decide +kernel
theorem dX12_wrongLine_56 : decode cX12_wrongLine 56 = .ok (.aload_n 0, 1) := by decide +kernel
theorem dX12_wrongLine_57 : decode cX12_wrongLine 57 = .ok (.iload_n 1, 1) := by decide +kernel
theorem dX12_wrongLine_58 : decode cX12_wrongLine 58 = .ok (.iconst 1, 1) := by decide +kernel
theorem dX12_wrongLine_59 : decode cX12_wrongLine 59 = .ok (.iadd, 1) := by decide +kernel
theorem dX12_wrongLine_60 : decode cX12_wrongLine 60 = .ok (.invokevirtual 184, 3) := by decide +kernel
theorem dX12_wrongLine_63 : decode cX12_wrongLine 63 = .ok (.bipush 32, 2) := by decide +kernel
theorem dX12_wrongLine_65 : decode cX12_wrongLine 65 = .ok (.if_icmp .eq 7, 3) := by decide +kernel
theorem dX12_wrongLine_68 : decode cX12_wrongLine 68 = .ok (.iload_n 1, 1) := by decide +kernel
theorem dX12_wrongLine_69 : decode cX12_wrongLine 69 = .ok (.iconst 1, 1) := by decide +kernel
theorem dX12_wrongLine_70 : decode cX12_wrongLine 70 = .ok (.iadd, 1) := by decide +kernel
theorem dX12_wrongLine_71 : decode cX12_wrongLine 71 = .ok (.ireturn, 1) := by decide +kernel
theorem dX12_wrongLine_72 : decode cX12_wrongLine 72 = .ok (.iload_n 2, 1) := by decide +kernel
theorem dX12_wrongLine_73 : decode cX12_wrongLine 73 = .ok (.lookupswitch 110 #[(33, 96), (35, 108), (61, 68), (62, 59), (63, 76), (64, 84)], 59) := by decide +kernel
theorem dX12_wrongLine_132 : decode cX12_wrongLine 132 = .ok (.aload_n 0, 1) := by decide +kernel
theorem dX12_wrongLine_133 : decode cX12_wrongLine 133 = .ok (.iload_n 1, 1) := by decide +kernel
theorem dX12_wrongLine_134 : decode cX12_wrongLine 134 = .ok (.iconst 2, 1) := by decide +kernel
theorem dX12_wrongLine_135 : decode cX12_wrongLine 135 = .ok (.iadd, 1) := by decide +kernel
theorem dX12_wrongLine_136 : decode cX12_wrongLine 136 = .ok (.iconst 0, 1) := by decide +kernel
theorem dX12_wrongLine_137 : decode cX12_wrongLine 137 = .ok (.invokevirtual 193, 3) := by decide +kernel
theorem dX12_wrongLine_140 : decode cX12_wrongLine 140 = .ok (.ireturn, 1) := by decide +kernel
theorem dX12_wrongLine_141 : decode cX12_wrongLine 141 = .ok (.aload_n 0, 1) := by decide +kernel
theorem dX12_wrongLine_142 : decode cX12_wrongLine 142 = .ok (.iload_n 1, 1) := by decide +kernel
theorem dX12_wrongLine_143 : decode cX12_wrongLine 143 = .ok (.iconst 2, 1) := by decide +kernel
theorem dX12_wrongLine_144 : decode cX12_wrongLine 144 = .ok (.iadd, 1) := by decide +kernel
theorem dX12_wrongLine_145 : decode cX12_wrongLine 145 = .ok (.invokevirtual 197, 3) := by decide +kernel
theorem dX12_wrongLine_148 : decode cX12_wrongLine 148 = .ok (.ireturn, 1) := by decide +kernel
theorem dX12_wrongLine_149 : decode cX12_wrongLine 149 = .ok (.aload_n 0, 1) := by decide +kernel
theorem dX12_wrongLine_150 : decode cX12_wrongLine 150 = .ok (.iload_n 1, 1) := by decide +kernel
theorem dX12_wrongLine_151 : decode cX12_wrongLine 151 = .ok (.iconst 2, 1) := by decide +kernel
theorem dX12_wrongLine_152 : decode cX12_wrongLine 152 = .ok (.iadd, 1) := by decide +kernel
theorem dX12_wrongLine_153 : decode cX12_wrongLine 153 = .ok (.invokevirtual 200, 3) := by decide +kernel
theorem dX12_wrongLine_156 : decode cX12_wrongLine 156 = .ok (.ireturn, 1) := by decide +kernel
theorem dX12_wrongLine_157 : decode cX12_wrongLine 157 = .ok (.aload_n 0, 1) := by decide +kernel
theorem dX12_wrongLine_158 : decode cX12_wrongLine 158 = .ok (.iload_n 1, 1) := by decide +kernel
theorem dX12_wrongLine_159 : decode cX12_wrongLine 159 = .ok (.iconst 2, 1) := by decide +kernel
theorem dX12_wrongLine_160 : decode cX12_wrongLine 160 = .ok (.iadd, 1) := by decide +kernel
theorem dX12_wrongLine_161 : decode cX12_wrongLine 161 = .ok (.bipush 48, 2) := by decide +kernel
theorem dX12_wrongLine_163 : decode cX12_wrongLine 163 = .ok (.bipush 55, 2) := by decide +kernel
theorem dX12_wrongLine_165 : decode cX12_wrongLine 165 = .ok (.invokevirtual 203, 3) := by decide +kernel
theorem dX12_wrongLine_168 : decode cX12_wrongLine 168 = .ok (.ireturn, 1) := by decide +kernel
theorem dX12_wrongLine_169 : decode cX12_wrongLine 169 = .ok (.aload_n 0, 1) := by decide +kernel
theorem dX12_wrongLine_170 : decode cX12_wrongLine 170 = .ok (.iload_n 1, 1) := by decide +kernel
theorem dX12_wrongLine_171 : decode cX12_wrongLine 171 = .ok (.iconst 2, 1) := by decide +kernel
theorem dX12_wrongLine_172 : decode cX12_wrongLine 172 = .ok (.iadd, 1) := by decide +kernel
theorem dX12_wrongLine_173 : decode cX12_wrongLine 173 = .ok (.bipush 49, 2) := by decide +kernel
theorem dX12_wrongLine_175 : decode cX12_wrongLine 175 = .ok (.bipush 57, 2) := by decide +kernel
theorem dX12_wrongLine_177 : decode cX12_wrongLine 177 = .ok (.invokevirtual 203, 3) := by decide +kernel
theorem dX12_wrongLine_180 : decode cX12_wrongLine 180 = .ok (.ireturn, 1) := by decide +kernel
theorem dX12_wrongLine_181 : decode cX12_wrongLine 181 = .ok (.iconst (-1), 1) := by decide +kernel
theorem dX12_wrongLine_182 : decode cX12_wrongLine 182 = .ok (.ireturn, 1) := by decide +kernel
theorem dX12_wrongLine_183 : decode cX12_wrongLine 183 = .ok (.aload_n 0, 1) := by decide +kernel
theorem dX12_wrongLine_184 : decode cX12_wrongLine 184 = .ok (.iload_n 1, 1) := by decide +kernel
theorem dX12_wrongLine_185 : decode cX12_wrongLine 185 = .ok (.iconst 2, 1) := by decide +kernel
theorem dX12_wrongLine_186 : decode cX12_wrongLine 186 = .ok (.iadd, 1) := by decide +kernel
theorem dX12_wrongLine_187 : decode cX12_wrongLine 187 = .ok (.bipush 48, 2) := by decide +kernel
theorem dX12_wrongLine_189 : decode cX12_wrongLine 189 = .ok (.bipush 51, 2) := by decide +kernel
theorem dX12_wrongLine_191 : decode cX12_wrongLine 191 = .ok (.invokevirtual 203, 3) := by decide +kernel
theorem dX12_wrongLine_194 : decode cX12_wrongLine 194 = .ok (.ireturn, 1) := by decide +kernel
theorem dX12_script_0 : decode cX12_script 0 = .ok (.aload_n 0, 1) := by decide +kernel
theorem dX12_script_1 : decode cX12_script 1 = .ok (.iconst 0, 1) := by decide +kernel
theorem dX12_script_2 : decode cX12_script 2 = .ok (.putfield 1, 3) := by decide +kernel
theorem dX12_script_5 : decode cX12_script 5 = .ok (.iconst (-1), 1) := by decide +kernel
theorem dX12_script_6 : decode cX12_script 6 = .ok (.istore_n 1, 1) := by decide +kernel
theorem dX12_script_7 : decode cX12_script 7 = .ok (.iconst 0, 1) := by decide +kernel
theorem dX12_script_8 : decode cX12_script 8 = .ok (.istore_n 2, 1) := by decide +kernel
theorem dX12_script_9 : decode cX12_script 9 = .ok (.iconst 0, 1) := by decide +kernel
theorem dX12_script_10 : decode cX12_script 10 = .ok (.istore_n 3, 1) := by decide +kernel
theorem dX12_script_11 : decode cX12_script 11 = .ok (.iload_n 2, 1) := by decide +kernel
theorem dX12_script_12 : decode cX12_script 12 = .ok (.aload_n 0, 1) := by decide +kernel
theorem dX12_script_13 : decode cX12_script 13 = .ok (.getfield 109, 3) := by decide +kernel
theorem dX12_script_16 : decode cX12_script 16 = .ok (.if_icmp .ge 68, 3) := by decide +kernel
theorem dX12_script_19 : decode cX12_script 19 = .ok (.iload_n 1, 1) := by decide +kernel
theorem dX12_script_20 : decode cX12_script 20 = .ok (.ifCond .ge 64, 3) := by decide +kernel
theorem dX12_script_23 : decode cX12_script 23 = .ok (.iinc 3 1, 3) := by decide +kernel
theorem dX12_script_26 : decode cX12_script 26 = .ok (.aload_n 0, 1) := by decide +kernel
theorem dX12_script_27 : decode cX12_script 27 = .ok (.getfield 13, 3) := by decide +kernel
theorem dX12_script_30 : decode cX12_script 30 = .ok (.iload_n 2, 1) := by decide +kernel
theorem dX12_script_31 : decode cX12_script 31 = .ok (.iaload, 1) := by decide +kernel
theorem dX12_script_32 : decode cX12_script 32 = .ok (.bipush 10, 2) := by decide +kernel
theorem dX12_script_34 : decode cX12_script 34 = .ok (.if_icmp .eq 44, 3) := by decide +kernel
theorem dX12_script_37 : decode cX12_script 37 = .ok (.iload_n 3, 1) := by decide +kernel
theorem dX12_script_38 : decode cX12_script 38 = .ok (.bipush 40, 2) := by decide +kernel
theorem dX12_script_40 : decode cX12_script 40 = .ok (.if_icmp .le 7, 3) := by decide +kernel
theorem dX12_script_43 : decode cX12_script 43 = .ok (.iload_n 2, 1) := by decide +kernel
theorem dX12_script_44 : decode cX12_script 44 = .ok (.goto 8, 3) := by decide +kernel
theorem dX12_script_47 : decode cX12_script 47 = .ok (.aload_n 0, 1) := by decide +kernel
theorem dX12_script_48 : decode cX12_script 48 = .ok (.iload_n 2, 1) := by decide +kernel
theorem dX12_script_49 : decode cX12_script 49 = .ok (.invokevirtual 207, 3) := by decide +kernel
theorem dX12_script_52 : decode cX12_script 52 = .ok (.istore_n 1, 1) := by decide +kernel
theorem dX12_script_53 : decode cX12_script 53 = .ok (.iload_n 2, 1) := by decide +kernel
theorem dX12_script_54 : decode cX12_script 54 = .ok (.aload_n 0, 1) := by decide +kernel
theorem dX12_script_55 : decode cX12_script 55 = .ok (.getfield 109, 3) := by decide +kernel
theorem dX12_script_58 : decode cX12_script 58 = .ok (.if_icmp .ge 20, 3) := by decide +kernel
theorem dX12_script_61 : decode cX12_script 61 = .ok (.aload_n 0, 1) := by decide +kernel
theorem dX12_script_62 : decode cX12_script 62 = .ok (.getfield 13, 3) := by decide +kernel
theorem dX12_script_65 : decode cX12_script 65 = .ok (.iload_n 2, 1) := by decide +kernel
theorem dX12_script_66 : decode cX12_script 66 = .ok (.iaload, 1) := by decide +kernel
theorem dX12_script_67 : decode cX12_script 67 = .ok (.bipush 10, 2) := by decide +kernel
theorem dX12_script_69 : decode cX12_script 69 = .ok (.if_icmp .eq 9, 3) := by decide +kernel
theorem dX12_script_72 : decode cX12_script 72 = .ok (.iinc 2 1, 3) := by decide +kernel
theorem dX12_script_75 : decode cX12_script 75 = .ok (.goto (-22), 3) := by decide +kernel
theorem dX12_script_78 : decode cX12_script 78 = .ok (.iinc 2 1, 3) := by decide +kernel
theorem dX12_script_81 : decode cX12_script 81 = .ok (.goto (-70), 3) := by decide +kernel
theorem dX12_script_84 : decode cX12_script 84 = .ok (.aload_n 0, 1) := by decide +kernel
theorem dX12_script_85 : decode cX12_script 85 = .ok (.getfield 109, 3) := by decide +kernel
theorem dX12_script_88 : decode cX12_script 88 = .ok (.istore 4, 2) := by decide +kernel
theorem dX12_script_90 : decode cX12_script 90 = .ok (.aload_n 0, 1) := by decide +kernel
theorem dX12_script_91 : decode cX12_script 91 = .ok (.iconst 0, 1) := by decide +kernel
theorem dX12_script_92 : decode cX12_script 92 = .ok (.putfield 109, 3) := by decide +kernel
theorem dX12_script_95 : decode cX12_script 95 = .ok (.aload_n 0, 1) := by decide +kernel
theorem dX12_script_96 : decode cX12_script 96 = .ok (.getfield 210, 3) := by decide +kernel
theorem dX12_script_99 : decode cX12_script 99 = .ok (.bipush 10, 2) := by decide +kernel
theorem dX12_script_101 : decode cX12_script 101 = .ok (.if_icmp .ne 6, 3) := by decide +kernel
theorem dX12_script_104 : decode cX12_script 104 = .ok (.bipush (-5), 2) := by decide +kernel
theorem dX12_script_106 : decode cX12_script 106 = .ok (.ireturn, 1) := by decide +kernel
theorem dX12_script_107 : decode cX12_script 107 = .ok (.iload_n 1, 1) := by decide +kernel
theorem dX12_script_108 : decode cX12_script 108 = .ok (.ifCond .lt 8, 3) := by decide +kernel
theorem dX12_script_111 : decode cX12_script 111 = .ok (.bipush (-10), 2) := by decide +kernel
theorem dX12_script_113 : decode cX12_script 113 = .ok (.iload_n 1, 1) := by decide +kernel
theorem dX12_script_114 : decode cX12_script 114 = .ok (.isub, 1) := by decide +kernel
theorem dX12_script_115 : decode cX12_script 115 = .ok (.ireturn, 1) := by decide +kernel
theorem dX12_script_116 : decode cX12_script 116 = .ok (.iconst 0, 1) := by decide +kernel
theorem dX12_script_117 : decode cX12_script 117 = .ok (.istore 5, 2) := by decide +kernel
theorem dX12_script_119 : decode cX12_script 119 = .ok (.iload 5, 2) := by decide +kernel
theorem dX12_script_121 : decode cX12_script 121 = .ok (.iload 4, 2) := by decide +kernel
theorem dX12_script_123 : decode cX12_script 123 = .ok (.if_icmp .ge 32, 3) := by decide +kernel
theorem dX12_script_126 : decode cX12_script 126 = .ok (.aload_n 0, 1) := by decide +kernel
theorem dX12_script_127 : decode cX12_script 127 = .ok (.getfield 82, 3) := by decide +kernel
theorem dX12_script_130 : decode cX12_script 130 = .ok (.sipush 600, 3) := by decide +kernel
theorem dX12_script_133 : decode cX12_script 133 = .ok (.aload_n 0, 1) := by decide +kernel
theorem dX12_script_134 : decode cX12_script 134 = .ok (.getfield 210, 3) := by decide +kernel
theorem dX12_script_137 : decode cX12_script 137 = .ok (.imul, 1) := by decide +kernel
theorem dX12_script_138 : decode cX12_script 138 = .ok (.iload 5, 2) := by decide +kernel
theorem dX12_script_140 : decode cX12_script 140 = .ok (.iadd, 1) := by decide +kernel
theorem dX12_script_141 : decode cX12_script 141 = .ok (.aload_n 0, 1) := by decide +kernel
theorem dX12_script_142 : decode cX12_script 142 = .ok (.getfield 13, 3) := by decide +kernel
theorem dX12_script_145 : decode cX12_script 145 = .ok (.iload 5, 2) := by decide +kernel
theorem dX12_script_147 : decode cX12_script 147 = .ok (.iaload, 1) := by decide +kernel
theorem dX12_script_148 : decode cX12_script 148 = .ok (.iastore, 1) := by decide +kernel
theorem dX12_script_149 : decode cX12_script 149 = .ok (.iinc 5 1, 3) := by decide +kernel
theorem dX12_script_152 : decode cX12_script 152 = .ok (.goto (-33), 3) := by decide +kernel
theorem dX12_script_155 : decode cX12_script 155 = .ok (.aload_n 0, 1) := by decide +kernel
theorem dX12_script_156 : decode cX12_script 156 = .ok (.getfield 85, 3) := by decide +kernel
theorem dX12_script_159 : decode cX12_script 159 = .ok (.aload_n 0, 1) := by decide +kernel
theorem dX12_script_160 : decode cX12_script 160 = .ok (.getfield 210, 3) := by decide +kernel
theorem dX12_script_163 : decode cX12_script 163 = .ok (.iload 4, 2) := by decide +kernel
theorem dX12_script_165 : decode cX12_script 165 = .ok (.iastore, 1) := by decide +kernel
theorem dX12_script_166 : decode cX12_script 166 = .ok (.aload_n 0, 1) := by decide +kernel
theorem dX12_script_167 : decode cX12_script 167 = .ok (.dup, 1) := by decide +kernel
theorem dX12_script_168 : decode cX12_script 168 = .ok (.getfield 210, 3) := by decide +kernel
theorem dX12_script_171 : decode cX12_script 171 = .ok (.iconst 1, 1) := by decide +kernel
theorem dX12_script_172 : decode cX12_script 172 = .ok (.iadd, 1) := by decide +kernel
theorem dX12_script_173 : decode cX12_script 173 = .ok (.putfield 210, 3) := by decide +kernel
theorem dX12_script_176 : decode cX12_script 176 = .ok (.aload_n 0, 1) := by decide +kernel
theorem dX12_script_177 : decode cX12_script 177 = .ok (.getfield 210, 3) := by decide +kernel
theorem dX12_script_180 : decode cX12_script 180 = .ok (.iconst 1, 1) := by decide +kernel
theorem dX12_script_181 : decode cX12_script 181 = .ok (.isub, 1) := by decide +kernel
theorem dX12_script_182 : decode cX12_script 182 = .ok (.ireturn, 1) := by decide +kernel
theorem dX12_signOf_0 : decode cX12_signOf 0 = .ok (.iload_n 1, 1) := by decide +kernel
theorem dX12_signOf_1 : decode cX12_signOf 1 = .ok (.ifCond .ge 8, 3) := by decide +kernel
theorem dX12_signOf_4 : decode cX12_signOf 4 = .ok (.bipush 63, 2) := by decide +kernel
theorem dX12_signOf_6 : decode cX12_signOf 6 = .ok (.goto 14, 3) := by decide +kernel
theorem dX12_signOf_9 : decode cX12_signOf 9 = .ok (.aload_n 0, 1) := by decide +kernel
theorem dX12_signOf_10 : decode cX12_signOf 10 = .ok (.getfield 23, 3) := by decide +kernel
theorem dX12_signOf_13 : decode cX12_signOf 13 = .ok (.bipush 20, 2) := by decide +kernel
theorem dX12_signOf_15 : decode cX12_signOf 15 = .ok (.iload_n 1, 1) := by decide +kernel
theorem dX12_signOf_16 : decode cX12_signOf 16 = .ok (.imul, 1) := by decide +kernel
theorem dX12_signOf_17 : decode cX12_signOf 17 = .ok (.iload_n 2, 1) := by decide +kernel
theorem dX12_signOf_18 : decode cX12_signOf 18 = .ok (.iadd, 1) := by decide +kernel
theorem dX12_signOf_19 : decode cX12_signOf 19 = .ok (.iaload, 1) := by decide +kernel
theorem dX12_signOf_20 : decode cX12_signOf 20 = .ok (.ireturn, 1) := by decide +kernel
theorem dX12_signsOf_0 : decode cX12_signsOf 0 = .ok (.iload_n 1, 1) := by decide +kernel
theorem dX12_signsOf_1 : decode cX12_signsOf 1 = .ok (.ifCond .ge 7, 3) := by decide +kernel
theorem dX12_signsOf_4 : decode cX12_signsOf 4 = .ok (.iconst 1, 1) := by decide +kernel
theorem dX12_signsOf_5 : decode cX12_signsOf 5 = .ok (.goto 9, 3) := by decide +kernel
theorem dX12_signsOf_8 : decode cX12_signsOf 8 = .ok (.aload_n 0, 1) := by decide +kernel
theorem dX12_signsOf_9 : decode cX12_signsOf 9 = .ok (.getfield 26, 3) := by decide +kernel
theorem dX12_signsOf_12 : decode cX12_signsOf 12 = .ok (.iload_n 1, 1) := by decide +kernel
theorem dX12_signsOf_13 : decode cX12_signsOf 13 = .ok (.iaload, 1) := by decide +kernel
theorem dX12_signsOf_14 : decode cX12_signsOf 14 = .ok (.ireturn, 1) := by decide +kernel
theorem dX12_matches_0 : decode cX12_matches 0 = .ok (.aload_n 0, 1) := by decide +kernel
theorem dX12_matches_1 : decode cX12_matches 1 = .ok (.iload_n 3, 1) := by decide +kernel
theorem dX12_matches_2 : decode cX12_matches 2 = .ok (.invokevirtual 213, 3) := by decide +kernel
theorem dX12_matches_5 : decode cX12_matches 5 = .ok (.istore 4, 2) := by decide +kernel
theorem dX12_matches_7 : decode cX12_matches 7 = .ok (.iconst 1, 1) := by decide +kernel
theorem dX12_matches_8 : decode cX12_matches 8 = .ok (.istore 5, 2) := by decide +kernel
theorem dX12_matches_10 : decode cX12_matches 10 = .ok (.iload_n 1, 1) := by decide +kernel
theorem dX12_matches_11 : decode cX12_matches 11 = .ok (.istore 6, 2) := by decide +kernel
theorem dX12_matches_13 : decode cX12_matches 13 = .ok (.iload 6, 2) := by decide +kernel
theorem dX12_matches_15 : decode cX12_matches 15 = .ok (.iload_n 2, 1) := by decide +kernel
theorem dX12_matches_16 : decode cX12_matches 16 = .ok (.if_icmp .ge 289, 3) := by decide +kernel
theorem dX12_matches_19 : decode cX12_matches 19 = .ok (.aload_n 0, 1) := by decide +kernel
theorem dX12_matches_20 : decode cX12_matches 20 = .ok (.getfield 82, 3) := by decide +kernel
theorem dX12_matches_23 : decode cX12_matches 23 = .ok (.iload 6, 2) := by decide +kernel
theorem dX12_matches_25 : decode cX12_matches 25 = .ok (.iaload, 1) := by decide +kernel
theorem dX12_matches_26 : decode cX12_matches 26 = .ok (.istore 7, 2) := by decide +kernel
theorem dX12_matches_28 : decode cX12_matches 28 = .ok (.iload 6, 2) := by decide +kernel
theorem dX12_matches_30 : decode cX12_matches 30 = .ok (.iconst 1, 1) := by decide +kernel
theorem dX12_matches_31 : decode cX12_matches 31 = .ok (.iadd, 1) := by decide +kernel
theorem dX12_matches_32 : decode cX12_matches 32 = .ok (.istore 8, 2) := by decide +kernel
theorem dX12_matches_34 : decode cX12_matches 34 = .ok (.iload 7, 2) := by decide +kernel
theorem dX12_matches_36 : decode cX12_matches 36 = .ok (.bipush 91, 2) := by decide +kernel
theorem dX12_matches_38 : decode cX12_matches 38 = .ok (.if_icmp .ne 27, 3) := by decide +kernel
theorem dX12_matches_41 : decode cX12_matches 41 = .ok (.aload_n 0, 1) := by decide +kernel
theorem dX12_matches_42 : decode cX12_matches 42 = .ok (.getfield 82, 3) := by decide +kernel
theorem dX12_matches_45 : decode cX12_matches 45 = .ok (.iload 8, 2) := by decide +kernel
theorem dX12_matches_47 : decode cX12_matches 47 = .ok (.iaload, 1) := by decide +kernel
theorem dX12_matches_48 : decode cX12_matches 48 = .ok (.bipush 93, 2) := by decide +kernel
theorem dX12_matches_50 : decode cX12_matches 50 = .ok (.if_icmp .eq 9, 3) := by decide +kernel
theorem dX12_matches_53 : decode cX12_matches 53 = .ok (.iinc 8 1, 3) := by decide +kernel
theorem dX12_matches_56 : decode cX12_matches 56 = .ok (.goto (-15), 3) := by decide +kernel
theorem dX12_matches_59 : decode cX12_matches 59 = .ok (.iinc 8 1, 3) := by decide +kernel
theorem dX12_matches_62 : decode cX12_matches 62 = .ok (.goto 13, 3) := by decide +kernel
theorem dX12_matches_65 : decode cX12_matches 65 = .ok (.iload 7, 2) := by decide +kernel
theorem dX12_matches_67 : decode cX12_matches 67 = .ok (.bipush 92, 2) := by decide +kernel
theorem dX12_matches_69 : decode cX12_matches 69 = .ok (.if_icmp .ne 6, 3) := by decide +kernel
theorem dX12_matches_72 : decode cX12_matches 72 = .ok (.iinc 8 1, 3) := by decide +kernel
theorem dX12_matches_75 : decode cX12_matches 75 = .ok (.iconst 0, 1) := by decide +kernel
theorem dX12_matches_76 : decode cX12_matches 76 = .ok (.istore 9, 2) := by decide +kernel
theorem dX12_matches_78 : decode cX12_matches 78 = .ok (.iconst 0, 1) := by decide +kernel
theorem dX12_matches_79 : decode cX12_matches 79 = .ok (.istore 10, 2) := by decide +kernel
theorem dX12_matches_81 : decode cX12_matches 81 = .ok (.iload 10, 2) := by decide +kernel
theorem dX12_matches_83 : decode cX12_matches 83 = .ok (.iload 4, 2) := by decide +kernel
theorem dX12_matches_85 : decode cX12_matches 85 = .ok (.if_icmp .gt 209, 3) := by decide +kernel
theorem dX12_matches_88 : decode cX12_matches 88 = .ok (.iload 5, 2) := by decide +kernel
theorem dX12_matches_90 : decode cX12_matches 90 = .ok (.iload 10, 2) := by decide +kernel
theorem dX12_matches_92 : decode cX12_matches 92 = .ok (.ishr, 1) := by decide +kernel
theorem dX12_matches_93 : decode cX12_matches 93 = .ok (.iconst 1, 1) := by decide +kernel
theorem dX12_matches_94 : decode cX12_matches 94 = .ok (.iand, 1) := by decide +kernel
theorem dX12_matches_95 : decode cX12_matches 95 = .ok (.iconst 1, 1) := by decide +kernel
theorem dX12_matches_96 : decode cX12_matches 96 = .ok (.if_icmp .ne 7, 3) := by decide +kernel
theorem dX12_matches_99 : decode cX12_matches 99 = .ok (.iconst 1, 1) := by decide +kernel
theorem dX12_matches_100 : decode cX12_matches 100 = .ok (.goto 4, 3) := by decide +kernel
theorem dX12_matches_103 : decode cX12_matches 103 = .ok (.iconst 0, 1) := by decide +kernel
theorem dX12_matches_104 : decode cX12_matches 104 = .ok (.istore 11, 2) := by decide +kernel
theorem dX12_matches_106 : decode cX12_matches 106 = .ok (.iload 7, 2) := by decide +kernel
theorem dX12_matches_108 : decode cX12_matches 108 = .ok (.bipush 42, 2) := by decide +kernel
theorem dX12_matches_110 : decode cX12_matches 110 = .ok (.if_icmp .ne 29, 3) := by decide +kernel
theorem dX12_matches_113 : decode cX12_matches 113 = .ok (.iload 9, 2) := by decide +kernel
theorem dX12_matches_115 : decode cX12_matches 115 = .ok (.iload 11, 2) := by decide +kernel
theorem dX12_matches_117 : decode cX12_matches 117 = .ok (.ifCond .ne 8, 3) := by decide +kernel
theorem dX12_matches_120 : decode cX12_matches 120 = .ok (.iload 9, 2) := by decide +kernel
theorem dX12_matches_122 : decode cX12_matches 122 = .ok (.ifCond .eq 10, 3) := by decide +kernel
theorem dX12_matches_125 : decode cX12_matches 125 = .ok (.iconst 1, 1) := by decide +kernel
theorem dX12_matches_126 : decode cX12_matches 126 = .ok (.iload 10, 2) := by decide +kernel
theorem dX12_matches_128 : decode cX12_matches 128 = .ok (.ishl, 1) := by decide +kernel
theorem dX12_matches_129 : decode cX12_matches 129 = .ok (.goto 4, 3) := by decide +kernel
theorem dX12_matches_132 : decode cX12_matches 132 = .ok (.iconst 0, 1) := by decide +kernel
theorem dX12_matches_133 : decode cX12_matches 133 = .ok (.ior, 1) := by decide +kernel
theorem dX12_matches_134 : decode cX12_matches 134 = .ok (.istore 9, 2) := by decide +kernel
theorem dX12_matches_136 : decode cX12_matches 136 = .ok (.goto 152, 3) := by decide +kernel
theorem dX12_matches_139 : decode cX12_matches 139 = .ok (.iload 11, 2) := by decide +kernel
theorem dX12_matches_141 : decode cX12_matches 141 = .ok (.ifCond .eq 147, 3) := by decide +kernel
theorem dX12_matches_144 : decode cX12_matches 144 = .ok (.iload 10, 2) := by decide +kernel
theorem dX12_matches_146 : decode cX12_matches 146 = .ok (.iload 4, 2) := by decide +kernel
theorem dX12_matches_148 : decode cX12_matches 148 = .ok (.if_icmp .ge 140, 3) := by decide +kernel
theorem dX12_matches_151 : decode cX12_matches 151 = .ok (.aload_n 0, 1) := by decide +kernel
theorem dX12_matches_152 : decode cX12_matches 152 = .ok (.iload_n 3, 1) := by decide +kernel
theorem dX12_matches_153 : decode cX12_matches 153 = .ok (.iload 10, 2) := by decide +kernel
theorem dX12_matches_155 : decode cX12_matches 155 = .ok (.invokevirtual 216, 3) := by decide +kernel
theorem dX12_matches_158 : decode cX12_matches 158 = .ok (.istore 12, 2) := by decide +kernel
theorem dX12_matches_160 : decode cX12_matches 160 = .ok (.iload 7, 2) := by decide +kernel
theorem dX12_matches_162 : decode cX12_matches 162 = .ok (.bipush 46, 2) := by decide +kernel
theorem dX12_matches_164 : decode cX12_matches 164 = .ok (.if_icmp .eq 45, 3) := by decide +kernel
theorem dX12_matches_167 : decode cX12_matches 167 = .ok (.iload 7, 2) := by decide +kernel
theorem dX12_matches_169 : decode cX12_matches 169 = .ok (.bipush 92, 2) := by decide +kernel
theorem dX12_matches_171 : decode cX12_matches 171 = .ok (.if_icmp .ne 17, 3) := by decide +kernel
theorem dX12_matches_174 : decode cX12_matches 174 = .ok (.aload_n 0, 1) := by decide +kernel
theorem dX12_matches_175 : decode cX12_matches 175 = .ok (.getfield 82, 3) := by decide +kernel
theorem dX12_matches_178 : decode cX12_matches 178 = .ok (.iload 6, 2) := by decide +kernel
theorem dX12_matches_180 : decode cX12_matches 180 = .ok (.iconst 1, 1) := by decide +kernel
theorem dX12_matches_181 : decode cX12_matches 181 = .ok (.iadd, 1) := by decide +kernel
theorem dX12_matches_182 : decode cX12_matches 182 = .ok (.iaload, 1) := by decide +kernel
theorem dX12_matches_183 : decode cX12_matches 183 = .ok (.iload 12, 2) := by decide +kernel
theorem dX12_matches_185 : decode cX12_matches 185 = .ok (.if_icmp .eq 24, 3) := by decide +kernel
theorem dX12_matches_188 : decode cX12_matches 188 = .ok (.iload 7, 2) := by decide +kernel
theorem dX12_matches_190 : decode cX12_matches 190 = .ok (.bipush 92, 2) := by decide +kernel
theorem dX12_matches_192 : decode cX12_matches 192 = .ok (.if_icmp .eq 21, 3) := by decide +kernel
theorem dX12_matches_195 : decode cX12_matches 195 = .ok (.iload 7, 2) := by decide +kernel
theorem dX12_matches_197 : decode cX12_matches 197 = .ok (.bipush 91, 2) := by decide +kernel
theorem dX12_matches_199 : decode cX12_matches 199 = .ok (.if_icmp .eq 14, 3) := by decide +kernel
theorem dX12_matches_202 : decode cX12_matches 202 = .ok (.iload 7, 2) := by decide +kernel
theorem dX12_matches_204 : decode cX12_matches 204 = .ok (.iload 12, 2) := by decide +kernel
theorem dX12_matches_206 : decode cX12_matches 206 = .ok (.if_icmp .ne 7, 3) := by decide +kernel
theorem dX12_matches_209 : decode cX12_matches 209 = .ok (.iconst 1, 1) := by decide +kernel
theorem dX12_matches_210 : decode cX12_matches 210 = .ok (.goto 4, 3) := by decide +kernel
theorem dX12_matches_213 : decode cX12_matches 213 = .ok (.iconst 0, 1) := by decide +kernel
theorem dX12_matches_214 : decode cX12_matches 214 = .ok (.istore 13, 2) := by decide +kernel
theorem dX12_matches_216 : decode cX12_matches 216 = .ok (.iload 6, 2) := by decide +kernel
theorem dX12_matches_218 : decode cX12_matches 218 = .ok (.iconst 1, 1) := by decide +kernel
theorem dX12_matches_219 : decode cX12_matches 219 = .ok (.iadd, 1) := by decide +kernel
theorem dX12_matches_220 : decode cX12_matches 220 = .ok (.istore 14, 2) := by decide +kernel
theorem dX12_matches_222 : decode cX12_matches 222 = .ok (.iload 7, 2) := by decide +kernel
theorem dX12_matches_224 : decode cX12_matches 224 = .ok (.bipush 91, 2) := by decide +kernel
theorem dX12_matches_226 : decode cX12_matches 226 = .ok (.if_icmp .ne 42, 3) := by decide +kernel
theorem dX12_matches_229 : decode cX12_matches 229 = .ok (.iload 14, 2) := by decide +kernel
theorem dX12_matches_231 : decode cX12_matches 231 = .ok (.iload 8, 2) := by decide +kernel
theorem dX12_matches_233 : decode cX12_matches 233 = .ok (.iconst 1, 1) := by decide +kernel
theorem dX12_matches_234 : decode cX12_matches 234 = .ok (.isub, 1) := by decide +kernel
theorem dX12_matches_235 : decode cX12_matches 235 = .ok (.if_icmp .ge 33, 3) := by decide +kernel
theorem dX12_matches_238 : decode cX12_matches 238 = .ok (.iload 13, 2) := by decide +kernel
theorem dX12_matches_240 : decode cX12_matches 240 = .ok (.ifCond .ne 15, 3) := by decide +kernel
theorem dX12_matches_243 : decode cX12_matches 243 = .ok (.aload_n 0, 1) := by decide +kernel
theorem dX12_matches_244 : decode cX12_matches 244 = .ok (.getfield 82, 3) := by decide +kernel
theorem dX12_matches_247 : decode cX12_matches 247 = .ok (.iload 14, 2) := by decide +kernel
theorem dX12_matches_249 : decode cX12_matches 249 = .ok (.iaload, 1) := by decide +kernel
theorem dX12_matches_250 : decode cX12_matches 250 = .ok (.iload 12, 2) := by decide +kernel
theorem dX12_matches_252 : decode cX12_matches 252 = .ok (.if_icmp .ne 7, 3) := by decide +kernel
theorem dX12_matches_255 : decode cX12_matches 255 = .ok (.iconst 1, 1) := by decide +kernel
theorem dX12_matches_256 : decode cX12_matches 256 = .ok (.goto 4, 3) := by decide +kernel
theorem dX12_matches_259 : decode cX12_matches 259 = .ok (.iconst 0, 1) := by decide +kernel
theorem dX12_matches_260 : decode cX12_matches 260 = .ok (.istore 13, 2) := by decide +kernel
theorem dX12_matches_262 : decode cX12_matches 262 = .ok (.iinc 14 1, 3) := by decide +kernel
theorem dX12_matches_265 : decode cX12_matches 265 = .ok (.goto (-43), 3) := by decide +kernel
theorem dX12_matches_268 : decode cX12_matches 268 = .ok (.iload 9, 2) := by decide +kernel
theorem dX12_matches_270 : decode cX12_matches 270 = .ok (.iload 13, 2) := by decide +kernel
theorem dX12_matches_272 : decode cX12_matches 272 = .ok (.ifCond .eq 12, 3) := by decide +kernel
theorem dX12_matches_275 : decode cX12_matches 275 = .ok (.iconst 1, 1) := by decide +kernel
theorem dX12_matches_276 : decode cX12_matches 276 = .ok (.iload 10, 2) := by decide +kernel
theorem dX12_matches_278 : decode cX12_matches 278 = .ok (.iconst 1, 1) := by decide +kernel
theorem dX12_matches_279 : decode cX12_matches 279 = .ok (.iadd, 1) := by decide +kernel
theorem dX12_matches_280 : decode cX12_matches 280 = .ok (.ishl, 1) := by decide +kernel
theorem dX12_matches_281 : decode cX12_matches 281 = .ok (.goto 4, 3) := by decide +kernel
theorem dX12_matches_284 : decode cX12_matches 284 = .ok (.iconst 0, 1) := by decide +kernel
theorem dX12_matches_285 : decode cX12_matches 285 = .ok (.ior, 1) := by decide +kernel
theorem dX12_matches_286 : decode cX12_matches 286 = .ok (.istore 9, 2) := by decide +kernel
theorem dX12_matches_288 : decode cX12_matches 288 = .ok (.iinc 10 1, 3) := by decide +kernel
theorem dX12_matches_291 : decode cX12_matches 291 = .ok (.goto (-210), 3) := by decide +kernel
theorem dX12_matches_294 : decode cX12_matches 294 = .ok (.iload 9, 2) := by decide +kernel
theorem dX12_matches_296 : decode cX12_matches 296 = .ok (.istore 5, 2) := by decide +kernel
theorem dX12_matches_298 : decode cX12_matches 298 = .ok (.iload 8, 2) := by decide +kernel
theorem dX12_matches_300 : decode cX12_matches 300 = .ok (.istore 6, 2) := by decide +kernel
theorem dX12_matches_302 : decode cX12_matches 302 = .ok (.goto (-289), 3) := by decide +kernel
theorem dX12_matches_305 : decode cX12_matches 305 = .ok (.iload 5, 2) := by decide +kernel
theorem dX12_matches_307 : decode cX12_matches 307 = .ok (.iload 4, 2) := by decide +kernel
theorem dX12_matches_309 : decode cX12_matches 309 = .ok (.ishr, 1) := by decide +kernel
theorem dX12_matches_310 : decode cX12_matches 310 = .ok (.iconst 1, 1) := by decide +kernel
theorem dX12_matches_311 : decode cX12_matches 311 = .ok (.iand, 1) := by decide +kernel
theorem dX12_matches_312 : decode cX12_matches 312 = .ok (.iconst 1, 1) := by decide +kernel
theorem dX12_matches_313 : decode cX12_matches 313 = .ok (.if_icmp .ne 7, 3) := by decide +kernel
theorem dX12_matches_316 : decode cX12_matches 316 = .ok (.iconst 1, 1) := by decide +kernel
theorem dX12_matches_317 : decode cX12_matches 317 = .ok (.goto 4, 3) := by decide +kernel
theorem dX12_matches_320 : decode cX12_matches 320 = .ok (.iconst 0, 1) := by decide +kernel
theorem dX12_matches_321 : decode cX12_matches 321 = .ok (.ireturn, 1) := by decide +kernel
theorem dX12_comesOut_0 : decode cX12_comesOut 0 = .ok (.aload_n 0, 1) := by decide +kernel
theorem dX12_comesOut_1 : decode cX12_comesOut 1 = .ok (.getfield 82, 3) := by decide +kernel
theorem dX12_comesOut_4 : decode cX12_comesOut 4 = .ok (.iload_n 1, 1) := by decide +kernel
theorem dX12_comesOut_5 : decode cX12_comesOut 5 = .ok (.iaload, 1) := by decide +kernel
theorem dX12_comesOut_6 : decode cX12_comesOut 6 = .ok (.istore_n 3, 1) := by decide +kernel
theorem dX12_comesOut_7 : decode cX12_comesOut 7 = .ok (.iload_n 2, 1) := by decide +kernel
theorem dX12_comesOut_8 : decode cX12_comesOut 8 = .ok (.iload_n 1, 1) := by decide +kernel
theorem dX12_comesOut_9 : decode cX12_comesOut 9 = .ok (.iconst 2, 1) := by decide +kernel
theorem dX12_comesOut_10 : decode cX12_comesOut 10 = .ok (.iadd, 1) := by decide +kernel
theorem dX12_comesOut_11 : decode cX12_comesOut 11 = .ok (.if_icmp .le 17, 3) := by decide +kernel
theorem dX12_comesOut_14 : decode cX12_comesOut 14 = .ok (.aload_n 0, 1) := by decide +kernel
theorem dX12_comesOut_15 : decode cX12_comesOut 15 = .ok (.getfield 82, 3) := by decide +kernel
theorem dX12_comesOut_18 : decode cX12_comesOut 18 = .ok (.iload_n 1, 1) := by decide +kernel
theorem dX12_comesOut_19 : decode cX12_comesOut 19 = .ok (.iconst 2, 1) := by decide +kernel
theorem dX12_comesOut_20 : decode cX12_comesOut 20 = .ok (.iadd, 1) := by decide +kernel
theorem dX12_comesOut_21 : decode cX12_comesOut 21 = .ok (.iaload, 1) := by decide +kernel
theorem dX12_comesOut_22 : decode cX12_comesOut 22 = .ok (.bipush 48, 2) := by decide +kernel
theorem dX12_comesOut_24 : decode cX12_comesOut 24 = .ok (.isub, 1) := by decide +kernel
theorem dX12_comesOut_25 : decode cX12_comesOut 25 = .ok (.goto 4, 3) := by decide +kernel
theorem dX12_comesOut_28 : decode cX12_comesOut 28 = .ok (.iconst 0, 1) := by decide +kernel
theorem dX12_comesOut_29 : decode cX12_comesOut 29 = .ok (.istore 4, 2) := by decide +kernel
theorem dX12_comesOut_31 : decode cX12_comesOut 31 = .ok (.iload_n 3, 1) := by decide +kernel
theorem dX12_comesOut_32 : decode cX12_comesOut 32 = .ok (.lookupswitch 289 #[(33, 226), (61, 77), (62, 68), (63, 111), (64, 209), (98, 264), (115, 243)], 68) := by decide +kernel
theorem dX12_comesOut_100 : decode cX12_comesOut 100 = .ok (.aload_n 0, 1) := by decide +kernel
theorem dX12_comesOut_101 : decode cX12_comesOut 101 = .ok (.iload_n 1, 1) := by decide +kernel
theorem dX12_comesOut_102 : decode cX12_comesOut 102 = .ok (.iconst 2, 1) := by decide +kernel
theorem dX12_comesOut_103 : decode cX12_comesOut 103 = .ok (.iadd, 1) := by decide +kernel
theorem dX12_comesOut_104 : decode cX12_comesOut 104 = .ok (.iload_n 2, 1) := by decide +kernel
theorem dX12_comesOut_105 : decode cX12_comesOut 105 = .ok (.invokevirtual 220, 3) := by decide +kernel
theorem dX12_comesOut_108 : decode cX12_comesOut 108 = .ok (.ireturn, 1) := by decide +kernel
theorem dX12_comesOut_109 : decode cX12_comesOut 109 = .ok (.aload_n 0, 1) := by decide +kernel
theorem dX12_comesOut_110 : decode cX12_comesOut 110 = .ok (.getfield 75, 3) := by decide +kernel
theorem dX12_comesOut_113 : decode cX12_comesOut 113 = .ok (.iconst 3, 1) := by decide +kernel
theorem dX12_comesOut_114 : decode cX12_comesOut 114 = .ok (.iaload, 1) := by decide +kernel
theorem dX12_comesOut_115 : decode cX12_comesOut 115 = .ok (.bipush (-2), 2) := by decide +kernel
theorem dX12_comesOut_117 : decode cX12_comesOut 117 = .ok (.if_icmp .eq 24, 3) := by decide +kernel
theorem dX12_comesOut_120 : decode cX12_comesOut 120 = .ok (.aload_n 0, 1) := by decide +kernel
theorem dX12_comesOut_121 : decode cX12_comesOut 121 = .ok (.iload_n 1, 1) := by decide +kernel
theorem dX12_comesOut_122 : decode cX12_comesOut 122 = .ok (.iconst 2, 1) := by decide +kernel
theorem dX12_comesOut_123 : decode cX12_comesOut 123 = .ok (.iadd, 1) := by decide +kernel
theorem dX12_comesOut_124 : decode cX12_comesOut 124 = .ok (.iload_n 2, 1) := by decide +kernel
theorem dX12_comesOut_125 : decode cX12_comesOut 125 = .ok (.aload_n 0, 1) := by decide +kernel
theorem dX12_comesOut_126 : decode cX12_comesOut 126 = .ok (.getfield 75, 3) := by decide +kernel
theorem dX12_comesOut_129 : decode cX12_comesOut 129 = .ok (.iconst 3, 1) := by decide +kernel
theorem dX12_comesOut_130 : decode cX12_comesOut 130 = .ok (.iaload, 1) := by decide +kernel
theorem dX12_comesOut_131 : decode cX12_comesOut 131 = .ok (.invokevirtual 224, 3) := by decide +kernel
theorem dX12_comesOut_134 : decode cX12_comesOut 134 = .ok (.ifCond .eq 7, 3) := by decide +kernel
theorem dX12_comesOut_137 : decode cX12_comesOut 137 = .ok (.iconst 1, 1) := by decide +kernel
theorem dX12_comesOut_138 : decode cX12_comesOut 138 = .ok (.goto 4, 3) := by decide +kernel
theorem dX12_comesOut_141 : decode cX12_comesOut 141 = .ok (.iconst 0, 1) := by decide +kernel
theorem dX12_comesOut_142 : decode cX12_comesOut 142 = .ok (.ireturn, 1) := by decide +kernel
theorem dX12_comesOut_143 : decode cX12_comesOut 143 = .ok (.aload_n 0, 1) := by decide +kernel
theorem dX12_comesOut_144 : decode cX12_comesOut 144 = .ok (.getfield 82, 3) := by decide +kernel
theorem dX12_comesOut_147 : decode cX12_comesOut 147 = .ok (.iload_n 1, 1) := by decide +kernel
theorem dX12_comesOut_148 : decode cX12_comesOut 148 = .ok (.iconst 4, 1) := by decide +kernel
theorem dX12_comesOut_149 : decode cX12_comesOut 149 = .ok (.iadd, 1) := by decide +kernel
theorem dX12_comesOut_150 : decode cX12_comesOut 150 = .ok (.iaload, 1) := by decide +kernel
theorem dX12_comesOut_151 : decode cX12_comesOut 151 = .ok (.bipush 45, 2) := by decide +kernel
theorem dX12_comesOut_153 : decode cX12_comesOut 153 = .ok (.if_icmp .ne 7, 3) := by decide +kernel
theorem dX12_comesOut_156 : decode cX12_comesOut 156 = .ok (.iconst 1, 1) := by decide +kernel
theorem dX12_comesOut_157 : decode cX12_comesOut 157 = .ok (.goto 4, 3) := by decide +kernel
theorem dX12_comesOut_160 : decode cX12_comesOut 160 = .ok (.iconst 0, 1) := by decide +kernel
theorem dX12_comesOut_161 : decode cX12_comesOut 161 = .ok (.istore 5, 2) := by decide +kernel
theorem dX12_comesOut_163 : decode cX12_comesOut 163 = .ok (.iconst 0, 1) := by decide +kernel
theorem dX12_comesOut_164 : decode cX12_comesOut 164 = .ok (.istore 6, 2) := by decide +kernel
theorem dX12_comesOut_166 : decode cX12_comesOut 166 = .ok (.iload_n 1, 1) := by decide +kernel
theorem dX12_comesOut_167 : decode cX12_comesOut 167 = .ok (.iload 5, 2) := by decide +kernel
theorem dX12_comesOut_169 : decode cX12_comesOut 169 = .ok (.ifCond .eq 7, 3) := by decide +kernel
theorem dX12_comesOut_172 : decode cX12_comesOut 172 = .ok (.iconst 5, 1) := by decide +kernel
theorem dX12_comesOut_173 : decode cX12_comesOut 173 = .ok (.goto 4, 3) := by decide +kernel
theorem dX12_comesOut_176 : decode cX12_comesOut 176 = .ok (.iconst 4, 1) := by decide +kernel
theorem dX12_comesOut_177 : decode cX12_comesOut 177 = .ok (.iadd, 1) := by decide +kernel
theorem dX12_comesOut_178 : decode cX12_comesOut 178 = .ok (.istore 7, 2) := by decide +kernel
theorem dX12_comesOut_180 : decode cX12_comesOut 180 = .ok (.iload 7, 2) := by decide +kernel
theorem dX12_comesOut_182 : decode cX12_comesOut 182 = .ok (.iload_n 2, 1) := by decide +kernel
theorem dX12_comesOut_183 : decode cX12_comesOut 183 = .ok (.if_icmp .ge 27, 3) := by decide +kernel
theorem dX12_comesOut_186 : decode cX12_comesOut 186 = .ok (.bipush 10, 2) := by decide +kernel
theorem dX12_comesOut_188 : decode cX12_comesOut 188 = .ok (.iload 6, 2) := by decide +kernel
theorem dX12_comesOut_190 : decode cX12_comesOut 190 = .ok (.imul, 1) := by decide +kernel
theorem dX12_comesOut_191 : decode cX12_comesOut 191 = .ok (.aload_n 0, 1) := by decide +kernel
theorem dX12_comesOut_192 : decode cX12_comesOut 192 = .ok (.getfield 82, 3) := by decide +kernel
theorem dX12_comesOut_195 : decode cX12_comesOut 195 = .ok (.iload 7, 2) := by decide +kernel
theorem dX12_comesOut_197 : decode cX12_comesOut 197 = .ok (.iaload, 1) := by decide +kernel
theorem dX12_comesOut_198 : decode cX12_comesOut 198 = .ok (.iadd, 1) := by decide +kernel
theorem dX12_comesOut_199 : decode cX12_comesOut 199 = .ok (.bipush 48, 2) := by decide +kernel
theorem dX12_comesOut_201 : decode cX12_comesOut 201 = .ok (.isub, 1) := by decide +kernel
theorem dX12_comesOut_202 : decode cX12_comesOut 202 = .ok (.istore 6, 2) := by decide +kernel
theorem dX12_comesOut_204 : decode cX12_comesOut 204 = .ok (.iinc 7 1, 3) := by decide +kernel
theorem dX12_comesOut_207 : decode cX12_comesOut 207 = .ok (.goto (-27), 3) := by decide +kernel
theorem dX12_comesOut_210 : decode cX12_comesOut 210 = .ok (.aload_n 0, 1) := by decide +kernel
theorem dX12_comesOut_211 : decode cX12_comesOut 211 = .ok (.getfield 75, 3) := by decide +kernel
theorem dX12_comesOut_214 : decode cX12_comesOut 214 = .ok (.iconst 4, 1) := by decide +kernel
theorem dX12_comesOut_215 : decode cX12_comesOut 215 = .ok (.iload 4, 2) := by decide +kernel
theorem dX12_comesOut_217 : decode cX12_comesOut 217 = .ok (.iadd, 1) := by decide +kernel
theorem dX12_comesOut_218 : decode cX12_comesOut 218 = .ok (.iaload, 1) := by decide +kernel
theorem dX12_comesOut_219 : decode cX12_comesOut 219 = .ok (.iload 5, 2) := by decide +kernel
theorem dX12_comesOut_221 : decode cX12_comesOut 221 = .ok (.ifCond .eq 9, 3) := by decide +kernel
theorem dX12_comesOut_224 : decode cX12_comesOut 224 = .ok (.iload 6, 2) := by decide +kernel
theorem dX12_comesOut_226 : decode cX12_comesOut 226 = .ok (.ineg, 1) := by decide +kernel
theorem dX12_comesOut_227 : decode cX12_comesOut 227 = .ok (.goto 5, 3) := by decide +kernel
theorem dX12_comesOut_230 : decode cX12_comesOut 230 = .ok (.iload 6, 2) := by decide +kernel
theorem dX12_comesOut_232 : decode cX12_comesOut 232 = .ok (.if_icmp .ne 7, 3) := by decide +kernel
theorem dX12_comesOut_235 : decode cX12_comesOut 235 = .ok (.iconst 1, 1) := by decide +kernel
theorem dX12_comesOut_236 : decode cX12_comesOut 236 = .ok (.goto 4, 3) := by decide +kernel
theorem dX12_comesOut_239 : decode cX12_comesOut 239 = .ok (.iconst 0, 1) := by decide +kernel
theorem dX12_comesOut_240 : decode cX12_comesOut 240 = .ok (.ireturn, 1) := by decide +kernel
theorem dX12_comesOut_241 : decode cX12_comesOut 241 = .ok (.aload_n 0, 1) := by decide +kernel
theorem dX12_comesOut_242 : decode cX12_comesOut 242 = .ok (.getfield 75, 3) := by decide +kernel
theorem dX12_comesOut_245 : decode cX12_comesOut 245 = .ok (.iconst 0, 1) := by decide +kernel
theorem dX12_comesOut_246 : decode cX12_comesOut 246 = .ok (.iaload, 1) := by decide +kernel
theorem dX12_comesOut_247 : decode cX12_comesOut 247 = .ok (.iload 4, 2) := by decide +kernel
theorem dX12_comesOut_249 : decode cX12_comesOut 249 = .ok (.if_icmp .ne 7, 3) := by decide +kernel
theorem dX12_comesOut_252 : decode cX12_comesOut 252 = .ok (.iconst 1, 1) := by decide +kernel
theorem dX12_comesOut_253 : decode cX12_comesOut 253 = .ok (.goto 4, 3) := by decide +kernel
theorem dX12_comesOut_256 : decode cX12_comesOut 256 = .ok (.iconst 0, 1) := by decide +kernel
theorem dX12_comesOut_257 : decode cX12_comesOut 257 = .ok (.ireturn, 1) := by decide +kernel
theorem dX12_comesOut_258 : decode cX12_comesOut 258 = .ok (.aload_n 0, 1) := by decide +kernel
theorem dX12_comesOut_259 : decode cX12_comesOut 259 = .ok (.getfield 75, 3) := by decide +kernel
theorem dX12_comesOut_262 : decode cX12_comesOut 262 = .ok (.iconst 1, 1) := by decide +kernel
theorem dX12_comesOut_263 : decode cX12_comesOut 263 = .ok (.iaload, 1) := by decide +kernel
theorem dX12_comesOut_264 : decode cX12_comesOut 264 = .ok (.iload 4, 2) := by decide +kernel
theorem dX12_comesOut_266 : decode cX12_comesOut 266 = .ok (.if_icmp .ne 7, 3) := by decide +kernel
theorem dX12_comesOut_269 : decode cX12_comesOut 269 = .ok (.iconst 1, 1) := by decide +kernel
theorem dX12_comesOut_270 : decode cX12_comesOut 270 = .ok (.goto 4, 3) := by decide +kernel
theorem dX12_comesOut_273 : decode cX12_comesOut 273 = .ok (.iconst 0, 1) := by decide +kernel
theorem dX12_comesOut_274 : decode cX12_comesOut 274 = .ok (.ireturn, 1) := by decide +kernel
theorem dX12_comesOut_275 : decode cX12_comesOut 275 = .ok (.aload_n 0, 1) := by decide +kernel
theorem dX12_comesOut_276 : decode cX12_comesOut 276 = .ok (.iconst 0, 1) := by decide +kernel
theorem dX12_comesOut_277 : decode cX12_comesOut 277 = .ok (.iconst 1, 1) := by decide +kernel
theorem dX12_comesOut_278 : decode cX12_comesOut 278 = .ok (.iload 4, 2) := by decide +kernel
theorem dX12_comesOut_280 : decode cX12_comesOut 280 = .ok (.iadd, 1) := by decide +kernel
theorem dX12_comesOut_281 : decode cX12_comesOut 281 = .ok (.invokevirtual 227, 3) := by decide +kernel
end
section
theorem dX12_comesOut_284 : decode cX12_comesOut 284 = .ok (.aload_n 0, 1) := by decide +kernel
theorem dX12_comesOut_285 : decode cX12_comesOut 285 = .ok (.getfield 78, 3) := by decide +kernel
theorem dX12_comesOut_288 : decode cX12_comesOut 288 = .ok (.iconst 1, 1) := by decide +kernel
theorem dX12_comesOut_289 : decode cX12_comesOut 289 = .ok (.iload 4, 2) := by decide +kernel
theorem dX12_comesOut_291 : decode cX12_comesOut 291 = .ok (.iadd, 1) := by decide +kernel
theorem dX12_comesOut_292 : decode cX12_comesOut 292 = .ok (.iconst 1, 1) := by decide +kernel
theorem dX12_comesOut_293 : decode cX12_comesOut 293 = .ok (.bastore, 1) := by decide +kernel
theorem dX12_comesOut_294 : decode cX12_comesOut 294 = .ok (.iconst 1, 1) := by decide +kernel
theorem dX12_comesOut_295 : decode cX12_comesOut 295 = .ok (.ireturn, 1) := by decide +kernel
theorem dX12_comesOut_296 : decode cX12_comesOut 296 = .ok (.aload_n 0, 1) := by decide +kernel
theorem dX12_comesOut_297 : decode cX12_comesOut 297 = .ok (.getfield 78, 3) := by decide +kernel
theorem dX12_comesOut_300 : decode cX12_comesOut 300 = .ok (.iconst 1, 1) := by decide +kernel
theorem dX12_comesOut_301 : decode cX12_comesOut 301 = .ok (.iload 4, 2) := by decide +kernel
theorem dX12_comesOut_303 : decode cX12_comesOut 303 = .ok (.iadd, 1) := by decide +kernel
theorem dX12_comesOut_304 : decode cX12_comesOut 304 = .ok (.baload, 1) := by decide +kernel
theorem dX12_comesOut_305 : decode cX12_comesOut 305 = .ok (.ifCond .ne 5, 3) := by decide +kernel
theorem dX12_comesOut_308 : decode cX12_comesOut 308 = .ok (.iconst 0, 1) := by decide +kernel
theorem dX12_comesOut_309 : decode cX12_comesOut 309 = .ok (.ireturn, 1) := by decide +kernel
theorem dX12_comesOut_310 : decode cX12_comesOut 310 = .ok (.aload_n 0, 1) := by decide +kernel
theorem dX12_comesOut_311 : decode cX12_comesOut 311 = .ok (.iconst 1, 1) := by decide +kernel
theorem dX12_comesOut_312 : decode cX12_comesOut 312 = .ok (.iload 4, 2) := by decide +kernel
theorem dX12_comesOut_314 : decode cX12_comesOut 314 = .ok (.iadd, 1) := by decide +kernel
theorem dX12_comesOut_315 : decode cX12_comesOut 315 = .ok (.iconst 0, 1) := by decide +kernel
theorem dX12_comesOut_316 : decode cX12_comesOut 316 = .ok (.invokevirtual 227, 3) := by decide +kernel
theorem dX12_comesOut_319 : decode cX12_comesOut 319 = .ok (.iconst 1, 1) := by decide +kernel
theorem dX12_comesOut_320 : decode cX12_comesOut 320 = .ok (.ireturn, 1) := by decide +kernel
theorem dX12_comesOut_321 : decode cX12_comesOut 321 = .ok (.iconst 1, 1) := by decide +kernel
theorem dX12_comesOut_322 : decode cX12_comesOut 322 = .ok (.ireturn, 1) := by decide +kernel
theorem dX12_saysAll_0 : decode cX12_saysAll 0 = .ok (.iload_n 1, 1) := by decide +kernel
theorem dX12_saysAll_1 : decode cX12_saysAll 1 = .ok (.istore_n 3, 1) := by decide +kernel
theorem dX12_saysAll_2 : decode cX12_saysAll 2 = .ok (.iload_n 3, 1) := by decide +kernel
theorem dX12_saysAll_3 : decode cX12_saysAll 3 = .ok (.iload_n 2, 1) := by decide +kernel
theorem dX12_saysAll_4 : decode cX12_saysAll 4 = .ok (.if_icmp .ge 79, 3) := by decide +kernel
theorem dX12_saysAll_7 : decode cX12_saysAll 7 = .ok (.iload_n 3, 1) := by decide +kernel
theorem dX12_saysAll_8 : decode cX12_saysAll 8 = .ok (.istore 4, 2) := by decide +kernel
theorem dX12_saysAll_10 : decode cX12_saysAll 10 = .ok (.iload 4, 2) := by decide +kernel
theorem dX12_saysAll_12 : decode cX12_saysAll 12 = .ok (.iload_n 2, 1) := by decide +kernel
theorem dX12_saysAll_13 : decode cX12_saysAll 13 = .ok (.if_icmp .ge 21, 3) := by decide +kernel
theorem dX12_saysAll_16 : decode cX12_saysAll 16 = .ok (.aload_n 0, 1) := by decide +kernel
theorem dX12_saysAll_17 : decode cX12_saysAll 17 = .ok (.getfield 82, 3) := by decide +kernel
theorem dX12_saysAll_20 : decode cX12_saysAll 20 = .ok (.iload 4, 2) := by decide +kernel
theorem dX12_saysAll_22 : decode cX12_saysAll 22 = .ok (.iaload, 1) := by decide +kernel
theorem dX12_saysAll_23 : decode cX12_saysAll 23 = .ok (.bipush 32, 2) := by decide +kernel
theorem dX12_saysAll_25 : decode cX12_saysAll 25 = .ok (.if_icmp .eq 9, 3) := by decide +kernel
theorem dX12_saysAll_28 : decode cX12_saysAll 28 = .ok (.iinc 4 1, 3) := by decide +kernel
theorem dX12_saysAll_31 : decode cX12_saysAll 31 = .ok (.goto (-21), 3) := by decide +kernel
theorem dX12_saysAll_34 : decode cX12_saysAll 34 = .ok (.aload_n 0, 1) := by decide +kernel
theorem dX12_saysAll_35 : decode cX12_saysAll 35 = .ok (.getfield 75, 3) := by decide +kernel
theorem dX12_saysAll_38 : decode cX12_saysAll 38 = .ok (.iconst 1, 1) := by decide +kernel
theorem dX12_saysAll_39 : decode cX12_saysAll 39 = .ok (.iaload, 1) := by decide +kernel
theorem dX12_saysAll_40 : decode cX12_saysAll 40 = .ok (.ifCond .eq 5, 3) := by decide +kernel
theorem dX12_saysAll_43 : decode cX12_saysAll 43 = .ok (.iconst 0, 1) := by decide +kernel
theorem dX12_saysAll_44 : decode cX12_saysAll 44 = .ok (.ireturn, 1) := by decide +kernel
theorem dX12_saysAll_45 : decode cX12_saysAll 45 = .ok (.aload_n 0, 1) := by decide +kernel
theorem dX12_saysAll_46 : decode cX12_saysAll 46 = .ok (.aload_n 0, 1) := by decide +kernel
theorem dX12_saysAll_47 : decode cX12_saysAll 47 = .ok (.aload_n 0, 1) := by decide +kernel
theorem dX12_saysAll_48 : decode cX12_saysAll 48 = .ok (.aload_n 0, 1) := by decide +kernel
theorem dX12_saysAll_49 : decode cX12_saysAll 49 = .ok (.getfield 82, 3) := by decide +kernel
theorem dX12_saysAll_52 : decode cX12_saysAll 52 = .ok (.iload_n 3, 1) := by decide +kernel
theorem dX12_saysAll_53 : decode cX12_saysAll 53 = .ok (.iload 4, 2) := by decide +kernel
theorem dX12_saysAll_55 : decode cX12_saysAll 55 = .ok (.iload_n 3, 1) := by decide +kernel
theorem dX12_saysAll_56 : decode cX12_saysAll 56 = .ok (.isub, 1) := by decide +kernel
theorem dX12_saysAll_57 : decode cX12_saysAll 57 = .ok (.invokevirtual 131, 3) := by decide +kernel
theorem dX12_saysAll_60 : decode cX12_saysAll 60 = .ok (.invokevirtual 231, 3) := by decide +kernel
theorem dX12_saysAll_63 : decode cX12_saysAll 63 = .ok (.putfield 234, 3) := by decide +kernel
theorem dX12_saysAll_66 : decode cX12_saysAll 66 = .ok (.aload_n 0, 1) := by decide +kernel
theorem dX12_saysAll_67 : decode cX12_saysAll 67 = .ok (.getfield 234, 3) := by decide +kernel
theorem dX12_saysAll_70 : decode cX12_saysAll 70 = .ok (.ifCond .le 5, 3) := by decide +kernel
theorem dX12_saysAll_73 : decode cX12_saysAll 73 = .ok (.iconst 0, 1) := by decide +kernel
theorem dX12_saysAll_74 : decode cX12_saysAll 74 = .ok (.ireturn, 1) := by decide +kernel
theorem dX12_saysAll_75 : decode cX12_saysAll 75 = .ok (.iload 4, 2) := by decide +kernel
theorem dX12_saysAll_77 : decode cX12_saysAll 77 = .ok (.iconst 1, 1) := by decide +kernel
theorem dX12_saysAll_78 : decode cX12_saysAll 78 = .ok (.iadd, 1) := by decide +kernel
theorem dX12_saysAll_79 : decode cX12_saysAll 79 = .ok (.istore_n 3, 1) := by decide +kernel
theorem dX12_saysAll_80 : decode cX12_saysAll 80 = .ok (.goto (-78), 3) := by decide +kernel
theorem dX12_saysAll_83 : decode cX12_saysAll 83 = .ok (.iconst 1, 1) := by decide +kernel
theorem dX12_saysAll_84 : decode cX12_saysAll 84 = .ok (.ireturn, 1) := by decide +kernel
theorem dX12_run_0 : decode cX12_run 0 = .ok (.aload_n 0, 1) := by decide +kernel
theorem dX12_run_1 : decode cX12_run 1 = .ok (.iconst 0, 1) := by decide +kernel
theorem dX12_run_2 : decode cX12_run 2 = .ok (.putfield 1, 3) := by decide +kernel
theorem dX12_run_5 : decode cX12_run 5 = .ok (.iload_n 1, 1) := by decide +kernel
theorem dX12_run_6 : decode cX12_run 6 = .ok (.i2l, 1) := by decide +kernel
theorem dX12_run_7 : decode cX12_run 7 = .ok (.lconst 0, 1) := by decide +kernel
theorem dX12_run_8 : decode cX12_run 8 = .ok (.aload_n 0, 1) := by decide +kernel
theorem dX12_run_9 : decode cX12_run 9 = .ok (.getfield 210, 3) := by decide +kernel
theorem dX12_run_12 : decode cX12_run 12 = .ok (.iconst 1, 1) := by decide +kernel
theorem dX12_run_13 : decode cX12_run 13 = .ok (.isub, 1) := by decide +kernel
theorem dX12_run_14 : decode cX12_run 14 = .ok (.i2l, 1) := by decide +kernel
theorem dX12_run_15 : decode cX12_run 15 = .ok (.invokestatic 105, 3) := by decide +kernel
theorem dX12_run_18 : decode cX12_run 18 = .ok (.ifCond .ne 6, 3) := by decide +kernel
theorem dX12_run_21 : decode cX12_run 21 = .ok (.bipush (-2), 2) := by decide +kernel
theorem dX12_run_23 : decode cX12_run 23 = .ok (.ireturn, 1) := by decide +kernel
theorem dX12_run_24 : decode cX12_run 24 = .ok (.aload_n 0, 1) := by decide +kernel
theorem dX12_run_25 : decode cX12_run 25 = .ok (.invokevirtual 100, 3) := by decide +kernel
theorem dX12_run_28 : decode cX12_run 28 = .ok (.aload_n 0, 1) := by decide +kernel
theorem dX12_run_29 : decode cX12_run 29 = .ok (.iconst 0, 1) := by decide +kernel
theorem dX12_run_30 : decode cX12_run 30 = .ok (.putfield 237, 3) := by decide +kernel
theorem dX12_run_33 : decode cX12_run 33 = .ok (.aload_n 0, 1) := by decide +kernel
theorem dX12_run_34 : decode cX12_run 34 = .ok (.iconst 0, 1) := by decide +kernel
theorem dX12_run_35 : decode cX12_run 35 = .ok (.putfield 234, 3) := by decide +kernel
theorem dX12_run_38 : decode cX12_run 38 = .ok (.sipush 600, 3) := by decide +kernel
theorem dX12_run_41 : decode cX12_run 41 = .ok (.iload_n 1, 1) := by decide +kernel
theorem dX12_run_42 : decode cX12_run 42 = .ok (.imul, 1) := by decide +kernel
theorem dX12_run_43 : decode cX12_run 43 = .ok (.istore_n 2, 1) := by decide +kernel
theorem dX12_run_44 : decode cX12_run 44 = .ok (.iload_n 2, 1) := by decide +kernel
theorem dX12_run_45 : decode cX12_run 45 = .ok (.aload_n 0, 1) := by decide +kernel
theorem dX12_run_46 : decode cX12_run 46 = .ok (.getfield 85, 3) := by decide +kernel
theorem dX12_run_49 : decode cX12_run 49 = .ok (.iload_n 1, 1) := by decide +kernel
theorem dX12_run_50 : decode cX12_run 50 = .ok (.iaload, 1) := by decide +kernel
theorem dX12_run_51 : decode cX12_run 51 = .ok (.iadd, 1) := by decide +kernel
theorem dX12_run_52 : decode cX12_run 52 = .ok (.istore_n 3, 1) := by decide +kernel
theorem dX12_run_53 : decode cX12_run 53 = .ok (.iconst 0, 1) := by decide +kernel
theorem dX12_run_54 : decode cX12_run 54 = .ok (.istore 4, 2) := by decide +kernel
theorem dX12_run_56 : decode cX12_run 56 = .ok (.iload_n 2, 1) := by decide +kernel
theorem dX12_run_57 : decode cX12_run 57 = .ok (.iload_n 3, 1) := by decide +kernel
theorem dX12_run_58 : decode cX12_run 58 = .ok (.if_icmp .ge 98, 3) := by decide +kernel
theorem dX12_run_61 : decode cX12_run 61 = .ok (.aload_n 0, 1) := by decide +kernel
theorem dX12_run_62 : decode cX12_run 62 = .ok (.getfield 234, 3) := by decide +kernel
theorem dX12_run_65 : decode cX12_run 65 = .ok (.ifCond .ne 91, 3) := by decide +kernel
theorem dX12_run_68 : decode cX12_run 68 = .ok (.iload_n 2, 1) := by decide +kernel
theorem dX12_run_69 : decode cX12_run 69 = .ok (.istore 5, 2) := by decide +kernel
theorem dX12_run_71 : decode cX12_run 71 = .ok (.iload 5, 2) := by decide +kernel
theorem dX12_run_73 : decode cX12_run 73 = .ok (.iload_n 3, 1) := by decide +kernel
theorem dX12_run_74 : decode cX12_run 74 = .ok (.if_icmp .ge 21, 3) := by decide +kernel
theorem dX12_run_77 : decode cX12_run 77 = .ok (.aload_n 0, 1) := by decide +kernel
theorem dX12_run_78 : decode cX12_run 78 = .ok (.getfield 82, 3) := by decide +kernel
theorem dX12_run_81 : decode cX12_run 81 = .ok (.iload 5, 2) := by decide +kernel
theorem dX12_run_83 : decode cX12_run 83 = .ok (.iaload, 1) := by decide +kernel
theorem dX12_run_84 : decode cX12_run 84 = .ok (.bipush 10, 2) := by decide +kernel
theorem dX12_run_86 : decode cX12_run 86 = .ok (.if_icmp .eq 9, 3) := by decide +kernel
theorem dX12_run_89 : decode cX12_run 89 = .ok (.iinc 5 1, 3) := by decide +kernel
theorem dX12_run_92 : decode cX12_run 92 = .ok (.goto (-21), 3) := by decide +kernel
theorem dX12_run_95 : decode cX12_run 95 = .ok (.iinc 4 1, 3) := by decide +kernel
theorem dX12_run_98 : decode cX12_run 98 = .ok (.iload 5, 2) := by decide +kernel
theorem dX12_run_100 : decode cX12_run 100 = .ok (.iload_n 2, 1) := by decide +kernel
theorem dX12_run_101 : decode cX12_run 101 = .ok (.if_icmp .le 47, 3) := by decide +kernel
theorem dX12_run_104 : decode cX12_run 104 = .ok (.aload_n 0, 1) := by decide +kernel
theorem dX12_run_105 : decode cX12_run 105 = .ok (.iload_n 2, 1) := by decide +kernel
theorem dX12_run_106 : decode cX12_run 106 = .ok (.iload 5, 2) := by decide +kernel
theorem dX12_run_108 : decode cX12_run 108 = .ok (.invokevirtual 240, 3) := by decide +kernel
theorem dX12_run_111 : decode cX12_run 111 = .ok (.ifCond .ne 37, 3) := by decide +kernel
theorem dX12_run_114 : decode cX12_run 114 = .ok (.aload_n 0, 1) := by decide +kernel
theorem dX12_run_115 : decode cX12_run 115 = .ok (.getfield 88, 3) := by decide +kernel
theorem dX12_run_118 : decode cX12_run 118 = .ok (.aload_n 0, 1) := by decide +kernel
theorem dX12_run_119 : decode cX12_run 119 = .ok (.getfield 237, 3) := by decide +kernel
theorem dX12_run_122 : decode cX12_run 122 = .ok (.iload 4, 2) := by decide +kernel
theorem dX12_run_124 : decode cX12_run 124 = .ok (.iastore, 1) := by decide +kernel
theorem dX12_run_125 : decode cX12_run 125 = .ok (.aload_n 0, 1) := by decide +kernel
theorem dX12_run_126 : decode cX12_run 126 = .ok (.getfield 91, 3) := by decide +kernel
theorem dX12_run_129 : decode cX12_run 129 = .ok (.aload_n 0, 1) := by decide +kernel
theorem dX12_run_130 : decode cX12_run 130 = .ok (.getfield 237, 3) := by decide +kernel
theorem dX12_run_133 : decode cX12_run 133 = .ok (.aload_n 0, 1) := by decide +kernel
theorem dX12_run_134 : decode cX12_run 134 = .ok (.getfield 234, 3) := by decide +kernel
theorem dX12_run_137 : decode cX12_run 137 = .ok (.iastore, 1) := by decide +kernel
theorem dX12_run_138 : decode cX12_run 138 = .ok (.aload_n 0, 1) := by decide +kernel
theorem dX12_run_139 : decode cX12_run 139 = .ok (.dup, 1) := by decide +kernel
theorem dX12_run_140 : decode cX12_run 140 = .ok (.getfield 237, 3) := by decide +kernel
theorem dX12_run_143 : decode cX12_run 143 = .ok (.iconst 1, 1) := by decide +kernel
theorem dX12_run_144 : decode cX12_run 144 = .ok (.iadd, 1) := by decide +kernel
theorem dX12_run_145 : decode cX12_run 145 = .ok (.putfield 237, 3) := by decide +kernel
theorem dX12_run_148 : decode cX12_run 148 = .ok (.iload 5, 2) := by decide +kernel
theorem dX12_run_150 : decode cX12_run 150 = .ok (.iconst 1, 1) := by decide +kernel
theorem dX12_run_151 : decode cX12_run 151 = .ok (.iadd, 1) := by decide +kernel
theorem dX12_run_152 : decode cX12_run 152 = .ok (.istore_n 2, 1) := by decide +kernel
theorem dX12_run_153 : decode cX12_run 153 = .ok (.goto (-97), 3) := by decide +kernel
theorem dX12_run_156 : decode cX12_run 156 = .ok (.aload_n 0, 1) := by decide +kernel
theorem dX12_run_157 : decode cX12_run 157 = .ok (.getfield 237, 3) := by decide +kernel
theorem dX12_run_160 : decode cX12_run 160 = .ok (.ireturn, 1) := by decide +kernel
theorem dX12_failed_0 : decode cX12_failed 0 = .ok (.aload_n 0, 1) := by decide +kernel
theorem dX12_failed_1 : decode cX12_failed 1 = .ok (.iconst 0, 1) := by decide +kernel
theorem dX12_failed_2 : decode cX12_failed 2 = .ok (.putfield 1, 3) := by decide +kernel
theorem dX12_failed_5 : decode cX12_failed 5 = .ok (.iload_n 1, 1) := by decide +kernel
theorem dX12_failed_6 : decode cX12_failed 6 = .ok (.i2l, 1) := by decide +kernel
theorem dX12_failed_7 : decode cX12_failed 7 = .ok (.lconst 0, 1) := by decide +kernel
theorem dX12_failed_8 : decode cX12_failed 8 = .ok (.aload_n 0, 1) := by decide +kernel
theorem dX12_failed_9 : decode cX12_failed 9 = .ok (.getfield 237, 3) := by decide +kernel
theorem dX12_failed_12 : decode cX12_failed 12 = .ok (.iconst 1, 1) := by decide +kernel
theorem dX12_failed_13 : decode cX12_failed 13 = .ok (.isub, 1) := by decide +kernel
theorem dX12_failed_14 : decode cX12_failed 14 = .ok (.i2l, 1) := by decide +kernel
theorem dX12_failed_15 : decode cX12_failed 15 = .ok (.invokestatic 105, 3) := by decide +kernel
theorem dX12_failed_18 : decode cX12_failed 18 = .ok (.ifCond .ne 6, 3) := by decide +kernel
theorem dX12_failed_21 : decode cX12_failed 21 = .ok (.bipush (-2), 2) := by decide +kernel
theorem dX12_failed_23 : decode cX12_failed 23 = .ok (.ireturn, 1) := by decide +kernel
theorem dX12_failed_24 : decode cX12_failed 24 = .ok (.iload_n 2, 1) := by decide +kernel
theorem dX12_failed_25 : decode cX12_failed 25 = .ok (.ifCond .ne 12, 3) := by decide +kernel
theorem dX12_failed_28 : decode cX12_failed 28 = .ok (.aload_n 0, 1) := by decide +kernel
theorem dX12_failed_29 : decode cX12_failed 29 = .ok (.getfield 88, 3) := by decide +kernel
theorem dX12_failed_32 : decode cX12_failed 32 = .ok (.iload_n 1, 1) := by decide +kernel
theorem dX12_failed_33 : decode cX12_failed 33 = .ok (.iaload, 1) := by decide +kernel
theorem dX12_failed_34 : decode cX12_failed 34 = .ok (.goto 19, 3) := by decide +kernel
theorem dX12_failed_37 : decode cX12_failed 37 = .ok (.iload_n 2, 1) := by decide +kernel
theorem dX12_failed_38 : decode cX12_failed 38 = .ok (.iconst 1, 1) := by decide +kernel
theorem dX12_failed_39 : decode cX12_failed 39 = .ok (.if_icmp .ne 12, 3) := by decide +kernel
theorem dX12_failed_42 : decode cX12_failed 42 = .ok (.aload_n 0, 1) := by decide +kernel
theorem dX12_failed_43 : decode cX12_failed 43 = .ok (.getfield 91, 3) := by decide +kernel
theorem dX12_failed_46 : decode cX12_failed 46 = .ok (.iload_n 1, 1) := by decide +kernel
theorem dX12_failed_47 : decode cX12_failed 47 = .ok (.iaload, 1) := by decide +kernel
theorem dX12_failed_48 : decode cX12_failed 48 = .ok (.goto 5, 3) := by decide +kernel
theorem dX12_failed_51 : decode cX12_failed 51 = .ok (.bipush (-3), 2) := by decide +kernel
theorem dX12_failed_53 : decode cX12_failed 53 = .ok (.ireturn, 1) := by decide +kernel
theorem dX12_endOf_0 : decode cX12_endOf 0 = .ok (.iload_n 1, 1) := by decide +kernel
theorem dX12_endOf_1 : decode cX12_endOf 1 = .ok (.istore_n 2, 1) := by decide +kernel
theorem dX12_endOf_2 : decode cX12_endOf 2 = .ok (.iload_n 2, 1) := by decide +kernel
theorem dX12_endOf_3 : decode cX12_endOf 3 = .ok (.aload_n 0, 1) := by decide +kernel
theorem dX12_endOf_4 : decode cX12_endOf 4 = .ok (.getfield 109, 3) := by decide +kernel
theorem dX12_endOf_7 : decode cX12_endOf 7 = .ok (.if_icmp .ge 20, 3) := by decide +kernel
theorem dX12_endOf_10 : decode cX12_endOf 10 = .ok (.aload_n 0, 1) := by decide +kernel
theorem dX12_endOf_11 : decode cX12_endOf 11 = .ok (.getfield 13, 3) := by decide +kernel
theorem dX12_endOf_14 : decode cX12_endOf 14 = .ok (.iload_n 2, 1) := by decide +kernel
theorem dX12_endOf_15 : decode cX12_endOf 15 = .ok (.iaload, 1) := by decide +kernel
theorem dX12_endOf_16 : decode cX12_endOf 16 = .ok (.bipush 10, 2) := by decide +kernel
theorem dX12_endOf_18 : decode cX12_endOf 18 = .ok (.if_icmp .eq 9, 3) := by decide +kernel
theorem dX12_endOf_21 : decode cX12_endOf 21 = .ok (.iinc 2 1, 3) := by decide +kernel
theorem dX12_endOf_24 : decode cX12_endOf 24 = .ok (.goto (-22), 3) := by decide +kernel
theorem dX12_endOf_27 : decode cX12_endOf 27 = .ok (.iload_n 2, 1) := by decide +kernel
theorem dX12_endOf_28 : decode cX12_endOf 28 = .ok (.ireturn, 1) := by decide +kernel
theorem dX12_wrongTranscript_0 : decode cX12_wrongTranscript 0 = .ok (.iconst 0, 1) := by decide +kernel
theorem dX12_wrongTranscript_1 : decode cX12_wrongTranscript 1 = .ok (.istore_n 1, 1) := by decide +kernel
theorem dX12_wrongTranscript_2 : decode cX12_wrongTranscript 2 = .ok (.iconst 0, 1) := by decide +kernel
theorem dX12_wrongTranscript_3 : decode cX12_wrongTranscript 3 = .ok (.istore_n 2, 1) := by decide +kernel
theorem dX12_wrongTranscript_4 : decode cX12_wrongTranscript 4 = .ok (.iload_n 1, 1) := by decide +kernel
theorem dX12_wrongTranscript_5 : decode cX12_wrongTranscript 5 = .ok (.aload_n 0, 1) := by decide +kernel
theorem dX12_wrongTranscript_6 : decode cX12_wrongTranscript 6 = .ok (.getfield 109, 3) := by decide +kernel
theorem dX12_wrongTranscript_9 : decode cX12_wrongTranscript 9 = .ok (.if_icmp .ge 112, 3) := by decide +kernel
theorem dX12_wrongTranscript_12 : decode cX12_wrongTranscript 12 = .ok (.iload_n 2, 1) := by decide +kernel
theorem dX12_wrongTranscript_13 : decode cX12_wrongTranscript 13 = .ok (.bipush 40, 2) := by decide +kernel
theorem dX12_wrongTranscript_15 : decode cX12_wrongTranscript 15 = .ok (.if_icmp .ne 5, 3) := by decide +kernel
theorem dX12_wrongTranscript_18 : decode cX12_wrongTranscript 18 = .ok (.iload_n 1, 1) := by decide +kernel
theorem dX12_wrongTranscript_19 : decode cX12_wrongTranscript 19 = .ok (.ireturn, 1) := by decide +kernel
theorem dX12_wrongTranscript_20 : decode cX12_wrongTranscript 20 = .ok (.iload_n 2, 1) := by decide +kernel
theorem dX12_wrongTranscript_21 : decode cX12_wrongTranscript 21 = .ok (.iconst 2, 1) := by decide +kernel
theorem dX12_wrongTranscript_22 : decode cX12_wrongTranscript 22 = .ok (.irem, 1) := by decide +kernel
theorem dX12_wrongTranscript_23 : decode cX12_wrongTranscript 23 = .ok (.ifCond .ne 51, 3) := by decide +kernel
theorem dX12_wrongTranscript_26 : decode cX12_wrongTranscript 26 = .ok (.aload_n 0, 1) := by decide +kernel
theorem dX12_wrongTranscript_27 : decode cX12_wrongTranscript 27 = .ok (.getfield 13, 3) := by decide +kernel
theorem dX12_wrongTranscript_30 : decode cX12_wrongTranscript 30 = .ok (.iload_n 1, 1) := by decide +kernel
theorem dX12_wrongTranscript_31 : decode cX12_wrongTranscript 31 = .ok (.iaload, 1) := by decide +kernel
theorem dX12_wrongTranscript_32 : decode cX12_wrongTranscript 32 = .ok (.bipush 62, 2) := by decide +kernel
theorem dX12_wrongTranscript_34 : decode cX12_wrongTranscript 34 = .ok (.if_icmp .eq 7, 3) := by decide +kernel
theorem dX12_wrongTranscript_37 : decode cX12_wrongTranscript 37 = .ok (.iload_n 1, 1) := by decide +kernel
theorem dX12_wrongTranscript_38 : decode cX12_wrongTranscript 38 = .ok (.goto 29, 3) := by decide +kernel
theorem dX12_wrongTranscript_41 : decode cX12_wrongTranscript 41 = .ok (.aload_n 0, 1) := by decide +kernel
theorem dX12_wrongTranscript_42 : decode cX12_wrongTranscript 42 = .ok (.iload_n 1, 1) := by decide +kernel
theorem dX12_wrongTranscript_43 : decode cX12_wrongTranscript 43 = .ok (.iconst 1, 1) := by decide +kernel
theorem dX12_wrongTranscript_44 : decode cX12_wrongTranscript 44 = .ok (.iadd, 1) := by decide +kernel
theorem dX12_wrongTranscript_45 : decode cX12_wrongTranscript 45 = .ok (.invokevirtual 184, 3) := by decide +kernel
theorem dX12_wrongTranscript_48 : decode cX12_wrongTranscript 48 = .ok (.bipush 32, 2) := by decide +kernel
theorem dX12_wrongTranscript_50 : decode cX12_wrongTranscript 50 = .ok (.if_icmp .eq 9, 3) := by decide +kernel
theorem dX12_wrongTranscript_53 : decode cX12_wrongTranscript 53 = .ok (.iload_n 1, 1) := by decide +kernel
theorem dX12_wrongTranscript_54 : decode cX12_wrongTranscript 54 = .ok (.iconst 1, 1) := by decide +kernel
theorem dX12_wrongTranscript_55 : decode cX12_wrongTranscript 55 = .ok (.iadd, 1) := by decide +kernel
theorem dX12_wrongTranscript_56 : decode cX12_wrongTranscript 56 = .ok (.goto 11, 3) := by decide +kernel
theorem dX12_wrongTranscript_59 : decode cX12_wrongTranscript 59 = .ok (.aload_n 0, 1) := by decide +kernel
theorem dX12_wrongTranscript_60 : decode cX12_wrongTranscript 60 = .ok (.iload_n 1, 1) := by decide +kernel
theorem dX12_wrongTranscript_61 : decode cX12_wrongTranscript 61 = .ok (.iconst 2, 1) := by decide +kernel
theorem dX12_wrongTranscript_62 : decode cX12_wrongTranscript 62 = .ok (.iadd, 1) := by decide +kernel
theorem dX12_wrongTranscript_63 : decode cX12_wrongTranscript 63 = .ok (.iconst 1, 1) := by decide +kernel
theorem dX12_wrongTranscript_64 : decode cX12_wrongTranscript 64 = .ok (.invokevirtual 193, 3) := by decide +kernel
theorem dX12_wrongTranscript_67 : decode cX12_wrongTranscript 67 = .ok (.istore_n 3, 1) := by decide +kernel
theorem dX12_wrongTranscript_68 : decode cX12_wrongTranscript 68 = .ok (.iload_n 3, 1) := by decide +kernel
theorem dX12_wrongTranscript_69 : decode cX12_wrongTranscript 69 = .ok (.ifCond .lt 5, 3) := by decide +kernel
theorem dX12_wrongTranscript_72 : decode cX12_wrongTranscript 72 = .ok (.iload_n 3, 1) := by decide +kernel
theorem dX12_wrongTranscript_73 : decode cX12_wrongTranscript 73 = .ok (.ireturn, 1) := by decide +kernel
theorem dX12_wrongTranscript_74 : decode cX12_wrongTranscript 74 = .ok (.aload_n 0, 1) := by decide +kernel
theorem dX12_wrongTranscript_75 : decode cX12_wrongTranscript 75 = .ok (.iload_n 1, 1) := by decide +kernel
theorem dX12_wrongTranscript_76 : decode cX12_wrongTranscript 76 = .ok (.invokevirtual 243, 3) := by decide +kernel
theorem dX12_wrongTranscript_79 : decode cX12_wrongTranscript 79 = .ok (.istore_n 3, 1) := by decide +kernel
theorem dX12_wrongTranscript_80 : decode cX12_wrongTranscript 80 = .ok (.iload_n 1, 1) := by decide +kernel
theorem dX12_wrongTranscript_81 : decode cX12_wrongTranscript 81 = .ok (.istore 4, 2) := by decide +kernel
theorem dX12_wrongTranscript_83 : decode cX12_wrongTranscript 83 = .ok (.iload 4, 2) := by decide +kernel
theorem dX12_wrongTranscript_85 : decode cX12_wrongTranscript 85 = .ok (.iload_n 3, 1) := by decide +kernel
theorem dX12_wrongTranscript_86 : decode cX12_wrongTranscript 86 = .ok (.if_icmp .ge 25, 3) := by decide +kernel
theorem dX12_wrongTranscript_89 : decode cX12_wrongTranscript 89 = .ok (.aload_n 0, 1) := by decide +kernel
theorem dX12_wrongTranscript_90 : decode cX12_wrongTranscript 90 = .ok (.getfield 13, 3) := by decide +kernel
theorem dX12_wrongTranscript_93 : decode cX12_wrongTranscript 93 = .ok (.iload 4, 2) := by decide +kernel
theorem dX12_wrongTranscript_95 : decode cX12_wrongTranscript 95 = .ok (.iaload, 1) := by decide +kernel
theorem dX12_wrongTranscript_96 : decode cX12_wrongTranscript 96 = .ok (.invokestatic 135, 3) := by decide +kernel
theorem dX12_wrongTranscript_99 : decode cX12_wrongTranscript 99 = .ok (.ifCond .ne 6, 3) := by decide +kernel
theorem dX12_wrongTranscript_102 : decode cX12_wrongTranscript 102 = .ok (.iload 4, 2) := by decide +kernel
theorem dX12_wrongTranscript_104 : decode cX12_wrongTranscript 104 = .ok (.ireturn, 1) := by decide +kernel
theorem dX12_wrongTranscript_105 : decode cX12_wrongTranscript 105 = .ok (.iinc 4 1, 3) := by decide +kernel
theorem dX12_wrongTranscript_108 : decode cX12_wrongTranscript 108 = .ok (.goto (-25), 3) := by decide +kernel
theorem dX12_wrongTranscript_111 : decode cX12_wrongTranscript 111 = .ok (.iload_n 3, 1) := by decide +kernel
theorem dX12_wrongTranscript_112 : decode cX12_wrongTranscript 112 = .ok (.iconst 1, 1) := by decide +kernel
theorem dX12_wrongTranscript_113 : decode cX12_wrongTranscript 113 = .ok (.iadd, 1) := by decide +kernel
theorem dX12_wrongTranscript_114 : decode cX12_wrongTranscript 114 = .ok (.istore_n 1, 1) := by decide +kernel
theorem dX12_wrongTranscript_115 : decode cX12_wrongTranscript 115 = .ok (.iinc 2 1, 3) := by decide +kernel
theorem dX12_wrongTranscript_118 : decode cX12_wrongTranscript 118 = .ok (.goto (-114), 3) := by decide +kernel
theorem dX12_wrongTranscript_121 : decode cX12_wrongTranscript 121 = .ok (.iload_n 2, 1) := by decide +kernel
theorem dX12_wrongTranscript_122 : decode cX12_wrongTranscript 122 = .ok (.iconst 2, 1) := by decide +kernel
theorem dX12_wrongTranscript_123 : decode cX12_wrongTranscript 123 = .ok (.irem, 1) := by decide +kernel
theorem dX12_wrongTranscript_124 : decode cX12_wrongTranscript 124 = .ok (.iconst 1, 1) := by decide +kernel
theorem dX12_wrongTranscript_125 : decode cX12_wrongTranscript 125 = .ok (.if_icmp .ne 10, 3) := by decide +kernel
theorem dX12_wrongTranscript_128 : decode cX12_wrongTranscript 128 = .ok (.aload_n 0, 1) := by decide +kernel
theorem dX12_wrongTranscript_129 : decode cX12_wrongTranscript 129 = .ok (.getfield 109, 3) := by decide +kernel
theorem dX12_wrongTranscript_132 : decode cX12_wrongTranscript 132 = .ok (.goto 4, 3) := by decide +kernel
theorem dX12_wrongTranscript_135 : decode cX12_wrongTranscript 135 = .ok (.iconst (-1), 1) := by decide +kernel
theorem dX12_wrongTranscript_136 : decode cX12_wrongTranscript 136 = .ok (.ireturn, 1) := by decide +kernel
theorem dX12_isLine_0 : decode cX12_isLine 0 = .ok (.iload_n 2, 1) := by decide +kernel
theorem dX12_isLine_1 : decode cX12_isLine 1 = .ok (.iload_n 1, 1) := by decide +kernel
theorem dX12_isLine_2 : decode cX12_isLine 2 = .ok (.isub, 1) := by decide +kernel
theorem dX12_isLine_3 : decode cX12_isLine 3 = .ok (.istore 5, 2) := by decide +kernel
theorem dX12_isLine_5 : decode cX12_isLine 5 = .ok (.iload 4, 2) := by decide +kernel
theorem dX12_isLine_7 : decode cX12_isLine 7 = .ok (.ifCond .eq 26, 3) := by decide +kernel
theorem dX12_isLine_10 : decode cX12_isLine 10 = .ok (.iload 5, 2) := by decide +kernel
theorem dX12_isLine_12 : decode cX12_isLine 12 = .ok (.iconst 1, 1) := by decide +kernel
theorem dX12_isLine_13 : decode cX12_isLine 13 = .ok (.if_icmp .ne 18, 3) := by decide +kernel
theorem dX12_isLine_16 : decode cX12_isLine 16 = .ok (.aload_n 0, 1) := by decide +kernel
theorem dX12_isLine_17 : decode cX12_isLine 17 = .ok (.getfield 13, 3) := by decide +kernel
theorem dX12_isLine_20 : decode cX12_isLine 20 = .ok (.iload_n 1, 1) := by decide +kernel
theorem dX12_isLine_21 : decode cX12_isLine 21 = .ok (.iaload, 1) := by decide +kernel
theorem dX12_isLine_22 : decode cX12_isLine 22 = .ok (.bipush 46, 2) := by decide +kernel
theorem dX12_isLine_24 : decode cX12_isLine 24 = .ok (.if_icmp .ne 7, 3) := by decide +kernel
theorem dX12_isLine_27 : decode cX12_isLine 27 = .ok (.iconst 1, 1) := by decide +kernel
theorem dX12_isLine_28 : decode cX12_isLine 28 = .ok (.goto 4, 3) := by decide +kernel
theorem dX12_isLine_31 : decode cX12_isLine 31 = .ok (.iconst 0, 1) := by decide +kernel
theorem dX12_isLine_32 : decode cX12_isLine 32 = .ok (.ireturn, 1) := by decide +kernel
theorem dX12_isLine_33 : decode cX12_isLine 33 = .ok (.iload_n 3, 1) := by decide +kernel
theorem dX12_isLine_34 : decode cX12_isLine 34 = .ok (.ifCond .le 41, 3) := by decide +kernel
theorem dX12_isLine_37 : decode cX12_isLine 37 = .ok (.iload 5, 2) := by decide +kernel
theorem dX12_isLine_39 : decode cX12_isLine 39 = .ok (.iconst 2, 1) := by decide +kernel
theorem dX12_isLine_40 : decode cX12_isLine 40 = .ok (.if_icmp .ne 33, 3) := by decide +kernel
theorem dX12_isLine_43 : decode cX12_isLine 43 = .ok (.aload_n 0, 1) := by decide +kernel
theorem dX12_isLine_44 : decode cX12_isLine 44 = .ok (.getfield 13, 3) := by decide +kernel
theorem dX12_isLine_47 : decode cX12_isLine 47 = .ok (.iload_n 1, 1) := by decide +kernel
theorem dX12_isLine_48 : decode cX12_isLine 48 = .ok (.iaload, 1) := by decide +kernel
theorem dX12_isLine_49 : decode cX12_isLine 49 = .ok (.bipush 33, 2) := by decide +kernel
theorem dX12_isLine_51 : decode cX12_isLine 51 = .ok (.if_icmp .ne 22, 3) := by decide +kernel
theorem dX12_isLine_54 : decode cX12_isLine 54 = .ok (.aload_n 0, 1) := by decide +kernel
theorem dX12_isLine_55 : decode cX12_isLine 55 = .ok (.getfield 13, 3) := by decide +kernel
theorem dX12_isLine_58 : decode cX12_isLine 58 = .ok (.iload_n 1, 1) := by decide +kernel
theorem dX12_isLine_59 : decode cX12_isLine 59 = .ok (.iconst 1, 1) := by decide +kernel
theorem dX12_isLine_60 : decode cX12_isLine 60 = .ok (.iadd, 1) := by decide +kernel
theorem dX12_isLine_61 : decode cX12_isLine 61 = .ok (.iaload, 1) := by decide +kernel
theorem dX12_isLine_62 : decode cX12_isLine 62 = .ok (.bipush 48, 2) := by decide +kernel
theorem dX12_isLine_64 : decode cX12_isLine 64 = .ok (.iload_n 3, 1) := by decide +kernel
theorem dX12_isLine_65 : decode cX12_isLine 65 = .ok (.iadd, 1) := by decide +kernel
theorem dX12_isLine_66 : decode cX12_isLine 66 = .ok (.if_icmp .ne 7, 3) := by decide +kernel
theorem dX12_isLine_69 : decode cX12_isLine 69 = .ok (.iconst 1, 1) := by decide +kernel
theorem dX12_isLine_70 : decode cX12_isLine 70 = .ok (.goto 4, 3) := by decide +kernel
theorem dX12_isLine_73 : decode cX12_isLine 73 = .ok (.iconst 0, 1) := by decide +kernel
theorem dX12_isLine_74 : decode cX12_isLine 74 = .ok (.ireturn, 1) := by decide +kernel
theorem dX12_isLine_75 : decode cX12_isLine 75 = .ok (.iload 5, 2) := by decide +kernel
theorem dX12_isLine_77 : decode cX12_isLine 77 = .ok (.aload_n 0, 1) := by decide +kernel
theorem dX12_isLine_78 : decode cX12_isLine 78 = .ok (.aload_n 0, 1) := by decide +kernel
theorem dX12_isLine_79 : decode cX12_isLine 79 = .ok (.getfield 75, 3) := by decide +kernel
theorem dX12_isLine_82 : decode cX12_isLine 82 = .ok (.iconst 3, 1) := by decide +kernel
theorem dX12_isLine_83 : decode cX12_isLine 83 = .ok (.iaload, 1) := by decide +kernel
theorem dX12_isLine_84 : decode cX12_isLine 84 = .ok (.invokevirtual 213, 3) := by decide +kernel
theorem dX12_isLine_87 : decode cX12_isLine 87 = .ok (.if_icmp .ne 7, 3) := by decide +kernel
theorem dX12_isLine_90 : decode cX12_isLine 90 = .ok (.iconst 1, 1) := by decide +kernel
theorem dX12_isLine_91 : decode cX12_isLine 91 = .ok (.goto 4, 3) := by decide +kernel
theorem dX12_isLine_94 : decode cX12_isLine 94 = .ok (.iconst 0, 1) := by decide +kernel
theorem dX12_isLine_95 : decode cX12_isLine 95 = .ok (.istore 6, 2) := by decide +kernel
theorem dX12_isLine_97 : decode cX12_isLine 97 = .ok (.iconst 0, 1) := by decide +kernel
theorem dX12_isLine_98 : decode cX12_isLine 98 = .ok (.istore 7, 2) := by decide +kernel
theorem dX12_isLine_100 : decode cX12_isLine 100 = .ok (.iload 7, 2) := by decide +kernel
theorem dX12_isLine_102 : decode cX12_isLine 102 = .ok (.iload 5, 2) := by decide +kernel
theorem dX12_isLine_104 : decode cX12_isLine 104 = .ok (.if_icmp .ge 45, 3) := by decide +kernel
theorem dX12_isLine_107 : decode cX12_isLine 107 = .ok (.iload 6, 2) := by decide +kernel
theorem dX12_isLine_109 : decode cX12_isLine 109 = .ok (.ifCond .eq 40, 3) := by decide +kernel
theorem dX12_isLine_112 : decode cX12_isLine 112 = .ok (.aload_n 0, 1) := by decide +kernel
theorem dX12_isLine_113 : decode cX12_isLine 113 = .ok (.getfield 13, 3) := by decide +kernel
theorem dX12_isLine_116 : decode cX12_isLine 116 = .ok (.iload_n 1, 1) := by decide +kernel
theorem dX12_isLine_117 : decode cX12_isLine 117 = .ok (.iload 7, 2) := by decide +kernel
theorem dX12_isLine_119 : decode cX12_isLine 119 = .ok (.iadd, 1) := by decide +kernel
theorem dX12_isLine_120 : decode cX12_isLine 120 = .ok (.iaload, 1) := by decide +kernel
theorem dX12_isLine_121 : decode cX12_isLine 121 = .ok (.aload_n 0, 1) := by decide +kernel
theorem dX12_isLine_122 : decode cX12_isLine 122 = .ok (.aload_n 0, 1) := by decide +kernel
theorem dX12_isLine_123 : decode cX12_isLine 123 = .ok (.getfield 75, 3) := by decide +kernel
theorem dX12_isLine_126 : decode cX12_isLine 126 = .ok (.iconst 3, 1) := by decide +kernel
theorem dX12_isLine_127 : decode cX12_isLine 127 = .ok (.iaload, 1) := by decide +kernel
theorem dX12_isLine_128 : decode cX12_isLine 128 = .ok (.iload 7, 2) := by decide +kernel
theorem dX12_isLine_130 : decode cX12_isLine 130 = .ok (.invokevirtual 216, 3) := by decide +kernel
theorem dX12_isLine_133 : decode cX12_isLine 133 = .ok (.if_icmp .ne 7, 3) := by decide +kernel
theorem dX12_isLine_136 : decode cX12_isLine 136 = .ok (.iconst 1, 1) := by decide +kernel
theorem dX12_isLine_137 : decode cX12_isLine 137 = .ok (.goto 4, 3) := by decide +kernel
theorem dX12_isLine_140 : decode cX12_isLine 140 = .ok (.iconst 0, 1) := by decide +kernel
theorem dX12_isLine_141 : decode cX12_isLine 141 = .ok (.istore 6, 2) := by decide +kernel
theorem dX12_isLine_143 : decode cX12_isLine 143 = .ok (.iinc 7 1, 3) := by decide +kernel
theorem dX12_isLine_146 : decode cX12_isLine 146 = .ok (.goto (-46), 3) := by decide +kernel
theorem dX12_isLine_149 : decode cX12_isLine 149 = .ok (.iload 6, 2) := by decide +kernel
theorem dX12_isLine_151 : decode cX12_isLine 151 = .ok (.ireturn, 1) := by decide +kernel
theorem dX12_replay_0 : decode cX12_replay 0 = .ok (.aload_n 0, 1) := by decide +kernel
theorem dX12_replay_1 : decode cX12_replay 1 = .ok (.iconst 0, 1) := by decide +kernel
theorem dX12_replay_2 : decode cX12_replay 2 = .ok (.putfield 1, 3) := by decide +kernel
theorem dX12_replay_5 : decode cX12_replay 5 = .ok (.aload_n 0, 1) := by decide +kernel
theorem dX12_replay_6 : decode cX12_replay 6 = .ok (.invokevirtual 246, 3) := by decide +kernel
theorem dX12_replay_9 : decode cX12_replay 9 = .ok (.istore_n 1, 1) := by decide +kernel
theorem dX12_replay_10 : decode cX12_replay 10 = .ok (.iload_n 1, 1) := by decide +kernel
theorem dX12_replay_11 : decode cX12_replay 11 = .ok (.ifCond .lt 13, 3) := by decide +kernel
theorem dX12_replay_14 : decode cX12_replay 14 = .ok (.aload_n 0, 1) := by decide +kernel
theorem dX12_replay_15 : decode cX12_replay 15 = .ok (.iconst 0, 1) := by decide +kernel
theorem dX12_replay_16 : decode cX12_replay 16 = .ok (.putfield 109, 3) := by decide +kernel
theorem dX12_replay_19 : decode cX12_replay 19 = .ok (.bipush (-10), 2) := by decide +kernel
theorem dX12_replay_21 : decode cX12_replay 21 = .ok (.iload_n 1, 1) := by decide +kernel
theorem dX12_replay_22 : decode cX12_replay 22 = .ok (.isub, 1) := by decide +kernel
theorem dX12_replay_23 : decode cX12_replay 23 = .ok (.ireturn, 1) := by decide +kernel
theorem dX12_replay_24 : decode cX12_replay 24 = .ok (.aload_n 0, 1) := by decide +kernel
theorem dX12_replay_25 : decode cX12_replay 25 = .ok (.invokevirtual 100, 3) := by decide +kernel
theorem dX12_replay_28 : decode cX12_replay 28 = .ok (.iconst 0, 1) := by decide +kernel
theorem dX12_replay_29 : decode cX12_replay 29 = .ok (.istore_n 2, 1) := by decide +kernel
theorem dX12_replay_30 : decode cX12_replay 30 = .ok (.iconst 0, 1) := by decide +kernel
theorem dX12_replay_31 : decode cX12_replay 31 = .ok (.istore_n 3, 1) := by decide +kernel
theorem dX12_replay_32 : decode cX12_replay 32 = .ok (.iconst 0, 1) := by decide +kernel
theorem dX12_replay_33 : decode cX12_replay 33 = .ok (.istore 4, 2) := by decide +kernel
theorem dX12_replay_35 : decode cX12_replay 35 = .ok (.iload_n 2, 1) := by decide +kernel
theorem dX12_replay_36 : decode cX12_replay 36 = .ok (.aload_n 0, 1) := by decide +kernel
theorem dX12_replay_37 : decode cX12_replay 37 = .ok (.getfield 109, 3) := by decide +kernel
theorem dX12_replay_40 : decode cX12_replay 40 = .ok (.if_icmp .ge 108, 3) := by decide +kernel
theorem dX12_replay_43 : decode cX12_replay 43 = .ok (.iload 4, 2) := by decide +kernel
theorem dX12_replay_45 : decode cX12_replay 45 = .ok (.ifCond .ne 103, 3) := by decide +kernel
theorem dX12_replay_48 : decode cX12_replay 48 = .ok (.aload_n 0, 1) := by decide +kernel
theorem dX12_replay_49 : decode cX12_replay 49 = .ok (.iload_n 2, 1) := by decide +kernel
theorem dX12_replay_50 : decode cX12_replay 50 = .ok (.invokevirtual 243, 3) := by decide +kernel
theorem dX12_replay_53 : decode cX12_replay 53 = .ok (.istore 5, 2) := by decide +kernel
theorem dX12_replay_55 : decode cX12_replay 55 = .ok (.aload_n 0, 1) := by decide +kernel
theorem dX12_replay_56 : decode cX12_replay 56 = .ok (.getfield 75, 3) := by decide +kernel
theorem dX12_replay_59 : decode cX12_replay 59 = .ok (.iconst 1, 1) := by decide +kernel
theorem dX12_replay_60 : decode cX12_replay 60 = .ok (.iaload, 1) := by decide +kernel
theorem dX12_replay_61 : decode cX12_replay 61 = .ok (.ifCond .eq 7, 3) := by decide +kernel
theorem dX12_replay_64 : decode cX12_replay 64 = .ok (.iconst 1, 1) := by decide +kernel
theorem dX12_replay_65 : decode cX12_replay 65 = .ok (.goto 4, 3) := by decide +kernel
theorem dX12_replay_68 : decode cX12_replay 68 = .ok (.iconst 0, 1) := by decide +kernel
theorem dX12_replay_69 : decode cX12_replay 69 = .ok (.istore 6, 2) := by decide +kernel
theorem dX12_replay_71 : decode cX12_replay 71 = .ok (.iload 6, 2) := by decide +kernel
theorem dX12_replay_73 : decode cX12_replay 73 = .ok (.ifCond .eq 7, 3) := by decide +kernel
theorem dX12_replay_76 : decode cX12_replay 76 = .ok (.iconst 0, 1) := by decide +kernel
theorem dX12_replay_77 : decode cX12_replay 77 = .ok (.goto 24, 3) := by decide +kernel
theorem dX12_replay_80 : decode cX12_replay 80 = .ok (.aload_n 0, 1) := by decide +kernel
theorem dX12_replay_81 : decode cX12_replay 81 = .ok (.aload_n 0, 1) := by decide +kernel
theorem dX12_replay_82 : decode cX12_replay 82 = .ok (.aload_n 0, 1) := by decide +kernel
theorem dX12_replay_83 : decode cX12_replay 83 = .ok (.getfield 13, 3) := by decide +kernel
theorem dX12_replay_86 : decode cX12_replay 86 = .ok (.iload_n 2, 1) := by decide +kernel
theorem dX12_replay_87 : decode cX12_replay 87 = .ok (.iconst 2, 1) := by decide +kernel
theorem dX12_replay_88 : decode cX12_replay 88 = .ok (.iadd, 1) := by decide +kernel
theorem dX12_replay_89 : decode cX12_replay 89 = .ok (.iload 5, 2) := by decide +kernel
theorem dX12_replay_91 : decode cX12_replay 91 = .ok (.iload_n 2, 1) := by decide +kernel
theorem dX12_replay_92 : decode cX12_replay 92 = .ok (.isub, 1) := by decide +kernel
theorem dX12_replay_93 : decode cX12_replay 93 = .ok (.iconst 2, 1) := by decide +kernel
theorem dX12_replay_94 : decode cX12_replay 94 = .ok (.isub, 1) := by decide +kernel
theorem dX12_replay_95 : decode cX12_replay 95 = .ok (.invokevirtual 131, 3) := by decide +kernel
theorem dX12_replay_98 : decode cX12_replay 98 = .ok (.invokevirtual 231, 3) := by decide +kernel
theorem dX12_replay_101 : decode cX12_replay 101 = .ok (.istore 7, 2) := by decide +kernel
theorem dX12_replay_103 : decode cX12_replay 103 = .ok (.aload_n 0, 1) := by decide +kernel
theorem dX12_replay_104 : decode cX12_replay 104 = .ok (.iload 5, 2) := by decide +kernel
theorem dX12_replay_106 : decode cX12_replay 106 = .ok (.iconst 1, 1) := by decide +kernel
theorem dX12_replay_107 : decode cX12_replay 107 = .ok (.iadd, 1) := by decide +kernel
theorem dX12_replay_108 : decode cX12_replay 108 = .ok (.invokevirtual 243, 3) := by decide +kernel
theorem dX12_replay_111 : decode cX12_replay 111 = .ok (.istore 8, 2) := by decide +kernel
theorem dX12_replay_113 : decode cX12_replay 113 = .ok (.iinc 3 2, 3) := by decide +kernel
theorem dX12_replay_116 : decode cX12_replay 116 = .ok (.aload_n 0, 1) := by decide +kernel
theorem dX12_replay_117 : decode cX12_replay 117 = .ok (.iload 5, 2) := by decide +kernel
theorem dX12_replay_119 : decode cX12_replay 119 = .ok (.iconst 1, 1) := by decide +kernel
theorem dX12_replay_120 : decode cX12_replay 120 = .ok (.iadd, 1) := by decide +kernel
theorem dX12_replay_121 : decode cX12_replay 121 = .ok (.iload 8, 2) := by decide +kernel
theorem dX12_replay_123 : decode cX12_replay 123 = .ok (.iload 7, 2) := by decide +kernel
theorem dX12_replay_125 : decode cX12_replay 125 = .ok (.iload 6, 2) := by decide +kernel
theorem dX12_replay_127 : decode cX12_replay 127 = .ok (.invokevirtual 250, 3) := by decide +kernel
theorem dX12_replay_130 : decode cX12_replay 130 = .ok (.ifCond .eq 7, 3) := by decide +kernel
theorem dX12_replay_133 : decode cX12_replay 133 = .ok (.iconst 0, 1) := by decide +kernel
theorem dX12_replay_134 : decode cX12_replay 134 = .ok (.goto 4, 3) := by decide +kernel
theorem dX12_replay_137 : decode cX12_replay 137 = .ok (.iload_n 3, 1) := by decide +kernel
theorem dX12_replay_138 : decode cX12_replay 138 = .ok (.istore 4, 2) := by decide +kernel
theorem dX12_replay_140 : decode cX12_replay 140 = .ok (.iload 8, 2) := by decide +kernel
theorem dX12_replay_142 : decode cX12_replay 142 = .ok (.iconst 1, 1) := by decide +kernel
theorem dX12_replay_143 : decode cX12_replay 143 = .ok (.iadd, 1) := by decide +kernel
theorem dX12_replay_144 : decode cX12_replay 144 = .ok (.istore_n 2, 1) := by decide +kernel
theorem dX12_replay_145 : decode cX12_replay 145 = .ok (.goto (-110), 3) := by decide +kernel
theorem dX12_replay_148 : decode cX12_replay 148 = .ok (.aload_n 0, 1) := by decide +kernel
theorem dX12_replay_149 : decode cX12_replay 149 = .ok (.iconst 0, 1) := by decide +kernel
theorem dX12_replay_150 : decode cX12_replay 150 = .ok (.putfield 109, 3) := by decide +kernel
theorem dX12_replay_153 : decode cX12_replay 153 = .ok (.iload 4, 2) := by decide +kernel
theorem dX12_replay_155 : decode cX12_replay 155 = .ok (.ireturn, 1) := by decide +kernel
theorem dX12_breaks_0 : decode cX12_breaks 0 = .ok (.aload_n 0, 1) := by decide +kernel
theorem dX12_breaks_1 : decode cX12_breaks 1 = .ok (.iload_n 1, 1) := by decide +kernel
theorem dX12_breaks_2 : decode cX12_breaks 2 = .ok (.invokevirtual 231, 3) := by decide +kernel
theorem dX12_breaks_5 : decode cX12_breaks 5 = .ok (.istore_n 2, 1) := by decide +kernel
theorem dX12_breaks_6 : decode cX12_breaks 6 = .ok (.iload_n 2, 1) := by decide +kernel
theorem dX12_breaks_7 : decode cX12_breaks 7 = .ok (.ifCond .le 5, 3) := by decide +kernel
theorem dX12_breaks_10 : decode cX12_breaks 10 = .ok (.iconst 1, 1) := by decide +kernel
theorem dX12_breaks_11 : decode cX12_breaks 11 = .ok (.ireturn, 1) := by decide +kernel
theorem dX12_breaks_12 : decode cX12_breaks 12 = .ok (.aload_n 0, 1) := by decide +kernel
theorem dX12_breaks_13 : decode cX12_breaks 13 = .ok (.aload_n 0, 1) := by decide +kernel
theorem dX12_breaks_14 : decode cX12_breaks 14 = .ok (.getfield 75, 3) := by decide +kernel
theorem dX12_breaks_17 : decode cX12_breaks 17 = .ok (.iconst 3, 1) := by decide +kernel
theorem dX12_breaks_18 : decode cX12_breaks 18 = .ok (.iaload, 1) := by decide +kernel
theorem dX12_breaks_19 : decode cX12_breaks 19 = .ok (.invokevirtual 213, 3) := by decide +kernel
theorem dX12_breaks_22 : decode cX12_breaks 22 = .ok (.ifCond .ne 5, 3) := by decide +kernel
theorem dX12_breaks_25 : decode cX12_breaks 25 = .ok (.iconst 2, 1) := by decide +kernel
theorem dX12_breaks_26 : decode cX12_breaks 26 = .ok (.ireturn, 1) := by decide +kernel
theorem dX12_breaks_27 : decode cX12_breaks 27 = .ok (.iconst 0, 1) := by decide +kernel
theorem dX12_breaks_28 : decode cX12_breaks 28 = .ok (.istore_n 3, 1) := by decide +kernel
theorem dX12_breaks_29 : decode cX12_breaks 29 = .ok (.iconst 4, 1) := by decide +kernel
theorem dX12_breaks_30 : decode cX12_breaks 30 = .ok (.istore 4, 2) := by decide +kernel
theorem dX12_breaks_32 : decode cX12_breaks 32 = .ok (.iload 4, 2) := by decide +kernel
theorem dX12_breaks_34 : decode cX12_breaks 34 = .ok (.bipush 12, 2) := by decide +kernel
theorem dX12_breaks_36 : decode cX12_breaks 36 = .ok (.if_icmp .ge 29, 3) := by decide +kernel
theorem dX12_breaks_39 : decode cX12_breaks 39 = .ok (.iload_n 3, 1) := by decide +kernel
theorem dX12_breaks_40 : decode cX12_breaks 40 = .ok (.ifCond .ne 13, 3) := by decide +kernel
theorem dX12_breaks_43 : decode cX12_breaks 43 = .ok (.aload_n 0, 1) := by decide +kernel
theorem dX12_breaks_44 : decode cX12_breaks 44 = .ok (.getfield 75, 3) := by decide +kernel
theorem dX12_breaks_47 : decode cX12_breaks 47 = .ok (.iload 4, 2) := by decide +kernel
theorem dX12_breaks_49 : decode cX12_breaks 49 = .ok (.iaload, 1) := by decide +kernel
theorem dX12_breaks_50 : decode cX12_breaks 50 = .ok (.ifCond .ge 7, 3) := by decide +kernel
theorem dX12_breaks_53 : decode cX12_breaks 53 = .ok (.iconst 1, 1) := by decide +kernel
theorem dX12_breaks_54 : decode cX12_breaks 54 = .ok (.goto 4, 3) := by decide +kernel
theorem dX12_breaks_57 : decode cX12_breaks 57 = .ok (.iconst 0, 1) := by decide +kernel
theorem dX12_breaks_58 : decode cX12_breaks 58 = .ok (.istore_n 3, 1) := by decide +kernel
theorem dX12_breaks_59 : decode cX12_breaks 59 = .ok (.iinc 4 1, 3) := by decide +kernel
theorem dX12_breaks_62 : decode cX12_breaks 62 = .ok (.goto (-30), 3) := by decide +kernel
theorem dX12_breaks_65 : decode cX12_breaks 65 = .ok (.iload_n 3, 1) := by decide +kernel
theorem dX12_breaks_66 : decode cX12_breaks 66 = .ok (.ifCond .eq 7, 3) := by decide +kernel
theorem dX12_breaks_69 : decode cX12_breaks 69 = .ok (.iconst 3, 1) := by decide +kernel
theorem dX12_breaks_70 : decode cX12_breaks 70 = .ok (.goto 4, 3) := by decide +kernel
theorem dX12_breaks_73 : decode cX12_breaks 73 = .ok (.iconst 0, 1) := by decide +kernel
theorem dX12_breaks_74 : decode cX12_breaks 74 = .ok (.ireturn, 1) := by decide +kernel
theorem dX12_storm_0 : decode cX12_storm 0 = .ok (.aload_n 0, 1) := by decide +kernel
theorem dX12_storm_1 : decode cX12_storm 1 = .ok (.iconst 0, 1) := by decide +kernel
theorem dX12_storm_2 : decode cX12_storm 2 = .ok (.putfield 1, 3) := by decide +kernel
theorem dX12_storm_5 : decode cX12_storm 5 = .ok (.iload_n 2, 1) := by decide +kernel
theorem dX12_storm_6 : decode cX12_storm 6 = .ok (.i2l, 1) := by decide +kernel
theorem dX12_storm_7 : decode cX12_storm 7 = .ok (.lconst 0, 1) := by decide +kernel
theorem dX12_storm_8 : decode cX12_storm 8 = .ok (.ldc2_w 254, 3) := by decide +kernel
theorem dX12_storm_11 : decode cX12_storm 11 = .ok (.invokestatic 105, 3) := by decide +kernel
theorem dX12_storm_14 : decode cX12_storm 14 = .ok (.ifCond .ne 6, 3) := by decide +kernel
theorem dX12_storm_17 : decode cX12_storm 17 = .ok (.bipush (-3), 2) := by decide +kernel
theorem dX12_storm_19 : decode cX12_storm 19 = .ok (.ireturn, 1) := by decide +kernel
theorem dX12_storm_20 : decode cX12_storm 20 = .ok (.aload_n 0, 1) := by decide +kernel
theorem dX12_storm_21 : decode cX12_storm 21 = .ok (.getfield 122, 3) := by decide +kernel
theorem dX12_storm_24 : decode cX12_storm 24 = .ok (.ifCond .ne 6, 3) := by decide +kernel
theorem dX12_storm_27 : decode cX12_storm 27 = .ok (.bipush (-4), 2) := by decide +kernel
theorem dX12_storm_29 : decode cX12_storm 29 = .ok (.ireturn, 1) := by decide +kernel
theorem dX12_storm_30 : decode cX12_storm 30 = .ok (.aload_n 0, 1) := by decide +kernel
theorem dX12_storm_31 : decode cX12_storm 31 = .ok (.invokevirtual 100, 3) := by decide +kernel
theorem dX12_storm_34 : decode cX12_storm 34 = .ok (.aload_n 0, 1) := by decide +kernel
theorem dX12_storm_35 : decode cX12_storm 35 = .ok (.iconst 0, 1) := by decide +kernel
theorem dX12_storm_36 : decode cX12_storm 36 = .ok (.putfield 256, 3) := by decide +kernel
theorem dX12_storm_39 : decode cX12_storm 39 = .ok (.aload_n 0, 1) := by decide +kernel
theorem dX12_storm_40 : decode cX12_storm 40 = .ok (.iconst 0, 1) := by decide +kernel
theorem dX12_storm_41 : decode cX12_storm 41 = .ok (.putfield 259, 3) := by decide +kernel
theorem dX12_storm_44 : decode cX12_storm 44 = .ok (.iload_n 1, 1) := by decide +kernel
theorem dX12_storm_45 : decode cX12_storm 45 = .ok (.istore_n 3, 1) := by decide +kernel
theorem dX12_storm_46 : decode cX12_storm 46 = .ok (.aload_n 0, 1) := by decide +kernel
theorem dX12_storm_47 : decode cX12_storm 47 = .ok (.getfield 256, 3) := by decide +kernel
theorem dX12_storm_50 : decode cX12_storm 50 = .ok (.iload_n 2, 1) := by decide +kernel
theorem dX12_storm_51 : decode cX12_storm 51 = .ok (.if_icmp .ge 76, 3) := by decide +kernel
theorem dX12_storm_54 : decode cX12_storm 54 = .ok (.aload_n 0, 1) := by decide +kernel
theorem dX12_storm_55 : decode cX12_storm 55 = .ok (.getfield 259, 3) := by decide +kernel
theorem dX12_storm_58 : decode cX12_storm 58 = .ok (.ifCond .ne 69, 3) := by decide +kernel
theorem dX12_storm_61 : decode cX12_storm 61 = .ok (.aload_n 0, 1) := by decide +kernel
theorem dX12_storm_62 : decode cX12_storm 62 = .ok (.getfield 75, 3) := by decide +kernel
theorem dX12_storm_65 : decode cX12_storm 65 = .ok (.iconst 1, 1) := by decide +kernel
theorem dX12_storm_66 : decode cX12_storm 66 = .ok (.iaload, 1) := by decide +kernel
theorem dX12_storm_67 : decode cX12_storm 67 = .ok (.ifCond .ne 60, 3) := by decide +kernel
theorem dX12_storm_70 : decode cX12_storm 70 = .ok (.iload_n 3, 1) := by decide +kernel
theorem dX12_storm_71 : decode cX12_storm 71 = .ok (.invokestatic 167, 3) := by decide +kernel
theorem dX12_storm_74 : decode cX12_storm 74 = .ok (.istore_n 3, 1) := by decide +kernel
theorem dX12_storm_75 : decode cX12_storm 75 = .ok (.aload_n 0, 1) := by decide +kernel
theorem dX12_storm_76 : decode cX12_storm 76 = .ok (.getfield 94, 3) := by decide +kernel
theorem dX12_storm_79 : decode cX12_storm 79 = .ok (.aload_n 0, 1) := by decide +kernel
theorem dX12_storm_80 : decode cX12_storm 80 = .ok (.getfield 256, 3) := by decide +kernel
theorem dX12_storm_83 : decode cX12_storm 83 = .ok (.iload_n 3, 1) := by decide +kernel
theorem dX12_storm_84 : decode cX12_storm 84 = .ok (.bipush 16, 2) := by decide +kernel
theorem dX12_storm_86 : decode cX12_storm 86 = .ok (.iushr, 1) := by decide +kernel
theorem dX12_storm_87 : decode cX12_storm 87 = .ok (.sipush 32767, 3) := by decide +kernel
theorem dX12_storm_90 : decode cX12_storm 90 = .ok (.iand, 1) := by decide +kernel
theorem dX12_storm_91 : decode cX12_storm 91 = .ok (.aload_n 0, 1) := by decide +kernel
theorem dX12_storm_92 : decode cX12_storm 92 = .ok (.getfield 122, 3) := by decide +kernel
theorem dX12_storm_95 : decode cX12_storm 95 = .ok (.irem, 1) := by decide +kernel
theorem dX12_storm_96 : decode cX12_storm 96 = .ok (.iastore, 1) := by decide +kernel
theorem dX12_storm_97 : decode cX12_storm 97 = .ok (.aload_n 0, 1) := by decide +kernel
theorem dX12_storm_98 : decode cX12_storm 98 = .ok (.aload_n 0, 1) := by decide +kernel
theorem dX12_storm_99 : decode cX12_storm 99 = .ok (.aload_n 0, 1) := by decide +kernel
theorem dX12_storm_100 : decode cX12_storm 100 = .ok (.getfield 94, 3) := by decide +kernel
theorem dX12_storm_103 : decode cX12_storm 103 = .ok (.aload_n 0, 1) := by decide +kernel
theorem dX12_storm_104 : decode cX12_storm 104 = .ok (.getfield 256, 3) := by decide +kernel
theorem dX12_storm_107 : decode cX12_storm 107 = .ok (.iaload, 1) := by decide +kernel
theorem dX12_storm_108 : decode cX12_storm 108 = .ok (.invokevirtual 262, 3) := by decide +kernel
theorem dX12_storm_111 : decode cX12_storm 111 = .ok (.putfield 259, 3) := by decide +kernel
theorem dX12_storm_114 : decode cX12_storm 114 = .ok (.aload_n 0, 1) := by decide +kernel
theorem dX12_storm_115 : decode cX12_storm 115 = .ok (.dup, 1) := by decide +kernel
theorem dX12_storm_116 : decode cX12_storm 116 = .ok (.getfield 256, 3) := by decide +kernel
theorem dX12_storm_119 : decode cX12_storm 119 = .ok (.iconst 1, 1) := by decide +kernel
theorem dX12_storm_120 : decode cX12_storm 120 = .ok (.iadd, 1) := by decide +kernel
theorem dX12_storm_121 : decode cX12_storm 121 = .ok (.putfield 256, 3) := by decide +kernel
theorem dX12_storm_124 : decode cX12_storm 124 = .ok (.goto (-78), 3) := by decide +kernel
theorem dX12_storm_127 : decode cX12_storm 127 = .ok (.aload_n 0, 1) := by decide +kernel
theorem dX12_storm_128 : decode cX12_storm 128 = .ok (.getfield 259, 3) := by decide +kernel
theorem dX12_storm_131 : decode cX12_storm 131 = .ok (.ireturn, 1) := by decide +kernel
theorem dX12_play_0 : decode cX12_play 0 = .ok (.aload_n 0, 1) := by decide +kernel
theorem dX12_play_1 : decode cX12_play 1 = .ok (.iconst 0, 1) := by decide +kernel
theorem dX12_play_2 : decode cX12_play 2 = .ok (.putfield 1, 3) := by decide +kernel
theorem dX12_play_5 : decode cX12_play 5 = .ok (.aload_n 0, 1) := by decide +kernel
theorem dX12_play_6 : decode cX12_play 6 = .ok (.getfield 256, 3) := by decide +kernel
theorem dX12_play_9 : decode cX12_play 9 = .ok (.ireturn, 1) := by decide +kernel
theorem dX12_played_0 : decode cX12_played 0 = .ok (.aload_n 0, 1) := by decide +kernel
theorem dX12_played_1 : decode cX12_played 1 = .ok (.iconst 0, 1) := by decide +kernel
theorem dX12_played_2 : decode cX12_played 2 = .ok (.putfield 1, 3) := by decide +kernel
theorem dX12_played_5 : decode cX12_played 5 = .ok (.iload_n 1, 1) := by decide +kernel
theorem dX12_played_6 : decode cX12_played 6 = .ok (.i2l, 1) := by decide +kernel
theorem dX12_played_7 : decode cX12_played 7 = .ok (.lconst 0, 1) := by decide +kernel
theorem dX12_played_8 : decode cX12_played 8 = .ok (.aload_n 0, 1) := by decide +kernel
theorem dX12_played_9 : decode cX12_played 9 = .ok (.getfield 256, 3) := by decide +kernel
theorem dX12_played_12 : decode cX12_played 12 = .ok (.iconst 1, 1) := by decide +kernel
theorem dX12_played_13 : decode cX12_played 13 = .ok (.isub, 1) := by decide +kernel
theorem dX12_played_14 : decode cX12_played 14 = .ok (.i2l, 1) := by decide +kernel
theorem dX12_played_15 : decode cX12_played 15 = .ok (.invokestatic 105, 3) := by decide +kernel
theorem dX12_played_18 : decode cX12_played 18 = .ok (.ifCond .eq 12, 3) := by decide +kernel
theorem dX12_played_21 : decode cX12_played 21 = .ok (.aload_n 0, 1) := by decide +kernel
theorem dX12_played_22 : decode cX12_played 22 = .ok (.getfield 94, 3) := by decide +kernel
theorem dX12_played_25 : decode cX12_played 25 = .ok (.iload_n 1, 1) := by decide +kernel
theorem dX12_played_26 : decode cX12_played 26 = .ok (.iaload, 1) := by decide +kernel
theorem dX12_played_27 : decode cX12_played 27 = .ok (.goto 5, 3) := by decide +kernel
theorem dX12_played_30 : decode cX12_played 30 = .ok (.bipush (-2), 2) := by decide +kernel
theorem dX12_played_32 : decode cX12_played 32 = .ok (.ireturn, 1) := by decide +kernel
theorem dX12_canGo_0 : decode cX12_canGo 0 = .ok (.aload_n 0, 1) := by decide +kernel
theorem dX12_canGo_1 : decode cX12_canGo 1 = .ok (.invokevirtual 100, 3) := by decide +kernel
theorem dX12_canGo_4 : decode cX12_canGo 4 = .ok (.iconst 0, 1) := by decide +kernel
theorem dX12_canGo_5 : decode cX12_canGo 5 = .ok (.istore_n 2, 1) := by decide +kernel
theorem dX12_canGo_6 : decode cX12_canGo 6 = .ok (.iload_n 1, 1) := by decide +kernel
theorem dX12_canGo_7 : decode cX12_canGo 7 = .ok (.aload_n 0, 1) := by decide +kernel
theorem dX12_canGo_8 : decode cX12_canGo 8 = .ok (.getfield 256, 3) := by decide +kernel
theorem dX12_canGo_11 : decode cX12_canGo 11 = .ok (.iconst 1, 1) := by decide +kernel
theorem dX12_canGo_12 : decode cX12_canGo 12 = .ok (.isub, 1) := by decide +kernel
theorem dX12_canGo_13 : decode cX12_canGo 13 = .ok (.if_icmp .ne 12, 3) := by decide +kernel
theorem dX12_canGo_16 : decode cX12_canGo 16 = .ok (.aload_n 0, 1) := by decide +kernel
theorem dX12_canGo_17 : decode cX12_canGo 17 = .ok (.getfield 256, 3) := by decide +kernel
theorem dX12_canGo_20 : decode cX12_canGo 20 = .ok (.iconst 2, 1) := by decide +kernel
theorem dX12_canGo_21 : decode cX12_canGo 21 = .ok (.isub, 1) := by decide +kernel
theorem dX12_canGo_22 : decode cX12_canGo 22 = .ok (.goto 9, 3) := by decide +kernel
theorem dX12_canGo_25 : decode cX12_canGo 25 = .ok (.aload_n 0, 1) := by decide +kernel
theorem dX12_canGo_26 : decode cX12_canGo 26 = .ok (.getfield 256, 3) := by decide +kernel
theorem dX12_canGo_29 : decode cX12_canGo 29 = .ok (.iconst 1, 1) := by decide +kernel
theorem dX12_canGo_30 : decode cX12_canGo 30 = .ok (.isub, 1) := by decide +kernel
theorem dX12_canGo_31 : decode cX12_canGo 31 = .ok (.istore_n 3, 1) := by decide +kernel
theorem dX12_canGo_32 : decode cX12_canGo 32 = .ok (.iconst 0, 1) := by decide +kernel
theorem dX12_canGo_33 : decode cX12_canGo 33 = .ok (.istore 4, 2) := by decide +kernel
theorem dX12_canGo_35 : decode cX12_canGo 35 = .ok (.iload 4, 2) := by decide +kernel
theorem dX12_canGo_37 : decode cX12_canGo 37 = .ok (.iload_n 3, 1) := by decide +kernel
theorem dX12_canGo_38 : decode cX12_canGo 38 = .ok (.if_icmp .gt 42, 3) := by decide +kernel
theorem dX12_canGo_41 : decode cX12_canGo 41 = .ok (.iload 4, 2) := by decide +kernel
theorem dX12_canGo_43 : decode cX12_canGo 43 = .ok (.iload_n 1, 1) := by decide +kernel
theorem dX12_canGo_44 : decode cX12_canGo 44 = .ok (.if_icmp .eq 30, 3) := by decide +kernel
theorem dX12_canGo_47 : decode cX12_canGo 47 = .ok (.aload_n 0, 1) := by decide +kernel
theorem dX12_canGo_48 : decode cX12_canGo 48 = .ok (.getfield 75, 3) := by decide +kernel
theorem dX12_canGo_51 : decode cX12_canGo 51 = .ok (.iconst 1, 1) := by decide +kernel
theorem dX12_canGo_52 : decode cX12_canGo 52 = .ok (.iaload, 1) := by decide +kernel
theorem dX12_canGo_53 : decode cX12_canGo 53 = .ok (.ifCond .ne 7, 3) := by decide +kernel
theorem dX12_canGo_56 : decode cX12_canGo 56 = .ok (.iload_n 2, 1) := by decide +kernel
theorem dX12_canGo_57 : decode cX12_canGo 57 = .ok (.ifCond .eq 5, 3) := by decide +kernel
theorem dX12_canGo_60 : decode cX12_canGo 60 = .ok (.iconst 0, 1) := by decide +kernel
theorem dX12_canGo_61 : decode cX12_canGo 61 = .ok (.ireturn, 1) := by decide +kernel
theorem dX12_canGo_62 : decode cX12_canGo 62 = .ok (.aload_n 0, 1) := by decide +kernel
theorem dX12_canGo_63 : decode cX12_canGo 63 = .ok (.aload_n 0, 1) := by decide +kernel
theorem dX12_canGo_64 : decode cX12_canGo 64 = .ok (.getfield 94, 3) := by decide +kernel
theorem dX12_canGo_67 : decode cX12_canGo 67 = .ok (.iload 4, 2) := by decide +kernel
theorem dX12_canGo_69 : decode cX12_canGo 69 = .ok (.iaload, 1) := by decide +kernel
theorem dX12_canGo_70 : decode cX12_canGo 70 = .ok (.invokevirtual 262, 3) := by decide +kernel
theorem dX12_canGo_73 : decode cX12_canGo 73 = .ok (.istore_n 2, 1) := by decide +kernel
theorem dX12_canGo_74 : decode cX12_canGo 74 = .ok (.iinc 4 1, 3) := by decide +kernel
theorem dX12_canGo_77 : decode cX12_canGo 77 = .ok (.goto (-42), 3) := by decide +kernel
theorem dX12_canGo_80 : decode cX12_canGo 80 = .ok (.iload_n 2, 1) := by decide +kernel
theorem dX12_canGo_81 : decode cX12_canGo 81 = .ok (.aload_n 0, 1) := by decide +kernel
theorem dX12_canGo_82 : decode cX12_canGo 82 = .ok (.getfield 259, 3) := by decide +kernel
theorem dX12_canGo_85 : decode cX12_canGo 85 = .ok (.if_icmp .ne 7, 3) := by decide +kernel
theorem dX12_canGo_88 : decode cX12_canGo 88 = .ok (.iconst 1, 1) := by decide +kernel
theorem dX12_canGo_89 : decode cX12_canGo 89 = .ok (.goto 4, 3) := by decide +kernel
theorem dX12_canGo_92 : decode cX12_canGo 92 = .ok (.iconst 0, 1) := by decide +kernel
theorem dX12_canGo_93 : decode cX12_canGo 93 = .ok (.ireturn, 1) := by decide +kernel
theorem dX12_shrink_0 : decode cX12_shrink 0 = .ok (.aload_n 0, 1) := by decide +kernel
theorem dX12_shrink_1 : decode cX12_shrink 1 = .ok (.iconst 0, 1) := by decide +kernel
theorem dX12_shrink_2 : decode cX12_shrink 2 = .ok (.putfield 1, 3) := by decide +kernel
theorem dX12_shrink_5 : decode cX12_shrink 5 = .ok (.aload_n 0, 1) := by decide +kernel
theorem dX12_shrink_6 : decode cX12_shrink 6 = .ok (.getfield 259, 3) := by decide +kernel
theorem dX12_shrink_9 : decode cX12_shrink 9 = .ok (.ifCond .ne 6, 3) := by decide +kernel
theorem dX12_shrink_12 : decode cX12_shrink 12 = .ok (.bipush (-4), 2) := by decide +kernel
theorem dX12_shrink_14 : decode cX12_shrink 14 = .ok (.ireturn, 1) := by decide +kernel
theorem dX12_shrink_15 : decode cX12_shrink 15 = .ok (.aload_n 0, 1) := by decide +kernel
theorem dX12_shrink_16 : decode cX12_shrink 16 = .ok (.iconst 0, 1) := by decide +kernel
theorem dX12_shrink_17 : decode cX12_shrink 17 = .ok (.iconst 5, 1) := by decide +kernel
theorem dX12_shrink_18 : decode cX12_shrink 18 = .ok (.invokevirtual 227, 3) := by decide +kernel
theorem dX12_shrink_21 : decode cX12_shrink 21 = .ok (.aload_n 0, 1) := by decide +kernel
theorem dX12_shrink_22 : decode cX12_shrink 22 = .ok (.getfield 78, 3) := by decide +kernel
theorem dX12_shrink_25 : decode cX12_shrink 25 = .ok (.iconst 1, 1) := by decide +kernel
theorem dX12_shrink_26 : decode cX12_shrink 26 = .ok (.baload, 1) := by decide +kernel
theorem dX12_shrink_27 : decode cX12_shrink 27 = .ok (.istore_n 1, 1) := by decide +kernel
theorem dX12_shrink_28 : decode cX12_shrink 28 = .ok (.aload_n 0, 1) := by decide +kernel
theorem dX12_shrink_29 : decode cX12_shrink 29 = .ok (.getfield 78, 3) := by decide +kernel
theorem dX12_shrink_32 : decode cX12_shrink 32 = .ok (.iconst 2, 1) := by decide +kernel
theorem dX12_shrink_33 : decode cX12_shrink 33 = .ok (.baload, 1) := by decide +kernel
theorem dX12_shrink_34 : decode cX12_shrink 34 = .ok (.istore_n 2, 1) := by decide +kernel
theorem dX12_shrink_35 : decode cX12_shrink 35 = .ok (.aload_n 0, 1) := by decide +kernel
theorem dX12_shrink_36 : decode cX12_shrink 36 = .ok (.getfield 78, 3) := by decide +kernel
theorem dX12_shrink_39 : decode cX12_shrink 39 = .ok (.iconst 3, 1) := by decide +kernel
theorem dX12_shrink_40 : decode cX12_shrink 40 = .ok (.baload, 1) := by decide +kernel
theorem dX12_shrink_41 : decode cX12_shrink 41 = .ok (.istore_n 3, 1) := by decide +kernel
theorem dX12_shrink_42 : decode cX12_shrink 42 = .ok (.aload_n 0, 1) := by decide +kernel
theorem dX12_shrink_43 : decode cX12_shrink 43 = .ok (.getfield 78, 3) := by decide +kernel
theorem dX12_shrink_46 : decode cX12_shrink 46 = .ok (.iconst 4, 1) := by decide +kernel
theorem dX12_shrink_47 : decode cX12_shrink 47 = .ok (.baload, 1) := by decide +kernel
theorem dX12_shrink_48 : decode cX12_shrink 48 = .ok (.istore 4, 2) := by decide +kernel
theorem dX12_shrink_50 : decode cX12_shrink 50 = .ok (.aload_n 0, 1) := by decide +kernel
theorem dX12_shrink_51 : decode cX12_shrink 51 = .ok (.iconst 0, 1) := by decide +kernel
theorem dX12_shrink_52 : decode cX12_shrink 52 = .ok (.putfield 71, 3) := by decide +kernel
theorem dX12_shrink_55 : decode cX12_shrink 55 = .ok (.iconst 1, 1) := by decide +kernel
theorem dX12_shrink_56 : decode cX12_shrink 56 = .ok (.istore 5, 2) := by decide +kernel
theorem dX12_shrink_58 : decode cX12_shrink 58 = .ok (.iload 5, 2) := by decide +kernel
theorem dX12_shrink_60 : decode cX12_shrink 60 = .ok (.ifCond .eq 117, 3) := by decide +kernel
theorem dX12_shrink_63 : decode cX12_shrink 63 = .ok (.iconst 0, 1) := by decide +kernel
theorem dX12_shrink_64 : decode cX12_shrink 64 = .ok (.istore 5, 2) := by decide +kernel
theorem dX12_shrink_66 : decode cX12_shrink 66 = .ok (.iconst 0, 1) := by decide +kernel
theorem dX12_shrink_67 : decode cX12_shrink 67 = .ok (.istore 6, 2) := by decide +kernel
theorem dX12_shrink_69 : decode cX12_shrink 69 = .ok (.iload 6, 2) := by decide +kernel
theorem dX12_shrink_71 : decode cX12_shrink 71 = .ok (.aload_n 0, 1) := by decide +kernel
theorem dX12_shrink_72 : decode cX12_shrink 72 = .ok (.getfield 256, 3) := by decide +kernel
theorem dX12_shrink_75 : decode cX12_shrink 75 = .ok (.if_icmp .ge 99, 3) := by decide +kernel
theorem dX12_shrink_78 : decode cX12_shrink 78 = .ok (.iload 5, 2) := by decide +kernel
theorem dX12_shrink_80 : decode cX12_shrink 80 = .ok (.ifCond .ne 94, 3) := by decide +kernel
theorem dX12_shrink_83 : decode cX12_shrink 83 = .ok (.aload_n 0, 1) := by decide +kernel
theorem dX12_shrink_84 : decode cX12_shrink 84 = .ok (.getfield 256, 3) := by decide +kernel
theorem dX12_shrink_87 : decode cX12_shrink 87 = .ok (.iconst 1, 1) := by decide +kernel
theorem dX12_shrink_88 : decode cX12_shrink 88 = .ok (.if_icmp .le 16, 3) := by decide +kernel
theorem dX12_shrink_91 : decode cX12_shrink 91 = .ok (.aload_n 0, 1) := by decide +kernel
theorem dX12_shrink_92 : decode cX12_shrink 92 = .ok (.iload 6, 2) := by decide +kernel
theorem dX12_shrink_94 : decode cX12_shrink 94 = .ok (.invokevirtual 265, 3) := by decide +kernel
theorem dX12_shrink_97 : decode cX12_shrink 97 = .ok (.ifCond .eq 7, 3) := by decide +kernel
theorem dX12_shrink_100 : decode cX12_shrink 100 = .ok (.iconst 1, 1) := by decide +kernel
theorem dX12_shrink_101 : decode cX12_shrink 101 = .ok (.goto 4, 3) := by decide +kernel
theorem dX12_shrink_104 : decode cX12_shrink 104 = .ok (.iconst 0, 1) := by decide +kernel
theorem dX12_shrink_105 : decode cX12_shrink 105 = .ok (.istore 5, 2) := by decide +kernel
theorem dX12_shrink_107 : decode cX12_shrink 107 = .ok (.iload 6, 2) := by decide +kernel
theorem dX12_shrink_109 : decode cX12_shrink 109 = .ok (.istore 7, 2) := by decide +kernel
theorem dX12_shrink_111 : decode cX12_shrink 111 = .ok (.iload 5, 2) := by decide +kernel
theorem dX12_shrink_113 : decode cX12_shrink 113 = .ok (.ifCond .eq 36, 3) := by decide +kernel
theorem dX12_shrink_116 : decode cX12_shrink 116 = .ok (.iload 7, 2) := by decide +kernel
theorem dX12_shrink_118 : decode cX12_shrink 118 = .ok (.aload_n 0, 1) := by decide +kernel
theorem dX12_shrink_119 : decode cX12_shrink 119 = .ok (.getfield 256, 3) := by decide +kernel
theorem dX12_shrink_122 : decode cX12_shrink 122 = .ok (.iconst 1, 1) := by decide +kernel
theorem dX12_shrink_123 : decode cX12_shrink 123 = .ok (.isub, 1) := by decide +kernel
theorem dX12_shrink_124 : decode cX12_shrink 124 = .ok (.if_icmp .ge 25, 3) := by decide +kernel
theorem dX12_shrink_127 : decode cX12_shrink 127 = .ok (.aload_n 0, 1) := by decide +kernel
theorem dX12_shrink_128 : decode cX12_shrink 128 = .ok (.getfield 94, 3) := by decide +kernel
theorem dX12_shrink_131 : decode cX12_shrink 131 = .ok (.iload 7, 2) := by decide +kernel
theorem dX12_shrink_133 : decode cX12_shrink 133 = .ok (.aload_n 0, 1) := by decide +kernel
theorem dX12_shrink_134 : decode cX12_shrink 134 = .ok (.getfield 94, 3) := by decide +kernel
theorem dX12_shrink_137 : decode cX12_shrink 137 = .ok (.iload 7, 2) := by decide +kernel
theorem dX12_shrink_139 : decode cX12_shrink 139 = .ok (.iconst 1, 1) := by decide +kernel
theorem dX12_shrink_140 : decode cX12_shrink 140 = .ok (.iadd, 1) := by decide +kernel
theorem dX12_shrink_141 : decode cX12_shrink 141 = .ok (.iaload, 1) := by decide +kernel
theorem dX12_shrink_142 : decode cX12_shrink 142 = .ok (.iastore, 1) := by decide +kernel
theorem dX12_shrink_143 : decode cX12_shrink 143 = .ok (.iinc 7 1, 3) := by decide +kernel
theorem dX12_shrink_146 : decode cX12_shrink 146 = .ok (.goto (-35), 3) := by decide +kernel
theorem dX12_shrink_149 : decode cX12_shrink 149 = .ok (.aload_n 0, 1) := by decide +kernel
theorem dX12_shrink_150 : decode cX12_shrink 150 = .ok (.dup, 1) := by decide +kernel
theorem dX12_shrink_151 : decode cX12_shrink 151 = .ok (.getfield 256, 3) := by decide +kernel
theorem dX12_shrink_154 : decode cX12_shrink 154 = .ok (.iload 5, 2) := by decide +kernel
theorem dX12_shrink_156 : decode cX12_shrink 156 = .ok (.ifCond .eq 7, 3) := by decide +kernel
theorem dX12_shrink_159 : decode cX12_shrink 159 = .ok (.iconst 1, 1) := by decide +kernel
theorem dX12_shrink_160 : decode cX12_shrink 160 = .ok (.goto 4, 3) := by decide +kernel
theorem dX12_shrink_163 : decode cX12_shrink 163 = .ok (.iconst 0, 1) := by decide +kernel
theorem dX12_shrink_164 : decode cX12_shrink 164 = .ok (.isub, 1) := by decide +kernel
theorem dX12_shrink_165 : decode cX12_shrink 165 = .ok (.putfield 256, 3) := by decide +kernel
theorem dX12_shrink_168 : decode cX12_shrink 168 = .ok (.iinc 6 1, 3) := by decide +kernel
theorem dX12_shrink_171 : decode cX12_shrink 171 = .ok (.goto (-102), 3) := by decide +kernel
theorem dX12_shrink_174 : decode cX12_shrink 174 = .ok (.goto (-116), 3) := by decide +kernel
theorem dX12_shrink_177 : decode cX12_shrink 177 = .ok (.aload_n 0, 1) := by decide +kernel
theorem dX12_shrink_178 : decode cX12_shrink 178 = .ok (.iconst 1, 1) := by decide +kernel
theorem dX12_shrink_179 : decode cX12_shrink 179 = .ok (.putfield 71, 3) := by decide +kernel
theorem dX12_shrink_182 : decode cX12_shrink 182 = .ok (.aload_n 0, 1) := by decide +kernel
theorem dX12_shrink_183 : decode cX12_shrink 183 = .ok (.iconst 5, 1) := by decide +kernel
theorem dX12_shrink_184 : decode cX12_shrink 184 = .ok (.iconst 0, 1) := by decide +kernel
theorem dX12_shrink_185 : decode cX12_shrink 185 = .ok (.invokevirtual 227, 3) := by decide +kernel
theorem dX12_shrink_188 : decode cX12_shrink 188 = .ok (.aload_n 0, 1) := by decide +kernel
theorem dX12_shrink_189 : decode cX12_shrink 189 = .ok (.getfield 78, 3) := by decide +kernel
theorem dX12_shrink_192 : decode cX12_shrink 192 = .ok (.iconst 1, 1) := by decide +kernel
theorem dX12_shrink_193 : decode cX12_shrink 193 = .ok (.iload_n 1, 1) := by decide +kernel
theorem dX12_shrink_194 : decode cX12_shrink 194 = .ok (.bastore, 1) := by decide +kernel
theorem dX12_shrink_195 : decode cX12_shrink 195 = .ok (.aload_n 0, 1) := by decide +kernel
theorem dX12_shrink_196 : decode cX12_shrink 196 = .ok (.getfield 78, 3) := by decide +kernel
theorem dX12_shrink_199 : decode cX12_shrink 199 = .ok (.iconst 2, 1) := by decide +kernel
theorem dX12_shrink_200 : decode cX12_shrink 200 = .ok (.iload_n 2, 1) := by decide +kernel
theorem dX12_shrink_201 : decode cX12_shrink 201 = .ok (.bastore, 1) := by decide +kernel
theorem dX12_shrink_202 : decode cX12_shrink 202 = .ok (.aload_n 0, 1) := by decide +kernel
theorem dX12_shrink_203 : decode cX12_shrink 203 = .ok (.getfield 78, 3) := by decide +kernel
theorem dX12_shrink_206 : decode cX12_shrink 206 = .ok (.iconst 3, 1) := by decide +kernel
theorem dX12_shrink_207 : decode cX12_shrink 207 = .ok (.iload_n 3, 1) := by decide +kernel
theorem dX12_shrink_208 : decode cX12_shrink 208 = .ok (.bastore, 1) := by decide +kernel
theorem dX12_shrink_209 : decode cX12_shrink 209 = .ok (.aload_n 0, 1) := by decide +kernel
theorem dX12_shrink_210 : decode cX12_shrink 210 = .ok (.getfield 78, 3) := by decide +kernel
theorem dX12_shrink_213 : decode cX12_shrink 213 = .ok (.iconst 4, 1) := by decide +kernel
theorem dX12_shrink_214 : decode cX12_shrink 214 = .ok (.iload 4, 2) := by decide +kernel
theorem dX12_shrink_216 : decode cX12_shrink 216 = .ok (.bastore, 1) := by decide +kernel
theorem dX12_shrink_217 : decode cX12_shrink 217 = .ok (.aload_n 0, 1) := by decide +kernel
theorem dX12_shrink_218 : decode cX12_shrink 218 = .ok (.getfield 256, 3) := by decide +kernel
theorem dX12_shrink_221 : decode cX12_shrink 221 = .ok (.ireturn, 1) := by decide +kernel
theorem dX12_state_0 : decode cX12_state 0 = .ok (.aload_n 0, 1) := by decide +kernel
theorem dX12_state_1 : decode cX12_state 1 = .ok (.iconst 0, 1) := by decide +kernel
theorem dX12_state_2 : decode cX12_state 2 = .ok (.putfield 1, 3) := by decide +kernel
theorem dX12_state_5 : decode cX12_state 5 = .ok (.iload_n 1, 1) := by decide +kernel
theorem dX12_state_6 : decode cX12_state 6 = .ok (.i2l, 1) := by decide +kernel
theorem dX12_state_7 : decode cX12_state 7 = .ok (.lconst 0, 1) := by decide +kernel
theorem dX12_state_8 : decode cX12_state 8 = .ok (.ldc2_w 268, 3) := by decide +kernel
theorem dX12_state_11 : decode cX12_state 11 = .ok (.invokestatic 105, 3) := by decide +kernel
theorem dX12_state_14 : decode cX12_state 14 = .ok (.ifCond .eq 12, 3) := by decide +kernel
theorem dX12_state_17 : decode cX12_state 17 = .ok (.aload_n 0, 1) := by decide +kernel
theorem dX12_state_18 : decode cX12_state 18 = .ok (.getfield 75, 3) := by decide +kernel
theorem dX12_state_21 : decode cX12_state 21 = .ok (.iload_n 1, 1) := by decide +kernel
theorem dX12_state_22 : decode cX12_state 22 = .ok (.iaload, 1) := by decide +kernel
theorem dX12_state_23 : decode cX12_state 23 = .ok (.goto 5, 3) := by decide +kernel
theorem dX12_state_26 : decode cX12_state 26 = .ok (.bipush (-3), 2) := by decide +kernel
theorem dX12_state_28 : decode cX12_state 28 = .ok (.ireturn, 1) := by decide +kernel
theorem dX12_done_0 : decode cX12_done 0 = .ok (.aload_n 0, 1) := by decide +kernel
theorem dX12_done_1 : decode cX12_done 1 = .ok (.iconst 0, 1) := by decide +kernel
theorem dX12_done_2 : decode cX12_done 2 = .ok (.putfield 1, 3) := by decide +kernel
theorem dX12_done_5 : decode cX12_done 5 = .ok (.iload_n 1, 1) := by decide +kernel
theorem dX12_done_6 : decode cX12_done 6 = .ok (.i2l, 1) := by decide +kernel
theorem dX12_done_7 : decode cX12_done 7 = .ok (.lconst 0, 1) := by decide +kernel
theorem dX12_done_8 : decode cX12_done 8 = .ok (.aload_n 0, 1) := by decide +kernel
theorem dX12_done_9 : decode cX12_done 9 = .ok (.getfield 159, 3) := by decide +kernel
theorem dX12_done_12 : decode cX12_done 12 = .ok (.iconst 1, 1) := by decide +kernel
theorem dX12_done_13 : decode cX12_done 13 = .ok (.isub, 1) := by decide +kernel
theorem dX12_done_14 : decode cX12_done 14 = .ok (.i2l, 1) := by decide +kernel
theorem dX12_done_15 : decode cX12_done 15 = .ok (.invokestatic 105, 3) := by decide +kernel
theorem dX12_done_18 : decode cX12_done 18 = .ok (.ifCond .eq 12, 3) := by decide +kernel
theorem dX12_done_21 : decode cX12_done 21 = .ok (.aload_n 0, 1) := by decide +kernel
theorem dX12_done_22 : decode cX12_done 22 = .ok (.getfield 56, 3) := by decide +kernel
theorem dX12_done_25 : decode cX12_done 25 = .ok (.iload_n 1, 1) := by decide +kernel
theorem dX12_done_26 : decode cX12_done 26 = .ok (.iaload, 1) := by decide +kernel
theorem dX12_done_27 : decode cX12_done 27 = .ok (.goto 5, 3) := by decide +kernel
theorem dX12_done_30 : decode cX12_done 30 = .ok (.bipush (-2), 2) := by decide +kernel
theorem dX12_done_32 : decode cX12_done 32 = .ok (.ireturn, 1) := by decide +kernel
theorem dX12_shown_0 : decode cX12_shown 0 = .ok (.aload_n 0, 1) := by decide +kernel
theorem dX12_shown_1 : decode cX12_shown 1 = .ok (.iconst 0, 1) := by decide +kernel
theorem dX12_shown_2 : decode cX12_shown 2 = .ok (.putfield 1, 3) := by decide +kernel
theorem dX12_shown_5 : decode cX12_shown 5 = .ok (.iload_n 1, 1) := by decide +kernel
theorem dX12_shown_6 : decode cX12_shown 6 = .ok (.i2l, 1) := by decide +kernel
theorem dX12_shown_7 : decode cX12_shown 7 = .ok (.ldc2_w 153, 3) := by decide +kernel
theorem dX12_shown_10 : decode cX12_shown 10 = .ok (.aload_n 0, 1) := by decide +kernel
theorem dX12_shown_11 : decode cX12_shown 11 = .ok (.getfield 138, 3) := by decide +kernel
theorem dX12_shown_14 : decode cX12_shown 14 = .ok (.iconst 1, 1) := by decide +kernel
theorem dX12_shown_15 : decode cX12_shown 15 = .ok (.isub, 1) := by decide +kernel
theorem dX12_shown_16 : decode cX12_shown 16 = .ok (.i2l, 1) := by decide +kernel
theorem dX12_shown_17 : decode cX12_shown 17 = .ok (.invokestatic 105, 3) := by decide +kernel
theorem dX12_shown_20 : decode cX12_shown 20 = .ok (.ifCond .eq 21, 3) := by decide +kernel
theorem dX12_shown_23 : decode cX12_shown 23 = .ok (.aload_n 0, 1) := by decide +kernel
theorem dX12_shown_24 : decode cX12_shown 24 = .ok (.getfield 59, 3) := by decide +kernel
theorem dX12_shown_27 : decode cX12_shown 27 = .ok (.iload_n 1, 1) := by decide +kernel
theorem dX12_shown_28 : decode cX12_shown 28 = .ok (.ifCond .ge 8, 3) := by decide +kernel
theorem dX12_shown_31 : decode cX12_shown 31 = .ok (.bipush 24, 2) := by decide +kernel
theorem dX12_shown_33 : decode cX12_shown 33 = .ok (.goto 4, 3) := by decide +kernel
theorem dX12_shown_36 : decode cX12_shown 36 = .ok (.iload_n 1, 1) := by decide +kernel
theorem dX12_shown_37 : decode cX12_shown 37 = .ok (.iaload, 1) := by decide +kernel
theorem dX12_shown_38 : decode cX12_shown 38 = .ok (.goto 5, 3) := by decide +kernel
theorem dX12_shown_41 : decode cX12_shown 41 = .ok (.bipush (-2), 2) := by decide +kernel
theorem dX12_shown_43 : decode cX12_shown 43 = .ok (.ireturn, 1) := by decide +kernel
theorem dX12_never_0 : decode cX12_never 0 = .ok (.aload_n 0, 1) := by decide +kernel
theorem dX12_never_1 : decode cX12_never 1 = .ok (.iconst 0, 1) := by decide +kernel
theorem dX12_never_2 : decode cX12_never 2 = .ok (.putfield 1, 3) := by decide +kernel
theorem dX12_never_5 : decode cX12_never 5 = .ok (.iconst 0, 1) := by decide +kernel
theorem dX12_never_6 : decode cX12_never 6 = .ok (.istore_n 2, 1) := by decide +kernel
theorem dX12_never_7 : decode cX12_never 7 = .ok (.iconst 0, 1) := by decide +kernel
theorem dX12_never_8 : decode cX12_never 8 = .ok (.istore_n 3, 1) := by decide +kernel
theorem dX12_never_9 : decode cX12_never 9 = .ok (.iload_n 3, 1) := by decide +kernel
theorem dX12_never_10 : decode cX12_never 10 = .ok (.aload_n 0, 1) := by decide +kernel
theorem dX12_never_11 : decode cX12_never 11 = .ok (.getfield 159, 3) := by decide +kernel
theorem dX12_never_14 : decode cX12_never 14 = .ok (.if_icmp .ge 28, 3) := by decide +kernel
theorem dX12_never_17 : decode cX12_never 17 = .ok (.aload_n 0, 1) := by decide +kernel
theorem dX12_never_18 : decode cX12_never 18 = .ok (.getfield 56, 3) := by decide +kernel
theorem dX12_never_21 : decode cX12_never 21 = .ok (.iload_n 3, 1) := by decide +kernel
theorem dX12_never_22 : decode cX12_never 22 = .ok (.iaload, 1) := by decide +kernel
theorem dX12_never_23 : decode cX12_never 23 = .ok (.ifCond .ne 13, 3) := by decide +kernel
theorem dX12_never_26 : decode cX12_never 26 = .ok (.iload_n 2, 1) := by decide +kernel
theorem dX12_never_27 : decode cX12_never 27 = .ok (.iload_n 1, 1) := by decide +kernel
theorem dX12_never_28 : decode cX12_never 28 = .ok (.if_icmp .ne 5, 3) := by decide +kernel
theorem dX12_never_31 : decode cX12_never 31 = .ok (.iload_n 3, 1) := by decide +kernel
theorem dX12_never_32 : decode cX12_never 32 = .ok (.ireturn, 1) := by decide +kernel
theorem dX12_never_33 : decode cX12_never 33 = .ok (.iinc 2 1, 3) := by decide +kernel
theorem dX12_never_36 : decode cX12_never 36 = .ok (.iinc 3 1, 3) := by decide +kernel
theorem dX12_never_39 : decode cX12_never 39 = .ok (.goto (-30), 3) := by decide +kernel
theorem dX12_never_42 : decode cX12_never 42 = .ok (.iconst (-1), 1) := by decide +kernel
theorem dX12_never_43 : decode cX12_never 43 = .ok (.ireturn, 1) := by decide +kernel
theorem dX12_share_0 : decode cX12_share 0 = .ok (.iconst 0, 1) := by decide +kernel
theorem dX12_share_1 : decode cX12_share 1 = .ok (.istore_n 1, 1) := by decide +kernel
theorem dX12_share_2 : decode cX12_share 2 = .ok (.iconst 0, 1) := by decide +kernel
theorem dX12_share_3 : decode cX12_share 3 = .ok (.istore_n 2, 1) := by decide +kernel
theorem dX12_share_4 : decode cX12_share 4 = .ok (.iconst 0, 1) := by decide +kernel
theorem dX12_share_5 : decode cX12_share 5 = .ok (.istore_n 3, 1) := by decide +kernel
theorem dX12_share_6 : decode cX12_share 6 = .ok (.iload_n 3, 1) := by decide +kernel
theorem dX12_share_7 : decode cX12_share 7 = .ok (.aload_n 0, 1) := by decide +kernel
theorem dX12_share_8 : decode cX12_share 8 = .ok (.getfield 159, 3) := by decide +kernel
theorem dX12_share_11 : decode cX12_share 11 = .ok (.if_icmp .ge 35, 3) := by decide +kernel
theorem dX12_share_14 : decode cX12_share 14 = .ok (.iload_n 1, 1) := by decide +kernel
theorem dX12_share_15 : decode cX12_share 15 = .ok (.aload_n 0, 1) := by decide +kernel
theorem dX12_share_16 : decode cX12_share 16 = .ok (.getfield 56, 3) := by decide +kernel
theorem dX12_share_19 : decode cX12_share 19 = .ok (.iload_n 3, 1) := by decide +kernel
theorem dX12_share_20 : decode cX12_share 20 = .ok (.iaload, 1) := by decide +kernel
theorem dX12_share_21 : decode cX12_share 21 = .ok (.iadd, 1) := by decide +kernel
theorem dX12_share_22 : decode cX12_share 22 = .ok (.istore_n 1, 1) := by decide +kernel
theorem dX12_share_23 : decode cX12_share 23 = .ok (.iload_n 2, 1) := by decide +kernel
theorem dX12_share_24 : decode cX12_share 24 = .ok (.aload_n 0, 1) := by decide +kernel
theorem dX12_share_25 : decode cX12_share 25 = .ok (.getfield 56, 3) := by decide +kernel
theorem dX12_share_28 : decode cX12_share 28 = .ok (.iload_n 3, 1) := by decide +kernel
theorem dX12_share_29 : decode cX12_share 29 = .ok (.iaload, 1) := by decide +kernel
theorem dX12_share_30 : decode cX12_share 30 = .ok (.ifCond .le 7, 3) := by decide +kernel
theorem dX12_share_33 : decode cX12_share 33 = .ok (.iconst 1, 1) := by decide +kernel
theorem dX12_share_34 : decode cX12_share 34 = .ok (.goto 4, 3) := by decide +kernel
theorem dX12_share_37 : decode cX12_share 37 = .ok (.iconst 0, 1) := by decide +kernel
theorem dX12_share_38 : decode cX12_share 38 = .ok (.iadd, 1) := by decide +kernel
theorem dX12_share_39 : decode cX12_share 39 = .ok (.istore_n 2, 1) := by decide +kernel
theorem dX12_share_40 : decode cX12_share 40 = .ok (.iinc 3 1, 3) := by decide +kernel
theorem dX12_share_43 : decode cX12_share 43 = .ok (.goto (-37), 3) := by decide +kernel
theorem dX12_share_46 : decode cX12_share 46 = .ok (.aload_n 0, 1) := by decide +kernel
theorem dX12_share_47 : decode cX12_share 47 = .ok (.iload_n 2, 1) := by decide +kernel
theorem dX12_share_48 : decode cX12_share 48 = .ok (.ifCond .ne 7, 3) := by decide +kernel
theorem dX12_share_51 : decode cX12_share 51 = .ok (.iconst 1, 1) := by decide +kernel
theorem dX12_share_52 : decode cX12_share 52 = .ok (.goto 4, 3) := by decide +kernel
theorem dX12_share_55 : decode cX12_share 55 = .ok (.iconst 0, 1) := by decide +kernel
theorem dX12_share_56 : decode cX12_share 56 = .ok (.putfield 1, 3) := by decide +kernel
theorem dX12_share_59 : decode cX12_share 59 = .ok (.iload_n 2, 1) := by decide +kernel
theorem dX12_share_60 : decode cX12_share 60 = .ok (.ifCond .ne 7, 3) := by decide +kernel
theorem dX12_share_63 : decode cX12_share 63 = .ok (.iconst 0, 1) := by decide +kernel
theorem dX12_share_64 : decode cX12_share 64 = .ok (.goto 6, 3) := by decide +kernel
theorem dX12_share_67 : decode cX12_share 67 = .ok (.iload_n 1, 1) := by decide +kernel
theorem dX12_share_68 : decode cX12_share 68 = .ok (.iload_n 2, 1) := by decide +kernel
theorem dX12_share_69 : decode cX12_share 69 = .ok (.idiv, 1) := by decide +kernel
theorem dX12_share_70 : decode cX12_share 70 = .ok (.ireturn, 1) := by decide +kernel
theorem dX12_told_0 : decode cX12_told 0 = .ok (.aload_n 0, 1) := by decide +kernel
theorem dX12_told_1 : decode cX12_told 1 = .ok (.iconst 0, 1) := by decide +kernel
theorem dX12_told_2 : decode cX12_told 2 = .ok (.putfield 1, 3) := by decide +kernel
theorem dX12_told_5 : decode cX12_told 5 = .ok (.iload_n 1, 1) := by decide +kernel
theorem dX12_told_6 : decode cX12_told 6 = .ok (.tableswitch 86 0 7 #[46, 51, 56, 61, 66, 71, 76, 81], 46) := by decide +kernel
theorem dX12_told_52 : decode cX12_told 52 = .ok (.aload_n 0, 1) := by decide +kernel
theorem dX12_told_53 : decode cX12_told 53 = .ok (.getfield 109, 3) := by decide +kernel
theorem dX12_told_56 : decode cX12_told 56 = .ok (.ireturn, 1) := by decide +kernel
theorem dX12_told_57 : decode cX12_told 57 = .ok (.aload_n 0, 1) := by decide +kernel
theorem dX12_told_58 : decode cX12_told 58 = .ok (.getfield 122, 3) := by decide +kernel
theorem dX12_told_61 : decode cX12_told 61 = .ok (.ireturn, 1) := by decide +kernel
theorem dX12_told_62 : decode cX12_told 62 = .ok (.aload_n 0, 1) := by decide +kernel
theorem dX12_told_63 : decode cX12_told 63 = .ok (.getfield 138, 3) := by decide +kernel
theorem dX12_told_66 : decode cX12_told 66 = .ok (.ireturn, 1) := by decide +kernel
theorem dX12_told_67 : decode cX12_told 67 = .ok (.aload_n 0, 1) := by decide +kernel
theorem dX12_told_68 : decode cX12_told 68 = .ok (.getfield 159, 3) := by decide +kernel
theorem dX12_told_71 : decode cX12_told 71 = .ok (.ireturn, 1) := by decide +kernel
theorem dX12_told_72 : decode cX12_told 72 = .ok (.aload_n 0, 1) := by decide +kernel
theorem dX12_told_73 : decode cX12_told 73 = .ok (.getfield 210, 3) := by decide +kernel
theorem dX12_told_76 : decode cX12_told 76 = .ok (.ireturn, 1) := by decide +kernel
theorem dX12_told_77 : decode cX12_told 77 = .ok (.aload_n 0, 1) := by decide +kernel
theorem dX12_told_78 : decode cX12_told 78 = .ok (.getfield 237, 3) := by decide +kernel
theorem dX12_told_81 : decode cX12_told 81 = .ok (.ireturn, 1) := by decide +kernel
theorem dX12_told_82 : decode cX12_told 82 = .ok (.aload_n 0, 1) := by decide +kernel
theorem dX12_told_83 : decode cX12_told 83 = .ok (.getfield 181, 3) := by decide +kernel
theorem dX12_told_86 : decode cX12_told 86 = .ok (.ireturn, 1) := by decide +kernel
theorem dX12_told_87 : decode cX12_told 87 = .ok (.aload_n 0, 1) := by decide +kernel
theorem dX12_told_88 : decode cX12_told 88 = .ok (.getfield 171, 3) := by decide +kernel
theorem dX12_told_91 : decode cX12_told 91 = .ok (.ireturn, 1) := by decide +kernel
theorem dX12_told_92 : decode cX12_told 92 = .ok (.bipush (-3), 2) := by decide +kernel
theorem dX12_told_94 : decode cX12_told 94 = .ok (.ireturn, 1) := by decide +kernel
theorem dJ9_max_7cf53_0 : decode cJ9_max_7cf53 0 = .ok (.iload_n 0, 1) := by decide +kernel
theorem dJ9_max_7cf53_1 : decode cJ9_max_7cf53 1 = .ok (.iload_n 1, 1) := by decide +kernel
theorem dJ9_max_7cf53_2 : decode cJ9_max_7cf53 2 = .ok (.if_icmp .lt 7, 3) := by decide +kernel
theorem dJ9_max_7cf53_5 : decode cJ9_max_7cf53 5 = .ok (.iload_n 0, 1) := by decide +kernel
theorem dJ9_max_7cf53_6 : decode cJ9_max_7cf53 6 = .ok (.goto 4, 3) := by decide +kernel
theorem dJ9_max_7cf53_9 : decode cJ9_max_7cf53 9 = .ok (.iload_n 1, 1) := by decide +kernel
theorem dJ9_max_7cf53_10 : decode cJ9_max_7cf53 10 = .ok (.ireturn, 1) := by decide +kernel
theorem dJ9_min_7cf53_0 : decode cJ9_min_7cf53 0 = .ok (.iload_n 0, 1) := by decide +kernel
theorem dJ9_min_7cf53_1 : decode cJ9_min_7cf53 1 = .ok (.iload_n 1, 1) := by decide +kernel
theorem dJ9_min_7cf53_2 : decode cJ9_min_7cf53 2 = .ok (.if_icmp .gt 7, 3) := by decide +kernel
theorem dJ9_min_7cf53_5 : decode cJ9_min_7cf53 5 = .ok (.iload_n 0, 1) := by decide +kernel
theorem dJ9_min_7cf53_6 : decode cJ9_min_7cf53 6 = .ok (.goto 4, 3) := by decide +kernel
theorem dJ9_min_7cf53_9 : decode cJ9_min_7cf53 9 = .ok (.iload_n 1, 1) := by decide +kernel
theorem dJ9_min_7cf53_10 : decode cJ9_min_7cf53 10 = .ok (.ireturn, 1) := by decide +kernel
theorem dL_cell_0 : decode cL_cell 0 = .ok (.iload_n 1, 1) := by decide +kernel
theorem dL_cell_1 : decode cL_cell 1 = .ok (.aload_n 0, 1) := by decide +kernel
theorem dL_cell_2 : decode cL_cell 2 = .ok (.arraylength, 1) := by decide +kernel
theorem dL_cell_3 : decode cL_cell 3 = .ok (.if_icmp .ge 9, 3) := by decide +kernel
theorem dL_cell_6 : decode cL_cell 6 = .ok (.aload_n 0, 1) := by decide +kernel
theorem dL_cell_7 : decode cL_cell 7 = .ok (.iload_n 1, 1) := by decide +kernel
theorem dL_cell_8 : decode cL_cell 8 = .ok (.iaload, 1) := by decide +kernel
theorem dL_cell_9 : decode cL_cell 9 = .ok (.goto 4, 3) := by decide +kernel
theorem dL_cell_12 : decode cL_cell 12 = .ok (.iconst 0, 1) := by decide +kernel
theorem dL_cell_13 : decode cL_cell 13 = .ok (.ireturn, 1) := by decide +kernel
theorem dL_share_0 : decode cL_share 0 = .ok (.aload_n 1, 1) := by decide +kernel
theorem dL_share_1 : decode cL_share 1 = .ok (.iconst 0, 1) := by decide +kernel
theorem dL_share_2 : decode cL_share 2 = .ok (.aload_n 0, 1) := by decide +kernel
theorem dL_share_3 : decode cL_share 3 = .ok (.invokevirtual 7, 3) := by decide +kernel
theorem dL_share_6 : decode cL_share 6 = .ok (.i2l, 1) := by decide +kernel
theorem dL_share_7 : decode cL_share 7 = .ok (.lastore, 1) := by decide +kernel
theorem dL_share_8 : decode cL_share 8 = .ok (.goto 6, 3) := by decide +kernel
theorem dL_share_11 : decode cL_share 11 = .ok (.astore_n 2, 1) := by decide +kernel
theorem dL_share_12 : decode cL_share 12 = .ok (.iconst 1, 1) := by decide +kernel
theorem dL_share_13 : decode cL_share 13 = .ok (.ireturn, 1) := by decide +kernel
theorem dL_share_14 : decode cL_share 14 = .ok (.iconst 0, 1) := by decide +kernel
theorem dL_share_15 : decode cL_share 15 = .ok (.ireturn, 1) := by decide +kernel
theorem dL_law_0 : decode cL_law 0 = .ok (.new 8, 3) := by decide +kernel
theorem dL_law_3 : decode cL_law 3 = .ok (.dup, 1) := by decide +kernel
theorem dL_law_4 : decode cL_law 4 = .ok (.aload_n 0, 1) := by decide +kernel
theorem dL_law_5 : decode cL_law 5 = .ok (.iconst 0, 1) := by decide +kernel
theorem dL_law_6 : decode cL_law 6 = .ok (.invokestatic 15, 3) := by decide +kernel
theorem dL_law_9 : decode cL_law 9 = .ok (.invokespecial 21, 3) := by decide +kernel
theorem dL_law_12 : decode cL_law 12 = .ok (.astore_n 1, 1) := by decide +kernel
theorem dL_law_13 : decode cL_law 13 = .ok (.new 24, 3) := by decide +kernel
theorem dL_law_16 : decode cL_law 16 = .ok (.dup, 1) := by decide +kernel
theorem dL_law_17 : decode cL_law 17 = .ok (.aload_n 0, 1) := by decide +kernel
theorem dL_law_18 : decode cL_law 18 = .ok (.iconst 0, 1) := by decide +kernel
theorem dL_law_19 : decode cL_law 19 = .ok (.invokestatic 15, 3) := by decide +kernel
theorem dL_law_22 : decode cL_law 22 = .ok (.invokespecial 26, 3) := by decide +kernel
theorem dL_law_25 : decode cL_law 25 = .ok (.astore_n 2, 1) := by decide +kernel
theorem dL_law_26 : decode cL_law 26 = .ok (.iconst 1, 1) := by decide +kernel
theorem dL_law_27 : decode cL_law 27 = .ok (.newarray .long, 2) := by decide +kernel
theorem dL_law_29 : decode cL_law 29 = .ok (.astore_n 3, 1) := by decide +kernel
theorem dL_law_30 : decode cL_law 30 = .ok (.iconst 1, 1) := by decide +kernel
theorem dL_law_31 : decode cL_law 31 = .ok (.istore 4, 2) := by decide +kernel
theorem dL_law_33 : decode cL_law 33 = .ok (.iload 4, 2) := by decide +kernel
theorem dL_law_35 : decode cL_law 35 = .ok (.aload_n 0, 1) := by decide +kernel
theorem dL_law_36 : decode cL_law 36 = .ok (.arraylength, 1) := by decide +kernel
theorem dL_law_37 : decode cL_law 37 = .ok (.bipush 10, 2) := by decide +kernel
theorem dL_law_39 : decode cL_law 39 = .ok (.isub, 1) := by decide +kernel
theorem dL_law_40 : decode cL_law 40 = .ok (.if_icmp .gt 765, 3) := by decide +kernel
theorem dL_law_43 : decode cL_law 43 = .ok (.aload_n 0, 1) := by decide +kernel
theorem dL_law_44 : decode cL_law 44 = .ok (.iload 4, 2) := by decide +kernel
theorem dL_law_46 : decode cL_law 46 = .ok (.iaload, 1) := by decide +kernel
theorem dL_law_47 : decode cL_law 47 = .ok (.bipush 31, 2) := by decide +kernel
theorem dL_law_49 : decode cL_law 49 = .ok (.iand, 1) := by decide +kernel
theorem dL_law_50 : decode cL_law 50 = .ok (.tableswitch 749 0 19 #[94, 163, 176, 189, 318, 379, 404, 417, 442, 479, 492, 529, 542, 567, 580, 605, 630, 655, 680, 724], 94) := by decide +kernel
theorem dL_law_144 : decode cL_law 144 = .ok (.aload_n 1, 1) := by decide +kernel
theorem dL_law_145 : decode cL_law 145 = .ok (.aload_n 0, 1) := by decide +kernel
theorem dL_law_146 : decode cL_law 146 = .ok (.iload 4, 2) := by decide +kernel
theorem dL_law_148 : decode cL_law 148 = .ok (.iconst 1, 1) := by decide +kernel
theorem dL_law_149 : decode cL_law 149 = .ok (.iadd, 1) := by decide +kernel
theorem dL_law_150 : decode cL_law 150 = .ok (.iaload, 1) := by decide +kernel
theorem dL_law_151 : decode cL_law 151 = .ok (.i2l, 1) := by decide +kernel
theorem dL_law_152 : decode cL_law 152 = .ok (.bipush 32, 2) := by decide +kernel
theorem dL_law_154 : decode cL_law 154 = .ok (.lshl, 1) := by decide +kernel
theorem dL_law_155 : decode cL_law 155 = .ok (.aload_n 0, 1) := by decide +kernel
theorem dL_law_156 : decode cL_law 156 = .ok (.iload 4, 2) := by decide +kernel
theorem dL_law_158 : decode cL_law 158 = .ok (.iconst 2, 1) := by decide +kernel
theorem dL_law_159 : decode cL_law 159 = .ok (.iadd, 1) := by decide +kernel
theorem dL_law_160 : decode cL_law 160 = .ok (.iaload, 1) := by decide +kernel
theorem dL_law_161 : decode cL_law 161 = .ok (.i2l, 1) := by decide +kernel
theorem dL_law_162 : decode cL_law 162 = .ok (.ldc2_w 27, 3) := by decide +kernel
theorem dL_law_165 : decode cL_law 165 = .ok (.land, 1) := by decide +kernel
theorem dL_law_166 : decode cL_law 166 = .ok (.lor, 1) := by decide +kernel
theorem dL_law_167 : decode cL_law 167 = .ok (.aload_n 0, 1) := by decide +kernel
theorem dL_law_168 : decode cL_law 168 = .ok (.iload 4, 2) := by decide +kernel
theorem dL_law_170 : decode cL_law 170 = .ok (.iconst 3, 1) := by decide +kernel
theorem dL_law_171 : decode cL_law 171 = .ok (.iadd, 1) := by decide +kernel
theorem dL_law_172 : decode cL_law 172 = .ok (.iaload, 1) := by decide +kernel
theorem dL_law_173 : decode cL_law 173 = .ok (.invokevirtual 29, 3) := by decide +kernel
theorem dL_law_176 : decode cL_law 176 = .ok (.aload_n 2, 1) := by decide +kernel
theorem dL_law_177 : decode cL_law 177 = .ok (.aload_n 0, 1) := by decide +kernel
theorem dL_law_178 : decode cL_law 178 = .ok (.iload 4, 2) := by decide +kernel
theorem dL_law_180 : decode cL_law 180 = .ok (.iconst 1, 1) := by decide +kernel
theorem dL_law_181 : decode cL_law 181 = .ok (.iadd, 1) := by decide +kernel
theorem dL_law_182 : decode cL_law 182 = .ok (.iaload, 1) := by decide +kernel
theorem dL_law_183 : decode cL_law 183 = .ok (.i2l, 1) := by decide +kernel
theorem dL_law_184 : decode cL_law 184 = .ok (.bipush 32, 2) := by decide +kernel
theorem dL_law_186 : decode cL_law 186 = .ok (.lshl, 1) := by decide +kernel
theorem dL_law_187 : decode cL_law 187 = .ok (.aload_n 0, 1) := by decide +kernel
theorem dL_law_188 : decode cL_law 188 = .ok (.iload 4, 2) := by decide +kernel
theorem dL_law_190 : decode cL_law 190 = .ok (.iconst 2, 1) := by decide +kernel
theorem dL_law_191 : decode cL_law 191 = .ok (.iadd, 1) := by decide +kernel
theorem dL_law_192 : decode cL_law 192 = .ok (.iaload, 1) := by decide +kernel
theorem dL_law_193 : decode cL_law 193 = .ok (.i2l, 1) := by decide +kernel
theorem dL_law_194 : decode cL_law 194 = .ok (.ldc2_w 27, 3) := by decide +kernel
theorem dL_law_197 : decode cL_law 197 = .ok (.land, 1) := by decide +kernel
theorem dL_law_198 : decode cL_law 198 = .ok (.lor, 1) := by decide +kernel
theorem dL_law_199 : decode cL_law 199 = .ok (.aload_n 0, 1) := by decide +kernel
theorem dL_law_200 : decode cL_law 200 = .ok (.iload 4, 2) := by decide +kernel
theorem dL_law_202 : decode cL_law 202 = .ok (.iconst 3, 1) := by decide +kernel
theorem dL_law_203 : decode cL_law 203 = .ok (.iadd, 1) := by decide +kernel
theorem dL_law_204 : decode cL_law 204 = .ok (.iaload, 1) := by decide +kernel
theorem dL_law_205 : decode cL_law 205 = .ok (.invokevirtual 33, 3) := by decide +kernel
theorem dL_law_208 : decode cL_law 208 = .ok (.if_icmp .eq 591, 3) := by decide +kernel
theorem dL_law_211 : decode cL_law 211 = .ok (.iconst 0, 1) := by decide +kernel
theorem dL_law_212 : decode cL_law 212 = .ok (.ireturn, 1) := by decide +kernel
theorem dL_law_213 : decode cL_law 213 = .ok (.aload_n 1, 1) := by decide +kernel
theorem dL_law_214 : decode cL_law 214 = .ok (.invokevirtual 34, 3) := by decide +kernel
theorem dL_law_217 : decode cL_law 217 = .ok (.aload_n 2, 1) := by decide +kernel
theorem dL_law_218 : decode cL_law 218 = .ok (.invokevirtual 37, 3) := by decide +kernel
theorem dL_law_221 : decode cL_law 221 = .ok (.if_icmp .eq 578, 3) := by decide +kernel
theorem dL_law_224 : decode cL_law 224 = .ok (.iconst 0, 1) := by decide +kernel
theorem dL_law_225 : decode cL_law 225 = .ok (.ireturn, 1) := by decide +kernel
theorem dL_law_226 : decode cL_law 226 = .ok (.aload_n 1, 1) := by decide +kernel
theorem dL_law_227 : decode cL_law 227 = .ok (.invokevirtual 38, 3) := by decide +kernel
theorem dL_law_230 : decode cL_law 230 = .ok (.aload_n 2, 1) := by decide +kernel
theorem dL_law_231 : decode cL_law 231 = .ok (.invokevirtual 41, 3) := by decide +kernel
theorem dL_law_234 : decode cL_law 234 = .ok (.if_icmp .eq 565, 3) := by decide +kernel
theorem dL_law_237 : decode cL_law 237 = .ok (.iconst 0, 1) := by decide +kernel
theorem dL_law_238 : decode cL_law 238 = .ok (.ireturn, 1) := by decide +kernel
theorem dL_law_239 : decode cL_law 239 = .ok (.aload_n 1, 1) := by decide +kernel
theorem dL_law_240 : decode cL_law 240 = .ok (.aload_n 0, 1) := by decide +kernel
theorem dL_law_241 : decode cL_law 241 = .ok (.iload 4, 2) := by decide +kernel
theorem dL_law_243 : decode cL_law 243 = .ok (.iconst 1, 1) := by decide +kernel
theorem dL_law_244 : decode cL_law 244 = .ok (.iadd, 1) := by decide +kernel
theorem dL_law_245 : decode cL_law 245 = .ok (.iaload, 1) := by decide +kernel
theorem dL_law_246 : decode cL_law 246 = .ok (.aload_n 0, 1) := by decide +kernel
theorem dL_law_247 : decode cL_law 247 = .ok (.iload 4, 2) := by decide +kernel
theorem dL_law_249 : decode cL_law 249 = .ok (.iconst 2, 1) := by decide +kernel
theorem dL_law_250 : decode cL_law 250 = .ok (.iadd, 1) := by decide +kernel
theorem dL_law_251 : decode cL_law 251 = .ok (.iaload, 1) := by decide +kernel
theorem dL_law_252 : decode cL_law 252 = .ok (.aload_n 0, 1) := by decide +kernel
theorem dL_law_253 : decode cL_law 253 = .ok (.iload 4, 2) := by decide +kernel
theorem dL_law_255 : decode cL_law 255 = .ok (.iconst 3, 1) := by decide +kernel
theorem dL_law_256 : decode cL_law 256 = .ok (.iadd, 1) := by decide +kernel
theorem dL_law_257 : decode cL_law 257 = .ok (.iaload, 1) := by decide +kernel
theorem dL_law_258 : decode cL_law 258 = .ok (.aload_n 0, 1) := by decide +kernel
theorem dL_law_259 : decode cL_law 259 = .ok (.iload 4, 2) := by decide +kernel
theorem dL_law_261 : decode cL_law 261 = .ok (.iconst 4, 1) := by decide +kernel
theorem dL_law_262 : decode cL_law 262 = .ok (.iadd, 1) := by decide +kernel
theorem dL_law_263 : decode cL_law 263 = .ok (.iaload, 1) := by decide +kernel
theorem dL_law_264 : decode cL_law 264 = .ok (.aload_n 0, 1) := by decide +kernel
theorem dL_law_265 : decode cL_law 265 = .ok (.iload 4, 2) := by decide +kernel
theorem dL_law_267 : decode cL_law 267 = .ok (.iconst 5, 1) := by decide +kernel
theorem dL_law_268 : decode cL_law 268 = .ok (.iadd, 1) := by decide +kernel
theorem dL_law_269 : decode cL_law 269 = .ok (.iaload, 1) := by decide +kernel
theorem dL_law_270 : decode cL_law 270 = .ok (.aload_n 0, 1) := by decide +kernel
theorem dL_law_271 : decode cL_law 271 = .ok (.iload 4, 2) := by decide +kernel
theorem dL_law_273 : decode cL_law 273 = .ok (.bipush 6, 2) := by decide +kernel
theorem dL_law_275 : decode cL_law 275 = .ok (.iadd, 1) := by decide +kernel
theorem dL_law_276 : decode cL_law 276 = .ok (.iaload, 1) := by decide +kernel
theorem dL_law_277 : decode cL_law 277 = .ok (.aload_n 0, 1) := by decide +kernel
theorem dL_law_278 : decode cL_law 278 = .ok (.iload 4, 2) := by decide +kernel
theorem dL_law_280 : decode cL_law 280 = .ok (.bipush 7, 2) := by decide +kernel
theorem dL_law_282 : decode cL_law 282 = .ok (.iadd, 1) := by decide +kernel
theorem dL_law_283 : decode cL_law 283 = .ok (.iaload, 1) := by decide +kernel
theorem dL_law_284 : decode cL_law 284 = .ok (.aload_n 0, 1) := by decide +kernel
theorem dL_law_285 : decode cL_law 285 = .ok (.iload 4, 2) := by decide +kernel
theorem dL_law_287 : decode cL_law 287 = .ok (.bipush 8, 2) := by decide +kernel
theorem dL_law_289 : decode cL_law 289 = .ok (.iadd, 1) := by decide +kernel
theorem dL_law_290 : decode cL_law 290 = .ok (.iaload, 1) := by decide +kernel
theorem dL_law_291 : decode cL_law 291 = .ok (.aload_n 0, 1) := by decide +kernel
theorem dL_law_292 : decode cL_law 292 = .ok (.iload 4, 2) := by decide +kernel
theorem dL_law_294 : decode cL_law 294 = .ok (.bipush 9, 2) := by decide +kernel
theorem dL_law_296 : decode cL_law 296 = .ok (.iadd, 1) := by decide +kernel
theorem dL_law_297 : decode cL_law 297 = .ok (.iaload, 1) := by decide +kernel
theorem dL_law_298 : decode cL_law 298 = .ok (.invokevirtual 42, 3) := by decide +kernel
theorem dL_law_301 : decode cL_law 301 = .ok (.aload_n 2, 1) := by decide +kernel
theorem dL_law_302 : decode cL_law 302 = .ok (.aload_n 0, 1) := by decide +kernel
theorem dL_law_303 : decode cL_law 303 = .ok (.iload 4, 2) := by decide +kernel
theorem dL_law_305 : decode cL_law 305 = .ok (.iconst 1, 1) := by decide +kernel
theorem dL_law_306 : decode cL_law 306 = .ok (.iadd, 1) := by decide +kernel
theorem dL_law_307 : decode cL_law 307 = .ok (.iaload, 1) := by decide +kernel
theorem dL_law_308 : decode cL_law 308 = .ok (.aload_n 0, 1) := by decide +kernel
theorem dL_law_309 : decode cL_law 309 = .ok (.iload 4, 2) := by decide +kernel
theorem dL_law_311 : decode cL_law 311 = .ok (.iconst 2, 1) := by decide +kernel
theorem dL_law_312 : decode cL_law 312 = .ok (.iadd, 1) := by decide +kernel
theorem dL_law_313 : decode cL_law 313 = .ok (.iaload, 1) := by decide +kernel
theorem dL_law_314 : decode cL_law 314 = .ok (.aload_n 0, 1) := by decide +kernel
theorem dL_law_315 : decode cL_law 315 = .ok (.iload 4, 2) := by decide +kernel
theorem dL_law_317 : decode cL_law 317 = .ok (.iconst 3, 1) := by decide +kernel
theorem dL_law_318 : decode cL_law 318 = .ok (.iadd, 1) := by decide +kernel
theorem dL_law_319 : decode cL_law 319 = .ok (.iaload, 1) := by decide +kernel
theorem dL_law_320 : decode cL_law 320 = .ok (.aload_n 0, 1) := by decide +kernel
theorem dL_law_321 : decode cL_law 321 = .ok (.iload 4, 2) := by decide +kernel
theorem dL_law_323 : decode cL_law 323 = .ok (.iconst 4, 1) := by decide +kernel
theorem dL_law_324 : decode cL_law 324 = .ok (.iadd, 1) := by decide +kernel
theorem dL_law_325 : decode cL_law 325 = .ok (.iaload, 1) := by decide +kernel
theorem dL_law_326 : decode cL_law 326 = .ok (.aload_n 0, 1) := by decide +kernel
theorem dL_law_327 : decode cL_law 327 = .ok (.iload 4, 2) := by decide +kernel
theorem dL_law_329 : decode cL_law 329 = .ok (.iconst 5, 1) := by decide +kernel
theorem dL_law_330 : decode cL_law 330 = .ok (.iadd, 1) := by decide +kernel
theorem dL_law_331 : decode cL_law 331 = .ok (.iaload, 1) := by decide +kernel
theorem dL_law_332 : decode cL_law 332 = .ok (.aload_n 0, 1) := by decide +kernel
theorem dL_law_333 : decode cL_law 333 = .ok (.iload 4, 2) := by decide +kernel
theorem dL_law_335 : decode cL_law 335 = .ok (.bipush 6, 2) := by decide +kernel
theorem dL_law_337 : decode cL_law 337 = .ok (.iadd, 1) := by decide +kernel
theorem dL_law_338 : decode cL_law 338 = .ok (.iaload, 1) := by decide +kernel
theorem dL_law_339 : decode cL_law 339 = .ok (.aload_n 0, 1) := by decide +kernel
theorem dL_law_340 : decode cL_law 340 = .ok (.iload 4, 2) := by decide +kernel
theorem dL_law_342 : decode cL_law 342 = .ok (.bipush 7, 2) := by decide +kernel
theorem dL_law_344 : decode cL_law 344 = .ok (.iadd, 1) := by decide +kernel
theorem dL_law_345 : decode cL_law 345 = .ok (.iaload, 1) := by decide +kernel
theorem dL_law_346 : decode cL_law 346 = .ok (.aload_n 0, 1) := by decide +kernel
theorem dL_law_347 : decode cL_law 347 = .ok (.iload 4, 2) := by decide +kernel
theorem dL_law_349 : decode cL_law 349 = .ok (.bipush 8, 2) := by decide +kernel
theorem dL_law_351 : decode cL_law 351 = .ok (.iadd, 1) := by decide +kernel
theorem dL_law_352 : decode cL_law 352 = .ok (.iaload, 1) := by decide +kernel
theorem dL_law_353 : decode cL_law 353 = .ok (.aload_n 0, 1) := by decide +kernel
theorem dL_law_354 : decode cL_law 354 = .ok (.iload 4, 2) := by decide +kernel
theorem dL_law_356 : decode cL_law 356 = .ok (.bipush 9, 2) := by decide +kernel
theorem dL_law_358 : decode cL_law 358 = .ok (.iadd, 1) := by decide +kernel
theorem dL_law_359 : decode cL_law 359 = .ok (.iaload, 1) := by decide +kernel
theorem dL_law_360 : decode cL_law 360 = .ok (.invokevirtual 46, 3) := by decide +kernel
theorem dL_law_363 : decode cL_law 363 = .ok (.if_icmp .eq 436, 3) := by decide +kernel
theorem dL_law_366 : decode cL_law 366 = .ok (.iconst 0, 1) := by decide +kernel
theorem dL_law_367 : decode cL_law 367 = .ok (.ireturn, 1) := by decide +kernel
theorem dL_law_368 : decode cL_law 368 = .ok (.aload_n 1, 1) := by decide +kernel
theorem dL_law_369 : decode cL_law 369 = .ok (.aload_n 0, 1) := by decide +kernel
theorem dL_law_370 : decode cL_law 370 = .ok (.iload 4, 2) := by decide +kernel
theorem dL_law_372 : decode cL_law 372 = .ok (.iconst 1, 1) := by decide +kernel
theorem dL_law_373 : decode cL_law 373 = .ok (.iadd, 1) := by decide +kernel
theorem dL_law_374 : decode cL_law 374 = .ok (.iaload, 1) := by decide +kernel
theorem dL_law_375 : decode cL_law 375 = .ok (.aload_n 0, 1) := by decide +kernel
theorem dL_law_376 : decode cL_law 376 = .ok (.iload 4, 2) := by decide +kernel
theorem dL_law_378 : decode cL_law 378 = .ok (.iconst 2, 1) := by decide +kernel
theorem dL_law_379 : decode cL_law 379 = .ok (.iadd, 1) := by decide +kernel
theorem dL_law_380 : decode cL_law 380 = .ok (.iaload, 1) := by decide +kernel
theorem dL_law_381 : decode cL_law 381 = .ok (.aload_n 0, 1) := by decide +kernel
theorem dL_law_382 : decode cL_law 382 = .ok (.iload 4, 2) := by decide +kernel
theorem dL_law_384 : decode cL_law 384 = .ok (.iconst 3, 1) := by decide +kernel
theorem dL_law_385 : decode cL_law 385 = .ok (.iadd, 1) := by decide +kernel
theorem dL_law_386 : decode cL_law 386 = .ok (.iaload, 1) := by decide +kernel
theorem dL_law_387 : decode cL_law 387 = .ok (.aload_n 0, 1) := by decide +kernel
theorem dL_law_388 : decode cL_law 388 = .ok (.iload 4, 2) := by decide +kernel
theorem dL_law_390 : decode cL_law 390 = .ok (.iconst 4, 1) := by decide +kernel
theorem dL_law_391 : decode cL_law 391 = .ok (.iadd, 1) := by decide +kernel
theorem dL_law_392 : decode cL_law 392 = .ok (.iaload, 1) := by decide +kernel
theorem dL_law_393 : decode cL_law 393 = .ok (.invokevirtual 47, 3) := by decide +kernel
theorem dL_law_396 : decode cL_law 396 = .ok (.aload_n 2, 1) := by decide +kernel
theorem dL_law_397 : decode cL_law 397 = .ok (.aload_n 0, 1) := by decide +kernel
theorem dL_law_398 : decode cL_law 398 = .ok (.iload 4, 2) := by decide +kernel
theorem dL_law_400 : decode cL_law 400 = .ok (.iconst 1, 1) := by decide +kernel
theorem dL_law_401 : decode cL_law 401 = .ok (.iadd, 1) := by decide +kernel
theorem dL_law_402 : decode cL_law 402 = .ok (.iaload, 1) := by decide +kernel
theorem dL_law_403 : decode cL_law 403 = .ok (.aload_n 0, 1) := by decide +kernel
theorem dL_law_404 : decode cL_law 404 = .ok (.iload 4, 2) := by decide +kernel
theorem dL_law_406 : decode cL_law 406 = .ok (.iconst 2, 1) := by decide +kernel
theorem dL_law_407 : decode cL_law 407 = .ok (.iadd, 1) := by decide +kernel
theorem dL_law_408 : decode cL_law 408 = .ok (.iaload, 1) := by decide +kernel
theorem dL_law_409 : decode cL_law 409 = .ok (.aload_n 0, 1) := by decide +kernel
theorem dL_law_410 : decode cL_law 410 = .ok (.iload 4, 2) := by decide +kernel
theorem dL_law_412 : decode cL_law 412 = .ok (.iconst 3, 1) := by decide +kernel
theorem dL_law_413 : decode cL_law 413 = .ok (.iadd, 1) := by decide +kernel
theorem dL_law_414 : decode cL_law 414 = .ok (.iaload, 1) := by decide +kernel
theorem dL_law_415 : decode cL_law 415 = .ok (.aload_n 0, 1) := by decide +kernel
theorem dL_law_416 : decode cL_law 416 = .ok (.iload 4, 2) := by decide +kernel
theorem dL_law_418 : decode cL_law 418 = .ok (.iconst 4, 1) := by decide +kernel
theorem dL_law_419 : decode cL_law 419 = .ok (.iadd, 1) := by decide +kernel
theorem dL_law_420 : decode cL_law 420 = .ok (.iaload, 1) := by decide +kernel
theorem dL_law_421 : decode cL_law 421 = .ok (.invokevirtual 51, 3) := by decide +kernel
theorem dL_law_424 : decode cL_law 424 = .ok (.if_icmp .eq 375, 3) := by decide +kernel
theorem dL_law_427 : decode cL_law 427 = .ok (.iconst 0, 1) := by decide +kernel
theorem dL_law_428 : decode cL_law 428 = .ok (.ireturn, 1) := by decide +kernel
theorem dL_law_429 : decode cL_law 429 = .ok (.aload_n 1, 1) := by decide +kernel
theorem dL_law_430 : decode cL_law 430 = .ok (.aload_n 0, 1) := by decide +kernel
theorem dL_law_431 : decode cL_law 431 = .ok (.iload 4, 2) := by decide +kernel
theorem dL_law_433 : decode cL_law 433 = .ok (.iconst 1, 1) := by decide +kernel
theorem dL_law_434 : decode cL_law 434 = .ok (.iadd, 1) := by decide +kernel
theorem dL_law_435 : decode cL_law 435 = .ok (.iaload, 1) := by decide +kernel
theorem dL_law_436 : decode cL_law 436 = .ok (.invokevirtual 52, 3) := by decide +kernel
theorem dL_law_439 : decode cL_law 439 = .ok (.aload_n 2, 1) := by decide +kernel
theorem dL_law_440 : decode cL_law 440 = .ok (.aload_n 0, 1) := by decide +kernel
theorem dL_law_441 : decode cL_law 441 = .ok (.iload 4, 2) := by decide +kernel
theorem dL_law_443 : decode cL_law 443 = .ok (.iconst 1, 1) := by decide +kernel
theorem dL_law_444 : decode cL_law 444 = .ok (.iadd, 1) := by decide +kernel
theorem dL_law_445 : decode cL_law 445 = .ok (.iaload, 1) := by decide +kernel
theorem dL_law_446 : decode cL_law 446 = .ok (.invokevirtual 56, 3) := by decide +kernel
theorem dL_law_449 : decode cL_law 449 = .ok (.if_icmp .eq 350, 3) := by decide +kernel
theorem dL_law_452 : decode cL_law 452 = .ok (.iconst 0, 1) := by decide +kernel
theorem dL_law_453 : decode cL_law 453 = .ok (.ireturn, 1) := by decide +kernel
theorem dL_law_454 : decode cL_law 454 = .ok (.aload_n 1, 1) := by decide +kernel
theorem dL_law_455 : decode cL_law 455 = .ok (.invokevirtual 57, 3) := by decide +kernel
theorem dL_law_458 : decode cL_law 458 = .ok (.aload_n 2, 1) := by decide +kernel
theorem dL_law_459 : decode cL_law 459 = .ok (.invokevirtual 60, 3) := by decide +kernel
theorem dL_law_462 : decode cL_law 462 = .ok (.if_icmp .eq 337, 3) := by decide +kernel
theorem dL_law_465 : decode cL_law 465 = .ok (.iconst 0, 1) := by decide +kernel
theorem dL_law_466 : decode cL_law 466 = .ok (.ireturn, 1) := by decide +kernel
theorem dL_law_467 : decode cL_law 467 = .ok (.aload_n 1, 1) := by decide +kernel
theorem dL_law_468 : decode cL_law 468 = .ok (.aload_n 0, 1) := by decide +kernel
theorem dL_law_469 : decode cL_law 469 = .ok (.iload 4, 2) := by decide +kernel
theorem dL_law_471 : decode cL_law 471 = .ok (.iconst 1, 1) := by decide +kernel
theorem dL_law_472 : decode cL_law 472 = .ok (.iadd, 1) := by decide +kernel
theorem dL_law_473 : decode cL_law 473 = .ok (.iaload, 1) := by decide +kernel
theorem dL_law_474 : decode cL_law 474 = .ok (.invokevirtual 61, 3) := by decide +kernel
theorem dL_law_477 : decode cL_law 477 = .ok (.aload_n 2, 1) := by decide +kernel
theorem dL_law_478 : decode cL_law 478 = .ok (.aload_n 0, 1) := by decide +kernel
theorem dL_law_479 : decode cL_law 479 = .ok (.iload 4, 2) := by decide +kernel
theorem dL_law_481 : decode cL_law 481 = .ok (.iconst 1, 1) := by decide +kernel
theorem dL_law_482 : decode cL_law 482 = .ok (.iadd, 1) := by decide +kernel
theorem dL_law_483 : decode cL_law 483 = .ok (.iaload, 1) := by decide +kernel
theorem dL_law_484 : decode cL_law 484 = .ok (.invokevirtual 64, 3) := by decide +kernel
theorem dL_law_487 : decode cL_law 487 = .ok (.if_icmp .eq 312, 3) := by decide +kernel
theorem dL_law_490 : decode cL_law 490 = .ok (.iconst 0, 1) := by decide +kernel
theorem dL_law_491 : decode cL_law 491 = .ok (.ireturn, 1) := by decide +kernel
theorem dL_law_492 : decode cL_law 492 = .ok (.aload_n 1, 1) := by decide +kernel
theorem dL_law_493 : decode cL_law 493 = .ok (.aload_n 0, 1) := by decide +kernel
theorem dL_law_494 : decode cL_law 494 = .ok (.iload 4, 2) := by decide +kernel
theorem dL_law_496 : decode cL_law 496 = .ok (.iconst 1, 1) := by decide +kernel
theorem dL_law_497 : decode cL_law 497 = .ok (.iadd, 1) := by decide +kernel
theorem dL_law_498 : decode cL_law 498 = .ok (.iaload, 1) := by decide +kernel
theorem dL_law_499 : decode cL_law 499 = .ok (.aload_n 0, 1) := by decide +kernel
theorem dL_law_500 : decode cL_law 500 = .ok (.iload 4, 2) := by decide +kernel
theorem dL_law_502 : decode cL_law 502 = .ok (.iconst 2, 1) := by decide +kernel
theorem dL_law_503 : decode cL_law 503 = .ok (.iadd, 1) := by decide +kernel
theorem dL_law_504 : decode cL_law 504 = .ok (.iaload, 1) := by decide +kernel
theorem dL_law_505 : decode cL_law 505 = .ok (.invokevirtual 65, 3) := by decide +kernel
theorem dL_law_508 : decode cL_law 508 = .ok (.aload_n 2, 1) := by decide +kernel
theorem dL_law_509 : decode cL_law 509 = .ok (.aload_n 0, 1) := by decide +kernel
theorem dL_law_510 : decode cL_law 510 = .ok (.iload 4, 2) := by decide +kernel
theorem dL_law_512 : decode cL_law 512 = .ok (.iconst 1, 1) := by decide +kernel
theorem dL_law_513 : decode cL_law 513 = .ok (.iadd, 1) := by decide +kernel
theorem dL_law_514 : decode cL_law 514 = .ok (.iaload, 1) := by decide +kernel
theorem dL_law_515 : decode cL_law 515 = .ok (.aload_n 0, 1) := by decide +kernel
theorem dL_law_516 : decode cL_law 516 = .ok (.iload 4, 2) := by decide +kernel
theorem dL_law_518 : decode cL_law 518 = .ok (.iconst 2, 1) := by decide +kernel
theorem dL_law_519 : decode cL_law 519 = .ok (.iadd, 1) := by decide +kernel
theorem dL_law_520 : decode cL_law 520 = .ok (.iaload, 1) := by decide +kernel
theorem dL_law_521 : decode cL_law 521 = .ok (.invokevirtual 69, 3) := by decide +kernel
theorem dL_law_524 : decode cL_law 524 = .ok (.if_icmp .eq 275, 3) := by decide +kernel
theorem dL_law_527 : decode cL_law 527 = .ok (.iconst 0, 1) := by decide +kernel
theorem dL_law_528 : decode cL_law 528 = .ok (.ireturn, 1) := by decide +kernel
theorem dL_law_529 : decode cL_law 529 = .ok (.aload_n 1, 1) := by decide +kernel
theorem dL_law_530 : decode cL_law 530 = .ok (.invokevirtual 70, 3) := by decide +kernel
theorem dL_law_533 : decode cL_law 533 = .ok (.aload_n 2, 1) := by decide +kernel
theorem dL_law_534 : decode cL_law 534 = .ok (.invokevirtual 73, 3) := by decide +kernel
theorem dL_law_537 : decode cL_law 537 = .ok (.if_icmp .eq 262, 3) := by decide +kernel
theorem dL_law_540 : decode cL_law 540 = .ok (.iconst 0, 1) := by decide +kernel
theorem dL_law_541 : decode cL_law 541 = .ok (.ireturn, 1) := by decide +kernel
theorem dL_law_542 : decode cL_law 542 = .ok (.aload_n 1, 1) := by decide +kernel
theorem dL_law_543 : decode cL_law 543 = .ok (.aload_n 0, 1) := by decide +kernel
theorem dL_law_544 : decode cL_law 544 = .ok (.iload 4, 2) := by decide +kernel
theorem dL_law_546 : decode cL_law 546 = .ok (.iconst 1, 1) := by decide +kernel
theorem dL_law_547 : decode cL_law 547 = .ok (.iadd, 1) := by decide +kernel
theorem dL_law_548 : decode cL_law 548 = .ok (.iaload, 1) := by decide +kernel
theorem dL_law_549 : decode cL_law 549 = .ok (.aload_n 0, 1) := by decide +kernel
theorem dL_law_550 : decode cL_law 550 = .ok (.iload 4, 2) := by decide +kernel
theorem dL_law_552 : decode cL_law 552 = .ok (.iconst 2, 1) := by decide +kernel
theorem dL_law_553 : decode cL_law 553 = .ok (.iadd, 1) := by decide +kernel
theorem dL_law_554 : decode cL_law 554 = .ok (.iaload, 1) := by decide +kernel
theorem dL_law_555 : decode cL_law 555 = .ok (.invokevirtual 74, 3) := by decide +kernel
theorem dL_law_558 : decode cL_law 558 = .ok (.aload_n 2, 1) := by decide +kernel
theorem dL_law_559 : decode cL_law 559 = .ok (.aload_n 0, 1) := by decide +kernel
theorem dL_law_560 : decode cL_law 560 = .ok (.iload 4, 2) := by decide +kernel
theorem dL_law_562 : decode cL_law 562 = .ok (.iconst 1, 1) := by decide +kernel
theorem dL_law_563 : decode cL_law 563 = .ok (.iadd, 1) := by decide +kernel
theorem dL_law_564 : decode cL_law 564 = .ok (.iaload, 1) := by decide +kernel
theorem dL_law_565 : decode cL_law 565 = .ok (.aload_n 0, 1) := by decide +kernel
theorem dL_law_566 : decode cL_law 566 = .ok (.iload 4, 2) := by decide +kernel
theorem dL_law_568 : decode cL_law 568 = .ok (.iconst 2, 1) := by decide +kernel
theorem dL_law_569 : decode cL_law 569 = .ok (.iadd, 1) := by decide +kernel
theorem dL_law_570 : decode cL_law 570 = .ok (.iaload, 1) := by decide +kernel
theorem dL_law_571 : decode cL_law 571 = .ok (.invokevirtual 77, 3) := by decide +kernel
theorem dL_law_574 : decode cL_law 574 = .ok (.if_icmp .eq 225, 3) := by decide +kernel
theorem dL_law_577 : decode cL_law 577 = .ok (.iconst 0, 1) := by decide +kernel
theorem dL_law_578 : decode cL_law 578 = .ok (.ireturn, 1) := by decide +kernel
theorem dL_law_579 : decode cL_law 579 = .ok (.aload_n 1, 1) := by decide +kernel
theorem dL_law_580 : decode cL_law 580 = .ok (.invokevirtual 78, 3) := by decide +kernel
theorem dL_law_583 : decode cL_law 583 = .ok (.aload_n 2, 1) := by decide +kernel
theorem dL_law_584 : decode cL_law 584 = .ok (.invokevirtual 81, 3) := by decide +kernel
theorem dL_law_587 : decode cL_law 587 = .ok (.if_icmp .eq 212, 3) := by decide +kernel
theorem dL_law_590 : decode cL_law 590 = .ok (.iconst 0, 1) := by decide +kernel
theorem dL_law_591 : decode cL_law 591 = .ok (.ireturn, 1) := by decide +kernel
theorem dL_law_592 : decode cL_law 592 = .ok (.aload_n 1, 1) := by decide +kernel
theorem dL_law_593 : decode cL_law 593 = .ok (.aload_n 0, 1) := by decide +kernel
theorem dL_law_594 : decode cL_law 594 = .ok (.iload 4, 2) := by decide +kernel
theorem dL_law_596 : decode cL_law 596 = .ok (.iconst 1, 1) := by decide +kernel
theorem dL_law_597 : decode cL_law 597 = .ok (.iadd, 1) := by decide +kernel
theorem dL_law_598 : decode cL_law 598 = .ok (.iaload, 1) := by decide +kernel
theorem dL_law_599 : decode cL_law 599 = .ok (.invokevirtual 82, 3) := by decide +kernel
theorem dL_law_602 : decode cL_law 602 = .ok (.aload_n 2, 1) := by decide +kernel
theorem dL_law_603 : decode cL_law 603 = .ok (.aload_n 0, 1) := by decide +kernel
theorem dL_law_604 : decode cL_law 604 = .ok (.iload 4, 2) := by decide +kernel
theorem dL_law_606 : decode cL_law 606 = .ok (.iconst 1, 1) := by decide +kernel
theorem dL_law_607 : decode cL_law 607 = .ok (.iadd, 1) := by decide +kernel
theorem dL_law_608 : decode cL_law 608 = .ok (.iaload, 1) := by decide +kernel
theorem dL_law_609 : decode cL_law 609 = .ok (.invokevirtual 85, 3) := by decide +kernel
theorem dL_law_612 : decode cL_law 612 = .ok (.if_icmp .eq 187, 3) := by decide +kernel
theorem dL_law_615 : decode cL_law 615 = .ok (.iconst 0, 1) := by decide +kernel
theorem dL_law_616 : decode cL_law 616 = .ok (.ireturn, 1) := by decide +kernel
theorem dL_law_617 : decode cL_law 617 = .ok (.aload_n 1, 1) := by decide +kernel
theorem dL_law_618 : decode cL_law 618 = .ok (.invokevirtual 86, 3) := by decide +kernel
theorem dL_law_621 : decode cL_law 621 = .ok (.aload_n 2, 1) := by decide +kernel
theorem dL_law_622 : decode cL_law 622 = .ok (.invokevirtual 89, 3) := by decide +kernel
theorem dL_law_625 : decode cL_law 625 = .ok (.if_icmp .eq 174, 3) := by decide +kernel
theorem dL_law_628 : decode cL_law 628 = .ok (.iconst 0, 1) := by decide +kernel
theorem dL_law_629 : decode cL_law 629 = .ok (.ireturn, 1) := by decide +kernel
theorem dL_law_630 : decode cL_law 630 = .ok (.aload_n 1, 1) := by decide +kernel
theorem dL_law_631 : decode cL_law 631 = .ok (.aload_n 0, 1) := by decide +kernel
theorem dL_law_632 : decode cL_law 632 = .ok (.iload 4, 2) := by decide +kernel
theorem dL_law_634 : decode cL_law 634 = .ok (.iconst 1, 1) := by decide +kernel
theorem dL_law_635 : decode cL_law 635 = .ok (.iadd, 1) := by decide +kernel
theorem dL_law_636 : decode cL_law 636 = .ok (.iaload, 1) := by decide +kernel
theorem dL_law_637 : decode cL_law 637 = .ok (.invokevirtual 90, 3) := by decide +kernel
theorem dL_law_640 : decode cL_law 640 = .ok (.aload_n 2, 1) := by decide +kernel
theorem dL_law_641 : decode cL_law 641 = .ok (.aload_n 0, 1) := by decide +kernel
theorem dL_law_642 : decode cL_law 642 = .ok (.iload 4, 2) := by decide +kernel
theorem dL_law_644 : decode cL_law 644 = .ok (.iconst 1, 1) := by decide +kernel
theorem dL_law_645 : decode cL_law 645 = .ok (.iadd, 1) := by decide +kernel
theorem dL_law_646 : decode cL_law 646 = .ok (.iaload, 1) := by decide +kernel
theorem dL_law_647 : decode cL_law 647 = .ok (.invokevirtual 93, 3) := by decide +kernel
theorem dL_law_650 : decode cL_law 650 = .ok (.if_icmp .eq 149, 3) := by decide +kernel
theorem dL_law_653 : decode cL_law 653 = .ok (.iconst 0, 1) := by decide +kernel
theorem dL_law_654 : decode cL_law 654 = .ok (.ireturn, 1) := by decide +kernel
theorem dL_law_655 : decode cL_law 655 = .ok (.aload_n 1, 1) := by decide +kernel
theorem dL_law_656 : decode cL_law 656 = .ok (.aload_n 0, 1) := by decide +kernel
theorem dL_law_657 : decode cL_law 657 = .ok (.iload 4, 2) := by decide +kernel
theorem dL_law_659 : decode cL_law 659 = .ok (.iconst 1, 1) := by decide +kernel
theorem dL_law_660 : decode cL_law 660 = .ok (.iadd, 1) := by decide +kernel
theorem dL_law_661 : decode cL_law 661 = .ok (.iaload, 1) := by decide +kernel
theorem dL_law_662 : decode cL_law 662 = .ok (.invokevirtual 94, 3) := by decide +kernel
theorem dL_law_665 : decode cL_law 665 = .ok (.aload_n 2, 1) := by decide +kernel
theorem dL_law_666 : decode cL_law 666 = .ok (.aload_n 0, 1) := by decide +kernel
theorem dL_law_667 : decode cL_law 667 = .ok (.iload 4, 2) := by decide +kernel
theorem dL_law_669 : decode cL_law 669 = .ok (.iconst 1, 1) := by decide +kernel
theorem dL_law_670 : decode cL_law 670 = .ok (.iadd, 1) := by decide +kernel
theorem dL_law_671 : decode cL_law 671 = .ok (.iaload, 1) := by decide +kernel
theorem dL_law_672 : decode cL_law 672 = .ok (.invokevirtual 97, 3) := by decide +kernel
theorem dL_law_675 : decode cL_law 675 = .ok (.if_icmp .eq 124, 3) := by decide +kernel
theorem dL_law_678 : decode cL_law 678 = .ok (.iconst 0, 1) := by decide +kernel
theorem dL_law_679 : decode cL_law 679 = .ok (.ireturn, 1) := by decide +kernel
theorem dL_law_680 : decode cL_law 680 = .ok (.aload_n 1, 1) := by decide +kernel
theorem dL_law_681 : decode cL_law 681 = .ok (.aload_n 0, 1) := by decide +kernel
theorem dL_law_682 : decode cL_law 682 = .ok (.iload 4, 2) := by decide +kernel
theorem dL_law_684 : decode cL_law 684 = .ok (.iconst 1, 1) := by decide +kernel
theorem dL_law_685 : decode cL_law 685 = .ok (.iadd, 1) := by decide +kernel
theorem dL_law_686 : decode cL_law 686 = .ok (.iaload, 1) := by decide +kernel
theorem dL_law_687 : decode cL_law 687 = .ok (.invokevirtual 98, 3) := by decide +kernel
theorem dL_law_690 : decode cL_law 690 = .ok (.aload_n 2, 1) := by decide +kernel
theorem dL_law_691 : decode cL_law 691 = .ok (.aload_n 0, 1) := by decide +kernel
theorem dL_law_692 : decode cL_law 692 = .ok (.iload 4, 2) := by decide +kernel
theorem dL_law_694 : decode cL_law 694 = .ok (.iconst 1, 1) := by decide +kernel
theorem dL_law_695 : decode cL_law 695 = .ok (.iadd, 1) := by decide +kernel
theorem dL_law_696 : decode cL_law 696 = .ok (.iaload, 1) := by decide +kernel
theorem dL_law_697 : decode cL_law 697 = .ok (.invokevirtual 101, 3) := by decide +kernel
theorem dL_law_700 : decode cL_law 700 = .ok (.if_icmp .eq 99, 3) := by decide +kernel
theorem dL_law_703 : decode cL_law 703 = .ok (.iconst 0, 1) := by decide +kernel
theorem dL_law_704 : decode cL_law 704 = .ok (.ireturn, 1) := by decide +kernel
theorem dL_law_705 : decode cL_law 705 = .ok (.aload_n 1, 1) := by decide +kernel
theorem dL_law_706 : decode cL_law 706 = .ok (.aload_n 0, 1) := by decide +kernel
theorem dL_law_707 : decode cL_law 707 = .ok (.iload 4, 2) := by decide +kernel
theorem dL_law_709 : decode cL_law 709 = .ok (.iconst 1, 1) := by decide +kernel
theorem dL_law_710 : decode cL_law 710 = .ok (.iadd, 1) := by decide +kernel
theorem dL_law_711 : decode cL_law 711 = .ok (.iaload, 1) := by decide +kernel
theorem dL_law_712 : decode cL_law 712 = .ok (.invokevirtual 102, 3) := by decide +kernel
theorem dL_law_715 : decode cL_law 715 = .ok (.aload_n 2, 1) := by decide +kernel
theorem dL_law_716 : decode cL_law 716 = .ok (.aload_n 0, 1) := by decide +kernel
theorem dL_law_717 : decode cL_law 717 = .ok (.iload 4, 2) := by decide +kernel
theorem dL_law_719 : decode cL_law 719 = .ok (.iconst 1, 1) := by decide +kernel
theorem dL_law_720 : decode cL_law 720 = .ok (.iadd, 1) := by decide +kernel
theorem dL_law_721 : decode cL_law 721 = .ok (.iaload, 1) := by decide +kernel
theorem dL_law_722 : decode cL_law 722 = .ok (.invokevirtual 105, 3) := by decide +kernel
theorem dL_law_725 : decode cL_law 725 = .ok (.if_icmp .eq 74, 3) := by decide +kernel
theorem dL_law_728 : decode cL_law 728 = .ok (.iconst 0, 1) := by decide +kernel
theorem dL_law_729 : decode cL_law 729 = .ok (.ireturn, 1) := by decide +kernel
theorem dL_law_730 : decode cL_law 730 = .ok (.aload_n 1, 1) := by decide +kernel
theorem dL_law_731 : decode cL_law 731 = .ok (.aload_n 3, 1) := by decide +kernel
theorem dL_law_732 : decode cL_law 732 = .ok (.invokestatic 106, 3) := by decide +kernel
theorem dL_law_735 : decode cL_law 735 = .ok (.istore 5, 2) := by decide +kernel
theorem dL_law_737 : decode cL_law 737 = .ok (.aload_n 2, 1) := by decide +kernel
theorem dL_law_738 : decode cL_law 738 = .ok (.invokevirtual 109, 3) := by decide +kernel
theorem dL_law_741 : decode cL_law 741 = .ok (.istore 6, 2) := by decide +kernel
theorem dL_law_743 : decode cL_law 743 = .ok (.aload_n 2, 1) := by decide +kernel
theorem dL_law_744 : decode cL_law 744 = .ok (.invokevirtual 110, 3) := by decide +kernel
theorem dL_law_747 : decode cL_law 747 = .ok (.iload 5, 2) := by decide +kernel
theorem dL_law_749 : decode cL_law 749 = .ok (.if_icmp .eq 5, 3) := by decide +kernel
theorem dL_law_752 : decode cL_law 752 = .ok (.iconst 0, 1) := by decide +kernel
theorem dL_law_753 : decode cL_law 753 = .ok (.ireturn, 1) := by decide +kernel
theorem dL_law_754 : decode cL_law 754 = .ok (.iload 5, 2) := by decide +kernel
theorem dL_law_756 : decode cL_law 756 = .ok (.ifCond .ne 15, 3) := by decide +kernel
theorem dL_law_759 : decode cL_law 759 = .ok (.aload_n 3, 1) := by decide +kernel
theorem dL_law_760 : decode cL_law 760 = .ok (.iconst 0, 1) := by decide +kernel
theorem dL_law_761 : decode cL_law 761 = .ok (.laload, 1) := by decide +kernel
theorem dL_law_762 : decode cL_law 762 = .ok (.iload 6, 2) := by decide +kernel
theorem dL_law_764 : decode cL_law 764 = .ok (.i2l, 1) := by decide +kernel
theorem dL_law_765 : decode cL_law 765 = .ok (.lcmp, 1) := by decide +kernel
theorem dL_law_766 : decode cL_law 766 = .ok (.ifCond .eq 5, 3) := by decide +kernel
theorem dL_law_769 : decode cL_law 769 = .ok (.iconst 0, 1) := by decide +kernel
theorem dL_law_770 : decode cL_law 770 = .ok (.ireturn, 1) := by decide +kernel
theorem dL_law_771 : decode cL_law 771 = .ok (.goto 28, 3) := by decide +kernel
theorem dL_law_774 : decode cL_law 774 = .ok (.aload_n 1, 1) := by decide +kernel
theorem dL_law_775 : decode cL_law 775 = .ok (.aload_n 0, 1) := by decide +kernel
theorem dL_law_776 : decode cL_law 776 = .ok (.iload 4, 2) := by decide +kernel
theorem dL_law_778 : decode cL_law 778 = .ok (.iconst 1, 1) := by decide +kernel
theorem dL_law_779 : decode cL_law 779 = .ok (.iadd, 1) := by decide +kernel
theorem dL_law_780 : decode cL_law 780 = .ok (.iaload, 1) := by decide +kernel
theorem dL_law_781 : decode cL_law 781 = .ok (.invokevirtual 113, 3) := by decide +kernel
theorem dL_law_784 : decode cL_law 784 = .ok (.aload_n 2, 1) := by decide +kernel
theorem dL_law_785 : decode cL_law 785 = .ok (.aload_n 0, 1) := by decide +kernel
theorem dL_law_786 : decode cL_law 786 = .ok (.iload 4, 2) := by decide +kernel
theorem dL_law_788 : decode cL_law 788 = .ok (.iconst 1, 1) := by decide +kernel
theorem dL_law_789 : decode cL_law 789 = .ok (.iadd, 1) := by decide +kernel
theorem dL_law_790 : decode cL_law 790 = .ok (.iaload, 1) := by decide +kernel
theorem dL_law_791 : decode cL_law 791 = .ok (.invokevirtual 116, 3) := by decide +kernel
theorem dL_law_794 : decode cL_law 794 = .ok (.if_icmp .eq 5, 3) := by decide +kernel
theorem dL_law_797 : decode cL_law 797 = .ok (.iconst 0, 1) := by decide +kernel
theorem dL_law_798 : decode cL_law 798 = .ok (.ireturn, 1) := by decide +kernel
theorem dL_law_799 : decode cL_law 799 = .ok (.iinc 4 10, 3) := by decide +kernel
theorem dL_law_802 : decode cL_law 802 = .ok (.goto (-769), 3) := by decide +kernel
theorem dL_law_805 : decode cL_law 805 = .ok (.iconst 1, 1) := by decide +kernel
theorem dL_law_806 : decode cL_law 806 = .ok (.ireturn, 1) := by decide +kernel
end
section
/-! ===== loops of pure functions ===== -/
def zz_wh {σ ρ : Type} (b : σ → Option (σ ⊕ ρ)) : Nat → σ → Option ρ
  | 0, _ => none
  | n + 1, s => (b s).bind fun x => match x with
    | .inl s' => zz_wh b n s'
    | .inr r => some r
noncomputable def zz_loop {σ ρ : Type} (b : σ → Option (σ ⊕ ρ)) (s : σ) : Option ρ :=
  @dite _ (∃ r, ∃ n, zz_wh b n s = some r) (Classical.propDecidable _) (fun h => some (Classical.choose h)) (fun _ => none)
theorem zz_wh_mono {σ ρ : Type} {b : σ → Option (σ ⊕ ρ)} : ∀ (n : Nat) (s : σ) (r : ρ) (k : Nat), zz_wh b n s = some r → zz_wh b (n + k) s = some r
  | 0, _, _, _, h => by cases h
  | n + 1, s, r, k, h => by
    rw [show n + 1 + k = (n + k) + 1 by omega]
    unfold zz_wh at h ⊢
    cases hb : b s with
    | none => rw [hb] at h; cases h
    | some x =>
      rw [hb] at h
      cases x with
      | inl s' => exact zz_wh_mono n s' r k h
      | inr r' => exact h
theorem zz_loop_iff {σ ρ : Type} {b : σ → Option (σ ⊕ ρ)} {s : σ} {r : ρ} : zz_loop b s = some r ↔ ∃ n, zz_wh b n s = some r := by
  constructor
  · intro h
    unfold zz_loop at h
    by_cases hx : ∃ r, ∃ n, zz_wh b n s = some r
    · rw [dif_pos hx] at h
      have h1 := Classical.choose_spec hx
      rw [Option.some.inj h] at h1
      exact h1
    · rw [dif_neg hx] at h
      cases h
  · intro ⟨n, h⟩
    unfold zz_loop
    have hx : ∃ r, ∃ n, zz_wh b n s = some r := ⟨r, n, h⟩
    rw [dif_pos hx]
    obtain ⟨k, hk⟩ := Classical.choose_spec hx
    have h1 := zz_wh_mono _ _ _ k h
    have h2 := zz_wh_mono _ _ _ n hk
    rw [Nat.add_comm] at h2
    exact h2.symm.trans h1
theorem zz_loop_inl {σ ρ : Type} {b : σ → Option (σ ⊕ ρ)} {s s' : σ} (h : b s = some (.inl s')) : zz_loop b s = zz_loop b s' := by
  have key : ∀ r, zz_loop b s = some r ↔ zz_loop b s' = some r := by
    intro r
    rw [zz_loop_iff, zz_loop_iff]
    constructor
    · intro ⟨n, hn⟩
      cases n with
      | zero => cases hn
      | succ n =>
        unfold zz_wh at hn
        rw [h] at hn
        exact ⟨n, hn⟩
    · intro ⟨n, hn⟩
      refine ⟨n + 1, ?_⟩
      unfold zz_wh
      rw [h]
      exact hn
  cases h1 : zz_loop b s with
  | some r => exact ((key r).mp h1).symm
  | none =>
    cases h2 : zz_loop b s' with
    | none => rfl
    | some r => rw [(key r).mpr h2] at h1; cases h1
theorem zz_loop_inr {σ ρ : Type} {b : σ → Option (σ ⊕ ρ)} {s : σ} {r : ρ} (h : b s = some (.inr r)) : zz_loop b s = some r := by
  rw [zz_loop_iff]
  refine ⟨1, ?_⟩
  unfold zz_wh
  rw [h]
  rfl
/-- .. with the continuation as a variable -/
theorem zz_loop_rule0 {σ ρ : Type} {b : σ → Option (σ ⊕ ρ)} {P : σ → Prop} {K : ρ → Prop} (step : ∀ (s : σ) (x : σ ⊕ ρ), b s = some x → (match x with | .inl s' => P s' | .inr r => K r) → P s) : ∀ (s : σ) (r : ρ), zz_loop b s = some r → K r → P s := by
  have key : ∀ (n : Nat) (s : σ) (r : ρ), zz_wh b n s = some r → K r → P s := by
    intro n
    induction n with
    | zero => intro s r h; cases h
    | succ n ih =>
      intro s r h hk
      unfold zz_wh at h
      cases hb : b s with
      | none => rw [hb] at h; cases h
      | some x =>
        rw [hb] at h
        refine step s x hb ?_
        cases x with
        | inl s' => exact ih s' r h hk
        | inr r' =>
          have e : r' = r := Option.some.inj h
          subst e
          exact hk
  intro s r h hk
  obtain ⟨n, hn⟩ := zz_loop_iff.mp h
  exact key n s r hn hk
/-- the rule by which the machine walks a loop -/
theorem zz_loop_go {σ ρ : Type} {b : σ → Option (σ ⊕ ρ)} {P : σ → Prop} {K : ρ → Prop} (step : ∀ K1 : σ ⊕ ρ → Prop, (∀ s', K1 (.inl s') → P s') → (∀ r, K1 (.inr r) → K r) → ∀ (s : σ) (x : σ ⊕ ρ), b s = some x → K1 x → P s) (s : σ) (r : ρ) (h : zz_loop b s = some r) (hk : K r) : P s :=
  zz_loop_rule0 (P := P) (K := K) (fun s x hb hx => step (fun x => match x with | .inl s' => P s' | .inr r => K r) (fun _ h => h) (fun _ h => h) s x hb hx) s r h hk
theorem zz_loop_eq {σ ρ : Type} {b : σ → Option (σ ⊕ ρ)} {s : σ} {x : σ ⊕ ρ} (h : b s = some x) : zz_loop b s = match x with | .inl s' => zz_loop b s' | .inr r => some r := by
  cases x with
  | inl s' => exact zz_loop_inl h
  | inr r => exact zz_loop_inr h
/-! ===== the pure heap ===== -/
abbrev ZC : Type := (Nat × vp_A) ⊕ (Nat × List Value)
abbrev ZH : Type := Nat → Option ZC
def zz_E (dA : Nat → ClassId) (c : ZC) : va_E := match c with
  | .inl x => .inl (dA x.1, x.2)
  | .inr o => .inr o
def zz_T (dA : Nat → ClassId) : List (ClassId × FieldType) := [(dA 0, .byte), (dA 1, .int), (dA 2, .boolean), (dA 3, .long), (dA 4, .object RX0), (dA 5, .object RX3), (dA 6, .object RX4), (dA 7, .object RX6)]
def GW : List Cond := lw_tbl.filter goodWord
theorem GW_tbl {w : Cond} (h : w ∈ GW) : w ∈ lw_tbl := (List.mem_filter.mp h).1
theorem GW_good : GoodIn GW GW := fun w h => ⟨h, good_of_word (List.mem_filter.mp h).2⟩
theorem zz_in {w : Cond} (i : Nat) (h : lw_tbl[i]? = some w) (hg : goodWord w = true) : w ∈ GW := List.mem_filter.mpr ⟨List.mem_of_getElem? h, hg⟩
def zz_NW : List Cond := [.methodLinkNest RX10 39 yX6_init RX11, .methodLinkNest RX10 40 yX3_init RX11, .methodLinkNest RX8 11 yX4_init RX11, .methodLinkNest RX7 36 yX4_init RX11, .methodLinkNest RX9 11 yX4_init RX11]
def zz_K (D : va_G) (dA : Nat → ClassId) (U : State) : Prop := va_K D vwCl (zz_T dA) U ∧ (∀ w ∈ zz_NW, va_Nw w U) ∧ va_AO RX0 U ∧ va_AO RX3 U ∧ va_AO RX4 U ∧ va_AO RX6 U
theorem zz_K.warm {D : va_G} {dA : Nat → ClassId} {s U : State} (hW : s.WarmedH U.vm) (h : zz_K D dA s) : zz_K D dA U := by
  obtain ⟨h1, h2, h3, h4, h5, h6⟩ := h
  refine ⟨va_K.moved hW.alike h1, ?_, va_AO.moved hW.alike h3, va_AO.moved hW.alike h4, va_AO.moved hW.alike h5, va_AO.moved hW.alike h6⟩
  refine List.forall_mem_cons.mpr ⟨va_Nw.warmM hW (h2 _ (List.mem_of_getElem? (i := 0) rfl)), List.forall_mem_cons.mpr ⟨va_Nw.warmM hW (h2 _ (List.mem_of_getElem? (i := 1) rfl)), List.forall_mem_cons.mpr ⟨va_Nw.warmM hW (h2 _ (List.mem_of_getElem? (i := 2) rfl)), List.forall_mem_cons.mpr ⟨va_Nw.warmM hW (h2 _ (List.mem_of_getElem? (i := 3) rfl)), List.forall_mem_cons.mpr ⟨va_Nw.warmM hW (h2 _ (List.mem_of_getElem? (i := 4) rfl)), fun _ h => absurd h List.not_mem_nil⟩⟩⟩⟩⟩
theorem zz_K.same {D : va_G} {dA : Nat → ClassId} {s U : State} (hv : s.vm = U.vm) (h : zz_K D dA s) : zz_K D dA U := by
  obtain ⟨h1, h2, h3, h4, h5, h6⟩ := h
  have ha : s.vm.Alike U.vm := by rw [← hv]; exact Vm.Alike.refl _
  refine ⟨va_K.moved ha h1, ?_, va_AO.moved ha h3, va_AO.moved ha h4, va_AO.moved ha h5, va_AO.moved ha h6⟩
  refine List.forall_mem_cons.mpr ⟨va_Nw.same rfl hv (h2 _ (List.mem_of_getElem? (i := 0) rfl)), List.forall_mem_cons.mpr ⟨va_Nw.same rfl hv (h2 _ (List.mem_of_getElem? (i := 1) rfl)), List.forall_mem_cons.mpr ⟨va_Nw.same rfl hv (h2 _ (List.mem_of_getElem? (i := 2) rfl)), List.forall_mem_cons.mpr ⟨va_Nw.same rfl hv (h2 _ (List.mem_of_getElem? (i := 3) rfl)), List.forall_mem_cons.mpr ⟨va_Nw.same rfl hv (h2 _ (List.mem_of_getElem? (i := 4) rfl)), fun _ h => absurd h List.not_mem_nil⟩⟩⟩⟩⟩
/-- the heap H holds the pure heap h, n is its size, A: what may be written -/
def zz_H (D : va_G) (dA : Nat → ClassId) (A : Nat → Prop) (h : ZH) (n : Nat) (H : Heap) : Prop := (∀ (q : Nat) (c : ZC), h q = some c → va_at D vwCl (q, zz_E dA c) H) ∧ H.size = n ∧ (∀ (q : Nat) (c : ZC), h q = some c → A q) ∧ ∀ q, n ≤ q → A q
def zz_B (D : va_G) (dA : Nat → ClassId) (A : Nat → Prop) (h : ZH) (n : Nat) (H0 H : Heap) (locs : List Loc) : Prop := zz_H D dA A h n H ∧ va_S A H0 H locs
def zz_P (D : va_G) (dA : Nat → ClassId) (A : Nat → Prop) (h : ZH) (n : Nat) (av : List Value) : Array Value → State → Prop := fun v U => v = av.toArray ∧ zz_K D dA U ∧ zz_H D dA A h n U.heap
def zz_Q (D : va_G) (dA : Nat → ClassId) (A : Nat → Prop) (rv : Option Value) (h : ZH) (n : Nat) : Array Value → State → Outcome → State → Prop := fun _ st oc t => oc = .returned rv ∧ zz_H D dA A h n t.heap ∧ va_F A st t
def zz_ws (y : MethodName) (cc : ByteArray) (maxL : Nat) (ret : Option FieldType) : List Cond := Cond.code y cc maxL ret :: GW
abbrev zz_W (p : Program) (l : Launch) (e : Env) (R : Room) (s : State) (m : MethodId) (args : Array Value) (below : List Frame) (meth : Method) (c : Code) (D : va_G) (dA : Nat → ClassId) (A : Nat → Prop) (rv : Option Value) (h : ZH) (n mc ms : Nat) (H : Heap) (locs : List Loc) (cells slots pc : Nat) (ls : Array Slot) (st : List Value) : Prop :=
  W p l e R s m args below meth c H locs cells slots (MQ below (zz_Q D dA A rv h n) args s mc ms A) (F0 m pc ls st)
theorem zz_P.blind {D : va_G} {dA : Nat → ClassId} {A : Nat → Prop} {h : ZH} {n : Nat} {av : List Value} : FrameBlind (zz_P D dA A h n av) := by
  intro a U g mk hp
  obtain ⟨h1, h2, h3⟩ := hp
  exact ⟨h1, zz_K.same (s := U) (U := U.calling g mk a) rfl h2, h3⟩
/-- a method's contract out of its walk -/
theorem zz_met {l : Launch} {y : MethodName} {cc : ByteArray} {maxL : Nat} {ret : Option FieldType} {rm : Room} {av : List Value} {h h1 : ZH} {n n1 mc ms : Nat} {D : va_G} {dA : Nat → ClassId} {A : Nat → Prop} {rv : Option Value} (hy : plainName y.cls = true) (ha : (lg_sl av).length ≤ maxL)
    (body : ∀ (p : Program) (e : Env) (s : State) (m : MethodId) (args : Array Value) (below : List Frame) (meth : Method) (c : Code) (ls : Array Slot), CallFix p m c cc maxL s args GW y.cls → zz_K D dA s → meth.sig.returnType = ret → meth.locks = false → meth.name = y.name → lv_has ls maxL (lv_args 0 av) → zz_B D dA A h n s.heap s.heap [] →
      zz_W p l e rm s m args below meth c D dA A rv h1 n1 mc ms s.heap [] 0 0 0 ls []) : Met l y (zz_ws y cc maxL ret) rm (zz_P D dA A h n av) (zz_Q D dA A rv h1 n1) mc ms A := by
  refine Met.ofW (cc := cc) (maxL := maxL) (ret := ret) hy rfl ?_
  intro p e s m args below meth c s₁ B hml hv
  obtain ⟨rfl, hK, hH⟩ := hv
  have hts := atoms_spec (ws := zz_ws y cc maxL ret) B.pre
  have hown : s.vm.findClass y.cls = some m.cls := findClass_of_methodNamed B.named
  rw [lg_entry_eq]
  exact body p e s m _ below meth c _ ⟨B.exec, B.bytes, hml, hown, fun w hw => hts w (List.mem_cons_of_mem _ hw)⟩ hK B.returns B.notSynchronized (name_of_methodNamed B.named B.method).1 (lv_entry av ha) ⟨hH, va_S.rf⟩
def zz_let {α β : Type} (x : α) (f : α → Option β) : Option β := f x
def zz_ne {β : Type} (y : Int32) (o : Option β) : Option β := if y = 0 then none else o
theorem zz_ne_s {β : Type} {y : Int32} {o : Option β} {X : β} (h : zz_ne y o = some X) : ¬ y = 0 ∧ o = some X := by
  unfold zz_ne at h
  by_cases hy : y = 0
  · rw [if_pos hy] at h; cases h
  · rw [if_neg hy] at h; exact ⟨hy, h⟩
/-- the room that is left -/
def zz_bud {β : Type} (k K q Q : Nat) (o : Option β) : Option β := if k ≤ K ∧ q ≤ Q then o else none
theorem zz_bud_s {β : Type} {k K q Q : Nat} {o : Option β} {X : β} (h : zz_bud k K q Q o = some X) : (k ≤ K ∧ q ≤ Q) ∧ o = some X := by
  unfold zz_bud at h
  by_cases hy : k ≤ K ∧ q ≤ Q
  · rw [if_pos hy] at h; exact ⟨hy, h⟩
  · rw [if_neg hy] at h; cases h
def zz_ok {β : Type} (P : Prop) [Decidable P] (o : Option β) : Option β := if P then o else none
theorem zz_ok_s {β : Type} {P : Prop} [Decidable P] {o : Option β} {X : β} (h : zz_ok P o = some X) : P ∧ o = some X := by
  unfold zz_ok at h
  by_cases hy : P
  · rw [if_pos hy] at h; exact ⟨hy, h⟩
  · rw [if_neg hy] at h; cases h
def zz_nr {β : Type} (r : Option Nat) (a : Option β) (b : Nat → Option β) : Option β := match r with
  | none => a
  | some v => b v
theorem zz_bd {α β : Type} {o : Option α} {F : α → Option β} {X : β} (h : o.bind F = some X) : ∃ v, o = some v ∧ F v = some X := by
  cases o with
  | none => cases h
  | some v => exact ⟨v, rfl, h⟩
theorem zz_mapr {α β : Type} {o : Option β} {X : α ⊕ β} (h : o.map Sum.inr = some X) : ∃ y, X = .inr y ∧ o = some y := by
  cases o with
  | none => cases h
  | some v => exact ⟨v, (Option.some.inj h).symm, rfl⟩
theorem zz_mapk {α β : Type} {o : Option β} {X : α ⊕ β} {K : α ⊕ β → Prop} (h : o.map Sum.inr = some X) (hk : K X) : ∃ y, o = some y ∧ K (.inr y) := by
  obtain ⟨y, rfl, hy⟩ := zz_mapr h
  exact ⟨y, hy, hk⟩
theorem zz_fin {α : Type} {a X : α} {K : α → Prop} (h : some a = some X) (hk : K X) : K a := by
  cases h
  exact hk
/-! ===== fields ===== -/
def zg_V (h : ZH) (a ci k : Nat) : Option Value := match h a with
  | some (.inr o) => if o.1 = ci then o.2[k]? else none
  | _ => none
def zz_asI (v : Value) : Option Int32 := match v with
  | .int x => some x
  | _ => none
def zz_asR (v : Value) : Option Nat := match v with
  | .ref x => some x
  | _ => none
def zg_I (h : ZH) (a ci k : Nat) : Option Int32 := (zg_V h a ci k).bind zz_asI
def zg_R (h : ZH) (a ci k : Nat) : Option Nat := (zg_V h a ci k).bind zz_asR
def zp_V (h : ZH) (a ci k : Nat) (v : Value) : Option ZH := match h a with
  | some (.inr o) => if o.1 = ci ∧ k < o.2.length then some (va_up h a (some (.inr (ci, o.2.set k v)))) else none
  | _ => none
def zz_isO {β : Type} (h : ZH) (a ci : Nat) (o : Option β) : Option β := match h a with
  | some (.inr x) => if x.1 = ci then o else none
  | _ => none
theorem zg_V_s {h : ZH} {a ci k : Nat} {v : Value} (hv : zg_V h a ci k = some v) : ∃ fs, h a = some (.inr (ci, fs)) ∧ fs[k]? = some v := by
  unfold zg_V at hv
  split at hv
  · rename_i o ho
    by_cases hc : o.1 = ci
    · rw [if_pos hc] at hv
      subst hc
      exact ⟨o.2, ho, hv⟩
    · rw [if_neg hc] at hv; cases hv
  · cases hv
theorem zg_I_s {h : ZH} {a ci k : Nat} {v : Int32} (hv : zg_I h a ci k = some v) : ∃ fs, h a = some (.inr (ci, fs)) ∧ fs[k]? = some (.int v) := by
  obtain ⟨w, h1, h2⟩ := zz_bd hv
  obtain ⟨fs, h3, h4⟩ := zg_V_s h1
  cases w with
  | int x => cases h2; exact ⟨fs, h3, h4⟩
  | _ => cases h2
theorem zg_R_s {h : ZH} {a ci k : Nat} {v : Nat} (hv : zg_R h a ci k = some v) : ∃ fs, h a = some (.inr (ci, fs)) ∧ fs[k]? = some (.ref v) := by
  obtain ⟨w, h1, h2⟩ := zz_bd hv
  obtain ⟨fs, h3, h4⟩ := zg_V_s h1
  cases w with
  | ref x => cases h2; exact ⟨fs, h3, h4⟩
  | _ => cases h2
theorem zp_V_s {h h1 : ZH} {a ci k : Nat} {v : Value} (hv : zp_V h a ci k v = some h1) : ∃ fs, h a = some (.inr (ci, fs)) ∧ k < fs.length ∧ h1 = va_up h a (some (.inr (ci, fs.set k v))) := by
  unfold zp_V at hv
  split at hv
  · rename_i o ho
    by_cases hc : o.1 = ci ∧ k < o.2.length
    · rw [if_pos hc] at hv
      obtain ⟨e, hl⟩ := hc
      subst e
      exact ⟨o.2, ho, hl, (Option.some.inj hv).symm⟩
    · rw [if_neg hc] at hv; cases hv
  · cases hv
theorem zz_isO_s {β : Type} {h : ZH} {a ci : Nat} {o : Option β} {X : β} (hv : zz_isO h a ci o = some X) : (∃ fs, h a = some (.inr (ci, fs))) ∧ o = some X := by
  unfold zz_isO at hv
  split at hv
  · rename_i x hx
    by_cases hc : x.1 = ci
    · rw [if_pos hc] at hv
      subst hc
      exact ⟨⟨x.2, hx⟩, hv⟩
    · rw [if_neg hc] at hv; cases hv
  · cases hv
/-- what the tables say of a class -/
def zz_C (ci : Nat) (C : String) (T : u_T) (N : Nat) (ty : Nat → FieldType) : Prop := vwCl[ci]? = some (C, T, N) ∧ (∀ w ∈ u_ws C T N, w ∈ GW) ∧ (∀ k, k < N → parseFieldDescriptor (T k).2.2.1 = some (ty k)) ∧ ∀ a, a < N → ∀ b, b < N → a ≠ b → (T a).2.1 ≠ (T b).2.1
/-! ===== arrays ===== -/
def zl_I (h : ZH) (a t : Nat) (i : Int32) : Option Int32 := match h a with
  | some (.inl (t', n, .inl f)) => if t' = t ∧ ¬ (i < 0 ∨ n ≤ i.toNatClampNeg) then some (f i.toNatClampNeg) else none
  | _ => none
def zl_J (h : ZH) (a t : Nat) (i : Int32) : Option Int64 := match h a with
  | some (.inl (t', n, .inr (.inl f))) => if t' = t ∧ ¬ (i < 0 ∨ n ≤ i.toNatClampNeg) then some (f i.toNatClampNeg) else none
  | _ => none
def zl_Q (h : ZH) (a t : Nat) (i : Int32) : Option (Option Nat) := match h a with
  | some (.inl (t', n, .inr (.inr (.inr (.inr f))))) => if t' = t ∧ ¬ (i < 0 ∨ n ≤ i.toNatClampNeg) then some (f i.toNatClampNeg) else none
  | _ => none
def zl_R (h : ZH) (a t : Nat) (i : Int32) : Option Nat := (zl_Q h a t i).bind fun r => r
def zs_I (h : ZH) (a t : Nat) (i v : Int32) : Option ZH := match h a with
  | some (.inl (t', n, .inl f)) => if t' = t ∧ ¬ (i < 0 ∨ n ≤ i.toNatClampNeg) then some (va_up h a (some (.inl (t, n, .inl (va_up f i.toNatClampNeg v))))) else none
  | _ => none
def zs_J (h : ZH) (a t : Nat) (i : Int32) (v : Int64) : Option ZH := match h a with
  | some (.inl (t', n, .inr (.inl f))) => if t' = t ∧ ¬ (i < 0 ∨ n ≤ i.toNatClampNeg) then some (va_up h a (some (.inl (t, n, .inr (.inl (va_up f i.toNatClampNeg v)))))) else none
  | _ => none
def zs_R (h : ZH) (a t : Nat) (i : Int32) (v : Nat) : Option ZH := match h a with
  | some (.inl (t', n, .inr (.inr (.inr (.inr f))))) => if t' = t ∧ ¬ (i < 0 ∨ n ≤ i.toNatClampNeg) then some (va_up h a (some (.inl (t, n, .inr (.inr (.inr (.inr (va_up f i.toNatClampNeg (some v))))))))) else none
  | _ => none
def zl_N (h : ZH) (a t : Nat) : Option Int32 := match h a with
  | some (.inl x) => if x.1 = t then some (Int32.ofNat x.2.1) else none
  | _ => none
theorem zl_I_s {h : ZH} {a t : Nat} {i v : Int32} (hv : zl_I h a t i = some v) : ∃ n f, h a = some (.inl (t, n, .inl f)) ∧ vp_in i n ∧ v = f i.toNatClampNeg := by
  unfold zl_I at hv
  split at hv
  · rename_i t' n f ho
    by_cases hc : t' = t ∧ ¬ (i < 0 ∨ n ≤ i.toNatClampNeg)
    · rw [if_pos hc] at hv
      obtain ⟨e, hl⟩ := hc
      subst e
      exact ⟨n, f, ho, hl, (Option.some.inj hv).symm⟩
    · rw [if_neg hc] at hv; cases hv
  · cases hv
theorem zl_J_s {h : ZH} {a t : Nat} {i : Int32} {v : Int64} (hv : zl_J h a t i = some v) : ∃ n f, h a = some (.inl (t, n, .inr (.inl f))) ∧ vp_in i n ∧ v = f i.toNatClampNeg := by
  unfold zl_J at hv
  split at hv
  · rename_i t' n f ho
    by_cases hc : t' = t ∧ ¬ (i < 0 ∨ n ≤ i.toNatClampNeg)
    · rw [if_pos hc] at hv
      obtain ⟨e, hl⟩ := hc
      subst e
      exact ⟨n, f, ho, hl, (Option.some.inj hv).symm⟩
    · rw [if_neg hc] at hv; cases hv
  · cases hv
theorem zl_Q_s {h : ZH} {a t : Nat} {i : Int32} {v : Option Nat} (hv : zl_Q h a t i = some v) : ∃ n f, h a = some (.inl (t, n, .inr (.inr (.inr (.inr f))))) ∧ vp_in i n ∧ v = f i.toNatClampNeg := by
  unfold zl_Q at hv
  split at hv
  · rename_i t' n f ho
    by_cases hc : t' = t ∧ ¬ (i < 0 ∨ n ≤ i.toNatClampNeg)
    · rw [if_pos hc] at hv
      obtain ⟨e, hl⟩ := hc
      subst e
      exact ⟨n, f, ho, hl, (Option.some.inj hv).symm⟩
    · rw [if_neg hc] at hv; cases hv
  · cases hv
theorem zs_I_s {h h1 : ZH} {a t : Nat} {i v : Int32} (hv : zs_I h a t i v = some h1) : ∃ n f, h a = some (.inl (t, n, .inl f)) ∧ vp_in i n ∧ h1 = va_up h a (some (.inl (t, n, .inl (va_up f i.toNatClampNeg v)))) := by
  unfold zs_I at hv
  split at hv
  · rename_i t' n f ho
    by_cases hc : t' = t ∧ ¬ (i < 0 ∨ n ≤ i.toNatClampNeg)
    · rw [if_pos hc] at hv
      obtain ⟨e, hl⟩ := hc
      subst e
      exact ⟨n, f, ho, hl, (Option.some.inj hv).symm⟩
    · rw [if_neg hc] at hv; cases hv
  · cases hv
theorem zs_J_s {h h1 : ZH} {a t : Nat} {i : Int32} {v : Int64} (hv : zs_J h a t i v = some h1) : ∃ n f, h a = some (.inl (t, n, .inr (.inl f))) ∧ vp_in i n ∧ h1 = va_up h a (some (.inl (t, n, .inr (.inl (va_up f i.toNatClampNeg v))))) := by
  unfold zs_J at hv
  split at hv
  · rename_i t' n f ho
    by_cases hc : t' = t ∧ ¬ (i < 0 ∨ n ≤ i.toNatClampNeg)
    · rw [if_pos hc] at hv
      obtain ⟨e, hl⟩ := hc
      subst e
      exact ⟨n, f, ho, hl, (Option.some.inj hv).symm⟩
    · rw [if_neg hc] at hv; cases hv
  · cases hv
theorem zs_R_s {h h1 : ZH} {a t : Nat} {i : Int32} {v : Nat} (hv : zs_R h a t i v = some h1) : ∃ n f, h a = some (.inl (t, n, .inr (.inr (.inr (.inr f))))) ∧ vp_in i n ∧ h1 = va_up h a (some (.inl (t, n, .inr (.inr (.inr (.inr (va_up f i.toNatClampNeg (some v)))))))) := by
  unfold zs_R at hv
  split at hv
  · rename_i t' n f ho
    by_cases hc : t' = t ∧ ¬ (i < 0 ∨ n ≤ i.toNatClampNeg)
    · rw [if_pos hc] at hv
      obtain ⟨e, hl⟩ := hc
      subst e
      exact ⟨n, f, ho, hl, (Option.some.inj hv).symm⟩
    · rw [if_neg hc] at hv; cases hv
  · cases hv
theorem zl_N_s {h : ZH} {a t : Nat} {v : Int32} (hv : zl_N h a t = some v) : ∃ x : vp_A, h a = some (.inl (t, x)) ∧ Int32.ofNat x.1 = v := by
  unfold zl_N at hv
  split at hv
  · rename_i x ho
    by_cases hc : x.1 = t
    · rw [if_pos hc] at hv
      subst hc
      exact ⟨x.2, ho, Option.some.inj hv⟩
    · rw [if_neg hc] at hv; cases hv
  · cases hv
/-! ===== the bundle ===== -/
theorem zz_B.at {D : va_G} {dA : Nat → ClassId} {A : Nat → Prop} {h : ZH} {n : Nat} {H0 H : Heap} {locs : List Loc} (Z : zz_B D dA A h n H0 H locs) {a : Nat} {c : ZC} (ha : h a = some c) : va_P D vwCl [(a, zz_E dA c)] H := by
  intro k q hk
  have hz : k < 1 := (List.getElem?_eq_some_iff.mp hk).1
  rw [show k = 0 by omega] at hk
  cases hk
  exact Z.1.1 a c ha
theorem zz_B.set {D : va_G} {dA : Nat → ClassId} {A : Nat → Prop} {h : ZH} {n : Nat} {H0 H H1 : Heap} {locs : List Loc} (Z : zz_B D dA A h n H0 H locs) {a k : Nat} {c0 c1 : ZC} (ha : h a = some c0) (he : va_at D vwCl (a, zz_E dA c1) H1) (e2 : H1.size = H.size) (e3 : ∀ q : Nat, q ≠ a → H1[q]? = H[q]?) : zz_B D dA A (va_up h a (some c1)) n H0 H1 (locs ++ [⟨a, k⟩]) := by
  obtain ⟨⟨z1, z2, z3, z4⟩, zS⟩ := Z
  refine ⟨⟨fun q c hq => ?_, by rw [e2]; exact z2, fun q c hq => ?_, z4⟩, zS.put e2 e3 (z3 a c0 ha)⟩
  · by_cases hqa : q = a
    · subst hqa
      have hq' : some c1 = some c := by simpa [va_up] using hq
      cases hq'
      exact he
    · have hq' : h q = some c := by simpa [va_up, hqa] using hq
      exact (z1 q c hq').kept (e3 q hqa)
  · by_cases hqa : q = a
    · subst hqa
      exact z3 q c0 ha
    · exact z3 q c (by simpa [va_up, hqa] using hq)
theorem zz_B.push {D : va_G} {dA : Nat → ClassId} {A : Nat → Prop} {h : ZH} {n : Nat} {H0 H H1 : Heap} {locs : List Loc} (Z : zz_B D dA A h n H0 H locs) {c1 : ZC} (he : va_at D vwCl (n, zz_E dA c1) H1) (e2 : H1.size = n + 1) (e3 : ∀ q : Nat, q < n → H1[q]? = H[q]?) : zz_B D dA A (va_up h n (some c1)) (n + 1) H0 H1 locs := by
  obtain ⟨⟨z1, z2, z3, z4⟩, zS⟩ := Z
  subst z2
  refine ⟨⟨fun q c hq => ?_, e2, fun q c hq => ?_, fun q hq => z4 q (by omega)⟩, ⟨Nat.le_trans zS.1 (by omega), fun x h1 h2 => (e3 x (Nat.lt_of_lt_of_le h1 zS.1)).trans (zS.2.1 x h1 h2), zS.2.2⟩⟩
  · by_cases hqa : q = H.size
    · subst hqa
      have hq' : some c1 = some c := by simpa [va_up] using hq
      cases hq'
      exact he
    · have hq' : h q = some c := by simpa [va_up, hqa] using hq
      have hl := (z1 q c hq').lt
      exact (z1 q c hq').kept (e3 q hl)
  · by_cases hqa : q = H.size
    · subst hqa
      exact z4 _ (Nat.le_refl _)
    · exact z3 q c (by simpa [va_up, hqa] using hq)
end
section
section ZZR
variable {p : Program} {l : Launch} {e : Env} {R : Room} {s : State} {m : MethodId} {args : Array Value} {below : List Frame} {meth : Method} {c : Code} {H : Heap} {locs : List Loc} {cells slots : Nat} {Q : State → Prop}
variable {cc : ByteArray} {nL pc : Nat} {own : String} {ls : Array Slot} {rest : List Value} {D : va_G} {dA : Nat → ClassId} {A : Nat → Prop} {h : ZH} {n : Nat} {H0 : Heap} {α : Type} {X : α}
theorem zz_lt {β : Type} {x : β} {F : β → Option α} {G : β → Prop} (hv : zz_let x F = some X) (k : ∀ v : β, F v = some X → G v) : G x := k x hv
theorem zz_gI {a ci k index : Nat} {C : String} {T : u_T} {N : Nat} {ty0 : Nat → FieldType} {F : Int32 → Option α} (S : CallFix p m c cc nL s args GW own) (K : zz_K D dA s) (Z : zz_B D dA A h n H0 H locs) (hv : (zg_I h a ci k).bind F = some X) (hC : zz_C ci C T N ty0) (hk : k < N) (hlk : Cond.fieldLink own index (T k).1 (T k).2.1 (T k).2.2.1 ∈ GW) (hdg : decode cc pc = .ok (.getfield index, 3))
    (kk : ∀ v : Int32, F v = some X → W p l e R s m args below meth c H locs cells slots Q (F0 m (pc + 3) ls (.int v :: rest))) : W p l e R s m args below meth c H locs cells slots Q (F0 m pc ls (.ref a :: rest)) := by
  obtain ⟨v, h1, h2⟩ := zz_bd hv
  obtain ⟨fs, h3, h4⟩ := zg_I_s h1
  exact va_get (ws := [(a, .inr (ci, fs))]) S.1 S.2.1 S.2.2.2.2 hC.2.1 S.2.2.2.1 K.1 (Z.at h3) 0 rfl hC.1 k hk (S.2.2.2.2 _ hlk) (fun _ h => h) h4 hdg (kk v h2)
theorem zz_gR {a ci k index : Nat} {C : String} {T : u_T} {N : Nat} {ty0 : Nat → FieldType} {F : Nat → Option α} (S : CallFix p m c cc nL s args GW own) (K : zz_K D dA s) (Z : zz_B D dA A h n H0 H locs) (hv : (zg_R h a ci k).bind F = some X) (hC : zz_C ci C T N ty0) (hk : k < N) (hlk : Cond.fieldLink own index (T k).1 (T k).2.1 (T k).2.2.1 ∈ GW) (hdg : decode cc pc = .ok (.getfield index, 3))
    (kk : ∀ v : Nat, F v = some X → W p l e R s m args below meth c H locs cells slots Q (F0 m (pc + 3) ls (.ref v :: rest))) : W p l e R s m args below meth c H locs cells slots Q (F0 m pc ls (.ref a :: rest)) := by
  obtain ⟨v, h1, h2⟩ := zz_bd hv
  obtain ⟨fs, h3, h4⟩ := zg_R_s h1
  exact va_get (ws := [(a, .inr (ci, fs))]) S.1 S.2.1 S.2.2.2.2 hC.2.1 S.2.2.2.1 K.1 (Z.at h3) 0 rfl hC.1 k hk (S.2.2.2.2 _ hlk) (fun _ h => h) h4 hdg (kk v h2)
theorem zz_put {a ci k index : Nat} {C : String} {T : u_T} {N : Nat} {ty0 : Nat → FieldType} {v : Value} {F : ZH → Option α} (S : CallFix p m c cc nL s args GW own) (K : zz_K D dA s) (Z : zz_B D dA A h n H0 H locs) (hv : (zp_V h a ci k v).bind F = some X) (hC : zz_C ci C T N ty0) (hk : k < N) (hlk : Cond.fieldLink own index (T k).1 (T k).2.1 (T k).2.2.1 ∈ GW) (hfin : (T k).2.2.2 = false) (hn : narrow (ty0 k) v = v) (hfit : fits (ty0 k) v = true) (hdg : decode cc pc = .ok (.putfield index, 3))
    (kk : ∀ (h1 : ZH) (H1 : Heap) (locs1 : List Loc), F h1 = some X → zz_B D dA A h1 n H0 H1 locs1 → W p l e R s m args below meth c H1 locs1 cells slots Q (F0 m (pc + 3) ls rest)) : W p l e R s m args below meth c H locs cells slots Q (F0 m pc ls (v :: .ref a :: rest)) := by
  obtain ⟨h1, g1, g2⟩ := zz_bd hv
  obtain ⟨fs, g3, hl, rfl⟩ := zp_V_s g1
  obtain ⟨hx, hb, -, hown, hts⟩ := S
  obtain ⟨hc, hin, hty, hnm⟩ := hC
  have hK := K.1
  have hd := hty k hk
  have hap := va_apart (own := own) hts hin ty0 hty hnm hK hc
  obtain ⟨r, h1, cell, q1, q2, q3, q4⟩ := Z.1.1 _ _ g3
  have hr : r = (C, T, N) := Option.some.inj (h1.symm.trans hc)
  subst hr
  obtain ⟨hS, hfc, kC, hkC, hkind⟩ := hK.1 ci _ hc
  obtain ⟨cf, kf, fi, f, hi, hsl⟩ := hS k hk
  have hlay := hts _ (hin _ (u_in_lay hk))
  unfold u_lay at hlay
  rw [if_neg (by rw [hfin]; decide)] at hlay
  have hst := (u_facts hfc hkC (u_lays hts hin hk) hi).1
  have h6 := u_store hfc hkC hkind hlay hi hd hn hfit
  refine W.putK hx hb (f := f) ⟨hown, hts _ hlk, ⟨_, _, _, hi⟩, hst⟩ (by rw [q2]; exact h6) q1 q3 (by rw [hsl]; exact k2_hasslot (q4 k hk)) rfl rfl hdg fun H' e1 e2 e3 => ?_
  rw [hsl] at e1 ⊢
  exact kk _ H' _ g2 (Z.set g3 (c1 := .inr (ci, fs.set k v)) ⟨_, hc, t_OB.to (V := updV (vp_V fs) k v) ⟨_, e1, q2, q3, t_set q4 hap hk v⟩ (fun j _ => vp_updV_set hl v j)⟩ e2 e3)
theorem zz_putF {a ci k index : Nat} {C : String} {T : u_T} {N : Nat} {ty0 : Nat → FieldType} {v : Value} {F : ZH → Option α} (S : CallFix p m c cc nL s args GW own) (K : zz_K D dA s) (Z : zz_B D dA A h n H0 H locs) (hv : (zp_V h a ci k v).bind F = some X) (hC : zz_C ci C T N ty0) (hk : k < N) (hlk : Cond.fieldLink own index (T k).1 (T k).2.1 (T k).2.2.1 ∈ GW) (hfin : (T k).2.2.2 = true) (hin2 : meth.name = "<init>") (hdecl : (T k).1 = own) (hn : narrow (ty0 k) v = v) (hfit : fits (ty0 k) v = true) (hdg : decode cc pc = .ok (.putfield index, 3))
    (kk : ∀ (h1 : ZH) (H1 : Heap) (locs1 : List Loc), F h1 = some X → zz_B D dA A h1 n H0 H1 locs1 → W p l e R s m args below meth c H1 locs1 cells slots Q (F0 m (pc + 3) ls rest)) : W p l e R s m args below meth c H locs cells slots Q (F0 m pc ls (v :: .ref a :: rest)) := by
  obtain ⟨h1, g1, g2⟩ := zz_bd hv
  obtain ⟨fs, g3, hl, rfl⟩ := zp_V_s g1
  obtain ⟨hx, hb, -, hown, hts⟩ := S
  obtain ⟨hc, hin, hty, hnm⟩ := hC
  have hK := K.1
  have hd := hty k hk
  have hap := va_apart (own := own) hts hin ty0 hty hnm hK hc
  obtain ⟨r, h1, cell, q1, q2, q3, q4⟩ := Z.1.1 _ _ g3
  have hr : r = (C, T, N) := Option.some.inj (h1.symm.trans hc)
  subst hr
  obtain ⟨hS, hfc, kC, hkC, hkind⟩ := hK.1 ci _ hc
  obtain ⟨cf, kf, fi, f, hi, hsl⟩ := hS k hk
  have hlay := hts _ (hin _ (u_in_lay hk))
  unfold u_lay at hlay
  rw [if_pos hfin] at hlay
  have hst := (u_facts hfc hkC (u_lays hts hin hk) hi).1
  have hcf : m.cls = cf := by
    obtain ⟨_, _, c', _, _, _, -, -, hf', -, -, -, hown2, -⟩ := Cond.laysFinal_spec hlay
    have e1 : c' = cf := by have := hi.symm.trans hf'; simp at this; exact this.1.symm
    rw [hdecl] at hown2
    rw [← e1]; exact Option.some.inj (hown.symm.trans hown2)
  have h6 := u_fits hfc hkC hkind (Or.inr hlay) hi hd hn hfit
  refine W.putFinK hx hb hown (hts _ hlk) hi hst hcf hin2 (by rw [q2]; exact h6) q1 q3 (by rw [hsl]; exact k2_hasslot (q4 k hk)) rfl rfl hdg fun H' e1 e2 e3 => ?_
  rw [hsl] at e1 ⊢
  exact kk _ H' _ g2 (Z.set g3 (c1 := .inr (ci, fs.set k v)) ⟨_, hc, t_OB.to (V := updV (vp_V fs) k v) ⟨_, e1, q2, q3, t_set q4 hap hk v⟩ (fun j _ => vp_updV_set hl v j)⟩ e2 e3)
theorem zz_iald {a : Nat} {i : Int32} {F : Int32 → Option α} (S : CallFix p m c cc nL s args GW own) (K : zz_K D dA s) (Z : zz_B D dA A h n H0 H locs) (hv : (zl_I h a 1 i).bind F = some X) (hdg : decode cc pc = .ok (.iaload, 1))
    (kk : ∀ v : Int32, F v = some X → W p l e R s m args below meth c H locs cells slots Q (F0 m (pc + 1) ls (.int v :: rest))) : W p l e R s m args below meth c H locs cells slots Q (F0 m pc ls (.int i :: .ref a :: rest)) := by
  obtain ⟨v, h1, h2⟩ := zz_bd hv
  obtain ⟨N, f, h3, h4, rfl⟩ := zl_I_s h1
  exact va_iald (ws := [(a, zz_E dA (.inl (1, N, .inl f)))]) S.1 S.2.1 K.1 (Z.at h3) 0 1 rfl rfl h4 hdg (kk _ h2)
theorem zz_bald {a : Nat} {i : Int32} {F : Int32 → Option α} (S : CallFix p m c cc nL s args GW own) (K : zz_K D dA s) (Z : zz_B D dA A h n H0 H locs) (hv : (zl_I h a 0 i).bind F = some X) (hdg : decode cc pc = .ok (.baload, 1))
    (kk : ∀ v : Int32, F v = some X → W p l e R s m args below meth c H locs cells slots Q (F0 m (pc + 1) ls (.int v :: rest))) : W p l e R s m args below meth c H locs cells slots Q (F0 m pc ls (.int i :: .ref a :: rest)) := by
  obtain ⟨v, h1, h2⟩ := zz_bd hv
  obtain ⟨N, f, h3, h4, rfl⟩ := zl_I_s h1
  exact va_bald (ws := [(a, zz_E dA (.inl (0, N, .inl f)))]) S.1 S.2.1 K.1 (Z.at h3) 0 0 rfl rfl h4 hdg (kk _ h2)
theorem zz_zald {a : Nat} {i : Int32} {F : Int32 → Option α} (S : CallFix p m c cc nL s args GW own) (K : zz_K D dA s) (Z : zz_B D dA A h n H0 H locs) (hv : (zl_I h a 2 i).bind F = some X) (hdg : decode cc pc = .ok (.baload, 1))
    (kk : ∀ v : Int32, F v = some X → W p l e R s m args below meth c H locs cells slots Q (F0 m (pc + 1) ls (.int v :: rest))) : W p l e R s m args below meth c H locs cells slots Q (F0 m pc ls (.int i :: .ref a :: rest)) := by
  obtain ⟨v, h1, h2⟩ := zz_bd hv
  obtain ⟨N, f, h3, h4, rfl⟩ := zl_I_s h1
  exact va_zald (ws := [(a, zz_E dA (.inl (2, N, .inl f)))]) S.1 S.2.1 K.1 (Z.at h3) 0 2 rfl rfl h4 hdg (kk _ h2)
theorem zz_lald {a : Nat} {i : Int32} {F : Int64 → Option α} (S : CallFix p m c cc nL s args GW own) (K : zz_K D dA s) (Z : zz_B D dA A h n H0 H locs) (hv : (zl_J h a 3 i).bind F = some X) (hdg : decode cc pc = .ok (.laload, 1))
    (kk : ∀ v : Int64, F v = some X → W p l e R s m args below meth c H locs cells slots Q (F0 m (pc + 1) ls (.long v :: rest))) : W p l e R s m args below meth c H locs cells slots Q (F0 m pc ls (.int i :: .ref a :: rest)) := by
  obtain ⟨v, h1, h2⟩ := zz_bd hv
  obtain ⟨N, f, h3, h4, rfl⟩ := zl_J_s h1
  exact va_lald (ws := [(a, zz_E dA (.inl (3, N, .inr (.inl f))))]) S.1 S.2.1 K.1 (Z.at h3) 0 3 rfl rfl h4 hdg (kk _ h2)
theorem zz_aaldQ {a t : Nat} {C : String} {i : Int32} {F : Option Nat → Option α} (S : CallFix p m c cc nL s args GW own) (K : zz_K D dA s) (Z : zz_B D dA A h n H0 H locs) (hv : (zl_Q h a t i).bind F = some X) (ht : (zz_T dA)[t]? = some (dA t, .object C)) (hdg : decode cc pc = .ok (.aaload, 1))
    (kk : ∀ v : Option Nat, F v = some X → W p l e R s m args below meth c H locs cells slots Q (F0 m (pc + 1) ls (va_rf v :: rest))) : W p l e R s m args below meth c H locs cells slots Q (F0 m pc ls (.int i :: .ref a :: rest)) := by
  obtain ⟨v, h1, h2⟩ := zz_bd hv
  obtain ⟨N, f, h3, h4, rfl⟩ := zl_Q_s h1
  exact va_aldq (ws := [(a, zz_E dA (.inl (t, N, .inr (.inr (.inr (.inr f))))))]) S.1 S.2.1 K.1 (Z.at h3) 0 t rfl ht h4 hdg (kk _ h2)
theorem zz_aald {a t : Nat} {C : String} {i : Int32} {F : Nat → Option α} (S : CallFix p m c cc nL s args GW own) (K : zz_K D dA s) (Z : zz_B D dA A h n H0 H locs) (hv : (zl_R h a t i).bind F = some X) (ht : (zz_T dA)[t]? = some (dA t, .object C)) (hdg : decode cc pc = .ok (.aaload, 1))
    (kk : ∀ v : Nat, F v = some X → W p l e R s m args below meth c H locs cells slots Q (F0 m (pc + 1) ls (.ref v :: rest))) : W p l e R s m args below meth c H locs cells slots Q (F0 m pc ls (.int i :: .ref a :: rest)) := by
  obtain ⟨v, h1, h2⟩ := zz_bd hv
  obtain ⟨r, h5, h6⟩ := zz_bd h1
  subst h6
  obtain ⟨N, f, h3, h4, h7⟩ := zl_Q_s h5
  refine va_aldq (ws := [(a, zz_E dA (.inl (t, N, .inr (.inr (.inr (.inr f))))))]) S.1 S.2.1 K.1 (Z.at h3) 0 t rfl ht h4 hdg ?_
  rw [← h7]
  exact kk _ h2
theorem zz_alen {a t : Nat} {ty : FieldType} {F : Int32 → Option α} (S : CallFix p m c cc nL s args GW own) (K : zz_K D dA s) (Z : zz_B D dA A h n H0 H locs) (hv : (zl_N h a t).bind F = some X) (ht : (zz_T dA)[t]? = some (dA t, ty)) (hdg : decode cc pc = .ok (.arraylength, 1))
    (kk : ∀ v : Int32, F v = some X → W p l e R s m args below meth c H locs cells slots Q (F0 m (pc + 1) ls (.int v :: rest))) : W p l e R s m args below meth c H locs cells slots Q (F0 m pc ls (.ref a :: rest)) := by
  obtain ⟨v, h1, h2⟩ := zz_bd hv
  obtain ⟨x, h3, h4⟩ := zl_N_s h1
  exact va_alen (ws := [(a, zz_E dA (.inl (t, x)))]) S.1 S.2.1 K.1 (Z.at h3) 0 t rfl ht h4 hdg (kk _ h2)
theorem zz_iast {a : Nat} {i x : Int32} {F : ZH → Option α} (S : CallFix p m c cc nL s args GW own) (K : zz_K D dA s) (Z : zz_B D dA A h n H0 H locs) (hv : (zs_I h a 1 i x).bind F = some X) (hdg : decode cc pc = .ok (.iastore, 1))
    (kk : ∀ (h1 : ZH) (H1 : Heap) (locs1 : List Loc), F h1 = some X → zz_B D dA A h1 n H0 H1 locs1 → W p l e R s m args below meth c H1 locs1 cells slots Q (F0 m (pc + 1) ls rest)) : W p l e R s m args below meth c H locs cells slots Q (F0 m pc ls (.int x :: .int i :: .ref a :: rest)) := by
  obtain ⟨h1, g1, g2⟩ := zz_bd hv
  obtain ⟨N, f, g3, hin, rfl⟩ := zs_I_s g1
  refine W.iast S.1 S.2.1 (Z.1.1 _ _ g3) ((K.1.2 1 (dA 1, .int) rfl).1 N (fun j => .int (f j))) (fun q => by cases q) (by show ¬ (i < 0 ∨ (arrV _ _ _).slots.size ≤ _); rw [arrV_size]; exact hin) rfl rfl hdg fun H1 e z oq => ?_
  refine kk _ H1 _ g2 (Z.set g3 (c1 := .inl (1, N, .inl (va_up f i.toNatClampNeg x))) ?_ z oq)
  show H1[a]? = some (vp_cell _ _)
  rw [e]
  show some ((vp_cell _ (N, .inl f)).setSlot _ _) = _
  rw [vp_cell_i, vp_cell_i, arrV_store]
  congr 2
  funext q
  by_cases hq : q = i.toNatClampNeg
  · subst hq
    simp [updV, va_up]
  · simp [updV, va_up, hq]
theorem zz_bast {a : Nat} {i x : Int32} {F : ZH → Option α} (S : CallFix p m c cc nL s args GW own) (K : zz_K D dA s) (Z : zz_B D dA A h n H0 H locs) (hv : (zs_I h a 0 i (vp_nar .byte x)).bind F = some X) (hdg : decode cc pc = .ok (.bastore, 1))
    (kk : ∀ (h1 : ZH) (H1 : Heap) (locs1 : List Loc), F h1 = some X → zz_B D dA A h1 n H0 H1 locs1 → W p l e R s m args below meth c H1 locs1 cells slots Q (F0 m (pc + 1) ls rest)) : W p l e R s m args below meth c H locs cells slots Q (F0 m pc ls (.int x :: .int i :: .ref a :: rest)) := by
  obtain ⟨h1, g1, g2⟩ := zz_bd hv
  obtain ⟨N, f, g3, hin, rfl⟩ := zs_I_s g1
  refine W.bast S.1 S.2.1 (Z.1.1 _ _ g3) ((K.1.2 0 (dA 0, .byte) rfl).1 N (fun j => .int (f j))) (fun q => by cases q) (by show ¬ (i < 0 ∨ (arrV _ _ _).slots.size ≤ _); rw [arrV_size]; exact hin) rfl rfl hdg fun H1 e z oq => ?_
  refine kk _ H1 _ g2 (Z.set g3 (c1 := .inl (0, N, .inl (va_up f i.toNatClampNeg (vp_nar .byte x)))) ?_ z oq)
  show H1[a]? = some (vp_cell _ _)
  rw [e]
  show some ((vp_cell _ (N, .inl f)).setSlot _ _) = _
  rw [vp_cell_i, vp_cell_i, arrV_store]
  congr 2
  funext q
  by_cases hq : q = i.toNatClampNeg
  · subst hq
    simp [updV, va_up, vp_nar]
    try rfl
  · simp [updV, va_up, hq]
theorem zz_zast {a : Nat} {i x : Int32} {F : ZH → Option α} (S : CallFix p m c cc nL s args GW own) (K : zz_K D dA s) (Z : zz_B D dA A h n H0 H locs) (hv : (zs_I h a 2 i (vp_nar .boolean x)).bind F = some X) (hdg : decode cc pc = .ok (.bastore, 1))
    (kk : ∀ (h1 : ZH) (H1 : Heap) (locs1 : List Loc), F h1 = some X → zz_B D dA A h1 n H0 H1 locs1 → W p l e R s m args below meth c H1 locs1 cells slots Q (F0 m (pc + 1) ls rest)) : W p l e R s m args below meth c H locs cells slots Q (F0 m pc ls (.int x :: .int i :: .ref a :: rest)) := by
  obtain ⟨h1, g1, g2⟩ := zz_bd hv
  obtain ⟨N, f, g3, hin, rfl⟩ := zs_I_s g1
  refine W.zast S.1 S.2.1 (Z.1.1 _ _ g3) ((K.1.2 2 (dA 2, .boolean) rfl).1 N (fun j => .int (f j))) (fun q => by cases q) (by show ¬ (i < 0 ∨ (arrV _ _ _).slots.size ≤ _); rw [arrV_size]; exact hin) rfl rfl hdg fun H1 e z oq => ?_
  refine kk _ H1 _ g2 (Z.set g3 (c1 := .inl (2, N, .inl (va_up f i.toNatClampNeg (vp_nar .boolean x)))) ?_ z oq)
  show H1[a]? = some (vp_cell _ _)
  rw [e]
  show some ((vp_cell _ (N, .inl f)).setSlot _ _) = _
  rw [vp_cell_i, vp_cell_i, arrV_store]
  congr 2
  funext q
  by_cases hq : q = i.toNatClampNeg
  · subst hq
    simp [updV, va_up, vp_nar]
    try rfl
  · simp [updV, va_up, hq]
theorem zz_aast {a t v ci : Nat} {i : Int32} {C : String} {T : u_T} {N0 : Nat} {ty0 : Nat → FieldType} {F : ZH → Option α} (S : CallFix p m c cc nL s args GW own) (K : zz_K D dA s) (Z : zz_B D dA A h n H0 H locs) (hv : zz_isO h v ci ((zs_R h a t i v).bind F) = some X) (hC : zz_C ci C T N0 ty0) (ht : (zz_T dA)[t]? = some (dA t, .object C)) (hdg : decode cc pc = .ok (.aastore, 1))
    (kk : ∀ (h1 : ZH) (H1 : Heap) (locs1 : List Loc), F h1 = some X → zz_B D dA A h1 n H0 H1 locs1 → W p l e R s m args below meth c H1 locs1 cells slots Q (F0 m (pc + 1) ls rest)) : W p l e R s m args below meth c H locs cells slots Q (F0 m pc ls (.ref v :: .int i :: .ref a :: rest)) := by
  obtain ⟨⟨vs, hvs⟩, hv⟩ := zz_isO_s hv
  obtain ⟨h1, g1, g2⟩ := zz_bd hv
  obtain ⟨N, f, g3, hin, rfl⟩ := zs_R_s g1
  have hlt : i.toNatClampNeg < N := Nat.not_le.mp fun q => hin (Or.inr q)
  have h0 : ¬ i < 0 := fun q => hin (Or.inl q)
  have hK := K.1
  obtain ⟨r', hr', cellV, q1, q2, q3, -⟩ := Z.1.1 _ _ hvs
  have hcls := (hK.1 ci _ hC.1).2
  obtain ⟨kA, comp, k1, k2, k3, -⟩ := (hK.2 t _ ht).2
  have hcomp : comp = D.1 ci := Option.some.inj (k3.symm.trans hcls.1)
  subst hcomp
  obtain ⟨kC, hkC, -⟩ := hcls.2
  refine W.aast S.1 S.2.1 (Z.1.1 _ _ g3) (fun q h => by cases h) (fun h => by cases h) k1 k2 rfl hkC ⟨h0, by show _ < (arrV _ _ _).slots.size; rw [arrV_size]; exact hlt⟩ q1 (fun q h => by rw [q3] at h; cases h) (by rw [q2]; exact hkC) (by rw [q2]; exact va_assign hcls) rfl rfl hdg fun H1 e z oq => ?_
  refine kk _ H1 _ g2 (Z.set g3 (c1 := .inl (t, N, .inr (.inr (.inr (.inr (va_up f i.toNatClampNeg (some v))))))) ?_ z oq)
  show H1[a]? = some (vp_cell _ _)
  rw [e]
  show some ((vp_cell _ (N, .inr (.inr (.inr (.inr f))))).setSlot _ _) = _
  rw [vp_cell_q, vp_cell_q, arrV_store]
  congr 2
  funext q
  by_cases hq : q = i.toNatClampNeg
  · subst hq
    simp [updV, va_up, va_rf]
  · simp [updV, va_up, hq]
/-! ===== ends ===== -/
theorem zz_iret {v : Int32} {mc ms : Nat} (S : CallFix p m c cc nL s args GW own) (Z : zz_B D dA A h n s.heap H locs) (hr : meth.sig.returnType = some .int) (hlocks : meth.locks = false) (hdg : decode cc pc = .ok (.ireturn, 1)) (h1 : cells ≤ mc) (h2 : slots ≤ ms) :
    W p l e R s m args below meth c H locs cells slots (MQ below (zz_Q D dA A (some (.int v)) h n) args s mc ms A) (F0 m pc ls [.int v]) :=
  W.widen h1 h2 (W.iret S.1 S.2.1 hr (fun t ht hW => ⟨rfl, by rw [ht]; exact Z.1, Z.2.F ht⟩) Z.2.2.2 hdg hlocks)
theorem zz_zret {v : Int32} {mc ms : Nat} (S : CallFix p m c cc nL s args GW own) (Z : zz_B D dA A h n s.heap H locs) (hr : meth.sig.returnType = some .boolean) (hn : v = 0 ∨ v = 1) (hlocks : meth.locks = false) (hdg : decode cc pc = .ok (.ireturn, 1)) (h1 : cells ≤ mc) (h2 : slots ≤ ms) :
    W p l e R s m args below meth c H locs cells slots (MQ below (zz_Q D dA A (some (.int v)) h n) args s mc ms A) (F0 m pc ls [.int v]) :=
  W.widen h1 h2 (W.zret S.1 S.2.1 hr (by rcases hn with rfl | rfl <;> rfl) (fun t ht hW => ⟨rfl, by rw [ht]; exact Z.1, Z.2.F ht⟩) Z.2.2.2 hdg hlocks)
theorem zz_vret {mc ms : Nat} (S : CallFix p m c cc nL s args GW own) (Z : zz_B D dA A h n s.heap H locs) (hr : meth.sig.returnType = none) (hlocks : meth.locks = false) (hdg : decode cc pc = .ok (.return_, 1)) (h1 : cells ≤ mc) (h2 : slots ≤ ms) :
    W p l e R s m args below meth c H locs cells slots (MQ below (zz_Q D dA A none h n) args s mc ms A) (F0 m pc ls []) :=
  W.widen h1 h2 (W.vret S.1 S.2.1 hr (fun t ht hW => ⟨rfl, by rw [ht]; exact Z.1, Z.2.F ht⟩) Z.2.2.2 hdg hlocks)
theorem zz_aret {v : Value} {rt : FieldType} {mc ms : Nat} (S : CallFix p m c cc nL s args GW own) (Z : zz_B D dA A h n s.heap H locs) (hr : meth.sig.returnType = some rt) (hrt : (∃ n, rt = .object n) ∨ ∃ t, rt = .array t) (hv : v = .null ∨ ∃ a, v = .ref a) (hlocks : meth.locks = false) (hdg : decode cc pc = .ok (.areturn, 1)) (h1 : cells ≤ mc) (h2 : slots ≤ ms) :
    W p l e R s m args below meth c H locs cells slots (MQ below (zz_Q D dA A (some v) h n) args s mc ms A) (F0 m pc ls [v]) :=
  W.widen h1 h2 (W.aret S.1 S.2.1 hr hrt hv (fun t ht hW => ⟨rfl, by rw [ht]; exact Z.1, Z.2.F ht⟩) Z.2.2.2 hdg hlocks)
/-! ===== calls ===== -/
def zz_M (y : MethodName) (cc : ByteArray) (maxL : Nat) (ret : Option FieldType) (k : Nat) : Prop := Cond.code y cc maxL ret ∈ GW ∧ Cond.initialized y.cls ∈ GW ∧ y.cls ≠ "java/lang/invoke/MethodHandle" ∧ y.cls ≠ "java/lang/invoke/VarHandle" ∧ (parseMethodDescriptor y.desc).map (fun d => d.parameters.length) = some k
def zz_MV (y : MethodName) : Prop := Cond.instanceMethod y ∈ GW ∧ Cond.selects y.cls y y ∈ GW
theorem zz_gi {y : MethodName} {bc : ByteArray} {maxL k : Nat} {ret : Option FieldType} (hM : zz_M y bc maxL ret k) : GoodIn GW (zz_ws y bc maxL ret) := fun w hw => by
  rcases List.mem_cons.mp hw with h | h
  · subst h; exact GW_good _ hM.1
  · exact GW_good _ h
theorem zz_callB {y : MethodName} {bc : ByteArray} {maxL k index : Nat} {ret : Option FieldType} {rm : Room} (S : CallFix p m c cc nL s args GW own) (hM : zz_M y bc maxL ret k) (hl : Cond.methodLink own index y ∈ GW) (hR : rm.frames + 1 ≤ R.frames ∧ 8 + (maxL + 11) + rm.locals ≤ R.locals) : CallB R s args own index y bc maxL ret (zz_ws y bc maxL ret) rm rm.cells rm.slots k :=
  callB_of k S.2.2.2.2 (zz_gi hM) rfl rfl rfl (S.2.2.2.2 _ hM.2.1) (S.2.2.2.2 _ hl) hM.2.2 hR
theorem zz_go {a : Array Value} {st0 : List Value} {mc ms : Nat} {rv : Option Value} {h1 : ZH} {n1 : Nat} (Z : zz_B D dA A h n H0 H locs) (hr : va_Run p l e R s m args below meth c H locs cells slots mc ms (F0 m pc ls st0) rest (zz_Q D dA A rv h1 n1 a) A)
    (kk : ∀ (H1 : Heap) (locs1 : List Loc), zz_B D dA A h1 n1 H0 H1 locs1 → W p l e R s m args below meth c H1 locs1 (cells + mc) (slots + ms) Q (F0 m (pc + 3) ls (rv.toList ++ rest))) : W p l e R s m args below meth c H locs cells slots Q (F0 m pc ls st0) := by
  intro T hT X
  obtain ⟨v, st₀, t, T', L, h0, X', hL, e1, e2, ⟨hv, hH, hz, hk⟩, st⟩ := hr T hT X
  cases hv
  rw [h0] at hz hk
  obtain ⟨hB, hS⟩ := Z
  obtain ⟨t2, a1, b1⟩ := kk T'.heap (locs ++ L) ⟨by rw [e1]; exact hH, Nat.le_trans hS.1 (by rw [e1]; exact hz), fun q h1 h2 => by rw [e1, hk q (Nat.lt_of_lt_of_le h1 hS.1) h2]; exact hS.2.1 q h1 h2, fun q hq => by
      rcases List.mem_append.mp hq with h | h
      · exact hS.2.2 q h
      · exact hL q h⟩ T' rfl X'
  exact ⟨t2, st t2 a1, b1⟩
theorem zz_pre {As : List Value} (K : zz_K D dA s) (Z : zz_B D dA A h n H0 H locs) : PreS s H (zz_P D dA A h n As) As :=
  ⟨zz_P.blind, fun U hU hW => ⟨rfl, zz_K.warm hW K, by rw [hU]; exact Z.1⟩⟩
theorem zz_V {mc ms : Nat} {y : MethodName} {bc : ByteArray} {maxL k index b ci : Nat} {ret : Option FieldType} {rm : Room} {rv : Option Value} {h1 : ZH} {n1 : Nat} {C : String} {T : u_T} {N : Nat} {ty0 : Nat → FieldType} (As : List Value) (S : CallFix p m c cc nL s args GW own) (K : zz_K D dA s) (Z : zz_B D dA A h n H0 H locs) (hci : ∃ fs, h b = some (.inr (ci, fs))) (hC : zz_C ci C T N ty0) (hyC : y.cls = C) (hM : Met l y (zz_ws y bc maxL ret) rm (zz_P D dA A h n (.ref b :: As)) (zz_Q D dA A rv h1 n1) mc ms A) (hmc : rm.cells = mc ∧ rm.slots = ms) (hW : zz_M y bc maxL ret k) (hV : zz_MV y) (hl : Cond.methodLink own index y ∈ GW) (hR : rm.frames + 1 ≤ R.frames ∧ 8 + (maxL + 11) + rm.locals ≤ R.locals) (hn : As.length = k) (hsz : ls.size = nL) {st0 : List Value} (hst : st0 = As.reverse ++ .ref b :: rest) (hrest : (rest.map fun v => v.category).sum ≤ 8) (hdg : decode cc pc = .ok (.invokevirtual index, 3)) (hf : cells + mc ≤ R.cells ∧ slots + ms ≤ R.slots)
    (kk : ∀ (H1 : Heap) (locs1 : List Loc), zz_B D dA A h1 n1 H0 H1 locs1 → W p l e R s m args below meth c H1 locs1 (cells + mc) (slots + ms) Q (F0 m (pc + 3) ls (rv.toList ++ rest))) : W p l e R s m args below meth c H locs cells slots Q (F0 m pc ls st0) := by
  obtain ⟨fs, hfs⟩ := hci
  obtain ⟨rfl, rfl⟩ := hmc
  subst hst
  subst hyC
  exact zz_go Z (va_runV S hM ⟨zz_callB S hW hl hR, S.2.2.2.2 _ hV.1, S.2.2.2.2 _ hV.2⟩ ⟨zz_P.blind, va_recv (q0 := 0) K.1 (Z.at hfs) hC.1 rfl, (zz_pre K Z).2⟩ rfl hn hsz rfl (lv_room hrest) hdg hf) kk
theorem zz_S {mc ms : Nat} {y : MethodName} {bc : ByteArray} {maxL k index : Nat} {ret : Option FieldType} {rm : Room} {rv : Option Value} {h1 : ZH} {n1 : Nat} (As : List Value) (S : CallFix p m c cc nL s args GW own) (K : zz_K D dA s) (Z : zz_B D dA A h n H0 H locs) (hM : Met l y (zz_ws y bc maxL ret) rm (zz_P D dA A h n As) (zz_Q D dA A rv h1 n1) mc ms A) (hmc : rm.cells = mc ∧ rm.slots = ms) (hW : zz_M y bc maxL ret k) (hV : Cond.static y ∈ GW) (hl : Cond.methodLink own index y ∈ GW) (hR : rm.frames + 1 ≤ R.frames ∧ 8 + (maxL + 11) + rm.locals ≤ R.locals) (hn : As.length = k) (hsz : ls.size = nL) {st0 : List Value} (hst : st0 = As.reverse ++ rest) (hrest : (rest.map fun v => v.category).sum ≤ 8) (hdg : decode cc pc = .ok (.invokestatic index, 3)) (hf : cells + mc ≤ R.cells ∧ slots + ms ≤ R.slots)
    (kk : ∀ (H1 : Heap) (locs1 : List Loc), zz_B D dA A h1 n1 H0 H1 locs1 → W p l e R s m args below meth c H1 locs1 (cells + mc) (slots + ms) Q (F0 m (pc + 3) ls (rv.toList ++ rest))) : W p l e R s m args below meth c H locs cells slots Q (F0 m pc ls st0) := by
  obtain ⟨rfl, rfl⟩ := hmc
  subst hst
  exact zz_go Z (va_runS S hM ⟨zz_callB S hW hl hR, S.2.2.2.2 _ hV⟩ (zz_pre K Z) rfl hn hsz rfl (lv_room hrest) hdg hf) kk
theorem zz_I {mc ms : Nat} {y : MethodName} {bc : ByteArray} {maxL k index b : Nat} {rm : Room} {rv : Option Value} {h1 : ZH} {n1 : Nat} (As : List Value) (S : CallFix p m c cc nL s args GW own) (K : zz_K D dA s) (Z : zz_B D dA A h n H0 H locs) (hM : Met l y (zz_ws y bc maxL none) rm (zz_P D dA A h n (.ref b :: As)) (zz_Q D dA A rv h1 n1) mc ms A) (hmc : rm.cells = mc ∧ rm.slots = ms) (hW : zz_M y bc maxL none k) (hV : Cond.instanceMethod y ∈ GW) (hy : y.name = "<init>") (hl : Cond.methodLink own index y ∈ GW) (hR : rm.frames + 1 ≤ R.frames ∧ 8 + (maxL + 11) + rm.locals ≤ R.locals) (hn : As.length = k) (hsz : ls.size = nL) {st0 : List Value} (hst : st0 = As.reverse ++ .ref b :: rest) (hrest : (rest.map fun v => v.category).sum ≤ 8) (hdg : decode cc pc = .ok (.invokespecial index, 3)) (hf : cells + mc ≤ R.cells ∧ slots + ms ≤ R.slots)
    (kk : ∀ (H1 : Heap) (locs1 : List Loc), zz_B D dA A h1 n1 H0 H1 locs1 → W p l e R s m args below meth c H1 locs1 (cells + mc) (slots + ms) Q (F0 m (pc + 3) ls (rv.toList ++ rest))) : W p l e R s m args below meth c H locs cells slots Q (F0 m pc ls st0) := by
  obtain ⟨rfl, rfl⟩ := hmc
  subst hst
  exact zz_go Z (va_runI S hM ⟨zz_callB S hW hl hR, hy, S.2.2.2.2 _ hV⟩ (zz_pre K Z) rfl hn hsz rfl (lv_room hrest) hdg hf) kk
theorem zz_IN {mc ms : Nat} {y : MethodName} {bc : ByteArray} {maxL k index b : Nat} {host : String} {rm : Room} {rv : Option Value} {h1 : ZH} {n1 : Nat} (As : List Value) (S : CallFix p m c cc nL s args GW own) (K : zz_K D dA s) (Z : zz_B D dA A h n H0 H locs) (hM : Met l y (zz_ws y bc maxL none) rm (zz_P D dA A h n (.ref b :: As)) (zz_Q D dA A rv h1 n1) mc ms A) (hmc : rm.cells = mc ∧ rm.slots = ms) (hW : zz_M y bc maxL none k) (hV : Cond.instanceMethod y ∈ GW) (hy : y.name = "<init>") (hl : Cond.methodLinkNest own index y host ∈ zz_NW) (hR : rm.frames + 1 ≤ R.frames ∧ 8 + (maxL + 11) + rm.locals ≤ R.locals) (hn : As.length = k) (hsz : ls.size = nL) {st0 : List Value} (hst : st0 = As.reverse ++ .ref b :: rest) (hrest : (rest.map fun v => v.category).sum ≤ 8) (hdg : decode cc pc = .ok (.invokespecial index, 3)) (hf : cells + mc ≤ R.cells ∧ slots + ms ≤ R.slots)
    (kk : ∀ (H1 : Heap) (locs1 : List Loc), zz_B D dA A h1 n1 H0 H1 locs1 → W p l e R s m args below meth c H1 locs1 (cells + mc) (slots + ms) Q (F0 m (pc + 3) ls (rv.toList ++ rest))) : W p l e R s m args below meth c H locs cells slots Q (F0 m pc ls st0) := by
  obtain ⟨rfl, rfl⟩ := hmc
  subst hst
  exact zz_go Z (va_runIN S hM ⟨va_cnB k S.2.2.2.2 (zz_gi hW) rfl rfl rfl (K.2.1 _ hl) (S.2.2.2.2 _ hW.2.1) hW.2.2 hR, hy, S.2.2.2.2 _ hV⟩ (zz_pre K Z) rfl hn hsz rfl (lv_room hrest) hdg hf) kk
/-! ===== making ===== -/
theorem zz_new {F : ZH → Option α} {ci index : Nat} {C : String} {T : u_T} {N : Nat} {ty0 : Nat → FieldType} {fs : List Value} (S : CallFix p m c cc nL s args GW own) (K : zz_K D dA s) (Z : zz_B D dA A h n H0 H locs) (hv : zz_let (va_up h n (some (.inr (ci, fs)))) F = some X) (hC : zz_C ci C T N ty0) (hcl : Cond.classLink own index C ∈ GW) (hinst : Cond.instantiable C N ∈ GW) (hini : Cond.initialized C ∈ GW) (hfs : ∀ j, j < N → defaultValue (ty0 j) = vp_V fs j) (hcells : cells + 1 ≤ R.cells) (hslots : slots + N ≤ R.slots) (hdg : decode cc pc = .ok (.new index, 3))
    (kk : ∀ (h1 : ZH) (H1 : Heap), F h1 = some X → zz_B D dA A h1 (n + 1) H0 H1 locs → W p l e R s m args below meth c H1 locs (cells + 1) (slots + N) Q (F0 m (pc + 3) ls (.ref n :: rest))) : W p l e R s m args below meth c H locs cells slots Q (F0 m pc ls rest) := by
  obtain ⟨hx, hb, -, hown, hts⟩ := S
  obtain ⟨hc, hin, hty, hnm⟩ := hC
  have hKn := K.1.1 ci _ hc
  refine W.newcK hx hb hown (hts _ hcl) (hts _ hinst) (hts _ hini) rfl hdg hcells hslots hKn.2.1 Z.1.2.1 fun H1 kC hkC e1 z1 o1 => ?_
  exact kk _ H1 hv (Z.push (c1 := .inr (ci, fs)) ⟨_, hc, (u_born ty0 hts hin hKn hkC e1 hty).to hfs⟩ z1 o1)
theorem zz_newa {F : ZH → Option α} {t : Nat} {atype : ArrayType} {z : Int32} {a0 : Nat → vp_A} (S : CallFix p m c cc nL s args GW own) (K : zz_K D dA s) (Z : zz_B D dA A h n H0 H locs) (hv : zz_let (va_up h n (some (.inl (t, a0 z.toNatClampNeg)))) F = some X) (harr : Cond.arrayClass (newarray.typeOf atype) ∈ GW) (ht : (zz_T dA)[t]? = some (dA t, newarray.typeOf atype)) (hra : va_RA s (dA t) (newarray.typeOf atype) → s.vm.findClass ("[" ++ (newarray.typeOf atype).toString) = some (dA t)) (ha : ∀ (cA : ClassId) (N : Nat), vp_cell cA (a0 N) = arrV cA N (fun _ => defaultValue (newarray.typeOf atype))) (hn : ¬ z < 0) (hbytes : z.toNatClampNeg * componentBytes (newarray.typeOf atype) ≤ 536870912) (hcells : cells + 1 ≤ R.cells) (hslots : slots + z.toNatClampNeg ≤ R.slots) (hdg : decode cc pc = .ok (.newarray atype, 2))
    (kk : ∀ (h1 : ZH) (H1 : Heap), F h1 = some X → zz_B D dA A h1 (n + 1) H0 H1 locs → W p l e R s m args below meth c H1 locs (cells + 1) (slots + z.toNatClampNeg) Q (F0 m (pc + 2) ls (.ref n :: rest))) : W p l e R s m args below meth c H locs cells slots Q (F0 m pc ls (.int z :: rest)) := by
  refine va_newaK S.1 S.2.1 (S.2.2.2.2 _ harr) rfl hdg rfl hn rfl hbytes hcells hslots Z.1.2.1 fun H1 cA e1 z1 o1 hAr hNm => ?_
  have hcA : cA = dA t := Option.some.inj (hNm.symm.trans (hra (K.1.2 t _ ht).2))
  subst hcA
  refine kk _ H1 hv (Z.push (c1 := .inl (t, a0 z.toNatClampNeg)) ?_ z1 o1)
  show H1[n]? = some (vp_cell _ _)
  rw [ha]
  exact e1
theorem zz_newq {F : ZH → Option α} {t index : Nat} {C : String} {z : Int32} (S : CallFix p m c cc nL s args GW own) (K : zz_K D dA s) (Z : zz_B D dA A h n H0 H locs) (hv : zz_let (va_up h n (some (.inl (t, z.toNatClampNeg, .inr (.inr (.inr (.inr (fun _ => none)))))))) F = some X) (hcl : Cond.classLink own index C ∈ GW) (hover : va_AO C s) (ht : (zz_T dA)[t]? = some (dA t, .object C)) (hn : ¬ z < 0) (hbytes : z.toNatClampNeg * 4 ≤ 536870912) (hcells : cells + 1 ≤ R.cells) (hslots : slots + z.toNatClampNeg ≤ R.slots) (hdg : decode cc pc = .ok (.anewarray index, 3))
    (kk : ∀ (h1 : ZH) (H1 : Heap), F h1 = some X → zz_B D dA A h1 (n + 1) H0 H1 locs → W p l e R s m args below meth c H1 locs (cells + 1) (slots + z.toNatClampNeg) Q (F0 m (pc + 3) ls (.ref n :: rest))) : W p l e R s m args below meth c H locs cells slots Q (F0 m pc ls (.int z :: rest)) := by
  refine W.anew S.1 S.2.1 S.2.2.2.1 (S.2.2.2.2 _ hcl) (va_AO.use hover) rfl hdg rfl hn hbytes hcells hslots fun cA kA comp f1 f2 f3 f4 => ?_
  obtain ⟨kA', comp', k1, k2, k3, k4⟩ := (K.1.2 t _ ht).2
  have hcA : cA = dA t := Option.some.inj (f1.symm.trans k4)
  subst hcA
  have hz := Z.1.2.1
  generalize hH1 : H.push ({ cls := dA t, slots := Array.replicate z.toNatClampNeg .null, vm := .none } : Cell) = H1
  have z1 : H1.size = H.size + 1 := by rw [← hH1, Array.size_push]
  have e1 : H1[H.size]? = some (arrV (dA t) z.toNatClampNeg (fun _ => .null)) := by rw [← hH1, Array.getElem?_push_size, ← arrV_new]
  have o1 : ∀ q : Nat, q < H.size → H1[q]? = H[q]? := fun q hq => by rw [← hH1, Array.getElem?_push, if_neg (Nat.ne_of_lt hq)]
  subst hz
  refine kk _ H1 hv (Z.push (c1 := .inl (t, z.toNatClampNeg, .inr (.inr (.inr (.inr (fun _ => none)))))) ?_ z1 o1)
  show H1[H.size]? = some (vp_cell _ _)
  rw [vp_cell_q]
  exact e1
end ZZR
/-! ===== switches ===== -/
theorem zz_sw_out {x : Int32} {lo hi : Int} (h : ∀ k : Int, lo ≤ k → k ≤ hi → ¬ x = Int32.ofInt k) : x.toInt < lo ∨ hi < x.toInt := by
  by_cases h1 : x.toInt < lo
  · exact Or.inl h1
  · by_cases h2 : hi < x.toInt
    · exact Or.inr h2
    · exact absurd (Int32.ofInt_toInt x).symm (h x.toInt (by omega) (by omega))
end
section
theorem zcw_0 : ∀ w ∈ u_ws RX0 TX0 2, w ∈ GW := by
  intro w hw
  obtain ⟨k, hk, rfl⟩ := List.mem_map.mp hw
  have hk := List.mem_range.mp hk
  match k, hk with
  | 0, _ => exact zz_in 80 (by decide +kernel) (by decide +kernel)
  | 1, _ => exact zz_in 82 (by decide +kernel) (by decide +kernel)
  | j + 2, hj => exact absurd hj (by omega)
theorem zc_0 : zz_C 0 RX0 TX0 2 tyX0 := ⟨rfl, zcw_0, tyX0_ok, nmX0⟩
theorem zd_0 : ∀ j, j < 2 → defaultValue (tyX0 j) = vp_V [.null, .int 0] j := by
  intro j hj
  match j, hj with
  | 0, _ => rfl
  | 1, _ => rfl
  | j + 2, hj => exact absurd hj (by omega)
theorem zcw_1 : ∀ w ∈ u_ws RX1 TX1 4, w ∈ GW := by
  intro w hw
  obtain ⟨k, hk, rfl⟩ := List.mem_map.mp hw
  have hk := List.mem_range.mp hk
  match k, hk with
  | 0, _ => exact zz_in 105 (by decide +kernel) (by decide +kernel)
  | 1, _ => exact zz_in 107 (by decide +kernel) (by decide +kernel)
  | 2, _ => exact zz_in 109 (by decide +kernel) (by decide +kernel)
  | 3, _ => exact zz_in 111 (by decide +kernel) (by decide +kernel)
  | j + 4, hj => exact absurd hj (by omega)
theorem zc_1 : zz_C 1 RX1 TX1 4 tyX1 := ⟨rfl, zcw_1, tyX1_ok, nmX1⟩
theorem zd_1 : ∀ j, j < 4 → defaultValue (tyX1 j) = vp_V [.int 0, .null, .null, .int 0] j := by
  intro j hj
  match j, hj with
  | 0, _ => rfl
  | 1, _ => rfl
  | 2, _ => rfl
  | 3, _ => rfl
  | j + 4, hj => exact absurd hj (by omega)
theorem zcw_2 : ∀ w ∈ u_ws RX3 TX3 3, w ∈ GW := by
  intro w hw
  obtain ⟨k, hk, rfl⟩ := List.mem_map.mp hw
  have hk := List.mem_range.mp hk
  match k, hk with
  | 0, _ => exact zz_in 169 (by decide +kernel) (by decide +kernel)
  | 1, _ => exact zz_in 171 (by decide +kernel) (by decide +kernel)
  | 2, _ => exact zz_in 173 (by decide +kernel) (by decide +kernel)
  | j + 3, hj => exact absurd hj (by omega)
theorem zc_2 : zz_C 2 RX3 TX3 3 tyX3 := ⟨rfl, zcw_2, tyX3_ok, nmX3⟩
theorem zd_2 : ∀ j, j < 3 → defaultValue (tyX3 j) = vp_V [.null, .int 0, .int 0] j := by
  intro j hj
  match j, hj with
  | 0, _ => rfl
  | 1, _ => rfl
  | 2, _ => rfl
  | j + 3, hj => exact absurd hj (by omega)
theorem zcw_3 : ∀ w ∈ u_ws RX4 TX4 5, w ∈ GW := by
  intro w hw
  obtain ⟨k, hk, rfl⟩ := List.mem_map.mp hw
  have hk := List.mem_range.mp hk
  match k, hk with
  | 0, _ => exact zz_in 237 (by decide +kernel) (by decide +kernel)
  | 1, _ => exact zz_in 239 (by decide +kernel) (by decide +kernel)
  | 2, _ => exact zz_in 241 (by decide +kernel) (by decide +kernel)
  | 3, _ => exact zz_in 243 (by decide +kernel) (by decide +kernel)
  | 4, _ => exact zz_in 245 (by decide +kernel) (by decide +kernel)
  | j + 5, hj => exact absurd hj (by omega)
theorem zc_3 : zz_C 3 RX4 TX4 5 tyX4 := ⟨rfl, zcw_3, tyX4_ok, nmX4⟩
theorem zd_3 : ∀ j, j < 5 → defaultValue (tyX4 j) = vp_V [.null, .int 0, .int 0, .int 0, .int 0] j := by
  intro j hj
  match j, hj with
  | 0, _ => rfl
  | 1, _ => rfl
  | 2, _ => rfl
  | 3, _ => rfl
  | 4, _ => rfl
  | j + 5, hj => exact absurd hj (by omega)
theorem zcw_4 : ∀ w ∈ u_ws RX6 TX6 9, w ∈ GW := by
  intro w hw
  obtain ⟨k, hk, rfl⟩ := List.mem_map.mp hw
  have hk := List.mem_range.mp hk
  match k, hk with
  | 0, _ => exact zz_in 142 (by decide +kernel) (by decide +kernel)
  | 1, _ => exact zz_in 144 (by decide +kernel) (by decide +kernel)
  | 2, _ => exact zz_in 146 (by decide +kernel) (by decide +kernel)
  | 3, _ => exact zz_in 148 (by decide +kernel) (by decide +kernel)
  | 4, _ => exact zz_in 150 (by decide +kernel) (by decide +kernel)
  | 5, _ => exact zz_in 152 (by decide +kernel) (by decide +kernel)
  | 6, _ => exact zz_in 154 (by decide +kernel) (by decide +kernel)
  | 7, _ => exact zz_in 156 (by decide +kernel) (by decide +kernel)
  | 8, _ => exact zz_in 158 (by decide +kernel) (by decide +kernel)
  | j + 9, hj => exact absurd hj (by omega)
theorem zc_4 : zz_C 4 RX6 TX6 9 tyX6 := ⟨rfl, zcw_4, tyX6_ok, nmX6⟩
theorem zd_4 : ∀ j, j < 9 → defaultValue (tyX6 j) = vp_V [.int 0, .int 0, .int 0, .int 0, .int 0, .int 0, .int 0, .int 0, .int 0] j := by
  intro j hj
  match j, hj with
  | 0, _ => rfl
  | 1, _ => rfl
  | 2, _ => rfl
  | 3, _ => rfl
  | 4, _ => rfl
  | 5, _ => rfl
  | 6, _ => rfl
  | 7, _ => rfl
  | 8, _ => rfl
  | j + 9, hj => exact absurd hj (by omega)
theorem zcw_5 : ∀ w ∈ u_ws RX7 TX7 8, w ∈ GW := by
  intro w hw
  obtain ⟨k, hk, rfl⟩ := List.mem_map.mp hw
  have hk := List.mem_range.mp hk
  match k, hk with
  | 0, _ => exact zz_in 294 (by decide +kernel) (by decide +kernel)
  | 1, _ => exact zz_in 296 (by decide +kernel) (by decide +kernel)
  | 2, _ => exact zz_in 298 (by decide +kernel) (by decide +kernel)
  | 3, _ => exact zz_in 300 (by decide +kernel) (by decide +kernel)
  | 4, _ => exact zz_in 302 (by decide +kernel) (by decide +kernel)
  | 5, _ => exact zz_in 304 (by decide +kernel) (by decide +kernel)
  | 6, _ => exact zz_in 306 (by decide +kernel) (by decide +kernel)
  | 7, _ => exact zz_in 308 (by decide +kernel) (by decide +kernel)
  | j + 8, hj => exact absurd hj (by omega)
theorem zc_5 : zz_C 5 RX7 TX7 8 tyX7 := ⟨rfl, zcw_5, tyX7_ok, nmX7⟩
theorem zd_5 : ∀ j, j < 8 → defaultValue (tyX7 j) = vp_V [.null, .null, .null, .null, .null, .null, .int 0, .int 0] j := by
  intro j hj
  match j, hj with
  | 0, _ => rfl
  | 1, _ => rfl
  | 2, _ => rfl
  | 3, _ => rfl
  | 4, _ => rfl
  | 5, _ => rfl
  | 6, _ => rfl
  | 7, _ => rfl
  | j + 8, hj => exact absurd hj (by omega)
theorem zcw_6 : ∀ w ∈ u_ws RX8 TX8 6, w ∈ GW := by
  intro w hw
  obtain ⟨k, hk, rfl⟩ := List.mem_map.mp hw
  have hk := List.mem_range.mp hk
  match k, hk with
  | 0, _ => exact zz_in 261 (by decide +kernel) (by decide +kernel)
  | 1, _ => exact zz_in 263 (by decide +kernel) (by decide +kernel)
  | 2, _ => exact zz_in 265 (by decide +kernel) (by decide +kernel)
  | 3, _ => exact zz_in 267 (by decide +kernel) (by decide +kernel)
  | 4, _ => exact zz_in 269 (by decide +kernel) (by decide +kernel)
  | 5, _ => exact zz_in 271 (by decide +kernel) (by decide +kernel)
  | j + 6, hj => exact absurd hj (by omega)
theorem zc_6 : zz_C 6 RX8 TX8 6 tyX8 := ⟨rfl, zcw_6, tyX8_ok, nmX8⟩
theorem zd_6 : ∀ j, j < 6 → defaultValue (tyX8 j) = vp_V [.null, .null, .null, .null, .int 0, .int 0] j := by
  intro j hj
  match j, hj with
  | 0, _ => rfl
  | 1, _ => rfl
  | 2, _ => rfl
  | 3, _ => rfl
  | 4, _ => rfl
  | 5, _ => rfl
  | j + 6, hj => exact absurd hj (by omega)
theorem zcw_7 : ∀ w ∈ u_ws RX9 TX9 6, w ∈ GW := by
  intro w hw
  obtain ⟨k, hk, rfl⟩ := List.mem_map.mp hw
  have hk := List.mem_range.mp hk
  match k, hk with
  | 0, _ => exact zz_in 329 (by decide +kernel) (by decide +kernel)
  | 1, _ => exact zz_in 331 (by decide +kernel) (by decide +kernel)
  | 2, _ => exact zz_in 333 (by decide +kernel) (by decide +kernel)
  | 3, _ => exact zz_in 335 (by decide +kernel) (by decide +kernel)
  | 4, _ => exact zz_in 337 (by decide +kernel) (by decide +kernel)
  | 5, _ => exact zz_in 339 (by decide +kernel) (by decide +kernel)
  | j + 6, hj => exact absurd hj (by omega)
theorem zc_7 : zz_C 7 RX9 TX9 6 tyX9 := ⟨rfl, zcw_7, tyX9_ok, nmX9⟩
theorem zd_7 : ∀ j, j < 6 → defaultValue (tyX9 j) = vp_V [.null, .null, .null, .null, .int 0, .int 0] j := by
  intro j hj
  match j, hj with
  | 0, _ => rfl
  | 1, _ => rfl
  | 2, _ => rfl
  | 3, _ => rfl
  | 4, _ => rfl
  | 5, _ => rfl
  | j + 6, hj => exact absurd hj (by omega)
theorem zcw_8 : ∀ w ∈ u_ws RX10 TX10 6, w ∈ GW := by
  intro w hw
  obtain ⟨k, hk, rfl⟩ := List.mem_map.mp hw
  have hk := List.mem_range.mp hk
  match k, hk with
  | 0, _ => exact zz_in 191 (by decide +kernel) (by decide +kernel)
  | 1, _ => exact zz_in 193 (by decide +kernel) (by decide +kernel)
  | 2, _ => exact zz_in 195 (by decide +kernel) (by decide +kernel)
  | 3, _ => exact zz_in 197 (by decide +kernel) (by decide +kernel)
  | 4, _ => exact zz_in 199 (by decide +kernel) (by decide +kernel)
  | 5, _ => exact zz_in 201 (by decide +kernel) (by decide +kernel)
  | j + 6, hj => exact absurd hj (by omega)
theorem zc_8 : zz_C 8 RX10 TX10 6 tyX10 := ⟨rfl, zcw_8, tyX10_ok, nmX10⟩
theorem zd_8 : ∀ j, j < 6 → defaultValue (tyX10 j) = vp_V [.null, .null, .null, .null, .int 0, .int 0] j := by
  intro j hj
  match j, hj with
  | 0, _ => rfl
  | 1, _ => rfl
  | 2, _ => rfl
  | 3, _ => rfl
  | 4, _ => rfl
  | 5, _ => rfl
  | j + 6, hj => exact absurd hj (by omega)
theorem zcw_9 : ∀ w ∈ u_ws RX11 TX11 7, w ∈ GW := by
  intro w hw
  obtain ⟨k, hk, rfl⟩ := List.mem_map.mp hw
  have hk := List.mem_range.mp hk
  match k, hk with
  | 0, _ => exact zz_in 349 (by decide +kernel) (by decide +kernel)
  | 1, _ => exact zz_in 351 (by decide +kernel) (by decide +kernel)
  | 2, _ => exact zz_in 353 (by decide +kernel) (by decide +kernel)
  | 3, _ => exact zz_in 355 (by decide +kernel) (by decide +kernel)
  | 4, _ => exact zz_in 357 (by decide +kernel) (by decide +kernel)
  | 5, _ => exact zz_in 359 (by decide +kernel) (by decide +kernel)
  | 6, _ => exact zz_in 361 (by decide +kernel) (by decide +kernel)
  | j + 7, hj => exact absurd hj (by omega)
theorem zc_9 : zz_C 9 RX11 TX11 7 tyX11 := ⟨rfl, zcw_9, tyX11_ok, nmX11⟩
theorem zd_9 : ∀ j, j < 7 → defaultValue (tyX11 j) = vp_V [.null, .null, .null, .null, .null, .null, .int 0] j := by
  intro j hj
  match j, hj with
  | 0, _ => rfl
  | 1, _ => rfl
  | 2, _ => rfl
  | 3, _ => rfl
  | 4, _ => rfl
  | 5, _ => rfl
  | 6, _ => rfl
  | j + 7, hj => exact absurd hj (by omega)
theorem zcw_10 : ∀ w ∈ u_ws RX12 TX12 40, w ∈ GW := by
  intro w hw
  obtain ⟨k, hk, rfl⟩ := List.mem_map.mp hw
  have hk := List.mem_range.mp hk
  match k, hk with
  | 0, _ => exact zz_in 878 (by decide +kernel) (by decide +kernel)
  | 1, _ => exact zz_in 880 (by decide +kernel) (by decide +kernel)
  | 2, _ => exact zz_in 882 (by decide +kernel) (by decide +kernel)
  | 3, _ => exact zz_in 884 (by decide +kernel) (by decide +kernel)
  | 4, _ => exact zz_in 886 (by decide +kernel) (by decide +kernel)
  | 5, _ => exact zz_in 888 (by decide +kernel) (by decide +kernel)
  | 6, _ => exact zz_in 890 (by decide +kernel) (by decide +kernel)
  | 7, _ => exact zz_in 892 (by decide +kernel) (by decide +kernel)
  | 8, _ => exact zz_in 894 (by decide +kernel) (by decide +kernel)
  | 9, _ => exact zz_in 896 (by decide +kernel) (by decide +kernel)
  | 10, _ => exact zz_in 898 (by decide +kernel) (by decide +kernel)
  | 11, _ => exact zz_in 900 (by decide +kernel) (by decide +kernel)
  | 12, _ => exact zz_in 902 (by decide +kernel) (by decide +kernel)
  | 13, _ => exact zz_in 904 (by decide +kernel) (by decide +kernel)
  | 14, _ => exact zz_in 906 (by decide +kernel) (by decide +kernel)
  | 15, _ => exact zz_in 908 (by decide +kernel) (by decide +kernel)
  | 16, _ => exact zz_in 910 (by decide +kernel) (by decide +kernel)
  | 17, _ => exact zz_in 912 (by decide +kernel) (by decide +kernel)
  | 18, _ => exact zz_in 914 (by decide +kernel) (by decide +kernel)
  | 19, _ => exact zz_in 916 (by decide +kernel) (by decide +kernel)
  | 20, _ => exact zz_in 918 (by decide +kernel) (by decide +kernel)
  | 21, _ => exact zz_in 920 (by decide +kernel) (by decide +kernel)
  | 22, _ => exact zz_in 922 (by decide +kernel) (by decide +kernel)
  | 23, _ => exact zz_in 924 (by decide +kernel) (by decide +kernel)
  | 24, _ => exact zz_in 926 (by decide +kernel) (by decide +kernel)
  | 25, _ => exact zz_in 928 (by decide +kernel) (by decide +kernel)
  | 26, _ => exact zz_in 930 (by decide +kernel) (by decide +kernel)
  | 27, _ => exact zz_in 932 (by decide +kernel) (by decide +kernel)
  | 28, _ => exact zz_in 934 (by decide +kernel) (by decide +kernel)
  | 29, _ => exact zz_in 936 (by decide +kernel) (by decide +kernel)
  | 30, _ => exact zz_in 938 (by decide +kernel) (by decide +kernel)
  | 31, _ => exact zz_in 940 (by decide +kernel) (by decide +kernel)
  | 32, _ => exact zz_in 942 (by decide +kernel) (by decide +kernel)
  | 33, _ => exact zz_in 944 (by decide +kernel) (by decide +kernel)
  | 34, _ => exact zz_in 946 (by decide +kernel) (by decide +kernel)
  | 35, _ => exact zz_in 948 (by decide +kernel) (by decide +kernel)
  | 36, _ => exact zz_in 950 (by decide +kernel) (by decide +kernel)
  | 37, _ => exact zz_in 952 (by decide +kernel) (by decide +kernel)
  | 38, _ => exact zz_in 954 (by decide +kernel) (by decide +kernel)
  | 39, _ => exact zz_in 956 (by decide +kernel) (by decide +kernel)
  | j + 40, hj => exact absurd hj (by omega)
theorem zc_10 : zz_C 10 RX12 TX12 40 tyX12 := ⟨rfl, zcw_10, tyX12_ok, nmX12⟩
theorem zd_10 : ∀ j, j < 40 → defaultValue (tyX12 j) = vp_V [.int 0, .null, .int 0, .int 0, .int 0, .null, .null, .int 0, .null, .null, .int 0, .null, .null, .null, .null, .null, .null, .null, .null, .null, .null, .null, .null, .null, .null, .int 0, .int 0, .int 0, .null, .null, .int 0, .null, .null, .null, .null, .int 0, .int 0, .int 0, .null, .int 0] j := by
  intro j hj
  match j, hj with
  | 0, _ => rfl
  | 1, _ => rfl
  | 2, _ => rfl
  | 3, _ => rfl
  | 4, _ => rfl
  | 5, _ => rfl
  | 6, _ => rfl
  | 7, _ => rfl
  | 8, _ => rfl
  | 9, _ => rfl
  | 10, _ => rfl
  | 11, _ => rfl
  | 12, _ => rfl
  | 13, _ => rfl
  | 14, _ => rfl
  | 15, _ => rfl
  | 16, _ => rfl
  | 17, _ => rfl
  | 18, _ => rfl
  | 19, _ => rfl
  | 20, _ => rfl
  | 21, _ => rfl
  | 22, _ => rfl
  | 23, _ => rfl
  | 24, _ => rfl
  | 25, _ => rfl
  | 26, _ => rfl
  | 27, _ => rfl
  | 28, _ => rfl
  | 29, _ => rfl
  | 30, _ => rfl
  | 31, _ => rfl
  | 32, _ => rfl
  | 33, _ => rfl
  | 34, _ => rfl
  | 35, _ => rfl
  | 36, _ => rfl
  | 37, _ => rfl
  | 38, _ => rfl
  | 39, _ => rfl
  | j + 40, hj => exact absurd hj (by omega)
theorem gl_X0_3 : Cond.methodLink RX0 3 Lib.objectInit ∈ GW := zz_in 73 (by decide +kernel) (by decide +kernel)
theorem gi_obj : Cond.instanceMethod Lib.objectInit ∈ GW := zz_in 66 (by decide +kernel) (by decide +kernel)
theorem gc_obj : Cond.code Lib.objectInit ⟨#[0xb1]⟩ 1 none ∈ GW := zz_in 67 (by decide +kernel) (by decide +kernel)
theorem ga_byte : Cond.arrayClass .byte ∈ GW := zz_in 85 (by decide +kernel) (by decide +kernel)
theorem gf_X0_9 : Cond.fieldLink RX0 9 (TX0 0).1 (TX0 0).2.1 (TX0 0).2.2.1 ∈ GW := zz_in 74 (by decide +kernel) (by decide +kernel)
theorem gl_X1_3 : Cond.methodLink RX1 3 Lib.objectInit ∈ GW := zz_in 98 (by decide +kernel) (by decide +kernel)
theorem gf_X1_9 : Cond.fieldLink RX1 9 (TX1 0).1 (TX1 0).2.1 (TX1 0).2.2.1 ∈ GW := zz_in 99 (by decide +kernel) (by decide +kernel)
theorem gf_X1_15 : Cond.fieldLink RX1 15 (TX1 1).1 (TX1 1).2.1 (TX1 1).2.2.1 ∈ GW := zz_in 100 (by decide +kernel) (by decide +kernel)
theorem ga_int : Cond.arrayClass .int ∈ GW := zz_in 114 (by decide +kernel) (by decide +kernel)
theorem gf_X1_19 : Cond.fieldLink RX1 19 (TX1 2).1 (TX1 2).2.1 (TX1 2).2.2.1 ∈ GW := zz_in 101 (by decide +kernel) (by decide +kernel)
theorem gl_X6_1 : Cond.methodLink RX6 1 Lib.objectInit ∈ GW := zz_in 123 (by decide +kernel) (by decide +kernel)
theorem gl_X3_3 : Cond.methodLink RX3 3 Lib.objectInit ∈ GW := zz_in 165 (by decide +kernel) (by decide +kernel)
theorem gf_X3_9 : Cond.fieldLink RX3 9 (TX3 0).1 (TX3 0).2.1 (TX3 0).2.2.1 ∈ GW := zz_in 166 (by decide +kernel) (by decide +kernel)
theorem gf_X3_15 : Cond.fieldLink RX3 15 (TX3 1).1 (TX3 1).2.1 (TX3 1).2.2.1 ∈ GW := zz_in 167 (by decide +kernel) (by decide +kernel)
theorem gl_X10_3 : Cond.methodLink RX10 3 Lib.objectInit ∈ GW := zz_in 92 (by decide +kernel) (by decide +kernel)
theorem gq_X10_9 : Cond.classLink RX10 9 RX1 ∈ GW := zz_in 93 (by decide +kernel) (by decide +kernel)
theorem gn_X1 : Cond.instantiable RX1 4 ∈ GW := zz_in 94 (by decide +kernel) (by decide +kernel)
theorem gt_X1 : Cond.initialized RX1 ∈ GW := zz_in 45 (by decide +kernel) (by decide +kernel)
theorem gc_X1_init : Cond.code yX1_init cX1_init 4 none ∈ GW := zz_in 97 (by decide +kernel) (by decide +kernel)
theorem gi_X1_init : Cond.instanceMethod yX1_init ∈ GW := zz_in 96 (by decide +kernel) (by decide +kernel)
theorem gl_X10_11 : Cond.methodLink RX10 11 yX1_init ∈ GW := zz_in 95 (by decide +kernel) (by decide +kernel)
theorem gf_X10_14 : Cond.fieldLink RX10 14 (TX10 0).1 (TX10 0).2.1 (TX10 0).2.2.1 ∈ GW := zz_in 176 (by decide +kernel) (by decide +kernel)
theorem gf_X10_20 : Cond.fieldLink RX10 20 (TX10 1).1 (TX10 1).2.1 (TX10 1).2.2.1 ∈ GW := zz_in 180 (by decide +kernel) (by decide +kernel)
theorem gq_X10_23 : Cond.classLink RX10 23 RX6 ∈ GW := zz_in 115 (by decide +kernel) (by decide +kernel)
theorem gf_X10_25 : Cond.fieldLink RX10 25 (TX10 2).1 (TX10 2).2.1 (TX10 2).2.2.1 ∈ GW := zz_in 182 (by decide +kernel) (by decide +kernel)
theorem gq_X10_29 : Cond.classLink RX10 29 RX3 ∈ GW := zz_in 117 (by decide +kernel) (by decide +kernel)
theorem gf_X10_31 : Cond.fieldLink RX10 31 (TX10 3).1 (TX10 3).2.1 (TX10 3).2.2.1 ∈ GW := zz_in 183 (by decide +kernel) (by decide +kernel)
theorem gf_X10_35 : Cond.fieldLink RX10 35 (TX10 5).1 (TX10 5).2.1 (TX10 5).2.2.1 ∈ GW := zz_in 188 (by decide +kernel) (by decide +kernel)
theorem gn_X3 : Cond.instantiable RX3 3 ∈ GW := zz_in 161 (by decide +kernel) (by decide +kernel)
theorem gt_X3 : Cond.initialized RX3 ∈ GW := zz_in 47 (by decide +kernel) (by decide +kernel)
theorem gc_X3_init : Cond.code yX3_init cX3_init 1 none ∈ GW := zz_in 164 (by decide +kernel) (by decide +kernel)
theorem gi_X3_init : Cond.instanceMethod yX3_init ∈ GW := zz_in 163 (by decide +kernel) (by decide +kernel)
theorem gn_X6 : Cond.instantiable RX6 9 ∈ GW := zz_in 119 (by decide +kernel) (by decide +kernel)
theorem gt_X6 : Cond.initialized RX6 ∈ GW := zz_in 46 (by decide +kernel) (by decide +kernel)
theorem gc_X6_init : Cond.code yX6_init cX6_init 1 none ∈ GW := zz_in 122 (by decide +kernel) (by decide +kernel)
theorem gi_X6_init : Cond.instanceMethod yX6_init ∈ GW := zz_in 121 (by decide +kernel) (by decide +kernel)
theorem gl_X4_3 : Cond.methodLink RX4 3 Lib.objectInit ∈ GW := zz_in 215 (by decide +kernel) (by decide +kernel)
theorem gf_X4_9 : Cond.fieldLink RX4 9 (TX4 0).1 (TX4 0).2.1 (TX4 0).2.2.1 ∈ GW := zz_in 216 (by decide +kernel) (by decide +kernel)
theorem gf_X4_15 : Cond.fieldLink RX4 15 (TX4 4).1 (TX4 4).2.1 (TX4 4).2.2.1 ∈ GW := zz_in 231 (by decide +kernel) (by decide +kernel)
theorem gl_X8_3 : Cond.methodLink RX8 3 Lib.objectInit ∈ GW := zz_in 209 (by decide +kernel) (by decide +kernel)
theorem gq_X8_9 : Cond.classLink RX8 9 RX4 ∈ GW := zz_in 210 (by decide +kernel) (by decide +kernel)
theorem gn_X4 : Cond.instantiable RX4 5 ∈ GW := zz_in 211 (by decide +kernel) (by decide +kernel)
theorem gt_X4 : Cond.initialized RX4 ∈ GW := zz_in 49 (by decide +kernel) (by decide +kernel)
theorem gc_X4_init : Cond.code yX4_init cX4_init 1 none ∈ GW := zz_in 214 (by decide +kernel) (by decide +kernel)
theorem gi_X4_init : Cond.instanceMethod yX4_init ∈ GW := zz_in 213 (by decide +kernel) (by decide +kernel)
theorem gf_X8_12 : Cond.fieldLink RX8 12 (TX8 1).1 (TX8 1).2.1 (TX8 1).2.2.1 ∈ GW := zz_in 249 (by decide +kernel) (by decide +kernel)
theorem gf_X8_18 : Cond.fieldLink RX8 18 (TX8 2).1 (TX8 2).2.1 (TX8 2).2.2.1 ∈ GW := zz_in 253 (by decide +kernel) (by decide +kernel)
theorem gf_X8_22 : Cond.fieldLink RX8 22 (TX8 3).1 (TX8 3).2.1 (TX8 3).2.2.1 ∈ GW := zz_in 255 (by decide +kernel) (by decide +kernel)
theorem gf_X8_25 : Cond.fieldLink RX8 25 (TX8 0).1 (TX8 0).2.1 (TX8 0).2.2.1 ∈ GW := zz_in 248 (by decide +kernel) (by decide +kernel)
theorem gf_X8_29 : Cond.fieldLink RX8 29 (TX10 5).1 (TX10 5).2.1 (TX10 5).2.2.1 ∈ GW := zz_in 187 (by decide +kernel) (by decide +kernel)
theorem gf_X8_35 : Cond.fieldLink RX8 35 (TX4 2).1 (TX4 2).2.1 (TX4 2).2.2.1 ∈ GW := zz_in 222 (by decide +kernel) (by decide +kernel)
theorem gl_X7_3 : Cond.methodLink RX7 3 Lib.objectInit ∈ GW := zz_in 279 (by decide +kernel) (by decide +kernel)
theorem gq_X7_9 : Cond.classLink RX7 9 RX4 ∈ GW := zz_in 280 (by decide +kernel) (by decide +kernel)
theorem gf_X7_11 : Cond.fieldLink RX7 11 (TX7 2).1 (TX7 2).2.1 (TX7 2).2.2.1 ∈ GW := zz_in 285 (by decide +kernel) (by decide +kernel)
theorem ga_boolean : Cond.arrayClass .boolean ∈ GW := zz_in 311 (by decide +kernel) (by decide +kernel)
theorem gf_X7_17 : Cond.fieldLink RX7 17 (TX7 3).1 (TX7 3).2.1 (TX7 3).2.2.1 ∈ GW := zz_in 286 (by decide +kernel) (by decide +kernel)
theorem gf_X7_21 : Cond.fieldLink RX7 21 (TX7 4).1 (TX7 4).2.1 (TX7 4).2.2.1 ∈ GW := zz_in 287 (by decide +kernel) (by decide +kernel)
theorem gf_X7_25 : Cond.fieldLink RX7 25 (TX7 5).1 (TX7 5).2.1 (TX7 5).2.2.1 ∈ GW := zz_in 289 (by decide +kernel) (by decide +kernel)
theorem gf_X7_28 : Cond.fieldLink RX7 28 (TX7 0).1 (TX7 0).2.1 (TX7 0).2.2.1 ∈ GW := zz_in 283 (by decide +kernel) (by decide +kernel)
theorem gf_X7_32 : Cond.fieldLink RX7 32 (TX7 1).1 (TX7 1).2.1 (TX7 1).2.2.1 ∈ GW := zz_in 284 (by decide +kernel) (by decide +kernel)
theorem gl_X9_3 : Cond.methodLink RX9 3 Lib.objectInit ∈ GW := zz_in 317 (by decide +kernel) (by decide +kernel)
theorem gq_X9_9 : Cond.classLink RX9 9 RX4 ∈ GW := zz_in 318 (by decide +kernel) (by decide +kernel)
theorem gf_X9_12 : Cond.fieldLink RX9 12 (TX9 2).1 (TX9 2).2.1 (TX9 2).2.2.1 ∈ GW := zz_in 322 (by decide +kernel) (by decide +kernel)
theorem gf_X9_18 : Cond.fieldLink RX9 18 (TX9 3).1 (TX9 3).2.1 (TX9 3).2.2.1 ∈ GW := zz_in 323 (by decide +kernel) (by decide +kernel)
theorem gf_X9_22 : Cond.fieldLink RX9 22 (TX9 0).1 (TX9 0).2.1 (TX9 0).2.2.1 ∈ GW := zz_in 320 (by decide +kernel) (by decide +kernel)
theorem gf_X9_26 : Cond.fieldLink RX9 26 (TX9 1).1 (TX9 1).2.1 (TX9 1).2.2.1 ∈ GW := zz_in 321 (by decide +kernel) (by decide +kernel)
theorem gl_X11_1 : Cond.methodLink RX11 1 Lib.objectInit ∈ GW := zz_in 65 (by decide +kernel) (by decide +kernel)
theorem gq_X11_7 : Cond.classLink RX11 7 RX0 ∈ GW := zz_in 68 (by decide +kernel) (by decide +kernel)
theorem gn_X0 : Cond.instantiable RX0 2 ∈ GW := zz_in 69 (by decide +kernel) (by decide +kernel)
theorem gt_X0 : Cond.initialized RX0 ∈ GW := zz_in 43 (by decide +kernel) (by decide +kernel)
theorem gc_X0_init : Cond.code yX0_init cX0_init 2 none ∈ GW := zz_in 72 (by decide +kernel) (by decide +kernel)
theorem gi_X0_init : Cond.instanceMethod yX0_init ∈ GW := zz_in 71 (by decide +kernel) (by decide +kernel)
theorem gl_X11_11 : Cond.methodLink RX11 11 yX0_init ∈ GW := zz_in 70 (by decide +kernel) (by decide +kernel)
theorem gf_X11_14 : Cond.fieldLink RX11 14 (TX11 0).1 (TX11 0).2.1 (TX11 0).2.2.1 ∈ GW := zz_in 342 (by decide +kernel) (by decide +kernel)
theorem gf_X11_18 : Cond.fieldLink RX11 18 (TX11 5).1 (TX11 5).2.1 (TX11 5).2.2.1 ∈ GW := zz_in 347 (by decide +kernel) (by decide +kernel)
theorem gq_X11_22 : Cond.classLink RX11 22 RX10 ∈ GW := zz_in 87 (by decide +kernel) (by decide +kernel)
theorem gn_X10 : Cond.instantiable RX10 6 ∈ GW := zz_in 88 (by decide +kernel) (by decide +kernel)
theorem gt_X10 : Cond.initialized RX10 ∈ GW := zz_in 44 (by decide +kernel) (by decide +kernel)
theorem gc_X10_init : Cond.code yX10_init cX10_init 3 none ∈ GW := zz_in 91 (by decide +kernel) (by decide +kernel)
theorem gi_X10_init : Cond.instanceMethod yX10_init ∈ GW := zz_in 90 (by decide +kernel) (by decide +kernel)
theorem gl_X11_24 : Cond.methodLink RX11 24 yX10_init ∈ GW := zz_in 89 (by decide +kernel) (by decide +kernel)
theorem gf_X11_25 : Cond.fieldLink RX11 25 (TX11 1).1 (TX11 1).2.1 (TX11 1).2.2.1 ∈ GW := zz_in 343 (by decide +kernel) (by decide +kernel)
theorem gq_X11_29 : Cond.classLink RX11 29 RX8 ∈ GW := zz_in 204 (by decide +kernel) (by decide +kernel)
theorem gn_X8 : Cond.instantiable RX8 6 ∈ GW := zz_in 205 (by decide +kernel) (by decide +kernel)
theorem gt_X8 : Cond.initialized RX8 ∈ GW := zz_in 48 (by decide +kernel) (by decide +kernel)
theorem gc_X8_init : Cond.code yX8_init cX8_init 2 none ∈ GW := zz_in 208 (by decide +kernel) (by decide +kernel)
theorem gi_X8_init : Cond.instanceMethod yX8_init ∈ GW := zz_in 207 (by decide +kernel) (by decide +kernel)
theorem gl_X11_31 : Cond.methodLink RX11 31 yX8_init ∈ GW := zz_in 206 (by decide +kernel) (by decide +kernel)
theorem gf_X11_34 : Cond.fieldLink RX11 34 (TX11 2).1 (TX11 2).2.1 (TX11 2).2.2.1 ∈ GW := zz_in 344 (by decide +kernel) (by decide +kernel)
theorem gq_X11_38 : Cond.classLink RX11 38 RX7 ∈ GW := zz_in 274 (by decide +kernel) (by decide +kernel)
theorem gn_X7 : Cond.instantiable RX7 8 ∈ GW := zz_in 275 (by decide +kernel) (by decide +kernel)
theorem gt_X7 : Cond.initialized RX7 ∈ GW := zz_in 50 (by decide +kernel) (by decide +kernel)
theorem gc_X7_init : Cond.code yX7_init cX7_init 4 none ∈ GW := zz_in 278 (by decide +kernel) (by decide +kernel)
theorem gi_X7_init : Cond.instanceMethod yX7_init ∈ GW := zz_in 277 (by decide +kernel) (by decide +kernel)
theorem gl_X11_40 : Cond.methodLink RX11 40 yX7_init ∈ GW := zz_in 276 (by decide +kernel) (by decide +kernel)
theorem gf_X11_43 : Cond.fieldLink RX11 43 (TX11 3).1 (TX11 3).2.1 (TX11 3).2.2.1 ∈ GW := zz_in 345 (by decide +kernel) (by decide +kernel)
theorem gq_X11_47 : Cond.classLink RX11 47 RX9 ∈ GW := zz_in 312 (by decide +kernel) (by decide +kernel)
theorem gn_X9 : Cond.instantiable RX9 6 ∈ GW := zz_in 313 (by decide +kernel) (by decide +kernel)
theorem gt_X9 : Cond.initialized RX9 ∈ GW := zz_in 51 (by decide +kernel) (by decide +kernel)
theorem gc_X9_init : Cond.code yX9_init cX9_init 3 none ∈ GW := zz_in 316 (by decide +kernel) (by decide +kernel)
theorem gi_X9_init : Cond.instanceMethod yX9_init ∈ GW := zz_in 315 (by decide +kernel) (by decide +kernel)
theorem gl_X11_49 : Cond.methodLink RX11 49 yX9_init ∈ GW := zz_in 314 (by decide +kernel) (by decide +kernel)
theorem gf_X11_50 : Cond.fieldLink RX11 50 (TX11 4).1 (TX11 4).2.1 (TX11 4).2.2.1 ∈ GW := zz_in 346 (by decide +kernel) (by decide +kernel)
theorem gf_X0_15 : Cond.fieldLink RX0 15 (TX0 1).1 (TX0 1).2.1 (TX0 1).2.2.1 ∈ GW := zz_in 75 (by decide +kernel) (by decide +kernel)
theorem gf_X11_54 : Cond.fieldLink RX11 54 (TX0 1).1 (TX0 1).2.1 (TX0 1).2.2.1 ∈ GW := zz_in 76 (by decide +kernel) (by decide +kernel)
theorem gc_X0_append : Cond.code yX0_append cX0_append 2 none ∈ GW := zz_in 371 (by decide +kernel) (by decide +kernel)
theorem gi_X0_append : Cond.instanceMethod yX0_append ∈ GW := zz_in 369 (by decide +kernel) (by decide +kernel)
theorem gv_X0_append : Cond.selects yX0_append.cls yX0_append yX0_append ∈ GW := zz_in 370 (by decide +kernel) (by decide +kernel)
theorem gl_X11_58 : Cond.methodLink RX11 58 yX0_append ∈ GW := zz_in 368 (by decide +kernel) (by decide +kernel)
theorem gc_X0_at : Cond.code yX0_at cX0_at 2 (some .int) ∈ GW := zz_in 386 (by decide +kernel) (by decide +kernel)
theorem gi_X0_at : Cond.instanceMethod yX0_at ∈ GW := zz_in 384 (by decide +kernel) (by decide +kernel)
theorem gv_X0_at : Cond.selects yX0_at.cls yX0_at yX0_at ∈ GW := zz_in 385 (by decide +kernel) (by decide +kernel)
theorem gl_X2_15 : Cond.methodLink RX2 15 yX0_at ∈ GW := zz_in 383 (by decide +kernel) (by decide +kernel)
theorem gc_X2_isLetter : Cond.code yX2_isLetter cX2_isLetter 1 (some .boolean) ∈ GW := zz_in 389 (by decide +kernel) (by decide +kernel)
theorem gt_X2 : Cond.initialized RX2 ∈ GW := zz_in 53 (by decide +kernel) (by decide +kernel)
theorem gs_X2_isLetter : Cond.static yX2_isLetter ∈ GW := zz_in 388 (by decide +kernel) (by decide +kernel)
theorem gl_X2_25 : Cond.methodLink RX2 25 yX2_isLetter ∈ GW := zz_in 387 (by decide +kernel) (by decide +kernel)
theorem gf_X1_23 : Cond.fieldLink RX1 23 (TX1 3).1 (TX1 3).2.1 (TX1 3).2.2.1 ∈ GW := zz_in 102 (by decide +kernel) (by decide +kernel)
theorem gc_X1_lengthOf : Cond.code yX1_lengthOf cX1_lengthOf 2 (some .int) ∈ GW := zz_in 401 (by decide +kernel) (by decide +kernel)
theorem gi_X1_lengthOf : Cond.instanceMethod yX1_lengthOf ∈ GW := zz_in 399 (by decide +kernel) (by decide +kernel)
theorem gv_X1_lengthOf : Cond.selects yX1_lengthOf.cls yX1_lengthOf yX1_lengthOf ∈ GW := zz_in 400 (by decide +kernel) (by decide +kernel)
theorem gl_X1_26 : Cond.methodLink RX1 26 yX1_lengthOf ∈ GW := zz_in 398 (by decide +kernel) (by decide +kernel)
theorem gc_X1_signOf : Cond.code yX1_signOf cX1_signOf 4 (some .int) ∈ GW := zz_in 405 (by decide +kernel) (by decide +kernel)
theorem gi_X1_signOf : Cond.instanceMethod yX1_signOf ∈ GW := zz_in 403 (by decide +kernel) (by decide +kernel)
theorem gv_X1_signOf : Cond.selects yX1_signOf.cls yX1_signOf yX1_signOf ∈ GW := zz_in 404 (by decide +kernel) (by decide +kernel)
theorem gl_X1_34 : Cond.methodLink RX1 34 yX1_signOf ∈ GW := zz_in 402 (by decide +kernel) (by decide +kernel)
theorem gl_X1_38 : Cond.methodLink RX1 38 yX0_at ∈ GW := zz_in 406 (by decide +kernel) (by decide +kernel)
theorem gc_X1_stands : Cond.code yX1_stands cX1_stands 6 (some .boolean) ∈ GW := zz_in 397 (by decide +kernel) (by decide +kernel)
theorem gi_X1_stands : Cond.instanceMethod yX1_stands ∈ GW := zz_in 395 (by decide +kernel) (by decide +kernel)
theorem gv_X1_stands : Cond.selects yX1_stands.cls yX1_stands yX1_stands ∈ GW := zz_in 396 (by decide +kernel) (by decide +kernel)
theorem gl_X1_30 : Cond.methodLink RX1 30 yX1_stands ∈ GW := zz_in 394 (by decide +kernel) (by decide +kernel)
theorem gf_X1_43 : Cond.fieldLink RX1 43 (TX0 1).1 (TX0 1).2.1 (TX0 1).2.2.1 ∈ GW := zz_in 79 (by decide +kernel) (by decide +kernel)
theorem gc_X2_lettersEnd : Cond.code yX2_lettersEnd cX2_lettersEnd 3 (some .int) ∈ GW := zz_in 382 (by decide +kernel) (by decide +kernel)
theorem gs_X2_lettersEnd : Cond.static yX2_lettersEnd ∈ GW := zz_in 381 (by decide +kernel) (by decide +kernel)
theorem gl_X11_68 : Cond.methodLink RX11 68 yX2_lettersEnd ∈ GW := zz_in 380 (by decide +kernel) (by decide +kernel)
theorem gf_X11_74 : Cond.fieldLink RX11 74 (TX10 0).1 (TX10 0).2.1 (TX10 0).2.2.1 ∈ GW := zz_in 178 (by decide +kernel) (by decide +kernel)
theorem gc_X1_find : Cond.code yX1_find cX1_find 5 (some .int) ∈ GW := zz_in 393 (by decide +kernel) (by decide +kernel)
theorem gi_X1_find : Cond.instanceMethod yX1_find ∈ GW := zz_in 391 (by decide +kernel) (by decide +kernel)
theorem gv_X1_find : Cond.selects yX1_find.cls yX1_find yX1_find ∈ GW := zz_in 392 (by decide +kernel) (by decide +kernel)
theorem gl_X11_78 : Cond.methodLink RX11 78 yX1_find ∈ GW := zz_in 390 (by decide +kernel) (by decide +kernel)
theorem gc_X1_append : Cond.code yX1_append cX1_append 5 (some .int) ∈ GW := zz_in 410 (by decide +kernel) (by decide +kernel)
theorem gi_X1_append : Cond.instanceMethod yX1_append ∈ GW := zz_in 408 (by decide +kernel) (by decide +kernel)
theorem gv_X1_append : Cond.selects yX1_append.cls yX1_append yX1_append ∈ GW := zz_in 409 (by decide +kernel) (by decide +kernel)
theorem gl_X11_84 : Cond.methodLink RX11 84 yX1_append ∈ GW := zz_in 407 (by decide +kernel) (by decide +kernel)
theorem gc_X11_addWord : Cond.code yX11_addWord cX11_addWord 2 (some .int) ∈ GW := zz_in 379 (by decide +kernel) (by decide +kernel)
theorem gt_X11 : Cond.initialized RX11 ∈ GW := zz_in 42 (by decide +kernel) (by decide +kernel)
theorem gi_X11_addWord : Cond.instanceMethod yX11_addWord ∈ GW := zz_in 378 (by decide +kernel) (by decide +kernel)
theorem gv_X11_addWord : Cond.selects yX11_addWord.cls yX11_addWord yX11_addWord ∈ GW := zz_in 0 (by decide +kernel) (by decide +kernel)
theorem gl_X11_61 : Cond.methodLink RX11 61 yX11_addWord ∈ GW := zz_in 376 (by decide +kernel) (by decide +kernel)
theorem gc_X0_clear : Cond.code yX0_clear cX0_clear 1 none ∈ GW := zz_in 414 (by decide +kernel) (by decide +kernel)
theorem gi_X0_clear : Cond.instanceMethod yX0_clear ∈ GW := zz_in 412 (by decide +kernel) (by decide +kernel)
theorem gv_X0_clear : Cond.selects yX0_clear.cls yX0_clear yX0_clear ∈ GW := zz_in 413 (by decide +kernel) (by decide +kernel)
theorem gl_X11_65 : Cond.methodLink RX11 65 yX0_clear ∈ GW := zz_in 411 (by decide +kernel) (by decide +kernel)
theorem gf_X2_9 : Cond.fieldLink RX2 9 (TX0 1).1 (TX0 1).2.1 (TX0 1).2.2.1 ∈ GW := zz_in 78 (by decide +kernel) (by decide +kernel)
theorem gc_X2_isSign : Cond.code yX2_isSign cX2_isSign 1 (some .boolean) ∈ GW := zz_in 428 (by decide +kernel) (by decide +kernel)
theorem gs_X2_isSign : Cond.static yX2_isSign ∈ GW := zz_in 427 (by decide +kernel) (by decide +kernel)
theorem gl_X2_19 : Cond.methodLink RX2 19 yX2_isSign ∈ GW := zz_in 426 (by decide +kernel) (by decide +kernel)
theorem gc_X2_signsEnd : Cond.code yX2_signsEnd cX2_signsEnd 3 (some .int) ∈ GW := zz_in 425 (by decide +kernel) (by decide +kernel)
theorem gs_X2_signsEnd : Cond.static yX2_signsEnd ∈ GW := zz_in 424 (by decide +kernel) (by decide +kernel)
theorem gl_X11_90 : Cond.methodLink RX11 90 yX2_signsEnd ∈ GW := zz_in 423 (by decide +kernel) (by decide +kernel)
theorem gf_X11_93 : Cond.fieldLink RX11 93 (TX10 1).1 (TX10 1).2.1 (TX10 1).2.2.1 ∈ GW := zz_in 181 (by decide +kernel) (by decide +kernel)
theorem gc_X11_addText : Cond.code yX11_addText cX11_addText 1 (some .int) ∈ GW := zz_in 422 (by decide +kernel) (by decide +kernel)
theorem gi_X11_addText : Cond.instanceMethod yX11_addText ∈ GW := zz_in 421 (by decide +kernel) (by decide +kernel)
theorem gv_X11_addText : Cond.selects yX11_addText.cls yX11_addText yX11_addText ∈ GW := zz_in 1 (by decide +kernel) (by decide +kernel)
theorem gl_X11_87 : Cond.methodLink RX11 87 yX11_addText ∈ GW := zz_in 419 (by decide +kernel) (by decide +kernel)
theorem gc_X11_inside : Cond.code yX11_inside cX11_inside 3 (some .boolean) ∈ GW := zz_in 439 (by decide +kernel) (by decide +kernel)
theorem gs_X11_inside : Cond.static yX11_inside ∈ GW := zz_in 438 (by decide +kernel) (by decide +kernel)
theorem gl_X11_100 : Cond.methodLink RX11 100 yX11_inside ∈ GW := zz_in 437 (by decide +kernel) (by decide +kernel)
theorem gf_X10_41 : Cond.fieldLink RX10 41 (TX10 4).1 (TX10 4).2.1 (TX10 4).2.2.1 ∈ GW := zz_in 185 (by decide +kernel) (by decide +kernel)
theorem gc_X1_has : Cond.code yX1_has cX1_has 2 (some .boolean) ∈ GW := zz_in 436 (by decide +kernel) (by decide +kernel)
theorem gi_X1_has : Cond.instanceMethod yX1_has ∈ GW := zz_in 434 (by decide +kernel) (by decide +kernel)
theorem gv_X1_has : Cond.selects yX1_has.cls yX1_has yX1_has ∈ GW := zz_in 435 (by decide +kernel) (by decide +kernel)
theorem gl_X11_96 : Cond.methodLink RX11 96 yX1_has ∈ GW := zz_in 433 (by decide +kernel) (by decide +kernel)
theorem gc_X11_actWants : Cond.code yX11_actWants cX11_actWants 3 (some .boolean) ∈ GW := zz_in 442 (by decide +kernel) (by decide +kernel)
theorem gs_X11_actWants : Cond.static yX11_actWants ∈ GW := zz_in 441 (by decide +kernel) (by decide +kernel)
theorem gl_X11_104 : Cond.methodLink RX11 104 yX11_actWants ∈ GW := zz_in 440 (by decide +kernel) (by decide +kernel)
theorem gc_X10_nextRule : Cond.code yX10_nextRule cX10_nextRule 1 (some (.object "ScriptTests$Rule")) ∈ GW := zz_in 446 (by decide +kernel) (by decide +kernel)
theorem gi_X10_nextRule : Cond.instanceMethod yX10_nextRule ∈ GW := zz_in 444 (by decide +kernel) (by decide +kernel)
theorem gv_X10_nextRule : Cond.selects yX10_nextRule.cls yX10_nextRule yX10_nextRule ∈ GW := zz_in 445 (by decide +kernel) (by decide +kernel)
theorem gl_X11_107 : Cond.methodLink RX11 107 yX10_nextRule ∈ GW := zz_in 443 (by decide +kernel) (by decide +kernel)
theorem gf_X11_111 : Cond.fieldLink RX11 111 (TX6 0).1 (TX6 0).2.1 (TX6 0).2.2.1 ∈ GW := zz_in 125 (by decide +kernel) (by decide +kernel)
theorem gf_X11_116 : Cond.fieldLink RX11 116 (TX6 1).1 (TX6 1).2.1 (TX6 1).2.2.1 ∈ GW := zz_in 127 (by decide +kernel) (by decide +kernel)
theorem gf_X11_119 : Cond.fieldLink RX11 119 (TX6 2).1 (TX6 2).2.1 (TX6 2).2.2.1 ∈ GW := zz_in 129 (by decide +kernel) (by decide +kernel)
theorem gf_X11_122 : Cond.fieldLink RX11 122 (TX6 3).1 (TX6 3).2.1 (TX6 3).2.2.1 ∈ GW := zz_in 131 (by decide +kernel) (by decide +kernel)
theorem gf_X11_125 : Cond.fieldLink RX11 125 (TX6 4).1 (TX6 4).2.1 (TX6 4).2.2.1 ∈ GW := zz_in 133 (by decide +kernel) (by decide +kernel)
theorem gf_X11_128 : Cond.fieldLink RX11 128 (TX6 5).1 (TX6 5).2.1 (TX6 5).2.2.1 ∈ GW := zz_in 135 (by decide +kernel) (by decide +kernel)
theorem gf_X11_131 : Cond.fieldLink RX11 131 (TX6 6).1 (TX6 6).2.1 (TX6 6).2.2.1 ∈ GW := zz_in 137 (by decide +kernel) (by decide +kernel)
theorem gf_X11_134 : Cond.fieldLink RX11 134 (TX6 7).1 (TX6 7).2.1 (TX6 7).2.2.1 ∈ GW := zz_in 139 (by decide +kernel) (by decide +kernel)
theorem gf_X11_137 : Cond.fieldLink RX11 137 (TX6 8).1 (TX6 8).2.1 (TX6 8).2.2.1 ∈ GW := zz_in 141 (by decide +kernel) (by decide +kernel)
theorem gf_X11_140 : Cond.fieldLink RX11 140 (TX10 4).1 (TX10 4).2.1 (TX10 4).2.2.1 ∈ GW := zz_in 186 (by decide +kernel) (by decide +kernel)
theorem gf_X3_19 : Cond.fieldLink RX3 19 (TX3 2).1 (TX3 2).2.1 (TX3 2).2.2.1 ∈ GW := zz_in 168 (by decide +kernel) (by decide +kernel)
theorem gf_X11_143 : Cond.fieldLink RX11 143 (TX10 3).1 (TX10 3).2.1 (TX10 3).2.2.1 ∈ GW := zz_in 184 (by decide +kernel) (by decide +kernel)
theorem gc_X3_take : Cond.code yX3_take cX3_take 5 none ∈ GW := zz_in 454 (by decide +kernel) (by decide +kernel)
theorem gi_X3_take : Cond.instanceMethod yX3_take ∈ GW := zz_in 452 (by decide +kernel) (by decide +kernel)
theorem gv_X3_take : Cond.selects yX3_take.cls yX3_take yX3_take ∈ GW := zz_in 453 (by decide +kernel) (by decide +kernel)
theorem gl_X11_147 : Cond.methodLink RX11 147 yX3_take ∈ GW := zz_in 451 (by decide +kernel) (by decide +kernel)
theorem gf_X11_153 : Cond.fieldLink RX11 153 (TX10 5).1 (TX10 5).2.1 (TX10 5).2.2.1 ∈ GW := zz_in 190 (by decide +kernel) (by decide +kernel)
theorem gl_X2_51 : Cond.methodLink RX2 51 yX2_lettersEnd ∈ GW := zz_in 479 (by decide +kernel) (by decide +kernel)
theorem gc_X2_endsLine : Cond.code yX2_endsLine cX2_endsLine 1 (some .boolean) ∈ GW := zz_in 482 (by decide +kernel) (by decide +kernel)
theorem gs_X2_endsLine : Cond.static yX2_endsLine ∈ GW := zz_in 481 (by decide +kernel) (by decide +kernel)
theorem gl_X2_54 : Cond.methodLink RX2 54 yX2_endsLine ∈ GW := zz_in 480 (by decide +kernel) (by decide +kernel)
theorem gc_X2_choice : Cond.code yX2_choice cX2_choice 3 (some .int) ∈ GW := zz_in 491 (by decide +kernel) (by decide +kernel)
theorem gs_X2_choice : Cond.static yX2_choice ∈ GW := zz_in 490 (by decide +kernel) (by decide +kernel)
theorem gl_X2_61 : Cond.methodLink RX2 61 yX2_choice ∈ GW := zz_in 489 (by decide +kernel) (by decide +kernel)
theorem gc_X2_patternPart : Cond.code yX2_patternPart cX2_patternPart 3 (some .int) ∈ GW := zz_in 488 (by decide +kernel) (by decide +kernel)
theorem gs_X2_patternPart : Cond.static yX2_patternPart ∈ GW := zz_in 487 (by decide +kernel) (by decide +kernel)
theorem gl_X2_57 : Cond.methodLink RX2 57 yX2_patternPart ∈ GW := zz_in 486 (by decide +kernel) (by decide +kernel)
theorem gc_X2_isDigit : Cond.code yX2_isDigit cX2_isDigit 3 (some .boolean) ∈ GW := zz_in 497 (by decide +kernel) (by decide +kernel)
theorem gs_X2_isDigit : Cond.static yX2_isDigit ∈ GW := zz_in 496 (by decide +kernel) (by decide +kernel)
theorem gl_X2_64 : Cond.methodLink RX2 64 yX2_isDigit ∈ GW := zz_in 495 (by decide +kernel) (by decide +kernel)
theorem gc_X2_isKind : Cond.code yX2_isKind cX2_isKind 1 (some .boolean) ∈ GW := zz_in 475 (by decide +kernel) (by decide +kernel)
theorem gs_X2_isKind : Cond.static yX2_isKind ∈ GW := zz_in 474 (by decide +kernel) (by decide +kernel)
theorem gl_X2_32 : Cond.methodLink RX2 32 yX2_isKind ∈ GW := zz_in 473 (by decide +kernel) (by decide +kernel)
theorem gc_X2_onlyDigit : Cond.code yX2_onlyDigit cX2_onlyDigit 4 (some .int) ∈ GW := zz_in 500 (by decide +kernel) (by decide +kernel)
theorem gs_X2_onlyDigit : Cond.static yX2_onlyDigit ∈ GW := zz_in 499 (by decide +kernel) (by decide +kernel)
theorem gl_X2_44 : Cond.methodLink RX2 44 yX2_onlyDigit ∈ GW := zz_in 498 (by decide +kernel) (by decide +kernel)
theorem gc_X2_pattern : Cond.code yX2_pattern cX2_pattern 5 (some .int) ∈ GW := zz_in 485 (by decide +kernel) (by decide +kernel)
theorem gs_X2_pattern : Cond.static yX2_pattern ∈ GW := zz_in 484 (by decide +kernel) (by decide +kernel)
theorem gl_X2_38 : Cond.methodLink RX2 38 yX2_pattern ∈ GW := zz_in 483 (by decide +kernel) (by decide +kernel)
theorem gc_X2_words : Cond.code yX2_words cX2_words 5 (some .int) ∈ GW := zz_in 478 (by decide +kernel) (by decide +kernel)
theorem gs_X2_words : Cond.static yX2_words ∈ GW := zz_in 477 (by decide +kernel) (by decide +kernel)
theorem gl_X2_35 : Cond.methodLink RX2 35 yX2_words ∈ GW := zz_in 476 (by decide +kernel) (by decide +kernel)
theorem gc_X2_flagAndNumber : Cond.code yX2_flagAndNumber cX2_flagAndNumber 5 (some .int) ∈ GW := zz_in 494 (by decide +kernel) (by decide +kernel)
theorem gs_X2_flagAndNumber : Cond.static yX2_flagAndNumber ∈ GW := zz_in 493 (by decide +kernel) (by decide +kernel)
theorem gl_X2_41 : Cond.methodLink RX2 41 yX2_flagAndNumber ∈ GW := zz_in 492 (by decide +kernel) (by decide +kernel)
theorem gc_X2_lineEnd : Cond.code yX2_lineEnd cX2_lineEnd 3 (some .int) ∈ GW := zz_in 503 (by decide +kernel) (by decide +kernel)
theorem gs_X2_lineEnd : Cond.static yX2_lineEnd ∈ GW := zz_in 502 (by decide +kernel) (by decide +kernel)
theorem gl_X2_48 : Cond.methodLink RX2 48 yX2_lineEnd ∈ GW := zz_in 501 (by decide +kernel) (by decide +kernel)
theorem gc_X2_scriptLine : Cond.code yX2_scriptLine cX2_scriptLine 4 (some .int) ∈ GW := zz_in 472 (by decide +kernel) (by decide +kernel)
theorem gs_X2_scriptLine : Cond.static yX2_scriptLine ∈ GW := zz_in 471 (by decide +kernel) (by decide +kernel)
theorem gl_X2_28 : Cond.methodLink RX2 28 yX2_scriptLine ∈ GW := zz_in 470 (by decide +kernel) (by decide +kernel)
theorem gq_X0_10 : Cond.classLink RX0 10 RX0 ∈ GW := zz_in 508 (by decide +kernel) (by decide +kernel)
theorem gl_X0_19 : Cond.methodLink RX0 19 yX0_init ∈ GW := zz_in 509 (by decide +kernel) (by decide +kernel)
theorem gl_X0_22 : Cond.methodLink RX0 22 yX0_at ∈ GW := zz_in 510 (by decide +kernel) (by decide +kernel)
theorem gl_X0_26 : Cond.methodLink RX0 26 yX0_append ∈ GW := zz_in 511 (by decide +kernel) (by decide +kernel)
theorem gf_X11_159 : Cond.fieldLink RX11 159 (TX11 6).1 (TX11 6).2.1 (TX11 6).2.2.1 ∈ GW := zz_in 348 (by decide +kernel) (by decide +kernel)
theorem gc_X2_wrongInScript : Cond.code yX2_wrongInScript cX2_wrongInScript 4 (some .int) ∈ GW := zz_in 469 (by decide +kernel) (by decide +kernel)
theorem gs_X2_wrongInScript : Cond.static yX2_wrongInScript ∈ GW := zz_in 468 (by decide +kernel) (by decide +kernel)
theorem gl_X11_162 : Cond.methodLink RX11 162 yX2_wrongInScript ∈ GW := zz_in 467 (by decide +kernel) (by decide +kernel)
theorem gc_X0_copy : Cond.code yX0_copy cX0_copy 3 (some (.object "ScriptTests$Bytes")) ∈ GW := zz_in 507 (by decide +kernel) (by decide +kernel)
theorem gi_X0_copy : Cond.instanceMethod yX0_copy ∈ GW := zz_in 505 (by decide +kernel) (by decide +kernel)
theorem gv_X0_copy : Cond.selects yX0_copy.cls yX0_copy yX0_copy ∈ GW := zz_in 506 (by decide +kernel) (by decide +kernel)
theorem gl_X11_165 : Cond.methodLink RX11 165 yX0_copy ∈ GW := zz_in 504 (by decide +kernel) (by decide +kernel)
theorem gc_X11_addScript : Cond.code yX11_addScript cX11_addScript 2 (some .int) ∈ GW := zz_in 466 (by decide +kernel) (by decide +kernel)
theorem gi_X11_addScript : Cond.instanceMethod yX11_addScript ∈ GW := zz_in 465 (by decide +kernel) (by decide +kernel)
theorem gv_X11_addScript : Cond.selects yX11_addScript.cls yX11_addScript yX11_addScript ∈ GW := zz_in 2 (by decide +kernel) (by decide +kernel)
theorem gl_X11_156 : Cond.methodLink RX11 156 yX11_addScript ∈ GW := zz_in 463 (by decide +kernel) (by decide +kernel)
theorem gf_X4_19 : Cond.fieldLink RX4 19 (TX4 1).1 (TX4 1).2.1 (TX4 1).2.2.1 ∈ GW := zz_in 218 (by decide +kernel) (by decide +kernel)
theorem gf_X4_22 : Cond.fieldLink RX4 22 (TX4 2).1 (TX4 2).2.1 (TX4 2).2.2.1 ∈ GW := zz_in 223 (by decide +kernel) (by decide +kernel)
theorem gf_X4_25 : Cond.fieldLink RX4 25 (TX4 3).1 (TX4 3).2.1 (TX4 3).2.2.1 ∈ GW := zz_in 226 (by decide +kernel) (by decide +kernel)
theorem gc_X4_begin : Cond.code yX4_begin cX4_begin 3 none ∈ GW := zz_in 527 (by decide +kernel) (by decide +kernel)
theorem gi_X4_begin : Cond.instanceMethod yX4_begin ∈ GW := zz_in 525 (by decide +kernel) (by decide +kernel)
theorem gv_X4_begin : Cond.selects yX4_begin.cls yX4_begin yX4_begin ∈ GW := zz_in 526 (by decide +kernel) (by decide +kernel)
theorem gl_X8_38 : Cond.methodLink RX8 38 yX4_begin ∈ GW := zz_in 524 (by decide +kernel) (by decide +kernel)
theorem gf_X6_7 : Cond.fieldLink RX6 7 (TX6 1).1 (TX6 1).2.1 (TX6 1).2.2.1 ∈ GW := zz_in 126 (by decide +kernel) (by decide +kernel)
theorem gf_X6_13 : Cond.fieldLink RX6 13 (TX6 0).1 (TX6 0).2.1 (TX6 0).2.2.1 ∈ GW := zz_in 124 (by decide +kernel) (by decide +kernel)
theorem gf_X6_19 : Cond.fieldLink RX6 19 (TX6 2).1 (TX6 2).2.1 (TX6 2).2.2.1 ∈ GW := zz_in 128 (by decide +kernel) (by decide +kernel)
theorem gc_X4_flag : Cond.code yX4_flag cX4_flag 2 (some .int) ∈ GW := zz_in 556 (by decide +kernel) (by decide +kernel)
theorem gi_X4_flag : Cond.instanceMethod yX4_flag ∈ GW := zz_in 554 (by decide +kernel) (by decide +kernel)
theorem gv_X4_flag : Cond.selects yX4_flag.cls yX4_flag yX4_flag ∈ GW := zz_in 555 (by decide +kernel) (by decide +kernel)
theorem gl_X6_22 : Cond.methodLink RX6 22 yX4_flag ∈ GW := zz_in 553 (by decide +kernel) (by decide +kernel)
theorem gf_X6_25 : Cond.fieldLink RX6 25 (TX6 3).1 (TX6 3).2.1 (TX6 3).2.2.1 ∈ GW := zz_in 130 (by decide +kernel) (by decide +kernel)
theorem gf_X6_16 : Cond.fieldLink RX6 16 (TX4 1).1 (TX4 1).2.1 (TX4 1).2.2.1 ∈ GW := zz_in 217 (by decide +kernel) (by decide +kernel)
theorem gc_X6_fits : Cond.code yX6_fits cX6_fits 3 (some .boolean) ∈ GW := zz_in 552 (by decide +kernel) (by decide +kernel)
theorem gi_X6_fits : Cond.instanceMethod yX6_fits ∈ GW := zz_in 550 (by decide +kernel) (by decide +kernel)
theorem gv_X6_fits : Cond.selects yX6_fits.cls yX6_fits yX6_fits ∈ GW := zz_in 551 (by decide +kernel) (by decide +kernel)
theorem gl_X10_70 : Cond.methodLink RX10 70 yX6_fits ∈ GW := zz_in 549 (by decide +kernel) (by decide +kernel)
theorem gf_X10_83 : Cond.fieldLink RX10 83 (TX6 6).1 (TX6 6).2.1 (TX6 6).2.2.1 ∈ GW := zz_in 136 (by decide +kernel) (by decide +kernel)
theorem gl_X10_79 : Cond.methodLink RX10 79 yX4_flag ∈ GW := zz_in 561 (by decide +kernel) (by decide +kernel)
theorem gf_X10_76 : Cond.fieldLink RX10 76 (TX6 5).1 (TX6 5).2.1 (TX6 5).2.2.1 ∈ GW := zz_in 134 (by decide +kernel) (by decide +kernel)
theorem gc_X4_setFlag : Cond.code yX4_setFlag cX4_setFlag 3 none ∈ GW := zz_in 565 (by decide +kernel) (by decide +kernel)
theorem gi_X4_setFlag : Cond.instanceMethod yX4_setFlag ∈ GW := zz_in 563 (by decide +kernel) (by decide +kernel)
theorem gv_X4_setFlag : Cond.selects yX4_setFlag.cls yX4_setFlag yX4_setFlag ∈ GW := zz_in 564 (by decide +kernel) (by decide +kernel)
theorem gl_X10_86 : Cond.methodLink RX10 86 yX4_setFlag ∈ GW := zz_in 562 (by decide +kernel) (by decide +kernel)
theorem gc_X3_faultAt : Cond.code yX3_faultAt cX3_faultAt 3 (some .int) ∈ GW := zz_in 577 (by decide +kernel) (by decide +kernel)
theorem gi_X3_faultAt : Cond.instanceMethod yX3_faultAt ∈ GW := zz_in 575 (by decide +kernel) (by decide +kernel)
theorem gv_X3_faultAt : Cond.selects yX3_faultAt.cls yX3_faultAt yX3_faultAt ∈ GW := zz_in 576 (by decide +kernel) (by decide +kernel)
theorem gl_X10_109 : Cond.methodLink RX10 109 yX3_faultAt ∈ GW := zz_in 574 (by decide +kernel) (by decide +kernel)
theorem gc_X3_item : Cond.code yX3_item cX3_item 2 (some .int) ∈ GW := zz_in 581 (by decide +kernel) (by decide +kernel)
theorem gi_X3_item : Cond.instanceMethod yX3_item ∈ GW := zz_in 579 (by decide +kernel) (by decide +kernel)
theorem gv_X3_item : Cond.selects yX3_item.cls yX3_item yX3_item ∈ GW := zz_in 580 (by decide +kernel) (by decide +kernel)
theorem gl_X10_112 : Cond.methodLink RX10 112 yX3_item ∈ GW := zz_in 578 (by decide +kernel) (by decide +kernel)
theorem gk_X10_115 : Cond.constant RX10 115 (1103515245) ∈ GW := zz_in 585 (by decide +kernel) (by decide +kernel)
theorem gf_X10_74 : Cond.fieldLink RX10 74 (TX6 4).1 (TX6 4).2.1 (TX6 4).2.2.1 ∈ GW := zz_in 132 (by decide +kernel) (by decide +kernel)
theorem gc_X10_divide : Cond.code yX10_divide cX10_divide 4 (some .int) ∈ GW := zz_in 569 (by decide +kernel) (by decide +kernel)
theorem gi_X10_divide : Cond.instanceMethod yX10_divide ∈ GW := zz_in 568 (by decide +kernel) (by decide +kernel)
theorem gv_X10_divide : Cond.selects yX10_divide.cls yX10_divide yX10_divide ∈ GW := zz_in 6 (by decide +kernel) (by decide +kernel)
theorem gl_X10_89 : Cond.methodLink RX10 89 yX10_divide ∈ GW := zz_in 566 (by decide +kernel) (by decide +kernel)
theorem gc_X10_takeItem : Cond.code yX10_takeItem cX10_takeItem 6 (some .int) ∈ GW := zz_in 573 (by decide +kernel) (by decide +kernel)
theorem gi_X10_takeItem : Cond.instanceMethod yX10_takeItem ∈ GW := zz_in 572 (by decide +kernel) (by decide +kernel)
theorem gv_X10_takeItem : Cond.selects yX10_takeItem.cls yX10_takeItem yX10_takeItem ∈ GW := zz_in 7 (by decide +kernel) (by decide +kernel)
theorem gl_X10_92 : Cond.methodLink RX10 92 yX10_takeItem ∈ GW := zz_in 570 (by decide +kernel) (by decide +kernel)
theorem gf_X10_96 : Cond.fieldLink RX10 96 (TX4 2).1 (TX4 2).2.1 (TX4 2).2.2.1 ∈ GW := zz_in 224 (by decide +kernel) (by decide +kernel)
theorem gc_X10_nextSeed : Cond.code yX10_nextSeed cX10_nextSeed 1 (some .int) ∈ GW := zz_in 584 (by decide +kernel) (by decide +kernel)
theorem gs_X10_nextSeed : Cond.static yX10_nextSeed ∈ GW := zz_in 583 (by decide +kernel) (by decide +kernel)
theorem gl_X10_99 : Cond.methodLink RX10 99 yX10_nextSeed ∈ GW := zz_in 582 (by decide +kernel) (by decide +kernel)
theorem gc_X10_drawn : Cond.code yX10_drawn cX10_drawn 2 (some .int) ∈ GW := zz_in 588 (by decide +kernel) (by decide +kernel)
theorem gs_X10_drawn : Cond.static yX10_drawn ∈ GW := zz_in 587 (by decide +kernel) (by decide +kernel)
theorem gl_X10_102 : Cond.methodLink RX10 102 yX10_drawn ∈ GW := zz_in 586 (by decide +kernel) (by decide +kernel)
theorem gf_X10_106 : Cond.fieldLink RX10 106 (TX4 3).1 (TX4 3).2.1 (TX4 3).2.2.1 ∈ GW := zz_in 229 (by decide +kernel) (by decide +kernel)
theorem gl_X10_44 : Cond.methodLink RX10 44 yX1_has ∈ GW := zz_in 544 (by decide +kernel) (by decide +kernel)
theorem gf_X10_52 : Cond.fieldLink RX10 52 (TX4 4).1 (TX4 4).2.1 (TX4 4).2.2.1 ∈ GW := zz_in 233 (by decide +kernel) (by decide +kernel)
theorem gc_X10_act : Cond.code yX10_act cX10_act 3 (some .int) ∈ GW := zz_in 560 (by decide +kernel) (by decide +kernel)
theorem gi_X10_act : Cond.instanceMethod yX10_act ∈ GW := zz_in 559 (by decide +kernel) (by decide +kernel)
theorem gv_X10_act : Cond.selects yX10_act.cls yX10_act yX10_act ∈ GW := zz_in 5 (by decide +kernel) (by decide +kernel)
theorem gl_X10_57 : Cond.methodLink RX10 57 yX10_act ∈ GW := zz_in 557 (by decide +kernel) (by decide +kernel)
theorem gf_X10_61 : Cond.fieldLink RX10 61 (TX6 8).1 (TX6 8).2.1 (TX6 8).2.2.1 ∈ GW := zz_in 140 (by decide +kernel) (by decide +kernel)
theorem gf_X10_67 : Cond.fieldLink RX10 67 (TX6 7).1 (TX6 7).2.1 (TX6 7).2.2.1 ∈ GW := zz_in 138 (by decide +kernel) (by decide +kernel)
theorem gf_X10_64 : Cond.fieldLink RX10 64 (TX4 1).1 (TX4 1).2.1 (TX4 1).2.2.1 ∈ GW := zz_in 219 (by decide +kernel) (by decide +kernel)
theorem gc_X10_firstThatFits : Cond.code yX10_firstThatFits cX10_firstThatFits 4 (some .int) ∈ GW := zz_in 548 (by decide +kernel) (by decide +kernel)
theorem gi_X10_firstThatFits : Cond.instanceMethod yX10_firstThatFits ∈ GW := zz_in 547 (by decide +kernel) (by decide +kernel)
theorem gv_X10_firstThatFits : Cond.selects yX10_firstThatFits.cls yX10_firstThatFits yX10_firstThatFits ∈ GW := zz_in 4 (by decide +kernel) (by decide +kernel)
theorem gl_X10_48 : Cond.methodLink RX10 48 yX10_firstThatFits ∈ GW := zz_in 545 (by decide +kernel) (by decide +kernel)
theorem gc_X10_say : Cond.code yX10_say cX10_say 6 (some .int) ∈ GW := zz_in 543 (by decide +kernel) (by decide +kernel)
theorem gi_X10_say : Cond.instanceMethod yX10_say ∈ GW := zz_in 541 (by decide +kernel) (by decide +kernel)
theorem gv_X10_say : Cond.selects yX10_say.cls yX10_say yX10_say ∈ GW := zz_in 542 (by decide +kernel) (by decide +kernel)
theorem gl_X8_42 : Cond.methodLink RX8 42 yX10_say ∈ GW := zz_in 540 (by decide +kernel) (by decide +kernel)
theorem gf_X8_46 : Cond.fieldLink RX8 46 (TX8 4).1 (TX8 4).2.1 (TX8 4).2.2.1 ∈ GW := zz_in 257 (by decide +kernel) (by decide +kernel)
theorem gf_X8_52 : Cond.fieldLink RX8 52 (TX4 4).1 (TX4 4).2.1 (TX4 4).2.2.1 ∈ GW := zz_in 234 (by decide +kernel) (by decide +kernel)
theorem gf_X8_49 : Cond.fieldLink RX8 49 (TX8 5).1 (TX8 5).2.1 (TX8 5).2.2.1 ∈ GW := zz_in 259 (by decide +kernel) (by decide +kernel)
theorem gl_X7_108 : Cond.methodLink RX7 108 yX2_lettersEnd ∈ GW := zz_in 534 (by decide +kernel) (by decide +kernel)
theorem gf_X7_75 : Cond.fieldLink RX7 75 (TX8 1).1 (TX8 1).2.1 (TX8 1).2.2.1 ∈ GW := zz_in 251 (by decide +kernel) (by decide +kernel)
theorem gf_X7_98 : Cond.fieldLink RX7 98 (TX4 3).1 (TX4 3).2.1 (TX4 3).2.2.1 ∈ GW := zz_in 228 (by decide +kernel) (by decide +kernel)
theorem gf_X7_111 : Cond.fieldLink RX7 111 (TX10 0).1 (TX10 0).2.1 (TX10 0).2.2.1 ∈ GW := zz_in 179 (by decide +kernel) (by decide +kernel)
theorem gl_X7_117 : Cond.methodLink RX7 117 yX1_find ∈ GW := zz_in 535 (by decide +kernel) (by decide +kernel)
theorem gc_X8_hear : Cond.code yX8_hear cX8_hear 4 (some .int) ∈ GW := zz_in 539 (by decide +kernel) (by decide +kernel)
theorem gi_X8_hear : Cond.instanceMethod yX8_hear ∈ GW := zz_in 537 (by decide +kernel) (by decide +kernel)
theorem gv_X8_hear : Cond.selects yX8_hear.cls yX8_hear yX8_hear ∈ GW := zz_in 538 (by decide +kernel) (by decide +kernel)
theorem gl_X7_122 : Cond.methodLink RX7 122 yX8_hear ∈ GW := zz_in 536 (by decide +kernel) (by decide +kernel)
theorem gf_X7_46 : Cond.fieldLink RX7 46 (TX7 7).1 (TX7 7).2.1 (TX7 7).2.2.1 ∈ GW := zz_in 293 (by decide +kernel) (by decide +kernel)
theorem gl_X10_116 : Cond.methodLink RX10 116 yX1_lengthOf ∈ GW := zz_in 600 (by decide +kernel) (by decide +kernel)
theorem gl_X5_30 : Cond.methodLink RX5 30 yX0_at ∈ GW := zz_in 607 (by decide +kernel) (by decide +kernel)
theorem gl_X10_119 : Cond.methodLink RX10 119 yX1_signOf ∈ GW := zz_in 618 (by decide +kernel) (by decide +kernel)
theorem gc_X10_textSign : Cond.code yX10_textSign cX10_textSign 3 (some .int) ∈ GW := zz_in 617 (by decide +kernel) (by decide +kernel)
theorem gi_X10_textSign : Cond.instanceMethod yX10_textSign ∈ GW := zz_in 615 (by decide +kernel) (by decide +kernel)
theorem gv_X10_textSign : Cond.selects yX10_textSign.cls yX10_textSign yX10_textSign ∈ GW := zz_in 616 (by decide +kernel) (by decide +kernel)
theorem gl_X5_39 : Cond.methodLink RX5 39 yX10_textSign ∈ GW := zz_in 614 (by decide +kernel) (by decide +kernel)
theorem gc_X5_takes : Cond.code yX5_takes cX5_takes 6 (some .boolean) ∈ GW := zz_in 621 (by decide +kernel) (by decide +kernel)
theorem gt_X5 : Cond.initialized RX5 ∈ GW := zz_in 54 (by decide +kernel) (by decide +kernel)
theorem gs_X5_takes : Cond.static yX5_takes ∈ GW := zz_in 620 (by decide +kernel) (by decide +kernel)
theorem gl_X5_42 : Cond.methodLink RX5 42 yX5_takes ∈ GW := zz_in 619 (by decide +kernel) (by decide +kernel)
theorem gc_X10_textLength : Cond.code yX10_textLength cX10_textLength 2 (some .int) ∈ GW := zz_in 599 (by decide +kernel) (by decide +kernel)
theorem gi_X10_textLength : Cond.instanceMethod yX10_textLength ∈ GW := zz_in 597 (by decide +kernel) (by decide +kernel)
theorem gv_X10_textLength : Cond.selects yX10_textLength.cls yX10_textLength yX10_textLength ∈ GW := zz_in 598 (by decide +kernel) (by decide +kernel)
theorem gl_X5_9 : Cond.methodLink RX5 9 yX10_textLength ∈ GW := zz_in 596 (by decide +kernel) (by decide +kernel)
theorem gc_J9_min_7cf53 : Cond.code yJ9_min_7cf53 cJ9_min_7cf53 2 (some .int) ∈ GW := zz_in 603 (by decide +kernel) (by decide +kernel)
theorem gt_J9 : Cond.initialized RJ9 ∈ GW := zz_in 55 (by decide +kernel) (by decide +kernel)
theorem gs_J9_min_7cf53 : Cond.static yJ9_min_7cf53 ∈ GW := zz_in 602 (by decide +kernel) (by decide +kernel)
theorem gl_X5_15 : Cond.methodLink RX5 15 yJ9_min_7cf53 ∈ GW := zz_in 601 (by decide +kernel) (by decide +kernel)
theorem gc_X5_partEnd : Cond.code yX5_partEnd cX5_partEnd 5 (some .int) ∈ GW := zz_in 606 (by decide +kernel) (by decide +kernel)
theorem gs_X5_partEnd : Cond.static yX5_partEnd ∈ GW := zz_in 605 (by decide +kernel) (by decide +kernel)
theorem gl_X5_21 : Cond.methodLink RX5 21 yX5_partEnd ∈ GW := zz_in 604 (by decide +kernel) (by decide +kernel)
theorem gc_J9_max_7cf53 : Cond.code yJ9_max_7cf53 cJ9_max_7cf53 2 (some .int) ∈ GW := zz_in 610 (by decide +kernel) (by decide +kernel)
theorem gs_J9_max_7cf53 : Cond.static yJ9_max_7cf53 ∈ GW := zz_in 609 (by decide +kernel) (by decide +kernel)
theorem gl_X5_27 : Cond.methodLink RX5 27 yJ9_max_7cf53 ∈ GW := zz_in 608 (by decide +kernel) (by decide +kernel)
theorem gc_X5_oneSignFurther : Cond.code yX5_oneSignFurther cX5_oneSignFurther 8 (some .int) ∈ GW := zz_in 613 (by decide +kernel) (by decide +kernel)
theorem gs_X5_oneSignFurther : Cond.static yX5_oneSignFurther ∈ GW := zz_in 612 (by decide +kernel) (by decide +kernel)
theorem gl_X5_35 : Cond.methodLink RX5 35 yX5_oneSignFurther ∈ GW := zz_in 611 (by decide +kernel) (by decide +kernel)
theorem gl_X7_60 : Cond.methodLink RX7 60 yX0_at ∈ GW := zz_in 529 (by decide +kernel) (by decide +kernel)
theorem gl_X4_28 : Cond.methodLink RX4 28 yX4_flag ∈ GW := zz_in 634 (by decide +kernel) (by decide +kernel)
theorem gc_X4_become : Cond.code yX4_become cX4_become 3 none ∈ GW := zz_in 633 (by decide +kernel) (by decide +kernel)
theorem gi_X4_become : Cond.instanceMethod yX4_become ∈ GW := zz_in 631 (by decide +kernel) (by decide +kernel)
theorem gv_X4_become : Cond.selects yX4_become.cls yX4_become yX4_become ∈ GW := zz_in 632 (by decide +kernel) (by decide +kernel)
theorem gl_X7_125 : Cond.methodLink RX7 125 yX4_become ∈ GW := zz_in 630 (by decide +kernel) (by decide +kernel)
theorem gf_X7_79 : Cond.fieldLink RX7 79 (TX4 4).1 (TX4 4).2.1 (TX4 4).2.2.1 ∈ GW := zz_in 235 (by decide +kernel) (by decide +kernel)
theorem gc_X5_fits : Cond.code yX5_fits cX5_fits 10 (some .boolean) ∈ GW := zz_in 595 (by decide +kernel) (by decide +kernel)
theorem gs_X5_fits : Cond.static yX5_fits ∈ GW := zz_in 594 (by decide +kernel) (by decide +kernel)
theorem gl_X7_82 : Cond.methodLink RX7 82 yX5_fits ∈ GW := zz_in 593 (by decide +kernel) (by decide +kernel)
theorem gl_X7_88 : Cond.methodLink RX7 88 yX4_flag ∈ GW := zz_in 622 (by decide +kernel) (by decide +kernel)
theorem gc_X7_numberAt : Cond.code yX7_numberAt cX7_numberAt 6 (some .int) ∈ GW := zz_in 625 (by decide +kernel) (by decide +kernel)
theorem gs_X7_numberAt : Cond.static yX7_numberAt ∈ GW := zz_in 624 (by decide +kernel) (by decide +kernel)
theorem gl_X7_91 : Cond.methodLink RX7 91 yX7_numberAt ∈ GW := zz_in 623 (by decide +kernel) (by decide +kernel)
theorem gf_X7_95 : Cond.fieldLink RX7 95 (TX4 1).1 (TX4 1).2.1 (TX4 1).2.2.1 ∈ GW := zz_in 220 (by decide +kernel) (by decide +kernel)
theorem gc_X7_goBack : Cond.code yX7_goBack cX7_goBack 2 (some .boolean) ∈ GW := zz_in 638 (by decide +kernel) (by decide +kernel)
theorem gi_X7_goBack : Cond.instanceMethod yX7_goBack ∈ GW := zz_in 637 (by decide +kernel) (by decide +kernel)
theorem gv_X7_goBack : Cond.selects yX7_goBack.cls yX7_goBack yX7_goBack ∈ GW := zz_in 10 (by decide +kernel) (by decide +kernel)
theorem gl_X7_105 : Cond.methodLink RX7 105 yX7_goBack ∈ GW := zz_in 635 (by decide +kernel) (by decide +kernel)
theorem gc_X7_keepPoint : Cond.code yX7_keepPoint cX7_keepPoint 2 (some .boolean) ∈ GW := zz_in 629 (by decide +kernel) (by decide +kernel)
theorem gi_X7_keepPoint : Cond.instanceMethod yX7_keepPoint ∈ GW := zz_in 628 (by decide +kernel) (by decide +kernel)
theorem gv_X7_keepPoint : Cond.selects yX7_keepPoint.cls yX7_keepPoint yX7_keepPoint ∈ GW := zz_in 9 (by decide +kernel) (by decide +kernel)
theorem gl_X7_101 : Cond.methodLink RX7 101 yX7_keepPoint ∈ GW := zz_in 626 (by decide +kernel) (by decide +kernel)
theorem gf_X7_42 : Cond.fieldLink RX7 42 (TX7 6).1 (TX7 6).2.1 (TX7 6).2.2.1 ∈ GW := zz_in 291 (by decide +kernel) (by decide +kernel)
theorem gc_X8_begin : Cond.code yX8_begin cX8_begin 1 none ∈ GW := zz_in 523 (by decide +kernel) (by decide +kernel)
theorem gi_X8_begin : Cond.instanceMethod yX8_begin ∈ GW := zz_in 521 (by decide +kernel) (by decide +kernel)
theorem gv_X8_begin : Cond.selects yX8_begin.cls yX8_begin yX8_begin ∈ GW := zz_in 522 (by decide +kernel) (by decide +kernel)
theorem gl_X7_37 : Cond.methodLink RX7 37 yX8_begin ∈ GW := zz_in 520 (by decide +kernel) (by decide +kernel)
theorem gf_X7_49 : Cond.fieldLink RX7 49 (TX0 1).1 (TX0 1).2.1 (TX0 1).2.2.1 ∈ GW := zz_in 77 (by decide +kernel) (by decide +kernel)
theorem gl_X7_54 : Cond.methodLink RX7 54 yX2_lineEnd ∈ GW := zz_in 528 (by decide +kernel) (by decide +kernel)
theorem gc_X7_comesOut : Cond.code yX7_comesOut cX7_comesOut 6 (some .boolean) ∈ GW := zz_in 592 (by decide +kernel) (by decide +kernel)
theorem gi_X7_comesOut : Cond.instanceMethod yX7_comesOut ∈ GW := zz_in 591 (by decide +kernel) (by decide +kernel)
theorem gv_X7_comesOut : Cond.selects yX7_comesOut.cls yX7_comesOut yX7_comesOut ∈ GW := zz_in 8 (by decide +kernel) (by decide +kernel)
theorem gl_X7_68 : Cond.methodLink RX7 68 yX7_comesOut ∈ GW := zz_in 589 (by decide +kernel) (by decide +kernel)
theorem gc_X7_noteFailed : Cond.code yX7_noteFailed cX7_noteFailed 2 none ∈ GW := zz_in 642 (by decide +kernel) (by decide +kernel)
theorem gi_X7_noteFailed : Cond.instanceMethod yX7_noteFailed ∈ GW := zz_in 641 (by decide +kernel) (by decide +kernel)
theorem gv_X7_noteFailed : Cond.selects yX7_noteFailed.cls yX7_noteFailed yX7_noteFailed ∈ GW := zz_in 11 (by decide +kernel) (by decide +kernel)
theorem gl_X7_71 : Cond.methodLink RX7 71 yX7_noteFailed ∈ GW := zz_in 639 (by decide +kernel) (by decide +kernel)
theorem gc_X7_saysAll : Cond.code yX7_saysAll cX7_saysAll 6 (some .boolean) ∈ GW := zz_in 533 (by decide +kernel) (by decide +kernel)
theorem gi_X7_saysAll : Cond.instanceMethod yX7_saysAll ∈ GW := zz_in 532 (by decide +kernel) (by decide +kernel)
theorem gv_X7_saysAll : Cond.selects yX7_saysAll.cls yX7_saysAll yX7_saysAll ∈ GW := zz_in 3 (by decide +kernel) (by decide +kernel)
theorem gl_X7_64 : Cond.methodLink RX7 64 yX7_saysAll ∈ GW := zz_in 530 (by decide +kernel) (by decide +kernel)
theorem gc_X7_runThrough : Cond.code yX7_runThrough cX7_runThrough 6 (some .int) ∈ GW := zz_in 519 (by decide +kernel) (by decide +kernel)
theorem gi_X7_runThrough : Cond.instanceMethod yX7_runThrough ∈ GW := zz_in 517 (by decide +kernel) (by decide +kernel)
theorem gv_X7_runThrough : Cond.selects yX7_runThrough.cls yX7_runThrough yX7_runThrough ∈ GW := zz_in 518 (by decide +kernel) (by decide +kernel)
theorem gl_X11_169 : Cond.methodLink RX11 169 yX7_runThrough ∈ GW := zz_in 516 (by decide +kernel) (by decide +kernel)
theorem gf_X11_172 : Cond.fieldLink RX11 172 (TX7 6).1 (TX7 6).2.1 (TX7 6).2.2.1 ∈ GW := zz_in 292 (by decide +kernel) (by decide +kernel)
theorem gf_X11_179 : Cond.fieldLink RX11 179 (TX7 5).1 (TX7 5).2.1 (TX7 5).2.2.1 ∈ GW := zz_in 290 (by decide +kernel) (by decide +kernel)
theorem gf_X11_175 : Cond.fieldLink RX11 175 (TX7 4).1 (TX7 4).2.1 (TX7 4).2.2.1 ∈ GW := zz_in 288 (by decide +kernel) (by decide +kernel)
theorem gc_X2_transcriptWord : Cond.code yX2_transcriptWord cX2_transcriptWord 3 (some .int) ∈ GW := zz_in 656 (by decide +kernel) (by decide +kernel)
theorem gs_X2_transcriptWord : Cond.static yX2_transcriptWord ∈ GW := zz_in 655 (by decide +kernel) (by decide +kernel)
theorem gl_X2_68 : Cond.methodLink RX2 68 yX2_transcriptWord ∈ GW := zz_in 654 (by decide +kernel) (by decide +kernel)
theorem gl_X2_71 : Cond.methodLink RX2 71 yX2_signsEnd ∈ GW := zz_in 657 (by decide +kernel) (by decide +kernel)
theorem gl_X10_127 : Cond.methodLink RX10 127 yX1_stands ∈ GW := zz_in 675 (by decide +kernel) (by decide +kernel)
theorem gl_X10_122 : Cond.methodLink RX10 122 yX0_at ∈ GW := zz_in 674 (by decide +kernel) (by decide +kernel)
theorem gf_X11_197 : Cond.fieldLink RX11 197 (TX8 1).1 (TX8 1).2.1 (TX8 1).2.2.1 ∈ GW := zz_in 252 (by decide +kernel) (by decide +kernel)
theorem gf_X11_201 : Cond.fieldLink RX11 201 (TX4 3).1 (TX4 3).2.1 (TX4 3).2.2.1 ∈ GW := zz_in 230 (by decide +kernel) (by decide +kernel)
theorem gl_X11_210 : Cond.methodLink RX11 210 yX8_hear ∈ GW := zz_in 669 (by decide +kernel) (by decide +kernel)
theorem gf_X11_213 : Cond.fieldLink RX11 213 (TX4 4).1 (TX4 4).2.1 (TX4 4).2.2.1 ∈ GW := zz_in 236 (by decide +kernel) (by decide +kernel)
theorem gc_X10_textStands : Cond.code yX10_textStands cX10_textStands 5 (some .boolean) ∈ GW := zz_in 673 (by decide +kernel) (by decide +kernel)
theorem gi_X10_textStands : Cond.instanceMethod yX10_textStands ∈ GW := zz_in 671 (by decide +kernel) (by decide +kernel)
theorem gv_X10_textStands : Cond.selects yX10_textStands.cls yX10_textStands yX10_textStands ∈ GW := zz_in 672 (by decide +kernel) (by decide +kernel)
theorem gl_X11_216 : Cond.methodLink RX11 216 yX10_textStands ∈ GW := zz_in 670 (by decide +kernel) (by decide +kernel)
theorem gl_X11_206 : Cond.methodLink RX11 206 yX0_at ∈ GW := zz_in 668 (by decide +kernel) (by decide +kernel)
theorem gl_X11_188 : Cond.methodLink RX11 188 yX8_begin ∈ GW := zz_in 662 (by decide +kernel) (by decide +kernel)
theorem gl_X11_191 : Cond.methodLink RX11 191 yX2_lineEnd ∈ GW := zz_in 663 (by decide +kernel) (by decide +kernel)
theorem gc_X11_answersAlike : Cond.code yX11_answersAlike cX11_answersAlike 6 (some .boolean) ∈ GW := zz_in 667 (by decide +kernel) (by decide +kernel)
theorem gi_X11_answersAlike : Cond.instanceMethod yX11_answersAlike ∈ GW := zz_in 666 (by decide +kernel) (by decide +kernel)
theorem gv_X11_answersAlike : Cond.selects yX11_answersAlike.cls yX11_answersAlike yX11_answersAlike ∈ GW := zz_in 13 (by decide +kernel) (by decide +kernel)
theorem gl_X11_194 : Cond.methodLink RX11 194 yX11_answersAlike ∈ GW := zz_in 664 (by decide +kernel) (by decide +kernel)
theorem gc_X2_wrongInTranscript : Cond.code yX2_wrongInTranscript cX2_wrongInTranscript 5 (some .int) ∈ GW := zz_in 653 (by decide +kernel) (by decide +kernel)
theorem gs_X2_wrongInTranscript : Cond.static yX2_wrongInTranscript ∈ GW := zz_in 652 (by decide +kernel) (by decide +kernel)
theorem gl_X11_182 : Cond.methodLink RX11 182 yX2_wrongInTranscript ∈ GW := zz_in 651 (by decide +kernel) (by decide +kernel)
theorem gc_X11_firstUnlikeLine : Cond.code yX11_firstUnlikeLine cX11_firstUnlikeLine 5 (some .int) ∈ GW := zz_in 661 (by decide +kernel) (by decide +kernel)
theorem gi_X11_firstUnlikeLine : Cond.instanceMethod yX11_firstUnlikeLine ∈ GW := zz_in 660 (by decide +kernel) (by decide +kernel)
theorem gv_X11_firstUnlikeLine : Cond.selects yX11_firstUnlikeLine.cls yX11_firstUnlikeLine yX11_firstUnlikeLine ∈ GW := zz_in 12 (by decide +kernel) (by decide +kernel)
theorem gl_X11_185 : Cond.methodLink RX11 185 yX11_firstUnlikeLine ∈ GW := zz_in 658 (by decide +kernel) (by decide +kernel)
theorem gf_X9_73 : Cond.fieldLink RX9 73 (TX4 4).1 (TX4 4).2.1 (TX4 4).2.2.1 ∈ GW := zz_in 232 (by decide +kernel) (by decide +kernel)
theorem gl_X9_76 : Cond.methodLink RX9 76 yX10_textLength ∈ GW := zz_in 692 (by decide +kernel) (by decide +kernel)
theorem gc_X4_hasFlagBelowZero : Cond.code yX4_hasFlagBelowZero cX4_hasFlagBelowZero 2 (some .boolean) ∈ GW := zz_in 696 (by decide +kernel) (by decide +kernel)
theorem gi_X4_hasFlagBelowZero : Cond.instanceMethod yX4_hasFlagBelowZero ∈ GW := zz_in 694 (by decide +kernel) (by decide +kernel)
theorem gv_X4_hasFlagBelowZero : Cond.selects yX4_hasFlagBelowZero.cls yX4_hasFlagBelowZero yX4_hasFlagBelowZero ∈ GW := zz_in 695 (by decide +kernel) (by decide +kernel)
theorem gl_X9_79 : Cond.methodLink RX9 79 yX4_hasFlagBelowZero ∈ GW := zz_in 693 (by decide +kernel) (by decide +kernel)
theorem gl_X9_30 : Cond.methodLink RX9 30 yX8_begin ∈ GW := zz_in 684 (by decide +kernel) (by decide +kernel)
theorem gf_X9_35 : Cond.fieldLink RX9 35 (TX9 4).1 (TX9 4).2.1 (TX9 4).2.2.1 ∈ GW := zz_in 325 (by decide +kernel) (by decide +kernel)
theorem gf_X9_39 : Cond.fieldLink RX9 39 (TX9 5).1 (TX9 5).2.1 (TX9 5).2.2.1 ∈ GW := zz_in 327 (by decide +kernel) (by decide +kernel)
theorem gf_X9_42 : Cond.fieldLink RX9 42 (TX8 1).1 (TX8 1).2.1 (TX8 1).2.2.1 ∈ GW := zz_in 250 (by decide +kernel) (by decide +kernel)
theorem gf_X9_45 : Cond.fieldLink RX9 45 (TX4 3).1 (TX4 3).2.1 (TX4 3).2.2.1 ∈ GW := zz_in 227 (by decide +kernel) (by decide +kernel)
theorem gl_X9_48 : Cond.methodLink RX9 48 yX10_nextSeed ∈ GW := zz_in 685 (by decide +kernel) (by decide +kernel)
theorem gf_X9_54 : Cond.fieldLink RX9 54 (TX10 0).1 (TX10 0).2.1 (TX10 0).2.2.1 ∈ GW := zz_in 177 (by decide +kernel) (by decide +kernel)
theorem gf_X9_57 : Cond.fieldLink RX9 57 (TX1 3).1 (TX1 3).2.1 (TX1 3).2.2.1 ∈ GW := zz_in 103 (by decide +kernel) (by decide +kernel)
theorem gl_X9_62 : Cond.methodLink RX9 62 yX10_drawn ∈ GW := zz_in 686 (by decide +kernel) (by decide +kernel)
theorem gl_X9_66 : Cond.methodLink RX9 66 yX8_hear ∈ GW := zz_in 687 (by decide +kernel) (by decide +kernel)
theorem gc_X9_ruleBroken : Cond.code yX9_ruleBroken cX9_ruleBroken 3 (some .int) ∈ GW := zz_in 691 (by decide +kernel) (by decide +kernel)
theorem gi_X9_ruleBroken : Cond.instanceMethod yX9_ruleBroken ∈ GW := zz_in 690 (by decide +kernel) (by decide +kernel)
theorem gv_X9_ruleBroken : Cond.selects yX9_ruleBroken.cls yX9_ruleBroken yX9_ruleBroken ∈ GW := zz_in 14 (by decide +kernel) (by decide +kernel)
theorem gl_X9_69 : Cond.methodLink RX9 69 yX9_ruleBroken ∈ GW := zz_in 688 (by decide +kernel) (by decide +kernel)
theorem gf_X11_220 : Cond.fieldLink RX11 220 (TX1 3).1 (TX1 3).2.1 (TX1 3).2.2.1 ∈ GW := zz_in 104 (by decide +kernel) (by decide +kernel)
theorem gc_X9_rage : Cond.code yX9_rage cX9_rage 6 (some .int) ∈ GW := zz_in 683 (by decide +kernel) (by decide +kernel)
theorem gi_X9_rage : Cond.instanceMethod yX9_rage ∈ GW := zz_in 681 (by decide +kernel) (by decide +kernel)
theorem gv_X9_rage : Cond.selects yX9_rage.cls yX9_rage yX9_rage ∈ GW := zz_in 682 (by decide +kernel) (by decide +kernel)
theorem gl_X11_223 : Cond.methodLink RX11 223 yX9_rage ∈ GW := zz_in 680 (by decide +kernel) (by decide +kernel)
theorem gf_X11_227 : Cond.fieldLink RX11 227 (TX9 4).1 (TX9 4).2.1 (TX9 4).2.2.1 ∈ GW := zz_in 326 (by decide +kernel) (by decide +kernel)
theorem gf_X11_228 : Cond.fieldLink RX11 228 (TX9 3).1 (TX9 3).2.1 (TX9 3).2.2.1 ∈ GW := zz_in 324 (by decide +kernel) (by decide +kernel)
theorem gf_X9_95 : Cond.fieldLink RX9 95 (TX10 5).1 (TX10 5).2.1 (TX10 5).2.2.1 ∈ GW := zz_in 189 (by decide +kernel) (by decide +kernel)
theorem gl_X9_98 : Cond.methodLink RX9 98 yX4_begin ∈ GW := zz_in 721 (by decide +kernel) (by decide +kernel)
theorem gl_X9_100 : Cond.methodLink RX9 100 yX10_say ∈ GW := zz_in 722 (by decide +kernel) (by decide +kernel)
theorem gc_X9_breaksAlikeWithout : Cond.code yX9_breaksAlikeWithout cX9_breaksAlikeWithout 6 (some .boolean) ∈ GW := zz_in 720 (by decide +kernel) (by decide +kernel)
theorem gi_X9_breaksAlikeWithout : Cond.instanceMethod yX9_breaksAlikeWithout ∈ GW := zz_in 719 (by decide +kernel) (by decide +kernel)
theorem gv_X9_breaksAlikeWithout : Cond.selects yX9_breaksAlikeWithout.cls yX9_breaksAlikeWithout yX9_breaksAlikeWithout ∈ GW := zz_in 16 (by decide +kernel) (by decide +kernel)
theorem gl_X9_91 : Cond.methodLink RX9 91 yX9_breaksAlikeWithout ∈ GW := zz_in 717 (by decide +kernel) (by decide +kernel)
theorem gc_X9_firstThatCanGo : Cond.code yX9_firstThatCanGo cX9_firstThatCanGo 2 (some .int) ∈ GW := zz_in 716 (by decide +kernel) (by decide +kernel)
theorem gi_X9_firstThatCanGo : Cond.instanceMethod yX9_firstThatCanGo ∈ GW := zz_in 715 (by decide +kernel) (by decide +kernel)
theorem gv_X9_firstThatCanGo : Cond.selects yX9_firstThatCanGo.cls yX9_firstThatCanGo yX9_firstThatCanGo ∈ GW := zz_in 15 (by decide +kernel) (by decide +kernel)
theorem gl_X9_83 : Cond.methodLink RX9 83 yX9_firstThatCanGo ∈ GW := zz_in 713 (by decide +kernel) (by decide +kernel)
theorem gc_X9_drop : Cond.code yX9_drop cX9_drop 3 none ∈ GW := zz_in 726 (by decide +kernel) (by decide +kernel)
theorem gi_X9_drop : Cond.instanceMethod yX9_drop ∈ GW := zz_in 725 (by decide +kernel) (by decide +kernel)
theorem gv_X9_drop : Cond.selects yX9_drop.cls yX9_drop yX9_drop ∈ GW := zz_in 17 (by decide +kernel) (by decide +kernel)
theorem gl_X9_87 : Cond.methodLink RX9 87 yX9_drop ∈ GW := zz_in 723 (by decide +kernel) (by decide +kernel)
theorem gf_X11_230 : Cond.fieldLink RX11 230 (TX9 5).1 (TX9 5).2.1 (TX9 5).2.2.1 ∈ GW := zz_in 328 (by decide +kernel) (by decide +kernel)
theorem gc_X9_shorten : Cond.code yX9_shorten cX9_shorten 3 (some .int) ∈ GW := zz_in 712 (by decide +kernel) (by decide +kernel)
theorem gi_X9_shorten : Cond.instanceMethod yX9_shorten ∈ GW := zz_in 710 (by decide +kernel) (by decide +kernel)
theorem gv_X9_shorten : Cond.selects yX9_shorten.cls yX9_shorten yX9_shorten ∈ GW := zz_in 711 (by decide +kernel) (by decide +kernel)
theorem gl_X11_233 : Cond.methodLink RX11 233 yX9_shorten ∈ GW := zz_in 709 (by decide +kernel) (by decide +kernel)
theorem gf_X11_236 : Cond.fieldLink RX11 236 (TX4 1).1 (TX4 1).2.1 (TX4 1).2.2.1 ∈ GW := zz_in 221 (by decide +kernel) (by decide +kernel)
theorem gf_X11_237 : Cond.fieldLink RX11 237 (TX4 2).1 (TX4 2).2.1 (TX4 2).2.2.1 ∈ GW := zz_in 225 (by decide +kernel) (by decide +kernel)
theorem gl_X11_240 : Cond.methodLink RX11 240 yX4_flag ∈ GW := zz_in 731 (by decide +kernel) (by decide +kernel)
theorem gf_X11_242 : Cond.fieldLink RX11 242 (TX8 2).1 (TX8 2).2.1 (TX8 2).2.2.1 ∈ GW := zz_in 254 (by decide +kernel) (by decide +kernel)
theorem gf_X11_245 : Cond.fieldLink RX11 245 (TX8 3).1 (TX8 3).2.1 (TX8 3).2.2.1 ∈ GW := zz_in 256 (by decide +kernel) (by decide +kernel)
theorem gf_X11_255 : Cond.fieldLink RX11 255 (TX8 5).1 (TX8 5).2.1 (TX8 5).2.2.1 ∈ GW := zz_in 260 (by decide +kernel) (by decide +kernel)
theorem gf_X11_258 : Cond.fieldLink RX11 258 (TX8 4).1 (TX8 4).2.1 (TX8 4).2.2.1 ∈ GW := zz_in 258 (by decide +kernel) (by decide +kernel)
theorem gf_X12_1 : Cond.fieldLink RX12 1 (TX12 0).1 (TX12 0).2.1 (TX12 0).2.2.1 ∈ GW := zz_in 838 (by decide +kernel) (by decide +kernel)
theorem gf_X12_75 : Cond.fieldLink RX12 75 (TX12 28).1 (TX12 28).2.1 (TX12 28).2.2.1 ∈ GW := zz_in 866 (by decide +kernel) (by decide +kernel)
theorem gf_X12_97 : Cond.fieldLink RX12 97 (TX12 3).1 (TX12 3).2.1 (TX12 3).2.2.1 ∈ GW := zz_in 841 (by decide +kernel) (by decide +kernel)
theorem gf_X12_78 : Cond.fieldLink RX12 78 (TX12 29).1 (TX12 29).2.1 (TX12 29).2.2.1 ∈ GW := zz_in 867 (by decide +kernel) (by decide +kernel)
theorem gl_X12_7 : Cond.methodLink RX12 7 Lib.objectInit ∈ GW := zz_in 833 (by decide +kernel) (by decide +kernel)
theorem gf_X12_13 : Cond.fieldLink RX12 13 (TX12 1).1 (TX12 1).2.1 (TX12 1).2.2.1 ∈ GW := zz_in 839 (by decide +kernel) (by decide +kernel)
theorem gf_X12_17 : Cond.fieldLink RX12 17 (TX12 5).1 (TX12 5).2.1 (TX12 5).2.2.1 ∈ GW := zz_in 843 (by decide +kernel) (by decide +kernel)
theorem gf_X12_20 : Cond.fieldLink RX12 20 (TX12 6).1 (TX12 6).2.1 (TX12 6).2.2.1 ∈ GW := zz_in 844 (by decide +kernel) (by decide +kernel)
theorem gf_X12_23 : Cond.fieldLink RX12 23 (TX12 8).1 (TX12 8).2.1 (TX12 8).2.2.1 ∈ GW := zz_in 846 (by decide +kernel) (by decide +kernel)
theorem gf_X12_26 : Cond.fieldLink RX12 26 (TX12 9).1 (TX12 9).2.1 (TX12 9).2.2.1 ∈ GW := zz_in 847 (by decide +kernel) (by decide +kernel)
theorem gf_X12_29 : Cond.fieldLink RX12 29 (TX12 11).1 (TX12 11).2.1 (TX12 11).2.2.1 ∈ GW := zz_in 849 (by decide +kernel) (by decide +kernel)
theorem gf_X12_32 : Cond.fieldLink RX12 32 (TX12 12).1 (TX12 12).2.1 (TX12 12).2.2.1 ∈ GW := zz_in 850 (by decide +kernel) (by decide +kernel)
theorem gf_X12_35 : Cond.fieldLink RX12 35 (TX12 13).1 (TX12 13).2.1 (TX12 13).2.2.1 ∈ GW := zz_in 851 (by decide +kernel) (by decide +kernel)
theorem gf_X12_38 : Cond.fieldLink RX12 38 (TX12 14).1 (TX12 14).2.1 (TX12 14).2.2.1 ∈ GW := zz_in 852 (by decide +kernel) (by decide +kernel)
theorem gf_X12_41 : Cond.fieldLink RX12 41 (TX12 15).1 (TX12 15).2.1 (TX12 15).2.2.1 ∈ GW := zz_in 853 (by decide +kernel) (by decide +kernel)
theorem gf_X12_44 : Cond.fieldLink RX12 44 (TX12 16).1 (TX12 16).2.1 (TX12 16).2.2.1 ∈ GW := zz_in 854 (by decide +kernel) (by decide +kernel)
theorem gf_X12_47 : Cond.fieldLink RX12 47 (TX12 17).1 (TX12 17).2.1 (TX12 17).2.2.1 ∈ GW := zz_in 855 (by decide +kernel) (by decide +kernel)
theorem gf_X12_50 : Cond.fieldLink RX12 50 (TX12 18).1 (TX12 18).2.1 (TX12 18).2.2.1 ∈ GW := zz_in 856 (by decide +kernel) (by decide +kernel)
theorem gf_X12_53 : Cond.fieldLink RX12 53 (TX12 19).1 (TX12 19).2.1 (TX12 19).2.2.1 ∈ GW := zz_in 857 (by decide +kernel) (by decide +kernel)
theorem gf_X12_56 : Cond.fieldLink RX12 56 (TX12 20).1 (TX12 20).2.1 (TX12 20).2.2.1 ∈ GW := zz_in 858 (by decide +kernel) (by decide +kernel)
theorem gf_X12_59 : Cond.fieldLink RX12 59 (TX12 21).1 (TX12 21).2.1 (TX12 21).2.2.1 ∈ GW := zz_in 859 (by decide +kernel) (by decide +kernel)
theorem gf_X12_62 : Cond.fieldLink RX12 62 (TX12 22).1 (TX12 22).2.1 (TX12 22).2.2.1 ∈ GW := zz_in 860 (by decide +kernel) (by decide +kernel)
theorem gf_X12_65 : Cond.fieldLink RX12 65 (TX12 23).1 (TX12 23).2.1 (TX12 23).2.2.1 ∈ GW := zz_in 861 (by decide +kernel) (by decide +kernel)
theorem gf_X12_68 : Cond.fieldLink RX12 68 (TX12 24).1 (TX12 24).2.1 (TX12 24).2.2.1 ∈ GW := zz_in 862 (by decide +kernel) (by decide +kernel)
theorem gf_X12_71 : Cond.fieldLink RX12 71 (TX12 27).1 (TX12 27).2.1 (TX12 27).2.2.1 ∈ GW := zz_in 865 (by decide +kernel) (by decide +kernel)
theorem gf_X12_82 : Cond.fieldLink RX12 82 (TX12 31).1 (TX12 31).2.1 (TX12 31).2.2.1 ∈ GW := zz_in 869 (by decide +kernel) (by decide +kernel)
theorem gf_X12_85 : Cond.fieldLink RX12 85 (TX12 32).1 (TX12 32).2.1 (TX12 32).2.2.1 ∈ GW := zz_in 870 (by decide +kernel) (by decide +kernel)
theorem gf_X12_88 : Cond.fieldLink RX12 88 (TX12 33).1 (TX12 33).2.1 (TX12 33).2.2.1 ∈ GW := zz_in 871 (by decide +kernel) (by decide +kernel)
theorem gf_X12_91 : Cond.fieldLink RX12 91 (TX12 34).1 (TX12 34).2.1 (TX12 34).2.2.1 ∈ GW := zz_in 872 (by decide +kernel) (by decide +kernel)
theorem gf_X12_94 : Cond.fieldLink RX12 94 (TX12 38).1 (TX12 38).2.1 (TX12 38).2.2.1 ∈ GW := zz_in 876 (by decide +kernel) (by decide +kernel)
theorem gc_X12_begin : Cond.code yX12_begin cX12_begin 2 none ∈ GW := zz_in 837 (by decide +kernel) (by decide +kernel)
theorem gt_X12 : Cond.initialized RX12 ∈ GW := zz_in 52 (by decide +kernel) (by decide +kernel)
theorem gi_X12_begin : Cond.instanceMethod yX12_begin ∈ GW := zz_in 836 (by decide +kernel) (by decide +kernel)
theorem gv_X12_begin : Cond.selects yX12_begin.cls yX12_begin yX12_begin ∈ GW := zz_in 19 (by decide +kernel) (by decide +kernel)
theorem gl_X12_100 : Cond.methodLink RX12 100 yX12_begin ∈ GW := zz_in 834 (by decide +kernel) (by decide +kernel)
theorem gk_X12_103 : Cond.constantLong RX12 103 (8) ∈ GW := zz_in 963 (by decide +kernel) (by decide +kernel)
theorem gc_X12_in : Cond.code yX12_in cX12_in 6 (some .boolean) ∈ GW := zz_in 966 (by decide +kernel) (by decide +kernel)
theorem gs_X12_in : Cond.static yX12_in ∈ GW := zz_in 965 (by decide +kernel) (by decide +kernel)
theorem gl_X12_105 : Cond.methodLink RX12 105 yX12_in ∈ GW := zz_in 964 (by decide +kernel) (by decide +kernel)
theorem gf_X12_109 : Cond.fieldLink RX12 109 (TX12 2).1 (TX12 2).2.1 (TX12 2).2.2.1 ∈ GW := zz_in 840 (by decide +kernel) (by decide +kernel)
theorem gk_X12_112 : Cond.constantLong RX12 112 (255) ∈ GW := zz_in 967 (by decide +kernel) (by decide +kernel)
theorem gk_X12_114 : Cond.constantLong RX12 114 (97) ∈ GW := zz_in 976 (by decide +kernel) (by decide +kernel)
theorem gk_X12_116 : Cond.constantLong RX12 116 (122) ∈ GW := zz_in 977 (by decide +kernel) (by decide +kernel)
theorem gk_X12_118 : Cond.constantLong RX12 118 (32) ∈ GW := zz_in 989 (by decide +kernel) (by decide +kernel)
theorem gk_X12_120 : Cond.constantLong RX12 120 (126) ∈ GW := zz_in 990 (by decide +kernel) (by decide +kernel)
theorem gf_X12_122 : Cond.fieldLink RX12 122 (TX12 4).1 (TX12 4).2.1 (TX12 4).2.2.1 ∈ GW := zz_in 842 (by decide +kernel) (by decide +kernel)
theorem gk_X12_125 : Cond.constantLong RX12 125 (6) ∈ GW := zz_in 972 (by decide +kernel) (by decide +kernel)
theorem gc_X12_wordAt : Cond.code yX12_wordAt cX12_wordAt 7 (some .int) ∈ GW := zz_in 981 (by decide +kernel) (by decide +kernel)
theorem gi_X12_wordAt : Cond.instanceMethod yX12_wordAt ∈ GW := zz_in 980 (by decide +kernel) (by decide +kernel)
theorem gv_X12_wordAt : Cond.selects yX12_wordAt.cls yX12_wordAt yX12_wordAt ∈ GW := zz_in 20 (by decide +kernel) (by decide +kernel)
theorem gl_X12_131 : Cond.methodLink RX12 131 yX12_wordAt ∈ GW := zz_in 978 (by decide +kernel) (by decide +kernel)
theorem gc_X12_isLetter : Cond.code yX12_isLetter cX12_isLetter 1 (some .boolean) ∈ GW := zz_in 975 (by decide +kernel) (by decide +kernel)
theorem gs_X12_isLetter : Cond.static yX12_isLetter ∈ GW := zz_in 974 (by decide +kernel) (by decide +kernel)
theorem gl_X12_127 : Cond.methodLink RX12 127 yX12_isLetter ∈ GW := zz_in 973 (by decide +kernel) (by decide +kernel)
theorem gf_X12_138 : Cond.fieldLink RX12 138 (TX12 7).1 (TX12 7).2.1 (TX12 7).2.2.1 ∈ GW := zz_in 845 (by decide +kernel) (by decide +kernel)
theorem gc_X12_isSign : Cond.code yX12_isSign cX12_isSign 1 (some .boolean) ∈ GW := zz_in 988 (by decide +kernel) (by decide +kernel)
theorem gs_X12_isSign : Cond.static yX12_isSign ∈ GW := zz_in 987 (by decide +kernel) (by decide +kernel)
theorem gl_X12_135 : Cond.methodLink RX12 135 yX12_isSign ∈ GW := zz_in 986 (by decide +kernel) (by decide +kernel)
theorem gk_X12_141 : Cond.constantLong RX12 141 (7) ∈ GW := zz_in 996 (by decide +kernel) (by decide +kernel)
theorem gk_X12_143 : Cond.constantLong RX12 143 (-1000) ∈ GW := zz_in 1000 (by decide +kernel) (by decide +kernel)
theorem gk_X12_145 : Cond.constantLong RX12 145 (1000) ∈ GW := zz_in 1001 (by decide +kernel) (by decide +kernel)
theorem gk_X12_147 : Cond.constantLong RX12 147 (3) ∈ GW := zz_in 1002 (by decide +kernel) (by decide +kernel)
theorem gk_X12_149 : Cond.constantLong RX12 149 (100) ∈ GW := zz_in 1003 (by decide +kernel) (by decide +kernel)
theorem gk_X12_151 : Cond.constantLong RX12 151 (9) ∈ GW := zz_in 1004 (by decide +kernel) (by decide +kernel)
theorem gk_X12_153 : Cond.constantLong RX12 153 (-1) ∈ GW := zz_in 995 (by decide +kernel) (by decide +kernel)
theorem gc_X12_actFits : Cond.code yX12_actFits cX12_actFits 3 (some .boolean) ∈ GW := zz_in 999 (by decide +kernel) (by decide +kernel)
theorem gs_X12_actFits : Cond.static yX12_actFits ∈ GW := zz_in 998 (by decide +kernel) (by decide +kernel)
theorem gl_X12_155 : Cond.methodLink RX12 155 yX12_actFits ∈ GW := zz_in 997 (by decide +kernel) (by decide +kernel)
theorem gf_X12_159 : Cond.fieldLink RX12 159 (TX12 10).1 (TX12 10).2.1 (TX12 10).2.2.1 ∈ GW := zz_in 848 (by decide +kernel) (by decide +kernel)
theorem gk_X12_162 : Cond.constantLong RX12 162 (2) ∈ GW := zz_in 1009 (by decide +kernel) (by decide +kernel)
theorem gk_X12_164 : Cond.constantLong RX12 164 (4) ∈ GW := zz_in 1010 (by decide +kernel) (by decide +kernel)
theorem gk_X12_166 : Cond.constant RX12 166 (1103515245) ∈ GW := zz_in 1073 (by decide +kernel) (by decide +kernel)
theorem gc_X12_drawn : Cond.code yX12_drawn cX12_drawn 1 (some .int) ∈ GW := zz_in 1072 (by decide +kernel) (by decide +kernel)
theorem gs_X12_drawn : Cond.static yX12_drawn ∈ GW := zz_in 1071 (by decide +kernel) (by decide +kernel)
theorem gl_X12_167 : Cond.methodLink RX12 167 yX12_drawn ∈ GW := zz_in 1070 (by decide +kernel) (by decide +kernel)
theorem gf_X12_171 : Cond.fieldLink RX12 171 (TX12 26).1 (TX12 26).2.1 (TX12 26).2.2.1 ∈ GW := zz_in 864 (by decide +kernel) (by decide +kernel)
theorem gc_X12_shows : Cond.code yX12_shows cX12_shows 2 none ∈ GW := zz_in 1065 (by decide +kernel) (by decide +kernel)
theorem gi_X12_shows : Cond.instanceMethod yX12_shows ∈ GW := zz_in 1064 (by decide +kernel) (by decide +kernel)
theorem gv_X12_shows : Cond.selects yX12_shows.cls yX12_shows yX12_shows ∈ GW := zz_in 30 (by decide +kernel) (by decide +kernel)
theorem gl_X12_174 : Cond.methodLink RX12 174 yX12_shows ∈ GW := zz_in 1062 (by decide +kernel) (by decide +kernel)
theorem gc_X12_acts : Cond.code yX12_acts cX12_acts 4 (some .int) ∈ GW := zz_in 1069 (by decide +kernel) (by decide +kernel)
theorem gi_X12_acts : Cond.instanceMethod yX12_acts ∈ GW := zz_in 1068 (by decide +kernel) (by decide +kernel)
theorem gv_X12_acts : Cond.selects yX12_acts.cls yX12_acts yX12_acts ∈ GW := zz_in 31 (by decide +kernel) (by decide +kernel)
theorem gl_X12_178 : Cond.methodLink RX12 178 yX12_acts ∈ GW := zz_in 1066 (by decide +kernel) (by decide +kernel)
theorem gf_X12_181 : Cond.fieldLink RX12 181 (TX12 25).1 (TX12 25).2.1 (TX12 25).2.2.1 ∈ GW := zz_in 863 (by decide +kernel) (by decide +kernel)
theorem gc_X12_byteAt : Cond.code yX12_byteAt cX12_byteAt 2 (some .int) ∈ GW := zz_in 1026 (by decide +kernel) (by decide +kernel)
theorem gi_X12_byteAt : Cond.instanceMethod yX12_byteAt ∈ GW := zz_in 1025 (by decide +kernel) (by decide +kernel)
theorem gv_X12_byteAt : Cond.selects yX12_byteAt.cls yX12_byteAt yX12_byteAt ∈ GW := zz_in 22 (by decide +kernel) (by decide +kernel)
theorem gl_X12_184 : Cond.methodLink RX12 184 yX12_byteAt ∈ GW := zz_in 1023 (by decide +kernel) (by decide +kernel)
theorem gk_X12_187 : Cond.constantLong RX12 187 (48) ∈ GW := zz_in 1039 (by decide +kernel) (by decide +kernel)
theorem gk_X12_189 : Cond.constantLong RX12 189 (55) ∈ GW := zz_in 1040 (by decide +kernel) (by decide +kernel)
theorem gk_X12_191 : Cond.constantLong RX12 191 (57) ∈ GW := zz_in 1041 (by decide +kernel) (by decide +kernel)
theorem gc_X12_wrongDigit : Cond.code yX12_wrongDigit cX12_wrongDigit 4 (some .int) ∈ GW := zz_in 1045 (by decide +kernel) (by decide +kernel)
theorem gi_X12_wrongDigit : Cond.instanceMethod yX12_wrongDigit ∈ GW := zz_in 1044 (by decide +kernel) (by decide +kernel)
theorem gv_X12_wrongDigit : Cond.selects yX12_wrongDigit.cls yX12_wrongDigit yX12_wrongDigit ∈ GW := zz_in 26 (by decide +kernel) (by decide +kernel)
theorem gl_X12_203 : Cond.methodLink RX12 203 yX12_wrongDigit ∈ GW := zz_in 1042 (by decide +kernel) (by decide +kernel)
theorem gc_X12_wrongPattern : Cond.code yX12_wrongPattern cX12_wrongPattern 5 (some .int) ∈ GW := zz_in 1034 (by decide +kernel) (by decide +kernel)
theorem gi_X12_wrongPattern : Cond.instanceMethod yX12_wrongPattern ∈ GW := zz_in 1033 (by decide +kernel) (by decide +kernel)
theorem gv_X12_wrongPattern : Cond.selects yX12_wrongPattern.cls yX12_wrongPattern yX12_wrongPattern ∈ GW := zz_in 24 (by decide +kernel) (by decide +kernel)
theorem gl_X12_197 : Cond.methodLink RX12 197 yX12_wrongPattern ∈ GW := zz_in 1031 (by decide +kernel) (by decide +kernel)
theorem gc_X12_wrongWords : Cond.code yX12_wrongWords cX12_wrongWords 7 (some .int) ∈ GW := zz_in 1030 (by decide +kernel) (by decide +kernel)
theorem gi_X12_wrongWords : Cond.instanceMethod yX12_wrongWords ∈ GW := zz_in 1029 (by decide +kernel) (by decide +kernel)
theorem gv_X12_wrongWords : Cond.selects yX12_wrongWords.cls yX12_wrongWords yX12_wrongWords ∈ GW := zz_in 23 (by decide +kernel) (by decide +kernel)
theorem gl_X12_193 : Cond.methodLink RX12 193 yX12_wrongWords ∈ GW := zz_in 1027 (by decide +kernel) (by decide +kernel)
theorem gc_X12_wrongFlag : Cond.code yX12_wrongFlag cX12_wrongFlag 4 (some .int) ∈ GW := zz_in 1038 (by decide +kernel) (by decide +kernel)
theorem gi_X12_wrongFlag : Cond.instanceMethod yX12_wrongFlag ∈ GW := zz_in 1037 (by decide +kernel) (by decide +kernel)
theorem gv_X12_wrongFlag : Cond.selects yX12_wrongFlag.cls yX12_wrongFlag yX12_wrongFlag ∈ GW := zz_in 25 (by decide +kernel) (by decide +kernel)
theorem gl_X12_200 : Cond.methodLink RX12 200 yX12_wrongFlag ∈ GW := zz_in 1035 (by decide +kernel) (by decide +kernel)
theorem gf_X12_210 : Cond.fieldLink RX12 210 (TX12 30).1 (TX12 30).2.1 (TX12 30).2.2.1 ∈ GW := zz_in 868 (by decide +kernel) (by decide +kernel)
theorem gc_X12_wrongLine : Cond.code yX12_wrongLine cX12_wrongLine 3 (some .int) ∈ GW := zz_in 1022 (by decide +kernel) (by decide +kernel)
theorem gi_X12_wrongLine : Cond.instanceMethod yX12_wrongLine ∈ GW := zz_in 1021 (by decide +kernel) (by decide +kernel)
theorem gv_X12_wrongLine : Cond.selects yX12_wrongLine.cls yX12_wrongLine yX12_wrongLine ∈ GW := zz_in 21 (by decide +kernel) (by decide +kernel)
theorem gl_X12_207 : Cond.methodLink RX12 207 yX12_wrongLine ∈ GW := zz_in 1019 (by decide +kernel) (by decide +kernel)
theorem gc_X12_signsOf : Cond.code yX12_signsOf cX12_signsOf 2 (some .int) ∈ GW := zz_in 1081 (by decide +kernel) (by decide +kernel)
theorem gi_X12_signsOf : Cond.instanceMethod yX12_signsOf ∈ GW := zz_in 1080 (by decide +kernel) (by decide +kernel)
theorem gv_X12_signsOf : Cond.selects yX12_signsOf.cls yX12_signsOf yX12_signsOf ∈ GW := zz_in 33 (by decide +kernel) (by decide +kernel)
theorem gl_X12_213 : Cond.methodLink RX12 213 yX12_signsOf ∈ GW := zz_in 1078 (by decide +kernel) (by decide +kernel)
theorem gc_X12_signOf : Cond.code yX12_signOf cX12_signOf 3 (some .int) ∈ GW := zz_in 1085 (by decide +kernel) (by decide +kernel)
theorem gi_X12_signOf : Cond.instanceMethod yX12_signOf ∈ GW := zz_in 1084 (by decide +kernel) (by decide +kernel)
theorem gv_X12_signOf : Cond.selects yX12_signOf.cls yX12_signOf yX12_signOf ∈ GW := zz_in 34 (by decide +kernel) (by decide +kernel)
theorem gl_X12_216 : Cond.methodLink RX12 216 yX12_signOf ∈ GW := zz_in 1082 (by decide +kernel) (by decide +kernel)
theorem gc_X12_says : Cond.code yX12_says cX12_says 4 (some .int) ∈ GW := zz_in 1061 (by decide +kernel) (by decide +kernel)
theorem gi_X12_says : Cond.instanceMethod yX12_says ∈ GW := zz_in 1060 (by decide +kernel) (by decide +kernel)
theorem gv_X12_says : Cond.selects yX12_says.cls yX12_says yX12_says ∈ GW := zz_in 29 (by decide +kernel) (by decide +kernel)
theorem gl_X12_231 : Cond.methodLink RX12 231 yX12_says ∈ GW := zz_in 1058 (by decide +kernel) (by decide +kernel)
theorem gf_X12_234 : Cond.fieldLink RX12 234 (TX12 36).1 (TX12 36).2.1 (TX12 36).2.2.1 ∈ GW := zz_in 874 (by decide +kernel) (by decide +kernel)
theorem gc_X12_matches : Cond.code yX12_matches cX12_matches 15 (some .boolean) ∈ GW := zz_in 1077 (by decide +kernel) (by decide +kernel)
theorem gi_X12_matches : Cond.instanceMethod yX12_matches ∈ GW := zz_in 1076 (by decide +kernel) (by decide +kernel)
theorem gv_X12_matches : Cond.selects yX12_matches.cls yX12_matches yX12_matches ∈ GW := zz_in 32 (by decide +kernel) (by decide +kernel)
theorem gl_X12_224 : Cond.methodLink RX12 224 yX12_matches ∈ GW := zz_in 1074 (by decide +kernel) (by decide +kernel)
theorem gc_X12_saysAll : Cond.code yX12_saysAll cX12_saysAll 5 (some .boolean) ∈ GW := zz_in 1057 (by decide +kernel) (by decide +kernel)
theorem gi_X12_saysAll : Cond.instanceMethod yX12_saysAll ∈ GW := zz_in 1056 (by decide +kernel) (by decide +kernel)
theorem gv_X12_saysAll : Cond.selects yX12_saysAll.cls yX12_saysAll yX12_saysAll ∈ GW := zz_in 28 (by decide +kernel) (by decide +kernel)
theorem gl_X12_220 : Cond.methodLink RX12 220 yX12_saysAll ∈ GW := zz_in 1054 (by decide +kernel) (by decide +kernel)
theorem gc_X12_copy : Cond.code yX12_copy cX12_copy 4 none ∈ GW := zz_in 1089 (by decide +kernel) (by decide +kernel)
theorem gi_X12_copy : Cond.instanceMethod yX12_copy ∈ GW := zz_in 1088 (by decide +kernel) (by decide +kernel)
theorem gv_X12_copy : Cond.selects yX12_copy.cls yX12_copy yX12_copy ∈ GW := zz_in 35 (by decide +kernel) (by decide +kernel)
theorem gl_X12_227 : Cond.methodLink RX12 227 yX12_copy ∈ GW := zz_in 1086 (by decide +kernel) (by decide +kernel)
theorem gf_X12_237 : Cond.fieldLink RX12 237 (TX12 35).1 (TX12 35).2.1 (TX12 35).2.2.1 ∈ GW := zz_in 873 (by decide +kernel) (by decide +kernel)
theorem gc_X12_comesOut : Cond.code yX12_comesOut cX12_comesOut 8 (some .boolean) ∈ GW := zz_in 1053 (by decide +kernel) (by decide +kernel)
theorem gi_X12_comesOut : Cond.instanceMethod yX12_comesOut ∈ GW := zz_in 1052 (by decide +kernel) (by decide +kernel)
theorem gv_X12_comesOut : Cond.selects yX12_comesOut.cls yX12_comesOut yX12_comesOut ∈ GW := zz_in 27 (by decide +kernel) (by decide +kernel)
theorem gl_X12_240 : Cond.methodLink RX12 240 yX12_comesOut ∈ GW := zz_in 1050 (by decide +kernel) (by decide +kernel)
theorem gc_X12_endOf : Cond.code yX12_endOf cX12_endOf 3 (some .int) ∈ GW := zz_in 1105 (by decide +kernel) (by decide +kernel)
theorem gi_X12_endOf : Cond.instanceMethod yX12_endOf ∈ GW := zz_in 1104 (by decide +kernel) (by decide +kernel)
theorem gv_X12_endOf : Cond.selects yX12_endOf.cls yX12_endOf yX12_endOf ∈ GW := zz_in 37 (by decide +kernel) (by decide +kernel)
theorem gl_X12_243 : Cond.methodLink RX12 243 yX12_endOf ∈ GW := zz_in 1102 (by decide +kernel) (by decide +kernel)
theorem gc_X12_wrongTranscript : Cond.code yX12_wrongTranscript cX12_wrongTranscript 5 (some .int) ∈ GW := zz_in 1101 (by decide +kernel) (by decide +kernel)
theorem gi_X12_wrongTranscript : Cond.instanceMethod yX12_wrongTranscript ∈ GW := zz_in 1100 (by decide +kernel) (by decide +kernel)
theorem gv_X12_wrongTranscript : Cond.selects yX12_wrongTranscript.cls yX12_wrongTranscript yX12_wrongTranscript ∈ GW := zz_in 36 (by decide +kernel) (by decide +kernel)
theorem gl_X12_246 : Cond.methodLink RX12 246 yX12_wrongTranscript ∈ GW := zz_in 1098 (by decide +kernel) (by decide +kernel)
theorem gc_X12_isLine : Cond.code yX12_isLine cX12_isLine 8 (some .boolean) ∈ GW := zz_in 1109 (by decide +kernel) (by decide +kernel)
theorem gi_X12_isLine : Cond.instanceMethod yX12_isLine ∈ GW := zz_in 1108 (by decide +kernel) (by decide +kernel)
theorem gv_X12_isLine : Cond.selects yX12_isLine.cls yX12_isLine yX12_isLine ∈ GW := zz_in 38 (by decide +kernel) (by decide +kernel)
theorem gl_X12_250 : Cond.methodLink RX12 250 yX12_isLine ∈ GW := zz_in 1106 (by decide +kernel) (by decide +kernel)
theorem gk_X12_254 : Cond.constantLong RX12 254 (60) ∈ GW := zz_in 1114 (by decide +kernel) (by decide +kernel)
theorem gf_X12_256 : Cond.fieldLink RX12 256 (TX12 37).1 (TX12 37).2.1 (TX12 37).2.2.1 ∈ GW := zz_in 875 (by decide +kernel) (by decide +kernel)
theorem gf_X12_259 : Cond.fieldLink RX12 259 (TX12 39).1 (TX12 39).2.1 (TX12 39).2.2.1 ∈ GW := zz_in 877 (by decide +kernel) (by decide +kernel)
theorem gc_X12_breaks : Cond.code yX12_breaks cX12_breaks 5 (some .int) ∈ GW := zz_in 1118 (by decide +kernel) (by decide +kernel)
theorem gi_X12_breaks : Cond.instanceMethod yX12_breaks ∈ GW := zz_in 1117 (by decide +kernel) (by decide +kernel)
theorem gv_X12_breaks : Cond.selects yX12_breaks.cls yX12_breaks yX12_breaks ∈ GW := zz_in 39 (by decide +kernel) (by decide +kernel)
theorem gl_X12_262 : Cond.methodLink RX12 262 yX12_breaks ∈ GW := zz_in 1115 (by decide +kernel) (by decide +kernel)
theorem gc_X12_canGo : Cond.code yX12_canGo cX12_canGo 5 (some .boolean) ∈ GW := zz_in 1134 (by decide +kernel) (by decide +kernel)
theorem gi_X12_canGo : Cond.instanceMethod yX12_canGo ∈ GW := zz_in 1133 (by decide +kernel) (by decide +kernel)
theorem gv_X12_canGo : Cond.selects yX12_canGo.cls yX12_canGo yX12_canGo ∈ GW := zz_in 40 (by decide +kernel) (by decide +kernel)
theorem gl_X12_265 : Cond.methodLink RX12 265 yX12_canGo ∈ GW := zz_in 1131 (by decide +kernel) (by decide +kernel)
theorem gk_X12_268 : Cond.constantLong RX12 268 (11) ∈ GW := zz_in 1139 (by decide +kernel) (by decide +kernel)
theorem gm_X1_init : zz_M yX1_init cX1_init 4 none 2 := ⟨gc_X1_init, gt_X1, by decide +kernel, by decide +kernel, by decide +kernel⟩
theorem gm_X3_init : zz_M yX3_init cX3_init 1 none 0 := ⟨gc_X3_init, gt_X3, by decide +kernel, by decide +kernel, by decide +kernel⟩
theorem gm_X6_init : zz_M yX6_init cX6_init 1 none 0 := ⟨gc_X6_init, gt_X6, by decide +kernel, by decide +kernel, by decide +kernel⟩
theorem gm_X4_init : zz_M yX4_init cX4_init 1 none 0 := ⟨gc_X4_init, gt_X4, by decide +kernel, by decide +kernel, by decide +kernel⟩
theorem gm_X0_init : zz_M yX0_init cX0_init 2 none 1 := ⟨gc_X0_init, gt_X0, by decide +kernel, by decide +kernel, by decide +kernel⟩
theorem gm_X10_init : zz_M yX10_init cX10_init 3 none 1 := ⟨gc_X10_init, gt_X10, by decide +kernel, by decide +kernel, by decide +kernel⟩
theorem gm_X8_init : zz_M yX8_init cX8_init 2 none 1 := ⟨gc_X8_init, gt_X8, by decide +kernel, by decide +kernel, by decide +kernel⟩
theorem gm_X7_init : zz_M yX7_init cX7_init 4 none 2 := ⟨gc_X7_init, gt_X7, by decide +kernel, by decide +kernel, by decide +kernel⟩
theorem gm_X9_init : zz_M yX9_init cX9_init 3 none 2 := ⟨gc_X9_init, gt_X9, by decide +kernel, by decide +kernel, by decide +kernel⟩
theorem gm_X0_append : zz_M yX0_append cX0_append 2 none 1 := ⟨gc_X0_append, gt_X0, by decide +kernel, by decide +kernel, by decide +kernel⟩
theorem gmv_X0_append : zz_MV yX0_append := ⟨gi_X0_append, gv_X0_append⟩
theorem gm_X0_at : zz_M yX0_at cX0_at 2 (some .int) 1 := ⟨gc_X0_at, gt_X0, by decide +kernel, by decide +kernel, by decide +kernel⟩
theorem gmv_X0_at : zz_MV yX0_at := ⟨gi_X0_at, gv_X0_at⟩
theorem gm_X2_isLetter : zz_M yX2_isLetter cX2_isLetter 1 (some .boolean) 1 := ⟨gc_X2_isLetter, gt_X2, by decide +kernel, by decide +kernel, by decide +kernel⟩
theorem gm_X1_lengthOf : zz_M yX1_lengthOf cX1_lengthOf 2 (some .int) 1 := ⟨gc_X1_lengthOf, gt_X1, by decide +kernel, by decide +kernel, by decide +kernel⟩
theorem gmv_X1_lengthOf : zz_MV yX1_lengthOf := ⟨gi_X1_lengthOf, gv_X1_lengthOf⟩
theorem gm_X1_signOf : zz_M yX1_signOf cX1_signOf 4 (some .int) 2 := ⟨gc_X1_signOf, gt_X1, by decide +kernel, by decide +kernel, by decide +kernel⟩
theorem gmv_X1_signOf : zz_MV yX1_signOf := ⟨gi_X1_signOf, gv_X1_signOf⟩
theorem gm_X1_stands : zz_M yX1_stands cX1_stands 6 (some .boolean) 4 := ⟨gc_X1_stands, gt_X1, by decide +kernel, by decide +kernel, by decide +kernel⟩
theorem gmv_X1_stands : zz_MV yX1_stands := ⟨gi_X1_stands, gv_X1_stands⟩
theorem gm_X2_lettersEnd : zz_M yX2_lettersEnd cX2_lettersEnd 3 (some .int) 2 := ⟨gc_X2_lettersEnd, gt_X2, by decide +kernel, by decide +kernel, by decide +kernel⟩
theorem gm_X1_find : zz_M yX1_find cX1_find 5 (some .int) 3 := ⟨gc_X1_find, gt_X1, by decide +kernel, by decide +kernel, by decide +kernel⟩
theorem gmv_X1_find : zz_MV yX1_find := ⟨gi_X1_find, gv_X1_find⟩
theorem gm_X1_append : zz_M yX1_append cX1_append 5 (some .int) 1 := ⟨gc_X1_append, gt_X1, by decide +kernel, by decide +kernel, by decide +kernel⟩
theorem gmv_X1_append : zz_MV yX1_append := ⟨gi_X1_append, gv_X1_append⟩
theorem gm_X11_addWord : zz_M yX11_addWord cX11_addWord 2 (some .int) 0 := ⟨gc_X11_addWord, gt_X11, by decide +kernel, by decide +kernel, by decide +kernel⟩
theorem gmv_X11_addWord : zz_MV yX11_addWord := ⟨gi_X11_addWord, gv_X11_addWord⟩
theorem gm_X0_clear : zz_M yX0_clear cX0_clear 1 none 0 := ⟨gc_X0_clear, gt_X0, by decide +kernel, by decide +kernel, by decide +kernel⟩
theorem gmv_X0_clear : zz_MV yX0_clear := ⟨gi_X0_clear, gv_X0_clear⟩
theorem gm_X2_isSign : zz_M yX2_isSign cX2_isSign 1 (some .boolean) 1 := ⟨gc_X2_isSign, gt_X2, by decide +kernel, by decide +kernel, by decide +kernel⟩
theorem gm_X2_signsEnd : zz_M yX2_signsEnd cX2_signsEnd 3 (some .int) 2 := ⟨gc_X2_signsEnd, gt_X2, by decide +kernel, by decide +kernel, by decide +kernel⟩
theorem gm_X11_addText : zz_M yX11_addText cX11_addText 1 (some .int) 0 := ⟨gc_X11_addText, gt_X11, by decide +kernel, by decide +kernel, by decide +kernel⟩
theorem gmv_X11_addText : zz_MV yX11_addText := ⟨gi_X11_addText, gv_X11_addText⟩
theorem gm_X11_inside : zz_M yX11_inside cX11_inside 3 (some .boolean) 3 := ⟨gc_X11_inside, gt_X11, by decide +kernel, by decide +kernel, by decide +kernel⟩
theorem gm_X1_has : zz_M yX1_has cX1_has 2 (some .boolean) 1 := ⟨gc_X1_has, gt_X1, by decide +kernel, by decide +kernel, by decide +kernel⟩
theorem gmv_X1_has : zz_MV yX1_has := ⟨gi_X1_has, gv_X1_has⟩
theorem gm_X11_actWants : zz_M yX11_actWants cX11_actWants 3 (some .boolean) 3 := ⟨gc_X11_actWants, gt_X11, by decide +kernel, by decide +kernel, by decide +kernel⟩
theorem gm_X10_nextRule : zz_M yX10_nextRule cX10_nextRule 1 (some (.object "ScriptTests$Rule")) 0 := ⟨gc_X10_nextRule, gt_X10, by decide +kernel, by decide +kernel, by decide +kernel⟩
theorem gmv_X10_nextRule : zz_MV yX10_nextRule := ⟨gi_X10_nextRule, gv_X10_nextRule⟩
theorem gm_X3_take : zz_M yX3_take cX3_take 5 none 3 := ⟨gc_X3_take, gt_X3, by decide +kernel, by decide +kernel, by decide +kernel⟩
theorem gmv_X3_take : zz_MV yX3_take := ⟨gi_X3_take, gv_X3_take⟩
theorem gm_X2_endsLine : zz_M yX2_endsLine cX2_endsLine 1 (some .boolean) 1 := ⟨gc_X2_endsLine, gt_X2, by decide +kernel, by decide +kernel, by decide +kernel⟩
theorem gm_X2_choice : zz_M yX2_choice cX2_choice 3 (some .int) 2 := ⟨gc_X2_choice, gt_X2, by decide +kernel, by decide +kernel, by decide +kernel⟩
theorem gm_X2_patternPart : zz_M yX2_patternPart cX2_patternPart 3 (some .int) 3 := ⟨gc_X2_patternPart, gt_X2, by decide +kernel, by decide +kernel, by decide +kernel⟩
theorem gm_X2_isDigit : zz_M yX2_isDigit cX2_isDigit 3 (some .boolean) 3 := ⟨gc_X2_isDigit, gt_X2, by decide +kernel, by decide +kernel, by decide +kernel⟩
theorem gm_X2_isKind : zz_M yX2_isKind cX2_isKind 1 (some .boolean) 1 := ⟨gc_X2_isKind, gt_X2, by decide +kernel, by decide +kernel, by decide +kernel⟩
theorem gm_X2_onlyDigit : zz_M yX2_onlyDigit cX2_onlyDigit 4 (some .int) 4 := ⟨gc_X2_onlyDigit, gt_X2, by decide +kernel, by decide +kernel, by decide +kernel⟩
theorem gm_X2_pattern : zz_M yX2_pattern cX2_pattern 5 (some .int) 2 := ⟨gc_X2_pattern, gt_X2, by decide +kernel, by decide +kernel, by decide +kernel⟩
theorem gm_X2_words : zz_M yX2_words cX2_words 5 (some .int) 2 := ⟨gc_X2_words, gt_X2, by decide +kernel, by decide +kernel, by decide +kernel⟩
theorem gm_X2_flagAndNumber : zz_M yX2_flagAndNumber cX2_flagAndNumber 5 (some .int) 2 := ⟨gc_X2_flagAndNumber, gt_X2, by decide +kernel, by decide +kernel, by decide +kernel⟩
theorem gm_X2_lineEnd : zz_M yX2_lineEnd cX2_lineEnd 3 (some .int) 2 := ⟨gc_X2_lineEnd, gt_X2, by decide +kernel, by decide +kernel, by decide +kernel⟩
theorem gm_X2_scriptLine : zz_M yX2_scriptLine cX2_scriptLine 4 (some .int) 2 := ⟨gc_X2_scriptLine, gt_X2, by decide +kernel, by decide +kernel, by decide +kernel⟩
theorem gm_X2_wrongInScript : zz_M yX2_wrongInScript cX2_wrongInScript 4 (some .int) 1 := ⟨gc_X2_wrongInScript, gt_X2, by decide +kernel, by decide +kernel, by decide +kernel⟩
theorem gm_X0_copy : zz_M yX0_copy cX0_copy 3 (some (.object "ScriptTests$Bytes")) 0 := ⟨gc_X0_copy, gt_X0, by decide +kernel, by decide +kernel, by decide +kernel⟩
theorem gmv_X0_copy : zz_MV yX0_copy := ⟨gi_X0_copy, gv_X0_copy⟩
theorem gm_X11_addScript : zz_M yX11_addScript cX11_addScript 2 (some .int) 0 := ⟨gc_X11_addScript, gt_X11, by decide +kernel, by decide +kernel, by decide +kernel⟩
theorem gmv_X11_addScript : zz_MV yX11_addScript := ⟨gi_X11_addScript, gv_X11_addScript⟩
theorem gm_X4_begin : zz_M yX4_begin cX4_begin 3 none 1 := ⟨gc_X4_begin, gt_X4, by decide +kernel, by decide +kernel, by decide +kernel⟩
theorem gmv_X4_begin : zz_MV yX4_begin := ⟨gi_X4_begin, gv_X4_begin⟩
theorem gm_X4_flag : zz_M yX4_flag cX4_flag 2 (some .int) 1 := ⟨gc_X4_flag, gt_X4, by decide +kernel, by decide +kernel, by decide +kernel⟩
theorem gmv_X4_flag : zz_MV yX4_flag := ⟨gi_X4_flag, gv_X4_flag⟩
theorem gm_X6_fits : zz_M yX6_fits cX6_fits 3 (some .boolean) 2 := ⟨gc_X6_fits, gt_X6, by decide +kernel, by decide +kernel, by decide +kernel⟩
theorem gmv_X6_fits : zz_MV yX6_fits := ⟨gi_X6_fits, gv_X6_fits⟩
theorem gm_X4_setFlag : zz_M yX4_setFlag cX4_setFlag 3 none 2 := ⟨gc_X4_setFlag, gt_X4, by decide +kernel, by decide +kernel, by decide +kernel⟩
theorem gmv_X4_setFlag : zz_MV yX4_setFlag := ⟨gi_X4_setFlag, gv_X4_setFlag⟩
theorem gm_X3_faultAt : zz_M yX3_faultAt cX3_faultAt 3 (some .int) 2 := ⟨gc_X3_faultAt, gt_X3, by decide +kernel, by decide +kernel, by decide +kernel⟩
theorem gmv_X3_faultAt : zz_MV yX3_faultAt := ⟨gi_X3_faultAt, gv_X3_faultAt⟩
theorem gm_X3_item : zz_M yX3_item cX3_item 2 (some .int) 1 := ⟨gc_X3_item, gt_X3, by decide +kernel, by decide +kernel, by decide +kernel⟩
theorem gmv_X3_item : zz_MV yX3_item := ⟨gi_X3_item, gv_X3_item⟩
theorem gm_X10_divide : zz_M yX10_divide cX10_divide 4 (some .int) 2 := ⟨gc_X10_divide, gt_X10, by decide +kernel, by decide +kernel, by decide +kernel⟩
theorem gmv_X10_divide : zz_MV yX10_divide := ⟨gi_X10_divide, gv_X10_divide⟩
theorem gm_X10_takeItem : zz_M yX10_takeItem cX10_takeItem 6 (some .int) 4 := ⟨gc_X10_takeItem, gt_X10, by decide +kernel, by decide +kernel, by decide +kernel⟩
theorem gmv_X10_takeItem : zz_MV yX10_takeItem := ⟨gi_X10_takeItem, gv_X10_takeItem⟩
theorem gm_X10_nextSeed : zz_M yX10_nextSeed cX10_nextSeed 1 (some .int) 1 := ⟨gc_X10_nextSeed, gt_X10, by decide +kernel, by decide +kernel, by decide +kernel⟩
theorem gm_X10_drawn : zz_M yX10_drawn cX10_drawn 2 (some .int) 2 := ⟨gc_X10_drawn, gt_X10, by decide +kernel, by decide +kernel, by decide +kernel⟩
theorem gm_X10_act : zz_M yX10_act cX10_act 3 (some .int) 2 := ⟨gc_X10_act, gt_X10, by decide +kernel, by decide +kernel, by decide +kernel⟩
theorem gmv_X10_act : zz_MV yX10_act := ⟨gi_X10_act, gv_X10_act⟩
theorem gm_X10_firstThatFits : zz_M yX10_firstThatFits cX10_firstThatFits 4 (some .int) 2 := ⟨gc_X10_firstThatFits, gt_X10, by decide +kernel, by decide +kernel, by decide +kernel⟩
theorem gmv_X10_firstThatFits : zz_MV yX10_firstThatFits := ⟨gi_X10_firstThatFits, gv_X10_firstThatFits⟩
theorem gm_X10_say : zz_M yX10_say cX10_say 6 (some .int) 2 := ⟨gc_X10_say, gt_X10, by decide +kernel, by decide +kernel, by decide +kernel⟩
theorem gmv_X10_say : zz_MV yX10_say := ⟨gi_X10_say, gv_X10_say⟩
theorem gm_X8_hear : zz_M yX8_hear cX8_hear 4 (some .int) 1 := ⟨gc_X8_hear, gt_X8, by decide +kernel, by decide +kernel, by decide +kernel⟩
theorem gmv_X8_hear : zz_MV yX8_hear := ⟨gi_X8_hear, gv_X8_hear⟩
theorem gm_X10_textSign : zz_M yX10_textSign cX10_textSign 3 (some .int) 2 := ⟨gc_X10_textSign, gt_X10, by decide +kernel, by decide +kernel, by decide +kernel⟩
theorem gmv_X10_textSign : zz_MV yX10_textSign := ⟨gi_X10_textSign, gv_X10_textSign⟩
theorem gm_X5_takes : zz_M yX5_takes cX5_takes 6 (some .boolean) 4 := ⟨gc_X5_takes, gt_X5, by decide +kernel, by decide +kernel, by decide +kernel⟩
theorem gm_X10_textLength : zz_M yX10_textLength cX10_textLength 2 (some .int) 1 := ⟨gc_X10_textLength, gt_X10, by decide +kernel, by decide +kernel, by decide +kernel⟩
theorem gmv_X10_textLength : zz_MV yX10_textLength := ⟨gi_X10_textLength, gv_X10_textLength⟩
theorem gm_J9_min_7cf53 : zz_M yJ9_min_7cf53 cJ9_min_7cf53 2 (some .int) 2 := ⟨gc_J9_min_7cf53, gt_J9, by decide +kernel, by decide +kernel, by decide +kernel⟩
theorem gm_X5_partEnd : zz_M yX5_partEnd cX5_partEnd 5 (some .int) 3 := ⟨gc_X5_partEnd, gt_X5, by decide +kernel, by decide +kernel, by decide +kernel⟩
theorem gm_J9_max_7cf53 : zz_M yJ9_max_7cf53 cJ9_max_7cf53 2 (some .int) 2 := ⟨gc_J9_max_7cf53, gt_J9, by decide +kernel, by decide +kernel, by decide +kernel⟩
theorem gm_X5_oneSignFurther : zz_M yX5_oneSignFurther cX5_oneSignFurther 8 (some .int) 6 := ⟨gc_X5_oneSignFurther, gt_X5, by decide +kernel, by decide +kernel, by decide +kernel⟩
theorem gm_X4_become : zz_M yX4_become cX4_become 3 none 1 := ⟨gc_X4_become, gt_X4, by decide +kernel, by decide +kernel, by decide +kernel⟩
theorem gmv_X4_become : zz_MV yX4_become := ⟨gi_X4_become, gv_X4_become⟩
theorem gm_X5_fits : zz_M yX5_fits cX5_fits 10 (some .boolean) 5 := ⟨gc_X5_fits, gt_X5, by decide +kernel, by decide +kernel, by decide +kernel⟩
theorem gm_X7_numberAt : zz_M yX7_numberAt cX7_numberAt 6 (some .int) 3 := ⟨gc_X7_numberAt, gt_X7, by decide +kernel, by decide +kernel, by decide +kernel⟩
theorem gm_X7_goBack : zz_M yX7_goBack cX7_goBack 2 (some .boolean) 1 := ⟨gc_X7_goBack, gt_X7, by decide +kernel, by decide +kernel, by decide +kernel⟩
theorem gmv_X7_goBack : zz_MV yX7_goBack := ⟨gi_X7_goBack, gv_X7_goBack⟩
theorem gm_X7_keepPoint : zz_M yX7_keepPoint cX7_keepPoint 2 (some .boolean) 1 := ⟨gc_X7_keepPoint, gt_X7, by decide +kernel, by decide +kernel, by decide +kernel⟩
theorem gmv_X7_keepPoint : zz_MV yX7_keepPoint := ⟨gi_X7_keepPoint, gv_X7_keepPoint⟩
theorem gm_X8_begin : zz_M yX8_begin cX8_begin 1 none 0 := ⟨gc_X8_begin, gt_X8, by decide +kernel, by decide +kernel, by decide +kernel⟩
theorem gmv_X8_begin : zz_MV yX8_begin := ⟨gi_X8_begin, gv_X8_begin⟩
theorem gm_X7_comesOut : zz_M yX7_comesOut cX7_comesOut 6 (some .boolean) 3 := ⟨gc_X7_comesOut, gt_X7, by decide +kernel, by decide +kernel, by decide +kernel⟩
theorem gmv_X7_comesOut : zz_MV yX7_comesOut := ⟨gi_X7_comesOut, gv_X7_comesOut⟩
theorem gm_X7_noteFailed : zz_M yX7_noteFailed cX7_noteFailed 2 none 1 := ⟨gc_X7_noteFailed, gt_X7, by decide +kernel, by decide +kernel, by decide +kernel⟩
theorem gmv_X7_noteFailed : zz_MV yX7_noteFailed := ⟨gi_X7_noteFailed, gv_X7_noteFailed⟩
theorem gm_X7_saysAll : zz_M yX7_saysAll cX7_saysAll 6 (some .boolean) 3 := ⟨gc_X7_saysAll, gt_X7, by decide +kernel, by decide +kernel, by decide +kernel⟩
theorem gmv_X7_saysAll : zz_MV yX7_saysAll := ⟨gi_X7_saysAll, gv_X7_saysAll⟩
theorem gm_X7_runThrough : zz_M yX7_runThrough cX7_runThrough 6 (some .int) 1 := ⟨gc_X7_runThrough, gt_X7, by decide +kernel, by decide +kernel, by decide +kernel⟩
theorem gmv_X7_runThrough : zz_MV yX7_runThrough := ⟨gi_X7_runThrough, gv_X7_runThrough⟩
theorem gm_X2_transcriptWord : zz_M yX2_transcriptWord cX2_transcriptWord 3 (some .int) 2 := ⟨gc_X2_transcriptWord, gt_X2, by decide +kernel, by decide +kernel, by decide +kernel⟩
theorem gm_X10_textStands : zz_M yX10_textStands cX10_textStands 5 (some .boolean) 4 := ⟨gc_X10_textStands, gt_X10, by decide +kernel, by decide +kernel, by decide +kernel⟩
theorem gmv_X10_textStands : zz_MV yX10_textStands := ⟨gi_X10_textStands, gv_X10_textStands⟩
theorem gm_X11_answersAlike : zz_M yX11_answersAlike cX11_answersAlike 6 (some .boolean) 3 := ⟨gc_X11_answersAlike, gt_X11, by decide +kernel, by decide +kernel, by decide +kernel⟩
theorem gmv_X11_answersAlike : zz_MV yX11_answersAlike := ⟨gi_X11_answersAlike, gv_X11_answersAlike⟩
theorem gm_X2_wrongInTranscript : zz_M yX2_wrongInTranscript cX2_wrongInTranscript 5 (some .int) 1 := ⟨gc_X2_wrongInTranscript, gt_X2, by decide +kernel, by decide +kernel, by decide +kernel⟩
theorem gm_X11_firstUnlikeLine : zz_M yX11_firstUnlikeLine cX11_firstUnlikeLine 5 (some .int) 0 := ⟨gc_X11_firstUnlikeLine, gt_X11, by decide +kernel, by decide +kernel, by decide +kernel⟩
theorem gmv_X11_firstUnlikeLine : zz_MV yX11_firstUnlikeLine := ⟨gi_X11_firstUnlikeLine, gv_X11_firstUnlikeLine⟩
theorem gm_X4_hasFlagBelowZero : zz_M yX4_hasFlagBelowZero cX4_hasFlagBelowZero 2 (some .boolean) 0 := ⟨gc_X4_hasFlagBelowZero, gt_X4, by decide +kernel, by decide +kernel, by decide +kernel⟩
theorem gmv_X4_hasFlagBelowZero : zz_MV yX4_hasFlagBelowZero := ⟨gi_X4_hasFlagBelowZero, gv_X4_hasFlagBelowZero⟩
theorem gm_X9_ruleBroken : zz_M yX9_ruleBroken cX9_ruleBroken 3 (some .int) 2 := ⟨gc_X9_ruleBroken, gt_X9, by decide +kernel, by decide +kernel, by decide +kernel⟩
theorem gmv_X9_ruleBroken : zz_MV yX9_ruleBroken := ⟨gi_X9_ruleBroken, gv_X9_ruleBroken⟩
theorem gm_X9_rage : zz_M yX9_rage cX9_rage 6 (some .int) 2 := ⟨gc_X9_rage, gt_X9, by decide +kernel, by decide +kernel, by decide +kernel⟩
theorem gmv_X9_rage : zz_MV yX9_rage := ⟨gi_X9_rage, gv_X9_rage⟩
theorem gm_X9_breaksAlikeWithout : zz_M yX9_breaksAlikeWithout cX9_breaksAlikeWithout 6 (some .boolean) 1 := ⟨gc_X9_breaksAlikeWithout, gt_X9, by decide +kernel, by decide +kernel, by decide +kernel⟩
theorem gmv_X9_breaksAlikeWithout : zz_MV yX9_breaksAlikeWithout := ⟨gi_X9_breaksAlikeWithout, gv_X9_breaksAlikeWithout⟩
theorem gm_X9_firstThatCanGo : zz_M yX9_firstThatCanGo cX9_firstThatCanGo 2 (some .int) 0 := ⟨gc_X9_firstThatCanGo, gt_X9, by decide +kernel, by decide +kernel, by decide +kernel⟩
theorem gmv_X9_firstThatCanGo : zz_MV yX9_firstThatCanGo := ⟨gi_X9_firstThatCanGo, gv_X9_firstThatCanGo⟩
theorem gm_X9_drop : zz_M yX9_drop cX9_drop 3 none 1 := ⟨gc_X9_drop, gt_X9, by decide +kernel, by decide +kernel, by decide +kernel⟩
theorem gmv_X9_drop : zz_MV yX9_drop := ⟨gi_X9_drop, gv_X9_drop⟩
theorem gm_X9_shorten : zz_M yX9_shorten cX9_shorten 3 (some .int) 0 := ⟨gc_X9_shorten, gt_X9, by decide +kernel, by decide +kernel, by decide +kernel⟩
theorem gmv_X9_shorten : zz_MV yX9_shorten := ⟨gi_X9_shorten, gv_X9_shorten⟩
theorem gm_X12_begin : zz_M yX12_begin cX12_begin 2 none 0 := ⟨gc_X12_begin, gt_X12, by decide +kernel, by decide +kernel, by decide +kernel⟩
theorem gmv_X12_begin : zz_MV yX12_begin := ⟨gi_X12_begin, gv_X12_begin⟩
theorem gm_X12_in : zz_M yX12_in cX12_in 6 (some .boolean) 3 := ⟨gc_X12_in, gt_X12, by decide +kernel, by decide +kernel, by decide +kernel⟩
theorem gm_X12_wordAt : zz_M yX12_wordAt cX12_wordAt 7 (some .int) 3 := ⟨gc_X12_wordAt, gt_X12, by decide +kernel, by decide +kernel, by decide +kernel⟩
theorem gmv_X12_wordAt : zz_MV yX12_wordAt := ⟨gi_X12_wordAt, gv_X12_wordAt⟩
theorem gm_X12_isLetter : zz_M yX12_isLetter cX12_isLetter 1 (some .boolean) 1 := ⟨gc_X12_isLetter, gt_X12, by decide +kernel, by decide +kernel, by decide +kernel⟩
theorem gm_X12_isSign : zz_M yX12_isSign cX12_isSign 1 (some .boolean) 1 := ⟨gc_X12_isSign, gt_X12, by decide +kernel, by decide +kernel, by decide +kernel⟩
theorem gm_X12_actFits : zz_M yX12_actFits cX12_actFits 3 (some .boolean) 3 := ⟨gc_X12_actFits, gt_X12, by decide +kernel, by decide +kernel, by decide +kernel⟩
theorem gm_X12_drawn : zz_M yX12_drawn cX12_drawn 1 (some .int) 1 := ⟨gc_X12_drawn, gt_X12, by decide +kernel, by decide +kernel, by decide +kernel⟩
theorem gm_X12_shows : zz_M yX12_shows cX12_shows 2 none 1 := ⟨gc_X12_shows, gt_X12, by decide +kernel, by decide +kernel, by decide +kernel⟩
theorem gmv_X12_shows : zz_MV yX12_shows := ⟨gi_X12_shows, gv_X12_shows⟩
theorem gm_X12_acts : zz_M yX12_acts cX12_acts 4 (some .int) 1 := ⟨gc_X12_acts, gt_X12, by decide +kernel, by decide +kernel, by decide +kernel⟩
theorem gmv_X12_acts : zz_MV yX12_acts := ⟨gi_X12_acts, gv_X12_acts⟩
theorem gm_X12_byteAt : zz_M yX12_byteAt cX12_byteAt 2 (some .int) 1 := ⟨gc_X12_byteAt, gt_X12, by decide +kernel, by decide +kernel, by decide +kernel⟩
theorem gmv_X12_byteAt : zz_MV yX12_byteAt := ⟨gi_X12_byteAt, gv_X12_byteAt⟩
theorem gm_X12_wrongDigit : zz_M yX12_wrongDigit cX12_wrongDigit 4 (some .int) 3 := ⟨gc_X12_wrongDigit, gt_X12, by decide +kernel, by decide +kernel, by decide +kernel⟩
theorem gmv_X12_wrongDigit : zz_MV yX12_wrongDigit := ⟨gi_X12_wrongDigit, gv_X12_wrongDigit⟩
theorem gm_X12_wrongPattern : zz_M yX12_wrongPattern cX12_wrongPattern 5 (some .int) 1 := ⟨gc_X12_wrongPattern, gt_X12, by decide +kernel, by decide +kernel, by decide +kernel⟩
theorem gmv_X12_wrongPattern : zz_MV yX12_wrongPattern := ⟨gi_X12_wrongPattern, gv_X12_wrongPattern⟩
theorem gm_X12_wrongWords : zz_M yX12_wrongWords cX12_wrongWords 7 (some .int) 2 := ⟨gc_X12_wrongWords, gt_X12, by decide +kernel, by decide +kernel, by decide +kernel⟩
theorem gmv_X12_wrongWords : zz_MV yX12_wrongWords := ⟨gi_X12_wrongWords, gv_X12_wrongWords⟩
theorem gm_X12_wrongFlag : zz_M yX12_wrongFlag cX12_wrongFlag 4 (some .int) 1 := ⟨gc_X12_wrongFlag, gt_X12, by decide +kernel, by decide +kernel, by decide +kernel⟩
theorem gmv_X12_wrongFlag : zz_MV yX12_wrongFlag := ⟨gi_X12_wrongFlag, gv_X12_wrongFlag⟩
theorem gm_X12_wrongLine : zz_M yX12_wrongLine cX12_wrongLine 3 (some .int) 1 := ⟨gc_X12_wrongLine, gt_X12, by decide +kernel, by decide +kernel, by decide +kernel⟩
theorem gmv_X12_wrongLine : zz_MV yX12_wrongLine := ⟨gi_X12_wrongLine, gv_X12_wrongLine⟩
theorem gm_X12_signsOf : zz_M yX12_signsOf cX12_signsOf 2 (some .int) 1 := ⟨gc_X12_signsOf, gt_X12, by decide +kernel, by decide +kernel, by decide +kernel⟩
theorem gmv_X12_signsOf : zz_MV yX12_signsOf := ⟨gi_X12_signsOf, gv_X12_signsOf⟩
theorem gm_X12_signOf : zz_M yX12_signOf cX12_signOf 3 (some .int) 2 := ⟨gc_X12_signOf, gt_X12, by decide +kernel, by decide +kernel, by decide +kernel⟩
theorem gmv_X12_signOf : zz_MV yX12_signOf := ⟨gi_X12_signOf, gv_X12_signOf⟩
theorem gm_X12_says : zz_M yX12_says cX12_says 4 (some .int) 1 := ⟨gc_X12_says, gt_X12, by decide +kernel, by decide +kernel, by decide +kernel⟩
theorem gmv_X12_says : zz_MV yX12_says := ⟨gi_X12_says, gv_X12_says⟩
theorem gm_X12_matches : zz_M yX12_matches cX12_matches 15 (some .boolean) 3 := ⟨gc_X12_matches, gt_X12, by decide +kernel, by decide +kernel, by decide +kernel⟩
theorem gmv_X12_matches : zz_MV yX12_matches := ⟨gi_X12_matches, gv_X12_matches⟩
theorem gm_X12_saysAll : zz_M yX12_saysAll cX12_saysAll 5 (some .boolean) 2 := ⟨gc_X12_saysAll, gt_X12, by decide +kernel, by decide +kernel, by decide +kernel⟩
theorem gmv_X12_saysAll : zz_MV yX12_saysAll := ⟨gi_X12_saysAll, gv_X12_saysAll⟩
theorem gm_X12_copy : zz_M yX12_copy cX12_copy 4 none 2 := ⟨gc_X12_copy, gt_X12, by decide +kernel, by decide +kernel, by decide +kernel⟩
theorem gmv_X12_copy : zz_MV yX12_copy := ⟨gi_X12_copy, gv_X12_copy⟩
theorem gm_X12_comesOut : zz_M yX12_comesOut cX12_comesOut 8 (some .boolean) 2 := ⟨gc_X12_comesOut, gt_X12, by decide +kernel, by decide +kernel, by decide +kernel⟩
theorem gmv_X12_comesOut : zz_MV yX12_comesOut := ⟨gi_X12_comesOut, gv_X12_comesOut⟩
theorem gm_X12_endOf : zz_M yX12_endOf cX12_endOf 3 (some .int) 1 := ⟨gc_X12_endOf, gt_X12, by decide +kernel, by decide +kernel, by decide +kernel⟩
theorem gmv_X12_endOf : zz_MV yX12_endOf := ⟨gi_X12_endOf, gv_X12_endOf⟩
theorem gm_X12_wrongTranscript : zz_M yX12_wrongTranscript cX12_wrongTranscript 5 (some .int) 0 := ⟨gc_X12_wrongTranscript, gt_X12, by decide +kernel, by decide +kernel, by decide +kernel⟩
theorem gmv_X12_wrongTranscript : zz_MV yX12_wrongTranscript := ⟨gi_X12_wrongTranscript, gv_X12_wrongTranscript⟩
theorem gm_X12_isLine : zz_M yX12_isLine cX12_isLine 8 (some .boolean) 4 := ⟨gc_X12_isLine, gt_X12, by decide +kernel, by decide +kernel, by decide +kernel⟩
theorem gmv_X12_isLine : zz_MV yX12_isLine := ⟨gi_X12_isLine, gv_X12_isLine⟩
theorem gm_X12_breaks : zz_M yX12_breaks cX12_breaks 5 (some .int) 1 := ⟨gc_X12_breaks, gt_X12, by decide +kernel, by decide +kernel, by decide +kernel⟩
theorem gmv_X12_breaks : zz_MV yX12_breaks := ⟨gi_X12_breaks, gv_X12_breaks⟩
theorem gm_X12_canGo : zz_M yX12_canGo cX12_canGo 5 (some .boolean) 1 := ⟨gc_X12_canGo, gt_X12, by decide +kernel, by decide +kernel, by decide +kernel⟩
theorem gmv_X12_canGo : zz_MV yX12_canGo := ⟨gi_X12_canGo, gv_X12_canGo⟩
end
section
noncomputable def f_X0_init_J14 (h : ZH) (a0 : Nat) (a1 : Int32) (s1 : Int32) (s2 : Nat) (h3 : ZH) (n4 : Nat) (kc5 : Nat) (ks6 : Nat) : Option (ZH × Nat) :=
  zz_ok (¬ s1 < 0 ∧ s1.toNatClampNeg ≤ 60000) <| zz_bud (kc5 + 1) 1 (ks6 + s1.toNatClampNeg) 600 <| zz_let (va_up h3 n4 (some (.inl (0, s1.toNatClampNeg, .inl (fun _ => 0))))) fun h7 => (zp_V h7 s2 0 0 (.ref (n4))).bind fun h8 => zz_bud (kc5 + 1) 1 (ks6 + s1.toNatClampNeg) 600 <| some ((h8, n4 + 1))
noncomputable def f_X0_init (h : ZH) (n : Nat) (a0 : Nat) (a1 : Int32) : Option (ZH × Nat) :=
  if 0 ≤ a1 then (f_X0_init_J14 h a0 a1 a1 a0 h n 0 0) else (f_X0_init_J14 h a0 a1 (0 : Int32) a0 h n 0 0)
abbrev rm_X0_init : Room := { frames := 1, cells := 1, slots := 600, locals := 20 }
set_option maxRecDepth 100000 in
set_option maxHeartbeats 4000000 in
theorem c_X0_init {l : Launch} {D : va_G} {dA : Nat → ClassId} {A : Nat → Prop} {h : ZH} {n : Nat} (a0 : Nat) (a1 : Int32) {hx : ZH} {nx : Nat} (hf : f_X0_init h n a0 a1 = some (hx, nx)) : Met l yX0_init (zz_ws yX0_init cX0_init 2 none) rm_X0_init (zz_P D dA A h n [.ref (a0), .int (a1)]) (zz_Q D dA A (none) hx nx) 1 600 A := by
  refine zz_met (by decide) (Nat.le_of_ble_eq_true rfl) ?_
  intro p e s m args below meth c ls S K hret hlk hnm hl Z
  replace hl : lv_has ls 2 [(0, .ref (a0)), (1, .int (a1))] := hl
  obtain ⟨K0, hR0, hk⟩ : ∃ K0 : (ZH × Nat) → Prop, (∀ x, K0 x → x = (hx, nx)) ∧ K0 (hx, nx) := ⟨fun x => x = (hx, nx), fun _ h => h, rfl⟩
  have J14 : ∀ (s1 : Int32) (s2 : Nat) (h3 : ZH) (n4 : Nat) (kc5 : Nat) (ks6 : Nat) (x : (ZH × Nat)), f_X0_init_J14 h a0 a1 s1 s2 h3 n4 kc5 ks6 = some x → K0 x → ∀ (H : Heap) (locs : List Loc) (ls : Array Slot), zz_B D dA A h3 n4 s.heap H locs → lv_has ls 2 [] → zz_W p l e rm_X0_init s m args below meth c D dA A (none) hx nx 1 600 H locs kc5 ks6 14 ls [.int (s1), .ref (s2)] := by
    intro s1 s2 h3 n4 kc5 ks6 x hv hk H locs ls Z hl
    unfold f_X0_init_J14 at hv
    obtain ⟨hok, hv⟩ := zz_ok_s hv
    obtain ⟨hbd, hv⟩ := zz_bud_s hv
    refine zz_newa (atype := .byte) (a0 := fun N => (N, .inl (fun _ => 0))) S K Z hv ga_byte rfl (fun h => h) (fun _ _ => rfl) hok.1 (by have := hok.2; simp only [newarray.typeOf, componentBytes]; omega) hbd.1 hbd.2 dX0_init_14 (fun h7 H hv Z => ?_)
    refine zz_putF S K Z hv zc_0 (by decide) gf_X0_9 rfl hnm rfl rfl rfl dX0_init_16 (fun h8 H locs hv Z => ?_)
    obtain ⟨hbd, hv⟩ := zz_bud_s hv
    replace hk := zz_fin hv hk
    cases hR0 _ hk
    exact zz_vret S Z hret hlk dX0_init_19 hbd.1 hbd.2
  have hv := hf
  unfold f_X0_init at hv
  clear hf
  obtain ⟨x, hxx⟩ : ∃ x, x = (hx, nx) := ⟨_, rfl⟩
  rw [← hxx] at hv hk
  have ⟨H, hH⟩ : ∃ H, H = s.heap := ⟨_, rfl⟩
  have ⟨locs, hlo⟩ : ∃ q : List Loc, q = [] := ⟨_, rfl⟩
  have Z : zz_B D dA A h n s.heap H locs := by rw [hH, hlo]; exact Z
  have key : zz_W p l e rm_X0_init s m args below meth c D dA A (none) hx nx 1 600 H locs 0 0 0 ls [] := by
    clear hH hlo hxx
    refine lv_aload_n S.1 S.2.1 dX0_init_0 rfl (lv_at hl 0 rfl) ?_
    refine W.objInit S.1 S.2.1 S.2.2.2.1 (S.2.2.2.2 _ gl_X0_3) (S.2.2.2.2 _ gi_obj) (S.2.2.2.2 _ gc_obj) rfl (by rw [S.2.2.1]; exact hl.1) rfl dX0_init_1 (by decide) (Nat.le_of_ble_eq_true rfl) ?_
    show W _ _ _ _ _ _ _ _ _ _ _ _ _ _ _ (F0 m 4 ls [])
    refine lv_aload_n S.1 S.2.1 dX0_init_4 rfl (lv_at hl 0 rfl) ?_
    refine lv_iload_n S.1 S.2.1 dX0_init_5 rfl (lv_at hl 1 rfl) ?_
    refine lv_if_ge (tgt := 13) S.1 S.2.1 dX0_init_6 (by decide) (fun hc => ?_) (fun hc => ?_)
    · replace hv := (if_pos hc).symm.trans hv
      refine lv_iload_n S.1 S.2.1 dX0_init_13 rfl (lv_at hl 1 rfl) ?_
      exact J14 a1 a0 h n 0 0 _ hv hk H locs ls Z (lv_sub hl [] rfl)
    · replace hv := (if_neg hc).symm.trans hv
      refine lv_iconst (v := (0 : Int32)) S.1 S.2.1 dX0_init_9 (by decide) ?_
      refine lv_goto (tgt := 14) S.1 S.2.1 dX0_init_10 (by decide) ?_
      exact J14 (0 : Int32) a0 h n 0 0 _ hv hk H locs ls Z (lv_sub hl [] rfl)
  rw [hH, hlo] at key
  exact key

noncomputable def f_X1_init_J24 (h : ZH) (a0 : Nat) (a1 : Int32) (a2 : Int32) (x3_6 : Int32) (s7 : Int32) (s8 : Nat) (h9 : ZH) (n10 : Nat) (kc11 : Nat) (ks12 : Nat) : Option (ZH × Nat) :=
  (zp_V h9 s8 1 0 (.int (s7))).bind fun h13 => (zg_I h13 a0 1 0).bind fun v14 => zz_let (x3_6 * v14) fun v16 => zz_ok (¬ v16 < 0 ∧ v16.toNatClampNeg ≤ 60000) <| zz_bud (kc11 + 1) 2 (ks12 + v16.toNatClampNeg) 600 <| zz_let (va_up h13 n10 (some (.inl (0, v16.toNatClampNeg, .inl (fun _ => 0))))) fun h15 => (zp_V h15 a0 1 1 (.ref (n10))).bind fun h17 => zz_ok (¬ x3_6 < 0 ∧ x3_6.toNatClampNeg ≤ 60000) <| zz_bud (kc11 + 1 + 1) 2 (ks12 + v16.toNatClampNeg + x3_6.toNatClampNeg) 600 <| zz_let (va_up h17 (n10 + 1) (some (.inl (1, x3_6.toNatClampNeg, .inl (fun _ => 0))))) fun h18 => (zp_V h18 a0 1 2 (.ref (n10 + 1))).bind fun h19 => zz_bud (kc11 + 1 + 1) 2 (ks12 + v16.toNatClampNeg + x3_6.toNatClampNeg) 600 <| some ((h19, n10 + 2))
noncomputable def f_X1_init_J13 (h : ZH) (a0 : Nat) (a1 : Int32) (a2 : Int32) (s1 : Int32) (h2 : ZH) (n3 : Nat) (kc4 : Nat) (ks5 : Nat) : Option (ZH × Nat) :=
  if 0 ≤ a2 then (f_X1_init_J24 h a0 a1 a2 s1 a2 a0 h2 n3 kc4 ks5) else (f_X1_init_J24 h a0 a1 a2 s1 (0 : Int32) a0 h2 n3 kc4 ks5)
noncomputable def f_X1_init (h : ZH) (n : Nat) (a0 : Nat) (a1 : Int32) (a2 : Int32) : Option (ZH × Nat) :=
  if 0 ≤ a1 then (f_X1_init_J13 h a0 a1 a2 a1 h n 0 0) else (f_X1_init_J13 h a0 a1 a2 (0 : Int32) h n 0 0)
abbrev rm_X1_init : Room := { frames := 1, cells := 2, slots := 600, locals := 20 }
set_option maxRecDepth 100000 in
set_option maxHeartbeats 4000000 in
theorem c_X1_init {l : Launch} {D : va_G} {dA : Nat → ClassId} {A : Nat → Prop} {h : ZH} {n : Nat} (a0 : Nat) (a1 : Int32) (a2 : Int32) {hx : ZH} {nx : Nat} (hf : f_X1_init h n a0 a1 a2 = some (hx, nx)) : Met l yX1_init (zz_ws yX1_init cX1_init 4 none) rm_X1_init (zz_P D dA A h n [.ref (a0), .int (a1), .int (a2)]) (zz_Q D dA A (none) hx nx) 2 600 A := by
  refine zz_met (by decide) (Nat.le_of_ble_eq_true rfl) ?_
  intro p e s m args below meth c ls S K hret hlk hnm hl Z
  replace hl : lv_has ls 4 [(0, .ref (a0)), (1, .int (a1)), (2, .int (a2))] := hl
  obtain ⟨K0, hR0, hk⟩ : ∃ K0 : (ZH × Nat) → Prop, (∀ x, K0 x → x = (hx, nx)) ∧ K0 (hx, nx) := ⟨fun x => x = (hx, nx), fun _ h => h, rfl⟩
  have J24 : ∀ (x3_6 : Int32) (s7 : Int32) (s8 : Nat) (h9 : ZH) (n10 : Nat) (kc11 : Nat) (ks12 : Nat) (x : (ZH × Nat)), f_X1_init_J24 h a0 a1 a2 x3_6 s7 s8 h9 n10 kc11 ks12 = some x → K0 x → ∀ (H : Heap) (locs : List Loc) (ls : Array Slot), zz_B D dA A h9 n10 s.heap H locs → lv_has ls 4 [(0, .ref (a0)), (3, .int (x3_6))] → zz_W p l e rm_X1_init s m args below meth c D dA A (none) hx nx 2 600 H locs kc11 ks12 24 ls [.int (s7), .ref (s8)] := by
    intro x3_6 s7 s8 h9 n10 kc11 ks12 x hv hk H locs ls Z hl
    unfold f_X1_init_J24 at hv
    refine zz_putF S K Z hv zc_1 (by decide) gf_X1_9 rfl hnm rfl rfl rfl dX1_init_24 (fun h13 H locs hv Z => ?_)
    refine lv_aload_n S.1 S.2.1 dX1_init_27 rfl (lv_at hl 0 rfl) ?_
    refine lv_iload_n S.1 S.2.1 dX1_init_28 rfl (lv_at hl 1 rfl) ?_
    refine lv_aload_n S.1 S.2.1 dX1_init_29 rfl (lv_at hl 0 rfl) ?_
    refine zz_gI S K Z hv zc_1 (by decide) gf_X1_9 dX1_init_30 (fun v14 hv => ?_)
    refine lv_imul S.1 S.2.1 dX1_init_33 ?_
    refine zz_lt hv (G := fun w => W _ _ _ _ _ _ _ _ _ _ _ _ _ _ _ (F0 _ _ _ (.int w :: _))) (fun v16 hv => ?_)
    obtain ⟨hok, hv⟩ := zz_ok_s hv
    obtain ⟨hbd, hv⟩ := zz_bud_s hv
    refine zz_newa (atype := .byte) (a0 := fun N => (N, .inl (fun _ => 0))) S K Z hv ga_byte rfl (fun h => h) (fun _ _ => rfl) hok.1 (by have := hok.2; simp only [newarray.typeOf, componentBytes]; omega) hbd.1 hbd.2 dX1_init_34 (fun h15 H hv Z => ?_)
    refine zz_putF S K Z hv zc_1 (by decide) gf_X1_15 rfl hnm rfl rfl rfl dX1_init_36 (fun h17 H locs hv Z => ?_)
    refine lv_aload_n S.1 S.2.1 dX1_init_39 rfl (lv_at hl 0 rfl) ?_
    refine lv_iload_n S.1 S.2.1 dX1_init_40 rfl (lv_at hl 1 rfl) ?_
    obtain ⟨hok, hv⟩ := zz_ok_s hv
    obtain ⟨hbd, hv⟩ := zz_bud_s hv
    refine zz_newa (atype := .int) (a0 := fun N => (N, .inl (fun _ => 0))) S K Z hv ga_int rfl (fun h => h) (fun _ _ => rfl) hok.1 (by have := hok.2; simp only [newarray.typeOf, componentBytes]; omega) hbd.1 hbd.2 dX1_init_41 (fun h18 H hv Z => ?_)
    refine zz_putF S K Z hv zc_1 (by decide) gf_X1_19 rfl hnm rfl rfl rfl dX1_init_43 (fun h19 H locs hv Z => ?_)
    obtain ⟨hbd, hv⟩ := zz_bud_s hv
    replace hk := zz_fin hv hk
    cases hR0 _ hk
    exact zz_vret S Z hret hlk dX1_init_46 hbd.1 hbd.2
  have J13 : ∀ (s1 : Int32) (h2 : ZH) (n3 : Nat) (kc4 : Nat) (ks5 : Nat) (x : (ZH × Nat)), f_X1_init_J13 h a0 a1 a2 s1 h2 n3 kc4 ks5 = some x → K0 x → ∀ (H : Heap) (locs : List Loc) (ls : Array Slot), zz_B D dA A h2 n3 s.heap H locs → lv_has ls 4 [(0, .ref (a0)), (2, .int (a2))] → zz_W p l e rm_X1_init s m args below meth c D dA A (none) hx nx 2 600 H locs kc4 ks5 13 ls [.int (s1)] := by
    intro s1 h2 n3 kc4 ks5 x hv hk H locs ls Z hl
    unfold f_X1_init_J13 at hv
    refine lv_istore_n (lv' := [(3, .int (s1)), (0, .ref (a0)), (2, .int (a2))]) S.1 S.2.1 dX1_init_13 rfl hl (by decide) rfl (fun ls hl => ?_)
    refine lv_aload_n S.1 S.2.1 dX1_init_14 rfl (lv_at hl 1 rfl) ?_
    refine lv_iload_n S.1 S.2.1 dX1_init_15 rfl (lv_at hl 2 rfl) ?_
    refine lv_if_ge (tgt := 23) S.1 S.2.1 dX1_init_16 (by decide) (fun hc => ?_) (fun hc => ?_)
    · replace hv := (if_pos hc).symm.trans hv
      refine lv_iload_n S.1 S.2.1 dX1_init_23 rfl (lv_at hl 2 rfl) ?_
      exact J24 s1 a2 a0 h2 n3 kc4 ks5 _ hv hk H locs ls Z (lv_sub hl [1, 0] rfl)
    · replace hv := (if_neg hc).symm.trans hv
      refine lv_iconst (v := (0 : Int32)) S.1 S.2.1 dX1_init_19 (by decide) ?_
      refine lv_goto (tgt := 24) S.1 S.2.1 dX1_init_20 (by decide) ?_
      exact J24 s1 (0 : Int32) a0 h2 n3 kc4 ks5 _ hv hk H locs ls Z (lv_sub hl [1, 0] rfl)
  have hv := hf
  unfold f_X1_init at hv
  clear hf
  obtain ⟨x, hxx⟩ : ∃ x, x = (hx, nx) := ⟨_, rfl⟩
  rw [← hxx] at hv hk
  have ⟨H, hH⟩ : ∃ H, H = s.heap := ⟨_, rfl⟩
  have ⟨locs, hlo⟩ : ∃ q : List Loc, q = [] := ⟨_, rfl⟩
  have Z : zz_B D dA A h n s.heap H locs := by rw [hH, hlo]; exact Z
  have key : zz_W p l e rm_X1_init s m args below meth c D dA A (none) hx nx 2 600 H locs 0 0 0 ls [] := by
    clear hH hlo hxx
    refine lv_aload_n S.1 S.2.1 dX1_init_0 rfl (lv_at hl 0 rfl) ?_
    refine W.objInit S.1 S.2.1 S.2.2.2.1 (S.2.2.2.2 _ gl_X1_3) (S.2.2.2.2 _ gi_obj) (S.2.2.2.2 _ gc_obj) rfl (by rw [S.2.2.1]; exact hl.1) rfl dX1_init_1 (by decide) (Nat.le_of_ble_eq_true rfl) ?_
    show W _ _ _ _ _ _ _ _ _ _ _ _ _ _ _ (F0 m 4 ls [])
    refine lv_iload_n S.1 S.2.1 dX1_init_4 rfl (lv_at hl 1 rfl) ?_
    refine lv_if_ge (tgt := 12) S.1 S.2.1 dX1_init_5 (by decide) (fun hc => ?_) (fun hc => ?_)
    · replace hv := (if_pos hc).symm.trans hv
      refine lv_iload_n S.1 S.2.1 dX1_init_12 rfl (lv_at hl 1 rfl) ?_
      exact J13 a1 h n 0 0 _ hv hk H locs ls Z (lv_sub hl [0, 2] rfl)
    · replace hv := (if_neg hc).symm.trans hv
      refine lv_iconst (v := (0 : Int32)) S.1 S.2.1 dX1_init_8 (by decide) ?_
      refine lv_goto (tgt := 13) S.1 S.2.1 dX1_init_9 (by decide) ?_
      exact J13 (0 : Int32) h n 0 0 _ hv hk H locs ls Z (lv_sub hl [0, 2] rfl)
  rw [hH, hlo] at key
  exact key

noncomputable def f_X6_init (h : ZH) (a0 : Nat) : Option (ZH) :=
  some (h)
abbrev rm_X6_init : Room := { frames := 1, cells := 0, slots := 0, locals := 20 }
set_option maxRecDepth 100000 in
set_option maxHeartbeats 4000000 in
theorem c_X6_init {l : Launch} {D : va_G} {dA : Nat → ClassId} {A : Nat → Prop} {h : ZH} {n : Nat} (a0 : Nat) {hx : ZH} (hf : f_X6_init h a0 = some hx) : Met l yX6_init (zz_ws yX6_init cX6_init 1 none) rm_X6_init (zz_P D dA A h n [.ref (a0)]) (zz_Q D dA A (none) hx n) 0 0 A := by
  refine zz_met (by decide) (Nat.le_of_ble_eq_true rfl) ?_
  intro p e s m args below meth c ls S K hret hlk hnm hl Z
  replace hl : lv_has ls 1 [(0, .ref (a0))] := hl
  obtain ⟨K0, hR0, hk⟩ : ∃ K0 : (ZH) → Prop, (∀ x, K0 x → x = hx) ∧ K0 hx := ⟨fun x => x = hx, fun _ h => h, rfl⟩
  have hv := hf
  unfold f_X6_init at hv
  clear hf
  obtain ⟨x, hxx⟩ : ∃ x, x = hx := ⟨_, rfl⟩
  rw [← hxx] at hv hk
  have ⟨H, hH⟩ : ∃ H, H = s.heap := ⟨_, rfl⟩
  have ⟨locs, hlo⟩ : ∃ q : List Loc, q = [] := ⟨_, rfl⟩
  have Z : zz_B D dA A h n s.heap H locs := by rw [hH, hlo]; exact Z
  have key : zz_W p l e rm_X6_init s m args below meth c D dA A (none) hx n 0 0 H locs 0 0 0 ls [] := by
    clear hH hlo hxx
    refine lv_aload_n S.1 S.2.1 dX6_init_0 rfl (lv_at hl 0 rfl) ?_
    refine W.objInit S.1 S.2.1 S.2.2.2.1 (S.2.2.2.2 _ gl_X6_1) (S.2.2.2.2 _ gi_obj) (S.2.2.2.2 _ gc_obj) rfl (by rw [S.2.2.1]; exact hl.1) rfl dX6_init_1 (by decide) (Nat.le_of_ble_eq_true rfl) ?_
    show W _ _ _ _ _ _ _ _ _ _ _ _ _ _ _ (F0 m 4 ls [])
    replace hk := zz_fin hv hk
    cases hR0 _ hk
    exact zz_vret S Z hret hlk dX6_init_4 (Nat.le_refl _) (Nat.le_refl _)
  rw [hH, hlo] at key
  exact key

noncomputable def f_X3_init (h : ZH) (n : Nat) (a0 : Nat) : Option (ZH × Nat) :=
  zz_ok (¬ (4 : Int32) < 0 ∧ (4 : Int32).toNatClampNeg ≤ 60000) <| zz_bud (0 + 1) 1 (0 + (4 : Int32).toNatClampNeg) 4 <| zz_let (va_up h n (some (.inl (1, (4 : Int32).toNatClampNeg, .inl (fun _ => 0))))) fun h1 => (zp_V h1 a0 2 0 (.ref (n))).bind fun h2 => (zp_V h2 a0 2 1 (.int ((0 : Int32)))).bind fun h3 => zz_bud (0 + 1) 1 (0 + (4 : Int32).toNatClampNeg) 4 <| some ((h3, n + 1))
abbrev rm_X3_init : Room := { frames := 1, cells := 1, slots := 4, locals := 20 }
set_option maxRecDepth 100000 in
set_option maxHeartbeats 4000000 in
theorem c_X3_init {l : Launch} {D : va_G} {dA : Nat → ClassId} {A : Nat → Prop} {h : ZH} {n : Nat} (a0 : Nat) {hx : ZH} {nx : Nat} (hf : f_X3_init h n a0 = some (hx, nx)) : Met l yX3_init (zz_ws yX3_init cX3_init 1 none) rm_X3_init (zz_P D dA A h n [.ref (a0)]) (zz_Q D dA A (none) hx nx) 1 4 A := by
  refine zz_met (by decide) (Nat.le_of_ble_eq_true rfl) ?_
  intro p e s m args below meth c ls S K hret hlk hnm hl Z
  replace hl : lv_has ls 1 [(0, .ref (a0))] := hl
  obtain ⟨K0, hR0, hk⟩ : ∃ K0 : (ZH × Nat) → Prop, (∀ x, K0 x → x = (hx, nx)) ∧ K0 (hx, nx) := ⟨fun x => x = (hx, nx), fun _ h => h, rfl⟩
  have hv := hf
  unfold f_X3_init at hv
  clear hf
  obtain ⟨x, hxx⟩ : ∃ x, x = (hx, nx) := ⟨_, rfl⟩
  rw [← hxx] at hv hk
  have ⟨H, hH⟩ : ∃ H, H = s.heap := ⟨_, rfl⟩
  have ⟨locs, hlo⟩ : ∃ q : List Loc, q = [] := ⟨_, rfl⟩
  have Z : zz_B D dA A h n s.heap H locs := by rw [hH, hlo]; exact Z
  have key : zz_W p l e rm_X3_init s m args below meth c D dA A (none) hx nx 1 4 H locs 0 0 0 ls [] := by
    clear hH hlo hxx
    refine lv_aload_n S.1 S.2.1 dX3_init_0 rfl (lv_at hl 0 rfl) ?_
    refine W.objInit S.1 S.2.1 S.2.2.2.1 (S.2.2.2.2 _ gl_X3_3) (S.2.2.2.2 _ gi_obj) (S.2.2.2.2 _ gc_obj) rfl (by rw [S.2.2.1]; exact hl.1) rfl dX3_init_1 (by decide) (Nat.le_of_ble_eq_true rfl) ?_
    show W _ _ _ _ _ _ _ _ _ _ _ _ _ _ _ (F0 m 4 ls [])
    refine lv_aload_n S.1 S.2.1 dX3_init_4 rfl (lv_at hl 0 rfl) ?_
    refine lv_iconst (v := (4 : Int32)) S.1 S.2.1 dX3_init_5 (by decide) ?_
    obtain ⟨hok, hv⟩ := zz_ok_s hv
    obtain ⟨hbd, hv⟩ := zz_bud_s hv
    refine zz_newa (atype := .int) (a0 := fun N => (N, .inl (fun _ => 0))) S K Z hv ga_int rfl (fun h => h) (fun _ _ => rfl) hok.1 (by have := hok.2; simp only [newarray.typeOf, componentBytes]; omega) hbd.1 hbd.2 dX3_init_6 (fun h1 H hv Z => ?_)
    refine zz_putF S K Z hv zc_2 (by decide) gf_X3_9 rfl hnm rfl rfl rfl dX3_init_8 (fun h2 H locs hv Z => ?_)
    refine lv_aload_n S.1 S.2.1 dX3_init_11 rfl (lv_at hl 0 rfl) ?_
    refine lv_iconst (v := (0 : Int32)) S.1 S.2.1 dX3_init_12 (by decide) ?_
    refine zz_put S K Z hv zc_2 (by decide) gf_X3_15 rfl rfl rfl dX3_init_13 (fun h3 H locs hv Z => ?_)
    obtain ⟨hbd, hv⟩ := zz_bud_s hv
    replace hk := zz_fin hv hk
    cases hR0 _ hk
    exact zz_vret S Z hret hlk dX3_init_16 hbd.1 hbd.2
  rw [hH, hlo] at key
  exact key

noncomputable def f_X10_init_L88 (h : ZH) (a0 : Nat) (a1 : Int32) (x2_21 : Int32) (h22 : ZH) (n23 : Nat) (kc24 : Nat) (ks25 : Nat)  : Option ((Int32 × ZH × Nat × Nat × Nat) ⊕ (ZH × Nat)) :=
  (zg_R h22 a0 8 3).bind fun v26 => (zl_N h22 v26 5).bind fun v27 => if v27 ≤ x2_21 then ((zz_bud (kc24) 46 (ks25) 1540 <| some ((h22, n23))).map Sum.inr) else ((zg_R h22 a0 8 3).bind fun v28 => zz_bud (kc24 + 1) 46 (ks25 + 3) 1540 <| zz_let (va_up h22 n23 (some (.inr (2, [.null, .int 0, .int 0])))) fun h29 => zz_bud (kc24 + 1 + 1) 46 (ks25 + 3 + 4) 1540 <| (f_X3_init h29 (n23 + 1) n23).bind fun (h30, n31) => zz_isO h30 n23 2 <| (zs_R h30 v28 5 x2_21 n23).bind fun h32 => some (.inl (x2_21 + (1 : Int32), h32, n31, kc24 + 1 + 1, ks25 + 3 + 4)))
noncomputable def f_X10_init_L58 (h : ZH) (a0 : Nat) (a1 : Int32) (x2_14 : Int32) (h15 : ZH) (n16 : Nat) (kc17 : Nat) (ks18 : Nat)  : Option ((Int32 × ZH × Nat × Nat × Nat) ⊕ (ZH × Nat)) :=
  (zg_R h15 a0 8 2).bind fun v19 => (zl_N h15 v19 7).bind fun v20 => if v20 ≤ x2_14 then ((zz_loop (fun st : (Int32 × ZH × Nat × Nat × Nat) => f_X10_init_L88 h a0 a1 (st.1) (st.2.1) (st.2.2.1) (st.2.2.2.1) (st.2.2.2.2)) ((0 : Int32), h15, n16, kc17, ks18)).map Sum.inr) else ((zg_R h15 a0 8 2).bind fun v33 => zz_bud (kc17 + 1) 46 (ks18 + 9) 1540 <| zz_let (va_up h15 n16 (some (.inr (4, [.int 0, .int 0, .int 0, .int 0, .int 0, .int 0, .int 0, .int 0, .int 0])))) fun h34 => zz_bud (kc17 + 1) 46 (ks18 + 9) 1540 <| (f_X6_init h34 n16).bind fun h35 => zz_isO h35 n16 4 <| (zs_R h35 v33 7 x2_14 n16).bind fun h36 => some (.inl (x2_14 + (1 : Int32), h36, n16 + 1, kc17 + 1, ks18 + 9)))
noncomputable def f_X10_init (h : ZH) (n : Nat) (a0 : Nat) (a1 : Int32) : Option (ZH × Nat) :=
  zz_bud (0 + 1) 46 (0 + 4) 1540 <| zz_let (va_up h n (some (.inr (1, [.int 0, .null, .null, .int 0])))) fun h1 => zz_bud (0 + 1 + 2) 46 (0 + 4 + 600) 1540 <| (f_X1_init h1 (n + 1) n (16 : Int32) (6 : Int32)).bind fun (h2, n3) => (zp_V h2 a0 8 0 (.ref (n))).bind fun h4 => zz_bud (0 + 1 + 2 + 1) 46 (0 + 4 + 600 + 4) 1540 <| zz_let (va_up h4 n3 (some (.inr (1, [.int 0, .null, .null, .int 0])))) fun h5 => zz_bud (0 + 1 + 2 + 1 + 2) 46 (0 + 4 + 600 + 4 + 600) 1540 <| (f_X1_init h5 (n3 + 1) n3 (24 : Int32) (20 : Int32)).bind fun (h6, n7) => (zp_V h6 a0 8 1 (.ref (n3))).bind fun h8 => zz_ok (¬ (30 : Int32) < 0 ∧ (30 : Int32).toNatClampNeg ≤ 60000) <| zz_bud (0 + 1 + 2 + 1 + 2 + 1) 46 (0 + 4 + 600 + 4 + 600 + (30 : Int32).toNatClampNeg) 1540 <| zz_let (va_up h8 n7 (some (.inl (7, (30 : Int32).toNatClampNeg, .inr (.inr (.inr (.inr (fun _ => none)))))))) fun h9 => (zp_V h9 a0 8 2 (.ref (n7))).bind fun h10 => zz_ok (¬ (4 : Int32) < 0 ∧ (4 : Int32).toNatClampNeg ≤ 60000) <| zz_bud (0 + 1 + 2 + 1 + 2 + 1 + 1) 46 (0 + 4 + 600 + 4 + 600 + (30 : Int32).toNatClampNeg + (4 : Int32).toNatClampNeg) 1540 <| zz_let (va_up h10 (n7 + 1) (some (.inl (5, (4 : Int32).toNatClampNeg, .inr (.inr (.inr (.inr (fun _ => none)))))))) fun h11 => (zp_V h11 a0 8 3 (.ref (n7 + 1))).bind fun h12 => (zp_V h12 a0 8 5 (.int (a1))).bind fun h13 => zz_loop (fun st : (Int32 × ZH × Nat × Nat × Nat) => f_X10_init_L58 h a0 a1 (st.1) (st.2.1) (st.2.2.1) (st.2.2.2.1) (st.2.2.2.2)) ((0 : Int32), h13, n7 + 2, 0 + 1 + 2 + 1 + 2 + 1 + 1, 0 + 4 + 600 + 4 + 600 + (30 : Int32).toNatClampNeg + (4 : Int32).toNatClampNeg)
abbrev rm_X10_init : Room := { frames := 2, cells := 46, slots := 1540, locals := 43 }
set_option maxRecDepth 100000 in
set_option maxHeartbeats 4000000 in
theorem c_X10_init {l : Launch} {D : va_G} {dA : Nat → ClassId} {A : Nat → Prop} {h : ZH} {n : Nat} (a0 : Nat) (a1 : Int32) {hx : ZH} {nx : Nat} (hf : f_X10_init h n a0 a1 = some (hx, nx)) : Met l yX10_init (zz_ws yX10_init cX10_init 3 none) rm_X10_init (zz_P D dA A h n [.ref (a0), .int (a1)]) (zz_Q D dA A (none) hx nx) 46 1540 A := by
  refine zz_met (by decide) (Nat.le_of_ble_eq_true rfl) ?_
  intro p e s m args below meth c ls S K hret hlk hnm hl Z
  replace hl : lv_has ls 3 [(0, .ref (a0)), (1, .int (a1))] := hl
  obtain ⟨K0, hR0, hk⟩ : ∃ K0 : (ZH × Nat) → Prop, (∀ x, K0 x → x = (hx, nx)) ∧ K0 (hx, nx) := ⟨fun x => x = (hx, nx), fun _ h => h, rfl⟩
  have L88 : ∀ (st : (Int32 × ZH × Nat × Nat × Nat)) (x : (ZH × Nat)), zz_loop (fun st : (Int32 × ZH × Nat × Nat × Nat) => f_X10_init_L88 h a0 a1 (st.1) (st.2.1) (st.2.2.1) (st.2.2.2.1) (st.2.2.2.2)) st = some x → K0 x → (fun st : (Int32 × ZH × Nat × Nat × Nat) => ∀ (H : Heap) (locs : List Loc) (ls : Array Slot), zz_B D dA A (st.2.1) (st.2.2.1) s.heap H locs → lv_has ls 3 [(0, .ref (a0)), (2, .int ((st.1)))] → zz_W p l e rm_X10_init s m args below meth c D dA A (none) hx nx 46 1540 H locs (st.2.2.2.1) (st.2.2.2.2) 88 ls []) st := by
    refine zz_loop_go (K := K0) ?_
    intro K1 hP1 hR1
    rintro ⟨x2_21, h22, n23, kc24, ks25⟩ x hv hk H locs ls Z hl
    replace hv : f_X10_init_L88 h a0 a1 x2_21 h22 n23 kc24 ks25 = some x := hv
    unfold f_X10_init_L88 at hv
    replace hl : lv_has ls 3 [(0, .ref (a0)), (2, .int (x2_21))] := hl
    replace Z : zz_B D dA A h22 n23 s.heap H locs := Z
    show zz_W p l e rm_X10_init s m args below meth c D dA A (none) hx nx 46 1540 H locs kc24 ks25 88 ls []
    refine lv_iload_n S.1 S.2.1 dX10_init_88 rfl (lv_at hl 1 rfl) ?_
    refine lv_aload_n S.1 S.2.1 dX10_init_89 rfl (lv_at hl 0 rfl) ?_
    refine zz_gR S K Z hv zc_8 (by decide) gf_X10_31 dX10_init_90 (fun v26 hv => ?_)
    refine zz_alen S K Z hv rfl dX10_init_93 (fun v27 hv => ?_)
    refine lv_icmp_ge (tgt := 116) S.1 S.2.1 dX10_init_94 (by decide) (fun hc => ?_) (fun hc => ?_)
    · replace hv := (if_pos hc).symm.trans hv
      obtain ⟨_, hv, hk⟩ := zz_mapk hv hk
      replace hk := hR1 _ hk
      obtain ⟨hbd, hv⟩ := zz_bud_s hv
      replace hk := zz_fin hv hk
      cases hR0 _ hk
      exact zz_vret S Z hret hlk dX10_init_116 hbd.1 hbd.2
    · replace hv := (if_neg hc).symm.trans hv
      refine lv_aload_n S.1 S.2.1 dX10_init_97 rfl (lv_at hl 0 rfl) ?_
      refine zz_gR S K Z hv zc_8 (by decide) gf_X10_31 dX10_init_98 (fun v28 hv => ?_)
      refine lv_iload_n S.1 S.2.1 dX10_init_101 rfl (lv_at hl 1 rfl) ?_
      obtain ⟨hbd, hv⟩ := zz_bud_s hv
      refine zz_new S K Z hv zc_2 gq_X10_29 gn_X3 gt_X3 zd_2 hbd.1 hbd.2 dX10_init_102 (fun h29 H hv Z => ?_)
      refine lv_dup S.1 S.2.1 dX10_init_105 rfl ?_
      obtain ⟨hbd, hv⟩ := zz_bud_s hv
      obtain ⟨⟨h30, n31⟩, hq, hv⟩ := zz_bd hv
      refine zz_IN [] S K Z (c_X3_init n23 hq) ⟨rfl, rfl⟩ gm_X3_init gi_X3_init rfl (List.mem_of_getElem? (i := 1) rfl) ⟨by decide, by decide⟩ rfl hl.1 rfl (Nat.le_of_ble_eq_true rfl) dX10_init_106 hbd (fun H locs Z => ?_)
      show W _ _ _ _ _ _ _ _ _ _ _ _ (kc24 + 1 + 1) (ks25 + 3 + 4) _ (F0 m 109 ls [.ref (n23), .int (x2_21), .ref (v28)])
      refine zz_aast S K Z hv zc_2 rfl dX10_init_109 (fun h32 H locs hv Z => ?_)
      refine lv_iinc (v := x2_21 + (1 : Int32)) (lv' := [(2, .int (x2_21 + (1 : Int32))), (0, .ref (a0))]) S.1 S.2.1 dX10_init_110 hl (k := 1) rfl rfl (by decide) rfl (fun ls hl => ?_)
      refine lv_goto (tgt := 88) S.1 S.2.1 dX10_init_113 (by decide) ?_
      replace hk := zz_fin hv hk
      exact hP1 _ hk H locs ls Z (lv_sub hl [1, 0] rfl)
  have L58 : ∀ (st : (Int32 × ZH × Nat × Nat × Nat)) (x : (ZH × Nat)), zz_loop (fun st : (Int32 × ZH × Nat × Nat × Nat) => f_X10_init_L58 h a0 a1 (st.1) (st.2.1) (st.2.2.1) (st.2.2.2.1) (st.2.2.2.2)) st = some x → K0 x → (fun st : (Int32 × ZH × Nat × Nat × Nat) => ∀ (H : Heap) (locs : List Loc) (ls : Array Slot), zz_B D dA A (st.2.1) (st.2.2.1) s.heap H locs → lv_has ls 3 [(0, .ref (a0)), (2, .int ((st.1)))] → zz_W p l e rm_X10_init s m args below meth c D dA A (none) hx nx 46 1540 H locs (st.2.2.2.1) (st.2.2.2.2) 58 ls []) st := by
    refine zz_loop_go (K := K0) ?_
    intro K1 hP1 hR1
    rintro ⟨x2_14, h15, n16, kc17, ks18⟩ x hv hk H locs ls Z hl
    replace hv : f_X10_init_L58 h a0 a1 x2_14 h15 n16 kc17 ks18 = some x := hv
    unfold f_X10_init_L58 at hv
    replace hl : lv_has ls 3 [(0, .ref (a0)), (2, .int (x2_14))] := hl
    replace Z : zz_B D dA A h15 n16 s.heap H locs := Z
    show zz_W p l e rm_X10_init s m args below meth c D dA A (none) hx nx 46 1540 H locs kc17 ks18 58 ls []
    refine lv_iload_n S.1 S.2.1 dX10_init_58 rfl (lv_at hl 1 rfl) ?_
    refine lv_aload_n S.1 S.2.1 dX10_init_59 rfl (lv_at hl 0 rfl) ?_
    refine zz_gR S K Z hv zc_8 (by decide) gf_X10_25 dX10_init_60 (fun v19 hv => ?_)
    refine zz_alen S K Z hv rfl dX10_init_63 (fun v20 hv => ?_)
    refine lv_icmp_ge (tgt := 86) S.1 S.2.1 dX10_init_64 (by decide) (fun hc => ?_) (fun hc => ?_)
    · replace hv := (if_pos hc).symm.trans hv
      obtain ⟨_, hv, hk⟩ := zz_mapk hv hk
      replace hk := hR1 _ hk
      refine lv_iconst (v := (0 : Int32)) S.1 S.2.1 dX10_init_86 (by decide) ?_
      refine lv_istore_n (lv' := [(2, .int ((0 : Int32))), (0, .ref (a0))]) S.1 S.2.1 dX10_init_87 rfl hl (by decide) rfl (fun ls hl => ?_)
      exact L88  ((0 : Int32), h15, n16, kc17, ks18) _ hv hk H locs ls Z (lv_sub hl [1, 0] rfl)
    · replace hv := (if_neg hc).symm.trans hv
      refine lv_aload_n S.1 S.2.1 dX10_init_67 rfl (lv_at hl 0 rfl) ?_
      refine zz_gR S K Z hv zc_8 (by decide) gf_X10_25 dX10_init_68 (fun v33 hv => ?_)
      refine lv_iload_n S.1 S.2.1 dX10_init_71 rfl (lv_at hl 1 rfl) ?_
      obtain ⟨hbd, hv⟩ := zz_bud_s hv
      refine zz_new S K Z hv zc_4 gq_X10_23 gn_X6 gt_X6 zd_4 hbd.1 hbd.2 dX10_init_72 (fun h34 H hv Z => ?_)
      refine lv_dup S.1 S.2.1 dX10_init_75 rfl ?_
      obtain ⟨hbd, hv⟩ := zz_bud_s hv
      obtain ⟨h35, hq, hv⟩ := zz_bd hv
      refine zz_IN [] S K Z (c_X6_init n16 hq) ⟨rfl, rfl⟩ gm_X6_init gi_X6_init rfl (List.mem_of_getElem? (i := 0) rfl) ⟨by decide, by decide⟩ rfl hl.1 rfl (Nat.le_of_ble_eq_true rfl) dX10_init_76 hbd (fun H locs Z => ?_)
      show W _ _ _ _ _ _ _ _ _ _ _ _ (kc17 + 1) (ks18 + 9) _ (F0 m 79 ls [.ref (n16), .int (x2_14), .ref (v33)])
      refine zz_aast S K Z hv zc_4 rfl dX10_init_79 (fun h36 H locs hv Z => ?_)
      refine lv_iinc (v := x2_14 + (1 : Int32)) (lv' := [(2, .int (x2_14 + (1 : Int32))), (0, .ref (a0))]) S.1 S.2.1 dX10_init_80 hl (k := 1) rfl rfl (by decide) rfl (fun ls hl => ?_)
      refine lv_goto (tgt := 58) S.1 S.2.1 dX10_init_83 (by decide) ?_
      replace hk := zz_fin hv hk
      exact hP1 _ hk H locs ls Z (lv_sub hl [1, 0] rfl)
  have hv := hf
  unfold f_X10_init at hv
  clear hf
  obtain ⟨x, hxx⟩ : ∃ x, x = (hx, nx) := ⟨_, rfl⟩
  rw [← hxx] at hv hk
  have ⟨H, hH⟩ : ∃ H, H = s.heap := ⟨_, rfl⟩
  have ⟨locs, hlo⟩ : ∃ q : List Loc, q = [] := ⟨_, rfl⟩
  have Z : zz_B D dA A h n s.heap H locs := by rw [hH, hlo]; exact Z
  have key : zz_W p l e rm_X10_init s m args below meth c D dA A (none) hx nx 46 1540 H locs 0 0 0 ls [] := by
    clear hH hlo hxx
    refine lv_aload_n S.1 S.2.1 dX10_init_0 rfl (lv_at hl 0 rfl) ?_
    refine W.objInit S.1 S.2.1 S.2.2.2.1 (S.2.2.2.2 _ gl_X10_3) (S.2.2.2.2 _ gi_obj) (S.2.2.2.2 _ gc_obj) rfl (by rw [S.2.2.1]; exact hl.1) rfl dX10_init_1 (by decide) (Nat.le_of_ble_eq_true rfl) ?_
    show W _ _ _ _ _ _ _ _ _ _ _ _ _ _ _ (F0 m 4 ls [])
    refine lv_aload_n S.1 S.2.1 dX10_init_4 rfl (lv_at hl 0 rfl) ?_
    obtain ⟨hbd, hv⟩ := zz_bud_s hv
    refine zz_new S K Z hv zc_1 gq_X10_9 gn_X1 gt_X1 zd_1 hbd.1 hbd.2 dX10_init_5 (fun h1 H hv Z => ?_)
    refine lv_dup S.1 S.2.1 dX10_init_8 rfl ?_
    refine lv_bipush (v := (16 : Int32)) S.1 S.2.1 dX10_init_9 (by decide) ?_
    refine lv_bipush (v := (6 : Int32)) S.1 S.2.1 dX10_init_11 (by decide) ?_
    obtain ⟨hbd, hv⟩ := zz_bud_s hv
    obtain ⟨⟨h2, n3⟩, hq, hv⟩ := zz_bd hv
    refine zz_I [.int ((16 : Int32)), .int ((6 : Int32))] S K Z (c_X1_init n (16 : Int32) (6 : Int32) hq) ⟨rfl, rfl⟩ gm_X1_init gi_X1_init rfl gl_X10_11 ⟨by decide, by decide⟩ rfl hl.1 rfl (Nat.le_of_ble_eq_true rfl) dX10_init_13 hbd (fun H locs Z => ?_)
    show W _ _ _ _ _ _ _ _ _ _ _ _ (0 + 1 + 2) (0 + 4 + 600) _ (F0 m 16 ls [.ref (n), .ref (a0)])
    refine zz_putF S K Z hv zc_8 (by decide) gf_X10_14 rfl hnm rfl rfl rfl dX10_init_16 (fun h4 H locs hv Z => ?_)
    refine lv_aload_n S.1 S.2.1 dX10_init_19 rfl (lv_at hl 0 rfl) ?_
    obtain ⟨hbd, hv⟩ := zz_bud_s hv
    refine zz_new S K Z hv zc_1 gq_X10_9 gn_X1 gt_X1 zd_1 hbd.1 hbd.2 dX10_init_20 (fun h5 H hv Z => ?_)
    refine lv_dup S.1 S.2.1 dX10_init_23 rfl ?_
    refine lv_bipush (v := (24 : Int32)) S.1 S.2.1 dX10_init_24 (by decide) ?_
    refine lv_bipush (v := (20 : Int32)) S.1 S.2.1 dX10_init_26 (by decide) ?_
    obtain ⟨hbd, hv⟩ := zz_bud_s hv
    obtain ⟨⟨h6, n7⟩, hq, hv⟩ := zz_bd hv
    refine zz_I [.int ((24 : Int32)), .int ((20 : Int32))] S K Z (c_X1_init n3 (24 : Int32) (20 : Int32) hq) ⟨rfl, rfl⟩ gm_X1_init gi_X1_init rfl gl_X10_11 ⟨by decide, by decide⟩ rfl hl.1 rfl (Nat.le_of_ble_eq_true rfl) dX10_init_28 hbd (fun H locs Z => ?_)
    show W _ _ _ _ _ _ _ _ _ _ _ _ (0 + 1 + 2 + 1 + 2) (0 + 4 + 600 + 4 + 600) _ (F0 m 31 ls [.ref (n3), .ref (a0)])
    refine zz_putF S K Z hv zc_8 (by decide) gf_X10_20 rfl hnm rfl rfl rfl dX10_init_31 (fun h8 H locs hv Z => ?_)
    refine lv_aload_n S.1 S.2.1 dX10_init_34 rfl (lv_at hl 0 rfl) ?_
    refine lv_bipush (v := (30 : Int32)) S.1 S.2.1 dX10_init_35 (by decide) ?_
    obtain ⟨hok, hv⟩ := zz_ok_s hv
    obtain ⟨hbd, hv⟩ := zz_bud_s hv
    refine zz_newq S K Z hv gq_X10_23 K.2.2.2.2.2 rfl hok.1 (by have := hok.2; omega) hbd.1 hbd.2 dX10_init_37 (fun h9 H hv Z => ?_)
    refine zz_putF S K Z hv zc_8 (by decide) gf_X10_25 rfl hnm rfl rfl rfl dX10_init_40 (fun h10 H locs hv Z => ?_)
    refine lv_aload_n S.1 S.2.1 dX10_init_43 rfl (lv_at hl 0 rfl) ?_
    refine lv_iconst (v := (4 : Int32)) S.1 S.2.1 dX10_init_44 (by decide) ?_
    obtain ⟨hok, hv⟩ := zz_ok_s hv
    obtain ⟨hbd, hv⟩ := zz_bud_s hv
    refine zz_newq S K Z hv gq_X10_29 K.2.2.2.1 rfl hok.1 (by have := hok.2; omega) hbd.1 hbd.2 dX10_init_45 (fun h11 H hv Z => ?_)
    refine zz_putF S K Z hv zc_8 (by decide) gf_X10_31 rfl hnm rfl rfl rfl dX10_init_48 (fun h12 H locs hv Z => ?_)
    refine lv_aload_n S.1 S.2.1 dX10_init_51 rfl (lv_at hl 0 rfl) ?_
    refine lv_iload_n S.1 S.2.1 dX10_init_52 rfl (lv_at hl 1 rfl) ?_
    refine zz_put S K Z hv zc_8 (by decide) gf_X10_35 rfl rfl rfl dX10_init_53 (fun h13 H locs hv Z => ?_)
    refine lv_iconst (v := (0 : Int32)) S.1 S.2.1 dX10_init_56 (by decide) ?_
    refine lv_istore_n (lv' := [(2, .int ((0 : Int32))), (0, .ref (a0)), (1, .int (a1))]) S.1 S.2.1 dX10_init_57 rfl hl (by decide) rfl (fun ls hl => ?_)
    exact L58  ((0 : Int32), h13, n7 + 2, 0 + 1 + 2 + 1 + 2 + 1 + 1, 0 + 4 + 600 + 4 + 600 + (30 : Int32).toNatClampNeg + (4 : Int32).toNatClampNeg) _ hv hk H locs ls Z (lv_sub hl [1, 0] rfl)
  rw [hH, hlo] at key
  exact key

noncomputable def f_X4_init (h : ZH) (n : Nat) (a0 : Nat) : Option (ZH × Nat) :=
  zz_ok (¬ (8 : Int32) < 0 ∧ (8 : Int32).toNatClampNeg ≤ 60000) <| zz_bud (0 + 1) 1 (0 + (8 : Int32).toNatClampNeg) 8 <| zz_let (va_up h n (some (.inl (1, (8 : Int32).toNatClampNeg, .inl (fun _ => 0))))) fun h1 => (zp_V h1 a0 3 0 (.ref (n))).bind fun h2 => (zp_V h2 a0 3 4 (.int ((-2 : Int32)))).bind fun h3 => zz_bud (0 + 1) 1 (0 + (8 : Int32).toNatClampNeg) 8 <| some ((h3, n + 1))
abbrev rm_X4_init : Room := { frames := 1, cells := 1, slots := 8, locals := 20 }
set_option maxRecDepth 100000 in
set_option maxHeartbeats 4000000 in
theorem c_X4_init {l : Launch} {D : va_G} {dA : Nat → ClassId} {A : Nat → Prop} {h : ZH} {n : Nat} (a0 : Nat) {hx : ZH} {nx : Nat} (hf : f_X4_init h n a0 = some (hx, nx)) : Met l yX4_init (zz_ws yX4_init cX4_init 1 none) rm_X4_init (zz_P D dA A h n [.ref (a0)]) (zz_Q D dA A (none) hx nx) 1 8 A := by
  refine zz_met (by decide) (Nat.le_of_ble_eq_true rfl) ?_
  intro p e s m args below meth c ls S K hret hlk hnm hl Z
  replace hl : lv_has ls 1 [(0, .ref (a0))] := hl
  obtain ⟨K0, hR0, hk⟩ : ∃ K0 : (ZH × Nat) → Prop, (∀ x, K0 x → x = (hx, nx)) ∧ K0 (hx, nx) := ⟨fun x => x = (hx, nx), fun _ h => h, rfl⟩
  have hv := hf
  unfold f_X4_init at hv
  clear hf
  obtain ⟨x, hxx⟩ : ∃ x, x = (hx, nx) := ⟨_, rfl⟩
  rw [← hxx] at hv hk
  have ⟨H, hH⟩ : ∃ H, H = s.heap := ⟨_, rfl⟩
  have ⟨locs, hlo⟩ : ∃ q : List Loc, q = [] := ⟨_, rfl⟩
  have Z : zz_B D dA A h n s.heap H locs := by rw [hH, hlo]; exact Z
  have key : zz_W p l e rm_X4_init s m args below meth c D dA A (none) hx nx 1 8 H locs 0 0 0 ls [] := by
    clear hH hlo hxx
    refine lv_aload_n S.1 S.2.1 dX4_init_0 rfl (lv_at hl 0 rfl) ?_
    refine W.objInit S.1 S.2.1 S.2.2.2.1 (S.2.2.2.2 _ gl_X4_3) (S.2.2.2.2 _ gi_obj) (S.2.2.2.2 _ gc_obj) rfl (by rw [S.2.2.1]; exact hl.1) rfl dX4_init_1 (by decide) (Nat.le_of_ble_eq_true rfl) ?_
    show W _ _ _ _ _ _ _ _ _ _ _ _ _ _ _ (F0 m 4 ls [])
    refine lv_aload_n S.1 S.2.1 dX4_init_4 rfl (lv_at hl 0 rfl) ?_
    refine lv_bipush (v := (8 : Int32)) S.1 S.2.1 dX4_init_5 (by decide) ?_
    obtain ⟨hok, hv⟩ := zz_ok_s hv
    obtain ⟨hbd, hv⟩ := zz_bud_s hv
    refine zz_newa (atype := .int) (a0 := fun N => (N, .inl (fun _ => 0))) S K Z hv ga_int rfl (fun h => h) (fun _ _ => rfl) hok.1 (by have := hok.2; simp only [newarray.typeOf, componentBytes]; omega) hbd.1 hbd.2 dX4_init_7 (fun h1 H hv Z => ?_)
    refine zz_putF S K Z hv zc_3 (by decide) gf_X4_9 rfl hnm rfl rfl rfl dX4_init_9 (fun h2 H locs hv Z => ?_)
    refine lv_aload_n S.1 S.2.1 dX4_init_12 rfl (lv_at hl 0 rfl) ?_
    refine lv_bipush (v := (-2 : Int32)) S.1 S.2.1 dX4_init_13 (by decide) ?_
    refine zz_put S K Z hv zc_3 (by decide) gf_X4_15 rfl rfl rfl dX4_init_15 (fun h3 H locs hv Z => ?_)
    obtain ⟨hbd, hv⟩ := zz_bud_s hv
    replace hk := zz_fin hv hk
    cases hR0 _ hk
    exact zz_vret S Z hret hlk dX4_init_18 hbd.1 hbd.2
  rw [hH, hlo] at key
  exact key

noncomputable def f_X8_init (h : ZH) (n : Nat) (a0 : Nat) (a1 : Nat) : Option (ZH × Nat) :=
  zz_bud (0 + 1) 4 (0 + 5) 68 <| zz_let (va_up h n (some (.inr (3, [.null, .int 0, .int 0, .int 0, .int 0])))) fun h1 => zz_bud (0 + 1 + 1) 4 (0 + 5 + 8) 68 <| (f_X4_init h1 (n + 1) n).bind fun (h2, n3) => (zp_V h2 a0 6 1 (.ref (n))).bind fun h4 => zz_ok (¬ (30 : Int32) < 0 ∧ (30 : Int32).toNatClampNeg ≤ 60000) <| zz_bud (0 + 1 + 1 + 1) 4 (0 + 5 + 8 + (30 : Int32).toNatClampNeg) 68 <| zz_let (va_up h4 n3 (some (.inl (1, (30 : Int32).toNatClampNeg, .inl (fun _ => 0))))) fun h5 => (zp_V h5 a0 6 2 (.ref (n3))).bind fun h6 => zz_ok (¬ (25 : Int32) < 0 ∧ (25 : Int32).toNatClampNeg ≤ 60000) <| zz_bud (0 + 1 + 1 + 1 + 1) 4 (0 + 5 + 8 + (30 : Int32).toNatClampNeg + (25 : Int32).toNatClampNeg) 68 <| zz_let (va_up h6 (n3 + 1) (some (.inl (1, (25 : Int32).toNatClampNeg, .inl (fun _ => 0))))) fun h7 => (zp_V h7 a0 6 3 (.ref (n3 + 1))).bind fun h8 => (zp_V h8 a0 6 0 (.ref (a1))).bind fun h9 => (zg_R h9 a0 6 1).bind fun v10 => (zg_I h9 a1 8 5).bind fun v11 => (zp_V h9 v10 3 2 (.int (v11))).bind fun h12 => zz_bud (0 + 1 + 1 + 1 + 1) 4 (0 + 5 + 8 + (30 : Int32).toNatClampNeg + (25 : Int32).toNatClampNeg) 68 <| some ((h12, n3 + 2))
abbrev rm_X8_init : Room := { frames := 2, cells := 4, slots := 68, locals := 40 }
set_option maxRecDepth 100000 in
set_option maxHeartbeats 4000000 in
theorem c_X8_init {l : Launch} {D : va_G} {dA : Nat → ClassId} {A : Nat → Prop} {h : ZH} {n : Nat} (a0 : Nat) (a1 : Nat) {hx : ZH} {nx : Nat} (hf : f_X8_init h n a0 a1 = some (hx, nx)) : Met l yX8_init (zz_ws yX8_init cX8_init 2 none) rm_X8_init (zz_P D dA A h n [.ref (a0), .ref (a1)]) (zz_Q D dA A (none) hx nx) 4 68 A := by
  refine zz_met (by decide) (Nat.le_of_ble_eq_true rfl) ?_
  intro p e s m args below meth c ls S K hret hlk hnm hl Z
  replace hl : lv_has ls 2 [(0, .ref (a0)), (1, .ref (a1))] := hl
  obtain ⟨K0, hR0, hk⟩ : ∃ K0 : (ZH × Nat) → Prop, (∀ x, K0 x → x = (hx, nx)) ∧ K0 (hx, nx) := ⟨fun x => x = (hx, nx), fun _ h => h, rfl⟩
  have hv := hf
  unfold f_X8_init at hv
  clear hf
  obtain ⟨x, hxx⟩ : ∃ x, x = (hx, nx) := ⟨_, rfl⟩
  rw [← hxx] at hv hk
  have ⟨H, hH⟩ : ∃ H, H = s.heap := ⟨_, rfl⟩
  have ⟨locs, hlo⟩ : ∃ q : List Loc, q = [] := ⟨_, rfl⟩
  have Z : zz_B D dA A h n s.heap H locs := by rw [hH, hlo]; exact Z
  have key : zz_W p l e rm_X8_init s m args below meth c D dA A (none) hx nx 4 68 H locs 0 0 0 ls [] := by
    clear hH hlo hxx
    refine lv_aload_n S.1 S.2.1 dX8_init_0 rfl (lv_at hl 0 rfl) ?_
    refine W.objInit S.1 S.2.1 S.2.2.2.1 (S.2.2.2.2 _ gl_X8_3) (S.2.2.2.2 _ gi_obj) (S.2.2.2.2 _ gc_obj) rfl (by rw [S.2.2.1]; exact hl.1) rfl dX8_init_1 (by decide) (Nat.le_of_ble_eq_true rfl) ?_
    show W _ _ _ _ _ _ _ _ _ _ _ _ _ _ _ (F0 m 4 ls [])
    refine lv_aload_n S.1 S.2.1 dX8_init_4 rfl (lv_at hl 0 rfl) ?_
    obtain ⟨hbd, hv⟩ := zz_bud_s hv
    refine zz_new S K Z hv zc_3 gq_X8_9 gn_X4 gt_X4 zd_3 hbd.1 hbd.2 dX8_init_5 (fun h1 H hv Z => ?_)
    refine lv_dup S.1 S.2.1 dX8_init_8 rfl ?_
    obtain ⟨hbd, hv⟩ := zz_bud_s hv
    obtain ⟨⟨h2, n3⟩, hq, hv⟩ := zz_bd hv
    refine zz_IN [] S K Z (c_X4_init n hq) ⟨rfl, rfl⟩ gm_X4_init gi_X4_init rfl (List.mem_of_getElem? (i := 2) rfl) ⟨by decide, by decide⟩ rfl hl.1 rfl (Nat.le_of_ble_eq_true rfl) dX8_init_9 hbd (fun H locs Z => ?_)
    show W _ _ _ _ _ _ _ _ _ _ _ _ (0 + 1 + 1) (0 + 5 + 8) _ (F0 m 12 ls [.ref (n), .ref (a0)])
    refine zz_putF S K Z hv zc_6 (by decide) gf_X8_12 rfl hnm rfl rfl rfl dX8_init_12 (fun h4 H locs hv Z => ?_)
    refine lv_aload_n S.1 S.2.1 dX8_init_15 rfl (lv_at hl 0 rfl) ?_
    refine lv_bipush (v := (30 : Int32)) S.1 S.2.1 dX8_init_16 (by decide) ?_
    obtain ⟨hok, hv⟩ := zz_ok_s hv
    obtain ⟨hbd, hv⟩ := zz_bud_s hv
    refine zz_newa (atype := .int) (a0 := fun N => (N, .inl (fun _ => 0))) S K Z hv ga_int rfl (fun h => h) (fun _ _ => rfl) hok.1 (by have := hok.2; simp only [newarray.typeOf, componentBytes]; omega) hbd.1 hbd.2 dX8_init_18 (fun h5 H hv Z => ?_)
    refine zz_putF S K Z hv zc_6 (by decide) gf_X8_18 rfl hnm rfl rfl rfl dX8_init_20 (fun h6 H locs hv Z => ?_)
    refine lv_aload_n S.1 S.2.1 dX8_init_23 rfl (lv_at hl 0 rfl) ?_
    refine lv_bipush (v := (25 : Int32)) S.1 S.2.1 dX8_init_24 (by decide) ?_
    obtain ⟨hok, hv⟩ := zz_ok_s hv
    obtain ⟨hbd, hv⟩ := zz_bud_s hv
    refine zz_newa (atype := .int) (a0 := fun N => (N, .inl (fun _ => 0))) S K Z hv ga_int rfl (fun h => h) (fun _ _ => rfl) hok.1 (by have := hok.2; simp only [newarray.typeOf, componentBytes]; omega) hbd.1 hbd.2 dX8_init_26 (fun h7 H hv Z => ?_)
    refine zz_putF S K Z hv zc_6 (by decide) gf_X8_22 rfl hnm rfl rfl rfl dX8_init_28 (fun h8 H locs hv Z => ?_)
    refine lv_aload_n S.1 S.2.1 dX8_init_31 rfl (lv_at hl 0 rfl) ?_
    refine lv_aload_n S.1 S.2.1 dX8_init_32 rfl (lv_at hl 1 rfl) ?_
    refine zz_putF S K Z hv zc_6 (by decide) gf_X8_25 rfl hnm rfl rfl rfl dX8_init_33 (fun h9 H locs hv Z => ?_)
    refine lv_aload_n S.1 S.2.1 dX8_init_36 rfl (lv_at hl 0 rfl) ?_
    refine zz_gR S K Z hv zc_6 (by decide) gf_X8_12 dX8_init_37 (fun v10 hv => ?_)
    refine lv_aload_n S.1 S.2.1 dX8_init_40 rfl (lv_at hl 1 rfl) ?_
    refine zz_gI S K Z hv zc_8 (by decide) gf_X8_29 dX8_init_41 (fun v11 hv => ?_)
    refine zz_put S K Z hv zc_3 (by decide) gf_X8_35 rfl rfl rfl dX8_init_44 (fun h12 H locs hv Z => ?_)
    obtain ⟨hbd, hv⟩ := zz_bud_s hv
    replace hk := zz_fin hv hk
    cases hR0 _ hk
    exact zz_vret S Z hret hlk dX8_init_47 hbd.1 hbd.2
  rw [hH, hlo] at key
  exact key

noncomputable def f_X7_init_L47 (h : ZH) (a0 : Nat) (a1 : Nat) (a2 : Nat) (x3_11 : Int32) (h12 : ZH) (n13 : Nat) (kc14 : Nat) (ks15 : Nat)  : Option ((Int32 × ZH × Nat × Nat × Nat) ⊕ (ZH × Nat)) :=
  (zg_R h12 a0 5 2).bind fun v16 => (zl_N h12 v16 6).bind fun v17 => if v17 ≤ x3_11 then ((zz_bud (kc14) 12 (ks15) 140 <| some ((h12, n13))).map Sum.inr) else ((zg_R h12 a0 5 2).bind fun v18 => zz_bud (kc14 + 1) 12 (ks15 + 5) 140 <| zz_let (va_up h12 n13 (some (.inr (3, [.null, .int 0, .int 0, .int 0, .int 0])))) fun h19 => zz_bud (kc14 + 1 + 1) 12 (ks15 + 5 + 8) 140 <| (f_X4_init h19 (n13 + 1) n13).bind fun (h20, n21) => zz_isO h20 n13 3 <| (zs_R h20 v18 6 x3_11 n13).bind fun h22 => some (.inl (x3_11 + (1 : Int32), h22, n21, kc14 + 1 + 1, ks15 + 5 + 8)))
noncomputable def f_X7_init (h : ZH) (n : Nat) (a0 : Nat) (a1 : Nat) (a2 : Nat) : Option (ZH × Nat) :=
  zz_ok (¬ (4 : Int32) < 0 ∧ (4 : Int32).toNatClampNeg ≤ 60000) <| zz_bud (0 + 1) 12 (0 + (4 : Int32).toNatClampNeg) 140 <| zz_let (va_up h n (some (.inl (6, (4 : Int32).toNatClampNeg, .inr (.inr (.inr (.inr (fun _ => none)))))))) fun h1 => (zp_V h1 a0 5 2 (.ref (n))).bind fun h2 => zz_ok (¬ (4 : Int32) < 0 ∧ (4 : Int32).toNatClampNeg ≤ 60000) <| zz_bud (0 + 1 + 1) 12 (0 + (4 : Int32).toNatClampNeg + (4 : Int32).toNatClampNeg) 140 <| zz_let (va_up h2 (n + 1) (some (.inl (2, (4 : Int32).toNatClampNeg, .inl (fun _ => 0))))) fun h3 => (zp_V h3 a0 5 3 (.ref (n + 1))).bind fun h4 => zz_ok (¬ (40 : Int32) < 0 ∧ (40 : Int32).toNatClampNeg ≤ 60000) <| zz_bud (0 + 1 + 1 + 1) 12 (0 + (4 : Int32).toNatClampNeg + (4 : Int32).toNatClampNeg + (40 : Int32).toNatClampNeg) 140 <| zz_let (va_up h4 (n + 2) (some (.inl (1, (40 : Int32).toNatClampNeg, .inl (fun _ => 0))))) fun h5 => (zp_V h5 a0 5 4 (.ref (n + 2))).bind fun h6 => zz_ok (¬ (40 : Int32) < 0 ∧ (40 : Int32).toNatClampNeg ≤ 60000) <| zz_bud (0 + 1 + 1 + 1 + 1) 12 (0 + (4 : Int32).toNatClampNeg + (4 : Int32).toNatClampNeg + (40 : Int32).toNatClampNeg + (40 : Int32).toNatClampNeg) 140 <| zz_let (va_up h6 (n + 3) (some (.inl (1, (40 : Int32).toNatClampNeg, .inl (fun _ => 0))))) fun h7 => (zp_V h7 a0 5 5 (.ref (n + 3))).bind fun h8 => (zp_V h8 a0 5 0 (.ref (a1))).bind fun h9 => (zp_V h9 a0 5 1 (.ref (a2))).bind fun h10 => zz_loop (fun st : (Int32 × ZH × Nat × Nat × Nat) => f_X7_init_L47 h a0 a1 a2 (st.1) (st.2.1) (st.2.2.1) (st.2.2.2.1) (st.2.2.2.2)) ((0 : Int32), h10, n + 4, 0 + 1 + 1 + 1 + 1, 0 + (4 : Int32).toNatClampNeg + (4 : Int32).toNatClampNeg + (40 : Int32).toNatClampNeg + (40 : Int32).toNatClampNeg)
abbrev rm_X7_init : Room := { frames := 2, cells := 12, slots := 140, locals := 40 }
set_option maxRecDepth 100000 in
set_option maxHeartbeats 4000000 in
theorem c_X7_init {l : Launch} {D : va_G} {dA : Nat → ClassId} {A : Nat → Prop} {h : ZH} {n : Nat} (a0 : Nat) (a1 : Nat) (a2 : Nat) {hx : ZH} {nx : Nat} (hf : f_X7_init h n a0 a1 a2 = some (hx, nx)) : Met l yX7_init (zz_ws yX7_init cX7_init 4 none) rm_X7_init (zz_P D dA A h n [.ref (a0), .ref (a1), .ref (a2)]) (zz_Q D dA A (none) hx nx) 12 140 A := by
  refine zz_met (by decide) (Nat.le_of_ble_eq_true rfl) ?_
  intro p e s m args below meth c ls S K hret hlk hnm hl Z
  replace hl : lv_has ls 4 [(0, .ref (a0)), (1, .ref (a1)), (2, .ref (a2))] := hl
  obtain ⟨K0, hR0, hk⟩ : ∃ K0 : (ZH × Nat) → Prop, (∀ x, K0 x → x = (hx, nx)) ∧ K0 (hx, nx) := ⟨fun x => x = (hx, nx), fun _ h => h, rfl⟩
  have L47 : ∀ (st : (Int32 × ZH × Nat × Nat × Nat)) (x : (ZH × Nat)), zz_loop (fun st : (Int32 × ZH × Nat × Nat × Nat) => f_X7_init_L47 h a0 a1 a2 (st.1) (st.2.1) (st.2.2.1) (st.2.2.2.1) (st.2.2.2.2)) st = some x → K0 x → (fun st : (Int32 × ZH × Nat × Nat × Nat) => ∀ (H : Heap) (locs : List Loc) (ls : Array Slot), zz_B D dA A (st.2.1) (st.2.2.1) s.heap H locs → lv_has ls 4 [(0, .ref (a0)), (3, .int ((st.1)))] → zz_W p l e rm_X7_init s m args below meth c D dA A (none) hx nx 12 140 H locs (st.2.2.2.1) (st.2.2.2.2) 47 ls []) st := by
    refine zz_loop_go (K := K0) ?_
    intro K1 hP1 hR1
    rintro ⟨x3_11, h12, n13, kc14, ks15⟩ x hv hk H locs ls Z hl
    replace hv : f_X7_init_L47 h a0 a1 a2 x3_11 h12 n13 kc14 ks15 = some x := hv
    unfold f_X7_init_L47 at hv
    replace hl : lv_has ls 4 [(0, .ref (a0)), (3, .int (x3_11))] := hl
    replace Z : zz_B D dA A h12 n13 s.heap H locs := Z
    show zz_W p l e rm_X7_init s m args below meth c D dA A (none) hx nx 12 140 H locs kc14 ks15 47 ls []
    refine lv_iload_n S.1 S.2.1 dX7_init_47 rfl (lv_at hl 1 rfl) ?_
    refine lv_aload_n S.1 S.2.1 dX7_init_48 rfl (lv_at hl 0 rfl) ?_
    refine zz_gR S K Z hv zc_5 (by decide) gf_X7_11 dX7_init_49 (fun v16 hv => ?_)
    refine zz_alen S K Z hv rfl dX7_init_52 (fun v17 hv => ?_)
    refine lv_icmp_ge (tgt := 75) S.1 S.2.1 dX7_init_53 (by decide) (fun hc => ?_) (fun hc => ?_)
    · replace hv := (if_pos hc).symm.trans hv
      obtain ⟨_, hv, hk⟩ := zz_mapk hv hk
      replace hk := hR1 _ hk
      obtain ⟨hbd, hv⟩ := zz_bud_s hv
      replace hk := zz_fin hv hk
      cases hR0 _ hk
      exact zz_vret S Z hret hlk dX7_init_75 hbd.1 hbd.2
    · replace hv := (if_neg hc).symm.trans hv
      refine lv_aload_n S.1 S.2.1 dX7_init_56 rfl (lv_at hl 0 rfl) ?_
      refine zz_gR S K Z hv zc_5 (by decide) gf_X7_11 dX7_init_57 (fun v18 hv => ?_)
      refine lv_iload_n S.1 S.2.1 dX7_init_60 rfl (lv_at hl 1 rfl) ?_
      obtain ⟨hbd, hv⟩ := zz_bud_s hv
      refine zz_new S K Z hv zc_3 gq_X7_9 gn_X4 gt_X4 zd_3 hbd.1 hbd.2 dX7_init_61 (fun h19 H hv Z => ?_)
      refine lv_dup S.1 S.2.1 dX7_init_64 rfl ?_
      obtain ⟨hbd, hv⟩ := zz_bud_s hv
      obtain ⟨⟨h20, n21⟩, hq, hv⟩ := zz_bd hv
      refine zz_IN [] S K Z (c_X4_init n13 hq) ⟨rfl, rfl⟩ gm_X4_init gi_X4_init rfl (List.mem_of_getElem? (i := 3) rfl) ⟨by decide, by decide⟩ rfl hl.1 rfl (Nat.le_of_ble_eq_true rfl) dX7_init_65 hbd (fun H locs Z => ?_)
      show W _ _ _ _ _ _ _ _ _ _ _ _ (kc14 + 1 + 1) (ks15 + 5 + 8) _ (F0 m 68 ls [.ref (n13), .int (x3_11), .ref (v18)])
      refine zz_aast S K Z hv zc_3 rfl dX7_init_68 (fun h22 H locs hv Z => ?_)
      refine lv_iinc (v := x3_11 + (1 : Int32)) (lv' := [(3, .int (x3_11 + (1 : Int32))), (0, .ref (a0))]) S.1 S.2.1 dX7_init_69 hl (k := 1) rfl rfl (by decide) rfl (fun ls hl => ?_)
      refine lv_goto (tgt := 47) S.1 S.2.1 dX7_init_72 (by decide) ?_
      replace hk := zz_fin hv hk
      exact hP1 _ hk H locs ls Z (lv_sub hl [1, 0] rfl)
  have hv := hf
  unfold f_X7_init at hv
  clear hf
  obtain ⟨x, hxx⟩ : ∃ x, x = (hx, nx) := ⟨_, rfl⟩
  rw [← hxx] at hv hk
  have ⟨H, hH⟩ : ∃ H, H = s.heap := ⟨_, rfl⟩
  have ⟨locs, hlo⟩ : ∃ q : List Loc, q = [] := ⟨_, rfl⟩
  have Z : zz_B D dA A h n s.heap H locs := by rw [hH, hlo]; exact Z
  have key : zz_W p l e rm_X7_init s m args below meth c D dA A (none) hx nx 12 140 H locs 0 0 0 ls [] := by
    clear hH hlo hxx
    refine lv_aload_n S.1 S.2.1 dX7_init_0 rfl (lv_at hl 0 rfl) ?_
    refine W.objInit S.1 S.2.1 S.2.2.2.1 (S.2.2.2.2 _ gl_X7_3) (S.2.2.2.2 _ gi_obj) (S.2.2.2.2 _ gc_obj) rfl (by rw [S.2.2.1]; exact hl.1) rfl dX7_init_1 (by decide) (Nat.le_of_ble_eq_true rfl) ?_
    show W _ _ _ _ _ _ _ _ _ _ _ _ _ _ _ (F0 m 4 ls [])
    refine lv_aload_n S.1 S.2.1 dX7_init_4 rfl (lv_at hl 0 rfl) ?_
    refine lv_iconst (v := (4 : Int32)) S.1 S.2.1 dX7_init_5 (by decide) ?_
    obtain ⟨hok, hv⟩ := zz_ok_s hv
    obtain ⟨hbd, hv⟩ := zz_bud_s hv
    refine zz_newq S K Z hv gq_X7_9 K.2.2.2.2.1 rfl hok.1 (by have := hok.2; omega) hbd.1 hbd.2 dX7_init_6 (fun h1 H hv Z => ?_)
    refine zz_putF S K Z hv zc_5 (by decide) gf_X7_11 rfl hnm rfl rfl rfl dX7_init_9 (fun h2 H locs hv Z => ?_)
    refine lv_aload_n S.1 S.2.1 dX7_init_12 rfl (lv_at hl 0 rfl) ?_
    refine lv_iconst (v := (4 : Int32)) S.1 S.2.1 dX7_init_13 (by decide) ?_
    obtain ⟨hok, hv⟩ := zz_ok_s hv
    obtain ⟨hbd, hv⟩ := zz_bud_s hv
    refine zz_newa (atype := .boolean) (a0 := fun N => (N, .inl (fun _ => 0))) S K Z hv ga_boolean rfl (fun h => h) (fun _ _ => rfl) hok.1 (by have := hok.2; simp only [newarray.typeOf, componentBytes]; omega) hbd.1 hbd.2 dX7_init_14 (fun h3 H hv Z => ?_)
    refine zz_putF S K Z hv zc_5 (by decide) gf_X7_17 rfl hnm rfl rfl rfl dX7_init_16 (fun h4 H locs hv Z => ?_)
    refine lv_aload_n S.1 S.2.1 dX7_init_19 rfl (lv_at hl 0 rfl) ?_
    refine lv_bipush (v := (40 : Int32)) S.1 S.2.1 dX7_init_20 (by decide) ?_
    obtain ⟨hok, hv⟩ := zz_ok_s hv
    obtain ⟨hbd, hv⟩ := zz_bud_s hv
    refine zz_newa (atype := .int) (a0 := fun N => (N, .inl (fun _ => 0))) S K Z hv ga_int rfl (fun h => h) (fun _ _ => rfl) hok.1 (by have := hok.2; simp only [newarray.typeOf, componentBytes]; omega) hbd.1 hbd.2 dX7_init_22 (fun h5 H hv Z => ?_)
    refine zz_putF S K Z hv zc_5 (by decide) gf_X7_21 rfl hnm rfl rfl rfl dX7_init_24 (fun h6 H locs hv Z => ?_)
    refine lv_aload_n S.1 S.2.1 dX7_init_27 rfl (lv_at hl 0 rfl) ?_
    refine lv_bipush (v := (40 : Int32)) S.1 S.2.1 dX7_init_28 (by decide) ?_
    obtain ⟨hok, hv⟩ := zz_ok_s hv
    obtain ⟨hbd, hv⟩ := zz_bud_s hv
    refine zz_newa (atype := .int) (a0 := fun N => (N, .inl (fun _ => 0))) S K Z hv ga_int rfl (fun h => h) (fun _ _ => rfl) hok.1 (by have := hok.2; simp only [newarray.typeOf, componentBytes]; omega) hbd.1 hbd.2 dX7_init_30 (fun h7 H hv Z => ?_)
    refine zz_putF S K Z hv zc_5 (by decide) gf_X7_25 rfl hnm rfl rfl rfl dX7_init_32 (fun h8 H locs hv Z => ?_)
    refine lv_aload_n S.1 S.2.1 dX7_init_35 rfl (lv_at hl 0 rfl) ?_
    refine lv_aload_n S.1 S.2.1 dX7_init_36 rfl (lv_at hl 1 rfl) ?_
    refine zz_putF S K Z hv zc_5 (by decide) gf_X7_28 rfl hnm rfl rfl rfl dX7_init_37 (fun h9 H locs hv Z => ?_)
    refine lv_aload_n S.1 S.2.1 dX7_init_40 rfl (lv_at hl 0 rfl) ?_
    refine lv_aload_n S.1 S.2.1 dX7_init_41 rfl (lv_at hl 2 rfl) ?_
    refine zz_putF S K Z hv zc_5 (by decide) gf_X7_32 rfl hnm rfl rfl rfl dX7_init_42 (fun h10 H locs hv Z => ?_)
    refine lv_iconst (v := (0 : Int32)) S.1 S.2.1 dX7_init_45 (by decide) ?_
    refine lv_istore_n (lv' := [(3, .int ((0 : Int32))), (0, .ref (a0)), (1, .ref (a1)), (2, .ref (a2))]) S.1 S.2.1 dX7_init_46 rfl hl (by decide) rfl (fun ls hl => ?_)
    exact L47  ((0 : Int32), h10, n + 4, 0 + 1 + 1 + 1 + 1, 0 + (4 : Int32).toNatClampNeg + (4 : Int32).toNatClampNeg + (40 : Int32).toNatClampNeg + (40 : Int32).toNatClampNeg) _ hv hk H locs ls Z (lv_sub hl [1, 0] rfl)
  rw [hH, hlo] at key
  exact key

noncomputable def f_X9_init (h : ZH) (n : Nat) (a0 : Nat) (a1 : Nat) (a2 : Nat) : Option (ZH × Nat) :=
  zz_bud (0 + 1) 3 (0 + 5) 73 <| zz_let (va_up h n (some (.inr (3, [.null, .int 0, .int 0, .int 0, .int 0])))) fun h1 => zz_bud (0 + 1 + 1) 3 (0 + 5 + 8) 73 <| (f_X4_init h1 (n + 1) n).bind fun (h2, n3) => (zp_V h2 a0 7 2 (.ref (n))).bind fun h4 => zz_ok (¬ (60 : Int32) < 0 ∧ (60 : Int32).toNatClampNeg ≤ 60000) <| zz_bud (0 + 1 + 1 + 1) 3 (0 + 5 + 8 + (60 : Int32).toNatClampNeg) 73 <| zz_let (va_up h4 n3 (some (.inl (1, (60 : Int32).toNatClampNeg, .inl (fun _ => 0))))) fun h5 => (zp_V h5 a0 7 3 (.ref (n3))).bind fun h6 => (zp_V h6 a0 7 0 (.ref (a1))).bind fun h7 => (zp_V h7 a0 7 1 (.ref (a2))).bind fun h8 => zz_bud (0 + 1 + 1 + 1) 3 (0 + 5 + 8 + (60 : Int32).toNatClampNeg) 73 <| some ((h8, n3 + 1))
abbrev rm_X9_init : Room := { frames := 2, cells := 3, slots := 73, locals := 40 }
set_option maxRecDepth 100000 in
set_option maxHeartbeats 4000000 in
theorem c_X9_init {l : Launch} {D : va_G} {dA : Nat → ClassId} {A : Nat → Prop} {h : ZH} {n : Nat} (a0 : Nat) (a1 : Nat) (a2 : Nat) {hx : ZH} {nx : Nat} (hf : f_X9_init h n a0 a1 a2 = some (hx, nx)) : Met l yX9_init (zz_ws yX9_init cX9_init 3 none) rm_X9_init (zz_P D dA A h n [.ref (a0), .ref (a1), .ref (a2)]) (zz_Q D dA A (none) hx nx) 3 73 A := by
  refine zz_met (by decide) (Nat.le_of_ble_eq_true rfl) ?_
  intro p e s m args below meth c ls S K hret hlk hnm hl Z
  replace hl : lv_has ls 3 [(0, .ref (a0)), (1, .ref (a1)), (2, .ref (a2))] := hl
  obtain ⟨K0, hR0, hk⟩ : ∃ K0 : (ZH × Nat) → Prop, (∀ x, K0 x → x = (hx, nx)) ∧ K0 (hx, nx) := ⟨fun x => x = (hx, nx), fun _ h => h, rfl⟩
  have hv := hf
  unfold f_X9_init at hv
  clear hf
  obtain ⟨x, hxx⟩ : ∃ x, x = (hx, nx) := ⟨_, rfl⟩
  rw [← hxx] at hv hk
  have ⟨H, hH⟩ : ∃ H, H = s.heap := ⟨_, rfl⟩
  have ⟨locs, hlo⟩ : ∃ q : List Loc, q = [] := ⟨_, rfl⟩
  have Z : zz_B D dA A h n s.heap H locs := by rw [hH, hlo]; exact Z
  have key : zz_W p l e rm_X9_init s m args below meth c D dA A (none) hx nx 3 73 H locs 0 0 0 ls [] := by
    clear hH hlo hxx
    refine lv_aload_n S.1 S.2.1 dX9_init_0 rfl (lv_at hl 0 rfl) ?_
    refine W.objInit S.1 S.2.1 S.2.2.2.1 (S.2.2.2.2 _ gl_X9_3) (S.2.2.2.2 _ gi_obj) (S.2.2.2.2 _ gc_obj) rfl (by rw [S.2.2.1]; exact hl.1) rfl dX9_init_1 (by decide) (Nat.le_of_ble_eq_true rfl) ?_
    show W _ _ _ _ _ _ _ _ _ _ _ _ _ _ _ (F0 m 4 ls [])
    refine lv_aload_n S.1 S.2.1 dX9_init_4 rfl (lv_at hl 0 rfl) ?_
    obtain ⟨hbd, hv⟩ := zz_bud_s hv
    refine zz_new S K Z hv zc_3 gq_X9_9 gn_X4 gt_X4 zd_3 hbd.1 hbd.2 dX9_init_5 (fun h1 H hv Z => ?_)
    refine lv_dup S.1 S.2.1 dX9_init_8 rfl ?_
    obtain ⟨hbd, hv⟩ := zz_bud_s hv
    obtain ⟨⟨h2, n3⟩, hq, hv⟩ := zz_bd hv
    refine zz_IN [] S K Z (c_X4_init n hq) ⟨rfl, rfl⟩ gm_X4_init gi_X4_init rfl (List.mem_of_getElem? (i := 4) rfl) ⟨by decide, by decide⟩ rfl hl.1 rfl (Nat.le_of_ble_eq_true rfl) dX9_init_9 hbd (fun H locs Z => ?_)
    show W _ _ _ _ _ _ _ _ _ _ _ _ (0 + 1 + 1) (0 + 5 + 8) _ (F0 m 12 ls [.ref (n), .ref (a0)])
    refine zz_putF S K Z hv zc_7 (by decide) gf_X9_12 rfl hnm rfl rfl rfl dX9_init_12 (fun h4 H locs hv Z => ?_)
    refine lv_aload_n S.1 S.2.1 dX9_init_15 rfl (lv_at hl 0 rfl) ?_
    refine lv_bipush (v := (60 : Int32)) S.1 S.2.1 dX9_init_16 (by decide) ?_
    obtain ⟨hok, hv⟩ := zz_ok_s hv
    obtain ⟨hbd, hv⟩ := zz_bud_s hv
    refine zz_newa (atype := .int) (a0 := fun N => (N, .inl (fun _ => 0))) S K Z hv ga_int rfl (fun h => h) (fun _ _ => rfl) hok.1 (by have := hok.2; simp only [newarray.typeOf, componentBytes]; omega) hbd.1 hbd.2 dX9_init_18 (fun h5 H hv Z => ?_)
    refine zz_putF S K Z hv zc_7 (by decide) gf_X9_18 rfl hnm rfl rfl rfl dX9_init_20 (fun h6 H locs hv Z => ?_)
    refine lv_aload_n S.1 S.2.1 dX9_init_23 rfl (lv_at hl 0 rfl) ?_
    refine lv_aload_n S.1 S.2.1 dX9_init_24 rfl (lv_at hl 1 rfl) ?_
    refine zz_putF S K Z hv zc_7 (by decide) gf_X9_22 rfl hnm rfl rfl rfl dX9_init_25 (fun h7 H locs hv Z => ?_)
    refine lv_aload_n S.1 S.2.1 dX9_init_28 rfl (lv_at hl 0 rfl) ?_
    refine lv_aload_n S.1 S.2.1 dX9_init_29 rfl (lv_at hl 2 rfl) ?_
    refine zz_putF S K Z hv zc_7 (by decide) gf_X9_26 rfl hnm rfl rfl rfl dX9_init_30 (fun h8 H locs hv Z => ?_)
    obtain ⟨hbd, hv⟩ := zz_bud_s hv
    replace hk := zz_fin hv hk
    cases hR0 _ hk
    exact zz_vret S Z hret hlk dX9_init_33 hbd.1 hbd.2
  rw [hH, hlo] at key
  exact key

noncomputable def f_X11_init (h : ZH) (n : Nat) (a0 : Nat) (a1 : Int32) : Option (ZH × Nat) :=
  zz_bud (0 + 1) 72 (0 + 2) 2459 <| zz_let (va_up h n (some (.inr (0, [.null, .int 0])))) fun h1 => zz_bud (0 + 1 + 1) 72 (0 + 2 + 600) 2459 <| (f_X0_init h1 (n + 1) n (600 : Int32)).bind fun (h2, n3) => (zp_V h2 a0 9 0 (.ref (n))).bind fun h4 => zz_ok (¬ (10 : Int32) < 0 ∧ (10 : Int32).toNatClampNeg ≤ 60000) <| zz_bud (0 + 1 + 1 + 1) 72 (0 + 2 + 600 + (10 : Int32).toNatClampNeg) 2459 <| zz_let (va_up h4 n3 (some (.inl (4, (10 : Int32).toNatClampNeg, .inr (.inr (.inr (.inr (fun _ => none)))))))) fun h5 => (zp_V h5 a0 9 5 (.ref (n3))).bind fun h6 => zz_bud (0 + 1 + 1 + 1 + 1) 72 (0 + 2 + 600 + (10 : Int32).toNatClampNeg + 6) 2459 <| zz_let (va_up h6 (n3 + 1) (some (.inr (8, [.null, .null, .null, .null, .int 0, .int 0])))) fun h7 => zz_let (n3 + 1) fun v8 => zz_bud (0 + 1 + 1 + 1 + 1 + 46) 72 (0 + 2 + 600 + (10 : Int32).toNatClampNeg + 6 + 1540) 2459 <| (f_X10_init h7 (n3 + 2) v8 a1).bind fun (h9, n10) => (zp_V h9 a0 9 1 (.ref (v8))).bind fun h11 => zz_bud (0 + 1 + 1 + 1 + 1 + 46 + 1) 72 (0 + 2 + 600 + (10 : Int32).toNatClampNeg + 6 + 1540 + 6) 2459 <| zz_let (va_up h11 n10 (some (.inr (6, [.null, .null, .null, .null, .int 0, .int 0])))) fun h12 => (zg_R h12 a0 9 1).bind fun v13 => zz_bud (0 + 1 + 1 + 1 + 1 + 46 + 1 + 4) 72 (0 + 2 + 600 + (10 : Int32).toNatClampNeg + 6 + 1540 + 6 + 68) 2459 <| (f_X8_init h12 (n10 + 1) n10 v13).bind fun (h14, n15) => (zp_V h14 a0 9 2 (.ref (n10))).bind fun h16 => zz_bud (0 + 1 + 1 + 1 + 1 + 46 + 1 + 4 + 1) 72 (0 + 2 + 600 + (10 : Int32).toNatClampNeg + 6 + 1540 + 6 + 68 + 8) 2459 <| zz_let (va_up h16 n15 (some (.inr (5, [.null, .null, .null, .null, .null, .null, .int 0, .int 0])))) fun h17 => (zg_R h17 a0 9 1).bind fun v18 => (zg_R h17 a0 9 2).bind fun v19 => zz_bud (0 + 1 + 1 + 1 + 1 + 46 + 1 + 4 + 1 + 12) 72 (0 + 2 + 600 + (10 : Int32).toNatClampNeg + 6 + 1540 + 6 + 68 + 8 + 140) 2459 <| (f_X7_init h17 (n15 + 1) n15 v18 v19).bind fun (h20, n21) => (zp_V h20 a0 9 3 (.ref (n15))).bind fun h22 => zz_bud (0 + 1 + 1 + 1 + 1 + 46 + 1 + 4 + 1 + 12 + 1) 72 (0 + 2 + 600 + (10 : Int32).toNatClampNeg + 6 + 1540 + 6 + 68 + 8 + 140 + 6) 2459 <| zz_let (va_up h22 n21 (some (.inr (7, [.null, .null, .null, .null, .int 0, .int 0])))) fun h23 => (zg_R h23 a0 9 1).bind fun v24 => (zg_R h23 a0 9 2).bind fun v25 => zz_bud (0 + 1 + 1 + 1 + 1 + 46 + 1 + 4 + 1 + 12 + 1 + 3) 72 (0 + 2 + 600 + (10 : Int32).toNatClampNeg + 6 + 1540 + 6 + 68 + 8 + 140 + 6 + 73) 2459 <| (f_X9_init h23 (n21 + 1) n21 v24 v25).bind fun (h26, n27) => (zp_V h26 a0 9 4 (.ref (n21))).bind fun h28 => zz_bud (0 + 1 + 1 + 1 + 1 + 46 + 1 + 4 + 1 + 12 + 1 + 3) 72 (0 + 2 + 600 + (10 : Int32).toNatClampNeg + 6 + 1540 + 6 + 68 + 8 + 140 + 6 + 73) 2459 <| some ((h28, n27))
abbrev rm_X11_init : Room := { frames := 3, cells := 72, slots := 2459, locals := 65 }
set_option maxRecDepth 100000 in
set_option maxHeartbeats 4000000 in
theorem c_X11_init {l : Launch} {D : va_G} {dA : Nat → ClassId} {A : Nat → Prop} {h : ZH} {n : Nat} (a0 : Nat) (a1 : Int32) {hx : ZH} {nx : Nat} (hf : f_X11_init h n a0 a1 = some (hx, nx)) : Met l yX11_init (zz_ws yX11_init cX11_init 2 none) rm_X11_init (zz_P D dA A h n [.ref (a0), .int (a1)]) (zz_Q D dA A (none) hx nx) 72 2459 A := by
  refine zz_met (by decide) (Nat.le_of_ble_eq_true rfl) ?_
  intro p e s m args below meth c ls S K hret hlk hnm hl Z
  replace hl : lv_has ls 2 [(0, .ref (a0)), (1, .int (a1))] := hl
  obtain ⟨K0, hR0, hk⟩ : ∃ K0 : (ZH × Nat) → Prop, (∀ x, K0 x → x = (hx, nx)) ∧ K0 (hx, nx) := ⟨fun x => x = (hx, nx), fun _ h => h, rfl⟩
  have hv := hf
  unfold f_X11_init at hv
  clear hf
  obtain ⟨x, hxx⟩ : ∃ x, x = (hx, nx) := ⟨_, rfl⟩
  rw [← hxx] at hv hk
  have ⟨H, hH⟩ : ∃ H, H = s.heap := ⟨_, rfl⟩
  have ⟨locs, hlo⟩ : ∃ q : List Loc, q = [] := ⟨_, rfl⟩
  have Z : zz_B D dA A h n s.heap H locs := by rw [hH, hlo]; exact Z
  have key : zz_W p l e rm_X11_init s m args below meth c D dA A (none) hx nx 72 2459 H locs 0 0 0 ls [] := by
    clear hH hlo hxx
    refine lv_aload_n S.1 S.2.1 dX11_init_0 rfl (lv_at hl 0 rfl) ?_
    refine W.objInit S.1 S.2.1 S.2.2.2.1 (S.2.2.2.2 _ gl_X11_1) (S.2.2.2.2 _ gi_obj) (S.2.2.2.2 _ gc_obj) rfl (by rw [S.2.2.1]; exact hl.1) rfl dX11_init_1 (by decide) (Nat.le_of_ble_eq_true rfl) ?_
    show W _ _ _ _ _ _ _ _ _ _ _ _ _ _ _ (F0 m 4 ls [])
    refine lv_aload_n S.1 S.2.1 dX11_init_4 rfl (lv_at hl 0 rfl) ?_
    obtain ⟨hbd, hv⟩ := zz_bud_s hv
    refine zz_new S K Z hv zc_0 gq_X11_7 gn_X0 gt_X0 zd_0 hbd.1 hbd.2 dX11_init_5 (fun h1 H hv Z => ?_)
    refine lv_dup S.1 S.2.1 dX11_init_8 rfl ?_
    refine lv_sipush (v := (600 : Int32)) S.1 S.2.1 dX11_init_9 (by decide) ?_
    obtain ⟨hbd, hv⟩ := zz_bud_s hv
    obtain ⟨⟨h2, n3⟩, hq, hv⟩ := zz_bd hv
    refine zz_I [.int ((600 : Int32))] S K Z (c_X0_init n (600 : Int32) hq) ⟨rfl, rfl⟩ gm_X0_init gi_X0_init rfl gl_X11_11 ⟨by decide, by decide⟩ rfl hl.1 rfl (Nat.le_of_ble_eq_true rfl) dX11_init_12 hbd (fun H locs Z => ?_)
    show W _ _ _ _ _ _ _ _ _ _ _ _ (0 + 1 + 1) (0 + 2 + 600) _ (F0 m 15 ls [.ref (n), .ref (a0)])
    refine zz_putF S K Z hv zc_9 (by decide) gf_X11_14 rfl hnm rfl rfl rfl dX11_init_15 (fun h4 H locs hv Z => ?_)
    refine lv_aload_n S.1 S.2.1 dX11_init_18 rfl (lv_at hl 0 rfl) ?_
    refine lv_bipush (v := (10 : Int32)) S.1 S.2.1 dX11_init_19 (by decide) ?_
    obtain ⟨hok, hv⟩ := zz_ok_s hv
    obtain ⟨hbd, hv⟩ := zz_bud_s hv
    refine zz_newq S K Z hv gq_X11_7 K.2.2.1 rfl hok.1 (by have := hok.2; omega) hbd.1 hbd.2 dX11_init_21 (fun h5 H hv Z => ?_)
    refine zz_putF S K Z hv zc_9 (by decide) gf_X11_18 rfl hnm rfl rfl rfl dX11_init_24 (fun h6 H locs hv Z => ?_)
    refine lv_aload_n S.1 S.2.1 dX11_init_27 rfl (lv_at hl 0 rfl) ?_
    obtain ⟨hbd, hv⟩ := zz_bud_s hv
    refine zz_new S K Z hv zc_8 gq_X11_22 gn_X10 gt_X10 zd_8 hbd.1 hbd.2 dX11_init_28 (fun h7 H hv Z => ?_)
    refine zz_lt hv (G := fun w => W _ _ _ _ _ _ _ _ _ _ _ _ _ _ _ (F0 _ _ _ (.ref w :: _))) (fun v8 hv => ?_)
    refine lv_dup S.1 S.2.1 dX11_init_31 rfl ?_
    refine lv_iload_n S.1 S.2.1 dX11_init_32 rfl (lv_at hl 1 rfl) ?_
    obtain ⟨hbd, hv⟩ := zz_bud_s hv
    obtain ⟨⟨h9, n10⟩, hq, hv⟩ := zz_bd hv
    refine zz_I [.int (a1)] S K Z (c_X10_init v8 a1 hq) ⟨rfl, rfl⟩ gm_X10_init gi_X10_init rfl gl_X11_24 ⟨by decide, by decide⟩ rfl hl.1 rfl (Nat.le_of_ble_eq_true rfl) dX11_init_33 hbd (fun H locs Z => ?_)
    show W _ _ _ _ _ _ _ _ _ _ _ _ (0 + 1 + 1 + 1 + 1 + 46) (0 + 2 + 600 + (10 : Int32).toNatClampNeg + 6 + 1540) _ (F0 m 36 ls [.ref (v8), .ref (a0)])
    refine zz_putF S K Z hv zc_9 (by decide) gf_X11_25 rfl hnm rfl rfl rfl dX11_init_36 (fun h11 H locs hv Z => ?_)
    refine lv_aload_n S.1 S.2.1 dX11_init_39 rfl (lv_at hl 0 rfl) ?_
    obtain ⟨hbd, hv⟩ := zz_bud_s hv
    refine zz_new S K Z hv zc_6 gq_X11_29 gn_X8 gt_X8 zd_6 hbd.1 hbd.2 dX11_init_40 (fun h12 H hv Z => ?_)
    refine lv_dup S.1 S.2.1 dX11_init_43 rfl ?_
    refine lv_aload_n S.1 S.2.1 dX11_init_44 rfl (lv_at hl 0 rfl) ?_
    refine zz_gR S K Z hv zc_9 (by decide) gf_X11_25 dX11_init_45 (fun v13 hv => ?_)
    obtain ⟨hbd, hv⟩ := zz_bud_s hv
    obtain ⟨⟨h14, n15⟩, hq, hv⟩ := zz_bd hv
    refine zz_I [.ref (v13)] S K Z (c_X8_init n10 v13 hq) ⟨rfl, rfl⟩ gm_X8_init gi_X8_init rfl gl_X11_31 ⟨by decide, by decide⟩ rfl hl.1 rfl (Nat.le_of_ble_eq_true rfl) dX11_init_48 hbd (fun H locs Z => ?_)
    show W _ _ _ _ _ _ _ _ _ _ _ _ (0 + 1 + 1 + 1 + 1 + 46 + 1 + 4) (0 + 2 + 600 + (10 : Int32).toNatClampNeg + 6 + 1540 + 6 + 68) _ (F0 m 51 ls [.ref (n10), .ref (a0)])
    refine zz_putF S K Z hv zc_9 (by decide) gf_X11_34 rfl hnm rfl rfl rfl dX11_init_51 (fun h16 H locs hv Z => ?_)
    refine lv_aload_n S.1 S.2.1 dX11_init_54 rfl (lv_at hl 0 rfl) ?_
    obtain ⟨hbd, hv⟩ := zz_bud_s hv
    refine zz_new S K Z hv zc_5 gq_X11_38 gn_X7 gt_X7 zd_5 hbd.1 hbd.2 dX11_init_55 (fun h17 H hv Z => ?_)
    refine lv_dup S.1 S.2.1 dX11_init_58 rfl ?_
    refine lv_aload_n S.1 S.2.1 dX11_init_59 rfl (lv_at hl 0 rfl) ?_
    refine zz_gR S K Z hv zc_9 (by decide) gf_X11_25 dX11_init_60 (fun v18 hv => ?_)
    refine lv_aload_n S.1 S.2.1 dX11_init_63 rfl (lv_at hl 0 rfl) ?_
    refine zz_gR S K Z hv zc_9 (by decide) gf_X11_34 dX11_init_64 (fun v19 hv => ?_)
    obtain ⟨hbd, hv⟩ := zz_bud_s hv
    obtain ⟨⟨h20, n21⟩, hq, hv⟩ := zz_bd hv
    refine zz_I [.ref (v18), .ref (v19)] S K Z (c_X7_init n15 v18 v19 hq) ⟨rfl, rfl⟩ gm_X7_init gi_X7_init rfl gl_X11_40 ⟨by decide, by decide⟩ rfl hl.1 rfl (Nat.le_of_ble_eq_true rfl) dX11_init_67 hbd (fun H locs Z => ?_)
    show W _ _ _ _ _ _ _ _ _ _ _ _ (0 + 1 + 1 + 1 + 1 + 46 + 1 + 4 + 1 + 12) (0 + 2 + 600 + (10 : Int32).toNatClampNeg + 6 + 1540 + 6 + 68 + 8 + 140) _ (F0 m 70 ls [.ref (n15), .ref (a0)])
    refine zz_putF S K Z hv zc_9 (by decide) gf_X11_43 rfl hnm rfl rfl rfl dX11_init_70 (fun h22 H locs hv Z => ?_)
    refine lv_aload_n S.1 S.2.1 dX11_init_73 rfl (lv_at hl 0 rfl) ?_
    obtain ⟨hbd, hv⟩ := zz_bud_s hv
    refine zz_new S K Z hv zc_7 gq_X11_47 gn_X9 gt_X9 zd_7 hbd.1 hbd.2 dX11_init_74 (fun h23 H hv Z => ?_)
    refine lv_dup S.1 S.2.1 dX11_init_77 rfl ?_
    refine lv_aload_n S.1 S.2.1 dX11_init_78 rfl (lv_at hl 0 rfl) ?_
    refine zz_gR S K Z hv zc_9 (by decide) gf_X11_25 dX11_init_79 (fun v24 hv => ?_)
    refine lv_aload_n S.1 S.2.1 dX11_init_82 rfl (lv_at hl 0 rfl) ?_
    refine zz_gR S K Z hv zc_9 (by decide) gf_X11_34 dX11_init_83 (fun v25 hv => ?_)
    obtain ⟨hbd, hv⟩ := zz_bud_s hv
    obtain ⟨⟨h26, n27⟩, hq, hv⟩ := zz_bd hv
    refine zz_I [.ref (v24), .ref (v25)] S K Z (c_X9_init n21 v24 v25 hq) ⟨rfl, rfl⟩ gm_X9_init gi_X9_init rfl gl_X11_49 ⟨by decide, by decide⟩ rfl hl.1 rfl (Nat.le_of_ble_eq_true rfl) dX11_init_86 hbd (fun H locs Z => ?_)
    show W _ _ _ _ _ _ _ _ _ _ _ _ (0 + 1 + 1 + 1 + 1 + 46 + 1 + 4 + 1 + 12 + 1 + 3) (0 + 2 + 600 + (10 : Int32).toNatClampNeg + 6 + 1540 + 6 + 68 + 8 + 140 + 6 + 73) _ (F0 m 89 ls [.ref (n21), .ref (a0)])
    refine zz_putF S K Z hv zc_9 (by decide) gf_X11_50 rfl hnm rfl rfl rfl dX11_init_89 (fun h28 H locs hv Z => ?_)
    obtain ⟨hbd, hv⟩ := zz_bud_s hv
    replace hk := zz_fin hv hk
    cases hR0 _ hk
    exact zz_vret S Z hret hlk dX11_init_92 hbd.1 hbd.2
  rw [hH, hlo] at key
  exact key

noncomputable def f_X0_append (h : ZH) (a0 : Nat) (a1 : Int32) : Option (ZH) :=
  (zg_I h a0 0 1).bind fun v1 => if v1 < 0 then (some (h)) else ((zg_I h a0 0 1).bind fun v2 => (zg_R h a0 0 0).bind fun v3 => (zl_N h v3 0).bind fun v4 => if v2 < v4 then ((zg_R h a0 0 0).bind fun v5 => (zg_I h a0 0 1).bind fun v6 => (zs_I h v5 0 v6 (vp_nar .byte (a1.toInt8.toInt32))).bind fun h7 => (zg_I h7 a0 0 1).bind fun v8 => (zp_V h7 a0 0 1 (.int (v8 + (1 : Int32)))).bind fun h9 => some (h9)) else (some (h)))
abbrev rm_X0_append : Room := { frames := 0, cells := 0, slots := 0, locals := 0 }
set_option maxRecDepth 100000 in
set_option maxHeartbeats 4000000 in
theorem c_X0_append {l : Launch} {D : va_G} {dA : Nat → ClassId} {A : Nat → Prop} {h : ZH} {n : Nat} (a0 : Nat) (a1 : Int32) {hx : ZH} (hf : f_X0_append h a0 a1 = some hx) : Met l yX0_append (zz_ws yX0_append cX0_append 2 none) rm_X0_append (zz_P D dA A h n [.ref (a0), .int (a1)]) (zz_Q D dA A (none) hx n) 0 0 A := by
  refine zz_met (by decide) (Nat.le_of_ble_eq_true rfl) ?_
  intro p e s m args below meth c ls S K hret hlk hnm hl Z
  replace hl : lv_has ls 2 [(0, .ref (a0)), (1, .int (a1))] := hl
  obtain ⟨K0, hR0, hk⟩ : ∃ K0 : (ZH) → Prop, (∀ x, K0 x → x = hx) ∧ K0 hx := ⟨fun x => x = hx, fun _ h => h, rfl⟩
  have hv := hf
  unfold f_X0_append at hv
  clear hf
  obtain ⟨x, hxx⟩ : ∃ x, x = hx := ⟨_, rfl⟩
  rw [← hxx] at hv hk
  have ⟨H, hH⟩ : ∃ H, H = s.heap := ⟨_, rfl⟩
  have ⟨locs, hlo⟩ : ∃ q : List Loc, q = [] := ⟨_, rfl⟩
  have Z : zz_B D dA A h n s.heap H locs := by rw [hH, hlo]; exact Z
  have key : zz_W p l e rm_X0_append s m args below meth c D dA A (none) hx n 0 0 H locs 0 0 0 ls [] := by
    clear hH hlo hxx
    refine lv_aload_n S.1 S.2.1 dX0_append_0 rfl (lv_at hl 0 rfl) ?_
    refine zz_gI S K Z hv zc_0 (by decide) gf_X0_15 dX0_append_1 (fun v1 hv => ?_)
    refine lv_if_lt (tgt := 19) S.1 S.2.1 dX0_append_4 (by decide) (fun hc => ?_) (fun hc => ?_)
    · replace hv := (if_pos hc).symm.trans hv
      replace hk := zz_fin hv hk
      cases hR0 _ hk
      exact zz_vret S Z hret hlk dX0_append_19 (Nat.le_refl _) (Nat.le_refl _)
    · replace hv := (if_neg hc).symm.trans hv
      refine lv_aload_n S.1 S.2.1 dX0_append_7 rfl (lv_at hl 0 rfl) ?_
      refine zz_gI S K Z hv zc_0 (by decide) gf_X0_15 dX0_append_8 (fun v2 hv => ?_)
      refine lv_aload_n S.1 S.2.1 dX0_append_11 rfl (lv_at hl 0 rfl) ?_
      refine zz_gR S K Z hv zc_0 (by decide) gf_X0_9 dX0_append_12 (fun v3 hv => ?_)
      refine zz_alen S K Z hv rfl dX0_append_15 (fun v4 hv => ?_)
      refine lv_icmp_lt (tgt := 20) S.1 S.2.1 dX0_append_16 (by decide) (fun hc => ?_) (fun hc => ?_)
      · replace hv := (if_pos hc).symm.trans hv
        refine lv_aload_n S.1 S.2.1 dX0_append_20 rfl (lv_at hl 0 rfl) ?_
        refine zz_gR S K Z hv zc_0 (by decide) gf_X0_9 dX0_append_21 (fun v5 hv => ?_)
        refine lv_aload_n S.1 S.2.1 dX0_append_24 rfl (lv_at hl 0 rfl) ?_
        refine zz_gI S K Z hv zc_0 (by decide) gf_X0_15 dX0_append_25 (fun v6 hv => ?_)
        refine lv_iload_n S.1 S.2.1 dX0_append_28 rfl (lv_at hl 1 rfl) ?_
        refine lv_i2b S.1 S.2.1 dX0_append_29 rfl ?_
        refine zz_bast S K Z hv dX0_append_30 (fun h7 H locs hv Z => ?_)
        refine lv_aload_n S.1 S.2.1 dX0_append_31 rfl (lv_at hl 0 rfl) ?_
        refine lv_dup S.1 S.2.1 dX0_append_32 rfl ?_
        refine zz_gI S K Z hv zc_0 (by decide) gf_X0_15 dX0_append_33 (fun v8 hv => ?_)
        refine lv_iconst (v := (1 : Int32)) S.1 S.2.1 dX0_append_36 (by decide) ?_
        refine lv_iadd S.1 S.2.1 dX0_append_37 ?_
        refine zz_put S K Z hv zc_0 (by decide) gf_X0_15 rfl rfl rfl dX0_append_38 (fun h9 H locs hv Z => ?_)
        replace hk := zz_fin hv hk
        cases hR0 _ hk
        exact zz_vret S Z hret hlk dX0_append_41 (Nat.le_refl _) (Nat.le_refl _)
      · replace hv := (if_neg hc).symm.trans hv
        replace hk := zz_fin hv hk
        cases hR0 _ hk
        exact zz_vret S Z hret hlk dX0_append_19 (Nat.le_refl _) (Nat.le_refl _)
  rw [hH, hlo] at key
  exact key

noncomputable def f_X11_feed_L37 (h : ZH) (a0 : Nat) (a1 : Int64) (a2 : Int32) (x4_4 : Int32) (h5 : ZH)  : Option ((Int32 × ZH) ⊕ (Int32 × ZH)) :=
  if x4_4 < 0 then (((zg_R h5 a0 9 0).bind fun v6 => (zg_I h5 v6 0 1).bind fun v7 => some ((v7, h5))).map Sum.inr) else ((zg_R h5 a0 9 0).bind fun v8 => zz_isO h5 v8 0 <| (f_X0_append h5 v8 ((((a1.toUInt64 >>> (((8 : Int32) * x4_4).toInt64.toUInt64 &&& Int64.toUInt64 63)).toInt64).toInt32) &&& (255 : Int32))).bind fun h9 => some (.inl (x4_4 + (-1 : Int32), h9)))
noncomputable def f_X11_feed (h : ZH) (a0 : Nat) (a1 : Int64) (a2 : Int32) : Option (Int32 × ZH) :=
  if a2 < (1 : Int32) then (some (((-3 : Int32), h))) else (if a2 ≤ (8 : Int32) then ((zg_R h a0 9 0).bind fun v1 => (zg_I h v1 0 1).bind fun v2 => if (v2 + a2) ≤ (600 : Int32) then (zz_let (a2 - (1 : Int32)) fun v3 => zz_loop (fun st : (Int32 × ZH) => f_X11_feed_L37 h a0 a1 a2 (st.1) (st.2)) (v3, h)) else (some (((-5 : Int32), h)))) else (some (((-3 : Int32), h))))
abbrev rm_X11_feed : Room := { frames := 1, cells := 0, slots := 0, locals := 21 }
set_option maxRecDepth 100000 in
set_option maxHeartbeats 4000000 in
theorem c_X11_feed {l : Launch} {D : va_G} {dA : Nat → ClassId} {A : Nat → Prop} {h : ZH} {n : Nat} (a0 : Nat) (a1 : Int64) (a2 : Int32) {r : Int32} {hx : ZH} (hf : f_X11_feed h a0 a1 a2 = some (r, hx)) : Met l yX11_feed (zz_ws yX11_feed cX11_feed 5 (some .int)) rm_X11_feed (zz_P D dA A h n [.ref (a0), .long (a1), .int (a2)]) (zz_Q D dA A (some (.int r)) hx n) 0 0 A := by
  refine zz_met (by decide) (Nat.le_of_ble_eq_true rfl) ?_
  intro p e s m args below meth c ls S K hret hlk hnm hl Z
  replace hl : lv_has ls 5 [(0, .ref (a0)), (1, .long (a1)), (3, .int (a2))] := hl
  obtain ⟨K0, hR0, hk⟩ : ∃ K0 : (Int32 × ZH) → Prop, (∀ x, K0 x → x = (r, hx)) ∧ K0 (r, hx) := ⟨fun x => x = (r, hx), fun _ h => h, rfl⟩
  have L37 : ∀ (st : (Int32 × ZH)) (x : (Int32 × ZH)), zz_loop (fun st : (Int32 × ZH) => f_X11_feed_L37 h a0 a1 a2 (st.1) (st.2)) st = some x → K0 x → (fun st : (Int32 × ZH) => ∀ (H : Heap) (locs : List Loc) (ls : Array Slot), zz_B D dA A (st.2) n s.heap H locs → lv_has ls 5 [(0, .ref (a0)), (1, .long (a1)), (4, .int ((st.1)))] → zz_W p l e rm_X11_feed s m args below meth c D dA A (some (.int r)) hx n 0 0 H locs 0 0 37 ls []) st := by
    refine zz_loop_go (K := K0) ?_
    intro K1 hP1 hR1
    rintro ⟨x4_4, h5⟩ x hv hk H locs ls Z hl
    replace hv : f_X11_feed_L37 h a0 a1 a2 x4_4 h5 = some x := hv
    unfold f_X11_feed_L37 at hv
    replace hl : lv_has ls 5 [(0, .ref (a0)), (1, .long (a1)), (4, .int (x4_4))] := hl
    replace Z : zz_B D dA A h5 n s.heap H locs := Z
    show zz_W p l e rm_X11_feed s m args below meth c D dA A (some (.int r)) hx n 0 0 H locs 0 0 37 ls []
    refine lv_iload S.1 S.2.1 dX11_feed_37 (lv_at hl 2 rfl) ?_
    refine lv_if_lt (tgt := 67) S.1 S.2.1 dX11_feed_39 (by decide) (fun hc => ?_) (fun hc => ?_)
    · replace hv := (if_pos hc).symm.trans hv
      obtain ⟨_, hv, hk⟩ := zz_mapk hv hk
      replace hk := hR1 _ hk
      refine lv_aload_n S.1 S.2.1 dX11_feed_67 rfl (lv_at hl 0 rfl) ?_
      refine zz_gR S K Z hv zc_9 (by decide) gf_X11_14 dX11_feed_68 (fun v6 hv => ?_)
      refine zz_gI S K Z hv zc_0 (by decide) gf_X11_54 dX11_feed_71 (fun v7 hv => ?_)
      replace hk := zz_fin hv hk
      cases hR0 _ hk
      exact zz_iret S Z hret hlk dX11_feed_74 (Nat.le_refl _) (Nat.le_refl _)
    · replace hv := (if_neg hc).symm.trans hv
      refine lv_aload_n S.1 S.2.1 dX11_feed_42 rfl (lv_at hl 0 rfl) ?_
      refine zz_gR S K Z hv zc_9 (by decide) gf_X11_14 dX11_feed_43 (fun v8 hv => ?_)
      refine lv_lload_n S.1 S.2.1 dX11_feed_46 rfl (lv_at hl 1 rfl) ?_
      refine lv_bipush (v := (8 : Int32)) S.1 S.2.1 dX11_feed_47 (by decide) ?_
      refine lv_iload S.1 S.2.1 dX11_feed_49 (lv_at hl 2 rfl) ?_
      refine lv_imul S.1 S.2.1 dX11_feed_51 ?_
      refine lv_lushr S.1 S.2.1 dX11_feed_52 rfl ?_
      refine lv_l2i S.1 S.2.1 dX11_feed_53 rfl ?_
      refine lv_sipush (v := (255 : Int32)) S.1 S.2.1 dX11_feed_54 (by decide) ?_
      refine lv_iand S.1 S.2.1 dX11_feed_57 ?_
      obtain ⟨hci, hv⟩ := zz_isO_s hv
      obtain ⟨h9, hq, hv⟩ := zz_bd hv
      refine zz_V [.int ((((a1.toUInt64 >>> (((8 : Int32) * x4_4).toInt64.toUInt64 &&& Int64.toUInt64 63)).toInt64).toInt32) &&& (255 : Int32))] S K Z hci zc_0 rfl (c_X0_append v8 ((((a1.toUInt64 >>> (((8 : Int32) * x4_4).toInt64.toUInt64 &&& Int64.toUInt64 63)).toInt64).toInt32) &&& (255 : Int32)) hq) ⟨rfl, rfl⟩ gm_X0_append gmv_X0_append gl_X11_58 ⟨by decide, by decide⟩ rfl hl.1 rfl (Nat.le_of_ble_eq_true rfl) dX11_feed_58 ⟨Nat.zero_le _, Nat.zero_le _⟩ (fun H locs Z => ?_)
      show W _ _ _ _ _ _ _ _ _ _ _ _ 0 0 _ (F0 m 61 ls [])
      refine lv_iinc (v := x4_4 + (-1 : Int32)) (lv' := [(4, .int (x4_4 + (-1 : Int32))), (0, .ref (a0)), (1, .long (a1))]) S.1 S.2.1 dX11_feed_61 hl (k := 2) rfl rfl (by decide) rfl (fun ls hl => ?_)
      refine lv_goto (tgt := 37) S.1 S.2.1 dX11_feed_64 (by decide) ?_
      replace hk := zz_fin hv hk
      exact hP1 _ hk H locs ls Z (lv_sub hl [1, 2, 0] rfl)
  have hv := hf
  unfold f_X11_feed at hv
  clear hf
  obtain ⟨x, hxx⟩ : ∃ x, x = (r, hx) := ⟨_, rfl⟩
  rw [← hxx] at hv hk
  have ⟨H, hH⟩ : ∃ H, H = s.heap := ⟨_, rfl⟩
  have ⟨locs, hlo⟩ : ∃ q : List Loc, q = [] := ⟨_, rfl⟩
  have Z : zz_B D dA A h n s.heap H locs := by rw [hH, hlo]; exact Z
  have key : zz_W p l e rm_X11_feed s m args below meth c D dA A (some (.int r)) hx n 0 0 H locs 0 0 0 ls [] := by
    clear hH hlo hxx
    refine lv_iload_n S.1 S.2.1 dX11_feed_0 rfl (lv_at hl 2 rfl) ?_
    refine lv_iconst (v := (1 : Int32)) S.1 S.2.1 dX11_feed_1 (by decide) ?_
    refine lv_icmp_lt (tgt := 11) S.1 S.2.1 dX11_feed_2 (by decide) (fun hc => ?_) (fun hc => ?_)
    · replace hv := (if_pos hc).symm.trans hv
      refine lv_bipush (v := (-3 : Int32)) S.1 S.2.1 dX11_feed_11 (by decide) ?_
      replace hk := zz_fin hv hk
      cases hR0 _ hk
      exact zz_iret S Z hret hlk dX11_feed_13 (Nat.le_refl _) (Nat.le_refl _)
    · replace hv := (if_neg hc).symm.trans hv
      refine lv_iload_n S.1 S.2.1 dX11_feed_5 rfl (lv_at hl 2 rfl) ?_
      refine lv_bipush (v := (8 : Int32)) S.1 S.2.1 dX11_feed_6 (by decide) ?_
      refine lv_icmp_le (tgt := 14) S.1 S.2.1 dX11_feed_8 (by decide) (fun hc => ?_) (fun hc => ?_)
      · replace hv := (if_pos hc).symm.trans hv
        refine lv_aload_n S.1 S.2.1 dX11_feed_14 rfl (lv_at hl 0 rfl) ?_
        refine zz_gR S K Z hv zc_9 (by decide) gf_X11_14 dX11_feed_15 (fun v1 hv => ?_)
        refine zz_gI S K Z hv zc_0 (by decide) gf_X11_54 dX11_feed_18 (fun v2 hv => ?_)
        refine lv_iload_n S.1 S.2.1 dX11_feed_21 rfl (lv_at hl 2 rfl) ?_
        refine lv_iadd S.1 S.2.1 dX11_feed_22 ?_
        refine lv_sipush (v := (600 : Int32)) S.1 S.2.1 dX11_feed_23 (by decide) ?_
        refine lv_icmp_le (tgt := 32) S.1 S.2.1 dX11_feed_26 (by decide) (fun hc => ?_) (fun hc => ?_)
        · replace hv := (if_pos hc).symm.trans hv
          refine lv_iload_n S.1 S.2.1 dX11_feed_32 rfl (lv_at hl 2 rfl) ?_
          refine lv_iconst (v := (1 : Int32)) S.1 S.2.1 dX11_feed_33 (by decide) ?_
          refine lv_isub S.1 S.2.1 dX11_feed_34 ?_
          refine zz_lt hv (G := fun w => W _ _ _ _ _ _ _ _ _ _ _ _ _ _ _ (F0 _ _ _ (.int w :: _))) (fun v3 hv => ?_)
          refine lv_istore (lv' := [(4, .int (v3)), (0, .ref (a0)), (1, .long (a1)), (3, .int (a2))]) S.1 S.2.1 dX11_feed_35 hl (by decide) rfl (fun ls hl => ?_)
          exact L37  (v3, h) _ hv hk H locs ls Z (lv_sub hl [1, 2, 0] rfl)
        · replace hv := (if_neg hc).symm.trans hv
          refine lv_bipush (v := (-5 : Int32)) S.1 S.2.1 dX11_feed_29 (by decide) ?_
          replace hk := zz_fin hv hk
          cases hR0 _ hk
          exact zz_iret S Z hret hlk dX11_feed_31 (Nat.le_refl _) (Nat.le_refl _)
      · replace hv := (if_neg hc).symm.trans hv
        refine lv_bipush (v := (-3 : Int32)) S.1 S.2.1 dX11_feed_11 (by decide) ?_
        replace hk := zz_fin hv hk
        cases hR0 _ hk
        exact zz_iret S Z hret hlk dX11_feed_13 (Nat.le_refl _) (Nat.le_refl _)
  rw [hH, hlo] at key
  exact key

noncomputable def f_X0_at (h : ZH) (a0 : Nat) (a1 : Int32) : Option (Int32) :=
  if a1 < 0 then (some ((-1 : Int32))) else ((zg_I h a0 0 1).bind fun v1 => if v1 ≤ a1 then (some ((-1 : Int32))) else ((zg_R h a0 0 0).bind fun v2 => (zl_N h v2 0).bind fun v3 => if a1 < v3 then ((zg_R h a0 0 0).bind fun v4 => (zl_I h v4 0 a1).bind fun v5 => some (v5 &&& (255 : Int32))) else (some ((-1 : Int32)))))
abbrev rm_X0_at : Room := { frames := 0, cells := 0, slots := 0, locals := 0 }
set_option maxRecDepth 100000 in
set_option maxHeartbeats 4000000 in
theorem c_X0_at {l : Launch} {D : va_G} {dA : Nat → ClassId} {A : Nat → Prop} {h : ZH} {n : Nat} (a0 : Nat) (a1 : Int32) {r : Int32} (hf : f_X0_at h a0 a1 = some r) : Met l yX0_at (zz_ws yX0_at cX0_at 2 (some .int)) rm_X0_at (zz_P D dA A h n [.ref (a0), .int (a1)]) (zz_Q D dA A (some (.int r)) h n) 0 0 A := by
  refine zz_met (by decide) (Nat.le_of_ble_eq_true rfl) ?_
  intro p e s m args below meth c ls S K hret hlk hnm hl Z
  replace hl : lv_has ls 2 [(0, .ref (a0)), (1, .int (a1))] := hl
  obtain ⟨K0, hR0, hk⟩ : ∃ K0 : (Int32) → Prop, (∀ x, K0 x → x = r) ∧ K0 r := ⟨fun x => x = r, fun _ h => h, rfl⟩
  have hv := hf
  unfold f_X0_at at hv
  clear hf
  obtain ⟨x, hxx⟩ : ∃ x, x = r := ⟨_, rfl⟩
  rw [← hxx] at hv hk
  have ⟨H, hH⟩ : ∃ H, H = s.heap := ⟨_, rfl⟩
  have ⟨locs, hlo⟩ : ∃ q : List Loc, q = [] := ⟨_, rfl⟩
  have Z : zz_B D dA A h n s.heap H locs := by rw [hH, hlo]; exact Z
  have key : zz_W p l e rm_X0_at s m args below meth c D dA A (some (.int r)) h n 0 0 H locs 0 0 0 ls [] := by
    clear hH hlo hxx
    refine lv_iload_n S.1 S.2.1 dX0_at_0 rfl (lv_at hl 1 rfl) ?_
    refine lv_if_lt (tgt := 21) S.1 S.2.1 dX0_at_1 (by decide) (fun hc => ?_) (fun hc => ?_)
    · replace hv := (if_pos hc).symm.trans hv
      refine lv_iconst (v := (-1 : Int32)) S.1 S.2.1 dX0_at_21 (by decide) ?_
      refine lv_goto (tgt := 35) S.1 S.2.1 dX0_at_22 (by decide) ?_
      replace hk := zz_fin hv hk
      cases hR0 _ hk
      exact zz_iret S Z hret hlk dX0_at_35 (Nat.le_refl _) (Nat.le_refl _)
    · replace hv := (if_neg hc).symm.trans hv
      refine lv_iload_n S.1 S.2.1 dX0_at_4 rfl (lv_at hl 1 rfl) ?_
      refine lv_aload_n S.1 S.2.1 dX0_at_5 rfl (lv_at hl 0 rfl) ?_
      refine zz_gI S K Z hv zc_0 (by decide) gf_X0_15 dX0_at_6 (fun v1 hv => ?_)
      refine lv_icmp_ge (tgt := 21) S.1 S.2.1 dX0_at_9 (by decide) (fun hc => ?_) (fun hc => ?_)
      · replace hv := (if_pos hc).symm.trans hv
        refine lv_iconst (v := (-1 : Int32)) S.1 S.2.1 dX0_at_21 (by decide) ?_
        refine lv_goto (tgt := 35) S.1 S.2.1 dX0_at_22 (by decide) ?_
        replace hk := zz_fin hv hk
        cases hR0 _ hk
        exact zz_iret S Z hret hlk dX0_at_35 (Nat.le_refl _) (Nat.le_refl _)
      · replace hv := (if_neg hc).symm.trans hv
        refine lv_iload_n S.1 S.2.1 dX0_at_12 rfl (lv_at hl 1 rfl) ?_
        refine lv_aload_n S.1 S.2.1 dX0_at_13 rfl (lv_at hl 0 rfl) ?_
        refine zz_gR S K Z hv zc_0 (by decide) gf_X0_9 dX0_at_14 (fun v2 hv => ?_)
        refine zz_alen S K Z hv rfl dX0_at_17 (fun v3 hv => ?_)
        refine lv_icmp_lt (tgt := 25) S.1 S.2.1 dX0_at_18 (by decide) (fun hc => ?_) (fun hc => ?_)
        · replace hv := (if_pos hc).symm.trans hv
          refine lv_aload_n S.1 S.2.1 dX0_at_25 rfl (lv_at hl 0 rfl) ?_
          refine zz_gR S K Z hv zc_0 (by decide) gf_X0_9 dX0_at_26 (fun v4 hv => ?_)
          refine lv_iload_n S.1 S.2.1 dX0_at_29 rfl (lv_at hl 1 rfl) ?_
          refine zz_bald S K Z hv dX0_at_30 (fun v5 hv => ?_)
          refine lv_sipush (v := (255 : Int32)) S.1 S.2.1 dX0_at_31 (by decide) ?_
          refine lv_iand S.1 S.2.1 dX0_at_34 ?_
          replace hk := zz_fin hv hk
          cases hR0 _ hk
          exact zz_iret S Z hret hlk dX0_at_35 (Nat.le_refl _) (Nat.le_refl _)
        · replace hv := (if_neg hc).symm.trans hv
          refine lv_iconst (v := (-1 : Int32)) S.1 S.2.1 dX0_at_21 (by decide) ?_
          refine lv_goto (tgt := 35) S.1 S.2.1 dX0_at_22 (by decide) ?_
          replace hk := zz_fin hv hk
          cases hR0 _ hk
          exact zz_iret S Z hret hlk dX0_at_35 (Nat.le_refl _) (Nat.le_refl _)
  rw [hH, hlo] at key
  exact key

noncomputable def f_X2_isLetter (h : ZH) (a0 : Int32) : Option (Int32) :=
  if a0 < (97 : Int32) then (some ((0 : Int32))) else (if (122 : Int32) < a0 then (some ((0 : Int32))) else (some ((1 : Int32))))
abbrev rm_X2_isLetter : Room := { frames := 0, cells := 0, slots := 0, locals := 0 }
set_option maxRecDepth 100000 in
set_option maxHeartbeats 4000000 in
theorem c_X2_isLetter {l : Launch} {D : va_G} {dA : Nat → ClassId} {A : Nat → Prop} {h : ZH} {n : Nat} (a0 : Int32) {r : Int32} (hf : f_X2_isLetter h a0 = some r) : Met l yX2_isLetter (zz_ws yX2_isLetter cX2_isLetter 1 (some .boolean)) rm_X2_isLetter (zz_P D dA A h n [.int (a0)]) (zz_Q D dA A (some (.int r)) h n) 0 0 A := by
  refine zz_met (by decide) (Nat.le_of_ble_eq_true rfl) ?_
  intro p e s m args below meth c ls S K hret hlk hnm hl Z
  replace hl : lv_has ls 1 [(0, .int (a0))] := hl
  obtain ⟨K0, hR0, hk⟩ : ∃ K0 : (Int32) → Prop, (∀ x, K0 x → x = r) ∧ K0 r := ⟨fun x => x = r, fun _ h => h, rfl⟩
  have hv := hf
  unfold f_X2_isLetter at hv
  clear hf
  obtain ⟨x, hxx⟩ : ∃ x, x = r := ⟨_, rfl⟩
  rw [← hxx] at hv hk
  have ⟨H, hH⟩ : ∃ H, H = s.heap := ⟨_, rfl⟩
  have ⟨locs, hlo⟩ : ∃ q : List Loc, q = [] := ⟨_, rfl⟩
  have Z : zz_B D dA A h n s.heap H locs := by rw [hH, hlo]; exact Z
  have key : zz_W p l e rm_X2_isLetter s m args below meth c D dA A (some (.int r)) h n 0 0 H locs 0 0 0 ls [] := by
    clear hH hlo hxx
    refine lv_iload_n S.1 S.2.1 dX2_isLetter_0 rfl (lv_at hl 0 rfl) ?_
    refine lv_bipush (v := (97 : Int32)) S.1 S.2.1 dX2_isLetter_1 (by decide) ?_
    refine lv_icmp_lt (tgt := 16) S.1 S.2.1 dX2_isLetter_3 (by decide) (fun hc => ?_) (fun hc => ?_)
    · replace hv := (if_pos hc).symm.trans hv
      refine lv_iconst (v := (0 : Int32)) S.1 S.2.1 dX2_isLetter_16 (by decide) ?_
      replace hk := zz_fin hv hk
      cases hR0 _ hk
      exact zz_zret S Z hret (by decide) hlk dX2_isLetter_17 (Nat.le_refl _) (Nat.le_refl _)
    · replace hv := (if_neg hc).symm.trans hv
      refine lv_iload_n S.1 S.2.1 dX2_isLetter_6 rfl (lv_at hl 0 rfl) ?_
      refine lv_bipush (v := (122 : Int32)) S.1 S.2.1 dX2_isLetter_7 (by decide) ?_
      refine lv_icmp_gt (tgt := 16) S.1 S.2.1 dX2_isLetter_9 (by decide) (fun hc => ?_) (fun hc => ?_)
      · replace hv := (if_pos hc).symm.trans hv
        refine lv_iconst (v := (0 : Int32)) S.1 S.2.1 dX2_isLetter_16 (by decide) ?_
        replace hk := zz_fin hv hk
        cases hR0 _ hk
        exact zz_zret S Z hret (by decide) hlk dX2_isLetter_17 (Nat.le_refl _) (Nat.le_refl _)
      · replace hv := (if_neg hc).symm.trans hv
        refine lv_iconst (v := (1 : Int32)) S.1 S.2.1 dX2_isLetter_12 (by decide) ?_
        refine lv_goto (tgt := 17) S.1 S.2.1 dX2_isLetter_13 (by decide) ?_
        replace hk := zz_fin hv hk
        cases hR0 _ hk
        exact zz_zret S Z hret (by decide) hlk dX2_isLetter_17 (Nat.le_refl _) (Nat.le_refl _)
  rw [hH, hlo] at key
  exact key

noncomputable def f_X2_lettersEnd_J27 (h : ZH) (a0 : Nat) (a1 : Int32) (x2_2 : Int32) : Option (Int32) :=
  if x2_2 = 0 then (some (a1 ^^^ (-1 : Int32))) else (some (a1 + x2_2))
noncomputable def f_X2_lettersEnd_L2 (h : ZH) (a0 : Nat) (a1 : Int32) (x2_1 : Int32)  : Option ((Int32) ⊕ (Int32)) :=
  if (6 : Int32) ≤ x2_1 then ((f_X2_lettersEnd_J27 h a0 a1 x2_1).map Sum.inr) else (zz_isO h a0 0 <| (f_X0_at h a0 (a1 + x2_1)).bind fun v3 => (f_X2_isLetter h v3).bind fun v4 => if v4 = 0 then ((f_X2_lettersEnd_J27 h a0 a1 x2_1).map Sum.inr) else (some (.inl (x2_1 + (1 : Int32)))))
noncomputable def f_X2_lettersEnd (h : ZH) (a0 : Nat) (a1 : Int32) : Option (Int32) :=
  zz_loop (fun st : (Int32) => f_X2_lettersEnd_L2 h a0 a1 (st)) ((0 : Int32))
abbrev rm_X2_lettersEnd : Room := { frames := 1, cells := 0, slots := 0, locals := 21 }
set_option maxRecDepth 100000 in
set_option maxHeartbeats 4000000 in
theorem c_X2_lettersEnd {l : Launch} {D : va_G} {dA : Nat → ClassId} {A : Nat → Prop} {h : ZH} {n : Nat} (a0 : Nat) (a1 : Int32) {r : Int32} (hf : f_X2_lettersEnd h a0 a1 = some r) : Met l yX2_lettersEnd (zz_ws yX2_lettersEnd cX2_lettersEnd 3 (some .int)) rm_X2_lettersEnd (zz_P D dA A h n [.ref (a0), .int (a1)]) (zz_Q D dA A (some (.int r)) h n) 0 0 A := by
  refine zz_met (by decide) (Nat.le_of_ble_eq_true rfl) ?_
  intro p e s m args below meth c ls S K hret hlk hnm hl Z
  replace hl : lv_has ls 3 [(0, .ref (a0)), (1, .int (a1))] := hl
  obtain ⟨K0, hR0, hk⟩ : ∃ K0 : (Int32) → Prop, (∀ x, K0 x → x = r) ∧ K0 r := ⟨fun x => x = r, fun _ h => h, rfl⟩
  have J27 : ∀ (x2_2 : Int32) (x : (Int32)), f_X2_lettersEnd_J27 h a0 a1 x2_2 = some x → K0 x → ∀ (H : Heap) (locs : List Loc) (ls : Array Slot), zz_B D dA A h n s.heap H locs → lv_has ls 3 [(1, .int (a1)), (2, .int (x2_2))] → zz_W p l e rm_X2_lettersEnd s m args below meth c D dA A (some (.int r)) h n 0 0 H locs 0 0 27 ls [] := by
    intro x2_2 x hv hk H locs ls Z hl
    unfold f_X2_lettersEnd_J27 at hv
    refine lv_iload_n S.1 S.2.1 dX2_lettersEnd_27 rfl (lv_at hl 1 rfl) ?_
    refine lv_if_ne (tgt := 37) S.1 S.2.1 dX2_lettersEnd_28 (by decide) (fun hc => ?_) (fun hc => ?_)
    · replace hv := (if_neg hc).symm.trans hv
      refine lv_iload_n S.1 S.2.1 dX2_lettersEnd_37 rfl (lv_at hl 0 rfl) ?_
      refine lv_iload_n S.1 S.2.1 dX2_lettersEnd_38 rfl (lv_at hl 1 rfl) ?_
      refine lv_iadd S.1 S.2.1 dX2_lettersEnd_39 ?_
      replace hk := zz_fin hv hk
      cases hR0 _ hk
      exact zz_iret S Z hret hlk dX2_lettersEnd_40 (Nat.le_refl _) (Nat.le_refl _)
    · replace hv := (if_pos hc).symm.trans hv
      refine lv_iload_n S.1 S.2.1 dX2_lettersEnd_31 rfl (lv_at hl 0 rfl) ?_
      refine lv_iconst (v := (-1 : Int32)) S.1 S.2.1 dX2_lettersEnd_32 (by decide) ?_
      refine lv_ixor S.1 S.2.1 dX2_lettersEnd_33 ?_
      refine lv_goto (tgt := 40) S.1 S.2.1 dX2_lettersEnd_34 (by decide) ?_
      replace hk := zz_fin hv hk
      cases hR0 _ hk
      exact zz_iret S Z hret hlk dX2_lettersEnd_40 (Nat.le_refl _) (Nat.le_refl _)
  have L2 : ∀ (st : (Int32)) (x : (Int32)), zz_loop (fun st : (Int32) => f_X2_lettersEnd_L2 h a0 a1 (st)) st = some x → K0 x → (fun st : (Int32) => ∀ (H : Heap) (locs : List Loc) (ls : Array Slot), zz_B D dA A h n s.heap H locs → lv_has ls 3 [(0, .ref (a0)), (1, .int (a1)), (2, .int ((st)))] → zz_W p l e rm_X2_lettersEnd s m args below meth c D dA A (some (.int r)) h n 0 0 H locs 0 0 2 ls []) st := by
    refine zz_loop_go (K := K0) ?_
    intro K1 hP1 hR1
    rintro x2_1 x hv hk H locs ls Z hl
    replace hv : f_X2_lettersEnd_L2 h a0 a1 x2_1 = some x := hv
    unfold f_X2_lettersEnd_L2 at hv
    replace hl : lv_has ls 3 [(0, .ref (a0)), (1, .int (a1)), (2, .int (x2_1))] := hl
    replace Z : zz_B D dA A h n s.heap H locs := Z
    show zz_W p l e rm_X2_lettersEnd s m args below meth c D dA A (some (.int r)) h n 0 0 H locs 0 0 2 ls []
    refine lv_iload_n S.1 S.2.1 dX2_lettersEnd_2 rfl (lv_at hl 2 rfl) ?_
    refine lv_bipush (v := (6 : Int32)) S.1 S.2.1 dX2_lettersEnd_3 (by decide) ?_
    refine lv_icmp_ge (tgt := 27) S.1 S.2.1 dX2_lettersEnd_5 (by decide) (fun hc => ?_) (fun hc => ?_)
    · replace hv := (if_pos hc).symm.trans hv
      obtain ⟨_, hv, hk⟩ := zz_mapk hv hk
      replace hk := hR1 _ hk
      exact J27 x2_1 _ hv hk H locs ls Z (lv_sub hl [1, 2] rfl)
    · replace hv := (if_neg hc).symm.trans hv
      refine lv_aload_n S.1 S.2.1 dX2_lettersEnd_8 rfl (lv_at hl 0 rfl) ?_
      refine lv_iload_n S.1 S.2.1 dX2_lettersEnd_9 rfl (lv_at hl 1 rfl) ?_
      refine lv_iload_n S.1 S.2.1 dX2_lettersEnd_10 rfl (lv_at hl 2 rfl) ?_
      refine lv_iadd S.1 S.2.1 dX2_lettersEnd_11 ?_
      obtain ⟨hci, hv⟩ := zz_isO_s hv
      obtain ⟨v3, hq, hv⟩ := zz_bd hv
      refine zz_V [.int (a1 + x2_1)] S K Z hci zc_0 rfl (c_X0_at a0 (a1 + x2_1) hq) ⟨rfl, rfl⟩ gm_X0_at gmv_X0_at gl_X2_15 ⟨by decide, by decide⟩ rfl hl.1 rfl (Nat.le_of_ble_eq_true rfl) dX2_lettersEnd_12 ⟨Nat.zero_le _, Nat.zero_le _⟩ (fun H locs Z => ?_)
      show W _ _ _ _ _ _ _ _ _ _ _ _ 0 0 _ (F0 m 15 ls [.int (v3)])
      obtain ⟨v4, hq, hv⟩ := zz_bd hv
      refine zz_S [.int (v3)] S K Z (c_X2_isLetter v3 hq) ⟨rfl, rfl⟩ gm_X2_isLetter gs_X2_isLetter gl_X2_25 ⟨by decide, by decide⟩ rfl hl.1 rfl (Nat.le_of_ble_eq_true rfl) dX2_lettersEnd_15 ⟨Nat.zero_le _, Nat.zero_le _⟩ (fun H locs Z => ?_)
      show W _ _ _ _ _ _ _ _ _ _ _ _ 0 0 _ (F0 m 18 ls [.int (v4)])
      refine lv_if_eq (tgt := 27) S.1 S.2.1 dX2_lettersEnd_18 (by decide) (fun hc => ?_) (fun hc => ?_)
      · replace hv := (if_pos hc).symm.trans hv
        obtain ⟨_, hv, hk⟩ := zz_mapk hv hk
        replace hk := hR1 _ hk
        exact J27 x2_1 _ hv hk H locs ls Z (lv_sub hl [1, 2] rfl)
      · replace hv := (if_neg hc).symm.trans hv
        refine lv_iinc (v := x2_1 + (1 : Int32)) (lv' := [(2, .int (x2_1 + (1 : Int32))), (0, .ref (a0)), (1, .int (a1))]) S.1 S.2.1 dX2_lettersEnd_21 hl (k := 2) rfl rfl (by decide) rfl (fun ls hl => ?_)
        refine lv_goto (tgt := 2) S.1 S.2.1 dX2_lettersEnd_24 (by decide) ?_
        replace hk := zz_fin hv hk
        exact hP1 _ hk H locs ls Z (lv_sub hl [1, 2, 0] rfl)
  have hv := hf
  unfold f_X2_lettersEnd at hv
  clear hf
  obtain ⟨x, hxx⟩ : ∃ x, x = r := ⟨_, rfl⟩
  rw [← hxx] at hv hk
  have ⟨H, hH⟩ : ∃ H, H = s.heap := ⟨_, rfl⟩
  have ⟨locs, hlo⟩ : ∃ q : List Loc, q = [] := ⟨_, rfl⟩
  have Z : zz_B D dA A h n s.heap H locs := by rw [hH, hlo]; exact Z
  have key : zz_W p l e rm_X2_lettersEnd s m args below meth c D dA A (some (.int r)) h n 0 0 H locs 0 0 0 ls [] := by
    clear hH hlo hxx
    refine lv_iconst (v := (0 : Int32)) S.1 S.2.1 dX2_lettersEnd_0 (by decide) ?_
    refine lv_istore_n (lv' := [(2, .int ((0 : Int32))), (0, .ref (a0)), (1, .int (a1))]) S.1 S.2.1 dX2_lettersEnd_1 rfl hl (by decide) rfl (fun ls hl => ?_)
    exact L2  ((0 : Int32)) _ hv hk H locs ls Z (lv_sub hl [1, 2, 0] rfl)
  rw [hH, hlo] at key
  exact key

noncomputable def f_X1_lengthOf (h : ZH) (a0 : Nat) (a1 : Int32) : Option (Int32) :=
  if a1 < 0 then (some ((0 : Int32))) else ((zg_I h a0 1 3).bind fun v1 => if v1 ≤ a1 then (some ((0 : Int32))) else ((zg_R h a0 1 2).bind fun v2 => (zl_N h v2 1).bind fun v3 => if v3 ≤ a1 then (some ((0 : Int32))) else ((zg_R h a0 1 2).bind fun v4 => (zl_I h v4 1 a1).bind fun v5 => some (v5))))
abbrev rm_X1_lengthOf : Room := { frames := 0, cells := 0, slots := 0, locals := 0 }
set_option maxRecDepth 100000 in
set_option maxHeartbeats 4000000 in
theorem c_X1_lengthOf {l : Launch} {D : va_G} {dA : Nat → ClassId} {A : Nat → Prop} {h : ZH} {n : Nat} (a0 : Nat) (a1 : Int32) {r : Int32} (hf : f_X1_lengthOf h a0 a1 = some r) : Met l yX1_lengthOf (zz_ws yX1_lengthOf cX1_lengthOf 2 (some .int)) rm_X1_lengthOf (zz_P D dA A h n [.ref (a0), .int (a1)]) (zz_Q D dA A (some (.int r)) h n) 0 0 A := by
  refine zz_met (by decide) (Nat.le_of_ble_eq_true rfl) ?_
  intro p e s m args below meth c ls S K hret hlk hnm hl Z
  replace hl : lv_has ls 2 [(0, .ref (a0)), (1, .int (a1))] := hl
  obtain ⟨K0, hR0, hk⟩ : ∃ K0 : (Int32) → Prop, (∀ x, K0 x → x = r) ∧ K0 r := ⟨fun x => x = r, fun _ h => h, rfl⟩
  have hv := hf
  unfold f_X1_lengthOf at hv
  clear hf
  obtain ⟨x, hxx⟩ : ∃ x, x = r := ⟨_, rfl⟩
  rw [← hxx] at hv hk
  have ⟨H, hH⟩ : ∃ H, H = s.heap := ⟨_, rfl⟩
  have ⟨locs, hlo⟩ : ∃ q : List Loc, q = [] := ⟨_, rfl⟩
  have Z : zz_B D dA A h n s.heap H locs := by rw [hH, hlo]; exact Z
  have key : zz_W p l e rm_X1_lengthOf s m args below meth c D dA A (some (.int r)) h n 0 0 H locs 0 0 0 ls [] := by
    clear hH hlo hxx
    refine lv_iload_n S.1 S.2.1 dX1_lengthOf_0 rfl (lv_at hl 1 rfl) ?_
    refine lv_if_lt (tgt := 30) S.1 S.2.1 dX1_lengthOf_1 (by decide) (fun hc => ?_) (fun hc => ?_)
    · replace hv := (if_pos hc).symm.trans hv
      refine lv_iconst (v := (0 : Int32)) S.1 S.2.1 dX1_lengthOf_30 (by decide) ?_
      replace hk := zz_fin hv hk
      cases hR0 _ hk
      exact zz_iret S Z hret hlk dX1_lengthOf_31 (Nat.le_refl _) (Nat.le_refl _)
    · replace hv := (if_neg hc).symm.trans hv
      refine lv_iload_n S.1 S.2.1 dX1_lengthOf_4 rfl (lv_at hl 1 rfl) ?_
      refine lv_aload_n S.1 S.2.1 dX1_lengthOf_5 rfl (lv_at hl 0 rfl) ?_
      refine zz_gI S K Z hv zc_1 (by decide) gf_X1_23 dX1_lengthOf_6 (fun v1 hv => ?_)
      refine lv_icmp_ge (tgt := 30) S.1 S.2.1 dX1_lengthOf_9 (by decide) (fun hc => ?_) (fun hc => ?_)
      · replace hv := (if_pos hc).symm.trans hv
        refine lv_iconst (v := (0 : Int32)) S.1 S.2.1 dX1_lengthOf_30 (by decide) ?_
        replace hk := zz_fin hv hk
        cases hR0 _ hk
        exact zz_iret S Z hret hlk dX1_lengthOf_31 (Nat.le_refl _) (Nat.le_refl _)
      · replace hv := (if_neg hc).symm.trans hv
        refine lv_iload_n S.1 S.2.1 dX1_lengthOf_12 rfl (lv_at hl 1 rfl) ?_
        refine lv_aload_n S.1 S.2.1 dX1_lengthOf_13 rfl (lv_at hl 0 rfl) ?_
        refine zz_gR S K Z hv zc_1 (by decide) gf_X1_19 dX1_lengthOf_14 (fun v2 hv => ?_)
        refine zz_alen S K Z hv rfl dX1_lengthOf_17 (fun v3 hv => ?_)
        refine lv_icmp_ge (tgt := 30) S.1 S.2.1 dX1_lengthOf_18 (by decide) (fun hc => ?_) (fun hc => ?_)
        · replace hv := (if_pos hc).symm.trans hv
          refine lv_iconst (v := (0 : Int32)) S.1 S.2.1 dX1_lengthOf_30 (by decide) ?_
          replace hk := zz_fin hv hk
          cases hR0 _ hk
          exact zz_iret S Z hret hlk dX1_lengthOf_31 (Nat.le_refl _) (Nat.le_refl _)
        · replace hv := (if_neg hc).symm.trans hv
          refine lv_aload_n S.1 S.2.1 dX1_lengthOf_21 rfl (lv_at hl 0 rfl) ?_
          refine zz_gR S K Z hv zc_1 (by decide) gf_X1_19 dX1_lengthOf_22 (fun v4 hv => ?_)
          refine lv_iload_n S.1 S.2.1 dX1_lengthOf_25 rfl (lv_at hl 1 rfl) ?_
          refine zz_iald S K Z hv dX1_lengthOf_26 (fun v5 hv => ?_)
          refine lv_goto (tgt := 31) S.1 S.2.1 dX1_lengthOf_27 (by decide) ?_
          replace hk := zz_fin hv hk
          cases hR0 _ hk
          exact zz_iret S Z hret hlk dX1_lengthOf_31 (Nat.le_refl _) (Nat.le_refl _)
  rw [hH, hlo] at key
  exact key

noncomputable def f_X1_signOf (h : ZH) (a0 : Nat) (a1 : Int32) (a2 : Int32) : Option (Int32) :=
  if a2 < 0 then (some ((-1 : Int32))) else (zz_isO h a0 1 <| (f_X1_lengthOf h a0 a1).bind fun v1 => if a2 < v1 then ((zg_I h a0 1 0).bind fun v2 => zz_let ((a1 * v2) + a2) fun v3 => if v3 < 0 then (some ((-1 : Int32))) else ((zg_R h a0 1 1).bind fun v4 => (zl_N h v4 0).bind fun v5 => if v3 < v5 then ((zg_R h a0 1 1).bind fun v6 => (zl_I h v6 0 v3).bind fun v7 => some (v7)) else (some ((-1 : Int32))))) else (some ((-1 : Int32))))
abbrev rm_X1_signOf : Room := { frames := 1, cells := 0, slots := 0, locals := 21 }
set_option maxRecDepth 100000 in
set_option maxHeartbeats 4000000 in
theorem c_X1_signOf {l : Launch} {D : va_G} {dA : Nat → ClassId} {A : Nat → Prop} {h : ZH} {n : Nat} (a0 : Nat) (a1 : Int32) (a2 : Int32) {r : Int32} (hf : f_X1_signOf h a0 a1 a2 = some r) : Met l yX1_signOf (zz_ws yX1_signOf cX1_signOf 4 (some .int)) rm_X1_signOf (zz_P D dA A h n [.ref (a0), .int (a1), .int (a2)]) (zz_Q D dA A (some (.int r)) h n) 0 0 A := by
  refine zz_met (by decide) (Nat.le_of_ble_eq_true rfl) ?_
  intro p e s m args below meth c ls S K hret hlk hnm hl Z
  replace hl : lv_has ls 4 [(0, .ref (a0)), (1, .int (a1)), (2, .int (a2))] := hl
  obtain ⟨K0, hR0, hk⟩ : ∃ K0 : (Int32) → Prop, (∀ x, K0 x → x = r) ∧ K0 r := ⟨fun x => x = r, fun _ h => h, rfl⟩
  have hv := hf
  unfold f_X1_signOf at hv
  clear hf
  obtain ⟨x, hxx⟩ : ∃ x, x = r := ⟨_, rfl⟩
  rw [← hxx] at hv hk
  have ⟨H, hH⟩ : ∃ H, H = s.heap := ⟨_, rfl⟩
  have ⟨locs, hlo⟩ : ∃ q : List Loc, q = [] := ⟨_, rfl⟩
  have Z : zz_B D dA A h n s.heap H locs := by rw [hH, hlo]; exact Z
  have key : zz_W p l e rm_X1_signOf s m args below meth c D dA A (some (.int r)) h n 0 0 H locs 0 0 0 ls [] := by
    clear hH hlo hxx
    refine lv_iload_n S.1 S.2.1 dX1_signOf_0 rfl (lv_at hl 2 rfl) ?_
    refine lv_if_lt (tgt := 13) S.1 S.2.1 dX1_signOf_1 (by decide) (fun hc => ?_) (fun hc => ?_)
    · replace hv := (if_pos hc).symm.trans hv
      refine lv_iconst (v := (-1 : Int32)) S.1 S.2.1 dX1_signOf_13 (by decide) ?_
      replace hk := zz_fin hv hk
      cases hR0 _ hk
      exact zz_iret S Z hret hlk dX1_signOf_14 (Nat.le_refl _) (Nat.le_refl _)
    · replace hv := (if_neg hc).symm.trans hv
      refine lv_iload_n S.1 S.2.1 dX1_signOf_4 rfl (lv_at hl 2 rfl) ?_
      refine lv_aload_n S.1 S.2.1 dX1_signOf_5 rfl (lv_at hl 0 rfl) ?_
      refine lv_iload_n S.1 S.2.1 dX1_signOf_6 rfl (lv_at hl 1 rfl) ?_
      obtain ⟨hci, hv⟩ := zz_isO_s hv
      obtain ⟨v1, hq, hv⟩ := zz_bd hv
      refine zz_V [.int (a1)] S K Z hci zc_1 rfl (c_X1_lengthOf a0 a1 hq) ⟨rfl, rfl⟩ gm_X1_lengthOf gmv_X1_lengthOf gl_X1_26 ⟨by decide, by decide⟩ rfl hl.1 rfl (Nat.le_of_ble_eq_true rfl) dX1_signOf_7 ⟨Nat.zero_le _, Nat.zero_le _⟩ (fun H locs Z => ?_)
      show W _ _ _ _ _ _ _ _ _ _ _ _ 0 0 _ (F0 m 10 ls [.int (v1), .int (a2)])
      refine lv_icmp_lt (tgt := 15) S.1 S.2.1 dX1_signOf_10 (by decide) (fun hc => ?_) (fun hc => ?_)
      · replace hv := (if_pos hc).symm.trans hv
        refine lv_iload_n S.1 S.2.1 dX1_signOf_15 rfl (lv_at hl 1 rfl) ?_
        refine lv_aload_n S.1 S.2.1 dX1_signOf_16 rfl (lv_at hl 0 rfl) ?_
        refine zz_gI S K Z hv zc_1 (by decide) gf_X1_9 dX1_signOf_17 (fun v2 hv => ?_)
        refine lv_imul S.1 S.2.1 dX1_signOf_20 ?_
        refine lv_iload_n S.1 S.2.1 dX1_signOf_21 rfl (lv_at hl 2 rfl) ?_
        refine lv_iadd S.1 S.2.1 dX1_signOf_22 ?_
        refine zz_lt hv (G := fun w => W _ _ _ _ _ _ _ _ _ _ _ _ _ _ _ (F0 _ _ _ (.int w :: _))) (fun v3 hv => ?_)
        refine lv_istore_n (lv' := [(3, .int (v3)), (0, .ref (a0)), (1, .int (a1)), (2, .int (a2))]) S.1 S.2.1 dX1_signOf_23 rfl hl (by decide) rfl (fun ls hl => ?_)
        refine lv_iload_n S.1 S.2.1 dX1_signOf_24 rfl (lv_at hl 0 rfl) ?_
        refine lv_if_lt (tgt := 37) S.1 S.2.1 dX1_signOf_25 (by decide) (fun hc => ?_) (fun hc => ?_)
        · replace hv := (if_pos hc).symm.trans hv
          refine lv_iconst (v := (-1 : Int32)) S.1 S.2.1 dX1_signOf_37 (by decide) ?_
          refine lv_goto (tgt := 47) S.1 S.2.1 dX1_signOf_38 (by decide) ?_
          replace hk := zz_fin hv hk
          cases hR0 _ hk
          exact zz_iret S Z hret hlk dX1_signOf_47 (Nat.le_refl _) (Nat.le_refl _)
        · replace hv := (if_neg hc).symm.trans hv
          refine lv_iload_n S.1 S.2.1 dX1_signOf_28 rfl (lv_at hl 0 rfl) ?_
          refine lv_aload_n S.1 S.2.1 dX1_signOf_29 rfl (lv_at hl 1 rfl) ?_
          refine zz_gR S K Z hv zc_1 (by decide) gf_X1_15 dX1_signOf_30 (fun v4 hv => ?_)
          refine zz_alen S K Z hv rfl dX1_signOf_33 (fun v5 hv => ?_)
          refine lv_icmp_lt (tgt := 41) S.1 S.2.1 dX1_signOf_34 (by decide) (fun hc => ?_) (fun hc => ?_)
          · replace hv := (if_pos hc).symm.trans hv
            refine lv_aload_n S.1 S.2.1 dX1_signOf_41 rfl (lv_at hl 1 rfl) ?_
            refine zz_gR S K Z hv zc_1 (by decide) gf_X1_15 dX1_signOf_42 (fun v6 hv => ?_)
            refine lv_iload_n S.1 S.2.1 dX1_signOf_45 rfl (lv_at hl 0 rfl) ?_
            refine zz_bald S K Z hv dX1_signOf_46 (fun v7 hv => ?_)
            replace hk := zz_fin hv hk
            cases hR0 _ hk
            exact zz_iret S Z hret hlk dX1_signOf_47 (Nat.le_refl _) (Nat.le_refl _)
          · replace hv := (if_neg hc).symm.trans hv
            refine lv_iconst (v := (-1 : Int32)) S.1 S.2.1 dX1_signOf_37 (by decide) ?_
            refine lv_goto (tgt := 47) S.1 S.2.1 dX1_signOf_38 (by decide) ?_
            replace hk := zz_fin hv hk
            cases hR0 _ hk
            exact zz_iret S Z hret hlk dX1_signOf_47 (Nat.le_refl _) (Nat.le_refl _)
      · replace hv := (if_neg hc).symm.trans hv
        refine lv_iconst (v := (-1 : Int32)) S.1 S.2.1 dX1_signOf_13 (by decide) ?_
        replace hk := zz_fin hv hk
        cases hR0 _ hk
        exact zz_iret S Z hret hlk dX1_signOf_14 (Nat.le_refl _) (Nat.le_refl _)
  rw [hH, hlo] at key
  exact key

noncomputable def f_X1_stands_L17 (h : ZH) (a0 : Nat) (a1 : Int32) (a2 : Nat) (a3 : Int32) (a4 : Int32) (x5_2 : Int32)  : Option ((Int32) ⊕ (Int32)) :=
  if (a4 - a3) ≤ x5_2 then ((some ((1 : Int32))).map Sum.inr) else (zz_isO h a0 1 <| (f_X1_signOf h a0 a1 x5_2).bind fun v3 => zz_isO h a2 0 <| (f_X0_at h a2 (a3 + x5_2)).bind fun v4 => if v3 = v4 then (some (.inl (x5_2 + (1 : Int32)))) else ((some ((0 : Int32))).map Sum.inr))
noncomputable def f_X1_stands (h : ZH) (a0 : Nat) (a1 : Int32) (a2 : Nat) (a3 : Int32) (a4 : Int32) : Option (Int32) :=
  zz_isO h a0 1 <| (f_X1_lengthOf h a0 a1).bind fun v1 => if v1 = (a4 - a3) then (zz_loop (fun st : (Int32) => f_X1_stands_L17 h a0 a1 a2 a3 a4 (st)) ((0 : Int32))) else (some ((0 : Int32)))
abbrev rm_X1_stands : Room := { frames := 2, cells := 0, slots := 0, locals := 44 }
set_option maxRecDepth 100000 in
set_option maxHeartbeats 4000000 in
theorem c_X1_stands {l : Launch} {D : va_G} {dA : Nat → ClassId} {A : Nat → Prop} {h : ZH} {n : Nat} (a0 : Nat) (a1 : Int32) (a2 : Nat) (a3 : Int32) (a4 : Int32) {r : Int32} (hf : f_X1_stands h a0 a1 a2 a3 a4 = some r) : Met l yX1_stands (zz_ws yX1_stands cX1_stands 6 (some .boolean)) rm_X1_stands (zz_P D dA A h n [.ref (a0), .int (a1), .ref (a2), .int (a3), .int (a4)]) (zz_Q D dA A (some (.int r)) h n) 0 0 A := by
  refine zz_met (by decide) (Nat.le_of_ble_eq_true rfl) ?_
  intro p e s m args below meth c ls S K hret hlk hnm hl Z
  replace hl : lv_has ls 6 [(0, .ref (a0)), (1, .int (a1)), (2, .ref (a2)), (3, .int (a3)), (4, .int (a4))] := hl
  obtain ⟨K0, hR0, hk⟩ : ∃ K0 : (Int32) → Prop, (∀ x, K0 x → x = r) ∧ K0 r := ⟨fun x => x = r, fun _ h => h, rfl⟩
  have L17 : ∀ (st : (Int32)) (x : (Int32)), zz_loop (fun st : (Int32) => f_X1_stands_L17 h a0 a1 a2 a3 a4 (st)) st = some x → K0 x → (fun st : (Int32) => ∀ (H : Heap) (locs : List Loc) (ls : Array Slot), zz_B D dA A h n s.heap H locs → lv_has ls 6 [(0, .ref (a0)), (1, .int (a1)), (2, .ref (a2)), (3, .int (a3)), (4, .int (a4)), (5, .int ((st)))] → zz_W p l e rm_X1_stands s m args below meth c D dA A (some (.int r)) h n 0 0 H locs 0 0 17 ls []) st := by
    refine zz_loop_go (K := K0) ?_
    intro K1 hP1 hR1
    rintro x5_2 x hv hk H locs ls Z hl
    replace hv : f_X1_stands_L17 h a0 a1 a2 a3 a4 x5_2 = some x := hv
    unfold f_X1_stands_L17 at hv
    replace hl : lv_has ls 6 [(0, .ref (a0)), (1, .int (a1)), (2, .ref (a2)), (3, .int (a3)), (4, .int (a4)), (5, .int (x5_2))] := hl
    replace Z : zz_B D dA A h n s.heap H locs := Z
    show zz_W p l e rm_X1_stands s m args below meth c D dA A (some (.int r)) h n 0 0 H locs 0 0 17 ls []
    refine lv_iload S.1 S.2.1 dX1_stands_17 (lv_at hl 5 rfl) ?_
    refine lv_iload S.1 S.2.1 dX1_stands_19 (lv_at hl 4 rfl) ?_
    refine lv_iload_n S.1 S.2.1 dX1_stands_21 rfl (lv_at hl 3 rfl) ?_
    refine lv_isub S.1 S.2.1 dX1_stands_22 ?_
    refine lv_icmp_ge (tgt := 52) S.1 S.2.1 dX1_stands_23 (by decide) (fun hc => ?_) (fun hc => ?_)
    · replace hv := (if_pos hc).symm.trans hv
      obtain ⟨_, hv, hk⟩ := zz_mapk hv hk
      replace hk := hR1 _ hk
      refine lv_iconst (v := (1 : Int32)) S.1 S.2.1 dX1_stands_52 (by decide) ?_
      replace hk := zz_fin hv hk
      cases hR0 _ hk
      exact zz_zret S Z hret (by decide) hlk dX1_stands_53 (Nat.le_refl _) (Nat.le_refl _)
    · replace hv := (if_neg hc).symm.trans hv
      refine lv_aload_n S.1 S.2.1 dX1_stands_26 rfl (lv_at hl 0 rfl) ?_
      refine lv_iload_n S.1 S.2.1 dX1_stands_27 rfl (lv_at hl 1 rfl) ?_
      refine lv_iload S.1 S.2.1 dX1_stands_28 (lv_at hl 5 rfl) ?_
      obtain ⟨hci, hv⟩ := zz_isO_s hv
      obtain ⟨v3, hq, hv⟩ := zz_bd hv
      refine zz_V [.int (a1), .int (x5_2)] S K Z hci zc_1 rfl (c_X1_signOf a0 a1 x5_2 hq) ⟨rfl, rfl⟩ gm_X1_signOf gmv_X1_signOf gl_X1_34 ⟨by decide, by decide⟩ rfl hl.1 rfl (Nat.le_of_ble_eq_true rfl) dX1_stands_30 ⟨Nat.zero_le _, Nat.zero_le _⟩ (fun H locs Z => ?_)
      show W _ _ _ _ _ _ _ _ _ _ _ _ 0 0 _ (F0 m 33 ls [.int (v3)])
      refine lv_aload_n S.1 S.2.1 dX1_stands_33 rfl (lv_at hl 2 rfl) ?_
      refine lv_iload_n S.1 S.2.1 dX1_stands_34 rfl (lv_at hl 3 rfl) ?_
      refine lv_iload S.1 S.2.1 dX1_stands_35 (lv_at hl 5 rfl) ?_
      refine lv_iadd S.1 S.2.1 dX1_stands_37 ?_
      obtain ⟨hci, hv⟩ := zz_isO_s hv
      obtain ⟨v4, hq, hv⟩ := zz_bd hv
      refine zz_V [.int (a3 + x5_2)] S K Z hci zc_0 rfl (c_X0_at a2 (a3 + x5_2) hq) ⟨rfl, rfl⟩ gm_X0_at gmv_X0_at gl_X1_38 ⟨by decide, by decide⟩ rfl hl.1 rfl (Nat.le_of_ble_eq_true rfl) dX1_stands_38 ⟨Nat.zero_le _, Nat.zero_le _⟩ (fun H locs Z => ?_)
      show W _ _ _ _ _ _ _ _ _ _ _ _ 0 0 _ (F0 m 41 ls [.int (v4), .int (v3)])
      refine lv_icmp_eq (tgt := 46) S.1 S.2.1 dX1_stands_41 (by decide) (fun hc => ?_) (fun hc => ?_)
      · replace hv := (if_pos hc).symm.trans hv
        refine lv_iinc (v := x5_2 + (1 : Int32)) (lv' := [(5, .int (x5_2 + (1 : Int32))), (0, .ref (a0)), (1, .int (a1)), (2, .ref (a2)), (3, .int (a3)), (4, .int (a4))]) S.1 S.2.1 dX1_stands_46 hl (k := 5) rfl rfl (by decide) rfl (fun ls hl => ?_)
        refine lv_goto (tgt := 17) S.1 S.2.1 dX1_stands_49 (by decide) ?_
        replace hk := zz_fin hv hk
        exact hP1 _ hk H locs ls Z (lv_sub hl [1, 2, 3, 4, 5, 0] rfl)
      · replace hv := (if_neg hc).symm.trans hv
        obtain ⟨_, hv, hk⟩ := zz_mapk hv hk
        replace hk := hR1 _ hk
        refine lv_iconst (v := (0 : Int32)) S.1 S.2.1 dX1_stands_44 (by decide) ?_
        replace hk := zz_fin hv hk
        cases hR0 _ hk
        exact zz_zret S Z hret (by decide) hlk dX1_stands_45 (Nat.le_refl _) (Nat.le_refl _)
  have hv := hf
  unfold f_X1_stands at hv
  clear hf
  obtain ⟨x, hxx⟩ : ∃ x, x = r := ⟨_, rfl⟩
  rw [← hxx] at hv hk
  have ⟨H, hH⟩ : ∃ H, H = s.heap := ⟨_, rfl⟩
  have ⟨locs, hlo⟩ : ∃ q : List Loc, q = [] := ⟨_, rfl⟩
  have Z : zz_B D dA A h n s.heap H locs := by rw [hH, hlo]; exact Z
  have key : zz_W p l e rm_X1_stands s m args below meth c D dA A (some (.int r)) h n 0 0 H locs 0 0 0 ls [] := by
    clear hH hlo hxx
    refine lv_aload_n S.1 S.2.1 dX1_stands_0 rfl (lv_at hl 0 rfl) ?_
    refine lv_iload_n S.1 S.2.1 dX1_stands_1 rfl (lv_at hl 1 rfl) ?_
    obtain ⟨hci, hv⟩ := zz_isO_s hv
    obtain ⟨v1, hq, hv⟩ := zz_bd hv
    refine zz_V [.int (a1)] S K Z hci zc_1 rfl (c_X1_lengthOf a0 a1 hq) ⟨rfl, rfl⟩ gm_X1_lengthOf gmv_X1_lengthOf gl_X1_26 ⟨by decide, by decide⟩ rfl hl.1 rfl (Nat.le_of_ble_eq_true rfl) dX1_stands_2 ⟨Nat.zero_le _, Nat.zero_le _⟩ (fun H locs Z => ?_)
    show W _ _ _ _ _ _ _ _ _ _ _ _ 0 0 _ (F0 m 5 ls [.int (v1)])
    refine lv_iload S.1 S.2.1 dX1_stands_5 (lv_at hl 4 rfl) ?_
    refine lv_iload_n S.1 S.2.1 dX1_stands_7 rfl (lv_at hl 3 rfl) ?_
    refine lv_isub S.1 S.2.1 dX1_stands_8 ?_
    refine lv_icmp_eq (tgt := 14) S.1 S.2.1 dX1_stands_9 (by decide) (fun hc => ?_) (fun hc => ?_)
    · replace hv := (if_pos hc).symm.trans hv
      refine lv_iconst (v := (0 : Int32)) S.1 S.2.1 dX1_stands_14 (by decide) ?_
      refine lv_istore (lv' := [(5, .int ((0 : Int32))), (0, .ref (a0)), (1, .int (a1)), (2, .ref (a2)), (3, .int (a3)), (4, .int (a4))]) S.1 S.2.1 dX1_stands_15 hl (by decide) rfl (fun ls hl => ?_)
      exact L17  ((0 : Int32)) _ hv hk H locs ls Z (lv_sub hl [1, 2, 3, 4, 5, 0] rfl)
    · replace hv := (if_neg hc).symm.trans hv
      refine lv_iconst (v := (0 : Int32)) S.1 S.2.1 dX1_stands_12 (by decide) ?_
      replace hk := zz_fin hv hk
      cases hR0 _ hk
      exact zz_zret S Z hret (by decide) hlk dX1_stands_13 (Nat.le_refl _) (Nat.le_refl _)
  rw [hH, hlo] at key
  exact key

noncomputable def f_X1_find_L3 (h : ZH) (a0 : Nat) (a1 : Nat) (a2 : Int32) (a3 : Int32) (x4_1 : Int32)  : Option ((Int32) ⊕ (Int32)) :=
  (zg_I h a0 1 3).bind fun v2 => if v2 ≤ x4_1 then ((some ((-1 : Int32))).map Sum.inr) else (zz_isO h a0 1 <| (f_X1_stands h a0 x4_1 a1 a2 a3).bind fun v3 => if v3 = 0 then (some (.inl (x4_1 + (1 : Int32)))) else ((some (x4_1)).map Sum.inr))
noncomputable def f_X1_find (h : ZH) (a0 : Nat) (a1 : Nat) (a2 : Int32) (a3 : Int32) : Option (Int32) :=
  zz_loop (fun st : (Int32) => f_X1_find_L3 h a0 a1 a2 a3 (st)) ((0 : Int32))
abbrev rm_X1_find : Room := { frames := 3, cells := 0, slots := 0, locals := 69 }
set_option maxRecDepth 100000 in
set_option maxHeartbeats 4000000 in
theorem c_X1_find {l : Launch} {D : va_G} {dA : Nat → ClassId} {A : Nat → Prop} {h : ZH} {n : Nat} (a0 : Nat) (a1 : Nat) (a2 : Int32) (a3 : Int32) {r : Int32} (hf : f_X1_find h a0 a1 a2 a3 = some r) : Met l yX1_find (zz_ws yX1_find cX1_find 5 (some .int)) rm_X1_find (zz_P D dA A h n [.ref (a0), .ref (a1), .int (a2), .int (a3)]) (zz_Q D dA A (some (.int r)) h n) 0 0 A := by
  refine zz_met (by decide) (Nat.le_of_ble_eq_true rfl) ?_
  intro p e s m args below meth c ls S K hret hlk hnm hl Z
  replace hl : lv_has ls 5 [(0, .ref (a0)), (1, .ref (a1)), (2, .int (a2)), (3, .int (a3))] := hl
  obtain ⟨K0, hR0, hk⟩ : ∃ K0 : (Int32) → Prop, (∀ x, K0 x → x = r) ∧ K0 r := ⟨fun x => x = r, fun _ h => h, rfl⟩
  have L3 : ∀ (st : (Int32)) (x : (Int32)), zz_loop (fun st : (Int32) => f_X1_find_L3 h a0 a1 a2 a3 (st)) st = some x → K0 x → (fun st : (Int32) => ∀ (H : Heap) (locs : List Loc) (ls : Array Slot), zz_B D dA A h n s.heap H locs → lv_has ls 5 [(0, .ref (a0)), (1, .ref (a1)), (2, .int (a2)), (3, .int (a3)), (4, .int ((st)))] → zz_W p l e rm_X1_find s m args below meth c D dA A (some (.int r)) h n 0 0 H locs 0 0 3 ls []) st := by
    refine zz_loop_go (K := K0) ?_
    intro K1 hP1 hR1
    rintro x4_1 x hv hk H locs ls Z hl
    replace hv : f_X1_find_L3 h a0 a1 a2 a3 x4_1 = some x := hv
    unfold f_X1_find_L3 at hv
    replace hl : lv_has ls 5 [(0, .ref (a0)), (1, .ref (a1)), (2, .int (a2)), (3, .int (a3)), (4, .int (x4_1))] := hl
    replace Z : zz_B D dA A h n s.heap H locs := Z
    show zz_W p l e rm_X1_find s m args below meth c D dA A (some (.int r)) h n 0 0 H locs 0 0 3 ls []
    refine lv_iload S.1 S.2.1 dX1_find_3 (lv_at hl 4 rfl) ?_
    refine lv_aload_n S.1 S.2.1 dX1_find_5 rfl (lv_at hl 0 rfl) ?_
    refine zz_gI S K Z hv zc_1 (by decide) gf_X1_23 dX1_find_6 (fun v2 hv => ?_)
    refine lv_icmp_ge (tgt := 33) S.1 S.2.1 dX1_find_9 (by decide) (fun hc => ?_) (fun hc => ?_)
    · replace hv := (if_pos hc).symm.trans hv
      obtain ⟨_, hv, hk⟩ := zz_mapk hv hk
      replace hk := hR1 _ hk
      refine lv_iconst (v := (-1 : Int32)) S.1 S.2.1 dX1_find_33 (by decide) ?_
      replace hk := zz_fin hv hk
      cases hR0 _ hk
      exact zz_iret S Z hret hlk dX1_find_34 (Nat.le_refl _) (Nat.le_refl _)
    · replace hv := (if_neg hc).symm.trans hv
      refine lv_aload_n S.1 S.2.1 dX1_find_12 rfl (lv_at hl 0 rfl) ?_
      refine lv_iload S.1 S.2.1 dX1_find_13 (lv_at hl 4 rfl) ?_
      refine lv_aload_n S.1 S.2.1 dX1_find_15 rfl (lv_at hl 1 rfl) ?_
      refine lv_iload_n S.1 S.2.1 dX1_find_16 rfl (lv_at hl 2 rfl) ?_
      refine lv_iload_n S.1 S.2.1 dX1_find_17 rfl (lv_at hl 3 rfl) ?_
      obtain ⟨hci, hv⟩ := zz_isO_s hv
      obtain ⟨v3, hq, hv⟩ := zz_bd hv
      refine zz_V [.int (x4_1), .ref (a1), .int (a2), .int (a3)] S K Z hci zc_1 rfl (c_X1_stands a0 x4_1 a1 a2 a3 hq) ⟨rfl, rfl⟩ gm_X1_stands gmv_X1_stands gl_X1_30 ⟨by decide, by decide⟩ rfl hl.1 rfl (Nat.le_of_ble_eq_true rfl) dX1_find_18 ⟨Nat.zero_le _, Nat.zero_le _⟩ (fun H locs Z => ?_)
      show W _ _ _ _ _ _ _ _ _ _ _ _ 0 0 _ (F0 m 21 ls [.int (v3)])
      refine lv_if_eq (tgt := 27) S.1 S.2.1 dX1_find_21 (by decide) (fun hc => ?_) (fun hc => ?_)
      · replace hv := (if_pos hc).symm.trans hv
        refine lv_iinc (v := x4_1 + (1 : Int32)) (lv' := [(4, .int (x4_1 + (1 : Int32))), (0, .ref (a0)), (1, .ref (a1)), (2, .int (a2)), (3, .int (a3))]) S.1 S.2.1 dX1_find_27 hl (k := 4) rfl rfl (by decide) rfl (fun ls hl => ?_)
        refine lv_goto (tgt := 3) S.1 S.2.1 dX1_find_30 (by decide) ?_
        replace hk := zz_fin hv hk
        exact hP1 _ hk H locs ls Z (lv_sub hl [1, 2, 3, 4, 0] rfl)
      · replace hv := (if_neg hc).symm.trans hv
        obtain ⟨_, hv, hk⟩ := zz_mapk hv hk
        replace hk := hR1 _ hk
        refine lv_iload S.1 S.2.1 dX1_find_24 (lv_at hl 4 rfl) ?_
        replace hk := zz_fin hv hk
        cases hR0 _ hk
        exact zz_iret S Z hret hlk dX1_find_26 (Nat.le_refl _) (Nat.le_refl _)
  have hv := hf
  unfold f_X1_find at hv
  clear hf
  obtain ⟨x, hxx⟩ : ∃ x, x = r := ⟨_, rfl⟩
  rw [← hxx] at hv hk
  have ⟨H, hH⟩ : ∃ H, H = s.heap := ⟨_, rfl⟩
  have ⟨locs, hlo⟩ : ∃ q : List Loc, q = [] := ⟨_, rfl⟩
  have Z : zz_B D dA A h n s.heap H locs := by rw [hH, hlo]; exact Z
  have key : zz_W p l e rm_X1_find s m args below meth c D dA A (some (.int r)) h n 0 0 H locs 0 0 0 ls [] := by
    clear hH hlo hxx
    refine lv_iconst (v := (0 : Int32)) S.1 S.2.1 dX1_find_0 (by decide) ?_
    refine lv_istore (lv' := [(4, .int ((0 : Int32))), (0, .ref (a0)), (1, .ref (a1)), (2, .int (a2)), (3, .int (a3))]) S.1 S.2.1 dX1_find_1 hl (by decide) rfl (fun ls hl => ?_)
    exact L3  ((0 : Int32)) _ hv hk H locs ls Z (lv_sub hl [1, 2, 3, 4, 0] rfl)
  rw [hH, hlo] at key
  exact key

noncomputable def f_X1_append_L45 (h : ZH) (a0 : Nat) (a1 : Nat) (y2_11 : Int32) (x3_10 : Int32) (h12 : ZH)  : Option ((Int32 × ZH) ⊕ (Int32 × ZH)) :=
  (zg_I h12 a1 0 1).bind fun v13 => if v13 ≤ x3_10 then (((zg_R h12 a0 1 2).bind fun v14 => (zg_I h12 a0 1 3).bind fun v15 => (zg_I h12 a1 0 1).bind fun v16 => (zs_I h12 v14 1 v15 v16).bind fun h17 => (zg_I h17 a0 1 3).bind fun v18 => (zp_V h17 a0 1 3 (.int (v18 + (1 : Int32)))).bind fun h19 => (zg_I h19 a0 1 3).bind fun v20 => some ((v20 - (1 : Int32), h19))).map Sum.inr) else (zz_let (y2_11 + x3_10) fun v21 => if v21 < 0 then (some (.inl (x3_10 + (1 : Int32), h12))) else ((zg_R h12 a0 1 1).bind fun v22 => (zl_N h12 v22 0).bind fun v23 => if v23 ≤ v21 then (some (.inl (x3_10 + (1 : Int32), h12))) else ((zg_R h12 a0 1 1).bind fun v24 => zz_isO h12 a1 0 <| (f_X0_at h12 a1 x3_10).bind fun v25 => (zs_I h12 v24 0 v21 (vp_nar .byte (v25.toInt8.toInt32))).bind fun h26 => some (.inl (x3_10 + (1 : Int32), h26)))))
noncomputable def f_X1_append (h : ZH) (a0 : Nat) (a1 : Nat) : Option (Int32 × ZH) :=
  (zg_I h a0 1 3).bind fun v1 => if v1 < 0 then (some (((-5 : Int32), h))) else ((zg_I h a0 1 3).bind fun v2 => (zg_R h a0 1 2).bind fun v3 => (zl_N h v3 1).bind fun v4 => if v4 ≤ v2 then (some (((-5 : Int32), h))) else ((zg_I h a1 0 1).bind fun v5 => (zg_I h a0 1 0).bind fun v6 => if v5 ≤ v6 then ((zg_I h a0 1 3).bind fun v7 => (zg_I h a0 1 0).bind fun v8 => zz_let (v7 * v8) fun v9 => zz_loop (fun st : (Int32 × ZH) => f_X1_append_L45 h a0 a1 v9 (st.1) (st.2)) ((0 : Int32), h)) else (some (((-5 : Int32), h)))))
abbrev rm_X1_append : Room := { frames := 1, cells := 0, slots := 0, locals := 21 }
set_option maxRecDepth 100000 in
set_option maxHeartbeats 4000000 in
theorem c_X1_append {l : Launch} {D : va_G} {dA : Nat → ClassId} {A : Nat → Prop} {h : ZH} {n : Nat} (a0 : Nat) (a1 : Nat) {r : Int32} {hx : ZH} (hf : f_X1_append h a0 a1 = some (r, hx)) : Met l yX1_append (zz_ws yX1_append cX1_append 5 (some .int)) rm_X1_append (zz_P D dA A h n [.ref (a0), .ref (a1)]) (zz_Q D dA A (some (.int r)) hx n) 0 0 A := by
  refine zz_met (by decide) (Nat.le_of_ble_eq_true rfl) ?_
  intro p e s m args below meth c ls S K hret hlk hnm hl Z
  replace hl : lv_has ls 5 [(0, .ref (a0)), (1, .ref (a1))] := hl
  obtain ⟨K0, hR0, hk⟩ : ∃ K0 : (Int32 × ZH) → Prop, (∀ x, K0 x → x = (r, hx)) ∧ K0 (r, hx) := ⟨fun x => x = (r, hx), fun _ h => h, rfl⟩
  have L45 : ∀ (y2_11 : Int32) (st : (Int32 × ZH)) (x : (Int32 × ZH)), zz_loop (fun st : (Int32 × ZH) => f_X1_append_L45 h a0 a1 y2_11 (st.1) (st.2)) st = some x → K0 x → (fun st : (Int32 × ZH) => ∀ (H : Heap) (locs : List Loc) (ls : Array Slot), zz_B D dA A (st.2) n s.heap H locs → lv_has ls 5 [(0, .ref (a0)), (1, .ref (a1)), (2, .int (y2_11)), (3, .int ((st.1)))] → zz_W p l e rm_X1_append s m args below meth c D dA A (some (.int r)) hx n 0 0 H locs 0 0 45 ls []) st := by
    intro y2_11
    refine zz_loop_go (K := K0) ?_
    intro K1 hP1 hR1
    rintro ⟨x3_10, h12⟩ x hv hk H locs ls Z hl
    replace hv : f_X1_append_L45 h a0 a1 y2_11 x3_10 h12 = some x := hv
    unfold f_X1_append_L45 at hv
    replace hl : lv_has ls 5 [(0, .ref (a0)), (1, .ref (a1)), (2, .int (y2_11)), (3, .int (x3_10))] := hl
    replace Z : zz_B D dA A h12 n s.heap H locs := Z
    show zz_W p l e rm_X1_append s m args below meth c D dA A (some (.int r)) hx n 0 0 H locs 0 0 45 ls []
    refine lv_iload_n S.1 S.2.1 dX1_append_45 rfl (lv_at hl 3 rfl) ?_
    refine lv_aload_n S.1 S.2.1 dX1_append_46 rfl (lv_at hl 1 rfl) ?_
    refine zz_gI S K Z hv zc_0 (by decide) gf_X1_43 dX1_append_47 (fun v13 hv => ?_)
    refine lv_icmp_ge (tgt := 92) S.1 S.2.1 dX1_append_50 (by decide) (fun hc => ?_) (fun hc => ?_)
    · replace hv := (if_pos hc).symm.trans hv
      obtain ⟨_, hv, hk⟩ := zz_mapk hv hk
      replace hk := hR1 _ hk
      refine lv_aload_n S.1 S.2.1 dX1_append_92 rfl (lv_at hl 0 rfl) ?_
      refine zz_gR S K Z hv zc_1 (by decide) gf_X1_19 dX1_append_93 (fun v14 hv => ?_)
      refine lv_aload_n S.1 S.2.1 dX1_append_96 rfl (lv_at hl 0 rfl) ?_
      refine zz_gI S K Z hv zc_1 (by decide) gf_X1_23 dX1_append_97 (fun v15 hv => ?_)
      refine lv_aload_n S.1 S.2.1 dX1_append_100 rfl (lv_at hl 1 rfl) ?_
      refine zz_gI S K Z hv zc_0 (by decide) gf_X1_43 dX1_append_101 (fun v16 hv => ?_)
      refine zz_iast S K Z hv dX1_append_104 (fun h17 H locs hv Z => ?_)
      refine lv_aload_n S.1 S.2.1 dX1_append_105 rfl (lv_at hl 0 rfl) ?_
      refine lv_dup S.1 S.2.1 dX1_append_106 rfl ?_
      refine zz_gI S K Z hv zc_1 (by decide) gf_X1_23 dX1_append_107 (fun v18 hv => ?_)
      refine lv_iconst (v := (1 : Int32)) S.1 S.2.1 dX1_append_110 (by decide) ?_
      refine lv_iadd S.1 S.2.1 dX1_append_111 ?_
      refine zz_put S K Z hv zc_1 (by decide) gf_X1_23 rfl rfl rfl dX1_append_112 (fun h19 H locs hv Z => ?_)
      refine lv_aload_n S.1 S.2.1 dX1_append_115 rfl (lv_at hl 0 rfl) ?_
      refine zz_gI S K Z hv zc_1 (by decide) gf_X1_23 dX1_append_116 (fun v20 hv => ?_)
      refine lv_iconst (v := (1 : Int32)) S.1 S.2.1 dX1_append_119 (by decide) ?_
      refine lv_isub S.1 S.2.1 dX1_append_120 ?_
      replace hk := zz_fin hv hk
      cases hR0 _ hk
      exact zz_iret S Z hret hlk dX1_append_121 (Nat.le_refl _) (Nat.le_refl _)
    · replace hv := (if_neg hc).symm.trans hv
      refine lv_iload_n S.1 S.2.1 dX1_append_53 rfl (lv_at hl 2 rfl) ?_
      refine lv_iload_n S.1 S.2.1 dX1_append_54 rfl (lv_at hl 3 rfl) ?_
      refine lv_iadd S.1 S.2.1 dX1_append_55 ?_
      refine zz_lt hv (G := fun w => W _ _ _ _ _ _ _ _ _ _ _ _ _ _ _ (F0 _ _ _ (.int w :: _))) (fun v21 hv => ?_)
      refine lv_istore (lv' := [(4, .int (v21)), (0, .ref (a0)), (1, .ref (a1)), (2, .int (y2_11)), (3, .int (x3_10))]) S.1 S.2.1 dX1_append_56 hl (by decide) rfl (fun ls hl => ?_)
      refine lv_iload S.1 S.2.1 dX1_append_58 (lv_at hl 0 rfl) ?_
      refine lv_if_lt (tgt := 86) S.1 S.2.1 dX1_append_60 (by decide) (fun hc => ?_) (fun hc => ?_)
      · replace hv := (if_pos hc).symm.trans hv
        refine lv_iinc (v := x3_10 + (1 : Int32)) (lv' := [(3, .int (x3_10 + (1 : Int32))), (4, .int (v21)), (0, .ref (a0)), (1, .ref (a1)), (2, .int (y2_11))]) S.1 S.2.1 dX1_append_86 hl (k := 4) rfl rfl (by decide) rfl (fun ls hl => ?_)
        refine lv_goto (tgt := 45) S.1 S.2.1 dX1_append_89 (by decide) ?_
        replace hk := zz_fin hv hk
        exact hP1 _ hk H locs ls Z (lv_sub hl [2, 3, 4, 0] rfl)
      · replace hv := (if_neg hc).symm.trans hv
        refine lv_iload S.1 S.2.1 dX1_append_63 (lv_at hl 0 rfl) ?_
        refine lv_aload_n S.1 S.2.1 dX1_append_65 rfl (lv_at hl 1 rfl) ?_
        refine zz_gR S K Z hv zc_1 (by decide) gf_X1_15 dX1_append_66 (fun v22 hv => ?_)
        refine zz_alen S K Z hv rfl dX1_append_69 (fun v23 hv => ?_)
        refine lv_icmp_ge (tgt := 86) S.1 S.2.1 dX1_append_70 (by decide) (fun hc => ?_) (fun hc => ?_)
        · replace hv := (if_pos hc).symm.trans hv
          refine lv_iinc (v := x3_10 + (1 : Int32)) (lv' := [(3, .int (x3_10 + (1 : Int32))), (4, .int (v21)), (0, .ref (a0)), (1, .ref (a1)), (2, .int (y2_11))]) S.1 S.2.1 dX1_append_86 hl (k := 4) rfl rfl (by decide) rfl (fun ls hl => ?_)
          refine lv_goto (tgt := 45) S.1 S.2.1 dX1_append_89 (by decide) ?_
          replace hk := zz_fin hv hk
          exact hP1 _ hk H locs ls Z (lv_sub hl [2, 3, 4, 0] rfl)
        · replace hv := (if_neg hc).symm.trans hv
          refine lv_aload_n S.1 S.2.1 dX1_append_73 rfl (lv_at hl 1 rfl) ?_
          refine zz_gR S K Z hv zc_1 (by decide) gf_X1_15 dX1_append_74 (fun v24 hv => ?_)
          refine lv_iload S.1 S.2.1 dX1_append_77 (lv_at hl 0 rfl) ?_
          refine lv_aload_n S.1 S.2.1 dX1_append_79 rfl (lv_at hl 2 rfl) ?_
          refine lv_iload_n S.1 S.2.1 dX1_append_80 rfl (lv_at hl 4 rfl) ?_
          obtain ⟨hci, hv⟩ := zz_isO_s hv
          obtain ⟨v25, hq, hv⟩ := zz_bd hv
          refine zz_V [.int (x3_10)] S K Z hci zc_0 rfl (c_X0_at a1 x3_10 hq) ⟨rfl, rfl⟩ gm_X0_at gmv_X0_at gl_X1_38 ⟨by decide, by decide⟩ rfl hl.1 rfl (Nat.le_of_ble_eq_true rfl) dX1_append_81 ⟨Nat.zero_le _, Nat.zero_le _⟩ (fun H locs Z => ?_)
          show W _ _ _ _ _ _ _ _ _ _ _ _ 0 0 _ (F0 m 84 ls [.int (v25), .int (v21), .ref (v24)])
          refine lv_i2b S.1 S.2.1 dX1_append_84 rfl ?_
          refine zz_bast S K Z hv dX1_append_85 (fun h26 H locs hv Z => ?_)
          refine lv_iinc (v := x3_10 + (1 : Int32)) (lv' := [(3, .int (x3_10 + (1 : Int32))), (4, .int (v21)), (0, .ref (a0)), (1, .ref (a1)), (2, .int (y2_11))]) S.1 S.2.1 dX1_append_86 hl (k := 4) rfl rfl (by decide) rfl (fun ls hl => ?_)
          refine lv_goto (tgt := 45) S.1 S.2.1 dX1_append_89 (by decide) ?_
          replace hk := zz_fin hv hk
          exact hP1 _ hk H locs ls Z (lv_sub hl [2, 3, 4, 0] rfl)
  have hv := hf
  unfold f_X1_append at hv
  clear hf
  obtain ⟨x, hxx⟩ : ∃ x, x = (r, hx) := ⟨_, rfl⟩
  rw [← hxx] at hv hk
  have ⟨H, hH⟩ : ∃ H, H = s.heap := ⟨_, rfl⟩
  have ⟨locs, hlo⟩ : ∃ q : List Loc, q = [] := ⟨_, rfl⟩
  have Z : zz_B D dA A h n s.heap H locs := by rw [hH, hlo]; exact Z
  have key : zz_W p l e rm_X1_append s m args below meth c D dA A (some (.int r)) hx n 0 0 H locs 0 0 0 ls [] := by
    clear hH hlo hxx
    refine lv_aload_n S.1 S.2.1 dX1_append_0 rfl (lv_at hl 0 rfl) ?_
    refine zz_gI S K Z hv zc_1 (by decide) gf_X1_23 dX1_append_1 (fun v1 hv => ?_)
    refine lv_if_lt (tgt := 30) S.1 S.2.1 dX1_append_4 (by decide) (fun hc => ?_) (fun hc => ?_)
    · replace hv := (if_pos hc).symm.trans hv
      refine lv_bipush (v := (-5 : Int32)) S.1 S.2.1 dX1_append_30 (by decide) ?_
      replace hk := zz_fin hv hk
      cases hR0 _ hk
      exact zz_iret S Z hret hlk dX1_append_32 (Nat.le_refl _) (Nat.le_refl _)
    · replace hv := (if_neg hc).symm.trans hv
      refine lv_aload_n S.1 S.2.1 dX1_append_7 rfl (lv_at hl 0 rfl) ?_
      refine zz_gI S K Z hv zc_1 (by decide) gf_X1_23 dX1_append_8 (fun v2 hv => ?_)
      refine lv_aload_n S.1 S.2.1 dX1_append_11 rfl (lv_at hl 0 rfl) ?_
      refine zz_gR S K Z hv zc_1 (by decide) gf_X1_19 dX1_append_12 (fun v3 hv => ?_)
      refine zz_alen S K Z hv rfl dX1_append_15 (fun v4 hv => ?_)
      refine lv_icmp_ge (tgt := 30) S.1 S.2.1 dX1_append_16 (by decide) (fun hc => ?_) (fun hc => ?_)
      · replace hv := (if_pos hc).symm.trans hv
        refine lv_bipush (v := (-5 : Int32)) S.1 S.2.1 dX1_append_30 (by decide) ?_
        replace hk := zz_fin hv hk
        cases hR0 _ hk
        exact zz_iret S Z hret hlk dX1_append_32 (Nat.le_refl _) (Nat.le_refl _)
      · replace hv := (if_neg hc).symm.trans hv
        refine lv_aload_n S.1 S.2.1 dX1_append_19 rfl (lv_at hl 1 rfl) ?_
        refine zz_gI S K Z hv zc_0 (by decide) gf_X1_43 dX1_append_20 (fun v5 hv => ?_)
        refine lv_aload_n S.1 S.2.1 dX1_append_23 rfl (lv_at hl 0 rfl) ?_
        refine zz_gI S K Z hv zc_1 (by decide) gf_X1_9 dX1_append_24 (fun v6 hv => ?_)
        refine lv_icmp_le (tgt := 33) S.1 S.2.1 dX1_append_27 (by decide) (fun hc => ?_) (fun hc => ?_)
        · replace hv := (if_pos hc).symm.trans hv
          refine lv_aload_n S.1 S.2.1 dX1_append_33 rfl (lv_at hl 0 rfl) ?_
          refine zz_gI S K Z hv zc_1 (by decide) gf_X1_23 dX1_append_34 (fun v7 hv => ?_)
          refine lv_aload_n S.1 S.2.1 dX1_append_37 rfl (lv_at hl 0 rfl) ?_
          refine zz_gI S K Z hv zc_1 (by decide) gf_X1_9 dX1_append_38 (fun v8 hv => ?_)
          refine lv_imul S.1 S.2.1 dX1_append_41 ?_
          refine zz_lt hv (G := fun w => W _ _ _ _ _ _ _ _ _ _ _ _ _ _ _ (F0 _ _ _ (.int w :: _))) (fun v9 hv => ?_)
          refine lv_istore_n (lv' := [(2, .int (v9)), (0, .ref (a0)), (1, .ref (a1))]) S.1 S.2.1 dX1_append_42 rfl hl (by decide) rfl (fun ls hl => ?_)
          refine lv_iconst (v := (0 : Int32)) S.1 S.2.1 dX1_append_43 (by decide) ?_
          refine lv_istore_n (lv' := [(3, .int ((0 : Int32))), (2, .int (v9)), (0, .ref (a0)), (1, .ref (a1))]) S.1 S.2.1 dX1_append_44 rfl hl (by decide) rfl (fun ls hl => ?_)
          exact L45 v9 ((0 : Int32), h) _ hv hk H locs ls Z (lv_sub hl [2, 3, 1, 0] rfl)
        · replace hv := (if_neg hc).symm.trans hv
          refine lv_bipush (v := (-5 : Int32)) S.1 S.2.1 dX1_append_30 (by decide) ?_
          replace hk := zz_fin hv hk
          cases hR0 _ hk
          exact zz_iret S Z hret hlk dX1_append_32 (Nat.le_refl _) (Nat.le_refl _)
  rw [hH, hlo] at key
  exact key

noncomputable def f_X11_addWord (h : ZH) (a0 : Nat) : Option (Int32 × ZH) :=
  (zg_R h a0 9 0).bind fun v1 => (f_X2_lettersEnd h v1 (0 : Int32)).bind fun v2 => (zg_R h a0 9 0).bind fun v3 => (zg_I h v3 0 1).bind fun v4 => if v2 = v4 then ((zg_R h a0 9 1).bind fun v5 => (zg_R h v5 8 0).bind fun v6 => (zg_R h a0 9 0).bind fun v7 => (zg_R h a0 9 0).bind fun v8 => (zg_I h v8 0 1).bind fun v9 => zz_isO h v6 1 <| (f_X1_find h v6 v7 (0 : Int32) v9).bind fun v10 => if v10 = (-1 : Int32) then ((zg_R h a0 9 1).bind fun v11 => (zg_R h v11 8 0).bind fun v12 => (zg_R h a0 9 0).bind fun v13 => zz_isO h v12 1 <| (f_X1_append h v12 v13).bind fun (v14, h15) => some ((v14, h15))) else (some ((v10, h)))) else (some (((-3 : Int32), h)))
abbrev rm_X11_addWord : Room := { frames := 4, cells := 0, slots := 0, locals := 93 }
set_option maxRecDepth 100000 in
set_option maxHeartbeats 4000000 in
theorem c_X11_addWord {l : Launch} {D : va_G} {dA : Nat → ClassId} {A : Nat → Prop} {h : ZH} {n : Nat} (a0 : Nat) {r : Int32} {hx : ZH} (hf : f_X11_addWord h a0 = some (r, hx)) : Met l yX11_addWord (zz_ws yX11_addWord cX11_addWord 2 (some .int)) rm_X11_addWord (zz_P D dA A h n [.ref (a0)]) (zz_Q D dA A (some (.int r)) hx n) 0 0 A := by
  refine zz_met (by decide) (Nat.le_of_ble_eq_true rfl) ?_
  intro p e s m args below meth c ls S K hret hlk hnm hl Z
  replace hl : lv_has ls 2 [(0, .ref (a0))] := hl
  obtain ⟨K0, hR0, hk⟩ : ∃ K0 : (Int32 × ZH) → Prop, (∀ x, K0 x → x = (r, hx)) ∧ K0 (r, hx) := ⟨fun x => x = (r, hx), fun _ h => h, rfl⟩
  have hv := hf
  unfold f_X11_addWord at hv
  clear hf
  obtain ⟨x, hxx⟩ : ∃ x, x = (r, hx) := ⟨_, rfl⟩
  rw [← hxx] at hv hk
  have ⟨H, hH⟩ : ∃ H, H = s.heap := ⟨_, rfl⟩
  have ⟨locs, hlo⟩ : ∃ q : List Loc, q = [] := ⟨_, rfl⟩
  have Z : zz_B D dA A h n s.heap H locs := by rw [hH, hlo]; exact Z
  have key : zz_W p l e rm_X11_addWord s m args below meth c D dA A (some (.int r)) hx n 0 0 H locs 0 0 0 ls [] := by
    clear hH hlo hxx
    refine lv_aload_n S.1 S.2.1 dX11_addWord_0 rfl (lv_at hl 0 rfl) ?_
    refine zz_gR S K Z hv zc_9 (by decide) gf_X11_14 dX11_addWord_1 (fun v1 hv => ?_)
    refine lv_iconst (v := (0 : Int32)) S.1 S.2.1 dX11_addWord_4 (by decide) ?_
    obtain ⟨v2, hq, hv⟩ := zz_bd hv
    refine zz_S [.ref (v1), .int ((0 : Int32))] S K Z (c_X2_lettersEnd v1 (0 : Int32) hq) ⟨rfl, rfl⟩ gm_X2_lettersEnd gs_X2_lettersEnd gl_X11_68 ⟨by decide, by decide⟩ rfl hl.1 rfl (Nat.le_of_ble_eq_true rfl) dX11_addWord_5 ⟨Nat.zero_le _, Nat.zero_le _⟩ (fun H locs Z => ?_)
    show W _ _ _ _ _ _ _ _ _ _ _ _ 0 0 _ (F0 m 8 ls [.int (v2)])
    refine lv_aload_n S.1 S.2.1 dX11_addWord_8 rfl (lv_at hl 0 rfl) ?_
    refine zz_gR S K Z hv zc_9 (by decide) gf_X11_14 dX11_addWord_9 (fun v3 hv => ?_)
    refine zz_gI S K Z hv zc_0 (by decide) gf_X11_54 dX11_addWord_12 (fun v4 hv => ?_)
    refine lv_icmp_eq (tgt := 21) S.1 S.2.1 dX11_addWord_15 (by decide) (fun hc => ?_) (fun hc => ?_)
    · replace hv := (if_pos hc).symm.trans hv
      refine lv_aload_n S.1 S.2.1 dX11_addWord_21 rfl (lv_at hl 0 rfl) ?_
      refine zz_gR S K Z hv zc_9 (by decide) gf_X11_25 dX11_addWord_22 (fun v5 hv => ?_)
      refine zz_gR S K Z hv zc_8 (by decide) gf_X11_74 dX11_addWord_25 (fun v6 hv => ?_)
      refine lv_aload_n S.1 S.2.1 dX11_addWord_28 rfl (lv_at hl 0 rfl) ?_
      refine zz_gR S K Z hv zc_9 (by decide) gf_X11_14 dX11_addWord_29 (fun v7 hv => ?_)
      refine lv_iconst (v := (0 : Int32)) S.1 S.2.1 dX11_addWord_32 (by decide) ?_
      refine lv_aload_n S.1 S.2.1 dX11_addWord_33 rfl (lv_at hl 0 rfl) ?_
      refine zz_gR S K Z hv zc_9 (by decide) gf_X11_14 dX11_addWord_34 (fun v8 hv => ?_)
      refine zz_gI S K Z hv zc_0 (by decide) gf_X11_54 dX11_addWord_37 (fun v9 hv => ?_)
      obtain ⟨hci, hv⟩ := zz_isO_s hv
      obtain ⟨v10, hq, hv⟩ := zz_bd hv
      refine zz_V [.ref (v7), .int ((0 : Int32)), .int (v9)] S K Z hci zc_1 rfl (c_X1_find v6 v7 (0 : Int32) v9 hq) ⟨rfl, rfl⟩ gm_X1_find gmv_X1_find gl_X11_78 ⟨by decide, by decide⟩ rfl hl.1 rfl (Nat.le_of_ble_eq_true rfl) dX11_addWord_40 ⟨Nat.zero_le _, Nat.zero_le _⟩ (fun H locs Z => ?_)
      show W _ _ _ _ _ _ _ _ _ _ _ _ 0 0 _ (F0 m 43 ls [.int (v10)])
      refine lv_istore_n (lv' := [(1, .int (v10)), (0, .ref (a0))]) S.1 S.2.1 dX11_addWord_43 rfl hl (by decide) rfl (fun ls hl => ?_)
      refine lv_iload_n S.1 S.2.1 dX11_addWord_44 rfl (lv_at hl 0 rfl) ?_
      refine lv_iconst (v := (-1 : Int32)) S.1 S.2.1 dX11_addWord_45 (by decide) ?_
      refine lv_icmp_eq (tgt := 53) S.1 S.2.1 dX11_addWord_46 (by decide) (fun hc => ?_) (fun hc => ?_)
      · replace hv := (if_pos hc).symm.trans hv
        refine lv_aload_n S.1 S.2.1 dX11_addWord_53 rfl (lv_at hl 1 rfl) ?_
        refine zz_gR S K Z hv zc_9 (by decide) gf_X11_25 dX11_addWord_54 (fun v11 hv => ?_)
        refine zz_gR S K Z hv zc_8 (by decide) gf_X11_74 dX11_addWord_57 (fun v12 hv => ?_)
        refine lv_aload_n S.1 S.2.1 dX11_addWord_60 rfl (lv_at hl 1 rfl) ?_
        refine zz_gR S K Z hv zc_9 (by decide) gf_X11_14 dX11_addWord_61 (fun v13 hv => ?_)
        obtain ⟨hci, hv⟩ := zz_isO_s hv
        obtain ⟨⟨v14, h15⟩, hq, hv⟩ := zz_bd hv
        refine zz_V [.ref (v13)] S K Z hci zc_1 rfl (c_X1_append v12 v13 hq) ⟨rfl, rfl⟩ gm_X1_append gmv_X1_append gl_X11_84 ⟨by decide, by decide⟩ rfl hl.1 rfl (Nat.le_of_ble_eq_true rfl) dX11_addWord_64 ⟨Nat.zero_le _, Nat.zero_le _⟩ (fun H locs Z => ?_)
        show W _ _ _ _ _ _ _ _ _ _ _ _ 0 0 _ (F0 m 67 ls [.int (v14)])
        replace hk := zz_fin hv hk
        cases hR0 _ hk
        exact zz_iret S Z hret hlk dX11_addWord_67 (Nat.le_refl _) (Nat.le_refl _)
      · replace hv := (if_neg hc).symm.trans hv
        refine lv_iload_n S.1 S.2.1 dX11_addWord_49 rfl (lv_at hl 0 rfl) ?_
        refine lv_goto (tgt := 67) S.1 S.2.1 dX11_addWord_50 (by decide) ?_
        replace hk := zz_fin hv hk
        cases hR0 _ hk
        exact zz_iret S Z hret hlk dX11_addWord_67 (Nat.le_refl _) (Nat.le_refl _)
    · replace hv := (if_neg hc).symm.trans hv
      refine lv_bipush (v := (-3 : Int32)) S.1 S.2.1 dX11_addWord_18 (by decide) ?_
      replace hk := zz_fin hv hk
      cases hR0 _ hk
      exact zz_iret S Z hret hlk dX11_addWord_20 (Nat.le_refl _) (Nat.le_refl _)
  rw [hH, hlo] at key
  exact key

noncomputable def f_X0_clear (h : ZH) (a0 : Nat) : Option (ZH) :=
  (zp_V h a0 0 1 (.int ((0 : Int32)))).bind fun h1 => some (h1)
abbrev rm_X0_clear : Room := { frames := 0, cells := 0, slots := 0, locals := 0 }
set_option maxRecDepth 100000 in
set_option maxHeartbeats 4000000 in
theorem c_X0_clear {l : Launch} {D : va_G} {dA : Nat → ClassId} {A : Nat → Prop} {h : ZH} {n : Nat} (a0 : Nat) {hx : ZH} (hf : f_X0_clear h a0 = some hx) : Met l yX0_clear (zz_ws yX0_clear cX0_clear 1 none) rm_X0_clear (zz_P D dA A h n [.ref (a0)]) (zz_Q D dA A (none) hx n) 0 0 A := by
  refine zz_met (by decide) (Nat.le_of_ble_eq_true rfl) ?_
  intro p e s m args below meth c ls S K hret hlk hnm hl Z
  replace hl : lv_has ls 1 [(0, .ref (a0))] := hl
  obtain ⟨K0, hR0, hk⟩ : ∃ K0 : (ZH) → Prop, (∀ x, K0 x → x = hx) ∧ K0 hx := ⟨fun x => x = hx, fun _ h => h, rfl⟩
  have hv := hf
  unfold f_X0_clear at hv
  clear hf
  obtain ⟨x, hxx⟩ : ∃ x, x = hx := ⟨_, rfl⟩
  rw [← hxx] at hv hk
  have ⟨H, hH⟩ : ∃ H, H = s.heap := ⟨_, rfl⟩
  have ⟨locs, hlo⟩ : ∃ q : List Loc, q = [] := ⟨_, rfl⟩
  have Z : zz_B D dA A h n s.heap H locs := by rw [hH, hlo]; exact Z
  have key : zz_W p l e rm_X0_clear s m args below meth c D dA A (none) hx n 0 0 H locs 0 0 0 ls [] := by
    clear hH hlo hxx
    refine lv_aload_n S.1 S.2.1 dX0_clear_0 rfl (lv_at hl 0 rfl) ?_
    refine lv_iconst (v := (0 : Int32)) S.1 S.2.1 dX0_clear_1 (by decide) ?_
    refine zz_put S K Z hv zc_0 (by decide) gf_X0_15 rfl rfl rfl dX0_clear_2 (fun h1 H locs hv Z => ?_)
    replace hk := zz_fin hv hk
    cases hR0 _ hk
    exact zz_vret S Z hret hlk dX0_clear_5 (Nat.le_refl _) (Nat.le_refl _)
  rw [hH, hlo] at key
  exact key

noncomputable def f_X11_word (h : ZH) (a0 : Nat) : Option (Int32 × ZH) :=
  zz_isO h a0 9 <| (f_X11_addWord h a0).bind fun (v1, h2) => (zg_R h2 a0 9 0).bind fun v3 => zz_isO h2 v3 0 <| (f_X0_clear h2 v3).bind fun h4 => some ((v1, h4))
abbrev rm_X11_word : Room := { frames := 5, cells := 0, slots := 0, locals := 114 }
set_option maxRecDepth 100000 in
set_option maxHeartbeats 4000000 in
theorem c_X11_word {l : Launch} {D : va_G} {dA : Nat → ClassId} {A : Nat → Prop} {h : ZH} {n : Nat} (a0 : Nat) {r : Int32} {hx : ZH} (hf : f_X11_word h a0 = some (r, hx)) : Met l yX11_word (zz_ws yX11_word cX11_word 2 (some .int)) rm_X11_word (zz_P D dA A h n [.ref (a0)]) (zz_Q D dA A (some (.int r)) hx n) 0 0 A := by
  refine zz_met (by decide) (Nat.le_of_ble_eq_true rfl) ?_
  intro p e s m args below meth c ls S K hret hlk hnm hl Z
  replace hl : lv_has ls 2 [(0, .ref (a0))] := hl
  obtain ⟨K0, hR0, hk⟩ : ∃ K0 : (Int32 × ZH) → Prop, (∀ x, K0 x → x = (r, hx)) ∧ K0 (r, hx) := ⟨fun x => x = (r, hx), fun _ h => h, rfl⟩
  have hv := hf
  unfold f_X11_word at hv
  clear hf
  obtain ⟨x, hxx⟩ : ∃ x, x = (r, hx) := ⟨_, rfl⟩
  rw [← hxx] at hv hk
  have ⟨H, hH⟩ : ∃ H, H = s.heap := ⟨_, rfl⟩
  have ⟨locs, hlo⟩ : ∃ q : List Loc, q = [] := ⟨_, rfl⟩
  have Z : zz_B D dA A h n s.heap H locs := by rw [hH, hlo]; exact Z
  have key : zz_W p l e rm_X11_word s m args below meth c D dA A (some (.int r)) hx n 0 0 H locs 0 0 0 ls [] := by
    clear hH hlo hxx
    refine lv_aload_n S.1 S.2.1 dX11_word_0 rfl (lv_at hl 0 rfl) ?_
    obtain ⟨hci, hv⟩ := zz_isO_s hv
    obtain ⟨⟨v1, h2⟩, hq, hv⟩ := zz_bd hv
    refine zz_V [] S K Z hci zc_9 rfl (c_X11_addWord a0 hq) ⟨rfl, rfl⟩ gm_X11_addWord gmv_X11_addWord gl_X11_61 ⟨by decide, by decide⟩ rfl hl.1 rfl (Nat.le_of_ble_eq_true rfl) dX11_word_1 ⟨Nat.zero_le _, Nat.zero_le _⟩ (fun H locs Z => ?_)
    show W _ _ _ _ _ _ _ _ _ _ _ _ 0 0 _ (F0 m 4 ls [.int (v1)])
    refine lv_istore_n (lv' := [(1, .int (v1)), (0, .ref (a0))]) S.1 S.2.1 dX11_word_4 rfl hl (by decide) rfl (fun ls hl => ?_)
    refine lv_aload_n S.1 S.2.1 dX11_word_5 rfl (lv_at hl 1 rfl) ?_
    refine zz_gR S K Z hv zc_9 (by decide) gf_X11_14 dX11_word_6 (fun v3 hv => ?_)
    obtain ⟨hci, hv⟩ := zz_isO_s hv
    obtain ⟨h4, hq, hv⟩ := zz_bd hv
    refine zz_V [] S K Z hci zc_0 rfl (c_X0_clear v3 hq) ⟨rfl, rfl⟩ gm_X0_clear gmv_X0_clear gl_X11_65 ⟨by decide, by decide⟩ rfl hl.1 rfl (Nat.le_of_ble_eq_true rfl) dX11_word_9 ⟨Nat.zero_le _, Nat.zero_le _⟩ (fun H locs Z => ?_)
    show W _ _ _ _ _ _ _ _ _ _ _ _ 0 0 _ (F0 m 12 ls [])
    refine lv_iload_n S.1 S.2.1 dX11_word_12 rfl (lv_at hl 0 rfl) ?_
    replace hk := zz_fin hv hk
    cases hR0 _ hk
    exact zz_iret S Z hret hlk dX11_word_13 (Nat.le_refl _) (Nat.le_refl _)
  rw [hH, hlo] at key
  exact key

noncomputable def f_X2_isSign (h : ZH) (a0 : Int32) : Option (Int32) :=
  if a0 < (32 : Int32) then (some ((0 : Int32))) else (if (126 : Int32) < a0 then (some ((0 : Int32))) else (some ((1 : Int32))))
abbrev rm_X2_isSign : Room := { frames := 0, cells := 0, slots := 0, locals := 0 }
set_option maxRecDepth 100000 in
set_option maxHeartbeats 4000000 in
theorem c_X2_isSign {l : Launch} {D : va_G} {dA : Nat → ClassId} {A : Nat → Prop} {h : ZH} {n : Nat} (a0 : Int32) {r : Int32} (hf : f_X2_isSign h a0 = some r) : Met l yX2_isSign (zz_ws yX2_isSign cX2_isSign 1 (some .boolean)) rm_X2_isSign (zz_P D dA A h n [.int (a0)]) (zz_Q D dA A (some (.int r)) h n) 0 0 A := by
  refine zz_met (by decide) (Nat.le_of_ble_eq_true rfl) ?_
  intro p e s m args below meth c ls S K hret hlk hnm hl Z
  replace hl : lv_has ls 1 [(0, .int (a0))] := hl
  obtain ⟨K0, hR0, hk⟩ : ∃ K0 : (Int32) → Prop, (∀ x, K0 x → x = r) ∧ K0 r := ⟨fun x => x = r, fun _ h => h, rfl⟩
  have hv := hf
  unfold f_X2_isSign at hv
  clear hf
  obtain ⟨x, hxx⟩ : ∃ x, x = r := ⟨_, rfl⟩
  rw [← hxx] at hv hk
  have ⟨H, hH⟩ : ∃ H, H = s.heap := ⟨_, rfl⟩
  have ⟨locs, hlo⟩ : ∃ q : List Loc, q = [] := ⟨_, rfl⟩
  have Z : zz_B D dA A h n s.heap H locs := by rw [hH, hlo]; exact Z
  have key : zz_W p l e rm_X2_isSign s m args below meth c D dA A (some (.int r)) h n 0 0 H locs 0 0 0 ls [] := by
    clear hH hlo hxx
    refine lv_iload_n S.1 S.2.1 dX2_isSign_0 rfl (lv_at hl 0 rfl) ?_
    refine lv_bipush (v := (32 : Int32)) S.1 S.2.1 dX2_isSign_1 (by decide) ?_
    refine lv_icmp_lt (tgt := 16) S.1 S.2.1 dX2_isSign_3 (by decide) (fun hc => ?_) (fun hc => ?_)
    · replace hv := (if_pos hc).symm.trans hv
      refine lv_iconst (v := (0 : Int32)) S.1 S.2.1 dX2_isSign_16 (by decide) ?_
      replace hk := zz_fin hv hk
      cases hR0 _ hk
      exact zz_zret S Z hret (by decide) hlk dX2_isSign_17 (Nat.le_refl _) (Nat.le_refl _)
    · replace hv := (if_neg hc).symm.trans hv
      refine lv_iload_n S.1 S.2.1 dX2_isSign_6 rfl (lv_at hl 0 rfl) ?_
      refine lv_bipush (v := (126 : Int32)) S.1 S.2.1 dX2_isSign_7 (by decide) ?_
      refine lv_icmp_gt (tgt := 16) S.1 S.2.1 dX2_isSign_9 (by decide) (fun hc => ?_) (fun hc => ?_)
      · replace hv := (if_pos hc).symm.trans hv
        refine lv_iconst (v := (0 : Int32)) S.1 S.2.1 dX2_isSign_16 (by decide) ?_
        replace hk := zz_fin hv hk
        cases hR0 _ hk
        exact zz_zret S Z hret (by decide) hlk dX2_isSign_17 (Nat.le_refl _) (Nat.le_refl _)
      · replace hv := (if_neg hc).symm.trans hv
        refine lv_iconst (v := (1 : Int32)) S.1 S.2.1 dX2_isSign_12 (by decide) ?_
        refine lv_goto (tgt := 17) S.1 S.2.1 dX2_isSign_13 (by decide) ?_
        replace hk := zz_fin hv hk
        cases hR0 _ hk
        exact zz_zret S Z hret (by decide) hlk dX2_isSign_17 (Nat.le_refl _) (Nat.le_refl _)
  rw [hH, hlo] at key
  exact key

noncomputable def f_X2_signsEnd_L2 (h : ZH) (a0 : Nat) (a1 : Int32) (x2_1 : Int32)  : Option ((Int32) ⊕ (Int32)) :=
  (zg_I h a0 0 1).bind fun v2 => if v2 ≤ x2_1 then ((some (x2_1)).map Sum.inr) else (zz_isO h a0 0 <| (f_X0_at h a0 x2_1).bind fun v3 => (f_X2_isSign h v3).bind fun v4 => if v4 = 0 then ((some (x2_1)).map Sum.inr) else (some (.inl (x2_1 + (1 : Int32)))))
noncomputable def f_X2_signsEnd (h : ZH) (a0 : Nat) (a1 : Int32) : Option (Int32) :=
  zz_loop (fun st : (Int32) => f_X2_signsEnd_L2 h a0 a1 (st)) (a1)
abbrev rm_X2_signsEnd : Room := { frames := 1, cells := 0, slots := 0, locals := 21 }
set_option maxRecDepth 100000 in
set_option maxHeartbeats 4000000 in
theorem c_X2_signsEnd {l : Launch} {D : va_G} {dA : Nat → ClassId} {A : Nat → Prop} {h : ZH} {n : Nat} (a0 : Nat) (a1 : Int32) {r : Int32} (hf : f_X2_signsEnd h a0 a1 = some r) : Met l yX2_signsEnd (zz_ws yX2_signsEnd cX2_signsEnd 3 (some .int)) rm_X2_signsEnd (zz_P D dA A h n [.ref (a0), .int (a1)]) (zz_Q D dA A (some (.int r)) h n) 0 0 A := by
  refine zz_met (by decide) (Nat.le_of_ble_eq_true rfl) ?_
  intro p e s m args below meth c ls S K hret hlk hnm hl Z
  replace hl : lv_has ls 3 [(0, .ref (a0)), (1, .int (a1))] := hl
  obtain ⟨K0, hR0, hk⟩ : ∃ K0 : (Int32) → Prop, (∀ x, K0 x → x = r) ∧ K0 r := ⟨fun x => x = r, fun _ h => h, rfl⟩
  have L2 : ∀ (st : (Int32)) (x : (Int32)), zz_loop (fun st : (Int32) => f_X2_signsEnd_L2 h a0 a1 (st)) st = some x → K0 x → (fun st : (Int32) => ∀ (H : Heap) (locs : List Loc) (ls : Array Slot), zz_B D dA A h n s.heap H locs → lv_has ls 3 [(0, .ref (a0)), (2, .int ((st)))] → zz_W p l e rm_X2_signsEnd s m args below meth c D dA A (some (.int r)) h n 0 0 H locs 0 0 2 ls []) st := by
    refine zz_loop_go (K := K0) ?_
    intro K1 hP1 hR1
    rintro x2_1 x hv hk H locs ls Z hl
    replace hv : f_X2_signsEnd_L2 h a0 a1 x2_1 = some x := hv
    unfold f_X2_signsEnd_L2 at hv
    replace hl : lv_has ls 3 [(0, .ref (a0)), (2, .int (x2_1))] := hl
    replace Z : zz_B D dA A h n s.heap H locs := Z
    show zz_W p l e rm_X2_signsEnd s m args below meth c D dA A (some (.int r)) h n 0 0 H locs 0 0 2 ls []
    refine lv_iload_n S.1 S.2.1 dX2_signsEnd_2 rfl (lv_at hl 1 rfl) ?_
    refine lv_aload_n S.1 S.2.1 dX2_signsEnd_3 rfl (lv_at hl 0 rfl) ?_
    refine zz_gI S K Z hv zc_0 (by decide) gf_X2_9 dX2_signsEnd_4 (fun v2 hv => ?_)
    refine lv_icmp_ge (tgt := 27) S.1 S.2.1 dX2_signsEnd_7 (by decide) (fun hc => ?_) (fun hc => ?_)
    · replace hv := (if_pos hc).symm.trans hv
      obtain ⟨_, hv, hk⟩ := zz_mapk hv hk
      replace hk := hR1 _ hk
      refine lv_iload_n S.1 S.2.1 dX2_signsEnd_27 rfl (lv_at hl 1 rfl) ?_
      replace hk := zz_fin hv hk
      cases hR0 _ hk
      exact zz_iret S Z hret hlk dX2_signsEnd_28 (Nat.le_refl _) (Nat.le_refl _)
    · replace hv := (if_neg hc).symm.trans hv
      refine lv_aload_n S.1 S.2.1 dX2_signsEnd_10 rfl (lv_at hl 0 rfl) ?_
      refine lv_iload_n S.1 S.2.1 dX2_signsEnd_11 rfl (lv_at hl 1 rfl) ?_
      obtain ⟨hci, hv⟩ := zz_isO_s hv
      obtain ⟨v3, hq, hv⟩ := zz_bd hv
      refine zz_V [.int (x2_1)] S K Z hci zc_0 rfl (c_X0_at a0 x2_1 hq) ⟨rfl, rfl⟩ gm_X0_at gmv_X0_at gl_X2_15 ⟨by decide, by decide⟩ rfl hl.1 rfl (Nat.le_of_ble_eq_true rfl) dX2_signsEnd_12 ⟨Nat.zero_le _, Nat.zero_le _⟩ (fun H locs Z => ?_)
      show W _ _ _ _ _ _ _ _ _ _ _ _ 0 0 _ (F0 m 15 ls [.int (v3)])
      obtain ⟨v4, hq, hv⟩ := zz_bd hv
      refine zz_S [.int (v3)] S K Z (c_X2_isSign v3 hq) ⟨rfl, rfl⟩ gm_X2_isSign gs_X2_isSign gl_X2_19 ⟨by decide, by decide⟩ rfl hl.1 rfl (Nat.le_of_ble_eq_true rfl) dX2_signsEnd_15 ⟨Nat.zero_le _, Nat.zero_le _⟩ (fun H locs Z => ?_)
      show W _ _ _ _ _ _ _ _ _ _ _ _ 0 0 _ (F0 m 18 ls [.int (v4)])
      refine lv_if_eq (tgt := 27) S.1 S.2.1 dX2_signsEnd_18 (by decide) (fun hc => ?_) (fun hc => ?_)
      · replace hv := (if_pos hc).symm.trans hv
        obtain ⟨_, hv, hk⟩ := zz_mapk hv hk
        replace hk := hR1 _ hk
        refine lv_iload_n S.1 S.2.1 dX2_signsEnd_27 rfl (lv_at hl 1 rfl) ?_
        replace hk := zz_fin hv hk
        cases hR0 _ hk
        exact zz_iret S Z hret hlk dX2_signsEnd_28 (Nat.le_refl _) (Nat.le_refl _)
      · replace hv := (if_neg hc).symm.trans hv
        refine lv_iinc (v := x2_1 + (1 : Int32)) (lv' := [(2, .int (x2_1 + (1 : Int32))), (0, .ref (a0))]) S.1 S.2.1 dX2_signsEnd_21 hl (k := 1) rfl rfl (by decide) rfl (fun ls hl => ?_)
        refine lv_goto (tgt := 2) S.1 S.2.1 dX2_signsEnd_24 (by decide) ?_
        replace hk := zz_fin hv hk
        exact hP1 _ hk H locs ls Z (lv_sub hl [1, 0] rfl)
  have hv := hf
  unfold f_X2_signsEnd at hv
  clear hf
  obtain ⟨x, hxx⟩ : ∃ x, x = r := ⟨_, rfl⟩
  rw [← hxx] at hv hk
  have ⟨H, hH⟩ : ∃ H, H = s.heap := ⟨_, rfl⟩
  have ⟨locs, hlo⟩ : ∃ q : List Loc, q = [] := ⟨_, rfl⟩
  have Z : zz_B D dA A h n s.heap H locs := by rw [hH, hlo]; exact Z
  have key : zz_W p l e rm_X2_signsEnd s m args below meth c D dA A (some (.int r)) h n 0 0 H locs 0 0 0 ls [] := by
    clear hH hlo hxx
    refine lv_iload_n S.1 S.2.1 dX2_signsEnd_0 rfl (lv_at hl 1 rfl) ?_
    refine lv_istore_n (lv' := [(2, .int (a1)), (0, .ref (a0)), (1, .int (a1))]) S.1 S.2.1 dX2_signsEnd_1 rfl hl (by decide) rfl (fun ls hl => ?_)
    exact L2  (a1) _ hv hk H locs ls Z (lv_sub hl [1, 0] rfl)
  rw [hH, hlo] at key
  exact key

noncomputable def f_X11_addText (h : ZH) (a0 : Nat) : Option (Int32 × ZH) :=
  (zg_R h a0 9 0).bind fun v1 => (zg_I h v1 0 1).bind fun v2 => if (20 : Int32) < v2 then (some (((-3 : Int32), h))) else ((zg_R h a0 9 0).bind fun v3 => (f_X2_signsEnd h v3 (0 : Int32)).bind fun v4 => (zg_R h a0 9 0).bind fun v5 => (zg_I h v5 0 1).bind fun v6 => if v4 = v6 then ((zg_R h a0 9 1).bind fun v7 => (zg_R h v7 8 1).bind fun v8 => (zg_R h a0 9 0).bind fun v9 => zz_isO h v8 1 <| (f_X1_append h v8 v9).bind fun (v10, h11) => some ((v10, h11))) else (some (((-3 : Int32), h))))
abbrev rm_X11_addText : Room := { frames := 2, cells := 0, slots := 0, locals := 45 }
set_option maxRecDepth 100000 in
set_option maxHeartbeats 4000000 in
theorem c_X11_addText {l : Launch} {D : va_G} {dA : Nat → ClassId} {A : Nat → Prop} {h : ZH} {n : Nat} (a0 : Nat) {r : Int32} {hx : ZH} (hf : f_X11_addText h a0 = some (r, hx)) : Met l yX11_addText (zz_ws yX11_addText cX11_addText 1 (some .int)) rm_X11_addText (zz_P D dA A h n [.ref (a0)]) (zz_Q D dA A (some (.int r)) hx n) 0 0 A := by
  refine zz_met (by decide) (Nat.le_of_ble_eq_true rfl) ?_
  intro p e s m args below meth c ls S K hret hlk hnm hl Z
  replace hl : lv_has ls 1 [(0, .ref (a0))] := hl
  obtain ⟨K0, hR0, hk⟩ : ∃ K0 : (Int32 × ZH) → Prop, (∀ x, K0 x → x = (r, hx)) ∧ K0 (r, hx) := ⟨fun x => x = (r, hx), fun _ h => h, rfl⟩
  have hv := hf
  unfold f_X11_addText at hv
  clear hf
  obtain ⟨x, hxx⟩ : ∃ x, x = (r, hx) := ⟨_, rfl⟩
  rw [← hxx] at hv hk
  have ⟨H, hH⟩ : ∃ H, H = s.heap := ⟨_, rfl⟩
  have ⟨locs, hlo⟩ : ∃ q : List Loc, q = [] := ⟨_, rfl⟩
  have Z : zz_B D dA A h n s.heap H locs := by rw [hH, hlo]; exact Z
  have key : zz_W p l e rm_X11_addText s m args below meth c D dA A (some (.int r)) hx n 0 0 H locs 0 0 0 ls [] := by
    clear hH hlo hxx
    refine lv_aload_n S.1 S.2.1 dX11_addText_0 rfl (lv_at hl 0 rfl) ?_
    refine zz_gR S K Z hv zc_9 (by decide) gf_X11_14 dX11_addText_1 (fun v1 hv => ?_)
    refine zz_gI S K Z hv zc_0 (by decide) gf_X11_54 dX11_addText_4 (fun v2 hv => ?_)
    refine lv_bipush (v := (20 : Int32)) S.1 S.2.1 dX11_addText_7 (by decide) ?_
    refine lv_icmp_gt (tgt := 30) S.1 S.2.1 dX11_addText_9 (by decide) (fun hc => ?_) (fun hc => ?_)
    · replace hv := (if_pos hc).symm.trans hv
      refine lv_bipush (v := (-3 : Int32)) S.1 S.2.1 dX11_addText_30 (by decide) ?_
      replace hk := zz_fin hv hk
      cases hR0 _ hk
      exact zz_iret S Z hret hlk dX11_addText_32 (Nat.le_refl _) (Nat.le_refl _)
    · replace hv := (if_neg hc).symm.trans hv
      refine lv_aload_n S.1 S.2.1 dX11_addText_12 rfl (lv_at hl 0 rfl) ?_
      refine zz_gR S K Z hv zc_9 (by decide) gf_X11_14 dX11_addText_13 (fun v3 hv => ?_)
      refine lv_iconst (v := (0 : Int32)) S.1 S.2.1 dX11_addText_16 (by decide) ?_
      obtain ⟨v4, hq, hv⟩ := zz_bd hv
      refine zz_S [.ref (v3), .int ((0 : Int32))] S K Z (c_X2_signsEnd v3 (0 : Int32) hq) ⟨rfl, rfl⟩ gm_X2_signsEnd gs_X2_signsEnd gl_X11_90 ⟨by decide, by decide⟩ rfl hl.1 rfl (Nat.le_of_ble_eq_true rfl) dX11_addText_17 ⟨Nat.zero_le _, Nat.zero_le _⟩ (fun H locs Z => ?_)
      show W _ _ _ _ _ _ _ _ _ _ _ _ 0 0 _ (F0 m 20 ls [.int (v4)])
      refine lv_aload_n S.1 S.2.1 dX11_addText_20 rfl (lv_at hl 0 rfl) ?_
      refine zz_gR S K Z hv zc_9 (by decide) gf_X11_14 dX11_addText_21 (fun v5 hv => ?_)
      refine zz_gI S K Z hv zc_0 (by decide) gf_X11_54 dX11_addText_24 (fun v6 hv => ?_)
      refine lv_icmp_eq (tgt := 33) S.1 S.2.1 dX11_addText_27 (by decide) (fun hc => ?_) (fun hc => ?_)
      · replace hv := (if_pos hc).symm.trans hv
        refine lv_aload_n S.1 S.2.1 dX11_addText_33 rfl (lv_at hl 0 rfl) ?_
        refine zz_gR S K Z hv zc_9 (by decide) gf_X11_25 dX11_addText_34 (fun v7 hv => ?_)
        refine zz_gR S K Z hv zc_8 (by decide) gf_X11_93 dX11_addText_37 (fun v8 hv => ?_)
        refine lv_aload_n S.1 S.2.1 dX11_addText_40 rfl (lv_at hl 0 rfl) ?_
        refine zz_gR S K Z hv zc_9 (by decide) gf_X11_14 dX11_addText_41 (fun v9 hv => ?_)
        obtain ⟨hci, hv⟩ := zz_isO_s hv
        obtain ⟨⟨v10, h11⟩, hq, hv⟩ := zz_bd hv
        refine zz_V [.ref (v9)] S K Z hci zc_1 rfl (c_X1_append v8 v9 hq) ⟨rfl, rfl⟩ gm_X1_append gmv_X1_append gl_X11_84 ⟨by decide, by decide⟩ rfl hl.1 rfl (Nat.le_of_ble_eq_true rfl) dX11_addText_44 ⟨Nat.zero_le _, Nat.zero_le _⟩ (fun H locs Z => ?_)
        show W _ _ _ _ _ _ _ _ _ _ _ _ 0 0 _ (F0 m 47 ls [.int (v10)])
        replace hk := zz_fin hv hk
        cases hR0 _ hk
        exact zz_iret S Z hret hlk dX11_addText_47 (Nat.le_refl _) (Nat.le_refl _)
      · replace hv := (if_neg hc).symm.trans hv
        refine lv_bipush (v := (-3 : Int32)) S.1 S.2.1 dX11_addText_30 (by decide) ?_
        replace hk := zz_fin hv hk
        cases hR0 _ hk
        exact zz_iret S Z hret hlk dX11_addText_32 (Nat.le_refl _) (Nat.le_refl _)
  rw [hH, hlo] at key
  exact key

noncomputable def f_X11_text (h : ZH) (a0 : Nat) : Option (Int32 × ZH) :=
  zz_isO h a0 9 <| (f_X11_addText h a0).bind fun (v1, h2) => (zg_R h2 a0 9 0).bind fun v3 => zz_isO h2 v3 0 <| (f_X0_clear h2 v3).bind fun h4 => some ((v1, h4))
abbrev rm_X11_text : Room := { frames := 3, cells := 0, slots := 0, locals := 65 }
set_option maxRecDepth 100000 in
set_option maxHeartbeats 4000000 in
theorem c_X11_text {l : Launch} {D : va_G} {dA : Nat → ClassId} {A : Nat → Prop} {h : ZH} {n : Nat} (a0 : Nat) {r : Int32} {hx : ZH} (hf : f_X11_text h a0 = some (r, hx)) : Met l yX11_text (zz_ws yX11_text cX11_text 2 (some .int)) rm_X11_text (zz_P D dA A h n [.ref (a0)]) (zz_Q D dA A (some (.int r)) hx n) 0 0 A := by
  refine zz_met (by decide) (Nat.le_of_ble_eq_true rfl) ?_
  intro p e s m args below meth c ls S K hret hlk hnm hl Z
  replace hl : lv_has ls 2 [(0, .ref (a0))] := hl
  obtain ⟨K0, hR0, hk⟩ : ∃ K0 : (Int32 × ZH) → Prop, (∀ x, K0 x → x = (r, hx)) ∧ K0 (r, hx) := ⟨fun x => x = (r, hx), fun _ h => h, rfl⟩
  have hv := hf
  unfold f_X11_text at hv
  clear hf
  obtain ⟨x, hxx⟩ : ∃ x, x = (r, hx) := ⟨_, rfl⟩
  rw [← hxx] at hv hk
  have ⟨H, hH⟩ : ∃ H, H = s.heap := ⟨_, rfl⟩
  have ⟨locs, hlo⟩ : ∃ q : List Loc, q = [] := ⟨_, rfl⟩
  have Z : zz_B D dA A h n s.heap H locs := by rw [hH, hlo]; exact Z
  have key : zz_W p l e rm_X11_text s m args below meth c D dA A (some (.int r)) hx n 0 0 H locs 0 0 0 ls [] := by
    clear hH hlo hxx
    refine lv_aload_n S.1 S.2.1 dX11_text_0 rfl (lv_at hl 0 rfl) ?_
    obtain ⟨hci, hv⟩ := zz_isO_s hv
    obtain ⟨⟨v1, h2⟩, hq, hv⟩ := zz_bd hv
    refine zz_V [] S K Z hci zc_9 rfl (c_X11_addText a0 hq) ⟨rfl, rfl⟩ gm_X11_addText gmv_X11_addText gl_X11_87 ⟨by decide, by decide⟩ rfl hl.1 rfl (Nat.le_of_ble_eq_true rfl) dX11_text_1 ⟨Nat.zero_le _, Nat.zero_le _⟩ (fun H locs Z => ?_)
    show W _ _ _ _ _ _ _ _ _ _ _ _ 0 0 _ (F0 m 4 ls [.int (v1)])
    refine lv_istore_n (lv' := [(1, .int (v1)), (0, .ref (a0))]) S.1 S.2.1 dX11_text_4 rfl hl (by decide) rfl (fun ls hl => ?_)
    refine lv_aload_n S.1 S.2.1 dX11_text_5 rfl (lv_at hl 1 rfl) ?_
    refine zz_gR S K Z hv zc_9 (by decide) gf_X11_14 dX11_text_6 (fun v3 hv => ?_)
    obtain ⟨hci, hv⟩ := zz_isO_s hv
    obtain ⟨h4, hq, hv⟩ := zz_bd hv
    refine zz_V [] S K Z hci zc_0 rfl (c_X0_clear v3 hq) ⟨rfl, rfl⟩ gm_X0_clear gmv_X0_clear gl_X11_65 ⟨by decide, by decide⟩ rfl hl.1 rfl (Nat.le_of_ble_eq_true rfl) dX11_text_9 ⟨Nat.zero_le _, Nat.zero_le _⟩ (fun H locs Z => ?_)
    show W _ _ _ _ _ _ _ _ _ _ _ _ 0 0 _ (F0 m 12 ls [])
    refine lv_iload_n S.1 S.2.1 dX11_text_12 rfl (lv_at hl 0 rfl) ?_
    replace hk := zz_fin hv hk
    cases hR0 _ hk
    exact zz_iret S Z hret hlk dX11_text_13 (Nat.le_refl _) (Nat.le_refl _)
  rw [hH, hlo] at key
  exact key
end
