section
-- ===== PART A: goes FIRST, ahead of the names: the tables' words, and 'selects' of the private methods out of them =====
/-- a private method of a class that the tables say can be made, by its rows of tables_1 -/
def lw_okq (q : MethodName × Nat) : Prop := (q.1.cls ≠ "java/lang/invoke/MethodHandle" ∧ q.1.cls ≠ "java/lang/invoke/VarHandle") ∧ Cond.instantiable q.1.cls q.2 ∈ tables_1 ∧ Cond.privateMethod q.1 ∈ tables_1 ∧ Cond.instanceMethod q.1 ∈ tables_1
theorem lw_p0 : lw_okq (⟨"MemoByWeight$Reader", "readChoice", "(I)Z"⟩, 6) := ⟨⟨by decide +kernel, by decide +kernel⟩, List.mem_of_getElem? (i := 23) (by decide +kernel), List.mem_of_getElem? (i := 345) (by decide +kernel), List.mem_of_getElem? (i := 346) (by decide +kernel)⟩
theorem lw_p1 : lw_okq (⟨"MemoByWeight$Reader", "readComparison", "(I)Z"⟩, 6) := ⟨⟨by decide +kernel, by decide +kernel⟩, List.mem_of_getElem? (i := 23) (by decide +kernel), List.mem_of_getElem? (i := 349) (by decide +kernel), List.mem_of_getElem? (i := 350) (by decide +kernel)⟩
theorem lw_p2 : lw_okq (⟨"MemoByWeight$Reader", "readSum", "(I)Z"⟩, 6) := ⟨⟨by decide +kernel, by decide +kernel⟩, List.mem_of_getElem? (i := 23) (by decide +kernel), List.mem_of_getElem? (i := 353) (by decide +kernel), List.mem_of_getElem? (i := 354) (by decide +kernel)⟩
theorem lw_p3 : lw_okq (⟨"MemoByWeight$Reader", "readProduct", "(I)Z"⟩, 6) := ⟨⟨by decide +kernel, by decide +kernel⟩, List.mem_of_getElem? (i := 23) (by decide +kernel), List.mem_of_getElem? (i := 357) (by decide +kernel), List.mem_of_getElem? (i := 358) (by decide +kernel)⟩
theorem lw_p4 : lw_okq (⟨"MemoByWeight$Reader", "readUnit", "(I)Z"⟩, 6) := ⟨⟨by decide +kernel, by decide +kernel⟩, List.mem_of_getElem? (i := 23) (by decide +kernel), List.mem_of_getElem? (i := 361) (by decide +kernel), List.mem_of_getElem? (i := 362) (by decide +kernel)⟩
theorem lw_p5 : lw_okq (⟨"MemoByWeight$Reader", "ahead", "()I"⟩, 6) := ⟨⟨by decide +kernel, by decide +kernel⟩, List.mem_of_getElem? (i := 23) (by decide +kernel), List.mem_of_getElem? (i := 365) (by decide +kernel), List.mem_of_getElem? (i := 366) (by decide +kernel)⟩
theorem lw_p6 : lw_okq (⟨"MemoByWeight$Reader", "readIndex", "(I)Z"⟩, 6) := ⟨⟨by decide +kernel, by decide +kernel⟩, List.mem_of_getElem? (i := 23) (by decide +kernel), List.mem_of_getElem? (i := 373) (by decide +kernel), List.mem_of_getElem? (i := 374) (by decide +kernel)⟩
theorem lw_p7 : lw_okq (⟨"MemoByWeight$Reader", "readNumber", "()Z"⟩, 6) := ⟨⟨by decide +kernel, by decide +kernel⟩, List.mem_of_getElem? (i := 23) (by decide +kernel), List.mem_of_getElem? (i := 377) (by decide +kernel), List.mem_of_getElem? (i := 378) (by decide +kernel)⟩
theorem lw_p8 : lw_okq (⟨"MemoByWeight$Reader", "isDigit", "()Z"⟩, 6) := ⟨⟨by decide +kernel, by decide +kernel⟩, List.mem_of_getElem? (i := 23) (by decide +kernel), List.mem_of_getElem? (i := 381) (by decide +kernel), List.mem_of_getElem? (i := 382) (by decide +kernel)⟩
theorem lw_p9 : lw_okq (⟨"MemoByWeight$Reader", "wrong", "(I)Z"⟩, 6) := ⟨⟨by decide +kernel, by decide +kernel⟩, List.mem_of_getElem? (i := 23) (by decide +kernel), List.mem_of_getElem? (i := 385) (by decide +kernel), List.mem_of_getElem? (i := 386) (by decide +kernel)⟩
theorem lw_p10 : lw_okq (⟨"MemoByWeight$Reader", "readCall", "(I)Z"⟩, 6) := ⟨⟨by decide +kernel, by decide +kernel⟩, List.mem_of_getElem? (i := 23) (by decide +kernel), List.mem_of_getElem? (i := 389) (by decide +kernel), List.mem_of_getElem? (i := 390) (by decide +kernel)⟩
theorem lw_p11 : lw_okq (⟨"MemoByWeight$Reader", "readBracket", "(I)Z"⟩, 6) := ⟨⟨by decide +kernel, by decide +kernel⟩, List.mem_of_getElem? (i := 23) (by decide +kernel), List.mem_of_getElem? (i := 393) (by decide +kernel), List.mem_of_getElem? (i := 394) (by decide +kernel)⟩
theorem lw_p12 : lw_okq (⟨"MemoByWeight$Reader", "passOpening", "(II)Z"⟩, 6) := ⟨⟨by decide +kernel, by decide +kernel⟩, List.mem_of_getElem? (i := 23) (by decide +kernel), List.mem_of_getElem? (i := 397) (by decide +kernel), List.mem_of_getElem? (i := 398) (by decide +kernel)⟩
theorem lw_p13 : lw_okq (⟨"MemoByWeight$Reader", "pass", "(I)Z"⟩, 6) := ⟨⟨by decide +kernel, by decide +kernel⟩, List.mem_of_getElem? (i := 23) (by decide +kernel), List.mem_of_getElem? (i := 401) (by decide +kernel), List.mem_of_getElem? (i := 402) (by decide +kernel)⟩
theorem lw_p14 : lw_okq (⟨"MemoByWeight", "changed", "(I)I"⟩, 13) := ⟨⟨by decide +kernel, by decide +kernel⟩, List.mem_of_getElem? (i := 13) (by decide +kernel), List.mem_of_getElem? (i := 421) (by decide +kernel), List.mem_of_getElem? (i := 422) (by decide +kernel)⟩
theorem lw_p15 : lw_okq (⟨"MemoByWeight$Store", "remove", "(I)V"⟩, 11) := ⟨⟨by decide +kernel, by decide +kernel⟩, List.mem_of_getElem? (i := 72) (by decide +kernel), List.mem_of_getElem? (i := 441) (by decide +kernel), List.mem_of_getElem? (i := 442) (by decide +kernel)⟩
def lw_privs_1 : List (MethodName × Nat) := [(⟨"MemoByWeight$Reader", "readChoice", "(I)Z"⟩, 6), (⟨"MemoByWeight$Reader", "readComparison", "(I)Z"⟩, 6), (⟨"MemoByWeight$Reader", "readSum", "(I)Z"⟩, 6), (⟨"MemoByWeight$Reader", "readProduct", "(I)Z"⟩, 6), (⟨"MemoByWeight$Reader", "readUnit", "(I)Z"⟩, 6), (⟨"MemoByWeight$Reader", "ahead", "()I"⟩, 6), (⟨"MemoByWeight$Reader", "readIndex", "(I)Z"⟩, 6), (⟨"MemoByWeight$Reader", "readNumber", "()Z"⟩, 6), (⟨"MemoByWeight$Reader", "isDigit", "()Z"⟩, 6), (⟨"MemoByWeight$Reader", "wrong", "(I)Z"⟩, 6), (⟨"MemoByWeight$Reader", "readCall", "(I)Z"⟩, 6), (⟨"MemoByWeight$Reader", "readBracket", "(I)Z"⟩, 6), (⟨"MemoByWeight$Reader", "passOpening", "(II)Z"⟩, 6), (⟨"MemoByWeight$Reader", "pass", "(I)Z"⟩, 6), (⟨"MemoByWeight", "changed", "(I)I"⟩, 13), (⟨"MemoByWeight$Store", "remove", "(I)V"⟩, 11)]
theorem lw_r1 : ∀ q ∈ lw_privs_1, lw_okq q := List.forall_mem_cons.mpr ⟨lw_p0, List.forall_mem_cons.mpr ⟨lw_p1, List.forall_mem_cons.mpr ⟨lw_p2, List.forall_mem_cons.mpr ⟨lw_p3, List.forall_mem_cons.mpr ⟨lw_p4, List.forall_mem_cons.mpr ⟨lw_p5, List.forall_mem_cons.mpr ⟨lw_p6, List.forall_mem_cons.mpr ⟨lw_p7, List.forall_mem_cons.mpr ⟨lw_p8, List.forall_mem_cons.mpr ⟨lw_p9, List.forall_mem_cons.mpr ⟨lw_p10, List.forall_mem_cons.mpr ⟨lw_p11, List.forall_mem_cons.mpr ⟨lw_p12, List.forall_mem_cons.mpr ⟨lw_p13, List.forall_mem_cons.mpr ⟨lw_p14, List.forall_mem_cons.mpr ⟨lw_p15, fun _ h => absurd h List.not_mem_nil⟩⟩⟩⟩⟩⟩⟩⟩⟩⟩⟩⟩⟩⟩⟩⟩
theorem lw_p16 : lw_okq (⟨"MemoByWeight", "workOut", "(LMemoByWeight$Run;I)V"⟩, 13) := ⟨⟨by decide +kernel, by decide +kernel⟩, List.mem_of_getElem? (i := 13) (by decide +kernel), List.mem_of_getElem? (i := 479) (by decide +kernel), List.mem_of_getElem? (i := 480) (by decide +kernel)⟩
theorem lw_p17 : lw_okq (⟨"MemoByWeight", "askKey", "(LMemoByWeight$Run;I)V"⟩, 13) := ⟨⟨by decide +kernel, by decide +kernel⟩, List.mem_of_getElem? (i := 13) (by decide +kernel), List.mem_of_getElem? (i := 483) (by decide +kernel), List.mem_of_getElem? (i := 484) (by decide +kernel)⟩
theorem lw_p18 : lw_okq (⟨"MemoByWeight", "recalls", "(LMemoByWeight$Run;I)Z"⟩, 13) := ⟨⟨by decide +kernel, by decide +kernel⟩, List.mem_of_getElem? (i := 13) (by decide +kernel), List.mem_of_getElem? (i := 487) (by decide +kernel), List.mem_of_getElem? (i := 488) (by decide +kernel)⟩
theorem lw_p19 : lw_okq (⟨"MemoByWeight", "fail", "(LMemoByWeight$Run;I)V"⟩, 13) := ⟨⟨by decide +kernel, by decide +kernel⟩, List.mem_of_getElem? (i := 13) (by decide +kernel), List.mem_of_getElem? (i := 523) (by decide +kernel), List.mem_of_getElem? (i := 524) (by decide +kernel)⟩
theorem lw_p20 : lw_okq (⟨"MemoByWeight", "meetsOther", "(LMemoByWeight$Run;I)Z"⟩, 13) := ⟨⟨by decide +kernel, by decide +kernel⟩, List.mem_of_getElem? (i := 13) (by decide +kernel), List.mem_of_getElem? (i := 531) (by decide +kernel), List.mem_of_getElem? (i := 532) (by decide +kernel)⟩
theorem lw_p21 : lw_okq (⟨"MemoByWeight", "waitsLeadTo", "(ILMemoByWeight$Run;)Z"⟩, 13) := ⟨⟨by decide +kernel, by decide +kernel⟩, List.mem_of_getElem? (i := 13) (by decide +kernel), List.mem_of_getElem? (i := 535) (by decide +kernel), List.mem_of_getElem? (i := 536) (by decide +kernel)⟩
theorem lw_p22 : lw_okq (⟨"MemoByWeight", "beginFrame", "(LMemoByWeight$Run;I)V"⟩, 13) := ⟨⟨by decide +kernel, by decide +kernel⟩, List.mem_of_getElem? (i := 13) (by decide +kernel), List.mem_of_getElem? (i := 543) (by decide +kernel), List.mem_of_getElem? (i := 544) (by decide +kernel)⟩
theorem lw_p23 : lw_okq (⟨"MemoByWeight", "workStep", "(LMemoByWeight$Run;)V"⟩, 13) := ⟨⟨by decide +kernel, by decide +kernel⟩, List.mem_of_getElem? (i := 13) (by decide +kernel), List.mem_of_getElem? (i := 551) (by decide +kernel), List.mem_of_getElem? (i := 552) (by decide +kernel)⟩
theorem lw_p24 : lw_okq (⟨"MemoByWeight", "workNode", "(LMemoByWeight$Run;LMemoByWeight$Frame;)I"⟩, 13) := ⟨⟨by decide +kernel, by decide +kernel⟩, List.mem_of_getElem? (i := 13) (by decide +kernel), List.mem_of_getElem? (i := 556) (by decide +kernel), List.mem_of_getElem? (i := 557) (by decide +kernel)⟩
theorem lw_p25 : lw_okq (⟨"MemoByWeight", "readCell", "(LMemoByWeight$Frame;I)V"⟩, 13) := ⟨⟨by decide +kernel, by decide +kernel⟩, List.mem_of_getElem? (i := 13) (by decide +kernel), List.mem_of_getElem? (i := 569) (by decide +kernel), List.mem_of_getElem? (i := 570) (by decide +kernel)⟩
theorem lw_p26 : lw_okq (⟨"MemoByWeight", "calledKey", "(LMemoByWeight$Run;LMemoByWeight$Frame;I)I"⟩, 13) := ⟨⟨by decide +kernel, by decide +kernel⟩, List.mem_of_getElem? (i := 13) (by decide +kernel), List.mem_of_getElem? (i := 573) (by decide +kernel), List.mem_of_getElem? (i := 574) (by decide +kernel)⟩
theorem lw_p27 : lw_okq (⟨"MemoByWeight", "workSign", "(LMemoByWeight$Run;LMemoByWeight$Frame;I)V"⟩, 13) := ⟨⟨by decide +kernel, by decide +kernel⟩, List.mem_of_getElem? (i := 13) (by decide +kernel), List.mem_of_getElem? (i := 581) (by decide +kernel), List.mem_of_getElem? (i := 582) (by decide +kernel)⟩
theorem lw_p28 : lw_okq (⟨"MemoByWeight", "settle", "(LMemoByWeight$Run;)V"⟩, 13) := ⟨⟨by decide +kernel, by decide +kernel⟩, List.mem_of_getElem? (i := 13) (by decide +kernel), List.mem_of_getElem? (i := 588) (by decide +kernel), List.mem_of_getElem? (i := 589) (by decide +kernel)⟩
theorem lw_p29 : lw_okq (⟨"MemoByWeight", "keep", "(LMemoByWeight$Run;LMemoByWeight$Frame;)V"⟩, 13) := ⟨⟨by decide +kernel, by decide +kernel⟩, List.mem_of_getElem? (i := 13) (by decide +kernel), List.mem_of_getElem? (i := 601) (by decide +kernel), List.mem_of_getElem? (i := 602) (by decide +kernel)⟩
theorem lw_p30 : lw_okq (⟨"MemoByWeight$Store", "markAll", "(I)V"⟩, 11) := ⟨⟨by decide +kernel, by decide +kernel⟩, List.mem_of_getElem? (i := 72) (by decide +kernel), List.mem_of_getElem? (i := 708) (by decide +kernel), List.mem_of_getElem? (i := 709) (by decide +kernel)⟩
theorem lw_p31 : lw_okq (⟨"MemoByWeight$Store", "mostMarkAsked", "(LMemoByWeight$Kept;)I"⟩, 11) := ⟨⟨by decide +kernel, by decide +kernel⟩, List.mem_of_getElem? (i := 72) (by decide +kernel), List.mem_of_getElem? (i := 712) (by decide +kernel), List.mem_of_getElem? (i := 713) (by decide +kernel)⟩
def lw_privs_2 : List (MethodName × Nat) := [(⟨"MemoByWeight", "workOut", "(LMemoByWeight$Run;I)V"⟩, 13), (⟨"MemoByWeight", "askKey", "(LMemoByWeight$Run;I)V"⟩, 13), (⟨"MemoByWeight", "recalls", "(LMemoByWeight$Run;I)Z"⟩, 13), (⟨"MemoByWeight", "fail", "(LMemoByWeight$Run;I)V"⟩, 13), (⟨"MemoByWeight", "meetsOther", "(LMemoByWeight$Run;I)Z"⟩, 13), (⟨"MemoByWeight", "waitsLeadTo", "(ILMemoByWeight$Run;)Z"⟩, 13), (⟨"MemoByWeight", "beginFrame", "(LMemoByWeight$Run;I)V"⟩, 13), (⟨"MemoByWeight", "workStep", "(LMemoByWeight$Run;)V"⟩, 13), (⟨"MemoByWeight", "workNode", "(LMemoByWeight$Run;LMemoByWeight$Frame;)I"⟩, 13), (⟨"MemoByWeight", "readCell", "(LMemoByWeight$Frame;I)V"⟩, 13), (⟨"MemoByWeight", "calledKey", "(LMemoByWeight$Run;LMemoByWeight$Frame;I)I"⟩, 13), (⟨"MemoByWeight", "workSign", "(LMemoByWeight$Run;LMemoByWeight$Frame;I)V"⟩, 13), (⟨"MemoByWeight", "settle", "(LMemoByWeight$Run;)V"⟩, 13), (⟨"MemoByWeight", "keep", "(LMemoByWeight$Run;LMemoByWeight$Frame;)V"⟩, 13), (⟨"MemoByWeight$Store", "markAll", "(I)V"⟩, 11), (⟨"MemoByWeight$Store", "mostMarkAsked", "(LMemoByWeight$Kept;)I"⟩, 11)]
theorem lw_r2 : ∀ q ∈ lw_privs_2, lw_okq q := List.forall_mem_cons.mpr ⟨lw_p16, List.forall_mem_cons.mpr ⟨lw_p17, List.forall_mem_cons.mpr ⟨lw_p18, List.forall_mem_cons.mpr ⟨lw_p19, List.forall_mem_cons.mpr ⟨lw_p20, List.forall_mem_cons.mpr ⟨lw_p21, List.forall_mem_cons.mpr ⟨lw_p22, List.forall_mem_cons.mpr ⟨lw_p23, List.forall_mem_cons.mpr ⟨lw_p24, List.forall_mem_cons.mpr ⟨lw_p25, List.forall_mem_cons.mpr ⟨lw_p26, List.forall_mem_cons.mpr ⟨lw_p27, List.forall_mem_cons.mpr ⟨lw_p28, List.forall_mem_cons.mpr ⟨lw_p29, List.forall_mem_cons.mpr ⟨lw_p30, List.forall_mem_cons.mpr ⟨lw_p31, fun _ h => absurd h List.not_mem_nil⟩⟩⟩⟩⟩⟩⟩⟩⟩⟩⟩⟩⟩⟩⟩⟩
theorem lw_p32 : lw_okq (⟨"MemoByWeight", "goOn", "(LMemoByWeight$Run;)V"⟩, 13) := ⟨⟨by decide +kernel, by decide +kernel⟩, List.mem_of_getElem? (i := 13) (by decide +kernel), List.mem_of_getElem? (i := 745) (by decide +kernel), List.mem_of_getElem? (i := 746) (by decide +kernel)⟩
theorem lw_p33 : lw_okq (⟨"MemoByWeight", "rulesWithText", "()I"⟩, 13) := ⟨⟨by decide +kernel, by decide +kernel⟩, List.mem_of_getElem? (i := 13) (by decide +kernel), List.mem_of_getElem? (i := 770) (by decide +kernel), List.mem_of_getElem? (i := 771) (by decide +kernel)⟩
theorem lw_p34 : lw_okq (⟨"MemoByWeight", "busyTasks", "()I"⟩, 13) := ⟨⟨by decide +kernel, by decide +kernel⟩, List.mem_of_getElem? (i := 13) (by decide +kernel), List.mem_of_getElem? (i := 774) (by decide +kernel), List.mem_of_getElem? (i := 775) (by decide +kernel)⟩
theorem lw_p35 : lw_okq (⟨"MemoByWeightModel", "readsWhole", "()V"⟩, 53) := ⟨⟨by decide +kernel, by decide +kernel⟩, List.mem_of_getElem? (i := 778) (by decide +kernel), List.mem_of_getElem? (i := 959) (by decide +kernel), List.mem_of_getElem? (i := 960) (by decide +kernel)⟩
theorem lw_p36 : lw_okq (⟨"MemoByWeightModel", "readsCompared", "()V"⟩, 53) := ⟨⟨by decide +kernel, by decide +kernel⟩, List.mem_of_getElem? (i := 778) (by decide +kernel), List.mem_of_getElem? (i := 963) (by decide +kernel), List.mem_of_getElem? (i := 964) (by decide +kernel)⟩
theorem lw_p37 : lw_okq (⟨"MemoByWeightModel", "readsSum", "()V"⟩, 53) := ⟨⟨by decide +kernel, by decide +kernel⟩, List.mem_of_getElem? (i := 778) (by decide +kernel), List.mem_of_getElem? (i := 967) (by decide +kernel), List.mem_of_getElem? (i := 968) (by decide +kernel)⟩
theorem lw_p38 : lw_okq (⟨"MemoByWeightModel", "readsProduct", "()V"⟩, 53) := ⟨⟨by decide +kernel, by decide +kernel⟩, List.mem_of_getElem? (i := 778) (by decide +kernel), List.mem_of_getElem? (i := 971) (by decide +kernel), List.mem_of_getElem? (i := 972) (by decide +kernel)⟩
theorem lw_p39 : lw_okq (⟨"MemoByWeightModel", "readsUnit", "()V"⟩, 53) := ⟨⟨by decide +kernel, by decide +kernel⟩, List.mem_of_getElem? (i := 778) (by decide +kernel), List.mem_of_getElem? (i := 975) (by decide +kernel), List.mem_of_getElem? (i := 976) (by decide +kernel)⟩
theorem lw_p40 : lw_okq (⟨"MemoByWeightModel", "takes", "(I)Z"⟩, 53) := ⟨⟨by decide +kernel, by decide +kernel⟩, List.mem_of_getElem? (i := 778) (by decide +kernel), List.mem_of_getElem? (i := 979) (by decide +kernel), List.mem_of_getElem? (i := 980) (by decide +kernel)⟩
theorem lw_p41 : lw_okq (⟨"MemoByWeightModel", "peek", "()I"⟩, 53) := ⟨⟨by decide +kernel, by decide +kernel⟩, List.mem_of_getElem? (i := 778) (by decide +kernel), List.mem_of_getElem? (i := 983) (by decide +kernel), List.mem_of_getElem? (i := 984) (by decide +kernel)⟩
theorem lw_p42 : lw_okq (⟨"MemoByWeightModel", "opens", "()V"⟩, 53) := ⟨⟨by decide +kernel, by decide +kernel⟩, List.mem_of_getElem? (i := 778) (by decide +kernel), List.mem_of_getElem? (i := 987) (by decide +kernel), List.mem_of_getElem? (i := 988) (by decide +kernel)⟩
theorem lw_p43 : lw_okq (⟨"MemoByWeightModel", "wrong", "(I)V"⟩, 53) := ⟨⟨by decide +kernel, by decide +kernel⟩, List.mem_of_getElem? (i := 778) (by decide +kernel), List.mem_of_getElem? (i := 991) (by decide +kernel), List.mem_of_getElem? (i := 992) (by decide +kernel)⟩
theorem lw_p44 : lw_okq (⟨"MemoByWeightModel", "writes", "(II)V"⟩, 53) := ⟨⟨by decide +kernel, by decide +kernel⟩, List.mem_of_getElem? (i := 778) (by decide +kernel), List.mem_of_getElem? (i := 995) (by decide +kernel), List.mem_of_getElem? (i := 996) (by decide +kernel)⟩
theorem lw_p45 : lw_okq (⟨"MemoByWeightModel", "readsBracket", "()V"⟩, 53) := ⟨⟨by decide +kernel, by decide +kernel⟩, List.mem_of_getElem? (i := 778) (by decide +kernel), List.mem_of_getElem? (i := 999) (by decide +kernel), List.mem_of_getElem? (i := 1000) (by decide +kernel)⟩
theorem lw_p46 : lw_okq (⟨"MemoByWeightModel", "wants", "(I)V"⟩, 53) := ⟨⟨by decide +kernel, by decide +kernel⟩, List.mem_of_getElem? (i := 778) (by decide +kernel), List.mem_of_getElem? (i := 1003) (by decide +kernel), List.mem_of_getElem? (i := 1004) (by decide +kernel)⟩
theorem lw_p47 : lw_okq (⟨"MemoByWeightModel", "figuresToEleven", "()I"⟩, 53) := ⟨⟨by decide +kernel, by decide +kernel⟩, List.mem_of_getElem? (i := 778) (by decide +kernel), List.mem_of_getElem? (i := 1007) (by decide +kernel), List.mem_of_getElem? (i := 1008) (by decide +kernel)⟩
def lw_privs_3 : List (MethodName × Nat) := [(⟨"MemoByWeight", "goOn", "(LMemoByWeight$Run;)V"⟩, 13), (⟨"MemoByWeight", "rulesWithText", "()I"⟩, 13), (⟨"MemoByWeight", "busyTasks", "()I"⟩, 13), (⟨"MemoByWeightModel", "readsWhole", "()V"⟩, 53), (⟨"MemoByWeightModel", "readsCompared", "()V"⟩, 53), (⟨"MemoByWeightModel", "readsSum", "()V"⟩, 53), (⟨"MemoByWeightModel", "readsProduct", "()V"⟩, 53), (⟨"MemoByWeightModel", "readsUnit", "()V"⟩, 53), (⟨"MemoByWeightModel", "takes", "(I)Z"⟩, 53), (⟨"MemoByWeightModel", "peek", "()I"⟩, 53), (⟨"MemoByWeightModel", "opens", "()V"⟩, 53), (⟨"MemoByWeightModel", "wrong", "(I)V"⟩, 53), (⟨"MemoByWeightModel", "writes", "(II)V"⟩, 53), (⟨"MemoByWeightModel", "readsBracket", "()V"⟩, 53), (⟨"MemoByWeightModel", "wants", "(I)V"⟩, 53), (⟨"MemoByWeightModel", "figuresToEleven", "()I"⟩, 53)]
theorem lw_r3 : ∀ q ∈ lw_privs_3, lw_okq q := List.forall_mem_cons.mpr ⟨lw_p32, List.forall_mem_cons.mpr ⟨lw_p33, List.forall_mem_cons.mpr ⟨lw_p34, List.forall_mem_cons.mpr ⟨lw_p35, List.forall_mem_cons.mpr ⟨lw_p36, List.forall_mem_cons.mpr ⟨lw_p37, List.forall_mem_cons.mpr ⟨lw_p38, List.forall_mem_cons.mpr ⟨lw_p39, List.forall_mem_cons.mpr ⟨lw_p40, List.forall_mem_cons.mpr ⟨lw_p41, List.forall_mem_cons.mpr ⟨lw_p42, List.forall_mem_cons.mpr ⟨lw_p43, List.forall_mem_cons.mpr ⟨lw_p44, List.forall_mem_cons.mpr ⟨lw_p45, List.forall_mem_cons.mpr ⟨lw_p46, List.forall_mem_cons.mpr ⟨lw_p47, fun _ h => absurd h List.not_mem_nil⟩⟩⟩⟩⟩⟩⟩⟩⟩⟩⟩⟩⟩⟩⟩⟩
theorem lw_p48 : lw_okq (⟨"MemoByWeightModel", "figures", "()I"⟩, 53) := ⟨⟨by decide +kernel, by decide +kernel⟩, List.mem_of_getElem? (i := 778) (by decide +kernel), List.mem_of_getElem? (i := 1011) (by decide +kernel), List.mem_of_getElem? (i := 1012) (by decide +kernel)⟩
theorem lw_p49 : lw_okq (⟨"MemoByWeightModel", "changed", "(I)I"⟩, 53) := ⟨⟨by decide +kernel, by decide +kernel⟩, List.mem_of_getElem? (i := 778) (by decide +kernel), List.mem_of_getElem? (i := 1018) (by decide +kernel), List.mem_of_getElem? (i := 1019) (by decide +kernel)⟩
theorem lw_p50 : lw_okq (⟨"MemoByWeightModel", "cameBehind", "(I)I"⟩, 53) := ⟨⟨by decide +kernel, by decide +kernel⟩, List.mem_of_getElem? (i := 778) (by decide +kernel), List.mem_of_getElem? (i := 1022) (by decide +kernel), List.mem_of_getElem? (i := 1023) (by decide +kernel)⟩
theorem lw_p51 : lw_okq (⟨"MemoByWeightModel", "goes", "(I)V"⟩, 53) := ⟨⟨by decide +kernel, by decide +kernel⟩, List.mem_of_getElem? (i := 778) (by decide +kernel), List.mem_of_getElem? (i := 1026) (by decide +kernel), List.mem_of_getElem? (i := 1027) (by decide +kernel)⟩
theorem lw_p52 : lw_okq (⟨"MemoByWeightModel", "beginsAnew", "(II)V"⟩, 53) := ⟨⟨by decide +kernel, by decide +kernel⟩, List.mem_of_getElem? (i := 778) (by decide +kernel), List.mem_of_getElem? (i := 1030) (by decide +kernel), List.mem_of_getElem? (i := 1031) (by decide +kernel)⟩
theorem lw_p53 : lw_okq (⟨"MemoByWeightModel", "clears", "(I)V"⟩, 53) := ⟨⟨by decide +kernel, by decide +kernel⟩, List.mem_of_getElem? (i := 778) (by decide +kernel), List.mem_of_getElem? (i := 1034) (by decide +kernel), List.mem_of_getElem? (i := 1035) (by decide +kernel)⟩
theorem lw_p54 : lw_okq (⟨"MemoByWeightModel", "runs", "(II)V"⟩, 53) := ⟨⟨by decide +kernel, by decide +kernel⟩, List.mem_of_getElem? (i := 778) (by decide +kernel), List.mem_of_getElem? (i := 1064) (by decide +kernel), List.mem_of_getElem? (i := 1065) (by decide +kernel)⟩
theorem lw_p55 : lw_okq (⟨"MemoByWeightModel", "asksFor", "(IIZ)V"⟩, 53) := ⟨⟨by decide +kernel, by decide +kernel⟩, List.mem_of_getElem? (i := 778) (by decide +kernel), List.mem_of_getElem? (i := 1071) (by decide +kernel), List.mem_of_getElem? (i := 1072) (by decide +kernel)⟩
theorem lw_p56 : lw_okq (⟨"MemoByWeightModel", "gets", "(IIII)V"⟩, 53) := ⟨⟨by decide +kernel, by decide +kernel⟩, List.mem_of_getElem? (i := 778) (by decide +kernel), List.mem_of_getElem? (i := 1075) (by decide +kernel), List.mem_of_getElem? (i := 1076) (by decide +kernel)⟩
theorem lw_p57 : lw_okq (⟨"MemoByWeightModel", "top", "(I)I"⟩, 53) := ⟨⟨by decide +kernel, by decide +kernel⟩, List.mem_of_getElem? (i := 778) (by decide +kernel), List.mem_of_getElem? (i := 1079) (by decide +kernel), List.mem_of_getElem? (i := 1080) (by decide +kernel)⟩
theorem lw_p58 : lw_okq (⟨"MemoByWeightModel", "holds", "(II)V"⟩, 53) := ⟨⟨by decide +kernel, by decide +kernel⟩, List.mem_of_getElem? (i := 778) (by decide +kernel), List.mem_of_getElem? (i := 1083) (by decide +kernel), List.mem_of_getElem? (i := 1084) (by decide +kernel)⟩
theorem lw_p59 : lw_okq (⟨"MemoByWeightModel", "goesOn", "(I)V"⟩, 53) := ⟨⟨by decide +kernel, by decide +kernel⟩, List.mem_of_getElem? (i := 778) (by decide +kernel), List.mem_of_getElem? (i := 1087) (by decide +kernel), List.mem_of_getElem? (i := 1088) (by decide +kernel)⟩
theorem lw_p60 : lw_okq (⟨"MemoByWeightModel", "taken", "(I)I"⟩, 53) := ⟨⟨by decide +kernel, by decide +kernel⟩, List.mem_of_getElem? (i := 778) (by decide +kernel), List.mem_of_getElem? (i := 1091) (by decide +kernel), List.mem_of_getElem? (i := 1092) (by decide +kernel)⟩
theorem lw_p61 : lw_okq (⟨"MemoByWeightModel", "keeps", "(III)V"⟩, 53) := ⟨⟨by decide +kernel, by decide +kernel⟩, List.mem_of_getElem? (i := 778) (by decide +kernel), List.mem_of_getElem? (i := 1095) (by decide +kernel), List.mem_of_getElem? (i := 1096) (by decide +kernel)⟩
theorem lw_p62 : lw_okq (⟨"MemoByWeightModel", "holdsBound", "()V"⟩, 53) := ⟨⟨by decide +kernel, by decide +kernel⟩, List.mem_of_getElem? (i := 778) (by decide +kernel), List.mem_of_getElem? (i := 1103) (by decide +kernel), List.mem_of_getElem? (i := 1104) (by decide +kernel)⟩
theorem lw_p63 : lw_okq (⟨"MemoByWeightModel", "leastWorth", "()I"⟩, 53) := ⟨⟨by decide +kernel, by decide +kernel⟩, List.mem_of_getElem? (i := 778) (by decide +kernel), List.mem_of_getElem? (i := 1107) (by decide +kernel), List.mem_of_getElem? (i := 1108) (by decide +kernel)⟩
def lw_privs_4 : List (MethodName × Nat) := [(⟨"MemoByWeightModel", "figures", "()I"⟩, 53), (⟨"MemoByWeightModel", "changed", "(I)I"⟩, 53), (⟨"MemoByWeightModel", "cameBehind", "(I)I"⟩, 53), (⟨"MemoByWeightModel", "goes", "(I)V"⟩, 53), (⟨"MemoByWeightModel", "beginsAnew", "(II)V"⟩, 53), (⟨"MemoByWeightModel", "clears", "(I)V"⟩, 53), (⟨"MemoByWeightModel", "runs", "(II)V"⟩, 53), (⟨"MemoByWeightModel", "asksFor", "(IIZ)V"⟩, 53), (⟨"MemoByWeightModel", "gets", "(IIII)V"⟩, 53), (⟨"MemoByWeightModel", "top", "(I)I"⟩, 53), (⟨"MemoByWeightModel", "holds", "(II)V"⟩, 53), (⟨"MemoByWeightModel", "goesOn", "(I)V"⟩, 53), (⟨"MemoByWeightModel", "taken", "(I)I"⟩, 53), (⟨"MemoByWeightModel", "keeps", "(III)V"⟩, 53), (⟨"MemoByWeightModel", "holdsBound", "()V"⟩, 53), (⟨"MemoByWeightModel", "leastWorth", "()I"⟩, 53)]
theorem lw_r4 : ∀ q ∈ lw_privs_4, lw_okq q := List.forall_mem_cons.mpr ⟨lw_p48, List.forall_mem_cons.mpr ⟨lw_p49, List.forall_mem_cons.mpr ⟨lw_p50, List.forall_mem_cons.mpr ⟨lw_p51, List.forall_mem_cons.mpr ⟨lw_p52, List.forall_mem_cons.mpr ⟨lw_p53, List.forall_mem_cons.mpr ⟨lw_p54, List.forall_mem_cons.mpr ⟨lw_p55, List.forall_mem_cons.mpr ⟨lw_p56, List.forall_mem_cons.mpr ⟨lw_p57, List.forall_mem_cons.mpr ⟨lw_p58, List.forall_mem_cons.mpr ⟨lw_p59, List.forall_mem_cons.mpr ⟨lw_p60, List.forall_mem_cons.mpr ⟨lw_p61, List.forall_mem_cons.mpr ⟨lw_p62, List.forall_mem_cons.mpr ⟨lw_p63, fun _ h => absurd h List.not_mem_nil⟩⟩⟩⟩⟩⟩⟩⟩⟩⟩⟩⟩⟩⟩⟩⟩
theorem lw_p64 : lw_okq (⟨"MemoByWeightModel", "worth", "(I)I"⟩, 53) := ⟨⟨by decide +kernel, by decide +kernel⟩, List.mem_of_getElem? (i := 778) (by decide +kernel), List.mem_of_getElem? (i := 1111) (by decide +kernel), List.mem_of_getElem? (i := 1112) (by decide +kernel)⟩
theorem lw_p65 : lw_okq (⟨"MemoByWeightModel", "hasFrame", "(II)Z"⟩, 53) := ⟨⟨by decide +kernel, by decide +kernel⟩, List.mem_of_getElem? (i := 778) (by decide +kernel), List.mem_of_getElem? (i := 1115) (by decide +kernel), List.mem_of_getElem? (i := 1116) (by decide +kernel)⟩
theorem lw_p66 : lw_okq (⟨"MemoByWeightModel", "fails", "(II)V"⟩, 53) := ⟨⟨by decide +kernel, by decide +kernel⟩, List.mem_of_getElem? (i := 778) (by decide +kernel), List.mem_of_getElem? (i := 1119) (by decide +kernel), List.mem_of_getElem? (i := 1120) (by decide +kernel)⟩
theorem lw_p67 : lw_okq (⟨"MemoByWeightModel", "taskOf", "(II)I"⟩, 53) := ⟨⟨by decide +kernel, by decide +kernel⟩, List.mem_of_getElem? (i := 778) (by decide +kernel), List.mem_of_getElem? (i := 1123) (by decide +kernel), List.mem_of_getElem? (i := 1124) (by decide +kernel)⟩
theorem lw_p68 : lw_okq (⟨"MemoByWeightModel", "waitsAtLast", "(II)Z"⟩, 53) := ⟨⟨by decide +kernel, by decide +kernel⟩, List.mem_of_getElem? (i := 778) (by decide +kernel), List.mem_of_getElem? (i := 1127) (by decide +kernel), List.mem_of_getElem? (i := 1128) (by decide +kernel)⟩
theorem lw_p69 : lw_okq (⟨"MemoByWeightModel", "stepsOnce", "(I)V"⟩, 53) := ⟨⟨by decide +kernel, by decide +kernel⟩, List.mem_of_getElem? (i := 778) (by decide +kernel), List.mem_of_getElem? (i := 1131) (by decide +kernel), List.mem_of_getElem? (i := 1132) (by decide +kernel)⟩
theorem lw_p70 : lw_okq (⟨"MemoByWeightModel", "aside", "(I[I)V"⟩, 53) := ⟨⟨by decide +kernel, by decide +kernel⟩, List.mem_of_getElem? (i := 778) (by decide +kernel), List.mem_of_getElem? (i := 1151) (by decide +kernel), List.mem_of_getElem? (i := 1152) (by decide +kernel)⟩
theorem lw_p71 : lw_okq (⟨"MemoByWeightModel", "again", "(I[I)V"⟩, 53) := ⟨⟨by decide +kernel, by decide +kernel⟩, List.mem_of_getElem? (i := 778) (by decide +kernel), List.mem_of_getElem? (i := 1155) (by decide +kernel), List.mem_of_getElem? (i := 1156) (by decide +kernel)⟩
theorem lw_p72 : lw_okq (⟨"MemoByWeightModel", "asksHeir", "(I)Z"⟩, 53) := ⟨⟨by decide +kernel, by decide +kernel⟩, List.mem_of_getElem? (i := 778) (by decide +kernel), List.mem_of_getElem? (i := 1199) (by decide +kernel), List.mem_of_getElem? (i := 1200) (by decide +kernel)⟩
theorem lw_p73 : lw_okq (⟨"MemoByWeightModel", "isBusy", "(I)Z"⟩, 53) := ⟨⟨by decide +kernel, by decide +kernel⟩, List.mem_of_getElem? (i := 778) (by decide +kernel), List.mem_of_getElem? (i := 1222) (by decide +kernel), List.mem_of_getElem? (i := 1223) (by decide +kernel)⟩
def lw_privs_5 : List (MethodName × Nat) := [(⟨"MemoByWeightModel", "worth", "(I)I"⟩, 53), (⟨"MemoByWeightModel", "hasFrame", "(II)Z"⟩, 53), (⟨"MemoByWeightModel", "fails", "(II)V"⟩, 53), (⟨"MemoByWeightModel", "taskOf", "(II)I"⟩, 53), (⟨"MemoByWeightModel", "waitsAtLast", "(II)Z"⟩, 53), (⟨"MemoByWeightModel", "stepsOnce", "(I)V"⟩, 53), (⟨"MemoByWeightModel", "aside", "(I[I)V"⟩, 53), (⟨"MemoByWeightModel", "again", "(I[I)V"⟩, 53), (⟨"MemoByWeightModel", "asksHeir", "(I)Z"⟩, 53), (⟨"MemoByWeightModel", "isBusy", "(I)Z"⟩, 53)]
theorem lw_r5 : ∀ q ∈ lw_privs_5, lw_okq q := List.forall_mem_cons.mpr ⟨lw_p64, List.forall_mem_cons.mpr ⟨lw_p65, List.forall_mem_cons.mpr ⟨lw_p66, List.forall_mem_cons.mpr ⟨lw_p67, List.forall_mem_cons.mpr ⟨lw_p68, List.forall_mem_cons.mpr ⟨lw_p69, List.forall_mem_cons.mpr ⟨lw_p70, List.forall_mem_cons.mpr ⟨lw_p71, List.forall_mem_cons.mpr ⟨lw_p72, List.forall_mem_cons.mpr ⟨lw_p73, fun _ h => absurd h List.not_mem_nil⟩⟩⟩⟩⟩⟩⟩⟩⟩⟩
def lw_privs : List (MethodName × Nat) := lw_privs_1 ++ (lw_privs_2 ++ (lw_privs_3 ++ (lw_privs_4 ++ (lw_privs_5))))
def lw_tbl : List Cond := k2_sels lw_privs ++ tables_1
theorem lw_privs_ok : ∀ q ∈ lw_privs, lw_okq q := by
  show ∀ q ∈ lw_privs_1 ++ (lw_privs_2 ++ (lw_privs_3 ++ (lw_privs_4 ++ (lw_privs_5)))), lw_okq q
  exact List.forall_mem_append.mpr ⟨lw_r1, List.forall_mem_append.mpr ⟨lw_r2, List.forall_mem_append.mpr ⟨lw_r3, List.forall_mem_append.mpr ⟨lw_r4, lw_r5⟩⟩⟩⟩
-- ===== end of PART A; then your names; then what follows =====
end
section
/-! names, fields, headers of the methods, the layout of the heap: printed by program (wip/whole/gen/hdr.py) -/
def RX0 : String := "MemoByWeight$Frame"
def TX0 : u_T := fun k => match k with
  | 0 => ("MemoByWeight$Frame", "asked", "[I", true)
  | 1 => ("MemoByWeight$Frame", "parts", "[I", true)
  | 2 => ("MemoByWeight$Frame", "text", "LMemoByWeight$Text;", false)
  | 3 => ("MemoByWeight$Frame", "key", "I", false)
  | 4 => ("MemoByWeight$Frame", "time", "I", false)
  | 5 => ("MemoByWeight$Frame", "stepsBefore", "I", false)
  | 6 => ("MemoByWeight$Frame", "at", "I", false)
  | 7 => ("MemoByWeight$Frame", "used", "I", false)
  | 8 => ("MemoByWeight$Frame", "askedSize", "I", false)
  | _ => ("MemoByWeight$Frame", "partsSize", "I", false)
def tyX0 : Nat → FieldType := fun k => match k with
  | 0 => .array .int
  | 1 => .array .int
  | 2 => .object "MemoByWeight$Text"
  | 3 => .int
  | 4 => .int
  | 5 => .int
  | 6 => .int
  | 7 => .int
  | 8 => .int
  | _ => .int
theorem nmX0 : ∀ a, a < 10 → ∀ b, b < 10 → a ≠ b → (TX0 a).2.1 ≠ (TX0 b).2.1 := by decide +kernel
theorem tyX0_ok : ∀ k, k < 10 → parseFieldDescriptor (TX0 k).2.2.1 = some (tyX0 k) := by decide +kernel
def RX1 : String := "MemoByWeight$Kept"
def TX1 : u_T := fun k => match k with
  | 0 => ("MemoByWeight$Kept", "asked", "[I", true)
  | 1 => ("MemoByWeight$Kept", "key", "I", false)
  | 2 => ("MemoByWeight$Kept", "value", "I", false)
  | 3 => ("MemoByWeight$Kept", "cost", "I", false)
  | 4 => ("MemoByWeight$Kept", "weight", "I", false)
  | 5 => ("MemoByWeight$Kept", "time", "I", false)
  | 6 => ("MemoByWeight$Kept", "asks", "I", false)
  | 7 => ("MemoByWeight$Kept", "used", "I", false)
  | 8 => ("MemoByWeight$Kept", "askedSize", "I", false)
  | _ => ("MemoByWeight$Kept", "mark", "I", false)
def tyX1 : Nat → FieldType := fun k => match k with
  | 0 => .array .int
  | 1 => .int
  | 2 => .int
  | 3 => .int
  | 4 => .int
  | 5 => .int
  | 6 => .int
  | 7 => .int
  | 8 => .int
  | _ => .int
theorem nmX1 : ∀ a, a < 10 → ∀ b, b < 10 → a ≠ b → (TX1 a).2.1 ≠ (TX1 b).2.1 := by decide +kernel
theorem tyX1_ok : ∀ k, k < 10 → parseFieldDescriptor (TX1 k).2.2.1 = some (tyX1 k) := by decide +kernel
def RX2 : String := "MemoByWeight$Reader"
def TX2 : u_T := fun k => match k with
  | 0 => ("MemoByWeight$Reader", "tape", "[I", true)
  | 1 => ("MemoByWeight$Reader", "made", "LMemoByWeight$Text;", true)
  | 2 => ("MemoByWeight$Reader", "size", "I", false)
  | 3 => ("MemoByWeight$Reader", "fault", "I", false)
  | 4 => ("MemoByWeight$Reader", "at", "I", false)
  | _ => ("MemoByWeight$Reader", "number", "I", false)
def tyX2 : Nat → FieldType := fun k => match k with
  | 0 => .array .int
  | 1 => .object "MemoByWeight$Text"
  | 2 => .int
  | 3 => .int
  | 4 => .int
  | _ => .int
theorem nmX2 : ∀ a, a < 6 → ∀ b, b < 6 → a ≠ b → (TX2 a).2.1 ≠ (TX2 b).2.1 := by decide +kernel
theorem tyX2_ok : ∀ k, k < 6 → parseFieldDescriptor (TX2 k).2.2.1 = some (tyX2 k) := by decide +kernel
def RX3 : String := "MemoByWeight$Run"
def TX3 : u_T := fun k => match k with
  | 0 => ("MemoByWeight$Run", "frames", "[LMemoByWeight$Frame;", true)
  | 1 => ("MemoByWeight$Run", "kind", "I", false)
  | 2 => ("MemoByWeight$Run", "state", "I", false)
  | 3 => ("MemoByWeight$Run", "depth", "I", false)
  | 4 => ("MemoByWeight$Run", "steps", "I", false)
  | 5 => ("MemoByWeight$Run", "waitsFor", "I", false)
  | 6 => ("MemoByWeight$Run", "waitsForKey", "I", false)
  | 7 => ("MemoByWeight$Run", "value", "I", false)
  | _ => ("MemoByWeight$Run", "reason", "I", false)
def tyX3 : Nat → FieldType := fun k => match k with
  | 0 => .array (.object "MemoByWeight$Frame")
  | 1 => .int
  | 2 => .int
  | 3 => .int
  | 4 => .int
  | 5 => .int
  | 6 => .int
  | 7 => .int
  | _ => .int
theorem nmX3 : ∀ a, a < 9 → ∀ b, b < 9 → a ≠ b → (TX3 a).2.1 ≠ (TX3 b).2.1 := by decide +kernel
theorem tyX3_ok : ∀ k, k < 9 → parseFieldDescriptor (TX3 k).2.2.1 = some (tyX3 k) := by decide +kernel
def RX4 : String := "MemoByWeight$Store"
def TX4 : u_T := fun k => match k with
  | 0 => ("MemoByWeight$Store", "rows", "[LMemoByWeight$Kept;", true)
  | 1 => ("MemoByWeight$Store", "wave", "[I", true)
  | 2 => ("MemoByWeight$Store", "size", "I", false)
  | 3 => ("MemoByWeight$Store", "weights", "I", false)
  | 4 => ("MemoByWeight$Store", "waveSize", "I", false)
  | 5 => ("MemoByWeight$Store", "bound", "I", false)
  | 6 => ("MemoByWeight$Store", "policy", "I", false)
  | 7 => ("MemoByWeight$Store", "thrownOut", "I", false)
  | 8 => ("MemoByWeight$Store", "wentByBound", "I", false)
  | 9 => ("MemoByWeight$Store", "everKept", "I", false)
  | _ => ("MemoByWeight$Store", "byKey", "[LMemoByWeight$Kept;", true)
def tyX4 : Nat → FieldType := fun k => match k with
  | 0 => .array (.object "MemoByWeight$Kept")
  | 1 => .array .int
  | 2 => .int
  | 3 => .int
  | 4 => .int
  | 5 => .int
  | 6 => .int
  | 7 => .int
  | 8 => .int
  | 9 => .int
  | _ => .array (.object "MemoByWeight$Kept")
theorem nmX4 : ∀ a, a < 11 → ∀ b, b < 11 → a ≠ b → (TX4 a).2.1 ≠ (TX4 b).2.1 := by decide +kernel
theorem tyX4_ok : ∀ k, k < 11 → parseFieldDescriptor (TX4 k).2.2.1 = some (tyX4 k) := by decide +kernel
def RX5 : String := "MemoByWeight$Text"
def TX5 : u_T := fun k => match k with
  | 0 => ("MemoByWeight$Text", "code", "[I", true)
  | 1 => ("MemoByWeight$Text", "size", "I", false)
  | _ => ("MemoByWeight$Text", "nodes", "I", false)
def tyX5 : Nat → FieldType := fun k => match k with
  | 0 => .array .int
  | 1 => .int
  | _ => .int
theorem nmX5 : ∀ a, a < 3 → ∀ b, b < 3 → a ≠ b → (TX5 a).2.1 ≠ (TX5 b).2.1 := by decide +kernel
theorem tyX5_ok : ∀ k, k < 3 → parseFieldDescriptor (TX5 k).2.2.1 = some (tyX5 k) := by decide +kernel
def RX6 : String := "MemoByWeight$Thought"
def TX6 : u_T := fun k => match k with
  | 0 => ("MemoByWeight$Thought", "values", "[I", true)
  | 1 => ("MemoByWeight$Thought", "heldIn", "[I", true)
  | _ => ("MemoByWeight$Thought", "round", "I", false)
def tyX6 : Nat → FieldType := fun k => match k with
  | 0 => .array .int
  | 1 => .array .int
  | _ => .int
theorem nmX6 : ∀ a, a < 3 → ∀ b, b < 3 → a ≠ b → (TX6 a).2.1 ≠ (TX6 b).2.1 := by decide +kernel
theorem tyX6_ok : ∀ k, k < 3 → parseFieldDescriptor (TX6 k).2.2.1 = some (tyX6 k) := by decide +kernel
def RX7 : String := "MemoByWeight"
def TX7 : u_T := fun k => match k with
  | 0 => ("MemoByWeight", "cells", "[I", true)
  | 1 => ("MemoByWeight", "texts", "[LMemoByWeight$Text;", true)
  | 2 => ("MemoByWeight", "reader", "LMemoByWeight$Reader;", true)
  | 3 => ("MemoByWeight", "store", "LMemoByWeight$Store;", true)
  | 4 => ("MemoByWeight", "thought", "LMemoByWeight$Thought;", true)
  | 5 => ("MemoByWeight", "asking", "LMemoByWeight$Run;", true)
  | 6 => ("MemoByWeight", "tasks", "[LMemoByWeight$Run;", true)
  | 7 => ("MemoByWeight", "time", "I", false)
  | 8 => ("MemoByWeight", "latestSteps", "I", false)
  | 9 => ("MemoByWeight", "hits", "I", false)
  | 10 => ("MemoByWeight", "framesBegun", "I", false)
  | 11 => ("MemoByWeight", "failures", "I", false)
  | _ => ("MemoByWeight", "waitsBegun", "I", false)
def tyX7 : Nat → FieldType := fun k => match k with
  | 0 => .array .int
  | 1 => .array (.object "MemoByWeight$Text")
  | 2 => .object "MemoByWeight$Reader"
  | 3 => .object "MemoByWeight$Store"
  | 4 => .object "MemoByWeight$Thought"
  | 5 => .object "MemoByWeight$Run"
  | 6 => .array (.object "MemoByWeight$Run")
  | 7 => .int
  | 8 => .int
  | 9 => .int
  | 10 => .int
  | 11 => .int
  | _ => .int
theorem nmX7 : ∀ a, a < 13 → ∀ b, b < 13 → a ≠ b → (TX7 a).2.1 ≠ (TX7 b).2.1 := by decide +kernel
theorem tyX7_ok : ∀ k, k < 13 → parseFieldDescriptor (TX7 k).2.2.1 = some (tyX7 k) := by decide +kernel
def RX8 : String := "MemoByWeightModel"
def TX8 : u_T := fun k => match k with
  | 0 => ("MemoByWeightModel", "cells", "[I", true)
  | 1 => ("MemoByWeightModel", "tape", "[I", true)
  | 2 => ("MemoByWeightModel", "length", "I", false)
  | 3 => ("MemoByWeightModel", "code", "[I", true)
  | 4 => ("MemoByWeightModel", "size", "[I", true)
  | 5 => ("MemoByWeightModel", "draft", "[I", true)
  | 6 => ("MemoByWeightModel", "drafted", "I", false)
  | 7 => ("MemoByWeightModel", "nodes", "I", false)
  | 8 => ("MemoByWeightModel", "at", "I", false)
  | 9 => ("MemoByWeightModel", "fault", "I", false)
  | 10 => ("MemoByWeightModel", "opened", "I", false)
  | 11 => ("MemoByWeightModel", "isKept", "[Z", true)
  | 12 => ("MemoByWeightModel", "value", "[I", true)
  | 13 => ("MemoByWeightModel", "cost", "[I", true)
  | 14 => ("MemoByWeightModel", "weight", "[I", true)
  | 15 => ("MemoByWeightModel", "time", "[I", true)
  | 16 => ("MemoByWeightModel", "asks", "[I", true)
  | 17 => ("MemoByWeightModel", "used", "[I", true)
  | 18 => ("MemoByWeightModel", "cameAt", "[I", true)
  | 19 => ("MemoByWeightModel", "askedMany", "[I", true)
  | 20 => ("MemoByWeightModel", "asked", "[I", true)
  | 21 => ("MemoByWeightModel", "came", "I", false)
  | 22 => ("MemoByWeightModel", "whole", "I", false)
  | 23 => ("MemoByWeightModel", "keptMany", "I", false)
  | 24 => ("MemoByWeightModel", "bound", "I", false)
  | 25 => ("MemoByWeightModel", "policy", "I", false)
  | 26 => ("MemoByWeightModel", "now", "I", false)
  | 27 => ("MemoByWeightModel", "led", "[I", true)
  | 28 => ("MemoByWeightModel", "wave", "[I", true)
  | 29 => ("MemoByWeightModel", "waveMany", "I", false)
  | 30 => ("MemoByWeightModel", "isBound", "Z", false)
  | 31 => ("MemoByWeightModel", "state", "[I", true)
  | 32 => ("MemoByWeightModel", "result", "[I", true)
  | 33 => ("MemoByWeightModel", "steps", "[I", true)
  | 34 => ("MemoByWeightModel", "frames", "[I", true)
  | 35 => ("MemoByWeightModel", "waitsFor", "[I", true)
  | 36 => ("MemoByWeightModel", "waitsKey", "[I", true)
  | 37 => ("MemoByWeightModel", "frameKey", "[I", true)
  | 38 => ("MemoByWeightModel", "framePlace", "[I", true)
  | 39 => ("MemoByWeightModel", "frameBegan", "[I", true)
  | 40 => ("MemoByWeightModel", "frameTime", "[I", true)
  | 41 => ("MemoByWeightModel", "frameUsed", "[I", true)
  | 42 => ("MemoByWeightModel", "frameAsked", "[I", true)
  | 43 => ("MemoByWeightModel", "askedBy", "[I", true)
  | 44 => ("MemoByWeightModel", "frameHeld", "[I", true)
  | 45 => ("MemoByWeightModel", "held", "[I", true)
  | 46 => ("MemoByWeightModel", "stepsLast", "I", false)
  | 47 => ("MemoByWeightModel", "spareKept", "[Z", true)
  | 48 => ("MemoByWeightModel", "spare", "[I", true)
  | 49 => ("MemoByWeightModel", "spareAsked", "[I", true)
  | 50 => ("MemoByWeightModel", "spareLed", "[I", true)
  | 51 => ("MemoByWeightModel", "isHeir", "[Z", true)
  | _ => ("MemoByWeightModel", "chain", "[I", true)
def tyX8 : Nat → FieldType := fun k => match k with
  | 0 => .array .int
  | 1 => .array .int
  | 2 => .int
  | 3 => .array .int
  | 4 => .array .int
  | 5 => .array .int
  | 6 => .int
  | 7 => .int
  | 8 => .int
  | 9 => .int
  | 10 => .int
  | 11 => .array .boolean
  | 12 => .array .int
  | 13 => .array .int
  | 14 => .array .int
  | 15 => .array .int
  | 16 => .array .int
  | 17 => .array .int
  | 18 => .array .int
  | 19 => .array .int
  | 20 => .array .int
  | 21 => .int
  | 22 => .int
  | 23 => .int
  | 24 => .int
  | 25 => .int
  | 26 => .int
  | 27 => .array .int
  | 28 => .array .int
  | 29 => .int
  | 30 => .boolean
  | 31 => .array .int
  | 32 => .array .int
  | 33 => .array .int
  | 34 => .array .int
  | 35 => .array .int
  | 36 => .array .int
  | 37 => .array .int
  | 38 => .array .int
  | 39 => .array .int
  | 40 => .array .int
  | 41 => .array .int
  | 42 => .array .int
  | 43 => .array .int
  | 44 => .array .int
  | 45 => .array .int
  | 46 => .int
  | 47 => .array .boolean
  | 48 => .array .int
  | 49 => .array .int
  | 50 => .array .int
  | 51 => .array .boolean
  | _ => .array .int
theorem nmX8 : ∀ a, a < 53 → ∀ b, b < 53 → a ≠ b → (TX8 a).2.1 ≠ (TX8 b).2.1 := by decide +kernel
theorem tyX8_ok : ∀ k, k < 53 → parseFieldDescriptor (TX8 k).2.2.1 = some (tyX8 k) := by decide +kernel
def z_cl : List vw_C := [(RX0, TX0, 10), (RX1, TX1, 10), (RX2, TX2, 6), (RX3, TX3, 9), (RX4, TX4, 11), (RX5, TX5, 3), (RX6, TX6, 3), (RX7, TX7, 13), (RX8, TX8, 53)]
def z_ty (c k : Nat) : FieldType := match c with
  | 0 => tyX0 k
  | 1 => tyX1 k
  | 2 => tyX2 k
  | 3 => tyX3 k
  | 4 => tyX4 k
  | 5 => tyX5 k
  | 6 => tyX6 k
  | 7 => tyX7 k
  | _ => tyX8 k
def z_hasW (p : Nat) (w : Cond) : Bool := decide (lw_tbl[p]? = some w) && goodWord w
def z_gw : List Cond := lw_tbl.filter goodWord
theorem z_in_gw {p : Nat} {w : Cond} (h : z_hasW p w = true) : w ∈ z_gw := by
  simp only [z_hasW, Bool.and_eq_true, decide_eq_true_eq] at h
  exact List.mem_filter.mpr ⟨List.mem_of_getElem? h.1, h.2⟩
def z_all : List Nat → List Cond → Bool
  | [], [] => true
  | p :: ps, w :: ws => z_hasW p w && z_all ps ws
  | _, _ => false
theorem z_all_in : ∀ (ps : List Nat) (ws : List Cond), z_all ps ws = true → ∀ w ∈ ws, w ∈ z_gw
  | [], [], _ => fun w h => by cases h
  | p :: ps, w :: ws, h => fun x hx => by
    simp only [z_all, Bool.and_eq_true] at h
    rcases List.mem_cons.mp hx with rfl | hx
    · exact z_in_gw h.1
    · exact z_all_in ps ws h.2 x hx
  | [], _ :: _, h => by simp [z_all] at h
  | _ :: _, [], h => by simp [z_all] at h
theorem inX0 : ∀ w ∈ u_ws RX0 TX0 10, w ∈ z_gw := z_all_in [297, 299, 301, 303, 305, 307, 309, 311, 313, 315] _ (by decide +kernel)
theorem inX1 : ∀ w ∈ u_ws RX1 TX1 10, w ∈ z_gw := z_all_in [180, 182, 184, 186, 188, 190, 192, 194, 196, 198] _ (by decide +kernel)
theorem inX2 : ∀ w ∈ u_ws RX2 TX2 6, w ∈ z_gw := z_all_in [132, 134, 136, 138, 140, 142] _ (by decide +kernel)
theorem inX3 : ∀ w ∈ u_ws RX3 TX3 9, w ∈ z_gw := z_all_in [334, 336, 338, 340, 342, 344, 346, 348, 350] _ (by decide +kernel)
theorem inX4 : ∀ w ∈ u_ws RX4 TX4 11, w ∈ z_gw := z_all_in [222, 224, 226, 228, 230, 232, 234, 236, 238, 240, 242] _ (by decide +kernel)
theorem inX5 : ∀ w ∈ u_ws RX5 TX5 3, w ∈ z_gw := z_all_in [115, 117, 119] _ (by decide +kernel)
theorem inX6 : ∀ w ∈ u_ws RX6 TX6 3, w ∈ z_gw := z_all_in [254, 256, 258] _ (by decide +kernel)
theorem inX7 : ∀ w ∈ u_ws RX7 TX7 13, w ∈ z_gw := z_all_in [368, 370, 372, 374, 376, 378, 380, 382, 384, 386, 388, 390, 392] _ (by decide +kernel)
theorem inX8 : ∀ w ∈ u_ws RX8 TX8 53, w ∈ z_gw := z_all_in [911, 913, 915, 917, 919, 921, 923, 925, 927, 929, 931, 933, 935, 937, 939, 941, 943, 945, 947, 949, 951, 953, 955, 957, 959, 961, 963, 965, 967, 969, 971, 973, 975, 977, 979, 981, 983, 985, 987, 989, 991, 993, 995, 997, 999, 1001, 1003, 1005, 1007, 1009, 1011, 1013, 1015] _ (by decide +kernel)
/-- a method: name, bytes, locals, answer, class (its place in z_cl), parameters, cells that it makes, places of its words (code, instance or static, initialized, selects), static -/
abbrev z_MH : Type := MethodName × ByteArray × Nat × Option FieldType × Nat × Nat × Nat × (Nat × Nat × Nat × Nat) × Bool
abbrev m_F_init : Nat := 0
abbrev m_F_begin : Nat := 1
abbrev m_F_hasText : Nat := 2
abbrev m_F_argument : Nat := 3
abbrev m_F_fetch : Nat := 4
abbrev m_F_push : Nat := 5
abbrev m_F_pop : Nat := 6
abbrev m_F_value : Nat := 7
abbrev m_F_take : Nat := 8
abbrev m_F_isWorkedOut : Nat := 9
abbrev m_K_init : Nat := 10
abbrev m_K_fill : Nat := 11
abbrev m_K_digits : Nat := 12
abbrev m_K_tell : Nat := 13
abbrev m_K_worth : Nat := 14
abbrev m_R_init : Nat := 15
abbrev m_R_add : Nat := 16
abbrev m_R_readTape : Nat := 17
abbrev m_R_wrong : Nat := 18
abbrev m_R_ahead : Nat := 19
abbrev m_R_isDigit : Nat := 20
abbrev m_R_pass : Nat := 21
abbrev m_R_passOpening : Nat := 22
abbrev m_R_readChoice : Nat := 23
abbrev m_R_readComparison : Nat := 24
abbrev m_R_readSum : Nat := 25
abbrev m_R_readProduct : Nat := 26
abbrev m_R_readUnit : Nat := 27
abbrev m_R_readCall : Nat := 28
abbrev m_R_readBracket : Nat := 29
abbrev m_R_readIndex : Nat := 30
abbrev m_R_readNumber : Nat := 31
abbrev m_U_init : Nat := 32
abbrev m_U_renew : Nat := 33
abbrev m_U_isBusy : Nat := 34
abbrev m_U_top : Nat := 35
abbrev m_U_hasFrameOf : Nat := 36
abbrev m_U_begin : Nat := 37
abbrev m_U_beginsAnew : Nat := 38
abbrev m_U_give : Nat := 39
abbrev m_U_waitFor : Nat := 40
abbrev m_U_failBy : Nat := 41
abbrev m_U_outcome : Nat := 42
abbrev m_S_init : Nat := 43
abbrev m_S_find : Nat := 44
abbrev m_S_byNumber : Nat := 45
abbrev m_S_keep : Nat := 46
abbrev m_S_shrink : Nat := 47
abbrev m_S_leastWorth : Nat := 48
abbrev m_S_remove : Nat := 49
abbrev m_S_throwOut : Nat := 50
abbrev m_S_empty : Nat := 51
abbrev m_S_users : Nat := 52
abbrev m_S_heirsOf : Nat := 53
abbrev m_S_chainFrom : Nat := 54
abbrev m_S_markAll : Nat := 55
abbrev m_S_mostMarkAsked : Nat := 56
abbrev m_T_init : Nat := 57
abbrev m_T_stands : Nat := 58
abbrev m_T_empty : Nat := 59
abbrev m_T_become : Nat := 60
abbrev m_T_put : Nat := 61
abbrev m_T_lead : Nat := 62
abbrev m_T_leadAll : Nat := 63
abbrev m_H_init : Nat := 64
abbrev m_H_forget : Nat := 65
abbrev m_H_holds : Nat := 66
abbrev m_H_valueOf : Nat := 67
abbrev m_H_hold : Nat := 68
abbrev m_C_init : Nat := 69
abbrev m_C_feed : Nat := 70
abbrev m_C_rule : Nat := 71
abbrev m_C_drop : Nat := 72
abbrev m_C_set : Nat := 73
abbrev m_C_cell : Nat := 74
abbrev m_C_ask : Nat := 75
abbrev m_C_fresh : Nat := 76
abbrev m_C_steps : Nat := 77
abbrev m_C_bound : Nat := 78
abbrev m_C_policy : Nat := 79
abbrev m_C_kept : Nat := 80
abbrev m_C_asked : Nat := 81
abbrev m_C_key : Nat := 82
abbrev m_C_wave : Nat := 83
abbrev m_C_would : Nat := 84
abbrev m_C_heirs : Nat := 85
abbrev m_C_chain : Nat := 86
abbrev m_C_next : Nat := 87
abbrev m_C_clear : Nat := 88
abbrev m_C_start : Nat := 89
abbrev m_C_step : Nat := 90
abbrev m_C_stop : Nat := 91
abbrev m_C_task : Nat := 92
abbrev m_C_frame : Nat := 93
abbrev m_C_led : Nat := 94
abbrev m_C_count : Nat := 95
abbrev m_C_within : Nat := 96
abbrev m_C_isArgument : Nat := 97
abbrev m_C_isKey : Nat := 98
abbrev m_C_keyOf : Nat := 99
abbrev m_C_rulesWithText : Nat := 100
abbrev m_C_busyTasks : Nat := 101
abbrev m_C_workOut : Nat := 102
abbrev m_C_goOn : Nat := 103
abbrev m_C_workStep : Nat := 104
abbrev m_C_workNode : Nat := 105
abbrev m_C_readCell : Nat := 106
abbrev m_C_calledKey : Nat := 107
abbrev m_C_workSign : Nat := 108
abbrev m_C_join : Nat := 109
abbrev m_C_askKey : Nat := 110
abbrev m_C_recalls : Nat := 111
abbrev m_C_meetsOther : Nat := 112
abbrev m_C_waitsLeadTo : Nat := 113
abbrev m_C_beginFrame : Nat := 114
abbrev m_C_settle : Nat := 115
abbrev m_C_keep : Nat := 116
abbrev m_C_fail : Nat := 117
abbrev m_C_changed : Nat := 118
abbrev m_M_init : Nat := 119
abbrev m_M_in : Nat := 120
abbrev m_M_feed : Nat := 121
abbrev m_M_peek : Nat := 122
abbrev m_M_wrong : Nat := 123
abbrev m_M_takes : Nat := 124
abbrev m_M_wants : Nat := 125
abbrev m_M_writes : Nat := 126
abbrev m_M_opens : Nat := 127
abbrev m_M_readsWhole : Nat := 128
abbrev m_M_readsCompared : Nat := 129
abbrev m_M_readsSum : Nat := 130
abbrev m_M_readsProduct : Nat := 131
abbrev m_M_figures : Nat := 132
abbrev m_M_figuresToEleven : Nat := 133
abbrev m_M_readsUnit : Nat := 134
abbrev m_M_readsBracket : Nat := 135
abbrev m_M_rule : Nat := 136
abbrev m_M_drop : Nat := 137
abbrev m_M_set : Nat := 138
abbrev m_M_cell : Nat := 139
abbrev m_M_keyOf : Nat := 140
abbrev m_M_ruleOf : Nat := 141
abbrev m_M_argumentOf : Nat := 142
abbrev m_M_isKey : Nat := 143
abbrev m_M_goes : Nat := 144
abbrev m_M_worth : Nat := 145
abbrev m_M_leastWorth : Nat := 146
abbrev m_M_holdsBound : Nat := 147
abbrev m_M_digits : Nat := 148
abbrev m_M_cameBehind : Nat := 149
abbrev m_M_changed : Nat := 150
abbrev m_M_top : Nat := 151
abbrev m_M_clears : Nat := 152
abbrev m_M_fails : Nat := 153
abbrev m_M_hasFrame : Nat := 154
abbrev m_M_taskOf : Nat := 155
abbrev m_M_waitsAtLast : Nat := 156
abbrev m_M_asksFor : Nat := 157
abbrev m_M_holds : Nat := 158
abbrev m_M_taken : Nat := 159
abbrev m_M_gets : Nat := 160
abbrev m_M_goesOn : Nat := 161
abbrev m_M_keeps : Nat := 162
abbrev m_M_joined : Nat := 163
abbrev m_M_stepsOnce : Nat := 164
abbrev m_M_beginsAnew : Nat := 165
abbrev m_M_runs : Nat := 166
abbrev m_M_mayAsk : Nat := 167
abbrev m_M_ask : Nat := 168
abbrev m_M_steps : Nat := 169
abbrev m_M_aside : Nat := 170
abbrev m_M_again : Nat := 171
abbrev m_M_fresh : Nat := 172
abbrev m_M_bound : Nat := 173
abbrev m_M_policy : Nat := 174
abbrev m_M_kept : Nat := 175
abbrev m_M_asked : Nat := 176
abbrev m_M_key : Nat := 177
abbrev m_M_wave : Nat := 178
abbrev m_M_would : Nat := 179
abbrev m_M_heirs : Nat := 180
abbrev m_M_asksHeir : Nat := 181
abbrev m_M_chain : Nat := 182
abbrev m_M_next : Nat := 183
abbrev m_M_clear : Nat := 184
abbrev m_M_isTask : Nat := 185
abbrev m_M_isBusy : Nat := 186
abbrev m_M_start : Nat := 187
abbrev m_M_step : Nat := 188
abbrev m_M_stop : Nat := 189
abbrev m_M_task : Nat := 190
abbrev m_M_frame : Nat := 191
abbrev m_M_led : Nat := 192
abbrev m_M_count : Nat := 193
def z_ht : List z_MH := [
  (⟨"MemoByWeight$Frame", "<init>", "()V"⟩, prog_2_method_1_code, 1, Option.none, 0, 0, 2, (272, 271, 82, 0), false),
  (⟨"MemoByWeight$Frame", "begin", "(I)V"⟩, prog_2_method_2_code, 2, Option.none, 0, 1, 0, (509, 507, 82, 508), false),
  (⟨"MemoByWeight$Frame", "hasText", "()Z"⟩, prog_2_method_3_code, 1, Option.some Jvm.ClassFile.FieldType.boolean, 0, 0, 0, (672, 670, 82, 671), false),
  (⟨"MemoByWeight$Frame", "argument", "()I"⟩, prog_2_method_4_code, 1, Option.some Jvm.ClassFile.FieldType.int, 0, 0, 0, (641, 639, 82, 640), false),
  (⟨"MemoByWeight$Frame", "fetch", "()I"⟩, prog_2_method_5_code, 2, Option.some Jvm.ClassFile.FieldType.int, 0, 0, 0, (636, 634, 82, 635), false),
  (⟨"MemoByWeight$Frame", "push", "(I)V"⟩, prog_2_method_6_code, 2, Option.none, 0, 1, 0, (587, 585, 82, 586), false),
  (⟨"MemoByWeight$Frame", "pop", "()I"⟩, prog_2_method_7_code, 1, Option.some Jvm.ClassFile.FieldType.int, 0, 0, 0, (653, 651, 82, 652), false),
  (⟨"MemoByWeight$Frame", "value", "()I"⟩, prog_2_method_8_code, 1, Option.some Jvm.ClassFile.FieldType.int, 0, 0, 0, (681, 679, 82, 680), false),
  (⟨"MemoByWeight$Frame", "take", "(III)V"⟩, prog_2_method_9_code, 5, Option.none, 0, 3, 0, (583, 581, 82, 582), false),
  (⟨"MemoByWeight$Frame", "isWorkedOut", "()Z"⟩, prog_2_method_10_code, 2, Option.some Jvm.ClassFile.FieldType.boolean, 0, 0, 0, (668, 666, 82, 667), false),
  (⟨"MemoByWeight$Kept", "<init>", "()V"⟩, prog_3_method_1_code, 1, Option.none, 1, 0, 1, (156, 155, 79, 0), false),
  (⟨"MemoByWeight$Kept", "fill", "(LMemoByWeight$Frame;I)V"⟩, prog_3_method_2_code, 3, Option.none, 1, 2, 0, (695, 693, 79, 694), false),
  (⟨"MemoByWeight$Kept", "digits", "(I)I"⟩, prog_3_method_3_code, 1, Option.some Jvm.ClassFile.FieldType.int, 1, 1, 0, (703, 702, 79, 0), true),
  (⟨"MemoByWeight$Kept", "tell", "(I)I"⟩, prog_3_method_4_code, 2, Option.some Jvm.ClassFile.FieldType.int, 1, 1, 0, (748, 746, 79, 747), false),
  (⟨"MemoByWeight$Kept", "worth", "(I)I"⟩, prog_3_method_5_code, 2, Option.some Jvm.ClassFile.FieldType.int, 1, 1, 0, (715, 713, 79, 714), false),
  (⟨"MemoByWeight$Reader", "<init>", "()V"⟩, prog_4_method_1_code, 1, Option.none, 2, 0, 3, (100, 99, 76, 0), false),
  (⟨"MemoByWeight$Reader", "add", "(I)Z"⟩, prog_4_method_2_code, 2, Option.some Jvm.ClassFile.FieldType.boolean, 2, 1, 0, (402, 400, 76, 401), false),
  (⟨"MemoByWeight$Reader", "readTape", "()Z"⟩, prog_4_method_3_code, 2, Option.some Jvm.ClassFile.FieldType.boolean, 2, 0, 0, (413, 411, 76, 412), false),
  (⟨"MemoByWeight$Reader", "wrong", "(I)Z"⟩, prog_4_method_4_code, 2, Option.some Jvm.ClassFile.FieldType.boolean, 2, 1, 0, (461, 460, 76, 9), false),
  (⟨"MemoByWeight$Reader", "ahead", "()I"⟩, prog_4_method_5_code, 1, Option.some Jvm.ClassFile.FieldType.int, 2, 0, 0, (441, 440, 76, 5), false),
  (⟨"MemoByWeight$Reader", "isDigit", "()Z"⟩, prog_4_method_6_code, 1, Option.some Jvm.ClassFile.FieldType.boolean, 2, 0, 0, (457, 456, 76, 8), false),
  (⟨"MemoByWeight$Reader", "pass", "(I)Z"⟩, prog_4_method_7_code, 2, Option.some Jvm.ClassFile.FieldType.boolean, 2, 1, 0, (477, 476, 76, 13), false),
  (⟨"MemoByWeight$Reader", "passOpening", "(II)Z"⟩, prog_4_method_8_code, 3, Option.some Jvm.ClassFile.FieldType.boolean, 2, 2, 0, (473, 472, 76, 12), false),
  (⟨"MemoByWeight$Reader", "readChoice", "(I)Z"⟩, prog_4_method_9_code, 5, Option.some Jvm.ClassFile.FieldType.boolean, 2, 1, 0, (421, 420, 76, 0), false),
  (⟨"MemoByWeight$Reader", "readComparison", "(I)Z"⟩, prog_4_method_10_code, 3, Option.some Jvm.ClassFile.FieldType.boolean, 2, 1, 0, (425, 424, 76, 1), false),
  (⟨"MemoByWeight$Reader", "readSum", "(I)Z"⟩, prog_4_method_11_code, 4, Option.some Jvm.ClassFile.FieldType.boolean, 2, 1, 0, (429, 428, 76, 2), false),
  (⟨"MemoByWeight$Reader", "readProduct", "(I)Z"⟩, prog_4_method_12_code, 4, Option.some Jvm.ClassFile.FieldType.boolean, 2, 1, 0, (433, 432, 76, 3), false),
  (⟨"MemoByWeight$Reader", "readUnit", "(I)Z"⟩, prog_4_method_13_code, 2, Option.some Jvm.ClassFile.FieldType.boolean, 2, 1, 0, (437, 436, 76, 4), false),
  (⟨"MemoByWeight$Reader", "readCall", "(I)Z"⟩, prog_4_method_14_code, 3, Option.some Jvm.ClassFile.FieldType.boolean, 2, 1, 0, (465, 464, 76, 10), false),
  (⟨"MemoByWeight$Reader", "readBracket", "(I)Z"⟩, prog_4_method_15_code, 2, Option.some Jvm.ClassFile.FieldType.boolean, 2, 1, 0, (469, 468, 76, 11), false),
  (⟨"MemoByWeight$Reader", "readIndex", "(I)Z"⟩, prog_4_method_16_code, 3, Option.some Jvm.ClassFile.FieldType.boolean, 2, 1, 0, (449, 448, 76, 6), false),
  (⟨"MemoByWeight$Reader", "readNumber", "()Z"⟩, prog_4_method_17_code, 1, Option.some Jvm.ClassFile.FieldType.boolean, 2, 0, 0, (453, 452, 76, 7), false),
  (⟨"MemoByWeight$Run", "<init>", "()V"⟩, prog_5_method_1_code, 2, Option.none, 3, 0, 91, (265, 264, 81, 0), false),
  (⟨"MemoByWeight$Run", "renew", "(I)V"⟩, prog_5_method_2_code, 2, Option.none, 3, 1, 0, (548, 546, 81, 547), false),
  (⟨"MemoByWeight$Run", "isBusy", "()Z"⟩, prog_5_method_3_code, 1, Option.some Jvm.ClassFile.FieldType.boolean, 3, 0, 0, (501, 499, 81, 500), false),
  (⟨"MemoByWeight$Run", "top", "()LMemoByWeight$Frame;"⟩, prog_5_method_4_code, 1, Option.some (Jvm.ClassFile.FieldType.object "MemoByWeight$Frame"), 3, 0, 0, (579, 577, 81, 578), false),
  (⟨"MemoByWeight$Run", "hasFrameOf", "(I)Z"⟩, prog_5_method_5_code, 3, Option.some Jvm.ClassFile.FieldType.boolean, 3, 1, 0, (595, 593, 81, 594), false),
  (⟨"MemoByWeight$Run", "begin", "(ILMemoByWeight$Text;I)V"⟩, prog_5_method_6_code, 5, Option.none, 3, 3, 0, (623, 621, 81, 622), false),
  (⟨"MemoByWeight$Run", "beginsAnew", "(I)Z"⟩, prog_5_method_7_code, 3, Option.some Jvm.ClassFile.FieldType.boolean, 3, 1, 0, (505, 503, 81, 504), false),
  (⟨"MemoByWeight$Run", "give", "(III)V"⟩, prog_5_method_8_code, 5, Option.none, 3, 3, 0, (575, 573, 81, 574), false),
  (⟨"MemoByWeight$Run", "waitFor", "(II)V"⟩, prog_5_method_9_code, 3, Option.none, 3, 2, 0, (615, 613, 81, 614), false),
  (⟨"MemoByWeight$Run", "failBy", "(I)V"⟩, prog_5_method_10_code, 2, Option.none, 3, 1, 0, (603, 601, 81, 602), false),
  (⟨"MemoByWeight$Run", "outcome", "()I"⟩, prog_5_method_11_code, 1, Option.some Jvm.ClassFile.FieldType.int, 3, 0, 0, (719, 717, 81, 718), false),
  (⟨"MemoByWeight$Store", "<init>", "()V"⟩, prog_6_method_1_code, 2, Option.none, 4, 0, 205, (149, 148, 78, 0), false),
  (⟨"MemoByWeight$Store", "find", "(I)LMemoByWeight$Kept;"⟩, prog_6_method_2_code, 2, Option.some (Jvm.ClassFile.FieldType.object "MemoByWeight$Kept"), 4, 1, 0, (591, 589, 78, 590), false),
  (⟨"MemoByWeight$Store", "byNumber", "(I)I"⟩, prog_6_method_3_code, 7, Option.some Jvm.ClassFile.FieldType.int, 4, 1, 0, (760, 758, 78, 759), false),
  (⟨"MemoByWeight$Store", "keep", "(LMemoByWeight$Frame;I)V"⟩, prog_6_method_4_code, 4, Option.none, 4, 2, 0, (689, 687, 78, 688), false),
  (⟨"MemoByWeight$Store", "shrink", "()V"⟩, prog_6_method_5_code, 2, Option.none, 4, 0, 0, (707, 705, 78, 706), false),
  (⟨"MemoByWeight$Store", "leastWorth", "()I"⟩, prog_6_method_6_code, 5, Option.some Jvm.ClassFile.FieldType.int, 4, 0, 0, (711, 709, 78, 710), false),
  (⟨"MemoByWeight$Store", "remove", "(I)V"⟩, prog_6_method_7_code, 4, Option.none, 4, 1, 0, (517, 516, 78, 15), false),
  (⟨"MemoByWeight$Store", "throwOut", "(I)I"⟩, prog_6_method_8_code, 4, Option.some Jvm.ClassFile.FieldType.int, 4, 1, 0, (513, 511, 78, 512), false),
  (⟨"MemoByWeight$Store", "empty", "()I"⟩, prog_6_method_9_code, 3, Option.some Jvm.ClassFile.FieldType.int, 4, 0, 0, (809, 807, 78, 808), false),
  (⟨"MemoByWeight$Store", "users", "(I)I"⟩, prog_6_method_10_code, 4, Option.some Jvm.ClassFile.FieldType.int, 4, 1, 0, (772, 770, 78, 771), false),
  (⟨"MemoByWeight$Store", "heirsOf", "(LMemoByWeight$Kept;)I"⟩, prog_6_method_11_code, 6, Option.some Jvm.ClassFile.FieldType.int, 4, 1, 0, (780, 778, 78, 779), false),
  (⟨"MemoByWeight$Store", "chainFrom", "(LMemoByWeight$Kept;)I"⟩, prog_6_method_12_code, 6, Option.some Jvm.ClassFile.FieldType.int, 4, 1, 0, (796, 794, 78, 795), false),
  (⟨"MemoByWeight$Store", "markAll", "(I)V"⟩, prog_6_method_13_code, 3, Option.none, 4, 1, 0, (784, 783, 78, 30), false),
  (⟨"MemoByWeight$Store", "mostMarkAsked", "(LMemoByWeight$Kept;)I"⟩, prog_6_method_14_code, 5, Option.some Jvm.ClassFile.FieldType.int, 4, 1, 0, (788, 787, 78, 31), false),
  (⟨"MemoByWeight$Text", "<init>", "()V"⟩, prog_7_method_1_code, 1, Option.none, 5, 0, 1, (106, 105, 77, 0), false),
  (⟨"MemoByWeight$Text", "stands", "()Z"⟩, prog_7_method_2_code, 1, Option.some Jvm.ClassFile.FieldType.boolean, 5, 0, 0, (525, 523, 77, 524), false),
  (⟨"MemoByWeight$Text", "empty", "()V"⟩, prog_7_method_3_code, 1, Option.none, 5, 0, 0, (417, 415, 77, 416), false),
  (⟨"MemoByWeight$Text", "become", "(LMemoByWeight$Text;)V"⟩, prog_7_method_4_code, 2, Option.none, 5, 1, 0, (490, 488, 77, 489), false),
  (⟨"MemoByWeight$Text", "put", "(II)V"⟩, prog_7_method_5_code, 3, Option.none, 5, 2, 0, (445, 443, 77, 444), false),
  (⟨"MemoByWeight$Text", "lead", "(II)V"⟩, prog_7_method_6_code, 3, Option.none, 5, 2, 0, (485, 483, 77, 484), false),
  (⟨"MemoByWeight$Text", "leadAll", "(I)V"⟩, prog_7_method_7_code, 5, Option.none, 5, 1, 0, (481, 479, 77, 480), false),
  (⟨"MemoByWeight$Thought", "<init>", "()V"⟩, prog_8_method_1_code, 1, Option.none, 6, 0, 2, (249, 248, 80, 0), false),
  (⟨"MemoByWeight$Thought", "forget", "()V"⟩, prog_8_method_2_code, 1, Option.none, 6, 0, 0, (727, 725, 80, 726), false),
  (⟨"MemoByWeight$Thought", "holds", "(I)Z"⟩, prog_8_method_3_code, 2, Option.some Jvm.ClassFile.FieldType.boolean, 6, 1, 0, (567, 565, 80, 566), false),
  (⟨"MemoByWeight$Thought", "valueOf", "(I)I"⟩, prog_8_method_4_code, 2, Option.some Jvm.ClassFile.FieldType.int, 6, 1, 0, (571, 569, 80, 570), false),
  (⟨"MemoByWeight$Thought", "hold", "(II)V"⟩, prog_8_method_5_code, 3, Option.none, 6, 2, 0, (685, 683, 80, 684), false),
  (⟨"MemoByWeight", "<init>", "()V"⟩, prog_1_method_1_code, 2, Option.none, 7, 0, 700, (90, 89, 75, 0), false),
  (⟨"MemoByWeight", "feed", "(I)I"⟩, prog_1_method_2_code, 2, Option.some Jvm.ClassFile.FieldType.int, 7, 1, 0, (398, 396, 75, 397), false),
  (⟨"MemoByWeight", "rule", "(I)I"⟩, prog_1_method_3_code, 2, Option.some Jvm.ClassFile.FieldType.int, 7, 1, 0, (406, 404, 75, 405), false),
  (⟨"MemoByWeight", "drop", "(I)I"⟩, prog_1_method_4_code, 2, Option.some Jvm.ClassFile.FieldType.int, 7, 1, 0, (521, 519, 75, 520), false),
  (⟨"MemoByWeight", "set", "(II)I"⟩, prog_1_method_5_code, 3, Option.some Jvm.ClassFile.FieldType.int, 7, 2, 0, (530, 528, 75, 529), false),
  (⟨"MemoByWeight", "cell", "(I)I"⟩, prog_1_method_6_code, 2, Option.some Jvm.ClassFile.FieldType.int, 7, 1, 0, (534, 532, 75, 533), false),
  (⟨"MemoByWeight", "ask", "(II)I"⟩, prog_1_method_7_code, 3, Option.some Jvm.ClassFile.FieldType.int, 7, 2, 0, (538, 536, 75, 537), false),
  (⟨"MemoByWeight", "fresh", "(II)I"⟩, prog_1_method_8_code, 3, Option.some Jvm.ClassFile.FieldType.int, 7, 2, 0, (723, 721, 75, 722), false),
  (⟨"MemoByWeight", "steps", "()I"⟩, prog_1_method_9_code, 1, Option.some Jvm.ClassFile.FieldType.int, 7, 0, 0, (731, 729, 75, 730), false),
  (⟨"MemoByWeight", "bound", "(I)I"⟩, prog_1_method_10_code, 3, Option.some Jvm.ClassFile.FieldType.int, 7, 1, 0, (735, 733, 75, 734), false),
  (⟨"MemoByWeight", "policy", "(I)I"⟩, prog_1_method_11_code, 3, Option.some Jvm.ClassFile.FieldType.int, 7, 1, 0, (740, 738, 75, 739), false),
  (⟨"MemoByWeight", "kept", "(II)I"⟩, prog_1_method_12_code, 4, Option.some Jvm.ClassFile.FieldType.int, 7, 2, 0, (744, 742, 75, 743), false),
  (⟨"MemoByWeight", "asked", "(II)I"⟩, prog_1_method_13_code, 4, Option.some Jvm.ClassFile.FieldType.int, 7, 2, 0, (752, 750, 75, 751), false),
  (⟨"MemoByWeight", "key", "(II)I"⟩, prog_1_method_14_code, 3, Option.some Jvm.ClassFile.FieldType.int, 7, 2, 0, (756, 754, 75, 755), false),
  (⟨"MemoByWeight", "wave", "(I)I"⟩, prog_1_method_15_code, 2, Option.some Jvm.ClassFile.FieldType.int, 7, 1, 0, (764, 762, 75, 763), false),
  (⟨"MemoByWeight", "would", "(I)I"⟩, prog_1_method_16_code, 2, Option.some Jvm.ClassFile.FieldType.int, 7, 1, 0, (768, 766, 75, 767), false),
  (⟨"MemoByWeight", "heirs", "(I)I"⟩, prog_1_method_17_code, 3, Option.some Jvm.ClassFile.FieldType.int, 7, 1, 0, (776, 774, 75, 775), false),
  (⟨"MemoByWeight", "chain", "(I)I"⟩, prog_1_method_18_code, 3, Option.some Jvm.ClassFile.FieldType.int, 7, 1, 0, (792, 790, 75, 791), false),
  (⟨"MemoByWeight", "next", "()I"⟩, prog_1_method_19_code, 1, Option.some Jvm.ClassFile.FieldType.int, 7, 0, 0, (800, 798, 75, 799), false),
  (⟨"MemoByWeight", "clear", "()I"⟩, prog_1_method_20_code, 1, Option.some Jvm.ClassFile.FieldType.int, 7, 0, 0, (805, 803, 75, 804), false),
  (⟨"MemoByWeight", "start", "(III)I"⟩, prog_1_method_21_code, 5, Option.some Jvm.ClassFile.FieldType.int, 7, 3, 0, (813, 811, 75, 812), false),
  (⟨"MemoByWeight", "step", "(II)I"⟩, prog_1_method_22_code, 6, Option.some Jvm.ClassFile.FieldType.int, 7, 2, 0, (817, 815, 75, 816), false),
  (⟨"MemoByWeight", "stop", "(I)I"⟩, prog_1_method_23_code, 4, Option.some Jvm.ClassFile.FieldType.int, 7, 1, 0, (826, 824, 75, 825), false),
  (⟨"MemoByWeight", "task", "(II)I"⟩, prog_1_method_24_code, 4, Option.some Jvm.ClassFile.FieldType.int, 7, 2, 0, (830, 828, 75, 829), false),
  (⟨"MemoByWeight", "frame", "(II)I"⟩, prog_1_method_25_code, 4, Option.some Jvm.ClassFile.FieldType.int, 7, 2, 0, (834, 832, 75, 833), false),
  (⟨"MemoByWeight", "led", "(I)I"⟩, prog_1_method_26_code, 2, Option.some Jvm.ClassFile.FieldType.int, 7, 1, 0, (838, 836, 75, 837), false),
  (⟨"MemoByWeight", "count", "(I)I"⟩, prog_1_method_27_code, 2, Option.some Jvm.ClassFile.FieldType.int, 7, 1, 0, (842, 840, 75, 841), false),
  (⟨"MemoByWeight", "within", "(II)Z"⟩, prog_1_method_28_code, 2, Option.some Jvm.ClassFile.FieldType.boolean, 7, 2, 0, (409, 408, 75, 0), true),
  (⟨"MemoByWeight", "isArgument", "(I)Z"⟩, prog_1_method_29_code, 1, Option.some Jvm.ClassFile.FieldType.boolean, 7, 1, 0, (544, 543, 75, 0), true),
  (⟨"MemoByWeight", "isKey", "(II)Z"⟩, prog_1_method_30_code, 2, Option.some Jvm.ClassFile.FieldType.boolean, 7, 2, 0, (541, 540, 75, 0), true),
  (⟨"MemoByWeight", "keyOf", "(II)I"⟩, prog_1_method_31_code, 2, Option.some Jvm.ClassFile.FieldType.int, 7, 2, 0, (551, 550, 75, 0), true),
  (⟨"MemoByWeight", "rulesWithText", "()I"⟩, prog_1_method_32_code, 6, Option.some Jvm.ClassFile.FieldType.int, 7, 0, 0, (846, 845, 75, 33), false),
  (⟨"MemoByWeight", "busyTasks", "()I"⟩, prog_1_method_33_code, 6, Option.some Jvm.ClassFile.FieldType.int, 7, 0, 0, (850, 849, 75, 34), false),
  (⟨"MemoByWeight", "workOut", "(LMemoByWeight$Run;I)V"⟩, prog_1_method_34_code, 4, Option.none, 7, 2, 0, (555, 554, 75, 16), false),
  (⟨"MemoByWeight", "goOn", "(LMemoByWeight$Run;)V"⟩, prog_1_method_35_code, 3, Option.none, 7, 1, 0, (821, 820, 75, 32), false),
  (⟨"MemoByWeight", "workStep", "(LMemoByWeight$Run;)V"⟩, prog_1_method_36_code, 4, Option.none, 7, 1, 0, (627, 626, 75, 23), false),
  (⟨"MemoByWeight", "workNode", "(LMemoByWeight$Run;LMemoByWeight$Frame;)I"⟩, prog_1_method_37_code, 5, Option.some Jvm.ClassFile.FieldType.int, 7, 2, 0, (632, 631, 75, 24), false),
  (⟨"MemoByWeight", "readCell", "(LMemoByWeight$Frame;I)V"⟩, prog_1_method_38_code, 3, Option.none, 7, 2, 0, (645, 644, 75, 25), false),
  (⟨"MemoByWeight", "calledKey", "(LMemoByWeight$Run;LMemoByWeight$Frame;I)I"⟩, prog_1_method_39_code, 5, Option.some Jvm.ClassFile.FieldType.int, 7, 3, 0, (649, 648, 75, 26), false),
  (⟨"MemoByWeight", "workSign", "(LMemoByWeight$Run;LMemoByWeight$Frame;I)V"⟩, prog_1_method_40_code, 7, Option.none, 7, 3, 0, (657, 656, 75, 27), false),
  (⟨"MemoByWeight", "join", "(III)I"⟩, prog_1_method_41_code, 3, Option.some Jvm.ClassFile.FieldType.int, 7, 3, 0, (660, 659, 75, 0), true),
  (⟨"MemoByWeight", "askKey", "(LMemoByWeight$Run;I)V"⟩, prog_1_method_42_code, 3, Option.none, 7, 2, 0, (559, 558, 75, 17), false),
  (⟨"MemoByWeight", "recalls", "(LMemoByWeight$Run;I)Z"⟩, prog_1_method_43_code, 4, Option.some Jvm.ClassFile.FieldType.boolean, 7, 2, 0, (563, 562, 75, 18), false),
  (⟨"MemoByWeight", "meetsOther", "(LMemoByWeight$Run;I)Z"⟩, prog_1_method_44_code, 4, Option.some Jvm.ClassFile.FieldType.boolean, 7, 2, 0, (607, 606, 75, 20), false),
  (⟨"MemoByWeight", "waitsLeadTo", "(ILMemoByWeight$Run;)Z"⟩, prog_1_method_45_code, 5, Option.some Jvm.ClassFile.FieldType.boolean, 7, 2, 0, (611, 610, 75, 21), false),
  (⟨"MemoByWeight", "beginFrame", "(LMemoByWeight$Run;I)V"⟩, prog_1_method_46_code, 4, Option.none, 7, 2, 0, (619, 618, 75, 22), false),
  (⟨"MemoByWeight", "settle", "(LMemoByWeight$Run;)V"⟩, prog_1_method_47_code, 4, Option.none, 7, 1, 0, (664, 663, 75, 28), false),
  (⟨"MemoByWeight", "keep", "(LMemoByWeight$Run;LMemoByWeight$Frame;)V"⟩, prog_1_method_48_code, 3, Option.none, 7, 2, 0, (677, 676, 75, 29), false),
  (⟨"MemoByWeight", "fail", "(LMemoByWeight$Run;I)V"⟩, prog_1_method_49_code, 3, Option.none, 7, 2, 0, (599, 598, 75, 19), false),
  (⟨"MemoByWeight", "changed", "(I)I"⟩, prog_1_method_50_code, 7, Option.some Jvm.ClassFile.FieldType.int, 7, 1, 0, (497, 496, 75, 14), false),
  (⟨"MemoByWeightModel", "<init>", "()V"⟩, prog_10_method_1_code, 1, Option.none, 8, 0, 38, (855, 854, 83, 0), false),
  (⟨"MemoByWeightModel", "in", "(JJJ)Z"⟩, prog_10_method_2_code, 6, Option.some Jvm.ClassFile.FieldType.boolean, 8, 3, 0, (1026, 1025, 83, 0), true),
  (⟨"MemoByWeightModel", "feed", "(I)I"⟩, prog_10_method_3_code, 2, Option.some Jvm.ClassFile.FieldType.int, 8, 1, 0, (1022, 1020, 83, 1021), false),
  (⟨"MemoByWeightModel", "peek", "()I"⟩, prog_10_method_4_code, 1, Option.some Jvm.ClassFile.FieldType.int, 8, 0, 0, (1059, 1058, 83, 41), false),
  (⟨"MemoByWeightModel", "wrong", "(I)V"⟩, prog_10_method_5_code, 2, Option.none, 8, 1, 0, (1067, 1066, 83, 43), false),
  (⟨"MemoByWeightModel", "takes", "(I)Z"⟩, prog_10_method_6_code, 2, Option.some Jvm.ClassFile.FieldType.boolean, 8, 1, 0, (1055, 1054, 83, 40), false),
  (⟨"MemoByWeightModel", "wants", "(I)V"⟩, prog_10_method_7_code, 2, Option.none, 8, 1, 0, (1079, 1078, 83, 46), false),
  (⟨"MemoByWeightModel", "writes", "(II)V"⟩, prog_10_method_8_code, 3, Option.none, 8, 2, 0, (1071, 1070, 83, 44), false),
  (⟨"MemoByWeightModel", "opens", "()V"⟩, prog_10_method_9_code, 1, Option.none, 8, 0, 0, (1063, 1062, 83, 42), false),
  (⟨"MemoByWeightModel", "readsWhole", "()V"⟩, prog_10_method_10_code, 3, Option.none, 8, 0, 0, (1035, 1034, 83, 35), false),
  (⟨"MemoByWeightModel", "readsCompared", "()V"⟩, prog_10_method_11_code, 1, Option.none, 8, 0, 0, (1039, 1038, 83, 36), false),
  (⟨"MemoByWeightModel", "readsSum", "()V"⟩, prog_10_method_12_code, 2, Option.none, 8, 0, 0, (1043, 1042, 83, 37), false),
  (⟨"MemoByWeightModel", "readsProduct", "()V"⟩, prog_10_method_13_code, 2, Option.none, 8, 0, 0, (1047, 1046, 83, 38), false),
  (⟨"MemoByWeightModel", "figures", "()I"⟩, prog_10_method_14_code, 3, Option.some Jvm.ClassFile.FieldType.int, 8, 0, 0, (1087, 1086, 83, 48), false),
  (⟨"MemoByWeightModel", "figuresToEleven", "()I"⟩, prog_10_method_15_code, 3, Option.some Jvm.ClassFile.FieldType.int, 8, 0, 0, (1083, 1082, 83, 47), false),
  (⟨"MemoByWeightModel", "readsUnit", "()V"⟩, prog_10_method_16_code, 2, Option.none, 8, 0, 0, (1051, 1050, 83, 39), false),
  (⟨"MemoByWeightModel", "readsBracket", "()V"⟩, prog_10_method_17_code, 1, Option.none, 8, 0, 0, (1075, 1074, 83, 45), false),
  (⟨"MemoByWeightModel", "rule", "(I)I"⟩, prog_10_method_18_code, 2, Option.some Jvm.ClassFile.FieldType.int, 8, 1, 0, (1030, 1028, 83, 1029), false),
  (⟨"MemoByWeightModel", "drop", "(I)I"⟩, prog_10_method_19_code, 2, Option.some Jvm.ClassFile.FieldType.int, 8, 1, 0, (1117, 1115, 83, 1116), false),
  (⟨"MemoByWeightModel", "set", "(II)I"⟩, prog_10_method_20_code, 3, Option.some Jvm.ClassFile.FieldType.int, 8, 2, 0, (1121, 1119, 83, 1120), false),
  (⟨"MemoByWeightModel", "cell", "(I)I"⟩, prog_10_method_21_code, 2, Option.some Jvm.ClassFile.FieldType.int, 8, 1, 0, (1127, 1125, 83, 1126), false),
  (⟨"MemoByWeightModel", "keyOf", "(II)I"⟩, prog_10_method_22_code, 2, Option.some Jvm.ClassFile.FieldType.int, 8, 2, 0, (1143, 1142, 83, 0), true),
  (⟨"MemoByWeightModel", "ruleOf", "(I)I"⟩, prog_10_method_23_code, 1, Option.some Jvm.ClassFile.FieldType.int, 8, 1, 0, (1113, 1112, 83, 0), true),
  (⟨"MemoByWeightModel", "argumentOf", "(I)I"⟩, prog_10_method_24_code, 1, Option.some Jvm.ClassFile.FieldType.int, 8, 1, 0, (1210, 1209, 83, 0), true),
  (⟨"MemoByWeightModel", "isKey", "(J)Z"⟩, prog_10_method_25_code, 2, Option.some Jvm.ClassFile.FieldType.boolean, 8, 1, 0, (1248, 1247, 83, 0), true),
  (⟨"MemoByWeightModel", "goes", "(I)V"⟩, prog_10_method_26_code, 2, Option.none, 8, 1, 0, (1102, 1101, 83, 51), false),
  (⟨"MemoByWeightModel", "worth", "(I)I"⟩, prog_10_method_27_code, 2, Option.some Jvm.ClassFile.FieldType.int, 8, 1, 0, (1187, 1186, 83, 64), false),
  (⟨"MemoByWeightModel", "leastWorth", "()I"⟩, prog_10_method_28_code, 3, Option.some Jvm.ClassFile.FieldType.int, 8, 0, 0, (1183, 1182, 83, 63), false),
  (⟨"MemoByWeightModel", "holdsBound", "()V"⟩, prog_10_method_29_code, 1, Option.none, 8, 0, 0, (1179, 1178, 83, 62), false),
  (⟨"MemoByWeightModel", "digits", "(I)I"⟩, prog_10_method_30_code, 3, Option.some Jvm.ClassFile.FieldType.int, 8, 1, 0, (1174, 1173, 83, 0), true),
  (⟨"MemoByWeightModel", "cameBehind", "(I)I"⟩, prog_10_method_31_code, 4, Option.some Jvm.ClassFile.FieldType.int, 8, 1, 0, (1098, 1097, 83, 50), false),
  (⟨"MemoByWeightModel", "changed", "(I)I"⟩, prog_10_method_32_code, 5, Option.some Jvm.ClassFile.FieldType.int, 8, 1, 0, (1094, 1093, 83, 49), false),
  (⟨"MemoByWeightModel", "top", "(I)I"⟩, prog_10_method_33_code, 2, Option.some Jvm.ClassFile.FieldType.int, 8, 1, 0, (1155, 1154, 83, 57), false),
  (⟨"MemoByWeightModel", "clears", "(I)V"⟩, prog_10_method_34_code, 2, Option.none, 8, 1, 0, (1110, 1109, 83, 53), false),
  (⟨"MemoByWeightModel", "fails", "(II)V"⟩, prog_10_method_35_code, 3, Option.none, 8, 2, 0, (1195, 1194, 83, 66), false),
  (⟨"MemoByWeightModel", "hasFrame", "(II)Z"⟩, prog_10_method_36_code, 4, Option.some Jvm.ClassFile.FieldType.boolean, 8, 2, 0, (1191, 1190, 83, 65), false),
  (⟨"MemoByWeightModel", "taskOf", "(II)I"⟩, prog_10_method_37_code, 4, Option.some Jvm.ClassFile.FieldType.int, 8, 2, 0, (1199, 1198, 83, 67), false),
  (⟨"MemoByWeightModel", "waitsAtLast", "(II)Z"⟩, prog_10_method_38_code, 5, Option.some Jvm.ClassFile.FieldType.boolean, 8, 2, 0, (1203, 1202, 83, 68), false),
  (⟨"MemoByWeightModel", "asksFor", "(IIZ)V"⟩, prog_10_method_39_code, 6, Option.none, 8, 3, 0, (1147, 1146, 83, 55), false),
  (⟨"MemoByWeightModel", "holds", "(II)V"⟩, prog_10_method_40_code, 3, Option.none, 8, 2, 0, (1159, 1158, 83, 58), false),
  (⟨"MemoByWeightModel", "taken", "(I)I"⟩, prog_10_method_41_code, 2, Option.some Jvm.ClassFile.FieldType.int, 8, 1, 0, (1167, 1166, 83, 60), false),
  (⟨"MemoByWeightModel", "gets", "(IIII)V"⟩, prog_10_method_42_code, 8, Option.none, 8, 4, 0, (1151, 1150, 83, 56), false),
  (⟨"MemoByWeightModel", "goesOn", "(I)V"⟩, prog_10_method_43_code, 7, Option.none, 8, 1, 0, (1163, 1162, 83, 59), false),
  (⟨"MemoByWeightModel", "keeps", "(III)V"⟩, prog_10_method_44_code, 6, Option.none, 8, 3, 0, (1171, 1170, 83, 61), false),
  (⟨"MemoByWeightModel", "joined", "(IJJ)J"⟩, prog_10_method_45_code, 5, Option.some Jvm.ClassFile.FieldType.long, 8, 3, 0, (1213, 1212, 83, 0), true),
  (⟨"MemoByWeightModel", "stepsOnce", "(I)V"⟩, prog_10_method_46_code, 9, Option.none, 8, 1, 0, (1207, 1206, 83, 69), false),
  (⟨"MemoByWeightModel", "beginsAnew", "(II)V"⟩, prog_10_method_47_code, 5, Option.none, 8, 2, 0, (1106, 1105, 83, 52), false),
  (⟨"MemoByWeightModel", "runs", "(II)V"⟩, prog_10_method_48_code, 3, Option.none, 8, 2, 0, (1140, 1139, 83, 54), false),
  (⟨"MemoByWeightModel", "mayAsk", "(II)Z"⟩, prog_10_method_49_code, 2, Option.some Jvm.ClassFile.FieldType.boolean, 8, 2, 0, (1134, 1133, 83, 0), true),
  (⟨"MemoByWeightModel", "ask", "(II)I"⟩, prog_10_method_50_code, 3, Option.some Jvm.ClassFile.FieldType.int, 8, 2, 0, (1131, 1129, 83, 1130), false),
  (⟨"MemoByWeightModel", "steps", "()I"⟩, prog_10_method_51_code, 1, Option.some Jvm.ClassFile.FieldType.int, 8, 0, 0, (1219, 1217, 83, 1218), false),
  (⟨"MemoByWeightModel", "aside", "(I[I)V"⟩, prog_10_method_52_code, 3, Option.none, 8, 2, 0, (1227, 1226, 83, 70), false),
  (⟨"MemoByWeightModel", "again", "(I[I)V"⟩, prog_10_method_53_code, 3, Option.none, 8, 2, 0, (1231, 1230, 83, 71), false),
  (⟨"MemoByWeightModel", "fresh", "(II)I"⟩, prog_10_method_54_code, 8, Option.some Jvm.ClassFile.FieldType.int, 8, 2, 0, (1223, 1221, 83, 1222), false),
  (⟨"MemoByWeightModel", "bound", "(I)I"⟩, prog_10_method_55_code, 3, Option.some Jvm.ClassFile.FieldType.int, 8, 1, 0, (1235, 1233, 83, 1234), false),
  (⟨"MemoByWeightModel", "policy", "(I)I"⟩, prog_10_method_56_code, 3, Option.some Jvm.ClassFile.FieldType.int, 8, 1, 0, (1240, 1238, 83, 1239), false),
  (⟨"MemoByWeightModel", "kept", "(II)I"⟩, prog_10_method_57_code, 3, Option.some Jvm.ClassFile.FieldType.int, 8, 2, 0, (1245, 1243, 83, 1244), false),
  (⟨"MemoByWeightModel", "asked", "(II)I"⟩, prog_10_method_58_code, 3, Option.some Jvm.ClassFile.FieldType.int, 8, 2, 0, (1254, 1252, 83, 1253), false),
  (⟨"MemoByWeightModel", "key", "(II)I"⟩, prog_10_method_59_code, 5, Option.some Jvm.ClassFile.FieldType.int, 8, 2, 0, (1258, 1256, 83, 1257), false),
  (⟨"MemoByWeightModel", "wave", "(I)I"⟩, prog_10_method_60_code, 2, Option.some Jvm.ClassFile.FieldType.int, 8, 1, 0, (1262, 1260, 83, 1261), false),
  (⟨"MemoByWeightModel", "would", "(I)I"⟩, prog_10_method_61_code, 4, Option.some Jvm.ClassFile.FieldType.int, 8, 1, 0, (1266, 1264, 83, 1265), false),
  (⟨"MemoByWeightModel", "heirs", "(I)I"⟩, prog_10_method_62_code, 5, Option.some Jvm.ClassFile.FieldType.int, 8, 1, 0, (1271, 1269, 83, 1270), false),
  (⟨"MemoByWeightModel", "asksHeir", "(I)Z"⟩, prog_10_method_63_code, 3, Option.some Jvm.ClassFile.FieldType.boolean, 8, 1, 0, (1275, 1274, 83, 72), false),
  (⟨"MemoByWeightModel", "chain", "(I)I"⟩, prog_10_method_64_code, 7, Option.some Jvm.ClassFile.FieldType.int, 8, 1, 0, (1279, 1277, 83, 1278), false),
  (⟨"MemoByWeightModel", "next", "()I"⟩, prog_10_method_65_code, 1, Option.some Jvm.ClassFile.FieldType.int, 8, 0, 0, (1283, 1281, 83, 1282), false),
  (⟨"MemoByWeightModel", "clear", "()I"⟩, prog_10_method_66_code, 3, Option.some Jvm.ClassFile.FieldType.int, 8, 0, 0, (1287, 1285, 83, 1286), false),
  (⟨"MemoByWeightModel", "isTask", "(I)Z"⟩, prog_10_method_67_code, 1, Option.some Jvm.ClassFile.FieldType.boolean, 8, 1, 0, (1294, 1293, 83, 0), true),
  (⟨"MemoByWeightModel", "isBusy", "(I)Z"⟩, prog_10_method_68_code, 2, Option.some Jvm.ClassFile.FieldType.boolean, 8, 1, 0, (1298, 1297, 83, 73), false),
  (⟨"MemoByWeightModel", "start", "(III)I"⟩, prog_10_method_69_code, 4, Option.some Jvm.ClassFile.FieldType.int, 8, 3, 0, (1291, 1289, 83, 1290), false),
  (⟨"MemoByWeightModel", "step", "(II)I"⟩, prog_10_method_70_code, 4, Option.some Jvm.ClassFile.FieldType.int, 8, 2, 0, (1302, 1300, 83, 1301), false),
  (⟨"MemoByWeightModel", "stop", "(I)I"⟩, prog_10_method_71_code, 3, Option.some Jvm.ClassFile.FieldType.int, 8, 1, 0, (1307, 1305, 83, 1306), false),
  (⟨"MemoByWeightModel", "task", "(II)I"⟩, prog_10_method_72_code, 3, Option.some Jvm.ClassFile.FieldType.int, 8, 2, 0, (1311, 1309, 83, 1310), false),
  (⟨"MemoByWeightModel", "frame", "(II)I"⟩, prog_10_method_73_code, 3, Option.some Jvm.ClassFile.FieldType.int, 8, 2, 0, (1316, 1314, 83, 1315), false),
  (⟨"MemoByWeightModel", "led", "(I)I"⟩, prog_10_method_74_code, 2, Option.some Jvm.ClassFile.FieldType.int, 8, 1, 0, (1320, 1318, 83, 1319), false),
  (⟨"MemoByWeightModel", "count", "(I)I"⟩, prog_10_method_75_code, 4, Option.some Jvm.ClassFile.FieldType.int, 8, 1, 0, (1324, 1322, 83, 1323), false)]
def z_h0 : z_MH := (⟨"", "", ""⟩, ⟨#[]⟩, 0, none, 0, 0, 0, (0, 0, 0, 0), false)
def z_hd (y : Nat) : z_MH := z_ht.getD y z_h0
def z_NC : Nat := 701
abbrev z_NT : Nat := 740
def z_kM : List Nat := [9, 100012, 100100, 104800, 100012, 100400, 201212, 101212, 101212, 101212, 101212, 101212, 101212, 101212, 101212, 138784, 100007, 101212, 100005, 100005, 100005, 100005, 100005, 100005, 100150, 100150, 100150, 100150, 100150, 100150, 104800, 100150, 109600, 201212, 109696, 138784, 100007, 201212, 101212]
def z_kR (x : Int) : Nat := if x = 0 then 4 else if x = 1 then 500030 else if x % 3 = 2 then 1 else if x % 3 = 0 then 100025 else 100019
/-- what stands at a cell: 1 .. 9 an object of a class of z_cl, else 100000 * kind + length of an array -/
def z_knd (x : Int) : Nat :=
  if x < 0 then 0 else
  if x < 11 then ([8, 100012, 300012, 3, 100100, 6, 100100, 5, 600101, 100101, 601212] : List Nat).getD x.toNat 0 else
  if x < 213 then (if x % 2 = 1 then 2 else 100025) else
  if x < 216 then ([7, 101212, 101212] : List Nat).getD (x - 213).toNat 0 else
  if x < 308 then z_kR (x - 216) else
  if x = 308 then 400004 else
  if x < 333 then (if x % 2 = 1 then 6 else 100100) else
  if x < 701 then z_kR ((x - 333) % 92) else
  z_kM.getD (x - 701).toNat 0
/-- the fields: 0 int, 1 a reference that moves, 2 a reference that stands from the constructor on, 3 boolean -/
def z_ft (kd j : Nat) : Nat := match kd with
  | 1 => ([2, 2, 1, 0, 0, 0, 0, 0, 0, 0] : List Nat).getD j 0
  | 2 => ([2, 0, 0, 0, 0, 0, 0, 0, 0, 0] : List Nat).getD j 0
  | 3 => ([2, 2, 0, 0, 0, 0] : List Nat).getD j 0
  | 4 => ([2, 0, 0, 0, 0, 0, 0, 0, 0] : List Nat).getD j 0
  | 5 => ([2, 2, 0, 0, 0, 0, 0, 0, 0, 0, 2] : List Nat).getD j 0
  | 6 => ([2, 0, 0] : List Nat).getD j 0
  | 7 => ([2, 2, 0] : List Nat).getD j 0
  | 8 => ([2, 2, 2, 2, 2, 2, 2, 0, 0, 0, 0, 0, 0] : List Nat).getD j 0
  | 9 => ([2, 2, 0, 2, 2, 2, 0, 0, 0, 0, 0, 2, 2, 2, 2, 2, 2, 2, 2, 2, 2, 0, 0, 0, 0, 0, 0, 2, 2, 0, 3, 2, 2, 2, 2, 2, 2, 2, 2, 2, 2, 2, 2, 2, 2, 2, 0, 2, 2, 2, 2, 2, 2] : List Nat).getD j 0
  | _ => 0
def z_nf (kd : Nat) : Nat := match kd with
  | 1 => 10
  | 2 => 10
  | 3 => 6
  | 4 => 9
  | 5 => 11
  | 6 => 3
  | 7 => 3
  | 8 => 13
  | 9 => 53
  | _ => 0
/-- what a field of the second kind holds -/
def z_sr (kd j : Nat) (x : Int) : Int := match kd, j with
  | 1, 0 => x + 1
  | 1, 1 => x + 2
  | 2, 0 => x + 1
  | 3, 0 => x + 1
  | 3, 1 => x + 2
  | 4, 0 => x + 1
  | 5, 0 => x + 1
  | 5, 1 => x + 2
  | 5, 10 => x + 3
  | 6, 0 => x + 1
  | 7, 0 => x + 1
  | 7, 1 => x + 2
  | 8, 0 => 1
  | 8, 1 => 2
  | 8, 2 => 3
  | 8, 3 => 7
  | 8, 4 => 213
  | 8, 5 => 216
  | 8, 6 => 308
  | 9, 0 => 702
  | 9, 1 => 703
  | 9, 3 => 704
  | 9, 4 => 705
  | 9, 5 => 706
  | 9, 11 => 707
  | 9, 12 => 708
  | 9, 13 => 709
  | 9, 14 => 710
  | 9, 15 => 711
  | 9, 16 => 712
  | 9, 17 => 713
  | 9, 18 => 714
  | 9, 19 => 715
  | 9, 20 => 716
  | 9, 27 => 717
  | 9, 28 => 718
  | 9, 31 => 719
  | 9, 32 => 720
  | 9, 33 => 721
  | 9, 34 => 722
  | 9, 35 => 723
  | 9, 36 => 724
  | 9, 37 => 725
  | 9, 38 => 726
  | 9, 39 => 727
  | 9, 40 => 728
  | 9, 41 => 729
  | 9, 42 => 730
  | 9, 43 => 731
  | 9, 44 => 732
  | 9, 45 => 733
  | 9, 47 => 734
  | 9, 48 => 735
  | 9, 49 => 736
  | 9, 50 => 737
  | 9, 51 => 738
  | 9, 52 => 739
  | _, _ => -1
/-- what the arrays of references that stand hold -/
def z_sa (tag : Nat) (x i : Int) : Int := match tag with
  | 3 => 309 + 2 * i
  | 4 => 333 + 92 * i
  | _ => x + 1 + 3 * i
def z_nw : List Cond := [(.methodLinkNest "MemoByWeight" (21 : Nat) ({ cls := "MemoByWeight$Reader", name := "<init>", desc := "()V" } : Jvm.MethodName) "MemoByWeight"), (.methodLinkNest "MemoByWeight$Reader" (17 : Nat) ({ cls := "MemoByWeight$Text", name := "<init>", desc := "()V" } : Jvm.MethodName) "MemoByWeight"), (.methodLinkNest "MemoByWeight$Store" (28 : Nat) ({ cls := "MemoByWeight$Kept", name := "<init>", desc := "()V" } : Jvm.MethodName) "MemoByWeight"), (.methodLinkNest "MemoByWeight" (35 : Nat) ({ cls := "MemoByWeight$Thought", name := "<init>", desc := "()V" } : Jvm.MethodName) "MemoByWeight"), (.methodLinkNest "MemoByWeight$Run" (17 : Nat) ({ cls := "MemoByWeight$Frame", name := "<init>", desc := "()V" } : Jvm.MethodName) "MemoByWeight"), (.methodLinkNest "MemoByWeight" (51 : Nat) ({ cls := "MemoByWeight$Text", name := "<init>", desc := "()V" } : Jvm.MethodName) "MemoByWeight"), (.methodLinkNest "MemoByWeight$Store" (39 : Nat) ({ cls := "MemoByWeight", name := "within", desc := "(II)Z" } : Jvm.MethodName) "MemoByWeight")]
def z_ao : List String := ["MemoByWeight$Text", "MemoByWeight$Run", "MemoByWeight$Frame", "MemoByWeight$Kept"]
end
section
/-! the abstract machine: numbers, memory, the world that it stands for -/
abbrev z_V : Type := Int ⊕ Int ⊕ Int
abbrev z_I (x : Int) : z_V := .inl x
abbrev z_J (x : Int) : z_V := .inr (.inl x)
abbrev z_R (x : Int) : z_V := .inr (.inr x)
abbrev z_M : Type := Int → Int → Int
def z_wr (x : Int) : Int := (x + 2147483648) % 4294967296 - 2147483648
def z_wl (x : Int) : Int := (x + 9223372036854775808) % 18446744073709551616 - 9223372036854775808
def z_ir (x : Int) : Prop := -2147483648 ≤ x ∧ x < 2147483648
def z_lr (x : Int) : Prop := -9223372036854775808 ≤ x ∧ x < 9223372036854775808
def z_up (σ : z_M) (a i v : Int) : z_M := fun a' i' => if a' = a ∧ i' = i then v else σ a' i'
def z_cp (σ : z_M) (a sp d dp n : Int) : z_M := fun a' i' => if a' = d ∧ dp ≤ i' ∧ i' < dp + n then σ a (sp + (i' - dp)) else σ a' i'
/-- what a new cell of a kind holds -/
def z_df (kd : Nat) (i : Int) : Int := if kd < 100000 then (if z_ft kd i.toNat = 0 ∨ z_ft kd i.toNat = 3 then 0 else -1) else if kd < 300000 then 0 else -1
def z_nu (σ : z_M) (a : Int) (kd : Nat) : z_M := fun a' i' => if a' = a then z_df kd i' else σ a' i'
def z_and (x y : Int) : Int := (Int32.ofInt x &&& Int32.ofInt y).toInt
def z_or (x y : Int) : Int := (Int32.ofInt x ||| Int32.ofInt y).toInt
def z_shl (x y : Int) : Int := (Int32.ofInt x <<< (Int32.ofInt y &&& 31)).toInt
def z_shr (x y : Int) : Int := (Int32.ofInt x >>> (Int32.ofInt y &&& 31)).toInt
/-- the environment: the launch, the heap at the law's entry, the classes, the classes of arrays by kind -/
abbrev z_E : Type := Launch × Heap × va_G × (Nat → ClassId)
def z_ad (e : z_E) (x : Int) : Option Nat := if x < 0 then none else some (e.2.1.size + x.toNat)
def z_vv (e : z_E) (v : z_V) : Value := match v with
  | .inl x => .int (Int32.ofInt x)
  | .inr (.inl x) => .long (Int64.ofInt x)
  | .inr (.inr x) => va_rf (z_ad e x)
def z_rg (v : z_V) : Prop := match v with
  | .inl x => z_ir x
  | .inr (.inl x) => z_lr x
  | .inr (.inr _) => True
def z_fv (e : z_E) (ph : Bool) (kd j : Nat) (x v : Int) : Value := match z_ft kd j with
  | 1 => va_rf (z_ad e v)
  | 2 => va_rf (z_ad e (cond ph (z_sr kd j x) v))
  | _ => .int (Int32.ofInt v)
def z_ce (e : z_E) (ph : Bool) (σ : z_M) (k : Nat) : va_E :=
  if z_knd (k : Int) < 100000 then .inr (z_knd (k : Int) - 1, (List.range (z_nf (z_knd (k : Int)))).map (fun j : Nat => z_fv e ph (z_knd (k : Int)) j (k : Int) (σ (k : Int) (j : Int))))
  else if z_knd (k : Int) < 300000 then .inl (e.2.2.2 (z_knd (k : Int) / 100000), z_knd (k : Int) % 100000, .inl (fun j : Nat => Int32.ofInt (σ (k : Int) (j : Int))))
  else .inl (e.2.2.2 (z_knd (k : Int) / 100000), z_knd (k : Int) % 100000, .inr (.inr (.inr (.inr (fun j : Nat => z_ad e (cond (ph && !(z_knd (k : Int) / 100000 == 6)) (z_sa (z_knd (k : Int) / 100000) (k : Int) (j : Int)) (σ (k : Int) (j : Int))))))))
def z_wd (e : z_E) (ph : Bool) (σ : z_M) (N : Nat) : va_W := (List.range N).map fun k => (e.2.1.size + k, z_ce e ph σ k)
def z_tys (e : z_E) : List (ClassId × FieldType) := [(e.2.2.2 1, .int), (e.2.2.2 2, .boolean), (e.2.2.2 3, .object "MemoByWeight$Text"), (e.2.2.2 4, .object "MemoByWeight$Run"), (e.2.2.2 5, .object "MemoByWeight$Frame"), (e.2.2.2 6, .object "MemoByWeight$Kept")]
def z_A (e : z_E) : Nat → Prop := fun q => e.2.1.size ≤ q
/-- the heap is the world of the memory -/
def z_Rep (e : z_E) (ph : Bool) (N : Nat) (σ : z_M) (H : Heap) (locs : List Loc) : Prop := (ph = false → H.size = e.2.1.size + N) ∧ va_P e.2.2.1 z_cl (z_wd e ph σ N) H ∧ va_S (z_A e) e.2.1 H locs
/-- what is known of the machine's tables at a state -/
def z_KS (e : z_E) (s : State) : Prop := va_K e.2.2.1 z_cl (z_tys e) s ∧ (∀ w ∈ z_nw, va_Nw w s) ∧ ∀ C ∈ z_ao, va_AO C s
def z_rM (σ : z_M) : Prop := ∀ a i : Int, z_ir (σ a i)
def z_rS (st : List z_V) : Prop := ∀ v ∈ st, z_rg v
def z_rL (ls : List (Option z_V)) : Prop := ∀ v : z_V, some v ∈ ls → z_rg v
def z_en (e : z_E) : Nat → List (Option z_V) → List (Nat × Value)
  | _, [] => []
  | i, none :: l => z_en e (i + 1) l
  | i, some v :: l => (i, z_vv e v) :: z_en e (i + 1) l
def z_nth : List (Option z_V) → Nat → Option z_V
  | [], _ => none
  | a :: _, 0 => a
  | _ :: l, n + 1 => z_nth l n
def z_kill (a : Option z_V) : Option z_V := match a with
  | some (.inr (.inl _)) => none
  | a => a
def z_set : List (Option z_V) → Nat → z_V → List (Option z_V)
  | [], _, _ => []
  | _ :: l, 0, v => some v :: l
  | a :: l, 1, v => z_kill a :: z_set l 0 v
  | a :: l, n + 2, v => a :: z_set l (n + 1) v
def z_clr : List (Option z_V) → Nat → List (Option z_V)
  | [], _ => []
  | _ :: l, 0 => none :: l
  | a :: l, n + 1 => a :: z_clr l n
def z_cat (st : List z_V) : Nat := match st with
  | [] => 0
  | .inr (.inl _) :: l => z_cat l + 2
  | _ :: l => z_cat l + 1
def z_slot (k : Nat) : Nat := if z_knd (k : Int) < 100000 then z_nf (z_knd (k : Int)) else z_knd (k : Int) % 100000
def z_sl : Nat → Nat
  | 0 => 0
  | n + 1 => z_sl n + z_slot n
def z_rm (d N N' : Nat) : Room := { frames := d, cells := N' - N, slots := z_sl N' - z_sl N, locals := 40 * d + 60 }
abbrev z_ws (y : Nat) : List Cond := .code (z_hd y).1 (z_hd y).2.1 (z_hd y).2.2.1 (z_hd y).2.2.2.1 :: z_gw
def z_rv (e : z_E) (rt : Option FieldType) (r : Int) : Option Value := match rt with
  | none => none
  | some .long => some (z_vv e (z_J r))
  | some (.object _) => some (z_vv e (z_R r))
  | some _ => some (z_vv e (z_I r))
def z_rr (rt : Option FieldType) (r : Int) : Prop := match rt with
  | none => True
  | some .long => z_lr r
  | some (.object _) => True
  | some _ => z_ir r
def z_Pc (e : z_E) (ph : Bool) (args : List z_V) (N : Nat) (σ : z_M) : Array Value → State → Prop := va_Pc (args.map (z_vv e)) (fun U => z_KS e U ∧ z_Rep e ph N σ U.heap [])
def z_Qc (e : z_E) (ph : Bool) (rt : Option FieldType) (N : Nat) (Q : Int → z_M → Prop) : Array Value → State → Outcome → State → Prop := fun _ _ o t => ∃ (r : Int) (σ : z_M), Q r σ ∧ z_rM σ ∧ z_rr rt r ∧ o = .returned (z_rv e rt r) ∧ z_Rep e ph N σ t.heap []
/-- a call of method y within a depth d: it returns, and Q holds of the answer and the memory -/
def z_Y (e : z_E) (ph : Bool) (d y : Nat) (args : List z_V) (N N' : Nat) (σ : z_M) (Q : Int → z_M → Prop) : Prop :=
  z_rS args → z_rM σ → ∃ d', d = d' + 1 ∧ N ≤ N' ∧ Met e.1 (z_hd y).1 (z_ws y) (z_rm d' N N') (z_Pc e ph args N σ) (z_Qc e ph (z_hd y).2.2.2.1 N' Q) (N' - N) (z_sl N' - z_sl N) (z_A e)
/-- the machine within the method -/
def z_Cx (e : z_E) (y : Nat) (p : Program) (s : State) (m : MethodId) (args : Array Value) (meth : Method) (c : Code) : Prop :=
  p.tables.exec = Jvm.exec ∧ c.code = (z_hd y).2.1 ∧ meth.sig.returnType = (z_hd y).2.2.2.1 ∧ c.maxLocals = (z_hd y).2.2.1 ∧ s.vm.findClass (z_hd y).1.cls = some m.cls ∧ (∀ w ∈ z_gw, w.before args s = true) ∧ meth.locks = false ∧ meth.name = (z_hd y).1.name ∧ z_KS e s
def z_X (e : z_E) (ph : Bool) (d y Ni No pc : Nat) (ls : List (Option z_V)) (st : List z_V) (N : Nat) (σ : z_M) (Q : Int → z_M → Prop) : Prop :=
  z_rL ls → z_rS st → z_rM σ → ∀ (p : Program) (env : Env) (s : State) (m : MethodId) (args : Array Value) (below : List Frame) (meth : Method) (c : Code) (H : Heap) (locs : List Loc) (la : Array Slot),
    z_Cx e y p s m args meth c → z_Rep e ph N σ H locs → Ni ≤ N → N ≤ No → lv_has la (z_hd y).2.2.1 (z_en e 0 ls) →
    W p e.1 env (z_rm d Ni No) s m args below meth c H locs (N - Ni) (z_sl N - z_sl Ni) (MQ below (z_Qc e ph (z_hd y).2.2.2.1 No Q) args s (No - Ni) (z_sl No - z_sl Ni) (z_A e)) (F0 m pc la (st.map (z_vv e)))
/-! numbers -/
theorem z_wr_ir (x : Int) : z_ir (z_wr x) := by unfold z_ir z_wr; omega
theorem z_wl_lr (x : Int) : z_lr (z_wl x) := by unfold z_lr z_wl; omega
theorem z_wr_id {x : Int} (h1 : -2147483648 ≤ x) (h2 : x < 2147483648) : z_wr x = x := by unfold z_wr; omega
theorem z_wl_id {x : Int} (h1 : -9223372036854775808 ≤ x) (h2 : x < 9223372036854775808) : z_wl x = x := by unfold z_wl; omega
theorem z_bm (x : Int) : x.bmod Int32.size = z_wr x := by
  have h : ((Int32.size : Nat) : Int) = 4294967296 := rfl
  simp only [Int.bmod, h, z_wr]
  split <;> omega
theorem z_bml (x : Int) : x.bmod Int64.size = z_wl x := by
  have h : ((Int64.size : Nat) : Int) = 18446744073709551616 := rfl
  simp only [Int.bmod, h, z_wl]
  split <;> omega
theorem z_of_wr (x : Int) : Int32.ofInt (z_wr x) = Int32.ofInt x := by
  apply Int32.toInt_inj.mp
  rw [Int32.toInt_ofInt, Int32.toInt_ofInt, z_bm, z_bm]
  unfold z_wr; omega
theorem z_of_wl (x : Int) : Int64.ofInt (z_wl x) = Int64.ofInt x := by
  apply Int64.toInt_inj.mp
  rw [Int64.toInt_ofInt, Int64.toInt_ofInt, z_bml, z_bml]
  unfold z_wl; omega
theorem z_to {x : Int} (h : z_ir x) : (Int32.ofInt x).toInt = x := by
  rw [Int32.toInt_ofInt, z_bm]; exact z_wr_id h.1 h.2
theorem z_tol {x : Int} (h : z_lr x) : (Int64.ofInt x).toInt = x := by
  rw [Int64.toInt_ofInt, z_bml]; exact z_wl_id h.1 h.2
theorem z_toir (x : Int32) : z_ir x.toInt := by
  have h1 := Int32.le_toInt x
  have h2 := Int32.toInt_lt x
  unfold z_ir; omega
theorem z_eq {x y : Int} (hx : z_ir x) (hy : z_ir y) : Int32.ofInt x = Int32.ofInt y ↔ x = y :=
  ⟨fun h => by rw [← z_to hx, ← z_to hy, h], fun h => by rw [h]⟩
theorem z_le {x y : Int} (hx : z_ir x) (hy : z_ir y) : Int32.ofInt x ≤ Int32.ofInt y ↔ x ≤ y := by
  rw [Int32.le_iff_toInt_le, z_to hx, z_to hy]
theorem z_lt {x y : Int} (hx : z_ir x) (hy : z_ir y) : Int32.ofInt x < Int32.ofInt y ↔ x < y := by
  rw [Int32.lt_iff_toInt_lt, z_to hx, z_to hy]
theorem z_nat {x : Int} (hx : z_ir x) : (Int32.ofInt x).toNatClampNeg = x.toNat := by
  show (Int32.ofInt x).toInt.toNat = x.toNat
  rw [z_to hx]
theorem z_zero : (0 : Int32) = Int32.ofInt 0 := rfl
theorem z_ir0 : z_ir 0 := by unfold z_ir; omega
end
section
/-! the locals -/
theorem z_en_mem (e : z_E) : ∀ (l : List (Option z_V)) (i j : Nat) (w : Value), (j, w) ∈ z_en e i l ↔ ∃ k v, j = i + k ∧ l[k]? = some (some v) ∧ w = z_vv e v
  | [], i, j, w => by simp [z_en]
  | none :: l, i, j, w => by
    rw [z_en, z_en_mem e l]
    constructor
    · rintro ⟨k, v, h1, h2, h3⟩
      exact ⟨k + 1, v, by omega, by simpa using h2, h3⟩
    · rintro ⟨k, v, h1, h2, h3⟩
      cases k with
      | zero => simp at h2
      | succ k => exact ⟨k, v, by omega, by simpa using h2, h3⟩
  | some u :: l, i, j, w => by
    rw [z_en, List.mem_cons, z_en_mem e l]
    constructor
    · rintro (h | ⟨k, v, h1, h2, h3⟩)
      · cases h; exact ⟨0, u, rfl, rfl, rfl⟩
      · exact ⟨k + 1, v, by omega, by simpa using h2, h3⟩
    · rintro ⟨k, v, h1, h2, h3⟩
      cases k with
      | zero =>
        left
        have : u = v := by simpa using h2
        subst this; subst h3; rw [h1]; rfl
      | succ k => exact Or.inr ⟨k, v, by omega, by simpa using h2, h3⟩
theorem z_nth_get : ∀ (l : List (Option z_V)) (i : Nat) (v : z_V), z_nth l i = some v → l[i]? = some (some v)
  | [], i, v, h => by cases i <;> simp [z_nth] at h
  | a :: l, 0, v, h => by simp only [z_nth] at h; simp [h]
  | a :: l, i + 1, v, h => by simp only [z_nth] at h; simpa using z_nth_get l i v h
theorem z_la {e : z_E} {la : Array Slot} {n : Nat} {ls : List (Option z_V)} (h : lv_has la n (z_en e 0 ls)) {i : Nat} {v : z_V} (hi : z_nth ls i = some v) : la[i]? = some (.val (z_vv e v)) :=
  h.2.2 (i, z_vv e v) ((z_en_mem e ls 0 i _).mpr ⟨i, v, by omega, z_nth_get ls i v hi, rfl⟩)
theorem z_nth_mem {ls : List (Option z_V)} {i : Nat} {v : z_V} (hi : z_nth ls i = some v) : some v ∈ ls := List.mem_of_getElem? (z_nth_get ls i v hi)
theorem z_has_sub {la : Array Slot} {n : Nat} {l l' : List (Nat × Value)} (h : lv_has la n l) (hs : ∀ q ∈ l', q ∈ l) : lv_has la n l' := ⟨h.1, h.2.1, fun q hq => h.2.2 q (hs q hq)⟩
theorem z_set_get : ∀ (ls : List (Option z_V)) (i : Nat) (v : z_V) (k : Nat) (u : z_V), (z_set ls i v)[k]? = some (some u) → (k = i ∧ u = v) ∨ (k ≠ i ∧ ls[k]? = some (some u) ∧ (k + 1 = i → ∀ x, u ≠ z_J x))
  | [], i, v, k, u, h => by simp [z_set] at h
  | a :: l, 0, v, k, u, h => by
    cases k with
    | zero => left; simp [z_set] at h; exact ⟨rfl, h.symm⟩
    | succ k => right; simp [z_set] at h; exact ⟨by omega, by simpa using h, by omega⟩
  | a :: l, 1, v, k, u, h => by
    cases k with
    | zero =>
      right
      simp only [z_set, List.getElem?_cons_zero, Option.some.injEq] at h
      refine ⟨by omega, ?_, fun _ x hx => ?_⟩
      · simp only [List.getElem?_cons_zero, Option.some.injEq]
        unfold z_kill at h
        split at h
        · cases h
        · exact h
      · subst hx
        unfold z_kill at h
        split at h
        · cases h
        · next hne => exact hne x h
    | succ k =>
      simp only [z_set, List.getElem?_cons_succ] at h
      rcases z_set_get l 0 v k u h with ⟨h1, h2⟩ | ⟨h1, h2, h3⟩
      · left; exact ⟨by omega, h2⟩
      · right; exact ⟨by omega, by simpa using h2, by omega⟩
  | a :: l, i + 2, v, k, u, h => by
    cases k with
    | zero => right; simp [z_set] at h; exact ⟨by omega, by simp [h], by omega⟩
    | succ k =>
      simp only [z_set, List.getElem?_cons_succ] at h
      rcases z_set_get l (i + 1) v k u h with ⟨h1, h2⟩ | ⟨h1, h2, h3⟩
      · left; exact ⟨by omega, h2⟩
      · right; exact ⟨by omega, by simpa using h2, fun hk => h3 (by omega)⟩
theorem z_clr_get : ∀ (ls : List (Option z_V)) (i : Nat) (k : Nat) (u : z_V), (z_clr ls i)[k]? = some (some u) → k ≠ i ∧ ls[k]? = some (some u)
  | [], i, k, u, h => by simp [z_clr] at h
  | a :: l, 0, k, u, h => by
    cases k with
    | zero => simp [z_clr] at h
    | succ k => simp [z_clr] at h; exact ⟨by omega, by simpa using h⟩
  | a :: l, i + 1, k, u, h => by
    cases k with
    | zero => simp [z_clr] at h; exact ⟨by omega, by simp [h]⟩
    | succ k =>
      simp only [z_clr, List.getElem?_cons_succ] at h
      obtain ⟨h1, h2⟩ := z_clr_get l i k u h
      exact ⟨by omega, by simpa using h2⟩
theorem z_cat2 {e : z_E} {u : z_V} (h : ∀ x, u ≠ z_J x) : (z_vv e u).category = 1 := by
  rcases u with x | x | x
  · rfl
  · exact absurd rfl (h x)
  · show (va_rf (z_ad e x)).category = 1
    unfold va_rf; split <;> rfl
theorem z_set_in {e : z_E} {ls : List (Option z_V)} {i : Nat} {v : z_V} : ∀ q ∈ z_en e 0 (z_set ls i v), q ∈ (i, z_vv e v) :: (z_en e 0 ls).filter (fun q => !(q.1 == i) && !(q.1 + 1 == i && q.2.category == 2)) := by
  rintro ⟨j, w⟩ hq
  obtain ⟨k, u, h1, h2, h3⟩ := (z_en_mem e _ 0 j w).mp hq
  have hj : j = k := by omega
  subst hj; subst h3
  rcases z_set_get ls i v j u h2 with ⟨h4, h5⟩ | ⟨h4, h5, h6⟩
  · subst h4; subst h5; exact List.mem_cons_self
  · refine List.mem_cons_of_mem _ (List.mem_filter.mpr ⟨(z_en_mem e ls 0 j _).mpr ⟨j, u, by omega, h5, rfl⟩, ?_⟩)
    simp only [Bool.and_eq_true, Bool.not_eq_true', beq_eq_false_iff_ne, Bool.and_eq_false_iff]
    refine ⟨h4, ?_⟩
    by_cases hk : j + 1 = i
    · right; rw [z_cat2 (h6 hk)]; decide
    · left; exact hk
theorem z_set2_in {e : z_E} {ls : List (Option z_V)} {i : Nat} {v : z_V} : ∀ q ∈ z_en e 0 (z_clr (z_set ls i v) (i + 1)), q ∈ (i, z_vv e v) :: (z_en e 0 ls).filter (fun q => !(q.1 == i) && (!(q.1 == i + 1) && !(q.1 + 1 == i && q.2.category == 2))) := by
  rintro ⟨j, w⟩ hq
  obtain ⟨k, u, h1, h2, h3⟩ := (z_en_mem e _ 0 j w).mp hq
  have hj : j = k := by omega
  subst hj; subst h3
  obtain ⟨h0, h2⟩ := z_clr_get _ _ _ _ h2
  rcases z_set_get ls i v j u h2 with ⟨h4, h5⟩ | ⟨h4, h5, h6⟩
  · subst h4; subst h5; exact List.mem_cons_self
  · refine List.mem_cons_of_mem _ (List.mem_filter.mpr ⟨(z_en_mem e ls 0 j _).mpr ⟨j, u, by omega, h5, rfl⟩, ?_⟩)
    simp only [Bool.and_eq_true, Bool.not_eq_true', beq_eq_false_iff_ne, Bool.and_eq_false_iff]
    refine ⟨h4, h0, ?_⟩
    by_cases hk : j + 1 = i
    · right; rw [z_cat2 (h6 hk)]; decide
    · left; exact hk
theorem z_rL_set {ls : List (Option z_V)} {i : Nat} {v : z_V} (h : z_rL ls) (hv : z_rg v) : z_rL (z_set ls i v) := by
  intro u hu
  obtain ⟨k, hk⟩ := List.getElem?_of_mem hu
  rcases z_set_get ls i v k u hk with ⟨-, h5⟩ | ⟨-, h5, -⟩
  · subst h5; exact hv
  · exact h u (List.mem_of_getElem? h5)
theorem z_rL_clr {ls : List (Option z_V)} {i : Nat} (h : z_rL ls) : z_rL (z_clr ls i) := by
  intro u hu
  obtain ⟨k, hk⟩ := List.getElem?_of_mem hu
  exact h u (List.mem_of_getElem? (z_clr_get ls i k u hk).2)
/-! instructions: locals, constants, arithmetic -/
section ZI
variable {e : z_E} {ph : Bool} {d y Ni No pc N : Nat} {ls : List (Option z_V)} {st : List z_V} {σ : z_M} {Q : Int → z_M → Prop}
theorem z_s_iconst {n : Int} (hn : z_ir n) (hd : decode (z_hd y).2.1 pc = .ok (.iconst n, 1)) (h : z_X e ph d y Ni No (pc + 1) ls (z_I n :: st) N σ Q) : z_X e ph d y Ni No pc ls st N σ Q := by
  intro r1 r2 r3 p env s m args below meth c H locs la C R h1 h2 hl
  obtain ⟨hx, hb, -⟩ := id C
  exact lv_iconst hx hb hd rfl (h r1 (List.forall_mem_cons.mpr ⟨hn, r2⟩) r3 p env s m args below meth c H locs la C R h1 h2 hl)
theorem z_s_bipush {n : Int} (hn : (Int8.ofInt n).toInt32 = Int32.ofInt n) (hn2 : z_ir n) (hd : decode (z_hd y).2.1 pc = .ok (.bipush n, 2)) (h : z_X e ph d y Ni No (pc + 2) ls (z_I n :: st) N σ Q) : z_X e ph d y Ni No pc ls st N σ Q := by
  intro r1 r2 r3 p env s m args below meth c H locs la C R h1 h2 hl
  obtain ⟨hx, hb, -⟩ := id C
  exact lv_bipush hx hb hd hn (h r1 (List.forall_mem_cons.mpr ⟨hn2, r2⟩) r3 p env s m args below meth c H locs la C R h1 h2 hl)
theorem z_s_sipush {n : Int} (hn : (Int16.ofInt n).toInt32 = Int32.ofInt n) (hn2 : z_ir n) (hd : decode (z_hd y).2.1 pc = .ok (.sipush n, 3)) (h : z_X e ph d y Ni No (pc + 3) ls (z_I n :: st) N σ Q) : z_X e ph d y Ni No pc ls st N σ Q := by
  intro r1 r2 r3 p env s m args below meth c H locs la C R h1 h2 hl
  obtain ⟨hx, hb, -⟩ := id C
  exact lv_sipush hx hb hd hn (h r1 (List.forall_mem_cons.mpr ⟨hn2, r2⟩) r3 p env s m args below meth c H locs la C R h1 h2 hl)
theorem z_s_ldc {n : Int} {ix : Nat} (hw : Cond.constant (z_hd y).1.cls ix (Int32.ofInt n) ∈ z_gw) (hn : z_ir n) (hd : decode (z_hd y).2.1 pc = .ok (.ldc ix, 2)) (h : z_X e ph d y Ni No (pc + 2) ls (z_I n :: st) N σ Q) : z_X e ph d y Ni No pc ls st N σ Q := by
  intro r1 r2 r3 p env s m args below meth c H locs la C R h1 h2 hl
  obtain ⟨hx, hb, -, -, hown, hts, -⟩ := id C
  exact lv_ldc hx hb hown (hts _ hw) hd (h r1 (List.forall_mem_cons.mpr ⟨hn, r2⟩) r3 p env s m args below meth c H locs la C R h1 h2 hl)
theorem z_s_ldc2 {n : Int} {ix : Nat} (hw : Cond.constantLong (z_hd y).1.cls ix (Int64.ofInt n) ∈ z_gw) (hn : z_lr n) (hd : decode (z_hd y).2.1 pc = .ok (.ldc2_w ix, 3)) (h : z_X e ph d y Ni No (pc + 3) ls (z_J n :: st) N σ Q) : z_X e ph d y Ni No pc ls st N σ Q := by
  intro r1 r2 r3 p env s m args below meth c H locs la C R h1 h2 hl
  obtain ⟨hx, hb, -, -, hown, hts, -⟩ := id C
  exact lv_ldc2 hx hb hown (hts _ hw) hd (h r1 (List.forall_mem_cons.mpr ⟨hn, r2⟩) r3 p env s m args below meth c H locs la C R h1 h2 hl)
theorem z_s_lconst {k : Fin 2} {n : Int} (hk : Int64.ofNat (k : Nat) = Int64.ofInt n) (hn : z_lr n) (hd : decode (z_hd y).2.1 pc = .ok (.lconst k, 1)) (h : z_X e ph d y Ni No (pc + 1) ls (z_J n :: st) N σ Q) : z_X e ph d y Ni No pc ls st N σ Q := by
  intro r1 r2 r3 p env s m args below meth c H locs la C R h1 h2 hl
  obtain ⟨hx, hb, -⟩ := id C
  exact lv_lconst hx hb hd hk (h r1 (List.forall_mem_cons.mpr ⟨hn, r2⟩) r3 p env s m args below meth c H locs la C R h1 h2 hl)
theorem z_s_null (hd : decode (z_hd y).2.1 pc = .ok (.aconst_null, 1)) (h : z_X e ph d y Ni No (pc + 1) ls (z_R (-1) :: st) N σ Q) : z_X e ph d y Ni No pc ls st N σ Q := by
  intro r1 r2 r3 p env s m args below meth c H locs la C R h1 h2 hl
  obtain ⟨hx, hb, -⟩ := id C
  exact lv_null hx hb hd (h r1 (List.forall_mem_cons.mpr ⟨trivial, r2⟩) r3 p env s m args below meth c H locs la C R h1 h2 hl)
theorem z_s_iload_n {k : Fin 4} {x : Int} (hi : z_nth ls (k : Nat) = some (z_I x)) (hd : decode (z_hd y).2.1 pc = .ok (.iload_n k, 1)) (h : z_X e ph d y Ni No (pc + 1) ls (z_I x :: st) N σ Q) : z_X e ph d y Ni No pc ls st N σ Q := by
  intro r1 r2 r3 p env s m args below meth c H locs la C R h1 h2 hl
  obtain ⟨hx, hb, -⟩ := id C
  exact lv_iload_n hx hb hd rfl (z_la hl hi) (h r1 (List.forall_mem_cons.mpr ⟨r1 _ (z_nth_mem hi), r2⟩) r3 p env s m args below meth c H locs la C R h1 h2 hl)
theorem z_s_iload {k : Nat} {x : Int} (hi : z_nth ls k = some (z_I x)) (hd : decode (z_hd y).2.1 pc = .ok (.iload k, 2)) (h : z_X e ph d y Ni No (pc + 2) ls (z_I x :: st) N σ Q) : z_X e ph d y Ni No pc ls st N σ Q := by
  intro r1 r2 r3 p env s m args below meth c H locs la C R h1 h2 hl
  obtain ⟨hx, hb, -⟩ := id C
  exact lv_iload hx hb hd (z_la hl hi) (h r1 (List.forall_mem_cons.mpr ⟨r1 _ (z_nth_mem hi), r2⟩) r3 p env s m args below meth c H locs la C R h1 h2 hl)
theorem z_s_lload_n {k : Fin 4} {x : Int} (hi : z_nth ls (k : Nat) = some (z_J x)) (hd : decode (z_hd y).2.1 pc = .ok (.lload_n k, 1)) (h : z_X e ph d y Ni No (pc + 1) ls (z_J x :: st) N σ Q) : z_X e ph d y Ni No pc ls st N σ Q := by
  intro r1 r2 r3 p env s m args below meth c H locs la C R h1 h2 hl
  obtain ⟨hx, hb, -⟩ := id C
  exact lv_lload_n hx hb hd rfl (z_la hl hi) (h r1 (List.forall_mem_cons.mpr ⟨r1 _ (z_nth_mem hi), r2⟩) r3 p env s m args below meth c H locs la C R h1 h2 hl)
theorem z_s_lload {k : Nat} {x : Int} (hi : z_nth ls k = some (z_J x)) (hd : decode (z_hd y).2.1 pc = .ok (.lload k, 2)) (h : z_X e ph d y Ni No (pc + 2) ls (z_J x :: st) N σ Q) : z_X e ph d y Ni No pc ls st N σ Q := by
  intro r1 r2 r3 p env s m args below meth c H locs la C R h1 h2 hl
  obtain ⟨hx, hb, -⟩ := id C
  exact lv_lload hx hb hd (z_la hl hi) (h r1 (List.forall_mem_cons.mpr ⟨r1 _ (z_nth_mem hi), r2⟩) r3 p env s m args below meth c H locs la C R h1 h2 hl)
theorem z_ad_neg {x : Int} (h : x < 0) : z_ad e x = none := by unfold z_ad; rw [if_pos h]
theorem z_ad_pos {x : Int} (h : ¬ x < 0) : z_ad e x = some (e.2.1.size + x.toNat) := by unfold z_ad; rw [if_neg h]
theorem z_vv_neg {x : Int} (h : x < 0) : z_vv e (z_R x) = .null := by show va_rf (z_ad e x) = _; rw [z_ad_neg h]; rfl
theorem z_vv_pos {x : Int} (h : ¬ x < 0) : z_vv e (z_R x) = .ref (e.2.1.size + x.toNat) := by show va_rf (z_ad e x) = _; rw [z_ad_pos h]; rfl
theorem z_s_aload_n {k : Fin 4} {x : Int} (hi : z_nth ls (k : Nat) = some (z_R x)) (hd : decode (z_hd y).2.1 pc = .ok (.aload_n k, 1)) (h : z_X e ph d y Ni No (pc + 1) ls (z_R x :: st) N σ Q) : z_X e ph d y Ni No pc ls st N σ Q := by
  intro r1 r2 r3 p env s m args below meth c H locs la C R h1 h2 hl
  obtain ⟨hx, hb, -⟩ := id C
  have hv := z_la hl hi
  have hk := h r1 (List.forall_mem_cons.mpr ⟨r1 _ (z_nth_mem hi), r2⟩) r3 p env s m args below meth c H locs la C R h1 h2 hl
  rw [List.map_cons] at hk
  by_cases hx0 : x < 0
  · rw [z_vv_neg hx0] at hv hk
    exact lv_aload_nN hx hb hd rfl hv hk
  · rw [z_vv_pos hx0] at hv hk
    exact lv_aload_n hx hb hd rfl hv hk
theorem z_s_aload {k : Nat} {x : Int} (hi : z_nth ls k = some (z_R x)) (hd : decode (z_hd y).2.1 pc = .ok (.aload k, 2)) (h : z_X e ph d y Ni No (pc + 2) ls (z_R x :: st) N σ Q) : z_X e ph d y Ni No pc ls st N σ Q := by
  intro r1 r2 r3 p env s m args below meth c H locs la C R h1 h2 hl
  obtain ⟨hx, hb, -⟩ := id C
  have hv := z_la hl hi
  have hk := h r1 (List.forall_mem_cons.mpr ⟨r1 _ (z_nth_mem hi), r2⟩) r3 p env s m args below meth c H locs la C R h1 h2 hl
  rw [List.map_cons] at hk
  by_cases hx0 : x < 0
  · rw [z_vv_neg hx0] at hv hk
    exact lv_aloadN hx hb hd hv hk
  · rw [z_vv_pos hx0] at hv hk
    exact lv_aload hx hb hd hv hk
theorem z_s_istore_n {k : Fin 4} {x : Int} (hm : (k : Nat) < (z_hd y).2.2.1) (hd : decode (z_hd y).2.1 pc = .ok (.istore_n k, 1)) (h : z_X e ph d y Ni No (pc + 1) (z_set ls k (z_I x)) st N σ Q) : z_X e ph d y Ni No pc ls (z_I x :: st) N σ Q := by
  intro r1 r2 r3 p env s m args below meth c H locs la C R h1 h2 hl
  obtain ⟨hx, hb, -⟩ := id C
  obtain ⟨r4, r2⟩ := List.forall_mem_cons.mp r2
  exact lv_istore_n hx hb hd rfl hl hm rfl fun la' hl' => h (z_rL_set r1 r4) r2 r3 p env s m args below meth c H locs la' C R h1 h2 (z_has_sub hl' z_set_in)
theorem z_s_istore {k : Nat} {x : Int} (hm : k < (z_hd y).2.2.1) (hd : decode (z_hd y).2.1 pc = .ok (.istore k, 2)) (h : z_X e ph d y Ni No (pc + 2) (z_set ls k (z_I x)) st N σ Q) : z_X e ph d y Ni No pc ls (z_I x :: st) N σ Q := by
  intro r1 r2 r3 p env s m args below meth c H locs la C R h1 h2 hl
  obtain ⟨hx, hb, -⟩ := id C
  obtain ⟨r4, r2⟩ := List.forall_mem_cons.mp r2
  exact lv_istore hx hb hd hl hm rfl fun la' hl' => h (z_rL_set r1 r4) r2 r3 p env s m args below meth c H locs la' C R h1 h2 (z_has_sub hl' z_set_in)
theorem z_s_lstore {k : Nat} {x : Int} (hm : k + 1 < (z_hd y).2.2.1) (hd : decode (z_hd y).2.1 pc = .ok (.lstore k, 2)) (h : z_X e ph d y Ni No (pc + 2) (z_clr (z_set ls k (z_J x)) (k + 1)) st N σ Q) : z_X e ph d y Ni No pc ls (z_J x :: st) N σ Q := by
  intro r1 r2 r3 p env s m args below meth c H locs la C R h1 h2 hl
  obtain ⟨hx, hb, -⟩ := id C
  obtain ⟨r4, r2⟩ := List.forall_mem_cons.mp r2
  exact lv_lstore hx hb hd hl hm rfl fun la' hl' => h (z_rL_clr (z_rL_set r1 r4)) r2 r3 p env s m args below meth c H locs la' C R h1 h2 (z_has_sub hl' z_set2_in)
theorem z_s_astore_n {k : Fin 4} {x : Int} (hm : (k : Nat) < (z_hd y).2.2.1) (hd : decode (z_hd y).2.1 pc = .ok (.astore_n k, 1)) (h : z_X e ph d y Ni No (pc + 1) (z_set ls k (z_R x)) st N σ Q) : z_X e ph d y Ni No pc ls (z_R x :: st) N σ Q := by
  intro r1 r2 r3 p env s m args below meth c H locs la C R h1 h2 hl
  obtain ⟨hx, hb, -⟩ := id C
  obtain ⟨r4, r2⟩ := List.forall_mem_cons.mp r2
  have hin := z_set_in (e := e) (ls := ls) (i := k) (v := z_R x)
  rw [List.map_cons]
  by_cases hx0 : x < 0
  · rw [z_vv_neg hx0] at hin ⊢
    exact lv_astore_nN hx hb hd rfl hl hm rfl fun la' hl' => h (z_rL_set r1 r4) r2 r3 p env s m args below meth c H locs la' C R h1 h2 (z_has_sub hl' hin)
  · rw [z_vv_pos hx0] at hin ⊢
    exact lv_astore_n hx hb hd rfl hl hm rfl fun la' hl' => h (z_rL_set r1 r4) r2 r3 p env s m args below meth c H locs la' C R h1 h2 (z_has_sub hl' hin)
theorem z_s_astore {k : Nat} {x : Int} (hm : k < (z_hd y).2.2.1) (hd : decode (z_hd y).2.1 pc = .ok (.astore k, 2)) (h : z_X e ph d y Ni No (pc + 2) (z_set ls k (z_R x)) st N σ Q) : z_X e ph d y Ni No pc ls (z_R x :: st) N σ Q := by
  intro r1 r2 r3 p env s m args below meth c H locs la C R h1 h2 hl
  obtain ⟨hx, hb, -⟩ := id C
  obtain ⟨r4, r2⟩ := List.forall_mem_cons.mp r2
  have hin := z_set_in (e := e) (ls := ls) (i := k) (v := z_R x)
  rw [List.map_cons]
  by_cases hx0 : x < 0
  · rw [z_vv_neg hx0] at hin ⊢
    exact lv_astoreN hx hb hd hl hm rfl fun la' hl' => h (z_rL_set r1 r4) r2 r3 p env s m args below meth c H locs la' C R h1 h2 (z_has_sub hl' hin)
  · rw [z_vv_pos hx0] at hin ⊢
    exact lv_astore hx hb hd hl hm rfl fun la' hl' => h (z_rL_set r1 r4) r2 r3 p env s m args below meth c H locs la' C R h1 h2 (z_has_sub hl' hin)
theorem z_s_iinc {k : Nat} {n x : Int} (hm : k < (z_hd y).2.2.1) (hi : z_nth ls k = some (z_I x)) (hd : decode (z_hd y).2.1 pc = .ok (.iinc k n, 3)) (h : z_X e ph d y Ni No (pc + 3) (z_set ls k (z_I (z_wr (x + n)))) st N σ Q) : z_X e ph d y Ni No pc ls st N σ Q := by
  intro r1 r2 r3 p env s m args below meth c H locs la C R h1 h2 hl
  obtain ⟨hx, hb, -⟩ := id C
  have hmem : (k, Value.int (Int32.ofInt x)) ∈ z_en e 0 ls := (z_en_mem e ls 0 k _).mpr ⟨k, _, by omega, z_nth_get ls k _ hi, rfl⟩
  obtain ⟨j, hj⟩ := List.getElem?_of_mem hmem
  have hin := z_set_in (e := e) (ls := ls) (i := k) (v := z_I (z_wr (x + n)))
  refine lv_iinc (v := Int32.ofInt (z_wr (x + n))) hx hb hd hl hj ?_ hm rfl fun la' hl' => h (z_rL_set r1 (z_wr_ir _)) r2 r3 p env s m args below meth c H locs la' C R h1 h2 (z_has_sub hl' hin)
  rw [z_of_wr, Int32.ofInt_add]
theorem z_s_goto {t : Nat} {off : Int} (ht : (pc : Int) + off = (t : Int)) (hd : decode (z_hd y).2.1 pc = .ok (.goto off, 3)) (h : z_X e ph d y Ni No t ls st N σ Q) : z_X e ph d y Ni No pc ls st N σ Q := by
  intro r1 r2 r3 p env s m args below meth c H locs la C R h1 h2 hl
  obtain ⟨hx, hb, -⟩ := id C
  exact lv_goto hx hb hd ht (h r1 r2 r3 p env s m args below meth c H locs la C R h1 h2 hl)
end ZI
end
section
/-! instructions: arithmetic, branches -/
theorem z_i_div {x y : Int} (hx : z_ir x) (hy : z_ir y) : Int32.ofInt (z_wr (x.tdiv y)) = Int32.ofInt x / Int32.ofInt y := by
  apply Int32.toInt_inj.mp
  rw [Int32.toInt_div, z_to hx, z_to hy, z_to (z_wr_ir _)]
  exact (z_bm _).symm
theorem z_l_div {x y : Int} (hx : z_lr x) (hy : z_lr y) : Int64.ofInt (z_wl (x.tdiv y)) = Int64.ofInt x / Int64.ofInt y := by
  apply Int64.toInt_inj.mp
  rw [Int64.toInt_div, z_tol hx, z_tol hy, z_tol (z_wl_lr _)]
  exact (z_bml _).symm
theorem z_i_rem {x y : Int} (hx : z_ir x) (hy : z_ir y) : Int32.ofInt (z_wr (x - x.tdiv y * y)) = Int32.ofInt x - Int32.ofInt x / Int32.ofInt y * Int32.ofInt y := by
  rw [← z_i_div hx hy, z_of_wr, z_of_wr, Int32.ofInt_sub, Int32.ofInt_mul]
theorem z_i_i2l {x : Int} (hx : z_ir x) : (Int32.ofInt x).toInt64 = Int64.ofInt x := by
  apply Int64.toInt_inj.mp
  rw [Int32.toInt_toInt64, z_to hx, z_tol (by unfold z_ir at hx; unfold z_lr; omega)]
theorem z_l_l2i {x : Int} (hx : z_lr x) : (Int64.ofInt x).toInt32 = Int32.ofInt (z_wr x) := by
  apply Int32.toInt_inj.mp
  rw [Int64.toInt_toInt32, z_tol hx, z_to (z_wr_ir _)]
  exact z_bm _
theorem z_l_lt {x y : Int} (hx : z_lr x) (hy : z_lr y) : Int64.ofInt x < Int64.ofInt y ↔ x < y := by
  rw [Int64.lt_iff_toInt_lt, z_tol hx, z_tol hy]
theorem z_l_eq {x y : Int} (hx : z_lr x) (hy : z_lr y) : Int64.ofInt x = Int64.ofInt y ↔ x = y :=
  ⟨fun h => by rw [← z_tol hx, ← z_tol hy, h], fun h => by rw [h]⟩
def z_lcmp (x y : Int) : Int := if y < x then 1 else if x = y then 0 else -1
theorem z_l_cmp {x y : Int} (hx : z_lr x) (hy : z_lr y) : lg_cmp (Int64.ofInt x) (Int64.ofInt y) = Int32.ofInt (z_lcmp x y) := by
  unfold lg_cmp z_lcmp
  simp only [gt_iff_lt, z_l_lt hy hx, z_l_eq hx hy]
  split
  · rfl
  · split <;> rfl
theorem z_lcmp_ir (x y : Int) : z_ir (z_lcmp x y) := by unfold z_lcmp z_ir; split; omega; split <;> omega
section ZA
variable {e : z_E} {ph : Bool} {d y Ni No pc N : Nat} {ls : List (Option z_V)} {st : List z_V} {σ : z_M} {Q : Int → z_M → Prop}
theorem z_s_iadd {x y0 : Int} (hd : decode (z_hd y).2.1 pc = .ok (.iadd, 1)) (h : z_X e ph d y Ni No (pc + 1) ls (z_I (z_wr (x + y0)) :: st) N σ Q) : z_X e ph d y Ni No pc ls (z_I y0 :: z_I x :: st) N σ Q := by
  intro r1 r2 r3 p env s m args below meth c H locs la C R h1 h2 hl
  obtain ⟨hx, hb, -⟩ := id C
  obtain ⟨ry, r2⟩ := List.forall_mem_cons.mp r2
  obtain ⟨rx, r2⟩ := List.forall_mem_cons.mp r2
  have hk := h r1 (List.forall_mem_cons.mpr ⟨z_wr_ir _, r2⟩) r3 p env s m args below meth c H locs la C R h1 h2 hl
  rw [List.map_cons, show z_vv e (z_I (z_wr (x + y0))) = Value.int (Int32.ofInt x + Int32.ofInt y0) from congrArg Value.int (by rw [z_of_wr, Int32.ofInt_add])] at hk
  exact lv_iadd hx hb hd hk
theorem z_s_isub {x y0 : Int} (hd : decode (z_hd y).2.1 pc = .ok (.isub, 1)) (h : z_X e ph d y Ni No (pc + 1) ls (z_I (z_wr (x - y0)) :: st) N σ Q) : z_X e ph d y Ni No pc ls (z_I y0 :: z_I x :: st) N σ Q := by
  intro r1 r2 r3 p env s m args below meth c H locs la C R h1 h2 hl
  obtain ⟨hx, hb, -⟩ := id C
  obtain ⟨ry, r2⟩ := List.forall_mem_cons.mp r2
  obtain ⟨rx, r2⟩ := List.forall_mem_cons.mp r2
  have hk := h r1 (List.forall_mem_cons.mpr ⟨z_wr_ir _, r2⟩) r3 p env s m args below meth c H locs la C R h1 h2 hl
  rw [List.map_cons, show z_vv e (z_I (z_wr (x - y0))) = Value.int (Int32.ofInt x - Int32.ofInt y0) from congrArg Value.int (by rw [z_of_wr, Int32.ofInt_sub])] at hk
  exact lv_isub hx hb hd hk
theorem z_s_imul {x y0 : Int} (hd : decode (z_hd y).2.1 pc = .ok (.imul, 1)) (h : z_X e ph d y Ni No (pc + 1) ls (z_I (z_wr (x * y0)) :: st) N σ Q) : z_X e ph d y Ni No pc ls (z_I y0 :: z_I x :: st) N σ Q := by
  intro r1 r2 r3 p env s m args below meth c H locs la C R h1 h2 hl
  obtain ⟨hx, hb, -⟩ := id C
  obtain ⟨ry, r2⟩ := List.forall_mem_cons.mp r2
  obtain ⟨rx, r2⟩ := List.forall_mem_cons.mp r2
  have hk := h r1 (List.forall_mem_cons.mpr ⟨z_wr_ir _, r2⟩) r3 p env s m args below meth c H locs la C R h1 h2 hl
  rw [List.map_cons, show z_vv e (z_I (z_wr (x * y0))) = Value.int (Int32.ofInt x * Int32.ofInt y0) from congrArg Value.int (by rw [z_of_wr, Int32.ofInt_mul])] at hk
  exact lv_imul hx hb hd hk
theorem z_s_iand {x y0 : Int} (hd : decode (z_hd y).2.1 pc = .ok (.iand, 1)) (h : z_X e ph d y Ni No (pc + 1) ls (z_I (z_and x y0) :: st) N σ Q) : z_X e ph d y Ni No pc ls (z_I y0 :: z_I x :: st) N σ Q := by
  intro r1 r2 r3 p env s m args below meth c H locs la C R h1 h2 hl
  obtain ⟨hx, hb, -⟩ := id C
  obtain ⟨ry, r2⟩ := List.forall_mem_cons.mp r2
  obtain ⟨rx, r2⟩ := List.forall_mem_cons.mp r2
  have hk := h r1 (List.forall_mem_cons.mpr ⟨z_toir _, r2⟩) r3 p env s m args below meth c H locs la C R h1 h2 hl
  rw [List.map_cons, show z_vv e (z_I (z_and x y0)) = Value.int (Int32.ofInt x &&& Int32.ofInt y0) from congrArg Value.int (Int32.ofInt_toInt _)] at hk
  exact lv_iand hx hb hd hk
theorem z_s_ior {x y0 : Int} (hd : decode (z_hd y).2.1 pc = .ok (.ior, 1)) (h : z_X e ph d y Ni No (pc + 1) ls (z_I (z_or x y0) :: st) N σ Q) : z_X e ph d y Ni No pc ls (z_I y0 :: z_I x :: st) N σ Q := by
  intro r1 r2 r3 p env s m args below meth c H locs la C R h1 h2 hl
  obtain ⟨hx, hb, -⟩ := id C
  obtain ⟨ry, r2⟩ := List.forall_mem_cons.mp r2
  obtain ⟨rx, r2⟩ := List.forall_mem_cons.mp r2
  have hk := h r1 (List.forall_mem_cons.mpr ⟨z_toir _, r2⟩) r3 p env s m args below meth c H locs la C R h1 h2 hl
  rw [List.map_cons, show z_vv e (z_I (z_or x y0)) = Value.int (Int32.ofInt x ||| Int32.ofInt y0) from congrArg Value.int (Int32.ofInt_toInt _)] at hk
  exact lv_ior hx hb hd hk
theorem z_s_ishl {x y0 : Int} (hd : decode (z_hd y).2.1 pc = .ok (.ishl, 1)) (h : z_X e ph d y Ni No (pc + 1) ls (z_I (z_shl x y0) :: st) N σ Q) : z_X e ph d y Ni No pc ls (z_I y0 :: z_I x :: st) N σ Q := by
  intro r1 r2 r3 p env s m args below meth c H locs la C R h1 h2 hl
  obtain ⟨hx, hb, -⟩ := id C
  obtain ⟨ry, r2⟩ := List.forall_mem_cons.mp r2
  obtain ⟨rx, r2⟩ := List.forall_mem_cons.mp r2
  have hk := h r1 (List.forall_mem_cons.mpr ⟨z_toir _, r2⟩) r3 p env s m args below meth c H locs la C R h1 h2 hl
  rw [List.map_cons, show z_vv e (z_I (z_shl x y0)) = Value.int (Int32.ofInt x <<< (Int32.ofInt y0 &&& 31)) from congrArg Value.int (Int32.ofInt_toInt _)] at hk
  exact lv_ishl hx hb hd hk
theorem z_s_ishr {x y0 : Int} (hd : decode (z_hd y).2.1 pc = .ok (.ishr, 1)) (h : z_X e ph d y Ni No (pc + 1) ls (z_I (z_shr x y0) :: st) N σ Q) : z_X e ph d y Ni No pc ls (z_I y0 :: z_I x :: st) N σ Q := by
  intro r1 r2 r3 p env s m args below meth c H locs la C R h1 h2 hl
  obtain ⟨hx, hb, -⟩ := id C
  obtain ⟨ry, r2⟩ := List.forall_mem_cons.mp r2
  obtain ⟨rx, r2⟩ := List.forall_mem_cons.mp r2
  have hk := h r1 (List.forall_mem_cons.mpr ⟨z_toir _, r2⟩) r3 p env s m args below meth c H locs la C R h1 h2 hl
  rw [List.map_cons, show z_vv e (z_I (z_shr x y0)) = Value.int (Int32.ofInt x >>> (Int32.ofInt y0 &&& 31)) from congrArg Value.int (Int32.ofInt_toInt _)] at hk
  exact lv_ishr hx hb hd hk
theorem z_s_idiv {x y0 : Int} (hne : ¬ y0 = 0) (hd : decode (z_hd y).2.1 pc = .ok (.idiv, 1)) (h : z_X e ph d y Ni No (pc + 1) ls (z_I (z_wr (x.tdiv y0)) :: st) N σ Q) : z_X e ph d y Ni No pc ls (z_I y0 :: z_I x :: st) N σ Q := by
  intro r1 r2 r3 p env s m args below meth c H locs la C R h1 h2 hl
  obtain ⟨hx, hb, -⟩ := id C
  obtain ⟨ry, r2⟩ := List.forall_mem_cons.mp r2
  obtain ⟨rx, r2⟩ := List.forall_mem_cons.mp r2
  have hk := h r1 (List.forall_mem_cons.mpr ⟨z_wr_ir _, r2⟩) r3 p env s m args below meth c H locs la C R h1 h2 hl
  rw [List.map_cons, show z_vv e (z_I (z_wr (x.tdiv y0))) = Value.int (Int32.ofInt x / Int32.ofInt y0) from congrArg Value.int (z_i_div rx ry)] at hk
  exact lv_idiv hx hb hd (fun q => hne ((z_eq ry z_ir0).mp q)) hk
theorem z_s_irem {x y0 : Int} (hne : ¬ y0 = 0) (hd : decode (z_hd y).2.1 pc = .ok (.irem, 1)) (h : z_X e ph d y Ni No (pc + 1) ls (z_I (z_wr (x - x.tdiv y0 * y0)) :: st) N σ Q) : z_X e ph d y Ni No pc ls (z_I y0 :: z_I x :: st) N σ Q := by
  intro r1 r2 r3 p env s m args below meth c H locs la C R h1 h2 hl
  obtain ⟨hx, hb, -⟩ := id C
  obtain ⟨ry, r2⟩ := List.forall_mem_cons.mp r2
  obtain ⟨rx, r2⟩ := List.forall_mem_cons.mp r2
  have hk := h r1 (List.forall_mem_cons.mpr ⟨z_wr_ir _, r2⟩) r3 p env s m args below meth c H locs la C R h1 h2 hl
  rw [List.map_cons, show z_vv e (z_I (z_wr (x - x.tdiv y0 * y0))) = Value.int (Int32.ofInt x - Int32.ofInt x / Int32.ofInt y0 * Int32.ofInt y0) from congrArg Value.int (z_i_rem rx ry)] at hk
  exact lv_irem hx hb hd (fun q => hne ((z_eq ry z_ir0).mp q)) hk
theorem z_s_ladd {x y0 : Int} (hd : decode (z_hd y).2.1 pc = .ok (.ladd, 1)) (h : z_X e ph d y Ni No (pc + 1) ls (z_J (z_wl (x + y0)) :: st) N σ Q) : z_X e ph d y Ni No pc ls (z_J y0 :: z_J x :: st) N σ Q := by
  intro r1 r2 r3 p env s m args below meth c H locs la C R h1 h2 hl
  obtain ⟨hx, hb, -⟩ := id C
  obtain ⟨ry, r2⟩ := List.forall_mem_cons.mp r2
  obtain ⟨rx, r2⟩ := List.forall_mem_cons.mp r2
  have hk := h r1 (List.forall_mem_cons.mpr ⟨z_wl_lr _, r2⟩) r3 p env s m args below meth c H locs la C R h1 h2 hl
  rw [List.map_cons, show z_vv e (z_J (z_wl (x + y0))) = Value.long (Int64.ofInt x + Int64.ofInt y0) from congrArg Value.long (by rw [z_of_wl, Int64.ofInt_add])] at hk
  exact lv_ladd hx hb hd hk
theorem z_s_lsub {x y0 : Int} (hd : decode (z_hd y).2.1 pc = .ok (.lsub, 1)) (h : z_X e ph d y Ni No (pc + 1) ls (z_J (z_wl (x - y0)) :: st) N σ Q) : z_X e ph d y Ni No pc ls (z_J y0 :: z_J x :: st) N σ Q := by
  intro r1 r2 r3 p env s m args below meth c H locs la C R h1 h2 hl
  obtain ⟨hx, hb, -⟩ := id C
  obtain ⟨ry, r2⟩ := List.forall_mem_cons.mp r2
  obtain ⟨rx, r2⟩ := List.forall_mem_cons.mp r2
  have hk := h r1 (List.forall_mem_cons.mpr ⟨z_wl_lr _, r2⟩) r3 p env s m args below meth c H locs la C R h1 h2 hl
  rw [List.map_cons, show z_vv e (z_J (z_wl (x - y0))) = Value.long (Int64.ofInt x - Int64.ofInt y0) from congrArg Value.long (by rw [z_of_wl, Int64.ofInt_sub])] at hk
  exact lv_lsub hx hb hd hk
theorem z_s_lmul {x y0 : Int} (hd : decode (z_hd y).2.1 pc = .ok (.lmul, 1)) (h : z_X e ph d y Ni No (pc + 1) ls (z_J (z_wl (x * y0)) :: st) N σ Q) : z_X e ph d y Ni No pc ls (z_J y0 :: z_J x :: st) N σ Q := by
  intro r1 r2 r3 p env s m args below meth c H locs la C R h1 h2 hl
  obtain ⟨hx, hb, -⟩ := id C
  obtain ⟨ry, r2⟩ := List.forall_mem_cons.mp r2
  obtain ⟨rx, r2⟩ := List.forall_mem_cons.mp r2
  have hk := h r1 (List.forall_mem_cons.mpr ⟨z_wl_lr _, r2⟩) r3 p env s m args below meth c H locs la C R h1 h2 hl
  rw [List.map_cons, show z_vv e (z_J (z_wl (x * y0))) = Value.long (Int64.ofInt x * Int64.ofInt y0) from congrArg Value.long (by rw [z_of_wl, Int64.ofInt_mul])] at hk
  exact lv_lmul hx hb hd hk
theorem z_s_ldiv {x y0 : Int} (hne : ¬ y0 = 0) (hd : decode (z_hd y).2.1 pc = .ok (.ldiv, 1)) (h : z_X e ph d y Ni No (pc + 1) ls (z_J (z_wl (x.tdiv y0)) :: st) N σ Q) : z_X e ph d y Ni No pc ls (z_J y0 :: z_J x :: st) N σ Q := by
  intro r1 r2 r3 p env s m args below meth c H locs la C R h1 h2 hl
  obtain ⟨hx, hb, -⟩ := id C
  obtain ⟨ry, r2⟩ := List.forall_mem_cons.mp r2
  obtain ⟨rx, r2⟩ := List.forall_mem_cons.mp r2
  have hk := h r1 (List.forall_mem_cons.mpr ⟨z_wl_lr _, r2⟩) r3 p env s m args below meth c H locs la C R h1 h2 hl
  rw [List.map_cons, show z_vv e (z_J (z_wl (x.tdiv y0))) = Value.long (Int64.ofInt x / Int64.ofInt y0) from congrArg Value.long (z_l_div rx ry)] at hk
  exact lv_ldiv hx hb hd (fun q => hne ((z_l_eq ry (by show z_lr 0; unfold z_lr; omega)).mp q)) hk
theorem z_s_lcmp {x y0 : Int} (hd : decode (z_hd y).2.1 pc = .ok (.lcmp, 1)) (h : z_X e ph d y Ni No (pc + 1) ls (z_I (z_lcmp x y0) :: st) N σ Q) : z_X e ph d y Ni No pc ls (z_J y0 :: z_J x :: st) N σ Q := by
  intro r1 r2 r3 p env s m args below meth c H locs la C R h1 h2 hl
  obtain ⟨hx, hb, -⟩ := id C
  obtain ⟨ry, r2⟩ := List.forall_mem_cons.mp r2
  obtain ⟨rx, r2⟩ := List.forall_mem_cons.mp r2
  have hk := h r1 (List.forall_mem_cons.mpr ⟨z_lcmp_ir _ _, r2⟩) r3 p env s m args below meth c H locs la C R h1 h2 hl
  rw [List.map_cons, show z_vv e (z_I (z_lcmp x y0)) = Value.int (lg_cmp (Int64.ofInt x) (Int64.ofInt y0)) from congrArg Value.int (z_l_cmp rx ry).symm] at hk
  exact W.lcmp hx hb hd hk
theorem z_s_ineg {x : Int} (hd : decode (z_hd y).2.1 pc = .ok (.ineg, 1)) (h : z_X e ph d y Ni No (pc + 1) ls (z_I (z_wr (-x)) :: st) N σ Q) : z_X e ph d y Ni No pc ls (z_I x :: st) N σ Q := by
  intro r1 r2 r3 p env s m args below meth c H locs la C R h1 h2 hl
  obtain ⟨hx, hb, -⟩ := id C
  obtain ⟨rx, r2⟩ := List.forall_mem_cons.mp r2
  have hk := h r1 (List.forall_mem_cons.mpr ⟨z_wr_ir _, r2⟩) r3 p env s m args below meth c H locs la C R h1 h2 hl
  rw [List.map_cons, show z_vv e (z_I (z_wr (-x))) = Value.int (-Int32.ofInt x) from congrArg Value.int (by rw [z_of_wr, Int32.ofInt_neg])] at hk
  exact lv_ineg hx hb hd hk
theorem z_s_i2l {x : Int} (hd : decode (z_hd y).2.1 pc = .ok (.i2l, 1)) (h : z_X e ph d y Ni No (pc + 1) ls (z_J (x) :: st) N σ Q) : z_X e ph d y Ni No pc ls (z_I x :: st) N σ Q := by
  intro r1 r2 r3 p env s m args below meth c H locs la C R h1 h2 hl
  obtain ⟨hx, hb, -⟩ := id C
  obtain ⟨rx, r2⟩ := List.forall_mem_cons.mp r2
  have hk := h r1 (List.forall_mem_cons.mpr ⟨by unfold z_rg z_ir at rx; unfold z_rg z_lr; simp only at rx ⊢; omega, r2⟩) r3 p env s m args below meth c H locs la C R h1 h2 hl
  rw [List.map_cons, show z_vv e (z_J (x)) = Value.long (Int32.ofInt x).toInt64 from congrArg Value.long (z_i_i2l rx).symm] at hk
  exact lv_i2l hx hb hd rfl hk
theorem z_s_l2i {x : Int} (hd : decode (z_hd y).2.1 pc = .ok (.l2i, 1)) (h : z_X e ph d y Ni No (pc + 1) ls (z_I (z_wr x) :: st) N σ Q) : z_X e ph d y Ni No pc ls (z_J x :: st) N σ Q := by
  intro r1 r2 r3 p env s m args below meth c H locs la C R h1 h2 hl
  obtain ⟨hx, hb, -⟩ := id C
  obtain ⟨rx, r2⟩ := List.forall_mem_cons.mp r2
  have hk := h r1 (List.forall_mem_cons.mpr ⟨z_wr_ir _, r2⟩) r3 p env s m args below meth c H locs la C R h1 h2 hl
  rw [List.map_cons, show z_vv e (z_I (z_wr x)) = Value.int (Int64.ofInt x).toInt32 from congrArg Value.int (z_l_l2i rx).symm] at hk
  exact lv_l2i hx hb hd rfl hk
theorem z_s_dup {v : z_V} (hv : ∀ x, v ≠ z_J x) (hd : decode (z_hd y).2.1 pc = .ok (.dup, 1)) (h : z_X e ph d y Ni No (pc + 1) ls (v :: v :: st) N σ Q) : z_X e ph d y Ni No pc ls (v :: st) N σ Q := by
  intro r1 r2 r3 p env s m args below meth c H locs la C R h1 h2 hl
  obtain ⟨hx, hb, -⟩ := id C
  obtain ⟨rv, r2'⟩ := List.forall_mem_cons.mp r2
  exact lv_dup hx hb hd (z_cat2 hv) (h r1 (List.forall_mem_cons.mpr ⟨rv, r2⟩) r3 p env s m args below meth c H locs la C R h1 h2 hl)
theorem z_s_dup2 {v u : z_V} (hv : ∀ x, v ≠ z_J x) (hu : ∀ x, u ≠ z_J x) (hd : decode (z_hd y).2.1 pc = .ok (.dup2, 1)) (h : z_X e ph d y Ni No (pc + 1) ls (v :: u :: v :: u :: st) N σ Q) : z_X e ph d y Ni No pc ls (v :: u :: st) N σ Q := by
  intro r1 r2 r3 p env s m args below meth c H locs la C R h1 h2 hl
  obtain ⟨hx, hb, -⟩ := id C
  obtain ⟨rv, r4⟩ := List.forall_mem_cons.mp r2
  obtain ⟨ru, r5⟩ := List.forall_mem_cons.mp r4
  exact lv_dup2_11 hx hb hd (z_cat2 hv) (z_cat2 hu) (h r1 (List.forall_mem_cons.mpr ⟨rv, List.forall_mem_cons.mpr ⟨ru, r2⟩⟩) r3 p env s m args below meth c H locs la C R h1 h2 hl)
theorem z_s_pop {v : z_V} (hv : ∀ x, v ≠ z_J x) (hd : decode (z_hd y).2.1 pc = .ok (.pop, 1)) (h : z_X e ph d y Ni No (pc + 1) ls st N σ Q) : z_X e ph d y Ni No pc ls (v :: st) N σ Q := by
  intro r1 r2 r3 p env s m args below meth c H locs la C R h1 h2 hl
  obtain ⟨hx, hb, -⟩ := id C
  obtain ⟨rv, r2⟩ := List.forall_mem_cons.mp r2
  exact lv_pop hx hb hd (z_cat2 hv) (h r1 r2 r3 p env s m args below meth c H locs la C R h1 h2 hl)
theorem z_s_icmp_eq {x y0 : Int} {t : Nat} {off : Int} (ht : (pc : Int) + off = (t : Int)) (hd : decode (z_hd y).2.1 pc = .ok (.if_icmp .eq off, 3)) (ht2 : x = y0 → z_X e ph d y Ni No t ls st N σ Q) (hf2 : ¬ x = y0 → z_X e ph d y Ni No (pc + 3) ls st N σ Q) : z_X e ph d y Ni No pc ls (z_I y0 :: z_I x :: st) N σ Q := by
  intro r1 r2 r3 p env s m args below meth c H locs la C R h1 h2 hl
  obtain ⟨hx, hb, -⟩ := id C
  obtain ⟨ry, r2⟩ := List.forall_mem_cons.mp r2
  obtain ⟨rx, r2⟩ := List.forall_mem_cons.mp r2
  exact lv_icmp_eq hx hb hd ht (fun q => (ht2 ((z_eq rx ry).mp q)) r1 r2 r3 p env s m args below meth c H locs la C R h1 h2 hl) (fun q => (hf2 (fun w => q ((z_eq rx ry).mpr w))) r1 r2 r3 p env s m args below meth c H locs la C R h1 h2 hl)
theorem z_s_if_eq {x : Int} {t : Nat} {off : Int} (ht : (pc : Int) + off = (t : Int)) (hd : decode (z_hd y).2.1 pc = .ok (.ifCond .eq off, 3)) (ht2 : x = 0 → z_X e ph d y Ni No t ls st N σ Q) (hf2 : ¬ x = 0 → z_X e ph d y Ni No (pc + 3) ls st N σ Q) : z_X e ph d y Ni No pc ls (z_I x :: st) N σ Q := by
  intro r1 r2 r3 p env s m args below meth c H locs la C R h1 h2 hl
  obtain ⟨hx, hb, -⟩ := id C
  obtain ⟨rx, r2⟩ := List.forall_mem_cons.mp r2
  have ry := z_ir0
  exact lv_if_eq hx hb hd ht (fun q => (ht2 ((z_eq rx ry).mp q)) r1 r2 r3 p env s m args below meth c H locs la C R h1 h2 hl) (fun q => (hf2 (fun w => q ((z_eq rx ry).mpr w))) r1 r2 r3 p env s m args below meth c H locs la C R h1 h2 hl)
theorem z_s_icmp_ne {x y0 : Int} {t : Nat} {off : Int} (ht : (pc : Int) + off = (t : Int)) (hd : decode (z_hd y).2.1 pc = .ok (.if_icmp .ne off, 3)) (ht2 : ¬ x = y0 → z_X e ph d y Ni No t ls st N σ Q) (hf2 : x = y0 → z_X e ph d y Ni No (pc + 3) ls st N σ Q) : z_X e ph d y Ni No pc ls (z_I y0 :: z_I x :: st) N σ Q := by
  intro r1 r2 r3 p env s m args below meth c H locs la C R h1 h2 hl
  obtain ⟨hx, hb, -⟩ := id C
  obtain ⟨ry, r2⟩ := List.forall_mem_cons.mp r2
  obtain ⟨rx, r2⟩ := List.forall_mem_cons.mp r2
  exact lv_icmp_ne hx hb hd ht (fun q => (ht2 (fun w => q ((z_eq rx ry).mpr w))) r1 r2 r3 p env s m args below meth c H locs la C R h1 h2 hl) (fun q => (hf2 ((z_eq rx ry).mp q)) r1 r2 r3 p env s m args below meth c H locs la C R h1 h2 hl)
theorem z_s_if_ne {x : Int} {t : Nat} {off : Int} (ht : (pc : Int) + off = (t : Int)) (hd : decode (z_hd y).2.1 pc = .ok (.ifCond .ne off, 3)) (ht2 : ¬ x = 0 → z_X e ph d y Ni No t ls st N σ Q) (hf2 : x = 0 → z_X e ph d y Ni No (pc + 3) ls st N σ Q) : z_X e ph d y Ni No pc ls (z_I x :: st) N σ Q := by
  intro r1 r2 r3 p env s m args below meth c H locs la C R h1 h2 hl
  obtain ⟨hx, hb, -⟩ := id C
  obtain ⟨rx, r2⟩ := List.forall_mem_cons.mp r2
  have ry := z_ir0
  exact lv_if_ne hx hb hd ht (fun q => (ht2 (fun w => q ((z_eq rx ry).mpr w))) r1 r2 r3 p env s m args below meth c H locs la C R h1 h2 hl) (fun q => (hf2 ((z_eq rx ry).mp q)) r1 r2 r3 p env s m args below meth c H locs la C R h1 h2 hl)
theorem z_s_icmp_lt {x y0 : Int} {t : Nat} {off : Int} (ht : (pc : Int) + off = (t : Int)) (hd : decode (z_hd y).2.1 pc = .ok (.if_icmp .lt off, 3)) (ht2 : x < y0 → z_X e ph d y Ni No t ls st N σ Q) (hf2 : y0 ≤ x → z_X e ph d y Ni No (pc + 3) ls st N σ Q) : z_X e ph d y Ni No pc ls (z_I y0 :: z_I x :: st) N σ Q := by
  intro r1 r2 r3 p env s m args below meth c H locs la C R h1 h2 hl
  obtain ⟨hx, hb, -⟩ := id C
  obtain ⟨ry, r2⟩ := List.forall_mem_cons.mp r2
  obtain ⟨rx, r2⟩ := List.forall_mem_cons.mp r2
  exact lv_icmp_lt hx hb hd ht (fun q => (ht2 ((z_lt rx ry).mp q)) r1 r2 r3 p env s m args below meth c H locs la C R h1 h2 hl) (fun q => (hf2 (by have q2 := mt (z_lt rx ry).mpr q; omega)) r1 r2 r3 p env s m args below meth c H locs la C R h1 h2 hl)
theorem z_s_if_lt {x : Int} {t : Nat} {off : Int} (ht : (pc : Int) + off = (t : Int)) (hd : decode (z_hd y).2.1 pc = .ok (.ifCond .lt off, 3)) (ht2 : x < 0 → z_X e ph d y Ni No t ls st N σ Q) (hf2 : 0 ≤ x → z_X e ph d y Ni No (pc + 3) ls st N σ Q) : z_X e ph d y Ni No pc ls (z_I x :: st) N σ Q := by
  intro r1 r2 r3 p env s m args below meth c H locs la C R h1 h2 hl
  obtain ⟨hx, hb, -⟩ := id C
  obtain ⟨rx, r2⟩ := List.forall_mem_cons.mp r2
  have ry := z_ir0
  exact lv_if_lt hx hb hd ht (fun q => (ht2 ((z_lt rx ry).mp q)) r1 r2 r3 p env s m args below meth c H locs la C R h1 h2 hl) (fun q => (hf2 (by have q2 := mt (z_lt rx ry).mpr q; omega)) r1 r2 r3 p env s m args below meth c H locs la C R h1 h2 hl)
theorem z_s_icmp_ge {x y0 : Int} {t : Nat} {off : Int} (ht : (pc : Int) + off = (t : Int)) (hd : decode (z_hd y).2.1 pc = .ok (.if_icmp .ge off, 3)) (ht2 : y0 ≤ x → z_X e ph d y Ni No t ls st N σ Q) (hf2 : x < y0 → z_X e ph d y Ni No (pc + 3) ls st N σ Q) : z_X e ph d y Ni No pc ls (z_I y0 :: z_I x :: st) N σ Q := by
  intro r1 r2 r3 p env s m args below meth c H locs la C R h1 h2 hl
  obtain ⟨hx, hb, -⟩ := id C
  obtain ⟨ry, r2⟩ := List.forall_mem_cons.mp r2
  obtain ⟨rx, r2⟩ := List.forall_mem_cons.mp r2
  exact lv_icmp_ge hx hb hd ht (fun q => (ht2 ((z_le ry rx).mp q)) r1 r2 r3 p env s m args below meth c H locs la C R h1 h2 hl) (fun q => (hf2 (by have q2 := mt (z_le ry rx).mpr q; omega)) r1 r2 r3 p env s m args below meth c H locs la C R h1 h2 hl)
theorem z_s_if_ge {x : Int} {t : Nat} {off : Int} (ht : (pc : Int) + off = (t : Int)) (hd : decode (z_hd y).2.1 pc = .ok (.ifCond .ge off, 3)) (ht2 : 0 ≤ x → z_X e ph d y Ni No t ls st N σ Q) (hf2 : x < 0 → z_X e ph d y Ni No (pc + 3) ls st N σ Q) : z_X e ph d y Ni No pc ls (z_I x :: st) N σ Q := by
  intro r1 r2 r3 p env s m args below meth c H locs la C R h1 h2 hl
  obtain ⟨hx, hb, -⟩ := id C
  obtain ⟨rx, r2⟩ := List.forall_mem_cons.mp r2
  have ry := z_ir0
  exact lv_if_ge hx hb hd ht (fun q => (ht2 ((z_le ry rx).mp q)) r1 r2 r3 p env s m args below meth c H locs la C R h1 h2 hl) (fun q => (hf2 (by have q2 := mt (z_le ry rx).mpr q; omega)) r1 r2 r3 p env s m args below meth c H locs la C R h1 h2 hl)
theorem z_s_icmp_gt {x y0 : Int} {t : Nat} {off : Int} (ht : (pc : Int) + off = (t : Int)) (hd : decode (z_hd y).2.1 pc = .ok (.if_icmp .gt off, 3)) (ht2 : y0 < x → z_X e ph d y Ni No t ls st N σ Q) (hf2 : x ≤ y0 → z_X e ph d y Ni No (pc + 3) ls st N σ Q) : z_X e ph d y Ni No pc ls (z_I y0 :: z_I x :: st) N σ Q := by
  intro r1 r2 r3 p env s m args below meth c H locs la C R h1 h2 hl
  obtain ⟨hx, hb, -⟩ := id C
  obtain ⟨ry, r2⟩ := List.forall_mem_cons.mp r2
  obtain ⟨rx, r2⟩ := List.forall_mem_cons.mp r2
  exact lv_icmp_gt hx hb hd ht (fun q => (ht2 ((z_lt ry rx).mp q)) r1 r2 r3 p env s m args below meth c H locs la C R h1 h2 hl) (fun q => (hf2 (by have q2 := mt (z_lt ry rx).mpr q; omega)) r1 r2 r3 p env s m args below meth c H locs la C R h1 h2 hl)
theorem z_s_if_gt {x : Int} {t : Nat} {off : Int} (ht : (pc : Int) + off = (t : Int)) (hd : decode (z_hd y).2.1 pc = .ok (.ifCond .gt off, 3)) (ht2 : 0 < x → z_X e ph d y Ni No t ls st N σ Q) (hf2 : x ≤ 0 → z_X e ph d y Ni No (pc + 3) ls st N σ Q) : z_X e ph d y Ni No pc ls (z_I x :: st) N σ Q := by
  intro r1 r2 r3 p env s m args below meth c H locs la C R h1 h2 hl
  obtain ⟨hx, hb, -⟩ := id C
  obtain ⟨rx, r2⟩ := List.forall_mem_cons.mp r2
  have ry := z_ir0
  exact lv_if_gt hx hb hd ht (fun q => (ht2 ((z_lt ry rx).mp q)) r1 r2 r3 p env s m args below meth c H locs la C R h1 h2 hl) (fun q => (hf2 (by have q2 := mt (z_lt ry rx).mpr q; omega)) r1 r2 r3 p env s m args below meth c H locs la C R h1 h2 hl)
theorem z_s_icmp_le {x y0 : Int} {t : Nat} {off : Int} (ht : (pc : Int) + off = (t : Int)) (hd : decode (z_hd y).2.1 pc = .ok (.if_icmp .le off, 3)) (ht2 : x ≤ y0 → z_X e ph d y Ni No t ls st N σ Q) (hf2 : y0 < x → z_X e ph d y Ni No (pc + 3) ls st N σ Q) : z_X e ph d y Ni No pc ls (z_I y0 :: z_I x :: st) N σ Q := by
  intro r1 r2 r3 p env s m args below meth c H locs la C R h1 h2 hl
  obtain ⟨hx, hb, -⟩ := id C
  obtain ⟨ry, r2⟩ := List.forall_mem_cons.mp r2
  obtain ⟨rx, r2⟩ := List.forall_mem_cons.mp r2
  exact lv_icmp_le hx hb hd ht (fun q => (ht2 ((z_le rx ry).mp q)) r1 r2 r3 p env s m args below meth c H locs la C R h1 h2 hl) (fun q => (hf2 (by have q2 := mt (z_le rx ry).mpr q; omega)) r1 r2 r3 p env s m args below meth c H locs la C R h1 h2 hl)
theorem z_s_if_le {x : Int} {t : Nat} {off : Int} (ht : (pc : Int) + off = (t : Int)) (hd : decode (z_hd y).2.1 pc = .ok (.ifCond .le off, 3)) (ht2 : x ≤ 0 → z_X e ph d y Ni No t ls st N σ Q) (hf2 : 0 < x → z_X e ph d y Ni No (pc + 3) ls st N σ Q) : z_X e ph d y Ni No pc ls (z_I x :: st) N σ Q := by
  intro r1 r2 r3 p env s m args below meth c H locs la C R h1 h2 hl
  obtain ⟨hx, hb, -⟩ := id C
  obtain ⟨rx, r2⟩ := List.forall_mem_cons.mp r2
  have ry := z_ir0
  exact lv_if_le hx hb hd ht (fun q => (ht2 ((z_le rx ry).mp q)) r1 r2 r3 p env s m args below meth c H locs la C R h1 h2 hl) (fun q => (hf2 (by have q2 := mt (z_le rx ry).mpr q; omega)) r1 r2 r3 p env s m args below meth c H locs la C R h1 h2 hl)
theorem z_s_ifnull {x : Int} {t : Nat} {off : Int} (ht : (pc : Int) + off = (t : Int)) (hd : decode (z_hd y).2.1 pc = .ok (.ifnull off, 3)) (ht2 : x < 0 → z_X e ph d y Ni No t ls st N σ Q) (hf2 : 0 ≤ x → z_X e ph d y Ni No (pc + 3) ls st N σ Q) : z_X e ph d y Ni No pc ls (z_R x :: st) N σ Q := by
  intro r1 r2 r3 p env s m args below meth c H locs la C R h1 h2 hl
  obtain ⟨hx, hb, -⟩ := id C
  obtain ⟨rx, r2⟩ := List.forall_mem_cons.mp r2
  rw [List.map_cons]
  by_cases q : x < 0
  · rw [z_vv_neg q]
    exact lv_ifnullN hx hb hd ht (ht2 q r1 r2 r3 p env s m args below meth c H locs la C R h1 h2 hl)
  · rw [z_vv_pos q]
    exact lv_ifnull hx hb hd (hf2 (by omega) r1 r2 r3 p env s m args below meth c H locs la C R h1 h2 hl)
theorem z_s_ifnonnull {x : Int} {t : Nat} {off : Int} (ht : (pc : Int) + off = (t : Int)) (hd : decode (z_hd y).2.1 pc = .ok (.ifnonnull off, 3)) (ht2 : 0 ≤ x → z_X e ph d y Ni No t ls st N σ Q) (hf2 : x < 0 → z_X e ph d y Ni No (pc + 3) ls st N σ Q) : z_X e ph d y Ni No pc ls (z_R x :: st) N σ Q := by
  intro r1 r2 r3 p env s m args below meth c H locs la C R h1 h2 hl
  obtain ⟨hx, hb, -⟩ := id C
  obtain ⟨rx, r2⟩ := List.forall_mem_cons.mp r2
  rw [List.map_cons]
  by_cases q : x < 0
  · rw [z_vv_neg q]
    exact lv_ifnonnullN hx hb hd (hf2 q r1 r2 r3 p env s m args below meth c H locs la C R h1 h2 hl)
  · rw [z_vv_pos q]
    exact lv_ifnonnull hx hb hd ht (ht2 (by omega) r1 r2 r3 p env s m args below meth c H locs la C R h1 h2 hl)
theorem z_ad_inj {x y : Int} (hx : 0 ≤ x) (hy : 0 ≤ y) : z_ad e x = z_ad e y ↔ x = y := by
  constructor
  · intro h
    by_cases q : x < 0
    · by_cases q2 : y < 0
      · omega
      · rw [z_ad_neg q, z_ad_pos q2] at h; cases h
    · by_cases q2 : y < 0
      · rw [z_ad_pos q, z_ad_neg q2] at h; cases h
      · rw [z_ad_pos q, z_ad_pos q2] at h
        have := Option.some.inj h
        omega
  · intro h; rw [h]
theorem z_s_acmp_eq {x y0 : Int} (rx : 0 ≤ x) (ry : 0 ≤ y0) {t : Nat} {off : Int} (ht : (pc : Int) + off = (t : Int)) (hd : decode (z_hd y).2.1 pc = .ok (.if_acmp .eq off, 3)) (ht2 : x = y0 → z_X e ph d y Ni No t ls st N σ Q) (hf2 : ¬ x = y0 → z_X e ph d y Ni No (pc + 3) ls st N σ Q) : z_X e ph d y Ni No pc ls (z_R y0 :: z_R x :: st) N σ Q := by
  intro r1 r2 r3 p env s m args below meth c H locs la C R h1 h2 hl
  obtain ⟨hx, hb, -⟩ := id C
  obtain ⟨-, r2⟩ := List.forall_mem_cons.mp r2
  obtain ⟨-, r2⟩ := List.forall_mem_cons.mp r2
  exact lv_acmp_eq (rx := z_ad e x) (ry := z_ad e y0) hx hb hd ht (fun q => ht2 ((z_ad_inj rx ry).mp q) r1 r2 r3 p env s m args below meth c H locs la C R h1 h2 hl) (fun q => hf2 (fun w => q ((z_ad_inj rx ry).mpr w)) r1 r2 r3 p env s m args below meth c H locs la C R h1 h2 hl)
theorem z_s_acmp_ne {x y0 : Int} (rx : 0 ≤ x) (ry : 0 ≤ y0) {t : Nat} {off : Int} (ht : (pc : Int) + off = (t : Int)) (hd : decode (z_hd y).2.1 pc = .ok (.if_acmp .ne off, 3)) (ht2 : ¬ x = y0 → z_X e ph d y Ni No t ls st N σ Q) (hf2 : x = y0 → z_X e ph d y Ni No (pc + 3) ls st N σ Q) : z_X e ph d y Ni No pc ls (z_R y0 :: z_R x :: st) N σ Q := by
  intro r1 r2 r3 p env s m args below meth c H locs la C R h1 h2 hl
  obtain ⟨hx, hb, -⟩ := id C
  obtain ⟨-, r2⟩ := List.forall_mem_cons.mp r2
  obtain ⟨-, r2⟩ := List.forall_mem_cons.mp r2
  exact lv_acmp_ne (rx := z_ad e x) (ry := z_ad e y0) hx hb hd ht (fun q => ht2 (fun w => q ((z_ad_inj rx ry).mpr w)) r1 r2 r3 p env s m args below meth c H locs la C R h1 h2 hl) (fun q => hf2 ((z_ad_inj rx ry).mp q) r1 r2 r3 p env s m args below meth c H locs la C R h1 h2 hl)
theorem z_s_tabIn {x lo hi dflt off : Int} {offs : Array Int} {len t : Nat} (h1' : lo ≤ x) (h2' : x ≤ hi) (ho : offs[(x - lo).toNat]? = some off) (ht : (pc : Int) + off = (t : Int)) (hd : decode (z_hd y).2.1 pc = .ok (.tableswitch dflt lo hi offs, len)) (h : z_X e ph d y Ni No t ls st N σ Q) : z_X e ph d y Ni No pc ls (z_I x :: st) N σ Q := by
  intro r1 r2 r3 p env s m args below meth c H locs la C R h1 h2 hl
  obtain ⟨hx, hb, -⟩ := id C
  obtain ⟨rx, r2⟩ := List.forall_mem_cons.mp r2
  exact lv_tableIn hx hb hd (by rw [z_to rx]; omega) (by rw [z_to rx]; omega) (by rw [z_to rx]; exact ho) ht (h r1 r2 r3 p env s m args below meth c H locs la C R h1 h2 hl)
theorem z_s_tabOut {x lo hi dflt : Int} {offs : Array Int} {len t : Nat} (h1' : x < lo ∨ hi < x) (ht : (pc : Int) + dflt = (t : Int)) (hd : decode (z_hd y).2.1 pc = .ok (.tableswitch dflt lo hi offs, len)) (h : z_X e ph d y Ni No t ls st N σ Q) : z_X e ph d y Ni No pc ls (z_I x :: st) N σ Q := by
  intro r1 r2 r3 p env s m args below meth c H locs la C R h1 h2 hl
  obtain ⟨hx, hb, -⟩ := id C
  obtain ⟨rx, r2⟩ := List.forall_mem_cons.mp r2
  exact lv_tableOut hx hb hd (by rw [z_to rx]; exact h1') ht (h r1 r2 r3 p env s m args below meth c H locs la C R h1 h2 hl)
theorem z_s_look {x dflt off : Int} {ps : Array (Int × Int)} {len t : Nat} (hp : (ps.toList.zip (ps.toList.drop 1)).all (fun (a, next) => a.1 < next.1) = true) (ho : Op.lookupswitch.offset ps.toList dflt x = off) (ht : (pc : Int) + off = (t : Int)) (hd : decode (z_hd y).2.1 pc = .ok (.lookupswitch dflt ps, len)) (h : z_X e ph d y Ni No t ls st N σ Q) : z_X e ph d y Ni No pc ls (z_I x :: st) N σ Q := by
  intro r1 r2 r3 p env s m args below meth c H locs la C R h1 h2 hl
  obtain ⟨hx, hb, -⟩ := id C
  obtain ⟨rx, r2⟩ := List.forall_mem_cons.mp r2
  exact lv_lookup hx hb hd hp (by rw [z_to rx]; exact ho) ht (h r1 r2 r3 p env s m args below meth c H locs la C R h1 h2 hl)
end ZA
end
section
/-! the world: reading and writing cells -/
def z_ok (N kd : Nat) (x : Int) : Bool := decide (0 ≤ x ∧ x < (N : Int)) && (z_knd x == kd)
section ZM
variable {e : z_E} {ph : Bool} {d y Ni No pc N : Nat} {ls : List (Option z_V)} {st : List z_V} {σ : z_M} {Q : Int → z_M → Prop}
theorem z_ok_sp {kd : Nat} {x : Int} (h : z_ok N kd x = true) : 0 ≤ x ∧ x.toNat < N ∧ ((x.toNat : Nat) : Int) = x ∧ z_knd x = kd := by
  simp only [z_ok, Bool.and_eq_true, decide_eq_true_eq, beq_iff_eq] at h
  obtain ⟨⟨h1, h2⟩, h3⟩ := h
  exact ⟨h1, by omega, by omega, h3⟩
theorem z_wd_len : (z_wd e ph σ N).length = N := by simp [z_wd]
theorem z_wd_get {k : Nat} (h : k < N) : (z_wd e ph σ N)[k]? = some (e.2.1.size + k, z_ce e ph σ k) := by simp [z_wd, h]
theorem z_wd_get' {k : Nat} {q : Nat × va_E} (h : (z_wd e ph σ N)[k]? = some q) : k < N ∧ q = (e.2.1.size + k, z_ce e ph σ k) := by
  have hk : k < N := by
    have := (List.getElem?_eq_some_iff.mp h).1
    rwa [z_wd_len] at this
  exact ⟨hk, Option.some.inj (h.symm.trans (z_wd_get hk))⟩
theorem z_wd_D : va_D (z_A e) (z_wd e ph σ N) := by
  refine ⟨fun i j p q hi hj h => ?_, fun k q hk => ?_⟩
  · obtain ⟨-, rfl⟩ := z_wd_get' hi
    obtain ⟨-, rfl⟩ := z_wd_get' hj
    simp only at h; omega
  · obtain ⟨-, rfl⟩ := z_wd_get' hk
    exact Nat.le_add_right _ _
theorem z_ce_congr {σ' : z_M} {k : Nat} (h : ∀ j : Nat, σ' (k : Int) (j : Int) = σ (k : Int) (j : Int)) : z_ce e ph σ' k = z_ce e ph σ k := by
  simp only [z_ce, h]
theorem z_wd_set {σ' : z_M} {k : Nat} {c : va_E} (hc : z_ce e ph σ' k = c) (ho : ∀ k', k' < N → k' ≠ k → z_ce e ph σ' k' = z_ce e ph σ k') : (z_wd e ph σ N).set k (e.2.1.size + k, c) = z_wd e ph σ' N := by
  apply List.ext_getElem?
  intro j
  by_cases hj : j < N
  · rw [z_wd_get hj, List.getElem?_set, z_wd_len]
    by_cases hk : k = j
    · subst hk
      rw [if_pos rfl, if_pos hj, hc]
    · rw [if_neg hk, z_wd_get hj, ho j hj (Ne.symm hk)]
  · rw [List.getElem?_eq_none (by rw [List.length_set, z_wd_len]; omega), List.getElem?_eq_none (by rw [z_wd_len]; omega)]
theorem z_wd_push : z_wd e ph σ N ++ [(e.2.1.size + N, z_ce e ph σ N)] = z_wd e ph σ (N + 1) := by
  simp [z_wd, List.range_succ]
theorem z_up_o {a i v : Int} {k k' : Nat} (ha : ((k : Nat) : Int) = a) (hk : k' ≠ k) : z_ce e ph (z_up σ a i v) k' = z_ce e ph σ k' :=
  z_ce_congr fun j => by unfold z_up; rw [if_neg (by omega)]
theorem z_rM_up {a i v : Int} (h : z_rM σ) (hv : z_ir v) : z_rM (z_up σ a i v) := fun a' i' => by
  unfold z_up; split
  · exact hv
  · exact h a' i'
theorem z_ce_obj {k kd : Nat} (hk : z_knd (k : Int) = kd) (hkd : kd < 100000) : z_ce e ph σ k = .inr (kd - 1, (List.range (z_nf kd)).map (fun j : Nat => z_fv e ph kd j (k : Int) (σ (k : Int) (j : Int)))) := by
  unfold z_ce; rw [hk, if_pos hkd]
theorem z_ce_arr {k kd n tag : Nat} (hk : z_knd (k : Int) = kd) (ht : kd / 100000 = tag) (hn : kd % 100000 = n) (h1 : tag = 1 ∨ tag = 2) : z_ce e ph σ k = .inl (e.2.2.2 tag, n, .inl (fun j : Nat => Int32.ofInt (σ (k : Int) (j : Int)))) := by
  unfold z_ce; rw [hk, if_neg (by omega), if_pos (by omega), ht, hn]
theorem z_ce_ref {k kd n tag : Nat} (hk : z_knd (k : Int) = kd) (ht : kd / 100000 = tag) (hn : kd % 100000 = n) (h1 : 3 ≤ tag) : z_ce e ph σ k = .inl (e.2.2.2 tag, n, .inr (.inr (.inr (.inr (fun j : Nat => z_ad e (cond (ph && !(tag == 6)) (z_sa tag (k : Int) (j : Int)) (σ (k : Int) (j : Int)))))))) := by
  unfold z_ce; rw [hk, if_neg (by omega), if_neg (by omega), ht, hn]
theorem z_cls : ∀ (c : Nat) (q : vw_C), z_cl[c]? = some q → (∀ w ∈ u_ws q.1 q.2.1 q.2.2, w ∈ z_gw) ∧ z_nf (c + 1) = q.2.2 ∧ (∀ k, k < q.2.2 → parseFieldDescriptor (q.2.1 k).2.2.1 = some (z_ty c k)) ∧ (∀ a, a < q.2.2 → ∀ b, b < q.2.2 → a ≠ b → (q.2.1 a).2.1 ≠ (q.2.1 b).2.1)
  | 0, q, h => by cases h; exact ⟨inX0, rfl, tyX0_ok, nmX0⟩
  | 1, q, h => by cases h; exact ⟨inX1, rfl, tyX1_ok, nmX1⟩
  | 2, q, h => by cases h; exact ⟨inX2, rfl, tyX2_ok, nmX2⟩
  | 3, q, h => by cases h; exact ⟨inX3, rfl, tyX3_ok, nmX3⟩
  | 4, q, h => by cases h; exact ⟨inX4, rfl, tyX4_ok, nmX4⟩
  | 5, q, h => by cases h; exact ⟨inX5, rfl, tyX5_ok, nmX5⟩
  | 6, q, h => by cases h; exact ⟨inX6, rfl, tyX6_ok, nmX6⟩
  | 7, q, h => by cases h; exact ⟨inX7, rfl, tyX7_ok, nmX7⟩
  | 8, q, h => by cases h; exact ⟨inX8, rfl, tyX8_ok, nmX8⟩
  | n + 9, q, h => by simp [z_cl] at h
theorem z_fs_get {kd j n : Nat} {x : Int} (hn : z_nf kd = n) (hj : j < n) : ((List.range (z_nf kd)).map (fun j : Nat => z_fv e ph kd j x (σ x (j : Int))))[j]? = some (z_fv e ph kd j x (σ x (j : Int))) := by
  rw [hn]; simp [hj]
/-- what a field holds, as a value of the abstract machine -/
def z_fr (ph : Bool) (kd j : Nat) (x : Int) (σ : z_M) : z_V := match z_ft kd j with
  | 1 => z_R (σ x j)
  | 2 => z_R (cond ph (z_sr kd j x) (σ x j))
  | _ => z_I (σ x j)
theorem z_fr_vv (kd j : Nat) (x : Int) : z_vv e (z_fr ph kd j x σ) = z_fv e ph kd j x (σ x j) := by
  unfold z_fr z_fv
  generalize z_ft kd j = t
  match t with
  | 0 => rfl
  | 1 => rfl
  | 2 => rfl
  | n + 3 => rfl
theorem z_fr_rg (kd j : Nat) (x : Int) (h : z_rM σ) : z_rg (z_fr ph kd j x σ) := by
  unfold z_fr
  split
  · trivial
  · trivial
  · exact h x j
theorem z_s_getf {ci j ix : Nat} {q : vw_C} {x : Int} (hc : z_cl[ci]? = some q) (hj : j < q.2.2) (hw : Cond.fieldLink (z_hd y).1.cls ix (q.2.1 j).1 (q.2.1 j).2.1 (q.2.1 j).2.2.1 ∈ z_gw) (hok : z_ok N (ci + 1) x = true) (hd : decode (z_hd y).2.1 pc = .ok (.getfield ix, 3))
    (h : z_X e ph d y Ni No (pc + 3) ls (z_fr ph (ci + 1) j x σ :: st) N σ Q) : z_X e ph d y Ni No pc ls (z_R x :: st) N σ Q := by
  intro r1 r2 r3 p env s m args below meth c H locs la C R h1 h2 hl
  obtain ⟨hx, hb, -, -, hown, hts, -, -, hKS⟩ := id C
  obtain ⟨-, r2⟩ := List.forall_mem_cons.mp r2
  obtain ⟨g0, g1, g2, g3⟩ := z_ok_sp hok
  obtain ⟨f1, f2, f3, f4⟩ := z_cls ci q hc
  have hk := h r1 (List.forall_mem_cons.mpr ⟨z_fr_rg _ _ _ r3, r2⟩) r3 p env s m args below meth c H locs la C R h1 h2 hl
  rw [List.map_cons, z_fr_vv] at hk
  rw [List.map_cons, z_vv_pos (by omega)]
  have hci : ci < 9 := (List.getElem?_eq_some_iff.mp hc).1
  have he := z_wd_get (e := e) (ph := ph) (σ := σ) g1
  rw [z_ce_obj (kd := ci + 1) (by rw [g2]; exact g3) (by omega), g2] at he
  exact va_get hx hb hts f1 hown hKS.1 R.2.1 x.toNat he hc j hj (hts _ hw) (fun _ h => h) (z_fs_get f2 hj) hd hk
/-- what may be written into a field -/
def z_fw (ph : Bool) (kd j : Nat) (v : z_V) : Prop := match z_ft kd j, v with
  | 1, .inr (.inr _) => True
  | 2, .inr (.inr _) => ph = false
  | 3, .inl x => x = 0 ∨ x = 1
  | 0, .inl _ => True
  | _, _ => False
def z_un (v : z_V) : Int := match v with
  | .inl x => x
  | .inr (.inl x) => x
  | .inr (.inr x) => x
theorem z_ce_up {k kd j : Nat} {x v : Int} (hk : ((k : Nat) : Int) = x) (hkd : z_knd x = kd) (hs : kd < 100000) : z_ce e ph (z_up σ x j v) k = .inr (kd - 1, ((List.range (z_nf kd)).map (fun j : Nat => z_fv e ph kd j x (σ x (j : Int)))).set j (z_fv e ph kd j x v)) := by
  rw [z_ce_obj (by rw [hk]; exact hkd) hs, hk]
  congr 2
  apply List.ext_getElem?
  intro i
  rw [List.getElem?_set, List.length_map, List.length_range]
  by_cases hi : i < z_nf kd
  · by_cases hj : j = i
    · subst hj
      simp [hi, z_up]
    · rw [if_neg hj]
      simp only [List.getElem?_map, List.getElem?_range hi, Option.map_some, z_up]
      rw [if_neg (by omega)]
  · rw [List.getElem?_eq_none (by simp; omega)]
    by_cases hj : j = i
    · subst hj; simp [hi]
    · rw [if_neg hj, List.getElem?_eq_none (by simp; omega)]
theorem z_fin : ∀ (c : Nat) (q : vw_C), z_cl[c]? = some q → ∀ j, j < q.2.2 → (q.2.1 j).2.2.2 = decide (z_ft (c + 1) j = 2)
  | 0, q, h => by cases h; decide +kernel
  | 1, q, h => by cases h; decide +kernel
  | 2, q, h => by cases h; decide +kernel
  | 3, q, h => by cases h; decide +kernel
  | 4, q, h => by cases h; decide +kernel
  | 5, q, h => by cases h; decide +kernel
  | 6, q, h => by cases h; decide +kernel
  | 7, q, h => by cases h; decide +kernel
  | 8, q, h => by cases h; decide +kernel
  | n + 9, q, h => by simp [z_cl] at h
def z_tc (t : Nat) (ty : FieldType) : Bool := match t, ty with
  | 0, .int => true
  | 1, .object _ => true
  | 2, .object _ => true
  | 2, .array _ => true
  | 3, .boolean => true
  | _, _ => false
def z_tp (t : Nat) (ty : FieldType) : Prop := match t with
  | 1 => ∃ n, ty = .object n
  | 2 => (∃ n, ty = .object n) ∨ ∃ n, ty = .array n
  | 3 => ty = .boolean
  | 0 => ty = .int
  | _ => False
theorem z_tc_sp {t : Nat} {ty : FieldType} (h : z_tc t ty = true) : z_tp t ty := by
  unfold z_tc at h
  split at h
  · rfl
  · exact ⟨_, rfl⟩
  · exact Or.inl ⟨_, rfl⟩
  · exact Or.inr ⟨_, rfl⟩
  · rfl
  · cases h
theorem z_tyk : ∀ (c : Nat) (q : vw_C), z_cl[c]? = some q → ∀ j, j < q.2.2 → z_tc (z_ft (c + 1) j) (z_ty c j) = true
  | 0, q, h => by cases h; decide +kernel
  | 1, q, h => by cases h; decide +kernel
  | 2, q, h => by cases h; decide +kernel
  | 3, q, h => by cases h; decide +kernel
  | 4, q, h => by cases h; decide +kernel
  | 5, q, h => by cases h; decide +kernel
  | 6, q, h => by cases h; decide +kernel
  | 7, q, h => by cases h; decide +kernel
  | 8, q, h => by cases h; decide +kernel
  | n + 9, q, h => by simp [z_cl] at h
theorem z_fit {ci j : Nat} {q : vw_C} {v : z_V} {x : Int} (hc : z_cl[ci]? = some q) (hj : j < q.2.2) (hf : z_fw ph (ci + 1) j v) : narrow (z_ty ci j) (z_vv e v) = z_vv e v ∧ fits (z_ty ci j) (z_vv e v) = true ∧ z_vv e v = z_fv e ph (ci + 1) j x (z_un v) := by
  have ht := z_tc_sp (z_tyk ci q hc j hj)
  unfold z_fw at hf
  unfold z_fv
  revert ht hf
  generalize z_ft (ci + 1) j = t
  intro hf ht
  match t, v, ht, hf with
  | 0, .inl w, ht, _ => rw [show z_ty ci j = .int from ht]; exact ⟨rfl, rfl, rfl⟩
  | 1, .inr (.inr w), ht, _ =>
    obtain ⟨n, hn⟩ := ht
    rw [hn]
    by_cases hw : w < 0
    · rw [z_vv_neg hw]; exact ⟨rfl, rfl, by show _ = va_rf (z_ad e w); rw [z_ad_neg hw]; rfl⟩
    · rw [z_vv_pos hw]; exact ⟨rfl, rfl, by show _ = va_rf (z_ad e w); rw [z_ad_pos hw]; rfl⟩
  | 2, .inr (.inr w), ht, hf =>
    have hf : ph = false := hf
    subst hf
    rcases ht with ⟨n, hn⟩ | ⟨n, hn⟩ <;> rw [hn] <;> by_cases hw : w < 0
    · rw [z_vv_neg hw]; exact ⟨rfl, rfl, by show _ = va_rf (z_ad e w); rw [z_ad_neg hw]; rfl⟩
    · rw [z_vv_pos hw]; exact ⟨rfl, rfl, by show _ = va_rf (z_ad e w); rw [z_ad_pos hw]; rfl⟩
    · rw [z_vv_neg hw]; exact ⟨rfl, rfl, by show _ = va_rf (z_ad e w); rw [z_ad_neg hw]; rfl⟩
    · rw [z_vv_pos hw]; exact ⟨rfl, rfl, by show _ = va_rf (z_ad e w); rw [z_ad_pos hw]; rfl⟩
  | 3, .inl w, ht, hf =>
    rw [show z_ty ci j = .boolean from ht]
    rcases hf with rfl | rfl <;> exact ⟨rfl, rfl, rfl⟩
  | 0, .inr (.inl w), _, hf => exact absurd hf id
  | 0, .inr (.inr w), _, hf => exact absurd hf id
  | 1, .inl w, _, hf => exact absurd hf id
  | 1, .inr (.inl w), _, hf => exact absurd hf id
  | 2, .inl w, _, hf => exact absurd hf id
  | 2, .inr (.inl w), _, hf => exact absurd hf id
  | 3, .inr (.inl w), _, hf => exact absurd hf id
  | 3, .inr (.inr w), _, hf => exact absurd hf id
  | n + 4, .inl w, _, hf => exact absurd hf id
  | n + 4, .inr (.inl w), _, hf => exact absurd hf id
  | n + 4, .inr (.inr w), _, hf => exact absurd hf id
end ZM
section ZP
variable {p : Program} {l : Launch} {e : Env} {R : Room} {s : State} {m : MethodId} {args : Array Value} {below : List Frame} {meth : Method} {c : Code} {H : Heap} {locs : List Loc} {cells slots : Nat} {Q : State → Prop}
variable {cc : ByteArray} {pc : Nat} {ls : Array Slot} {rest : List Value} {D : va_G} {cl : List vw_C} {A : Nat → Prop} {a : Nat} {tys : List (ClassId × FieldType)} {ws : va_W} {H0 : Heap}
/-- a field is written; the heap keeps its size -/
theorem z_vput (hexec : p.tables.exec = Jvm.exec) (hb : c.code = cc) {own C : String} {T : u_T} {N ci index : Nat} {Ts : List Cond} (hts : ∀ w ∈ Ts, w.before args s = true) (hin : ∀ w ∈ u_ws C T N, w ∈ Ts) (ty0 : Nat → FieldType) (hty : ∀ k, k < N → parseFieldDescriptor (T k).2.2.1 = some (ty0 k)) (hnm : ∀ a, a < N → ∀ b, b < N → a ≠ b → (T a).2.1 ≠ (T b).2.1) (hown : s.vm.findClass own = some m.cls) (hK : va_K D cl tys s) (hP : va_P D cl ws H) (hD : va_D A ws) (hS0 : va_S A H0 H locs) (q0 : Nat) {fs : List Value} (he : ws[q0]? = some (a, .inr (ci, fs))) (hc : cl[ci]? = some (C, T, N)) (k : Nat) (hk : k < N) (hlink : (Cond.fieldLink own index (T k).1 (T k).2.1 (T k).2.2.1).before args s = true)
    (hfin : (T k).2.2.2 = false ∨ ((T k).2.2.2 = true ∧ meth.name = "<init>" ∧ (T k).1 = own)) {ty : FieldType} {v : Value} (hd : parseFieldDescriptor (T k).2.2.1 = some ty) (hn : narrow ty v = v) (hfit : fits ty v = true) (hl : k < fs.length)
    (hdg : decode cc pc = .ok (.putfield index, 3)) (kk : ∀ (H1 : Heap) (locs1 : List Loc), H1.size = H.size → va_P D cl (ws.set q0 (a, .inr (ci, fs.set k v))) H1 → va_S A H0 H1 locs1 → W p l e R s m args below meth c H1 locs1 cells slots Q (F0 m (pc + 3) ls rest)) : W p l e R s m args below meth c H locs cells slots Q (F0 m pc ls (v :: .ref a :: rest)) := by
  have hap := va_apart (own := own) hts hin ty0 hty hnm hK hc
  obtain ⟨r, h1, cell, q1, q2, q3, q4⟩ := hP q0 _ he
  obtain rfl : r = (C, T, N) := Option.some.inj (h1.symm.trans hc)
  obtain ⟨hS, hfc, kC, hkC, hkind⟩ := hK.1 ci _ hc
  obtain ⟨cf, kf, fi, f, hi, hsl⟩ := hS k hk
  have hlay := hts _ (hin _ (u_in_lay hk))
  have hst := (u_facts hfc hkC (u_lays hts hin hk) hi).1
  have fin : ∀ (H' : Heap) (locs1 : List Loc), H'[a]? = some (cell.setSlot (D.2 ci k) v) → H'.size = H.size → (∀ q : Nat, q ≠ a → H'[q]? = H[q]?) → va_S A H0 H' locs1 → W p l e R s m args below meth c H' locs1 cells slots Q (F0 m (pc + 3) ls rest) := fun H' locs1 e1 e2 e3 e4 =>
    kk H' locs1 e2 (hP.set hD he ⟨_, hc, t_OB.to (V := updV (vp_V fs) k v) ⟨_, e1, q2, q3, t_set q4 hap hk v⟩ (fun j _ => vp_updV_set hl v j)⟩ e3) e4
  unfold u_lay at hlay
  rcases hfin with hfin | ⟨hfin, hin2, hdecl⟩
  · rw [if_neg (by rw [hfin]; decide)] at hlay
    have h6 := u_store hfc hkC hkind hlay hi hd hn hfit
    refine W.putK hexec hb (f := f) ⟨hown, hlink, ⟨_, _, _, hi⟩, hst⟩ (by rw [q2]; exact h6) q1 q3 (by rw [hsl]; exact k2_hasslot (q4 k hk)) rfl rfl hdg fun H' e1 e2 e3 => ?_
    rw [hsl] at e1 ⊢
    exact fin H' _ e1 e2 e3 (hS0.put e2 e3 (hD.2 q0 _ he))
  · rw [if_pos hfin] at hlay
    have hcf : m.cls = cf := by
      obtain ⟨_, _, c', _, _, _, -, -, hf', -, -, -, hown2, -⟩ := Cond.laysFinal_spec hlay
      have e1 : c' = cf := by have := hi.symm.trans hf'; simp at this; exact this.1.symm
      rw [hdecl] at hown2
      rw [← e1]; exact Option.some.inj (hown.symm.trans hown2)
    have h6 := u_fits hfc hkC hkind (Or.inr hlay) hi hd hn hfit
    refine W.putFinK hexec hb hown hlink hi hst hcf hin2 (by rw [q2]; exact h6) q1 q3 (by rw [hsl]; exact k2_hasslot (q4 k hk)) rfl rfl hdg fun H' e1 e2 e3 => ?_
    rw [hsl] at e1 ⊢
    exact fin H' _ e1 e2 e3 (hS0.put e2 e3 (hD.2 q0 _ he))
end ZP
section ZM2
variable {e : z_E} {ph : Bool} {d y Ni No pc N : Nat} {ls : List (Option z_V)} {st : List z_V} {σ : z_M} {Q : Int → z_M → Prop}
theorem z_s_putf {ci j ix : Nat} {q : vw_C} {x : Int} {v : z_V} (hc : z_cl[ci]? = some q) (hj : j < q.2.2) (hw : Cond.fieldLink (z_hd y).1.cls ix (q.2.1 j).1 (q.2.1 j).2.1 (q.2.1 j).2.2.1 ∈ z_gw) (hok : z_ok N (ci + 1) x = true) (hf : z_fw ph (ci + 1) j v) (hi : z_ir (z_un v)) (hini : z_ft (ci + 1) j = 2 → (z_hd y).1.name = "<init>" ∧ (q.2.1 j).1 = (z_hd y).1.cls) (hd : decode (z_hd y).2.1 pc = .ok (.putfield ix, 3))
    (h : z_X e ph d y Ni No (pc + 3) ls st N (z_up σ x j (z_un v)) Q) : z_X e ph d y Ni No pc ls (v :: z_R x :: st) N σ Q := by
  intro r1 r2 r3 p env s m args below meth c H locs la C R h1 h2 hl
  obtain ⟨hx, hb, -, -, hown, hts, -, hnm, hKS⟩ := id C
  obtain ⟨-, r2⟩ := List.forall_mem_cons.mp r2
  obtain ⟨-, r2⟩ := List.forall_mem_cons.mp r2
  obtain ⟨g0, g1, g2, g3⟩ := z_ok_sp hok
  obtain ⟨f1, f2, f3, f4⟩ := z_cls ci q hc
  obtain ⟨n1, n2, n3⟩ := z_fit (e := e) (x := x) hc hj hf
  rw [List.map_cons, List.map_cons, z_vv_pos (by omega)]
  have hci : ci < 9 := (List.getElem?_eq_some_iff.mp hc).1
  have he := z_wd_get (e := e) (ph := ph) (σ := σ) g1
  rw [z_ce_obj (kd := ci + 1) (by rw [g2]; exact g3) (by omega), g2] at he
  have hset : (z_wd e ph σ N).set x.toNat (e.2.1.size + x.toNat, .inr (ci, ((List.range (z_nf (ci + 1))).map (fun j : Nat => z_fv e ph (ci + 1) j x (σ x (j : Int)))).set j (z_vv e v))) = z_wd e ph (z_up σ x j (z_un v)) N :=
    z_wd_set (by rw [z_ce_up (kd := ci + 1) g2 g3 (by omega), ← n3]; rfl) (fun k' _ hk => z_up_o g2 hk)
  have hlen : j < ((List.range (z_nf (ci + 1))).map (fun j : Nat => z_fv e ph (ci + 1) j x (σ x (j : Int)))).length := by simp [f2, hj]
  have hfin := z_fin ci q hc j hj
  have key : ∀ (H1 : Heap) (locs1 : List Loc), H1.size = H.size → va_P e.2.2.1 z_cl (z_wd e ph (z_up σ x j (z_un v)) N) H1 → va_S (z_A e) e.2.1 H1 locs1 →
      W p e.1 env (z_rm d Ni No) s m args below meth c H1 locs1 (N - Ni) (z_sl N - z_sl Ni) (MQ below (z_Qc e ph (z_hd y).2.2.2.1 No Q) args s (No - Ni) (z_sl No - z_sl Ni) (z_A e)) (F0 m (pc + 3) la (st.map (z_vv e))) :=
    fun H1 locs1 hz hp hs => h r1 r2 (z_rM_up r3 hi) p env s m args below meth c H1 locs1 la C ⟨fun w => hz.trans (R.1 w), hp, hs⟩ h1 h2 hl
  obtain ⟨vv', hvv⟩ : ∃ w, z_vv e v = w := ⟨_, rfl⟩
  rw [hvv] at hset n1 n2 ⊢
  by_cases hff : z_ft (ci + 1) j = 2
  · obtain ⟨i1, i2⟩ := hini hff
    refine z_vput hx hb hts f1 (z_ty ci) f3 f4 hown hKS.1 R.2.1 z_wd_D R.2.2 x.toNat he hc j hj (hts _ hw) (Or.inr ⟨by rw [hfin]; simp [hff], hnm.trans i1, i2⟩) (f3 j hj) n1 n2 hlen hd (fun H1 locs1 hz hp hs => ?_)
    exact key H1 locs1 hz (by rw [← hset]; exact hp) hs
  · refine z_vput hx hb hts f1 (z_ty ci) f3 f4 hown hKS.1 R.2.1 z_wd_D R.2.2 x.toNat he hc j hj (hts _ hw) (Or.inl (by rw [hfin]; simp [hff])) (f3 j hj) n1 n2 hlen hd (fun H1 locs1 hz hp hs => ?_)
    exact key H1 locs1 hz (by rw [← hset]; exact hp) hs
end ZM2
end
section
/-! arrays, new cells -/
section ZR
variable {e : z_E} {ph : Bool} {d y Ni No pc N : Nat} {ls : List (Option z_V)} {st : List z_V} {σ : z_M} {Q : Int → z_M → Prop}
theorem z_P_set {σ' : z_M} {k : Nat} {H H1 : Heap} (hP : va_P e.2.2.1 z_cl (z_wd e ph σ N) H) (hat : k < N → va_at e.2.2.1 z_cl (e.2.1.size + k, z_ce e ph σ' k) H1) (oq : ∀ q, q ≠ e.2.1.size + k → H1[q]? = H[q]?) (ho : ∀ k', k' < N → k' ≠ k → z_ce e ph σ' k' = z_ce e ph σ k') : va_P e.2.2.1 z_cl (z_wd e ph σ' N) H1 := by
  intro k' q hq
  obtain ⟨h1, rfl⟩ := z_wd_get' hq
  by_cases hk : k' = k
  · subst hk; exact hat h1
  · rw [ho k' h1 hk]
    exact (hP k' _ (z_wd_get h1)).kept (oq _ (by show e.2.1.size + k' ≠ _; omega))
theorem z_vpin {i : Int} {n : Nat} (hi : z_ir i) (h0 : 0 ≤ i) (h1 : i < (n : Int)) : vp_in (Int32.ofInt i) n := by
  unfold vp_in
  rw [z_nat hi, z_zero, z_lt hi z_ir0]
  omega
theorem z_s_iald {kd n : Nat} {x i : Int} (ht : kd / 100000 = 1) (hn : kd % 100000 = n) (hok : z_ok N kd x = true) (hi0 : 0 ≤ i) (hi1 : i < (n : Int)) (hd : decode (z_hd y).2.1 pc = .ok (.iaload, 1))
    (h : z_X e ph d y Ni No (pc + 1) ls (z_I (σ x i) :: st) N σ Q) : z_X e ph d y Ni No pc ls (z_I i :: z_R x :: st) N σ Q := by
  intro r1 r2 r3 p env s m args below meth c H locs la C R h1 h2 hl
  obtain ⟨hx, hb, -, -, hown, hts, -, -, hKS⟩ := id C
  obtain ⟨ri, r2⟩ := List.forall_mem_cons.mp r2
  obtain ⟨-, r2⟩ := List.forall_mem_cons.mp r2
  obtain ⟨g0, g1, g2, g3⟩ := z_ok_sp hok
  have hk := h r1 (List.forall_mem_cons.mpr ⟨r3 x i, r2⟩) r3 p env s m args below meth c H locs la C R h1 h2 hl
  rw [List.map_cons] at hk
  rw [List.map_cons, List.map_cons, z_vv_pos (by omega)]
  have he := z_wd_get (e := e) (ph := ph) (σ := σ) g1
  rw [z_ce_arr (kd := kd) (by rw [g2]; exact g3) ht hn (Or.inl rfl), g2] at he
  refine va_iald hx hb hKS.1 R.2.1 x.toNat 0 he rfl (z_vpin ri hi0 hi1) hd ?_
  rw [z_nat ri, show ((i.toNat : Nat) : Int) = i by omega]
  exact hk
theorem z_s_zald {kd n : Nat} {x i : Int} (ht : kd / 100000 = 2) (hn : kd % 100000 = n) (hok : z_ok N kd x = true) (hi0 : 0 ≤ i) (hi1 : i < (n : Int)) (hd : decode (z_hd y).2.1 pc = .ok (.baload, 1))
    (h : z_X e ph d y Ni No (pc + 1) ls (z_I (σ x i) :: st) N σ Q) : z_X e ph d y Ni No pc ls (z_I i :: z_R x :: st) N σ Q := by
  intro r1 r2 r3 p env s m args below meth c H locs la C R h1 h2 hl
  obtain ⟨hx, hb, -, -, hown, hts, -, -, hKS⟩ := id C
  obtain ⟨ri, r2⟩ := List.forall_mem_cons.mp r2
  obtain ⟨-, r2⟩ := List.forall_mem_cons.mp r2
  obtain ⟨g0, g1, g2, g3⟩ := z_ok_sp hok
  have hk := h r1 (List.forall_mem_cons.mpr ⟨r3 x i, r2⟩) r3 p env s m args below meth c H locs la C R h1 h2 hl
  rw [List.map_cons] at hk
  rw [List.map_cons, List.map_cons, z_vv_pos (by omega)]
  have he := z_wd_get (e := e) (ph := ph) (σ := σ) g1
  rw [z_ce_arr (kd := kd) (by rw [g2]; exact g3) ht hn (Or.inr rfl), g2] at he
  refine va_zald hx hb hKS.1 R.2.1 x.toNat 1 he rfl (z_vpin ri hi0 hi1) hd ?_
  rw [z_nat ri, show ((i.toNat : Nat) : Int) = i by omega]
  exact hk
/-- what an array of references holds -/
def z_ar (ph : Bool) (tag : Nat) (x i : Int) (σ : z_M) : Int := cond (ph && !(tag == 6)) (z_sa tag x i) (σ x i)
def z_aty (tag : Nat) : String := match tag with
  | 3 => "MemoByWeight$Text"
  | 4 => "MemoByWeight$Run"
  | 5 => "MemoByWeight$Frame"
  | _ => "MemoByWeight$Kept"
theorem z_s_aald {kd n tag : Nat} {x i : Int} (ht : kd / 100000 = tag) (h3 : 3 ≤ tag ∧ tag ≤ 6) (hn : kd % 100000 = n) (hok : z_ok N kd x = true) (hi0 : 0 ≤ i) (hi1 : i < (n : Int)) (hd : decode (z_hd y).2.1 pc = .ok (.aaload, 1))
    (h : z_X e ph d y Ni No (pc + 1) ls (z_R (z_ar ph tag x i σ) :: st) N σ Q) : z_X e ph d y Ni No pc ls (z_I i :: z_R x :: st) N σ Q := by
  intro r1 r2 r3 p env s m args below meth c H locs la C R h1 h2 hl
  obtain ⟨hx, hb, -, -, hown, hts, -, -, hKS⟩ := id C
  obtain ⟨ri, r2⟩ := List.forall_mem_cons.mp r2
  obtain ⟨-, r2⟩ := List.forall_mem_cons.mp r2
  obtain ⟨g0, g1, g2, g3⟩ := z_ok_sp hok
  have hk := h r1 (List.forall_mem_cons.mpr ⟨trivial, r2⟩) r3 p env s m args below meth c H locs la C R h1 h2 hl
  rw [List.map_cons] at hk
  rw [List.map_cons, List.map_cons, z_vv_pos (by omega)]
  have he := z_wd_get (e := e) (ph := ph) (σ := σ) g1
  rw [z_ce_ref (kd := kd) (by rw [g2]; exact g3) ht hn h3.1, g2] at he
  have hty : ∃ C, (z_tys e)[tag - 1]? = some (e.2.2.2 tag, .object C) := by
    obtain ⟨a, b⟩ := h3
    rcases (show tag = 3 ∨ tag = 4 ∨ tag = 5 ∨ tag = 6 by omega) with rfl | rfl | rfl | rfl <;> exact ⟨_, rfl⟩
  obtain ⟨C0, hty⟩ := hty
  refine va_aldq hx hb hKS.1 R.2.1 x.toNat (tag - 1) he hty (z_vpin ri hi0 hi1) hd ?_
  rw [z_nat ri, show ((i.toNat : Nat) : Int) = i by omega]
  exact hk
theorem z_s_alen {kd n tag : Nat} {x : Int} (ht : kd / 100000 = tag) (h3 : 1 ≤ tag ∧ tag ≤ 6) (hn : kd % 100000 = n) (hok : z_ok N kd x = true) (hd : decode (z_hd y).2.1 pc = .ok (.arraylength, 1))
    (h : z_X e ph d y Ni No (pc + 1) ls (z_I (n : Int) :: st) N σ Q) : z_X e ph d y Ni No pc ls (z_R x :: st) N σ Q := by
  intro r1 r2 r3 p env s m args below meth c H locs la C R h1 h2 hl
  obtain ⟨hx, hb, -, -, hown, hts, -, -, hKS⟩ := id C
  obtain ⟨-, r2⟩ := List.forall_mem_cons.mp r2
  obtain ⟨g0, g1, g2, g3⟩ := z_ok_sp hok
  have hk := h r1 (List.forall_mem_cons.mpr ⟨by show z_ir _; unfold z_ir; omega, r2⟩) r3 p env s m args below meth c H locs la C R h1 h2 hl
  rw [List.map_cons] at hk
  rw [List.map_cons, z_vv_pos (by omega)]
  have he := z_wd_get (e := e) (ph := ph) (σ := σ) g1
  have hty : ∃ C, (z_tys e)[tag - 1]? = some (e.2.2.2 tag, C) := by
    obtain ⟨a, b⟩ := h3
    rcases (show tag = 1 ∨ tag = 2 ∨ tag = 3 ∨ tag = 4 ∨ tag = 5 ∨ tag = 6 by omega) with rfl | rfl | rfl | rfl | rfl | rfl <;> exact ⟨_, rfl⟩
  obtain ⟨C0, hty⟩ := hty
  by_cases h2' : tag ≤ 2
  · rw [z_ce_arr (kd := kd) (by rw [g2]; exact g3) ht hn (by omega), g2] at he
    exact va_alen hx hb hKS.1 R.2.1 x.toNat (tag - 1) he hty (v := Int32.ofInt (n : Int)) rfl hd hk
  · rw [z_ce_ref (kd := kd) (by rw [g2]; exact g3) ht hn (by omega), g2] at he
    exact va_alen hx hb hKS.1 R.2.1 x.toNat (tag - 1) he hty (v := Int32.ofInt (n : Int)) rfl hd hk
theorem z_s_iast {kd n : Nat} {x i v : Int} (ht : kd / 100000 = 1) (hn : kd % 100000 = n) (hok : z_ok N kd x = true) (hi0 : 0 ≤ i) (hi1 : i < (n : Int)) (hd : decode (z_hd y).2.1 pc = .ok (.iastore, 1))
    (h : z_X e ph d y Ni No (pc + 1) ls st N (z_up σ x i v) Q) : z_X e ph d y Ni No pc ls (z_I v :: z_I i :: z_R x :: st) N σ Q := by
  intro r1 r2 r3 p env s m args below meth c H locs la C R h1 h2 hl
  obtain ⟨hx, hb, -, -, hown, hts, -, -, hKS⟩ := id C
  obtain ⟨rv, r2⟩ := List.forall_mem_cons.mp r2
  obtain ⟨ri, r2⟩ := List.forall_mem_cons.mp r2
  obtain ⟨-, r2⟩ := List.forall_mem_cons.mp r2
  obtain ⟨g0, g1, g2, g3⟩ := z_ok_sp hok
  rw [List.map_cons, List.map_cons, List.map_cons, z_vv_pos (by omega)]
  have hce := fun σ0 => z_ce_arr (e := e) (ph := ph) (σ := σ0) (k := x.toNat) (kd := kd) (by rw [g2]; exact g3) ht hn (Or.inl rfl)
  have hat := R.2.1 x.toNat _ (z_wd_get g1)
  rw [hce, g2] at hat
  refine W.iast hx hb hat ((hKS.1.2 0 _ rfl).1 n (fun j => .int (Int32.ofInt (σ x (j : Int))))) (fun q => by cases q) (by show ¬ (Int32.ofInt i < 0 ∨ (arrV _ _ _).slots.size ≤ _); rw [arrV_size]; exact z_vpin ri hi0 hi1) rfl rfl hd fun H1 e1 z1 oq => ?_
  refine h r1 r2 (z_rM_up r3 rv) p env s m args below meth c H1 _ la C ⟨fun w => z1.trans (R.1 w), z_P_set R.2.1 (k := x.toNat) (fun _ => ?_) oq (fun k' _ hk => z_up_o g2 hk), R.2.2.put z1 oq (Nat.le_add_right _ _)⟩ h1 h2 hl
  rw [hce, g2]
  show H1[_]? = some (vp_cell _ _)
  rw [e1]
  rw [vp_cell_i, vp_cell_i, arrV_store]
  congr 2
  funext q
  rw [z_nat ri]
  by_cases hq : q = i.toNat
  · subst hq
    simp only [updV, if_pos, z_up]
    rw [if_pos ⟨trivial, by omega⟩]
  · simp only [updV, if_neg hq, z_up]
    rw [if_neg (by omega)]
theorem z_s_zast {kd n : Nat} {x i v : Int} (ht : kd / 100000 = 2) (hn : kd % 100000 = n) (hok : z_ok N kd x = true) (hi0 : 0 ≤ i) (hi1 : i < (n : Int)) (h01 : v = 0 ∨ v = 1) (hd : decode (z_hd y).2.1 pc = .ok (.bastore, 1))
    (h : z_X e ph d y Ni No (pc + 1) ls st N (z_up σ x i v) Q) : z_X e ph d y Ni No pc ls (z_I v :: z_I i :: z_R x :: st) N σ Q := by
  intro r1 r2 r3 p env s m args below meth c H locs la C R h1 h2 hl
  obtain ⟨hx, hb, -, -, hown, hts, -, -, hKS⟩ := id C
  obtain ⟨rv, r2⟩ := List.forall_mem_cons.mp r2
  obtain ⟨ri, r2⟩ := List.forall_mem_cons.mp r2
  obtain ⟨-, r2⟩ := List.forall_mem_cons.mp r2
  obtain ⟨g0, g1, g2, g3⟩ := z_ok_sp hok
  rw [List.map_cons, List.map_cons, List.map_cons, z_vv_pos (by omega)]
  have hce := fun σ0 => z_ce_arr (e := e) (ph := ph) (σ := σ0) (k := x.toNat) (kd := kd) (by rw [g2]; exact g3) ht hn (Or.inr rfl)
  have hat := R.2.1 x.toNat _ (z_wd_get g1)
  rw [hce, g2] at hat
  have hnw : narrow .boolean (.int (Int32.ofInt v)) = .int (Int32.ofInt v) := by rcases h01 with rfl | rfl <;> rfl
  refine W.zast hx hb hat ((hKS.1.2 1 _ rfl).1 n (fun j => .int (Int32.ofInt (σ x (j : Int))))) (fun q => by cases q) (by show ¬ (Int32.ofInt i < 0 ∨ (arrV _ _ _).slots.size ≤ _); rw [arrV_size]; exact z_vpin ri hi0 hi1) rfl rfl hd fun H1 e1 z1 oq => ?_
  refine h r1 r2 (z_rM_up r3 rv) p env s m args below meth c H1 _ la C ⟨fun w => z1.trans (R.1 w), z_P_set R.2.1 (k := x.toNat) (fun _ => ?_) oq (fun k' _ hk => z_up_o g2 hk), R.2.2.put z1 oq (Nat.le_add_right _ _)⟩ h1 h2 hl
  rw [hce, g2]
  show H1[_]? = some (vp_cell _ _)
  rw [e1, hnw]
  rw [vp_cell_i, vp_cell_i, arrV_store]
  congr 2
  funext q
  rw [z_nat ri]
  by_cases hq : q = i.toNat
  · subst hq
    simp only [updV, if_pos, z_up]
    rw [if_pos ⟨trivial, by omega⟩]
  · simp only [updV, if_neg hq, z_up]
    rw [if_neg (by omega)]
theorem z_s_aast {kd n tag ci : Nat} {q : vw_C} {x i v : Int} (ht : kd / 100000 = tag) (h3 : 3 ≤ tag ∧ tag ≤ 6) (hph : ph = false ∨ tag = 6) (hn : kd % 100000 = n) (hok : z_ok N kd x = true) (hi0 : 0 ≤ i) (hi1 : i < (n : Int)) (hc : z_cl[ci]? = some q) (hqn : q.1 = z_aty tag) (hv : v < 0 ∨ z_ok N (ci + 1) v = true) (hvi : z_ir v) (hd : decode (z_hd y).2.1 pc = .ok (.aastore, 1))
    (h : z_X e ph d y Ni No (pc + 1) ls st N (z_up σ x i v) Q) : z_X e ph d y Ni No pc ls (z_R v :: z_I i :: z_R x :: st) N σ Q := by
  intro r1 r2 r3 p env s m args below meth c H locs la C R h1 h2 hl
  obtain ⟨hx, hb, -, -, hown, hts, -, -, hKS⟩ := id C
  obtain ⟨-, r2⟩ := List.forall_mem_cons.mp r2
  obtain ⟨ri, r2⟩ := List.forall_mem_cons.mp r2
  obtain ⟨-, r2⟩ := List.forall_mem_cons.mp r2
  obtain ⟨g0, g1, g2, g3⟩ := z_ok_sp hok
  rw [List.map_cons, List.map_cons, List.map_cons, z_vv_pos (x := x) (by omega)]
  have hce := fun σ0 => z_ce_ref (e := e) (ph := ph) (σ := σ0) (k := x.toNat) (kd := kd) (by rw [g2]; exact g3) ht hn h3.1
  have hph' : (ph && !(tag == 6)) = false := by rcases hph with rfl | rfl <;> simp
  have hat := R.2.1 x.toNat _ (z_wd_get g1)
  rw [hce, g2] at hat
  simp only [hph', cond_false] at hce hat
  have hty : (z_tys e)[tag - 1]? = some (e.2.2.2 tag, .object q.1) := by
    rw [hqn]
    rcases (show tag = 3 ∨ tag = 4 ∨ tag = 5 ∨ tag = 6 by omega) with rfl | rfl | rfl | rfl <;> rfl
  have fin : ∀ (H1 : Heap), H1[e.2.1.size + x.toNat]? = some ((vp_cell (e.2.2.2 tag) (n, .inr (.inr (.inr (.inr (fun j : Nat => z_ad e (σ x (j : Int)))))))).setSlot (Int32.ofInt i).toNatClampNeg (va_rf (z_ad e v))) → H1.size = H.size → (∀ q, q ≠ e.2.1.size + x.toNat → H1[q]? = H[q]?) → W p e.1 env (z_rm d Ni No) s m args below meth c H1 (locs ++ [⟨e.2.1.size + x.toNat, (Int32.ofInt i).toNatClampNeg⟩]) (N - Ni) (z_sl N - z_sl Ni) (MQ below (z_Qc e ph (z_hd y).2.2.2.1 No Q) args s (No - Ni) (z_sl No - z_sl Ni) (z_A e)) (F0 m (pc + 1) la (st.map (z_vv e))) := by
    intro H1 e1 z1 oq
    refine h r1 r2 (z_rM_up r3 hvi) p env s m args below meth c H1 _ la C ⟨fun w => z1.trans (R.1 w), z_P_set R.2.1 (k := x.toNat) (fun _ => ?_) oq (fun k' _ hk => z_up_o g2 hk), R.2.2.put z1 oq (Nat.le_add_right _ _)⟩ h1 h2 hl
    rw [hce, g2]
    show H1[_]? = some (vp_cell _ _)
    rw [e1]
    rw [vp_cell_q, vp_cell_q, arrV_store]
    congr 2
    funext q
    rw [z_nat ri]
    by_cases hq : q = i.toNat
    · subst hq
      simp only [updV, if_pos, z_up]
      rw [if_pos ⟨trivial, by omega⟩]
    · simp only [updV, if_neg hq, z_up]
      rw [if_neg (by omega)]
  by_cases hv0 : v < 0
  · rw [z_vv_neg hv0]
    rw [z_ad_neg hv0] at fin
    exact va_WaastN (C := q.1) hx hb hat ((hKS.1.2 (tag - 1) _ hty).1 n (fun j => va_rf (z_ad e (σ x (j : Int))))) (fun q => by cases q) (by show ¬ (Int32.ofInt i < 0 ∨ (arrV _ _ _).slots.size ≤ _); rw [arrV_size]; exact z_vpin ri hi0 hi1) rfl rfl hd fun H1 e1 z1 oq => fin H1 e1 z1 oq
  · rw [z_vv_pos hv0]
    rw [z_ad_pos hv0] at fin
    obtain ⟨w0, w1, w2, w3⟩ := z_ok_sp (hv.resolve_left hv0)
    have hci : ci < 9 := (List.getElem?_eq_some_iff.mp hc).1
    have hatv := R.2.1 v.toNat _ (z_wd_get w1)
    rw [z_ce_obj (kd := ci + 1) (by rw [w2]; exact w3) (by omega)] at hatv
    obtain ⟨r', hr', cellV, y1, y2, y3, -⟩ := hatv
    have hcls := (hKS.1.1 ci q hc).2
    obtain ⟨kA, comp, k1, k2, k3, -⟩ := (hKS.1.2 (tag - 1) _ hty).2
    have hcomp : comp = e.2.2.1.1 ci := Option.some.inj (k3.symm.trans hcls.1)
    subst hcomp
    obtain ⟨kC, hkC, -⟩ := hcls.2
    have hvp := z_vpin (n := n) ri hi0 hi1
    refine W.aast hx hb hat (fun q h => by cases h) (fun h => by cases h) k1 k2 rfl hkC ⟨fun w => hvp (Or.inl w), by show _ < (arrV _ _ _).slots.size; rw [arrV_size]; exact Nat.not_le.mp fun w => hvp (Or.inr w)⟩ y1 (fun q h => by rw [y3] at h; cases h) (by rw [y2]; exact hkC) (by rw [y2]; exact va_assign hcls) rfl rfl hd fun H1 e1 z1 oq => fin H1 e1 z1 oq
/-! new cells -/
theorem z_sl_mono {a b : Nat} (h : a ≤ b) : z_sl a ≤ z_sl b := by
  induction h with
  | refl => exact Nat.le_refl _
  | step _ ih => exact Nat.le_trans ih (Nat.le_add_right _ _)
theorem z_P_push {σ' : z_M} {H H1 : Heap} (hP : va_P e.2.2.1 z_cl (z_wd e ph σ N) H) (hat : va_at e.2.2.1 z_cl (e.2.1.size + N, z_ce e ph σ' N) H1) (oq : ∀ q, q < e.2.1.size + N → H1[q]? = H[q]?) (ho : ∀ k', k' < N → z_ce e ph σ' k' = z_ce e ph σ k') : va_P e.2.2.1 z_cl (z_wd e ph σ' (N + 1)) H1 := by
  intro k' q hq
  obtain ⟨h1, rfl⟩ := z_wd_get' hq
  by_cases hk : k' = N
  · subst hk; exact hat
  · rw [ho k' (by omega)]
    exact (hP k' _ (z_wd_get (by omega))).kept (oq _ (by show e.2.1.size + k' < _; omega))
theorem z_nu_o {a : Int} {kd k k' : Nat} (ha : ((k : Nat) : Int) = a) (hk : k' ≠ k) : z_ce e ph (z_nu σ a kd) k' = z_ce e ph σ k' :=
  z_ce_congr fun j => by unfold z_nu; rw [if_neg (by omega)]
theorem z_df_ir (kd : Nat) (i : Int) : z_ir (z_df kd i) := by
  unfold z_df z_ir
  split
  · split <;> omega
  · split <;> omega
theorem z_rM_nu {a : Int} {kd : Nat} (h : z_rM σ) : z_rM (z_nu σ a kd) := fun a' i' => by
  unfold z_nu; split
  · exact z_df_ir _ _
  · exact h a' i'
/-- the end of each making -/
theorem z_made {kd : Nat} (hph : ph = false) {s : State} {p : Program} {env : Env} {m : MethodId} {args : Array Value} {below : List Frame} {meth : Method} {c : Code} {H H1 : Heap} {locs : List Loc} {la : Array Slot} {pc' sl : Nat} (h : z_X e ph d y Ni No pc' ls (z_R (N : Int) :: st) (N + 1) (z_nu σ (N : Int) kd) Q) (r1 : z_rL ls) (r2 : z_rS st) (r3 : z_rM σ) (C : z_Cx e y p s m args meth c) (R : z_Rep e ph N σ H locs) (h1 : Ni ≤ N) (hN : N < No) (hl : lv_has la (z_hd y).2.2.1 (z_en e 0 ls)) (hsl : z_slot N = sl)
    (hat : va_at e.2.2.1 z_cl (e.2.1.size + N, z_ce e ph (z_nu σ (N : Int) kd) N) H1) (z1 : H1.size = e.2.1.size + N + 1) (oq : ∀ q, q < e.2.1.size + N → H1[q]? = H[q]?) :
    W p e.1 env (z_rm d Ni No) s m args below meth c H1 locs (N - Ni + 1) (z_sl N - z_sl Ni + sl) (MQ below (z_Qc e ph (z_hd y).2.2.2.1 No Q) args s (No - Ni) (z_sl No - z_sl Ni) (z_A e)) (F0 m pc' la (Value.ref (e.2.1.size + N) :: st.map (z_vv e))) := by
  have hk := h r1 (List.forall_mem_cons.mpr ⟨trivial, r2⟩) (z_rM_nu r3) p env s m args below meth c H1 locs la C ⟨fun _ => by omega, z_P_push R.2.1 hat oq (fun k' hk => z_nu_o rfl (by omega)), ⟨by have := R.2.2.1; have := R.1 hph; omega, fun q g1 g2 => by rw [oq q (by omega)]; exact R.2.2.2.1 q g1 g2, R.2.2.2.2⟩⟩ (by omega) (by omega) hl
  have hm := z_sl_mono h1
  rw [show N + 1 - Ni = N - Ni + 1 by omega, show z_sl (N + 1) - z_sl Ni = z_sl N - z_sl Ni + sl by rw [show z_sl (N + 1) = z_sl N + z_slot N from rfl, hsl]; omega, List.map_cons, z_vv_pos (by omega), show ((N : Int)).toNat = N by omega] at hk
  exact hk
theorem z_room {sl : Nat} (h1 : Ni ≤ N) (hN : N < No) (hsl : z_slot N = sl) : N - Ni + 1 ≤ (z_rm d Ni No).cells ∧ z_sl N - z_sl Ni + sl ≤ (z_rm d Ni No).slots := by
  have := z_sl_mono h1
  have := z_sl_mono (show N + 1 ≤ No from hN)
  have : z_sl (N + 1) = z_sl N + z_slot N := rfl
  show N - Ni + 1 ≤ No - Ni ∧ z_sl N - z_sl Ni + sl ≤ z_sl No - z_sl Ni
  omega
theorem z_s_newi {n : Nat} (hph : ph = false) (hn : n < 100000) (hk : z_knd (N : Int) = 100000 + n) (hN : N < No) (hw : Cond.arrayClass .int ∈ z_gw) (hd : decode (z_hd y).2.1 pc = .ok (.newarray .int, 2))
    (h : z_X e ph d y Ni No (pc + 2) ls (z_R (N : Int) :: st) (N + 1) (z_nu σ (N : Int) (100000 + n)) Q) : z_X e ph d y Ni No pc ls (z_I (n : Int) :: st) N σ Q := by
  intro r1 r2 r3 p env s m args below meth c H locs la C R h1 h2 hl
  obtain ⟨hx, hb, -, -, hown, hts, -, -, hKS⟩ := id C
  obtain ⟨-, r2⟩ := List.forall_mem_cons.mp r2
  subst hph
  have hir : z_ir (n : Int) := by unfold z_ir; omega
  have hsl : z_slot N = n := by unfold z_slot; rw [hk, if_neg (by omega)]; omega
  obtain ⟨q1, q2⟩ := z_room (d := d) h1 hN hsl
  refine va_newaK (N := n) (atype := .int) hx hb (hts _ hw) rfl hd rfl (by rw [z_zero, z_lt hir z_ir0]; omega) (by rw [z_nat hir]; omega) (by show n * 4 ≤ _; omega) q1 q2 (R.1 rfl) fun H1 cA e1 z1 oq hA hf => ?_
  have hcA : cA = e.2.2.2 1 := Option.some.inj (hf.symm.trans (hKS.1.2 0 _ rfl).2)
  subst hcA
  refine z_made rfl h r1 r2 r3 C R h1 hN hl hsl ?_ z1 oq
  rw [z_ce_arr (kd := 100000 + n) hk (by omega) (n := n) (by omega) (Or.inl rfl)]
  refine e1.trans ?_
  show _ = some (vp_cell _ _)
  rw [vp_cell_i]
  congr 2
  funext q
  show Value.int 0 = Value.int (Int32.ofInt (if (N : Int) = N then z_df (100000 + n) q else _))
  rw [if_pos rfl, show z_df (100000 + n) q = 0 by unfold z_df; rw [if_neg (by omega), if_pos (by omega)]]
  rfl
theorem z_s_newz {n : Nat} (hph : ph = false) (hn : n < 100000) (hk : z_knd (N : Int) = 200000 + n) (hN : N < No) (hw : Cond.arrayClass .boolean ∈ z_gw) (hd : decode (z_hd y).2.1 pc = .ok (.newarray .boolean, 2))
    (h : z_X e ph d y Ni No (pc + 2) ls (z_R (N : Int) :: st) (N + 1) (z_nu σ (N : Int) (200000 + n)) Q) : z_X e ph d y Ni No pc ls (z_I (n : Int) :: st) N σ Q := by
  intro r1 r2 r3 p env s m args below meth c H locs la C R h1 h2 hl
  obtain ⟨hx, hb, -, -, hown, hts, -, -, hKS⟩ := id C
  obtain ⟨-, r2⟩ := List.forall_mem_cons.mp r2
  subst hph
  have hir : z_ir (n : Int) := by unfold z_ir; omega
  have hsl : z_slot N = n := by unfold z_slot; rw [hk, if_neg (by omega)]; omega
  obtain ⟨q1, q2⟩ := z_room (d := d) h1 hN hsl
  refine va_newaK (N := n) (atype := .boolean) hx hb (hts _ hw) rfl hd rfl (by rw [z_zero, z_lt hir z_ir0]; omega) (by rw [z_nat hir]; omega) (by show n * 1 ≤ _; omega) q1 q2 (R.1 rfl) fun H1 cA e1 z1 oq hA hf => ?_
  have hcA : cA = e.2.2.2 2 := Option.some.inj (hf.symm.trans (hKS.1.2 1 _ rfl).2)
  subst hcA
  refine z_made rfl h r1 r2 r3 C R h1 hN hl hsl ?_ z1 oq
  rw [z_ce_arr (kd := 200000 + n) hk (by omega) (n := n) (by omega) (Or.inr rfl)]
  refine e1.trans ?_
  show _ = some (vp_cell _ _)
  rw [vp_cell_i]
  congr 2
  funext q
  show Value.int 0 = Value.int (Int32.ofInt (if (N : Int) = N then z_df (200000 + n) q else _))
  rw [if_pos rfl, show z_df (200000 + n) q = 0 by unfold z_df; rw [if_neg (by omega), if_pos (by omega)]]
  rfl
theorem z_s_newq {n ix tag : Nat} (h3 : 3 ≤ tag ∧ tag ≤ 6) (hn : n < 100000) (hk : z_knd (N : Int) = tag * 100000 + n) (hph : ph = false) (hN : N < No) (hw : Cond.classLink (z_hd y).1.cls ix (z_aty tag) ∈ z_gw) (hd : decode (z_hd y).2.1 pc = .ok (.anewarray ix, 3))
    (h : z_X e ph d y Ni No (pc + 3) ls (z_R (N : Int) :: st) (N + 1) (z_nu σ (N : Int) (tag * 100000 + n)) Q) : z_X e ph d y Ni No pc ls (z_I (n : Int) :: st) N σ Q := by
  intro r1 r2 r3 p env s m args below meth c H locs la C R h1 h2 hl
  obtain ⟨hx, hb, -, -, hown, hts, -, -, hKS⟩ := id C
  obtain ⟨-, r2⟩ := List.forall_mem_cons.mp r2
  subst hph
  have hir : z_ir (n : Int) := by unfold z_ir; omega
  have hsl : z_slot N = n := by unfold z_slot; rw [hk, if_neg (by omega)]; omega
  obtain ⟨q1, q2⟩ := z_room (d := d) h1 hN hsl
  have hty : (z_tys e)[tag - 1]? = some (e.2.2.2 tag, .object (z_aty tag)) ∧ z_aty tag ∈ z_ao := by
    rcases (show tag = 3 ∨ tag = 4 ∨ tag = 5 ∨ tag = 6 by omega) with rfl | rfl | rfl | rfl <;> exact ⟨rfl, by decide +kernel⟩
  have hnat : (Int32.ofInt (n : Int)).toNatClampNeg = n := by rw [z_nat hir]; omega
  refine W.anew hx hb hown (hts _ hw) (va_AO.use (hKS.2.2 _ hty.2)) rfl hd rfl (by rw [z_zero, z_lt hir z_ir0]; omega) (by rw [hnat]; omega) q1 (by rw [hnat]; exact q2) fun cA kA comp f1 f2 f3 f4 => ?_
  obtain ⟨kA', comp', k1, k2, k3, k4⟩ := (hKS.1.2 (tag - 1) _ hty.1).2
  have hcA : cA = e.2.2.2 tag := Option.some.inj (f1.symm.trans k4)
  subst hcA
  have hsz := R.1 rfl
  rw [hnat]
  generalize hH1 : H.push ({ cls := e.2.2.2 tag, slots := Array.replicate n .null, vm := .none } : Cell) = H1
  have z1 : H1.size = H.size + 1 := by rw [← hH1, Array.size_push]
  have e1 : H1[H.size]? = some (arrV (e.2.2.2 tag) n (fun _ => .null)) := by rw [← hH1, Array.getElem?_push_size, ← arrV_new]
  have o1 : ∀ q : Nat, q < H.size → H1[q]? = H[q]? := fun q hq => by rw [← hH1, Array.getElem?_push, if_neg (Nat.ne_of_lt hq)]
  rw [hsz] at z1 e1 o1 ⊢
  refine z_made rfl h r1 r2 r3 C R h1 hN hl hsl ?_ z1 o1
  rw [z_ce_ref (kd := tag * 100000 + n) hk (by omega) (n := n) (by omega) h3.1]
  refine e1.trans ?_
  show _ = some (vp_cell _ _)
  rw [vp_cell_q]
  congr 2
  funext q
  show Value.null = va_rf (z_ad e (if (N : Int) = N then z_df (tag * 100000 + n) q else _))
  rw [if_pos rfl, show z_df (tag * 100000 + n) q = -1 by unfold z_df; rw [if_neg (by omega), if_neg (by omega)]]
  rfl
theorem z_s_new {ci ix : Nat} {q : vw_C} (hc : z_cl[ci]? = some q) (hk : z_knd (N : Int) = ci + 1) (hph : ph = false) (hN : N < No) (hw : Cond.classLink (z_hd y).1.cls ix q.1 ∈ z_gw) (hw2 : Cond.instantiable q.1 q.2.2 ∈ z_gw) (hw3 : Cond.initialized q.1 ∈ z_gw) (hd : decode (z_hd y).2.1 pc = .ok (.new ix, 3))
    (h : z_X e ph d y Ni No (pc + 3) ls (z_R (N : Int) :: st) (N + 1) (z_nu σ (N : Int) (ci + 1)) Q) : z_X e ph d y Ni No pc ls st N σ Q := by
  intro r1 r2 r3 p env s m args below meth c H locs la C R h1 h2 hl
  obtain ⟨hx, hb, -, -, hown, hts, -, -, hKS⟩ := id C
  subst hph
  obtain ⟨f1, f2, f3, f4⟩ := z_cls ci q hc
  have hci : ci < 9 := (List.getElem?_eq_some_iff.mp hc).1
  have hsl : z_slot N = q.2.2 := by unfold z_slot; rw [hk, if_pos (by omega)]; exact f2
  obtain ⟨q1, q2⟩ := z_room (d := d) h1 hN hsl
  have hKn := hKS.1.1 ci q hc
  refine W.newcK hx hb hown (hts _ hw) (hts _ hw2) (hts _ hw3) rfl hd q1 q2 hKn.2.1 (R.1 rfl) fun H1 kC hkC e1 z1 o1 => ?_
  refine z_made rfl h r1 r2 r3 C R h1 hN hl hsl ?_ z1 o1
  rw [z_ce_obj (kd := ci + 1) hk (by omega)]
  refine ⟨q, hc, (u_born (z_ty ci) hts f1 hKn hkC e1 f3).to (fun j hj => ?_)⟩
  show defaultValue (z_ty ci j) = vp_V _ j
  have hg := z_fs_get (e := e) (ph := false) (σ := z_nu σ (N : Int) (ci + 1)) (x := (N : Int)) f2 hj
  unfold vp_V
  rw [List.getD_eq_getElem?_getD]
  refine Eq.trans ?_ (congrArg (fun o : Option Value => o.getD .null) hg).symm
  show _ = z_fv e false (ci + 1) j _ (if (N : Int) = N then z_df (ci + 1) (j : Int) else _)
  rw [if_pos rfl]
  have ht := z_tc_sp (z_tyk ci q hc j hj)
  unfold z_fv z_df
  rw [if_pos (by omega), show ((j : Int)).toNat = j by omega]
  revert ht
  generalize z_ft (ci + 1) j = t
  intro ht
  match t, ht with
  | 0, ht => rw [show z_ty ci j = .int from ht]; rfl
  | 1, ht => obtain ⟨n, hn⟩ := ht; rw [hn]; rfl
  | 2, ht => rcases ht with ⟨n, hn⟩ | ⟨n, hn⟩ <;> rw [hn] <;> rfl
  | 3, ht => rw [show z_ty ci j = .boolean from ht]; rfl
end ZR
end
section
/-! copies, calls, returns -/
section ZC
variable {e : z_E} {ph : Bool} {d y Ni No pc N : Nat} {ls : List (Option z_V)} {st : List z_V} {σ : z_M} {Q : Int → z_M → Prop}
theorem z_cat_sum : ∀ (st : List z_V), ((st.map (z_vv e)).map fun v => v.category).sum = z_cat st
  | [] => rfl
  | .inl x :: l => by
    simp only [List.map_cons, List.sum_cons, z_cat]
    rw [z_cat_sum l, z_cat2 (by intro x h; cases h)]; omega
  | .inr (.inl x) :: l => by
    simp only [List.map_cons, List.sum_cons, z_cat]
    rw [z_cat_sum l, show (z_vv e (.inr (.inl x))).category = 2 from rfl]; omega
  | .inr (.inr x) :: l => by
    simp only [List.map_cons, List.sum_cons, z_cat]
    rw [z_cat_sum l, z_cat2 (by intro x h; cases h)]; omega
theorem z_rM_cp {a sp dd dp n : Int} (h : z_rM σ) : z_rM (z_cp σ a sp dd dp n) := fun a' i' => by
  unfold z_cp; split
  · exact h _ _
  · exact h a' i'
theorem z_s_copy {k0 k1 n0 n1 ix : Nat} {src dst sp dp n : Int} (hph : ph = true) (ht0 : k0 / 100000 = 1) (hn0 : k0 % 100000 = n0) (ht1 : k1 / 100000 = 1) (hn1 : k1 % 100000 = n1) (hok0 : z_ok N k0 src = true) (hok1 : z_ok N k1 dst = true) (h0 : 0 ≤ sp) (h1' : 0 ≤ dp) (h2' : 0 ≤ n) (h3 : sp + n ≤ (n0 : Int)) (h4 : dp + n ≤ (n1 : Int)) (hcat : z_cat st ≤ 8)
    (hw1 : Cond.methodLink (z_hd y).1.cls ix arraycopyName ∈ z_gw) (hw2 : Cond.native arraycopyName ∈ z_gw) (hw3 : Cond.static arraycopyName ∈ z_gw) (hw4 : Cond.initialized "java/lang/System" ∈ z_gw) (hd1 : 1 ≤ d) (hd : decode (z_hd y).2.1 pc = .ok (.invokestatic ix, 3))
    (h : z_X e ph d y Ni No (pc + 3) ls st N (z_cp σ src sp dst dp n) Q) : z_X e ph d y Ni No pc ls (z_I n :: z_I dp :: z_R dst :: z_I sp :: z_R src :: st) N σ Q := by
  intro r1 r2 r3 p env s m args below meth c H locs la C R h1 h2 hl
  obtain ⟨hx, hb, -, hml, hown, hts, -, -, hKS⟩ := id C
  obtain ⟨rn, r2⟩ := List.forall_mem_cons.mp r2
  obtain ⟨rdp, r2⟩ := List.forall_mem_cons.mp r2
  obtain ⟨-, r2⟩ := List.forall_mem_cons.mp r2
  obtain ⟨rsp, r2⟩ := List.forall_mem_cons.mp r2
  obtain ⟨-, r2⟩ := List.forall_mem_cons.mp r2
  obtain ⟨a0, a1, a2, a3⟩ := z_ok_sp hok0
  obtain ⟨b0, b1, b2, b3⟩ := z_ok_sp hok1
  simp only [List.map_cons]
  rw [z_vv_pos (x := src) (by omega), z_vv_pos (x := dst) (by omega)]
  have he0 := z_wd_get (e := e) (ph := ph) (σ := σ) a1
  rw [z_ce_arr (kd := k0) (by rw [a2]; exact a3) ht0 hn0 (Or.inl rfl), a2] at he0
  have he1 := z_wd_get (e := e) (ph := ph) (σ := σ) b1
  have hce := fun σ0 => z_ce_arr (e := e) (ph := ph) (σ := σ0) (k := dst.toNat) (kd := k1) (by rw [b2]; exact b3) ht1 hn1 (Or.inl rfl)
  rw [hce, b2] at he1
  have hset : (z_wd e ph σ N).set dst.toNat (e.2.1.size + dst.toNat, .inl (e.2.2.2 1, n1, .inl (va_cpy (fun j : Nat => Int32.ofInt (σ src (j : Int))) (fun j : Nat => Int32.ofInt (σ dst (j : Int))) sp.toNat dp.toNat n.toNat))) = z_wd e ph (z_cp σ src sp dst dp n) N := by
    refine z_wd_set ?_ (fun k' _ hk => z_ce_congr fun j => by unfold z_cp; rw [if_neg (by omega)])
    rw [hce, b2]
    congr 4
    funext q
    unfold va_cpy z_cp
    by_cases hq : dp.toNat ≤ q ∧ q < dp.toNat + n.toNat
    · rw [if_pos hq, if_pos ⟨rfl, by omega, by omega⟩]
      congr 2
      omega
    · rw [if_neg hq, if_neg (by omega)]
  refine va_copyi (H0 := e.2.1) hx hb (hml.trans hl.1.symm) hown (hts _ hw1) (hts _ hw2) (hts _ hw3) (hts _ hw4) hKS.1 R.2.1 z_wd_D R.2.2 src.toNat dst.toNat 0 0 he0 he1 rfl rfl rfl
    (by rw [z_zero, z_lt rsp z_ir0]; omega) (by rw [z_zero, z_lt rdp z_ir0]; omega) (by rw [z_zero, z_lt rn z_ir0]; omega) (by rw [z_nat rsp, z_nat rn]; omega) (by rw [z_nat rdp, z_nat rn]; omega) (fun _ _ => rfl) hd1 ?_ hd (fun H1 locs1 hp hdd hs => ?_)
  · rw [z_cat_sum]
    show z_cat st + (nativeFrameWords "java/lang/System" "arraycopy" 5 + 11) ≤ 40 * d + 60
    have : nativeFrameWords "java/lang/System" "arraycopy" 5 ≤ 7 := by decide +kernel
    omega
  · rw [z_nat rsp, z_nat rdp, z_nat rn] at hp
    exact h r1 r2 (z_rM_cp r3) p env s m args below meth c H1 locs1 la C ⟨fun w => absurd (hph.symm.trans w) (by decide), (by rw [← hset]; exact hp), hs⟩ h1 h2 hl
theorem z_s_copyz {k0 k1 n0 n1 ix : Nat} {src dst sp dp n : Int} (hph : ph = true) (ht0 : k0 / 100000 = 2) (hn0 : k0 % 100000 = n0) (ht1 : k1 / 100000 = 2) (hn1 : k1 % 100000 = n1) (hok0 : z_ok N k0 src = true) (hok1 : z_ok N k1 dst = true) (h0 : 0 ≤ sp) (h1' : 0 ≤ dp) (h2' : 0 ≤ n) (h3 : sp + n ≤ (n0 : Int)) (h4 : dp + n ≤ (n1 : Int)) (hcat : z_cat st ≤ 8)
    (hw1 : Cond.methodLink (z_hd y).1.cls ix arraycopyName ∈ z_gw) (hw2 : Cond.native arraycopyName ∈ z_gw) (hw3 : Cond.static arraycopyName ∈ z_gw) (hw4 : Cond.initialized "java/lang/System" ∈ z_gw) (hd1 : 1 ≤ d) (hd : decode (z_hd y).2.1 pc = .ok (.invokestatic ix, 3)) (h01 : ∀ i : Int, 0 ≤ i → i < (n0 : Int) → σ src i = 0 ∨ σ src i = 1)
    (h : z_X e ph d y Ni No (pc + 3) ls st N (z_cp σ src sp dst dp n) Q) : z_X e ph d y Ni No pc ls (z_I n :: z_I dp :: z_R dst :: z_I sp :: z_R src :: st) N σ Q := by
  intro r1 r2 r3 p env s m args below meth c H locs la C R h1 h2 hl
  obtain ⟨hx, hb, -, hml, hown, hts, -, -, hKS⟩ := id C
  obtain ⟨rn, r2⟩ := List.forall_mem_cons.mp r2
  obtain ⟨rdp, r2⟩ := List.forall_mem_cons.mp r2
  obtain ⟨-, r2⟩ := List.forall_mem_cons.mp r2
  obtain ⟨rsp, r2⟩ := List.forall_mem_cons.mp r2
  obtain ⟨-, r2⟩ := List.forall_mem_cons.mp r2
  obtain ⟨a0, a1, a2, a3⟩ := z_ok_sp hok0
  obtain ⟨b0, b1, b2, b3⟩ := z_ok_sp hok1
  simp only [List.map_cons]
  rw [z_vv_pos (x := src) (by omega), z_vv_pos (x := dst) (by omega)]
  have he0 := z_wd_get (e := e) (ph := ph) (σ := σ) a1
  rw [z_ce_arr (kd := k0) (by rw [a2]; exact a3) ht0 hn0 (Or.inr rfl), a2] at he0
  have he1 := z_wd_get (e := e) (ph := ph) (σ := σ) b1
  have hce := fun σ0 => z_ce_arr (e := e) (ph := ph) (σ := σ0) (k := dst.toNat) (kd := k1) (by rw [b2]; exact b3) ht1 hn1 (Or.inr rfl)
  rw [hce, b2] at he1
  have hset : (z_wd e ph σ N).set dst.toNat (e.2.1.size + dst.toNat, .inl (e.2.2.2 2, n1, .inl (va_cpy (fun j : Nat => Int32.ofInt (σ src (j : Int))) (fun j : Nat => Int32.ofInt (σ dst (j : Int))) sp.toNat dp.toNat n.toNat))) = z_wd e ph (z_cp σ src sp dst dp n) N := by
    refine z_wd_set ?_ (fun k' _ hk => z_ce_congr fun j => by unfold z_cp; rw [if_neg (by omega)])
    rw [hce, b2]
    congr 4
    funext q
    unfold va_cpy z_cp
    by_cases hq : dp.toNat ≤ q ∧ q < dp.toNat + n.toNat
    · rw [if_pos hq, if_pos ⟨rfl, by omega, by omega⟩]
      congr 2
      omega
    · rw [if_neg hq, if_neg (by omega)]
  refine va_copyi (H0 := e.2.1) (ty := .boolean) hx hb (hml.trans hl.1.symm) hown (hts _ hw1) (hts _ hw2) (hts _ hw3) (hts _ hw4) hKS.1 R.2.1 z_wd_D R.2.2 src.toNat dst.toNat 1 1 he0 he1 rfl rfl rfl
    (by rw [z_zero, z_lt rsp z_ir0]; omega) (by rw [z_zero, z_lt rdp z_ir0]; omega) (by rw [z_zero, z_lt rn z_ir0]; omega) (by rw [z_nat rsp, z_nat rn]; omega) (by rw [z_nat rdp, z_nat rn]; omega) (fun i hi => ?_) hd1 ?_ hd (fun H1 locs1 hp hdd hs => ?_)
  · rw [z_nat rn] at hi
    rw [z_nat rsp]
    rcases h01 ((sp.toNat + i : Nat) : Int) (by omega) (by omega) with q | q <;> rw [q] <;> rfl
  · rw [z_cat_sum]
    show z_cat st + (nativeFrameWords "java/lang/System" "arraycopy" 5 + 11) ≤ 40 * d + 60
    have : nativeFrameWords "java/lang/System" "arraycopy" 5 ≤ 7 := by decide +kernel
    omega
  · rw [z_nat rsp, z_nat rdp, z_nat rn] at hp
    exact h r1 r2 (z_rM_cp r3) p env s m args below meth c H1 locs1 la C ⟨fun w => absurd (hph.symm.trans w) (by decide), (by rw [← hset]; exact hp), hs⟩ h1 h2 hl
def z_abs (x : Int) : Int := if 0 ≤ x then x else z_wr (0 - x)
theorem z_s_abs {x : Int} {ix : Nat} (hcat : z_cat st ≤ 8) (hw1 : Cond.methodLink (z_hd y).1.cls ix Lib.Math.abs.name ∈ z_gw) (hw2 : Cond.static Lib.Math.abs.name ∈ z_gw) (hw3 : Cond.initialized "java/lang/Math" ∈ z_gw) (hw4 : Cond.code Lib.Math.abs.name Lib.Math.abs.code 1 (some .int) ∈ z_gw) (hd1 : 1 ≤ d) (hd : decode (z_hd y).2.1 pc = .ok (.invokestatic ix, 3))
    (h : z_X e ph d y Ni No (pc + 3) ls (z_I (z_abs x) :: st) N σ Q) : z_X e ph d y Ni No pc ls (z_I x :: st) N σ Q := by
  intro r1 r2 r3 p env s m args below meth c H locs la C R h1 h2 hl
  obtain ⟨hx, hb, -, hml, hown, hts, -, -, hKS⟩ := id C
  obtain ⟨rx, r2⟩ := List.forall_mem_cons.mp r2
  have hir : z_ir (z_abs x) := by
    unfold z_abs
    split
    · exact rx
    · exact z_wr_ir _
  have hk := h r1 (List.forall_mem_cons.mpr ⟨hir, r2⟩) r3 p env s m args below meth c H locs la C R h1 h2 hl
  refine va_mabs hx hb (hml.trans hl.1.symm) hown (hts _ hw1) (hts _ hw2) (hts _ hw3) (hts _ hw4) hd1 ?_ ?_ ?_ hd ?_
  · rw [z_cat_sum]; show z_cat st + 13 ≤ 40 * d + 60; omega
  · show N - Ni ≤ No - Ni; omega
  · have := z_sl_mono h2; show z_sl N - z_sl Ni ≤ z_sl No - z_sl Ni; omega
  · rw [List.map_cons, show z_vv e (z_I (z_abs x)) = Value.int (if 0 ≤ Int32.ofInt x then Int32.ofInt x else 0 - Int32.ofInt x) from congrArg Value.int ?_] at hk
    · exact hk
    · unfold z_abs
      rw [z_zero]
      by_cases hq : 0 ≤ x
      · rw [if_pos hq, if_pos ((z_le z_ir0 rx).mpr hq)]
      · rw [if_neg hq, if_neg (fun w => hq ((z_le z_ir0 rx).mp w)), z_of_wr, Int32.ofInt_sub]
theorem z_s_obj {x : Int} {ix : Nat} (hx0 : 0 ≤ x) (hcat : z_cat st ≤ 8) (hw1 : Cond.methodLink (z_hd y).1.cls ix Lib.objectInit ∈ z_gw) (hw2 : Cond.instanceMethod Lib.objectInit ∈ z_gw) (hw3 : Cond.code Lib.objectInit ⟨#[0xb1]⟩ 1 none ∈ z_gw) (hd1 : 1 ≤ d) (hd : decode (z_hd y).2.1 pc = .ok (.invokespecial ix, 3))
    (h : z_X e ph d y Ni No (pc + 3) ls st N σ Q) : z_X e ph d y Ni No pc ls (z_R x :: st) N σ Q := by
  intro r1 r2 r3 p env s m args below meth c H locs la C R h1 h2 hl
  obtain ⟨hx, hb, -, hml, hown, hts, -, -, hKS⟩ := id C
  obtain ⟨-, r2⟩ := List.forall_mem_cons.mp r2
  have hk := h r1 r2 r3 p env s m args below meth c H locs la C R h1 h2 hl
  rw [List.map_cons, z_vv_pos (by omega)]
  refine W.objInit hx hb hown (hts _ hw1) (hts _ hw2) (hts _ hw3) rfl (hl.1.trans hml.symm) rfl hd hd1 ?_ hk
  rw [z_cat_sum]
  show 2 * 0 + z_cat st + 12 ≤ 40 * d + 60
  omega
/-! returns -/
theorem z_end {H : Heap} {locs : List Loc} {args : Array Value} {s : State} {r : Int} (hN : N = No) (R : z_Rep e ph N σ H locs) (hq : Q r σ) (r3 : z_rM σ) (hr : z_rr (z_hd y).2.2.2.1 r) {v : Option Value} (hv : v = z_rv e (z_hd y).2.2.2.1 r) : (∀ t : State, t.heap = H → s.WarmedH t.vm → z_Qc e ph (z_hd y).2.2.2.1 No Q args s (.returned v) t) ∧ ∀ q ∈ locs, z_A e q.base := by
  refine ⟨fun t ht _ => ?_, R.2.2.2.2⟩
  subst hN; subst ht
  exact ⟨r, σ, hq, r3, hr, by rw [hv], R.1, R.2.1, R.2.2.1, R.2.2.2.1, fun l h => by cases h⟩
theorem z_s_ret (hN : N = No) (hr : (z_hd y).2.2.2.1 = none) (hd : decode (z_hd y).2.1 pc = .ok (.return_, 1)) (hq : Q 0 σ) : z_X e ph d y Ni No pc ls [] N σ Q := by
  intro r1 r2 r3 p env s m args below meth c H locs la C R h1 h2 hl
  obtain ⟨hx, hb, hrt, hml, hown, hts, hlk, -, hKS⟩ := id C
  obtain ⟨k1, k2⟩ := z_end (args := args) (s := s) (v := none) hN R hq r3 (by rw [hr]; trivial) (by rw [hr]; rfl)
  subst hN
  exact W.vret hx hb (hrt.trans hr) k1 k2 hd hlk
theorem z_s_iret {x : Int} (hN : N = No) (hr : (z_hd y).2.2.2.1 = some .int) (hd : decode (z_hd y).2.1 pc = .ok (.ireturn, 1)) (hq : Q x σ) : z_X e ph d y Ni No pc ls [z_I x] N σ Q := by
  intro r1 r2 r3 p env s m args below meth c H locs la C R h1 h2 hl
  obtain ⟨hx, hb, hrt, hml, hown, hts, hlk, -, hKS⟩ := id C
  obtain ⟨rx, -⟩ := List.forall_mem_cons.mp r2
  obtain ⟨k1, k2⟩ := z_end (args := args) (s := s) (v := some (.int (Int32.ofInt x))) hN R hq r3 (by rw [hr]; exact rx) (by rw [hr]; rfl)
  subst hN
  exact W.iret hx hb (hrt.trans hr) k1 k2 hd hlk
theorem z_s_zret {x : Int} (hN : N = No) (h01 : x = 0 ∨ x = 1) (hr : (z_hd y).2.2.2.1 = some .boolean) (hd : decode (z_hd y).2.1 pc = .ok (.ireturn, 1)) (hq : Q x σ) : z_X e ph d y Ni No pc ls [z_I x] N σ Q := by
  intro r1 r2 r3 p env s m args below meth c H locs la C R h1 h2 hl
  obtain ⟨hx, hb, hrt, hml, hown, hts, hlk, -, hKS⟩ := id C
  obtain ⟨rx, -⟩ := List.forall_mem_cons.mp r2
  obtain ⟨k1, k2⟩ := z_end (args := args) (s := s) (v := some (.int (Int32.ofInt x))) hN R hq r3 (by rw [hr]; exact rx) (by rw [hr]; rfl)
  subst hN
  exact W.zret hx hb (hrt.trans hr) (by rcases h01 with rfl | rfl <;> rfl) k1 k2 hd hlk
theorem z_s_lret {x : Int} (hN : N = No) (hr : (z_hd y).2.2.2.1 = some .long) (hd : decode (z_hd y).2.1 pc = .ok (.lreturn, 1)) (hq : Q x σ) : z_X e ph d y Ni No pc ls [z_J x] N σ Q := by
  intro r1 r2 r3 p env s m args below meth c H locs la C R h1 h2 hl
  obtain ⟨hx, hb, hrt, hml, hown, hts, hlk, -, hKS⟩ := id C
  obtain ⟨rx, -⟩ := List.forall_mem_cons.mp r2
  obtain ⟨k1, k2⟩ := z_end (args := args) (s := s) (v := some (.long (Int64.ofInt x))) hN R hq r3 (by rw [hr]; exact rx) (by rw [hr]; rfl)
  subst hN
  exact W.lret hx hb (hrt.trans hr) k1 k2 hd hlk
theorem z_s_aret {x : Int} {n : String} (hN : N = No) (hr : (z_hd y).2.2.2.1 = some (.object n)) (hd : decode (z_hd y).2.1 pc = .ok (.areturn, 1)) (hq : Q x σ) : z_X e ph d y Ni No pc ls [z_R x] N σ Q := by
  intro r1 r2 r3 p env s m args below meth c H locs la C R h1 h2 hl
  obtain ⟨hx, hb, hrt, hml, hown, hts, hlk, -, hKS⟩ := id C
  obtain ⟨k1, k2⟩ := z_end (args := args) (s := s) (v := some (z_vv e (z_R x))) hN R hq r3 (by rw [hr]; trivial) (by rw [hr]; rfl)
  subst hN
  exact W.aret hx hb (hrt.trans hr) (Or.inl ⟨n, rfl⟩) (va_rf_or _) k1 k2 hd hlk
/-! calls -/
def z_hok0 (y : Nat) : Bool := z_hasW (z_hd y).2.2.2.2.2.2.2.1.2.2.1 (.initialized (z_hd y).1.cls) &&
  z_hasW (z_hd y).2.2.2.2.2.2.2.1.2.1 (cond (z_hd y).2.2.2.2.2.2.2.2 (.static (z_hd y).1) (.instanceMethod (z_hd y).1)) && decide ((z_hd y).1.cls ≠ "java/lang/invoke/MethodHandle" ∧ (z_hd y).1.cls ≠ "java/lang/invoke/VarHandle") &&
  decide ((parseMethodDescriptor (z_hd y).1.desc).map (fun d => d.parameters.length) = some (z_hd y).2.2.2.2.2.1) && decide ((z_cl[(z_hd y).2.2.2.2.1]?).map (fun q => q.1) = some (z_hd y).1.cls) && decide ((z_hd y).2.2.1 ≤ 21)
def z_hok (y : Nat) : Prop := Cond.code (z_hd y).1 (z_hd y).2.1 (z_hd y).2.2.1 (z_hd y).2.2.2.1 ∈ z_gw ∧ z_hok0 y = true
theorem z_nw_form : ∀ w ∈ z_nw, ∃ (a : String) (i : Nat) (x : MethodName) (h : String), w = .methodLinkNest a i x h := by
  unfold z_nw
  repeat' (refine List.forall_mem_cons.mpr ⟨⟨_, _, _, _, rfl⟩, ?_⟩)
  intro w h; cases h
theorem z_KS_warm {s U : State} (hW : s.WarmedH U.vm) (h : z_KS e s) : z_KS e U := by
  refine ⟨va_K.moved hW.alike h.1, fun w hw => ?_, fun C hC => va_AO.moved hW.alike (h.2.2 C hC)⟩
  obtain ⟨a, i, x, hh, rfl⟩ := z_nw_form w hw
  exact va_Nw.warmM hW (h.2.1 _ hw)
theorem z_KS_calling {U : State} {g : JFrame} {mk : MethodId} {a : Array Value} (h : z_KS e U) : z_KS e (U.calling g mk a) := by
  refine ⟨va_K.moved (u := U) (U := U.calling g mk a) (Vm.Alike.refl U.vm) h.1, fun w hw => ?_, fun C hC => va_AO.moved (u := U) (U := U.calling g mk a) (Vm.Alike.refl U.vm) (h.2.2 C hC)⟩
  have h2 := h.2.1 w hw
  obtain ⟨a, i, x, hh, rfl⟩ := z_nw_form w hw
  exact va_tabs (A := #[]) (u := U) rfl rfl h2
theorem z_blind {args : List z_V} : FrameBlind (z_Pc e ph args N σ) := fun a U g mk h => ⟨h.1, z_KS_calling h.2.1, h.2.2⟩
theorem z_pre {args : List z_V} {s U : State} {H : Heap} {locs : List Loc} (hKS : z_KS e s) (R : z_Rep e ph N σ H locs) (hU : U.heap = H) (hW : s.WarmedH U.vm) : z_Pc e ph args N σ (args.map (z_vv e)).toArray U :=
  ⟨rfl, z_KS_warm hW hKS, by rw [hU]; exact ⟨R.1, R.2.1, R.2.2.1, R.2.2.2.1, fun l h => by cases h⟩⟩
/-- the stack behind a call -/
def z_rs (rt : Option FieldType) (r : Int) (st : List z_V) : List z_V := match rt with
  | none => st
  | some .long => z_J r :: st
  | some (.object _) => z_R r :: st
  | some _ => z_I r :: st
theorem z_rs_vv (rt : Option FieldType) (r : Int) (st : List z_V) : (z_rs rt r st).map (z_vv e) = (z_rv e rt r).toList ++ st.map (z_vv e) := by
  cases rt with
  | none => rfl
  | some t => cases t <;> rfl
theorem z_rs_rg (rt : Option FieldType) (r : Int) (st : List z_V) (h : z_rS st) (hr : z_rr rt r) : z_rS (z_rs rt r st) := by
  cases rt with
  | none => exact h
  | some t => cases t <;> exact List.forall_mem_cons.mpr ⟨hr, h⟩
theorem z_run {N' pc : Nat} (y' : Nat) {args0 : List z_V} {p : Program} {env : Env} {s : State} {m : MethodId} {args : Array Value} {below : List Frame} {meth : Method} {c : Code} {H : Heap} {locs : List Loc} {la : Array Slot} {st0 : List Value} (r1 : z_rL ls) (r2 : z_rS st) (C : z_Cx e y p s m args meth c) (h1 : Ni ≤ N) (hN1 : N ≤ N') (hN2 : N' ≤ No) (hl : lv_has la (z_hd y).2.2.1 (z_en e 0 ls)) (R : z_Rep e ph N σ H locs)
    (hr : va_Run p e.1 env (z_rm d Ni No) s m args below meth c H locs (N - Ni) (z_sl N - z_sl Ni) (N' - N) (z_sl N' - z_sl N) (F0 m pc la st0) (st.map (z_vv e)) (z_Qc e ph (z_hd y').2.2.2.1 N' (fun r σ' => z_X e ph d y Ni No (pc + 3) ls (z_rs (z_hd y').2.2.2.1 r st) N' σ' Q) (args0.map (z_vv e)).toArray) (z_A e)) :
    W p e.1 env (z_rm d Ni No) s m args below meth c H locs (N - Ni) (z_sl N - z_sl Ni) (MQ below (z_Qc e ph (z_hd y).2.2.2.1 No Q) args s (No - Ni) (z_sl No - z_sl Ni) (z_A e)) (F0 m pc la st0) := by
  intro T hT X
  obtain ⟨v, st₀, t, T', L, h0, X', hL, e1, e2, ⟨r, σ', hX, hM, hrr, hv, R'⟩, stp⟩ := hr T hT X
  have hv' : v = z_rv e (z_hd y').2.2.2.1 r := by cases hv; rfl
  subst hv'
  have m1 := z_sl_mono h1
  have m2 := z_sl_mono hN1
  rw [show N - Ni + (N' - N) = N' - Ni by omega, show z_sl N - z_sl Ni + (z_sl N' - z_sl N) = z_sl N' - z_sl Ni by omega] at X'
  obtain ⟨t2, a1, b1⟩ := hX r1 (z_rs_rg _ _ _ r2 hrr) hM p env s m args below meth c T'.heap (locs ++ L) la C ⟨by rw [e1]; exact R'.1, by rw [e1]; exact R'.2.1, by rw [e1]; exact R'.2.2.1, by rw [e1]; exact R'.2.2.2.1, fun q hq => by
    rcases List.mem_append.mp hq with h | h
    · exact R.2.2.2.2 q h
    · exact hL q h⟩ (by omega) hN2 hl T' rfl X'
  rw [z_rs_vv] at a1
  exact ⟨t2, stp t2 a1, b1⟩
theorem z_hok_sp {y' : Nat} (h : z_hok y') : Cond.code (z_hd y').1 (z_hd y').2.1 (z_hd y').2.2.1 (z_hd y').2.2.2.1 ∈ z_gw ∧ Cond.initialized (z_hd y').1.cls ∈ z_gw ∧ (cond (z_hd y').2.2.2.2.2.2.2.2 (Cond.static (z_hd y').1) (.instanceMethod (z_hd y').1)) ∈ z_gw ∧ ((z_hd y').1.cls ≠ "java/lang/invoke/MethodHandle" ∧ (z_hd y').1.cls ≠ "java/lang/invoke/VarHandle") ∧ (parseMethodDescriptor (z_hd y').1.desc).map (fun d => d.parameters.length) = some (z_hd y').2.2.2.2.2.1 ∧ (z_cl[(z_hd y').2.2.2.2.1]?).map (fun q => q.1) = some (z_hd y').1.cls ∧ (z_hd y').2.2.1 ≤ 21 := by
  obtain ⟨a, h⟩ := h
  simp only [z_hok0, Bool.and_eq_true, decide_eq_true_eq] at h
  obtain ⟨⟨⟨⟨⟨b, c⟩, d⟩, e⟩, f⟩, g⟩ := h
  exact ⟨a, z_in_gw b, z_in_gw c, d, e, f, g⟩
theorem z_good {ws : List Cond} (h : ∀ w ∈ ws, w ∈ z_gw) : GoodIn z_gw ws := fun w hw => ⟨h w hw, good_of_word (List.mem_filter.mp (h w hw)).2⟩
theorem z_cr {d' N' : Nat} (y' : Nat) (h : (z_hd y').2.2.1 ≤ 21) : (z_rm d' N N').frames + 1 ≤ (z_rm (d' + 1) Ni No).frames ∧ 8 + ((z_hd y').2.2.1 + 11) + (z_rm d' N N').locals ≤ (z_rm (d' + 1) Ni No).locals := by
  show d' + 1 ≤ d' + 1 ∧ 8 + ((z_hd y').2.2.1 + 11) + (40 * d' + 60) ≤ 40 * (d' + 1) + 60
  omega
theorem z_wsin {y' : Nat} (h : z_hok y') : ∀ w ∈ z_ws y', w ∈ z_gw := fun w hw => by
  rcases List.mem_cons.mp hw with rfl | hw
  · exact (z_hok_sp h).1
  · exact hw
theorem z_cf {N' : Nat} (h1 : Ni ≤ N) (hN1 : N ≤ N') (hN2 : N' ≤ No) : N - Ni + (N' - N) ≤ (z_rm d Ni No).cells ∧ z_sl N - z_sl Ni + (z_sl N' - z_sl N) ≤ (z_rm d Ni No).slots := by
  have m1 := z_sl_mono h1
  have m2 := z_sl_mono hN1
  have m3 := z_sl_mono hN2
  show N - Ni + (N' - N) ≤ No - Ni ∧ z_sl N - z_sl Ni + (z_sl N' - z_sl N) ≤ z_sl No - z_sl Ni
  omega
theorem z_s_callV {y' N' ix : Nat} {b : Int} {As : List z_V} (hh : z_hok y') (hst : (z_hd y').2.2.2.2.2.2.2.2 = false) (hn : As.length = (z_hd y').2.2.2.2.2.1) (hcat : z_cat st ≤ 8) (hok : z_ok N ((z_hd y').2.2.2.2.1 + 1) b = true) (hw1 : Cond.methodLink (z_hd y).1.cls ix (z_hd y').1 ∈ z_gw) (hw2 : Cond.selects (z_hd y').1.cls (z_hd y').1 (z_hd y').1 ∈ z_gw) (hN2 : N' ≤ No) (hd : decode (z_hd y).2.1 pc = .ok (.invokevirtual ix, 3))
    (h : z_Y e ph d y' (z_R b :: As) N N' σ (fun r σ' => z_X e ph d y Ni No (pc + 3) ls (z_rs (z_hd y').2.2.2.1 r st) N' σ' Q)) : z_X e ph d y Ni No pc ls (As.reverse ++ z_R b :: st) N σ Q := by
  intro r1 r2 r3 p env s m args below meth c H locs la C R h1 h2 hl
  obtain ⟨hx, hb, -, hml, hown, hts, -, -, hKS⟩ := id C
  obtain ⟨k1, k2, k3, k4, k5, k6, k7⟩ := z_hok_sp hh
  rw [hst, cond_false] at k3
  have rA : z_rS As := fun v hv => r2 v (List.mem_append_left _ (List.mem_reverse.mpr hv))
  have rst : z_rS st := fun v hv => r2 v (List.mem_append_right _ (List.mem_cons_of_mem _ hv))
  obtain ⟨d', rfl, hN1, hM⟩ := h (List.forall_mem_cons.mpr ⟨trivial, rA⟩) r3
  obtain ⟨g0, g1, g2, g3⟩ := z_ok_sp hok
  obtain ⟨q, hc, hq⟩ := Option.map_eq_some_iff.mp k6
  have hci : (z_hd y').2.2.2.2.1 < 9 := (List.getElem?_eq_some_iff.mp hc).1
  have he := z_wd_get (e := e) (ph := ph) (σ := σ) g1
  rw [z_ce_obj (kd := (z_hd y').2.2.2.2.1 + 1) (by rw [g2]; exact g3) (by omega), g2] at he
  have hvb : z_vv e (z_R b) = .ref (e.2.1.size + b.toNat) := z_vv_pos (by omega)
  rw [List.map_append, List.map_cons, List.map_reverse, hvb]
  refine z_run y' (args0 := z_R b :: As) r1 rst C h1 hN1 hN2 hl R ?_
  rw [List.map_cons, hvb]
  refine va_runV (C := (z_hd y').1.cls) ⟨hx, hb, hml, hown, hts⟩ hM (cwV _ hts (z_good ?_) rfl rfl rfl ⟨rfl, k4.1, k4.2, k5⟩ (z_cr y' k7)) ⟨z_blind, ?_, fun U hU hW => ?_⟩ rfl (by rw [List.length_map]; exact hn) hl.1 rfl (lv_room (by rw [z_cat_sum]; exact hcat)) hd (z_cf h1 hN1 hN2)
  · intro w hw
    rcases List.mem_append.mp hw with hw | hw
    · simp only [List.mem_cons, List.not_mem_nil, or_false] at hw
      rcases hw with rfl | rfl | rfl | rfl
      · exact hw1
      · exact k3
      · exact hw2
      · exact k2
    · exact z_wsin hh w hw
  · rw [← hq]
    exact va_recv hKS.1 R.2.1 hc he
  · have := z_pre (args := z_R b :: As) hKS R hU hW
    rw [List.map_cons, hvb] at this
    exact this
theorem z_s_callS {y' N' ix : Nat} {As : List z_V} (hh : z_hok y') (hst : (z_hd y').2.2.2.2.2.2.2.2 = true) (hn : As.length = (z_hd y').2.2.2.2.2.1) (hcat : z_cat st ≤ 8) (hown' : (z_hd y').1.cls = (z_hd y).1.cls) (hw1 : Cond.methodLink (z_hd y).1.cls ix (z_hd y').1 ∈ z_gw) (hN2 : N' ≤ No) (hd : decode (z_hd y).2.1 pc = .ok (.invokestatic ix, 3))
    (h : z_Y e ph d y' As N N' σ (fun r σ' => z_X e ph d y Ni No (pc + 3) ls (z_rs (z_hd y').2.2.2.1 r st) N' σ' Q)) : z_X e ph d y Ni No pc ls (As.reverse ++ st) N σ Q := by
  intro r1 r2 r3 p env s m args below meth c H locs la C R h1 h2 hl
  obtain ⟨hx, hb, -, hml, hown, hts, -, -, hKS⟩ := id C
  obtain ⟨k1, k2, k3, k4, k5, k6, k7⟩ := z_hok_sp hh
  rw [hst, cond_true] at k3
  have rA : z_rS As := fun v hv => r2 v (List.mem_append_left _ (List.mem_reverse.mpr hv))
  have rst : z_rS st := fun v hv => r2 v (List.mem_append_right _ hv)
  obtain ⟨d', rfl, hN1, hM⟩ := h rA r3
  rw [List.map_append, List.map_reverse]
  refine z_run y' (args0 := As) r1 rst C h1 hN1 hN2 hl R ?_
  refine va_runS ⟨hx, hb, hml, hown, hts⟩ hM (cwS _ hts (z_good ?_) rfl rfl rfl ⟨hown', k4.1, k4.2, k5⟩ (z_cr y' k7)) ⟨z_blind, fun U hU hW => ?_⟩ rfl (by rw [List.length_map]; exact hn) hl.1 rfl (lv_room (by rw [z_cat_sum]; exact hcat)) hd (z_cf h1 hN1 hN2)
  · intro w hw
    rcases List.mem_append.mp hw with hw | hw
    · simp only [List.mem_cons, List.not_mem_nil, or_false] at hw
      rcases hw with rfl | rfl | rfl
      · exact hw1
      · exact k3
      · rw [← hown']; exact k2
    · exact z_wsin hh w hw
  · exact z_pre (args := As) hKS R hU hW
theorem z_s_callSN {y' N' ix : Nat} {host : String} {As : List z_V} (hh : z_hok y') (hst : (z_hd y').2.2.2.2.2.2.2.2 = true) (hn : As.length = (z_hd y').2.2.2.2.2.1) (hcat : z_cat st ≤ 8) (hw1 : Cond.methodLinkNest (z_hd y).1.cls ix (z_hd y').1 host ∈ z_nw) (hN2 : N' ≤ No) (hd : decode (z_hd y).2.1 pc = .ok (.invokestatic ix, 3))
    (h : z_Y e ph d y' As N N' σ (fun r σ' => z_X e ph d y Ni No (pc + 3) ls (z_rs (z_hd y').2.2.2.1 r st) N' σ' Q)) : z_X e ph d y Ni No pc ls (As.reverse ++ st) N σ Q := by
  intro r1 r2 r3 p env s m args below meth c H locs la C R h1 h2 hl
  obtain ⟨hx, hb, -, hml, hown, hts, -, -, hKS⟩ := id C
  obtain ⟨k1, k2, k3, k4, k5, k6, k7⟩ := z_hok_sp hh
  rw [hst, cond_true] at k3
  have rA : z_rS As := fun v hv => r2 v (List.mem_append_left _ (List.mem_reverse.mpr hv))
  have rst : z_rS st := fun v hv => r2 v (List.mem_append_right _ hv)
  obtain ⟨d', rfl, hN1, hM⟩ := h rA r3
  rw [List.map_append, List.map_reverse]
  refine z_run y' (args0 := As) r1 rst C h1 hN1 hN2 hl R ?_
  exact va_runSN ⟨hx, hb, hml, hown, hts⟩ hM ⟨va_cnB _ hts (z_good (z_wsin hh)) rfl rfl rfl (hKS.2.1 _ hw1) (hts _ k2) ⟨k4.1, k4.2, k5⟩ (z_cr y' k7), hts _ k3, trivial⟩ ⟨z_blind, fun U hU hW => z_pre (args := As) hKS R hU hW⟩ rfl (by rw [List.length_map]; exact hn) hl.1 rfl (lv_room (by rw [z_cat_sum]; exact hcat)) hd (z_cf h1 hN1 hN2)
theorem z_s_callI {y' N' ix : Nat} {b : Int} {As : List z_V} (hh : z_hok y') (hst : (z_hd y').2.2.2.2.2.2.2.2 = false) (hini : (z_hd y').1.name = "<init>") (hvoid : (z_hd y').2.2.2.1 = none) (hn : As.length = (z_hd y').2.2.2.2.2.1) (hcat : z_cat st ≤ 8) (hb0 : 0 ≤ b) (hw1 : Cond.methodLink (z_hd y).1.cls ix (z_hd y').1 ∈ z_gw) (hN2 : N' ≤ No) (hd : decode (z_hd y).2.1 pc = .ok (.invokespecial ix, 3))
    (h : z_Y e ph d y' (z_R b :: As) N N' σ (fun r σ' => z_X e ph d y Ni No (pc + 3) ls (z_rs (z_hd y').2.2.2.1 r st) N' σ' Q)) : z_X e ph d y Ni No pc ls (As.reverse ++ z_R b :: st) N σ Q := by
  intro r1 r2 r3 p env s m args below meth c H locs la C R h1 h2 hl
  obtain ⟨hx, hb, -, hml, hown, hts, -, -, hKS⟩ := id C
  obtain ⟨k1, k2, k3, k4, k5, k6, k7⟩ := z_hok_sp hh
  rw [hst, cond_false] at k3
  have rA : z_rS As := fun v hv => r2 v (List.mem_append_left _ (List.mem_reverse.mpr hv))
  have rst : z_rS st := fun v hv => r2 v (List.mem_append_right _ (List.mem_cons_of_mem _ hv))
  obtain ⟨d', rfl, hN1, hM⟩ := h (List.forall_mem_cons.mpr ⟨trivial, rA⟩) r3
  have hvb : z_vv e (z_R b) = .ref (e.2.1.size + b.toNat) := z_vv_pos (by omega)
  rw [List.map_append, List.map_cons, List.map_reverse, hvb]
  refine z_run y' (args0 := z_R b :: As) r1 rst C h1 hN1 hN2 hl R ?_
  rw [List.map_cons, hvb]
  refine va_runI ⟨hx, hb, hml, hown, hts⟩ hM (cwI (bytes := (z_hd y').2.1) (maxL := (z_hd y').2.2.1) (ws' := z_gw) _ hts (z_good (z_wsin hh)) (by show z_ws y' = _; rw [z_ws, hvoid]) rfl rfl (hts _ k2) (hts _ hw1) (hts _ k3) hini ⟨k4.1, k4.2, k5⟩ (z_cr y' k7)) ⟨z_blind, fun U hU hW => ?_⟩ rfl (by rw [List.length_map]; exact hn) hl.1 rfl (lv_room (by rw [z_cat_sum]; exact hcat)) hd (z_cf h1 hN1 hN2)
  have := z_pre (args := z_R b :: As) hKS R hU hW
  rw [List.map_cons, hvb] at this
  exact this
theorem z_s_callIN {y' N' ix : Nat} {b : Int} {host : String} {As : List z_V} (hh : z_hok y') (hst : (z_hd y').2.2.2.2.2.2.2.2 = false) (hini : (z_hd y').1.name = "<init>") (hvoid : (z_hd y').2.2.2.1 = none) (hn : As.length = (z_hd y').2.2.2.2.2.1) (hcat : z_cat st ≤ 8) (hb0 : 0 ≤ b) (hw1 : Cond.methodLinkNest (z_hd y).1.cls ix (z_hd y').1 host ∈ z_nw) (hN2 : N' ≤ No) (hd : decode (z_hd y).2.1 pc = .ok (.invokespecial ix, 3))
    (h : z_Y e ph d y' (z_R b :: As) N N' σ (fun r σ' => z_X e ph d y Ni No (pc + 3) ls (z_rs (z_hd y').2.2.2.1 r st) N' σ' Q)) : z_X e ph d y Ni No pc ls (As.reverse ++ z_R b :: st) N σ Q := by
  intro r1 r2 r3 p env s m args below meth c H locs la C R h1 h2 hl
  obtain ⟨hx, hb, -, hml, hown, hts, -, -, hKS⟩ := id C
  obtain ⟨k1, k2, k3, k4, k5, k6, k7⟩ := z_hok_sp hh
  rw [hst, cond_false] at k3
  have rA : z_rS As := fun v hv => r2 v (List.mem_append_left _ (List.mem_reverse.mpr hv))
  have rst : z_rS st := fun v hv => r2 v (List.mem_append_right _ (List.mem_cons_of_mem _ hv))
  obtain ⟨d', rfl, hN1, hM⟩ := h (List.forall_mem_cons.mpr ⟨trivial, rA⟩) r3
  have hvb : z_vv e (z_R b) = .ref (e.2.1.size + b.toNat) := z_vv_pos (by omega)
  rw [List.map_append, List.map_cons, List.map_reverse, hvb]
  refine z_run y' (args0 := z_R b :: As) r1 rst C h1 hN1 hN2 hl R ?_
  rw [List.map_cons, hvb]
  refine va_runIN ⟨hx, hb, hml, hown, hts⟩ hM ⟨va_cnB (bytes := (z_hd y').2.1) (maxL := (z_hd y').2.2.1) (ws' := z_gw) _ hts (z_good (z_wsin hh)) (by show z_ws y' = _; rw [z_ws, hvoid]) rfl rfl (hKS.2.1 _ hw1) (hts _ k2) ⟨k4.1, k4.2, k5⟩ (z_cr y' k7), hini, hts _ k3⟩ ⟨z_blind, fun U hU hW => ?_⟩ rfl (by rw [List.length_map]; exact hn) hl.1 rfl (lv_room (by rw [z_cat_sum]; exact hcat)) hd (z_cf h1 hN1 hN2)
  have := z_pre (args := z_R b :: As) hKS R hU hW
  rw [List.map_cons, hvb] at this
  exact this
end ZC
end
section
/-! a method's entry -/
def z_al : Nat → List z_V → List (Option z_V)
  | n, [] => List.replicate n none
  | 0, _ :: _ => []
  | 1, v :: _ => [some v]
  | n + 2, .inr (.inl x) :: l => some (.inr (.inl x)) :: none :: z_al n l
  | n + 2, v :: l => some v :: z_al (n + 1) l
theorem z_en_rep (e : z_E) : ∀ (n i : Nat), z_en e i (List.replicate n none) = []
  | 0, i => rfl
  | n + 1, i => by rw [List.replicate_succ, z_en]; exact z_en_rep e n (i + 1)
theorem z_al_in (e : z_E) : ∀ (args : List z_V) (n i : Nat), ∀ q ∈ z_en e i (z_al n args), q ∈ lv_args i (args.map (z_vv e))
  | [], n, i, q, h => by
    have : z_al n [] = List.replicate n none := by cases n <;> rfl
    rw [this, z_en_rep] at h; cases h
  | v :: l, 0, i, q, h => by cases h
  | v :: l, 1, i, q, h => by
    rcases List.mem_cons.mp h with rfl | h
    · exact List.mem_cons_self
    · cases h
  | .inr (.inl x) :: l, n + 2, i, q, h => by
    rcases List.mem_cons.mp h with rfl | h
    · exact List.mem_cons_self
    · exact List.mem_cons_of_mem _ (z_al_in e l n (i + 2) q h)
  | .inl x :: l, n + 2, i, q, h => by
    rcases List.mem_cons.mp h with rfl | h
    · exact List.mem_cons_self
    · exact List.mem_cons_of_mem _ (z_al_in e l (n + 1) (i + 1) q h)
  | .inr (.inr x) :: l, n + 2, i, q, h => by
    rcases List.mem_cons.mp h with rfl | h
    · exact List.mem_cons_self
    · have hc : (z_vv e (.inr (.inr x))).category = 1 := z_cat2 (by intro x h; cases h)
      refine List.mem_cons_of_mem _ ?_
      show q ∈ lv_args (if (z_vv e (.inr (.inr x))).category = 2 then i + 2 else i + 1) _
      rw [hc]
      exact z_al_in e l (n + 1) (i + 1) q h
theorem z_sl_len (e : z_E) : ∀ (args : List z_V), (lg_sl (args.map (z_vv e))).length = z_cat args
  | [] => rfl
  | .inl x :: l => by
    have := z_sl_len e l
    simp only [lg_sl, List.map_cons, List.flatMap_cons, List.length_append, z_cat] at this ⊢
    rw [this, if_neg (by rw [z_cat2 (by intro x h; cases h)]; decide)]
    simp only [List.length_cons, List.length_nil]; omega
  | .inr (.inl x) :: l => by
    have := z_sl_len e l
    simp only [lg_sl, List.map_cons, List.flatMap_cons, List.length_append, z_cat] at this ⊢
    rw [this, if_pos (show (z_vv e (.inr (.inl x))).category = 2 from rfl)]
    simp only [List.length_cons, List.length_nil]; omega
  | .inr (.inr x) :: l => by
    have := z_sl_len e l
    simp only [lg_sl, List.map_cons, List.flatMap_cons, List.length_append, z_cat] at this ⊢
    rw [this, if_neg (by rw [z_cat2 (by intro x h; cases h)]; decide)]
    simp only [List.length_cons, List.length_nil]; omega
theorem z_al_rg : ∀ (args : List z_V) (n : Nat), z_rS args → z_rL (z_al n args)
  | [], n, h => fun v hv => by
    have : z_al n [] = List.replicate n none := by cases n <;> rfl
    rw [this] at hv
    have := List.eq_of_mem_replicate hv
    cases this
  | v :: l, 0, h => fun v hv => by cases hv
  | v :: l, 1, h => fun u hv => by
    have hu : u = v := by simpa [z_al] using hv
    subst hu; exact h _ List.mem_cons_self
  | .inr (.inl x) :: l, n + 2, h => fun u hv => by
    rcases List.mem_cons.mp hv with hv | hv
    · cases hv; exact h _ List.mem_cons_self
    · rcases List.mem_cons.mp hv with hv | hv
      · cases hv
      · exact z_al_rg l n (fun v q => h v (List.mem_cons_of_mem _ q)) u hv
  | .inl x :: l, n + 2, h => fun u hv => by
    rcases List.mem_cons.mp hv with hv | hv
    · cases hv; exact h _ List.mem_cons_self
    · exact z_al_rg l (n + 1) (fun v q => h v (List.mem_cons_of_mem _ q)) u hv
  | .inr (.inr x) :: l, n + 2, h => fun u hv => by
    rcases List.mem_cons.mp hv with hv | hv
    · cases hv; exact h _ List.mem_cons_self
    · exact z_al_rg l (n + 1) (fun v q => h v (List.mem_cons_of_mem _ q)) u hv
section ZE
variable {e : z_E} {ph : Bool}
theorem z_Y_of {d y N N' : Nat} {args : List z_V} {σ : z_M} {Q : Int → z_M → Prop} (hp : plainName (z_hd y).1.cls = true) (hc : z_cat args ≤ (z_hd y).2.2.1) (hN : N ≤ N') (h : z_X e ph d y N N' 0 (z_al (z_hd y).2.2.1 args) [] N σ Q) : z_Y e ph (d + 1) y args N N' σ Q := by
  intro rA rM
  refine ⟨d, rfl, hN, Met.ofW (cc := (z_hd y).2.1) (maxL := (z_hd y).2.2.1) (ret := (z_hd y).2.2.2.1) hp rfl ?_⟩
  intro p env s m av below meth c s₁ B hml hv
  obtain ⟨rfl, hKS, R⟩ := hv
  have hts := atoms_spec (ws := z_ws y) B.pre
  have hl := lv_entry (args.map (z_vv e)) (n := (z_hd y).2.2.1) (by rw [z_sl_len]; exact hc)
  rw [lg_entry_eq]
  have hk := h (z_al_rg _ _ rA) (fun v hv => by cases hv) rM p env s m _ below meth c s.heap [] _ ⟨B.exec, B.bytes, B.returns, hml, findClass_of_methodNamed B.named, fun w hw => hts w (List.mem_cons_of_mem _ hw), B.notSynchronized, (name_of_methodNamed B.named B.method).1, hKS⟩ R (Nat.le_refl _) hN (z_has_sub hl (z_al_in e args _ 0))
  rw [Nat.sub_self, Nat.sub_self] at hk
  exact hk
end ZE
/-! weakest preconditions of a piece of code, up to the places where it is cut -/
/-- an instruction: its place in the code, its pc, whether the code is cut here, the locals that live at a cut, the instruction, its length, its numbers, the places of its words -/
abbrev z_In : Type := Nat × Nat × Bool × List Bool × Instr × Nat × List Nat × List Nat
abbrev z_K : Type := List z_In → List (Option z_V) → List z_V → Nat → z_M → Prop
def z_msk : List Bool → List (Option z_V) → List (Option z_V)
  | _, [] => []
  | [], l => l
  | b :: bs, a :: l => (cond b a none) :: z_msk bs l
def z_sw (c : Nat → Prop) (x : Int) : List (Int × Nat) → Nat → Prop
  | [], t => c t
  | (v, t) :: l, t' => (x = v → c t) ∧ (¬ x = v → z_sw c x l t')
def z_tpl : Int → List Nat → List (Int × Nat)
  | _, [] => []
  | lo, t :: ts => (lo, t) :: z_tpl (lo + 1) ts
def z_lpl : List (Int × Int) → List Nat → List (Int × Nat)
  | [], _ => []
  | _ :: _, [] => []
  | p :: ps, t :: ts => (p.1, t) :: z_lpl ps ts
def z_ck (b : Bool) (P : Prop) : Prop := match b with
  | true => P
  | false => False
/-- what may be written into a field, and what follows -/
def z_fwk (ph : Bool) (t : Nat) (v : z_V) (P : Prop) : Prop := match t, v with
  | 0, .inl _ => P
  | 1, .inr (.inr x) => z_ir x ∧ P
  | 2, .inr (.inr x) => ph = false ∧ z_ir x ∧ P
  | 3, .inl x => (x = 0 ∨ x = 1) ∧ P
  | _, _ => False
/-- the stack behind a call: 0 nothing, 1 an int, 2 a long, 3 a reference -/
def z_r2 (rc : Nat) (r : Int) (st : List z_V) : List z_V := match rc with
  | 0 => st
  | 1 => z_I r :: st
  | 2 => z_J r :: st
  | _ => z_R r :: st
/-- arguments off the stack, the last first -/
def z_pop : Nat → List z_V → List z_V → Option (List z_V × List z_V)
  | 0, as, st => some (as, st)
  | _ + 1, _, [] => none
  | n + 1, as, v :: st => z_pop n (v :: as) st
section ZW
variable (e : z_E) (ph : Bool) (d y Ni No : Nat) (Q : Int → z_M → Prop) (full : List z_In)
def z_call (y' rc gr : Nat) (c : z_K) (r : List z_In) (ls : List (Option z_V)) (as st' : List z_V) (N : Nat) (σ : z_M) : Prop :=
  z_ck (Nat.ble (z_cat st') 8 && Nat.ble (N + gr) No) (z_Y e ph d y' as N (N + gr) σ (fun v σ' => c r ls (z_r2 rc v st') (N + gr) σ'))
def z_step (c : z_K) (i : z_In) (r : List z_In) (ls : List (Option z_V)) (st : List z_V) (N : Nat) (σ : z_M) : Prop :=
  match i.2.2.2.2.1, i.2.2.2.2.2.2.1, st with
  | .iconst n, _, st => c r ls (z_I n :: st) N σ
  | .bipush n, _, st => c r ls (z_I n :: st) N σ
  | .sipush n, _, st => c r ls (z_I n :: st) N σ
  | .ldc _, [n], st => c r ls (z_I (n : Int) :: st) N σ
  | .ldc2_w _, [n, s], st => c r ls (z_J (cond (s == 0) (n : Int) (-(n : Int))) :: st) N σ
  | .lconst k, [n], st => c r ls (z_J (n : Int) :: st) N σ
  | .aconst_null, _, st => c r ls (z_R (-1) :: st) N σ
  | .iload_n k, _, st => (match z_nth ls (k : Nat) with | some (.inl x) => c r ls (z_I x :: st) N σ | _ => False)
  | .iload k, _, st => (match z_nth ls k with | some (.inl x) => c r ls (z_I x :: st) N σ | _ => False)
  | .lload_n k, _, st => (match z_nth ls (k : Nat) with | some (.inr (.inl x)) => c r ls (z_J x :: st) N σ | _ => False)
  | .lload k, _, st => (match z_nth ls k with | some (.inr (.inl x)) => c r ls (z_J x :: st) N σ | _ => False)
  | .aload_n k, _, st => (match z_nth ls (k : Nat) with | some (.inr (.inr x)) => c r ls (z_R x :: st) N σ | _ => False)
  | .aload k, _, st => (match z_nth ls k with | some (.inr (.inr x)) => c r ls (z_R x :: st) N σ | _ => False)
  | .istore_n k, _, .inl x :: st => c r (z_set ls k (z_I x)) st N σ
  | .istore k, _, .inl x :: st => c r (z_set ls k (z_I x)) st N σ
  | .lstore k, _, .inr (.inl x) :: st => c r (z_clr (z_set ls k (z_J x)) (k + 1)) st N σ
  | .astore_n k, _, .inr (.inr x) :: st => c r (z_set ls k (z_R x)) st N σ
  | .astore k, _, .inr (.inr x) :: st => c r (z_set ls k (z_R x)) st N σ
  | .iinc k n, _, st => (match z_nth ls k with | some (.inl x) => c r (z_set ls k (z_I (z_wr (x + n)))) st N σ | _ => False)
  | .iadd, _, .inl b :: .inl a :: st => c r ls (z_I (z_wr (a + b)) :: st) N σ
  | .isub, _, .inl b :: .inl a :: st => c r ls (z_I (z_wr (a - b)) :: st) N σ
  | .imul, _, .inl b :: .inl a :: st => c r ls (z_I (z_wr (a * b)) :: st) N σ
  | .idiv, _, .inl b :: .inl a :: st => (¬ b = 0) ∧ c r ls (z_I (z_wr (a.tdiv b)) :: st) N σ
  | .irem, _, .inl b :: .inl a :: st => (¬ b = 0) ∧ c r ls (z_I (z_wr (a - a.tdiv b * b)) :: st) N σ
  | .iand, _, .inl b :: .inl a :: st => c r ls (z_I (z_and a b) :: st) N σ
  | .ior, _, .inl b :: .inl a :: st => c r ls (z_I (z_or a b) :: st) N σ
  | .ishl, _, .inl b :: .inl a :: st => c r ls (z_I (z_shl a b) :: st) N σ
  | .ishr, _, .inl b :: .inl a :: st => c r ls (z_I (z_shr a b) :: st) N σ
  | .ineg, _, .inl a :: st => c r ls (z_I (z_wr (-a)) :: st) N σ
  | .ladd, _, .inr (.inl b) :: .inr (.inl a) :: st => c r ls (z_J (z_wl (a + b)) :: st) N σ
  | .lsub, _, .inr (.inl b) :: .inr (.inl a) :: st => c r ls (z_J (z_wl (a - b)) :: st) N σ
  | .lmul, _, .inr (.inl b) :: .inr (.inl a) :: st => c r ls (z_J (z_wl (a * b)) :: st) N σ
  | .ldiv, _, .inr (.inl b) :: .inr (.inl a) :: st => (¬ b = 0) ∧ c r ls (z_J (z_wl (a.tdiv b)) :: st) N σ
  | .lcmp, _, .inr (.inl b) :: .inr (.inl a) :: st => c r ls (z_I (z_lcmp a b) :: st) N σ
  | .i2l, _, .inl a :: st => c r ls (z_J a :: st) N σ
  | .l2i, _, .inr (.inl a) :: st => c r ls (z_I (z_wr a) :: st) N σ
  | .dup, _, .inl a :: st => c r ls (z_I a :: z_I a :: st) N σ
  | .dup, _, .inr (.inr a) :: st => c r ls (z_R a :: z_R a :: st) N σ
  | .dup2, _, .inl b :: .inr (.inr a) :: st => c r ls (z_I b :: z_R a :: z_I b :: z_R a :: st) N σ
  | .dup2, _, .inl b :: .inl a :: st => c r ls (z_I b :: z_I a :: z_I b :: z_I a :: st) N σ
  | .pop, _, .inl a :: st => c r ls st N σ
  | .pop, _, .inr (.inr a) :: st => c r ls st N σ
  | .goto _, [t], st => c (full.drop t) ls st N σ
  | .ifCond .eq _, [t], .inl x :: st => (x = 0 → c (full.drop t) ls st N σ) ∧ (¬ x = 0 → c r ls st N σ)
  | .ifCond .ne _, [t], .inl x :: st => (¬ x = 0 → c (full.drop t) ls st N σ) ∧ (x = 0 → c r ls st N σ)
  | .ifCond .lt _, [t], .inl x :: st => (x < 0 → c (full.drop t) ls st N σ) ∧ (0 ≤ x → c r ls st N σ)
  | .ifCond .ge _, [t], .inl x :: st => (0 ≤ x → c (full.drop t) ls st N σ) ∧ (x < 0 → c r ls st N σ)
  | .ifCond .gt _, [t], .inl x :: st => (0 < x → c (full.drop t) ls st N σ) ∧ (x ≤ 0 → c r ls st N σ)
  | .ifCond .le _, [t], .inl x :: st => (x ≤ 0 → c (full.drop t) ls st N σ) ∧ (0 < x → c r ls st N σ)
  | .if_icmp .eq _, [t], .inl b :: .inl x :: st => (x = b → c (full.drop t) ls st N σ) ∧ (¬ x = b → c r ls st N σ)
  | .if_icmp .ne _, [t], .inl b :: .inl x :: st => (¬ x = b → c (full.drop t) ls st N σ) ∧ (x = b → c r ls st N σ)
  | .if_icmp .lt _, [t], .inl b :: .inl x :: st => (x < b → c (full.drop t) ls st N σ) ∧ (b ≤ x → c r ls st N σ)
  | .if_icmp .ge _, [t], .inl b :: .inl x :: st => (b ≤ x → c (full.drop t) ls st N σ) ∧ (x < b → c r ls st N σ)
  | .if_icmp .gt _, [t], .inl b :: .inl x :: st => (b < x → c (full.drop t) ls st N σ) ∧ (x ≤ b → c r ls st N σ)
  | .if_icmp .le _, [t], .inl b :: .inl x :: st => (x ≤ b → c (full.drop t) ls st N σ) ∧ (b < x → c r ls st N σ)
  | .ifnull _, [t], .inr (.inr x) :: st => (x < 0 → c (full.drop t) ls st N σ) ∧ (0 ≤ x → c r ls st N σ)
  | .ifnonnull _, [t], .inr (.inr x) :: st => (0 ≤ x → c (full.drop t) ls st N σ) ∧ (x < 0 → c r ls st N σ)
  | .if_acmp .eq _, [t], .inr (.inr b) :: .inr (.inr x) :: st => (0 ≤ x ∧ 0 ≤ b) ∧ (x = b → c (full.drop t) ls st N σ) ∧ (¬ x = b → c r ls st N σ)
  | .if_acmp .ne _, [t], .inr (.inr b) :: .inr (.inr x) :: st => (0 ≤ x ∧ 0 ≤ b) ∧ (¬ x = b → c (full.drop t) ls st N σ) ∧ (x = b → c r ls st N σ)
  | .tableswitch _ lo _ _, td :: ts, .inl x :: st => z_sw (fun t => c (full.drop t) ls st N σ) x (z_tpl lo ts) td
  | .lookupswitch _ ps, td :: ts, .inl x :: st => z_sw (fun t => c (full.drop t) ls st N σ) x (z_lpl ps.toList ts) td
  | .getfield _, [ci, j], .inr (.inr x) :: st => z_ck (z_ok N (ci + 1) x) (c r ls (z_fr ph (ci + 1) j x σ :: st) N σ)
  | .putfield _, [ci, j], v :: .inr (.inr x) :: st => z_ck (z_ok N (ci + 1) x) (z_fwk ph (z_ft (ci + 1) j) v (c r ls st N (z_up σ x j (z_un v))))
  | .iaload, [kd], .inl i :: .inr (.inr x) :: st => z_ck (z_ok N kd x) ((0 ≤ i ∧ i < ((kd % 100000 : Nat) : Int)) ∧ c r ls (z_I (σ x i) :: st) N σ)
  | .baload, [kd], .inl i :: .inr (.inr x) :: st => z_ck (z_ok N kd x) ((0 ≤ i ∧ i < ((kd % 100000 : Nat) : Int)) ∧ c r ls (z_I (σ x i) :: st) N σ)
  | .aaload, [kd], .inl i :: .inr (.inr x) :: st => z_ck (z_ok N kd x) ((0 ≤ i ∧ i < ((kd % 100000 : Nat) : Int)) ∧ c r ls (z_R (z_ar ph (kd / 100000) x i σ) :: st) N σ)
  | .arraylength, [kd], .inr (.inr x) :: st => z_ck (z_ok N kd x) (c r ls (z_I ((kd % 100000 : Nat) : Int) :: st) N σ)
  | .iastore, [kd], .inl v :: .inl i :: .inr (.inr x) :: st => z_ck (z_ok N kd x) ((0 ≤ i ∧ i < ((kd % 100000 : Nat) : Int)) ∧ c r ls st N (z_up σ x i v))
  | .bastore, [kd], .inl v :: .inl i :: .inr (.inr x) :: st => z_ck (z_ok N kd x) ((0 ≤ i ∧ i < ((kd % 100000 : Nat) : Int)) ∧ (v = 0 ∨ v = 1) ∧ c r ls st N (z_up σ x i v))
  | .aastore, [kd, ci], .inr (.inr v) :: .inl i :: .inr (.inr x) :: st => z_ck (z_ok N kd x && (!ph || kd / 100000 == 6)) ((0 ≤ i ∧ i < ((kd % 100000 : Nat) : Int)) ∧ (v < 0 ∨ z_ok N (ci + 1) v = true) ∧ z_ir v ∧ c r ls st N (z_up σ x i v))
  | .newarray .int, [n], .inl a :: st => a = (n : Int) ∧ z_ck (!ph && (z_knd (N : Int) == 100000 + n) && Nat.ble (N + 1) No && Nat.ble (n + 1) 100000) (c r ls (z_R (N : Int) :: st) (N + 1) (z_nu σ (N : Int) (100000 + n)))
  | .newarray .boolean, [n], .inl a :: st => a = (n : Int) ∧ z_ck (!ph && (z_knd (N : Int) == 200000 + n) && Nat.ble (N + 1) No && Nat.ble (n + 1) 100000) (c r ls (z_R (N : Int) :: st) (N + 1) (z_nu σ (N : Int) (200000 + n)))
  | .anewarray _, [n, tag], .inl a :: st => a = (n : Int) ∧ z_ck (!ph && (z_knd (N : Int) == tag * 100000 + n) && Nat.ble (N + 1) No && Nat.ble (n + 1) 100000) (c r ls (z_R (N : Int) :: st) (N + 1) (z_nu σ (N : Int) (tag * 100000 + n)))
  | .new _, [ci], st => z_ck (!ph && (z_knd (N : Int) == ci + 1) && Nat.ble (N + 1) No) (c r ls (z_R (N : Int) :: st) (N + 1) (z_nu σ (N : Int) (ci + 1)))
  | .invokevirtual _, [y', na, rc, gr, kd], st => (match z_pop (na + 1) [] st with
    | some (.inr (.inr b) :: as, st') => z_ck (z_ok N kd b) (z_call e ph d No y' rc gr c r ls (z_R b :: as) st' N σ)
    | _ => False)
  | .invokestatic _, [k0, k1], .inl n :: .inl dp :: .inr (.inr dst) :: .inl sp :: .inr (.inr src) :: st => z_ck (ph && z_ok N k0 src && z_ok N k1 dst && Nat.ble (z_cat st) 8) ((1 ≤ d ∧ 0 ≤ sp ∧ 0 ≤ dp ∧ 0 ≤ n ∧ sp + n ≤ ((k0 % 100000 : Nat) : Int) ∧ dp + n ≤ ((k1 % 100000 : Nat) : Int)) ∧ (k0 / 100000 = 2 → ∀ i : Int, 0 ≤ i → i < ((k0 % 100000 : Nat) : Int) → σ src i = 0 ∨ σ src i = 1) ∧ c r ls st N (z_cp σ src sp dst dp n))
  | .invokestatic _, [], .inl x :: st => z_ck (Nat.ble (z_cat st) 8) (1 ≤ d ∧ c r ls (z_I (z_abs x) :: st) N σ)
  | .invokestatic _, [y', na, rc, gr, _], st => (match z_pop na [] st with
    | some (as, st') => z_call e ph d No y' rc gr c r ls as st' N σ
    | none => False)
  | .invokestatic _, [y', na, rc, gr], st => (match z_pop na [] st with
    | some (as, st') => z_call e ph d No y' rc gr c r ls as st' N σ
    | none => False)
  | .invokespecial _, [], .inr (.inr x) :: st => z_ck (Nat.ble (z_cat st) 8) (1 ≤ d ∧ 0 ≤ x ∧ c r ls st N σ)
  | .invokespecial _, [y', na, rc, gr, _], st => (match z_pop (na + 1) [] st with
    | some (.inr (.inr b) :: as, st') => 0 ≤ b ∧ z_call e ph d No y' rc gr c r ls (z_R b :: as) st' N σ
    | _ => False)
  | .invokespecial _, [y', na, rc, gr], st => (match z_pop (na + 1) [] st with
    | some (.inr (.inr b) :: as, st') => 0 ≤ b ∧ z_call e ph d No y' rc gr c r ls (z_R b :: as) st' N σ
    | _ => False)
  | .return_, _, [] => z_ck (N == No) (Q 0 σ)
  | .ireturn, [0], [.inl x] => z_ck (N == No) (Q x σ)
  | .ireturn, [1], [.inl x] => z_ck (N == No) (z_ck (x == 0 || x == 1) (Q x σ))
  | .lreturn, _, [.inr (.inl x)] => z_ck (N == No) (Q x σ)
  | .areturn, _, [.inr (.inr x)] => z_ck (N == No) (Q x σ)
  | _, _, _ => False
/-- up to the cuts -/
def z_wp : Nat → z_K
  | 0, r, ls, st, N, σ => (match r with | i :: _ => z_X e ph d y Ni No i.2.1 ls st N σ Q | [] => False)
  | k + 1, r, ls, st, N, σ => (match r with
    | i :: r => (match i.2.2.1 with | true => z_X e ph d y Ni No i.2.1 (z_msk i.2.2.2.1 ls) st N σ Q | false => z_step e ph d No Q full (z_wp k) i r ls st N σ)
    | [] => False)
/-- from a place on, which may be a cut itself -/
def z_w1 (k ix : Nat) (ls : List (Option z_V)) (st : List z_V) (N : Nat) (σ : z_M) : Prop := match full.drop ix with
  | i :: r => z_step e ph d No Q full (z_wp e ph d y Ni No Q full k) i r ls st N σ
  | [] => False
end ZW
end
section
/-! the code tables, and what they must keep to -/
def z_pcAt (full : List z_In) (t : Nat) : Option Nat := match full.drop t with
  | i :: _ => some i.2.1
  | [] => none
def z_at (full : List z_In) (t : Nat) (p : Int) : Bool := match z_pcAt full t with
  | some q => decide ((q : Int) = p)
  | none => false
def z_lk (full : List z_In) (pc : Int) : List (Int × Int) → List Nat → Bool
  | [], [] => true
  | p :: ps, t :: ts => z_at full t (pc + p.2) && z_lk full pc ps ts
  | _, _ => false
def z_tk (full : List z_In) (pc : Int) : List Int → List Nat → Bool
  | [], [] => true
  | o :: os, t :: ts => z_at full t (pc + o) && z_tk full pc os ts
  | _, _ => false
def z_irB (n : Int) : Bool := decide (-2147483648 ≤ n ∧ n < 2147483648)
def z_cw (ci : Nat) (f : vw_C → Bool) : Bool := match z_cl[ci]? with
  | some q => f q
  | none => false
def z_rc (rt : Option FieldType) : Nat := match rt with
  | none => 0
  | some .long => 2
  | some (.object _) => 3
  | some _ => 1
def z_cl4 (y' na rc gr : Nat) : Bool := Nat.blt y' 194 && (z_hd y').2.2.2.2.2.1 == na && z_rc (z_hd y').2.2.2.1 == rc && (z_hd y').2.2.2.2.2.2.1 == gr
def z_nx (full : List z_In) (ix pc len k : Nat) : Bool := len == k && z_at full (ix + 1) ((pc : Int) + (k : Int))
def z_isO (rt : Option FieldType) : Bool := match rt with
  | some (.object _) => true
  | _ => false
def z_okS (y : Nat) (full : List z_In) (ix pc len : Nat) (ins : Instr) (args pl : List Nat) : Bool :=
  match ins, args with
  | .iconst n, _ => z_nx full ix pc len 1 && z_irB n
  | .bipush n, _ => z_nx full ix pc len 2 && z_irB n && decide ((Int8.ofInt n).toInt32 = Int32.ofInt n)
  | .sipush n, _ => z_nx full ix pc len 3 && z_irB n && decide ((Int16.ofInt n).toInt32 = Int32.ofInt n)
  | .ldc i, [n] => z_nx full ix pc len 2 && z_irB (n : Int) && z_hasW (pl.getD 0 0) (.constant (z_hd y).1.cls i (Int32.ofInt (n : Int)))
  | .ldc2_w i, [n, s] => z_nx full ix pc len 3 && z_irB (cond (s == 0) (n : Int) (-(n : Int))) && z_hasW (pl.getD 0 0) (.constantLong (z_hd y).1.cls i (Int64.ofInt (cond (s == 0) (n : Int) (-(n : Int)))))
  | .lconst k, [n] => z_nx full ix pc len 1 && (k : Nat) == n
  | .aconst_null, _ => z_nx full ix pc len 1
  | .iload_n _, _ => z_nx full ix pc len 1
  | .iload _, _ => z_nx full ix pc len 2
  | .lload_n _, _ => z_nx full ix pc len 1
  | .lload _, _ => z_nx full ix pc len 2
  | .aload_n _, _ => z_nx full ix pc len 1
  | .aload _, _ => z_nx full ix pc len 2
  | .istore_n k, _ => z_nx full ix pc len 1 && decide ((k : Nat) < (z_hd y).2.2.1)
  | .istore k, _ => z_nx full ix pc len 2 && decide (k < (z_hd y).2.2.1)
  | .lstore k, _ => z_nx full ix pc len 2 && decide (k + 1 < (z_hd y).2.2.1)
  | .astore_n k, _ => z_nx full ix pc len 1 && decide ((k : Nat) < (z_hd y).2.2.1)
  | .astore k, _ => z_nx full ix pc len 2 && decide (k < (z_hd y).2.2.1)
  | .iinc k _, _ => z_nx full ix pc len 3 && decide (k < (z_hd y).2.2.1)
  | .iadd, _ | .isub, _ | .imul, _ | .idiv, _ | .irem, _ | .iand, _ | .ior, _ | .ishl, _ | .ishr, _ | .ineg, _ | .ladd, _ | .lsub, _ | .lmul, _ | .ldiv, _ | .lcmp, _ | .i2l, _ | .l2i, _ | .dup, _ | .dup2, _ | .pop, _ => z_nx full ix pc len 1
  | .goto off, [t] => len == 3 && z_at full t ((pc : Int) + off)
  | .ifCond _ off, [t] => z_nx full ix pc len 3 && z_at full t ((pc : Int) + off)
  | .if_icmp _ off, [t] => z_nx full ix pc len 3 && z_at full t ((pc : Int) + off)
  | .if_acmp _ off, [t] => z_nx full ix pc len 3 && z_at full t ((pc : Int) + off)
  | .ifnull off, [t] => z_nx full ix pc len 3 && z_at full t ((pc : Int) + off)
  | .ifnonnull off, [t] => z_nx full ix pc len 3 && z_at full t ((pc : Int) + off)
  | .tableswitch dflt lo hi offs, td :: ts => z_tk full pc offs.toList ts && z_at full td ((pc : Int) + dflt) && decide (hi + 1 = lo + (ts.length : Int))
  | .lookupswitch dflt ps, td :: ts => z_lk full pc ps.toList ts && z_at full td ((pc : Int) + dflt) && (ps.toList.zip (ps.toList.drop 1)).all (fun (a, next) => a.1 < next.1)
  | .getfield i, [ci, j] => z_nx full ix pc len 3 && z_cw ci (fun q => decide (j < q.2.2) && z_hasW (pl.getD 0 0) (.fieldLink (z_hd y).1.cls i (q.2.1 j).1 (q.2.1 j).2.1 (q.2.1 j).2.2.1))
  | .putfield i, [ci, j] => z_nx full ix pc len 3 && z_cw ci (fun q => decide (j < q.2.2) && z_hasW (pl.getD 0 0) (.fieldLink (z_hd y).1.cls i (q.2.1 j).1 (q.2.1 j).2.1 (q.2.1 j).2.2.1) && decide (z_ft (ci + 1) j = 2 → (z_hd y).1.name = "<init>" ∧ (q.2.1 j).1 = (z_hd y).1.cls))
  | .iaload, [kd] => z_nx full ix pc len 1 && kd / 100000 == 1
  | .iastore, [kd] => z_nx full ix pc len 1 && kd / 100000 == 1
  | .baload, [kd] => z_nx full ix pc len 1 && kd / 100000 == 2
  | .bastore, [kd] => z_nx full ix pc len 1 && kd / 100000 == 2
  | .aaload, [kd] => z_nx full ix pc len 1 && decide (3 ≤ kd / 100000 ∧ kd / 100000 ≤ 6)
  | .aastore, [kd, ci] => z_nx full ix pc len 1 && decide (3 ≤ kd / 100000 ∧ kd / 100000 ≤ 6) && z_cw ci (fun q => decide (q.1 = z_aty (kd / 100000)))
  | .arraylength, [kd] => z_nx full ix pc len 1 && decide (1 ≤ kd / 100000 ∧ kd / 100000 ≤ 6)
  | .newarray .int, [_] => z_nx full ix pc len 2 && z_hasW (pl.getD 0 0) (.arrayClass .int)
  | .newarray .boolean, [_] => z_nx full ix pc len 2 && z_hasW (pl.getD 0 0) (.arrayClass .boolean)
  | .anewarray i, [_, tag] => z_nx full ix pc len 3 && decide (3 ≤ tag ∧ tag ≤ 6) && z_hasW (pl.getD 0 0) (.classLink (z_hd y).1.cls i (z_aty tag))
  | .new i, [ci] => z_nx full ix pc len 3 && z_cw ci (fun q => z_hasW (pl.getD 0 0) (.classLink (z_hd y).1.cls i q.1) && z_hasW (pl.getD 1 0) (.instantiable q.1 q.2.2) && z_hasW (pl.getD 2 0) (.initialized q.1))
  | .invokevirtual i, [y', na, rc, gr, kd] => z_nx full ix pc len 3 && (z_cl4 y' na rc gr && kd == (z_hd y').2.2.2.2.1 + 1) && !(z_hd y').2.2.2.2.2.2.2.2 && z_hasW (pl.getD 0 0) (.methodLink (z_hd y).1.cls i (z_hd y').1) && z_hasW (pl.getD 1 0) (.selects (z_hd y').1.cls (z_hd y').1 (z_hd y').1)
  | .invokestatic i, [k0, k1] => z_nx full ix pc len 3 && k0 / 100000 == k1 / 100000 && (k0 / 100000 == 1 || k0 / 100000 == 2) && z_hasW (pl.getD 0 0) (.methodLink (z_hd y).1.cls i arraycopyName) && z_hasW (pl.getD 1 0) (.native arraycopyName) && z_hasW (pl.getD 2 0) (.static arraycopyName) && z_hasW (pl.getD 3 0) (.initialized "java/lang/System")
  | .invokestatic i, [] => z_nx full ix pc len 3 && z_hasW (pl.getD 0 0) (.methodLink (z_hd y).1.cls i Lib.Math.abs.name) && z_hasW (pl.getD 1 0) (.static Lib.Math.abs.name) && z_hasW (pl.getD 2 0) (.initialized "java/lang/Math") && z_hasW (pl.getD 3 0) (.code Lib.Math.abs.name Lib.Math.abs.code 1 (some .int))
  | .invokestatic i, [y', na, rc, gr, _] => z_nx full ix pc len 3 && z_cl4 y' na rc gr && (z_hd y').2.2.2.2.2.2.2.2 && decide (Cond.methodLinkNest (z_hd y).1.cls i (z_hd y').1 "MemoByWeight" ∈ z_nw)
  | .invokestatic i, [y', na, rc, gr] => z_nx full ix pc len 3 && z_cl4 y' na rc gr && (z_hd y').2.2.2.2.2.2.2.2 && decide ((z_hd y').1.cls = (z_hd y).1.cls) && z_hasW (pl.getD 0 0) (.methodLink (z_hd y).1.cls i (z_hd y').1)
  | .invokespecial i, [] => z_nx full ix pc len 3 && z_hasW (pl.getD 0 0) (.methodLink (z_hd y).1.cls i Lib.objectInit) && z_hasW (pl.getD 1 0) (.instanceMethod Lib.objectInit) && z_hasW (pl.getD 2 0) (.code Lib.objectInit ⟨#[0xb1]⟩ 1 none)
  | .invokespecial i, [y', na, rc, gr, _] => z_nx full ix pc len 3 && z_cl4 y' na rc gr && !(z_hd y').2.2.2.2.2.2.2.2 && decide ((z_hd y').1.name = "<init>") && decide ((z_hd y').2.2.2.1 = none) && decide (Cond.methodLinkNest (z_hd y).1.cls i (z_hd y').1 "MemoByWeight" ∈ z_nw)
  | .invokespecial i, [y', na, rc, gr] => z_nx full ix pc len 3 && z_cl4 y' na rc gr && !(z_hd y').2.2.2.2.2.2.2.2 && decide ((z_hd y').1.name = "<init>") && decide ((z_hd y').2.2.2.1 = none) && z_hasW (pl.getD 0 0) (.methodLink (z_hd y).1.cls i (z_hd y').1)
  | .return_, _ => len == 1 && decide ((z_hd y).2.2.2.1 = none)
  | .ireturn, [0] => len == 1 && decide ((z_hd y).2.2.2.1 = some .int)
  | .ireturn, [1] => len == 1 && decide ((z_hd y).2.2.2.1 = some .boolean)
  | .lreturn, _ => len == 1 && decide ((z_hd y).2.2.2.1 = some .long)
  | .areturn, _ => len == 1 && z_isO (z_hd y).2.2.2.1
  | _, _ => false
def z_okI (y : Nat) (full : List z_In) (i : z_In) : Bool := decide (decode (z_hd y).2.1 i.2.1 = .ok (i.2.2.2.2.1, i.2.2.2.2.2.1)) && z_okS y full i.1 i.2.1 i.2.2.2.2.2.1 i.2.2.2.2.1 i.2.2.2.2.2.2.1 i.2.2.2.2.2.2.2
def z_okL (y : Nat) (full : List z_In) : Nat → List z_In → Bool
  | _, [] => true
  | n, i :: l => i.1 == n && z_okI y full i && z_okL y full (n + 1) l
def z_okM (y : Nat) (full : List z_In) : Bool := z_okL y full 0 full && plainName (z_hd y).1.cls
theorem z_okL_get {y : Nat} {full : List z_In} : ∀ (l : List z_In) (n k : Nat) (i : z_In) (r : List z_In), z_okL y full n l = true → l.drop k = i :: r → i.1 = n + k ∧ z_okI y full i = true
  | [], n, k, i, r, h, hd => by simp at hd
  | a :: l, n, 0, i, r, h, hd => by
    simp only [z_okL, Bool.and_eq_true, beq_iff_eq] at h
    cases hd
    exact ⟨h.1.1, h.1.2⟩
  | a :: l, n, k + 1, i, r, h, hd => by
    simp only [z_okL, Bool.and_eq_true, beq_iff_eq] at h
    obtain ⟨h1, h2⟩ := z_okL_get l (n + 1) k i r h.2 (by simpa using hd)
    exact ⟨by omega, h2⟩
theorem z_in_gw2 (p : Nat) {w : Cond} (h : lw_tbl[p]? = some w) (hg : goodWord w = true) : w ∈ z_gw := List.mem_filter.mpr ⟨List.mem_of_getElem? h, hg⟩
theorem z_hA0 : ([0, 1, 2, 3, 4, 5, 6, 7, 8, 9, 10, 11, 12, 13, 14, 15] : List Nat).all z_hok0 = true := by decide +kernel
theorem z_hB0 : ∀ y ∈ ([0, 1, 2, 3, 4, 5, 6, 7, 8, 9, 10, 11, 12, 13, 14, 15] : List Nat), Cond.code (z_hd y).1 (z_hd y).2.1 (z_hd y).2.2.1 (z_hd y).2.2.2.1 ∈ z_gw := List.forall_mem_cons.mpr ⟨z_in_gw (p := 272) (by decide +kernel), List.forall_mem_cons.mpr ⟨z_in_gw (p := 509) (by decide +kernel), List.forall_mem_cons.mpr ⟨z_in_gw (p := 672) (by decide +kernel), List.forall_mem_cons.mpr ⟨z_in_gw (p := 641) (by decide +kernel), List.forall_mem_cons.mpr ⟨z_in_gw (p := 636) (by decide +kernel), List.forall_mem_cons.mpr ⟨z_in_gw (p := 587) (by decide +kernel), List.forall_mem_cons.mpr ⟨z_in_gw (p := 653) (by decide +kernel), List.forall_mem_cons.mpr ⟨z_in_gw (p := 681) (by decide +kernel), List.forall_mem_cons.mpr ⟨z_in_gw (p := 583) (by decide +kernel), List.forall_mem_cons.mpr ⟨z_in_gw (p := 668) (by decide +kernel), List.forall_mem_cons.mpr ⟨z_in_gw (p := 156) (by decide +kernel), List.forall_mem_cons.mpr ⟨z_in_gw (p := 695) (by decide +kernel), List.forall_mem_cons.mpr ⟨z_in_gw (p := 703) (by decide +kernel), List.forall_mem_cons.mpr ⟨z_in_gw (p := 748) (by decide +kernel), List.forall_mem_cons.mpr ⟨z_in_gw (p := 715) (by decide +kernel), List.forall_mem_cons.mpr ⟨z_in_gw (p := 100) (by decide +kernel), fun _ h => absurd h List.not_mem_nil⟩⟩⟩⟩⟩⟩⟩⟩⟩⟩⟩⟩⟩⟩⟩⟩
theorem z_hA1 : ([16, 17, 18, 19, 20, 21, 22, 23, 24, 25, 26, 27, 28, 29, 30, 31] : List Nat).all z_hok0 = true := by decide +kernel
theorem z_hB1 : ∀ y ∈ ([16, 17, 18, 19, 20, 21, 22, 23, 24, 25, 26, 27, 28, 29, 30, 31] : List Nat), Cond.code (z_hd y).1 (z_hd y).2.1 (z_hd y).2.2.1 (z_hd y).2.2.2.1 ∈ z_gw := List.forall_mem_cons.mpr ⟨z_in_gw (p := 402) (by decide +kernel), List.forall_mem_cons.mpr ⟨z_in_gw (p := 413) (by decide +kernel), List.forall_mem_cons.mpr ⟨z_in_gw (p := 461) (by decide +kernel), List.forall_mem_cons.mpr ⟨z_in_gw (p := 441) (by decide +kernel), List.forall_mem_cons.mpr ⟨z_in_gw (p := 457) (by decide +kernel), List.forall_mem_cons.mpr ⟨z_in_gw (p := 477) (by decide +kernel), List.forall_mem_cons.mpr ⟨z_in_gw (p := 473) (by decide +kernel), List.forall_mem_cons.mpr ⟨z_in_gw (p := 421) (by decide +kernel), List.forall_mem_cons.mpr ⟨z_in_gw (p := 425) (by decide +kernel), List.forall_mem_cons.mpr ⟨z_in_gw (p := 429) (by decide +kernel), List.forall_mem_cons.mpr ⟨z_in_gw (p := 433) (by decide +kernel), List.forall_mem_cons.mpr ⟨z_in_gw (p := 437) (by decide +kernel), List.forall_mem_cons.mpr ⟨z_in_gw (p := 465) (by decide +kernel), List.forall_mem_cons.mpr ⟨z_in_gw (p := 469) (by decide +kernel), List.forall_mem_cons.mpr ⟨z_in_gw (p := 449) (by decide +kernel), List.forall_mem_cons.mpr ⟨z_in_gw (p := 453) (by decide +kernel), fun _ h => absurd h List.not_mem_nil⟩⟩⟩⟩⟩⟩⟩⟩⟩⟩⟩⟩⟩⟩⟩⟩
theorem z_hA2 : ([32, 33, 34, 35, 36, 37, 38, 39, 40, 41, 42, 43, 44, 45, 46, 47] : List Nat).all z_hok0 = true := by decide +kernel
theorem z_hB2 : ∀ y ∈ ([32, 33, 34, 35, 36, 37, 38, 39, 40, 41, 42, 43, 44, 45, 46, 47] : List Nat), Cond.code (z_hd y).1 (z_hd y).2.1 (z_hd y).2.2.1 (z_hd y).2.2.2.1 ∈ z_gw := List.forall_mem_cons.mpr ⟨z_in_gw (p := 265) (by decide +kernel), List.forall_mem_cons.mpr ⟨z_in_gw (p := 548) (by decide +kernel), List.forall_mem_cons.mpr ⟨z_in_gw (p := 501) (by decide +kernel), List.forall_mem_cons.mpr ⟨z_in_gw (p := 579) (by decide +kernel), List.forall_mem_cons.mpr ⟨z_in_gw (p := 595) (by decide +kernel), List.forall_mem_cons.mpr ⟨z_in_gw (p := 623) (by decide +kernel), List.forall_mem_cons.mpr ⟨z_in_gw (p := 505) (by decide +kernel), List.forall_mem_cons.mpr ⟨z_in_gw (p := 575) (by decide +kernel), List.forall_mem_cons.mpr ⟨z_in_gw (p := 615) (by decide +kernel), List.forall_mem_cons.mpr ⟨z_in_gw (p := 603) (by decide +kernel), List.forall_mem_cons.mpr ⟨z_in_gw (p := 719) (by decide +kernel), List.forall_mem_cons.mpr ⟨z_in_gw (p := 149) (by decide +kernel), List.forall_mem_cons.mpr ⟨z_in_gw (p := 591) (by decide +kernel), List.forall_mem_cons.mpr ⟨z_in_gw (p := 760) (by decide +kernel), List.forall_mem_cons.mpr ⟨z_in_gw (p := 689) (by decide +kernel), List.forall_mem_cons.mpr ⟨z_in_gw (p := 707) (by decide +kernel), fun _ h => absurd h List.not_mem_nil⟩⟩⟩⟩⟩⟩⟩⟩⟩⟩⟩⟩⟩⟩⟩⟩
theorem z_hA3 : ([48, 49, 50, 51, 52, 53, 54, 55, 56, 57, 58, 59, 60, 61, 62, 63] : List Nat).all z_hok0 = true := by decide +kernel
theorem z_hB3 : ∀ y ∈ ([48, 49, 50, 51, 52, 53, 54, 55, 56, 57, 58, 59, 60, 61, 62, 63] : List Nat), Cond.code (z_hd y).1 (z_hd y).2.1 (z_hd y).2.2.1 (z_hd y).2.2.2.1 ∈ z_gw := List.forall_mem_cons.mpr ⟨z_in_gw (p := 711) (by decide +kernel), List.forall_mem_cons.mpr ⟨z_in_gw (p := 517) (by decide +kernel), List.forall_mem_cons.mpr ⟨z_in_gw (p := 513) (by decide +kernel), List.forall_mem_cons.mpr ⟨z_in_gw (p := 809) (by decide +kernel), List.forall_mem_cons.mpr ⟨z_in_gw (p := 772) (by decide +kernel), List.forall_mem_cons.mpr ⟨z_in_gw (p := 780) (by decide +kernel), List.forall_mem_cons.mpr ⟨z_in_gw (p := 796) (by decide +kernel), List.forall_mem_cons.mpr ⟨z_in_gw (p := 784) (by decide +kernel), List.forall_mem_cons.mpr ⟨z_in_gw (p := 788) (by decide +kernel), List.forall_mem_cons.mpr ⟨z_in_gw (p := 106) (by decide +kernel), List.forall_mem_cons.mpr ⟨z_in_gw (p := 525) (by decide +kernel), List.forall_mem_cons.mpr ⟨z_in_gw (p := 417) (by decide +kernel), List.forall_mem_cons.mpr ⟨z_in_gw (p := 490) (by decide +kernel), List.forall_mem_cons.mpr ⟨z_in_gw (p := 445) (by decide +kernel), List.forall_mem_cons.mpr ⟨z_in_gw (p := 485) (by decide +kernel), List.forall_mem_cons.mpr ⟨z_in_gw (p := 481) (by decide +kernel), fun _ h => absurd h List.not_mem_nil⟩⟩⟩⟩⟩⟩⟩⟩⟩⟩⟩⟩⟩⟩⟩⟩
theorem z_hA4 : ([64, 65, 66, 67, 68, 69, 70, 71, 72, 73, 74, 75, 76, 77, 78, 79] : List Nat).all z_hok0 = true := by decide +kernel
theorem z_hB4 : ∀ y ∈ ([64, 65, 66, 67, 68, 69, 70, 71, 72, 73, 74, 75, 76, 77, 78, 79] : List Nat), Cond.code (z_hd y).1 (z_hd y).2.1 (z_hd y).2.2.1 (z_hd y).2.2.2.1 ∈ z_gw := List.forall_mem_cons.mpr ⟨z_in_gw (p := 249) (by decide +kernel), List.forall_mem_cons.mpr ⟨z_in_gw (p := 727) (by decide +kernel), List.forall_mem_cons.mpr ⟨z_in_gw (p := 567) (by decide +kernel), List.forall_mem_cons.mpr ⟨z_in_gw (p := 571) (by decide +kernel), List.forall_mem_cons.mpr ⟨z_in_gw (p := 685) (by decide +kernel), List.forall_mem_cons.mpr ⟨z_in_gw (p := 90) (by decide +kernel), List.forall_mem_cons.mpr ⟨z_in_gw (p := 398) (by decide +kernel), List.forall_mem_cons.mpr ⟨z_in_gw (p := 406) (by decide +kernel), List.forall_mem_cons.mpr ⟨z_in_gw (p := 521) (by decide +kernel), List.forall_mem_cons.mpr ⟨z_in_gw (p := 530) (by decide +kernel), List.forall_mem_cons.mpr ⟨z_in_gw (p := 534) (by decide +kernel), List.forall_mem_cons.mpr ⟨z_in_gw (p := 538) (by decide +kernel), List.forall_mem_cons.mpr ⟨z_in_gw (p := 723) (by decide +kernel), List.forall_mem_cons.mpr ⟨z_in_gw (p := 731) (by decide +kernel), List.forall_mem_cons.mpr ⟨z_in_gw (p := 735) (by decide +kernel), List.forall_mem_cons.mpr ⟨z_in_gw (p := 740) (by decide +kernel), fun _ h => absurd h List.not_mem_nil⟩⟩⟩⟩⟩⟩⟩⟩⟩⟩⟩⟩⟩⟩⟩⟩
theorem z_hA5 : ([80, 81, 82, 83, 84, 85, 86, 87, 88, 89, 90, 91, 92, 93, 94, 95] : List Nat).all z_hok0 = true := by decide +kernel
theorem z_hB5 : ∀ y ∈ ([80, 81, 82, 83, 84, 85, 86, 87, 88, 89, 90, 91, 92, 93, 94, 95] : List Nat), Cond.code (z_hd y).1 (z_hd y).2.1 (z_hd y).2.2.1 (z_hd y).2.2.2.1 ∈ z_gw := List.forall_mem_cons.mpr ⟨z_in_gw (p := 744) (by decide +kernel), List.forall_mem_cons.mpr ⟨z_in_gw (p := 752) (by decide +kernel), List.forall_mem_cons.mpr ⟨z_in_gw (p := 756) (by decide +kernel), List.forall_mem_cons.mpr ⟨z_in_gw (p := 764) (by decide +kernel), List.forall_mem_cons.mpr ⟨z_in_gw (p := 768) (by decide +kernel), List.forall_mem_cons.mpr ⟨z_in_gw (p := 776) (by decide +kernel), List.forall_mem_cons.mpr ⟨z_in_gw (p := 792) (by decide +kernel), List.forall_mem_cons.mpr ⟨z_in_gw (p := 800) (by decide +kernel), List.forall_mem_cons.mpr ⟨z_in_gw (p := 805) (by decide +kernel), List.forall_mem_cons.mpr ⟨z_in_gw (p := 813) (by decide +kernel), List.forall_mem_cons.mpr ⟨z_in_gw (p := 817) (by decide +kernel), List.forall_mem_cons.mpr ⟨z_in_gw (p := 826) (by decide +kernel), List.forall_mem_cons.mpr ⟨z_in_gw (p := 830) (by decide +kernel), List.forall_mem_cons.mpr ⟨z_in_gw (p := 834) (by decide +kernel), List.forall_mem_cons.mpr ⟨z_in_gw (p := 838) (by decide +kernel), List.forall_mem_cons.mpr ⟨z_in_gw (p := 842) (by decide +kernel), fun _ h => absurd h List.not_mem_nil⟩⟩⟩⟩⟩⟩⟩⟩⟩⟩⟩⟩⟩⟩⟩⟩
theorem z_hA6 : ([96, 97, 98, 99, 100, 101, 102, 103, 104, 105, 106, 107, 108, 109, 110, 111] : List Nat).all z_hok0 = true := by decide +kernel
theorem z_hB6 : ∀ y ∈ ([96, 97, 98, 99, 100, 101, 102, 103, 104, 105, 106, 107, 108, 109, 110, 111] : List Nat), Cond.code (z_hd y).1 (z_hd y).2.1 (z_hd y).2.2.1 (z_hd y).2.2.2.1 ∈ z_gw := List.forall_mem_cons.mpr ⟨z_in_gw (p := 409) (by decide +kernel), List.forall_mem_cons.mpr ⟨z_in_gw (p := 544) (by decide +kernel), List.forall_mem_cons.mpr ⟨z_in_gw (p := 541) (by decide +kernel), List.forall_mem_cons.mpr ⟨z_in_gw (p := 551) (by decide +kernel), List.forall_mem_cons.mpr ⟨z_in_gw (p := 846) (by decide +kernel), List.forall_mem_cons.mpr ⟨z_in_gw (p := 850) (by decide +kernel), List.forall_mem_cons.mpr ⟨z_in_gw (p := 555) (by decide +kernel), List.forall_mem_cons.mpr ⟨z_in_gw (p := 821) (by decide +kernel), List.forall_mem_cons.mpr ⟨z_in_gw (p := 627) (by decide +kernel), List.forall_mem_cons.mpr ⟨z_in_gw (p := 632) (by decide +kernel), List.forall_mem_cons.mpr ⟨z_in_gw (p := 645) (by decide +kernel), List.forall_mem_cons.mpr ⟨z_in_gw (p := 649) (by decide +kernel), List.forall_mem_cons.mpr ⟨z_in_gw (p := 657) (by decide +kernel), List.forall_mem_cons.mpr ⟨z_in_gw (p := 660) (by decide +kernel), List.forall_mem_cons.mpr ⟨z_in_gw (p := 559) (by decide +kernel), List.forall_mem_cons.mpr ⟨z_in_gw (p := 563) (by decide +kernel), fun _ h => absurd h List.not_mem_nil⟩⟩⟩⟩⟩⟩⟩⟩⟩⟩⟩⟩⟩⟩⟩⟩
theorem z_hA7 : ([112, 113, 114, 115, 116, 117, 118, 119, 120, 121, 122, 123, 124, 125, 126, 127] : List Nat).all z_hok0 = true := by decide +kernel
theorem z_hB7 : ∀ y ∈ ([112, 113, 114, 115, 116, 117, 118, 119, 120, 121, 122, 123, 124, 125, 126, 127] : List Nat), Cond.code (z_hd y).1 (z_hd y).2.1 (z_hd y).2.2.1 (z_hd y).2.2.2.1 ∈ z_gw := List.forall_mem_cons.mpr ⟨z_in_gw (p := 607) (by decide +kernel), List.forall_mem_cons.mpr ⟨z_in_gw (p := 611) (by decide +kernel), List.forall_mem_cons.mpr ⟨z_in_gw (p := 619) (by decide +kernel), List.forall_mem_cons.mpr ⟨z_in_gw (p := 664) (by decide +kernel), List.forall_mem_cons.mpr ⟨z_in_gw (p := 677) (by decide +kernel), List.forall_mem_cons.mpr ⟨z_in_gw (p := 599) (by decide +kernel), List.forall_mem_cons.mpr ⟨z_in_gw (p := 497) (by decide +kernel), List.forall_mem_cons.mpr ⟨z_in_gw (p := 855) (by decide +kernel), List.forall_mem_cons.mpr ⟨z_in_gw (p := 1026) (by decide +kernel), List.forall_mem_cons.mpr ⟨z_in_gw (p := 1022) (by decide +kernel), List.forall_mem_cons.mpr ⟨z_in_gw (p := 1059) (by decide +kernel), List.forall_mem_cons.mpr ⟨z_in_gw (p := 1067) (by decide +kernel), List.forall_mem_cons.mpr ⟨z_in_gw (p := 1055) (by decide +kernel), List.forall_mem_cons.mpr ⟨z_in_gw (p := 1079) (by decide +kernel), List.forall_mem_cons.mpr ⟨z_in_gw (p := 1071) (by decide +kernel), List.forall_mem_cons.mpr ⟨z_in_gw (p := 1063) (by decide +kernel), fun _ h => absurd h List.not_mem_nil⟩⟩⟩⟩⟩⟩⟩⟩⟩⟩⟩⟩⟩⟩⟩⟩
theorem z_hA8 : ([128, 129, 130, 131, 132, 133, 134, 135, 136, 137, 138, 139, 140, 141, 142, 143] : List Nat).all z_hok0 = true := by decide +kernel
theorem z_hB8 : ∀ y ∈ ([128, 129, 130, 131, 132, 133, 134, 135, 136, 137, 138, 139, 140, 141, 142, 143] : List Nat), Cond.code (z_hd y).1 (z_hd y).2.1 (z_hd y).2.2.1 (z_hd y).2.2.2.1 ∈ z_gw := List.forall_mem_cons.mpr ⟨z_in_gw (p := 1035) (by decide +kernel), List.forall_mem_cons.mpr ⟨z_in_gw (p := 1039) (by decide +kernel), List.forall_mem_cons.mpr ⟨z_in_gw (p := 1043) (by decide +kernel), List.forall_mem_cons.mpr ⟨z_in_gw (p := 1047) (by decide +kernel), List.forall_mem_cons.mpr ⟨z_in_gw (p := 1087) (by decide +kernel), List.forall_mem_cons.mpr ⟨z_in_gw (p := 1083) (by decide +kernel), List.forall_mem_cons.mpr ⟨z_in_gw (p := 1051) (by decide +kernel), List.forall_mem_cons.mpr ⟨z_in_gw (p := 1075) (by decide +kernel), List.forall_mem_cons.mpr ⟨z_in_gw (p := 1030) (by decide +kernel), List.forall_mem_cons.mpr ⟨z_in_gw (p := 1117) (by decide +kernel), List.forall_mem_cons.mpr ⟨z_in_gw (p := 1121) (by decide +kernel), List.forall_mem_cons.mpr ⟨z_in_gw (p := 1127) (by decide +kernel), List.forall_mem_cons.mpr ⟨z_in_gw (p := 1143) (by decide +kernel), List.forall_mem_cons.mpr ⟨z_in_gw (p := 1113) (by decide +kernel), List.forall_mem_cons.mpr ⟨z_in_gw (p := 1210) (by decide +kernel), List.forall_mem_cons.mpr ⟨z_in_gw (p := 1248) (by decide +kernel), fun _ h => absurd h List.not_mem_nil⟩⟩⟩⟩⟩⟩⟩⟩⟩⟩⟩⟩⟩⟩⟩⟩
theorem z_hA9 : ([144, 145, 146, 147, 148, 149, 150, 151, 152, 153, 154, 155, 156, 157, 158, 159] : List Nat).all z_hok0 = true := by decide +kernel
theorem z_hB9 : ∀ y ∈ ([144, 145, 146, 147, 148, 149, 150, 151, 152, 153, 154, 155, 156, 157, 158, 159] : List Nat), Cond.code (z_hd y).1 (z_hd y).2.1 (z_hd y).2.2.1 (z_hd y).2.2.2.1 ∈ z_gw := List.forall_mem_cons.mpr ⟨z_in_gw (p := 1102) (by decide +kernel), List.forall_mem_cons.mpr ⟨z_in_gw (p := 1187) (by decide +kernel), List.forall_mem_cons.mpr ⟨z_in_gw (p := 1183) (by decide +kernel), List.forall_mem_cons.mpr ⟨z_in_gw (p := 1179) (by decide +kernel), List.forall_mem_cons.mpr ⟨z_in_gw (p := 1174) (by decide +kernel), List.forall_mem_cons.mpr ⟨z_in_gw (p := 1098) (by decide +kernel), List.forall_mem_cons.mpr ⟨z_in_gw (p := 1094) (by decide +kernel), List.forall_mem_cons.mpr ⟨z_in_gw (p := 1155) (by decide +kernel), List.forall_mem_cons.mpr ⟨z_in_gw (p := 1110) (by decide +kernel), List.forall_mem_cons.mpr ⟨z_in_gw (p := 1195) (by decide +kernel), List.forall_mem_cons.mpr ⟨z_in_gw (p := 1191) (by decide +kernel), List.forall_mem_cons.mpr ⟨z_in_gw (p := 1199) (by decide +kernel), List.forall_mem_cons.mpr ⟨z_in_gw (p := 1203) (by decide +kernel), List.forall_mem_cons.mpr ⟨z_in_gw (p := 1147) (by decide +kernel), List.forall_mem_cons.mpr ⟨z_in_gw (p := 1159) (by decide +kernel), List.forall_mem_cons.mpr ⟨z_in_gw (p := 1167) (by decide +kernel), fun _ h => absurd h List.not_mem_nil⟩⟩⟩⟩⟩⟩⟩⟩⟩⟩⟩⟩⟩⟩⟩⟩
theorem z_hA10 : ([160, 161, 162, 163, 164, 165, 166, 167, 168, 169, 170, 171, 172, 173, 174, 175] : List Nat).all z_hok0 = true := by decide +kernel
theorem z_hB10 : ∀ y ∈ ([160, 161, 162, 163, 164, 165, 166, 167, 168, 169, 170, 171, 172, 173, 174, 175] : List Nat), Cond.code (z_hd y).1 (z_hd y).2.1 (z_hd y).2.2.1 (z_hd y).2.2.2.1 ∈ z_gw := List.forall_mem_cons.mpr ⟨z_in_gw (p := 1151) (by decide +kernel), List.forall_mem_cons.mpr ⟨z_in_gw (p := 1163) (by decide +kernel), List.forall_mem_cons.mpr ⟨z_in_gw (p := 1171) (by decide +kernel), List.forall_mem_cons.mpr ⟨z_in_gw (p := 1213) (by decide +kernel), List.forall_mem_cons.mpr ⟨z_in_gw (p := 1207) (by decide +kernel), List.forall_mem_cons.mpr ⟨z_in_gw (p := 1106) (by decide +kernel), List.forall_mem_cons.mpr ⟨z_in_gw (p := 1140) (by decide +kernel), List.forall_mem_cons.mpr ⟨z_in_gw (p := 1134) (by decide +kernel), List.forall_mem_cons.mpr ⟨z_in_gw (p := 1131) (by decide +kernel), List.forall_mem_cons.mpr ⟨z_in_gw (p := 1219) (by decide +kernel), List.forall_mem_cons.mpr ⟨z_in_gw (p := 1227) (by decide +kernel), List.forall_mem_cons.mpr ⟨z_in_gw (p := 1231) (by decide +kernel), List.forall_mem_cons.mpr ⟨z_in_gw (p := 1223) (by decide +kernel), List.forall_mem_cons.mpr ⟨z_in_gw (p := 1235) (by decide +kernel), List.forall_mem_cons.mpr ⟨z_in_gw (p := 1240) (by decide +kernel), List.forall_mem_cons.mpr ⟨z_in_gw (p := 1245) (by decide +kernel), fun _ h => absurd h List.not_mem_nil⟩⟩⟩⟩⟩⟩⟩⟩⟩⟩⟩⟩⟩⟩⟩⟩
theorem z_hA11 : ([176, 177, 178, 179, 180, 181, 182, 183, 184, 185, 186, 187, 188, 189, 190, 191] : List Nat).all z_hok0 = true := by decide +kernel
theorem z_hB11 : ∀ y ∈ ([176, 177, 178, 179, 180, 181, 182, 183, 184, 185, 186, 187, 188, 189, 190, 191] : List Nat), Cond.code (z_hd y).1 (z_hd y).2.1 (z_hd y).2.2.1 (z_hd y).2.2.2.1 ∈ z_gw := List.forall_mem_cons.mpr ⟨z_in_gw (p := 1254) (by decide +kernel), List.forall_mem_cons.mpr ⟨z_in_gw (p := 1258) (by decide +kernel), List.forall_mem_cons.mpr ⟨z_in_gw (p := 1262) (by decide +kernel), List.forall_mem_cons.mpr ⟨z_in_gw (p := 1266) (by decide +kernel), List.forall_mem_cons.mpr ⟨z_in_gw (p := 1271) (by decide +kernel), List.forall_mem_cons.mpr ⟨z_in_gw (p := 1275) (by decide +kernel), List.forall_mem_cons.mpr ⟨z_in_gw (p := 1279) (by decide +kernel), List.forall_mem_cons.mpr ⟨z_in_gw (p := 1283) (by decide +kernel), List.forall_mem_cons.mpr ⟨z_in_gw (p := 1287) (by decide +kernel), List.forall_mem_cons.mpr ⟨z_in_gw (p := 1294) (by decide +kernel), List.forall_mem_cons.mpr ⟨z_in_gw (p := 1298) (by decide +kernel), List.forall_mem_cons.mpr ⟨z_in_gw (p := 1291) (by decide +kernel), List.forall_mem_cons.mpr ⟨z_in_gw (p := 1302) (by decide +kernel), List.forall_mem_cons.mpr ⟨z_in_gw (p := 1307) (by decide +kernel), List.forall_mem_cons.mpr ⟨z_in_gw (p := 1311) (by decide +kernel), List.forall_mem_cons.mpr ⟨z_in_gw (p := 1316) (by decide +kernel), fun _ h => absurd h List.not_mem_nil⟩⟩⟩⟩⟩⟩⟩⟩⟩⟩⟩⟩⟩⟩⟩⟩
theorem z_hA12 : ([192, 193] : List Nat).all z_hok0 = true := by decide +kernel
theorem z_hB12 : ∀ y ∈ ([192, 193] : List Nat), Cond.code (z_hd y).1 (z_hd y).2.1 (z_hd y).2.2.1 (z_hd y).2.2.2.1 ∈ z_gw := List.forall_mem_cons.mpr ⟨z_in_gw (p := 1320) (by decide +kernel), List.forall_mem_cons.mpr ⟨z_in_gw (p := 1324) (by decide +kernel), fun _ h => absurd h List.not_mem_nil⟩⟩
theorem z_hmem {y : Nat} {l : List Nat} (h1 : l.all z_hok0 = true) (h2 : ∀ y ∈ l, Cond.code (z_hd y).1 (z_hd y).2.1 (z_hd y).2.2.1 (z_hd y).2.2.2.1 ∈ z_gw) (h : y ∈ l) : z_hok y := ⟨h2 y h, List.all_eq_true.mp h1 y h⟩
theorem z_hget {y : Nat} (h : Nat.blt y 194 = true) : z_hok y := by
  have h := Nat.blt_eq.mp h
  by_cases g0 : y < 16
  · exact z_hmem z_hA0 z_hB0 (by simp only [List.mem_cons, List.not_mem_nil, or_false]; omega)
  by_cases g1 : y < 32
  · exact z_hmem z_hA1 z_hB1 (by simp only [List.mem_cons, List.not_mem_nil, or_false]; omega)
  by_cases g2 : y < 48
  · exact z_hmem z_hA2 z_hB2 (by simp only [List.mem_cons, List.not_mem_nil, or_false]; omega)
  by_cases g3 : y < 64
  · exact z_hmem z_hA3 z_hB3 (by simp only [List.mem_cons, List.not_mem_nil, or_false]; omega)
  by_cases g4 : y < 80
  · exact z_hmem z_hA4 z_hB4 (by simp only [List.mem_cons, List.not_mem_nil, or_false]; omega)
  by_cases g5 : y < 96
  · exact z_hmem z_hA5 z_hB5 (by simp only [List.mem_cons, List.not_mem_nil, or_false]; omega)
  by_cases g6 : y < 112
  · exact z_hmem z_hA6 z_hB6 (by simp only [List.mem_cons, List.not_mem_nil, or_false]; omega)
  by_cases g7 : y < 128
  · exact z_hmem z_hA7 z_hB7 (by simp only [List.mem_cons, List.not_mem_nil, or_false]; omega)
  by_cases g8 : y < 144
  · exact z_hmem z_hA8 z_hB8 (by simp only [List.mem_cons, List.not_mem_nil, or_false]; omega)
  by_cases g9 : y < 160
  · exact z_hmem z_hA9 z_hB9 (by simp only [List.mem_cons, List.not_mem_nil, or_false]; omega)
  by_cases g10 : y < 176
  · exact z_hmem z_hA10 z_hB10 (by simp only [List.mem_cons, List.not_mem_nil, or_false]; omega)
  by_cases g11 : y < 192
  · exact z_hmem z_hA11 z_hB11 (by simp only [List.mem_cons, List.not_mem_nil, or_false]; omega)
  by_cases g12 : y < 194
  · exact z_hmem z_hA12 z_hB12 (by simp only [List.mem_cons, List.not_mem_nil, or_false]; omega)
  omega
section ZS
variable {e : z_E} {ph : Bool} {d y Ni No : Nat} {Q : Int → z_M → Prop} {full : List z_In}
/-- a place of the code, from which the machine comes to the end -/
def z_Xr (e : z_E) (ph : Bool) (d y Ni No : Nat) (Q : Int → z_M → Prop) (full : List z_In) (c : z_K) : Prop := ∀ (j : Nat) (r : List z_In) ls st N σ, r = full.drop j → c r ls st N σ → ∀ p : Nat, z_pcAt full j = some p → z_X e ph d y Ni No p ls st N σ Q
theorem z_at_sp {t : Nat} {p : Int} (h : z_at full t p = true) : ∃ q, z_pcAt full t = some q ∧ p = (q : Int) := by
  unfold z_at at h
  split at h
  · next q hq => exact ⟨q, hq, (of_decide_eq_true h).symm⟩
  · cases h
theorem z_sw_tab {c : Nat → Prop} {x : Int} {td : Nat} : ∀ (ts : List Nat) (lo : Int), z_sw c x (z_tpl lo ts) td → (∃ (k t : Nat), ts[k]? = some t ∧ x = lo + (k : Int) ∧ c t) ∨ ((x < lo ∨ lo + (ts.length : Int) ≤ x) ∧ c td)
  | [], lo, h => Or.inr ⟨by simp; omega, h⟩
  | t :: ts, lo, h => by
    obtain ⟨h1, h2⟩ := h
    by_cases hx : x = lo
    · exact Or.inl ⟨0, t, rfl, by omega, h1 hx⟩
    · rcases z_sw_tab ts (lo + 1) (h2 hx) with ⟨k, t', q1, q2, q3⟩ | ⟨q1, q2⟩
      · exact Or.inl ⟨k + 1, t', by simpa using q1, by omega, q3⟩
      · exact Or.inr ⟨by simp only [List.length_cons]; omega, q2⟩
theorem z_tk_get {pc : Int} : ∀ (os : List Int) (ts : List Nat), z_tk full pc os ts = true → os.length = ts.length ∧ ∀ (k t : Nat), ts[k]? = some t → ∃ o, os[k]? = some o ∧ z_at full t (pc + o) = true
  | [], [], _ => ⟨rfl, fun k t h => by simp at h⟩
  | o :: os, t :: ts, h => by
    simp only [z_tk, Bool.and_eq_true] at h
    obtain ⟨h1, h2⟩ := z_tk_get os ts h.2
    refine ⟨by simp [h1], fun k t' hk => ?_⟩
    cases k with
    | zero => simp at hk; subst hk; exact ⟨o, rfl, h.1⟩
    | succ k => exact h2 k t' (by simpa using hk)
  | [], _ :: _, h => by simp [z_tk] at h
  | _ :: _, [], h => by simp [z_tk] at h
theorem z_sw_lk {c : Nat → Prop} {x pc dflt : Int} {td : Nat} : ∀ (ps : List (Int × Int)) (ts : List Nat), z_lk full pc ps ts = true → z_at full td (pc + dflt) = true → z_sw c x (z_lpl ps ts) td → ∃ t, z_at full t (pc + Op.lookupswitch.offset ps dflt x) = true ∧ c t
  | [], [], _, h, hc => ⟨td, h, hc⟩
  | (v, o) :: ps, t :: ts, h, h2, hc => by
    simp only [z_lk, Bool.and_eq_true] at h
    obtain ⟨h3, h4⟩ := hc
    rw [Op.lookupswitch.offset_cons]
    by_cases hx : v = x
    · rw [if_pos hx]; exact ⟨t, h.1, h3 hx.symm⟩
    · rw [if_neg hx]; exact z_sw_lk ps ts h.2 h2 (h4 (fun w => hx w.symm))
  | [], _ :: _, h, _, _ => by simp [z_lk] at h
  | _ :: _, [], h, _, _ => by simp [z_lk] at h
theorem z_ck_sp {b : Bool} {P : Prop} (h : z_ck b P) : b = true ∧ P := by
  cases b
  · exact absurd h id
  · exact ⟨rfl, h⟩
theorem z_fwk_sp {ci j : Nat} {v : z_V} {P : Prop} (hr : z_rg v) (h : z_fwk ph (z_ft (ci + 1) j) v P) : z_fw ph (ci + 1) j v ∧ z_ir (z_un v) ∧ P := by
  unfold z_fw
  unfold z_fwk at h
  revert h
  generalize z_ft (ci + 1) j = t
  intro h
  match t, v, hr, h with
  | 0, .inl x, hr, h => exact ⟨trivial, hr, h⟩
  | 1, .inr (.inr x), hr, h => exact ⟨trivial, h.1, h.2⟩
  | 2, .inr (.inr x), hr, h => exact ⟨h.1, h.2.1, h.2.2⟩
  | 3, .inl x, hr, h => exact ⟨h.1, hr, h.2⟩
  | 0, .inr (.inl x), hr, h => exact absurd h id
  | 0, .inr (.inr x), hr, h => exact absurd h id
  | 1, .inl x, hr, h => exact absurd h id
  | 1, .inr (.inl x), hr, h => exact absurd h id
  | 2, .inl x, hr, h => exact absurd h id
  | 2, .inr (.inl x), hr, h => exact absurd h id
  | 3, .inr (.inl x), hr, h => exact absurd h id
  | 3, .inr (.inr x), hr, h => exact absurd h id
  | n + 4, .inl x, hr, h => exact absurd h id
  | n + 4, .inr (.inl x), hr, h => exact absurd h id
  | n + 4, .inr (.inr x), hr, h => exact absurd h id
theorem z_cw_sp {ci : Nat} {f : vw_C → Bool} (h : z_cw ci f = true) : ∃ q, z_cl[ci]? = some q ∧ f q = true := by
  unfold z_cw at h
  split at h
  · next q hq => exact ⟨q, hq, h⟩
  · cases h
theorem z_r2_rs (rt : Option FieldType) (r : Int) (st : List z_V) : z_r2 (z_rc rt) r st = z_rs rt r st := by
  cases rt with
  | none => rfl
  | some t => cases t <;> rfl
theorem z_cl4_sp {y' na rc gr : Nat} (h : z_cl4 y' na rc gr = true) : z_hok y' ∧ (z_hd y').2.2.2.2.2.1 = na ∧ z_rc (z_hd y').2.2.2.1 = rc ∧ (z_hd y').2.2.2.2.2.2.1 = gr := by
  simp only [z_cl4, Bool.and_eq_true, beq_iff_eq] at h
  exact ⟨z_hget h.1.1.1, h.1.1.2, h.1.2, h.2⟩
theorem z_pop_sp : ∀ (n : Nat) (as st as' st' : List z_V), z_pop n as st = some (as', st') → ∃ l, as' = l.reverse ++ as ∧ st = l ++ st' ∧ l.length = n
  | 0, as, st, as', st', h => by cases h; exact ⟨[], rfl, rfl, rfl⟩
  | n + 1, as, [], as', st', h => by cases h
  | n + 1, as, v :: st, as', st', h => by
    obtain ⟨l, h1, h2, h3⟩ := z_pop_sp n (v :: as) st as' st' h
    exact ⟨v :: l, by rw [h1]; simp, by rw [h2]; rfl, by simp [h3]⟩
end ZS
end
section
section ZT
variable {e : z_E} {ph : Bool} {d y Ni No : Nat} {Q : Int → z_M → Prop} {full : List z_In}
theorem z_X_rg {pc : Nat} {ls : List (Option z_V)} {st : List z_V} {N : Nat} {σ : z_M} (h : z_rS st → z_X e ph d y Ni No pc ls st N σ Q) : z_X e ph d y Ni No pc ls st N σ Q := fun r1 r2 r3 => h r2 r1 r2 r3
theorem z_irB_sp {n : Int} (h : z_irB n = true) : z_ir n := by
  unfold z_irB at h
  exact of_decide_eq_true (p := -2147483648 ≤ n ∧ n < 2147483648) h
theorem z_isO_sp {rt : Option FieldType} (h : z_isO rt = true) : ∃ n, rt = some (.object n) := by
  unfold z_isO at h
  split at h
  · exact ⟨_, rfl⟩
  · cases h
theorem z_Y_mono {y' N N' : Nat} {args : List z_V} {σ : z_M} {Q1 Q2 : Int → z_M → Prop} (hq : ∀ r σ', Q1 r σ' → Q2 r σ') (h : z_Y e ph d y' args N N' σ Q1) : z_Y e ph d y' args N N' σ Q2 := by
  intro r1 r2
  obtain ⟨d', h1, h2, h3⟩ := h r1 r2
  refine ⟨d', h1, h2, ?_⟩
  have key : ∀ a s o t, z_Qc e ph (z_hd y').2.2.2.1 N' Q1 a s o t → z_Qc e ph (z_hd y').2.2.2.1 N' Q2 a s o t := fun a s o t ⟨r, σ', w, rest⟩ => ⟨r, σ', hq _ _ w, rest⟩
  intro p env ha hc hk s m args below hf hfit hP hX
  obtain ⟨t, o, g1, g2, g3, g4⟩ := h3 p env ha hc hk s m args below hf hfit hP hX
  exact ⟨t, o, g1, g2, g3, key _ _ _ _ g4.1, g4.2⟩
theorem z_call_sp {y' n : Nat} {c : z_K} {r : List z_In} {ls : List (Option z_V)} {st as st' : List z_V} {N : Nat} {σ : z_M} (hp : z_pop n [] st = some (as, st')) (h : z_call e ph d No y' (z_rc (z_hd y').2.2.2.1) (z_hd y').2.2.2.2.2.2.1 c r ls as st' N σ) :
    st = as.reverse ++ st' ∧ as.length = n ∧ z_cat st' ≤ 8 ∧ N + (z_hd y').2.2.2.2.2.2.1 ≤ No ∧ z_Y e ph d y' as N (N + (z_hd y').2.2.2.2.2.2.1) σ (fun v σ' => c r ls (z_rs (z_hd y').2.2.2.1 v st') (N + (z_hd y').2.2.2.2.2.2.1) σ') := by
  unfold z_call at h
  obtain ⟨c1, c2⟩ := z_ck_sp h
  simp only [Bool.and_eq_true, Nat.ble_eq] at c1
  obtain ⟨l, h1, h2, h3⟩ := z_pop_sp _ _ _ _ _ hp
  refine ⟨?_, ?_, c1.1, c1.2, ?_⟩
  · rw [h1]; simpa using h2
  · rw [h1]; simpa using h3
  · simp only [z_r2_rs] at c2
    exact c2
set_option maxHeartbeats 4000000 in
theorem z_step_ok {c : z_K} {i : z_In} {r : List z_In} {ls : List (Option z_V)} {st : List z_V} {N : Nat} {σ : z_M} (hok : z_okI y full i = true) (hr : r = full.drop (i.1 + 1)) (hc : z_Xr e ph d y Ni No Q full c) (h : z_step e ph d No Q full c i r ls st N σ) : z_X e ph d y Ni No i.2.1 ls st N σ Q := by
  obtain ⟨ix, pc, cut, msk, ins, len, args, pl⟩ := i
  simp only [z_okI, Bool.and_eq_true, decide_eq_true_eq] at hok
  obtain ⟨hd, ok⟩ := hok
  have nx : ∀ k : Nat, z_nx full ix pc len k = true → len = k ∧ ∀ ls' st' N' σ', c r ls' st' N' σ' → z_X e ph d y Ni No (pc + k) ls' st' N' σ' Q := by
    intro k hk
    simp only [z_nx, Bool.and_eq_true, beq_iff_eq] at hk
    obtain ⟨q, h1, h2⟩ := z_at_sp hk.2
    refine ⟨hk.1, fun ls' st' N' σ' w => ?_⟩
    rw [show pc + k = q by omega]
    exact hc (ix + 1) r ls' st' N' σ' hr w q h1
  have jp : ∀ (t : Nat) (p : Int), z_at full t p = true → ∃ q : Nat, p = (q : Int) ∧ ∀ ls' st' N' σ', c (full.drop t) ls' st' N' σ' → z_X e ph d y Ni No q ls' st' N' σ' Q := by
    intro t p hk
    obtain ⟨q, h1, h2⟩ := z_at_sp hk
    exact ⟨q, h2, fun ls' st' N' σ' w => hc t _ ls' st' N' σ' rfl w q h1⟩
  clear hc hr
  unfold z_step at h
  simp only at h hd ok ⊢
  split at h
  · simp only [z_okS, Bool.and_eq_true, decide_eq_true_eq, beq_iff_eq, Bool.not_eq_true'] at ok
    obtain ⟨o1, o2⟩ := ok
    obtain ⟨rfl, hn⟩ := nx _ o1
    exact z_s_iconst (z_irB_sp o2) hd (hn _ _ _ _ h)
  · simp only [z_okS, Bool.and_eq_true, decide_eq_true_eq, beq_iff_eq, Bool.not_eq_true'] at ok
    obtain ⟨⟨o1, o2⟩, o3⟩ := ok
    obtain ⟨rfl, hn⟩ := nx _ o1
    exact z_s_bipush o3 (z_irB_sp o2) hd (hn _ _ _ _ h)
  · simp only [z_okS, Bool.and_eq_true, decide_eq_true_eq, beq_iff_eq, Bool.not_eq_true'] at ok
    obtain ⟨⟨o1, o2⟩, o3⟩ := ok
    obtain ⟨rfl, hn⟩ := nx _ o1
    exact z_s_sipush o3 (z_irB_sp o2) hd (hn _ _ _ _ h)
  · simp only [z_okS, Bool.and_eq_true, decide_eq_true_eq, beq_iff_eq, Bool.not_eq_true'] at ok
    obtain ⟨⟨o1, o2⟩, o3⟩ := ok
    obtain ⟨rfl, hn⟩ := nx _ o1
    exact z_s_ldc (z_in_gw o3) (z_irB_sp o2) hd (hn _ _ _ _ h)
  · simp only [z_okS, Bool.and_eq_true, decide_eq_true_eq, beq_iff_eq, Bool.not_eq_true'] at ok
    obtain ⟨⟨o1, o2⟩, o3⟩ := ok
    obtain ⟨rfl, hn⟩ := nx _ o1
    have o2 := of_decide_eq_true o2
    exact z_s_ldc2 (z_in_gw o3) (by unfold z_lr; omega) hd (hn _ _ _ _ h)
  · simp only [z_okS, Bool.and_eq_true, decide_eq_true_eq, beq_iff_eq, Bool.not_eq_true'] at ok
    obtain ⟨o1, o2⟩ := ok
    obtain ⟨rfl, hn⟩ := nx _ o1
    subst o2
    exact z_s_lconst rfl (by unfold z_lr; omega) hd (hn _ _ _ _ h)
  · simp only [z_okS, Bool.and_eq_true, decide_eq_true_eq, beq_iff_eq, Bool.not_eq_true'] at ok
    obtain ⟨rfl, hn⟩ := nx _ ok
    exact z_s_null hd (hn _ _ _ _ h)
  · simp only [z_okS, Bool.and_eq_true, decide_eq_true_eq, beq_iff_eq, Bool.not_eq_true'] at ok
    split at h
    · next hx =>
      obtain ⟨rfl, hn⟩ := nx _ ok
      exact z_s_iload_n hx hd (hn _ _ _ _ h)
    · exact absurd h id
  · simp only [z_okS, Bool.and_eq_true, decide_eq_true_eq, beq_iff_eq, Bool.not_eq_true'] at ok
    split at h
    · next hx =>
      obtain ⟨rfl, hn⟩ := nx _ ok
      exact z_s_iload hx hd (hn _ _ _ _ h)
    · exact absurd h id
  · simp only [z_okS, Bool.and_eq_true, decide_eq_true_eq, beq_iff_eq, Bool.not_eq_true'] at ok
    split at h
    · next hx =>
      obtain ⟨rfl, hn⟩ := nx _ ok
      exact z_s_lload_n hx hd (hn _ _ _ _ h)
    · exact absurd h id
  · simp only [z_okS, Bool.and_eq_true, decide_eq_true_eq, beq_iff_eq, Bool.not_eq_true'] at ok
    split at h
    · next hx =>
      obtain ⟨rfl, hn⟩ := nx _ ok
      exact z_s_lload hx hd (hn _ _ _ _ h)
    · exact absurd h id
  · simp only [z_okS, Bool.and_eq_true, decide_eq_true_eq, beq_iff_eq, Bool.not_eq_true'] at ok
    split at h
    · next hx =>
      obtain ⟨rfl, hn⟩ := nx _ ok
      exact z_s_aload_n hx hd (hn _ _ _ _ h)
    · exact absurd h id
  · simp only [z_okS, Bool.and_eq_true, decide_eq_true_eq, beq_iff_eq, Bool.not_eq_true'] at ok
    split at h
    · next hx =>
      obtain ⟨rfl, hn⟩ := nx _ ok
      exact z_s_aload hx hd (hn _ _ _ _ h)
    · exact absurd h id
  · simp only [z_okS, Bool.and_eq_true, decide_eq_true_eq, beq_iff_eq, Bool.not_eq_true'] at ok
    obtain ⟨o1, o2⟩ := ok
    obtain ⟨rfl, hn⟩ := nx _ o1
    exact z_s_istore_n o2 hd (hn _ _ _ _ h)
  · simp only [z_okS, Bool.and_eq_true, decide_eq_true_eq, beq_iff_eq, Bool.not_eq_true'] at ok
    obtain ⟨o1, o2⟩ := ok
    obtain ⟨rfl, hn⟩ := nx _ o1
    exact z_s_istore o2 hd (hn _ _ _ _ h)
  · simp only [z_okS, Bool.and_eq_true, decide_eq_true_eq, beq_iff_eq, Bool.not_eq_true'] at ok
    obtain ⟨o1, o2⟩ := ok
    obtain ⟨rfl, hn⟩ := nx _ o1
    exact z_s_lstore o2 hd (hn _ _ _ _ h)
  · simp only [z_okS, Bool.and_eq_true, decide_eq_true_eq, beq_iff_eq, Bool.not_eq_true'] at ok
    obtain ⟨o1, o2⟩ := ok
    obtain ⟨rfl, hn⟩ := nx _ o1
    exact z_s_astore_n o2 hd (hn _ _ _ _ h)
  · simp only [z_okS, Bool.and_eq_true, decide_eq_true_eq, beq_iff_eq, Bool.not_eq_true'] at ok
    obtain ⟨o1, o2⟩ := ok
    obtain ⟨rfl, hn⟩ := nx _ o1
    exact z_s_astore o2 hd (hn _ _ _ _ h)
  · simp only [z_okS, Bool.and_eq_true, decide_eq_true_eq, beq_iff_eq, Bool.not_eq_true'] at ok
    split at h
    · next hx =>
      obtain ⟨o1, o2⟩ := ok
      obtain ⟨rfl, hn⟩ := nx _ o1
      exact z_s_iinc o2 hx hd (hn _ _ _ _ h)
    · exact absurd h id
  · simp only [z_okS, Bool.and_eq_true, decide_eq_true_eq, beq_iff_eq, Bool.not_eq_true'] at ok
    obtain ⟨rfl, hn⟩ := nx _ ok
    exact z_s_iadd hd (hn _ _ _ _ h)
  · simp only [z_okS, Bool.and_eq_true, decide_eq_true_eq, beq_iff_eq, Bool.not_eq_true'] at ok
    obtain ⟨rfl, hn⟩ := nx _ ok
    exact z_s_isub hd (hn _ _ _ _ h)
  · simp only [z_okS, Bool.and_eq_true, decide_eq_true_eq, beq_iff_eq, Bool.not_eq_true'] at ok
    obtain ⟨rfl, hn⟩ := nx _ ok
    exact z_s_imul hd (hn _ _ _ _ h)
  · simp only [z_okS, Bool.and_eq_true, decide_eq_true_eq, beq_iff_eq, Bool.not_eq_true'] at ok
    obtain ⟨rfl, hn⟩ := nx _ ok
    exact z_s_idiv h.1 hd (hn _ _ _ _ h.2)
  · simp only [z_okS, Bool.and_eq_true, decide_eq_true_eq, beq_iff_eq, Bool.not_eq_true'] at ok
    obtain ⟨rfl, hn⟩ := nx _ ok
    exact z_s_irem h.1 hd (hn _ _ _ _ h.2)
  · simp only [z_okS, Bool.and_eq_true, decide_eq_true_eq, beq_iff_eq, Bool.not_eq_true'] at ok
    obtain ⟨rfl, hn⟩ := nx _ ok
    exact z_s_iand hd (hn _ _ _ _ h)
  · simp only [z_okS, Bool.and_eq_true, decide_eq_true_eq, beq_iff_eq, Bool.not_eq_true'] at ok
    obtain ⟨rfl, hn⟩ := nx _ ok
    exact z_s_ior hd (hn _ _ _ _ h)
  · simp only [z_okS, Bool.and_eq_true, decide_eq_true_eq, beq_iff_eq, Bool.not_eq_true'] at ok
    obtain ⟨rfl, hn⟩ := nx _ ok
    exact z_s_ishl hd (hn _ _ _ _ h)
  · simp only [z_okS, Bool.and_eq_true, decide_eq_true_eq, beq_iff_eq, Bool.not_eq_true'] at ok
    obtain ⟨rfl, hn⟩ := nx _ ok
    exact z_s_ishr hd (hn _ _ _ _ h)
  · simp only [z_okS, Bool.and_eq_true, decide_eq_true_eq, beq_iff_eq, Bool.not_eq_true'] at ok
    obtain ⟨rfl, hn⟩ := nx _ ok
    exact z_s_ineg hd (hn _ _ _ _ h)
  · simp only [z_okS, Bool.and_eq_true, decide_eq_true_eq, beq_iff_eq, Bool.not_eq_true'] at ok
    obtain ⟨rfl, hn⟩ := nx _ ok
    exact z_s_ladd hd (hn _ _ _ _ h)
  · simp only [z_okS, Bool.and_eq_true, decide_eq_true_eq, beq_iff_eq, Bool.not_eq_true'] at ok
    obtain ⟨rfl, hn⟩ := nx _ ok
    exact z_s_lsub hd (hn _ _ _ _ h)
  · simp only [z_okS, Bool.and_eq_true, decide_eq_true_eq, beq_iff_eq, Bool.not_eq_true'] at ok
    obtain ⟨rfl, hn⟩ := nx _ ok
    exact z_s_lmul hd (hn _ _ _ _ h)
  · simp only [z_okS, Bool.and_eq_true, decide_eq_true_eq, beq_iff_eq, Bool.not_eq_true'] at ok
    obtain ⟨rfl, hn⟩ := nx _ ok
    exact z_s_ldiv h.1 hd (hn _ _ _ _ h.2)
  · simp only [z_okS, Bool.and_eq_true, decide_eq_true_eq, beq_iff_eq, Bool.not_eq_true'] at ok
    obtain ⟨rfl, hn⟩ := nx _ ok
    exact z_s_lcmp hd (hn _ _ _ _ h)
  · simp only [z_okS, Bool.and_eq_true, decide_eq_true_eq, beq_iff_eq, Bool.not_eq_true'] at ok
    obtain ⟨rfl, hn⟩ := nx _ ok
    exact z_s_i2l hd (hn _ _ _ _ h)
  · simp only [z_okS, Bool.and_eq_true, decide_eq_true_eq, beq_iff_eq, Bool.not_eq_true'] at ok
    obtain ⟨rfl, hn⟩ := nx _ ok
    exact z_s_l2i hd (hn _ _ _ _ h)
  · simp only [z_okS, Bool.and_eq_true, decide_eq_true_eq, beq_iff_eq, Bool.not_eq_true'] at ok
    obtain ⟨rfl, hn⟩ := nx _ ok
    exact z_s_dup (by intro x hh; cases hh) hd (hn _ _ _ _ h)
  · simp only [z_okS, Bool.and_eq_true, decide_eq_true_eq, beq_iff_eq, Bool.not_eq_true'] at ok
    obtain ⟨rfl, hn⟩ := nx _ ok
    exact z_s_dup (by intro x hh; cases hh) hd (hn _ _ _ _ h)
  · simp only [z_okS, Bool.and_eq_true, decide_eq_true_eq, beq_iff_eq, Bool.not_eq_true'] at ok
    obtain ⟨rfl, hn⟩ := nx _ ok
    exact z_s_dup2 (by intro x hh; cases hh) (by intro x hh; cases hh) hd (hn _ _ _ _ h)
  · simp only [z_okS, Bool.and_eq_true, decide_eq_true_eq, beq_iff_eq, Bool.not_eq_true'] at ok
    obtain ⟨rfl, hn⟩ := nx _ ok
    exact z_s_dup2 (by intro x hh; cases hh) (by intro x hh; cases hh) hd (hn _ _ _ _ h)
  · simp only [z_okS, Bool.and_eq_true, decide_eq_true_eq, beq_iff_eq, Bool.not_eq_true'] at ok
    obtain ⟨rfl, hn⟩ := nx _ ok
    exact z_s_pop (by intro x hh; cases hh) hd (hn _ _ _ _ h)
  · simp only [z_okS, Bool.and_eq_true, decide_eq_true_eq, beq_iff_eq, Bool.not_eq_true'] at ok
    obtain ⟨rfl, hn⟩ := nx _ ok
    exact z_s_pop (by intro x hh; cases hh) hd (hn _ _ _ _ h)
  · simp only [z_okS, Bool.and_eq_true, decide_eq_true_eq, beq_iff_eq, Bool.not_eq_true'] at ok
    obtain ⟨rfl, o2⟩ := ok
    obtain ⟨q, e1, hj⟩ := jp _ _ o2
    exact z_s_goto e1 hd (hj _ _ _ _ h)
  · simp only [z_okS, Bool.and_eq_true, decide_eq_true_eq, beq_iff_eq, Bool.not_eq_true'] at ok
    obtain ⟨o1, o2⟩ := ok
    obtain ⟨rfl, hn⟩ := nx _ o1
    obtain ⟨q, e1, hj⟩ := jp _ _ o2
    exact z_s_if_eq e1 hd (fun w => hj _ _ _ _ (h.1 w)) (fun w => hn _ _ _ _ (h.2 w))
  · simp only [z_okS, Bool.and_eq_true, decide_eq_true_eq, beq_iff_eq, Bool.not_eq_true'] at ok
    obtain ⟨o1, o2⟩ := ok
    obtain ⟨rfl, hn⟩ := nx _ o1
    obtain ⟨q, e1, hj⟩ := jp _ _ o2
    exact z_s_if_ne e1 hd (fun w => hj _ _ _ _ (h.1 w)) (fun w => hn _ _ _ _ (h.2 w))
  · simp only [z_okS, Bool.and_eq_true, decide_eq_true_eq, beq_iff_eq, Bool.not_eq_true'] at ok
    obtain ⟨o1, o2⟩ := ok
    obtain ⟨rfl, hn⟩ := nx _ o1
    obtain ⟨q, e1, hj⟩ := jp _ _ o2
    exact z_s_if_lt e1 hd (fun w => hj _ _ _ _ (h.1 w)) (fun w => hn _ _ _ _ (h.2 w))
  · simp only [z_okS, Bool.and_eq_true, decide_eq_true_eq, beq_iff_eq, Bool.not_eq_true'] at ok
    obtain ⟨o1, o2⟩ := ok
    obtain ⟨rfl, hn⟩ := nx _ o1
    obtain ⟨q, e1, hj⟩ := jp _ _ o2
    exact z_s_if_ge e1 hd (fun w => hj _ _ _ _ (h.1 w)) (fun w => hn _ _ _ _ (h.2 w))
  · simp only [z_okS, Bool.and_eq_true, decide_eq_true_eq, beq_iff_eq, Bool.not_eq_true'] at ok
    obtain ⟨o1, o2⟩ := ok
    obtain ⟨rfl, hn⟩ := nx _ o1
    obtain ⟨q, e1, hj⟩ := jp _ _ o2
    exact z_s_if_gt e1 hd (fun w => hj _ _ _ _ (h.1 w)) (fun w => hn _ _ _ _ (h.2 w))
  · simp only [z_okS, Bool.and_eq_true, decide_eq_true_eq, beq_iff_eq, Bool.not_eq_true'] at ok
    obtain ⟨o1, o2⟩ := ok
    obtain ⟨rfl, hn⟩ := nx _ o1
    obtain ⟨q, e1, hj⟩ := jp _ _ o2
    exact z_s_if_le e1 hd (fun w => hj _ _ _ _ (h.1 w)) (fun w => hn _ _ _ _ (h.2 w))
  · simp only [z_okS, Bool.and_eq_true, decide_eq_true_eq, beq_iff_eq, Bool.not_eq_true'] at ok
    obtain ⟨o1, o2⟩ := ok
    obtain ⟨rfl, hn⟩ := nx _ o1
    obtain ⟨q, e1, hj⟩ := jp _ _ o2
    exact z_s_icmp_eq e1 hd (fun w => hj _ _ _ _ (h.1 w)) (fun w => hn _ _ _ _ (h.2 w))
  · simp only [z_okS, Bool.and_eq_true, decide_eq_true_eq, beq_iff_eq, Bool.not_eq_true'] at ok
    obtain ⟨o1, o2⟩ := ok
    obtain ⟨rfl, hn⟩ := nx _ o1
    obtain ⟨q, e1, hj⟩ := jp _ _ o2
    exact z_s_icmp_ne e1 hd (fun w => hj _ _ _ _ (h.1 w)) (fun w => hn _ _ _ _ (h.2 w))
  · simp only [z_okS, Bool.and_eq_true, decide_eq_true_eq, beq_iff_eq, Bool.not_eq_true'] at ok
    obtain ⟨o1, o2⟩ := ok
    obtain ⟨rfl, hn⟩ := nx _ o1
    obtain ⟨q, e1, hj⟩ := jp _ _ o2
    exact z_s_icmp_lt e1 hd (fun w => hj _ _ _ _ (h.1 w)) (fun w => hn _ _ _ _ (h.2 w))
  · simp only [z_okS, Bool.and_eq_true, decide_eq_true_eq, beq_iff_eq, Bool.not_eq_true'] at ok
    obtain ⟨o1, o2⟩ := ok
    obtain ⟨rfl, hn⟩ := nx _ o1
    obtain ⟨q, e1, hj⟩ := jp _ _ o2
    exact z_s_icmp_ge e1 hd (fun w => hj _ _ _ _ (h.1 w)) (fun w => hn _ _ _ _ (h.2 w))
  · simp only [z_okS, Bool.and_eq_true, decide_eq_true_eq, beq_iff_eq, Bool.not_eq_true'] at ok
    obtain ⟨o1, o2⟩ := ok
    obtain ⟨rfl, hn⟩ := nx _ o1
    obtain ⟨q, e1, hj⟩ := jp _ _ o2
    exact z_s_icmp_gt e1 hd (fun w => hj _ _ _ _ (h.1 w)) (fun w => hn _ _ _ _ (h.2 w))
  · simp only [z_okS, Bool.and_eq_true, decide_eq_true_eq, beq_iff_eq, Bool.not_eq_true'] at ok
    obtain ⟨o1, o2⟩ := ok
    obtain ⟨rfl, hn⟩ := nx _ o1
    obtain ⟨q, e1, hj⟩ := jp _ _ o2
    exact z_s_icmp_le e1 hd (fun w => hj _ _ _ _ (h.1 w)) (fun w => hn _ _ _ _ (h.2 w))
  · simp only [z_okS, Bool.and_eq_true, decide_eq_true_eq, beq_iff_eq, Bool.not_eq_true'] at ok
    obtain ⟨o1, o2⟩ := ok
    obtain ⟨rfl, hn⟩ := nx _ o1
    obtain ⟨q, e1, hj⟩ := jp _ _ o2
    exact z_s_ifnull e1 hd (fun w => hj _ _ _ _ (h.1 w)) (fun w => hn _ _ _ _ (h.2 w))
  · simp only [z_okS, Bool.and_eq_true, decide_eq_true_eq, beq_iff_eq, Bool.not_eq_true'] at ok
    obtain ⟨o1, o2⟩ := ok
    obtain ⟨rfl, hn⟩ := nx _ o1
    obtain ⟨q, e1, hj⟩ := jp _ _ o2
    exact z_s_ifnonnull e1 hd (fun w => hj _ _ _ _ (h.1 w)) (fun w => hn _ _ _ _ (h.2 w))
  · simp only [z_okS, Bool.and_eq_true, decide_eq_true_eq, beq_iff_eq, Bool.not_eq_true'] at ok
    obtain ⟨o1, o2⟩ := ok
    obtain ⟨rfl, hn⟩ := nx _ o1
    obtain ⟨q, e1, hj⟩ := jp _ _ o2
    exact z_s_acmp_eq h.1.1 h.1.2 e1 hd (fun w => hj _ _ _ _ (h.2.1 w)) (fun w => hn _ _ _ _ (h.2.2 w))
  · simp only [z_okS, Bool.and_eq_true, decide_eq_true_eq, beq_iff_eq, Bool.not_eq_true'] at ok
    obtain ⟨o1, o2⟩ := ok
    obtain ⟨rfl, hn⟩ := nx _ o1
    obtain ⟨q, e1, hj⟩ := jp _ _ o2
    exact z_s_acmp_ne h.1.1 h.1.2 e1 hd (fun w => hj _ _ _ _ (h.2.1 w)) (fun w => hn _ _ _ _ (h.2.2 w))
  · simp only [z_okS, Bool.and_eq_true, decide_eq_true_eq, beq_iff_eq, Bool.not_eq_true'] at ok
    obtain ⟨⟨o1, o2⟩, o3⟩ := ok
    obtain ⟨w1, w2⟩ := z_tk_get _ _ o1
    rcases z_sw_tab _ _ h with ⟨k, t, q1, q2, q3⟩ | ⟨q1, q2⟩
    · obtain ⟨o, g1, g2⟩ := w2 k t q1
      obtain ⟨q, e1, hj⟩ := jp _ _ g2
      have hk := (List.getElem?_eq_some_iff.mp q1).1
      exact z_s_tabIn (by omega) (by omega) (by rw [q2, show (_ + (k : Int) - _ : Int).toNat = k by omega, ← Array.getElem?_toList]; exact g1) e1 hd (hj _ _ _ _ q3)
    · obtain ⟨q, e1, hj⟩ := jp _ _ o2
      exact z_s_tabOut (by omega) e1 hd (hj _ _ _ _ q2)
  · simp only [z_okS, Bool.and_eq_true, decide_eq_true_eq, beq_iff_eq, Bool.not_eq_true'] at ok
    obtain ⟨⟨o1, o2⟩, o3⟩ := ok
    obtain ⟨t, g1, g2⟩ := z_sw_lk _ _ o1 o2 h
    obtain ⟨q, e1, hj⟩ := jp _ _ g1
    exact z_s_look o3 rfl e1 hd (hj _ _ _ _ g2)
  · simp only [z_okS, Bool.and_eq_true, decide_eq_true_eq, beq_iff_eq, Bool.not_eq_true'] at ok
    obtain ⟨o1, o2⟩ := ok
    obtain ⟨q, g1, g2⟩ := z_cw_sp o2
    simp only [Bool.and_eq_true, decide_eq_true_eq] at g2
    obtain ⟨c1, c2⟩ := z_ck_sp h
    obtain ⟨rfl, hn⟩ := nx _ o1
    exact z_s_getf g1 g2.1 (z_in_gw g2.2) c1 hd (hn _ _ _ _ c2)
  · simp only [z_okS, Bool.and_eq_true, decide_eq_true_eq, beq_iff_eq, Bool.not_eq_true'] at ok
    obtain ⟨o1, o2⟩ := ok
    obtain ⟨q, g1, g2⟩ := z_cw_sp o2
    simp only [Bool.and_eq_true, decide_eq_true_eq] at g2
    obtain ⟨c1, c4⟩ := z_ck_sp h
    obtain ⟨rfl, hn⟩ := nx _ o1
    exact z_X_rg fun rr => (fun w => z_s_putf g1 g2.1.1 (z_in_gw g2.1.2) c1 w.1 w.2.1 g2.2 hd (hn _ _ _ _ w.2.2)) (z_fwk_sp (rr _ List.mem_cons_self) c4)
  · simp only [z_okS, Bool.and_eq_true, decide_eq_true_eq, beq_iff_eq, Bool.not_eq_true'] at ok
    obtain ⟨o1, o2⟩ := ok
    obtain ⟨c1, c2, c3⟩ := z_ck_sp h
    obtain ⟨rfl, hn⟩ := nx _ o1
    exact z_s_iald o2 rfl c1 c2.1 c2.2 hd (hn _ _ _ _ c3)
  · simp only [z_okS, Bool.and_eq_true, decide_eq_true_eq, beq_iff_eq, Bool.not_eq_true'] at ok
    obtain ⟨o1, o2⟩ := ok
    obtain ⟨c1, c2, c3⟩ := z_ck_sp h
    obtain ⟨rfl, hn⟩ := nx _ o1
    exact z_s_zald o2 rfl c1 c2.1 c2.2 hd (hn _ _ _ _ c3)
  · simp only [z_okS, Bool.and_eq_true, decide_eq_true_eq, beq_iff_eq, Bool.not_eq_true'] at ok
    obtain ⟨o1, o2⟩ := ok
    obtain ⟨c1, c2, c3⟩ := z_ck_sp h
    obtain ⟨rfl, hn⟩ := nx _ o1
    exact z_s_aald rfl o2 rfl c1 c2.1 c2.2 hd (hn _ _ _ _ c3)
  · simp only [z_okS, Bool.and_eq_true, decide_eq_true_eq, beq_iff_eq, Bool.not_eq_true'] at ok
    obtain ⟨o1, o2⟩ := ok
    obtain ⟨c1, c2⟩ := z_ck_sp h
    obtain ⟨rfl, hn⟩ := nx _ o1
    exact z_s_alen rfl o2 rfl c1 hd (hn _ _ _ _ c2)
  · simp only [z_okS, Bool.and_eq_true, decide_eq_true_eq, beq_iff_eq, Bool.not_eq_true'] at ok
    obtain ⟨o1, o2⟩ := ok
    obtain ⟨c1, c2, c3⟩ := z_ck_sp h
    obtain ⟨rfl, hn⟩ := nx _ o1
    exact z_s_iast o2 rfl c1 c2.1 c2.2 hd (hn _ _ _ _ c3)
  · simp only [z_okS, Bool.and_eq_true, decide_eq_true_eq, beq_iff_eq, Bool.not_eq_true'] at ok
    obtain ⟨o1, o2⟩ := ok
    obtain ⟨c1, c2, c3, c4⟩ := z_ck_sp h
    obtain ⟨rfl, hn⟩ := nx _ o1
    exact z_s_zast o2 rfl c1 c2.1 c2.2 c3 hd (hn _ _ _ _ c4)
  · simp only [z_okS, Bool.and_eq_true, decide_eq_true_eq, beq_iff_eq, Bool.not_eq_true'] at ok
    obtain ⟨⟨o1, o2⟩, o3⟩ := ok
    obtain ⟨q, g1, g2⟩ := z_cw_sp o3
    obtain ⟨c1, c2, c3, c4, c5⟩ := z_ck_sp h
    simp only [Bool.and_eq_true, Bool.or_eq_true, Bool.not_eq_true', beq_iff_eq] at c1
    obtain ⟨rfl, hn⟩ := nx _ o1
    exact z_s_aast rfl o2 c1.2 rfl c1.1 c2.1 c2.2 g1 (of_decide_eq_true g2) c3 c4 hd (hn _ _ _ _ c5)
  · simp only [z_okS, Bool.and_eq_true, decide_eq_true_eq, beq_iff_eq, Bool.not_eq_true'] at ok
    obtain ⟨o1, o2⟩ := ok
    obtain ⟨rfl, c1⟩ := h
    obtain ⟨c1, c2⟩ := z_ck_sp c1
    simp only [Bool.and_eq_true, Bool.not_eq_true', beq_iff_eq, Nat.ble_eq] at c1
    obtain ⟨rfl, hn⟩ := nx _ o1
    exact z_s_newi c1.1.1.1 c1.2 c1.1.1.2 c1.1.2 (z_in_gw o2) hd (hn _ _ _ _ c2)
  · simp only [z_okS, Bool.and_eq_true, decide_eq_true_eq, beq_iff_eq, Bool.not_eq_true'] at ok
    obtain ⟨o1, o2⟩ := ok
    obtain ⟨rfl, c1⟩ := h
    obtain ⟨c1, c2⟩ := z_ck_sp c1
    simp only [Bool.and_eq_true, Bool.not_eq_true', beq_iff_eq, Nat.ble_eq] at c1
    obtain ⟨rfl, hn⟩ := nx _ o1
    exact z_s_newz c1.1.1.1 c1.2 c1.1.1.2 c1.1.2 (z_in_gw o2) hd (hn _ _ _ _ c2)
  · simp only [z_okS, Bool.and_eq_true, decide_eq_true_eq, beq_iff_eq, Bool.not_eq_true'] at ok
    obtain ⟨⟨o1, o2⟩, o3⟩ := ok
    obtain ⟨rfl, c1⟩ := h
    obtain ⟨c1, c2⟩ := z_ck_sp c1
    simp only [Bool.and_eq_true, Bool.not_eq_true', beq_iff_eq, Nat.ble_eq] at c1
    obtain ⟨rfl, hn⟩ := nx _ o1
    exact z_s_newq o2 c1.2 c1.1.1.2 c1.1.1.1 c1.1.2 (z_in_gw o3) hd (hn _ _ _ _ c2)
  · simp only [z_okS, Bool.and_eq_true, decide_eq_true_eq, beq_iff_eq, Bool.not_eq_true'] at ok
    obtain ⟨o1, o2⟩ := ok
    obtain ⟨q, g1, g2⟩ := z_cw_sp o2
    simp only [Bool.and_eq_true] at g2
    obtain ⟨c1, c2⟩ := z_ck_sp h
    simp only [Bool.and_eq_true, Bool.not_eq_true', beq_iff_eq, Nat.ble_eq] at c1
    obtain ⟨rfl, hn⟩ := nx _ o1
    exact z_s_new g1 c1.1.2 c1.1.1 c1.2 (z_in_gw g2.1.1) (z_in_gw g2.1.2) (z_in_gw g2.2) hd (hn _ _ _ _ c2)
  · simp only [z_okS, Bool.and_eq_true, decide_eq_true_eq, beq_iff_eq, Bool.not_eq_true'] at ok
    obtain ⟨⟨⟨⟨o1, o2, o2k⟩, o3⟩, o4⟩, o5⟩ := ok
    subst o2k
    obtain ⟨o2h, rfl, rfl, rfl⟩ := z_cl4_sp o2
    split at h
    · next b asx stx hpop =>
      obtain ⟨c1, c2⟩ := z_ck_sp h
      obtain ⟨e2, e3, b1, b2, b3⟩ := z_call_sp hpop c2
      obtain ⟨rfl, hn⟩ := nx _ o1
      rw [e2, List.reverse_cons, List.append_assoc]
      exact z_s_callV o2h o3 (by simpa using e3) b1 c1 (z_in_gw o4) (z_in_gw o5) b2 hd (z_Y_mono (fun v σ1 w => hn _ _ _ _ w) b3)
    · exact absurd h id
  · simp only [z_okS, Bool.and_eq_true, decide_eq_true_eq, beq_iff_eq, Bool.not_eq_true'] at ok
    obtain ⟨⟨⟨⟨⟨⟨o1, o2⟩, o3⟩, o4⟩, o5⟩, o6⟩, o7⟩ := ok
    obtain ⟨c1, ⟨c2, c3, c4, c5, c6, c7⟩, c8, c9⟩ := z_ck_sp h
    simp only [Bool.and_eq_true, Nat.ble_eq, Bool.or_eq_true, beq_iff_eq] at c1 o3
    obtain ⟨rfl, hn⟩ := nx _ o1
    rcases o3 with o3 | o3
    · exact z_s_copy c1.1.1.1 o3 rfl (o2.symm.trans o3) rfl c1.1.1.2 c1.1.2 c3 c4 c5 c6 c7 c1.2 (z_in_gw o4) (z_in_gw o5) (z_in_gw o6) (z_in_gw o7) c2 hd (hn _ _ _ _ c9)
    · exact z_s_copyz c1.1.1.1 o3 rfl (o2.symm.trans o3) rfl c1.1.1.2 c1.1.2 c3 c4 c5 c6 c7 c1.2 (z_in_gw o4) (z_in_gw o5) (z_in_gw o6) (z_in_gw o7) c2 hd (c8 o3) (hn _ _ _ _ c9)
  · simp only [z_okS, Bool.and_eq_true, decide_eq_true_eq, beq_iff_eq, Bool.not_eq_true'] at ok
    obtain ⟨⟨⟨⟨o1, o2⟩, o3⟩, o4⟩, o5⟩ := ok
    obtain ⟨c1, c2, c3⟩ := z_ck_sp h
    rw [Nat.ble_eq] at c1
    obtain ⟨rfl, hn⟩ := nx _ o1
    exact z_s_abs c1 (z_in_gw o2) (z_in_gw o3) (z_in_gw o4) (z_in_gw o5) c2 hd (hn _ _ _ _ c3)
  · simp only [z_okS, Bool.and_eq_true, decide_eq_true_eq, beq_iff_eq, Bool.not_eq_true'] at ok
    obtain ⟨⟨⟨o1, o2⟩, o3⟩, o4⟩ := ok
    obtain ⟨o2h, rfl, rfl, rfl⟩ := z_cl4_sp o2
    split at h
    · next as st' hpop =>
      obtain ⟨e2, e3, b1, b2, b3⟩ := z_call_sp hpop h
      obtain ⟨rfl, hn⟩ := nx _ o1
      rw [e2]
      exact z_s_callSN o2h o3 (by simpa using e3) b1 o4 b2 hd (z_Y_mono (fun v σ1 w => hn _ _ _ _ w) b3)
    · exact absurd h id
  · simp only [z_okS, Bool.and_eq_true, decide_eq_true_eq, beq_iff_eq, Bool.not_eq_true'] at ok
    obtain ⟨⟨⟨⟨o1, o2⟩, o3⟩, o4⟩, o5⟩ := ok
    obtain ⟨o2h, rfl, rfl, rfl⟩ := z_cl4_sp o2
    split at h
    · next as st' hpop =>
      obtain ⟨e2, e3, b1, b2, b3⟩ := z_call_sp hpop h
      obtain ⟨rfl, hn⟩ := nx _ o1
      rw [e2]
      exact z_s_callS o2h o3 (by simpa using e3) b1 o4 (z_in_gw o5) b2 hd (z_Y_mono (fun v σ1 w => hn _ _ _ _ w) b3)
    · exact absurd h id
  · simp only [z_okS, Bool.and_eq_true, decide_eq_true_eq, beq_iff_eq, Bool.not_eq_true'] at ok
    obtain ⟨⟨⟨o1, o2⟩, o3⟩, o4⟩ := ok
    obtain ⟨c1, c2, c3, c4⟩ := z_ck_sp h
    rw [Nat.ble_eq] at c1
    obtain ⟨rfl, hn⟩ := nx _ o1
    exact z_s_obj c3 c1 (z_in_gw o2) (z_in_gw o3) (z_in_gw o4) c2 hd (hn _ _ _ _ c4)
  · simp only [z_okS, Bool.and_eq_true, decide_eq_true_eq, beq_iff_eq, Bool.not_eq_true'] at ok
    obtain ⟨⟨⟨⟨⟨o1, o2⟩, o3⟩, o4⟩, o5⟩, o6⟩ := ok
    obtain ⟨o2h, rfl, rfl, rfl⟩ := z_cl4_sp o2
    split at h
    · next b asx stx hpop =>
      obtain ⟨c1, c2⟩ := h
      obtain ⟨e2, e3, b1, b2, b3⟩ := z_call_sp hpop c2
      obtain ⟨rfl, hn⟩ := nx _ o1
      rw [e2, List.reverse_cons, List.append_assoc]
      exact z_s_callIN o2h o3 o4 o5 (by simpa using e3) b1 c1 o6 b2 hd (z_Y_mono (fun v σ1 w => hn _ _ _ _ w) b3)
    · exact absurd h id
  · simp only [z_okS, Bool.and_eq_true, decide_eq_true_eq, beq_iff_eq, Bool.not_eq_true'] at ok
    obtain ⟨⟨⟨⟨⟨o1, o2⟩, o3⟩, o4⟩, o5⟩, o6⟩ := ok
    obtain ⟨o2h, rfl, rfl, rfl⟩ := z_cl4_sp o2
    split at h
    · next b asx stx hpop =>
      obtain ⟨c1, c2⟩ := h
      obtain ⟨e2, e3, b1, b2, b3⟩ := z_call_sp hpop c2
      obtain ⟨rfl, hn⟩ := nx _ o1
      rw [e2, List.reverse_cons, List.append_assoc]
      exact z_s_callI o2h o3 o4 o5 (by simpa using e3) b1 c1 (z_in_gw o6) b2 hd (z_Y_mono (fun v σ1 w => hn _ _ _ _ w) b3)
    · exact absurd h id
  · simp only [z_okS, Bool.and_eq_true, decide_eq_true_eq, beq_iff_eq, Bool.not_eq_true'] at ok
    obtain ⟨rfl, o2⟩ := ok
    obtain ⟨c1, c2⟩ := z_ck_sp h
    exact z_s_ret (by simpa using c1) o2 hd c2
  · simp only [z_okS, Bool.and_eq_true, decide_eq_true_eq, beq_iff_eq, Bool.not_eq_true'] at ok
    obtain ⟨rfl, o2⟩ := ok
    obtain ⟨c1, c2⟩ := z_ck_sp h
    exact z_s_iret (by simpa using c1) o2 hd c2
  · simp only [z_okS, Bool.and_eq_true, decide_eq_true_eq, beq_iff_eq, Bool.not_eq_true'] at ok
    obtain ⟨rfl, o2⟩ := ok
    obtain ⟨c1, c2⟩ := z_ck_sp h
    obtain ⟨c3, c4⟩ := z_ck_sp c2
    exact z_s_zret (by simpa using c1) (by simpa using c3) o2 hd c4
  · simp only [z_okS, Bool.and_eq_true, decide_eq_true_eq, beq_iff_eq, Bool.not_eq_true'] at ok
    obtain ⟨rfl, o2⟩ := ok
    obtain ⟨c1, c2⟩ := z_ck_sp h
    exact z_s_lret (by simpa using c1) o2 hd c2
  · simp only [z_okS, Bool.and_eq_true, decide_eq_true_eq, beq_iff_eq, Bool.not_eq_true'] at ok
    obtain ⟨rfl, o2⟩ := ok
    obtain ⟨c1, c2⟩ := z_ck_sp h
    obtain ⟨n, hnn⟩ := z_isO_sp o2
    exact z_s_aret (by simpa using c1) hnn hd c2
  · exact absurd h id
theorem z_msk_mem : ∀ (bs : List Bool) (ls : List (Option z_V)) (k : Nat) (v : z_V), (z_msk bs ls)[k]? = some (some v) → ls[k]? = some (some v)
  | _, [], k, v, h => by cases ‹List Bool› <;> simp [z_msk] at h
  | [], a :: l, k, v, h => h
  | b :: bs, a :: l, 0, v, h => by cases b <;> simp [z_msk] at h ⊢; exact h
  | b :: bs, a :: l, k + 1, v, h => by
    simp only [z_msk, List.getElem?_cons_succ] at h ⊢
    exact z_msk_mem bs l k v h
theorem z_X_msk {pc : Nat} {bs : List Bool} {ls : List (Option z_V)} {st : List z_V} {N : Nat} {σ : z_M} (h : z_X e ph d y Ni No pc (z_msk bs ls) st N σ Q) : z_X e ph d y Ni No pc ls st N σ Q := by
  intro r1 r2 r3 p env s m args below meth c H locs la C R h1 h2 hl
  refine h (fun v hv => ?_) r2 r3 p env s m args below meth c H locs la C R h1 h2 (z_has_sub hl fun q hq => ?_)
  · obtain ⟨k, hk⟩ := List.getElem?_of_mem hv
    exact r1 v (List.mem_of_getElem? (z_msk_mem bs ls k v hk))
  · obtain ⟨j, w⟩ := q
    obtain ⟨k, v, g1, g2, g3⟩ := (z_en_mem e _ 0 j w).mp hq
    exact (z_en_mem e _ 0 j w).mpr ⟨k, v, g1, z_msk_mem bs ls k v g2, g3⟩
theorem z_wp_ok (hok : z_okM y full = true) : ∀ k, z_Xr e ph d y Ni No Q full (z_wp e ph d y Ni No Q full k) := by
  have hL : z_okL y full 0 full = true := by
    simp only [z_okM, Bool.and_eq_true] at hok; exact hok.1
  intro k
  induction k with
  | zero =>
    intro j r ls st N σ hr h p hp
    unfold z_wp at h
    unfold z_pcAt at hp
    rw [← hr] at hp
    split at h
    · next i r' => cases hp; exact h
    · exact absurd h id
  | succ k ih =>
    intro j r ls st N σ hr h p hp
    unfold z_wp at h
    unfold z_pcAt at hp
    rw [← hr] at hp
    split at h
    · next i r' =>
      cases hp
      obtain ⟨g1, g2⟩ := z_okL_get full 0 j i r' hL hr.symm
      split at h
      · exact z_X_msk h
      · refine z_step_ok g2 ?_ ih h
        rw [g1, Nat.zero_add, ← List.drop_drop, ← hr]; rfl
    · exact absurd h id
/-- a piece of code from a place on, by its weakest precondition -/
theorem z_blk (hok : z_okM y full = true) (k ix : Nat) {p : Nat} {ls : List (Option z_V)} {st : List z_V} {N : Nat} {σ : z_M} (hp : z_pcAt full ix = some p) (h : z_w1 e ph d y Ni No Q full k ix ls st N σ) : z_X e ph d y Ni No p ls st N σ Q := by
  have hL : z_okL y full 0 full = true := by
    simp only [z_okM, Bool.and_eq_true] at hok; exact hok.1
  unfold z_w1 at h
  unfold z_pcAt at hp
  split at h
  · next i r hr =>
    rw [hr] at hp
    cases hp
    obtain ⟨g1, g2⟩ := z_okL_get full 0 ix i r hL hr
    refine z_step_ok g2 ?_ (z_wp_ok hok k) h
    rw [g1, Nat.zero_add, ← List.drop_drop, hr]; rfl
  · exact absurd h id
theorem z_ent (hok : z_okM y full = true) {ml : Nat} (hml : (z_hd y).2.2.1 = ml) {N N' : Nat} {args : List z_V} {σ : z_M} (hc : Nat.ble (z_cat args) ml = true) (hN : N ≤ N') (h : z_X e ph d y N N' 0 (z_al ml args) [] N σ Q) : z_Y e ph (d + 1) y args N N' σ Q := by
  subst hml
  simp only [z_okM, Bool.and_eq_true] at hok
  exact z_Y_of hok.2 (Nat.ble_eq.mp hc) hN h
end ZT
end
section
/-! code tables: printed by program (wip/whole/gen/code.py) -/
def c_F_init : List z_In := [
  (0, 0, false, [], .aload_n 0, 1, [], []),
  (1, 1, false, [], .invokespecial 3, 3, [], [273, 92, 93]),
  (2, 4, false, [], .aload_n 0, 1, [], []),
  (3, 5, false, [], .bipush 25, 2, [], []),
  (4, 7, false, [], .newarray .int, 2, [25], [122]),
  (5, 9, false, [], .putfield 9, 3, [0, 0], [274]),
  (6, 12, false, [], .aload_n 0, 1, [], []),
  (7, 13, false, [], .bipush 19, 2, [], []),
  (8, 15, false, [], .newarray .int, 2, [19], [122]),
  (9, 17, false, [], .putfield 15, 3, [0, 1], [276]),
  (10, 20, false, [], .return_, 1, [], [])]
theorem l_F_init : (z_hd m_F_init).2.2.1 = 1 := by decide +kernel
theorem k_F_init : z_okM m_F_init c_F_init = true := by decide +kernel
def c_F_begin : List z_In := [
  (0, 0, false, [], .aload_n 0, 1, [], []),
  (1, 1, false, [], .iload_n 1, 1, [], []),
  (2, 2, false, [], .putfield 18, 3, [0, 5], [286]),
  (3, 5, false, [], .aload_n 0, 1, [], []),
  (4, 6, false, [], .iconst 0, 1, [], []),
  (5, 7, false, [], .putfield 22, 3, [0, 6], [288]),
  (6, 10, false, [], .aload_n 0, 1, [], []),
  (7, 11, false, [], .iconst 1, 1, [], []),
  (8, 12, false, [], .bipush 12, 2, [], []),
  (9, 14, false, [], .aload_n 0, 1, [], []),
  (10, 15, false, [], .getfield 25, 3, [0, 3], [280]),
  (11, 18, false, [], .bipush 101, 2, [], []),
  (12, 20, false, [], .idiv, 1, [], []),
  (13, 21, false, [], .iadd, 1, [], []),
  (14, 22, false, [], .ishl, 1, [], []),
  (15, 23, false, [], .putfield 28, 3, [0, 7], [290]),
  (16, 26, false, [], .aload_n 0, 1, [], []),
  (17, 27, false, [], .iconst 0, 1, [], []),
  (18, 28, false, [], .putfield 31, 3, [0, 8], [294]),
  (19, 31, false, [], .aload_n 0, 1, [], []),
  (20, 32, false, [], .iconst 0, 1, [], []),
  (21, 33, false, [], .putfield 34, 3, [0, 9], [296]),
  (22, 36, false, [], .return_, 1, [], [])]
theorem l_F_begin : (z_hd m_F_begin).2.2.1 = 2 := by decide +kernel
theorem k_F_begin : z_okM m_F_begin c_F_begin = true := by decide +kernel
def c_F_hasText : List z_In := [
  (0, 0, false, [], .aload_n 0, 1, [], []),
  (1, 1, false, [], .getfield 37, 3, [0, 2], [277]),
  (2, 4, false, [], .ifnull 17, 3, [9], []),
  (3, 7, false, [], .aload_n 0, 1, [], []),
  (4, 8, false, [], .getfield 37, 3, [0, 2], [277]),
  (5, 11, false, [], .invokevirtual 41, 3, [58, 0, 1, 0, 6], [673, 524]),
  (6, 14, false, [], .ifCond .eq 7, 3, [9], []),
  (7, 17, false, [], .iconst 1, 1, [], []),
  (8, 18, false, [], .goto 4, 3, [10], []),
  (9, 21, false, [], .iconst 0, 1, [], []),
  (10, 22, false, [], .ireturn, 1, [1], [])]
theorem l_F_hasText : (z_hd m_F_hasText).2.2.1 = 1 := by decide +kernel
theorem k_F_hasText : z_okM m_F_hasText c_F_hasText = true := by decide +kernel
def c_F_argument : List z_In := [
  (0, 0, false, [], .aload_n 0, 1, [], []),
  (1, 1, false, [], .getfield 25, 3, [0, 3], [280]),
  (2, 4, false, [], .bipush 101, 2, [], []),
  (3, 6, false, [], .irem, 1, [], []),
  (4, 7, false, [], .bipush 50, 2, [], []),
  (5, 9, false, [], .isub, 1, [], []),
  (6, 10, false, [], .ireturn, 1, [0], [])]
theorem l_F_argument : (z_hd m_F_argument).2.2.1 = 1 := by decide +kernel
theorem k_F_argument : z_okM m_F_argument c_F_argument = true := by decide +kernel
def c_F_fetch : List z_In := [
  (0, 0, false, [], .aload_n 0, 1, [], []),
  (1, 1, false, [], .getfield 37, 3, [0, 2], [277]),
  (2, 4, false, [], .ifnull 24, 3, [12], []),
  (3, 7, false, [], .aload_n 0, 1, [], []),
  (4, 8, false, [], .getfield 22, 3, [0, 6], [288]),
  (5, 11, false, [], .ifCond .lt 17, 3, [12], []),
  (6, 14, false, [], .aload_n 0, 1, [], []),
  (7, 15, false, [], .getfield 22, 3, [0, 6], [288]),
  (8, 18, false, [], .aload_n 0, 1, [], []),
  (9, 19, false, [], .getfield 37, 3, [0, 2], [277]),
  (10, 22, false, [], .getfield 47, 3, [5, 1], [111]),
  (11, 25, false, [], .if_icmp .lt 5, 3, [14], []),
  (12, 28, false, [], .iconst 0, 1, [], []),
  (13, 29, false, [], .ireturn, 1, [0], []),
  (14, 30, false, [], .aload_n 0, 1, [], []),
  (15, 31, false, [], .getfield 37, 3, [0, 2], [277]),
  (16, 34, false, [], .getfield 50, 3, [5, 0], [109]),
  (17, 37, false, [], .aload_n 0, 1, [], []),
  (18, 38, false, [], .getfield 22, 3, [0, 6], [288]),
  (19, 41, false, [], .iaload, 1, [100100], []),
  (20, 42, false, [], .istore_n 1, 1, [], []),
  (21, 43, false, [], .aload_n 0, 1, [], []),
  (22, 44, false, [], .dup, 1, [], []),
  (23, 45, false, [], .getfield 22, 3, [0, 6], [288]),
  (24, 48, false, [], .iconst 1, 1, [], []),
  (25, 49, false, [], .iadd, 1, [], []),
  (26, 50, false, [], .putfield 22, 3, [0, 6], [288]),
  (27, 53, false, [], .iload_n 1, 1, [], []),
  (28, 54, false, [], .ireturn, 1, [0], [])]
theorem l_F_fetch : (z_hd m_F_fetch).2.2.1 = 2 := by decide +kernel
theorem k_F_fetch : z_okM m_F_fetch c_F_fetch = true := by decide +kernel
def c_F_push : List z_In := [
  (0, 0, false, [], .aload_n 0, 1, [], []),
  (1, 1, false, [], .getfield 34, 3, [0, 9], [296]),
  (2, 4, false, [], .bipush 19, 2, [], []),
  (3, 6, false, [], .if_icmp .ge 23, 3, [16], []),
  (4, 9, false, [], .aload_n 0, 1, [], []),
  (5, 10, false, [], .getfield 15, 3, [0, 1], [276]),
  (6, 13, false, [], .aload_n 0, 1, [], []),
  (7, 14, false, [], .getfield 34, 3, [0, 9], [296]),
  (8, 17, false, [], .iload_n 1, 1, [], []),
  (9, 18, false, [], .iastore, 1, [100019], []),
  (10, 19, false, [], .aload_n 0, 1, [], []),
  (11, 20, false, [], .dup, 1, [], []),
  (12, 21, false, [], .getfield 34, 3, [0, 9], [296]),
  (13, 24, false, [], .iconst 1, 1, [], []),
  (14, 25, false, [], .iadd, 1, [], []),
  (15, 26, false, [], .putfield 34, 3, [0, 9], [296]),
  (16, 29, false, [], .return_, 1, [], [])]
theorem l_F_push : (z_hd m_F_push).2.2.1 = 2 := by decide +kernel
theorem k_F_push : z_okM m_F_push c_F_push = true := by decide +kernel
def c_F_pop : List z_In := [
  (0, 0, false, [], .aload_n 0, 1, [], []),
  (1, 1, false, [], .getfield 34, 3, [0, 9], [296]),
  (2, 4, false, [], .ifCond .gt 5, 3, [5], []),
  (3, 7, false, [], .iconst 0, 1, [], []),
  (4, 8, false, [], .ireturn, 1, [0], []),
  (5, 9, false, [], .aload_n 0, 1, [], []),
  (6, 10, false, [], .dup, 1, [], []),
  (7, 11, false, [], .getfield 34, 3, [0, 9], [296]),
  (8, 14, false, [], .iconst 1, 1, [], []),
  (9, 15, false, [], .isub, 1, [], []),
  (10, 16, false, [], .putfield 34, 3, [0, 9], [296]),
  (11, 19, false, [], .aload_n 0, 1, [], []),
  (12, 20, false, [], .getfield 15, 3, [0, 1], [276]),
  (13, 23, false, [], .aload_n 0, 1, [], []),
  (14, 24, false, [], .getfield 34, 3, [0, 9], [296]),
  (15, 27, false, [], .iaload, 1, [100019], []),
  (16, 28, false, [], .ireturn, 1, [0], [])]
theorem l_F_pop : (z_hd m_F_pop).2.2.1 = 1 := by decide +kernel
theorem k_F_pop : z_okM m_F_pop c_F_pop = true := by decide +kernel
def c_F_value : List z_In := [
  (0, 0, false, [], .aload_n 0, 1, [], []),
  (1, 1, false, [], .getfield 34, 3, [0, 9], [296]),
  (2, 4, false, [], .ifCond .le 17, 3, [11], []),
  (3, 7, false, [], .aload_n 0, 1, [], []),
  (4, 8, false, [], .getfield 15, 3, [0, 1], [276]),
  (5, 11, false, [], .aload_n 0, 1, [], []),
  (6, 12, false, [], .getfield 34, 3, [0, 9], [296]),
  (7, 15, false, [], .iconst 1, 1, [], []),
  (8, 16, false, [], .isub, 1, [], []),
  (9, 17, false, [], .iaload, 1, [100019], []),
  (10, 18, false, [], .goto 4, 3, [12], []),
  (11, 21, false, [], .iconst 0, 1, [], []),
  (12, 22, false, [], .ireturn, 1, [0], [])]
theorem l_F_value : (z_hd m_F_value).2.2.1 = 1 := by decide +kernel
theorem k_F_value : z_okM m_F_value c_F_value = true := by decide +kernel
def c_F_take : List z_In := [
  (0, 0, false, [], .aload_n 0, 1, [], []),
  (1, 1, false, [], .iload_n 2, 1, [], []),
  (2, 2, false, [], .invokevirtual 53, 3, [5, 1, 0, 0, 1], [584, 586]),
  (3, 5, false, [], .aload_n 0, 1, [], []),
  (4, 6, false, [], .dup, 1, [], []),
  (5, 7, false, [], .getfield 28, 3, [0, 7], [290]),
  (6, 10, false, [], .iload_n 3, 1, [], []),
  (7, 11, false, [], .ior, 1, [], []),
  (8, 12, false, [], .putfield 28, 3, [0, 7], [290]),
  (9, 15, false, [], .iconst 0, 1, [], []),
  (10, 16, false, [], .istore 4, 2, [], []),
  (11, 18, true, [true, true, false, false, true], .iload 4, 2, [], []),
  (12, 20, false, [], .aload_n 0, 1, [], []),
  (13, 21, false, [], .getfield 31, 3, [0, 8], [294]),
  (14, 24, false, [], .if_icmp .ge 21, 3, [24], []),
  (15, 27, false, [], .aload_n 0, 1, [], []),
  (16, 28, false, [], .getfield 9, 3, [0, 0], [274]),
  (17, 31, false, [], .iload 4, 2, [], []),
  (18, 33, false, [], .iaload, 1, [100025], []),
  (19, 34, false, [], .iload_n 1, 1, [], []),
  (20, 35, false, [], .if_icmp .ne 4, 3, [22], []),
  (21, 38, false, [], .return_, 1, [], []),
  (22, 39, false, [], .iinc 4 1, 3, [], []),
  (23, 42, false, [], .goto (-24), 3, [11], []),
  (24, 45, false, [], .aload_n 0, 1, [], []),
  (25, 46, false, [], .getfield 31, 3, [0, 8], [294]),
  (26, 49, false, [], .bipush 25, 2, [], []),
  (27, 51, false, [], .if_icmp .ge 23, 3, [40], []),
  (28, 54, false, [], .aload_n 0, 1, [], []),
  (29, 55, false, [], .getfield 9, 3, [0, 0], [274]),
  (30, 58, false, [], .aload_n 0, 1, [], []),
  (31, 59, false, [], .getfield 31, 3, [0, 8], [294]),
  (32, 62, false, [], .iload_n 1, 1, [], []),
  (33, 63, false, [], .iastore, 1, [100025], []),
  (34, 64, false, [], .aload_n 0, 1, [], []),
  (35, 65, false, [], .dup, 1, [], []),
  (36, 66, false, [], .getfield 31, 3, [0, 8], [294]),
  (37, 69, false, [], .iconst 1, 1, [], []),
  (38, 70, false, [], .iadd, 1, [], []),
  (39, 71, false, [], .putfield 31, 3, [0, 8], [294]),
  (40, 74, false, [], .return_, 1, [], [])]
theorem l_F_take : (z_hd m_F_take).2.2.1 = 5 := by decide +kernel
theorem k_F_take : z_okM m_F_take c_F_take = true := by decide +kernel
def c_F_isWorkedOut : List z_In := [
  (0, 0, false, [], .aload_n 0, 1, [], []),
  (1, 1, false, [], .invokevirtual 57, 3, [2, 0, 1, 0, 1], [669, 671]),
  (2, 4, false, [], .ifCond .ne 5, 3, [5], []),
  (3, 7, false, [], .iconst 0, 1, [], []),
  (4, 8, false, [], .ireturn, 1, [1], []),
  (5, 9, false, [], .iconst 0, 1, [], []),
  (6, 10, false, [], .istore_n 1, 1, [], []),
  (7, 11, true, [true, true], .iload_n 1, 1, [], []),
  (8, 12, false, [], .bipush 100, 2, [], []),
  (9, 14, false, [], .if_icmp .ge 70, 3, [43], []),
  (10, 17, false, [], .aload_n 0, 1, [], []),
  (11, 18, false, [], .getfield 22, 3, [0, 6], [288]),
  (12, 21, false, [], .ifCond .lt 63, 3, [43], []),
  (13, 24, false, [], .aload_n 0, 1, [], []),
  (14, 25, false, [], .getfield 22, 3, [0, 6], [288]),
  (15, 28, false, [], .aload_n 0, 1, [], []),
  (16, 29, false, [], .getfield 37, 3, [0, 2], [277]),
  (17, 32, false, [], .getfield 47, 3, [5, 1], [111]),
  (18, 35, false, [], .if_icmp .ge 49, 3, [43], []),
  (19, 38, false, [], .aload_n 0, 1, [], []),
  (20, 39, false, [], .getfield 37, 3, [0, 2], [277]),
  (21, 42, false, [], .getfield 50, 3, [5, 0], [109]),
  (22, 45, false, [], .aload_n 0, 1, [], []),
  (23, 46, false, [], .getfield 22, 3, [0, 6], [288]),
  (24, 49, false, [], .iaload, 1, [100100], []),
  (25, 50, false, [], .bipush 15, 2, [], []),
  (26, 52, false, [], .iand, 1, [], []),
  (27, 53, false, [], .bipush 6, 2, [], []),
  (28, 55, false, [], .if_icmp .eq 5, 3, [31], []),
  (29, 58, false, [], .iconst 0, 1, [], []),
  (30, 59, false, [], .ireturn, 1, [1], []),
  (31, 60, false, [], .aload_n 0, 1, [], []),
  (32, 61, false, [], .aload_n 0, 1, [], []),
  (33, 62, false, [], .getfield 37, 3, [0, 2], [277]),
  (34, 65, false, [], .getfield 50, 3, [5, 0], [109]),
  (35, 68, false, [], .aload_n 0, 1, [], []),
  (36, 69, false, [], .getfield 22, 3, [0, 6], [288]),
  (37, 72, false, [], .iaload, 1, [100100], []),
  (38, 73, false, [], .iconst 4, 1, [], []),
  (39, 74, false, [], .ishr, 1, [], []),
  (40, 75, false, [], .putfield 22, 3, [0, 6], [288]),
  (41, 78, false, [], .iinc 1 1, 3, [], []),
  (42, 81, false, [], .goto (-70), 3, [7], []),
  (43, 84, false, [], .iconst 1, 1, [], []),
  (44, 85, false, [], .ireturn, 1, [1], [])]
theorem l_F_isWorkedOut : (z_hd m_F_isWorkedOut).2.2.1 = 2 := by decide +kernel
theorem k_F_isWorkedOut : z_okM m_F_isWorkedOut c_F_isWorkedOut = true := by decide +kernel
def c_K_init : List z_In := [
  (0, 0, false, [], .aload_n 0, 1, [], []),
  (1, 1, false, [], .invokespecial 3, 3, [], [157, 92, 93]),
  (2, 4, false, [], .aload_n 0, 1, [], []),
  (3, 5, false, [], .bipush 25, 2, [], []),
  (4, 7, false, [], .newarray .int, 2, [25], [122]),
  (5, 9, false, [], .putfield 9, 3, [1, 0], [158]),
  (6, 12, false, [], .return_, 1, [], [])]
theorem l_K_init : (z_hd m_K_init).2.2.1 = 1 := by decide +kernel
theorem k_K_init : z_okM m_K_init c_K_init = true := by decide +kernel
def c_K_fill : List z_In := [
  (0, 0, false, [], .aload_n 0, 1, [], []),
  (1, 1, false, [], .aload_n 1, 1, [], []),
  (2, 2, false, [], .getfield 15, 3, [0, 3], [279]),
  (3, 5, false, [], .putfield 21, 3, [1, 1], [161]),
  (4, 8, false, [], .aload_n 0, 1, [], []),
  (5, 9, false, [], .aload_n 1, 1, [], []),
  (6, 10, false, [], .invokevirtual 22, 3, [7, 0, 1, 0, 1], [696, 680]),
  (7, 13, false, [], .putfield 26, 3, [1, 2], [164]),
  (8, 16, false, [], .aload_n 0, 1, [], []),
  (9, 17, false, [], .iload_n 2, 1, [], []),
  (10, 18, false, [], .putfield 28, 3, [1, 3], [166]),
  (11, 21, false, [], .aload_n 0, 1, [], []),
  (12, 22, false, [], .aload_n 1, 1, [], []),
  (13, 23, false, [], .getfield 31, 3, [0, 4], [284]),
  (14, 26, false, [], .putfield 34, 3, [1, 5], [169]),
  (15, 29, false, [], .aload_n 0, 1, [], []),
  (16, 30, false, [], .iconst 1, 1, [], []),
  (17, 31, false, [], .putfield 35, 3, [1, 6], [171]),
  (18, 34, false, [], .aload_n 0, 1, [], []),
  (19, 35, false, [], .aload_n 1, 1, [], []),
  (20, 36, false, [], .getfield 38, 3, [0, 7], [291]),
  (21, 39, false, [], .putfield 41, 3, [1, 7], [173]),
  (22, 42, false, [], .aload_n 0, 1, [], []),
  (23, 43, false, [], .aload_n 1, 1, [], []),
  (24, 44, false, [], .getfield 42, 3, [0, 8], [295]),
  (25, 47, false, [], .putfield 45, 3, [1, 8], [176]),
  (26, 50, false, [], .aload_n 1, 1, [], []),
  (27, 51, false, [], .getfield 46, 3, [0, 0], [275]),
  (28, 54, false, [], .iconst 0, 1, [], []),
  (29, 55, false, [], .aload_n 0, 1, [], []),
  (30, 56, false, [], .getfield 9, 3, [1, 0], [158]),
  (31, 59, false, [], .iconst 0, 1, [], []),
  (32, 60, false, [], .aload_n 0, 1, [], []),
  (33, 61, false, [], .getfield 45, 3, [1, 8], [176]),
  (34, 64, false, [], .invokestatic 47, 3, [100025, 100025], [697, 493, 492, 84]),
  (35, 67, false, [], .aload_n 0, 1, [], []),
  (36, 68, false, [], .iconst 2, 1, [], []),
  (37, 69, false, [], .aload_n 0, 1, [], []),
  (38, 70, false, [], .getfield 26, 3, [1, 2], [164]),
  (39, 73, false, [], .invokestatic 53, 3, [], [698, 699, 85, 700]),
  (40, 76, false, [], .invokestatic 59, 3, [12, 1, 1, 0], [701]),
  (41, 79, false, [], .iadd, 1, [], []),
  (42, 80, false, [], .aload_n 0, 1, [], []),
  (43, 81, false, [], .getfield 45, 3, [1, 8], [176]),
  (44, 84, false, [], .iadd, 1, [], []),
  (45, 85, false, [], .putfield 62, 3, [1, 4], [167]),
  (46, 88, false, [], .return_, 1, [], [])]
theorem l_K_fill : (z_hd m_K_fill).2.2.1 = 3 := by decide +kernel
theorem k_K_fill : z_okM m_K_fill c_K_fill = true := by decide +kernel
def c_K_digits : List z_In := [
  (0, 0, false, [], .iload_n 0, 1, [], []),
  (1, 1, false, [], .sipush 999, 3, [], []),
  (2, 4, false, [], .if_icmp .le 5, 3, [5], []),
  (3, 7, false, [], .iconst 4, 1, [], []),
  (4, 8, false, [], .ireturn, 1, [0], []),
  (5, 9, false, [], .iload_n 0, 1, [], []),
  (6, 10, false, [], .bipush 99, 2, [], []),
  (7, 12, false, [], .if_icmp .le 5, 3, [10], []),
  (8, 15, false, [], .iconst 3, 1, [], []),
  (9, 16, false, [], .ireturn, 1, [0], []),
  (10, 17, false, [], .iload_n 0, 1, [], []),
  (11, 18, false, [], .bipush 9, 2, [], []),
  (12, 20, false, [], .if_icmp .le 7, 3, [15], []),
  (13, 23, false, [], .iconst 2, 1, [], []),
  (14, 24, false, [], .goto 4, 3, [16], []),
  (15, 27, false, [], .iconst 1, 1, [], []),
  (16, 28, false, [], .ireturn, 1, [0], [])]
theorem l_K_digits : (z_hd m_K_digits).2.2.1 = 1 := by decide +kernel
theorem k_K_digits : z_okM m_K_digits c_K_digits = true := by decide +kernel
def c_K_tell : List z_In := [
  (0, 0, false, [], .iload_n 1, 1, [], []),
  (1, 1, false, [], .tableswitch 69 0 5 #[39, 44, 49, 54, 59, 64], 39, [20, 2, 5, 8, 11, 14, 17], []),
  (2, 40, false, [], .aload_n 0, 1, [], []),
  (3, 41, false, [], .getfield 26, 3, [1, 2], [164]),
  (4, 44, false, [], .ireturn, 1, [0], []),
  (5, 45, false, [], .aload_n 0, 1, [], []),
  (6, 46, false, [], .getfield 28, 3, [1, 3], [166]),
  (7, 49, false, [], .ireturn, 1, [0], []),
  (8, 50, false, [], .aload_n 0, 1, [], []),
  (9, 51, false, [], .getfield 62, 3, [1, 4], [167]),
  (10, 54, false, [], .ireturn, 1, [0], []),
  (11, 55, false, [], .aload_n 0, 1, [], []),
  (12, 56, false, [], .getfield 34, 3, [1, 5], [169]),
  (13, 59, false, [], .ireturn, 1, [0], []),
  (14, 60, false, [], .aload_n 0, 1, [], []),
  (15, 61, false, [], .getfield 35, 3, [1, 6], [171]),
  (16, 64, false, [], .ireturn, 1, [0], []),
  (17, 65, false, [], .aload_n 0, 1, [], []),
  (18, 66, false, [], .getfield 45, 3, [1, 8], [176]),
  (19, 69, false, [], .ireturn, 1, [0], []),
  (20, 70, false, [], .aload_n 0, 1, [], []),
  (21, 71, false, [], .getfield 41, 3, [1, 7], [173]),
  (22, 74, false, [], .ireturn, 1, [0], [])]
theorem l_K_tell : (z_hd m_K_tell).2.2.1 = 2 := by decide +kernel
theorem k_K_tell : z_okM m_K_tell c_K_tell = true := by decide +kernel
def c_K_worth : List z_In := [
  (0, 0, false, [], .iload_n 1, 1, [], []),
  (1, 1, false, [], .tableswitch 42 0 2 #[27, 32, 37], 27, [11, 2, 5, 8], []),
  (2, 28, false, [], .aload_n 0, 1, [], []),
  (3, 29, false, [], .getfield 34, 3, [1, 5], [169]),
  (4, 32, false, [], .ireturn, 1, [0], []),
  (5, 33, false, [], .aload_n 0, 1, [], []),
  (6, 34, false, [], .getfield 35, 3, [1, 6], [171]),
  (7, 37, false, [], .ireturn, 1, [0], []),
  (8, 38, false, [], .aload_n 0, 1, [], []),
  (9, 39, false, [], .getfield 28, 3, [1, 3], [166]),
  (10, 42, false, [], .ireturn, 1, [0], []),
  (11, 43, false, [], .aload_n 0, 1, [], []),
  (12, 44, false, [], .getfield 62, 3, [1, 4], [167]),
  (13, 47, false, [], .ineg, 1, [], []),
  (14, 48, false, [], .ireturn, 1, [0], [])]
theorem l_K_worth : (z_hd m_K_worth).2.2.1 = 2 := by decide +kernel
theorem k_K_worth : z_okM m_K_worth c_K_worth = true := by decide +kernel
def c_R_init : List z_In := [
  (0, 0, false, [], .aload_n 0, 1, [], []),
  (1, 1, false, [], .invokespecial 3, 3, [], [101, 92, 93]),
  (2, 4, false, [], .aload_n 0, 1, [], []),
  (3, 5, false, [], .bipush 100, 2, [], []),
  (4, 7, false, [], .newarray .int, 2, [100], [122]),
  (5, 9, false, [], .putfield 9, 3, [2, 0], [123]),
  (6, 12, false, [], .aload_n 0, 1, [], []),
  (7, 13, false, [], .new 15, 3, [5], [102, 103, 77]),
  (8, 16, false, [], .dup, 1, [], []),
  (9, 17, false, [], .invokespecial 17, 3, [57, 0, 0, 1, 0], []),
  (10, 20, false, [], .putfield 18, 3, [2, 1], [124]),
  (11, 23, false, [], .return_, 1, [], [])]
theorem l_R_init : (z_hd m_R_init).2.2.1 = 1 := by decide +kernel
theorem k_R_init : z_okM m_R_init c_R_init = true := by decide +kernel
def c_R_add : List z_In := [
  (0, 0, false, [], .aload_n 0, 1, [], []),
  (1, 1, false, [], .getfield 22, 3, [2, 2], [126]),
  (2, 4, false, [], .bipush 100, 2, [], []),
  (3, 6, false, [], .if_icmp .lt 5, 3, [6], []),
  (4, 9, false, [], .iconst 0, 1, [], []),
  (5, 10, false, [], .ireturn, 1, [1], []),
  (6, 11, false, [], .aload_n 0, 1, [], []),
  (7, 12, false, [], .getfield 9, 3, [2, 0], [123]),
  (8, 15, false, [], .aload_n 0, 1, [], []),
  (9, 16, false, [], .getfield 22, 3, [2, 2], [126]),
  (10, 19, false, [], .iload_n 1, 1, [], []),
  (11, 20, false, [], .iastore, 1, [100100], []),
  (12, 21, false, [], .aload_n 0, 1, [], []),
  (13, 22, false, [], .dup, 1, [], []),
  (14, 23, false, [], .getfield 22, 3, [2, 2], [126]),
  (15, 26, false, [], .iconst 1, 1, [], []),
  (16, 27, false, [], .iadd, 1, [], []),
  (17, 28, false, [], .putfield 22, 3, [2, 2], [126]),
  (18, 31, false, [], .iconst 1, 1, [], []),
  (19, 32, false, [], .ireturn, 1, [1], [])]
theorem l_R_add : (z_hd m_R_add).2.2.1 = 2 := by decide +kernel
theorem k_R_add : z_okM m_R_add c_R_add = true := by decide +kernel
def c_R_readTape : List z_In := [
  (0, 0, false, [], .aload_n 0, 1, [], []),
  (1, 1, false, [], .iconst 0, 1, [], []),
  (2, 2, false, [], .putfield 26, 3, [2, 4], [130]),
  (3, 5, false, [], .aload_n 0, 1, [], []),
  (4, 6, false, [], .getfield 18, 3, [2, 1], [124]),
  (5, 9, false, [], .invokevirtual 29, 3, [59, 0, 0, 0, 6], [414, 416]),
  (6, 12, false, [], .aload_n 0, 1, [], []),
  (7, 13, false, [], .iconst 0, 1, [], []),
  (8, 14, false, [], .invokevirtual 32, 3, [23, 1, 1, 0, 3], [418, 0]),
  (9, 17, false, [], .ifCond .eq 29, 3, [22], []),
  (10, 20, false, [], .aload_n 0, 1, [], []),
  (11, 21, false, [], .getfield 26, 3, [2, 4], [130]),
  (12, 24, false, [], .aload_n 0, 1, [], []),
  (13, 25, false, [], .getfield 22, 3, [2, 2], [126]),
  (14, 28, false, [], .if_icmp .eq 14, 3, [20], []),
  (15, 31, false, [], .aload_n 0, 1, [], []),
  (16, 32, false, [], .aload_n 0, 1, [], []),
  (17, 33, false, [], .getfield 26, 3, [2, 4], [130]),
  (18, 36, false, [], .invokevirtual 36, 3, [18, 1, 1, 0, 3], [458, 9]),
  (19, 39, false, [], .ifCond .eq 7, 3, [22], []),
  (20, 42, false, [], .iconst 1, 1, [], []),
  (21, 43, false, [], .goto 4, 3, [23], []),
  (22, 46, false, [], .iconst 0, 1, [], []),
  (23, 47, false, [], .istore_n 1, 1, [], []),
  (24, 48, false, [], .aload_n 0, 1, [], []),
  (25, 49, false, [], .iconst 0, 1, [], []),
  (26, 50, false, [], .putfield 22, 3, [2, 2], [126]),
  (27, 53, false, [], .iload_n 1, 1, [], []),
  (28, 54, false, [], .ireturn, 1, [1], [])]
theorem l_R_readTape : (z_hd m_R_readTape).2.2.1 = 2 := by decide +kernel
theorem k_R_readTape : z_okM m_R_readTape c_R_readTape = true := by decide +kernel
def c_R_wrong : List z_In := [
  (0, 0, false, [], .aload_n 0, 1, [], []),
  (1, 1, false, [], .iload_n 1, 1, [], []),
  (2, 2, false, [], .putfield 39, 3, [2, 3], [129]),
  (3, 5, false, [], .iconst 0, 1, [], []),
  (4, 6, false, [], .ireturn, 1, [1], [])]
theorem l_R_wrong : (z_hd m_R_wrong).2.2.1 = 2 := by decide +kernel
theorem k_R_wrong : z_okM m_R_wrong c_R_wrong = true := by decide +kernel
def c_R_ahead : List z_In := [
  (0, 0, false, [], .aload_n 0, 1, [], []),
  (1, 1, false, [], .getfield 26, 3, [2, 4], [130]),
  (2, 4, false, [], .aload_n 0, 1, [], []),
  (3, 5, false, [], .getfield 22, 3, [2, 2], [126]),
  (4, 8, false, [], .if_icmp .ge 24, 3, [15], []),
  (5, 11, false, [], .aload_n 0, 1, [], []),
  (6, 12, false, [], .getfield 26, 3, [2, 4], [130]),
  (7, 15, false, [], .bipush 100, 2, [], []),
  (8, 17, false, [], .if_icmp .ge 15, 3, [15], []),
  (9, 20, false, [], .aload_n 0, 1, [], []),
  (10, 21, false, [], .getfield 9, 3, [2, 0], [123]),
  (11, 24, false, [], .aload_n 0, 1, [], []),
  (12, 25, false, [], .getfield 26, 3, [2, 4], [130]),
  (13, 28, false, [], .iaload, 1, [100100], []),
  (14, 29, false, [], .goto 4, 3, [16], []),
  (15, 32, false, [], .iconst (-1), 1, [], []),
  (16, 33, false, [], .ireturn, 1, [0], [])]
theorem l_R_ahead : (z_hd m_R_ahead).2.2.1 = 1 := by decide +kernel
theorem k_R_ahead : z_okM m_R_ahead c_R_ahead = true := by decide +kernel
def c_R_isDigit : List z_In := [
  (0, 0, false, [], .aload_n 0, 1, [], []),
  (1, 1, false, [], .invokevirtual 42, 3, [19, 0, 1, 0, 3], [438, 5]),
  (2, 4, false, [], .bipush 48, 2, [], []),
  (3, 6, false, [], .if_icmp .lt 16, 3, [10], []),
  (4, 9, false, [], .aload_n 0, 1, [], []),
  (5, 10, false, [], .invokevirtual 42, 3, [19, 0, 1, 0, 3], [438, 5]),
  (6, 13, false, [], .bipush 57, 2, [], []),
  (7, 15, false, [], .if_icmp .gt 7, 3, [10], []),
  (8, 18, false, [], .iconst 1, 1, [], []),
  (9, 19, false, [], .goto 4, 3, [11], []),
  (10, 22, false, [], .iconst 0, 1, [], []),
  (11, 23, false, [], .ireturn, 1, [1], [])]
theorem l_R_isDigit : (z_hd m_R_isDigit).2.2.1 = 1 := by decide +kernel
theorem k_R_isDigit : z_okM m_R_isDigit c_R_isDigit = true := by decide +kernel
def c_R_pass : List z_In := [
  (0, 0, false, [], .aload_n 0, 1, [], []),
  (1, 1, false, [], .invokevirtual 42, 3, [19, 0, 1, 0, 3], [438, 5]),
  (2, 4, false, [], .iload_n 1, 1, [], []),
  (3, 5, false, [], .if_icmp .eq 12, 3, [9], []),
  (4, 8, false, [], .aload_n 0, 1, [], []),
  (5, 9, false, [], .aload_n 0, 1, [], []),
  (6, 10, false, [], .getfield 26, 3, [2, 4], [130]),
  (7, 13, false, [], .invokevirtual 36, 3, [18, 1, 1, 0, 3], [458, 9]),
  (8, 16, false, [], .ireturn, 1, [1], []),
  (9, 17, false, [], .aload_n 0, 1, [], []),
  (10, 18, false, [], .dup, 1, [], []),
  (11, 19, false, [], .getfield 26, 3, [2, 4], [130]),
  (12, 22, false, [], .iconst 1, 1, [], []),
  (13, 23, false, [], .iadd, 1, [], []),
  (14, 24, false, [], .putfield 26, 3, [2, 4], [130]),
  (15, 27, false, [], .iconst 1, 1, [], []),
  (16, 28, false, [], .ireturn, 1, [1], [])]
theorem l_R_pass : (z_hd m_R_pass).2.2.1 = 2 := by decide +kernel
theorem k_R_pass : z_okM m_R_pass c_R_pass = true := by decide +kernel
def c_R_passOpening : List z_In := [
  (0, 0, false, [], .aload_n 0, 1, [], []),
  (1, 1, false, [], .invokevirtual 42, 3, [19, 0, 1, 0, 3], [438, 5]),
  (2, 4, false, [], .iload_n 1, 1, [], []),
  (3, 5, false, [], .if_icmp .ne 8, 3, [7], []),
  (4, 8, false, [], .iload_n 2, 1, [], []),
  (5, 9, false, [], .iconst 5, 1, [], []),
  (6, 10, false, [], .if_icmp .lt 12, 3, [12], []),
  (7, 13, false, [], .aload_n 0, 1, [], []),
  (8, 14, false, [], .aload_n 0, 1, [], []),
  (9, 15, false, [], .getfield 26, 3, [2, 4], [130]),
  (10, 18, false, [], .invokevirtual 36, 3, [18, 1, 1, 0, 3], [458, 9]),
  (11, 21, false, [], .ireturn, 1, [1], []),
  (12, 22, false, [], .aload_n 0, 1, [], []),
  (13, 23, false, [], .dup, 1, [], []),
  (14, 24, false, [], .getfield 26, 3, [2, 4], [130]),
  (15, 27, false, [], .iconst 1, 1, [], []),
  (16, 28, false, [], .iadd, 1, [], []),
  (17, 29, false, [], .putfield 26, 3, [2, 4], [130]),
  (18, 32, false, [], .iconst 1, 1, [], []),
  (19, 33, false, [], .ireturn, 1, [1], [])]
theorem l_R_passOpening : (z_hd m_R_passOpening).2.2.1 = 3 := by decide +kernel
theorem k_R_passOpening : z_okM m_R_passOpening c_R_passOpening = true := by decide +kernel
def c_R_readChoice : List z_In := [
  (0, 0, false, [], .iconst 0, 1, [], []),
  (1, 1, false, [], .istore_n 2, 1, [], []),
  (2, 2, false, [], .iconst 0, 1, [], []),
  (3, 3, false, [], .istore_n 3, 1, [], []),
  (4, 4, true, [true, true, true, true, false], .iload_n 3, 1, [], []),
  (5, 5, false, [], .bipush 100, 2, [], []),
  (6, 7, false, [], .if_icmp .ge 121, 3, [67], []),
  (7, 10, false, [], .aload_n 0, 1, [], []),
  (8, 11, false, [], .iload_n 1, 1, [], []),
  (9, 12, false, [], .invokevirtual 46, 3, [24, 1, 1, 0, 3], [422, 1]),
  (10, 15, false, [], .ifCond .ne 5, 3, [13], []),
  (11, 18, false, [], .iconst 0, 1, [], []),
  (12, 19, false, [], .ireturn, 1, [1], []),
  (13, 20, false, [], .aload_n 0, 1, [], []),
  (14, 21, false, [], .invokevirtual 42, 3, [19, 0, 1, 0, 3], [438, 5]),
  (15, 24, false, [], .bipush 63, 2, [], []),
  (16, 26, false, [], .if_icmp .eq 13, 3, [23], []),
  (17, 29, false, [], .aload_n 0, 1, [], []),
  (18, 30, false, [], .getfield 18, 3, [2, 1], [124]),
  (19, 33, false, [], .iload_n 2, 1, [], []),
  (20, 34, false, [], .invokevirtual 49, 3, [63, 1, 0, 0, 6], [478, 480]),
  (21, 37, false, [], .iconst 1, 1, [], []),
  (22, 38, false, [], .ireturn, 1, [1], []),
  (23, 39, false, [], .aload_n 0, 1, [], []),
  (24, 40, false, [], .getfield 18, 3, [2, 1], [124]),
  (25, 43, false, [], .getfield 53, 3, [5, 1], [112]),
  (26, 46, false, [], .istore 4, 2, [], []),
  (27, 48, false, [], .aload_n 0, 1, [], []),
  (28, 49, false, [], .getfield 18, 3, [2, 1], [124]),
  (29, 52, false, [], .iconst 5, 1, [], []),
  (30, 53, false, [], .iconst 0, 1, [], []),
  (31, 54, false, [], .invokevirtual 54, 3, [61, 2, 0, 0, 6], [442, 444]),
  (32, 57, false, [], .aload_n 0, 1, [], []),
  (33, 58, false, [], .bipush 63, 2, [], []),
  (34, 60, false, [], .iload_n 1, 1, [], []),
  (35, 61, false, [], .invokevirtual 58, 3, [22, 2, 1, 0, 3], [470, 12]),
  (36, 64, false, [], .ifCond .eq 22, 3, [47], []),
  (37, 67, false, [], .aload_n 0, 1, [], []),
  (38, 68, false, [], .iload_n 1, 1, [], []),
  (39, 69, false, [], .iconst 1, 1, [], []),
  (40, 70, false, [], .iadd, 1, [], []),
  (41, 71, false, [], .invokevirtual 32, 3, [23, 1, 1, 0, 3], [418, 0]),
  (42, 74, false, [], .ifCond .eq 12, 3, [47], []),
  (43, 77, false, [], .aload_n 0, 1, [], []),
  (44, 78, false, [], .bipush 58, 2, [], []),
  (45, 80, false, [], .invokevirtual 62, 3, [21, 1, 1, 0, 3], [474, 13]),
  (46, 83, false, [], .ifCond .ne 5, 3, [49], []),
  (47, 86, false, [], .iconst 0, 1, [], []),
  (48, 87, false, [], .ireturn, 1, [1], []),
  (49, 88, false, [], .aload_n 0, 1, [], []),
  (50, 89, false, [], .getfield 18, 3, [2, 1], [124]),
  (51, 92, false, [], .bipush 6, 2, [], []),
  (52, 94, false, [], .iload_n 2, 1, [], []),
  (53, 95, false, [], .invokevirtual 54, 3, [61, 2, 0, 0, 6], [442, 444]),
  (54, 98, false, [], .aload_n 0, 1, [], []),
  (55, 99, false, [], .getfield 18, 3, [2, 1], [124]),
  (56, 102, false, [], .getfield 53, 3, [5, 1], [112]),
  (57, 105, false, [], .istore_n 2, 1, [], []),
  (58, 106, false, [], .aload_n 0, 1, [], []),
  (59, 107, false, [], .getfield 18, 3, [2, 1], [124]),
  (60, 110, false, [], .iload 4, 2, [], []),
  (61, 112, false, [], .aload_n 0, 1, [], []),
  (62, 113, false, [], .getfield 18, 3, [2, 1], [124]),
  (63, 116, false, [], .getfield 53, 3, [5, 1], [112]),
  (64, 119, false, [], .invokevirtual 65, 3, [62, 2, 0, 0, 6], [486, 484]),
  (65, 122, false, [], .iinc 3 1, 3, [], []),
  (66, 125, false, [], .goto (-121), 3, [4], []),
  (67, 128, false, [], .aload_n 0, 1, [], []),
  (68, 129, false, [], .aload_n 0, 1, [], []),
  (69, 130, false, [], .getfield 26, 3, [2, 4], [130]),
  (70, 133, false, [], .invokevirtual 36, 3, [18, 1, 1, 0, 3], [458, 9]),
  (71, 136, false, [], .ireturn, 1, [1], [])]
theorem l_R_readChoice : (z_hd m_R_readChoice).2.2.1 = 5 := by decide +kernel
theorem k_R_readChoice : z_okM m_R_readChoice c_R_readChoice = true := by decide +kernel
def c_R_readComparison : List z_In := [
  (0, 0, false, [], .aload_n 0, 1, [], []),
  (1, 1, false, [], .iload_n 1, 1, [], []),
  (2, 2, false, [], .invokevirtual 68, 3, [25, 1, 1, 0, 3], [426, 2]),
  (3, 5, false, [], .ifCond .ne 5, 3, [6], []),
  (4, 8, false, [], .iconst 0, 1, [], []),
  (5, 9, false, [], .ireturn, 1, [1], []),
  (6, 10, false, [], .aload_n 0, 1, [], []),
  (7, 11, false, [], .invokevirtual 42, 3, [19, 0, 1, 0, 3], [438, 5]),
  (8, 14, false, [], .istore_n 2, 1, [], []),
  (9, 15, false, [], .iload_n 2, 1, [], []),
  (10, 16, false, [], .bipush 60, 2, [], []),
  (11, 18, false, [], .if_icmp .eq 11, 3, [17], []),
  (12, 21, false, [], .iload_n 2, 1, [], []),
  (13, 22, false, [], .bipush 61, 2, [], []),
  (14, 24, false, [], .if_icmp .eq 5, 3, [17], []),
  (15, 27, false, [], .iconst 1, 1, [], []),
  (16, 28, false, [], .ireturn, 1, [1], []),
  (17, 29, true, [true, true, true], .aload_n 0, 1, [], []),
  (18, 30, false, [], .dup, 1, [], []),
  (19, 31, false, [], .getfield 26, 3, [2, 4], [130]),
  (20, 34, false, [], .iconst 1, 1, [], []),
  (21, 35, false, [], .iadd, 1, [], []),
  (22, 36, false, [], .putfield 26, 3, [2, 4], [130]),
  (23, 39, false, [], .aload_n 0, 1, [], []),
  (24, 40, false, [], .iload_n 1, 1, [], []),
  (25, 41, false, [], .invokevirtual 68, 3, [25, 1, 1, 0, 3], [426, 2]),
  (26, 44, false, [], .ifCond .ne 5, 3, [29], []),
  (27, 47, false, [], .iconst 0, 1, [], []),
  (28, 48, false, [], .ireturn, 1, [1], []),
  (29, 49, false, [], .aload_n 0, 1, [], []),
  (30, 50, false, [], .getfield 18, 3, [2, 1], [124]),
  (31, 53, false, [], .iload_n 2, 1, [], []),
  (32, 54, false, [], .bipush 60, 2, [], []),
  (33, 56, false, [], .if_icmp .ne 8, 3, [36], []),
  (34, 59, false, [], .bipush 11, 2, [], []),
  (35, 61, false, [], .goto 5, 3, [37], []),
  (36, 64, false, [], .bipush 12, 2, [], []),
  (37, 66, false, [], .iconst 0, 1, [], []),
  (38, 67, false, [], .invokevirtual 54, 3, [61, 2, 0, 0, 6], [442, 444]),
  (39, 70, false, [], .iconst 1, 1, [], []),
  (40, 71, false, [], .ireturn, 1, [1], [])]
theorem l_R_readComparison : (z_hd m_R_readComparison).2.2.1 = 3 := by decide +kernel
theorem k_R_readComparison : z_okM m_R_readComparison c_R_readComparison = true := by decide +kernel
def c_R_readSum : List z_In := [
  (0, 0, false, [], .aload_n 0, 1, [], []),
  (1, 1, false, [], .iload_n 1, 1, [], []),
  (2, 2, false, [], .invokevirtual 71, 3, [26, 1, 1, 0, 3], [430, 3]),
  (3, 5, false, [], .ifCond .ne 5, 3, [6], []),
  (4, 8, false, [], .iconst 0, 1, [], []),
  (5, 9, false, [], .ireturn, 1, [1], []),
  (6, 10, false, [], .iconst 0, 1, [], []),
  (7, 11, false, [], .istore_n 2, 1, [], []),
  (8, 12, true, [true, true, true, false], .iload_n 2, 1, [], []),
  (9, 13, false, [], .bipush 100, 2, [], []),
  (10, 15, false, [], .if_icmp .ge 73, 3, [46], []),
  (11, 18, false, [], .aload_n 0, 1, [], []),
  (12, 19, false, [], .invokevirtual 42, 3, [19, 0, 1, 0, 3], [438, 5]),
  (13, 22, false, [], .bipush 43, 2, [], []),
  (14, 24, false, [], .if_icmp .eq 12, 3, [19], []),
  (15, 27, false, [], .aload_n 0, 1, [], []),
  (16, 28, false, [], .invokevirtual 42, 3, [19, 0, 1, 0, 3], [438, 5]),
  (17, 31, false, [], .bipush 45, 2, [], []),
  (18, 33, false, [], .if_icmp .ne 55, 3, [46], []),
  (19, 36, true, [true, true, true, false], .aload_n 0, 1, [], []),
  (20, 37, false, [], .invokevirtual 42, 3, [19, 0, 1, 0, 3], [438, 5]),
  (21, 40, false, [], .istore_n 3, 1, [], []),
  (22, 41, false, [], .aload_n 0, 1, [], []),
  (23, 42, false, [], .dup, 1, [], []),
  (24, 43, false, [], .getfield 26, 3, [2, 4], [130]),
  (25, 46, false, [], .iconst 1, 1, [], []),
  (26, 47, false, [], .iadd, 1, [], []),
  (27, 48, false, [], .putfield 26, 3, [2, 4], [130]),
  (28, 51, false, [], .aload_n 0, 1, [], []),
  (29, 52, false, [], .iload_n 1, 1, [], []),
  (30, 53, false, [], .invokevirtual 71, 3, [26, 1, 1, 0, 3], [430, 3]),
  (31, 56, false, [], .ifCond .ne 5, 3, [34], []),
  (32, 59, false, [], .iconst 0, 1, [], []),
  (33, 60, false, [], .ireturn, 1, [1], []),
  (34, 61, false, [], .aload_n 0, 1, [], []),
  (35, 62, false, [], .getfield 18, 3, [2, 1], [124]),
  (36, 65, false, [], .iload_n 3, 1, [], []),
  (37, 66, false, [], .bipush 43, 2, [], []),
  (38, 68, false, [], .if_icmp .ne 8, 3, [41], []),
  (39, 71, false, [], .bipush 7, 2, [], []),
  (40, 73, false, [], .goto 5, 3, [42], []),
  (41, 76, false, [], .bipush 8, 2, [], []),
  (42, 78, false, [], .iconst 0, 1, [], []),
  (43, 79, false, [], .invokevirtual 54, 3, [61, 2, 0, 0, 6], [442, 444]),
  (44, 82, false, [], .iinc 2 1, 3, [], []),
  (45, 85, false, [], .goto (-73), 3, [8], []),
  (46, 88, false, [], .iconst 1, 1, [], []),
  (47, 89, false, [], .ireturn, 1, [1], [])]
theorem l_R_readSum : (z_hd m_R_readSum).2.2.1 = 4 := by decide +kernel
theorem k_R_readSum : z_okM m_R_readSum c_R_readSum = true := by decide +kernel
def c_R_readProduct : List z_In := [
  (0, 0, false, [], .aload_n 0, 1, [], []),
  (1, 1, false, [], .iload_n 1, 1, [], []),
  (2, 2, false, [], .invokevirtual 74, 3, [27, 1, 1, 0, 3], [434, 4]),
  (3, 5, false, [], .ifCond .ne 5, 3, [6], []),
  (4, 8, false, [], .iconst 0, 1, [], []),
  (5, 9, false, [], .ireturn, 1, [1], []),
  (6, 10, false, [], .iconst 0, 1, [], []),
  (7, 11, false, [], .istore_n 2, 1, [], []),
  (8, 12, true, [true, true, true, false], .iload_n 2, 1, [], []),
  (9, 13, false, [], .bipush 100, 2, [], []),
  (10, 15, false, [], .if_icmp .ge 73, 3, [46], []),
  (11, 18, false, [], .aload_n 0, 1, [], []),
  (12, 19, false, [], .invokevirtual 42, 3, [19, 0, 1, 0, 3], [438, 5]),
  (13, 22, false, [], .bipush 42, 2, [], []),
  (14, 24, false, [], .if_icmp .eq 12, 3, [19], []),
  (15, 27, false, [], .aload_n 0, 1, [], []),
  (16, 28, false, [], .invokevirtual 42, 3, [19, 0, 1, 0, 3], [438, 5]),
  (17, 31, false, [], .bipush 47, 2, [], []),
  (18, 33, false, [], .if_icmp .ne 55, 3, [46], []),
  (19, 36, true, [true, true, true, false], .aload_n 0, 1, [], []),
  (20, 37, false, [], .invokevirtual 42, 3, [19, 0, 1, 0, 3], [438, 5]),
  (21, 40, false, [], .istore_n 3, 1, [], []),
  (22, 41, false, [], .aload_n 0, 1, [], []),
  (23, 42, false, [], .dup, 1, [], []),
  (24, 43, false, [], .getfield 26, 3, [2, 4], [130]),
  (25, 46, false, [], .iconst 1, 1, [], []),
  (26, 47, false, [], .iadd, 1, [], []),
  (27, 48, false, [], .putfield 26, 3, [2, 4], [130]),
  (28, 51, false, [], .aload_n 0, 1, [], []),
  (29, 52, false, [], .iload_n 1, 1, [], []),
  (30, 53, false, [], .invokevirtual 74, 3, [27, 1, 1, 0, 3], [434, 4]),
  (31, 56, false, [], .ifCond .ne 5, 3, [34], []),
  (32, 59, false, [], .iconst 0, 1, [], []),
  (33, 60, false, [], .ireturn, 1, [1], []),
  (34, 61, false, [], .aload_n 0, 1, [], []),
  (35, 62, false, [], .getfield 18, 3, [2, 1], [124]),
  (36, 65, false, [], .iload_n 3, 1, [], []),
  (37, 66, false, [], .bipush 42, 2, [], []),
  (38, 68, false, [], .if_icmp .ne 8, 3, [41], []),
  (39, 71, false, [], .bipush 9, 2, [], []),
  (40, 73, false, [], .goto 5, 3, [42], []),
  (41, 76, false, [], .bipush 10, 2, [], []),
  (42, 78, false, [], .iconst 0, 1, [], []),
  (43, 79, false, [], .invokevirtual 54, 3, [61, 2, 0, 0, 6], [442, 444]),
  (44, 82, false, [], .iinc 2 1, 3, [], []),
  (45, 85, false, [], .goto (-73), 3, [8], []),
  (46, 88, false, [], .iconst 1, 1, [], []),
  (47, 89, false, [], .ireturn, 1, [1], [])]
theorem l_R_readProduct : (z_hd m_R_readProduct).2.2.1 = 4 := by decide +kernel
theorem k_R_readProduct : z_okM m_R_readProduct c_R_readProduct = true := by decide +kernel
def c_R_readUnit : List z_In := [
  (0, 0, false, [], .aload_n 0, 1, [], []),
  (1, 1, false, [], .invokevirtual 42, 3, [19, 0, 1, 0, 3], [438, 5]),
  (2, 4, false, [], .lookupswitch 143 #[(40, 137), (45, 104), (99, 73), (102, 98), (120, 52)], 52, [58, 54, 34, 16, 30, 3], []),
  (3, 56, false, [], .aload_n 0, 1, [], []),
  (4, 57, false, [], .dup, 1, [], []),
  (5, 58, false, [], .getfield 26, 3, [2, 4], [130]),
  (6, 61, false, [], .iconst 1, 1, [], []),
  (7, 62, false, [], .iadd, 1, [], []),
  (8, 63, false, [], .putfield 26, 3, [2, 4], [130]),
  (9, 66, false, [], .aload_n 0, 1, [], []),
  (10, 67, false, [], .getfield 18, 3, [2, 1], [124]),
  (11, 70, false, [], .iconst 1, 1, [], []),
  (12, 71, false, [], .iconst 0, 1, [], []),
  (13, 72, false, [], .invokevirtual 54, 3, [61, 2, 0, 0, 6], [442, 444]),
  (14, 75, false, [], .iconst 1, 1, [], []),
  (15, 76, false, [], .ireturn, 1, [1], []),
  (16, 77, false, [], .aload_n 0, 1, [], []),
  (17, 78, false, [], .bipush 12, 2, [], []),
  (18, 80, false, [], .invokevirtual 77, 3, [30, 1, 1, 0, 3], [446, 6]),
  (19, 83, false, [], .ifCond .ne 5, 3, [22], []),
  (20, 86, false, [], .iconst 0, 1, [], []),
  (21, 87, false, [], .ireturn, 1, [1], []),
  (22, 88, false, [], .aload_n 0, 1, [], []),
  (23, 89, false, [], .getfield 18, 3, [2, 1], [124]),
  (24, 92, false, [], .iconst 2, 1, [], []),
  (25, 93, false, [], .aload_n 0, 1, [], []),
  (26, 94, false, [], .getfield 80, 3, [2, 5], [131]),
  (27, 97, false, [], .invokevirtual 54, 3, [61, 2, 0, 0, 6], [442, 444]),
  (28, 100, false, [], .iconst 1, 1, [], []),
  (29, 101, false, [], .ireturn, 1, [1], []),
  (30, 102, false, [], .aload_n 0, 1, [], []),
  (31, 103, false, [], .iload_n 1, 1, [], []),
  (32, 104, false, [], .invokevirtual 83, 3, [28, 1, 1, 0, 3], [462, 10]),
  (33, 107, false, [], .ireturn, 1, [1], []),
  (34, 108, false, [], .aload_n 0, 1, [], []),
  (35, 109, false, [], .bipush 45, 2, [], []),
  (36, 111, false, [], .iload_n 1, 1, [], []),
  (37, 112, false, [], .invokevirtual 58, 3, [22, 2, 1, 0, 3], [470, 12]),
  (38, 115, false, [], .ifCond .eq 13, 3, [45], []),
  (39, 118, false, [], .aload_n 0, 1, [], []),
  (40, 119, false, [], .iload_n 1, 1, [], []),
  (41, 120, false, [], .iconst 1, 1, [], []),
  (42, 121, false, [], .iadd, 1, [], []),
  (43, 122, false, [], .invokevirtual 74, 3, [27, 1, 1, 0, 3], [434, 4]),
  (44, 125, false, [], .ifCond .ne 5, 3, [47], []),
  (45, 128, false, [], .iconst 0, 1, [], []),
  (46, 129, false, [], .ireturn, 1, [1], []),
  (47, 130, false, [], .aload_n 0, 1, [], []),
  (48, 131, false, [], .getfield 18, 3, [2, 1], [124]),
  (49, 134, false, [], .iconst 4, 1, [], []),
  (50, 135, false, [], .iconst 0, 1, [], []),
  (51, 136, false, [], .invokevirtual 54, 3, [61, 2, 0, 0, 6], [442, 444]),
  (52, 139, false, [], .iconst 1, 1, [], []),
  (53, 140, false, [], .ireturn, 1, [1], []),
  (54, 141, false, [], .aload_n 0, 1, [], []),
  (55, 142, false, [], .iload_n 1, 1, [], []),
  (56, 143, false, [], .invokevirtual 86, 3, [29, 1, 1, 0, 3], [466, 11]),
  (57, 146, false, [], .ireturn, 1, [1], []),
  (58, 147, false, [], .aload_n 0, 1, [], []),
  (59, 148, false, [], .invokevirtual 89, 3, [31, 0, 1, 0, 3], [450, 7]),
  (60, 151, false, [], .ifCond .ne 5, 3, [63], []),
  (61, 154, false, [], .iconst 0, 1, [], []),
  (62, 155, false, [], .ireturn, 1, [1], []),
  (63, 156, false, [], .aload_n 0, 1, [], []),
  (64, 157, false, [], .getfield 18, 3, [2, 1], [124]),
  (65, 160, false, [], .iconst 0, 1, [], []),
  (66, 161, false, [], .aload_n 0, 1, [], []),
  (67, 162, false, [], .getfield 80, 3, [2, 5], [131]),
  (68, 165, false, [], .invokevirtual 54, 3, [61, 2, 0, 0, 6], [442, 444]),
  (69, 168, false, [], .iconst 1, 1, [], []),
  (70, 169, false, [], .ireturn, 1, [1], [])]
theorem l_R_readUnit : (z_hd m_R_readUnit).2.2.1 = 2 := by decide +kernel
theorem k_R_readUnit : z_okM m_R_readUnit c_R_readUnit = true := by decide +kernel
def c_R_readCall : List z_In := [
  (0, 0, false, [], .aload_n 0, 1, [], []),
  (1, 1, false, [], .bipush 12, 2, [], []),
  (2, 3, false, [], .invokevirtual 77, 3, [30, 1, 1, 0, 3], [446, 6]),
  (3, 6, false, [], .ifCond .ne 5, 3, [6], []),
  (4, 9, false, [], .iconst 0, 1, [], []),
  (5, 10, false, [], .ireturn, 1, [1], []),
  (6, 11, false, [], .aload_n 0, 1, [], []),
  (7, 12, false, [], .getfield 80, 3, [2, 5], [131]),
  (8, 15, false, [], .istore_n 2, 1, [], []),
  (9, 16, false, [], .aload_n 0, 1, [], []),
  (10, 17, false, [], .iload_n 1, 1, [], []),
  (11, 18, false, [], .invokevirtual 86, 3, [29, 1, 1, 0, 3], [466, 11]),
  (12, 21, false, [], .ifCond .ne 5, 3, [15], []),
  (13, 24, false, [], .iconst 0, 1, [], []),
  (14, 25, false, [], .ireturn, 1, [1], []),
  (15, 26, false, [], .aload_n 0, 1, [], []),
  (16, 27, false, [], .getfield 18, 3, [2, 1], [124]),
  (17, 30, false, [], .iconst 3, 1, [], []),
  (18, 31, false, [], .iload_n 2, 1, [], []),
  (19, 32, false, [], .invokevirtual 54, 3, [61, 2, 0, 0, 6], [442, 444]),
  (20, 35, false, [], .iconst 1, 1, [], []),
  (21, 36, false, [], .ireturn, 1, [1], [])]
theorem l_R_readCall : (z_hd m_R_readCall).2.2.1 = 3 := by decide +kernel
theorem k_R_readCall : z_okM m_R_readCall c_R_readCall = true := by decide +kernel
def c_R_readBracket : List z_In := [
  (0, 0, false, [], .aload_n 0, 1, [], []),
  (1, 1, false, [], .bipush 40, 2, [], []),
  (2, 3, false, [], .iload_n 1, 1, [], []),
  (3, 4, false, [], .invokevirtual 58, 3, [22, 2, 1, 0, 3], [470, 12]),
  (4, 7, false, [], .ifCond .eq 26, 3, [17], []),
  (5, 10, false, [], .aload_n 0, 1, [], []),
  (6, 11, false, [], .iload_n 1, 1, [], []),
  (7, 12, false, [], .iconst 1, 1, [], []),
  (8, 13, false, [], .iadd, 1, [], []),
  (9, 14, false, [], .invokevirtual 32, 3, [23, 1, 1, 0, 3], [418, 0]),
  (10, 17, false, [], .ifCond .eq 16, 3, [17], []),
  (11, 20, false, [], .aload_n 0, 1, [], []),
  (12, 21, false, [], .bipush 41, 2, [], []),
  (13, 23, false, [], .invokevirtual 62, 3, [21, 1, 1, 0, 3], [474, 13]),
  (14, 26, false, [], .ifCond .eq 7, 3, [17], []),
  (15, 29, false, [], .iconst 1, 1, [], []),
  (16, 30, false, [], .goto 4, 3, [18], []),
  (17, 33, false, [], .iconst 0, 1, [], []),
  (18, 34, false, [], .ireturn, 1, [1], [])]
theorem l_R_readBracket : (z_hd m_R_readBracket).2.2.1 = 2 := by decide +kernel
theorem k_R_readBracket : z_okM m_R_readBracket c_R_readBracket = true := by decide +kernel
def c_R_readIndex : List z_In := [
  (0, 0, false, [], .aload_n 0, 1, [], []),
  (1, 1, false, [], .dup, 1, [], []),
  (2, 2, false, [], .getfield 26, 3, [2, 4], [130]),
  (3, 5, false, [], .iconst 1, 1, [], []),
  (4, 6, false, [], .iadd, 1, [], []),
  (5, 7, false, [], .putfield 26, 3, [2, 4], [130]),
  (6, 10, false, [], .aload_n 0, 1, [], []),
  (7, 11, false, [], .getfield 26, 3, [2, 4], [130]),
  (8, 14, false, [], .istore_n 2, 1, [], []),
  (9, 15, false, [], .aload_n 0, 1, [], []),
  (10, 16, false, [], .invokevirtual 89, 3, [31, 0, 1, 0, 3], [450, 7]),
  (11, 19, false, [], .ifCond .ne 5, 3, [14], []),
  (12, 22, false, [], .iconst 0, 1, [], []),
  (13, 23, false, [], .ireturn, 1, [1], []),
  (14, 24, false, [], .aload_n 0, 1, [], []),
  (15, 25, false, [], .getfield 80, 3, [2, 5], [131]),
  (16, 28, false, [], .iload_n 1, 1, [], []),
  (17, 29, false, [], .if_icmp .lt 11, 3, [22], []),
  (18, 32, false, [], .aload_n 0, 1, [], []),
  (19, 33, false, [], .iload_n 2, 1, [], []),
  (20, 34, false, [], .invokevirtual 36, 3, [18, 1, 1, 0, 3], [458, 9]),
  (21, 37, false, [], .ifCond .eq 7, 3, [24], []),
  (22, 40, false, [], .iconst 1, 1, [], []),
  (23, 41, false, [], .goto 4, 3, [25], []),
  (24, 44, false, [], .iconst 0, 1, [], []),
  (25, 45, false, [], .ireturn, 1, [1], [])]
theorem l_R_readIndex : (z_hd m_R_readIndex).2.2.1 = 3 := by decide +kernel
theorem k_R_readIndex : z_okM m_R_readIndex c_R_readIndex = true := by decide +kernel
def c_R_readNumber : List z_In := [
  (0, 0, false, [], .aload_n 0, 1, [], []),
  (1, 1, false, [], .invokevirtual 93, 3, [20, 0, 1, 0, 3], [454, 8]),
  (2, 4, false, [], .ifCond .ne 12, 3, [8], []),
  (3, 7, false, [], .aload_n 0, 1, [], []),
  (4, 8, false, [], .aload_n 0, 1, [], []),
  (5, 9, false, [], .getfield 26, 3, [2, 4], [130]),
  (6, 12, false, [], .invokevirtual 36, 3, [18, 1, 1, 0, 3], [458, 9]),
  (7, 15, false, [], .ireturn, 1, [1], []),
  (8, 16, false, [], .aload_n 0, 1, [], []),
  (9, 17, false, [], .aload_n 0, 1, [], []),
  (10, 18, false, [], .invokevirtual 42, 3, [19, 0, 1, 0, 3], [438, 5]),
  (11, 21, false, [], .bipush 48, 2, [], []),
  (12, 23, false, [], .isub, 1, [], []),
  (13, 24, false, [], .putfield 80, 3, [2, 5], [131]),
  (14, 27, false, [], .aload_n 0, 1, [], []),
  (15, 28, false, [], .dup, 1, [], []),
  (16, 29, false, [], .getfield 26, 3, [2, 4], [130]),
  (17, 32, false, [], .iconst 1, 1, [], []),
  (18, 33, false, [], .iadd, 1, [], []),
  (19, 34, false, [], .putfield 26, 3, [2, 4], [130]),
  (20, 37, false, [], .aload_n 0, 1, [], []),
  (21, 38, false, [], .invokevirtual 93, 3, [20, 0, 1, 0, 3], [454, 8]),
  (22, 41, false, [], .ifCond .eq 32, 3, [40], []),
  (23, 44, false, [], .aload_n 0, 1, [], []),
  (24, 45, false, [], .bipush 10, 2, [], []),
  (25, 47, false, [], .aload_n 0, 1, [], []),
  (26, 48, false, [], .getfield 80, 3, [2, 5], [131]),
  (27, 51, false, [], .imul, 1, [], []),
  (28, 52, false, [], .aload_n 0, 1, [], []),
  (29, 53, false, [], .invokevirtual 42, 3, [19, 0, 1, 0, 3], [438, 5]),
  (30, 56, false, [], .iadd, 1, [], []),
  (31, 57, false, [], .bipush 48, 2, [], []),
  (32, 59, false, [], .isub, 1, [], []),
  (33, 60, false, [], .putfield 80, 3, [2, 5], [131]),
  (34, 63, false, [], .aload_n 0, 1, [], []),
  (35, 64, false, [], .dup, 1, [], []),
  (36, 65, false, [], .getfield 26, 3, [2, 4], [130]),
  (37, 68, false, [], .iconst 1, 1, [], []),
  (38, 69, false, [], .iadd, 1, [], []),
  (39, 70, false, [], .putfield 26, 3, [2, 4], [130]),
  (40, 73, false, [], .iconst 1, 1, [], []),
  (41, 74, false, [], .ireturn, 1, [1], [])]
theorem l_R_readNumber : (z_hd m_R_readNumber).2.2.1 = 1 := by decide +kernel
theorem k_R_readNumber : z_okM m_R_readNumber c_R_readNumber = true := by decide +kernel
def c_U_init : List z_In := [
  (0, 0, false, [], .aload_n 0, 1, [], []),
  (1, 1, false, [], .invokespecial 3, 3, [], [266, 92, 93]),
  (2, 4, false, [], .aload_n 0, 1, [], []),
  (3, 5, false, [], .bipush 30, 2, [], []),
  (4, 7, false, [], .anewarray 9, 3, [30, 5], [267]),
  (5, 10, false, [], .putfield 11, 3, [3, 0], [318]),
  (6, 13, false, [], .iconst 0, 1, [], []),
  (7, 14, false, [], .istore_n 1, 1, [], []),
  (8, 15, true, [true, true], .iload_n 1, 1, [], []),
  (9, 16, false, [], .bipush 30, 2, [], []),
  (10, 18, false, [], .if_icmp .ge 22, 3, [20], []),
  (11, 21, false, [], .aload_n 0, 1, [], []),
  (12, 22, false, [], .getfield 11, 3, [3, 0], [318]),
  (13, 25, false, [], .iload_n 1, 1, [], []),
  (14, 26, false, [], .new 9, 3, [0], [267, 269, 82]),
  (15, 29, false, [], .dup, 1, [], []),
  (16, 30, false, [], .invokespecial 17, 3, [0, 0, 0, 2, 0], []),
  (17, 33, false, [], .aastore, 1, [500030, 0], []),
  (18, 34, false, [], .iinc 1 1, 3, [], []),
  (19, 37, false, [], .goto (-22), 3, [8], []),
  (20, 40, false, [], .return_, 1, [], [])]
theorem l_U_init : (z_hd m_U_init).2.2.1 = 2 := by decide +kernel
theorem k_U_init : z_okM m_U_init c_U_init = true := by decide +kernel
def c_U_renew : List z_In := [
  (0, 0, false, [], .aload_n 0, 1, [], []),
  (1, 1, false, [], .iload_n 1, 1, [], []),
  (2, 2, false, [], .putfield 18, 3, [3, 1], [320]),
  (3, 5, false, [], .aload_n 0, 1, [], []),
  (4, 6, false, [], .iconst 0, 1, [], []),
  (5, 7, false, [], .putfield 22, 3, [3, 2], [322]),
  (6, 10, false, [], .aload_n 0, 1, [], []),
  (7, 11, false, [], .iconst 0, 1, [], []),
  (8, 12, false, [], .putfield 25, 3, [3, 3], [324]),
  (9, 15, false, [], .aload_n 0, 1, [], []),
  (10, 16, false, [], .iconst 0, 1, [], []),
  (11, 17, false, [], .putfield 28, 3, [3, 4], [326]),
  (12, 20, false, [], .return_, 1, [], [])]
theorem l_U_renew : (z_hd m_U_renew).2.2.1 = 2 := by decide +kernel
theorem k_U_renew : z_okM m_U_renew c_U_renew = true := by decide +kernel
def c_U_isBusy : List z_In := [
  (0, 0, false, [], .aload_n 0, 1, [], []),
  (1, 1, false, [], .getfield 22, 3, [3, 2], [322]),
  (2, 4, false, [], .iconst 1, 1, [], []),
  (3, 5, false, [], .if_icmp .eq 11, 3, [8], []),
  (4, 8, false, [], .aload_n 0, 1, [], []),
  (5, 9, false, [], .getfield 22, 3, [3, 2], [322]),
  (6, 12, false, [], .iconst 2, 1, [], []),
  (7, 13, false, [], .if_icmp .ne 7, 3, [10], []),
  (8, 16, false, [], .iconst 1, 1, [], []),
  (9, 17, false, [], .goto 4, 3, [11], []),
  (10, 20, false, [], .iconst 0, 1, [], []),
  (11, 21, false, [], .ireturn, 1, [1], [])]
theorem l_U_isBusy : (z_hd m_U_isBusy).2.2.1 = 1 := by decide +kernel
theorem k_U_isBusy : z_okM m_U_isBusy c_U_isBusy = true := by decide +kernel
def c_U_top : List z_In := [
  (0, 0, false, [], .aload_n 0, 1, [], []),
  (1, 1, false, [], .getfield 25, 3, [3, 3], [324]),
  (2, 4, false, [], .ifCond .le 26, 3, [15], []),
  (3, 7, false, [], .aload_n 0, 1, [], []),
  (4, 8, false, [], .getfield 25, 3, [3, 3], [324]),
  (5, 11, false, [], .bipush 30, 2, [], []),
  (6, 13, false, [], .if_icmp .gt 17, 3, [15], []),
  (7, 16, false, [], .aload_n 0, 1, [], []),
  (8, 17, false, [], .getfield 11, 3, [3, 0], [318]),
  (9, 20, false, [], .aload_n 0, 1, [], []),
  (10, 21, false, [], .getfield 25, 3, [3, 3], [324]),
  (11, 24, false, [], .iconst 1, 1, [], []),
  (12, 25, false, [], .isub, 1, [], []),
  (13, 26, false, [], .aaload, 1, [500030], []),
  (14, 27, false, [], .goto 4, 3, [16], []),
  (15, 30, false, [], .aconst_null, 1, [], []),
  (16, 31, false, [], .areturn, 1, [], [])]
theorem l_U_top : (z_hd m_U_top).2.2.1 = 1 := by decide +kernel
theorem k_U_top : z_okM m_U_top c_U_top = true := by decide +kernel
def c_U_hasFrameOf : List z_In := [
  (0, 0, false, [], .iconst 0, 1, [], []),
  (1, 1, false, [], .istore_n 2, 1, [], []),
  (2, 2, true, [true, true, true], .iload_n 2, 1, [], []),
  (3, 3, false, [], .aload_n 0, 1, [], []),
  (4, 4, false, [], .getfield 25, 3, [3, 3], [324]),
  (5, 7, false, [], .if_icmp .ge 30, 3, [20], []),
  (6, 10, false, [], .iload_n 2, 1, [], []),
  (7, 11, false, [], .bipush 30, 2, [], []),
  (8, 13, false, [], .if_icmp .ge 24, 3, [20], []),
  (9, 16, false, [], .aload_n 0, 1, [], []),
  (10, 17, false, [], .getfield 11, 3, [3, 0], [318]),
  (11, 20, false, [], .iload_n 2, 1, [], []),
  (12, 21, false, [], .aaload, 1, [500030], []),
  (13, 22, false, [], .getfield 31, 3, [0, 3], [282]),
  (14, 25, false, [], .iload_n 1, 1, [], []),
  (15, 26, false, [], .if_icmp .ne 5, 3, [18], []),
  (16, 29, false, [], .iconst 1, 1, [], []),
  (17, 30, false, [], .ireturn, 1, [1], []),
  (18, 31, false, [], .iinc 2 1, 3, [], []),
  (19, 34, false, [], .goto (-32), 3, [2], []),
  (20, 37, false, [], .iconst 0, 1, [], []),
  (21, 38, false, [], .ireturn, 1, [1], [])]
theorem l_U_hasFrameOf : (z_hd m_U_hasFrameOf).2.2.1 = 3 := by decide +kernel
theorem k_U_hasFrameOf : z_okM m_U_hasFrameOf c_U_hasFrameOf = true := by decide +kernel
def c_U_begin : List z_In := [
  (0, 0, false, [], .aload_n 0, 1, [], []),
  (1, 1, false, [], .getfield 25, 3, [3, 3], [324]),
  (2, 4, false, [], .ifCond .lt 12, 3, [7], []),
  (3, 7, false, [], .aload_n 0, 1, [], []),
  (4, 8, false, [], .getfield 25, 3, [3, 3], [324]),
  (5, 11, false, [], .bipush 30, 2, [], []),
  (6, 13, false, [], .if_icmp .lt 4, 3, [8], []),
  (7, 16, false, [], .return_, 1, [], []),
  (8, 17, false, [], .aload_n 0, 1, [], []),
  (9, 18, false, [], .getfield 11, 3, [3, 0], [318]),
  (10, 21, false, [], .aload_n 0, 1, [], []),
  (11, 22, false, [], .getfield 25, 3, [3, 3], [324]),
  (12, 25, false, [], .aaload, 1, [500030], []),
  (13, 26, false, [], .astore 4, 2, [], []),
  (14, 28, false, [], .aload_n 0, 1, [], []),
  (15, 29, false, [], .dup, 1, [], []),
  (16, 30, false, [], .getfield 25, 3, [3, 3], [324]),
  (17, 33, false, [], .iconst 1, 1, [], []),
  (18, 34, false, [], .iadd, 1, [], []),
  (19, 35, false, [], .putfield 25, 3, [3, 3], [324]),
  (20, 38, false, [], .aload 4, 2, [], []),
  (21, 40, false, [], .iload_n 1, 1, [], []),
  (22, 41, false, [], .putfield 31, 3, [0, 3], [282]),
  (23, 44, false, [], .aload 4, 2, [], []),
  (24, 46, false, [], .aload_n 2, 1, [], []),
  (25, 47, false, [], .putfield 34, 3, [0, 2], [278]),
  (26, 50, false, [], .aload 4, 2, [], []),
  (27, 52, false, [], .iload_n 3, 1, [], []),
  (28, 53, false, [], .putfield 38, 3, [0, 4], [285]),
  (29, 56, false, [], .aload 4, 2, [], []),
  (30, 58, false, [], .aload_n 0, 1, [], []),
  (31, 59, false, [], .getfield 28, 3, [3, 4], [326]),
  (32, 62, false, [], .invokevirtual 41, 3, [1, 1, 0, 0, 1], [506, 508]),
  (33, 65, false, [], .aload_n 0, 1, [], []),
  (34, 66, false, [], .iconst 1, 1, [], []),
  (35, 67, false, [], .putfield 22, 3, [3, 2], [322]),
  (36, 70, false, [], .return_, 1, [], [])]
theorem l_U_begin : (z_hd m_U_begin).2.2.1 = 5 := by decide +kernel
theorem k_U_begin : z_okM m_U_begin c_U_begin = true := by decide +kernel
def c_U_beginsAnew : List z_In := [
  (0, 0, false, [], .iconst 0, 1, [], []),
  (1, 1, false, [], .istore_n 2, 1, [], []),
  (2, 2, true, [true, true, true], .iload_n 2, 1, [], []),
  (3, 3, false, [], .aload_n 0, 1, [], []),
  (4, 4, false, [], .getfield 25, 3, [3, 3], [324]),
  (5, 7, false, [], .if_icmp .ge 56, 3, [36], []),
  (6, 10, false, [], .iload_n 2, 1, [], []),
  (7, 11, false, [], .bipush 30, 2, [], []),
  (8, 13, false, [], .if_icmp .ge 50, 3, [36], []),
  (9, 16, false, [], .aload_n 0, 1, [], []),
  (10, 17, false, [], .getfield 11, 3, [3, 0], [318]),
  (11, 20, false, [], .iload_n 2, 1, [], []),
  (12, 21, false, [], .aaload, 1, [500030], []),
  (13, 22, false, [], .getfield 45, 3, [0, 7], [292]),
  (14, 25, false, [], .iload_n 1, 1, [], []),
  (15, 26, false, [], .iand, 1, [], []),
  (16, 27, false, [], .ifCond .eq 30, 3, [34], []),
  (17, 30, false, [], .aload_n 0, 1, [], []),
  (18, 31, false, [], .getfield 11, 3, [3, 0], [318]),
  (19, 34, false, [], .iload_n 2, 1, [], []),
  (20, 35, false, [], .aaload, 1, [500030], []),
  (21, 36, false, [], .aload_n 0, 1, [], []),
  (22, 37, false, [], .getfield 28, 3, [3, 4], [326]),
  (23, 40, false, [], .invokevirtual 41, 3, [1, 1, 0, 0, 1], [506, 508]),
  (24, 43, false, [], .aload_n 0, 1, [], []),
  (25, 44, false, [], .iload_n 2, 1, [], []),
  (26, 45, false, [], .iconst 1, 1, [], []),
  (27, 46, false, [], .iadd, 1, [], []),
  (28, 47, false, [], .putfield 25, 3, [3, 3], [324]),
  (29, 50, false, [], .aload_n 0, 1, [], []),
  (30, 51, false, [], .iconst 1, 1, [], []),
  (31, 52, false, [], .putfield 22, 3, [3, 2], [322]),
  (32, 55, false, [], .iconst 1, 1, [], []),
  (33, 56, false, [], .ireturn, 1, [1], []),
  (34, 57, false, [], .iinc 2 1, 3, [], []),
  (35, 60, false, [], .goto (-58), 3, [2], []),
  (36, 63, false, [], .iconst 0, 1, [], []),
  (37, 64, false, [], .ireturn, 1, [1], [])]
theorem l_U_beginsAnew : (z_hd m_U_beginsAnew).2.2.1 = 3 := by decide +kernel
theorem k_U_beginsAnew : z_okM m_U_beginsAnew c_U_beginsAnew = true := by decide +kernel
def c_U_give : List z_In := [
  (0, 0, false, [], .aload_n 0, 1, [], []),
  (1, 1, false, [], .invokevirtual 48, 3, [35, 0, 3, 0, 4], [576, 578]),
  (2, 4, false, [], .astore 4, 2, [], []),
  (3, 6, false, [], .aload 4, 2, [], []),
  (4, 8, false, [], .ifnonnull 14, 3, [12], []),
  (5, 11, false, [], .aload_n 0, 1, [], []),
  (6, 12, false, [], .iconst 3, 1, [], []),
  (7, 13, false, [], .putfield 22, 3, [3, 2], [322]),
  (8, 16, false, [], .aload_n 0, 1, [], []),
  (9, 17, false, [], .iload_n 2, 1, [], []),
  (10, 18, false, [], .putfield 52, 3, [3, 7], [332]),
  (11, 21, false, [], .return_, 1, [], []),
  (12, 22, false, [], .aload_n 0, 1, [], []),
  (13, 23, false, [], .iconst 1, 1, [], []),
  (14, 24, false, [], .putfield 22, 3, [3, 2], [322]),
  (15, 27, false, [], .aload 4, 2, [], []),
  (16, 29, false, [], .iload_n 1, 1, [], []),
  (17, 30, false, [], .iload_n 2, 1, [], []),
  (18, 31, false, [], .iload_n 3, 1, [], []),
  (19, 32, false, [], .invokevirtual 55, 3, [8, 3, 0, 0, 1], [580, 582]),
  (20, 35, false, [], .return_, 1, [], [])]
theorem l_U_give : (z_hd m_U_give).2.2.1 = 5 := by decide +kernel
theorem k_U_give : z_okM m_U_give c_U_give = true := by decide +kernel
def c_U_waitFor : List z_In := [
  (0, 0, false, [], .aload_n 0, 1, [], []),
  (1, 1, false, [], .iconst 2, 1, [], []),
  (2, 2, false, [], .putfield 22, 3, [3, 2], [322]),
  (3, 5, false, [], .aload_n 0, 1, [], []),
  (4, 6, false, [], .iload_n 1, 1, [], []),
  (5, 7, false, [], .putfield 59, 3, [3, 5], [328]),
  (6, 10, false, [], .aload_n 0, 1, [], []),
  (7, 11, false, [], .iload_n 2, 1, [], []),
  (8, 12, false, [], .putfield 62, 3, [3, 6], [330]),
  (9, 15, false, [], .return_, 1, [], [])]
theorem l_U_waitFor : (z_hd m_U_waitFor).2.2.1 = 3 := by decide +kernel
theorem k_U_waitFor : z_okM m_U_waitFor c_U_waitFor = true := by decide +kernel
def c_U_failBy : List z_In := [
  (0, 0, false, [], .aload_n 0, 1, [], []),
  (1, 1, false, [], .iconst 4, 1, [], []),
  (2, 2, false, [], .putfield 22, 3, [3, 2], [322]),
  (3, 5, false, [], .aload_n 0, 1, [], []),
  (4, 6, false, [], .iload_n 1, 1, [], []),
  (5, 7, false, [], .putfield 65, 3, [3, 8], [333]),
  (6, 10, false, [], .aload_n 0, 1, [], []),
  (7, 11, false, [], .iconst 0, 1, [], []),
  (8, 12, false, [], .putfield 25, 3, [3, 3], [324]),
  (9, 15, false, [], .return_, 1, [], [])]
theorem l_U_failBy : (z_hd m_U_failBy).2.2.1 = 2 := by decide +kernel
theorem k_U_failBy : z_okM m_U_failBy c_U_failBy = true := by decide +kernel
def c_U_outcome : List z_In := [
  (0, 0, false, [], .aload_n 0, 1, [], []),
  (1, 1, false, [], .getfield 22, 3, [3, 2], [322]),
  (2, 4, false, [], .iconst 4, 1, [], []),
  (3, 5, false, [], .if_icmp .ne 14, 3, [9], []),
  (4, 8, false, [], .sipush (-10000), 3, [], []),
  (5, 11, false, [], .aload_n 0, 1, [], []),
  (6, 12, false, [], .getfield 65, 3, [3, 8], [333]),
  (7, 15, false, [], .isub, 1, [], []),
  (8, 16, false, [], .goto 7, 3, [11], []),
  (9, 19, false, [], .aload_n 0, 1, [], []),
  (10, 20, false, [], .getfield 52, 3, [3, 7], [332]),
  (11, 23, false, [], .ireturn, 1, [0], [])]
theorem l_U_outcome : (z_hd m_U_outcome).2.2.1 = 1 := by decide +kernel
theorem k_U_outcome : z_okM m_U_outcome c_U_outcome = true := by decide +kernel
def c_S_init : List z_In := [
  (0, 0, false, [], .aload_n 0, 1, [], []),
  (1, 1, false, [], .invokespecial 3, 3, [], [150, 92, 93]),
  (2, 4, false, [], .aload_n 0, 1, [], []),
  (3, 5, false, [], .bipush 101, 2, [], []),
  (4, 7, false, [], .anewarray 9, 3, [101, 6], [151]),
  (5, 10, false, [], .putfield 11, 3, [4, 0], [201]),
  (6, 13, false, [], .aload_n 0, 1, [], []),
  (7, 14, false, [], .bipush 101, 2, [], []),
  (8, 16, false, [], .newarray .int, 2, [101], [122]),
  (9, 18, false, [], .putfield 17, 3, [4, 1], [203]),
  (10, 21, false, [], .aload_n 0, 1, [], []),
  (11, 22, false, [], .bipush 60, 2, [], []),
  (12, 24, false, [], .putfield 21, 3, [4, 5], [211]),
  (13, 27, false, [], .aload_n 0, 1, [], []),
  (14, 28, false, [], .sipush 1212, 3, [], []),
  (15, 31, false, [], .anewarray 9, 3, [1212, 6], [151]),
  (16, 34, false, [], .putfield 25, 3, [4, 10], [221]),
  (17, 37, false, [], .iconst 0, 1, [], []),
  (18, 38, false, [], .istore_n 1, 1, [], []),
  (19, 39, true, [true, true], .iload_n 1, 1, [], []),
  (20, 40, false, [], .bipush 101, 2, [], []),
  (21, 42, false, [], .if_icmp .ge 22, 3, [31], []),
  (22, 45, false, [], .aload_n 0, 1, [], []),
  (23, 46, false, [], .getfield 11, 3, [4, 0], [201]),
  (24, 49, false, [], .iload_n 1, 1, [], []),
  (25, 50, false, [], .new 9, 3, [1], [151, 153, 79]),
  (26, 53, false, [], .dup, 1, [], []),
  (27, 54, false, [], .invokespecial 28, 3, [10, 0, 0, 1, 0], []),
  (28, 57, false, [], .aastore, 1, [600101, 1], []),
  (29, 58, false, [], .iinc 1 1, 3, [], []),
  (30, 61, false, [], .goto (-22), 3, [19], []),
  (31, 64, false, [], .return_, 1, [], [])]
theorem l_S_init : (z_hd m_S_init).2.2.1 = 2 := by decide +kernel
theorem k_S_init : z_okM m_S_init c_S_init = true := by decide +kernel
def c_S_find : List z_In := [
  (0, 0, false, [], .iload_n 1, 1, [], []),
  (1, 1, false, [], .ifCond .lt 19, 3, [10], []),
  (2, 4, false, [], .iload_n 1, 1, [], []),
  (3, 5, false, [], .sipush 1212, 3, [], []),
  (4, 8, false, [], .if_icmp .ge 12, 3, [10], []),
  (5, 11, false, [], .aload_n 0, 1, [], []),
  (6, 12, false, [], .getfield 25, 3, [4, 10], [221]),
  (7, 15, false, [], .iload_n 1, 1, [], []),
  (8, 16, false, [], .aaload, 1, [601212], []),
  (9, 17, false, [], .goto 4, 3, [11], []),
  (10, 20, false, [], .aconst_null, 1, [], []),
  (11, 21, false, [], .areturn, 1, [], [])]
theorem l_S_find : (z_hd m_S_find).2.2.1 = 2 := by decide +kernel
theorem k_S_find : z_okM m_S_find c_S_find = true := by decide +kernel
def c_S_byNumber : List z_In := [
  (0, 0, false, [], .iload_n 1, 1, [], []),
  (1, 1, false, [], .istore_n 2, 1, [], []),
  (2, 2, false, [], .aload_n 0, 1, [], []),
  (3, 3, false, [], .getfield 25, 3, [4, 10], [221]),
  (4, 6, false, [], .astore_n 3, 1, [], []),
  (5, 7, false, [], .aload_n 3, 1, [], []),
  (6, 8, false, [], .arraylength, 1, [601212], []),
  (7, 9, false, [], .istore 4, 2, [], []),
  (8, 11, false, [], .iconst 0, 1, [], []),
  (9, 12, false, [], .istore 5, 2, [], []),
  (10, 14, true, [false, false, true, true, true, true, false], .iload 5, 2, [], []),
  (11, 16, false, [], .iload 4, 2, [], []),
  (12, 18, false, [], .if_icmp .ge 33, 3, [27], []),
  (13, 21, false, [], .aload_n 3, 1, [], []),
  (14, 22, false, [], .iload 5, 2, [], []),
  (15, 24, false, [], .aaload, 1, [601212], []),
  (16, 25, false, [], .astore 6, 2, [], []),
  (17, 27, false, [], .aload 6, 2, [], []),
  (18, 29, false, [], .ifnull 16, 3, [25], []),
  (19, 32, false, [], .iload_n 2, 1, [], []),
  (20, 33, false, [], .ifCond .ne 9, 3, [24], []),
  (21, 36, false, [], .aload 6, 2, [], []),
  (22, 38, false, [], .getfield 29, 3, [1, 1], [162]),
  (23, 41, false, [], .ireturn, 1, [0], []),
  (24, 42, false, [], .iinc 2 (-1), 3, [], []),
  (25, 45, true, [false, false, true, true, true, true, false], .iinc 5 1, 3, [], []),
  (26, 48, false, [], .goto (-34), 3, [10], []),
  (27, 51, false, [], .sipush (-20002), 3, [], []),
  (28, 54, false, [], .ireturn, 1, [0], [])]
theorem l_S_byNumber : (z_hd m_S_byNumber).2.2.1 = 7 := by decide +kernel
theorem k_S_byNumber : z_okM m_S_byNumber c_S_byNumber = true := by decide +kernel
def c_S_keep : List z_In := [
  (0, 0, false, [], .aload_n 0, 1, [], []),
  (1, 1, false, [], .aload_n 1, 1, [], []),
  (2, 2, false, [], .getfield 32, 3, [0, 3], [281]),
  (3, 5, false, [], .invokevirtual 35, 3, [44, 1, 3, 0, 5], [690, 590]),
  (4, 8, false, [], .ifnonnull 25, 3, [14], []),
  (5, 11, false, [], .aload_n 1, 1, [], []),
  (6, 12, false, [], .getfield 32, 3, [0, 3], [281]),
  (7, 15, false, [], .sipush 1212, 3, [], []),
  (8, 18, false, [], .invokestatic 39, 3, [96, 2, 1, 0, 0], []),
  (9, 21, false, [], .ifCond .eq 12, 3, [14], []),
  (10, 24, false, [], .aload_n 0, 1, [], []),
  (11, 25, false, [], .getfield 43, 3, [4, 2], [205]),
  (12, 28, false, [], .bipush 101, 2, [], []),
  (13, 30, false, [], .if_icmp .lt 4, 3, [15], []),
  (14, 33, false, [], .return_, 1, [], []),
  (15, 34, false, [], .aload_n 0, 1, [], []),
  (16, 35, false, [], .getfield 11, 3, [4, 0], [201]),
  (17, 38, false, [], .aload_n 0, 1, [], []),
  (18, 39, false, [], .getfield 43, 3, [4, 2], [205]),
  (19, 42, false, [], .aaload, 1, [600101], []),
  (20, 43, false, [], .astore_n 3, 1, [], []),
  (21, 44, false, [], .aload_n 0, 1, [], []),
  (22, 45, false, [], .dup, 1, [], []),
  (23, 46, false, [], .getfield 43, 3, [4, 2], [205]),
  (24, 49, false, [], .iconst 1, 1, [], []),
  (25, 50, false, [], .iadd, 1, [], []),
  (26, 51, false, [], .putfield 43, 3, [4, 2], [205]),
  (27, 54, false, [], .aload_n 3, 1, [], []),
  (28, 55, false, [], .aload_n 1, 1, [], []),
  (29, 56, false, [], .iload_n 2, 1, [], []),
  (30, 57, false, [], .invokevirtual 46, 3, [11, 2, 0, 0, 2], [692, 694]),
  (31, 60, false, [], .aload_n 0, 1, [], []),
  (32, 61, false, [], .getfield 25, 3, [4, 10], [221]),
  (33, 64, false, [], .aload_n 3, 1, [], []),
  (34, 65, false, [], .getfield 29, 3, [1, 1], [162]),
  (35, 68, false, [], .aload_n 3, 1, [], []),
  (36, 69, false, [], .aastore, 1, [601212, 1], []),
  (37, 70, false, [], .aload_n 0, 1, [], []),
  (38, 71, false, [], .dup, 1, [], []),
  (39, 72, false, [], .getfield 50, 3, [4, 3], [207]),
  (40, 75, false, [], .aload_n 3, 1, [], []),
  (41, 76, false, [], .getfield 53, 3, [1, 4], [168]),
  (42, 79, false, [], .iadd, 1, [], []),
  (43, 80, false, [], .putfield 50, 3, [4, 3], [207]),
  (44, 83, false, [], .aload_n 0, 1, [], []),
  (45, 84, false, [], .dup, 1, [], []),
  (46, 85, false, [], .getfield 56, 3, [4, 9], [219]),
  (47, 88, false, [], .iconst 1, 1, [], []),
  (48, 89, false, [], .iadd, 1, [], []),
  (49, 90, false, [], .putfield 56, 3, [4, 9], [219]),
  (50, 93, false, [], .aload_n 0, 1, [], []),
  (51, 94, false, [], .invokevirtual 59, 3, [47, 0, 0, 0, 5], [704, 706]),
  (52, 97, false, [], .return_, 1, [], [])]
theorem l_S_keep : (z_hd m_S_keep).2.2.1 = 4 := by decide +kernel
theorem k_S_keep : z_okM m_S_keep c_S_keep = true := by decide +kernel
def c_S_shrink : List z_In := [
  (0, 0, false, [], .iconst 0, 1, [], []),
  (1, 1, false, [], .istore_n 1, 1, [], []),
  (2, 2, true, [true, true], .iload_n 1, 1, [], []),
  (3, 3, false, [], .bipush 101, 2, [], []),
  (4, 5, false, [], .if_icmp .ge 45, 3, [25], []),
  (5, 8, false, [], .aload_n 0, 1, [], []),
  (6, 9, false, [], .getfield 43, 3, [4, 2], [205]),
  (7, 12, false, [], .ifCond .le 38, 3, [25], []),
  (8, 15, false, [], .aload_n 0, 1, [], []),
  (9, 16, false, [], .getfield 50, 3, [4, 3], [207]),
  (10, 19, false, [], .aload_n 0, 1, [], []),
  (11, 20, false, [], .getfield 21, 3, [4, 5], [211]),
  (12, 23, false, [], .if_icmp .le 27, 3, [25], []),
  (13, 26, false, [], .aload_n 0, 1, [], []),
  (14, 27, false, [], .aload_n 0, 1, [], []),
  (15, 28, false, [], .invokevirtual 62, 3, [48, 0, 1, 0, 5], [708, 710]),
  (16, 31, false, [], .invokevirtual 66, 3, [49, 1, 0, 0, 5], [514, 15]),
  (17, 34, false, [], .aload_n 0, 1, [], []),
  (18, 35, false, [], .dup, 1, [], []),
  (19, 36, false, [], .getfield 70, 3, [4, 8], [217]),
  (20, 39, false, [], .iconst 1, 1, [], []),
  (21, 40, false, [], .iadd, 1, [], []),
  (22, 41, false, [], .putfield 70, 3, [4, 8], [217]),
  (23, 44, false, [], .iinc 1 1, 3, [], []),
  (24, 47, false, [], .goto (-45), 3, [2], []),
  (25, 50, false, [], .return_, 1, [], [])]
theorem l_S_shrink : (z_hd m_S_shrink).2.2.1 = 2 := by decide +kernel
theorem k_S_shrink : z_okM m_S_shrink c_S_shrink = true := by decide +kernel
def c_S_leastWorth : List z_In := [
  (0, 0, false, [], .iconst 0, 1, [], []),
  (1, 1, false, [], .istore_n 1, 1, [], []),
  (2, 2, false, [], .iconst 1, 1, [], []),
  (3, 3, false, [], .istore_n 2, 1, [], []),
  (4, 4, true, [true, true, true, false, false], .iload_n 2, 1, [], []),
  (5, 5, false, [], .aload_n 0, 1, [], []),
  (6, 6, false, [], .getfield 43, 3, [4, 2], [205]),
  (7, 9, false, [], .if_icmp .ge 79, 3, [48], []),
  (8, 12, false, [], .iload_n 2, 1, [], []),
  (9, 13, false, [], .bipush 101, 2, [], []),
  (10, 15, false, [], .if_icmp .ge 73, 3, [48], []),
  (11, 18, false, [], .aload_n 0, 1, [], []),
  (12, 19, false, [], .getfield 11, 3, [4, 0], [201]),
  (13, 22, false, [], .iload_n 2, 1, [], []),
  (14, 23, false, [], .aaload, 1, [600101], []),
  (15, 24, false, [], .aload_n 0, 1, [], []),
  (16, 25, false, [], .getfield 73, 3, [4, 6], [213]),
  (17, 28, false, [], .invokevirtual 76, 3, [14, 1, 1, 0, 2], [712, 714]),
  (18, 31, false, [], .istore_n 3, 1, [], []),
  (19, 32, false, [], .aload_n 0, 1, [], []),
  (20, 33, false, [], .getfield 11, 3, [4, 0], [201]),
  (21, 36, false, [], .iload_n 1, 1, [], []),
  (22, 37, false, [], .aaload, 1, [600101], []),
  (23, 38, false, [], .aload_n 0, 1, [], []),
  (24, 39, false, [], .getfield 73, 3, [4, 6], [213]),
  (25, 42, false, [], .invokevirtual 76, 3, [14, 1, 1, 0, 2], [712, 714]),
  (26, 45, false, [], .istore 4, 2, [], []),
  (27, 47, false, [], .iload_n 3, 1, [], []),
  (28, 48, false, [], .iload 4, 2, [], []),
  (29, 50, false, [], .if_icmp .lt 30, 3, [44], []),
  (30, 53, false, [], .iload_n 3, 1, [], []),
  (31, 54, false, [], .iload 4, 2, [], []),
  (32, 56, false, [], .if_icmp .ne 26, 3, [46], []),
  (33, 59, false, [], .aload_n 0, 1, [], []),
  (34, 60, false, [], .getfield 11, 3, [4, 0], [201]),
  (35, 63, false, [], .iload_n 2, 1, [], []),
  (36, 64, false, [], .aaload, 1, [600101], []),
  (37, 65, false, [], .getfield 29, 3, [1, 1], [162]),
  (38, 68, false, [], .aload_n 0, 1, [], []),
  (39, 69, false, [], .getfield 11, 3, [4, 0], [201]),
  (40, 72, false, [], .iload_n 1, 1, [], []),
  (41, 73, false, [], .aaload, 1, [600101], []),
  (42, 74, false, [], .getfield 29, 3, [1, 1], [162]),
  (43, 77, false, [], .if_icmp .ge 5, 3, [46], []),
  (44, 80, true, [true, false, true, false, false], .iload_n 2, 1, [], []),
  (45, 81, false, [], .istore_n 1, 1, [], []),
  (46, 82, true, [true, true, true, false, false], .iinc 2 1, 3, [], []),
  (47, 85, false, [], .goto (-81), 3, [4], []),
  (48, 88, false, [], .iload_n 1, 1, [], []),
  (49, 89, false, [], .ireturn, 1, [0], [])]
theorem l_S_leastWorth : (z_hd m_S_leastWorth).2.2.1 = 5 := by decide +kernel
theorem k_S_leastWorth : z_okM m_S_leastWorth c_S_leastWorth = true := by decide +kernel
def c_S_remove : List z_In := [
  (0, 0, false, [], .iload_n 1, 1, [], []),
  (1, 1, false, [], .ifCond .lt 11, 3, [6], []),
  (2, 4, false, [], .iload_n 1, 1, [], []),
  (3, 5, false, [], .aload_n 0, 1, [], []),
  (4, 6, false, [], .getfield 43, 3, [4, 2], [205]),
  (5, 9, false, [], .if_icmp .lt 4, 3, [7], []),
  (6, 12, false, [], .return_, 1, [], []),
  (7, 13, false, [], .aload_n 0, 1, [], []),
  (8, 14, false, [], .getfield 11, 3, [4, 0], [201]),
  (9, 17, false, [], .iload_n 1, 1, [], []),
  (10, 18, false, [], .aaload, 1, [600101], []),
  (11, 19, false, [], .astore_n 2, 1, [], []),
  (12, 20, false, [], .aload_n 0, 1, [], []),
  (13, 21, false, [], .getfield 25, 3, [4, 10], [221]),
  (14, 24, false, [], .aload_n 2, 1, [], []),
  (15, 25, false, [], .getfield 29, 3, [1, 1], [162]),
  (16, 28, false, [], .aconst_null, 1, [], []),
  (17, 29, false, [], .aastore, 1, [601212, 1], []),
  (18, 30, false, [], .aload_n 0, 1, [], []),
  (19, 31, false, [], .dup, 1, [], []),
  (20, 32, false, [], .getfield 50, 3, [4, 3], [207]),
  (21, 35, false, [], .aload_n 2, 1, [], []),
  (22, 36, false, [], .getfield 53, 3, [1, 4], [168]),
  (23, 39, false, [], .isub, 1, [], []),
  (24, 40, false, [], .putfield 50, 3, [4, 3], [207]),
  (25, 43, false, [], .aload_n 0, 1, [], []),
  (26, 44, false, [], .dup, 1, [], []),
  (27, 45, false, [], .getfield 43, 3, [4, 2], [205]),
  (28, 48, false, [], .iconst 1, 1, [], []),
  (29, 49, false, [], .isub, 1, [], []),
  (30, 50, false, [], .putfield 43, 3, [4, 2], [205]),
  (31, 53, false, [], .iload_n 1, 1, [], []),
  (32, 54, false, [], .istore_n 3, 1, [], []),
  (33, 55, true, [true, false, true, true], .iload_n 3, 1, [], []),
  (34, 56, false, [], .aload_n 0, 1, [], []),
  (35, 57, false, [], .getfield 43, 3, [4, 2], [205]),
  (36, 60, false, [], .if_icmp .ge 23, 3, [49], []),
  (37, 63, false, [], .aload_n 0, 1, [], []),
  (38, 64, false, [], .getfield 11, 3, [4, 0], [201]),
  (39, 67, false, [], .iload_n 3, 1, [], []),
  (40, 68, false, [], .aload_n 0, 1, [], []),
  (41, 69, false, [], .getfield 11, 3, [4, 0], [201]),
  (42, 72, false, [], .iload_n 3, 1, [], []),
  (43, 73, false, [], .iconst 1, 1, [], []),
  (44, 74, false, [], .iadd, 1, [], []),
  (45, 75, false, [], .aaload, 1, [600101], []),
  (46, 76, false, [], .aastore, 1, [600101, 1], []),
  (47, 77, false, [], .iinc 3 1, 3, [], []),
  (48, 80, false, [], .goto (-25), 3, [33], []),
  (49, 83, false, [], .aload_n 0, 1, [], []),
  (50, 84, false, [], .getfield 11, 3, [4, 0], [201]),
  (51, 87, false, [], .aload_n 0, 1, [], []),
  (52, 88, false, [], .getfield 43, 3, [4, 2], [205]),
  (53, 91, false, [], .aload_n 2, 1, [], []),
  (54, 92, false, [], .aastore, 1, [600101, 1], []),
  (55, 93, false, [], .return_, 1, [], [])]
theorem l_S_remove : (z_hd m_S_remove).2.2.1 = 4 := by decide +kernel
theorem k_S_remove : z_okM m_S_remove c_S_remove = true := by decide +kernel
def c_S_throwOut : List z_In := [
  (0, 0, false, [], .aload_n 0, 1, [], []),
  (1, 1, false, [], .iconst 0, 1, [], []),
  (2, 2, false, [], .putfield 80, 3, [4, 4], [209]),
  (3, 5, false, [], .iconst 0, 1, [], []),
  (4, 6, false, [], .istore_n 2, 1, [], []),
  (5, 7, false, [], .aload_n 0, 1, [], []),
  (6, 8, false, [], .getfield 43, 3, [4, 2], [205]),
  (7, 11, false, [], .istore_n 3, 1, [], []),
  (8, 12, true, [true, true, true, true], .iload_n 3, 1, [], []),
  (9, 13, false, [], .ifCond .le 62, 3, [41], []),
  (10, 16, false, [], .aload_n 0, 1, [], []),
  (11, 17, false, [], .getfield 11, 3, [4, 0], [201]),
  (12, 20, false, [], .iload_n 2, 1, [], []),
  (13, 21, false, [], .aaload, 1, [600101], []),
  (14, 22, false, [], .getfield 83, 3, [1, 7], [174]),
  (15, 25, false, [], .iload_n 1, 1, [], []),
  (16, 26, false, [], .iand, 1, [], []),
  (17, 27, false, [], .ifCond .ne 9, 3, [20], []),
  (18, 30, false, [], .iinc 2 1, 3, [], []),
  (19, 33, false, [], .goto 36, 3, [39], []),
  (20, 36, false, [], .aload_n 0, 1, [], []),
  (21, 37, false, [], .getfield 17, 3, [4, 1], [203]),
  (22, 40, false, [], .aload_n 0, 1, [], []),
  (23, 41, false, [], .getfield 80, 3, [4, 4], [209]),
  (24, 44, false, [], .aload_n 0, 1, [], []),
  (25, 45, false, [], .getfield 11, 3, [4, 0], [201]),
  (26, 48, false, [], .iload_n 2, 1, [], []),
  (27, 49, false, [], .aaload, 1, [600101], []),
  (28, 50, false, [], .getfield 29, 3, [1, 1], [162]),
  (29, 53, false, [], .iastore, 1, [100101], []),
  (30, 54, false, [], .aload_n 0, 1, [], []),
  (31, 55, false, [], .dup, 1, [], []),
  (32, 56, false, [], .getfield 80, 3, [4, 4], [209]),
  (33, 59, false, [], .iconst 1, 1, [], []),
  (34, 60, false, [], .iadd, 1, [], []),
  (35, 61, false, [], .putfield 80, 3, [4, 4], [209]),
  (36, 64, false, [], .aload_n 0, 1, [], []),
  (37, 65, false, [], .iload_n 2, 1, [], []),
  (38, 66, false, [], .invokevirtual 66, 3, [49, 1, 0, 0, 5], [514, 15]),
  (39, 69, true, [true, true, true, true], .iinc 3 (-1), 3, [], []),
  (40, 72, false, [], .goto (-60), 3, [8], []),
  (41, 75, false, [], .aload_n 0, 1, [], []),
  (42, 76, false, [], .dup, 1, [], []),
  (43, 77, false, [], .getfield 86, 3, [4, 7], [215]),
  (44, 80, false, [], .aload_n 0, 1, [], []),
  (45, 81, false, [], .getfield 80, 3, [4, 4], [209]),
  (46, 84, false, [], .iadd, 1, [], []),
  (47, 85, false, [], .putfield 86, 3, [4, 7], [215]),
  (48, 88, false, [], .aload_n 0, 1, [], []),
  (49, 89, false, [], .getfield 80, 3, [4, 4], [209]),
  (50, 92, false, [], .ireturn, 1, [0], [])]
theorem l_S_throwOut : (z_hd m_S_throwOut).2.2.1 = 4 := by decide +kernel
theorem k_S_throwOut : z_okM m_S_throwOut c_S_throwOut = true := by decide +kernel
def c_S_empty : List z_In := [
  (0, 0, false, [], .aload_n 0, 1, [], []),
  (1, 1, false, [], .getfield 43, 3, [4, 2], [205]),
  (2, 4, false, [], .istore_n 1, 1, [], []),
  (3, 5, false, [], .iconst 0, 1, [], []),
  (4, 6, false, [], .istore_n 2, 1, [], []),
  (5, 7, true, [true, true, true], .iload_n 2, 1, [], []),
  (6, 8, false, [], .iload_n 1, 1, [], []),
  (7, 9, false, [], .if_icmp .ge 24, 3, [19], []),
  (8, 12, false, [], .aload_n 0, 1, [], []),
  (9, 13, false, [], .getfield 25, 3, [4, 10], [221]),
  (10, 16, false, [], .aload_n 0, 1, [], []),
  (11, 17, false, [], .getfield 11, 3, [4, 0], [201]),
  (12, 20, false, [], .iload_n 2, 1, [], []),
  (13, 21, false, [], .aaload, 1, [600101], []),
  (14, 22, false, [], .getfield 29, 3, [1, 1], [162]),
  (15, 25, false, [], .aconst_null, 1, [], []),
  (16, 26, false, [], .aastore, 1, [601212, 1], []),
  (17, 27, false, [], .iinc 2 1, 3, [], []),
  (18, 30, false, [], .goto (-23), 3, [5], []),
  (19, 33, false, [], .aload_n 0, 1, [], []),
  (20, 34, false, [], .iconst 0, 1, [], []),
  (21, 35, false, [], .putfield 43, 3, [4, 2], [205]),
  (22, 38, false, [], .aload_n 0, 1, [], []),
  (23, 39, false, [], .iconst 0, 1, [], []),
  (24, 40, false, [], .putfield 50, 3, [4, 3], [207]),
  (25, 43, false, [], .iload_n 1, 1, [], []),
  (26, 44, false, [], .ireturn, 1, [0], [])]
theorem l_S_empty : (z_hd m_S_empty).2.2.1 = 3 := by decide +kernel
theorem k_S_empty : z_okM m_S_empty c_S_empty = true := by decide +kernel
def c_S_users : List z_In := [
  (0, 0, false, [], .iconst 0, 1, [], []),
  (1, 1, false, [], .istore_n 2, 1, [], []),
  (2, 2, false, [], .iconst 0, 1, [], []),
  (3, 3, false, [], .istore_n 3, 1, [], []),
  (4, 4, true, [true, true, true, true], .iload_n 3, 1, [], []),
  (5, 5, false, [], .aload_n 0, 1, [], []),
  (6, 6, false, [], .getfield 43, 3, [4, 2], [205]),
  (7, 9, false, [], .if_icmp .ge 26, 3, [19], []),
  (8, 12, false, [], .aload_n 0, 1, [], []),
  (9, 13, false, [], .getfield 11, 3, [4, 0], [201]),
  (10, 16, false, [], .iload_n 3, 1, [], []),
  (11, 17, false, [], .aaload, 1, [600101], []),
  (12, 18, false, [], .getfield 83, 3, [1, 7], [174]),
  (13, 21, false, [], .iload_n 1, 1, [], []),
  (14, 22, false, [], .iand, 1, [], []),
  (15, 23, false, [], .ifCond .eq 6, 3, [17], []),
  (16, 26, false, [], .iinc 2 1, 3, [], []),
  (17, 29, true, [true, true, true, true], .iinc 3 1, 3, [], []),
  (18, 32, false, [], .goto (-28), 3, [4], []),
  (19, 35, false, [], .iload_n 2, 1, [], []),
  (20, 36, false, [], .ireturn, 1, [0], [])]
theorem l_S_users : (z_hd m_S_users).2.2.1 = 4 := by decide +kernel
theorem k_S_users : z_okM m_S_users c_S_users = true := by decide +kernel
def c_S_heirsOf : List z_In := [
  (0, 0, false, [], .aload_n 0, 1, [], []),
  (1, 1, false, [], .iconst 0, 1, [], []),
  (2, 2, false, [], .invokevirtual 89, 3, [55, 1, 0, 0, 5], [781, 30]),
  (3, 5, false, [], .aload_n 1, 1, [], []),
  (4, 6, false, [], .iconst 1, 1, [], []),
  (5, 7, false, [], .putfield 92, 3, [1, 9], [179]),
  (6, 10, false, [], .iconst 0, 1, [], []),
  (7, 11, false, [], .istore_n 2, 1, [], []),
  (8, 12, false, [], .iconst 1, 1, [], []),
  (9, 13, false, [], .istore_n 3, 1, [], []),
  (10, 14, false, [], .iconst 0, 1, [], []),
  (11, 15, false, [], .istore 4, 2, [], []),
  (12, 17, true, [true, false, true, true, true, false], .iload 4, 2, [], []),
  (13, 19, false, [], .bipush 101, 2, [], []),
  (14, 21, false, [], .if_icmp .ge 78, 3, [53], []),
  (15, 24, false, [], .iload_n 3, 1, [], []),
  (16, 25, false, [], .ifCond .le 74, 3, [53], []),
  (17, 28, false, [], .iconst 0, 1, [], []),
  (18, 29, false, [], .istore_n 3, 1, [], []),
  (19, 30, false, [], .iconst 0, 1, [], []),
  (20, 31, false, [], .istore 5, 2, [], []),
  (21, 33, true, [true, false, true, true, true, true], .iload 5, 2, [], []),
  (22, 35, false, [], .aload_n 0, 1, [], []),
  (23, 36, false, [], .getfield 43, 3, [4, 2], [205]),
  (24, 39, false, [], .if_icmp .ge 50, 3, [47], []),
  (25, 42, false, [], .aload_n 0, 1, [], []),
  (26, 43, false, [], .getfield 11, 3, [4, 0], [201]),
  (27, 46, false, [], .iload 5, 2, [], []),
  (28, 48, false, [], .aaload, 1, [600101], []),
  (29, 49, false, [], .getfield 92, 3, [1, 9], [179]),
  (30, 52, false, [], .ifCond .ne 31, 3, [45], []),
  (31, 55, false, [], .aload_n 0, 1, [], []),
  (32, 56, false, [], .aload_n 0, 1, [], []),
  (33, 57, false, [], .getfield 11, 3, [4, 0], [201]),
  (34, 60, false, [], .iload 5, 2, [], []),
  (35, 62, false, [], .aaload, 1, [600101], []),
  (36, 63, false, [], .invokevirtual 95, 3, [56, 1, 1, 0, 5], [785, 31]),
  (37, 66, false, [], .ifCond .le 17, 3, [45], []),
  (38, 69, false, [], .aload_n 0, 1, [], []),
  (39, 70, false, [], .getfield 11, 3, [4, 0], [201]),
  (40, 73, false, [], .iload 5, 2, [], []),
  (41, 75, false, [], .aaload, 1, [600101], []),
  (42, 76, false, [], .iconst 1, 1, [], []),
  (43, 77, false, [], .putfield 92, 3, [1, 9], [179]),
  (44, 80, false, [], .iinc 3 1, 3, [], []),
  (45, 83, true, [true, false, true, true, true, true], .iinc 5 1, 3, [], []),
  (46, 86, false, [], .goto (-53), 3, [21], []),
  (47, 89, false, [], .iload_n 2, 1, [], []),
  (48, 90, false, [], .iload_n 3, 1, [], []),
  (49, 91, false, [], .iadd, 1, [], []),
  (50, 92, false, [], .istore_n 2, 1, [], []),
  (51, 93, false, [], .iinc 4 1, 3, [], []),
  (52, 96, false, [], .goto (-79), 3, [12], []),
  (53, 99, false, [], .iload_n 2, 1, [], []),
  (54, 100, false, [], .ireturn, 1, [0], [])]
theorem l_S_heirsOf : (z_hd m_S_heirsOf).2.2.1 = 6 := by decide +kernel
theorem k_S_heirsOf : z_okM m_S_heirsOf c_S_heirsOf = true := by decide +kernel
def c_S_chainFrom : List z_In := [
  (0, 0, false, [], .aload_n 0, 1, [], []),
  (1, 1, false, [], .iconst 1, 1, [], []),
  (2, 2, false, [], .invokevirtual 89, 3, [55, 1, 0, 0, 5], [781, 30]),
  (3, 5, false, [], .iconst 1, 1, [], []),
  (4, 6, false, [], .istore_n 2, 1, [], []),
  (5, 7, false, [], .iconst 0, 1, [], []),
  (6, 8, false, [], .istore_n 3, 1, [], []),
  (7, 9, true, [true, true, true, true, false, false], .iload_n 3, 1, [], []),
  (8, 10, false, [], .bipush 101, 2, [], []),
  (9, 12, false, [], .if_icmp .ge 77, 3, [48], []),
  (10, 15, false, [], .iload_n 2, 1, [], []),
  (11, 16, false, [], .ifCond .eq 73, 3, [48], []),
  (12, 19, false, [], .iconst 0, 1, [], []),
  (13, 20, false, [], .istore_n 2, 1, [], []),
  (14, 21, false, [], .iconst 0, 1, [], []),
  (15, 22, false, [], .istore 4, 2, [], []),
  (16, 24, true, [true, true, true, true, true, false], .iload 4, 2, [], []),
  (17, 26, false, [], .aload_n 0, 1, [], []),
  (18, 27, false, [], .getfield 43, 3, [4, 2], [205]),
  (19, 30, false, [], .if_icmp .ge 53, 3, [46], []),
  (20, 33, false, [], .iconst 1, 1, [], []),
  (21, 34, false, [], .aload_n 0, 1, [], []),
  (22, 35, false, [], .aload_n 0, 1, [], []),
  (23, 36, false, [], .getfield 11, 3, [4, 0], [201]),
  (24, 39, false, [], .iload 4, 2, [], []),
  (25, 41, false, [], .aaload, 1, [600101], []),
  (26, 42, false, [], .invokevirtual 95, 3, [56, 1, 1, 0, 5], [785, 31]),
  (27, 45, false, [], .iadd, 1, [], []),
  (28, 46, false, [], .istore 5, 2, [], []),
  (29, 48, false, [], .iload 5, 2, [], []),
  (30, 50, false, [], .aload_n 0, 1, [], []),
  (31, 51, false, [], .getfield 11, 3, [4, 0], [201]),
  (32, 54, false, [], .iload 4, 2, [], []),
  (33, 56, false, [], .aaload, 1, [600101], []),
  (34, 57, false, [], .getfield 92, 3, [1, 9], [179]),
  (35, 60, false, [], .if_icmp .le 17, 3, [44], []),
  (36, 63, false, [], .aload_n 0, 1, [], []),
  (37, 64, false, [], .getfield 11, 3, [4, 0], [201]),
  (38, 67, false, [], .iload 4, 2, [], []),
  (39, 69, false, [], .aaload, 1, [600101], []),
  (40, 70, false, [], .iload 5, 2, [], []),
  (41, 72, false, [], .putfield 92, 3, [1, 9], [179]),
  (42, 75, false, [], .iconst 1, 1, [], []),
  (43, 76, false, [], .istore_n 2, 1, [], []),
  (44, 77, true, [true, true, true, true, true, false], .iinc 4 1, 3, [], []),
  (45, 80, false, [], .goto (-56), 3, [16], []),
  (46, 83, false, [], .iinc 3 1, 3, [], []),
  (47, 86, false, [], .goto (-77), 3, [7], []),
  (48, 89, false, [], .aload_n 1, 1, [], []),
  (49, 90, false, [], .getfield 92, 3, [1, 9], [179]),
  (50, 93, false, [], .ireturn, 1, [0], [])]
theorem l_S_chainFrom : (z_hd m_S_chainFrom).2.2.1 = 6 := by decide +kernel
theorem k_S_chainFrom : z_okM m_S_chainFrom c_S_chainFrom = true := by decide +kernel
def c_S_markAll : List z_In := [
  (0, 0, false, [], .iconst 0, 1, [], []),
  (1, 1, false, [], .istore_n 2, 1, [], []),
  (2, 2, true, [true, true, true], .iload_n 2, 1, [], []),
  (3, 3, false, [], .aload_n 0, 1, [], []),
  (4, 4, false, [], .getfield 43, 3, [4, 2], [205]),
  (5, 7, false, [], .if_icmp .ge 19, 3, [14], []),
  (6, 10, false, [], .aload_n 0, 1, [], []),
  (7, 11, false, [], .getfield 11, 3, [4, 0], [201]),
  (8, 14, false, [], .iload_n 2, 1, [], []),
  (9, 15, false, [], .aaload, 1, [600101], []),
  (10, 16, false, [], .iload_n 1, 1, [], []),
  (11, 17, false, [], .putfield 92, 3, [1, 9], [179]),
  (12, 20, false, [], .iinc 2 1, 3, [], []),
  (13, 23, false, [], .goto (-21), 3, [2], []),
  (14, 26, false, [], .return_, 1, [], [])]
theorem l_S_markAll : (z_hd m_S_markAll).2.2.1 = 3 := by decide +kernel
theorem k_S_markAll : z_okM m_S_markAll c_S_markAll = true := by decide +kernel
def c_S_mostMarkAsked : List z_In := [
  (0, 0, false, [], .iconst 0, 1, [], []),
  (1, 1, false, [], .istore_n 2, 1, [], []),
  (2, 2, false, [], .iconst 0, 1, [], []),
  (3, 3, false, [], .istore_n 3, 1, [], []),
  (4, 4, true, [true, true, true, true, false], .iload_n 3, 1, [], []),
  (5, 5, false, [], .aload_n 1, 1, [], []),
  (6, 6, false, [], .getfield 99, 3, [1, 8], [178]),
  (7, 9, false, [], .if_icmp .ge 41, 3, [26], []),
  (8, 12, false, [], .aload_n 0, 1, [], []),
  (9, 13, false, [], .aload_n 1, 1, [], []),
  (10, 14, false, [], .getfield 102, 3, [1, 0], [160]),
  (11, 17, false, [], .iload_n 3, 1, [], []),
  (12, 18, false, [], .iaload, 1, [100025], []),
  (13, 19, false, [], .invokevirtual 35, 3, [44, 1, 3, 0, 5], [690, 590]),
  (14, 22, false, [], .astore 4, 2, [], []),
  (15, 24, false, [], .aload 4, 2, [], []),
  (16, 26, false, [], .ifnull 18, 3, [24], []),
  (17, 29, false, [], .aload 4, 2, [], []),
  (18, 31, false, [], .getfield 92, 3, [1, 9], [179]),
  (19, 34, false, [], .iload_n 2, 1, [], []),
  (20, 35, false, [], .if_icmp .le 9, 3, [24], []),
  (21, 38, false, [], .aload 4, 2, [], []),
  (22, 40, false, [], .getfield 92, 3, [1, 9], [179]),
  (23, 43, false, [], .istore_n 2, 1, [], []),
  (24, 44, true, [true, true, true, true, false], .iinc 3 1, 3, [], []),
  (25, 47, false, [], .goto (-43), 3, [4], []),
  (26, 50, false, [], .iload_n 2, 1, [], []),
  (27, 51, false, [], .ireturn, 1, [0], [])]
theorem l_S_mostMarkAsked : (z_hd m_S_mostMarkAsked).2.2.1 = 5 := by decide +kernel
theorem k_S_mostMarkAsked : z_okM m_S_mostMarkAsked c_S_mostMarkAsked = true := by decide +kernel
def c_T_init : List z_In := [
  (0, 0, false, [], .aload_n 0, 1, [], []),
  (1, 1, false, [], .invokespecial 3, 3, [], [107, 92, 93]),
  (2, 4, false, [], .aload_n 0, 1, [], []),
  (3, 5, false, [], .bipush 100, 2, [], []),
  (4, 7, false, [], .newarray .int, 2, [100], [122]),
  (5, 9, false, [], .putfield 9, 3, [5, 0], [108]),
  (6, 12, false, [], .return_, 1, [], [])]
theorem l_T_init : (z_hd m_T_init).2.2.1 = 1 := by decide +kernel
theorem k_T_init : z_okM m_T_init c_T_init = true := by decide +kernel
def c_T_stands : List z_In := [
  (0, 0, false, [], .aload_n 0, 1, [], []),
  (1, 1, false, [], .getfield 15, 3, [5, 1], [110]),
  (2, 4, false, [], .ifCond .le 7, 3, [5], []),
  (3, 7, false, [], .iconst 1, 1, [], []),
  (4, 8, false, [], .goto 4, 3, [6], []),
  (5, 11, false, [], .iconst 0, 1, [], []),
  (6, 12, false, [], .ireturn, 1, [1], [])]
theorem l_T_stands : (z_hd m_T_stands).2.2.1 = 1 := by decide +kernel
theorem k_T_stands : z_okM m_T_stands c_T_stands = true := by decide +kernel
def c_T_empty : List z_In := [
  (0, 0, false, [], .aload_n 0, 1, [], []),
  (1, 1, false, [], .iconst 0, 1, [], []),
  (2, 2, false, [], .putfield 15, 3, [5, 1], [110]),
  (3, 5, false, [], .aload_n 0, 1, [], []),
  (4, 6, false, [], .iconst 0, 1, [], []),
  (5, 7, false, [], .putfield 19, 3, [5, 2], [113]),
  (6, 10, false, [], .return_, 1, [], [])]
theorem l_T_empty : (z_hd m_T_empty).2.2.1 = 1 := by decide +kernel
theorem k_T_empty : z_okM m_T_empty c_T_empty = true := by decide +kernel
def c_T_become : List z_In := [
  (0, 0, false, [], .aload_n 1, 1, [], []),
  (1, 1, false, [], .getfield 9, 3, [5, 0], [108]),
  (2, 4, false, [], .iconst 0, 1, [], []),
  (3, 5, false, [], .aload_n 0, 1, [], []),
  (4, 6, false, [], .getfield 9, 3, [5, 0], [108]),
  (5, 9, false, [], .iconst 0, 1, [], []),
  (6, 10, false, [], .aload_n 1, 1, [], []),
  (7, 11, false, [], .getfield 15, 3, [5, 1], [110]),
  (8, 14, false, [], .invokestatic 22, 3, [100100, 100100], [491, 493, 492, 84]),
  (9, 17, false, [], .aload_n 0, 1, [], []),
  (10, 18, false, [], .aload_n 1, 1, [], []),
  (11, 19, false, [], .getfield 15, 3, [5, 1], [110]),
  (12, 22, false, [], .putfield 15, 3, [5, 1], [110]),
  (13, 25, false, [], .aload_n 0, 1, [], []),
  (14, 26, false, [], .aload_n 1, 1, [], []),
  (15, 27, false, [], .getfield 19, 3, [5, 2], [113]),
  (16, 30, false, [], .putfield 19, 3, [5, 2], [113]),
  (17, 33, false, [], .return_, 1, [], [])]
theorem l_T_become : (z_hd m_T_become).2.2.1 = 2 := by decide +kernel
theorem k_T_become : z_okM m_T_become c_T_become = true := by decide +kernel
def c_T_put : List z_In := [
  (0, 0, false, [], .aload_n 0, 1, [], []),
  (1, 1, false, [], .getfield 15, 3, [5, 1], [110]),
  (2, 4, false, [], .bipush 100, 2, [], []),
  (3, 6, false, [], .if_icmp .ge 47, 3, [31], []),
  (4, 9, false, [], .aload_n 0, 1, [], []),
  (5, 10, false, [], .getfield 9, 3, [5, 0], [108]),
  (6, 13, false, [], .aload_n 0, 1, [], []),
  (7, 14, false, [], .getfield 15, 3, [5, 1], [110]),
  (8, 17, false, [], .iload_n 2, 1, [], []),
  (9, 18, false, [], .iconst 4, 1, [], []),
  (10, 19, false, [], .ishl, 1, [], []),
  (11, 20, false, [], .iload_n 1, 1, [], []),
  (12, 21, false, [], .ior, 1, [], []),
  (13, 22, false, [], .iastore, 1, [100100], []),
  (14, 23, false, [], .aload_n 0, 1, [], []),
  (15, 24, false, [], .dup, 1, [], []),
  (16, 25, false, [], .getfield 15, 3, [5, 1], [110]),
  (17, 28, false, [], .iconst 1, 1, [], []),
  (18, 29, false, [], .iadd, 1, [], []),
  (19, 30, false, [], .putfield 15, 3, [5, 1], [110]),
  (20, 33, false, [], .aload_n 0, 1, [], []),
  (21, 34, false, [], .dup, 1, [], []),
  (22, 35, false, [], .getfield 19, 3, [5, 2], [113]),
  (23, 38, false, [], .iload_n 1, 1, [], []),
  (24, 39, false, [], .bipush 6, 2, [], []),
  (25, 41, false, [], .if_icmp .ne 7, 3, [28], []),
  (26, 44, false, [], .iconst 0, 1, [], []),
  (27, 45, false, [], .goto 4, 3, [29], []),
  (28, 48, false, [], .iconst 1, 1, [], []),
  (29, 49, false, [], .iadd, 1, [], []),
  (30, 50, false, [], .putfield 19, 3, [5, 2], [113]),
  (31, 53, false, [], .return_, 1, [], [])]
theorem l_T_put : (z_hd m_T_put).2.2.1 = 3 := by decide +kernel
theorem k_T_put : z_okM m_T_put c_T_put = true := by decide +kernel
def c_T_lead : List z_In := [
  (0, 0, false, [], .iload_n 1, 1, [], []),
  (1, 1, false, [], .ifCond .lt 30, 3, [20], []),
  (2, 4, false, [], .iload_n 1, 1, [], []),
  (3, 5, false, [], .aload_n 0, 1, [], []),
  (4, 6, false, [], .getfield 15, 3, [5, 1], [110]),
  (5, 9, false, [], .if_icmp .ge 22, 3, [20], []),
  (6, 12, false, [], .aload_n 0, 1, [], []),
  (7, 13, false, [], .getfield 9, 3, [5, 0], [108]),
  (8, 16, false, [], .iload_n 1, 1, [], []),
  (9, 17, false, [], .iload_n 2, 1, [], []),
  (10, 18, false, [], .iconst 4, 1, [], []),
  (11, 19, false, [], .ishl, 1, [], []),
  (12, 20, false, [], .aload_n 0, 1, [], []),
  (13, 21, false, [], .getfield 9, 3, [5, 0], [108]),
  (14, 24, false, [], .iload_n 1, 1, [], []),
  (15, 25, false, [], .iaload, 1, [100100], []),
  (16, 26, false, [], .bipush 15, 2, [], []),
  (17, 28, false, [], .iand, 1, [], []),
  (18, 29, false, [], .ior, 1, [], []),
  (19, 30, false, [], .iastore, 1, [100100], []),
  (20, 31, false, [], .return_, 1, [], [])]
theorem l_T_lead : (z_hd m_T_lead).2.2.1 = 3 := by decide +kernel
theorem k_T_lead : z_okM m_T_lead c_T_lead = true := by decide +kernel
def c_T_leadAll : List z_In := [
  (0, 0, false, [], .iload_n 1, 1, [], []),
  (1, 1, false, [], .iconst 1, 1, [], []),
  (2, 2, false, [], .isub, 1, [], []),
  (3, 3, false, [], .istore_n 2, 1, [], []),
  (4, 4, false, [], .iconst 0, 1, [], []),
  (5, 5, false, [], .istore_n 3, 1, [], []),
  (6, 6, true, [true, false, true, true, false], .iload_n 3, 1, [], []),
  (7, 7, false, [], .bipush 100, 2, [], []),
  (8, 9, false, [], .if_icmp .ge 45, 3, [33], []),
  (9, 12, false, [], .iload_n 2, 1, [], []),
  (10, 13, false, [], .ifCond .lt 41, 3, [33], []),
  (11, 16, false, [], .iload_n 2, 1, [], []),
  (12, 17, false, [], .aload_n 0, 1, [], []),
  (13, 18, false, [], .getfield 15, 3, [5, 1], [110]),
  (14, 21, false, [], .if_icmp .ge 33, 3, [33], []),
  (15, 24, false, [], .aload_n 0, 1, [], []),
  (16, 25, false, [], .getfield 9, 3, [5, 0], [108]),
  (17, 28, false, [], .iload_n 2, 1, [], []),
  (18, 29, false, [], .iaload, 1, [100100], []),
  (19, 30, false, [], .iconst 4, 1, [], []),
  (20, 31, false, [], .ishr, 1, [], []),
  (21, 32, false, [], .iconst 1, 1, [], []),
  (22, 33, false, [], .isub, 1, [], []),
  (23, 34, false, [], .istore 4, 2, [], []),
  (24, 36, false, [], .aload_n 0, 1, [], []),
  (25, 37, false, [], .iload_n 2, 1, [], []),
  (26, 38, false, [], .aload_n 0, 1, [], []),
  (27, 39, false, [], .getfield 15, 3, [5, 1], [110]),
  (28, 42, false, [], .invokevirtual 28, 3, [62, 2, 0, 0, 6], [482, 484]),
  (29, 45, false, [], .iload 4, 2, [], []),
  (30, 47, false, [], .istore_n 2, 1, [], []),
  (31, 48, false, [], .iinc 3 1, 3, [], []),
  (32, 51, false, [], .goto (-45), 3, [6], []),
  (33, 54, false, [], .return_, 1, [], [])]
theorem l_T_leadAll : (z_hd m_T_leadAll).2.2.1 = 5 := by decide +kernel
theorem k_T_leadAll : z_okM m_T_leadAll c_T_leadAll = true := by decide +kernel
def c_H_init : List z_In := [
  (0, 0, false, [], .aload_n 0, 1, [], []),
  (1, 1, false, [], .invokespecial 3, 3, [], [250, 92, 93]),
  (2, 4, false, [], .aload_n 0, 1, [], []),
  (3, 5, false, [], .sipush 1212, 3, [], []),
  (4, 8, false, [], .newarray .int, 2, [1212], [122]),
  (5, 10, false, [], .putfield 9, 3, [6, 0], [251]),
  (6, 13, false, [], .aload_n 0, 1, [], []),
  (7, 14, false, [], .sipush 1212, 3, [], []),
  (8, 17, false, [], .newarray .int, 2, [1212], [122]),
  (9, 19, false, [], .putfield 15, 3, [6, 1], [252]),
  (10, 22, false, [], .return_, 1, [], [])]
theorem l_H_init : (z_hd m_H_init).2.2.1 = 1 := by decide +kernel
theorem k_H_init : z_okM m_H_init c_H_init = true := by decide +kernel
def c_H_forget : List z_In := [
  (0, 0, false, [], .aload_n 0, 1, [], []),
  (1, 1, false, [], .dup, 1, [], []),
  (2, 2, false, [], .getfield 18, 3, [6, 2], [253]),
  (3, 5, false, [], .iconst 1, 1, [], []),
  (4, 6, false, [], .iadd, 1, [], []),
  (5, 7, false, [], .putfield 18, 3, [6, 2], [253]),
  (6, 10, false, [], .return_, 1, [], [])]
theorem l_H_forget : (z_hd m_H_forget).2.2.1 = 1 := by decide +kernel
theorem k_H_forget : z_okM m_H_forget c_H_forget = true := by decide +kernel
def c_H_holds : List z_In := [
  (0, 0, false, [], .iload_n 1, 1, [], []),
  (1, 1, false, [], .ifCond .lt 27, 3, [14], []),
  (2, 4, false, [], .iload_n 1, 1, [], []),
  (3, 5, false, [], .sipush 1212, 3, [], []),
  (4, 8, false, [], .if_icmp .ge 20, 3, [14], []),
  (5, 11, false, [], .aload_n 0, 1, [], []),
  (6, 12, false, [], .getfield 15, 3, [6, 1], [252]),
  (7, 15, false, [], .iload_n 1, 1, [], []),
  (8, 16, false, [], .iaload, 1, [101212], []),
  (9, 17, false, [], .aload_n 0, 1, [], []),
  (10, 18, false, [], .getfield 18, 3, [6, 2], [253]),
  (11, 21, false, [], .if_icmp .ne 7, 3, [14], []),
  (12, 24, false, [], .iconst 1, 1, [], []),
  (13, 25, false, [], .goto 4, 3, [15], []),
  (14, 28, false, [], .iconst 0, 1, [], []),
  (15, 29, false, [], .ireturn, 1, [1], [])]
theorem l_H_holds : (z_hd m_H_holds).2.2.1 = 2 := by decide +kernel
theorem k_H_holds : z_okM m_H_holds c_H_holds = true := by decide +kernel
def c_H_valueOf : List z_In := [
  (0, 0, false, [], .iload_n 1, 1, [], []),
  (1, 1, false, [], .ifCond .lt 19, 3, [10], []),
  (2, 4, false, [], .iload_n 1, 1, [], []),
  (3, 5, false, [], .sipush 1212, 3, [], []),
  (4, 8, false, [], .if_icmp .ge 12, 3, [10], []),
  (5, 11, false, [], .aload_n 0, 1, [], []),
  (6, 12, false, [], .getfield 9, 3, [6, 0], [251]),
  (7, 15, false, [], .iload_n 1, 1, [], []),
  (8, 16, false, [], .iaload, 1, [101212], []),
  (9, 17, false, [], .goto 4, 3, [11], []),
  (10, 20, false, [], .iconst 0, 1, [], []),
  (11, 21, false, [], .ireturn, 1, [0], [])]
theorem l_H_valueOf : (z_hd m_H_valueOf).2.2.1 = 2 := by decide +kernel
theorem k_H_valueOf : z_okM m_H_valueOf c_H_valueOf = true := by decide +kernel
def c_H_hold : List z_In := [
  (0, 0, false, [], .iload_n 1, 1, [], []),
  (1, 1, false, [], .ifCond .lt 27, 3, [16], []),
  (2, 4, false, [], .iload_n 1, 1, [], []),
  (3, 5, false, [], .sipush 1212, 3, [], []),
  (4, 8, false, [], .if_icmp .ge 20, 3, [16], []),
  (5, 11, false, [], .aload_n 0, 1, [], []),
  (6, 12, false, [], .getfield 9, 3, [6, 0], [251]),
  (7, 15, false, [], .iload_n 1, 1, [], []),
  (8, 16, false, [], .iload_n 2, 1, [], []),
  (9, 17, false, [], .iastore, 1, [101212], []),
  (10, 18, false, [], .aload_n 0, 1, [], []),
  (11, 19, false, [], .getfield 15, 3, [6, 1], [252]),
  (12, 22, false, [], .iload_n 1, 1, [], []),
  (13, 23, false, [], .aload_n 0, 1, [], []),
  (14, 24, false, [], .getfield 18, 3, [6, 2], [253]),
  (15, 27, false, [], .iastore, 1, [101212], []),
  (16, 28, false, [], .return_, 1, [], [])]
theorem l_H_hold : (z_hd m_H_hold).2.2.1 = 3 := by decide +kernel
theorem k_H_hold : z_okM m_H_hold c_H_hold = true := by decide +kernel
end
section
/-! code tables: printed by program (wip/whole/gen/code.py) -/
def c_C_init : List z_In := [
  (0, 0, false, [], .aload_n 0, 1, [], []),
  (1, 1, false, [], .invokespecial 3, 3, [], [91, 92, 93]),
  (2, 4, false, [], .aload_n 0, 1, [], []),
  (3, 5, false, [], .bipush 12, 2, [], []),
  (4, 7, false, [], .newarray .int, 2, [12], [122]),
  (5, 9, false, [], .putfield 9, 3, [7, 0], [355]),
  (6, 12, false, [], .aload_n 0, 1, [], []),
  (7, 13, false, [], .bipush 12, 2, [], []),
  (8, 15, false, [], .anewarray 13, 3, [12, 3], [94]),
  (9, 18, false, [], .putfield 15, 3, [7, 1], [356]),
  (10, 21, false, [], .aload_n 0, 1, [], []),
  (11, 22, false, [], .new 19, 3, [2], [96, 97, 76]),
  (12, 25, false, [], .dup, 1, [], []),
  (13, 26, false, [], .invokespecial 21, 3, [15, 0, 0, 3, 0], []),
  (14, 29, false, [], .putfield 22, 3, [7, 2], [357]),
  (15, 32, false, [], .aload_n 0, 1, [], []),
  (16, 33, false, [], .new 26, 3, [4], [145, 146, 78]),
  (17, 36, false, [], .dup, 1, [], []),
  (18, 37, false, [], .invokespecial 28, 3, [43, 0, 0, 205], [147]),
  (19, 40, false, [], .putfield 29, 3, [7, 3], [358]),
  (20, 43, false, [], .aload_n 0, 1, [], []),
  (21, 44, false, [], .new 33, 3, [6], [245, 246, 80]),
  (22, 47, false, [], .dup, 1, [], []),
  (23, 48, false, [], .invokespecial 35, 3, [64, 0, 0, 2, 0], []),
  (24, 51, false, [], .putfield 36, 3, [7, 4], [359]),
  (25, 54, false, [], .aload_n 0, 1, [], []),
  (26, 55, false, [], .new 40, 3, [3], [261, 262, 81]),
  (27, 58, false, [], .dup, 1, [], []),
  (28, 59, false, [], .invokespecial 42, 3, [32, 0, 0, 91], [263]),
  (29, 62, false, [], .putfield 43, 3, [7, 5], [360]),
  (30, 65, false, [], .aload_n 0, 1, [], []),
  (31, 66, false, [], .iconst 4, 1, [], []),
  (32, 67, false, [], .anewarray 40, 3, [4, 4], [261]),
  (33, 70, false, [], .putfield 47, 3, [7, 6], [361]),
  (34, 73, false, [], .iconst 0, 1, [], []),
  (35, 74, false, [], .istore_n 1, 1, [], []),
  (36, 75, true, [true, true], .iload_n 1, 1, [], []),
  (37, 76, false, [], .bipush 12, 2, [], []),
  (38, 78, false, [], .if_icmp .ge 22, 3, [48], []),
  (39, 81, false, [], .aload_n 0, 1, [], []),
  (40, 82, false, [], .getfield 15, 3, [7, 1], [356]),
  (41, 85, false, [], .iload_n 1, 1, [], []),
  (42, 86, false, [], .new 13, 3, [5], [94, 103, 77]),
  (43, 89, false, [], .dup, 1, [], []),
  (44, 90, false, [], .invokespecial 51, 3, [57, 0, 0, 1, 0], []),
  (45, 93, false, [], .aastore, 1, [300012, 5], []),
  (46, 94, false, [], .iinc 1 1, 3, [], []),
  (47, 97, false, [], .goto (-22), 3, [36], []),
  (48, 100, false, [], .iconst 0, 1, [], []),
  (49, 101, false, [], .istore_n 1, 1, [], []),
  (50, 102, true, [true, true], .iload_n 1, 1, [], []),
  (51, 103, false, [], .iconst 4, 1, [], []),
  (52, 104, false, [], .if_icmp .ge 22, 3, [62], []),
  (53, 107, false, [], .aload_n 0, 1, [], []),
  (54, 108, false, [], .getfield 47, 3, [7, 6], [361]),
  (55, 111, false, [], .iload_n 1, 1, [], []),
  (56, 112, false, [], .new 40, 3, [3], [261, 262, 81]),
  (57, 115, false, [], .dup, 1, [], []),
  (58, 116, false, [], .invokespecial 42, 3, [32, 0, 0, 91], [263]),
  (59, 119, false, [], .aastore, 1, [400004, 3], []),
  (60, 120, false, [], .iinc 1 1, 3, [], []),
  (61, 123, false, [], .goto (-21), 3, [50], []),
  (62, 126, false, [], .return_, 1, [], [])]
theorem l_C_init : (z_hd m_C_init).2.2.1 = 2 := by decide +kernel
theorem k_C_init : z_okM m_C_init c_C_init = true := by decide +kernel
def c_C_feed : List z_In := [
  (0, 0, false, [], .iload_n 1, 1, [], []),
  (1, 1, false, [], .ifCond .lt 10, 3, [5], []),
  (2, 4, false, [], .iload_n 1, 1, [], []),
  (3, 5, false, [], .sipush 255, 3, [], []),
  (4, 8, false, [], .if_icmp .le 7, 3, [7], []),
  (5, 11, false, [], .sipush (-20001), 3, [], []),
  (6, 14, false, [], .ireturn, 1, [0], []),
  (7, 15, false, [], .aload_n 0, 1, [], []),
  (8, 16, false, [], .getfield 22, 3, [7, 2], [357]),
  (9, 19, false, [], .iload_n 1, 1, [], []),
  (10, 20, false, [], .invokevirtual 52, 3, [16, 1, 1, 0, 3], [399, 401]),
  (11, 23, false, [], .ifCond .eq 13, 3, [16], []),
  (12, 26, false, [], .aload_n 0, 1, [], []),
  (13, 27, false, [], .getfield 22, 3, [7, 2], [357]),
  (14, 30, false, [], .getfield 56, 3, [2, 2], [127]),
  (15, 33, false, [], .goto 6, 3, [17], []),
  (16, 36, false, [], .sipush (-20004), 3, [], []),
  (17, 39, false, [], .ireturn, 1, [0], [])]
theorem l_C_feed : (z_hd m_C_feed).2.2.1 = 2 := by decide +kernel
theorem k_C_feed : z_okM m_C_feed c_C_feed = true := by decide +kernel
def c_C_rule : List z_In := [
  (0, 0, false, [], .iload_n 1, 1, [], []),
  (1, 1, false, [], .bipush 12, 2, [], []),
  (2, 3, false, [], .invokestatic 60, 3, [96, 2, 1, 0], [407]),
  (3, 6, false, [], .ifCond .ne 7, 3, [6], []),
  (4, 9, false, [], .sipush (-20001), 3, [], []),
  (5, 12, false, [], .ireturn, 1, [0], []),
  (6, 13, false, [], .aload_n 0, 1, [], []),
  (7, 14, false, [], .getfield 22, 3, [7, 2], [357]),
  (8, 17, false, [], .invokevirtual 64, 3, [17, 0, 1, 0, 3], [410, 412]),
  (9, 20, false, [], .ifCond .ne 14, 3, [16], []),
  (10, 23, false, [], .bipush (-100), 2, [], []),
  (11, 25, false, [], .aload_n 0, 1, [], []),
  (12, 26, false, [], .getfield 22, 3, [7, 2], [357]),
  (13, 29, false, [], .getfield 68, 3, [2, 3], [128]),
  (14, 32, false, [], .isub, 1, [], []),
  (15, 33, false, [], .ireturn, 1, [0], []),
  (16, 34, false, [], .aload_n 0, 1, [], []),
  (17, 35, false, [], .getfield 15, 3, [7, 1], [356]),
  (18, 38, false, [], .iload_n 1, 1, [], []),
  (19, 39, false, [], .aaload, 1, [300012], []),
  (20, 40, false, [], .aload_n 0, 1, [], []),
  (21, 41, false, [], .getfield 22, 3, [7, 2], [357]),
  (22, 44, false, [], .getfield 71, 3, [2, 1], [125]),
  (23, 47, false, [], .invokevirtual 75, 3, [60, 1, 0, 0, 6], [487, 489]),
  (24, 50, false, [], .aload_n 0, 1, [], []),
  (25, 51, false, [], .bipush 12, 2, [], []),
  (26, 53, false, [], .iload_n 1, 1, [], []),
  (27, 54, false, [], .iadd, 1, [], []),
  (28, 55, false, [], .invokevirtual 79, 3, [118, 1, 1, 0, 8], [494, 14]),
  (29, 58, false, [], .pop, 1, [], []),
  (30, 59, false, [], .aload_n 0, 1, [], []),
  (31, 60, false, [], .getfield 15, 3, [7, 1], [356]),
  (32, 63, false, [], .iload_n 1, 1, [], []),
  (33, 64, false, [], .aaload, 1, [300012], []),
  (34, 65, false, [], .getfield 83, 3, [5, 2], [114]),
  (35, 68, false, [], .ireturn, 1, [0], [])]
theorem l_C_rule : (z_hd m_C_rule).2.2.1 = 2 := by decide +kernel
theorem k_C_rule : z_okM m_C_rule c_C_rule = true := by decide +kernel
def c_C_drop : List z_In := [
  (0, 0, false, [], .iload_n 1, 1, [], []),
  (1, 1, false, [], .bipush 12, 2, [], []),
  (2, 3, false, [], .invokestatic 60, 3, [96, 2, 1, 0], [407]),
  (3, 6, false, [], .ifCond .ne 7, 3, [6], []),
  (4, 9, false, [], .sipush (-20001), 3, [], []),
  (5, 12, false, [], .ireturn, 1, [0], []),
  (6, 13, false, [], .aload_n 0, 1, [], []),
  (7, 14, false, [], .getfield 15, 3, [7, 1], [356]),
  (8, 17, false, [], .iload_n 1, 1, [], []),
  (9, 18, false, [], .aaload, 1, [300012], []),
  (10, 19, false, [], .invokevirtual 86, 3, [58, 0, 1, 0, 6], [522, 524]),
  (11, 22, false, [], .ifCond .ne 7, 3, [14], []),
  (12, 25, false, [], .sipush (-20003), 3, [], []),
  (13, 28, false, [], .ireturn, 1, [0], []),
  (14, 29, false, [], .aload_n 0, 1, [], []),
  (15, 30, false, [], .getfield 15, 3, [7, 1], [356]),
  (16, 33, false, [], .iload_n 1, 1, [], []),
  (17, 34, false, [], .aaload, 1, [300012], []),
  (18, 35, false, [], .invokevirtual 89, 3, [59, 0, 0, 0, 6], [526, 416]),
  (19, 38, false, [], .aload_n 0, 1, [], []),
  (20, 39, false, [], .bipush 12, 2, [], []),
  (21, 41, false, [], .iload_n 1, 1, [], []),
  (22, 42, false, [], .iadd, 1, [], []),
  (23, 43, false, [], .invokevirtual 79, 3, [118, 1, 1, 0, 8], [494, 14]),
  (24, 46, false, [], .ireturn, 1, [0], [])]
theorem l_C_drop : (z_hd m_C_drop).2.2.1 = 2 := by decide +kernel
theorem k_C_drop : z_okM m_C_drop c_C_drop = true := by decide +kernel
def c_C_set : List z_In := [
  (0, 0, false, [], .iload_n 1, 1, [], []),
  (1, 1, false, [], .bipush 12, 2, [], []),
  (2, 3, false, [], .invokestatic 60, 3, [96, 2, 1, 0], [407]),
  (3, 6, false, [], .ifCond .eq 15, 3, [10], []),
  (4, 9, false, [], .iload_n 2, 1, [], []),
  (5, 10, false, [], .bipush (-99), 2, [], []),
  (6, 12, false, [], .if_icmp .lt 9, 3, [10], []),
  (7, 15, false, [], .iload_n 2, 1, [], []),
  (8, 16, false, [], .bipush 99, 2, [], []),
  (9, 18, false, [], .if_icmp .le 7, 3, [12], []),
  (10, 21, false, [], .sipush (-20001), 3, [], []),
  (11, 24, false, [], .ireturn, 1, [0], []),
  (12, 25, false, [], .aload_n 0, 1, [], []),
  (13, 26, false, [], .getfield 9, 3, [7, 0], [355]),
  (14, 29, false, [], .iload_n 1, 1, [], []),
  (15, 30, false, [], .iaload, 1, [100012], []),
  (16, 31, false, [], .iload_n 2, 1, [], []),
  (17, 32, false, [], .if_icmp .ne 5, 3, [20], []),
  (18, 35, false, [], .iconst 0, 1, [], []),
  (19, 36, false, [], .ireturn, 1, [0], []),
  (20, 37, false, [], .aload_n 0, 1, [], []),
  (21, 38, false, [], .getfield 9, 3, [7, 0], [355]),
  (22, 41, false, [], .iload_n 1, 1, [], []),
  (23, 42, false, [], .iload_n 2, 1, [], []),
  (24, 43, false, [], .iastore, 1, [100012], []),
  (25, 44, false, [], .aload_n 0, 1, [], []),
  (26, 45, false, [], .iload_n 1, 1, [], []),
  (27, 46, false, [], .invokevirtual 79, 3, [118, 1, 1, 0, 8], [494, 14]),
  (28, 49, false, [], .ireturn, 1, [0], [])]
theorem l_C_set : (z_hd m_C_set).2.2.1 = 3 := by decide +kernel
theorem k_C_set : z_okM m_C_set c_C_set = true := by decide +kernel
def c_C_cell : List z_In := [
  (0, 0, false, [], .iload_n 1, 1, [], []),
  (1, 1, false, [], .bipush 12, 2, [], []),
  (2, 3, false, [], .invokestatic 60, 3, [96, 2, 1, 0], [407]),
  (3, 6, false, [], .ifCond .eq 12, 3, [9], []),
  (4, 9, false, [], .aload_n 0, 1, [], []),
  (5, 10, false, [], .getfield 9, 3, [7, 0], [355]),
  (6, 13, false, [], .iload_n 1, 1, [], []),
  (7, 14, false, [], .iaload, 1, [100012], []),
  (8, 15, false, [], .goto 6, 3, [10], []),
  (9, 18, false, [], .sipush (-20001), 3, [], []),
  (10, 21, false, [], .ireturn, 1, [0], [])]
theorem l_C_cell : (z_hd m_C_cell).2.2.1 = 2 := by decide +kernel
theorem k_C_cell : z_okM m_C_cell c_C_cell = true := by decide +kernel
def c_C_ask : List z_In := [
  (0, 0, false, [], .iload_n 1, 1, [], []),
  (1, 1, false, [], .iload_n 2, 1, [], []),
  (2, 2, false, [], .invokestatic 92, 3, [98, 2, 1, 0], [539]),
  (3, 5, false, [], .ifCond .ne 7, 3, [6], []),
  (4, 8, false, [], .sipush (-20001), 3, [], []),
  (5, 11, false, [], .ireturn, 1, [0], []),
  (6, 12, false, [], .aload_n 0, 1, [], []),
  (7, 13, false, [], .getfield 43, 3, [7, 5], [360]),
  (8, 16, false, [], .iconst 1, 1, [], []),
  (9, 17, false, [], .invokevirtual 95, 3, [33, 1, 0, 0, 4], [545, 547]),
  (10, 20, false, [], .aload_n 0, 1, [], []),
  (11, 21, false, [], .aload_n 0, 1, [], []),
  (12, 22, false, [], .getfield 43, 3, [7, 5], [360]),
  (13, 25, false, [], .iload_n 1, 1, [], []),
  (14, 26, false, [], .iload_n 2, 1, [], []),
  (15, 27, false, [], .invokestatic 99, 3, [99, 2, 1, 0], [549]),
  (16, 30, false, [], .invokevirtual 103, 3, [102, 2, 0, 0, 8], [552, 16]),
  (17, 33, false, [], .aload_n 0, 1, [], []),
  (18, 34, false, [], .aload_n 0, 1, [], []),
  (19, 35, false, [], .getfield 43, 3, [7, 5], [360]),
  (20, 38, false, [], .getfield 107, 3, [3, 4], [327]),
  (21, 41, false, [], .putfield 110, 3, [7, 8], [363]),
  (22, 44, false, [], .aload_n 0, 1, [], []),
  (23, 45, false, [], .getfield 43, 3, [7, 5], [360]),
  (24, 48, false, [], .invokevirtual 113, 3, [42, 0, 1, 0, 4], [716, 718]),
  (25, 51, false, [], .ireturn, 1, [0], [])]
theorem l_C_ask : (z_hd m_C_ask).2.2.1 = 3 := by decide +kernel
theorem k_C_ask : z_okM m_C_ask c_C_ask = true := by decide +kernel
def c_C_fresh : List z_In := [
  (0, 0, false, [], .iload_n 1, 1, [], []),
  (1, 1, false, [], .iload_n 2, 1, [], []),
  (2, 2, false, [], .invokestatic 92, 3, [98, 2, 1, 0], [539]),
  (3, 5, false, [], .ifCond .ne 7, 3, [6], []),
  (4, 8, false, [], .sipush (-20001), 3, [], []),
  (5, 11, false, [], .ireturn, 1, [0], []),
  (6, 12, false, [], .aload_n 0, 1, [], []),
  (7, 13, false, [], .getfield 36, 3, [7, 4], [359]),
  (8, 16, false, [], .invokevirtual 117, 3, [65, 0, 0, 0, 7], [724, 726]),
  (9, 19, false, [], .aload_n 0, 1, [], []),
  (10, 20, false, [], .getfield 43, 3, [7, 5], [360]),
  (11, 23, false, [], .iconst 2, 1, [], []),
  (12, 24, false, [], .invokevirtual 95, 3, [33, 1, 0, 0, 4], [545, 547]),
  (13, 27, false, [], .aload_n 0, 1, [], []),
  (14, 28, false, [], .aload_n 0, 1, [], []),
  (15, 29, false, [], .getfield 43, 3, [7, 5], [360]),
  (16, 32, false, [], .iload_n 1, 1, [], []),
  (17, 33, false, [], .iload_n 2, 1, [], []),
  (18, 34, false, [], .invokestatic 99, 3, [99, 2, 1, 0], [549]),
  (19, 37, false, [], .invokevirtual 103, 3, [102, 2, 0, 0, 8], [552, 16]),
  (20, 40, false, [], .aload_n 0, 1, [], []),
  (21, 41, false, [], .getfield 43, 3, [7, 5], [360]),
  (22, 44, false, [], .invokevirtual 113, 3, [42, 0, 1, 0, 4], [716, 718]),
  (23, 47, false, [], .ireturn, 1, [0], [])]
theorem l_C_fresh : (z_hd m_C_fresh).2.2.1 = 3 := by decide +kernel
theorem k_C_fresh : z_okM m_C_fresh c_C_fresh = true := by decide +kernel
def c_C_steps : List z_In := [
  (0, 0, false, [], .aload_n 0, 1, [], []),
  (1, 1, false, [], .getfield 110, 3, [7, 8], [363]),
  (2, 4, false, [], .ireturn, 1, [0], [])]
theorem l_C_steps : (z_hd m_C_steps).2.2.1 = 1 := by decide +kernel
theorem k_C_steps : z_okM m_C_steps c_C_steps = true := by decide +kernel
def c_C_bound : List z_In := [
  (0, 0, false, [], .iload_n 1, 1, [], []),
  (1, 1, false, [], .iconst 1, 1, [], []),
  (2, 2, false, [], .if_icmp .lt 10, 3, [6], []),
  (3, 5, false, [], .iload_n 1, 1, [], []),
  (4, 6, false, [], .sipush 300, 3, [], []),
  (5, 9, false, [], .if_icmp .le 7, 3, [8], []),
  (6, 12, false, [], .sipush (-20001), 3, [], []),
  (7, 15, false, [], .ireturn, 1, [0], []),
  (8, 16, false, [], .aload_n 0, 1, [], []),
  (9, 17, false, [], .getfield 29, 3, [7, 3], [358]),
  (10, 20, false, [], .getfield 120, 3, [4, 5], [212]),
  (11, 23, false, [], .istore_n 2, 1, [], []),
  (12, 24, false, [], .aload_n 0, 1, [], []),
  (13, 25, false, [], .getfield 29, 3, [7, 3], [358]),
  (14, 28, false, [], .iload_n 1, 1, [], []),
  (15, 29, false, [], .putfield 120, 3, [4, 5], [212]),
  (16, 32, false, [], .aload_n 0, 1, [], []),
  (17, 33, false, [], .getfield 29, 3, [7, 3], [358]),
  (18, 36, false, [], .invokevirtual 123, 3, [47, 0, 0, 0, 5], [736, 706]),
  (19, 39, false, [], .iload_n 2, 1, [], []),
  (20, 40, false, [], .ireturn, 1, [0], [])]
theorem l_C_bound : (z_hd m_C_bound).2.2.1 = 3 := by decide +kernel
theorem k_C_bound : z_okM m_C_bound c_C_bound = true := by decide +kernel
def c_C_policy : List z_In := [
  (0, 0, false, [], .iload_n 1, 1, [], []),
  (1, 1, false, [], .ifCond .lt 8, 3, [5], []),
  (2, 4, false, [], .iload_n 1, 1, [], []),
  (3, 5, false, [], .iconst 3, 1, [], []),
  (4, 6, false, [], .if_icmp .le 7, 3, [7], []),
  (5, 9, false, [], .sipush (-20001), 3, [], []),
  (6, 12, false, [], .ireturn, 1, [0], []),
  (7, 13, false, [], .aload_n 0, 1, [], []),
  (8, 14, false, [], .getfield 29, 3, [7, 3], [358]),
  (9, 17, false, [], .getfield 126, 3, [4, 6], [214]),
  (10, 20, false, [], .istore_n 2, 1, [], []),
  (11, 21, false, [], .aload_n 0, 1, [], []),
  (12, 22, false, [], .getfield 29, 3, [7, 3], [358]),
  (13, 25, false, [], .iload_n 1, 1, [], []),
  (14, 26, false, [], .putfield 126, 3, [4, 6], [214]),
  (15, 29, false, [], .iload_n 2, 1, [], []),
  (16, 30, false, [], .ireturn, 1, [0], [])]
theorem l_C_policy : (z_hd m_C_policy).2.2.1 = 3 := by decide +kernel
theorem k_C_policy : z_okM m_C_policy c_C_policy = true := by decide +kernel
def c_C_kept : List z_In := [
  (0, 0, false, [], .iload_n 1, 1, [], []),
  (1, 1, false, [], .sipush 1212, 3, [], []),
  (2, 4, false, [], .invokestatic 60, 3, [96, 2, 1, 0], [407]),
  (3, 7, false, [], .ifCond .eq 13, 3, [9], []),
  (4, 10, false, [], .iload_n 2, 1, [], []),
  (5, 11, false, [], .ifCond .lt 9, 3, [9], []),
  (6, 14, false, [], .iload_n 2, 1, [], []),
  (7, 15, false, [], .bipush 6, 2, [], []),
  (8, 17, false, [], .if_icmp .le 7, 3, [11], []),
  (9, 20, false, [], .sipush (-20001), 3, [], []),
  (10, 23, false, [], .ireturn, 1, [0], []),
  (11, 24, false, [], .aload_n 0, 1, [], []),
  (12, 25, false, [], .getfield 29, 3, [7, 3], [358]),
  (13, 28, false, [], .iload_n 1, 1, [], []),
  (14, 29, false, [], .invokevirtual 129, 3, [44, 1, 3, 0, 5], [588, 590]),
  (15, 32, false, [], .astore_n 3, 1, [], []),
  (16, 33, false, [], .aload_n 3, 1, [], []),
  (17, 34, false, [], .ifnonnull 9, 3, [20], []),
  (18, 37, false, [], .sipush (-20002), 3, [], []),
  (19, 40, false, [], .goto 8, 3, [23], []),
  (20, 43, false, [], .aload_n 3, 1, [], []),
  (21, 44, false, [], .iload_n 2, 1, [], []),
  (22, 45, false, [], .invokevirtual 133, 3, [13, 1, 1, 0, 2], [745, 747]),
  (23, 48, false, [], .ireturn, 1, [0], [])]
theorem l_C_kept : (z_hd m_C_kept).2.2.1 = 4 := by decide +kernel
theorem k_C_kept : z_okM m_C_kept c_C_kept = true := by decide +kernel
def c_C_asked : List z_In := [
  (0, 0, false, [], .iload_n 1, 1, [], []),
  (1, 1, false, [], .sipush 1212, 3, [], []),
  (2, 4, false, [], .invokestatic 60, 3, [96, 2, 1, 0], [407]),
  (3, 7, false, [], .ifCond .eq 7, 3, [6], []),
  (4, 10, false, [], .iload_n 2, 1, [], []),
  (5, 11, false, [], .ifCond .ge 7, 3, [8], []),
  (6, 14, false, [], .sipush (-20001), 3, [], []),
  (7, 17, false, [], .ireturn, 1, [0], []),
  (8, 18, false, [], .aload_n 0, 1, [], []),
  (9, 19, false, [], .getfield 29, 3, [7, 3], [358]),
  (10, 22, false, [], .iload_n 1, 1, [], []),
  (11, 23, false, [], .invokevirtual 129, 3, [44, 1, 3, 0, 5], [588, 590]),
  (12, 26, false, [], .astore_n 3, 1, [], []),
  (13, 27, false, [], .aload_n 3, 1, [], []),
  (14, 28, false, [], .ifnull 11, 3, [19], []),
  (15, 31, false, [], .iload_n 2, 1, [], []),
  (16, 32, false, [], .aload_n 3, 1, [], []),
  (17, 33, false, [], .getfield 138, 3, [1, 8], [177]),
  (18, 36, false, [], .if_icmp .lt 9, 3, [21], []),
  (19, 39, false, [], .sipush (-20002), 3, [], []),
  (20, 42, false, [], .goto 9, 3, [25], []),
  (21, 45, false, [], .aload_n 3, 1, [], []),
  (22, 46, false, [], .getfield 141, 3, [1, 0], [159]),
  (23, 49, false, [], .iload_n 2, 1, [], []),
  (24, 50, false, [], .iaload, 1, [100025], []),
  (25, 51, false, [], .ireturn, 1, [0], [])]
theorem l_C_asked : (z_hd m_C_asked).2.2.1 = 4 := by decide +kernel
theorem k_C_asked : z_okM m_C_asked c_C_asked = true := by decide +kernel
def c_C_key : List z_In := [
  (0, 0, false, [], .iload_n 1, 1, [], []),
  (1, 1, false, [], .ifCond .lt 12, 3, [7], []),
  (2, 4, false, [], .iload_n 1, 1, [], []),
  (3, 5, false, [], .iconst 1, 1, [], []),
  (4, 6, false, [], .if_icmp .gt 7, 3, [7], []),
  (5, 9, false, [], .iload_n 2, 1, [], []),
  (6, 10, false, [], .ifCond .ge 7, 3, [9], []),
  (7, 13, false, [], .sipush (-20001), 3, [], []),
  (8, 16, false, [], .ireturn, 1, [0], []),
  (9, 17, false, [], .iload_n 2, 1, [], []),
  (10, 18, false, [], .aload_n 0, 1, [], []),
  (11, 19, false, [], .getfield 29, 3, [7, 3], [358]),
  (12, 22, false, [], .getfield 144, 3, [4, 2], [206]),
  (13, 25, false, [], .if_icmp .lt 7, 3, [16], []),
  (14, 28, false, [], .sipush (-20002), 3, [], []),
  (15, 31, false, [], .ireturn, 1, [0], []),
  (16, 32, false, [], .iload_n 1, 1, [], []),
  (17, 33, false, [], .ifCond .ne 14, 3, [23], []),
  (18, 36, false, [], .aload_n 0, 1, [], []),
  (19, 37, false, [], .getfield 29, 3, [7, 3], [358]),
  (20, 40, false, [], .iload_n 2, 1, [], []),
  (21, 41, false, [], .invokevirtual 145, 3, [45, 1, 1, 0, 5], [757, 759]),
  (22, 44, false, [], .goto 15, 3, [29], []),
  (23, 47, false, [], .aload_n 0, 1, [], []),
  (24, 48, false, [], .getfield 29, 3, [7, 3], [358]),
  (25, 51, false, [], .getfield 148, 3, [4, 0], [202]),
  (26, 54, false, [], .iload_n 2, 1, [], []),
  (27, 55, false, [], .aaload, 1, [600101], []),
  (28, 56, false, [], .getfield 152, 3, [1, 1], [163]),
  (29, 59, false, [], .ireturn, 1, [0], [])]
theorem l_C_key : (z_hd m_C_key).2.2.1 = 3 := by decide +kernel
theorem k_C_key : z_okM m_C_key c_C_key = true := by decide +kernel
def c_C_wave : List z_In := [
  (0, 0, false, [], .iload_n 1, 1, [], []),
  (1, 1, false, [], .ifCond .ge 7, 3, [4], []),
  (2, 4, false, [], .sipush (-20001), 3, [], []),
  (3, 7, false, [], .ireturn, 1, [0], []),
  (4, 8, false, [], .iload_n 1, 1, [], []),
  (5, 9, false, [], .aload_n 0, 1, [], []),
  (6, 10, false, [], .getfield 29, 3, [7, 3], [358]),
  (7, 13, false, [], .getfield 155, 3, [4, 4], [210]),
  (8, 16, false, [], .if_icmp .ge 15, 3, [15], []),
  (9, 19, false, [], .aload_n 0, 1, [], []),
  (10, 20, false, [], .getfield 29, 3, [7, 3], [358]),
  (11, 23, false, [], .getfield 158, 3, [4, 1], [204]),
  (12, 26, false, [], .iload_n 1, 1, [], []),
  (13, 27, false, [], .iaload, 1, [100101], []),
  (14, 28, false, [], .goto 6, 3, [16], []),
  (15, 31, false, [], .sipush (-20002), 3, [], []),
  (16, 34, false, [], .ireturn, 1, [0], [])]
theorem l_C_wave : (z_hd m_C_wave).2.2.1 = 2 := by decide +kernel
theorem k_C_wave : z_okM m_C_wave c_C_wave = true := by decide +kernel
def c_C_would : List z_In := [
  (0, 0, false, [], .iload_n 1, 1, [], []),
  (1, 1, false, [], .bipush 24, 2, [], []),
  (2, 3, false, [], .invokestatic 60, 3, [96, 2, 1, 0], [407]),
  (3, 6, false, [], .ifCond .eq 16, 3, [11], []),
  (4, 9, false, [], .aload_n 0, 1, [], []),
  (5, 10, false, [], .getfield 29, 3, [7, 3], [358]),
  (6, 13, false, [], .iconst 1, 1, [], []),
  (7, 14, false, [], .iload_n 1, 1, [], []),
  (8, 15, false, [], .ishl, 1, [], []),
  (9, 16, false, [], .invokevirtual 161, 3, [52, 1, 1, 0, 5], [769, 771]),
  (10, 19, false, [], .goto 6, 3, [12], []),
  (11, 22, false, [], .sipush (-20001), 3, [], []),
  (12, 25, false, [], .ireturn, 1, [0], [])]
theorem l_C_would : (z_hd m_C_would).2.2.1 = 2 := by decide +kernel
theorem k_C_would : z_okM m_C_would c_C_would = true := by decide +kernel
def c_C_heirs : List z_In := [
  (0, 0, false, [], .iload_n 1, 1, [], []),
  (1, 1, false, [], .sipush 1212, 3, [], []),
  (2, 4, false, [], .invokestatic 60, 3, [96, 2, 1, 0], [407]),
  (3, 7, false, [], .ifCond .ne 7, 3, [6], []),
  (4, 10, false, [], .sipush (-20001), 3, [], []),
  (5, 13, false, [], .ireturn, 1, [0], []),
  (6, 14, false, [], .aload_n 0, 1, [], []),
  (7, 15, false, [], .getfield 29, 3, [7, 3], [358]),
  (8, 18, false, [], .iload_n 1, 1, [], []),
  (9, 19, false, [], .invokevirtual 129, 3, [44, 1, 3, 0, 5], [588, 590]),
  (10, 22, false, [], .astore_n 2, 1, [], []),
  (11, 23, false, [], .aload_n 2, 1, [], []),
  (12, 24, false, [], .ifnonnull 9, 3, [15], []),
  (13, 27, false, [], .sipush (-20002), 3, [], []),
  (14, 30, false, [], .goto 11, 3, [19], []),
  (15, 33, false, [], .aload_n 0, 1, [], []),
  (16, 34, false, [], .getfield 29, 3, [7, 3], [358]),
  (17, 37, false, [], .aload_n 2, 1, [], []),
  (18, 38, false, [], .invokevirtual 164, 3, [53, 1, 1, 0, 5], [777, 779]),
  (19, 41, false, [], .ireturn, 1, [0], [])]
theorem l_C_heirs : (z_hd m_C_heirs).2.2.1 = 3 := by decide +kernel
theorem k_C_heirs : z_okM m_C_heirs c_C_heirs = true := by decide +kernel
def c_C_chain : List z_In := [
  (0, 0, false, [], .iload_n 1, 1, [], []),
  (1, 1, false, [], .sipush 1212, 3, [], []),
  (2, 4, false, [], .invokestatic 60, 3, [96, 2, 1, 0], [407]),
  (3, 7, false, [], .ifCond .ne 7, 3, [6], []),
  (4, 10, false, [], .sipush (-20001), 3, [], []),
  (5, 13, false, [], .ireturn, 1, [0], []),
  (6, 14, false, [], .aload_n 0, 1, [], []),
  (7, 15, false, [], .getfield 29, 3, [7, 3], [358]),
  (8, 18, false, [], .iload_n 1, 1, [], []),
  (9, 19, false, [], .invokevirtual 129, 3, [44, 1, 3, 0, 5], [588, 590]),
  (10, 22, false, [], .astore_n 2, 1, [], []),
  (11, 23, false, [], .aload_n 2, 1, [], []),
  (12, 24, false, [], .ifnonnull 9, 3, [15], []),
  (13, 27, false, [], .sipush (-20002), 3, [], []),
  (14, 30, false, [], .goto 11, 3, [19], []),
  (15, 33, false, [], .aload_n 0, 1, [], []),
  (16, 34, false, [], .getfield 29, 3, [7, 3], [358]),
  (17, 37, false, [], .aload_n 2, 1, [], []),
  (18, 38, false, [], .invokevirtual 168, 3, [54, 1, 1, 0, 5], [793, 795]),
  (19, 41, false, [], .ireturn, 1, [0], [])]
theorem l_C_chain : (z_hd m_C_chain).2.2.1 = 3 := by decide +kernel
theorem k_C_chain : z_okM m_C_chain c_C_chain = true := by decide +kernel
def c_C_next : List z_In := [
  (0, 0, false, [], .aload_n 0, 1, [], []),
  (1, 1, false, [], .getfield 29, 3, [7, 3], [358]),
  (2, 4, false, [], .getfield 144, 3, [4, 2], [206]),
  (3, 7, false, [], .ifCond .ne 9, 3, [6], []),
  (4, 10, false, [], .sipush (-20002), 3, [], []),
  (5, 13, false, [], .goto 21, 3, [14], []),
  (6, 16, false, [], .aload_n 0, 1, [], []),
  (7, 17, false, [], .getfield 29, 3, [7, 3], [358]),
  (8, 20, false, [], .getfield 148, 3, [4, 0], [202]),
  (9, 23, false, [], .aload_n 0, 1, [], []),
  (10, 24, false, [], .getfield 29, 3, [7, 3], [358]),
  (11, 27, false, [], .invokevirtual 171, 3, [48, 0, 1, 0, 5], [801, 710]),
  (12, 30, false, [], .aaload, 1, [600101], []),
  (13, 31, false, [], .getfield 152, 3, [1, 1], [163]),
  (14, 34, false, [], .ireturn, 1, [0], [])]
theorem l_C_next : (z_hd m_C_next).2.2.1 = 1 := by decide +kernel
theorem k_C_next : z_okM m_C_next c_C_next = true := by decide +kernel
def c_C_clear : List z_In := [
  (0, 0, false, [], .aload_n 0, 1, [], []),
  (1, 1, false, [], .getfield 29, 3, [7, 3], [358]),
  (2, 4, false, [], .invokevirtual 174, 3, [51, 0, 1, 0, 5], [806, 808]),
  (3, 7, false, [], .ireturn, 1, [0], [])]
theorem l_C_clear : (z_hd m_C_clear).2.2.1 = 1 := by decide +kernel
theorem k_C_clear : z_okM m_C_clear c_C_clear = true := by decide +kernel
def c_C_start : List z_In := [
  (0, 0, false, [], .iload_n 1, 1, [], []),
  (1, 1, false, [], .iconst 4, 1, [], []),
  (2, 2, false, [], .invokestatic 60, 3, [96, 2, 1, 0], [407]),
  (3, 5, false, [], .ifCond .eq 11, 3, [8], []),
  (4, 8, false, [], .iload_n 2, 1, [], []),
  (5, 9, false, [], .iload_n 3, 1, [], []),
  (6, 10, false, [], .invokestatic 92, 3, [98, 2, 1, 0], [539]),
  (7, 13, false, [], .ifCond .ne 7, 3, [10], []),
  (8, 16, false, [], .sipush (-20001), 3, [], []),
  (9, 19, false, [], .ireturn, 1, [0], []),
  (10, 20, false, [], .aload_n 0, 1, [], []),
  (11, 21, false, [], .getfield 47, 3, [7, 6], [361]),
  (12, 24, false, [], .iload_n 1, 1, [], []),
  (13, 25, false, [], .aaload, 1, [400004], []),
  (14, 26, false, [], .astore 4, 2, [], []),
  (15, 28, false, [], .aload 4, 2, [], []),
  (16, 30, false, [], .invokevirtual 176, 3, [34, 0, 1, 0, 4], [498, 500]),
  (17, 33, false, [], .ifCond .eq 7, 3, [20], []),
  (18, 36, false, [], .sipush (-20003), 3, [], []),
  (19, 39, false, [], .ireturn, 1, [0], []),
  (20, 40, false, [], .aload 4, 2, [], []),
  (21, 42, false, [], .iconst 0, 1, [], []),
  (22, 43, false, [], .invokevirtual 95, 3, [33, 1, 0, 0, 4], [545, 547]),
  (23, 46, false, [], .aload_n 0, 1, [], []),
  (24, 47, false, [], .aload 4, 2, [], []),
  (25, 49, false, [], .iload_n 2, 1, [], []),
  (26, 50, false, [], .iload_n 3, 1, [], []),
  (27, 51, false, [], .invokestatic 99, 3, [99, 2, 1, 0], [549]),
  (28, 54, false, [], .invokevirtual 179, 3, [110, 2, 0, 0, 8], [556, 17]),
  (29, 57, false, [], .aload 4, 2, [], []),
  (30, 59, false, [], .getfield 182, 3, [3, 2], [323]),
  (31, 62, false, [], .ireturn, 1, [0], [])]
theorem l_C_start : (z_hd m_C_start).2.2.1 = 5 := by decide +kernel
theorem k_C_start : z_okM m_C_start c_C_start = true := by decide +kernel
def c_C_step : List z_In := [
  (0, 0, false, [], .iload_n 1, 1, [], []),
  (1, 1, false, [], .iconst 4, 1, [], []),
  (2, 2, false, [], .invokestatic 60, 3, [96, 2, 1, 0], [407]),
  (3, 5, false, [], .ifCond .eq 14, 3, [10], []),
  (4, 8, false, [], .iload_n 2, 1, [], []),
  (5, 9, false, [], .iconst 1, 1, [], []),
  (6, 10, false, [], .if_icmp .lt 9, 3, [10], []),
  (7, 13, false, [], .iload_n 2, 1, [], []),
  (8, 14, false, [], .bipush 100, 2, [], []),
  (9, 16, false, [], .if_icmp .le 7, 3, [12], []),
  (10, 19, false, [], .sipush (-20001), 3, [], []),
  (11, 22, false, [], .ireturn, 1, [0], []),
  (12, 23, false, [], .aload_n 0, 1, [], []),
  (13, 24, false, [], .getfield 47, 3, [7, 6], [361]),
  (14, 27, false, [], .iload_n 1, 1, [], []),
  (15, 28, false, [], .aaload, 1, [400004], []),
  (16, 29, false, [], .astore_n 3, 1, [], []),
  (17, 30, false, [], .aload_n 3, 1, [], []),
  (18, 31, false, [], .invokevirtual 176, 3, [34, 0, 1, 0, 4], [498, 500]),
  (19, 34, false, [], .ifCond .ne 7, 3, [22], []),
  (20, 37, false, [], .sipush (-20003), 3, [], []),
  (21, 40, false, [], .ireturn, 1, [0], []),
  (22, 41, false, [], .aload_n 3, 1, [], []),
  (23, 42, false, [], .getfield 107, 3, [3, 4], [327]),
  (24, 45, false, [], .istore 4, 2, [], []),
  (25, 47, false, [], .aload_n 0, 1, [], []),
  (26, 48, false, [], .aload_n 3, 1, [], []),
  (27, 49, false, [], .invokevirtual 185, 3, [103, 1, 0, 0, 8], [818, 32]),
  (28, 52, false, [], .iconst 0, 1, [], []),
  (29, 53, false, [], .istore 5, 2, [], []),
  (30, 55, true, [true, false, true, true, true, true], .iload 5, 2, [], []),
  (31, 57, false, [], .iload_n 2, 1, [], []),
  (32, 58, false, [], .if_icmp .ge 22, 3, [42], []),
  (33, 61, false, [], .aload_n 3, 1, [], []),
  (34, 62, false, [], .getfield 182, 3, [3, 2], [323]),
  (35, 65, false, [], .iconst 1, 1, [], []),
  (36, 66, false, [], .if_icmp .ne 14, 3, [42], []),
  (37, 69, false, [], .aload_n 0, 1, [], []),
  (38, 70, false, [], .aload_n 3, 1, [], []),
  (39, 71, false, [], .invokevirtual 189, 3, [104, 1, 0, 0, 8], [624, 23]),
  (40, 74, false, [], .iinc 5 1, 3, [], []),
  (41, 77, false, [], .goto (-22), 3, [30], []),
  (42, 80, false, [], .aload_n 3, 1, [], []),
  (43, 81, false, [], .getfield 107, 3, [3, 4], [327]),
  (44, 84, false, [], .iload 4, 2, [], []),
  (45, 86, false, [], .isub, 1, [], []),
  (46, 87, false, [], .ireturn, 1, [0], [])]
theorem l_C_step : (z_hd m_C_step).2.2.1 = 6 := by decide +kernel
theorem k_C_step : z_okM m_C_step c_C_step = true := by decide +kernel
def c_C_stop : List z_In := [
  (0, 0, false, [], .iload_n 1, 1, [], []),
  (1, 1, false, [], .iconst 4, 1, [], []),
  (2, 2, false, [], .invokestatic 60, 3, [96, 2, 1, 0], [407]),
  (3, 5, false, [], .ifCond .ne 7, 3, [6], []),
  (4, 8, false, [], .sipush (-20001), 3, [], []),
  (5, 11, false, [], .ireturn, 1, [0], []),
  (6, 12, false, [], .aload_n 0, 1, [], []),
  (7, 13, false, [], .getfield 47, 3, [7, 6], [361]),
  (8, 16, false, [], .iload_n 1, 1, [], []),
  (9, 17, false, [], .aaload, 1, [400004], []),
  (10, 18, false, [], .astore_n 2, 1, [], []),
  (11, 19, false, [], .aload_n 2, 1, [], []),
  (12, 20, false, [], .invokevirtual 176, 3, [34, 0, 1, 0, 4], [498, 500]),
  (13, 23, false, [], .ifCond .ne 7, 3, [16], []),
  (14, 26, false, [], .sipush (-20003), 3, [], []),
  (15, 29, false, [], .ireturn, 1, [0], []),
  (16, 30, false, [], .aload_n 2, 1, [], []),
  (17, 31, false, [], .getfield 192, 3, [3, 3], [325]),
  (18, 34, false, [], .istore_n 3, 1, [], []),
  (19, 35, false, [], .aload_n 2, 1, [], []),
  (20, 36, false, [], .iconst 0, 1, [], []),
  (21, 37, false, [], .invokevirtual 95, 3, [33, 1, 0, 0, 4], [545, 547]),
  (22, 40, false, [], .iload_n 3, 1, [], []),
  (23, 41, false, [], .ireturn, 1, [0], [])]
theorem l_C_stop : (z_hd m_C_stop).2.2.1 = 4 := by decide +kernel
theorem k_C_stop : z_okM m_C_stop c_C_stop = true := by decide +kernel
def c_C_task : List z_In := [
  (0, 0, false, [], .iload_n 1, 1, [], []),
  (1, 1, false, [], .iconst 4, 1, [], []),
  (2, 2, false, [], .invokestatic 60, 3, [96, 2, 1, 0], [407]),
  (3, 5, false, [], .ifCond .eq 12, 3, [9], []),
  (4, 8, false, [], .iload_n 2, 1, [], []),
  (5, 9, false, [], .ifCond .lt 8, 3, [9], []),
  (6, 12, false, [], .iload_n 2, 1, [], []),
  (7, 13, false, [], .iconst 5, 1, [], []),
  (8, 14, false, [], .if_icmp .le 7, 3, [11], []),
  (9, 17, false, [], .sipush (-20001), 3, [], []),
  (10, 20, false, [], .ireturn, 1, [0], []),
  (11, 21, false, [], .aload_n 0, 1, [], []),
  (12, 22, false, [], .getfield 47, 3, [7, 6], [361]),
  (13, 25, false, [], .iload_n 1, 1, [], []),
  (14, 26, false, [], .aaload, 1, [400004], []),
  (15, 27, false, [], .astore_n 3, 1, [], []),
  (16, 28, false, [], .iload_n 2, 1, [], []),
  (17, 29, false, [], .tableswitch 96 0 4 #[35, 40, 67, 72, 77], 35, [49, 18, 21, 34, 37, 40], []),
  (18, 64, false, [], .aload_n 3, 1, [], []),
  (19, 65, false, [], .getfield 182, 3, [3, 2], [323]),
  (20, 68, false, [], .ireturn, 1, [0], []),
  (21, 69, false, [], .aload_n 3, 1, [], []),
  (22, 70, false, [], .getfield 182, 3, [3, 2], [323]),
  (23, 73, false, [], .iconst 3, 1, [], []),
  (24, 74, false, [], .if_icmp .eq 11, 3, [29], []),
  (25, 77, false, [], .aload_n 3, 1, [], []),
  (26, 78, false, [], .getfield 182, 3, [3, 2], [323]),
  (27, 81, false, [], .iconst 4, 1, [], []),
  (28, 82, false, [], .if_icmp .ne 10, 3, [32], []),
  (29, 85, false, [], .aload_n 3, 1, [], []),
  (30, 86, false, [], .invokevirtual 113, 3, [42, 0, 1, 0, 4], [716, 718]),
  (31, 89, false, [], .goto 6, 3, [33], []),
  (32, 92, false, [], .sipush (-20002), 3, [], []),
  (33, 95, false, [], .ireturn, 1, [0], []),
  (34, 96, false, [], .aload_n 3, 1, [], []),
  (35, 97, false, [], .getfield 192, 3, [3, 3], [325]),
  (36, 100, false, [], .ireturn, 1, [0], []),
  (37, 101, false, [], .aload_n 3, 1, [], []),
  (38, 102, false, [], .getfield 107, 3, [3, 4], [327]),
  (39, 105, false, [], .ireturn, 1, [0], []),
  (40, 106, false, [], .aload_n 3, 1, [], []),
  (41, 107, false, [], .getfield 182, 3, [3, 2], [323]),
  (42, 110, false, [], .iconst 2, 1, [], []),
  (43, 111, false, [], .if_icmp .ne 10, 3, [47], []),
  (44, 114, false, [], .aload_n 3, 1, [], []),
  (45, 115, false, [], .getfield 195, 3, [3, 5], [329]),
  (46, 118, false, [], .goto 6, 3, [48], []),
  (47, 121, false, [], .sipush (-20002), 3, [], []),
  (48, 124, false, [], .ireturn, 1, [0], []),
  (49, 125, false, [], .aload_n 3, 1, [], []),
  (50, 126, false, [], .getfield 182, 3, [3, 2], [323]),
  (51, 129, false, [], .iconst 2, 1, [], []),
  (52, 130, false, [], .if_icmp .ne 10, 3, [56], []),
  (53, 133, false, [], .aload_n 3, 1, [], []),
  (54, 134, false, [], .getfield 198, 3, [3, 6], [331]),
  (55, 137, false, [], .goto 6, 3, [57], []),
  (56, 140, false, [], .sipush (-20002), 3, [], []),
  (57, 143, false, [], .ireturn, 1, [0], [])]
theorem l_C_task : (z_hd m_C_task).2.2.1 = 4 := by decide +kernel
theorem k_C_task : z_okM m_C_task c_C_task = true := by decide +kernel
def c_C_frame : List z_In := [
  (0, 0, false, [], .iload_n 1, 1, [], []),
  (1, 1, false, [], .iconst 4, 1, [], []),
  (2, 2, false, [], .invokestatic 60, 3, [96, 2, 1, 0], [407]),
  (3, 5, false, [], .ifCond .eq 7, 3, [6], []),
  (4, 8, false, [], .iload_n 2, 1, [], []),
  (5, 9, false, [], .ifCond .ge 7, 3, [8], []),
  (6, 12, false, [], .sipush (-20001), 3, [], []),
  (7, 15, false, [], .ireturn, 1, [0], []),
  (8, 16, false, [], .aload_n 0, 1, [], []),
  (9, 17, false, [], .getfield 47, 3, [7, 6], [361]),
  (10, 20, false, [], .iload_n 1, 1, [], []),
  (11, 21, false, [], .aaload, 1, [400004], []),
  (12, 22, false, [], .astore_n 3, 1, [], []),
  (13, 23, false, [], .iload_n 2, 1, [], []),
  (14, 24, false, [], .aload_n 3, 1, [], []),
  (15, 25, false, [], .getfield 192, 3, [3, 3], [325]),
  (16, 28, false, [], .if_icmp .ge 15, 3, [23], []),
  (17, 31, false, [], .aload_n 3, 1, [], []),
  (18, 32, false, [], .getfield 201, 3, [3, 0], [319]),
  (19, 35, false, [], .iload_n 2, 1, [], []),
  (20, 36, false, [], .aaload, 1, [500030], []),
  (21, 37, false, [], .getfield 205, 3, [0, 3], [283]),
  (22, 40, false, [], .goto 6, 3, [24], []),
  (23, 43, false, [], .sipush (-20002), 3, [], []),
  (24, 46, false, [], .ireturn, 1, [0], [])]
theorem l_C_frame : (z_hd m_C_frame).2.2.1 = 4 := by decide +kernel
theorem k_C_frame : z_okM m_C_frame c_C_frame = true := by decide +kernel
def c_C_led : List z_In := [
  (0, 0, false, [], .iload_n 1, 1, [], []),
  (1, 1, false, [], .tableswitch 87 0 6 #[43, 48, 53, 58, 66, 74, 82], 43, [26, 2, 5, 8, 11, 15, 19, 23], []),
  (2, 44, false, [], .aload_n 0, 1, [], []),
  (3, 45, false, [], .getfield 208, 3, [7, 9], [364]),
  (4, 48, false, [], .ireturn, 1, [0], []),
  (5, 49, false, [], .aload_n 0, 1, [], []),
  (6, 50, false, [], .getfield 211, 3, [7, 10], [365]),
  (7, 53, false, [], .ireturn, 1, [0], []),
  (8, 54, false, [], .aload_n 0, 1, [], []),
  (9, 55, false, [], .getfield 214, 3, [7, 11], [366]),
  (10, 58, false, [], .ireturn, 1, [0], []),
  (11, 59, false, [], .aload_n 0, 1, [], []),
  (12, 60, false, [], .getfield 29, 3, [7, 3], [358]),
  (13, 63, false, [], .getfield 217, 3, [4, 7], [216]),
  (14, 66, false, [], .ireturn, 1, [0], []),
  (15, 67, false, [], .aload_n 0, 1, [], []),
  (16, 68, false, [], .getfield 29, 3, [7, 3], [358]),
  (17, 71, false, [], .getfield 220, 3, [4, 8], [218]),
  (18, 74, false, [], .ireturn, 1, [0], []),
  (19, 75, false, [], .aload_n 0, 1, [], []),
  (20, 76, false, [], .getfield 29, 3, [7, 3], [358]),
  (21, 79, false, [], .getfield 223, 3, [4, 9], [220]),
  (22, 82, false, [], .ireturn, 1, [0], []),
  (23, 83, false, [], .aload_n 0, 1, [], []),
  (24, 84, false, [], .getfield 226, 3, [7, 12], [367]),
  (25, 87, false, [], .ireturn, 1, [0], []),
  (26, 88, false, [], .sipush (-20001), 3, [], []),
  (27, 91, false, [], .ireturn, 1, [0], [])]
theorem l_C_led : (z_hd m_C_led).2.2.1 = 2 := by decide +kernel
theorem k_C_led : z_okM m_C_led c_C_led = true := by decide +kernel
def c_C_count : List z_In := [
  (0, 0, false, [], .iload_n 1, 1, [], []),
  (1, 1, false, [], .tableswitch 78 0 5 #[39, 47, 55, 60, 68, 73], 39, [23, 2, 6, 10, 13, 17, 20], []),
  (2, 40, false, [], .aload_n 0, 1, [], []),
  (3, 41, false, [], .getfield 29, 3, [7, 3], [358]),
  (4, 44, false, [], .getfield 144, 3, [4, 2], [206]),
  (5, 47, false, [], .ireturn, 1, [0], []),
  (6, 48, false, [], .aload_n 0, 1, [], []),
  (7, 49, false, [], .getfield 29, 3, [7, 3], [358]),
  (8, 52, false, [], .getfield 229, 3, [4, 3], [208]),
  (9, 55, false, [], .ireturn, 1, [0], []),
  (10, 56, false, [], .aload_n 0, 1, [], []),
  (11, 57, false, [], .invokevirtual 232, 3, [100, 0, 1, 0, 8], [843, 33]),
  (12, 60, false, [], .ireturn, 1, [0], []),
  (13, 61, false, [], .aload_n 0, 1, [], []),
  (14, 62, false, [], .getfield 22, 3, [7, 2], [357]),
  (15, 65, false, [], .getfield 56, 3, [2, 2], [127]),
  (16, 68, false, [], .ireturn, 1, [0], []),
  (17, 69, false, [], .aload_n 0, 1, [], []),
  (18, 70, false, [], .getfield 235, 3, [7, 7], [362]),
  (19, 73, false, [], .ireturn, 1, [0], []),
  (20, 74, false, [], .aload_n 0, 1, [], []),
  (21, 75, false, [], .invokevirtual 238, 3, [101, 0, 1, 0, 8], [847, 34]),
  (22, 78, false, [], .ireturn, 1, [0], []),
  (23, 79, false, [], .sipush (-20001), 3, [], []),
  (24, 82, false, [], .ireturn, 1, [0], [])]
theorem l_C_count : (z_hd m_C_count).2.2.1 = 2 := by decide +kernel
theorem k_C_count : z_okM m_C_count c_C_count = true := by decide +kernel
def c_C_within : List z_In := [
  (0, 0, false, [], .iload_n 0, 1, [], []),
  (1, 1, false, [], .ifCond .lt 12, 3, [7], []),
  (2, 4, false, [], .iload_n 0, 1, [], []),
  (3, 5, false, [], .iload_n 1, 1, [], []),
  (4, 6, false, [], .if_icmp .ge 7, 3, [7], []),
  (5, 9, false, [], .iconst 1, 1, [], []),
  (6, 10, false, [], .goto 4, 3, [8], []),
  (7, 13, false, [], .iconst 0, 1, [], []),
  (8, 14, false, [], .ireturn, 1, [1], [])]
theorem l_C_within : (z_hd m_C_within).2.2.1 = 2 := by decide +kernel
theorem k_C_within : z_okM m_C_within c_C_within = true := by decide +kernel
def c_C_isArgument : List z_In := [
  (0, 0, false, [], .iload_n 0, 1, [], []),
  (1, 1, false, [], .bipush (-50), 2, [], []),
  (2, 3, false, [], .if_icmp .lt 13, 3, [8], []),
  (3, 6, false, [], .iload_n 0, 1, [], []),
  (4, 7, false, [], .bipush 50, 2, [], []),
  (5, 9, false, [], .if_icmp .gt 7, 3, [8], []),
  (6, 12, false, [], .iconst 1, 1, [], []),
  (7, 13, false, [], .goto 4, 3, [9], []),
  (8, 16, false, [], .iconst 0, 1, [], []),
  (9, 17, false, [], .ireturn, 1, [1], [])]
theorem l_C_isArgument : (z_hd m_C_isArgument).2.2.1 = 1 := by decide +kernel
theorem k_C_isArgument : z_okM m_C_isArgument c_C_isArgument = true := by decide +kernel
def c_C_isKey : List z_In := [
  (0, 0, false, [], .iload_n 0, 1, [], []),
  (1, 1, false, [], .bipush 12, 2, [], []),
  (2, 3, false, [], .invokestatic 60, 3, [96, 2, 1, 0], [407]),
  (3, 6, false, [], .ifCond .eq 14, 3, [9], []),
  (4, 9, false, [], .iload_n 1, 1, [], []),
  (5, 10, false, [], .invokestatic 241, 3, [97, 1, 1, 0], [542]),
  (6, 13, false, [], .ifCond .eq 7, 3, [9], []),
  (7, 16, false, [], .iconst 1, 1, [], []),
  (8, 17, false, [], .goto 4, 3, [10], []),
  (9, 20, false, [], .iconst 0, 1, [], []),
  (10, 21, false, [], .ireturn, 1, [1], [])]
theorem l_C_isKey : (z_hd m_C_isKey).2.2.1 = 2 := by decide +kernel
theorem k_C_isKey : z_okM m_C_isKey c_C_isKey = true := by decide +kernel
def c_C_keyOf : List z_In := [
  (0, 0, false, [], .bipush 101, 2, [], []),
  (1, 2, false, [], .iload_n 0, 1, [], []),
  (2, 3, false, [], .imul, 1, [], []),
  (3, 4, false, [], .iload_n 1, 1, [], []),
  (4, 5, false, [], .iadd, 1, [], []),
  (5, 6, false, [], .bipush 50, 2, [], []),
  (6, 8, false, [], .iadd, 1, [], []),
  (7, 9, false, [], .ireturn, 1, [0], [])]
theorem l_C_keyOf : (z_hd m_C_keyOf).2.2.1 = 2 := by decide +kernel
theorem k_C_keyOf : z_okM m_C_keyOf c_C_keyOf = true := by decide +kernel
def c_C_rulesWithText : List z_In := [
  (0, 0, false, [], .iconst 0, 1, [], []),
  (1, 1, false, [], .istore_n 1, 1, [], []),
  (2, 2, false, [], .aload_n 0, 1, [], []),
  (3, 3, false, [], .getfield 15, 3, [7, 1], [356]),
  (4, 6, false, [], .astore_n 2, 1, [], []),
  (5, 7, false, [], .aload_n 2, 1, [], []),
  (6, 8, false, [], .arraylength, 1, [300012], []),
  (7, 9, false, [], .istore_n 3, 1, [], []),
  (8, 10, false, [], .iconst 0, 1, [], []),
  (9, 11, false, [], .istore 4, 2, [], []),
  (10, 13, true, [false, true, true, true, true, false], .iload 4, 2, [], []),
  (11, 15, false, [], .iload_n 3, 1, [], []),
  (12, 16, false, [], .if_icmp .ge 26, 3, [23], []),
  (13, 19, false, [], .aload_n 2, 1, [], []),
  (14, 20, false, [], .iload 4, 2, [], []),
  (15, 22, false, [], .aaload, 1, [300012], []),
  (16, 23, false, [], .astore 5, 2, [], []),
  (17, 25, false, [], .aload 5, 2, [], []),
  (18, 27, false, [], .invokevirtual 86, 3, [58, 0, 1, 0, 6], [522, 524]),
  (19, 30, false, [], .ifCond .eq 6, 3, [21], []),
  (20, 33, false, [], .iinc 1 1, 3, [], []),
  (21, 36, true, [false, true, true, true, true, false], .iinc 4 1, 3, [], []),
  (22, 39, false, [], .goto (-26), 3, [10], []),
  (23, 42, false, [], .iload_n 1, 1, [], []),
  (24, 43, false, [], .ireturn, 1, [0], [])]
theorem l_C_rulesWithText : (z_hd m_C_rulesWithText).2.2.1 = 6 := by decide +kernel
theorem k_C_rulesWithText : z_okM m_C_rulesWithText c_C_rulesWithText = true := by decide +kernel
def c_C_busyTasks : List z_In := [
  (0, 0, false, [], .iconst 0, 1, [], []),
  (1, 1, false, [], .istore_n 1, 1, [], []),
  (2, 2, false, [], .aload_n 0, 1, [], []),
  (3, 3, false, [], .getfield 47, 3, [7, 6], [361]),
  (4, 6, false, [], .astore_n 2, 1, [], []),
  (5, 7, false, [], .aload_n 2, 1, [], []),
  (6, 8, false, [], .arraylength, 1, [400004], []),
  (7, 9, false, [], .istore_n 3, 1, [], []),
  (8, 10, false, [], .iconst 0, 1, [], []),
  (9, 11, false, [], .istore 4, 2, [], []),
  (10, 13, true, [false, true, true, true, true, false], .iload 4, 2, [], []),
  (11, 15, false, [], .iload_n 3, 1, [], []),
  (12, 16, false, [], .if_icmp .ge 26, 3, [23], []),
  (13, 19, false, [], .aload_n 2, 1, [], []),
  (14, 20, false, [], .iload 4, 2, [], []),
  (15, 22, false, [], .aaload, 1, [400004], []),
  (16, 23, false, [], .astore 5, 2, [], []),
  (17, 25, false, [], .aload 5, 2, [], []),
  (18, 27, false, [], .invokevirtual 176, 3, [34, 0, 1, 0, 4], [498, 500]),
  (19, 30, false, [], .ifCond .eq 6, 3, [21], []),
  (20, 33, false, [], .iinc 1 1, 3, [], []),
  (21, 36, true, [false, true, true, true, true, false], .iinc 4 1, 3, [], []),
  (22, 39, false, [], .goto (-26), 3, [10], []),
  (23, 42, false, [], .iload_n 1, 1, [], []),
  (24, 43, false, [], .ireturn, 1, [0], [])]
theorem l_C_busyTasks : (z_hd m_C_busyTasks).2.2.1 = 6 := by decide +kernel
theorem k_C_busyTasks : z_okM m_C_busyTasks c_C_busyTasks = true := by decide +kernel
def c_C_workOut : List z_In := [
  (0, 0, false, [], .aload_n 0, 1, [], []),
  (1, 1, false, [], .aload_n 1, 1, [], []),
  (2, 2, false, [], .iload_n 2, 1, [], []),
  (3, 3, false, [], .invokevirtual 179, 3, [110, 2, 0, 0, 8], [556, 17]),
  (4, 6, false, [], .iconst 0, 1, [], []),
  (5, 7, false, [], .istore_n 3, 1, [], []),
  (6, 8, true, [true, true, false, true], .iload_n 3, 1, [], []),
  (7, 9, false, [], .sipush 2000, 3, [], []),
  (8, 12, false, [], .if_icmp .gt 22, 3, [18], []),
  (9, 15, false, [], .aload_n 1, 1, [], []),
  (10, 16, false, [], .getfield 182, 3, [3, 2], [323]),
  (11, 19, false, [], .iconst 1, 1, [], []),
  (12, 20, false, [], .if_icmp .ne 14, 3, [18], []),
  (13, 23, false, [], .aload_n 0, 1, [], []),
  (14, 24, false, [], .aload_n 1, 1, [], []),
  (15, 25, false, [], .invokevirtual 189, 3, [104, 1, 0, 0, 8], [624, 23]),
  (16, 28, false, [], .iinc 3 1, 3, [], []),
  (17, 31, false, [], .goto (-23), 3, [6], []),
  (18, 34, false, [], .return_, 1, [], [])]
theorem l_C_workOut : (z_hd m_C_workOut).2.2.1 = 4 := by decide +kernel
theorem k_C_workOut : z_okM m_C_workOut c_C_workOut = true := by decide +kernel
def c_C_goOn : List z_In := [
  (0, 0, false, [], .aload_n 1, 1, [], []),
  (1, 1, false, [], .getfield 182, 3, [3, 2], [323]),
  (2, 4, false, [], .iconst 2, 1, [], []),
  (3, 5, false, [], .if_icmp .ne 18, 3, [13], []),
  (4, 8, false, [], .aload_n 0, 1, [], []),
  (5, 9, false, [], .aload_n 1, 1, [], []),
  (6, 10, false, [], .aload_n 1, 1, [], []),
  (7, 11, false, [], .getfield 198, 3, [3, 6], [331]),
  (8, 14, false, [], .invokevirtual 179, 3, [110, 2, 0, 0, 8], [556, 17]),
  (9, 17, false, [], .aload_n 0, 1, [], []),
  (10, 18, false, [], .aload_n 1, 1, [], []),
  (11, 19, false, [], .invokevirtual 244, 3, [115, 1, 0, 0, 8], [661, 28]),
  (12, 22, false, [], .return_, 1, [], []),
  (13, 23, false, [], .aload_n 1, 1, [], []),
  (14, 24, false, [], .invokevirtual 247, 3, [35, 0, 3, 0, 4], [628, 578]),
  (15, 27, false, [], .astore_n 2, 1, [], []),
  (16, 28, false, [], .aload_n 2, 1, [], []),
  (17, 29, false, [], .ifnull 10, 3, [21], []),
  (18, 32, false, [], .aload_n 2, 1, [], []),
  (19, 33, false, [], .invokevirtual 251, 3, [2, 0, 1, 0, 1], [822, 671]),
  (20, 36, false, [], .ifCond .ne 9, 3, [25], []),
  (21, 39, false, [], .aload_n 0, 1, [], []),
  (22, 40, false, [], .aload_n 1, 1, [], []),
  (23, 41, false, [], .iconst 5, 1, [], []),
  (24, 42, false, [], .invokevirtual 254, 3, [117, 2, 0, 0, 8], [596, 19]),
  (25, 45, false, [], .return_, 1, [], [])]
theorem l_C_goOn : (z_hd m_C_goOn).2.2.1 = 3 := by decide +kernel
theorem k_C_goOn : z_okM m_C_goOn c_C_goOn = true := by decide +kernel
def c_C_workStep : List z_In := [
  (0, 0, false, [], .aload_n 1, 1, [], []),
  (1, 1, false, [], .invokevirtual 247, 3, [35, 0, 3, 0, 4], [628, 578]),
  (2, 4, false, [], .astore_n 2, 1, [], []),
  (3, 5, false, [], .aload_n 2, 1, [], []),
  (4, 6, false, [], .ifnonnull 4, 3, [6], []),
  (5, 9, false, [], .return_, 1, [], []),
  (6, 10, false, [], .aload_n 1, 1, [], []),
  (7, 11, false, [], .getfield 107, 3, [3, 4], [327]),
  (8, 14, false, [], .sipush 2000, 3, [], []),
  (9, 17, false, [], .if_icmp .lt 11, 3, [15], []),
  (10, 20, false, [], .aload_n 0, 1, [], []),
  (11, 21, false, [], .aload_n 1, 1, [], []),
  (12, 22, false, [], .bipush 6, 2, [], []),
  (13, 24, false, [], .invokevirtual 254, 3, [117, 2, 0, 0, 8], [596, 19]),
  (14, 27, false, [], .return_, 1, [], []),
  (15, 28, false, [], .aload_n 1, 1, [], []),
  (16, 29, false, [], .dup, 1, [], []),
  (17, 30, false, [], .getfield 107, 3, [3, 4], [327]),
  (18, 33, false, [], .iconst 1, 1, [], []),
  (19, 34, false, [], .iadd, 1, [], []),
  (20, 35, false, [], .putfield 107, 3, [3, 4], [327]),
  (21, 38, false, [], .aload_n 0, 1, [], []),
  (22, 39, false, [], .aload_n 1, 1, [], []),
  (23, 40, false, [], .aload_n 2, 1, [], []),
  (24, 41, false, [], .invokevirtual 257, 3, [105, 2, 1, 0, 8], [629, 24]),
  (25, 44, false, [], .istore_n 3, 1, [], []),
  (26, 45, false, [], .iload_n 3, 1, [], []),
  (27, 46, false, [], .iconst (-1), 1, [], []),
  (28, 47, false, [], .if_icmp .eq 9, 3, [33], []),
  (29, 50, false, [], .aload_n 0, 1, [], []),
  (30, 51, false, [], .aload_n 1, 1, [], []),
  (31, 52, false, [], .iload_n 3, 1, [], []),
  (32, 53, false, [], .invokevirtual 179, 3, [110, 2, 0, 0, 8], [556, 17]),
  (33, 56, false, [], .aload_n 0, 1, [], []),
  (34, 57, false, [], .aload_n 1, 1, [], []),
  (35, 58, false, [], .invokevirtual 244, 3, [115, 1, 0, 0, 8], [661, 28]),
  (36, 61, false, [], .return_, 1, [], [])]
theorem l_C_workStep : (z_hd m_C_workStep).2.2.1 = 4 := by decide +kernel
theorem k_C_workStep : z_okM m_C_workStep c_C_workStep = true := by decide +kernel
def c_C_workNode : List z_In := [
  (0, 0, false, [], .aload_n 2, 1, [], []),
  (1, 1, false, [], .invokevirtual 261, 3, [4, 0, 1, 0, 1], [633, 635]),
  (2, 4, false, [], .istore_n 3, 1, [], []),
  (3, 5, false, [], .iload_n 3, 1, [], []),
  (4, 6, false, [], .iconst 4, 1, [], []),
  (5, 7, false, [], .ishr, 1, [], []),
  (6, 8, false, [], .istore 4, 2, [], []),
  (7, 10, false, [], .iload_n 3, 1, [], []),
  (8, 11, false, [], .bipush 15, 2, [], []),
  (9, 13, false, [], .iand, 1, [], []),
  (10, 14, false, [], .tableswitch 100 0 5 #[38, 46, 56, 65, 74, 85], 38, [49, 11, 16, 22, 28, 34, 41], []),
  (11, 52, false, [], .aload_n 2, 1, [], []),
  (12, 53, false, [], .iload 4, 2, [], []),
  (13, 55, false, [], .invokevirtual 264, 3, [5, 1, 0, 0, 1], [637, 586]),
  (14, 58, false, [], .iconst (-1), 1, [], []),
  (15, 59, false, [], .ireturn, 1, [0], []),
  (16, 60, false, [], .aload_n 2, 1, [], []),
  (17, 61, false, [], .aload_n 2, 1, [], []),
  (18, 62, false, [], .invokevirtual 267, 3, [3, 0, 1, 0, 1], [638, 640]),
  (19, 65, false, [], .invokevirtual 264, 3, [5, 1, 0, 0, 1], [637, 586]),
  (20, 68, false, [], .iconst (-1), 1, [], []),
  (21, 69, false, [], .ireturn, 1, [0], []),
  (22, 70, false, [], .aload_n 0, 1, [], []),
  (23, 71, false, [], .aload_n 2, 1, [], []),
  (24, 72, false, [], .iload 4, 2, [], []),
  (25, 74, false, [], .invokevirtual 270, 3, [106, 2, 0, 0, 8], [642, 25]),
  (26, 77, false, [], .iconst (-1), 1, [], []),
  (27, 78, false, [], .ireturn, 1, [0], []),
  (28, 79, false, [], .aload_n 0, 1, [], []),
  (29, 80, false, [], .aload_n 1, 1, [], []),
  (30, 81, false, [], .aload_n 2, 1, [], []),
  (31, 82, false, [], .iload 4, 2, [], []),
  (32, 84, false, [], .invokevirtual 274, 3, [107, 3, 1, 0, 8], [646, 26]),
  (33, 87, false, [], .ireturn, 1, [0], []),
  (34, 88, false, [], .aload_n 2, 1, [], []),
  (35, 89, false, [], .aload_n 2, 1, [], []),
  (36, 90, false, [], .invokevirtual 278, 3, [6, 0, 1, 0, 1], [650, 652]),
  (37, 93, false, [], .ineg, 1, [], []),
  (38, 94, false, [], .invokevirtual 264, 3, [5, 1, 0, 0, 1], [637, 586]),
  (39, 97, false, [], .iconst (-1), 1, [], []),
  (40, 98, false, [], .ireturn, 1, [0], []),
  (41, 99, false, [], .aload_n 2, 1, [], []),
  (42, 100, false, [], .invokevirtual 278, 3, [6, 0, 1, 0, 1], [650, 652]),
  (43, 103, false, [], .ifCond .ne 9, 3, [47], []),
  (44, 106, false, [], .aload_n 2, 1, [], []),
  (45, 107, false, [], .iload 4, 2, [], []),
  (46, 109, false, [], .putfield 281, 3, [0, 6], [289]),
  (47, 112, false, [], .iconst (-1), 1, [], []),
  (48, 113, false, [], .ireturn, 1, [0], []),
  (49, 114, false, [], .aload_n 0, 1, [], []),
  (50, 115, false, [], .aload_n 1, 1, [], []),
  (51, 116, false, [], .aload_n 2, 1, [], []),
  (52, 117, false, [], .iload_n 3, 1, [], []),
  (53, 118, false, [], .bipush 15, 2, [], []),
  (54, 120, false, [], .iand, 1, [], []),
  (55, 121, false, [], .invokevirtual 284, 3, [108, 3, 0, 0, 8], [654, 27]),
  (56, 124, false, [], .iconst (-1), 1, [], []),
  (57, 125, false, [], .ireturn, 1, [0], [])]
theorem l_C_workNode : (z_hd m_C_workNode).2.2.1 = 5 := by decide +kernel
theorem k_C_workNode : z_okM m_C_workNode c_C_workNode = true := by decide +kernel
def c_C_readCell : List z_In := [
  (0, 0, false, [], .iload_n 2, 1, [], []),
  (1, 1, false, [], .bipush 12, 2, [], []),
  (2, 3, false, [], .invokestatic 60, 3, [96, 2, 1, 0], [407]),
  (3, 6, false, [], .ifCond .eq 25, 3, [18], []),
  (4, 9, false, [], .aload_n 1, 1, [], []),
  (5, 10, false, [], .dup, 1, [], []),
  (6, 11, false, [], .getfield 288, 3, [0, 7], [293]),
  (7, 14, false, [], .iconst 1, 1, [], []),
  (8, 15, false, [], .iload_n 2, 1, [], []),
  (9, 16, false, [], .ishl, 1, [], []),
  (10, 17, false, [], .ior, 1, [], []),
  (11, 18, false, [], .putfield 288, 3, [0, 7], [293]),
  (12, 21, false, [], .aload_n 1, 1, [], []),
  (13, 22, false, [], .aload_n 0, 1, [], []),
  (14, 23, false, [], .getfield 9, 3, [7, 0], [355]),
  (15, 26, false, [], .iload_n 2, 1, [], []),
  (16, 27, false, [], .iaload, 1, [100012], []),
  (17, 28, false, [], .invokevirtual 264, 3, [5, 1, 0, 0, 1], [637, 586]),
  (18, 31, false, [], .return_, 1, [], [])]
theorem l_C_readCell : (z_hd m_C_readCell).2.2.1 = 3 := by decide +kernel
theorem k_C_readCell : z_okM m_C_readCell c_C_readCell = true := by decide +kernel
def c_C_calledKey : List z_In := [
  (0, 0, false, [], .aload_n 2, 1, [], []),
  (1, 1, false, [], .invokevirtual 278, 3, [6, 0, 1, 0, 1], [650, 652]),
  (2, 4, false, [], .istore 4, 2, [], []),
  (3, 6, false, [], .iload 4, 2, [], []),
  (4, 8, false, [], .invokestatic 241, 3, [97, 1, 1, 0], [542]),
  (5, 11, false, [], .ifCond .eq 10, 3, [10], []),
  (6, 14, false, [], .iload_n 3, 1, [], []),
  (7, 15, false, [], .iload 4, 2, [], []),
  (8, 17, false, [], .invokestatic 99, 3, [99, 2, 1, 0], [549]),
  (9, 20, false, [], .ireturn, 1, [0], []),
  (10, 21, false, [], .aload_n 0, 1, [], []),
  (11, 22, false, [], .aload_n 1, 1, [], []),
  (12, 23, false, [], .iconst 3, 1, [], []),
  (13, 24, false, [], .invokevirtual 254, 3, [117, 2, 0, 0, 8], [596, 19]),
  (14, 27, false, [], .iconst (-1), 1, [], []),
  (15, 28, false, [], .ireturn, 1, [0], [])]
theorem l_C_calledKey : (z_hd m_C_calledKey).2.2.1 = 5 := by decide +kernel
theorem k_C_calledKey : z_okM m_C_calledKey c_C_calledKey = true := by decide +kernel
def c_C_workSign : List z_In := [
  (0, 0, false, [], .aload_n 2, 1, [], []),
  (1, 1, false, [], .invokevirtual 278, 3, [6, 0, 1, 0, 1], [650, 652]),
  (2, 4, false, [], .istore 4, 2, [], []),
  (3, 6, false, [], .aload_n 2, 1, [], []),
  (4, 7, false, [], .invokevirtual 278, 3, [6, 0, 1, 0, 1], [650, 652]),
  (5, 10, false, [], .istore 5, 2, [], []),
  (6, 12, false, [], .iload_n 3, 1, [], []),
  (7, 13, false, [], .bipush 10, 2, [], []),
  (8, 15, false, [], .if_icmp .ne 15, 3, [16], []),
  (9, 18, false, [], .iload 4, 2, [], []),
  (10, 20, false, [], .ifCond .ne 10, 3, [16], []),
  (11, 23, false, [], .aload_n 0, 1, [], []),
  (12, 24, false, [], .aload_n 1, 1, [], []),
  (13, 25, false, [], .iconst 2, 1, [], []),
  (14, 26, false, [], .invokevirtual 254, 3, [117, 2, 0, 0, 8], [596, 19]),
  (15, 29, false, [], .return_, 1, [], []),
  (16, 30, true, [true, true, true, true, true, true, false], .iload_n 3, 1, [], []),
  (17, 31, false, [], .iload 5, 2, [], []),
  (18, 33, false, [], .iload 4, 2, [], []),
  (19, 35, false, [], .invokestatic 291, 3, [109, 3, 1, 0], [658]),
  (20, 38, false, [], .istore 6, 2, [], []),
  (21, 40, false, [], .iload 6, 2, [], []),
  (22, 42, false, [], .sipush (-9999), 3, [], []),
  (23, 45, false, [], .if_icmp .lt 11, 3, [27], []),
  (24, 48, false, [], .iload 6, 2, [], []),
  (25, 50, false, [], .sipush 9999, 3, [], []),
  (26, 53, false, [], .if_icmp .le 10, 3, [32], []),
  (27, 56, false, [], .aload_n 0, 1, [], []),
  (28, 57, false, [], .aload_n 1, 1, [], []),
  (29, 58, false, [], .iconst 3, 1, [], []),
  (30, 59, false, [], .invokevirtual 254, 3, [117, 2, 0, 0, 8], [596, 19]),
  (31, 62, false, [], .return_, 1, [], []),
  (32, 63, false, [], .aload_n 2, 1, [], []),
  (33, 64, false, [], .iload 6, 2, [], []),
  (34, 66, false, [], .invokevirtual 264, 3, [5, 1, 0, 0, 1], [637, 586]),
  (35, 69, false, [], .return_, 1, [], [])]
theorem l_C_workSign : (z_hd m_C_workSign).2.2.1 = 7 := by decide +kernel
theorem k_C_workSign : z_okM m_C_workSign c_C_workSign = true := by decide +kernel
def c_C_join : List z_In := [
  (0, 0, false, [], .iload_n 0, 1, [], []),
  (1, 1, false, [], .tableswitch 70 7 11 #[35, 39, 43, 47, 59], 35, [29, 2, 6, 10, 14, 22], []),
  (2, 36, false, [], .iload_n 1, 1, [], []),
  (3, 37, false, [], .iload_n 2, 1, [], []),
  (4, 38, false, [], .iadd, 1, [], []),
  (5, 39, false, [], .ireturn, 1, [0], []),
  (6, 40, false, [], .iload_n 1, 1, [], []),
  (7, 41, false, [], .iload_n 2, 1, [], []),
  (8, 42, false, [], .isub, 1, [], []),
  (9, 43, false, [], .ireturn, 1, [0], []),
  (10, 44, false, [], .iload_n 1, 1, [], []),
  (11, 45, false, [], .iload_n 2, 1, [], []),
  (12, 46, false, [], .imul, 1, [], []),
  (13, 47, false, [], .ireturn, 1, [0], []),
  (14, 48, false, [], .iload_n 2, 1, [], []),
  (15, 49, false, [], .ifCond .ne 7, 3, [18], []),
  (16, 52, false, [], .iconst 0, 1, [], []),
  (17, 53, false, [], .goto 6, 3, [21], []),
  (18, 56, false, [], .iload_n 1, 1, [], []),
  (19, 57, false, [], .iload_n 2, 1, [], []),
  (20, 58, false, [], .idiv, 1, [], []),
  (21, 59, false, [], .ireturn, 1, [0], []),
  (22, 60, false, [], .iload_n 1, 1, [], []),
  (23, 61, false, [], .iload_n 2, 1, [], []),
  (24, 62, false, [], .if_icmp .ge 7, 3, [27], []),
  (25, 65, false, [], .iconst 1, 1, [], []),
  (26, 66, false, [], .goto 4, 3, [28], []),
  (27, 69, false, [], .iconst 0, 1, [], []),
  (28, 70, false, [], .ireturn, 1, [0], []),
  (29, 71, false, [], .iload_n 1, 1, [], []),
  (30, 72, false, [], .iload_n 2, 1, [], []),
  (31, 73, false, [], .if_icmp .ne 7, 3, [34], []),
  (32, 76, false, [], .iconst 1, 1, [], []),
  (33, 77, false, [], .goto 4, 3, [35], []),
  (34, 80, false, [], .iconst 0, 1, [], []),
  (35, 81, false, [], .ireturn, 1, [0], [])]
theorem l_C_join : (z_hd m_C_join).2.2.1 = 3 := by decide +kernel
theorem k_C_join : z_okM m_C_join c_C_join = true := by decide +kernel
def c_C_askKey : List z_In := [
  (0, 0, false, [], .aload_n 1, 1, [], []),
  (1, 1, false, [], .getfield 295, 3, [3, 1], [321]),
  (2, 4, false, [], .iconst 2, 1, [], []),
  (3, 5, false, [], .if_icmp .eq 13, 3, [10], []),
  (4, 8, false, [], .aload_n 0, 1, [], []),
  (5, 9, false, [], .dup, 1, [], []),
  (6, 10, false, [], .getfield 235, 3, [7, 7], [362]),
  (7, 13, false, [], .iconst 1, 1, [], []),
  (8, 14, false, [], .iadd, 1, [], []),
  (9, 15, false, [], .putfield 235, 3, [7, 7], [362]),
  (10, 18, true, [true, true, true], .aload_n 0, 1, [], []),
  (11, 19, false, [], .aload_n 1, 1, [], []),
  (12, 20, false, [], .iload_n 2, 1, [], []),
  (13, 21, false, [], .invokevirtual 298, 3, [111, 2, 1, 0, 8], [560, 18]),
  (14, 24, false, [], .ifCond .eq 4, 3, [16], []),
  (15, 27, false, [], .return_, 1, [], []),
  (16, 28, false, [], .aload_n 1, 1, [], []),
  (17, 29, false, [], .iload_n 2, 1, [], []),
  (18, 30, false, [], .invokevirtual 302, 3, [36, 1, 1, 0, 4], [592, 594]),
  (19, 33, false, [], .ifCond .eq 12, 3, [25], []),
  (20, 36, false, [], .aload_n 0, 1, [], []),
  (21, 37, false, [], .aload_n 1, 1, [], []),
  (22, 38, false, [], .iconst 1, 1, [], []),
  (23, 39, false, [], .invokevirtual 254, 3, [117, 2, 0, 0, 8], [596, 19]),
  (24, 42, false, [], .goto 25, 3, [37], []),
  (25, 45, false, [], .aload_n 1, 1, [], []),
  (26, 46, false, [], .getfield 295, 3, [3, 1], [321]),
  (27, 49, false, [], .ifCond .ne 12, 3, [33], []),
  (28, 52, false, [], .aload_n 0, 1, [], []),
  (29, 53, false, [], .aload_n 1, 1, [], []),
  (30, 54, false, [], .iload_n 2, 1, [], []),
  (31, 55, false, [], .invokevirtual 305, 3, [112, 2, 1, 0, 8], [604, 20]),
  (32, 58, false, [], .ifCond .ne 9, 3, [37], []),
  (33, 61, false, [], .aload_n 0, 1, [], []),
  (34, 62, false, [], .aload_n 1, 1, [], []),
  (35, 63, false, [], .iload_n 2, 1, [], []),
  (36, 64, false, [], .invokevirtual 308, 3, [114, 2, 0, 0, 8], [616, 22]),
  (37, 67, false, [], .return_, 1, [], [])]
theorem l_C_askKey : (z_hd m_C_askKey).2.2.1 = 3 := by decide +kernel
theorem k_C_askKey : z_okM m_C_askKey c_C_askKey = true := by decide +kernel
def c_C_recalls : List z_In := [
  (0, 0, false, [], .aload_n 1, 1, [], []),
  (1, 1, false, [], .getfield 295, 3, [3, 1], [321]),
  (2, 4, false, [], .iconst 2, 1, [], []),
  (3, 5, false, [], .if_icmp .ne 32, 3, [21], []),
  (4, 8, false, [], .aload_n 0, 1, [], []),
  (5, 9, false, [], .getfield 36, 3, [7, 4], [359]),
  (6, 12, false, [], .iload_n 2, 1, [], []),
  (7, 13, false, [], .invokevirtual 311, 3, [66, 1, 1, 0, 7], [564, 566]),
  (8, 16, false, [], .ifCond .ne 5, 3, [11], []),
  (9, 19, false, [], .iconst 0, 1, [], []),
  (10, 20, false, [], .ireturn, 1, [1], []),
  (11, 21, false, [], .aload_n 1, 1, [], []),
  (12, 22, false, [], .iload_n 2, 1, [], []),
  (13, 23, false, [], .aload_n 0, 1, [], []),
  (14, 24, false, [], .getfield 36, 3, [7, 4], [359]),
  (15, 27, false, [], .iload_n 2, 1, [], []),
  (16, 28, false, [], .invokevirtual 314, 3, [67, 1, 1, 0, 7], [568, 570]),
  (17, 31, false, [], .iconst 0, 1, [], []),
  (18, 32, false, [], .invokevirtual 317, 3, [39, 3, 0, 0, 4], [572, 574]),
  (19, 35, false, [], .iconst 1, 1, [], []),
  (20, 36, false, [], .ireturn, 1, [1], []),
  (21, 37, false, [], .aload_n 0, 1, [], []),
  (22, 38, false, [], .getfield 29, 3, [7, 3], [358]),
  (23, 41, false, [], .iload_n 2, 1, [], []),
  (24, 42, false, [], .invokevirtual 129, 3, [44, 1, 3, 0, 5], [588, 590]),
  (25, 45, false, [], .astore_n 3, 1, [], []),
  (26, 46, false, [], .aload_n 3, 1, [], []),
  (27, 47, false, [], .ifnonnull 5, 3, [30], []),
  (28, 50, false, [], .iconst 0, 1, [], []),
  (29, 51, false, [], .ireturn, 1, [1], []),
  (30, 52, false, [], .aload_n 0, 1, [], []),
  (31, 53, false, [], .dup, 1, [], []),
  (32, 54, false, [], .getfield 208, 3, [7, 9], [364]),
  (33, 57, false, [], .iconst 1, 1, [], []),
  (34, 58, false, [], .iadd, 1, [], []),
  (35, 59, false, [], .putfield 208, 3, [7, 9], [364]),
  (36, 62, false, [], .aload_n 3, 1, [], []),
  (37, 63, false, [], .aload_n 0, 1, [], []),
  (38, 64, false, [], .getfield 235, 3, [7, 7], [362]),
  (39, 67, false, [], .putfield 321, 3, [1, 5], [170]),
  (40, 70, false, [], .aload_n 3, 1, [], []),
  (41, 71, false, [], .dup, 1, [], []),
  (42, 72, false, [], .getfield 322, 3, [1, 6], [172]),
  (43, 75, false, [], .iconst 1, 1, [], []),
  (44, 76, false, [], .iadd, 1, [], []),
  (45, 77, false, [], .putfield 322, 3, [1, 6], [172]),
  (46, 80, false, [], .aload_n 1, 1, [], []),
  (47, 81, false, [], .iload_n 2, 1, [], []),
  (48, 82, false, [], .aload_n 3, 1, [], []),
  (49, 83, false, [], .getfield 325, 3, [1, 2], [165]),
  (50, 86, false, [], .aload_n 3, 1, [], []),
  (51, 87, false, [], .getfield 328, 3, [1, 7], [175]),
  (52, 90, false, [], .invokevirtual 317, 3, [39, 3, 0, 0, 4], [572, 574]),
  (53, 93, false, [], .iconst 1, 1, [], []),
  (54, 94, false, [], .ireturn, 1, [1], [])]
theorem l_C_recalls : (z_hd m_C_recalls).2.2.1 = 4 := by decide +kernel
theorem k_C_recalls : z_okM m_C_recalls c_C_recalls = true := by decide +kernel
def c_C_meetsOther : List z_In := [
  (0, 0, false, [], .iconst 0, 1, [], []),
  (1, 1, false, [], .istore_n 3, 1, [], []),
  (2, 2, true, [true, true, true, true], .iload_n 3, 1, [], []),
  (3, 3, false, [], .iconst 4, 1, [], []),
  (4, 4, false, [], .if_icmp .ge 80, 3, [48], []),
  (5, 7, false, [], .aload_n 0, 1, [], []),
  (6, 8, false, [], .getfield 47, 3, [7, 6], [361]),
  (7, 11, false, [], .iload_n 3, 1, [], []),
  (8, 12, false, [], .aaload, 1, [400004], []),
  (9, 13, false, [], .aload_n 1, 1, [], []),
  (10, 14, false, [], .if_acmp .eq 64, 3, [46], []),
  (11, 17, false, [], .aload_n 0, 1, [], []),
  (12, 18, false, [], .getfield 47, 3, [7, 6], [361]),
  (13, 21, false, [], .iload_n 3, 1, [], []),
  (14, 22, false, [], .aaload, 1, [400004], []),
  (15, 23, false, [], .iload_n 2, 1, [], []),
  (16, 24, false, [], .invokevirtual 302, 3, [36, 1, 1, 0, 4], [592, 594]),
  (17, 27, false, [], .ifCond .eq 51, 3, [46], []),
  (18, 30, false, [], .aload_n 0, 1, [], []),
  (19, 31, false, [], .iload_n 3, 1, [], []),
  (20, 32, false, [], .aload_n 1, 1, [], []),
  (21, 33, false, [], .invokevirtual 329, 3, [113, 2, 1, 0, 8], [608, 21]),
  (22, 36, false, [], .ifCond .eq 12, 3, [28], []),
  (23, 39, false, [], .aload_n 0, 1, [], []),
  (24, 40, false, [], .aload_n 1, 1, [], []),
  (25, 41, false, [], .iconst 1, 1, [], []),
  (26, 42, false, [], .invokevirtual 254, 3, [117, 2, 0, 0, 8], [596, 19]),
  (27, 45, false, [], .goto 31, 3, [44], []),
  (28, 48, false, [], .aload_n 0, 1, [], []),
  (29, 49, false, [], .dup, 1, [], []),
  (30, 50, false, [], .getfield 226, 3, [7, 12], [367]),
  (31, 53, false, [], .aload_n 1, 1, [], []),
  (32, 54, false, [], .getfield 182, 3, [3, 2], [323]),
  (33, 57, false, [], .iconst 2, 1, [], []),
  (34, 58, false, [], .if_icmp .ne 7, 3, [37], []),
  (35, 61, false, [], .iconst 0, 1, [], []),
  (36, 62, false, [], .goto 4, 3, [38], []),
  (37, 65, false, [], .iconst 1, 1, [], []),
  (38, 66, false, [], .iadd, 1, [], []),
  (39, 67, false, [], .putfield 226, 3, [7, 12], [367]),
  (40, 70, false, [], .aload_n 1, 1, [], []),
  (41, 71, false, [], .iload_n 3, 1, [], []),
  (42, 72, false, [], .iload_n 2, 1, [], []),
  (43, 73, false, [], .invokevirtual 333, 3, [40, 2, 0, 0, 4], [612, 614]),
  (44, 76, false, [], .iconst 1, 1, [], []),
  (45, 77, false, [], .ireturn, 1, [1], []),
  (46, 78, true, [true, true, true, true], .iinc 3 1, 3, [], []),
  (47, 81, false, [], .goto (-79), 3, [2], []),
  (48, 84, false, [], .iconst 0, 1, [], []),
  (49, 85, false, [], .ireturn, 1, [1], [])]
theorem l_C_meetsOther : (z_hd m_C_meetsOther).2.2.1 = 4 := by decide +kernel
theorem k_C_meetsOther : z_okM m_C_meetsOther c_C_meetsOther = true := by decide +kernel
def c_C_waitsLeadTo : List z_In := [
  (0, 0, false, [], .iload_n 1, 1, [], []),
  (1, 1, false, [], .istore_n 3, 1, [], []),
  (2, 2, false, [], .iconst 0, 1, [], []),
  (3, 3, false, [], .istore 4, 2, [], []),
  (4, 5, true, [true, false, true, true, true], .iload 4, 2, [], []),
  (5, 7, false, [], .iconst 4, 1, [], []),
  (6, 8, false, [], .if_icmp .ge 62, 3, [40], []),
  (7, 11, false, [], .iload_n 3, 1, [], []),
  (8, 12, false, [], .iconst 4, 1, [], []),
  (9, 13, false, [], .invokestatic 60, 3, [96, 2, 1, 0], [407]),
  (10, 16, false, [], .ifCond .eq 16, 3, [18], []),
  (11, 19, false, [], .aload_n 0, 1, [], []),
  (12, 20, false, [], .getfield 47, 3, [7, 6], [361]),
  (13, 23, false, [], .iload_n 3, 1, [], []),
  (14, 24, false, [], .aaload, 1, [400004], []),
  (15, 25, false, [], .getfield 182, 3, [3, 2], [323]),
  (16, 28, false, [], .iconst 2, 1, [], []),
  (17, 29, false, [], .if_icmp .eq 5, 3, [20], []),
  (18, 32, false, [], .iconst 0, 1, [], []),
  (19, 33, false, [], .ireturn, 1, [1], []),
  (20, 34, false, [], .aload_n 0, 1, [], []),
  (21, 35, false, [], .getfield 47, 3, [7, 6], [361]),
  (22, 38, false, [], .iload_n 3, 1, [], []),
  (23, 39, false, [], .aaload, 1, [400004], []),
  (24, 40, false, [], .getfield 195, 3, [3, 5], [329]),
  (25, 43, false, [], .istore_n 3, 1, [], []),
  (26, 44, false, [], .iload_n 3, 1, [], []),
  (27, 45, false, [], .iconst 4, 1, [], []),
  (28, 46, false, [], .invokestatic 60, 3, [96, 2, 1, 0], [407]),
  (29, 49, false, [], .ifCond .eq 15, 3, [38], []),
  (30, 52, false, [], .aload_n 0, 1, [], []),
  (31, 53, false, [], .getfield 47, 3, [7, 6], [361]),
  (32, 56, false, [], .iload_n 3, 1, [], []),
  (33, 57, false, [], .aaload, 1, [400004], []),
  (34, 58, false, [], .aload_n 2, 1, [], []),
  (35, 59, false, [], .if_acmp .ne 5, 3, [38], []),
  (36, 62, false, [], .iconst 1, 1, [], []),
  (37, 63, false, [], .ireturn, 1, [1], []),
  (38, 64, true, [true, false, true, true, true], .iinc 4 1, 3, [], []),
  (39, 67, false, [], .goto (-62), 3, [4], []),
  (40, 70, false, [], .iconst 0, 1, [], []),
  (41, 71, false, [], .ireturn, 1, [1], [])]
theorem l_C_waitsLeadTo : (z_hd m_C_waitsLeadTo).2.2.1 = 5 := by decide +kernel
theorem k_C_waitsLeadTo : z_okM m_C_waitsLeadTo c_C_waitsLeadTo = true := by decide +kernel
def c_C_beginFrame : List z_In := [
  (0, 0, false, [], .aload_n 1, 1, [], []),
  (1, 1, false, [], .getfield 192, 3, [3, 3], [325]),
  (2, 4, false, [], .bipush 30, 2, [], []),
  (3, 6, false, [], .if_icmp .lt 10, 3, [9], []),
  (4, 9, false, [], .aload_n 0, 1, [], []),
  (5, 10, false, [], .aload_n 1, 1, [], []),
  (6, 11, false, [], .iconst 4, 1, [], []),
  (7, 12, false, [], .invokevirtual 254, 3, [117, 2, 0, 0, 8], [596, 19]),
  (8, 15, false, [], .return_, 1, [], []),
  (9, 16, false, [], .iload_n 2, 1, [], []),
  (10, 17, false, [], .sipush 1212, 3, [], []),
  (11, 20, false, [], .invokestatic 60, 3, [96, 2, 1, 0], [407]),
  (12, 23, false, [], .ifCond .eq 15, 3, [20], []),
  (13, 26, false, [], .aload_n 0, 1, [], []),
  (14, 27, false, [], .getfield 15, 3, [7, 1], [356]),
  (15, 30, false, [], .iload_n 2, 1, [], []),
  (16, 31, false, [], .bipush 101, 2, [], []),
  (17, 33, false, [], .idiv, 1, [], []),
  (18, 34, false, [], .aaload, 1, [300012], []),
  (19, 35, false, [], .goto 4, 3, [21], []),
  (20, 38, false, [], .aconst_null, 1, [], []),
  (21, 39, false, [], .astore_n 3, 1, [], []),
  (22, 40, false, [], .aload_n 3, 1, [], []),
  (23, 41, false, [], .ifnull 10, 3, [27], []),
  (24, 44, false, [], .aload_n 3, 1, [], []),
  (25, 45, false, [], .invokevirtual 86, 3, [58, 0, 1, 0, 6], [522, 524]),
  (26, 48, false, [], .ifCond .ne 10, 3, [32], []),
  (27, 51, false, [], .aload_n 0, 1, [], []),
  (28, 52, false, [], .aload_n 1, 1, [], []),
  (29, 53, false, [], .iconst 5, 1, [], []),
  (30, 54, false, [], .invokevirtual 254, 3, [117, 2, 0, 0, 8], [596, 19]),
  (31, 57, false, [], .return_, 1, [], []),
  (32, 58, false, [], .aload_n 1, 1, [], []),
  (33, 59, false, [], .iload_n 2, 1, [], []),
  (34, 60, false, [], .aload_n 3, 1, [], []),
  (35, 61, false, [], .aload_n 0, 1, [], []),
  (36, 62, false, [], .getfield 235, 3, [7, 7], [362]),
  (37, 65, false, [], .invokevirtual 337, 3, [37, 3, 0, 0, 4], [620, 622]),
  (38, 68, false, [], .aload_n 1, 1, [], []),
  (39, 69, false, [], .getfield 295, 3, [3, 1], [321]),
  (40, 72, false, [], .iconst 2, 1, [], []),
  (41, 73, false, [], .if_icmp .eq 13, 3, [48], []),
  (42, 76, false, [], .aload_n 0, 1, [], []),
  (43, 77, false, [], .dup, 1, [], []),
  (44, 78, false, [], .getfield 211, 3, [7, 10], [365]),
  (45, 81, false, [], .iconst 1, 1, [], []),
  (46, 82, false, [], .iadd, 1, [], []),
  (47, 83, false, [], .putfield 211, 3, [7, 10], [365]),
  (48, 86, false, [], .return_, 1, [], [])]
theorem l_C_beginFrame : (z_hd m_C_beginFrame).2.2.1 = 4 := by decide +kernel
theorem k_C_beginFrame : z_okM m_C_beginFrame c_C_beginFrame = true := by decide +kernel
def c_C_settle : List z_In := [
  (0, 0, false, [], .iconst 0, 1, [], []),
  (1, 1, false, [], .istore_n 2, 1, [], []),
  (2, 2, true, [true, true, true, false], .iload_n 2, 1, [], []),
  (3, 3, false, [], .bipush 30, 2, [], []),
  (4, 5, false, [], .if_icmp .ge 66, 3, [38], []),
  (5, 8, false, [], .aload_n 1, 1, [], []),
  (6, 9, false, [], .getfield 182, 3, [3, 2], [323]),
  (7, 12, false, [], .iconst 1, 1, [], []),
  (8, 13, false, [], .if_icmp .ne 58, 3, [38], []),
  (9, 16, false, [], .aload_n 1, 1, [], []),
  (10, 17, false, [], .invokevirtual 247, 3, [35, 0, 3, 0, 4], [628, 578]),
  (11, 20, false, [], .astore_n 3, 1, [], []),
  (12, 21, false, [], .aload_n 3, 1, [], []),
  (13, 22, false, [], .ifnull 10, 3, [17], []),
  (14, 25, false, [], .aload_n 3, 1, [], []),
  (15, 26, false, [], .invokevirtual 341, 3, [9, 0, 1, 0, 1], [665, 667]),
  (16, 29, false, [], .ifCond .ne 4, 3, [18], []),
  (17, 32, false, [], .return_, 1, [], []),
  (18, 33, false, [], .aload_n 1, 1, [], []),
  (19, 34, false, [], .dup, 1, [], []),
  (20, 35, false, [], .getfield 192, 3, [3, 3], [325]),
  (21, 38, false, [], .iconst 1, 1, [], []),
  (22, 39, false, [], .isub, 1, [], []),
  (23, 40, false, [], .putfield 192, 3, [3, 3], [325]),
  (24, 43, false, [], .aload_n 0, 1, [], []),
  (25, 44, false, [], .aload_n 1, 1, [], []),
  (26, 45, false, [], .aload_n 3, 1, [], []),
  (27, 46, false, [], .invokevirtual 344, 3, [116, 2, 0, 0, 8], [674, 29]),
  (28, 49, false, [], .aload_n 1, 1, [], []),
  (29, 50, false, [], .aload_n 3, 1, [], []),
  (30, 51, false, [], .getfield 205, 3, [0, 3], [283]),
  (31, 54, false, [], .aload_n 3, 1, [], []),
  (32, 55, false, [], .invokevirtual 348, 3, [7, 0, 1, 0, 1], [678, 680]),
  (33, 58, false, [], .aload_n 3, 1, [], []),
  (34, 59, false, [], .getfield 288, 3, [0, 7], [293]),
  (35, 62, false, [], .invokevirtual 317, 3, [39, 3, 0, 0, 4], [572, 574]),
  (36, 65, false, [], .iinc 2 1, 3, [], []),
  (37, 68, false, [], .goto (-66), 3, [2], []),
  (38, 71, false, [], .return_, 1, [], [])]
theorem l_C_settle : (z_hd m_C_settle).2.2.1 = 4 := by decide +kernel
theorem k_C_settle : z_okM m_C_settle c_C_settle = true := by decide +kernel
def c_C_keep : List z_In := [
  (0, 0, false, [], .aload_n 1, 1, [], []),
  (1, 1, false, [], .getfield 295, 3, [3, 1], [321]),
  (2, 4, false, [], .iconst 2, 1, [], []),
  (3, 5, false, [], .if_icmp .ne 21, 3, [12], []),
  (4, 8, false, [], .aload_n 0, 1, [], []),
  (5, 9, false, [], .getfield 36, 3, [7, 4], [359]),
  (6, 12, false, [], .aload_n 2, 1, [], []),
  (7, 13, false, [], .getfield 205, 3, [0, 3], [283]),
  (8, 16, false, [], .aload_n 2, 1, [], []),
  (9, 17, false, [], .invokevirtual 348, 3, [7, 0, 1, 0, 1], [678, 680]),
  (10, 20, false, [], .invokevirtual 350, 3, [68, 2, 0, 0, 7], [682, 684]),
  (11, 23, false, [], .goto 20, 3, [21], []),
  (12, 26, false, [], .aload_n 0, 1, [], []),
  (13, 27, false, [], .getfield 29, 3, [7, 3], [358]),
  (14, 30, false, [], .aload_n 2, 1, [], []),
  (15, 31, false, [], .aload_n 1, 1, [], []),
  (16, 32, false, [], .getfield 107, 3, [3, 4], [327]),
  (17, 35, false, [], .aload_n 2, 1, [], []),
  (18, 36, false, [], .getfield 353, 3, [0, 5], [287]),
  (19, 39, false, [], .isub, 1, [], []),
  (20, 40, false, [], .invokevirtual 356, 3, [46, 2, 0, 0, 5], [686, 688]),
  (21, 43, false, [], .return_, 1, [], [])]
theorem l_C_keep : (z_hd m_C_keep).2.2.1 = 3 := by decide +kernel
theorem k_C_keep : z_okM m_C_keep c_C_keep = true := by decide +kernel
def c_C_fail : List z_In := [
  (0, 0, false, [], .aload_n 1, 1, [], []),
  (1, 1, false, [], .iload_n 2, 1, [], []),
  (2, 2, false, [], .invokevirtual 358, 3, [41, 1, 0, 0, 4], [600, 602]),
  (3, 5, false, [], .aload_n 1, 1, [], []),
  (4, 6, false, [], .getfield 295, 3, [3, 1], [321]),
  (5, 9, false, [], .iconst 2, 1, [], []),
  (6, 10, false, [], .if_icmp .eq 13, 3, [13], []),
  (7, 13, false, [], .aload_n 0, 1, [], []),
  (8, 14, false, [], .dup, 1, [], []),
  (9, 15, false, [], .getfield 214, 3, [7, 11], [366]),
  (10, 18, false, [], .iconst 1, 1, [], []),
  (11, 19, false, [], .iadd, 1, [], []),
  (12, 20, false, [], .putfield 214, 3, [7, 11], [366]),
  (13, 23, false, [], .return_, 1, [], [])]
theorem l_C_fail : (z_hd m_C_fail).2.2.1 = 3 := by decide +kernel
theorem k_C_fail : z_okM m_C_fail c_C_fail = true := by decide +kernel
def c_C_changed : List z_In := [
  (0, 0, false, [], .iconst 1, 1, [], []),
  (1, 1, false, [], .iload_n 1, 1, [], []),
  (2, 2, false, [], .ishl, 1, [], []),
  (3, 3, false, [], .istore_n 2, 1, [], []),
  (4, 4, false, [], .aload_n 0, 1, [], []),
  (5, 5, false, [], .getfield 47, 3, [7, 6], [361]),
  (6, 8, false, [], .astore_n 3, 1, [], []),
  (7, 9, false, [], .aload_n 3, 1, [], []),
  (8, 10, false, [], .arraylength, 1, [400004], []),
  (9, 11, false, [], .istore 4, 2, [], []),
  (10, 13, false, [], .iconst 0, 1, [], []),
  (11, 14, false, [], .istore 5, 2, [], []),
  (12, 16, true, [true, false, true, true, true, true, false], .iload 5, 2, [], []),
  (13, 18, false, [], .iload 4, 2, [], []),
  (14, 20, false, [], .if_icmp .ge 42, 3, [34], []),
  (15, 23, false, [], .aload_n 3, 1, [], []),
  (16, 24, false, [], .iload 5, 2, [], []),
  (17, 26, false, [], .aaload, 1, [400004], []),
  (18, 27, false, [], .astore 6, 2, [], []),
  (19, 29, false, [], .aload 6, 2, [], []),
  (20, 31, false, [], .invokevirtual 176, 3, [34, 0, 1, 0, 4], [498, 500]),
  (21, 34, false, [], .ifCond .eq 22, 3, [32], []),
  (22, 37, false, [], .aload 6, 2, [], []),
  (23, 39, false, [], .iload_n 2, 1, [], []),
  (24, 40, false, [], .invokevirtual 361, 3, [38, 1, 1, 0, 4], [502, 504]),
  (25, 43, false, [], .ifCond .eq 13, 3, [32], []),
  (26, 46, false, [], .aload_n 0, 1, [], []),
  (27, 47, false, [], .dup, 1, [], []),
  (28, 48, false, [], .getfield 211, 3, [7, 10], [365]),
  (29, 51, false, [], .iconst 1, 1, [], []),
  (30, 52, false, [], .iadd, 1, [], []),
  (31, 53, false, [], .putfield 211, 3, [7, 10], [365]),
  (32, 56, true, [true, false, true, true, true, true, false], .iinc 5 1, 3, [], []),
  (33, 59, false, [], .goto (-43), 3, [12], []),
  (34, 62, false, [], .aload_n 0, 1, [], []),
  (35, 63, false, [], .getfield 29, 3, [7, 3], [358]),
  (36, 66, false, [], .iload_n 2, 1, [], []),
  (37, 67, false, [], .invokevirtual 364, 3, [50, 1, 1, 0, 5], [510, 512]),
  (38, 70, false, [], .ireturn, 1, [0], [])]
theorem l_C_changed : (z_hd m_C_changed).2.2.1 = 7 := by decide +kernel
theorem k_C_changed : z_okM m_C_changed c_C_changed = true := by decide +kernel
end
section
/-! code tables: printed by program (wip/whole/gen/code.py) -/
def c_M_init : List z_In := [
  (0, 0, false, [], .aload_n 0, 1, [], []),
  (1, 1, false, [], .invokespecial 3, 3, [], [856, 92, 93]),
  (2, 4, false, [], .aload_n 0, 1, [], []),
  (3, 5, false, [], .bipush 12, 2, [], []),
  (4, 7, false, [], .newarray .int, 2, [12], [122]),
  (5, 9, false, [], .putfield 9, 3, [8, 0], [858]),
  (6, 12, false, [], .aload_n 0, 1, [], []),
  (7, 13, false, [], .bipush 100, 2, [], []),
  (8, 15, false, [], .newarray .int, 2, [100], [122]),
  (9, 17, false, [], .putfield 13, 3, [8, 1], [859]),
  (10, 20, false, [], .aload_n 0, 1, [], []),
  (11, 21, false, [], .sipush 4800, 3, [], []),
  (12, 24, false, [], .newarray .int, 2, [4800], [122]),
  (13, 26, false, [], .putfield 16, 3, [8, 3], [861]),
  (14, 29, false, [], .aload_n 0, 1, [], []),
  (15, 30, false, [], .bipush 12, 2, [], []),
  (16, 32, false, [], .newarray .int, 2, [12], [122]),
  (17, 34, false, [], .putfield 19, 3, [8, 4], [862]),
  (18, 37, false, [], .aload_n 0, 1, [], []),
  (19, 38, false, [], .sipush 400, 3, [], []),
  (20, 41, false, [], .newarray .int, 2, [400], [122]),
  (21, 43, false, [], .putfield 22, 3, [8, 5], [863]),
  (22, 46, false, [], .aload_n 0, 1, [], []),
  (23, 47, false, [], .sipush 1212, 3, [], []),
  (24, 50, false, [], .newarray .boolean, 2, [1212], [1018]),
  (25, 52, false, [], .putfield 25, 3, [8, 11], [869]),
  (26, 55, false, [], .aload_n 0, 1, [], []),
  (27, 56, false, [], .sipush 1212, 3, [], []),
  (28, 59, false, [], .newarray .int, 2, [1212], [122]),
  (29, 61, false, [], .putfield 29, 3, [8, 12], [870]),
  (30, 64, false, [], .aload_n 0, 1, [], []),
  (31, 65, false, [], .sipush 1212, 3, [], []),
  (32, 68, false, [], .newarray .int, 2, [1212], [122]),
  (33, 70, false, [], .putfield 32, 3, [8, 13], [871]),
  (34, 73, false, [], .aload_n 0, 1, [], []),
  (35, 74, false, [], .sipush 1212, 3, [], []),
  (36, 77, false, [], .newarray .int, 2, [1212], [122]),
  (37, 79, false, [], .putfield 35, 3, [8, 14], [872]),
  (38, 82, false, [], .aload_n 0, 1, [], []),
  (39, 83, false, [], .sipush 1212, 3, [], []),
  (40, 86, false, [], .newarray .int, 2, [1212], [122]),
  (41, 88, false, [], .putfield 38, 3, [8, 15], [873]),
  (42, 91, false, [], .aload_n 0, 1, [], []),
  (43, 92, false, [], .sipush 1212, 3, [], []),
  (44, 95, false, [], .newarray .int, 2, [1212], [122]),
  (45, 97, false, [], .putfield 41, 3, [8, 16], [874]),
  (46, 100, false, [], .aload_n 0, 1, [], []),
  (47, 101, false, [], .sipush 1212, 3, [], []),
  (48, 104, false, [], .newarray .int, 2, [1212], [122]),
  (49, 106, false, [], .putfield 44, 3, [8, 17], [875]),
  (50, 109, false, [], .aload_n 0, 1, [], []),
  (51, 110, false, [], .sipush 1212, 3, [], []),
  (52, 113, false, [], .newarray .int, 2, [1212], [122]),
  (53, 115, false, [], .putfield 47, 3, [8, 18], [876]),
  (54, 118, false, [], .aload_n 0, 1, [], []),
  (55, 119, false, [], .sipush 1212, 3, [], []),
  (56, 122, false, [], .newarray .int, 2, [1212], [122]),
  (57, 124, false, [], .putfield 50, 3, [8, 19], [877]),
  (58, 127, false, [], .aload_n 0, 1, [], []),
  (59, 128, false, [], .ldc 53, 2, [38784], [857]),
  (60, 130, false, [], .newarray .int, 2, [38784], [122]),
  (61, 132, false, [], .putfield 54, 3, [8, 20], [878]),
  (62, 135, false, [], .aload_n 0, 1, [], []),
  (63, 136, false, [], .bipush 60, 2, [], []),
  (64, 138, false, [], .putfield 57, 3, [8, 24], [882]),
  (65, 141, false, [], .aload_n 0, 1, [], []),
  (66, 142, false, [], .bipush 7, 2, [], []),
  (67, 144, false, [], .newarray .int, 2, [7], [122]),
  (68, 146, false, [], .putfield 61, 3, [8, 27], [885]),
  (69, 149, false, [], .aload_n 0, 1, [], []),
  (70, 150, false, [], .sipush 1212, 3, [], []),
  (71, 153, false, [], .newarray .int, 2, [1212], [122]),
  (72, 155, false, [], .putfield 64, 3, [8, 28], [886]),
  (73, 158, false, [], .aload_n 0, 1, [], []),
  (74, 159, false, [], .iconst 1, 1, [], []),
  (75, 160, false, [], .putfield 67, 3, [8, 30], [888]),
  (76, 163, false, [], .aload_n 0, 1, [], []),
  (77, 164, false, [], .iconst 5, 1, [], []),
  (78, 165, false, [], .newarray .int, 2, [5], [122]),
  (79, 167, false, [], .putfield 71, 3, [8, 31], [889]),
  (80, 170, false, [], .aload_n 0, 1, [], []),
  (81, 171, false, [], .iconst 5, 1, [], []),
  (82, 172, false, [], .newarray .int, 2, [5], [122]),
  (83, 174, false, [], .putfield 74, 3, [8, 32], [890]),
  (84, 177, false, [], .aload_n 0, 1, [], []),
  (85, 178, false, [], .iconst 5, 1, [], []),
  (86, 179, false, [], .newarray .int, 2, [5], [122]),
  (87, 181, false, [], .putfield 77, 3, [8, 33], [891]),
  (88, 184, false, [], .aload_n 0, 1, [], []),
  (89, 185, false, [], .iconst 5, 1, [], []),
  (90, 186, false, [], .newarray .int, 2, [5], [122]),
  (91, 188, false, [], .putfield 80, 3, [8, 34], [892]),
  (92, 191, false, [], .aload_n 0, 1, [], []),
  (93, 192, false, [], .iconst 5, 1, [], []),
  (94, 193, false, [], .newarray .int, 2, [5], [122]),
  (95, 195, false, [], .putfield 83, 3, [8, 35], [893]),
  (96, 198, false, [], .aload_n 0, 1, [], []),
  (97, 199, false, [], .iconst 5, 1, [], []),
  (98, 200, false, [], .newarray .int, 2, [5], [122]),
  (99, 202, false, [], .putfield 86, 3, [8, 36], [894]),
  (100, 205, false, [], .aload_n 0, 1, [], []),
  (101, 206, false, [], .sipush 150, 3, [], []),
  (102, 209, false, [], .newarray .int, 2, [150], [122]),
  (103, 211, false, [], .putfield 89, 3, [8, 37], [895]),
  (104, 214, false, [], .aload_n 0, 1, [], []),
  (105, 215, false, [], .sipush 150, 3, [], []),
  (106, 218, false, [], .newarray .int, 2, [150], [122]),
  (107, 220, false, [], .putfield 92, 3, [8, 38], [896]),
  (108, 223, false, [], .aload_n 0, 1, [], []),
  (109, 224, false, [], .sipush 150, 3, [], []),
  (110, 227, false, [], .newarray .int, 2, [150], [122]),
  (111, 229, false, [], .putfield 95, 3, [8, 39], [897]),
  (112, 232, false, [], .aload_n 0, 1, [], []),
  (113, 233, false, [], .sipush 150, 3, [], []),
  (114, 236, false, [], .newarray .int, 2, [150], [122]),
  (115, 238, false, [], .putfield 98, 3, [8, 40], [898]),
  (116, 241, false, [], .aload_n 0, 1, [], []),
  (117, 242, false, [], .sipush 150, 3, [], []),
  (118, 245, false, [], .newarray .int, 2, [150], [122]),
  (119, 247, false, [], .putfield 101, 3, [8, 41], [899]),
  (120, 250, false, [], .aload_n 0, 1, [], []),
  (121, 251, false, [], .sipush 150, 3, [], []),
  (122, 254, false, [], .newarray .int, 2, [150], [122]),
  (123, 256, false, [], .putfield 104, 3, [8, 42], [900]),
  (124, 259, false, [], .aload_n 0, 1, [], []),
  (125, 260, false, [], .sipush 4800, 3, [], []),
  (126, 263, false, [], .newarray .int, 2, [4800], [122]),
  (127, 265, false, [], .putfield 107, 3, [8, 43], [901]),
  (128, 268, false, [], .aload_n 0, 1, [], []),
  (129, 269, false, [], .sipush 150, 3, [], []),
  (130, 272, false, [], .newarray .int, 2, [150], [122]),
  (131, 274, false, [], .putfield 110, 3, [8, 44], [902]),
  (132, 277, false, [], .aload_n 0, 1, [], []),
  (133, 278, false, [], .sipush 9600, 3, [], []),
  (134, 281, false, [], .newarray .int, 2, [9600], [122]),
  (135, 283, false, [], .putfield 113, 3, [8, 45], [903]),
  (136, 286, false, [], .aload_n 0, 1, [], []),
  (137, 287, false, [], .sipush 1212, 3, [], []),
  (138, 290, false, [], .newarray .boolean, 2, [1212], [1018]),
  (139, 292, false, [], .putfield 116, 3, [8, 47], [905]),
  (140, 295, false, [], .aload_n 0, 1, [], []),
  (141, 296, false, [], .sipush 9696, 3, [], []),
  (142, 299, false, [], .newarray .int, 2, [9696], [122]),
  (143, 301, false, [], .putfield 119, 3, [8, 48], [906]),
  (144, 304, false, [], .aload_n 0, 1, [], []),
  (145, 305, false, [], .ldc 53, 2, [38784], [857]),
  (146, 307, false, [], .newarray .int, 2, [38784], [122]),
  (147, 309, false, [], .putfield 122, 3, [8, 49], [907]),
  (148, 312, false, [], .aload_n 0, 1, [], []),
  (149, 313, false, [], .bipush 7, 2, [], []),
  (150, 315, false, [], .newarray .int, 2, [7], [122]),
  (151, 317, false, [], .putfield 125, 3, [8, 50], [908]),
  (152, 320, false, [], .aload_n 0, 1, [], []),
  (153, 321, false, [], .sipush 1212, 3, [], []),
  (154, 324, false, [], .newarray .boolean, 2, [1212], [1018]),
  (155, 326, false, [], .putfield 128, 3, [8, 51], [909]),
  (156, 329, false, [], .aload_n 0, 1, [], []),
  (157, 330, false, [], .sipush 1212, 3, [], []),
  (158, 333, false, [], .newarray .int, 2, [1212], [122]),
  (159, 335, false, [], .putfield 131, 3, [8, 52], [910]),
  (160, 338, false, [], .return_, 1, [], [])]
theorem l_M_init : (z_hd m_M_init).2.2.1 = 1 := by decide +kernel
theorem k_M_init : z_okM m_M_init c_M_init = true := by decide +kernel
def c_M_in : List z_In := [
  (0, 0, false, [], .lload_n 0, 1, [], []),
  (1, 1, false, [], .lload_n 2, 1, [], []),
  (2, 2, false, [], .lcmp, 1, [], []),
  (3, 3, false, [], .ifCond .lt 14, 3, [10], []),
  (4, 6, false, [], .lload_n 0, 1, [], []),
  (5, 7, false, [], .lload 4, 2, [], []),
  (6, 9, false, [], .lcmp, 1, [], []),
  (7, 10, false, [], .ifCond .gt 7, 3, [10], []),
  (8, 13, false, [], .iconst 1, 1, [], []),
  (9, 14, false, [], .goto 4, 3, [11], []),
  (10, 17, false, [], .iconst 0, 1, [], []),
  (11, 18, false, [], .ireturn, 1, [1], [])]
theorem l_M_in : (z_hd m_M_in).2.2.1 = 6 := by decide +kernel
theorem k_M_in : z_okM m_M_in c_M_in = true := by decide +kernel
def c_M_feed : List z_In := [
  (0, 0, false, [], .iload_n 1, 1, [], []),
  (1, 1, false, [], .i2l, 1, [], []),
  (2, 2, false, [], .lconst 0, 1, [0], []),
  (3, 3, false, [], .ldc2_w 134, 3, [255, 0], [1023]),
  (4, 6, false, [], .invokestatic 136, 3, [120, 3, 1, 0], [1024]),
  (5, 9, false, [], .ifCond .ne 7, 3, [8], []),
  (6, 12, false, [], .sipush (-20001), 3, [], []),
  (7, 15, false, [], .ireturn, 1, [0], []),
  (8, 16, false, [], .aload_n 0, 1, [], []),
  (9, 17, false, [], .getfield 140, 3, [8, 2], [860]),
  (10, 20, false, [], .bipush 100, 2, [], []),
  (11, 22, false, [], .if_icmp .ne 7, 3, [14], []),
  (12, 25, false, [], .sipush (-20004), 3, [], []),
  (13, 28, false, [], .ireturn, 1, [0], []),
  (14, 29, false, [], .aload_n 0, 1, [], []),
  (15, 30, false, [], .getfield 13, 3, [8, 1], [859]),
  (16, 33, false, [], .aload_n 0, 1, [], []),
  (17, 34, false, [], .getfield 140, 3, [8, 2], [860]),
  (18, 37, false, [], .iload_n 1, 1, [], []),
  (19, 38, false, [], .iastore, 1, [100100], []),
  (20, 39, false, [], .aload_n 0, 1, [], []),
  (21, 40, false, [], .dup, 1, [], []),
  (22, 41, false, [], .getfield 140, 3, [8, 2], [860]),
  (23, 44, false, [], .iconst 1, 1, [], []),
  (24, 45, false, [], .iadd, 1, [], []),
  (25, 46, false, [], .putfield 140, 3, [8, 2], [860]),
  (26, 49, false, [], .aload_n 0, 1, [], []),
  (27, 50, false, [], .getfield 140, 3, [8, 2], [860]),
  (28, 53, false, [], .ireturn, 1, [0], [])]
theorem l_M_feed : (z_hd m_M_feed).2.2.1 = 2 := by decide +kernel
theorem k_M_feed : z_okM m_M_feed c_M_feed = true := by decide +kernel
def c_M_peek : List z_In := [
  (0, 0, false, [], .aload_n 0, 1, [], []),
  (1, 1, false, [], .getfield 143, 3, [8, 8], [866]),
  (2, 4, false, [], .aload_n 0, 1, [], []),
  (3, 5, false, [], .getfield 140, 3, [8, 2], [860]),
  (4, 8, false, [], .if_icmp .ge 15, 3, [11], []),
  (5, 11, false, [], .aload_n 0, 1, [], []),
  (6, 12, false, [], .getfield 13, 3, [8, 1], [859]),
  (7, 15, false, [], .aload_n 0, 1, [], []),
  (8, 16, false, [], .getfield 143, 3, [8, 8], [866]),
  (9, 19, false, [], .iaload, 1, [100100], []),
  (10, 20, false, [], .goto 4, 3, [12], []),
  (11, 23, false, [], .iconst (-1), 1, [], []),
  (12, 24, false, [], .ireturn, 1, [0], [])]
theorem l_M_peek : (z_hd m_M_peek).2.2.1 = 1 := by decide +kernel
theorem k_M_peek : z_okM m_M_peek c_M_peek = true := by decide +kernel
def c_M_wrong : List z_In := [
  (0, 0, false, [], .aload_n 0, 1, [], []),
  (1, 1, false, [], .aload_n 0, 1, [], []),
  (2, 2, false, [], .getfield 146, 3, [8, 9], [867]),
  (3, 5, false, [], .ifCond .ge 7, 3, [6], []),
  (4, 8, false, [], .iload_n 1, 1, [], []),
  (5, 9, false, [], .goto 7, 3, [8], []),
  (6, 12, false, [], .aload_n 0, 1, [], []),
  (7, 13, false, [], .getfield 146, 3, [8, 9], [867]),
  (8, 16, false, [], .putfield 146, 3, [8, 9], [867]),
  (9, 19, false, [], .return_, 1, [], [])]
theorem l_M_wrong : (z_hd m_M_wrong).2.2.1 = 2 := by decide +kernel
theorem k_M_wrong : z_okM m_M_wrong c_M_wrong = true := by decide +kernel
def c_M_takes : List z_In := [
  (0, 0, false, [], .aload_n 0, 1, [], []),
  (1, 1, false, [], .getfield 146, 3, [8, 9], [867]),
  (2, 4, false, [], .ifCond .ge 11, 3, [7], []),
  (3, 7, false, [], .aload_n 0, 1, [], []),
  (4, 8, false, [], .invokevirtual 149, 3, [122, 0, 1, 0, 9], [1056, 41]),
  (5, 11, false, [], .iload_n 1, 1, [], []),
  (6, 12, false, [], .if_icmp .eq 5, 3, [9], []),
  (7, 15, false, [], .iconst 0, 1, [], []),
  (8, 16, false, [], .ireturn, 1, [1], []),
  (9, 17, false, [], .aload_n 0, 1, [], []),
  (10, 18, false, [], .dup, 1, [], []),
  (11, 19, false, [], .getfield 143, 3, [8, 8], [866]),
  (12, 22, false, [], .iconst 1, 1, [], []),
  (13, 23, false, [], .iadd, 1, [], []),
  (14, 24, false, [], .putfield 143, 3, [8, 8], [866]),
  (15, 27, false, [], .iconst 1, 1, [], []),
  (16, 28, false, [], .ireturn, 1, [1], [])]
theorem l_M_takes : (z_hd m_M_takes).2.2.1 = 2 := by decide +kernel
theorem k_M_takes : z_okM m_M_takes c_M_takes = true := by decide +kernel
def c_M_wants : List z_In := [
  (0, 0, false, [], .aload_n 0, 1, [], []),
  (1, 1, false, [], .iload_n 1, 1, [], []),
  (2, 2, false, [], .invokevirtual 153, 3, [124, 1, 1, 0, 9], [1052, 40]),
  (3, 5, false, [], .ifCond .ne 11, 3, [8], []),
  (4, 8, false, [], .aload_n 0, 1, [], []),
  (5, 9, false, [], .aload_n 0, 1, [], []),
  (6, 10, false, [], .getfield 143, 3, [8, 8], [866]),
  (7, 13, false, [], .invokevirtual 157, 3, [123, 1, 0, 0, 9], [1064, 43]),
  (8, 16, false, [], .return_, 1, [], [])]
theorem l_M_wants : (z_hd m_M_wants).2.2.1 = 2 := by decide +kernel
theorem k_M_wants : z_okM m_M_wants c_M_wants = true := by decide +kernel
def c_M_writes : List z_In := [
  (0, 0, false, [], .aload_n 0, 1, [], []),
  (1, 1, false, [], .getfield 146, 3, [8, 9], [867]),
  (2, 4, false, [], .ifCond .ge 55, 3, [34], []),
  (3, 7, false, [], .aload_n 0, 1, [], []),
  (4, 8, false, [], .getfield 22, 3, [8, 5], [863]),
  (5, 11, false, [], .aload_n 0, 1, [], []),
  (6, 12, false, [], .getfield 161, 3, [8, 6], [864]),
  (7, 15, false, [], .iload_n 1, 1, [], []),
  (8, 16, false, [], .iastore, 1, [100400], []),
  (9, 17, false, [], .aload_n 0, 1, [], []),
  (10, 18, false, [], .getfield 22, 3, [8, 5], [863]),
  (11, 21, false, [], .aload_n 0, 1, [], []),
  (12, 22, false, [], .getfield 161, 3, [8, 6], [864]),
  (13, 25, false, [], .iconst 1, 1, [], []),
  (14, 26, false, [], .iadd, 1, [], []),
  (15, 27, false, [], .iload_n 2, 1, [], []),
  (16, 28, false, [], .iastore, 1, [100400], []),
  (17, 29, false, [], .aload_n 0, 1, [], []),
  (18, 30, false, [], .dup, 1, [], []),
  (19, 31, false, [], .getfield 161, 3, [8, 6], [864]),
  (20, 34, false, [], .iconst 2, 1, [], []),
  (21, 35, false, [], .iadd, 1, [], []),
  (22, 36, false, [], .putfield 161, 3, [8, 6], [864]),
  (23, 39, false, [], .aload_n 0, 1, [], []),
  (24, 40, false, [], .dup, 1, [], []),
  (25, 41, false, [], .getfield 164, 3, [8, 7], [865]),
  (26, 44, false, [], .iload_n 1, 1, [], []),
  (27, 45, false, [], .bipush 13, 2, [], []),
  (28, 47, false, [], .if_icmp .ne 7, 3, [31], []),
  (29, 50, false, [], .iconst 0, 1, [], []),
  (30, 51, false, [], .goto 4, 3, [32], []),
  (31, 54, false, [], .iconst 1, 1, [], []),
  (32, 55, false, [], .iadd, 1, [], []),
  (33, 56, false, [], .putfield 164, 3, [8, 7], [865]),
  (34, 59, false, [], .return_, 1, [], [])]
theorem l_M_writes : (z_hd m_M_writes).2.2.1 = 3 := by decide +kernel
theorem k_M_writes : z_okM m_M_writes c_M_writes = true := by decide +kernel
def c_M_opens : List z_In := [
  (0, 0, false, [], .aload_n 0, 1, [], []),
  (1, 1, false, [], .getfield 146, 3, [8, 9], [867]),
  (2, 4, false, [], .ifCond .ge 21, 3, [13], []),
  (3, 7, false, [], .aload_n 0, 1, [], []),
  (4, 8, false, [], .getfield 167, 3, [8, 10], [868]),
  (5, 11, false, [], .iconst 5, 1, [], []),
  (6, 12, false, [], .if_icmp .ne 13, 3, [13], []),
  (7, 15, false, [], .aload_n 0, 1, [], []),
  (8, 16, false, [], .aload_n 0, 1, [], []),
  (9, 17, false, [], .getfield 143, 3, [8, 8], [866]),
  (10, 20, false, [], .iconst 1, 1, [], []),
  (11, 21, false, [], .isub, 1, [], []),
  (12, 22, false, [], .invokevirtual 157, 3, [123, 1, 0, 0, 9], [1064, 43]),
  (13, 25, false, [], .aload_n 0, 1, [], []),
  (14, 26, false, [], .dup, 1, [], []),
  (15, 27, false, [], .getfield 167, 3, [8, 10], [868]),
  (16, 30, false, [], .iconst 1, 1, [], []),
  (17, 31, false, [], .iadd, 1, [], []),
  (18, 32, false, [], .putfield 167, 3, [8, 10], [868]),
  (19, 35, false, [], .return_, 1, [], [])]
theorem l_M_opens : (z_hd m_M_opens).2.2.1 = 1 := by decide +kernel
theorem k_M_opens : z_okM m_M_opens c_M_opens = true := by decide +kernel
def c_M_readsWhole : List z_In := [
  (0, 0, false, [], .aload_n 0, 1, [], []),
  (1, 1, false, [], .invokevirtual 170, 3, [129, 0, 0, 0, 9], [1036, 36]),
  (2, 4, false, [], .aload_n 0, 1, [], []),
  (3, 5, false, [], .bipush 63, 2, [], []),
  (4, 7, false, [], .invokevirtual 153, 3, [124, 1, 1, 0, 9], [1052, 40]),
  (5, 10, false, [], .ifCond .ne 4, 3, [7], []),
  (6, 13, false, [], .return_, 1, [], []),
  (7, 14, false, [], .aload_n 0, 1, [], []),
  (8, 15, false, [], .invokevirtual 173, 3, [127, 0, 0, 0, 9], [1060, 42]),
  (9, 18, false, [], .aload_n 0, 1, [], []),
  (10, 19, false, [], .getfield 161, 3, [8, 6], [864]),
  (11, 22, false, [], .istore_n 1, 1, [], []),
  (12, 23, false, [], .aload_n 0, 1, [], []),
  (13, 24, false, [], .bipush 12, 2, [], []),
  (14, 26, false, [], .iconst 0, 1, [], []),
  (15, 27, false, [], .invokevirtual 176, 3, [126, 2, 0, 0, 9], [1068, 44]),
  (16, 30, false, [], .aload_n 0, 1, [], []),
  (17, 31, false, [], .invokevirtual 180, 3, [128, 0, 0, 0, 9], [1032, 35]),
  (18, 34, false, [], .aload_n 0, 1, [], []),
  (19, 35, false, [], .bipush 58, 2, [], []),
  (20, 37, false, [], .invokevirtual 183, 3, [125, 1, 0, 0, 9], [1076, 46]),
  (21, 40, false, [], .aload_n 0, 1, [], []),
  (22, 41, false, [], .dup, 1, [], []),
  (23, 42, false, [], .getfield 167, 3, [8, 10], [868]),
  (24, 45, false, [], .iconst 1, 1, [], []),
  (25, 46, false, [], .isub, 1, [], []),
  (26, 47, false, [], .putfield 167, 3, [8, 10], [868]),
  (27, 50, false, [], .aload_n 0, 1, [], []),
  (28, 51, false, [], .getfield 161, 3, [8, 6], [864]),
  (29, 54, false, [], .istore_n 2, 1, [], []),
  (30, 55, false, [], .aload_n 0, 1, [], []),
  (31, 56, false, [], .bipush 13, 2, [], []),
  (32, 58, false, [], .iconst 0, 1, [], []),
  (33, 59, false, [], .invokevirtual 176, 3, [126, 2, 0, 0, 9], [1068, 44]),
  (34, 62, false, [], .aload_n 0, 1, [], []),
  (35, 63, false, [], .getfield 146, 3, [8, 9], [867]),
  (36, 66, false, [], .ifCond .lt 4, 3, [38], []),
  (37, 69, false, [], .return_, 1, [], []),
  (38, 70, false, [], .aload_n 0, 1, [], []),
  (39, 71, false, [], .getfield 22, 3, [8, 5], [863]),
  (40, 74, false, [], .iload_n 1, 1, [], []),
  (41, 75, false, [], .iconst 1, 1, [], []),
  (42, 76, false, [], .iadd, 1, [], []),
  (43, 77, false, [], .aload_n 0, 1, [], []),
  (44, 78, false, [], .getfield 161, 3, [8, 6], [864]),
  (45, 81, false, [], .iastore, 1, [100400], []),
  (46, 82, false, [], .aload_n 0, 1, [], []),
  (47, 83, false, [], .invokevirtual 180, 3, [128, 0, 0, 0, 9], [1032, 35]),
  (48, 86, false, [], .aload_n 0, 1, [], []),
  (49, 87, false, [], .getfield 22, 3, [8, 5], [863]),
  (50, 90, false, [], .iload_n 2, 1, [], []),
  (51, 91, false, [], .iconst 1, 1, [], []),
  (52, 92, false, [], .iadd, 1, [], []),
  (53, 93, false, [], .aload_n 0, 1, [], []),
  (54, 94, false, [], .getfield 161, 3, [8, 6], [864]),
  (55, 97, false, [], .iastore, 1, [100400], []),
  (56, 98, false, [], .return_, 1, [], [])]
theorem l_M_readsWhole : (z_hd m_M_readsWhole).2.2.1 = 3 := by decide +kernel
theorem k_M_readsWhole : z_okM m_M_readsWhole c_M_readsWhole = true := by decide +kernel
def c_M_readsCompared : List z_In := [
  (0, 0, false, [], .aload_n 0, 1, [], []),
  (1, 1, false, [], .invokevirtual 186, 3, [130, 0, 0, 0, 9], [1040, 37]),
  (2, 4, false, [], .aload_n 0, 1, [], []),
  (3, 5, false, [], .bipush 60, 2, [], []),
  (4, 7, false, [], .invokevirtual 153, 3, [124, 1, 1, 0, 9], [1052, 40]),
  (5, 10, false, [], .ifCond .eq 17, 3, [13], []),
  (6, 13, false, [], .aload_n 0, 1, [], []),
  (7, 14, false, [], .invokevirtual 186, 3, [130, 0, 0, 0, 9], [1040, 37]),
  (8, 17, false, [], .aload_n 0, 1, [], []),
  (9, 18, false, [], .bipush 9, 2, [], []),
  (10, 20, false, [], .iconst 0, 1, [], []),
  (11, 21, false, [], .invokevirtual 176, 3, [126, 2, 0, 0, 9], [1068, 44]),
  (12, 24, false, [], .goto 23, 3, [23], []),
  (13, 27, false, [], .aload_n 0, 1, [], []),
  (14, 28, false, [], .bipush 61, 2, [], []),
  (15, 30, false, [], .invokevirtual 153, 3, [124, 1, 1, 0, 9], [1052, 40]),
  (16, 33, false, [], .ifCond .eq 14, 3, [23], []),
  (17, 36, false, [], .aload_n 0, 1, [], []),
  (18, 37, false, [], .invokevirtual 186, 3, [130, 0, 0, 0, 9], [1040, 37]),
  (19, 40, false, [], .aload_n 0, 1, [], []),
  (20, 41, false, [], .bipush 10, 2, [], []),
  (21, 43, false, [], .iconst 0, 1, [], []),
  (22, 44, false, [], .invokevirtual 176, 3, [126, 2, 0, 0, 9], [1068, 44]),
  (23, 47, false, [], .return_, 1, [], [])]
theorem l_M_readsCompared : (z_hd m_M_readsCompared).2.2.1 = 1 := by decide +kernel
theorem k_M_readsCompared : z_okM m_M_readsCompared c_M_readsCompared = true := by decide +kernel
def c_M_readsSum : List z_In := [
  (0, 0, false, [], .aload_n 0, 1, [], []),
  (1, 1, false, [], .invokevirtual 189, 3, [131, 0, 0, 0, 9], [1044, 38]),
  (2, 4, true, [true, false], .aload_n 0, 1, [], []),
  (3, 5, false, [], .getfield 146, 3, [8, 9], [867]),
  (4, 8, false, [], .ifCond .ge 68, 3, [38], []),
  (5, 11, false, [], .aload_n 0, 1, [], []),
  (6, 12, false, [], .invokevirtual 149, 3, [122, 0, 1, 0, 9], [1056, 41]),
  (7, 15, false, [], .bipush 43, 2, [], []),
  (8, 17, false, [], .if_icmp .eq 12, 3, [13], []),
  (9, 20, false, [], .aload_n 0, 1, [], []),
  (10, 21, false, [], .invokevirtual 149, 3, [122, 0, 1, 0, 9], [1056, 41]),
  (11, 24, false, [], .bipush 45, 2, [], []),
  (12, 26, false, [], .if_icmp .ne 50, 3, [38], []),
  (13, 29, true, [true, false], .aload_n 0, 1, [], []),
  (14, 30, false, [], .bipush 43, 2, [], []),
  (15, 32, false, [], .invokevirtual 153, 3, [124, 1, 1, 0, 9], [1052, 40]),
  (16, 35, false, [], .istore_n 1, 1, [], []),
  (17, 36, false, [], .aload_n 0, 1, [], []),
  (18, 37, false, [], .dup, 1, [], []),
  (19, 38, false, [], .getfield 143, 3, [8, 8], [866]),
  (20, 41, false, [], .iload_n 1, 1, [], []),
  (21, 42, false, [], .ifCond .eq 7, 3, [24], []),
  (22, 45, false, [], .iconst 0, 1, [], []),
  (23, 46, false, [], .goto 4, 3, [25], []),
  (24, 49, false, [], .iconst 1, 1, [], []),
  (25, 50, false, [], .iadd, 1, [], []),
  (26, 51, false, [], .putfield 143, 3, [8, 8], [866]),
  (27, 54, false, [], .aload_n 0, 1, [], []),
  (28, 55, false, [], .invokevirtual 189, 3, [131, 0, 0, 0, 9], [1044, 38]),
  (29, 58, false, [], .aload_n 0, 1, [], []),
  (30, 59, false, [], .iload_n 1, 1, [], []),
  (31, 60, false, [], .ifCond .eq 7, 3, [34], []),
  (32, 63, false, [], .iconst 5, 1, [], []),
  (33, 64, false, [], .goto 5, 3, [35], []),
  (34, 67, false, [], .bipush 6, 2, [], []),
  (35, 69, false, [], .iconst 0, 1, [], []),
  (36, 70, false, [], .invokevirtual 176, 3, [126, 2, 0, 0, 9], [1068, 44]),
  (37, 73, false, [], .goto (-69), 3, [2], []),
  (38, 76, false, [], .return_, 1, [], [])]
theorem l_M_readsSum : (z_hd m_M_readsSum).2.2.1 = 2 := by decide +kernel
theorem k_M_readsSum : z_okM m_M_readsSum c_M_readsSum = true := by decide +kernel
def c_M_readsProduct : List z_In := [
  (0, 0, false, [], .aload_n 0, 1, [], []),
  (1, 1, false, [], .invokevirtual 192, 3, [134, 0, 0, 0, 9], [1048, 39]),
  (2, 4, true, [true, false], .aload_n 0, 1, [], []),
  (3, 5, false, [], .getfield 146, 3, [8, 9], [867]),
  (4, 8, false, [], .ifCond .ge 69, 3, [38], []),
  (5, 11, false, [], .aload_n 0, 1, [], []),
  (6, 12, false, [], .invokevirtual 149, 3, [122, 0, 1, 0, 9], [1056, 41]),
  (7, 15, false, [], .bipush 42, 2, [], []),
  (8, 17, false, [], .if_icmp .eq 12, 3, [13], []),
  (9, 20, false, [], .aload_n 0, 1, [], []),
  (10, 21, false, [], .invokevirtual 149, 3, [122, 0, 1, 0, 9], [1056, 41]),
  (11, 24, false, [], .bipush 47, 2, [], []),
  (12, 26, false, [], .if_icmp .ne 51, 3, [38], []),
  (13, 29, true, [true, false], .aload_n 0, 1, [], []),
  (14, 30, false, [], .bipush 42, 2, [], []),
  (15, 32, false, [], .invokevirtual 153, 3, [124, 1, 1, 0, 9], [1052, 40]),
  (16, 35, false, [], .istore_n 1, 1, [], []),
  (17, 36, false, [], .aload_n 0, 1, [], []),
  (18, 37, false, [], .dup, 1, [], []),
  (19, 38, false, [], .getfield 143, 3, [8, 8], [866]),
  (20, 41, false, [], .iload_n 1, 1, [], []),
  (21, 42, false, [], .ifCond .eq 7, 3, [24], []),
  (22, 45, false, [], .iconst 0, 1, [], []),
  (23, 46, false, [], .goto 4, 3, [25], []),
  (24, 49, false, [], .iconst 1, 1, [], []),
  (25, 50, false, [], .iadd, 1, [], []),
  (26, 51, false, [], .putfield 143, 3, [8, 8], [866]),
  (27, 54, false, [], .aload_n 0, 1, [], []),
  (28, 55, false, [], .invokevirtual 192, 3, [134, 0, 0, 0, 9], [1048, 39]),
  (29, 58, false, [], .aload_n 0, 1, [], []),
  (30, 59, false, [], .iload_n 1, 1, [], []),
  (31, 60, false, [], .ifCond .eq 8, 3, [34], []),
  (32, 63, false, [], .bipush 7, 2, [], []),
  (33, 65, false, [], .goto 5, 3, [35], []),
  (34, 68, false, [], .bipush 8, 2, [], []),
  (35, 70, false, [], .iconst 0, 1, [], []),
  (36, 71, false, [], .invokevirtual 176, 3, [126, 2, 0, 0, 9], [1068, 44]),
  (37, 74, false, [], .goto (-70), 3, [2], []),
  (38, 77, false, [], .return_, 1, [], [])]
theorem l_M_readsProduct : (z_hd m_M_readsProduct).2.2.1 = 2 := by decide +kernel
theorem k_M_readsProduct : z_okM m_M_readsProduct c_M_readsProduct = true := by decide +kernel
def c_M_figures : List z_In := [
  (0, 0, false, [], .aload_n 0, 1, [], []),
  (1, 1, false, [], .getfield 143, 3, [8, 8], [866]),
  (2, 4, false, [], .istore_n 1, 1, [], []),
  (3, 5, false, [], .iconst 0, 1, [], []),
  (4, 6, false, [], .istore_n 2, 1, [], []),
  (5, 7, true, [true, true, true], .aload_n 0, 1, [], []),
  (6, 8, false, [], .getfield 146, 3, [8, 9], [867]),
  (7, 11, false, [], .ifCond .ge 56, 3, [37], []),
  (8, 14, false, [], .aload_n 0, 1, [], []),
  (9, 15, false, [], .getfield 143, 3, [8, 8], [866]),
  (10, 18, false, [], .iload_n 1, 1, [], []),
  (11, 19, false, [], .iconst 2, 1, [], []),
  (12, 20, false, [], .iadd, 1, [], []),
  (13, 21, false, [], .if_icmp .ge 46, 3, [37], []),
  (14, 24, false, [], .aload_n 0, 1, [], []),
  (15, 25, false, [], .invokevirtual 149, 3, [122, 0, 1, 0, 9], [1056, 41]),
  (16, 28, false, [], .i2l, 1, [], []),
  (17, 29, false, [], .ldc2_w 195, 3, [48, 0], [1088]),
  (18, 32, false, [], .ldc2_w 197, 3, [57, 0], [1089]),
  (19, 35, false, [], .invokestatic 136, 3, [120, 3, 1, 0], [1024]),
  (20, 38, false, [], .ifCond .eq 29, 3, [37], []),
  (21, 41, false, [], .bipush 10, 2, [], []),
  (22, 43, false, [], .iload_n 2, 1, [], []),
  (23, 44, false, [], .imul, 1, [], []),
  (24, 45, false, [], .aload_n 0, 1, [], []),
  (25, 46, false, [], .invokevirtual 149, 3, [122, 0, 1, 0, 9], [1056, 41]),
  (26, 49, false, [], .iadd, 1, [], []),
  (27, 50, false, [], .bipush 48, 2, [], []),
  (28, 52, false, [], .isub, 1, [], []),
  (29, 53, false, [], .istore_n 2, 1, [], []),
  (30, 54, false, [], .aload_n 0, 1, [], []),
  (31, 55, false, [], .dup, 1, [], []),
  (32, 56, false, [], .getfield 143, 3, [8, 8], [866]),
  (33, 59, false, [], .iconst 1, 1, [], []),
  (34, 60, false, [], .iadd, 1, [], []),
  (35, 61, false, [], .putfield 143, 3, [8, 8], [866]),
  (36, 64, false, [], .goto (-57), 3, [5], []),
  (37, 67, true, [true, true, true], .aload_n 0, 1, [], []),
  (38, 68, false, [], .getfield 143, 3, [8, 8], [866]),
  (39, 71, false, [], .iload_n 1, 1, [], []),
  (40, 72, false, [], .if_icmp .ne 11, 3, [45], []),
  (41, 75, false, [], .aload_n 0, 1, [], []),
  (42, 76, false, [], .aload_n 0, 1, [], []),
  (43, 77, false, [], .getfield 143, 3, [8, 8], [866]),
  (44, 80, false, [], .invokevirtual 157, 3, [123, 1, 0, 0, 9], [1064, 43]),
  (45, 83, false, [], .iload_n 2, 1, [], []),
  (46, 84, false, [], .ireturn, 1, [0], [])]
theorem l_M_figures : (z_hd m_M_figures).2.2.1 = 3 := by decide +kernel
theorem k_M_figures : z_okM m_M_figures c_M_figures = true := by decide +kernel
def c_M_figuresToEleven : List z_In := [
  (0, 0, false, [], .aload_n 0, 1, [], []),
  (1, 1, false, [], .getfield 143, 3, [8, 8], [866]),
  (2, 4, false, [], .istore_n 1, 1, [], []),
  (3, 5, false, [], .aload_n 0, 1, [], []),
  (4, 6, false, [], .invokevirtual 199, 3, [132, 0, 1, 0, 9], [1084, 48]),
  (5, 9, false, [], .istore_n 2, 1, [], []),
  (6, 10, false, [], .iload_n 2, 1, [], []),
  (7, 11, false, [], .bipush 11, 2, [], []),
  (8, 13, false, [], .if_icmp .le 8, 3, [12], []),
  (9, 16, false, [], .aload_n 0, 1, [], []),
  (10, 17, false, [], .iload_n 1, 1, [], []),
  (11, 18, false, [], .invokevirtual 157, 3, [123, 1, 0, 0, 9], [1064, 43]),
  (12, 21, false, [], .iload_n 2, 1, [], []),
  (13, 22, false, [], .ireturn, 1, [0], [])]
theorem l_M_figuresToEleven : (z_hd m_M_figuresToEleven).2.2.1 = 3 := by decide +kernel
theorem k_M_figuresToEleven : z_okM m_M_figuresToEleven c_M_figuresToEleven = true := by decide +kernel
def c_M_readsUnit : List z_In := [
  (0, 0, false, [], .aload_n 0, 1, [], []),
  (1, 1, false, [], .bipush 45, 2, [], []),
  (2, 3, false, [], .invokevirtual 153, 3, [124, 1, 1, 0, 9], [1052, 40]),
  (3, 6, false, [], .ifCond .eq 31, 3, [19], []),
  (4, 9, false, [], .aload_n 0, 1, [], []),
  (5, 10, false, [], .invokevirtual 173, 3, [127, 0, 0, 0, 9], [1060, 42]),
  (6, 13, false, [], .aload_n 0, 1, [], []),
  (7, 14, false, [], .invokevirtual 192, 3, [134, 0, 0, 0, 9], [1048, 39]),
  (8, 17, false, [], .aload_n 0, 1, [], []),
  (9, 18, false, [], .dup, 1, [], []),
  (10, 19, false, [], .getfield 167, 3, [8, 10], [868]),
  (11, 22, false, [], .iconst 1, 1, [], []),
  (12, 23, false, [], .isub, 1, [], []),
  (13, 24, false, [], .putfield 167, 3, [8, 10], [868]),
  (14, 27, false, [], .aload_n 0, 1, [], []),
  (15, 28, false, [], .bipush 11, 2, [], []),
  (16, 30, false, [], .iconst 0, 1, [], []),
  (17, 31, false, [], .invokevirtual 176, 3, [126, 2, 0, 0, 9], [1068, 44]),
  (18, 34, false, [], .goto 107, 3, [70], []),
  (19, 37, false, [], .aload_n 0, 1, [], []),
  (20, 38, false, [], .bipush 40, 2, [], []),
  (21, 40, false, [], .invokevirtual 153, 3, [124, 1, 1, 0, 9], [1052, 40]),
  (22, 43, false, [], .ifCond .eq 10, 3, [26], []),
  (23, 46, false, [], .aload_n 0, 1, [], []),
  (24, 47, false, [], .invokevirtual 202, 3, [135, 0, 0, 0, 9], [1072, 45]),
  (25, 50, false, [], .goto 91, 3, [70], []),
  (26, 53, false, [], .aload_n 0, 1, [], []),
  (27, 54, false, [], .bipush 120, 2, [], []),
  (28, 56, false, [], .invokevirtual 153, 3, [124, 1, 1, 0, 9], [1052, 40]),
  (29, 59, false, [], .ifCond .eq 12, 3, [35], []),
  (30, 62, false, [], .aload_n 0, 1, [], []),
  (31, 63, false, [], .iconst 2, 1, [], []),
  (32, 64, false, [], .iconst 0, 1, [], []),
  (33, 65, false, [], .invokevirtual 176, 3, [126, 2, 0, 0, 9], [1068, 44]),
  (34, 68, false, [], .goto 73, 3, [70], []),
  (35, 71, false, [], .aload_n 0, 1, [], []),
  (36, 72, false, [], .bipush 99, 2, [], []),
  (37, 74, false, [], .invokevirtual 153, 3, [124, 1, 1, 0, 9], [1052, 40]),
  (38, 77, false, [], .ifCond .eq 15, 3, [45], []),
  (39, 80, false, [], .aload_n 0, 1, [], []),
  (40, 81, false, [], .iconst 3, 1, [], []),
  (41, 82, false, [], .aload_n 0, 1, [], []),
  (42, 83, false, [], .invokevirtual 205, 3, [133, 0, 1, 0, 9], [1080, 47]),
  (43, 86, false, [], .invokevirtual 176, 3, [126, 2, 0, 0, 9], [1068, 44]),
  (44, 89, false, [], .goto 52, 3, [70], []),
  (45, 92, false, [], .aload_n 0, 1, [], []),
  (46, 93, false, [], .bipush 102, 2, [], []),
  (47, 95, false, [], .invokevirtual 153, 3, [124, 1, 1, 0, 9], [1052, 40]),
  (48, 98, false, [], .ifCond .eq 27, 3, [62], []),
  (49, 101, false, [], .aload_n 0, 1, [], []),
  (50, 102, false, [], .invokevirtual 205, 3, [133, 0, 1, 0, 9], [1080, 47]),
  (51, 105, false, [], .istore_n 1, 1, [], []),
  (52, 106, false, [], .aload_n 0, 1, [], []),
  (53, 107, false, [], .bipush 40, 2, [], []),
  (54, 109, false, [], .invokevirtual 183, 3, [125, 1, 0, 0, 9], [1076, 46]),
  (55, 112, false, [], .aload_n 0, 1, [], []),
  (56, 113, false, [], .invokevirtual 202, 3, [135, 0, 0, 0, 9], [1072, 45]),
  (57, 116, false, [], .aload_n 0, 1, [], []),
  (58, 117, false, [], .iconst 4, 1, [], []),
  (59, 118, false, [], .iload_n 1, 1, [], []),
  (60, 119, false, [], .invokevirtual 176, 3, [126, 2, 0, 0, 9], [1068, 44]),
  (61, 122, false, [], .goto 19, 3, [70], []),
  (62, 125, false, [], .aload_n 0, 1, [], []),
  (63, 126, false, [], .getfield 146, 3, [8, 9], [867]),
  (64, 129, false, [], .ifCond .ge 12, 3, [70], []),
  (65, 132, false, [], .aload_n 0, 1, [], []),
  (66, 133, false, [], .iconst 1, 1, [], []),
  (67, 134, false, [], .aload_n 0, 1, [], []),
  (68, 135, false, [], .invokevirtual 199, 3, [132, 0, 1, 0, 9], [1084, 48]),
  (69, 138, false, [], .invokevirtual 176, 3, [126, 2, 0, 0, 9], [1068, 44]),
  (70, 141, false, [], .return_, 1, [], [])]
theorem l_M_readsUnit : (z_hd m_M_readsUnit).2.2.1 = 2 := by decide +kernel
theorem k_M_readsUnit : z_okM m_M_readsUnit c_M_readsUnit = true := by decide +kernel
def c_M_readsBracket : List z_In := [
  (0, 0, false, [], .aload_n 0, 1, [], []),
  (1, 1, false, [], .getfield 146, 3, [8, 9], [867]),
  (2, 4, false, [], .ifCond .lt 4, 3, [4], []),
  (3, 7, false, [], .return_, 1, [], []),
  (4, 8, false, [], .aload_n 0, 1, [], []),
  (5, 9, false, [], .invokevirtual 173, 3, [127, 0, 0, 0, 9], [1060, 42]),
  (6, 12, false, [], .aload_n 0, 1, [], []),
  (7, 13, false, [], .invokevirtual 180, 3, [128, 0, 0, 0, 9], [1032, 35]),
  (8, 16, false, [], .aload_n 0, 1, [], []),
  (9, 17, false, [], .bipush 41, 2, [], []),
  (10, 19, false, [], .invokevirtual 183, 3, [125, 1, 0, 0, 9], [1076, 46]),
  (11, 22, false, [], .aload_n 0, 1, [], []),
  (12, 23, false, [], .dup, 1, [], []),
  (13, 24, false, [], .getfield 167, 3, [8, 10], [868]),
  (14, 27, false, [], .iconst 1, 1, [], []),
  (15, 28, false, [], .isub, 1, [], []),
  (16, 29, false, [], .putfield 167, 3, [8, 10], [868]),
  (17, 32, false, [], .return_, 1, [], [])]
theorem l_M_readsBracket : (z_hd m_M_readsBracket).2.2.1 = 1 := by decide +kernel
theorem k_M_readsBracket : z_okM m_M_readsBracket c_M_readsBracket = true := by decide +kernel
def c_M_rule : List z_In := [
  (0, 0, false, [], .iload_n 1, 1, [], []),
  (1, 1, false, [], .i2l, 1, [], []),
  (2, 2, false, [], .lconst 0, 1, [0], []),
  (3, 3, false, [], .ldc2_w 208, 3, [11, 0], [1031]),
  (4, 6, false, [], .invokestatic 136, 3, [120, 3, 1, 0], [1024]),
  (5, 9, false, [], .ifCond .ne 7, 3, [8], []),
  (6, 12, false, [], .sipush (-20001), 3, [], []),
  (7, 15, false, [], .ireturn, 1, [0], []),
  (8, 16, false, [], .aload_n 0, 1, [], []),
  (9, 17, false, [], .iconst 0, 1, [], []),
  (10, 18, false, [], .putfield 143, 3, [8, 8], [866]),
  (11, 21, false, [], .aload_n 0, 1, [], []),
  (12, 22, false, [], .iconst (-1), 1, [], []),
  (13, 23, false, [], .putfield 146, 3, [8, 9], [867]),
  (14, 26, false, [], .aload_n 0, 1, [], []),
  (15, 27, false, [], .iconst 0, 1, [], []),
  (16, 28, false, [], .putfield 167, 3, [8, 10], [868]),
  (17, 31, false, [], .aload_n 0, 1, [], []),
  (18, 32, false, [], .iconst 0, 1, [], []),
  (19, 33, false, [], .putfield 161, 3, [8, 6], [864]),
  (20, 36, false, [], .aload_n 0, 1, [], []),
  (21, 37, false, [], .iconst 0, 1, [], []),
  (22, 38, false, [], .putfield 164, 3, [8, 7], [865]),
  (23, 41, false, [], .aload_n 0, 1, [], []),
  (24, 42, false, [], .invokevirtual 180, 3, [128, 0, 0, 0, 9], [1032, 35]),
  (25, 45, false, [], .aload_n 0, 1, [], []),
  (26, 46, false, [], .getfield 143, 3, [8, 8], [866]),
  (27, 49, false, [], .aload_n 0, 1, [], []),
  (28, 50, false, [], .getfield 140, 3, [8, 2], [860]),
  (29, 53, false, [], .if_icmp .ge 11, 3, [34], []),
  (30, 56, false, [], .aload_n 0, 1, [], []),
  (31, 57, false, [], .aload_n 0, 1, [], []),
  (32, 58, false, [], .getfield 143, 3, [8, 8], [866]),
  (33, 61, false, [], .invokevirtual 157, 3, [123, 1, 0, 0, 9], [1064, 43]),
  (34, 64, true, [true, true], .aload_n 0, 1, [], []),
  (35, 65, false, [], .iconst 0, 1, [], []),
  (36, 66, false, [], .putfield 140, 3, [8, 2], [860]),
  (37, 69, false, [], .aload_n 0, 1, [], []),
  (38, 70, false, [], .getfield 146, 3, [8, 9], [867]),
  (39, 73, false, [], .ifCond .lt 11, 3, [45], []),
  (40, 76, false, [], .bipush (-100), 2, [], []),
  (41, 78, false, [], .aload_n 0, 1, [], []),
  (42, 79, false, [], .getfield 146, 3, [8, 9], [867]),
  (43, 82, false, [], .isub, 1, [], []),
  (44, 83, false, [], .ireturn, 1, [0], []),
  (45, 84, false, [], .aload_n 0, 1, [], []),
  (46, 85, false, [], .getfield 22, 3, [8, 5], [863]),
  (47, 88, false, [], .iconst 0, 1, [], []),
  (48, 89, false, [], .aload_n 0, 1, [], []),
  (49, 90, false, [], .getfield 16, 3, [8, 3], [861]),
  (50, 93, false, [], .sipush 400, 3, [], []),
  (51, 96, false, [], .iload_n 1, 1, [], []),
  (52, 97, false, [], .imul, 1, [], []),
  (53, 98, false, [], .aload_n 0, 1, [], []),
  (54, 99, false, [], .getfield 161, 3, [8, 6], [864]),
  (55, 102, false, [], .invokestatic 210, 3, [100400, 104800], [1090, 493, 492, 84]),
  (56, 105, false, [], .aload_n 0, 1, [], []),
  (57, 106, false, [], .getfield 19, 3, [8, 4], [862]),
  (58, 109, false, [], .iload_n 1, 1, [], []),
  (59, 110, false, [], .aload_n 0, 1, [], []),
  (60, 111, false, [], .getfield 161, 3, [8, 6], [864]),
  (61, 114, false, [], .iastore, 1, [100012], []),
  (62, 115, false, [], .aload_n 0, 1, [], []),
  (63, 116, false, [], .bipush 12, 2, [], []),
  (64, 118, false, [], .iload_n 1, 1, [], []),
  (65, 119, false, [], .iadd, 1, [], []),
  (66, 120, false, [], .invokevirtual 216, 3, [150, 1, 1, 0, 9], [1091, 49]),
  (67, 123, false, [], .pop, 1, [], []),
  (68, 124, false, [], .aload_n 0, 1, [], []),
  (69, 125, false, [], .getfield 164, 3, [8, 7], [865]),
  (70, 128, false, [], .ireturn, 1, [0], [])]
theorem l_M_rule : (z_hd m_M_rule).2.2.1 = 2 := by decide +kernel
theorem k_M_rule : z_okM m_M_rule c_M_rule = true := by decide +kernel
def c_M_drop : List z_In := [
  (0, 0, false, [], .iload_n 1, 1, [], []),
  (1, 1, false, [], .i2l, 1, [], []),
  (2, 2, false, [], .lconst 0, 1, [0], []),
  (3, 3, false, [], .ldc2_w 208, 3, [11, 0], [1031]),
  (4, 6, false, [], .invokestatic 136, 3, [120, 3, 1, 0], [1024]),
  (5, 9, false, [], .ifCond .ne 7, 3, [8], []),
  (6, 12, false, [], .sipush (-20001), 3, [], []),
  (7, 15, false, [], .ireturn, 1, [0], []),
  (8, 16, false, [], .aload_n 0, 1, [], []),
  (9, 17, false, [], .getfield 19, 3, [8, 4], [862]),
  (10, 20, false, [], .iload_n 1, 1, [], []),
  (11, 21, false, [], .iaload, 1, [100012], []),
  (12, 22, false, [], .ifCond .ne 7, 3, [15], []),
  (13, 25, false, [], .sipush (-20003), 3, [], []),
  (14, 28, false, [], .ireturn, 1, [0], []),
  (15, 29, false, [], .aload_n 0, 1, [], []),
  (16, 30, false, [], .getfield 19, 3, [8, 4], [862]),
  (17, 33, false, [], .iload_n 1, 1, [], []),
  (18, 34, false, [], .iconst 0, 1, [], []),
  (19, 35, false, [], .iastore, 1, [100012], []),
  (20, 36, false, [], .aload_n 0, 1, [], []),
  (21, 37, false, [], .bipush 12, 2, [], []),
  (22, 39, false, [], .iload_n 1, 1, [], []),
  (23, 40, false, [], .iadd, 1, [], []),
  (24, 41, false, [], .invokevirtual 216, 3, [150, 1, 1, 0, 9], [1091, 49]),
  (25, 44, false, [], .ireturn, 1, [0], [])]
theorem l_M_drop : (z_hd m_M_drop).2.2.1 = 2 := by decide +kernel
theorem k_M_drop : z_okM m_M_drop c_M_drop = true := by decide +kernel
def c_M_set : List z_In := [
  (0, 0, false, [], .iload_n 1, 1, [], []),
  (1, 1, false, [], .i2l, 1, [], []),
  (2, 2, false, [], .lconst 0, 1, [0], []),
  (3, 3, false, [], .ldc2_w 208, 3, [11, 0], [1031]),
  (4, 6, false, [], .invokestatic 136, 3, [120, 3, 1, 0], [1024]),
  (5, 9, false, [], .ifCond .eq 17, 3, [12], []),
  (6, 12, false, [], .iload_n 2, 1, [], []),
  (7, 13, false, [], .i2l, 1, [], []),
  (8, 14, false, [], .ldc2_w 220, 3, [99, 1], [1122]),
  (9, 17, false, [], .ldc2_w 222, 3, [99, 0], [1123]),
  (10, 20, false, [], .invokestatic 136, 3, [120, 3, 1, 0], [1024]),
  (11, 23, false, [], .ifCond .ne 7, 3, [14], []),
  (12, 26, false, [], .sipush (-20001), 3, [], []),
  (13, 29, false, [], .ireturn, 1, [0], []),
  (14, 30, false, [], .aload_n 0, 1, [], []),
  (15, 31, false, [], .getfield 9, 3, [8, 0], [858]),
  (16, 34, false, [], .iload_n 1, 1, [], []),
  (17, 35, false, [], .iaload, 1, [100012], []),
  (18, 36, false, [], .iload_n 2, 1, [], []),
  (19, 37, false, [], .if_icmp .ne 5, 3, [22], []),
  (20, 40, false, [], .iconst 0, 1, [], []),
  (21, 41, false, [], .ireturn, 1, [0], []),
  (22, 42, false, [], .aload_n 0, 1, [], []),
  (23, 43, false, [], .getfield 9, 3, [8, 0], [858]),
  (24, 46, false, [], .iload_n 1, 1, [], []),
  (25, 47, false, [], .iload_n 2, 1, [], []),
  (26, 48, false, [], .iastore, 1, [100012], []),
  (27, 49, false, [], .aload_n 0, 1, [], []),
  (28, 50, false, [], .iload_n 1, 1, [], []),
  (29, 51, false, [], .invokevirtual 216, 3, [150, 1, 1, 0, 9], [1091, 49]),
  (30, 54, false, [], .ireturn, 1, [0], [])]
theorem l_M_set : (z_hd m_M_set).2.2.1 = 3 := by decide +kernel
theorem k_M_set : z_okM m_M_set c_M_set = true := by decide +kernel
def c_M_cell : List z_In := [
  (0, 0, false, [], .iload_n 1, 1, [], []),
  (1, 1, false, [], .i2l, 1, [], []),
  (2, 2, false, [], .lconst 0, 1, [0], []),
  (3, 3, false, [], .ldc2_w 208, 3, [11, 0], [1031]),
  (4, 6, false, [], .invokestatic 136, 3, [120, 3, 1, 0], [1024]),
  (5, 9, false, [], .ifCond .eq 12, 3, [11], []),
  (6, 12, false, [], .aload_n 0, 1, [], []),
  (7, 13, false, [], .getfield 9, 3, [8, 0], [858]),
  (8, 16, false, [], .iload_n 1, 1, [], []),
  (9, 17, false, [], .iaload, 1, [100012], []),
  (10, 18, false, [], .goto 6, 3, [12], []),
  (11, 21, false, [], .sipush (-20001), 3, [], []),
  (12, 24, false, [], .ireturn, 1, [0], [])]
theorem l_M_cell : (z_hd m_M_cell).2.2.1 = 2 := by decide +kernel
theorem k_M_cell : z_okM m_M_cell c_M_cell = true := by decide +kernel
def c_M_keyOf : List z_In := [
  (0, 0, false, [], .bipush 101, 2, [], []),
  (1, 2, false, [], .iload_n 0, 1, [], []),
  (2, 3, false, [], .imul, 1, [], []),
  (3, 4, false, [], .iload_n 1, 1, [], []),
  (4, 5, false, [], .iadd, 1, [], []),
  (5, 6, false, [], .bipush 50, 2, [], []),
  (6, 8, false, [], .iadd, 1, [], []),
  (7, 9, false, [], .ireturn, 1, [0], [])]
theorem l_M_keyOf : (z_hd m_M_keyOf).2.2.1 = 2 := by decide +kernel
theorem k_M_keyOf : z_okM m_M_keyOf c_M_keyOf = true := by decide +kernel
def c_M_ruleOf : List z_In := [
  (0, 0, false, [], .iload_n 0, 1, [], []),
  (1, 1, false, [], .bipush 101, 2, [], []),
  (2, 3, false, [], .idiv, 1, [], []),
  (3, 4, false, [], .ireturn, 1, [0], [])]
theorem l_M_ruleOf : (z_hd m_M_ruleOf).2.2.1 = 1 := by decide +kernel
theorem k_M_ruleOf : z_okM m_M_ruleOf c_M_ruleOf = true := by decide +kernel
def c_M_argumentOf : List z_In := [
  (0, 0, false, [], .iload_n 0, 1, [], []),
  (1, 1, false, [], .bipush 101, 2, [], []),
  (2, 3, false, [], .irem, 1, [], []),
  (3, 4, false, [], .bipush 50, 2, [], []),
  (4, 6, false, [], .isub, 1, [], []),
  (5, 7, false, [], .ireturn, 1, [0], [])]
theorem l_M_argumentOf : (z_hd m_M_argumentOf).2.2.1 = 1 := by decide +kernel
theorem k_M_argumentOf : z_okM m_M_argumentOf c_M_argumentOf = true := by decide +kernel
def c_M_isKey : List z_In := [
  (0, 0, false, [], .lload_n 0, 1, [], []),
  (1, 1, false, [], .lconst 0, 1, [0], []),
  (2, 2, false, [], .ldc2_w 224, 3, [1211, 0], [1249]),
  (3, 5, false, [], .invokestatic 136, 3, [120, 3, 1, 0], [1024]),
  (4, 8, false, [], .ireturn, 1, [1], [])]
theorem l_M_isKey : (z_hd m_M_isKey).2.2.1 = 2 := by decide +kernel
theorem k_M_isKey : z_okM m_M_isKey c_M_isKey = true := by decide +kernel
def c_M_goes : List z_In := [
  (0, 0, false, [], .aload_n 0, 1, [], []),
  (1, 1, false, [], .getfield 25, 3, [8, 11], [869]),
  (2, 4, false, [], .iload_n 1, 1, [], []),
  (3, 5, false, [], .iconst 0, 1, [], []),
  (4, 6, false, [], .bastore, 1, [201212], []),
  (5, 7, false, [], .aload_n 0, 1, [], []),
  (6, 8, false, [], .dup, 1, [], []),
  (7, 9, false, [], .getfield 226, 3, [8, 22], [880]),
  (8, 12, false, [], .aload_n 0, 1, [], []),
  (9, 13, false, [], .getfield 35, 3, [8, 14], [872]),
  (10, 16, false, [], .iload_n 1, 1, [], []),
  (11, 17, false, [], .iaload, 1, [101212], []),
  (12, 18, false, [], .isub, 1, [], []),
  (13, 19, false, [], .putfield 226, 3, [8, 22], [880]),
  (14, 22, false, [], .aload_n 0, 1, [], []),
  (15, 23, false, [], .dup, 1, [], []),
  (16, 24, false, [], .getfield 229, 3, [8, 23], [881]),
  (17, 27, false, [], .iconst 1, 1, [], []),
  (18, 28, false, [], .isub, 1, [], []),
  (19, 29, false, [], .putfield 229, 3, [8, 23], [881]),
  (20, 32, false, [], .return_, 1, [], [])]
theorem l_M_goes : (z_hd m_M_goes).2.2.1 = 2 := by decide +kernel
theorem k_M_goes : z_okM m_M_goes c_M_goes = true := by decide +kernel
def c_M_worth : List z_In := [
  (0, 0, false, [], .aload_n 0, 1, [], []),
  (1, 1, false, [], .getfield 232, 3, [8, 25], [883]),
  (2, 4, false, [], .ifCond .ne 12, 3, [8], []),
  (3, 7, false, [], .aload_n 0, 1, [], []),
  (4, 8, false, [], .getfield 38, 3, [8, 15], [873]),
  (5, 11, false, [], .iload_n 1, 1, [], []),
  (6, 12, false, [], .iaload, 1, [101212], []),
  (7, 13, false, [], .goto 44, 3, [31], []),
  (8, 16, false, [], .aload_n 0, 1, [], []),
  (9, 17, false, [], .getfield 232, 3, [8, 25], [883]),
  (10, 20, false, [], .iconst 1, 1, [], []),
  (11, 21, false, [], .if_icmp .ne 12, 3, [17], []),
  (12, 24, false, [], .aload_n 0, 1, [], []),
  (13, 25, false, [], .getfield 41, 3, [8, 16], [874]),
  (14, 28, false, [], .iload_n 1, 1, [], []),
  (15, 29, false, [], .iaload, 1, [101212], []),
  (16, 30, false, [], .goto 27, 3, [31], []),
  (17, 33, false, [], .aload_n 0, 1, [], []),
  (18, 34, false, [], .getfield 232, 3, [8, 25], [883]),
  (19, 37, false, [], .iconst 2, 1, [], []),
  (20, 38, false, [], .if_icmp .ne 12, 3, [26], []),
  (21, 41, false, [], .aload_n 0, 1, [], []),
  (22, 42, false, [], .getfield 32, 3, [8, 13], [871]),
  (23, 45, false, [], .iload_n 1, 1, [], []),
  (24, 46, false, [], .iaload, 1, [101212], []),
  (25, 47, false, [], .goto 10, 3, [31], []),
  (26, 50, false, [], .aload_n 0, 1, [], []),
  (27, 51, false, [], .getfield 35, 3, [8, 14], [872]),
  (28, 54, false, [], .iload_n 1, 1, [], []),
  (29, 55, false, [], .iaload, 1, [101212], []),
  (30, 56, false, [], .ineg, 1, [], []),
  (31, 57, false, [], .ireturn, 1, [0], [])]
theorem l_M_worth : (z_hd m_M_worth).2.2.1 = 2 := by decide +kernel
theorem k_M_worth : z_okM m_M_worth c_M_worth = true := by decide +kernel
def c_M_leastWorth : List z_In := [
  (0, 0, false, [], .iconst (-1), 1, [], []),
  (1, 1, false, [], .istore_n 1, 1, [], []),
  (2, 2, false, [], .iconst 0, 1, [], []),
  (3, 3, false, [], .istore_n 2, 1, [], []),
  (4, 4, true, [true, true, true], .iload_n 2, 1, [], []),
  (5, 5, false, [], .sipush 1212, 3, [], []),
  (6, 8, false, [], .if_icmp .ge 38, 3, [26], []),
  (7, 11, false, [], .aload_n 0, 1, [], []),
  (8, 12, false, [], .getfield 25, 3, [8, 11], [869]),
  (9, 15, false, [], .iload_n 2, 1, [], []),
  (10, 16, false, [], .baload, 1, [201212], []),
  (11, 17, false, [], .ifCond .eq 23, 3, [24], []),
  (12, 20, false, [], .iload_n 1, 1, [], []),
  (13, 21, false, [], .iconst (-1), 1, [], []),
  (14, 22, false, [], .if_icmp .eq 16, 3, [22], []),
  (15, 25, false, [], .aload_n 0, 1, [], []),
  (16, 26, false, [], .iload_n 2, 1, [], []),
  (17, 27, false, [], .invokevirtual 235, 3, [145, 1, 1, 0, 9], [1184, 64]),
  (18, 30, false, [], .aload_n 0, 1, [], []),
  (19, 31, false, [], .iload_n 1, 1, [], []),
  (20, 32, false, [], .invokevirtual 235, 3, [145, 1, 1, 0, 9], [1184, 64]),
  (21, 35, false, [], .if_icmp .ge 5, 3, [24], []),
  (22, 38, true, [true, false, true], .iload_n 2, 1, [], []),
  (23, 39, false, [], .istore_n 1, 1, [], []),
  (24, 40, true, [true, true, true], .iinc 2 1, 3, [], []),
  (25, 43, false, [], .goto (-39), 3, [4], []),
  (26, 46, false, [], .iload_n 1, 1, [], []),
  (27, 47, false, [], .ireturn, 1, [0], [])]
theorem l_M_leastWorth : (z_hd m_M_leastWorth).2.2.1 = 3 := by decide +kernel
theorem k_M_leastWorth : z_okM m_M_leastWorth c_M_leastWorth = true := by decide +kernel
def c_M_holdsBound : List z_In := [
  (0, 0, true, [true], .aload_n 0, 1, [], []),
  (1, 1, false, [], .getfield 67, 3, [8, 30], [888]),
  (2, 4, false, [], .ifCond .eq 35, 3, [21], []),
  (3, 7, false, [], .aload_n 0, 1, [], []),
  (4, 8, false, [], .getfield 226, 3, [8, 22], [880]),
  (5, 11, false, [], .aload_n 0, 1, [], []),
  (6, 12, false, [], .getfield 57, 3, [8, 24], [882]),
  (7, 15, false, [], .if_icmp .le 24, 3, [21], []),
  (8, 18, false, [], .aload_n 0, 1, [], []),
  (9, 19, false, [], .aload_n 0, 1, [], []),
  (10, 20, false, [], .invokevirtual 238, 3, [146, 0, 1, 0, 9], [1180, 63]),
  (11, 23, false, [], .invokevirtual 241, 3, [144, 1, 0, 0, 9], [1099, 51]),
  (12, 26, false, [], .aload_n 0, 1, [], []),
  (13, 27, false, [], .getfield 61, 3, [8, 27], [885]),
  (14, 30, false, [], .iconst 4, 1, [], []),
  (15, 31, false, [], .dup2, 1, [], []),
  (16, 32, false, [], .iaload, 1, [100007], []),
  (17, 33, false, [], .iconst 1, 1, [], []),
  (18, 34, false, [], .iadd, 1, [], []),
  (19, 35, false, [], .iastore, 1, [100007], []),
  (20, 36, false, [], .goto (-36), 3, [0], []),
  (21, 39, false, [], .return_, 1, [], [])]
theorem l_M_holdsBound : (z_hd m_M_holdsBound).2.2.1 = 1 := by decide +kernel
theorem k_M_holdsBound : z_okM m_M_holdsBound c_M_holdsBound = true := by decide +kernel
def c_M_digits : List z_In := [
  (0, 0, false, [], .iconst 1, 1, [], []),
  (1, 1, false, [], .istore_n 1, 1, [], []),
  (2, 2, false, [], .iload_n 0, 1, [], []),
  (3, 3, false, [], .invokestatic 244, 3, [], [1175, 699, 85, 700]),
  (4, 6, false, [], .bipush 10, 2, [], []),
  (5, 8, false, [], .idiv, 1, [], []),
  (6, 9, false, [], .istore_n 2, 1, [], []),
  (7, 10, true, [false, true, true], .iload_n 2, 1, [], []),
  (8, 11, false, [], .ifCond .le 14, 3, [15], []),
  (9, 14, false, [], .iinc 1 1, 3, [], []),
  (10, 17, false, [], .iload_n 2, 1, [], []),
  (11, 18, false, [], .bipush 10, 2, [], []),
  (12, 20, false, [], .idiv, 1, [], []),
  (13, 21, false, [], .istore_n 2, 1, [], []),
  (14, 22, false, [], .goto (-12), 3, [7], []),
  (15, 25, false, [], .iload_n 1, 1, [], []),
  (16, 26, false, [], .ireturn, 1, [0], [])]
theorem l_M_digits : (z_hd m_M_digits).2.2.1 = 3 := by decide +kernel
theorem k_M_digits : z_okM m_M_digits c_M_digits = true := by decide +kernel
def c_M_cameBehind : List z_In := [
  (0, 0, false, [], .iconst (-1), 1, [], []),
  (1, 1, false, [], .istore_n 2, 1, [], []),
  (2, 2, false, [], .iconst 0, 1, [], []),
  (3, 3, false, [], .istore_n 3, 1, [], []),
  (4, 4, true, [true, true, true, true], .iload_n 3, 1, [], []),
  (5, 5, false, [], .sipush 1212, 3, [], []),
  (6, 8, false, [], .if_icmp .ge 50, 3, [34], []),
  (7, 11, false, [], .aload_n 0, 1, [], []),
  (8, 12, false, [], .getfield 25, 3, [8, 11], [869]),
  (9, 15, false, [], .iload_n 3, 1, [], []),
  (10, 16, false, [], .baload, 1, [201212], []),
  (11, 17, false, [], .ifCond .eq 35, 3, [32], []),
  (12, 20, false, [], .aload_n 0, 1, [], []),
  (13, 21, false, [], .getfield 47, 3, [8, 18], [876]),
  (14, 24, false, [], .iload_n 3, 1, [], []),
  (15, 25, false, [], .iaload, 1, [101212], []),
  (16, 26, false, [], .iload_n 1, 1, [], []),
  (17, 27, false, [], .if_icmp .le 25, 3, [32], []),
  (18, 30, false, [], .iload_n 2, 1, [], []),
  (19, 31, false, [], .iconst (-1), 1, [], []),
  (20, 32, false, [], .if_icmp .eq 18, 3, [30], []),
  (21, 35, false, [], .aload_n 0, 1, [], []),
  (22, 36, false, [], .getfield 47, 3, [8, 18], [876]),
  (23, 39, false, [], .iload_n 3, 1, [], []),
  (24, 40, false, [], .iaload, 1, [101212], []),
  (25, 41, false, [], .aload_n 0, 1, [], []),
  (26, 42, false, [], .getfield 47, 3, [8, 18], [876]),
  (27, 45, false, [], .iload_n 2, 1, [], []),
  (28, 46, false, [], .iaload, 1, [101212], []),
  (29, 47, false, [], .if_icmp .ge 5, 3, [32], []),
  (30, 50, true, [true, true, false, true], .iload_n 3, 1, [], []),
  (31, 51, false, [], .istore_n 2, 1, [], []),
  (32, 52, true, [true, true, true, true], .iinc 3 1, 3, [], []),
  (33, 55, false, [], .goto (-51), 3, [4], []),
  (34, 58, false, [], .iload_n 2, 1, [], []),
  (35, 59, false, [], .ireturn, 1, [0], [])]
theorem l_M_cameBehind : (z_hd m_M_cameBehind).2.2.1 = 4 := by decide +kernel
theorem k_M_cameBehind : z_okM m_M_cameBehind c_M_cameBehind = true := by decide +kernel
def c_M_changed : List z_In := [
  (0, 0, false, [], .aload_n 0, 1, [], []),
  (1, 1, false, [], .iconst 0, 1, [], []),
  (2, 2, false, [], .putfield 249, 3, [8, 29], [887]),
  (3, 5, false, [], .iconst 0, 1, [], []),
  (4, 6, false, [], .istore_n 2, 1, [], []),
  (5, 7, false, [], .aload_n 0, 1, [], []),
  (6, 8, false, [], .iload_n 2, 1, [], []),
  (7, 9, false, [], .invokevirtual 252, 3, [149, 1, 1, 0, 9], [1095, 50]),
  (8, 12, false, [], .istore_n 3, 1, [], []),
  (9, 13, true, [true, true, false, true, false], .iload_n 3, 1, [], []),
  (10, 14, false, [], .iconst (-1), 1, [], []),
  (11, 15, false, [], .if_icmp .eq 68, 3, [55], []),
  (12, 18, false, [], .aload_n 0, 1, [], []),
  (13, 19, false, [], .getfield 47, 3, [8, 18], [876]),
  (14, 22, false, [], .iload_n 3, 1, [], []),
  (15, 23, false, [], .iaload, 1, [101212], []),
  (16, 24, false, [], .istore_n 2, 1, [], []),
  (17, 25, false, [], .aload_n 0, 1, [], []),
  (18, 26, false, [], .getfield 44, 3, [8, 17], [875]),
  (19, 29, false, [], .iload_n 3, 1, [], []),
  (20, 30, false, [], .iaload, 1, [101212], []),
  (21, 31, false, [], .iload_n 1, 1, [], []),
  (22, 32, false, [], .ishr, 1, [], []),
  (23, 33, false, [], .iconst 1, 1, [], []),
  (24, 34, false, [], .iand, 1, [], []),
  (25, 35, false, [], .iconst 1, 1, [], []),
  (26, 36, false, [], .if_icmp .ne 38, 3, [50], []),
  (27, 39, false, [], .aload_n 0, 1, [], []),
  (28, 40, false, [], .getfield 64, 3, [8, 28], [886]),
  (29, 43, false, [], .aload_n 0, 1, [], []),
  (30, 44, false, [], .getfield 249, 3, [8, 29], [887]),
  (31, 47, false, [], .iload_n 3, 1, [], []),
  (32, 48, false, [], .iastore, 1, [101212], []),
  (33, 49, false, [], .aload_n 0, 1, [], []),
  (34, 50, false, [], .dup, 1, [], []),
  (35, 51, false, [], .getfield 249, 3, [8, 29], [887]),
  (36, 54, false, [], .iconst 1, 1, [], []),
  (37, 55, false, [], .iadd, 1, [], []),
  (38, 56, false, [], .putfield 249, 3, [8, 29], [887]),
  (39, 59, false, [], .aload_n 0, 1, [], []),
  (40, 60, false, [], .iload_n 3, 1, [], []),
  (41, 61, false, [], .invokevirtual 241, 3, [144, 1, 0, 0, 9], [1099, 51]),
  (42, 64, false, [], .aload_n 0, 1, [], []),
  (43, 65, false, [], .getfield 61, 3, [8, 27], [885]),
  (44, 68, false, [], .iconst 3, 1, [], []),
  (45, 69, false, [], .dup2, 1, [], []),
  (46, 70, false, [], .iaload, 1, [100007], []),
  (47, 71, false, [], .iconst 1, 1, [], []),
  (48, 72, false, [], .iadd, 1, [], []),
  (49, 73, false, [], .iastore, 1, [100007], []),
  (50, 74, true, [true, true, true, false, false], .aload_n 0, 1, [], []),
  (51, 75, false, [], .iload_n 2, 1, [], []),
  (52, 76, false, [], .invokevirtual 252, 3, [149, 1, 1, 0, 9], [1095, 50]),
  (53, 79, false, [], .istore_n 3, 1, [], []),
  (54, 80, false, [], .goto (-67), 3, [9], []),
  (55, 83, false, [], .iconst 0, 1, [], []),
  (56, 84, false, [], .istore 4, 2, [], []),
  (57, 86, true, [true, true, false, false, true], .iload 4, 2, [], []),
  (58, 88, false, [], .iconst 4, 1, [], []),
  (59, 89, false, [], .if_icmp .ge 38, 3, [78], []),
  (60, 92, false, [], .aload_n 0, 1, [], []),
  (61, 93, false, [], .getfield 71, 3, [8, 31], [889]),
  (62, 96, false, [], .iload 4, 2, [], []),
  (63, 98, false, [], .iaload, 1, [100005], []),
  (64, 99, false, [], .iconst 1, 1, [], []),
  (65, 100, false, [], .if_icmp .eq 14, 3, [72], []),
  (66, 103, false, [], .aload_n 0, 1, [], []),
  (67, 104, false, [], .getfield 71, 3, [8, 31], [889]),
  (68, 107, false, [], .iload 4, 2, [], []),
  (69, 109, false, [], .iaload, 1, [100005], []),
  (70, 110, false, [], .iconst 2, 1, [], []),
  (71, 111, false, [], .if_icmp .ne 10, 3, [76], []),
  (72, 114, true, [true, true, false, false, true], .aload_n 0, 1, [], []),
  (73, 115, false, [], .iload 4, 2, [], []),
  (74, 117, false, [], .iload_n 1, 1, [], []),
  (75, 118, false, [], .invokevirtual 255, 3, [165, 2, 0, 0, 9], [1103, 52]),
  (76, 121, true, [true, true, false, false, true], .iinc 4 1, 3, [], []),
  (77, 124, false, [], .goto (-38), 3, [57], []),
  (78, 127, false, [], .aload_n 0, 1, [], []),
  (79, 128, false, [], .getfield 249, 3, [8, 29], [887]),
  (80, 131, false, [], .ireturn, 1, [0], [])]
theorem l_M_changed : (z_hd m_M_changed).2.2.1 = 5 := by decide +kernel
theorem k_M_changed : z_okM m_M_changed c_M_changed = true := by decide +kernel
def c_M_top : List z_In := [
  (0, 0, false, [], .bipush 30, 2, [], []),
  (1, 2, false, [], .iload_n 1, 1, [], []),
  (2, 3, false, [], .imul, 1, [], []),
  (3, 4, false, [], .aload_n 0, 1, [], []),
  (4, 5, false, [], .getfield 80, 3, [8, 34], [892]),
  (5, 8, false, [], .iload_n 1, 1, [], []),
  (6, 9, false, [], .iaload, 1, [100005], []),
  (7, 10, false, [], .iadd, 1, [], []),
  (8, 11, false, [], .iconst 1, 1, [], []),
  (9, 12, false, [], .isub, 1, [], []),
  (10, 13, false, [], .ireturn, 1, [0], [])]
theorem l_M_top : (z_hd m_M_top).2.2.1 = 2 := by decide +kernel
theorem k_M_top : z_okM m_M_top c_M_top = true := by decide +kernel
def c_M_clears : List z_In := [
  (0, 0, false, [], .aload_n 0, 1, [], []),
  (1, 1, false, [], .getfield 92, 3, [8, 38], [896]),
  (2, 4, false, [], .iload_n 1, 1, [], []),
  (3, 5, false, [], .iconst 0, 1, [], []),
  (4, 6, false, [], .iastore, 1, [100150], []),
  (5, 7, false, [], .aload_n 0, 1, [], []),
  (6, 8, false, [], .getfield 101, 3, [8, 41], [899]),
  (7, 11, false, [], .iload_n 1, 1, [], []),
  (8, 12, false, [], .iconst 1, 1, [], []),
  (9, 13, false, [], .bipush 12, 2, [], []),
  (10, 15, false, [], .aload_n 0, 1, [], []),
  (11, 16, false, [], .getfield 89, 3, [8, 37], [895]),
  (12, 19, false, [], .iload_n 1, 1, [], []),
  (13, 20, false, [], .iaload, 1, [100150], []),
  (14, 21, false, [], .invokestatic 258, 3, [141, 1, 1, 0], [1111]),
  (15, 24, false, [], .iadd, 1, [], []),
  (16, 25, false, [], .ishl, 1, [], []),
  (17, 26, false, [], .iastore, 1, [100150], []),
  (18, 27, false, [], .aload_n 0, 1, [], []),
  (19, 28, false, [], .getfield 104, 3, [8, 42], [900]),
  (20, 31, false, [], .iload_n 1, 1, [], []),
  (21, 32, false, [], .iconst 0, 1, [], []),
  (22, 33, false, [], .iastore, 1, [100150], []),
  (23, 34, false, [], .aload_n 0, 1, [], []),
  (24, 35, false, [], .getfield 110, 3, [8, 44], [902]),
  (25, 38, false, [], .iload_n 1, 1, [], []),
  (26, 39, false, [], .iconst 0, 1, [], []),
  (27, 40, false, [], .iastore, 1, [100150], []),
  (28, 41, false, [], .return_, 1, [], [])]
theorem l_M_clears : (z_hd m_M_clears).2.2.1 = 2 := by decide +kernel
theorem k_M_clears : z_okM m_M_clears c_M_clears = true := by decide +kernel
def c_M_fails : List z_In := [
  (0, 0, false, [], .aload_n 0, 1, [], []),
  (1, 1, false, [], .getfield 71, 3, [8, 31], [889]),
  (2, 4, false, [], .iload_n 1, 1, [], []),
  (3, 5, false, [], .iconst 4, 1, [], []),
  (4, 6, false, [], .iastore, 1, [100005], []),
  (5, 7, false, [], .aload_n 0, 1, [], []),
  (6, 8, false, [], .getfield 74, 3, [8, 32], [890]),
  (7, 11, false, [], .iload_n 1, 1, [], []),
  (8, 12, false, [], .sipush (-10000), 3, [], []),
  (9, 15, false, [], .iload_n 2, 1, [], []),
  (10, 16, false, [], .isub, 1, [], []),
  (11, 17, false, [], .iastore, 1, [100005], []),
  (12, 18, false, [], .aload_n 0, 1, [], []),
  (13, 19, false, [], .getfield 80, 3, [8, 34], [892]),
  (14, 22, false, [], .iload_n 1, 1, [], []),
  (15, 23, false, [], .iconst 0, 1, [], []),
  (16, 24, false, [], .iastore, 1, [100005], []),
  (17, 25, false, [], .aload_n 0, 1, [], []),
  (18, 26, false, [], .getfield 61, 3, [8, 27], [885]),
  (19, 29, false, [], .iconst 2, 1, [], []),
  (20, 30, false, [], .dup2, 1, [], []),
  (21, 31, false, [], .iaload, 1, [100007], []),
  (22, 32, false, [], .iconst 1, 1, [], []),
  (23, 33, false, [], .iadd, 1, [], []),
  (24, 34, false, [], .iastore, 1, [100007], []),
  (25, 35, false, [], .return_, 1, [], [])]
theorem l_M_fails : (z_hd m_M_fails).2.2.1 = 3 := by decide +kernel
theorem k_M_fails : z_okM m_M_fails c_M_fails = true := by decide +kernel
def c_M_hasFrame : List z_In := [
  (0, 0, false, [], .iconst 0, 1, [], []),
  (1, 1, false, [], .istore_n 3, 1, [], []),
  (2, 2, true, [true, true, true, true], .iload_n 3, 1, [], []),
  (3, 3, false, [], .aload_n 0, 1, [], []),
  (4, 4, false, [], .getfield 80, 3, [8, 34], [892]),
  (5, 7, false, [], .iload_n 1, 1, [], []),
  (6, 8, false, [], .iaload, 1, [100005], []),
  (7, 9, false, [], .if_icmp .ge 26, 3, [22], []),
  (8, 12, false, [], .aload_n 0, 1, [], []),
  (9, 13, false, [], .getfield 89, 3, [8, 37], [895]),
  (10, 16, false, [], .bipush 30, 2, [], []),
  (11, 18, false, [], .iload_n 1, 1, [], []),
  (12, 19, false, [], .imul, 1, [], []),
  (13, 20, false, [], .iload_n 3, 1, [], []),
  (14, 21, false, [], .iadd, 1, [], []),
  (15, 22, false, [], .iaload, 1, [100150], []),
  (16, 23, false, [], .iload_n 2, 1, [], []),
  (17, 24, false, [], .if_icmp .ne 5, 3, [20], []),
  (18, 27, false, [], .iconst 1, 1, [], []),
  (19, 28, false, [], .ireturn, 1, [1], []),
  (20, 29, false, [], .iinc 3 1, 3, [], []),
  (21, 32, false, [], .goto (-30), 3, [2], []),
  (22, 35, false, [], .iconst 0, 1, [], []),
  (23, 36, false, [], .ireturn, 1, [1], [])]
theorem l_M_hasFrame : (z_hd m_M_hasFrame).2.2.1 = 4 := by decide +kernel
theorem k_M_hasFrame : z_okM m_M_hasFrame c_M_hasFrame = true := by decide +kernel
def c_M_taskOf : List z_In := [
  (0, 0, false, [], .iconst 0, 1, [], []),
  (1, 1, false, [], .istore_n 3, 1, [], []),
  (2, 2, true, [true, true, true, true], .iload_n 3, 1, [], []),
  (3, 3, false, [], .iconst 4, 1, [], []),
  (4, 4, false, [], .if_icmp .ge 25, 3, [17], []),
  (5, 7, false, [], .iload_n 3, 1, [], []),
  (6, 8, false, [], .iload_n 2, 1, [], []),
  (7, 9, false, [], .if_icmp .eq 14, 3, [15], []),
  (8, 12, false, [], .aload_n 0, 1, [], []),
  (9, 13, false, [], .iload_n 3, 1, [], []),
  (10, 14, false, [], .iload_n 1, 1, [], []),
  (11, 15, false, [], .invokevirtual 261, 3, [154, 2, 1, 0, 9], [1188, 65]),
  (12, 18, false, [], .ifCond .eq 5, 3, [15], []),
  (13, 21, false, [], .iload_n 3, 1, [], []),
  (14, 22, false, [], .ireturn, 1, [0], []),
  (15, 23, true, [true, true, true, true], .iinc 3 1, 3, [], []),
  (16, 26, false, [], .goto (-24), 3, [2], []),
  (17, 29, false, [], .iconst (-1), 1, [], []),
  (18, 30, false, [], .ireturn, 1, [0], [])]
theorem l_M_taskOf : (z_hd m_M_taskOf).2.2.1 = 4 := by decide +kernel
theorem k_M_taskOf : z_okM m_M_taskOf c_M_taskOf = true := by decide +kernel
def c_M_waitsAtLast : List z_In := [
  (0, 0, false, [], .iload_n 1, 1, [], []),
  (1, 1, false, [], .istore_n 3, 1, [], []),
  (2, 2, false, [], .iconst 0, 1, [], []),
  (3, 3, false, [], .istore 4, 2, [], []),
  (4, 5, true, [true, false, true, true, true], .iload 4, 2, [], []),
  (5, 7, false, [], .iconst 4, 1, [], []),
  (6, 8, false, [], .if_icmp .ge 33, 3, [25], []),
  (7, 11, false, [], .aload_n 0, 1, [], []),
  (8, 12, false, [], .getfield 71, 3, [8, 31], [889]),
  (9, 15, false, [], .iload_n 3, 1, [], []),
  (10, 16, false, [], .iaload, 1, [100005], []),
  (11, 17, false, [], .iconst 2, 1, [], []),
  (12, 18, false, [], .if_icmp .ne 23, 3, [25], []),
  (13, 21, false, [], .aload_n 0, 1, [], []),
  (14, 22, false, [], .getfield 83, 3, [8, 35], [893]),
  (15, 25, false, [], .iload_n 3, 1, [], []),
  (16, 26, false, [], .iaload, 1, [100005], []),
  (17, 27, false, [], .istore_n 3, 1, [], []),
  (18, 28, false, [], .iload_n 3, 1, [], []),
  (19, 29, false, [], .iload_n 2, 1, [], []),
  (20, 30, false, [], .if_icmp .ne 5, 3, [23], []),
  (21, 33, false, [], .iconst 1, 1, [], []),
  (22, 34, false, [], .ireturn, 1, [1], []),
  (23, 35, false, [], .iinc 4 1, 3, [], []),
  (24, 38, false, [], .goto (-33), 3, [4], []),
  (25, 41, false, [], .iconst 0, 1, [], []),
  (26, 42, false, [], .ireturn, 1, [1], [])]
theorem l_M_waitsAtLast : (z_hd m_M_waitsAtLast).2.2.1 = 5 := by decide +kernel
theorem k_M_waitsAtLast : z_okM m_M_waitsAtLast c_M_waitsAtLast = true := by decide +kernel
def c_M_asksFor : List z_In := [
  (0, 0, false, [], .aload_n 0, 1, [], []),
  (1, 1, false, [], .dup, 1, [], []),
  (2, 2, false, [], .getfield 265, 3, [8, 26], [884]),
  (3, 5, false, [], .iconst 1, 1, [], []),
  (4, 6, false, [], .iadd, 1, [], []),
  (5, 7, false, [], .putfield 265, 3, [8, 26], [884]),
  (6, 10, false, [], .aload_n 0, 1, [], []),
  (7, 11, false, [], .getfield 71, 3, [8, 31], [889]),
  (8, 14, false, [], .iload_n 1, 1, [], []),
  (9, 15, false, [], .iconst 1, 1, [], []),
  (10, 16, false, [], .iastore, 1, [100005], []),
  (11, 17, false, [], .aload_n 0, 1, [], []),
  (12, 18, false, [], .getfield 25, 3, [8, 11], [869]),
  (13, 21, false, [], .iload_n 2, 1, [], []),
  (14, 22, false, [], .baload, 1, [201212], []),
  (15, 23, false, [], .ifCond .eq 52, 3, [51], []),
  (16, 26, false, [], .aload_n 0, 1, [], []),
  (17, 27, false, [], .getfield 61, 3, [8, 27], [885]),
  (18, 30, false, [], .iconst 0, 1, [], []),
  (19, 31, false, [], .dup2, 1, [], []),
  (20, 32, false, [], .iaload, 1, [100007], []),
  (21, 33, false, [], .iconst 1, 1, [], []),
  (22, 34, false, [], .iadd, 1, [], []),
  (23, 35, false, [], .iastore, 1, [100007], []),
  (24, 36, false, [], .aload_n 0, 1, [], []),
  (25, 37, false, [], .getfield 38, 3, [8, 15], [873]),
  (26, 40, false, [], .iload_n 2, 1, [], []),
  (27, 41, false, [], .aload_n 0, 1, [], []),
  (28, 42, false, [], .getfield 265, 3, [8, 26], [884]),
  (29, 45, false, [], .iastore, 1, [101212], []),
  (30, 46, false, [], .aload_n 0, 1, [], []),
  (31, 47, false, [], .getfield 41, 3, [8, 16], [874]),
  (32, 50, false, [], .iload_n 2, 1, [], []),
  (33, 51, false, [], .dup2, 1, [], []),
  (34, 52, false, [], .iaload, 1, [101212], []),
  (35, 53, false, [], .iconst 1, 1, [], []),
  (36, 54, false, [], .iadd, 1, [], []),
  (37, 55, false, [], .iastore, 1, [101212], []),
  (38, 56, false, [], .aload_n 0, 1, [], []),
  (39, 57, false, [], .iload_n 1, 1, [], []),
  (40, 58, false, [], .iload_n 2, 1, [], []),
  (41, 59, false, [], .aload_n 0, 1, [], []),
  (42, 60, false, [], .getfield 29, 3, [8, 12], [870]),
  (43, 63, false, [], .iload_n 2, 1, [], []),
  (44, 64, false, [], .iaload, 1, [101212], []),
  (45, 65, false, [], .aload_n 0, 1, [], []),
  (46, 66, false, [], .getfield 44, 3, [8, 17], [875]),
  (47, 69, false, [], .iload_n 2, 1, [], []),
  (48, 70, false, [], .iaload, 1, [101212], []),
  (49, 71, false, [], .invokevirtual 268, 3, [160, 4, 0, 0, 9], [1148, 56]),
  (50, 74, false, [], .return_, 1, [], []),
  (51, 75, false, [], .aload_n 0, 1, [], []),
  (52, 76, false, [], .iload_n 1, 1, [], []),
  (53, 77, false, [], .iload_n 2, 1, [], []),
  (54, 78, false, [], .invokevirtual 261, 3, [154, 2, 1, 0, 9], [1188, 65]),
  (55, 81, false, [], .ifCond .eq 10, 3, [61], []),
  (56, 84, false, [], .aload_n 0, 1, [], []),
  (57, 85, false, [], .iload_n 1, 1, [], []),
  (58, 86, false, [], .iconst 1, 1, [], []),
  (59, 87, false, [], .invokevirtual 272, 3, [153, 2, 0, 0, 9], [1192, 66]),
  (60, 90, false, [], .return_, 1, [], []),
  (61, 91, false, [], .iload_n 1, 1, [], []),
  (62, 92, false, [], .iconst 4, 1, [], []),
  (63, 93, false, [], .if_icmp .ne 7, 3, [66], []),
  (64, 96, false, [], .iconst (-1), 1, [], []),
  (65, 97, false, [], .goto 9, 3, [70], []),
  (66, 100, false, [], .aload_n 0, 1, [], []),
  (67, 101, false, [], .iload_n 2, 1, [], []),
  (68, 102, false, [], .iload_n 1, 1, [], []),
  (69, 103, false, [], .invokevirtual 275, 3, [155, 2, 1, 0, 9], [1196, 67]),
  (70, 106, false, [], .istore 4, 2, [], []),
  (71, 108, false, [], .iload 4, 2, [], []),
  (72, 110, false, [], .iconst (-1), 1, [], []),
  (73, 111, false, [], .if_icmp .eq 62, 3, [112], []),
  (74, 114, false, [], .aload_n 0, 1, [], []),
  (75, 115, false, [], .iload 4, 2, [], []),
  (76, 117, false, [], .iload_n 1, 1, [], []),
  (77, 118, false, [], .invokevirtual 279, 3, [156, 2, 1, 0, 9], [1200, 68]),
  (78, 121, false, [], .ifCond .eq 10, 3, [84], []),
  (79, 124, false, [], .aload_n 0, 1, [], []),
  (80, 125, false, [], .iload_n 1, 1, [], []),
  (81, 126, false, [], .iconst 1, 1, [], []),
  (82, 127, false, [], .invokevirtual 272, 3, [153, 2, 0, 0, 9], [1192, 66]),
  (83, 130, false, [], .return_, 1, [], []),
  (84, 131, false, [], .aload_n 0, 1, [], []),
  (85, 132, false, [], .getfield 71, 3, [8, 31], [889]),
  (86, 135, false, [], .iload_n 1, 1, [], []),
  (87, 136, false, [], .iconst 2, 1, [], []),
  (88, 137, false, [], .iastore, 1, [100005], []),
  (89, 138, false, [], .aload_n 0, 1, [], []),
  (90, 139, false, [], .getfield 83, 3, [8, 35], [893]),
  (91, 142, false, [], .iload_n 1, 1, [], []),
  (92, 143, false, [], .iload 4, 2, [], []),
  (93, 145, false, [], .iastore, 1, [100005], []),
  (94, 146, false, [], .aload_n 0, 1, [], []),
  (95, 147, false, [], .getfield 86, 3, [8, 36], [894]),
  (96, 150, false, [], .iload_n 1, 1, [], []),
  (97, 151, false, [], .iload_n 2, 1, [], []),
  (98, 152, false, [], .iastore, 1, [100005], []),
  (99, 153, false, [], .aload_n 0, 1, [], []),
  (100, 154, false, [], .getfield 61, 3, [8, 27], [885]),
  (101, 157, false, [], .bipush 6, 2, [], []),
  (102, 159, false, [], .dup2, 1, [], []),
  (103, 160, false, [], .iaload, 1, [100007], []),
  (104, 161, false, [], .iload_n 3, 1, [], []),
  (105, 162, false, [], .ifCond .eq 7, 3, [108], []),
  (106, 165, false, [], .iconst 0, 1, [], []),
  (107, 166, false, [], .goto 4, 3, [109], []),
  (108, 169, false, [], .iconst 1, 1, [], []),
  (109, 170, false, [], .iadd, 1, [], []),
  (110, 171, false, [], .iastore, 1, [100007], []),
  (111, 172, false, [], .return_, 1, [], []),
  (112, 173, false, [], .aload_n 0, 1, [], []),
  (113, 174, false, [], .getfield 80, 3, [8, 34], [892]),
  (114, 177, false, [], .iload_n 1, 1, [], []),
  (115, 178, false, [], .iaload, 1, [100005], []),
  (116, 179, false, [], .bipush 30, 2, [], []),
  (117, 181, false, [], .if_icmp .ne 12, 3, [123], []),
  (118, 184, false, [], .aload_n 0, 1, [], []),
  (119, 185, false, [], .iload_n 1, 1, [], []),
  (120, 186, false, [], .iconst 4, 1, [], []),
  (121, 187, false, [], .invokevirtual 272, 3, [153, 2, 0, 0, 9], [1192, 66]),
  (122, 190, false, [], .goto 89, 3, [176], []),
  (123, 193, false, [], .aload_n 0, 1, [], []),
  (124, 194, false, [], .getfield 19, 3, [8, 4], [862]),
  (125, 197, false, [], .iload_n 2, 1, [], []),
  (126, 198, false, [], .invokestatic 258, 3, [141, 1, 1, 0], [1111]),
  (127, 201, false, [], .iaload, 1, [100012], []),
  (128, 202, false, [], .ifCond .ne 12, 3, [134], []),
  (129, 205, false, [], .aload_n 0, 1, [], []),
  (130, 206, false, [], .iload_n 1, 1, [], []),
  (131, 207, false, [], .iconst 5, 1, [], []),
  (132, 208, false, [], .invokevirtual 272, 3, [153, 2, 0, 0, 9], [1192, 66]),
  (133, 211, false, [], .goto 68, 3, [176], []),
  (134, 214, false, [], .aload_n 0, 1, [], []),
  (135, 215, false, [], .getfield 80, 3, [8, 34], [892]),
  (136, 218, false, [], .iload_n 1, 1, [], []),
  (137, 219, false, [], .dup2, 1, [], []),
  (138, 220, false, [], .iaload, 1, [100005], []),
  (139, 221, false, [], .iconst 1, 1, [], []),
  (140, 222, false, [], .iadd, 1, [], []),
  (141, 223, false, [], .iastore, 1, [100005], []),
  (142, 224, false, [], .aload_n 0, 1, [], []),
  (143, 225, false, [], .iload_n 1, 1, [], []),
  (144, 226, false, [], .invokevirtual 282, 3, [151, 1, 1, 0, 9], [1152, 57]),
  (145, 229, false, [], .istore 5, 2, [], []),
  (146, 231, false, [], .aload_n 0, 1, [], []),
  (147, 232, false, [], .getfield 89, 3, [8, 37], [895]),
  (148, 235, false, [], .iload 5, 2, [], []),
  (149, 237, false, [], .iload_n 2, 1, [], []),
  (150, 238, false, [], .iastore, 1, [100150], []),
  (151, 239, false, [], .aload_n 0, 1, [], []),
  (152, 240, false, [], .getfield 95, 3, [8, 39], [897]),
  (153, 243, false, [], .iload 5, 2, [], []),
  (154, 245, false, [], .aload_n 0, 1, [], []),
  (155, 246, false, [], .getfield 77, 3, [8, 33], [891]),
  (156, 249, false, [], .iload_n 1, 1, [], []),
  (157, 250, false, [], .iaload, 1, [100005], []),
  (158, 251, false, [], .iastore, 1, [100150], []),
  (159, 252, false, [], .aload_n 0, 1, [], []),
  (160, 253, false, [], .getfield 98, 3, [8, 40], [898]),
  (161, 256, false, [], .iload 5, 2, [], []),
  (162, 258, false, [], .aload_n 0, 1, [], []),
  (163, 259, false, [], .getfield 265, 3, [8, 26], [884]),
  (164, 262, false, [], .iastore, 1, [100150], []),
  (165, 263, false, [], .aload_n 0, 1, [], []),
  (166, 264, false, [], .iload 5, 2, [], []),
  (167, 266, false, [], .invokevirtual 285, 3, [152, 1, 0, 0, 9], [1107, 53]),
  (168, 269, false, [], .aload_n 0, 1, [], []),
  (169, 270, false, [], .getfield 61, 3, [8, 27], [885]),
  (170, 273, false, [], .iconst 1, 1, [], []),
  (171, 274, false, [], .dup2, 1, [], []),
  (172, 275, false, [], .iaload, 1, [100007], []),
  (173, 276, false, [], .iconst 1, 1, [], []),
  (174, 277, false, [], .iadd, 1, [], []),
  (175, 278, false, [], .iastore, 1, [100007], []),
  (176, 279, false, [], .return_, 1, [], [])]
theorem l_M_asksFor : (z_hd m_M_asksFor).2.2.1 = 6 := by decide +kernel
theorem k_M_asksFor : z_okM m_M_asksFor c_M_asksFor = true := by decide +kernel
def c_M_holds : List z_In := [
  (0, 0, false, [], .aload_n 0, 1, [], []),
  (1, 1, false, [], .getfield 113, 3, [8, 45], [903]),
  (2, 4, false, [], .bipush 64, 2, [], []),
  (3, 6, false, [], .iload_n 1, 1, [], []),
  (4, 7, false, [], .imul, 1, [], []),
  (5, 8, false, [], .aload_n 0, 1, [], []),
  (6, 9, false, [], .getfield 110, 3, [8, 44], [902]),
  (7, 12, false, [], .iload_n 1, 1, [], []),
  (8, 13, false, [], .iaload, 1, [100150], []),
  (9, 14, false, [], .iadd, 1, [], []),
  (10, 15, false, [], .iload_n 2, 1, [], []),
  (11, 16, false, [], .iastore, 1, [109600], []),
  (12, 17, false, [], .aload_n 0, 1, [], []),
  (13, 18, false, [], .getfield 110, 3, [8, 44], [902]),
  (14, 21, false, [], .iload_n 1, 1, [], []),
  (15, 22, false, [], .dup2, 1, [], []),
  (16, 23, false, [], .iaload, 1, [100150], []),
  (17, 24, false, [], .iconst 1, 1, [], []),
  (18, 25, false, [], .iadd, 1, [], []),
  (19, 26, false, [], .iastore, 1, [100150], []),
  (20, 27, false, [], .return_, 1, [], [])]
theorem l_M_holds : (z_hd m_M_holds).2.2.1 = 3 := by decide +kernel
theorem k_M_holds : z_okM m_M_holds c_M_holds = true := by decide +kernel
def c_M_taken : List z_In := [
  (0, 0, false, [], .aload_n 0, 1, [], []),
  (1, 1, false, [], .getfield 110, 3, [8, 44], [902]),
  (2, 4, false, [], .iload_n 1, 1, [], []),
  (3, 5, false, [], .dup2, 1, [], []),
  (4, 6, false, [], .iaload, 1, [100150], []),
  (5, 7, false, [], .iconst 1, 1, [], []),
  (6, 8, false, [], .isub, 1, [], []),
  (7, 9, false, [], .iastore, 1, [100150], []),
  (8, 10, false, [], .aload_n 0, 1, [], []),
  (9, 11, false, [], .getfield 113, 3, [8, 45], [903]),
  (10, 14, false, [], .bipush 64, 2, [], []),
  (11, 16, false, [], .iload_n 1, 1, [], []),
  (12, 17, false, [], .imul, 1, [], []),
  (13, 18, false, [], .aload_n 0, 1, [], []),
  (14, 19, false, [], .getfield 110, 3, [8, 44], [902]),
  (15, 22, false, [], .iload_n 1, 1, [], []),
  (16, 23, false, [], .iaload, 1, [100150], []),
  (17, 24, false, [], .iadd, 1, [], []),
  (18, 25, false, [], .iaload, 1, [109600], []),
  (19, 26, false, [], .ireturn, 1, [0], [])]
theorem l_M_taken : (z_hd m_M_taken).2.2.1 = 2 := by decide +kernel
theorem k_M_taken : z_okM m_M_taken c_M_taken = true := by decide +kernel
def c_M_gets : List z_In := [
  (0, 0, false, [], .aload_n 0, 1, [], []),
  (1, 1, false, [], .getfield 80, 3, [8, 34], [892]),
  (2, 4, false, [], .iload_n 1, 1, [], []),
  (3, 5, false, [], .iaload, 1, [100005], []),
  (4, 6, false, [], .ifCond .ne 18, 3, [16], []),
  (5, 9, false, [], .aload_n 0, 1, [], []),
  (6, 10, false, [], .getfield 71, 3, [8, 31], [889]),
  (7, 13, false, [], .iload_n 1, 1, [], []),
  (8, 14, false, [], .iconst 3, 1, [], []),
  (9, 15, false, [], .iastore, 1, [100005], []),
  (10, 16, false, [], .aload_n 0, 1, [], []),
  (11, 17, false, [], .getfield 74, 3, [8, 32], [890]),
  (12, 20, false, [], .iload_n 1, 1, [], []),
  (13, 21, false, [], .iload_n 3, 1, [], []),
  (14, 22, false, [], .iastore, 1, [100005], []),
  (15, 23, false, [], .return_, 1, [], []),
  (16, 24, false, [], .aload_n 0, 1, [], []),
  (17, 25, false, [], .iload_n 1, 1, [], []),
  (18, 26, false, [], .invokevirtual 282, 3, [151, 1, 1, 0, 9], [1152, 57]),
  (19, 29, false, [], .istore 5, 2, [], []),
  (20, 31, false, [], .iconst 0, 1, [], []),
  (21, 32, false, [], .istore 6, 2, [], []),
  (22, 34, false, [], .iconst 0, 1, [], []),
  (23, 35, false, [], .istore 7, 2, [], []),
  (24, 37, true, [true, true, true, true, true, true, true, true], .iload 7, 2, [], []),
  (25, 39, false, [], .aload_n 0, 1, [], []),
  (26, 40, false, [], .getfield 104, 3, [8, 42], [900]),
  (27, 43, false, [], .iload 5, 2, [], []),
  (28, 45, false, [], .iaload, 1, [100150], []),
  (29, 46, false, [], .if_icmp .ge 38, 3, [48], []),
  (30, 49, false, [], .iload 6, 2, [], []),
  (31, 51, false, [], .ifCond .ne 20, 3, [42], []),
  (32, 54, false, [], .aload_n 0, 1, [], []),
  (33, 55, false, [], .getfield 107, 3, [8, 43], [901]),
  (34, 58, false, [], .bipush 32, 2, [], []),
  (35, 60, false, [], .iload 5, 2, [], []),
  (36, 62, false, [], .imul, 1, [], []),
  (37, 63, false, [], .iload 7, 2, [], []),
  (38, 65, false, [], .iadd, 1, [], []),
  (39, 66, false, [], .iaload, 1, [104800], []),
  (40, 67, false, [], .iload_n 2, 1, [], []),
  (41, 68, false, [], .if_icmp .ne 7, 3, [44], []),
  (42, 71, true, [true, true, true, true, true, true, false, true], .iconst 1, 1, [], []),
  (43, 72, false, [], .goto 4, 3, [45], []),
  (44, 75, false, [], .iconst 0, 1, [], []),
  (45, 76, false, [], .istore 6, 2, [], []),
  (46, 78, false, [], .iinc 7 1, 3, [], []),
  (47, 81, false, [], .goto (-44), 3, [24], []),
  (48, 84, false, [], .iload 6, 2, [], []),
  (49, 86, false, [], .ifCond .ne 33, 3, [70], []),
  (50, 89, false, [], .aload_n 0, 1, [], []),
  (51, 90, false, [], .getfield 107, 3, [8, 43], [901]),
  (52, 93, false, [], .bipush 32, 2, [], []),
  (53, 95, false, [], .iload 5, 2, [], []),
  (54, 97, false, [], .imul, 1, [], []),
  (55, 98, false, [], .aload_n 0, 1, [], []),
  (56, 99, false, [], .getfield 104, 3, [8, 42], [900]),
  (57, 102, false, [], .iload 5, 2, [], []),
  (58, 104, false, [], .iaload, 1, [100150], []),
  (59, 105, false, [], .iadd, 1, [], []),
  (60, 106, false, [], .iload_n 2, 1, [], []),
  (61, 107, false, [], .iastore, 1, [104800], []),
  (62, 108, false, [], .aload_n 0, 1, [], []),
  (63, 109, false, [], .getfield 104, 3, [8, 42], [900]),
  (64, 112, false, [], .iload 5, 2, [], []),
  (65, 114, false, [], .dup2, 1, [], []),
  (66, 115, false, [], .iaload, 1, [100150], []),
  (67, 116, false, [], .iconst 1, 1, [], []),
  (68, 117, false, [], .iadd, 1, [], []),
  (69, 118, false, [], .iastore, 1, [100150], []),
  (70, 119, true, [true, true, false, true, true, true, false, false], .aload_n 0, 1, [], []),
  (71, 120, false, [], .getfield 101, 3, [8, 41], [899]),
  (72, 123, false, [], .iload 5, 2, [], []),
  (73, 125, false, [], .dup2, 1, [], []),
  (74, 126, false, [], .iaload, 1, [100150], []),
  (75, 127, false, [], .iload 4, 2, [], []),
  (76, 129, false, [], .ior, 1, [], []),
  (77, 130, false, [], .iastore, 1, [100150], []),
  (78, 131, false, [], .aload_n 0, 1, [], []),
  (79, 132, false, [], .iload 5, 2, [], []),
  (80, 134, false, [], .iload_n 3, 1, [], []),
  (81, 135, false, [], .invokevirtual 288, 3, [158, 2, 0, 0, 9], [1156, 58]),
  (82, 138, false, [], .aload_n 0, 1, [], []),
  (83, 139, false, [], .iload_n 1, 1, [], []),
  (84, 140, false, [], .invokevirtual 291, 3, [161, 1, 0, 0, 9], [1160, 59]),
  (85, 143, false, [], .return_, 1, [], [])]
theorem l_M_gets : (z_hd m_M_gets).2.2.1 = 8 := by decide +kernel
theorem k_M_gets : z_okM m_M_gets c_M_gets = true := by decide +kernel
def c_M_goesOn : List z_In := [
  (0, 0, false, [], .aload_n 0, 1, [], []),
  (1, 1, false, [], .iload_n 1, 1, [], []),
  (2, 2, false, [], .invokevirtual 282, 3, [151, 1, 1, 0, 9], [1152, 57]),
  (3, 5, false, [], .istore_n 2, 1, [], []),
  (4, 6, false, [], .sipush 400, 3, [], []),
  (5, 9, false, [], .aload_n 0, 1, [], []),
  (6, 10, false, [], .getfield 89, 3, [8, 37], [895]),
  (7, 13, false, [], .iload_n 2, 1, [], []),
  (8, 14, false, [], .iaload, 1, [100150], []),
  (9, 15, false, [], .invokestatic 258, 3, [141, 1, 1, 0], [1111]),
  (10, 18, false, [], .imul, 1, [], []),
  (11, 19, false, [], .istore_n 3, 1, [], []),
  (12, 20, true, [true, true, true, true, false, false, false], .aload_n 0, 1, [], []),
  (13, 21, false, [], .getfield 92, 3, [8, 38], [896]),
  (14, 24, false, [], .iload_n 2, 1, [], []),
  (15, 25, false, [], .iaload, 1, [100150], []),
  (16, 26, false, [], .aload_n 0, 1, [], []),
  (17, 27, false, [], .getfield 19, 3, [8, 4], [862]),
  (18, 30, false, [], .aload_n 0, 1, [], []),
  (19, 31, false, [], .getfield 89, 3, [8, 37], [895]),
  (20, 34, false, [], .iload_n 2, 1, [], []),
  (21, 35, false, [], .iaload, 1, [100150], []),
  (22, 36, false, [], .invokestatic 258, 3, [141, 1, 1, 0], [1111]),
  (23, 39, false, [], .iaload, 1, [100012], []),
  (24, 40, false, [], .if_icmp .ge 45, 3, [52], []),
  (25, 43, false, [], .aload_n 0, 1, [], []),
  (26, 44, false, [], .getfield 16, 3, [8, 3], [861]),
  (27, 47, false, [], .iload_n 3, 1, [], []),
  (28, 48, false, [], .aload_n 0, 1, [], []),
  (29, 49, false, [], .getfield 92, 3, [8, 38], [896]),
  (30, 52, false, [], .iload_n 2, 1, [], []),
  (31, 53, false, [], .iaload, 1, [100150], []),
  (32, 54, false, [], .iadd, 1, [], []),
  (33, 55, false, [], .iaload, 1, [104800], []),
  (34, 56, false, [], .bipush 13, 2, [], []),
  (35, 58, false, [], .if_icmp .ne 27, 3, [52], []),
  (36, 61, false, [], .aload_n 0, 1, [], []),
  (37, 62, false, [], .getfield 92, 3, [8, 38], [896]),
  (38, 65, false, [], .iload_n 2, 1, [], []),
  (39, 66, false, [], .aload_n 0, 1, [], []),
  (40, 67, false, [], .getfield 16, 3, [8, 3], [861]),
  (41, 70, false, [], .iload_n 3, 1, [], []),
  (42, 71, false, [], .aload_n 0, 1, [], []),
  (43, 72, false, [], .getfield 92, 3, [8, 38], [896]),
  (44, 75, false, [], .iload_n 2, 1, [], []),
  (45, 76, false, [], .iaload, 1, [100150], []),
  (46, 77, false, [], .iadd, 1, [], []),
  (47, 78, false, [], .iconst 1, 1, [], []),
  (48, 79, false, [], .iadd, 1, [], []),
  (49, 80, false, [], .iaload, 1, [104800], []),
  (50, 81, false, [], .iastore, 1, [100150], []),
  (51, 82, false, [], .goto (-62), 3, [12], []),
  (52, 85, true, [true, true, true, false, false, false, false], .aload_n 0, 1, [], []),
  (53, 86, false, [], .getfield 92, 3, [8, 38], [896]),
  (54, 89, false, [], .iload_n 2, 1, [], []),
  (55, 90, false, [], .iaload, 1, [100150], []),
  (56, 91, false, [], .aload_n 0, 1, [], []),
  (57, 92, false, [], .getfield 19, 3, [8, 4], [862]),
  (58, 95, false, [], .aload_n 0, 1, [], []),
  (59, 96, false, [], .getfield 89, 3, [8, 37], [895]),
  (60, 99, false, [], .iload_n 2, 1, [], []),
  (61, 100, false, [], .iaload, 1, [100150], []),
  (62, 101, false, [], .invokestatic 258, 3, [141, 1, 1, 0], [1111]),
  (63, 104, false, [], .iaload, 1, [100012], []),
  (64, 105, false, [], .if_icmp .ge 4, 3, [66], []),
  (65, 108, false, [], .return_, 1, [], []),
  (66, 109, false, [], .aload_n 0, 1, [], []),
  (67, 110, false, [], .getfield 89, 3, [8, 37], [895]),
  (68, 113, false, [], .iload_n 2, 1, [], []),
  (69, 114, false, [], .iaload, 1, [100150], []),
  (70, 115, false, [], .istore 4, 2, [], []),
  (71, 117, false, [], .aload_n 0, 1, [], []),
  (72, 118, false, [], .iload_n 2, 1, [], []),
  (73, 119, false, [], .invokevirtual 294, 3, [159, 1, 1, 0, 9], [1164, 60]),
  (74, 122, false, [], .istore 5, 2, [], []),
  (75, 124, false, [], .aload_n 0, 1, [], []),
  (76, 125, false, [], .getfield 101, 3, [8, 41], [899]),
  (77, 128, false, [], .iload_n 2, 1, [], []),
  (78, 129, false, [], .iaload, 1, [100150], []),
  (79, 130, false, [], .istore 6, 2, [], []),
  (80, 132, false, [], .aload_n 0, 1, [], []),
  (81, 133, false, [], .iload_n 1, 1, [], []),
  (82, 134, false, [], .iload_n 2, 1, [], []),
  (83, 135, false, [], .iload 5, 2, [], []),
  (84, 137, false, [], .invokevirtual 297, 3, [162, 3, 0, 0, 9], [1168, 61]),
  (85, 140, false, [], .aload_n 0, 1, [], []),
  (86, 141, false, [], .getfield 80, 3, [8, 34], [892]),
  (87, 144, false, [], .iload_n 1, 1, [], []),
  (88, 145, false, [], .dup2, 1, [], []),
  (89, 146, false, [], .iaload, 1, [100005], []),
  (90, 147, false, [], .iconst 1, 1, [], []),
  (91, 148, false, [], .isub, 1, [], []),
  (92, 149, false, [], .iastore, 1, [100005], []),
  (93, 150, false, [], .aload_n 0, 1, [], []),
  (94, 151, false, [], .iload_n 1, 1, [], []),
  (95, 152, false, [], .iload 4, 2, [], []),
  (96, 154, false, [], .iload 5, 2, [], []),
  (97, 156, false, [], .iload 6, 2, [], []),
  (98, 158, false, [], .invokevirtual 268, 3, [160, 4, 0, 0, 9], [1148, 56]),
  (99, 161, false, [], .return_, 1, [], [])]
theorem l_M_goesOn : (z_hd m_M_goesOn).2.2.1 = 7 := by decide +kernel
theorem k_M_goesOn : z_okM m_M_goesOn c_M_goesOn = true := by decide +kernel
def c_M_keeps : List z_In := [
  (0, 0, false, [], .aload_n 0, 1, [], []),
  (1, 1, false, [], .getfield 89, 3, [8, 37], [895]),
  (2, 4, false, [], .iload_n 2, 1, [], []),
  (3, 5, false, [], .iaload, 1, [100150], []),
  (4, 6, false, [], .istore 4, 2, [], []),
  (5, 8, false, [], .aload_n 0, 1, [], []),
  (6, 9, false, [], .getfield 25, 3, [8, 11], [869]),
  (7, 12, false, [], .iload 4, 2, [], []),
  (8, 14, false, [], .baload, 1, [201212], []),
  (9, 15, false, [], .ifCond .eq 4, 3, [11], []),
  (10, 18, false, [], .return_, 1, [], []),
  (11, 19, false, [], .aload_n 0, 1, [], []),
  (12, 20, false, [], .getfield 25, 3, [8, 11], [869]),
  (13, 23, false, [], .iload 4, 2, [], []),
  (14, 25, false, [], .iconst 1, 1, [], []),
  (15, 26, false, [], .bastore, 1, [201212], []),
  (16, 27, false, [], .aload_n 0, 1, [], []),
  (17, 28, false, [], .getfield 29, 3, [8, 12], [870]),
  (18, 31, false, [], .iload 4, 2, [], []),
  (19, 33, false, [], .iload_n 3, 1, [], []),
  (20, 34, false, [], .iastore, 1, [101212], []),
  (21, 35, false, [], .aload_n 0, 1, [], []),
  (22, 36, false, [], .getfield 32, 3, [8, 13], [871]),
  (23, 39, false, [], .iload 4, 2, [], []),
  (24, 41, false, [], .aload_n 0, 1, [], []),
  (25, 42, false, [], .getfield 77, 3, [8, 33], [891]),
  (26, 45, false, [], .iload_n 1, 1, [], []),
  (27, 46, false, [], .iaload, 1, [100005], []),
  (28, 47, false, [], .aload_n 0, 1, [], []),
  (29, 48, false, [], .getfield 95, 3, [8, 39], [897]),
  (30, 51, false, [], .iload_n 2, 1, [], []),
  (31, 52, false, [], .iaload, 1, [100150], []),
  (32, 53, false, [], .isub, 1, [], []),
  (33, 54, false, [], .iastore, 1, [101212], []),
  (34, 55, false, [], .aload_n 0, 1, [], []),
  (35, 56, false, [], .getfield 35, 3, [8, 14], [872]),
  (36, 59, false, [], .iload 4, 2, [], []),
  (37, 61, false, [], .iconst 2, 1, [], []),
  (38, 62, false, [], .iload_n 3, 1, [], []),
  (39, 63, false, [], .invokestatic 301, 3, [148, 1, 1, 0], [1172]),
  (40, 66, false, [], .iadd, 1, [], []),
  (41, 67, false, [], .aload_n 0, 1, [], []),
  (42, 68, false, [], .getfield 104, 3, [8, 42], [900]),
  (43, 71, false, [], .iload_n 2, 1, [], []),
  (44, 72, false, [], .iaload, 1, [100150], []),
  (45, 73, false, [], .iadd, 1, [], []),
  (46, 74, false, [], .iastore, 1, [101212], []),
  (47, 75, false, [], .aload_n 0, 1, [], []),
  (48, 76, false, [], .getfield 38, 3, [8, 15], [873]),
  (49, 79, false, [], .iload 4, 2, [], []),
  (50, 81, false, [], .aload_n 0, 1, [], []),
  (51, 82, false, [], .getfield 98, 3, [8, 40], [898]),
  (52, 85, false, [], .iload_n 2, 1, [], []),
  (53, 86, false, [], .iaload, 1, [100150], []),
  (54, 87, false, [], .iastore, 1, [101212], []),
  (55, 88, false, [], .aload_n 0, 1, [], []),
  (56, 89, false, [], .getfield 41, 3, [8, 16], [874]),
  (57, 92, false, [], .iload 4, 2, [], []),
  (58, 94, false, [], .iconst 1, 1, [], []),
  (59, 95, false, [], .iastore, 1, [101212], []),
  (60, 96, false, [], .aload_n 0, 1, [], []),
  (61, 97, false, [], .getfield 44, 3, [8, 17], [875]),
  (62, 100, false, [], .iload 4, 2, [], []),
  (63, 102, false, [], .aload_n 0, 1, [], []),
  (64, 103, false, [], .getfield 101, 3, [8, 41], [899]),
  (65, 106, false, [], .iload_n 2, 1, [], []),
  (66, 107, false, [], .iaload, 1, [100150], []),
  (67, 108, false, [], .iastore, 1, [101212], []),
  (68, 109, false, [], .aload_n 0, 1, [], []),
  (69, 110, false, [], .getfield 50, 3, [8, 19], [877]),
  (70, 113, false, [], .iload 4, 2, [], []),
  (71, 115, false, [], .aload_n 0, 1, [], []),
  (72, 116, false, [], .getfield 104, 3, [8, 42], [900]),
  (73, 119, false, [], .iload_n 2, 1, [], []),
  (74, 120, false, [], .iaload, 1, [100150], []),
  (75, 121, false, [], .iastore, 1, [101212], []),
  (76, 122, false, [], .iconst 0, 1, [], []),
  (77, 123, false, [], .istore 5, 2, [], []),
  (78, 125, true, [true, false, true, false, true, true], .iload 5, 2, [], []),
  (79, 127, false, [], .aload_n 0, 1, [], []),
  (80, 128, false, [], .getfield 104, 3, [8, 42], [900]),
  (81, 131, false, [], .iload_n 2, 1, [], []),
  (82, 132, false, [], .iaload, 1, [100150], []),
  (83, 133, false, [], .if_icmp .ge 34, 3, [102], []),
  (84, 136, false, [], .aload_n 0, 1, [], []),
  (85, 137, false, [], .getfield 54, 3, [8, 20], [878]),
  (86, 140, false, [], .bipush 32, 2, [], []),
  (87, 142, false, [], .iload 4, 2, [], []),
  (88, 144, false, [], .imul, 1, [], []),
  (89, 145, false, [], .iload 5, 2, [], []),
  (90, 147, false, [], .iadd, 1, [], []),
  (91, 148, false, [], .aload_n 0, 1, [], []),
  (92, 149, false, [], .getfield 107, 3, [8, 43], [901]),
  (93, 152, false, [], .bipush 32, 2, [], []),
  (94, 154, false, [], .iload_n 2, 1, [], []),
  (95, 155, false, [], .imul, 1, [], []),
  (96, 156, false, [], .iload 5, 2, [], []),
  (97, 158, false, [], .iadd, 1, [], []),
  (98, 159, false, [], .iaload, 1, [104800], []),
  (99, 160, false, [], .iastore, 1, [138784], []),
  (100, 161, false, [], .iinc 5 1, 3, [], []),
  (101, 164, false, [], .goto (-39), 3, [78], []),
  (102, 167, false, [], .aload_n 0, 1, [], []),
  (103, 168, false, [], .dup, 1, [], []),
  (104, 169, false, [], .getfield 304, 3, [8, 21], [879]),
  (105, 172, false, [], .iconst 1, 1, [], []),
  (106, 173, false, [], .iadd, 1, [], []),
  (107, 174, false, [], .putfield 304, 3, [8, 21], [879]),
  (108, 177, false, [], .aload_n 0, 1, [], []),
  (109, 178, false, [], .getfield 47, 3, [8, 18], [876]),
  (110, 181, false, [], .iload 4, 2, [], []),
  (111, 183, false, [], .aload_n 0, 1, [], []),
  (112, 184, false, [], .getfield 304, 3, [8, 21], [879]),
  (113, 187, false, [], .iastore, 1, [101212], []),
  (114, 188, false, [], .aload_n 0, 1, [], []),
  (115, 189, false, [], .dup, 1, [], []),
  (116, 190, false, [], .getfield 229, 3, [8, 23], [881]),
  (117, 193, false, [], .iconst 1, 1, [], []),
  (118, 194, false, [], .iadd, 1, [], []),
  (119, 195, false, [], .putfield 229, 3, [8, 23], [881]),
  (120, 198, false, [], .aload_n 0, 1, [], []),
  (121, 199, false, [], .dup, 1, [], []),
  (122, 200, false, [], .getfield 226, 3, [8, 22], [880]),
  (123, 203, false, [], .aload_n 0, 1, [], []),
  (124, 204, false, [], .getfield 35, 3, [8, 14], [872]),
  (125, 207, false, [], .iload 4, 2, [], []),
  (126, 209, false, [], .iaload, 1, [101212], []),
  (127, 210, false, [], .iadd, 1, [], []),
  (128, 211, false, [], .putfield 226, 3, [8, 22], [880]),
  (129, 214, false, [], .aload_n 0, 1, [], []),
  (130, 215, false, [], .getfield 61, 3, [8, 27], [885]),
  (131, 218, false, [], .iconst 5, 1, [], []),
  (132, 219, false, [], .dup2, 1, [], []),
  (133, 220, false, [], .iaload, 1, [100007], []),
  (134, 221, false, [], .iconst 1, 1, [], []),
  (135, 222, false, [], .iadd, 1, [], []),
  (136, 223, false, [], .iastore, 1, [100007], []),
  (137, 224, false, [], .aload_n 0, 1, [], []),
  (138, 225, false, [], .invokevirtual 307, 3, [147, 0, 0, 0, 9], [1176, 62]),
  (139, 228, false, [], .return_, 1, [], [])]
theorem l_M_keeps : (z_hd m_M_keeps).2.2.1 = 6 := by decide +kernel
theorem k_M_keeps : z_okM m_M_keeps c_M_keeps = true := by decide +kernel
def c_M_joined : List z_In := [
  (0, 0, false, [], .iload_n 0, 1, [], []),
  (1, 1, false, [], .tableswitch 63 5 9 #[35, 39, 43, 47, 51], 35, [26, 2, 6, 10, 14, 18], []),
  (2, 36, false, [], .lload_n 1, 1, [], []),
  (3, 37, false, [], .lload_n 3, 1, [], []),
  (4, 38, false, [], .ladd, 1, [], []),
  (5, 39, false, [], .lreturn, 1, [], []),
  (6, 40, false, [], .lload_n 1, 1, [], []),
  (7, 41, false, [], .lload_n 3, 1, [], []),
  (8, 42, false, [], .lsub, 1, [], []),
  (9, 43, false, [], .lreturn, 1, [], []),
  (10, 44, false, [], .lload_n 1, 1, [], []),
  (11, 45, false, [], .lload_n 3, 1, [], []),
  (12, 46, false, [], .lmul, 1, [], []),
  (13, 47, false, [], .lreturn, 1, [], []),
  (14, 48, false, [], .lload_n 1, 1, [], []),
  (15, 49, false, [], .lload_n 3, 1, [], []),
  (16, 50, false, [], .ldiv, 1, [], []),
  (17, 51, false, [], .lreturn, 1, [], []),
  (18, 52, false, [], .lload_n 1, 1, [], []),
  (19, 53, false, [], .lload_n 3, 1, [], []),
  (20, 54, false, [], .lcmp, 1, [], []),
  (21, 55, false, [], .ifCond .ge 7, 3, [24], []),
  (22, 58, false, [], .lconst 1, 1, [1], []),
  (23, 59, false, [], .goto 4, 3, [25], []),
  (24, 62, false, [], .lconst 0, 1, [0], []),
  (25, 63, false, [], .lreturn, 1, [], []),
  (26, 64, false, [], .lload_n 1, 1, [], []),
  (27, 65, false, [], .lload_n 3, 1, [], []),
  (28, 66, false, [], .lcmp, 1, [], []),
  (29, 67, false, [], .ifCond .ne 7, 3, [32], []),
  (30, 70, false, [], .lconst 1, 1, [1], []),
  (31, 71, false, [], .goto 4, 3, [33], []),
  (32, 74, false, [], .lconst 0, 1, [0], []),
  (33, 75, false, [], .lreturn, 1, [], [])]
theorem l_M_joined : (z_hd m_M_joined).2.2.1 = 5 := by decide +kernel
theorem k_M_joined : z_okM m_M_joined c_M_joined = true := by decide +kernel
def c_M_stepsOnce : List z_In := [
  (0, 0, false, [], .aload_n 0, 1, [], []),
  (1, 1, false, [], .getfield 77, 3, [8, 33], [891]),
  (2, 4, false, [], .iload_n 1, 1, [], []),
  (3, 5, false, [], .iaload, 1, [100005], []),
  (4, 6, false, [], .sipush 2000, 3, [], []),
  (5, 9, false, [], .if_icmp .ne 11, 3, [11], []),
  (6, 12, false, [], .aload_n 0, 1, [], []),
  (7, 13, false, [], .iload_n 1, 1, [], []),
  (8, 14, false, [], .bipush 6, 2, [], []),
  (9, 16, false, [], .invokevirtual 272, 3, [153, 2, 0, 0, 9], [1192, 66]),
  (10, 19, false, [], .return_, 1, [], []),
  (11, 20, false, [], .aload_n 0, 1, [], []),
  (12, 21, false, [], .getfield 77, 3, [8, 33], [891]),
  (13, 24, false, [], .iload_n 1, 1, [], []),
  (14, 25, false, [], .dup2, 1, [], []),
  (15, 26, false, [], .iaload, 1, [100005], []),
  (16, 27, false, [], .iconst 1, 1, [], []),
  (17, 28, false, [], .iadd, 1, [], []),
  (18, 29, false, [], .iastore, 1, [100005], []),
  (19, 30, false, [], .aload_n 0, 1, [], []),
  (20, 31, false, [], .iload_n 1, 1, [], []),
  (21, 32, false, [], .invokevirtual 282, 3, [151, 1, 1, 0, 9], [1152, 57]),
  (22, 35, false, [], .istore_n 2, 1, [], []),
  (23, 36, false, [], .sipush 400, 3, [], []),
  (24, 39, false, [], .aload_n 0, 1, [], []),
  (25, 40, false, [], .getfield 89, 3, [8, 37], [895]),
  (26, 43, false, [], .iload_n 2, 1, [], []),
  (27, 44, false, [], .iaload, 1, [100150], []),
  (28, 45, false, [], .invokestatic 258, 3, [141, 1, 1, 0], [1111]),
  (29, 48, false, [], .imul, 1, [], []),
  (30, 49, false, [], .aload_n 0, 1, [], []),
  (31, 50, false, [], .getfield 92, 3, [8, 38], [896]),
  (32, 53, false, [], .iload_n 2, 1, [], []),
  (33, 54, false, [], .iaload, 1, [100150], []),
  (34, 55, false, [], .iadd, 1, [], []),
  (35, 56, false, [], .istore_n 3, 1, [], []),
  (36, 57, false, [], .aload_n 0, 1, [], []),
  (37, 58, false, [], .getfield 16, 3, [8, 3], [861]),
  (38, 61, false, [], .iload_n 3, 1, [], []),
  (39, 62, false, [], .iaload, 1, [104800], []),
  (40, 63, false, [], .istore 4, 2, [], []),
  (41, 65, false, [], .aload_n 0, 1, [], []),
  (42, 66, false, [], .getfield 92, 3, [8, 38], [896]),
  (43, 69, false, [], .iload_n 2, 1, [], []),
  (44, 70, false, [], .dup2, 1, [], []),
  (45, 71, false, [], .iaload, 1, [100150], []),
  (46, 72, false, [], .iconst 2, 1, [], []),
  (47, 73, false, [], .iadd, 1, [], []),
  (48, 74, false, [], .iastore, 1, [100150], []),
  (49, 75, false, [], .iload 4, 2, [], []),
  (50, 77, false, [], .iconst 4, 1, [], []),
  (51, 78, false, [], .if_icmp .ne 54, 3, [80], []),
  (52, 81, false, [], .aload_n 0, 1, [], []),
  (53, 82, false, [], .iload_n 2, 1, [], []),
  (54, 83, false, [], .invokevirtual 294, 3, [159, 1, 1, 0, 9], [1164, 60]),
  (55, 86, false, [], .istore 5, 2, [], []),
  (56, 88, false, [], .iload 5, 2, [], []),
  (57, 90, false, [], .i2l, 1, [], []),
  (58, 91, false, [], .ldc2_w 310, 3, [50, 1], [1135]),
  (59, 94, false, [], .ldc2_w 312, 3, [50, 0], [1136]),
  (60, 97, false, [], .invokestatic 136, 3, [120, 3, 1, 0], [1024]),
  (61, 100, false, [], .ifCond .eq 25, 3, [75], []),
  (62, 103, false, [], .aload_n 0, 1, [], []),
  (63, 104, false, [], .iload_n 1, 1, [], []),
  (64, 105, false, [], .aload_n 0, 1, [], []),
  (65, 106, false, [], .getfield 16, 3, [8, 3], [861]),
  (66, 109, false, [], .iload_n 3, 1, [], []),
  (67, 110, false, [], .iconst 1, 1, [], []),
  (68, 111, false, [], .iadd, 1, [], []),
  (69, 112, false, [], .iaload, 1, [104800], []),
  (70, 113, false, [], .iload 5, 2, [], []),
  (71, 115, false, [], .invokestatic 314, 3, [140, 2, 1, 0], [1141]),
  (72, 118, false, [], .iconst 0, 1, [], []),
  (73, 119, false, [], .invokevirtual 317, 3, [157, 3, 0, 0, 9], [1144, 55]),
  (74, 122, false, [], .goto 9, 3, [79], []),
  (75, 125, false, [], .aload_n 0, 1, [], []),
  (76, 126, false, [], .iload_n 1, 1, [], []),
  (77, 127, false, [], .iconst 3, 1, [], []),
  (78, 128, false, [], .invokevirtual 272, 3, [153, 2, 0, 0, 9], [1192, 66]),
  (79, 131, false, [], .return_, 1, [], []),
  (80, 132, false, [], .iload 4, 2, [], []),
  (81, 134, false, [], .bipush 12, 2, [], []),
  (82, 136, false, [], .if_icmp .ne 35, 3, [103], []),
  (83, 139, false, [], .aload_n 0, 1, [], []),
  (84, 140, false, [], .getfield 92, 3, [8, 38], [896]),
  (85, 143, false, [], .iload_n 2, 1, [], []),
  (86, 144, false, [], .aload_n 0, 1, [], []),
  (87, 145, false, [], .iload_n 2, 1, [], []),
  (88, 146, false, [], .invokevirtual 294, 3, [159, 1, 1, 0, 9], [1164, 60]),
  (89, 149, false, [], .ifCond .eq 12, 3, [95], []),
  (90, 152, false, [], .aload_n 0, 1, [], []),
  (91, 153, false, [], .getfield 92, 3, [8, 38], [896]),
  (92, 156, false, [], .iload_n 2, 1, [], []),
  (93, 157, false, [], .iaload, 1, [100150], []),
  (94, 158, false, [], .goto 11, 3, [101], []),
  (95, 161, false, [], .aload_n 0, 1, [], []),
  (96, 162, false, [], .getfield 16, 3, [8, 3], [861]),
  (97, 165, false, [], .iload_n 3, 1, [], []),
  (98, 166, false, [], .iconst 1, 1, [], []),
  (99, 167, false, [], .iadd, 1, [], []),
  (100, 168, false, [], .iaload, 1, [104800], []),
  (101, 169, false, [], .iastore, 1, [100150], []),
  (102, 170, false, [], .return_, 1, [], []),
  (103, 171, false, [], .aload_n 0, 1, [], []),
  (104, 172, false, [], .getfield 16, 3, [8, 3], [861]),
  (105, 175, false, [], .iload_n 3, 1, [], []),
  (106, 176, false, [], .iconst 1, 1, [], []),
  (107, 177, false, [], .iadd, 1, [], []),
  (108, 178, false, [], .iaload, 1, [104800], []),
  (109, 179, false, [], .i2l, 1, [], []),
  (110, 180, false, [], .lstore 5, 2, [], []),
  (111, 182, false, [], .iload 4, 2, [], []),
  (112, 184, false, [], .iconst 2, 1, [], []),
  (113, 185, false, [], .if_icmp .ne 18, 3, [122], []),
  (114, 188, false, [], .aload_n 0, 1, [], []),
  (115, 189, false, [], .getfield 89, 3, [8, 37], [895]),
  (116, 192, false, [], .iload_n 2, 1, [], []),
  (117, 193, false, [], .iaload, 1, [100150], []),
  (118, 194, false, [], .invokestatic 321, 3, [142, 1, 1, 0], [1208]),
  (119, 197, false, [], .i2l, 1, [], []),
  (120, 198, false, [], .lstore 5, 2, [], []),
  (121, 200, false, [], .goto 118, 3, [190], []),
  (122, 203, false, [], .iload 4, 2, [], []),
  (123, 205, false, [], .iconst 3, 1, [], []),
  (124, 206, false, [], .if_icmp .ne 41, 3, [152], []),
  (125, 209, false, [], .aload_n 0, 1, [], []),
  (126, 210, false, [], .getfield 101, 3, [8, 41], [899]),
  (127, 213, false, [], .iload_n 2, 1, [], []),
  (128, 214, false, [], .dup2, 1, [], []),
  (129, 215, false, [], .iaload, 1, [100150], []),
  (130, 216, false, [], .iconst 1, 1, [], []),
  (131, 217, false, [], .aload_n 0, 1, [], []),
  (132, 218, false, [], .getfield 16, 3, [8, 3], [861]),
  (133, 221, false, [], .iload_n 3, 1, [], []),
  (134, 222, false, [], .iconst 1, 1, [], []),
  (135, 223, false, [], .iadd, 1, [], []),
  (136, 224, false, [], .iaload, 1, [104800], []),
  (137, 225, false, [], .ishl, 1, [], []),
  (138, 226, false, [], .ior, 1, [], []),
  (139, 227, false, [], .iastore, 1, [100150], []),
  (140, 228, false, [], .aload_n 0, 1, [], []),
  (141, 229, false, [], .getfield 9, 3, [8, 0], [858]),
  (142, 232, false, [], .aload_n 0, 1, [], []),
  (143, 233, false, [], .getfield 16, 3, [8, 3], [861]),
  (144, 236, false, [], .iload_n 3, 1, [], []),
  (145, 237, false, [], .iconst 1, 1, [], []),
  (146, 238, false, [], .iadd, 1, [], []),
  (147, 239, false, [], .iaload, 1, [104800], []),
  (148, 240, false, [], .iaload, 1, [100012], []),
  (149, 241, false, [], .i2l, 1, [], []),
  (150, 242, false, [], .lstore 5, 2, [], []),
  (151, 244, false, [], .goto 74, 3, [190], []),
  (152, 247, false, [], .iload 4, 2, [], []),
  (153, 249, false, [], .bipush 11, 2, [], []),
  (154, 251, false, [], .if_icmp .ne 15, 3, [162], []),
  (155, 254, false, [], .aload_n 0, 1, [], []),
  (156, 255, false, [], .iload_n 2, 1, [], []),
  (157, 256, false, [], .invokevirtual 294, 3, [159, 1, 1, 0, 9], [1164, 60]),
  (158, 259, false, [], .ineg, 1, [], []),
  (159, 260, false, [], .i2l, 1, [], []),
  (160, 261, false, [], .lstore 5, 2, [], []),
  (161, 263, false, [], .goto 55, 3, [190], []),
  (162, 266, false, [], .iload 4, 2, [], []),
  (163, 268, false, [], .iconst 1, 1, [], []),
  (164, 269, false, [], .if_icmp .eq 49, 3, [190], []),
  (165, 272, false, [], .aload_n 0, 1, [], []),
  (166, 273, false, [], .iload_n 2, 1, [], []),
  (167, 274, false, [], .invokevirtual 294, 3, [159, 1, 1, 0, 9], [1164, 60]),
  (168, 277, false, [], .istore 7, 2, [], []),
  (169, 279, false, [], .aload_n 0, 1, [], []),
  (170, 280, false, [], .iload_n 2, 1, [], []),
  (171, 281, false, [], .invokevirtual 294, 3, [159, 1, 1, 0, 9], [1164, 60]),
  (172, 284, false, [], .istore 8, 2, [], []),
  (173, 286, false, [], .iload 4, 2, [], []),
  (174, 288, false, [], .bipush 8, 2, [], []),
  (175, 290, false, [], .if_icmp .ne 15, 3, [183], []),
  (176, 293, false, [], .iload 7, 2, [], []),
  (177, 295, false, [], .ifCond .ne 10, 3, [183], []),
  (178, 298, false, [], .aload_n 0, 1, [], []),
  (179, 299, false, [], .iload_n 1, 1, [], []),
  (180, 300, false, [], .iconst 2, 1, [], []),
  (181, 301, false, [], .invokevirtual 272, 3, [153, 2, 0, 0, 9], [1192, 66]),
  (182, 304, false, [], .return_, 1, [], []),
  (183, 305, true, [true, true, true, false, true, false, false, true, true], .iload 4, 2, [], []),
  (184, 307, false, [], .iload 8, 2, [], []),
  (185, 309, false, [], .i2l, 1, [], []),
  (186, 310, false, [], .iload 7, 2, [], []),
  (187, 312, false, [], .i2l, 1, [], []),
  (188, 313, false, [], .invokestatic 324, 3, [163, 3, 2, 0], [1211]),
  (189, 316, false, [], .lstore 5, 2, [], []),
  (190, 318, true, [true, true, true, false, false, true, false, false, false], .lload 5, 2, [], []),
  (191, 320, false, [], .ldc2_w 328, 3, [9999, 1], [1214]),
  (192, 323, false, [], .ldc2_w 330, 3, [9999, 0], [1215]),
  (193, 326, false, [], .invokestatic 136, 3, [120, 3, 1, 0], [1024]),
  (194, 329, false, [], .ifCond .ne 10, 3, [200], []),
  (195, 332, false, [], .aload_n 0, 1, [], []),
  (196, 333, false, [], .iload_n 1, 1, [], []),
  (197, 334, false, [], .iconst 3, 1, [], []),
  (198, 335, false, [], .invokevirtual 272, 3, [153, 2, 0, 0, 9], [1192, 66]),
  (199, 338, false, [], .return_, 1, [], []),
  (200, 339, false, [], .aload_n 0, 1, [], []),
  (201, 340, false, [], .iload_n 2, 1, [], []),
  (202, 341, false, [], .lload 5, 2, [], []),
  (203, 343, false, [], .l2i, 1, [], []),
  (204, 344, false, [], .invokevirtual 288, 3, [158, 2, 0, 0, 9], [1156, 58]),
  (205, 347, false, [], .aload_n 0, 1, [], []),
  (206, 348, false, [], .iload_n 1, 1, [], []),
  (207, 349, false, [], .invokevirtual 291, 3, [161, 1, 0, 0, 9], [1160, 59]),
  (208, 352, false, [], .return_, 1, [], [])]
theorem l_M_stepsOnce : (z_hd m_M_stepsOnce).2.2.1 = 9 := by decide +kernel
theorem k_M_stepsOnce : z_okM m_M_stepsOnce c_M_stepsOnce = true := by decide +kernel
def c_M_beginsAnew : List z_In := [
  (0, 0, false, [], .iconst 0, 1, [], []),
  (1, 1, false, [], .istore_n 3, 1, [], []),
  (2, 2, true, [true, true, true, true, false], .iload_n 3, 1, [], []),
  (3, 3, false, [], .aload_n 0, 1, [], []),
  (4, 4, false, [], .getfield 80, 3, [8, 34], [892]),
  (5, 7, false, [], .iload_n 1, 1, [], []),
  (6, 8, false, [], .iaload, 1, [100005], []),
  (7, 9, false, [], .if_icmp .ge 78, 3, [58], []),
  (8, 12, false, [], .bipush 30, 2, [], []),
  (9, 14, false, [], .iload_n 1, 1, [], []),
  (10, 15, false, [], .imul, 1, [], []),
  (11, 16, false, [], .iload_n 3, 1, [], []),
  (12, 17, false, [], .iadd, 1, [], []),
  (13, 18, false, [], .istore 4, 2, [], []),
  (14, 20, false, [], .aload_n 0, 1, [], []),
  (15, 21, false, [], .getfield 101, 3, [8, 41], [899]),
  (16, 24, false, [], .iload 4, 2, [], []),
  (17, 26, false, [], .iaload, 1, [100150], []),
  (18, 27, false, [], .iload_n 2, 1, [], []),
  (19, 28, false, [], .ishr, 1, [], []),
  (20, 29, false, [], .iconst 1, 1, [], []),
  (21, 30, false, [], .iand, 1, [], []),
  (22, 31, false, [], .iconst 1, 1, [], []),
  (23, 32, false, [], .if_icmp .ne 49, 3, [56], []),
  (24, 35, false, [], .aload_n 0, 1, [], []),
  (25, 36, false, [], .getfield 80, 3, [8, 34], [892]),
  (26, 39, false, [], .iload_n 1, 1, [], []),
  (27, 40, false, [], .iload_n 3, 1, [], []),
  (28, 41, false, [], .iconst 1, 1, [], []),
  (29, 42, false, [], .iadd, 1, [], []),
  (30, 43, false, [], .iastore, 1, [100005], []),
  (31, 44, false, [], .aload_n 0, 1, [], []),
  (32, 45, false, [], .iload 4, 2, [], []),
  (33, 47, false, [], .invokevirtual 285, 3, [152, 1, 0, 0, 9], [1107, 53]),
  (34, 50, false, [], .aload_n 0, 1, [], []),
  (35, 51, false, [], .getfield 95, 3, [8, 39], [897]),
  (36, 54, false, [], .iload 4, 2, [], []),
  (37, 56, false, [], .aload_n 0, 1, [], []),
  (38, 57, false, [], .getfield 77, 3, [8, 33], [891]),
  (39, 60, false, [], .iload_n 1, 1, [], []),
  (40, 61, false, [], .iaload, 1, [100005], []),
  (41, 62, false, [], .iastore, 1, [100150], []),
  (42, 63, false, [], .aload_n 0, 1, [], []),
  (43, 64, false, [], .getfield 71, 3, [8, 31], [889]),
  (44, 67, false, [], .iload_n 1, 1, [], []),
  (45, 68, false, [], .iconst 1, 1, [], []),
  (46, 69, false, [], .iastore, 1, [100005], []),
  (47, 70, false, [], .aload_n 0, 1, [], []),
  (48, 71, false, [], .getfield 61, 3, [8, 27], [885]),
  (49, 74, false, [], .iconst 1, 1, [], []),
  (50, 75, false, [], .dup2, 1, [], []),
  (51, 76, false, [], .iaload, 1, [100007], []),
  (52, 77, false, [], .iconst 1, 1, [], []),
  (53, 78, false, [], .iadd, 1, [], []),
  (54, 79, false, [], .iastore, 1, [100007], []),
  (55, 80, false, [], .return_, 1, [], []),
  (56, 81, false, [], .iinc 3 1, 3, [], []),
  (57, 84, false, [], .goto (-82), 3, [2], []),
  (58, 87, false, [], .return_, 1, [], [])]
theorem l_M_beginsAnew : (z_hd m_M_beginsAnew).2.2.1 = 5 := by decide +kernel
theorem k_M_beginsAnew : z_okM m_M_beginsAnew c_M_beginsAnew = true := by decide +kernel
def c_M_runs : List z_In := [
  (0, 0, false, [], .aload_n 0, 1, [], []),
  (1, 1, false, [], .getfield 77, 3, [8, 33], [891]),
  (2, 4, false, [], .iconst 4, 1, [], []),
  (3, 5, false, [], .iconst 0, 1, [], []),
  (4, 6, false, [], .iastore, 1, [100005], []),
  (5, 7, false, [], .aload_n 0, 1, [], []),
  (6, 8, false, [], .getfield 80, 3, [8, 34], [892]),
  (7, 11, false, [], .iconst 4, 1, [], []),
  (8, 12, false, [], .iconst 0, 1, [], []),
  (9, 13, false, [], .iastore, 1, [100005], []),
  (10, 14, false, [], .aload_n 0, 1, [], []),
  (11, 15, false, [], .iconst 4, 1, [], []),
  (12, 16, false, [], .iload_n 1, 1, [], []),
  (13, 17, false, [], .iload_n 2, 1, [], []),
  (14, 18, false, [], .invokestatic 314, 3, [140, 2, 1, 0], [1141]),
  (15, 21, false, [], .iconst 0, 1, [], []),
  (16, 22, false, [], .invokevirtual 317, 3, [157, 3, 0, 0, 9], [1144, 55]),
  (17, 25, true, [true, false, false], .aload_n 0, 1, [], []),
  (18, 26, false, [], .getfield 71, 3, [8, 31], [889]),
  (19, 29, false, [], .iconst 4, 1, [], []),
  (20, 30, false, [], .iaload, 1, [100005], []),
  (21, 31, false, [], .iconst 1, 1, [], []),
  (22, 32, false, [], .if_icmp .ne 11, 3, [27], []),
  (23, 35, false, [], .aload_n 0, 1, [], []),
  (24, 36, false, [], .iconst 4, 1, [], []),
  (25, 37, false, [], .invokevirtual 332, 3, [164, 1, 0, 0, 9], [1204, 69]),
  (26, 40, false, [], .goto (-15), 3, [17], []),
  (27, 43, false, [], .aload_n 0, 1, [], []),
  (28, 44, false, [], .getfield 80, 3, [8, 34], [892]),
  (29, 47, false, [], .iconst 4, 1, [], []),
  (30, 48, false, [], .iconst 0, 1, [], []),
  (31, 49, false, [], .iastore, 1, [100005], []),
  (32, 50, false, [], .return_, 1, [], [])]
theorem l_M_runs : (z_hd m_M_runs).2.2.1 = 3 := by decide +kernel
theorem k_M_runs : z_okM m_M_runs c_M_runs = true := by decide +kernel
def c_M_mayAsk : List z_In := [
  (0, 0, false, [], .iload_n 0, 1, [], []),
  (1, 1, false, [], .i2l, 1, [], []),
  (2, 2, false, [], .lconst 0, 1, [0], []),
  (3, 3, false, [], .ldc2_w 208, 3, [11, 0], [1031]),
  (4, 6, false, [], .invokestatic 136, 3, [120, 3, 1, 0], [1024]),
  (5, 9, false, [], .ifCond .eq 21, 3, [14], []),
  (6, 12, false, [], .iload_n 1, 1, [], []),
  (7, 13, false, [], .i2l, 1, [], []),
  (8, 14, false, [], .ldc2_w 310, 3, [50, 1], [1135]),
  (9, 17, false, [], .ldc2_w 312, 3, [50, 0], [1136]),
  (10, 20, false, [], .invokestatic 136, 3, [120, 3, 1, 0], [1024]),
  (11, 23, false, [], .ifCond .eq 7, 3, [14], []),
  (12, 26, false, [], .iconst 1, 1, [], []),
  (13, 27, false, [], .goto 4, 3, [15], []),
  (14, 30, false, [], .iconst 0, 1, [], []),
  (15, 31, false, [], .ireturn, 1, [1], [])]
theorem l_M_mayAsk : (z_hd m_M_mayAsk).2.2.1 = 2 := by decide +kernel
theorem k_M_mayAsk : z_okM m_M_mayAsk c_M_mayAsk = true := by decide +kernel
def c_M_ask : List z_In := [
  (0, 0, false, [], .iload_n 1, 1, [], []),
  (1, 1, false, [], .iload_n 2, 1, [], []),
  (2, 2, false, [], .invokestatic 335, 3, [167, 2, 1, 0], [1132]),
  (3, 5, false, [], .ifCond .ne 7, 3, [6], []),
  (4, 8, false, [], .sipush (-20001), 3, [], []),
  (5, 11, false, [], .ireturn, 1, [0], []),
  (6, 12, false, [], .aload_n 0, 1, [], []),
  (7, 13, false, [], .iload_n 1, 1, [], []),
  (8, 14, false, [], .iload_n 2, 1, [], []),
  (9, 15, false, [], .invokevirtual 338, 3, [166, 2, 0, 0, 9], [1137, 54]),
  (10, 18, false, [], .aload_n 0, 1, [], []),
  (11, 19, false, [], .aload_n 0, 1, [], []),
  (12, 20, false, [], .getfield 77, 3, [8, 33], [891]),
  (13, 23, false, [], .iconst 4, 1, [], []),
  (14, 24, false, [], .iaload, 1, [100005], []),
  (15, 25, false, [], .putfield 341, 3, [8, 46], [904]),
  (16, 28, false, [], .aload_n 0, 1, [], []),
  (17, 29, false, [], .getfield 74, 3, [8, 32], [890]),
  (18, 32, false, [], .iconst 4, 1, [], []),
  (19, 33, false, [], .iaload, 1, [100005], []),
  (20, 34, false, [], .ireturn, 1, [0], [])]
theorem l_M_ask : (z_hd m_M_ask).2.2.1 = 3 := by decide +kernel
theorem k_M_ask : z_okM m_M_ask c_M_ask = true := by decide +kernel
def c_M_steps : List z_In := [
  (0, 0, false, [], .aload_n 0, 1, [], []),
  (1, 1, false, [], .getfield 341, 3, [8, 46], [904]),
  (2, 4, false, [], .ireturn, 1, [0], [])]
theorem l_M_steps : (z_hd m_M_steps).2.2.1 = 1 := by decide +kernel
theorem k_M_steps : z_okM m_M_steps c_M_steps = true := by decide +kernel
def c_M_aside : List z_In := [
  (0, 0, false, [], .aload_n 2, 1, [], []),
  (1, 1, false, [], .iconst 0, 1, [], []),
  (2, 2, false, [], .aload_n 0, 1, [], []),
  (3, 3, false, [], .getfield 119, 3, [8, 48], [906]),
  (4, 6, false, [], .sipush 1212, 3, [], []),
  (5, 9, false, [], .iload_n 1, 1, [], []),
  (6, 10, false, [], .imul, 1, [], []),
  (7, 11, false, [], .sipush 1212, 3, [], []),
  (8, 14, false, [], .invokestatic 210, 3, [101212, 109696], [1090, 493, 492, 84]),
  (9, 17, false, [], .return_, 1, [], [])]
theorem l_M_aside : (z_hd m_M_aside).2.2.1 = 3 := by decide +kernel
theorem k_M_aside : z_okM m_M_aside c_M_aside = true := by decide +kernel
def c_M_again : List z_In := [
  (0, 0, false, [], .aload_n 0, 1, [], []),
  (1, 1, false, [], .getfield 119, 3, [8, 48], [906]),
  (2, 4, false, [], .sipush 1212, 3, [], []),
  (3, 7, false, [], .iload_n 1, 1, [], []),
  (4, 8, false, [], .imul, 1, [], []),
  (5, 9, false, [], .aload_n 2, 1, [], []),
  (6, 10, false, [], .iconst 0, 1, [], []),
  (7, 11, false, [], .sipush 1212, 3, [], []),
  (8, 14, false, [], .invokestatic 210, 3, [109696, 101212], [1090, 493, 492, 84]),
  (9, 17, false, [], .return_, 1, [], [])]
theorem l_M_again : (z_hd m_M_again).2.2.1 = 3 := by decide +kernel
theorem k_M_again : z_okM m_M_again c_M_again = true := by decide +kernel
def c_M_fresh : List z_In := [
  (0, 0, false, [], .iload_n 1, 1, [], []),
  (1, 1, false, [], .iload_n 2, 1, [], []),
  (2, 2, false, [], .invokestatic 335, 3, [167, 2, 1, 0], [1132]),
  (3, 5, false, [], .ifCond .ne 7, 3, [6], []),
  (4, 8, false, [], .sipush (-20001), 3, [], []),
  (5, 11, false, [], .ireturn, 1, [0], []),
  (6, 12, false, [], .aload_n 0, 1, [], []),
  (7, 13, false, [], .getfield 229, 3, [8, 23], [881]),
  (8, 16, false, [], .istore_n 3, 1, [], []),
  (9, 17, false, [], .aload_n 0, 1, [], []),
  (10, 18, false, [], .getfield 226, 3, [8, 22], [880]),
  (11, 21, false, [], .istore 4, 2, [], []),
  (12, 23, false, [], .aload_n 0, 1, [], []),
  (13, 24, false, [], .getfield 304, 3, [8, 21], [879]),
  (14, 27, false, [], .istore 5, 2, [], []),
  (15, 29, false, [], .aload_n 0, 1, [], []),
  (16, 30, false, [], .getfield 265, 3, [8, 26], [884]),
  (17, 33, false, [], .istore 6, 2, [], []),
  (18, 35, false, [], .aload_n 0, 1, [], []),
  (19, 36, false, [], .getfield 25, 3, [8, 11], [869]),
  (20, 39, false, [], .iconst 0, 1, [], []),
  (21, 40, false, [], .aload_n 0, 1, [], []),
  (22, 41, false, [], .getfield 116, 3, [8, 47], [905]),
  (23, 44, false, [], .iconst 0, 1, [], []),
  (24, 45, false, [], .sipush 1212, 3, [], []),
  (25, 48, false, [], .invokestatic 210, 3, [201212, 201212], [1090, 493, 492, 84]),
  (26, 51, false, [], .aload_n 0, 1, [], []),
  (27, 52, false, [], .getfield 54, 3, [8, 20], [878]),
  (28, 55, false, [], .iconst 0, 1, [], []),
  (29, 56, false, [], .aload_n 0, 1, [], []),
  (30, 57, false, [], .getfield 122, 3, [8, 49], [907]),
  (31, 60, false, [], .iconst 0, 1, [], []),
  (32, 61, false, [], .ldc 53, 2, [38784], [857]),
  (33, 63, false, [], .invokestatic 210, 3, [138784, 138784], [1090, 493, 492, 84]),
  (34, 66, false, [], .aload_n 0, 1, [], []),
  (35, 67, false, [], .getfield 61, 3, [8, 27], [885]),
  (36, 70, false, [], .iconst 0, 1, [], []),
  (37, 71, false, [], .aload_n 0, 1, [], []),
  (38, 72, false, [], .getfield 125, 3, [8, 50], [908]),
  (39, 75, false, [], .iconst 0, 1, [], []),
  (40, 76, false, [], .bipush 7, 2, [], []),
  (41, 78, false, [], .invokestatic 210, 3, [100007, 100007], [1090, 493, 492, 84]),
  (42, 81, false, [], .aload_n 0, 1, [], []),
  (43, 82, false, [], .iconst 0, 1, [], []),
  (44, 83, false, [], .aload_n 0, 1, [], []),
  (45, 84, false, [], .getfield 29, 3, [8, 12], [870]),
  (46, 87, false, [], .invokevirtual 344, 3, [170, 2, 0, 0, 9], [1224, 70]),
  (47, 90, false, [], .aload_n 0, 1, [], []),
  (48, 91, false, [], .iconst 1, 1, [], []),
  (49, 92, false, [], .aload_n 0, 1, [], []),
  (50, 93, false, [], .getfield 32, 3, [8, 13], [871]),
  (51, 96, false, [], .invokevirtual 344, 3, [170, 2, 0, 0, 9], [1224, 70]),
  (52, 99, false, [], .aload_n 0, 1, [], []),
  (53, 100, false, [], .iconst 2, 1, [], []),
  (54, 101, false, [], .aload_n 0, 1, [], []),
  (55, 102, false, [], .getfield 35, 3, [8, 14], [872]),
  (56, 105, false, [], .invokevirtual 344, 3, [170, 2, 0, 0, 9], [1224, 70]),
  (57, 108, false, [], .aload_n 0, 1, [], []),
  (58, 109, false, [], .iconst 3, 1, [], []),
  (59, 110, false, [], .aload_n 0, 1, [], []),
  (60, 111, false, [], .getfield 38, 3, [8, 15], [873]),
  (61, 114, false, [], .invokevirtual 344, 3, [170, 2, 0, 0, 9], [1224, 70]),
  (62, 117, false, [], .aload_n 0, 1, [], []),
  (63, 118, false, [], .iconst 4, 1, [], []),
  (64, 119, false, [], .aload_n 0, 1, [], []),
  (65, 120, false, [], .getfield 41, 3, [8, 16], [874]),
  (66, 123, false, [], .invokevirtual 344, 3, [170, 2, 0, 0, 9], [1224, 70]),
  (67, 126, false, [], .aload_n 0, 1, [], []),
  (68, 127, false, [], .iconst 5, 1, [], []),
  (69, 128, false, [], .aload_n 0, 1, [], []),
  (70, 129, false, [], .getfield 44, 3, [8, 17], [875]),
  (71, 132, false, [], .invokevirtual 344, 3, [170, 2, 0, 0, 9], [1224, 70]),
  (72, 135, false, [], .aload_n 0, 1, [], []),
  (73, 136, false, [], .bipush 6, 2, [], []),
  (74, 138, false, [], .aload_n 0, 1, [], []),
  (75, 139, false, [], .getfield 47, 3, [8, 18], [876]),
  (76, 142, false, [], .invokevirtual 344, 3, [170, 2, 0, 0, 9], [1224, 70]),
  (77, 145, false, [], .aload_n 0, 1, [], []),
  (78, 146, false, [], .bipush 7, 2, [], []),
  (79, 148, false, [], .aload_n 0, 1, [], []),
  (80, 149, false, [], .getfield 50, 3, [8, 19], [877]),
  (81, 152, false, [], .invokevirtual 344, 3, [170, 2, 0, 0, 9], [1224, 70]),
  (82, 155, false, [], .iconst 0, 1, [], []),
  (83, 156, false, [], .istore 7, 2, [], []),
  (84, 158, true, [true, true, true, true, true, true, true, true], .iload 7, 2, [], []),
  (85, 160, false, [], .sipush 1212, 3, [], []),
  (86, 163, false, [], .if_icmp .ge 17, 3, [94], []),
  (87, 166, false, [], .aload_n 0, 1, [], []),
  (88, 167, false, [], .getfield 25, 3, [8, 11], [869]),
  (89, 170, false, [], .iload 7, 2, [], []),
  (90, 172, false, [], .iconst 0, 1, [], []),
  (91, 173, false, [], .bastore, 1, [201212], []),
  (92, 174, false, [], .iinc 7 1, 3, [], []),
  (93, 177, false, [], .goto (-19), 3, [84], []),
  (94, 180, false, [], .aload_n 0, 1, [], []),
  (95, 181, false, [], .iconst 0, 1, [], []),
  (96, 182, false, [], .putfield 67, 3, [8, 30], [888]),
  (97, 185, false, [], .aload_n 0, 1, [], []),
  (98, 186, false, [], .iload_n 1, 1, [], []),
  (99, 187, false, [], .iload_n 2, 1, [], []),
  (100, 188, false, [], .invokevirtual 338, 3, [166, 2, 0, 0, 9], [1137, 54]),
  (101, 191, false, [], .aload_n 0, 1, [], []),
  (102, 192, false, [], .iconst 1, 1, [], []),
  (103, 193, false, [], .putfield 67, 3, [8, 30], [888]),
  (104, 196, false, [], .aload_n 0, 1, [], []),
  (105, 197, false, [], .getfield 116, 3, [8, 47], [905]),
  (106, 200, false, [], .iconst 0, 1, [], []),
  (107, 201, false, [], .aload_n 0, 1, [], []),
  (108, 202, false, [], .getfield 25, 3, [8, 11], [869]),
  (109, 205, false, [], .iconst 0, 1, [], []),
  (110, 206, false, [], .sipush 1212, 3, [], []),
  (111, 209, false, [], .invokestatic 210, 3, [201212, 201212], [1090, 493, 492, 84]),
  (112, 212, false, [], .aload_n 0, 1, [], []),
  (113, 213, false, [], .getfield 122, 3, [8, 49], [907]),
  (114, 216, false, [], .iconst 0, 1, [], []),
  (115, 217, false, [], .aload_n 0, 1, [], []),
  (116, 218, false, [], .getfield 54, 3, [8, 20], [878]),
  (117, 221, false, [], .iconst 0, 1, [], []),
  (118, 222, false, [], .ldc 53, 2, [38784], [857]),
  (119, 224, false, [], .invokestatic 210, 3, [138784, 138784], [1090, 493, 492, 84]),
  (120, 227, false, [], .aload_n 0, 1, [], []),
  (121, 228, false, [], .getfield 125, 3, [8, 50], [908]),
  (122, 231, false, [], .iconst 0, 1, [], []),
  (123, 232, false, [], .aload_n 0, 1, [], []),
  (124, 233, false, [], .getfield 61, 3, [8, 27], [885]),
  (125, 236, false, [], .iconst 0, 1, [], []),
  (126, 237, false, [], .bipush 7, 2, [], []),
  (127, 239, false, [], .invokestatic 210, 3, [100007, 100007], [1090, 493, 492, 84]),
  (128, 242, false, [], .aload_n 0, 1, [], []),
  (129, 243, false, [], .iconst 0, 1, [], []),
  (130, 244, false, [], .aload_n 0, 1, [], []),
  (131, 245, false, [], .getfield 29, 3, [8, 12], [870]),
  (132, 248, false, [], .invokevirtual 348, 3, [171, 2, 0, 0, 9], [1228, 71]),
  (133, 251, false, [], .aload_n 0, 1, [], []),
  (134, 252, false, [], .iconst 1, 1, [], []),
  (135, 253, false, [], .aload_n 0, 1, [], []),
  (136, 254, false, [], .getfield 32, 3, [8, 13], [871]),
  (137, 257, false, [], .invokevirtual 348, 3, [171, 2, 0, 0, 9], [1228, 71]),
  (138, 260, false, [], .aload_n 0, 1, [], []),
  (139, 261, false, [], .iconst 2, 1, [], []),
  (140, 262, false, [], .aload_n 0, 1, [], []),
  (141, 263, false, [], .getfield 35, 3, [8, 14], [872]),
  (142, 266, false, [], .invokevirtual 348, 3, [171, 2, 0, 0, 9], [1228, 71]),
  (143, 269, false, [], .aload_n 0, 1, [], []),
  (144, 270, false, [], .iconst 3, 1, [], []),
  (145, 271, false, [], .aload_n 0, 1, [], []),
  (146, 272, false, [], .getfield 38, 3, [8, 15], [873]),
  (147, 275, false, [], .invokevirtual 348, 3, [171, 2, 0, 0, 9], [1228, 71]),
  (148, 278, false, [], .aload_n 0, 1, [], []),
  (149, 279, false, [], .iconst 4, 1, [], []),
  (150, 280, false, [], .aload_n 0, 1, [], []),
  (151, 281, false, [], .getfield 41, 3, [8, 16], [874]),
  (152, 284, false, [], .invokevirtual 348, 3, [171, 2, 0, 0, 9], [1228, 71]),
  (153, 287, false, [], .aload_n 0, 1, [], []),
  (154, 288, false, [], .iconst 5, 1, [], []),
  (155, 289, false, [], .aload_n 0, 1, [], []),
  (156, 290, false, [], .getfield 44, 3, [8, 17], [875]),
  (157, 293, false, [], .invokevirtual 348, 3, [171, 2, 0, 0, 9], [1228, 71]),
  (158, 296, false, [], .aload_n 0, 1, [], []),
  (159, 297, false, [], .bipush 6, 2, [], []),
  (160, 299, false, [], .aload_n 0, 1, [], []),
  (161, 300, false, [], .getfield 47, 3, [8, 18], [876]),
  (162, 303, false, [], .invokevirtual 348, 3, [171, 2, 0, 0, 9], [1228, 71]),
  (163, 306, false, [], .aload_n 0, 1, [], []),
  (164, 307, false, [], .bipush 7, 2, [], []),
  (165, 309, false, [], .aload_n 0, 1, [], []),
  (166, 310, false, [], .getfield 50, 3, [8, 19], [877]),
  (167, 313, false, [], .invokevirtual 348, 3, [171, 2, 0, 0, 9], [1228, 71]),
  (168, 316, false, [], .aload_n 0, 1, [], []),
  (169, 317, false, [], .iload_n 3, 1, [], []),
  (170, 318, false, [], .putfield 229, 3, [8, 23], [881]),
  (171, 321, false, [], .aload_n 0, 1, [], []),
  (172, 322, false, [], .iload 4, 2, [], []),
  (173, 324, false, [], .putfield 226, 3, [8, 22], [880]),
  (174, 327, false, [], .aload_n 0, 1, [], []),
  (175, 328, false, [], .iload 5, 2, [], []),
  (176, 330, false, [], .putfield 304, 3, [8, 21], [879]),
  (177, 333, false, [], .aload_n 0, 1, [], []),
  (178, 334, false, [], .iload 6, 2, [], []),
  (179, 336, false, [], .putfield 265, 3, [8, 26], [884]),
  (180, 339, false, [], .aload_n 0, 1, [], []),
  (181, 340, false, [], .getfield 74, 3, [8, 32], [890]),
  (182, 343, false, [], .iconst 4, 1, [], []),
  (183, 344, false, [], .iaload, 1, [100005], []),
  (184, 345, false, [], .ireturn, 1, [0], [])]
theorem l_M_fresh : (z_hd m_M_fresh).2.2.1 = 8 := by decide +kernel
theorem k_M_fresh : z_okM m_M_fresh c_M_fresh = true := by decide +kernel
def c_M_bound : List z_In := [
  (0, 0, false, [], .iload_n 1, 1, [], []),
  (1, 1, false, [], .i2l, 1, [], []),
  (2, 2, false, [], .lconst 1, 1, [1], []),
  (3, 3, false, [], .ldc2_w 351, 3, [300, 0], [1236]),
  (4, 6, false, [], .invokestatic 136, 3, [120, 3, 1, 0], [1024]),
  (5, 9, false, [], .ifCond .ne 7, 3, [8], []),
  (6, 12, false, [], .sipush (-20001), 3, [], []),
  (7, 15, false, [], .ireturn, 1, [0], []),
  (8, 16, false, [], .aload_n 0, 1, [], []),
  (9, 17, false, [], .getfield 57, 3, [8, 24], [882]),
  (10, 20, false, [], .istore_n 2, 1, [], []),
  (11, 21, false, [], .aload_n 0, 1, [], []),
  (12, 22, false, [], .iload_n 1, 1, [], []),
  (13, 23, false, [], .putfield 57, 3, [8, 24], [882]),
  (14, 26, false, [], .aload_n 0, 1, [], []),
  (15, 27, false, [], .invokevirtual 307, 3, [147, 0, 0, 0, 9], [1176, 62]),
  (16, 30, false, [], .iload_n 2, 1, [], []),
  (17, 31, false, [], .ireturn, 1, [0], [])]
theorem l_M_bound : (z_hd m_M_bound).2.2.1 = 3 := by decide +kernel
theorem k_M_bound : z_okM m_M_bound c_M_bound = true := by decide +kernel
def c_M_policy : List z_In := [
  (0, 0, false, [], .iload_n 1, 1, [], []),
  (1, 1, false, [], .i2l, 1, [], []),
  (2, 2, false, [], .lconst 0, 1, [0], []),
  (3, 3, false, [], .ldc2_w 353, 3, [3, 0], [1241]),
  (4, 6, false, [], .invokestatic 136, 3, [120, 3, 1, 0], [1024]),
  (5, 9, false, [], .ifCond .ne 7, 3, [8], []),
  (6, 12, false, [], .sipush (-20001), 3, [], []),
  (7, 15, false, [], .ireturn, 1, [0], []),
  (8, 16, false, [], .aload_n 0, 1, [], []),
  (9, 17, false, [], .getfield 232, 3, [8, 25], [883]),
  (10, 20, false, [], .istore_n 2, 1, [], []),
  (11, 21, false, [], .aload_n 0, 1, [], []),
  (12, 22, false, [], .iload_n 1, 1, [], []),
  (13, 23, false, [], .putfield 232, 3, [8, 25], [883]),
  (14, 26, false, [], .iload_n 2, 1, [], []),
  (15, 27, false, [], .ireturn, 1, [0], [])]
theorem l_M_policy : (z_hd m_M_policy).2.2.1 = 3 := by decide +kernel
theorem k_M_policy : z_okM m_M_policy c_M_policy = true := by decide +kernel
def c_M_kept : List z_In := [
  (0, 0, false, [], .iload_n 1, 1, [], []),
  (1, 1, false, [], .i2l, 1, [], []),
  (2, 2, false, [], .invokestatic 355, 3, [143, 1, 1, 0], [1246]),
  (3, 5, false, [], .ifCond .eq 15, 3, [10], []),
  (4, 8, false, [], .iload_n 2, 1, [], []),
  (5, 9, false, [], .i2l, 1, [], []),
  (6, 10, false, [], .lconst 0, 1, [0], []),
  (7, 11, false, [], .ldc2_w 359, 3, [6, 0], [1250]),
  (8, 14, false, [], .invokestatic 136, 3, [120, 3, 1, 0], [1024]),
  (9, 17, false, [], .ifCond .ne 7, 3, [12], []),
  (10, 20, false, [], .sipush (-20001), 3, [], []),
  (11, 23, false, [], .ireturn, 1, [0], []),
  (12, 24, false, [], .aload_n 0, 1, [], []),
  (13, 25, false, [], .getfield 25, 3, [8, 11], [869]),
  (14, 28, false, [], .iload_n 1, 1, [], []),
  (15, 29, false, [], .baload, 1, [201212], []),
  (16, 30, false, [], .ifCond .ne 7, 3, [19], []),
  (17, 33, false, [], .sipush (-20002), 3, [], []),
  (18, 36, false, [], .ireturn, 1, [0], []),
  (19, 37, false, [], .iload_n 2, 1, [], []),
  (20, 38, false, [], .tableswitch 80 0 5 #[38, 45, 52, 59, 66, 73], 38, [51, 21, 26, 31, 36, 41, 46], []),
  (21, 76, false, [], .aload_n 0, 1, [], []),
  (22, 77, false, [], .getfield 29, 3, [8, 12], [870]),
  (23, 80, false, [], .iload_n 1, 1, [], []),
  (24, 81, false, [], .iaload, 1, [101212], []),
  (25, 82, false, [], .ireturn, 1, [0], []),
  (26, 83, false, [], .aload_n 0, 1, [], []),
  (27, 84, false, [], .getfield 32, 3, [8, 13], [871]),
  (28, 87, false, [], .iload_n 1, 1, [], []),
  (29, 88, false, [], .iaload, 1, [101212], []),
  (30, 89, false, [], .ireturn, 1, [0], []),
  (31, 90, false, [], .aload_n 0, 1, [], []),
  (32, 91, false, [], .getfield 35, 3, [8, 14], [872]),
  (33, 94, false, [], .iload_n 1, 1, [], []),
  (34, 95, false, [], .iaload, 1, [101212], []),
  (35, 96, false, [], .ireturn, 1, [0], []),
  (36, 97, false, [], .aload_n 0, 1, [], []),
  (37, 98, false, [], .getfield 38, 3, [8, 15], [873]),
  (38, 101, false, [], .iload_n 1, 1, [], []),
  (39, 102, false, [], .iaload, 1, [101212], []),
  (40, 103, false, [], .ireturn, 1, [0], []),
  (41, 104, false, [], .aload_n 0, 1, [], []),
  (42, 105, false, [], .getfield 41, 3, [8, 16], [874]),
  (43, 108, false, [], .iload_n 1, 1, [], []),
  (44, 109, false, [], .iaload, 1, [101212], []),
  (45, 110, false, [], .ireturn, 1, [0], []),
  (46, 111, false, [], .aload_n 0, 1, [], []),
  (47, 112, false, [], .getfield 50, 3, [8, 19], [877]),
  (48, 115, false, [], .iload_n 1, 1, [], []),
  (49, 116, false, [], .iaload, 1, [101212], []),
  (50, 117, false, [], .ireturn, 1, [0], []),
  (51, 118, false, [], .aload_n 0, 1, [], []),
  (52, 119, false, [], .getfield 44, 3, [8, 17], [875]),
  (53, 122, false, [], .iload_n 1, 1, [], []),
  (54, 123, false, [], .iaload, 1, [101212], []),
  (55, 124, false, [], .ireturn, 1, [0], [])]
theorem l_M_kept : (z_hd m_M_kept).2.2.1 = 3 := by decide +kernel
theorem k_M_kept : z_okM m_M_kept c_M_kept = true := by decide +kernel
def c_M_asked : List z_In := [
  (0, 0, false, [], .iload_n 1, 1, [], []),
  (1, 1, false, [], .i2l, 1, [], []),
  (2, 2, false, [], .invokestatic 355, 3, [143, 1, 1, 0], [1246]),
  (3, 5, false, [], .ifCond .eq 7, 3, [6], []),
  (4, 8, false, [], .iload_n 2, 1, [], []),
  (5, 9, false, [], .ifCond .ge 7, 3, [8], []),
  (6, 12, false, [], .sipush (-20001), 3, [], []),
  (7, 15, false, [], .ireturn, 1, [0], []),
  (8, 16, false, [], .aload_n 0, 1, [], []),
  (9, 17, false, [], .getfield 25, 3, [8, 11], [869]),
  (10, 20, false, [], .iload_n 1, 1, [], []),
  (11, 21, false, [], .baload, 1, [201212], []),
  (12, 22, false, [], .ifCond .eq 27, 3, [28], []),
  (13, 25, false, [], .iload_n 2, 1, [], []),
  (14, 26, false, [], .aload_n 0, 1, [], []),
  (15, 27, false, [], .getfield 50, 3, [8, 19], [877]),
  (16, 30, false, [], .iload_n 1, 1, [], []),
  (17, 31, false, [], .iaload, 1, [101212], []),
  (18, 32, false, [], .if_icmp .ge 17, 3, [28], []),
  (19, 35, false, [], .aload_n 0, 1, [], []),
  (20, 36, false, [], .getfield 54, 3, [8, 20], [878]),
  (21, 39, false, [], .bipush 32, 2, [], []),
  (22, 41, false, [], .iload_n 1, 1, [], []),
  (23, 42, false, [], .imul, 1, [], []),
  (24, 43, false, [], .iload_n 2, 1, [], []),
  (25, 44, false, [], .iadd, 1, [], []),
  (26, 45, false, [], .iaload, 1, [138784], []),
  (27, 46, false, [], .goto 6, 3, [29], []),
  (28, 49, false, [], .sipush (-20002), 3, [], []),
  (29, 52, false, [], .ireturn, 1, [0], [])]
theorem l_M_asked : (z_hd m_M_asked).2.2.1 = 3 := by decide +kernel
theorem k_M_asked : z_okM m_M_asked c_M_asked = true := by decide +kernel
def c_M_key : List z_In := [
  (0, 0, false, [], .iload_n 1, 1, [], []),
  (1, 1, false, [], .i2l, 1, [], []),
  (2, 2, false, [], .lconst 0, 1, [0], []),
  (3, 3, false, [], .lconst 1, 1, [1], []),
  (4, 4, false, [], .invokestatic 136, 3, [120, 3, 1, 0], [1024]),
  (5, 7, false, [], .ifCond .eq 7, 3, [8], []),
  (6, 10, false, [], .iload_n 2, 1, [], []),
  (7, 11, false, [], .ifCond .ge 7, 3, [10], []),
  (8, 14, false, [], .sipush (-20001), 3, [], []),
  (9, 17, false, [], .ireturn, 1, [0], []),
  (10, 18, false, [], .iload_n 2, 1, [], []),
  (11, 19, false, [], .aload_n 0, 1, [], []),
  (12, 20, false, [], .getfield 229, 3, [8, 23], [881]),
  (13, 23, false, [], .if_icmp .lt 7, 3, [16], []),
  (14, 26, false, [], .sipush (-20002), 3, [], []),
  (15, 29, false, [], .ireturn, 1, [0], []),
  (16, 30, false, [], .iload_n 1, 1, [], []),
  (17, 31, false, [], .ifCond .ne 7, 3, [20], []),
  (18, 34, false, [], .iconst (-1), 1, [], []),
  (19, 35, false, [], .goto 8, 3, [23], []),
  (20, 38, false, [], .aload_n 0, 1, [], []),
  (21, 39, false, [], .iconst 0, 1, [], []),
  (22, 40, false, [], .invokevirtual 252, 3, [149, 1, 1, 0, 9], [1095, 50]),
  (23, 43, false, [], .istore_n 3, 1, [], []),
  (24, 44, false, [], .iload_n 1, 1, [], []),
  (25, 45, false, [], .ifCond .ne 7, 3, [28], []),
  (26, 48, false, [], .iconst (-1), 1, [], []),
  (27, 49, false, [], .goto 4, 3, [29], []),
  (28, 52, false, [], .iconst 0, 1, [], []),
  (29, 53, false, [], .istore 4, 2, [], []),
  (30, 55, true, [true, true, true, true, true], .iload 4, 2, [], []),
  (31, 57, false, [], .iload_n 2, 1, [], []),
  (32, 58, false, [], .if_icmp .ge 51, 3, [61], []),
  (33, 61, false, [], .iload_n 1, 1, [], []),
  (34, 62, false, [], .ifCond .ne 9, 3, [39], []),
  (35, 65, false, [], .iload_n 3, 1, [], []),
  (36, 66, false, [], .iconst 1, 1, [], []),
  (37, 67, false, [], .iadd, 1, [], []),
  (38, 68, false, [], .goto 13, 3, [45], []),
  (39, 71, false, [], .aload_n 0, 1, [], []),
  (40, 72, false, [], .aload_n 0, 1, [], []),
  (41, 73, false, [], .getfield 47, 3, [8, 18], [876]),
  (42, 76, false, [], .iload_n 3, 1, [], []),
  (43, 77, false, [], .iaload, 1, [101212], []),
  (44, 78, false, [], .invokevirtual 252, 3, [149, 1, 1, 0, 9], [1095, 50]),
  (45, 81, false, [], .istore_n 3, 1, [], []),
  (46, 82, false, [], .iload 4, 2, [], []),
  (47, 84, false, [], .iload_n 1, 1, [], []),
  (48, 85, false, [], .iconst 1, 1, [], []),
  (49, 86, false, [], .if_icmp .eq 12, 3, [55], []),
  (50, 89, false, [], .aload_n 0, 1, [], []),
  (51, 90, false, [], .getfield 25, 3, [8, 11], [869]),
  (52, 93, false, [], .iload_n 3, 1, [], []),
  (53, 94, false, [], .baload, 1, [201212], []),
  (54, 95, false, [], .ifCond .eq 7, 3, [57], []),
  (55, 98, false, [], .iconst 1, 1, [], []),
  (56, 99, false, [], .goto 4, 3, [58], []),
  (57, 102, false, [], .iconst 0, 1, [], []),
  (58, 103, false, [], .iadd, 1, [], []),
  (59, 104, false, [], .istore 4, 2, [], []),
  (60, 106, false, [], .goto (-51), 3, [30], []),
  (61, 109, false, [], .iload_n 3, 1, [], []),
  (62, 110, false, [], .ireturn, 1, [0], [])]
theorem l_M_key : (z_hd m_M_key).2.2.1 = 5 := by decide +kernel
theorem k_M_key : z_okM m_M_key c_M_key = true := by decide +kernel
def c_M_wave : List z_In := [
  (0, 0, false, [], .iload_n 1, 1, [], []),
  (1, 1, false, [], .ifCond .ge 7, 3, [4], []),
  (2, 4, false, [], .sipush (-20001), 3, [], []),
  (3, 7, false, [], .ireturn, 1, [0], []),
  (4, 8, false, [], .iload_n 1, 1, [], []),
  (5, 9, false, [], .aload_n 0, 1, [], []),
  (6, 10, false, [], .getfield 249, 3, [8, 29], [887]),
  (7, 13, false, [], .if_icmp .ge 12, 3, [13], []),
  (8, 16, false, [], .aload_n 0, 1, [], []),
  (9, 17, false, [], .getfield 64, 3, [8, 28], [886]),
  (10, 20, false, [], .iload_n 1, 1, [], []),
  (11, 21, false, [], .iaload, 1, [101212], []),
  (12, 22, false, [], .goto 6, 3, [14], []),
  (13, 25, false, [], .sipush (-20002), 3, [], []),
  (14, 28, false, [], .ireturn, 1, [0], [])]
theorem l_M_wave : (z_hd m_M_wave).2.2.1 = 2 := by decide +kernel
theorem k_M_wave : z_okM m_M_wave c_M_wave = true := by decide +kernel
def c_M_would : List z_In := [
  (0, 0, false, [], .iload_n 1, 1, [], []),
  (1, 1, false, [], .i2l, 1, [], []),
  (2, 2, false, [], .lconst 0, 1, [0], []),
  (3, 3, false, [], .ldc2_w 361, 3, [23, 0], [1267]),
  (4, 6, false, [], .invokestatic 136, 3, [120, 3, 1, 0], [1024]),
  (5, 9, false, [], .ifCond .ne 7, 3, [8], []),
  (6, 12, false, [], .sipush (-20001), 3, [], []),
  (7, 15, false, [], .ireturn, 1, [0], []),
  (8, 16, false, [], .iconst 0, 1, [], []),
  (9, 17, false, [], .istore_n 2, 1, [], []),
  (10, 18, false, [], .iconst 0, 1, [], []),
  (11, 19, false, [], .istore_n 3, 1, [], []),
  (12, 20, true, [true, true, true, true], .iload_n 3, 1, [], []),
  (13, 21, false, [], .sipush 1212, 3, [], []),
  (14, 24, false, [], .if_icmp .ge 40, 3, [38], []),
  (15, 27, false, [], .iload_n 2, 1, [], []),
  (16, 28, false, [], .aload_n 0, 1, [], []),
  (17, 29, false, [], .getfield 25, 3, [8, 11], [869]),
  (18, 32, false, [], .iload_n 3, 1, [], []),
  (19, 33, false, [], .baload, 1, [201212], []),
  (20, 34, false, [], .ifCond .eq 21, 3, [33], []),
  (21, 37, false, [], .aload_n 0, 1, [], []),
  (22, 38, false, [], .getfield 44, 3, [8, 17], [875]),
  (23, 41, false, [], .iload_n 3, 1, [], []),
  (24, 42, false, [], .iaload, 1, [101212], []),
  (25, 43, false, [], .iload_n 1, 1, [], []),
  (26, 44, false, [], .ishr, 1, [], []),
  (27, 45, false, [], .iconst 1, 1, [], []),
  (28, 46, false, [], .iand, 1, [], []),
  (29, 47, false, [], .iconst 1, 1, [], []),
  (30, 48, false, [], .if_icmp .ne 7, 3, [33], []),
  (31, 51, false, [], .iconst 1, 1, [], []),
  (32, 52, false, [], .goto 4, 3, [34], []),
  (33, 55, false, [], .iconst 0, 1, [], []),
  (34, 56, false, [], .iadd, 1, [], []),
  (35, 57, false, [], .istore_n 2, 1, [], []),
  (36, 58, false, [], .iinc 3 1, 3, [], []),
  (37, 61, false, [], .goto (-41), 3, [12], []),
  (38, 64, false, [], .iload_n 2, 1, [], []),
  (39, 65, false, [], .ireturn, 1, [0], [])]
theorem l_M_would : (z_hd m_M_would).2.2.1 = 4 := by decide +kernel
theorem k_M_would : z_okM m_M_would c_M_would = true := by decide +kernel
def c_M_heirs : List z_In := [
  (0, 0, false, [], .iload_n 1, 1, [], []),
  (1, 1, false, [], .i2l, 1, [], []),
  (2, 2, false, [], .invokestatic 355, 3, [143, 1, 1, 0], [1246]),
  (3, 5, false, [], .ifCond .ne 7, 3, [6], []),
  (4, 8, false, [], .sipush (-20001), 3, [], []),
  (5, 11, false, [], .ireturn, 1, [0], []),
  (6, 12, false, [], .aload_n 0, 1, [], []),
  (7, 13, false, [], .getfield 25, 3, [8, 11], [869]),
  (8, 16, false, [], .iload_n 1, 1, [], []),
  (9, 17, false, [], .baload, 1, [201212], []),
  (10, 18, false, [], .ifCond .ne 7, 3, [13], []),
  (11, 21, false, [], .sipush (-20002), 3, [], []),
  (12, 24, false, [], .ireturn, 1, [0], []),
  (13, 25, false, [], .iconst 0, 1, [], []),
  (14, 26, false, [], .istore_n 2, 1, [], []),
  (15, 27, true, [true, true, true, false, false], .iload_n 2, 1, [], []),
  (16, 28, false, [], .sipush 1212, 3, [], []),
  (17, 31, false, [], .if_icmp .ge 25, 3, [30], []),
  (18, 34, false, [], .aload_n 0, 1, [], []),
  (19, 35, false, [], .getfield 128, 3, [8, 51], [909]),
  (20, 38, false, [], .iload_n 2, 1, [], []),
  (21, 39, false, [], .iload_n 2, 1, [], []),
  (22, 40, false, [], .iload_n 1, 1, [], []),
  (23, 41, false, [], .if_icmp .ne 7, 3, [26], []),
  (24, 44, false, [], .iconst 1, 1, [], []),
  (25, 45, false, [], .goto 4, 3, [27], []),
  (26, 48, false, [], .iconst 0, 1, [], []),
  (27, 49, false, [], .bastore, 1, [201212], []),
  (28, 50, false, [], .iinc 2 1, 3, [], []),
  (29, 53, false, [], .goto (-26), 3, [15], []),
  (30, 56, false, [], .iconst 0, 1, [], []),
  (31, 57, false, [], .istore_n 2, 1, [], []),
  (32, 58, false, [], .iconst 1, 1, [], []),
  (33, 59, false, [], .istore_n 3, 1, [], []),
  (34, 60, true, [true, false, true, true, false], .iload_n 3, 1, [], []),
  (35, 61, false, [], .ifCond .eq 67, 3, [68], []),
  (36, 64, false, [], .iconst 0, 1, [], []),
  (37, 65, false, [], .istore_n 3, 1, [], []),
  (38, 66, false, [], .iconst 0, 1, [], []),
  (39, 67, false, [], .istore 4, 2, [], []),
  (40, 69, true, [true, false, true, true, true], .iload 4, 2, [], []),
  (41, 71, false, [], .sipush 1212, 3, [], []),
  (42, 74, false, [], .if_icmp .ge 51, 3, [67], []),
  (43, 77, false, [], .aload_n 0, 1, [], []),
  (44, 78, false, [], .getfield 25, 3, [8, 11], [869]),
  (45, 81, false, [], .iload 4, 2, [], []),
  (46, 83, false, [], .baload, 1, [201212], []),
  (47, 84, false, [], .ifCond .eq 35, 3, [65], []),
  (48, 87, false, [], .aload_n 0, 1, [], []),
  (49, 88, false, [], .getfield 128, 3, [8, 51], [909]),
  (50, 91, false, [], .iload 4, 2, [], []),
  (51, 93, false, [], .baload, 1, [201212], []),
  (52, 94, false, [], .ifCond .ne 25, 3, [65], []),
  (53, 97, false, [], .aload_n 0, 1, [], []),
  (54, 98, false, [], .iload 4, 2, [], []),
  (55, 100, false, [], .invokevirtual 363, 3, [181, 1, 1, 0, 9], [1272, 72]),
  (56, 103, false, [], .ifCond .eq 16, 3, [65], []),
  (57, 106, false, [], .aload_n 0, 1, [], []),
  (58, 107, false, [], .getfield 128, 3, [8, 51], [909]),
  (59, 110, false, [], .iload 4, 2, [], []),
  (60, 112, false, [], .iconst 1, 1, [], []),
  (61, 113, false, [], .bastore, 1, [201212], []),
  (62, 114, false, [], .iconst 1, 1, [], []),
  (63, 115, false, [], .istore_n 3, 1, [], []),
  (64, 116, false, [], .iinc 2 1, 3, [], []),
  (65, 119, true, [true, false, true, true, true], .iinc 4 1, 3, [], []),
  (66, 122, false, [], .goto (-53), 3, [40], []),
  (67, 125, false, [], .goto (-65), 3, [34], []),
  (68, 128, false, [], .iload_n 2, 1, [], []),
  (69, 129, false, [], .ireturn, 1, [0], [])]
theorem l_M_heirs : (z_hd m_M_heirs).2.2.1 = 5 := by decide +kernel
theorem k_M_heirs : z_okM m_M_heirs c_M_heirs = true := by decide +kernel
def c_M_asksHeir : List z_In := [
  (0, 0, false, [], .iconst 0, 1, [], []),
  (1, 1, false, [], .istore_n 2, 1, [], []),
  (2, 2, true, [true, true, true], .iload_n 2, 1, [], []),
  (3, 3, false, [], .aload_n 0, 1, [], []),
  (4, 4, false, [], .getfield 50, 3, [8, 19], [877]),
  (5, 7, false, [], .iload_n 1, 1, [], []),
  (6, 8, false, [], .iaload, 1, [101212], []),
  (7, 9, false, [], .if_icmp .ge 30, 3, [24], []),
  (8, 12, false, [], .aload_n 0, 1, [], []),
  (9, 13, false, [], .getfield 128, 3, [8, 51], [909]),
  (10, 16, false, [], .aload_n 0, 1, [], []),
  (11, 17, false, [], .getfield 54, 3, [8, 20], [878]),
  (12, 20, false, [], .bipush 32, 2, [], []),
  (13, 22, false, [], .iload_n 1, 1, [], []),
  (14, 23, false, [], .imul, 1, [], []),
  (15, 24, false, [], .iload_n 2, 1, [], []),
  (16, 25, false, [], .iadd, 1, [], []),
  (17, 26, false, [], .iaload, 1, [138784], []),
  (18, 27, false, [], .baload, 1, [201212], []),
  (19, 28, false, [], .ifCond .eq 5, 3, [22], []),
  (20, 31, false, [], .iconst 1, 1, [], []),
  (21, 32, false, [], .ireturn, 1, [1], []),
  (22, 33, false, [], .iinc 2 1, 3, [], []),
  (23, 36, false, [], .goto (-34), 3, [2], []),
  (24, 39, false, [], .iconst 0, 1, [], []),
  (25, 40, false, [], .ireturn, 1, [1], [])]
theorem l_M_asksHeir : (z_hd m_M_asksHeir).2.2.1 = 3 := by decide +kernel
theorem k_M_asksHeir : z_okM m_M_asksHeir c_M_asksHeir = true := by decide +kernel
def c_M_chain : List z_In := [
  (0, 0, false, [], .iload_n 1, 1, [], []),
  (1, 1, false, [], .i2l, 1, [], []),
  (2, 2, false, [], .invokestatic 355, 3, [143, 1, 1, 0], [1246]),
  (3, 5, false, [], .ifCond .ne 7, 3, [6], []),
  (4, 8, false, [], .sipush (-20001), 3, [], []),
  (5, 11, false, [], .ireturn, 1, [0], []),
  (6, 12, false, [], .aload_n 0, 1, [], []),
  (7, 13, false, [], .getfield 25, 3, [8, 11], [869]),
  (8, 16, false, [], .iload_n 1, 1, [], []),
  (9, 17, false, [], .baload, 1, [201212], []),
  (10, 18, false, [], .ifCond .ne 7, 3, [13], []),
  (11, 21, false, [], .sipush (-20002), 3, [], []),
  (12, 24, false, [], .ireturn, 1, [0], []),
  (13, 25, false, [], .iconst 0, 1, [], []),
  (14, 26, false, [], .istore_n 2, 1, [], []),
  (15, 27, true, [true, true, true, false, false, false, false], .iload_n 2, 1, [], []),
  (16, 28, false, [], .sipush 1212, 3, [], []),
  (17, 31, false, [], .if_icmp .ge 29, 3, [32], []),
  (18, 34, false, [], .aload_n 0, 1, [], []),
  (19, 35, false, [], .getfield 131, 3, [8, 52], [910]),
  (20, 38, false, [], .iload_n 2, 1, [], []),
  (21, 39, false, [], .aload_n 0, 1, [], []),
  (22, 40, false, [], .getfield 25, 3, [8, 11], [869]),
  (23, 43, false, [], .iload_n 2, 1, [], []),
  (24, 44, false, [], .baload, 1, [201212], []),
  (25, 45, false, [], .ifCond .eq 7, 3, [28], []),
  (26, 48, false, [], .iconst 1, 1, [], []),
  (27, 49, false, [], .goto 4, 3, [29], []),
  (28, 52, false, [], .iconst 0, 1, [], []),
  (29, 53, false, [], .iastore, 1, [101212], []),
  (30, 54, false, [], .iinc 2 1, 3, [], []),
  (31, 57, false, [], .goto (-30), 3, [15], []),
  (32, 60, false, [], .iconst 1, 1, [], []),
  (33, 61, false, [], .istore_n 2, 1, [], []),
  (34, 62, false, [], .iconst 0, 1, [], []),
  (35, 63, false, [], .istore_n 3, 1, [], []),
  (36, 64, true, [true, true, true, true, false, false, false], .iload_n 3, 1, [], []),
  (37, 65, false, [], .sipush 1212, 3, [], []),
  (38, 68, false, [], .if_icmp .ge 115, 3, [98], []),
  (39, 71, false, [], .iload_n 2, 1, [], []),
  (40, 72, false, [], .ifCond .eq 111, 3, [98], []),
  (41, 75, false, [], .iconst 0, 1, [], []),
  (42, 76, false, [], .istore_n 2, 1, [], []),
  (43, 77, false, [], .iconst 0, 1, [], []),
  (44, 78, false, [], .istore 4, 2, [], []),
  (45, 80, true, [true, true, true, true, true, false, false], .iload 4, 2, [], []),
  (46, 82, false, [], .sipush 1212, 3, [], []),
  (47, 85, false, [], .if_icmp .ge 92, 3, [96], []),
  (48, 88, false, [], .iconst 0, 1, [], []),
  (49, 89, false, [], .istore 5, 2, [], []),
  (50, 91, true, [true, true, true, true, true, true, false], .aload_n 0, 1, [], []),
  (51, 92, false, [], .getfield 25, 3, [8, 11], [869]),
  (52, 95, false, [], .iload 4, 2, [], []),
  (53, 97, false, [], .baload, 1, [201212], []),
  (54, 98, false, [], .ifCond .eq 73, 3, [94], []),
  (55, 101, false, [], .iload 5, 2, [], []),
  (56, 103, false, [], .aload_n 0, 1, [], []),
  (57, 104, false, [], .getfield 50, 3, [8, 19], [877]),
  (58, 107, false, [], .iload 4, 2, [], []),
  (59, 109, false, [], .iaload, 1, [101212], []),
  (60, 110, false, [], .if_icmp .ge 61, 3, [94], []),
  (61, 113, false, [], .aload_n 0, 1, [], []),
  (62, 114, false, [], .getfield 131, 3, [8, 52], [910]),
  (63, 117, false, [], .aload_n 0, 1, [], []),
  (64, 118, false, [], .getfield 54, 3, [8, 20], [878]),
  (65, 121, false, [], .bipush 32, 2, [], []),
  (66, 123, false, [], .iload 4, 2, [], []),
  (67, 125, false, [], .imul, 1, [], []),
  (68, 126, false, [], .iload 5, 2, [], []),
  (69, 128, false, [], .iadd, 1, [], []),
  (70, 129, false, [], .iaload, 1, [138784], []),
  (71, 130, false, [], .iaload, 1, [101212], []),
  (72, 131, false, [], .istore 6, 2, [], []),
  (73, 133, false, [], .iload 6, 2, [], []),
  (74, 135, false, [], .ifCond .le 30, 3, [92], []),
  (75, 138, false, [], .iload 6, 2, [], []),
  (76, 140, false, [], .iconst 1, 1, [], []),
  (77, 141, false, [], .iadd, 1, [], []),
  (78, 142, false, [], .aload_n 0, 1, [], []),
  (79, 143, false, [], .getfield 131, 3, [8, 52], [910]),
  (80, 146, false, [], .iload 4, 2, [], []),
  (81, 148, false, [], .iaload, 1, [101212], []),
  (82, 149, false, [], .if_icmp .le 16, 3, [92], []),
  (83, 152, false, [], .aload_n 0, 1, [], []),
  (84, 153, false, [], .getfield 131, 3, [8, 52], [910]),
  (85, 156, false, [], .iload 4, 2, [], []),
  (86, 158, false, [], .iload 6, 2, [], []),
  (87, 160, false, [], .iconst 1, 1, [], []),
  (88, 161, false, [], .iadd, 1, [], []),
  (89, 162, false, [], .iastore, 1, [101212], []),
  (90, 163, false, [], .iconst 1, 1, [], []),
  (91, 164, false, [], .istore_n 2, 1, [], []),
  (92, 165, true, [true, true, true, true, true, true, false], .iinc 5 1, 3, [], []),
  (93, 168, false, [], .goto (-77), 3, [50], []),
  (94, 171, true, [true, true, true, true, true, false, false], .iinc 4 1, 3, [], []),
  (95, 174, false, [], .goto (-94), 3, [45], []),
  (96, 177, false, [], .iinc 3 1, 3, [], []),
  (97, 180, false, [], .goto (-116), 3, [36], []),
  (98, 183, false, [], .aload_n 0, 1, [], []),
  (99, 184, false, [], .getfield 131, 3, [8, 52], [910]),
  (100, 187, false, [], .iload_n 1, 1, [], []),
  (101, 188, false, [], .iaload, 1, [101212], []),
  (102, 189, false, [], .ireturn, 1, [0], [])]
theorem l_M_chain : (z_hd m_M_chain).2.2.1 = 7 := by decide +kernel
theorem k_M_chain : z_okM m_M_chain c_M_chain = true := by decide +kernel
def c_M_next : List z_In := [
  (0, 0, false, [], .aload_n 0, 1, [], []),
  (1, 1, false, [], .getfield 229, 3, [8, 23], [881]),
  (2, 4, false, [], .ifCond .ne 9, 3, [5], []),
  (3, 7, false, [], .sipush (-20002), 3, [], []),
  (4, 10, false, [], .goto 7, 3, [7], []),
  (5, 13, false, [], .aload_n 0, 1, [], []),
  (6, 14, false, [], .invokevirtual 238, 3, [146, 0, 1, 0, 9], [1180, 63]),
  (7, 17, false, [], .ireturn, 1, [0], [])]
theorem l_M_next : (z_hd m_M_next).2.2.1 = 1 := by decide +kernel
theorem k_M_next : z_okM m_M_next c_M_next = true := by decide +kernel
def c_M_clear : List z_In := [
  (0, 0, false, [], .aload_n 0, 1, [], []),
  (1, 1, false, [], .getfield 229, 3, [8, 23], [881]),
  (2, 4, false, [], .istore_n 1, 1, [], []),
  (3, 5, false, [], .iconst 0, 1, [], []),
  (4, 6, false, [], .istore_n 2, 1, [], []),
  (5, 7, true, [true, true, true], .iload_n 2, 1, [], []),
  (6, 8, false, [], .sipush 1212, 3, [], []),
  (7, 11, false, [], .if_icmp .ge 23, 3, [18], []),
  (8, 14, false, [], .aload_n 0, 1, [], []),
  (9, 15, false, [], .getfield 25, 3, [8, 11], [869]),
  (10, 18, false, [], .iload_n 2, 1, [], []),
  (11, 19, false, [], .baload, 1, [201212], []),
  (12, 20, false, [], .ifCond .eq 8, 3, [16], []),
  (13, 23, false, [], .aload_n 0, 1, [], []),
  (14, 24, false, [], .iload_n 2, 1, [], []),
  (15, 25, false, [], .invokevirtual 241, 3, [144, 1, 0, 0, 9], [1099, 51]),
  (16, 28, true, [true, true, true], .iinc 2 1, 3, [], []),
  (17, 31, false, [], .goto (-24), 3, [5], []),
  (18, 34, false, [], .iload_n 1, 1, [], []),
  (19, 35, false, [], .ireturn, 1, [0], [])]
theorem l_M_clear : (z_hd m_M_clear).2.2.1 = 3 := by decide +kernel
theorem k_M_clear : z_okM m_M_clear c_M_clear = true := by decide +kernel
def c_M_isTask : List z_In := [
  (0, 0, false, [], .iload_n 0, 1, [], []),
  (1, 1, false, [], .i2l, 1, [], []),
  (2, 2, false, [], .lconst 0, 1, [0], []),
  (3, 3, false, [], .ldc2_w 353, 3, [3, 0], [1241]),
  (4, 6, false, [], .invokestatic 136, 3, [120, 3, 1, 0], [1024]),
  (5, 9, false, [], .ireturn, 1, [1], [])]
theorem l_M_isTask : (z_hd m_M_isTask).2.2.1 = 1 := by decide +kernel
theorem k_M_isTask : z_okM m_M_isTask c_M_isTask = true := by decide +kernel
def c_M_isBusy : List z_In := [
  (0, 0, false, [], .aload_n 0, 1, [], []),
  (1, 1, false, [], .getfield 71, 3, [8, 31], [889]),
  (2, 4, false, [], .iload_n 1, 1, [], []),
  (3, 5, false, [], .iaload, 1, [100005], []),
  (4, 6, false, [], .iconst 1, 1, [], []),
  (5, 7, false, [], .if_icmp .eq 13, 3, [12], []),
  (6, 10, false, [], .aload_n 0, 1, [], []),
  (7, 11, false, [], .getfield 71, 3, [8, 31], [889]),
  (8, 14, false, [], .iload_n 1, 1, [], []),
  (9, 15, false, [], .iaload, 1, [100005], []),
  (10, 16, false, [], .iconst 2, 1, [], []),
  (11, 17, false, [], .if_icmp .ne 7, 3, [14], []),
  (12, 20, false, [], .iconst 1, 1, [], []),
  (13, 21, false, [], .goto 4, 3, [15], []),
  (14, 24, false, [], .iconst 0, 1, [], []),
  (15, 25, false, [], .ireturn, 1, [1], [])]
theorem l_M_isBusy : (z_hd m_M_isBusy).2.2.1 = 2 := by decide +kernel
theorem k_M_isBusy : z_okM m_M_isBusy c_M_isBusy = true := by decide +kernel
def c_M_start : List z_In := [
  (0, 0, false, [], .iload_n 1, 1, [], []),
  (1, 1, false, [], .invokestatic 366, 3, [185, 1, 1, 0], [1292]),
  (2, 4, false, [], .ifCond .eq 11, 3, [7], []),
  (3, 7, false, [], .iload_n 2, 1, [], []),
  (4, 8, false, [], .iload_n 3, 1, [], []),
  (5, 9, false, [], .invokestatic 335, 3, [167, 2, 1, 0], [1132]),
  (6, 12, false, [], .ifCond .ne 7, 3, [9], []),
  (7, 15, false, [], .sipush (-20001), 3, [], []),
  (8, 18, false, [], .ireturn, 1, [0], []),
  (9, 19, false, [], .aload_n 0, 1, [], []),
  (10, 20, false, [], .iload_n 1, 1, [], []),
  (11, 21, false, [], .invokevirtual 369, 3, [186, 1, 1, 0, 9], [1295, 73]),
  (12, 24, false, [], .ifCond .eq 7, 3, [15], []),
  (13, 27, false, [], .sipush (-20003), 3, [], []),
  (14, 30, false, [], .ireturn, 1, [0], []),
  (15, 31, false, [], .aload_n 0, 1, [], []),
  (16, 32, false, [], .getfield 77, 3, [8, 33], [891]),
  (17, 35, false, [], .iload_n 1, 1, [], []),
  (18, 36, false, [], .iconst 0, 1, [], []),
  (19, 37, false, [], .iastore, 1, [100005], []),
  (20, 38, false, [], .aload_n 0, 1, [], []),
  (21, 39, false, [], .getfield 80, 3, [8, 34], [892]),
  (22, 42, false, [], .iload_n 1, 1, [], []),
  (23, 43, false, [], .iconst 0, 1, [], []),
  (24, 44, false, [], .iastore, 1, [100005], []),
  (25, 45, false, [], .aload_n 0, 1, [], []),
  (26, 46, false, [], .iload_n 1, 1, [], []),
  (27, 47, false, [], .iload_n 2, 1, [], []),
  (28, 48, false, [], .iload_n 3, 1, [], []),
  (29, 49, false, [], .invokestatic 314, 3, [140, 2, 1, 0], [1141]),
  (30, 52, false, [], .iconst 0, 1, [], []),
  (31, 53, false, [], .invokevirtual 317, 3, [157, 3, 0, 0, 9], [1144, 55]),
  (32, 56, false, [], .aload_n 0, 1, [], []),
  (33, 57, false, [], .getfield 71, 3, [8, 31], [889]),
  (34, 60, false, [], .iload_n 1, 1, [], []),
  (35, 61, false, [], .iaload, 1, [100005], []),
  (36, 62, false, [], .ireturn, 1, [0], [])]
theorem l_M_start : (z_hd m_M_start).2.2.1 = 4 := by decide +kernel
theorem k_M_start : z_okM m_M_start c_M_start = true := by decide +kernel
def c_M_step : List z_In := [
  (0, 0, false, [], .iload_n 1, 1, [], []),
  (1, 1, false, [], .invokestatic 366, 3, [185, 1, 1, 0], [1292]),
  (2, 4, false, [], .ifCond .eq 15, 3, [9], []),
  (3, 7, false, [], .iload_n 2, 1, [], []),
  (4, 8, false, [], .i2l, 1, [], []),
  (5, 9, false, [], .lconst 1, 1, [1], []),
  (6, 10, false, [], .ldc2_w 372, 3, [100, 0], [1303]),
  (7, 13, false, [], .invokestatic 136, 3, [120, 3, 1, 0], [1024]),
  (8, 16, false, [], .ifCond .ne 7, 3, [11], []),
  (9, 19, false, [], .sipush (-20001), 3, [], []),
  (10, 22, false, [], .ireturn, 1, [0], []),
  (11, 23, false, [], .aload_n 0, 1, [], []),
  (12, 24, false, [], .iload_n 1, 1, [], []),
  (13, 25, false, [], .invokevirtual 369, 3, [186, 1, 1, 0, 9], [1295, 73]),
  (14, 28, false, [], .ifCond .ne 7, 3, [17], []),
  (15, 31, false, [], .sipush (-20003), 3, [], []),
  (16, 34, false, [], .ireturn, 1, [0], []),
  (17, 35, false, [], .aload_n 0, 1, [], []),
  (18, 36, false, [], .getfield 77, 3, [8, 33], [891]),
  (19, 39, false, [], .iload_n 1, 1, [], []),
  (20, 40, false, [], .iaload, 1, [100005], []),
  (21, 41, false, [], .istore_n 3, 1, [], []),
  (22, 42, false, [], .aload_n 0, 1, [], []),
  (23, 43, false, [], .getfield 71, 3, [8, 31], [889]),
  (24, 46, false, [], .iload_n 1, 1, [], []),
  (25, 47, false, [], .iaload, 1, [100005], []),
  (26, 48, false, [], .iconst 2, 1, [], []),
  (27, 49, false, [], .if_icmp .ne 15, 3, [36], []),
  (28, 52, false, [], .aload_n 0, 1, [], []),
  (29, 53, false, [], .iload_n 1, 1, [], []),
  (30, 54, false, [], .aload_n 0, 1, [], []),
  (31, 55, false, [], .getfield 86, 3, [8, 36], [894]),
  (32, 58, false, [], .iload_n 1, 1, [], []),
  (33, 59, false, [], .iaload, 1, [100005], []),
  (34, 60, false, [], .iconst 1, 1, [], []),
  (35, 61, false, [], .invokevirtual 317, 3, [157, 3, 0, 0, 9], [1144, 55]),
  (36, 64, true, [true, true, true, true], .aload_n 0, 1, [], []),
  (37, 65, false, [], .getfield 71, 3, [8, 31], [889]),
  (38, 68, false, [], .iload_n 1, 1, [], []),
  (39, 69, false, [], .iaload, 1, [100005], []),
  (40, 70, false, [], .iconst 1, 1, [], []),
  (41, 71, false, [], .if_icmp .ne 53, 3, [70], []),
  (42, 74, false, [], .aload_n 0, 1, [], []),
  (43, 75, false, [], .getfield 77, 3, [8, 33], [891]),
  (44, 78, false, [], .iload_n 1, 1, [], []),
  (45, 79, false, [], .iaload, 1, [100005], []),
  (46, 80, false, [], .iload_n 3, 1, [], []),
  (47, 81, false, [], .iload_n 2, 1, [], []),
  (48, 82, false, [], .iadd, 1, [], []),
  (49, 83, false, [], .if_icmp .ge 41, 3, [70], []),
  (50, 86, false, [], .aload_n 0, 1, [], []),
  (51, 87, false, [], .getfield 19, 3, [8, 4], [862]),
  (52, 90, false, [], .aload_n 0, 1, [], []),
  (53, 91, false, [], .getfield 89, 3, [8, 37], [895]),
  (54, 94, false, [], .aload_n 0, 1, [], []),
  (55, 95, false, [], .iload_n 1, 1, [], []),
  (56, 96, false, [], .invokevirtual 282, 3, [151, 1, 1, 0, 9], [1152, 57]),
  (57, 99, false, [], .iaload, 1, [100150], []),
  (58, 100, false, [], .invokestatic 258, 3, [141, 1, 1, 0], [1111]),
  (59, 103, false, [], .iaload, 1, [100012], []),
  (60, 104, false, [], .ifCond .ne 12, 3, [66], []),
  (61, 107, false, [], .aload_n 0, 1, [], []),
  (62, 108, false, [], .iload_n 1, 1, [], []),
  (63, 109, false, [], .iconst 5, 1, [], []),
  (64, 110, false, [], .invokevirtual 272, 3, [153, 2, 0, 0, 9], [1192, 66]),
  (65, 113, false, [], .goto (-49), 3, [36], []),
  (66, 116, false, [], .aload_n 0, 1, [], []),
  (67, 117, false, [], .iload_n 1, 1, [], []),
  (68, 118, false, [], .invokevirtual 332, 3, [164, 1, 0, 0, 9], [1204, 69]),
  (69, 121, false, [], .goto (-57), 3, [36], []),
  (70, 124, false, [], .aload_n 0, 1, [], []),
  (71, 125, false, [], .getfield 77, 3, [8, 33], [891]),
  (72, 128, false, [], .iload_n 1, 1, [], []),
  (73, 129, false, [], .iaload, 1, [100005], []),
  (74, 130, false, [], .iload_n 3, 1, [], []),
  (75, 131, false, [], .isub, 1, [], []),
  (76, 132, false, [], .ireturn, 1, [0], [])]
theorem l_M_step : (z_hd m_M_step).2.2.1 = 4 := by decide +kernel
theorem k_M_step : z_okM m_M_step c_M_step = true := by decide +kernel
def c_M_stop : List z_In := [
  (0, 0, false, [], .iload_n 1, 1, [], []),
  (1, 1, false, [], .invokestatic 366, 3, [185, 1, 1, 0], [1292]),
  (2, 4, false, [], .ifCond .ne 7, 3, [5], []),
  (3, 7, false, [], .sipush (-20001), 3, [], []),
  (4, 10, false, [], .ireturn, 1, [0], []),
  (5, 11, false, [], .aload_n 0, 1, [], []),
  (6, 12, false, [], .iload_n 1, 1, [], []),
  (7, 13, false, [], .invokevirtual 369, 3, [186, 1, 1, 0, 9], [1295, 73]),
  (8, 16, false, [], .ifCond .ne 7, 3, [11], []),
  (9, 19, false, [], .sipush (-20003), 3, [], []),
  (10, 22, false, [], .ireturn, 1, [0], []),
  (11, 23, false, [], .aload_n 0, 1, [], []),
  (12, 24, false, [], .getfield 80, 3, [8, 34], [892]),
  (13, 27, false, [], .iload_n 1, 1, [], []),
  (14, 28, false, [], .iaload, 1, [100005], []),
  (15, 29, false, [], .istore_n 2, 1, [], []),
  (16, 30, false, [], .aload_n 0, 1, [], []),
  (17, 31, false, [], .getfield 80, 3, [8, 34], [892]),
  (18, 34, false, [], .iload_n 1, 1, [], []),
  (19, 35, false, [], .iconst 0, 1, [], []),
  (20, 36, false, [], .iastore, 1, [100005], []),
  (21, 37, false, [], .aload_n 0, 1, [], []),
  (22, 38, false, [], .getfield 77, 3, [8, 33], [891]),
  (23, 41, false, [], .iload_n 1, 1, [], []),
  (24, 42, false, [], .iconst 0, 1, [], []),
  (25, 43, false, [], .iastore, 1, [100005], []),
  (26, 44, false, [], .aload_n 0, 1, [], []),
  (27, 45, false, [], .getfield 71, 3, [8, 31], [889]),
  (28, 48, false, [], .iload_n 1, 1, [], []),
  (29, 49, false, [], .iconst 0, 1, [], []),
  (30, 50, false, [], .iastore, 1, [100005], []),
  (31, 51, false, [], .iload_n 2, 1, [], []),
  (32, 52, false, [], .ireturn, 1, [0], [])]
theorem l_M_stop : (z_hd m_M_stop).2.2.1 = 3 := by decide +kernel
theorem k_M_stop : z_okM m_M_stop c_M_stop = true := by decide +kernel
def c_M_task : List z_In := [
  (0, 0, false, [], .iload_n 1, 1, [], []),
  (1, 1, false, [], .invokestatic 366, 3, [185, 1, 1, 0], [1292]),
  (2, 4, false, [], .ifCond .eq 15, 3, [9], []),
  (3, 7, false, [], .iload_n 2, 1, [], []),
  (4, 8, false, [], .i2l, 1, [], []),
  (5, 9, false, [], .lconst 0, 1, [0], []),
  (6, 10, false, [], .ldc2_w 374, 3, [5, 0], [1312]),
  (7, 13, false, [], .invokestatic 136, 3, [120, 3, 1, 0], [1024]),
  (8, 16, false, [], .ifCond .ne 7, 3, [11], []),
  (9, 19, false, [], .sipush (-20001), 3, [], []),
  (10, 22, false, [], .ireturn, 1, [0], []),
  (11, 23, false, [], .iload_n 2, 1, [], []),
  (12, 24, false, [], .tableswitch 113 0 4 #[36, 43, 76, 83, 90], 36, [60, 13, 18, 37, 42, 47], []),
  (13, 60, false, [], .aload_n 0, 1, [], []),
  (14, 61, false, [], .getfield 71, 3, [8, 31], [889]),
  (15, 64, false, [], .iload_n 1, 1, [], []),
  (16, 65, false, [], .iaload, 1, [100005], []),
  (17, 66, false, [], .ireturn, 1, [0], []),
  (18, 67, false, [], .aload_n 0, 1, [], []),
  (19, 68, false, [], .getfield 71, 3, [8, 31], [889]),
  (20, 71, false, [], .iload_n 1, 1, [], []),
  (21, 72, false, [], .iaload, 1, [100005], []),
  (22, 73, false, [], .iconst 3, 1, [], []),
  (23, 74, false, [], .if_icmp .eq 13, 3, [30], []),
  (24, 77, false, [], .aload_n 0, 1, [], []),
  (25, 78, false, [], .getfield 71, 3, [8, 31], [889]),
  (26, 81, false, [], .iload_n 1, 1, [], []),
  (27, 82, false, [], .iaload, 1, [100005], []),
  (28, 83, false, [], .iconst 4, 1, [], []),
  (29, 84, false, [], .if_icmp .ne 12, 3, [35], []),
  (30, 87, false, [], .aload_n 0, 1, [], []),
  (31, 88, false, [], .getfield 74, 3, [8, 32], [890]),
  (32, 91, false, [], .iload_n 1, 1, [], []),
  (33, 92, false, [], .iaload, 1, [100005], []),
  (34, 93, false, [], .goto 6, 3, [36], []),
  (35, 96, false, [], .sipush (-20002), 3, [], []),
  (36, 99, false, [], .ireturn, 1, [0], []),
  (37, 100, false, [], .aload_n 0, 1, [], []),
  (38, 101, false, [], .getfield 80, 3, [8, 34], [892]),
  (39, 104, false, [], .iload_n 1, 1, [], []),
  (40, 105, false, [], .iaload, 1, [100005], []),
  (41, 106, false, [], .ireturn, 1, [0], []),
  (42, 107, false, [], .aload_n 0, 1, [], []),
  (43, 108, false, [], .getfield 77, 3, [8, 33], [891]),
  (44, 111, false, [], .iload_n 1, 1, [], []),
  (45, 112, false, [], .iaload, 1, [100005], []),
  (46, 113, false, [], .ireturn, 1, [0], []),
  (47, 114, false, [], .aload_n 0, 1, [], []),
  (48, 115, false, [], .getfield 71, 3, [8, 31], [889]),
  (49, 118, false, [], .iload_n 1, 1, [], []),
  (50, 119, false, [], .iaload, 1, [100005], []),
  (51, 120, false, [], .iconst 2, 1, [], []),
  (52, 121, false, [], .if_icmp .ne 12, 3, [58], []),
  (53, 124, false, [], .aload_n 0, 1, [], []),
  (54, 125, false, [], .getfield 83, 3, [8, 35], [893]),
  (55, 128, false, [], .iload_n 1, 1, [], []),
  (56, 129, false, [], .iaload, 1, [100005], []),
  (57, 130, false, [], .goto 6, 3, [59], []),
  (58, 133, false, [], .sipush (-20002), 3, [], []),
  (59, 136, false, [], .ireturn, 1, [0], []),
  (60, 137, false, [], .aload_n 0, 1, [], []),
  (61, 138, false, [], .getfield 71, 3, [8, 31], [889]),
  (62, 141, false, [], .iload_n 1, 1, [], []),
  (63, 142, false, [], .iaload, 1, [100005], []),
  (64, 143, false, [], .iconst 2, 1, [], []),
  (65, 144, false, [], .if_icmp .ne 12, 3, [71], []),
  (66, 147, false, [], .aload_n 0, 1, [], []),
  (67, 148, false, [], .getfield 86, 3, [8, 36], [894]),
  (68, 151, false, [], .iload_n 1, 1, [], []),
  (69, 152, false, [], .iaload, 1, [100005], []),
  (70, 153, false, [], .goto 6, 3, [72], []),
  (71, 156, false, [], .sipush (-20002), 3, [], []),
  (72, 159, false, [], .ireturn, 1, [0], [])]
theorem l_M_task : (z_hd m_M_task).2.2.1 = 3 := by decide +kernel
theorem k_M_task : z_okM m_M_task c_M_task = true := by decide +kernel
def c_M_frame : List z_In := [
  (0, 0, false, [], .iload_n 1, 1, [], []),
  (1, 1, false, [], .invokestatic 366, 3, [185, 1, 1, 0], [1292]),
  (2, 4, false, [], .ifCond .eq 7, 3, [5], []),
  (3, 7, false, [], .iload_n 2, 1, [], []),
  (4, 8, false, [], .ifCond .ge 7, 3, [7], []),
  (5, 11, false, [], .sipush (-20001), 3, [], []),
  (6, 14, false, [], .ireturn, 1, [0], []),
  (7, 15, false, [], .iload_n 2, 1, [], []),
  (8, 16, false, [], .aload_n 0, 1, [], []),
  (9, 17, false, [], .getfield 80, 3, [8, 34], [892]),
  (10, 20, false, [], .iload_n 1, 1, [], []),
  (11, 21, false, [], .iaload, 1, [100005], []),
  (12, 22, false, [], .if_icmp .ge 17, 3, [22], []),
  (13, 25, false, [], .aload_n 0, 1, [], []),
  (14, 26, false, [], .getfield 89, 3, [8, 37], [895]),
  (15, 29, false, [], .bipush 30, 2, [], []),
  (16, 31, false, [], .iload_n 1, 1, [], []),
  (17, 32, false, [], .imul, 1, [], []),
  (18, 33, false, [], .iload_n 2, 1, [], []),
  (19, 34, false, [], .iadd, 1, [], []),
  (20, 35, false, [], .iaload, 1, [100150], []),
  (21, 36, false, [], .goto 6, 3, [23], []),
  (22, 39, false, [], .sipush (-20002), 3, [], []),
  (23, 42, false, [], .ireturn, 1, [0], [])]
theorem l_M_frame : (z_hd m_M_frame).2.2.1 = 3 := by decide +kernel
theorem k_M_frame : z_okM m_M_frame c_M_frame = true := by decide +kernel
def c_M_led : List z_In := [
  (0, 0, false, [], .iload_n 1, 1, [], []),
  (1, 1, false, [], .i2l, 1, [], []),
  (2, 2, false, [], .lconst 0, 1, [0], []),
  (3, 3, false, [], .ldc2_w 359, 3, [6, 0], [1250]),
  (4, 6, false, [], .invokestatic 136, 3, [120, 3, 1, 0], [1024]),
  (5, 9, false, [], .ifCond .eq 12, 3, [11], []),
  (6, 12, false, [], .aload_n 0, 1, [], []),
  (7, 13, false, [], .getfield 61, 3, [8, 27], [885]),
  (8, 16, false, [], .iload_n 1, 1, [], []),
  (9, 17, false, [], .iaload, 1, [100007], []),
  (10, 18, false, [], .goto 6, 3, [12], []),
  (11, 21, false, [], .sipush (-20001), 3, [], []),
  (12, 24, false, [], .ireturn, 1, [0], [])]
theorem l_M_led : (z_hd m_M_led).2.2.1 = 2 := by decide +kernel
theorem k_M_led : z_okM m_M_led c_M_led = true := by decide +kernel
def c_M_count : List z_In := [
  (0, 0, false, [], .iconst 0, 1, [], []),
  (1, 1, false, [], .istore_n 2, 1, [], []),
  (2, 2, false, [], .iload_n 1, 1, [], []),
  (3, 3, false, [], .tableswitch 121 0 5 #[37, 42, 47, 80, 85, 90], 37, [55, 4, 7, 10, 30, 33, 36], []),
  (4, 40, false, [], .aload_n 0, 1, [], []),
  (5, 41, false, [], .getfield 229, 3, [8, 23], [881]),
  (6, 44, false, [], .ireturn, 1, [0], []),
  (7, 45, false, [], .aload_n 0, 1, [], []),
  (8, 46, false, [], .getfield 226, 3, [8, 22], [880]),
  (9, 49, false, [], .ireturn, 1, [0], []),
  (10, 50, false, [], .iconst 0, 1, [], []),
  (11, 51, false, [], .istore_n 3, 1, [], []),
  (12, 52, true, [true, false, true, true], .iload_n 3, 1, [], []),
  (13, 53, false, [], .bipush 12, 2, [], []),
  (14, 55, false, [], .if_icmp .ge 26, 3, [28], []),
  (15, 58, false, [], .iload_n 2, 1, [], []),
  (16, 59, false, [], .aload_n 0, 1, [], []),
  (17, 60, false, [], .getfield 19, 3, [8, 4], [862]),
  (18, 63, false, [], .iload_n 3, 1, [], []),
  (19, 64, false, [], .iaload, 1, [100012], []),
  (20, 65, false, [], .ifCond .le 7, 3, [23], []),
  (21, 68, false, [], .iconst 1, 1, [], []),
  (22, 69, false, [], .goto 4, 3, [24], []),
  (23, 72, false, [], .iconst 0, 1, [], []),
  (24, 73, false, [], .iadd, 1, [], []),
  (25, 74, false, [], .istore_n 2, 1, [], []),
  (26, 75, false, [], .iinc 3 1, 3, [], []),
  (27, 78, false, [], .goto (-26), 3, [12], []),
  (28, 81, false, [], .iload_n 2, 1, [], []),
  (29, 82, false, [], .ireturn, 1, [0], []),
  (30, 83, false, [], .aload_n 0, 1, [], []),
  (31, 84, false, [], .getfield 140, 3, [8, 2], [860]),
  (32, 87, false, [], .ireturn, 1, [0], []),
  (33, 88, false, [], .aload_n 0, 1, [], []),
  (34, 89, false, [], .getfield 265, 3, [8, 26], [884]),
  (35, 92, false, [], .ireturn, 1, [0], []),
  (36, 93, false, [], .iconst 0, 1, [], []),
  (37, 94, false, [], .istore_n 3, 1, [], []),
  (38, 95, true, [true, false, true, true], .iload_n 3, 1, [], []),
  (39, 96, false, [], .iconst 4, 1, [], []),
  (40, 97, false, [], .if_icmp .ge 25, 3, [53], []),
  (41, 100, false, [], .iload_n 2, 1, [], []),
  (42, 101, false, [], .aload_n 0, 1, [], []),
  (43, 102, false, [], .iload_n 3, 1, [], []),
  (44, 103, false, [], .invokevirtual 369, 3, [186, 1, 1, 0, 9], [1295, 73]),
  (45, 106, false, [], .ifCond .eq 7, 3, [48], []),
  (46, 109, false, [], .iconst 1, 1, [], []),
  (47, 110, false, [], .goto 4, 3, [49], []),
  (48, 113, false, [], .iconst 0, 1, [], []),
  (49, 114, false, [], .iadd, 1, [], []),
  (50, 115, false, [], .istore_n 2, 1, [], []),
  (51, 116, false, [], .iinc 3 1, 3, [], []),
  (52, 119, false, [], .goto (-24), 3, [38], []),
  (53, 122, false, [], .iload_n 2, 1, [], []),
  (54, 123, false, [], .ireturn, 1, [0], []),
  (55, 124, false, [], .sipush (-20001), 3, [], []),
  (56, 127, false, [], .ireturn, 1, [0], [])]
theorem l_M_count : (z_hd m_M_count).2.2.1 = 4 := by decide +kernel
theorem k_M_count : z_okM m_M_count c_M_count = true := by decide +kernel
end
section
/-! blocks: printed by program (wip/whole/gen/blk.py) -/
abbrev z_T (e : z_E) (d y pc : Nat) (ls : List (Option z_V)) (σ : z_M) (Q : Int → z_M → Prop) : Prop := z_X e true d y z_NT z_NT pc ls [] z_NT σ Q
abbrev z_C (e : z_E) (d y : Nat) (args : List z_V) (σ : z_M) (Q : Int → z_M → Prop) : Prop := z_Y e true d y args z_NT z_NT σ Q
set_option maxRecDepth 20000 in
theorem b_F_begin_0 {e : z_E} {d : Nat} {x0 x1 : Int} {σ : z_M} {Q : Int → z_M → Prop} (h : z_ck (z_ok z_NT 1 x0) (z_ck (z_ok z_NT 1 x0) (z_ck (z_ok z_NT 1 x0) ((¬ (101 : Int) = 0) ∧ (z_ck (z_ok z_NT 1 x0) (z_ck (z_ok z_NT 1 x0) (z_ck (z_ok z_NT 1 x0) (Q 0 (z_up (z_up (z_up (z_up (z_up σ x0 5 x1) x0 6 0) x0 7 (z_shl 1 (z_wr (12 + (z_wr (Int.tdiv ((z_up (z_up σ x0 5 x1) x0 6 0) x0 3) 101)))))) x0 8 0) x0 9 0))))))))) : z_C e (d + 1) m_F_begin [z_R x0, z_I x1] σ Q :=
  z_ent k_F_begin l_F_begin rfl (Nat.le_refl _) (z_blk k_F_begin 25 0 rfl h)
set_option maxRecDepth 20000 in
theorem b_F_hasText_0 {e : z_E} {d : Nat} {x0 : Int} {σ : z_M} {Q : Int → z_M → Prop} (h : z_ck (z_ok z_NT 1 x0) (((σ x0 2) < 0 → Q 0 σ) ∧ (0 ≤ (σ x0 2) → z_ck (z_ok z_NT 1 x0) (z_ck (z_ok z_NT 6 (σ x0 2)) (z_C e d m_T_stands [z_R (σ x0 2)] σ (fun r1 σ1 => (r1 = 0 → Q 0 σ1) ∧ (¬ r1 = 0 → Q 1 σ1))))))) : z_C e (d + 1) m_F_hasText [z_R x0] σ Q :=
  z_ent k_F_hasText l_F_hasText rfl (Nat.le_refl _) (z_blk k_F_hasText 12 0 rfl h)
set_option maxRecDepth 20000 in
theorem b_F_argument_0 {e : z_E} {d : Nat} {x0 : Int} {σ : z_M} {Q : Int → z_M → Prop} (h : z_ck (z_ok z_NT 1 x0) ((¬ (101 : Int) = 0) ∧ (Q (z_wr ((z_wr ((σ x0 3) - Int.tdiv (σ x0 3) 101 * 101)) - 50)) σ))) : z_C e (d + 1) m_F_argument [z_R x0] σ Q :=
  z_ent k_F_argument l_F_argument rfl (Nat.le_refl _) (z_blk k_F_argument 9 0 rfl h)
set_option maxRecDepth 20000 in
theorem b_F_fetch_0 {e : z_E} {d : Nat} {x0 : Int} {σ : z_M} {Q : Int → z_M → Prop} (h : z_ck (z_ok z_NT 1 x0) (((σ x0 2) < 0 → Q 0 σ) ∧ (0 ≤ (σ x0 2) → z_ck (z_ok z_NT 1 x0) (((σ x0 6) < 0 → Q 0 σ) ∧ (0 ≤ (σ x0 6) → z_ck (z_ok z_NT 1 x0) (z_ck (z_ok z_NT 1 x0) (z_ck (z_ok z_NT 6 (σ x0 2)) (((σ x0 6) < (σ (σ x0 2) 1) → z_ck (z_ok z_NT 1 x0) (z_ck (z_ok z_NT 6 (σ x0 2)) (z_ck (z_ok z_NT 1 x0) (z_ck (z_ok z_NT 100100 ((σ x0 2) + 1)) ((0 ≤ ((σ x0 6) : Int) ∧ ((σ x0 6) : Int) < 100) ∧ (z_ck (z_ok z_NT 1 x0) (z_ck (z_ok z_NT 1 x0) (Q (σ ((σ x0 2) + 1) (σ x0 6)) (z_up σ x0 6 (z_wr ((σ x0 6) + 1))))))))))) ∧ ((σ (σ x0 2) 1) ≤ (σ x0 6) → Q 0 σ))))))))) : z_C e (d + 1) m_F_fetch [z_R x0] σ Q :=
  z_ent k_F_fetch l_F_fetch rfl (Nat.le_refl _) (z_blk k_F_fetch 29 0 rfl h)
set_option maxRecDepth 20000 in
theorem b_F_push_0 {e : z_E} {d : Nat} {x0 x1 : Int} {σ : z_M} {Q : Int → z_M → Prop} (h : z_ck (z_ok z_NT 1 x0) ((19 ≤ (σ x0 9) → Q 0 σ) ∧ ((σ x0 9) < 19 → z_ck (z_ok z_NT 1 x0) (z_ck (z_ok z_NT 1 x0) (z_ck (z_ok z_NT 100019 (x0 + 2)) ((0 ≤ ((σ x0 9) : Int) ∧ ((σ x0 9) : Int) < 19) ∧ (z_ck (z_ok z_NT 1 x0) (z_ck (z_ok z_NT 1 x0) (Q 0 (z_up (z_up σ (x0 + 2) (σ x0 9) x1) x0 9 (z_wr (((z_up σ (x0 + 2) (σ x0 9) x1) x0 9) + 1)))))))))))) : z_C e (d + 1) m_F_push [z_R x0, z_I x1] σ Q :=
  z_ent k_F_push l_F_push rfl (Nat.le_refl _) (z_blk k_F_push 19 0 rfl h)
set_option maxRecDepth 20000 in
theorem b_F_pop_0 {e : z_E} {d : Nat} {x0 : Int} {σ : z_M} {Q : Int → z_M → Prop} (h : z_ck (z_ok z_NT 1 x0) ((0 < (σ x0 9) → z_ck (z_ok z_NT 1 x0) (z_ck (z_ok z_NT 1 x0) (z_ck (z_ok z_NT 1 x0) (z_ck (z_ok z_NT 1 x0) (z_ck (z_ok z_NT 100019 (x0 + 2)) ((0 ≤ (((z_up σ x0 9 (z_wr ((σ x0 9) - 1))) x0 9) : Int) ∧ (((z_up σ x0 9 (z_wr ((σ x0 9) - 1))) x0 9) : Int) < 19) ∧ (Q ((z_up σ x0 9 (z_wr ((σ x0 9) - 1))) (x0 + 2) ((z_up σ x0 9 (z_wr ((σ x0 9) - 1))) x0 9)) (z_up σ x0 9 (z_wr ((σ x0 9) - 1)))))))))) ∧ ((σ x0 9) ≤ 0 → Q 0 σ))) : z_C e (d + 1) m_F_pop [z_R x0] σ Q :=
  z_ent k_F_pop l_F_pop rfl (Nat.le_refl _) (z_blk k_F_pop 17 0 rfl h)
set_option maxRecDepth 20000 in
theorem b_F_value_0 {e : z_E} {d : Nat} {x0 : Int} {σ : z_M} {Q : Int → z_M → Prop} (h : z_ck (z_ok z_NT 1 x0) (((σ x0 9) ≤ 0 → Q 0 σ) ∧ (0 < (σ x0 9) → z_ck (z_ok z_NT 1 x0) (z_ck (z_ok z_NT 1 x0) (z_ck (z_ok z_NT 100019 (x0 + 2)) ((0 ≤ ((z_wr ((σ x0 9) - 1)) : Int) ∧ ((z_wr ((σ x0 9) - 1)) : Int) < 19) ∧ (Q (σ (x0 + 2) (z_wr ((σ x0 9) - 1))) σ))))))) : z_C e (d + 1) m_F_value [z_R x0] σ Q :=
  z_ent k_F_value l_F_value rfl (Nat.le_refl _) (z_blk k_F_value 14 0 rfl h)
set_option maxRecDepth 20000 in
theorem b_F_take_0 {e : z_E} {d : Nat} {x0 x1 x2 x3 : Int} {σ : z_M} {Q : Int → z_M → Prop} (h : z_ck (z_ok z_NT 1 x0) (z_C e d m_F_push [z_R x0, z_I x2] σ (fun _ σ1 => z_ck (z_ok z_NT 1 x0) (z_ck (z_ok z_NT 1 x0) (z_T e d m_F_take 18 [some (z_R x0), some (z_I x1), none, none, some (z_I 0)] (z_up σ1 x0 7 (z_or (σ1 x0 7) x3)) Q))))) : z_C e (d + 1) m_F_take [z_R x0, z_I x1, z_I x2, z_I x3] σ Q :=
  z_ent k_F_take l_F_take rfl (Nat.le_refl _) (z_blk k_F_take 14 0 rfl h)
set_option maxRecDepth 20000 in
theorem b_F_take_18 {e : z_E} {d : Nat} {x0 x1 x4 : Int} {σ : z_M} {Q : Int → z_M → Prop} (h : z_ck (z_ok z_NT 1 x0) (((σ x0 8) ≤ x4 → z_ck (z_ok z_NT 1 x0) ((25 ≤ (σ x0 8) → Q 0 σ) ∧ ((σ x0 8) < 25 → z_ck (z_ok z_NT 1 x0) (z_ck (z_ok z_NT 1 x0) (z_ck (z_ok z_NT 100025 (x0 + 1)) ((0 ≤ ((σ x0 8) : Int) ∧ ((σ x0 8) : Int) < 25) ∧ (z_ck (z_ok z_NT 1 x0) (z_ck (z_ok z_NT 1 x0) (Q 0 (z_up (z_up σ (x0 + 1) (σ x0 8) x1) x0 8 (z_wr (((z_up σ (x0 + 1) (σ x0 8) x1) x0 8) + 1)))))))))))) ∧ (x4 < (σ x0 8) → z_ck (z_ok z_NT 1 x0) (z_ck (z_ok z_NT 100025 (x0 + 1)) ((0 ≤ (x4 : Int) ∧ (x4 : Int) < 25) ∧ ((¬ (σ (x0 + 1) x4) = x1 → z_T e d m_F_take 18 [some (z_R x0), some (z_I x1), none, none, some (z_I (z_wr (x4 + 1)))] σ Q) ∧ ((σ (x0 + 1) x4) = x1 → Q 0 σ))))))) : z_T e d m_F_take 18 [some (z_R x0), some (z_I x1), none, none, some (z_I x4)] σ Q :=
  z_blk k_F_take 23 11 rfl h
set_option maxRecDepth 20000 in
theorem b_F_isWorkedOut_0 {e : z_E} {d : Nat} {x0 : Int} {σ : z_M} {Q : Int → z_M → Prop} (h : z_ck (z_ok z_NT 1 x0) (z_C e d m_F_hasText [z_R x0] σ (fun r1 σ1 => (¬ r1 = 0 → z_T e d m_F_isWorkedOut 11 [some (z_R x0), some (z_I 0)] σ1 Q) ∧ (r1 = 0 → Q 0 σ1)))) : z_C e (d + 1) m_F_isWorkedOut [z_R x0] σ Q :=
  z_ent k_F_isWorkedOut l_F_isWorkedOut rfl (Nat.le_refl _) (z_blk k_F_isWorkedOut 8 0 rfl h)
set_option maxRecDepth 20000 in
theorem b_F_isWorkedOut_11 {e : z_E} {d : Nat} {x0 x1 : Int} {σ : z_M} {Q : Int → z_M → Prop} (h : (100 ≤ x1 → Q 1 σ) ∧ (x1 < 100 → z_ck (z_ok z_NT 1 x0) (((σ x0 6) < 0 → Q 1 σ) ∧ (0 ≤ (σ x0 6) → z_ck (z_ok z_NT 1 x0) (z_ck (z_ok z_NT 1 x0) (z_ck (z_ok z_NT 6 (σ x0 2)) (((σ (σ x0 2) 1) ≤ (σ x0 6) → Q 1 σ) ∧ ((σ x0 6) < (σ (σ x0 2) 1) → z_ck (z_ok z_NT 1 x0) (z_ck (z_ok z_NT 6 (σ x0 2)) (z_ck (z_ok z_NT 1 x0) (z_ck (z_ok z_NT 100100 ((σ x0 2) + 1)) ((0 ≤ ((σ x0 6) : Int) ∧ ((σ x0 6) : Int) < 100) ∧ (((z_and (σ ((σ x0 2) + 1) (σ x0 6)) 15) = 6 → z_ck (z_ok z_NT 1 x0) (z_ck (z_ok z_NT 6 (σ x0 2)) (z_ck (z_ok z_NT 1 x0) (z_ck (z_ok z_NT 100100 ((σ x0 2) + 1)) ((0 ≤ ((σ x0 6) : Int) ∧ ((σ x0 6) : Int) < 100) ∧ (z_ck (z_ok z_NT 1 x0) (z_T e d m_F_isWorkedOut 11 [some (z_R x0), some (z_I (z_wr (x1 + 1)))] (z_up σ x0 6 (z_shr (σ ((σ x0 2) + 1) (σ x0 6)) 4)) Q))))))) ∧ (¬ (z_and (σ ((σ x0 2) + 1) (σ x0 6)) 15) = 6 → Q 0 σ)))))))))))))) : z_T e d m_F_isWorkedOut 11 [some (z_R x0), some (z_I x1)] σ Q :=
  z_blk k_F_isWorkedOut 37 7 rfl h
set_option maxRecDepth 20000 in
theorem b_K_fill_0 {e : z_E} {d : Nat} {x0 x1 x2 : Int} {σ : z_M} {Q : Int → z_M → Prop} (h : z_ck (z_ok z_NT 1 x1) (z_ck (z_ok z_NT 2 x0) (z_ck (z_ok z_NT 1 x1) (z_C e d m_F_value [z_R x1] (z_up σ x0 1 (σ x1 3)) (fun r1 σ1 => z_ck (z_ok z_NT 2 x0) (z_ck (z_ok z_NT 2 x0) (z_ck (z_ok z_NT 1 x1) (z_ck (z_ok z_NT 2 x0) (z_ck (z_ok z_NT 2 x0) (z_ck (z_ok z_NT 1 x1) (z_ck (z_ok z_NT 2 x0) (z_ck (z_ok z_NT 1 x1) (z_ck (z_ok z_NT 2 x0) (z_ck (z_ok z_NT 1 x1) (z_ck (z_ok z_NT 2 x0) (z_ck (z_ok z_NT 2 x0) (z_ck (true && z_ok z_NT 100025 (x1 + 1) && z_ok z_NT 100025 (x0 + 1) && true) ((1 ≤ d ∧ 0 ≤ (0 : Int) ∧ 0 ≤ (0 : Int) ∧ 0 ≤ (((z_up (z_up (z_up (z_up (z_up (z_up σ1 x0 2 r1) x0 3 x2) x0 5 ((z_up (z_up σ1 x0 2 r1) x0 3 x2) x1 4)) x0 6 1) x0 7 ((z_up (z_up (z_up (z_up σ1 x0 2 r1) x0 3 x2) x0 5 ((z_up (z_up σ1 x0 2 r1) x0 3 x2) x1 4)) x0 6 1) x1 7)) x0 8 ((z_up (z_up (z_up (z_up (z_up σ1 x0 2 r1) x0 3 x2) x0 5 ((z_up (z_up σ1 x0 2 r1) x0 3 x2) x1 4)) x0 6 1) x0 7 ((z_up (z_up (z_up (z_up σ1 x0 2 r1) x0 3 x2) x0 5 ((z_up (z_up σ1 x0 2 r1) x0 3 x2) x1 4)) x0 6 1) x1 7)) x1 8)) x0 8) : Int) ∧ (0 : Int) + ((z_up (z_up (z_up (z_up (z_up (z_up σ1 x0 2 r1) x0 3 x2) x0 5 ((z_up (z_up σ1 x0 2 r1) x0 3 x2) x1 4)) x0 6 1) x0 7 ((z_up (z_up (z_up (z_up σ1 x0 2 r1) x0 3 x2) x0 5 ((z_up (z_up σ1 x0 2 r1) x0 3 x2) x1 4)) x0 6 1) x1 7)) x0 8 ((z_up (z_up (z_up (z_up (z_up σ1 x0 2 r1) x0 3 x2) x0 5 ((z_up (z_up σ1 x0 2 r1) x0 3 x2) x1 4)) x0 6 1) x0 7 ((z_up (z_up (z_up (z_up σ1 x0 2 r1) x0 3 x2) x0 5 ((z_up (z_up σ1 x0 2 r1) x0 3 x2) x1 4)) x0 6 1) x1 7)) x1 8)) x0 8) ≤ 25 ∧ (0 : Int) + ((z_up (z_up (z_up (z_up (z_up (z_up σ1 x0 2 r1) x0 3 x2) x0 5 ((z_up (z_up σ1 x0 2 r1) x0 3 x2) x1 4)) x0 6 1) x0 7 ((z_up (z_up (z_up (z_up σ1 x0 2 r1) x0 3 x2) x0 5 ((z_up (z_up σ1 x0 2 r1) x0 3 x2) x1 4)) x0 6 1) x1 7)) x0 8 ((z_up (z_up (z_up (z_up (z_up σ1 x0 2 r1) x0 3 x2) x0 5 ((z_up (z_up σ1 x0 2 r1) x0 3 x2) x1 4)) x0 6 1) x0 7 ((z_up (z_up (z_up (z_up σ1 x0 2 r1) x0 3 x2) x0 5 ((z_up (z_up σ1 x0 2 r1) x0 3 x2) x1 4)) x0 6 1) x1 7)) x1 8)) x0 8) ≤ 25) ∧ (100025 / 100000 = 2 → ∀ i : Int, 0 ≤ i → i < 25 → (z_up (z_up (z_up (z_up (z_up (z_up σ1 x0 2 r1) x0 3 x2) x0 5 ((z_up (z_up σ1 x0 2 r1) x0 3 x2) x1 4)) x0 6 1) x0 7 ((z_up (z_up (z_up (z_up σ1 x0 2 r1) x0 3 x2) x0 5 ((z_up (z_up σ1 x0 2 r1) x0 3 x2) x1 4)) x0 6 1) x1 7)) x0 8 ((z_up (z_up (z_up (z_up (z_up σ1 x0 2 r1) x0 3 x2) x0 5 ((z_up (z_up σ1 x0 2 r1) x0 3 x2) x1 4)) x0 6 1) x0 7 ((z_up (z_up (z_up (z_up σ1 x0 2 r1) x0 3 x2) x0 5 ((z_up (z_up σ1 x0 2 r1) x0 3 x2) x1 4)) x0 6 1) x1 7)) x1 8)) (x1 + 1) i = 0 ∨ (z_up (z_up (z_up (z_up (z_up (z_up σ1 x0 2 r1) x0 3 x2) x0 5 ((z_up (z_up σ1 x0 2 r1) x0 3 x2) x1 4)) x0 6 1) x0 7 ((z_up (z_up (z_up (z_up σ1 x0 2 r1) x0 3 x2) x0 5 ((z_up (z_up σ1 x0 2 r1) x0 3 x2) x1 4)) x0 6 1) x1 7)) x0 8 ((z_up (z_up (z_up (z_up (z_up σ1 x0 2 r1) x0 3 x2) x0 5 ((z_up (z_up σ1 x0 2 r1) x0 3 x2) x1 4)) x0 6 1) x0 7 ((z_up (z_up (z_up (z_up σ1 x0 2 r1) x0 3 x2) x0 5 ((z_up (z_up σ1 x0 2 r1) x0 3 x2) x1 4)) x0 6 1) x1 7)) x1 8)) (x1 + 1) i = 1) ∧ (z_ck (z_ok z_NT 2 x0) (1 ≤ d ∧ (z_C e d m_K_digits [z_I (z_abs ((z_cp (z_up (z_up (z_up (z_up (z_up (z_up σ1 x0 2 r1) x0 3 x2) x0 5 ((z_up (z_up σ1 x0 2 r1) x0 3 x2) x1 4)) x0 6 1) x0 7 ((z_up (z_up (z_up (z_up σ1 x0 2 r1) x0 3 x2) x0 5 ((z_up (z_up σ1 x0 2 r1) x0 3 x2) x1 4)) x0 6 1) x1 7)) x0 8 ((z_up (z_up (z_up (z_up (z_up σ1 x0 2 r1) x0 3 x2) x0 5 ((z_up (z_up σ1 x0 2 r1) x0 3 x2) x1 4)) x0 6 1) x0 7 ((z_up (z_up (z_up (z_up σ1 x0 2 r1) x0 3 x2) x0 5 ((z_up (z_up σ1 x0 2 r1) x0 3 x2) x1 4)) x0 6 1) x1 7)) x1 8)) (x1 + 1) 0 (x0 + 1) 0 ((z_up (z_up (z_up (z_up (z_up (z_up σ1 x0 2 r1) x0 3 x2) x0 5 ((z_up (z_up σ1 x0 2 r1) x0 3 x2) x1 4)) x0 6 1) x0 7 ((z_up (z_up (z_up (z_up σ1 x0 2 r1) x0 3 x2) x0 5 ((z_up (z_up σ1 x0 2 r1) x0 3 x2) x1 4)) x0 6 1) x1 7)) x0 8 ((z_up (z_up (z_up (z_up (z_up σ1 x0 2 r1) x0 3 x2) x0 5 ((z_up (z_up σ1 x0 2 r1) x0 3 x2) x1 4)) x0 6 1) x0 7 ((z_up (z_up (z_up (z_up σ1 x0 2 r1) x0 3 x2) x0 5 ((z_up (z_up σ1 x0 2 r1) x0 3 x2) x1 4)) x0 6 1) x1 7)) x1 8)) x0 8)) x0 2))] (z_cp (z_up (z_up (z_up (z_up (z_up (z_up σ1 x0 2 r1) x0 3 x2) x0 5 ((z_up (z_up σ1 x0 2 r1) x0 3 x2) x1 4)) x0 6 1) x0 7 ((z_up (z_up (z_up (z_up σ1 x0 2 r1) x0 3 x2) x0 5 ((z_up (z_up σ1 x0 2 r1) x0 3 x2) x1 4)) x0 6 1) x1 7)) x0 8 ((z_up (z_up (z_up (z_up (z_up σ1 x0 2 r1) x0 3 x2) x0 5 ((z_up (z_up σ1 x0 2 r1) x0 3 x2) x1 4)) x0 6 1) x0 7 ((z_up (z_up (z_up (z_up σ1 x0 2 r1) x0 3 x2) x0 5 ((z_up (z_up σ1 x0 2 r1) x0 3 x2) x1 4)) x0 6 1) x1 7)) x1 8)) (x1 + 1) 0 (x0 + 1) 0 ((z_up (z_up (z_up (z_up (z_up (z_up σ1 x0 2 r1) x0 3 x2) x0 5 ((z_up (z_up σ1 x0 2 r1) x0 3 x2) x1 4)) x0 6 1) x0 7 ((z_up (z_up (z_up (z_up σ1 x0 2 r1) x0 3 x2) x0 5 ((z_up (z_up σ1 x0 2 r1) x0 3 x2) x1 4)) x0 6 1) x1 7)) x0 8 ((z_up (z_up (z_up (z_up (z_up σ1 x0 2 r1) x0 3 x2) x0 5 ((z_up (z_up σ1 x0 2 r1) x0 3 x2) x1 4)) x0 6 1) x0 7 ((z_up (z_up (z_up (z_up σ1 x0 2 r1) x0 3 x2) x0 5 ((z_up (z_up σ1 x0 2 r1) x0 3 x2) x1 4)) x0 6 1) x1 7)) x1 8)) x0 8)) (fun r2 σ2 => z_ck (z_ok z_NT 2 x0) (z_ck (z_ok z_NT 2 x0) (Q 0 (z_up σ2 x0 4 (z_wr ((z_wr (2 + r2)) + (σ2 x0 8)))))))))))))))))))))))))))) : z_C e (d + 1) m_K_fill [z_R x0, z_R x1, z_I x2] σ Q :=
  z_ent k_K_fill l_K_fill rfl (Nat.le_refl _) (z_blk k_K_fill 49 0 rfl h)
set_option maxRecDepth 20000 in
theorem b_K_digits_0 {e : z_E} {d : Nat} {x0 : Int} {σ : z_M} {Q : Int → z_M → Prop} (h : (x0 ≤ 999 → (x0 ≤ 99 → (x0 ≤ 9 → Q 1 σ) ∧ (9 < x0 → Q 2 σ)) ∧ (99 < x0 → Q 3 σ)) ∧ (999 < x0 → Q 4 σ)) : z_C e (d + 1) m_K_digits [z_I x0] σ Q :=
  z_ent k_K_digits l_K_digits rfl (Nat.le_refl _) (z_blk k_K_digits 14 0 rfl h)
set_option maxRecDepth 20000 in
theorem b_K_tell_0 {e : z_E} {d : Nat} {x0 x1 : Int} {σ : z_M} {Q : Int → z_M → Prop} (h : ((x1 : Int) = 0 → z_ck (z_ok z_NT 2 x0) (Q (σ x0 2) σ)) ∧ (¬ (x1 : Int) = 0 → ((x1 : Int) = 1 → z_ck (z_ok z_NT 2 x0) (Q (σ x0 3) σ)) ∧ (¬ (x1 : Int) = 1 → ((x1 : Int) = 2 → z_ck (z_ok z_NT 2 x0) (Q (σ x0 4) σ)) ∧ (¬ (x1 : Int) = 2 → ((x1 : Int) = 3 → z_ck (z_ok z_NT 2 x0) (Q (σ x0 5) σ)) ∧ (¬ (x1 : Int) = 3 → ((x1 : Int) = 4 → z_ck (z_ok z_NT 2 x0) (Q (σ x0 6) σ)) ∧ (¬ (x1 : Int) = 4 → ((x1 : Int) = 5 → z_ck (z_ok z_NT 2 x0) (Q (σ x0 8) σ)) ∧ (¬ (x1 : Int) = 5 → z_ck (z_ok z_NT 2 x0) (Q (σ x0 7) σ)))))))) : z_C e (d + 1) m_K_tell [z_R x0, z_I x1] σ Q :=
  z_ent k_K_tell l_K_tell rfl (Nat.le_refl _) (z_blk k_K_tell 7 0 rfl h)
set_option maxRecDepth 20000 in
theorem b_K_worth_0 {e : z_E} {d : Nat} {x0 x1 : Int} {σ : z_M} {Q : Int → z_M → Prop} (h : ((x1 : Int) = 0 → z_ck (z_ok z_NT 2 x0) (Q (σ x0 5) σ)) ∧ (¬ (x1 : Int) = 0 → ((x1 : Int) = 1 → z_ck (z_ok z_NT 2 x0) (Q (σ x0 6) σ)) ∧ (¬ (x1 : Int) = 1 → ((x1 : Int) = 2 → z_ck (z_ok z_NT 2 x0) (Q (σ x0 3) σ)) ∧ (¬ (x1 : Int) = 2 → z_ck (z_ok z_NT 2 x0) (Q (z_wr (-(σ x0 4))) σ))))) : z_C e (d + 1) m_K_worth [z_R x0, z_I x1] σ Q :=
  z_ent k_K_worth l_K_worth rfl (Nat.le_refl _) (z_blk k_K_worth 8 0 rfl h)
set_option maxRecDepth 20000 in
theorem b_R_add_0 {e : z_E} {d : Nat} {x1 : Int} {σ : z_M} {Q : Int → z_M → Prop} (h : ((σ 3 2) < 100 → (0 ≤ ((σ 3 2) : Int) ∧ ((σ 3 2) : Int) < 100) ∧ (Q 1 (z_up (z_up σ 4 (σ 3 2) x1) 3 2 (z_wr (((z_up σ 4 (σ 3 2) x1) 3 2) + 1))))) ∧ (100 ≤ (σ 3 2) → Q 0 σ)) : z_C e (d + 1) m_R_add [z_R 3, z_I x1] σ Q :=
  z_ent k_R_add l_R_add rfl (Nat.le_refl _) (z_blk k_R_add 20 0 rfl h)
set_option maxRecDepth 20000 in
theorem b_R_readTape_0 {e : z_E} {d : Nat} {σ : z_M} {Q : Int → z_M → Prop} (h : z_C e d m_T_empty [z_R 5] (z_up σ 3 4 0) (fun _ σ1 => z_C e d m_R_readChoice [z_R 3, z_I 0] σ1 (fun r2 σ2 => (r2 = 0 → Q 0 (z_up σ2 3 2 0)) ∧ (¬ r2 = 0 → ((σ2 3 4) = (σ2 3 2) → Q 1 (z_up σ2 3 2 0)) ∧ (¬ (σ2 3 4) = (σ2 3 2) → z_C e d m_R_wrong [z_R 3, z_I (σ2 3 4)] σ2 (fun r3 σ3 => (r3 = 0 → Q 0 (z_up σ3 3 2 0)) ∧ (¬ r3 = 0 → Q 1 (z_up σ3 3 2 0)))))))) : z_C e (d + 1) m_R_readTape [z_R 3] σ Q :=
  z_ent k_R_readTape l_R_readTape rfl (Nat.le_refl _) (z_blk k_R_readTape 30 0 rfl h)
set_option maxRecDepth 20000 in
theorem b_R_wrong_0 {e : z_E} {d : Nat} {x1 : Int} {σ : z_M} {Q : Int → z_M → Prop} (h : Q 0 (z_up σ 3 3 x1)) : z_C e (d + 1) m_R_wrong [z_R 3, z_I x1] σ Q :=
  z_ent k_R_wrong l_R_wrong rfl (Nat.le_refl _) (z_blk k_R_wrong 7 0 rfl h)
set_option maxRecDepth 20000 in
theorem b_R_ahead_0 {e : z_E} {d : Nat} {σ : z_M} {Q : Int → z_M → Prop} (h : ((σ 3 2) ≤ (σ 3 4) → Q (-1) σ) ∧ ((σ 3 4) < (σ 3 2) → (100 ≤ (σ 3 4) → Q (-1) σ) ∧ ((σ 3 4) < 100 → (0 ≤ ((σ 3 4) : Int) ∧ ((σ 3 4) : Int) < 100) ∧ (Q (σ 4 (σ 3 4)) σ)))) : z_C e (d + 1) m_R_ahead [z_R 3] σ Q :=
  z_ent k_R_ahead l_R_ahead rfl (Nat.le_refl _) (z_blk k_R_ahead 18 0 rfl h)
set_option maxRecDepth 20000 in
theorem b_R_isDigit_0 {e : z_E} {d : Nat} {σ : z_M} {Q : Int → z_M → Prop} (h : z_C e d m_R_ahead [z_R 3] σ (fun r1 σ1 => (r1 < 48 → Q 0 σ1) ∧ (48 ≤ r1 → z_C e d m_R_ahead [z_R 3] σ1 (fun r2 σ2 => (57 < r2 → Q 0 σ2) ∧ (r2 ≤ 57 → Q 1 σ2))))) : z_C e (d + 1) m_R_isDigit [z_R 3] σ Q :=
  z_ent k_R_isDigit l_R_isDigit rfl (Nat.le_refl _) (z_blk k_R_isDigit 13 0 rfl h)
set_option maxRecDepth 20000 in
theorem b_R_pass_0 {e : z_E} {d : Nat} {x1 : Int} {σ : z_M} {Q : Int → z_M → Prop} (h : z_C e d m_R_ahead [z_R 3] σ (fun r1 σ1 => (r1 = x1 → Q 1 (z_up σ1 3 4 (z_wr ((σ1 3 4) + 1)))) ∧ (¬ r1 = x1 → z_C e d m_R_wrong [z_R 3, z_I (σ1 3 4)] σ1 (fun r2 σ2 => z_ck (r2 == 0 || r2 == 1) (Q r2 σ2))))) : z_C e (d + 1) m_R_pass [z_R 3, z_I x1] σ Q :=
  z_ent k_R_pass l_R_pass rfl (Nat.le_refl _) (z_blk k_R_pass 14 0 rfl h)
set_option maxRecDepth 20000 in
theorem b_R_passOpening_0 {e : z_E} {d : Nat} {x1 x2 : Int} {σ : z_M} {Q : Int → z_M → Prop} (h : z_C e d m_R_ahead [z_R 3] σ (fun r1 σ1 => (¬ r1 = x1 → z_C e d m_R_wrong [z_R 3, z_I (σ1 3 4)] σ1 (fun r2 σ2 => z_ck (r2 == 0 || r2 == 1) (Q r2 σ2))) ∧ (r1 = x1 → (x2 < 5 → Q 1 (z_up σ1 3 4 (z_wr ((σ1 3 4) + 1)))) ∧ (5 ≤ x2 → z_C e d m_R_wrong [z_R 3, z_I (σ1 3 4)] σ1 (fun r3 σ3 => z_ck (r3 == 0 || r3 == 1) (Q r3 σ3)))))) : z_C e (d + 1) m_R_passOpening [z_R 3, z_I x1, z_I x2] σ Q :=
  z_ent k_R_passOpening l_R_passOpening rfl (Nat.le_refl _) (z_blk k_R_passOpening 17 0 rfl h)
set_option maxRecDepth 20000 in
theorem b_R_readChoice_0 {e : z_E} {d : Nat} {x1 : Int} {σ : z_M} {Q : Int → z_M → Prop} (h : z_T e d m_R_readChoice 4 [some (z_R 3), some (z_I x1), some (z_I 0), some (z_I 0), none] σ Q) : z_C e (d + 1) m_R_readChoice [z_R 3, z_I x1] σ Q :=
  z_ent k_R_readChoice l_R_readChoice rfl (Nat.le_refl _) (z_blk k_R_readChoice 7 0 rfl h)
set_option maxRecDepth 20000 in
theorem b_R_readChoice_4 {e : z_E} {d : Nat} {x1 x2 x3 : Int} {σ : z_M} {Q : Int → z_M → Prop} (h : (100 ≤ x3 → z_C e d m_R_wrong [z_R 3, z_I (σ 3 4)] σ (fun r1 σ1 => z_ck (r1 == 0 || r1 == 1) (Q r1 σ1))) ∧ (x3 < 100 → z_C e d m_R_readComparison [z_R 3, z_I x1] σ (fun r2 σ2 => (¬ r2 = 0 → z_C e d m_R_ahead [z_R 3] σ2 (fun r3 σ3 => (r3 = 63 → z_C e d m_T_put [z_R 5, z_I 5, z_I 0] σ3 (fun _ σ4 => z_C e d m_R_passOpening [z_R 3, z_I 63, z_I x1] σ4 (fun r5 σ5 => (r5 = 0 → Q 0 σ5) ∧ (¬ r5 = 0 → z_C e d m_R_readChoice [z_R 3, z_I (z_wr (x1 + 1))] σ5 (fun r6 σ6 => (r6 = 0 → Q 0 σ6) ∧ (¬ r6 = 0 → z_C e d m_R_pass [z_R 3, z_I 58] σ6 (fun r7 σ7 => (¬ r7 = 0 → z_C e d m_T_put [z_R 5, z_I 6, z_I x2] σ7 (fun _ σ8 => z_C e d m_T_lead [z_R 5, z_I (σ3 5 1), z_I (σ8 5 1)] σ8 (fun _ σ9 => z_T e d m_R_readChoice 4 [some (z_R 3), some (z_I x1), some (z_I (σ8 5 1)), some (z_I (z_wr (x3 + 1))), none] σ9 Q))) ∧ (r7 = 0 → Q 0 σ7)))))))) ∧ (¬ r3 = 63 → z_C e d m_T_leadAll [z_R 5, z_I x2] σ3 (fun _ σ10 => Q 1 σ10)))) ∧ (r2 = 0 → Q 0 σ2)))) : z_T e d m_R_readChoice 4 [some (z_R 3), some (z_I x1), some (z_I x2), some (z_I x3), none] σ Q :=
  z_blk k_R_readChoice 56 4 rfl h
set_option maxRecDepth 20000 in
theorem b_R_readComparison_0 {e : z_E} {d : Nat} {x1 : Int} {σ : z_M} {Q : Int → z_M → Prop} (h : z_C e d m_R_readSum [z_R 3, z_I x1] σ (fun r1 σ1 => (¬ r1 = 0 → z_C e d m_R_ahead [z_R 3] σ1 (fun r2 σ2 => (r2 = 60 → z_T e d m_R_readComparison 29 [some (z_R 3), some (z_I x1), some (z_I r2)] σ2 Q) ∧ (¬ r2 = 60 → (r2 = 61 → z_T e d m_R_readComparison 29 [some (z_R 3), some (z_I x1), some (z_I r2)] σ2 Q) ∧ (¬ r2 = 61 → Q 1 σ2)))) ∧ (r1 = 0 → Q 0 σ1))) : z_C e (d + 1) m_R_readComparison [z_R 3, z_I x1] σ Q :=
  z_ent k_R_readComparison l_R_readComparison rfl (Nat.le_refl _) (z_blk k_R_readComparison 17 0 rfl h)
set_option maxRecDepth 20000 in
theorem b_R_readComparison_29 {e : z_E} {d : Nat} {x1 x2 : Int} {σ : z_M} {Q : Int → z_M → Prop} (h : z_C e d m_R_readSum [z_R 3, z_I x1] (z_up σ 3 4 (z_wr ((σ 3 4) + 1))) (fun r1 σ1 => (¬ r1 = 0 → (¬ x2 = 60 → z_C e d m_T_put [z_R 5, z_I 12, z_I 0] σ1 (fun _ σ2 => Q 1 σ2)) ∧ (x2 = 60 → z_C e d m_T_put [z_R 5, z_I 11, z_I 0] σ1 (fun _ σ3 => Q 1 σ3))) ∧ (r1 = 0 → Q 0 σ1))) : z_T e d m_R_readComparison 29 [some (z_R 3), some (z_I x1), some (z_I x2)] σ Q :=
  z_blk k_R_readComparison 23 17 rfl h
set_option maxRecDepth 20000 in
theorem b_R_readSum_0 {e : z_E} {d : Nat} {x1 : Int} {σ : z_M} {Q : Int → z_M → Prop} (h : z_C e d m_R_readProduct [z_R 3, z_I x1] σ (fun r1 σ1 => (¬ r1 = 0 → z_T e d m_R_readSum 12 [some (z_R 3), some (z_I x1), some (z_I 0), none] σ1 Q) ∧ (r1 = 0 → Q 0 σ1))) : z_C e (d + 1) m_R_readSum [z_R 3, z_I x1] σ Q :=
  z_ent k_R_readSum l_R_readSum rfl (Nat.le_refl _) (z_blk k_R_readSum 9 0 rfl h)
set_option maxRecDepth 20000 in
theorem b_R_readSum_12 {e : z_E} {d : Nat} {x1 x2 : Int} {σ : z_M} {Q : Int → z_M → Prop} (h : (100 ≤ x2 → Q 1 σ) ∧ (x2 < 100 → z_C e d m_R_ahead [z_R 3] σ (fun r1 σ1 => (r1 = 43 → z_T e d m_R_readSum 36 [some (z_R 3), some (z_I x1), some (z_I x2), none] σ1 Q) ∧ (¬ r1 = 43 → z_C e d m_R_ahead [z_R 3] σ1 (fun r2 σ2 => (¬ r2 = 45 → Q 1 σ2) ∧ (r2 = 45 → z_T e d m_R_readSum 36 [some (z_R 3), some (z_I x1), some (z_I x2), none] σ2 Q)))))) : z_T e d m_R_readSum 12 [some (z_R 3), some (z_I x1), some (z_I x2), none] σ Q :=
  z_blk k_R_readSum 15 8 rfl h
set_option maxRecDepth 20000 in
theorem b_R_readSum_36 {e : z_E} {d : Nat} {x1 x2 : Int} {σ : z_M} {Q : Int → z_M → Prop} (h : z_C e d m_R_ahead [z_R 3] σ (fun r1 σ1 => z_C e d m_R_readProduct [z_R 3, z_I x1] (z_up σ1 3 4 (z_wr ((σ1 3 4) + 1))) (fun r2 σ2 => (¬ r2 = 0 → (¬ r1 = 43 → z_C e d m_T_put [z_R 5, z_I 8, z_I 0] σ2 (fun _ σ3 => z_T e d m_R_readSum 12 [some (z_R 3), some (z_I x1), some (z_I (z_wr (x2 + 1))), none] σ3 Q)) ∧ (r1 = 43 → z_C e d m_T_put [z_R 5, z_I 7, z_I 0] σ2 (fun _ σ4 => z_T e d m_R_readSum 12 [some (z_R 3), some (z_I x1), some (z_I (z_wr (x2 + 1))), none] σ4 Q))) ∧ (r2 = 0 → Q 0 σ2)))) : z_T e d m_R_readSum 36 [some (z_R 3), some (z_I x1), some (z_I x2), none] σ Q :=
  z_blk k_R_readSum 27 19 rfl h
set_option maxRecDepth 20000 in
theorem b_R_readProduct_0 {e : z_E} {d : Nat} {x1 : Int} {σ : z_M} {Q : Int → z_M → Prop} (h : z_C e d m_R_readUnit [z_R 3, z_I x1] σ (fun r1 σ1 => (¬ r1 = 0 → z_T e d m_R_readProduct 12 [some (z_R 3), some (z_I x1), some (z_I 0), none] σ1 Q) ∧ (r1 = 0 → Q 0 σ1))) : z_C e (d + 1) m_R_readProduct [z_R 3, z_I x1] σ Q :=
  z_ent k_R_readProduct l_R_readProduct rfl (Nat.le_refl _) (z_blk k_R_readProduct 9 0 rfl h)
set_option maxRecDepth 20000 in
theorem b_R_readProduct_12 {e : z_E} {d : Nat} {x1 x2 : Int} {σ : z_M} {Q : Int → z_M → Prop} (h : (100 ≤ x2 → Q 1 σ) ∧ (x2 < 100 → z_C e d m_R_ahead [z_R 3] σ (fun r1 σ1 => (r1 = 42 → z_T e d m_R_readProduct 36 [some (z_R 3), some (z_I x1), some (z_I x2), none] σ1 Q) ∧ (¬ r1 = 42 → z_C e d m_R_ahead [z_R 3] σ1 (fun r2 σ2 => (¬ r2 = 47 → Q 1 σ2) ∧ (r2 = 47 → z_T e d m_R_readProduct 36 [some (z_R 3), some (z_I x1), some (z_I x2), none] σ2 Q)))))) : z_T e d m_R_readProduct 12 [some (z_R 3), some (z_I x1), some (z_I x2), none] σ Q :=
  z_blk k_R_readProduct 15 8 rfl h
set_option maxRecDepth 20000 in
theorem b_R_readProduct_36 {e : z_E} {d : Nat} {x1 x2 : Int} {σ : z_M} {Q : Int → z_M → Prop} (h : z_C e d m_R_ahead [z_R 3] σ (fun r1 σ1 => z_C e d m_R_readUnit [z_R 3, z_I x1] (z_up σ1 3 4 (z_wr ((σ1 3 4) + 1))) (fun r2 σ2 => (¬ r2 = 0 → (¬ r1 = 42 → z_C e d m_T_put [z_R 5, z_I 10, z_I 0] σ2 (fun _ σ3 => z_T e d m_R_readProduct 12 [some (z_R 3), some (z_I x1), some (z_I (z_wr (x2 + 1))), none] σ3 Q)) ∧ (r1 = 42 → z_C e d m_T_put [z_R 5, z_I 9, z_I 0] σ2 (fun _ σ4 => z_T e d m_R_readProduct 12 [some (z_R 3), some (z_I x1), some (z_I (z_wr (x2 + 1))), none] σ4 Q))) ∧ (r2 = 0 → Q 0 σ2)))) : z_T e d m_R_readProduct 36 [some (z_R 3), some (z_I x1), some (z_I x2), none] σ Q :=
  z_blk k_R_readProduct 27 19 rfl h
set_option maxRecDepth 20000 in
theorem b_R_readUnit_0 {e : z_E} {d : Nat} {x1 : Int} {σ : z_M} {Q : Int → z_M → Prop} (h : z_C e d m_R_ahead [z_R 3] σ (fun r1 σ1 => ((r1 : Int) = 40 → z_C e d m_R_readBracket [z_R 3, z_I x1] σ1 (fun r11 σ11 => z_ck (r11 == 0 || r11 == 1) (Q r11 σ11))) ∧ (¬ (r1 : Int) = 40 → ((r1 : Int) = 45 → z_C e d m_R_passOpening [z_R 3, z_I 45, z_I x1] σ1 (fun r8 σ8 => (r8 = 0 → Q 0 σ8) ∧ (¬ r8 = 0 → z_C e d m_R_readUnit [z_R 3, z_I (z_wr (x1 + 1))] σ8 (fun r9 σ9 => (¬ r9 = 0 → z_C e d m_T_put [z_R 5, z_I 4, z_I 0] σ9 (fun _ σ10 => Q 1 σ10)) ∧ (r9 = 0 → Q 0 σ9))))) ∧ (¬ (r1 : Int) = 45 → ((r1 : Int) = 99 → z_C e d m_R_readIndex [z_R 3, z_I 12] σ1 (fun r6 σ6 => (¬ r6 = 0 → z_C e d m_T_put [z_R 5, z_I 2, z_I (σ6 3 5)] σ6 (fun _ σ7 => Q 1 σ7)) ∧ (r6 = 0 → Q 0 σ6))) ∧ (¬ (r1 : Int) = 99 → ((r1 : Int) = 102 → z_C e d m_R_readCall [z_R 3, z_I x1] σ1 (fun r5 σ5 => z_ck (r5 == 0 || r5 == 1) (Q r5 σ5))) ∧ (¬ (r1 : Int) = 102 → ((r1 : Int) = 120 → z_C e d m_T_put [z_R 5, z_I 1, z_I 0] (z_up σ1 3 4 (z_wr ((σ1 3 4) + 1))) (fun _ σ4 => Q 1 σ4)) ∧ (¬ (r1 : Int) = 120 → z_C e d m_R_readNumber [z_R 3] σ1 (fun r2 σ2 => (¬ r2 = 0 → z_C e d m_T_put [z_R 5, z_I 0, z_I (σ2 3 5)] σ2 (fun _ σ3 => Q 1 σ3)) ∧ (r2 = 0 → Q 0 σ2))))))))) : z_C e (d + 1) m_R_readUnit [z_R 3, z_I x1] σ Q :=
  z_ent k_R_readUnit l_R_readUnit rfl (Nat.le_refl _) (z_blk k_R_readUnit 23 0 rfl h)
set_option maxRecDepth 20000 in
theorem b_R_readCall_0 {e : z_E} {d : Nat} {x1 : Int} {σ : z_M} {Q : Int → z_M → Prop} (h : z_C e d m_R_readIndex [z_R 3, z_I 12] σ (fun r1 σ1 => (¬ r1 = 0 → z_C e d m_R_readBracket [z_R 3, z_I x1] σ1 (fun r2 σ2 => (¬ r2 = 0 → z_C e d m_T_put [z_R 5, z_I 3, z_I (σ1 3 5)] σ2 (fun _ σ3 => Q 1 σ3)) ∧ (r2 = 0 → Q 0 σ2))) ∧ (r1 = 0 → Q 0 σ1))) : z_C e (d + 1) m_R_readCall [z_R 3, z_I x1] σ Q :=
  z_ent k_R_readCall l_R_readCall rfl (Nat.le_refl _) (z_blk k_R_readCall 20 0 rfl h)
set_option maxRecDepth 20000 in
theorem b_R_readBracket_0 {e : z_E} {d : Nat} {x1 : Int} {σ : z_M} {Q : Int → z_M → Prop} (h : z_C e d m_R_passOpening [z_R 3, z_I 40, z_I x1] σ (fun r1 σ1 => (r1 = 0 → Q 0 σ1) ∧ (¬ r1 = 0 → z_C e d m_R_readChoice [z_R 3, z_I (z_wr (x1 + 1))] σ1 (fun r2 σ2 => (r2 = 0 → Q 0 σ2) ∧ (¬ r2 = 0 → z_C e d m_R_pass [z_R 3, z_I 41] σ2 (fun r3 σ3 => (r3 = 0 → Q 0 σ3) ∧ (¬ r3 = 0 → Q 1 σ3))))))) : z_C e (d + 1) m_R_readBracket [z_R 3, z_I x1] σ Q :=
  z_ent k_R_readBracket l_R_readBracket rfl (Nat.le_refl _) (z_blk k_R_readBracket 20 0 rfl h)
set_option maxRecDepth 20000 in
theorem b_R_readIndex_0 {e : z_E} {d : Nat} {x1 : Int} {σ : z_M} {Q : Int → z_M → Prop} (h : z_C e d m_R_readNumber [z_R 3] (z_up σ 3 4 (z_wr ((σ 3 4) + 1))) (fun r1 σ1 => (¬ r1 = 0 → ((σ1 3 5) < x1 → Q 1 σ1) ∧ (x1 ≤ (σ1 3 5) → z_C e d m_R_wrong [z_R 3, z_I ((z_up σ 3 4 (z_wr ((σ 3 4) + 1))) 3 4)] σ1 (fun r2 σ2 => (r2 = 0 → Q 0 σ2) ∧ (¬ r2 = 0 → Q 1 σ2)))) ∧ (r1 = 0 → Q 0 σ1))) : z_C e (d + 1) m_R_readIndex [z_R 3, z_I x1] σ Q :=
  z_ent k_R_readIndex l_R_readIndex rfl (Nat.le_refl _) (z_blk k_R_readIndex 25 0 rfl h)
set_option maxRecDepth 20000 in
theorem b_R_readNumber_0 {e : z_E} {d : Nat} {σ : z_M} {Q : Int → z_M → Prop} (h : z_C e d m_R_isDigit [z_R 3] σ (fun r1 σ1 => (¬ r1 = 0 → z_C e d m_R_ahead [z_R 3] σ1 (fun r2 σ2 => z_C e d m_R_isDigit [z_R 3] (z_up (z_up σ2 3 5 (z_wr (r2 - 48))) 3 4 (z_wr (((z_up σ2 3 5 (z_wr (r2 - 48))) 3 4) + 1))) (fun r3 σ3 => (r3 = 0 → Q 1 σ3) ∧ (¬ r3 = 0 → z_C e d m_R_ahead [z_R 3] σ3 (fun r4 σ4 => Q 1 (z_up (z_up σ4 3 5 (z_wr ((z_wr ((z_wr (10 * (σ3 3 5))) + r4)) - 48))) 3 4 (z_wr (((z_up σ4 3 5 (z_wr ((z_wr ((z_wr (10 * (σ3 3 5))) + r4)) - 48))) 3 4) + 1)))))))) ∧ (r1 = 0 → z_C e d m_R_wrong [z_R 3, z_I (σ1 3 4)] σ1 (fun r5 σ5 => z_ck (r5 == 0 || r5 == 1) (Q r5 σ5))))) : z_C e (d + 1) m_R_readNumber [z_R 3] σ Q :=
  z_ent k_R_readNumber l_R_readNumber rfl (Nat.le_refl _) (z_blk k_R_readNumber 39 0 rfl h)
set_option maxRecDepth 20000 in
theorem b_U_renew_0 {e : z_E} {d : Nat} {x0 x1 : Int} {σ : z_M} {Q : Int → z_M → Prop} (h : z_ck (z_ok z_NT 4 x0) (z_ck (z_ok z_NT 4 x0) (z_ck (z_ok z_NT 4 x0) (z_ck (z_ok z_NT 4 x0) (Q 0 (z_up (z_up (z_up (z_up σ x0 1 x1) x0 2 0) x0 3 0) x0 4 0)))))) : z_C e (d + 1) m_U_renew [z_R x0, z_I x1] σ Q :=
  z_ent k_U_renew l_U_renew rfl (Nat.le_refl _) (z_blk k_U_renew 15 0 rfl h)
set_option maxRecDepth 20000 in
theorem b_U_isBusy_0 {e : z_E} {d : Nat} {x0 : Int} {σ : z_M} {Q : Int → z_M → Prop} (h : z_ck (z_ok z_NT 4 x0) (((σ x0 2) = 1 → Q 1 σ) ∧ (¬ (σ x0 2) = 1 → z_ck (z_ok z_NT 4 x0) ((¬ (σ x0 2) = 2 → Q 0 σ) ∧ ((σ x0 2) = 2 → Q 1 σ))))) : z_C e (d + 1) m_U_isBusy [z_R x0] σ Q :=
  z_ent k_U_isBusy l_U_isBusy rfl (Nat.le_refl _) (z_blk k_U_isBusy 13 0 rfl h)
set_option maxRecDepth 20000 in
theorem b_U_top_0 {e : z_E} {d : Nat} {x0 : Int} {σ : z_M} {Q : Int → z_M → Prop} (h : z_ck (z_ok z_NT 4 x0) (((σ x0 3) ≤ 0 → Q (-1) σ) ∧ (0 < (σ x0 3) → z_ck (z_ok z_NT 4 x0) ((30 < (σ x0 3) → Q (-1) σ) ∧ ((σ x0 3) ≤ 30 → z_ck (z_ok z_NT 4 x0) (z_ck (z_ok z_NT 4 x0) (z_ck (z_ok z_NT 500030 (x0 + 1)) ((0 ≤ ((z_wr ((σ x0 3) - 1)) : Int) ∧ ((z_wr ((σ x0 3) - 1)) : Int) < 30) ∧ (Q ((x0 + 1) + 1 + 3 * (z_wr ((σ x0 3) - 1))) σ))))))))) : z_C e (d + 1) m_U_top [z_R x0] σ Q :=
  z_ent k_U_top l_U_top rfl (Nat.le_refl _) (z_blk k_U_top 18 0 rfl h)
set_option maxRecDepth 20000 in
theorem b_U_hasFrameOf_0 {e : z_E} {d : Nat} {x0 x1 : Int} {σ : z_M} {Q : Int → z_M → Prop} (h : z_T e d m_U_hasFrameOf 2 [some (z_R x0), some (z_I x1), some (z_I 0)] σ Q) : z_C e (d + 1) m_U_hasFrameOf [z_R x0, z_I x1] σ Q :=
  z_ent k_U_hasFrameOf l_U_hasFrameOf rfl (Nat.le_refl _) (z_blk k_U_hasFrameOf 5 0 rfl h)
set_option maxRecDepth 20000 in
theorem b_U_hasFrameOf_2 {e : z_E} {d : Nat} {x0 x1 x2 : Int} {σ : z_M} {Q : Int → z_M → Prop} (h : z_ck (z_ok z_NT 4 x0) (((σ x0 3) ≤ x2 → Q 0 σ) ∧ (x2 < (σ x0 3) → (30 ≤ x2 → Q 0 σ) ∧ (x2 < 30 → z_ck (z_ok z_NT 4 x0) (z_ck (z_ok z_NT 500030 (x0 + 1)) ((0 ≤ (x2 : Int) ∧ (x2 : Int) < 30) ∧ (z_ck (z_ok z_NT 1 ((x0 + 1) + 1 + 3 * x2)) ((¬ (σ ((x0 + 1) + 1 + 3 * x2) 3) = x1 → z_T e d m_U_hasFrameOf 2 [some (z_R x0), some (z_I x1), some (z_I (z_wr (x2 + 1)))] σ Q) ∧ ((σ ((x0 + 1) + 1 + 3 * x2) 3) = x1 → Q 1 σ))))))))) : z_T e d m_U_hasFrameOf 2 [some (z_R x0), some (z_I x1), some (z_I x2)] σ Q :=
  z_blk k_U_hasFrameOf 19 2 rfl h
set_option maxRecDepth 20000 in
theorem b_U_begin_0 {e : z_E} {d : Nat} {x0 x1 x2 x3 : Int} {σ : z_M} {Q : Int → z_M → Prop} (h : z_ck (z_ok z_NT 4 x0) (((σ x0 3) < 0 → Q 0 σ) ∧ (0 ≤ (σ x0 3) → z_ck (z_ok z_NT 4 x0) (((σ x0 3) < 30 → z_ck (z_ok z_NT 4 x0) (z_ck (z_ok z_NT 4 x0) (z_ck (z_ok z_NT 500030 (x0 + 1)) ((0 ≤ ((σ x0 3) : Int) ∧ ((σ x0 3) : Int) < 30) ∧ (z_ck (z_ok z_NT 4 x0) (z_ck (z_ok z_NT 4 x0) (z_ck (z_ok z_NT 1 ((x0 + 1) + 1 + 3 * (σ x0 3))) (z_ck (z_ok z_NT 1 ((x0 + 1) + 1 + 3 * (σ x0 3))) (z_ir x2 ∧ (z_ck (z_ok z_NT 1 ((x0 + 1) + 1 + 3 * (σ x0 3))) (z_ck (z_ok z_NT 4 x0) (z_ck (z_ok z_NT 1 ((x0 + 1) + 1 + 3 * (σ x0 3))) (z_C e d m_F_begin [z_R ((x0 + 1) + 1 + 3 * (σ x0 3)), z_I ((z_up (z_up (z_up (z_up σ x0 3 (z_wr ((σ x0 3) + 1))) ((x0 + 1) + 1 + 3 * (σ x0 3)) 3 x1) ((x0 + 1) + 1 + 3 * (σ x0 3)) 2 x2) ((x0 + 1) + 1 + 3 * (σ x0 3)) 4 x3) x0 4)] (z_up (z_up (z_up (z_up σ x0 3 (z_wr ((σ x0 3) + 1))) ((x0 + 1) + 1 + 3 * (σ x0 3)) 3 x1) ((x0 + 1) + 1 + 3 * (σ x0 3)) 2 x2) ((x0 + 1) + 1 + 3 * (σ x0 3)) 4 x3) (fun _ σ1 => z_ck (z_ok z_NT 4 x0) (Q 0 (z_up σ1 x0 2 1)))))))))))))))) ∧ (30 ≤ (σ x0 3) → Q 0 σ))))) : z_C e (d + 1) m_U_begin [z_R x0, z_I x1, z_R x2, z_I x3] σ Q :=
  z_ent k_U_begin l_U_begin rfl (Nat.le_refl _) (z_blk k_U_begin 38 0 rfl h)
set_option maxRecDepth 20000 in
theorem b_U_beginsAnew_0 {e : z_E} {d : Nat} {x0 x1 : Int} {σ : z_M} {Q : Int → z_M → Prop} (h : z_T e d m_U_beginsAnew 2 [some (z_R x0), some (z_I x1), some (z_I 0)] σ Q) : z_C e (d + 1) m_U_beginsAnew [z_R x0, z_I x1] σ Q :=
  z_ent k_U_beginsAnew l_U_beginsAnew rfl (Nat.le_refl _) (z_blk k_U_beginsAnew 5 0 rfl h)
set_option maxRecDepth 20000 in
theorem b_U_beginsAnew_2 {e : z_E} {d : Nat} {x0 x1 x2 : Int} {σ : z_M} {Q : Int → z_M → Prop} (h : z_ck (z_ok z_NT 4 x0) (((σ x0 3) ≤ x2 → Q 0 σ) ∧ (x2 < (σ x0 3) → (30 ≤ x2 → Q 0 σ) ∧ (x2 < 30 → z_ck (z_ok z_NT 4 x0) (z_ck (z_ok z_NT 500030 (x0 + 1)) ((0 ≤ (x2 : Int) ∧ (x2 : Int) < 30) ∧ (z_ck (z_ok z_NT 1 ((x0 + 1) + 1 + 3 * x2)) (((z_and (σ ((x0 + 1) + 1 + 3 * x2) 7) x1) = 0 → z_T e d m_U_beginsAnew 2 [some (z_R x0), some (z_I x1), some (z_I (z_wr (x2 + 1)))] σ Q) ∧ (¬ (z_and (σ ((x0 + 1) + 1 + 3 * x2) 7) x1) = 0 → z_ck (z_ok z_NT 4 x0) (z_ck (z_ok z_NT 500030 (x0 + 1)) ((0 ≤ (x2 : Int) ∧ (x2 : Int) < 30) ∧ (z_ck (z_ok z_NT 4 x0) (z_ck (z_ok z_NT 1 ((x0 + 1) + 1 + 3 * x2)) (z_C e d m_F_begin [z_R ((x0 + 1) + 1 + 3 * x2), z_I (σ x0 4)] σ (fun _ σ1 => z_ck (z_ok z_NT 4 x0) (z_ck (z_ok z_NT 4 x0) (Q 1 (z_up (z_up σ1 x0 3 (z_wr (x2 + 1))) x0 2 1)))))))))))))))))) : z_T e d m_U_beginsAnew 2 [some (z_R x0), some (z_I x1), some (z_I x2)] σ Q :=
  z_blk k_U_beginsAnew 34 2 rfl h
set_option maxRecDepth 20000 in
theorem b_U_give_0 {e : z_E} {d : Nat} {x0 x1 x2 x3 : Int} {σ : z_M} {Q : Int → z_M → Prop} (h : z_ck (z_ok z_NT 4 x0) (z_C e d m_U_top [z_R x0] σ (fun r1 σ1 => (0 ≤ r1 → z_ck (z_ok z_NT 4 x0) (z_ck (z_ok z_NT 1 r1) (z_C e d m_F_take [z_R r1, z_I x1, z_I x2, z_I x3] (z_up σ1 x0 2 1) (fun _ σ2 => Q 0 σ2)))) ∧ (r1 < 0 → z_ck (z_ok z_NT 4 x0) (z_ck (z_ok z_NT 4 x0) (Q 0 (z_up (z_up σ1 x0 2 3) x0 7 x2))))))) : z_C e (d + 1) m_U_give [z_R x0, z_I x1, z_I x2, z_I x3] σ Q :=
  z_ent k_U_give l_U_give rfl (Nat.le_refl _) (z_blk k_U_give 16 0 rfl h)
set_option maxRecDepth 20000 in
theorem b_U_waitFor_0 {e : z_E} {d : Nat} {x0 x1 x2 : Int} {σ : z_M} {Q : Int → z_M → Prop} (h : z_ck (z_ok z_NT 4 x0) (z_ck (z_ok z_NT 4 x0) (z_ck (z_ok z_NT 4 x0) (Q 0 (z_up (z_up (z_up σ x0 2 2) x0 5 x1) x0 6 x2))))) : z_C e (d + 1) m_U_waitFor [z_R x0, z_I x1, z_I x2] σ Q :=
  z_ent k_U_waitFor l_U_waitFor rfl (Nat.le_refl _) (z_blk k_U_waitFor 12 0 rfl h)
set_option maxRecDepth 20000 in
theorem b_U_failBy_0 {e : z_E} {d : Nat} {x0 x1 : Int} {σ : z_M} {Q : Int → z_M → Prop} (h : z_ck (z_ok z_NT 4 x0) (z_ck (z_ok z_NT 4 x0) (z_ck (z_ok z_NT 4 x0) (Q 0 (z_up (z_up (z_up σ x0 2 4) x0 8 x1) x0 3 0))))) : z_C e (d + 1) m_U_failBy [z_R x0, z_I x1] σ Q :=
  z_ent k_U_failBy l_U_failBy rfl (Nat.le_refl _) (z_blk k_U_failBy 12 0 rfl h)
set_option maxRecDepth 20000 in
theorem b_U_outcome_0 {e : z_E} {d : Nat} {x0 : Int} {σ : z_M} {Q : Int → z_M → Prop} (h : z_ck (z_ok z_NT 4 x0) ((¬ (σ x0 2) = 4 → z_ck (z_ok z_NT 4 x0) (Q (σ x0 7) σ)) ∧ ((σ x0 2) = 4 → z_ck (z_ok z_NT 4 x0) (Q (z_wr ((-10000) - (σ x0 8))) σ)))) : z_C e (d + 1) m_U_outcome [z_R x0] σ Q :=
  z_ent k_U_outcome l_U_outcome rfl (Nat.le_refl _) (z_blk k_U_outcome 12 0 rfl h)
set_option maxRecDepth 20000 in
theorem b_S_find_0 {e : z_E} {d : Nat} {x1 : Int} {σ : z_M} {Q : Int → z_M → Prop} (h : (x1 < 0 → Q (-1) σ) ∧ (0 ≤ x1 → (1212 ≤ x1 → Q (-1) σ) ∧ (x1 < 1212 → (0 ≤ (x1 : Int) ∧ (x1 : Int) < 1212) ∧ (Q (σ 10 x1) σ)))) : z_C e (d + 1) m_S_find [z_R 7, z_I x1] σ Q :=
  z_ent k_S_find l_S_find rfl (Nat.le_refl _) (z_blk k_S_find 13 0 rfl h)
set_option maxRecDepth 20000 in
theorem b_S_byNumber_0 {e : z_E} {d : Nat} {x1 : Int} {σ : z_M} {Q : Int → z_M → Prop} (h : z_T e d m_S_byNumber 14 [none, none, some (z_I x1), some (z_R 10), some (z_I 1212), some (z_I 0), none] σ Q) : z_C e (d + 1) m_S_byNumber [z_R 7, z_I x1] σ Q :=
  z_ent k_S_byNumber l_S_byNumber rfl (Nat.le_refl _) (z_blk k_S_byNumber 13 0 rfl h)
set_option maxRecDepth 20000 in
theorem b_S_byNumber_14 {e : z_E} {d : Nat} {x2 x3 x4 x5 : Int} {σ : z_M} {Q : Int → z_M → Prop} (h : (x4 ≤ x5 → Q (-20002) σ) ∧ (x5 < x4 → z_ck (z_ok z_NT 601212 x3) ((0 ≤ (x5 : Int) ∧ (x5 : Int) < 1212) ∧ (((σ x3 x5) < 0 → z_T e d m_S_byNumber 45 [none, none, some (z_I x2), some (z_R x3), some (z_I x4), some (z_I x5), none] σ Q) ∧ (0 ≤ (σ x3 x5) → (¬ x2 = 0 → z_T e d m_S_byNumber 45 [none, none, some (z_I (z_wr (x2 + (-1)))), some (z_R x3), some (z_I x4), some (z_I x5), none] σ Q) ∧ (x2 = 0 → z_ck (z_ok z_NT 2 (σ x3 x5)) (Q (σ (σ x3 x5) 1) σ))))))) : z_T e d m_S_byNumber 14 [none, none, some (z_I x2), some (z_R x3), some (z_I x4), some (z_I x5), none] σ Q :=
  z_blk k_S_byNumber 16 10 rfl h
set_option maxRecDepth 20000 in
theorem b_S_byNumber_45 {e : z_E} {d : Nat} {x2 x3 x4 x5 : Int} {σ : z_M} {Q : Int → z_M → Prop} (h : z_T e d m_S_byNumber 14 [none, none, some (z_I x2), some (z_R x3), some (z_I x4), some (z_I (z_wr (x5 + 1))), none] σ Q) : z_T e d m_S_byNumber 45 [none, none, some (z_I x2), some (z_R x3), some (z_I x4), some (z_I x5), none] σ Q :=
  z_blk k_S_byNumber 5 25 rfl h
set_option maxRecDepth 20000 in
theorem b_S_keep_0 {e : z_E} {d : Nat} {x1 x2 : Int} {σ : z_M} {Q : Int → z_M → Prop} (h : z_ck (z_ok z_NT 1 x1) (z_C e d m_S_find [z_R 7, z_I (σ x1 3)] σ (fun r1 σ1 => (0 ≤ r1 → Q 0 σ1) ∧ (r1 < 0 → z_ck (z_ok z_NT 1 x1) (z_C e d m_C_within [z_I (σ1 x1 3), z_I 1212] σ1 (fun r2 σ2 => (r2 = 0 → Q 0 σ2) ∧ (¬ r2 = 0 → ((σ2 7 2) < 101 → (0 ≤ ((σ2 7 2) : Int) ∧ ((σ2 7 2) : Int) < 101) ∧ (z_ck (z_ok z_NT 2 (σ2 8 (σ2 7 2))) (z_C e d m_K_fill [z_R (σ2 8 (σ2 7 2)), z_R x1, z_I x2] (z_up σ2 7 2 (z_wr ((σ2 7 2) + 1))) (fun _ σ3 => z_ck (z_ok z_NT 2 (σ2 8 (σ2 7 2))) ((0 ≤ ((σ3 (σ2 8 (σ2 7 2)) 1) : Int) ∧ ((σ3 (σ2 8 (σ2 7 2)) 1) : Int) < 1212) ∧ (((σ2 8 (σ2 7 2)) < 0 ∨ z_ok z_NT 2 (σ2 8 (σ2 7 2)) = true) ∧ z_ir (σ2 8 (σ2 7 2)) ∧ (z_ck (z_ok z_NT 2 (σ2 8 (σ2 7 2))) (z_C e d m_S_shrink [z_R 7] (z_up (z_up (z_up σ3 10 (σ3 (σ2 8 (σ2 7 2)) 1) (σ2 8 (σ2 7 2))) 7 3 (z_wr (((z_up σ3 10 (σ3 (σ2 8 (σ2 7 2)) 1) (σ2 8 (σ2 7 2))) 7 3) + ((z_up σ3 10 (σ3 (σ2 8 (σ2 7 2)) 1) (σ2 8 (σ2 7 2))) (σ2 8 (σ2 7 2)) 4)))) 7 9 (z_wr (((z_up (z_up σ3 10 (σ3 (σ2 8 (σ2 7 2)) 1) (σ2 8 (σ2 7 2))) 7 3 (z_wr (((z_up σ3 10 (σ3 (σ2 8 (σ2 7 2)) 1) (σ2 8 (σ2 7 2))) 7 3) + ((z_up σ3 10 (σ3 (σ2 8 (σ2 7 2)) 1) (σ2 8 (σ2 7 2))) (σ2 8 (σ2 7 2)) 4)))) 7 9) + 1))) (fun _ σ4 => Q 0 σ4))))))))) ∧ (101 ≤ (σ2 7 2) → Q 0 σ2)))))))) : z_C e (d + 1) m_S_keep [z_R 7, z_R x1, z_I x2] σ Q :=
  z_ent k_S_keep l_S_keep rfl (Nat.le_refl _) (z_blk k_S_keep 54 0 rfl h)
set_option maxRecDepth 20000 in
theorem b_S_shrink_0 {e : z_E} {d : Nat} {σ : z_M} {Q : Int → z_M → Prop} (h : z_T e d m_S_shrink 2 [some (z_R 7), some (z_I 0)] σ Q) : z_C e (d + 1) m_S_shrink [z_R 7] σ Q :=
  z_ent k_S_shrink l_S_shrink rfl (Nat.le_refl _) (z_blk k_S_shrink 5 0 rfl h)
set_option maxRecDepth 20000 in
theorem b_S_shrink_2 {e : z_E} {d : Nat} {x1 : Int} {σ : z_M} {Q : Int → z_M → Prop} (h : (101 ≤ x1 → Q 0 σ) ∧ (x1 < 101 → ((σ 7 2) ≤ 0 → Q 0 σ) ∧ (0 < (σ 7 2) → ((σ 7 3) ≤ (σ 7 5) → Q 0 σ) ∧ ((σ 7 5) < (σ 7 3) → z_C e d m_S_leastWorth [z_R 7] σ (fun r1 σ1 => z_C e d m_S_remove [z_R 7, z_I r1] σ1 (fun _ σ2 => z_T e d m_S_shrink 2 [some (z_R 7), some (z_I (z_wr (x1 + 1)))] (z_up σ2 7 8 (z_wr ((σ2 7 8) + 1))) Q)))))) : z_T e d m_S_shrink 2 [some (z_R 7), some (z_I x1)] σ Q :=
  z_blk k_S_shrink 26 2 rfl h
set_option maxRecDepth 20000 in
theorem b_S_leastWorth_0 {e : z_E} {d : Nat} {σ : z_M} {Q : Int → z_M → Prop} (h : z_T e d m_S_leastWorth 4 [some (z_R 7), some (z_I 0), some (z_I 1), none, none] σ Q) : z_C e (d + 1) m_S_leastWorth [z_R 7] σ Q :=
  z_ent k_S_leastWorth l_S_leastWorth rfl (Nat.le_refl _) (z_blk k_S_leastWorth 7 0 rfl h)
set_option maxRecDepth 20000 in
theorem b_S_leastWorth_4 {e : z_E} {d : Nat} {x1 x2 : Int} {σ : z_M} {Q : Int → z_M → Prop} (h : ((σ 7 2) ≤ x2 → Q x1 σ) ∧ (x2 < (σ 7 2) → (101 ≤ x2 → Q x1 σ) ∧ (x2 < 101 → (0 ≤ (x2 : Int) ∧ (x2 : Int) < 101) ∧ (z_ck (z_ok z_NT 2 (σ 8 x2)) (z_C e d m_K_worth [z_R (σ 8 x2), z_I (σ 7 6)] σ (fun r1 σ1 => (0 ≤ (x1 : Int) ∧ (x1 : Int) < 101) ∧ (z_ck (z_ok z_NT 2 (σ1 8 x1)) (z_C e d m_K_worth [z_R (σ1 8 x1), z_I (σ1 7 6)] σ1 (fun r2 σ2 => (r1 < r2 → z_T e d m_S_leastWorth 80 [some (z_R 7), none, some (z_I x2), none, none] σ2 Q) ∧ (r2 ≤ r1 → (¬ r1 = r2 → z_T e d m_S_leastWorth 82 [some (z_R 7), some (z_I x1), some (z_I x2), none, none] σ2 Q) ∧ (r1 = r2 → (0 ≤ (x2 : Int) ∧ (x2 : Int) < 101) ∧ (z_ck (z_ok z_NT 2 (σ2 8 x2)) ((0 ≤ (x1 : Int) ∧ (x1 : Int) < 101) ∧ (z_ck (z_ok z_NT 2 (σ2 8 x1)) (((σ2 (σ2 8 x1) 1) ≤ (σ2 (σ2 8 x2) 1) → z_T e d m_S_leastWorth 82 [some (z_R 7), some (z_I x1), some (z_I x2), none, none] σ2 Q) ∧ ((σ2 (σ2 8 x2) 1) < (σ2 (σ2 8 x1) 1) → z_T e d m_S_leastWorth 80 [some (z_R 7), none, some (z_I x2), none, none] σ2 Q)))))))))))))))) : z_T e d m_S_leastWorth 4 [some (z_R 7), some (z_I x1), some (z_I x2), none, none] σ Q :=
  z_blk k_S_leastWorth 43 4 rfl h
set_option maxRecDepth 20000 in
theorem b_S_leastWorth_80 {e : z_E} {d : Nat} {x2 : Int} {σ : z_M} {Q : Int → z_M → Prop} (h : z_T e d m_S_leastWorth 82 [some (z_R 7), some (z_I x2), some (z_I x2), none, none] σ Q) : z_T e d m_S_leastWorth 80 [some (z_R 7), none, some (z_I x2), none, none] σ Q :=
  z_blk k_S_leastWorth 5 44 rfl h
set_option maxRecDepth 20000 in
theorem b_S_leastWorth_82 {e : z_E} {d : Nat} {x1 x2 : Int} {σ : z_M} {Q : Int → z_M → Prop} (h : z_T e d m_S_leastWorth 4 [some (z_R 7), some (z_I x1), some (z_I (z_wr (x2 + 1))), none, none] σ Q) : z_T e d m_S_leastWorth 82 [some (z_R 7), some (z_I x1), some (z_I x2), none, none] σ Q :=
  z_blk k_S_leastWorth 5 46 rfl h
set_option maxRecDepth 20000 in
theorem b_S_remove_0 {e : z_E} {d : Nat} {x1 : Int} {σ : z_M} {Q : Int → z_M → Prop} (h : (x1 < 0 → Q 0 σ) ∧ (0 ≤ x1 → (x1 < (σ 7 2) → (0 ≤ (x1 : Int) ∧ (x1 : Int) < 101) ∧ (z_ck (z_ok z_NT 2 (σ 8 x1)) ((0 ≤ ((σ (σ 8 x1) 1) : Int) ∧ ((σ (σ 8 x1) 1) : Int) < 1212) ∧ (((-1) < 0 ∨ z_ok z_NT 2 (-1) = true) ∧ z_ir (-1) ∧ (z_ck (z_ok z_NT 2 (σ 8 x1)) (z_T e d m_S_remove 55 [some (z_R 7), none, some (z_R (σ 8 x1)), some (z_I x1)] (z_up (z_up (z_up σ 10 (σ (σ 8 x1) 1) (-1)) 7 3 (z_wr (((z_up σ 10 (σ (σ 8 x1) 1) (-1)) 7 3) - ((z_up σ 10 (σ (σ 8 x1) 1) (-1)) (σ 8 x1) 4)))) 7 2 (z_wr (((z_up (z_up σ 10 (σ (σ 8 x1) 1) (-1)) 7 3 (z_wr (((z_up σ 10 (σ (σ 8 x1) 1) (-1)) 7 3) - ((z_up σ 10 (σ (σ 8 x1) 1) (-1)) (σ 8 x1) 4)))) 7 2) - 1))) Q)))))) ∧ ((σ 7 2) ≤ x1 → Q 0 σ))) : z_C e (d + 1) m_S_remove [z_R 7, z_I x1] σ Q :=
  z_ent k_S_remove l_S_remove rfl (Nat.le_refl _) (z_blk k_S_remove 35 0 rfl h)
set_option maxRecDepth 20000 in
theorem b_S_remove_55 {e : z_E} {d : Nat} {x2 x3 : Int} {σ : z_M} {Q : Int → z_M → Prop} (h : ((σ 7 2) ≤ x3 → (0 ≤ ((σ 7 2) : Int) ∧ ((σ 7 2) : Int) < 101) ∧ ((x2 < 0 ∨ z_ok z_NT 2 x2 = true) ∧ z_ir x2 ∧ (Q 0 (z_up σ 8 (σ 7 2) x2)))) ∧ (x3 < (σ 7 2) → (0 ≤ ((z_wr (x3 + 1)) : Int) ∧ ((z_wr (x3 + 1)) : Int) < 101) ∧ ((0 ≤ (x3 : Int) ∧ (x3 : Int) < 101) ∧ (((σ 8 (z_wr (x3 + 1))) < 0 ∨ z_ok z_NT 2 (σ 8 (z_wr (x3 + 1))) = true) ∧ z_ir (σ 8 (z_wr (x3 + 1))) ∧ (z_T e d m_S_remove 55 [some (z_R 7), none, some (z_R x2), some (z_I (z_wr (x3 + 1)))] (z_up σ 8 x3 (σ 8 (z_wr (x3 + 1)))) Q))))) : z_T e d m_S_remove 55 [some (z_R 7), none, some (z_R x2), some (z_I x3)] σ Q :=
  z_blk k_S_remove 19 33 rfl h
set_option maxRecDepth 20000 in
theorem b_S_throwOut_0 {e : z_E} {d : Nat} {x1 : Int} {σ : z_M} {Q : Int → z_M → Prop} (h : z_T e d m_S_throwOut 12 [some (z_R 7), some (z_I x1), some (z_I 0), some (z_I ((z_up σ 7 4 0) 7 2))] (z_up σ 7 4 0) Q) : z_C e (d + 1) m_S_throwOut [z_R 7, z_I x1] σ Q :=
  z_ent k_S_throwOut l_S_throwOut rfl (Nat.le_refl _) (z_blk k_S_throwOut 11 0 rfl h)
set_option maxRecDepth 20000 in
theorem b_S_throwOut_12 {e : z_E} {d : Nat} {x1 x2 x3 : Int} {σ : z_M} {Q : Int → z_M → Prop} (h : (x3 ≤ 0 → Q ((z_up σ 7 7 (z_wr ((σ 7 7) + (σ 7 4)))) 7 4) (z_up σ 7 7 (z_wr ((σ 7 7) + (σ 7 4))))) ∧ (0 < x3 → (0 ≤ (x2 : Int) ∧ (x2 : Int) < 101) ∧ (z_ck (z_ok z_NT 2 (σ 8 x2)) ((¬ (z_and (σ (σ 8 x2) 7) x1) = 0 → (0 ≤ (x2 : Int) ∧ (x2 : Int) < 101) ∧ (z_ck (z_ok z_NT 2 (σ 8 x2)) ((0 ≤ ((σ 7 4) : Int) ∧ ((σ 7 4) : Int) < 101) ∧ (z_C e d m_S_remove [z_R 7, z_I x2] (z_up (z_up σ 9 (σ 7 4) (σ (σ 8 x2) 1)) 7 4 (z_wr (((z_up σ 9 (σ 7 4) (σ (σ 8 x2) 1)) 7 4) + 1))) (fun _ σ1 => z_T e d m_S_throwOut 69 [some (z_R 7), some (z_I x1), some (z_I x2), some (z_I x3)] σ1 Q))))) ∧ ((z_and (σ (σ 8 x2) 7) x1) = 0 → z_T e d m_S_throwOut 69 [some (z_R 7), some (z_I x1), some (z_I (z_wr (x2 + 1))), some (z_I x3)] σ Q))))) : z_T e d m_S_throwOut 12 [some (z_R 7), some (z_I x1), some (z_I x2), some (z_I x3)] σ Q :=
  z_blk k_S_throwOut 32 8 rfl h
set_option maxRecDepth 20000 in
theorem b_S_throwOut_69 {e : z_E} {d : Nat} {x1 x2 x3 : Int} {σ : z_M} {Q : Int → z_M → Prop} (h : z_T e d m_S_throwOut 12 [some (z_R 7), some (z_I x1), some (z_I x2), some (z_I (z_wr (x3 + (-1))))] σ Q) : z_T e d m_S_throwOut 69 [some (z_R 7), some (z_I x1), some (z_I x2), some (z_I x3)] σ Q :=
  z_blk k_S_throwOut 5 39 rfl h
set_option maxRecDepth 20000 in
theorem b_S_empty_0 {e : z_E} {d : Nat} {σ : z_M} {Q : Int → z_M → Prop} (h : z_T e d m_S_empty 7 [some (z_R 7), some (z_I (σ 7 2)), some (z_I 0)] σ Q) : z_C e (d + 1) m_S_empty [z_R 7] σ Q :=
  z_ent k_S_empty l_S_empty rfl (Nat.le_refl _) (z_blk k_S_empty 8 0 rfl h)
set_option maxRecDepth 20000 in
theorem b_S_empty_7 {e : z_E} {d : Nat} {x1 x2 : Int} {σ : z_M} {Q : Int → z_M → Prop} (h : (x1 ≤ x2 → Q x1 (z_up (z_up σ 7 2 0) 7 3 0)) ∧ (x2 < x1 → (0 ≤ (x2 : Int) ∧ (x2 : Int) < 101) ∧ (z_ck (z_ok z_NT 2 (σ 8 x2)) ((0 ≤ ((σ (σ 8 x2) 1) : Int) ∧ ((σ (σ 8 x2) 1) : Int) < 1212) ∧ (((-1) < 0 ∨ z_ok z_NT 2 (-1) = true) ∧ z_ir (-1) ∧ (z_T e d m_S_empty 7 [some (z_R 7), some (z_I x1), some (z_I (z_wr (x2 + 1)))] (z_up σ 10 (σ (σ 8 x2) 1) (-1)) Q)))))) : z_T e d m_S_empty 7 [some (z_R 7), some (z_I x1), some (z_I x2)] σ Q :=
  z_blk k_S_empty 17 5 rfl h
set_option maxRecDepth 20000 in
theorem b_S_users_0 {e : z_E} {d : Nat} {x1 : Int} {σ : z_M} {Q : Int → z_M → Prop} (h : z_T e d m_S_users 4 [some (z_R 7), some (z_I x1), some (z_I 0), some (z_I 0)] σ Q) : z_C e (d + 1) m_S_users [z_R 7, z_I x1] σ Q :=
  z_ent k_S_users l_S_users rfl (Nat.le_refl _) (z_blk k_S_users 7 0 rfl h)
set_option maxRecDepth 20000 in
theorem b_S_users_4 {e : z_E} {d : Nat} {x1 x2 x3 : Int} {σ : z_M} {Q : Int → z_M → Prop} (h : ((σ 7 2) ≤ x3 → Q x2 σ) ∧ (x3 < (σ 7 2) → (0 ≤ (x3 : Int) ∧ (x3 : Int) < 101) ∧ (z_ck (z_ok z_NT 2 (σ 8 x3)) (((z_and (σ (σ 8 x3) 7) x1) = 0 → z_T e d m_S_users 29 [some (z_R 7), some (z_I x1), some (z_I x2), some (z_I x3)] σ Q) ∧ (¬ (z_and (σ (σ 8 x3) 7) x1) = 0 → z_T e d m_S_users 29 [some (z_R 7), some (z_I x1), some (z_I (z_wr (x2 + 1))), some (z_I x3)] σ Q))))) : z_T e d m_S_users 4 [some (z_R 7), some (z_I x1), some (z_I x2), some (z_I x3)] σ Q :=
  z_blk k_S_users 16 4 rfl h
set_option maxRecDepth 20000 in
theorem b_S_users_29 {e : z_E} {d : Nat} {x1 x2 x3 : Int} {σ : z_M} {Q : Int → z_M → Prop} (h : z_T e d m_S_users 4 [some (z_R 7), some (z_I x1), some (z_I x2), some (z_I (z_wr (x3 + 1)))] σ Q) : z_T e d m_S_users 29 [some (z_R 7), some (z_I x1), some (z_I x2), some (z_I x3)] σ Q :=
  z_blk k_S_users 5 17 rfl h
set_option maxRecDepth 20000 in
theorem b_S_heirsOf_0 {e : z_E} {d : Nat} {x1 : Int} {σ : z_M} {Q : Int → z_M → Prop} (h : z_C e d m_S_markAll [z_R 7, z_I 0] σ (fun _ σ1 => z_ck (z_ok z_NT 2 x1) (z_T e d m_S_heirsOf 17 [some (z_R 7), none, some (z_I 0), some (z_I 1), some (z_I 0), none] (z_up σ1 x1 9 1) Q))) : z_C e (d + 1) m_S_heirsOf [z_R 7, z_R x1] σ Q :=
  z_ent k_S_heirsOf l_S_heirsOf rfl (Nat.le_refl _) (z_blk k_S_heirsOf 15 0 rfl h)
set_option maxRecDepth 20000 in
theorem b_S_heirsOf_17 {e : z_E} {d : Nat} {x2 x3 x4 : Int} {σ : z_M} {Q : Int → z_M → Prop} (h : (101 ≤ x4 → Q x2 σ) ∧ (x4 < 101 → (x3 ≤ 0 → Q x2 σ) ∧ (0 < x3 → z_T e d m_S_heirsOf 33 [some (z_R 7), none, some (z_I x2), some (z_I 0), some (z_I x4), some (z_I 0)] σ Q))) : z_T e d m_S_heirsOf 17 [some (z_R 7), none, some (z_I x2), some (z_I x3), some (z_I x4), none] σ Q :=
  z_blk k_S_heirsOf 12 12 rfl h
set_option maxRecDepth 20000 in
theorem b_S_heirsOf_33 {e : z_E} {d : Nat} {x2 x3 x4 x5 : Int} {σ : z_M} {Q : Int → z_M → Prop} (h : ((σ 7 2) ≤ x5 → z_T e d m_S_heirsOf 17 [some (z_R 7), none, some (z_I (z_wr (x2 + x3))), some (z_I x3), some (z_I (z_wr (x4 + 1))), none] σ Q) ∧ (x5 < (σ 7 2) → (0 ≤ (x5 : Int) ∧ (x5 : Int) < 101) ∧ (z_ck (z_ok z_NT 2 (σ 8 x5)) ((¬ (σ (σ 8 x5) 9) = 0 → z_T e d m_S_heirsOf 83 [some (z_R 7), none, some (z_I x2), some (z_I x3), some (z_I x4), some (z_I x5)] σ Q) ∧ ((σ (σ 8 x5) 9) = 0 → (0 ≤ (x5 : Int) ∧ (x5 : Int) < 101) ∧ (z_C e d m_S_mostMarkAsked [z_R 7, z_R (σ 8 x5)] σ (fun r1 σ1 => (r1 ≤ 0 → z_T e d m_S_heirsOf 83 [some (z_R 7), none, some (z_I x2), some (z_I x3), some (z_I x4), some (z_I x5)] σ1 Q) ∧ (0 < r1 → (0 ≤ (x5 : Int) ∧ (x5 : Int) < 101) ∧ (z_ck (z_ok z_NT 2 (σ1 8 x5)) (z_T e d m_S_heirsOf 83 [some (z_R 7), none, some (z_I x2), some (z_I (z_wr (x3 + 1))), some (z_I x4), some (z_I x5)] (z_up σ1 (σ1 8 x5) 9 1) Q)))))))))) : z_T e d m_S_heirsOf 33 [some (z_R 7), none, some (z_I x2), some (z_I x3), some (z_I x4), some (z_I x5)] σ Q :=
  z_blk k_S_heirsOf 27 21 rfl h
set_option maxRecDepth 20000 in
theorem b_S_heirsOf_83 {e : z_E} {d : Nat} {x2 x3 x4 x5 : Int} {σ : z_M} {Q : Int → z_M → Prop} (h : z_T e d m_S_heirsOf 33 [some (z_R 7), none, some (z_I x2), some (z_I x3), some (z_I x4), some (z_I (z_wr (x5 + 1)))] σ Q) : z_T e d m_S_heirsOf 83 [some (z_R 7), none, some (z_I x2), some (z_I x3), some (z_I x4), some (z_I x5)] σ Q :=
  z_blk k_S_heirsOf 5 45 rfl h
set_option maxRecDepth 20000 in
theorem b_S_chainFrom_0 {e : z_E} {d : Nat} {x1 : Int} {σ : z_M} {Q : Int → z_M → Prop} (h : z_C e d m_S_markAll [z_R 7, z_I 1] σ (fun _ σ1 => z_T e d m_S_chainFrom 9 [some (z_R 7), some (z_R x1), some (z_I 1), some (z_I 0), none, none] σ1 Q)) : z_C e (d + 1) m_S_chainFrom [z_R 7, z_R x1] σ Q :=
  z_ent k_S_chainFrom l_S_chainFrom rfl (Nat.le_refl _) (z_blk k_S_chainFrom 10 0 rfl h)
set_option maxRecDepth 20000 in
theorem b_S_chainFrom_9 {e : z_E} {d : Nat} {x1 x2 x3 : Int} {σ : z_M} {Q : Int → z_M → Prop} (h : (101 ≤ x3 → z_ck (z_ok z_NT 2 x1) (Q (σ x1 9) σ)) ∧ (x3 < 101 → (x2 = 0 → z_ck (z_ok z_NT 2 x1) (Q (σ x1 9) σ)) ∧ (¬ x2 = 0 → z_T e d m_S_chainFrom 24 [some (z_R 7), some (z_R x1), some (z_I 0), some (z_I x3), some (z_I 0), none] σ Q))) : z_T e d m_S_chainFrom 9 [some (z_R 7), some (z_R x1), some (z_I x2), some (z_I x3), none, none] σ Q :=
  z_blk k_S_chainFrom 12 7 rfl h
set_option maxRecDepth 20000 in
theorem b_S_chainFrom_24 {e : z_E} {d : Nat} {x1 x2 x3 x4 : Int} {σ : z_M} {Q : Int → z_M → Prop} (h : ((σ 7 2) ≤ x4 → z_T e d m_S_chainFrom 9 [some (z_R 7), some (z_R x1), some (z_I x2), some (z_I (z_wr (x3 + 1))), none, none] σ Q) ∧ (x4 < (σ 7 2) → (0 ≤ (x4 : Int) ∧ (x4 : Int) < 101) ∧ (z_C e d m_S_mostMarkAsked [z_R 7, z_R (σ 8 x4)] σ (fun r1 σ1 => (0 ≤ (x4 : Int) ∧ (x4 : Int) < 101) ∧ (z_ck (z_ok z_NT 2 (σ1 8 x4)) (((z_wr (1 + r1)) ≤ (σ1 (σ1 8 x4) 9) → z_T e d m_S_chainFrom 77 [some (z_R 7), some (z_R x1), some (z_I x2), some (z_I x3), some (z_I x4), none] σ1 Q) ∧ ((σ1 (σ1 8 x4) 9) < (z_wr (1 + r1)) → (0 ≤ (x4 : Int) ∧ (x4 : Int) < 101) ∧ (z_ck (z_ok z_NT 2 (σ1 8 x4)) (z_T e d m_S_chainFrom 77 [some (z_R 7), some (z_R x1), some (z_I 1), some (z_I x3), some (z_I x4), none] (z_up σ1 (σ1 8 x4) 9 (z_wr (1 + r1))) Q))))))))) : z_T e d m_S_chainFrom 24 [some (z_R 7), some (z_R x1), some (z_I x2), some (z_I x3), some (z_I x4), none] σ Q :=
  z_blk k_S_chainFrom 31 16 rfl h
set_option maxRecDepth 20000 in
theorem b_S_chainFrom_77 {e : z_E} {d : Nat} {x1 x2 x3 x4 : Int} {σ : z_M} {Q : Int → z_M → Prop} (h : z_T e d m_S_chainFrom 24 [some (z_R 7), some (z_R x1), some (z_I x2), some (z_I x3), some (z_I (z_wr (x4 + 1))), none] σ Q) : z_T e d m_S_chainFrom 77 [some (z_R 7), some (z_R x1), some (z_I x2), some (z_I x3), some (z_I x4), none] σ Q :=
  z_blk k_S_chainFrom 5 44 rfl h
set_option maxRecDepth 20000 in
theorem b_S_markAll_0 {e : z_E} {d : Nat} {x1 : Int} {σ : z_M} {Q : Int → z_M → Prop} (h : z_T e d m_S_markAll 2 [some (z_R 7), some (z_I x1), some (z_I 0)] σ Q) : z_C e (d + 1) m_S_markAll [z_R 7, z_I x1] σ Q :=
  z_ent k_S_markAll l_S_markAll rfl (Nat.le_refl _) (z_blk k_S_markAll 5 0 rfl h)
set_option maxRecDepth 20000 in
theorem b_S_markAll_2 {e : z_E} {d : Nat} {x1 x2 : Int} {σ : z_M} {Q : Int → z_M → Prop} (h : ((σ 7 2) ≤ x2 → Q 0 σ) ∧ (x2 < (σ 7 2) → (0 ≤ (x2 : Int) ∧ (x2 : Int) < 101) ∧ (z_ck (z_ok z_NT 2 (σ 8 x2)) (z_T e d m_S_markAll 2 [some (z_R 7), some (z_I x1), some (z_I (z_wr (x2 + 1)))] (z_up σ (σ 8 x2) 9 x1) Q)))) : z_T e d m_S_markAll 2 [some (z_R 7), some (z_I x1), some (z_I x2)] σ Q :=
  z_blk k_S_markAll 15 2 rfl h
set_option maxRecDepth 20000 in
theorem b_S_mostMarkAsked_0 {e : z_E} {d : Nat} {x1 : Int} {σ : z_M} {Q : Int → z_M → Prop} (h : z_T e d m_S_mostMarkAsked 4 [some (z_R 7), some (z_R x1), some (z_I 0), some (z_I 0), none] σ Q) : z_C e (d + 1) m_S_mostMarkAsked [z_R 7, z_R x1] σ Q :=
  z_ent k_S_mostMarkAsked l_S_mostMarkAsked rfl (Nat.le_refl _) (z_blk k_S_mostMarkAsked 7 0 rfl h)
set_option maxRecDepth 20000 in
theorem b_S_mostMarkAsked_4 {e : z_E} {d : Nat} {x1 x2 x3 : Int} {σ : z_M} {Q : Int → z_M → Prop} (h : z_ck (z_ok z_NT 2 x1) (((σ x1 8) ≤ x3 → Q x2 σ) ∧ (x3 < (σ x1 8) → z_ck (z_ok z_NT 2 x1) (z_ck (z_ok z_NT 100025 (x1 + 1)) ((0 ≤ (x3 : Int) ∧ (x3 : Int) < 25) ∧ (z_C e d m_S_find [z_R 7, z_I (σ (x1 + 1) x3)] σ (fun r1 σ1 => (r1 < 0 → z_T e d m_S_mostMarkAsked 44 [some (z_R 7), some (z_R x1), some (z_I x2), some (z_I x3), none] σ1 Q) ∧ (0 ≤ r1 → z_ck (z_ok z_NT 2 r1) (((σ1 r1 9) ≤ x2 → z_T e d m_S_mostMarkAsked 44 [some (z_R 7), some (z_R x1), some (z_I x2), some (z_I x3), none] σ1 Q) ∧ (x2 < (σ1 r1 9) → z_ck (z_ok z_NT 2 r1) (z_T e d m_S_mostMarkAsked 44 [some (z_R 7), some (z_R x1), some (z_I (σ1 r1 9)), some (z_I x3), none] σ1 Q))))))))))) : z_T e d m_S_mostMarkAsked 4 [some (z_R 7), some (z_R x1), some (z_I x2), some (z_I x3), none] σ Q :=
  z_blk k_S_mostMarkAsked 23 4 rfl h
set_option maxRecDepth 20000 in
theorem b_S_mostMarkAsked_44 {e : z_E} {d : Nat} {x1 x2 x3 : Int} {σ : z_M} {Q : Int → z_M → Prop} (h : z_T e d m_S_mostMarkAsked 4 [some (z_R 7), some (z_R x1), some (z_I x2), some (z_I (z_wr (x3 + 1))), none] σ Q) : z_T e d m_S_mostMarkAsked 44 [some (z_R 7), some (z_R x1), some (z_I x2), some (z_I x3), none] σ Q :=
  z_blk k_S_mostMarkAsked 5 24 rfl h
set_option maxRecDepth 20000 in
theorem b_T_stands_0 {e : z_E} {d : Nat} {x0 : Int} {σ : z_M} {Q : Int → z_M → Prop} (h : z_ck (z_ok z_NT 6 x0) (((σ x0 1) ≤ 0 → Q 0 σ) ∧ (0 < (σ x0 1) → Q 1 σ))) : z_C e (d + 1) m_T_stands [z_R x0] σ Q :=
  z_ent k_T_stands l_T_stands rfl (Nat.le_refl _) (z_blk k_T_stands 8 0 rfl h)
set_option maxRecDepth 20000 in
theorem b_T_empty_0 {e : z_E} {d : Nat} {x0 : Int} {σ : z_M} {Q : Int → z_M → Prop} (h : z_ck (z_ok z_NT 6 x0) (z_ck (z_ok z_NT 6 x0) (Q 0 (z_up (z_up σ x0 1 0) x0 2 0)))) : z_C e (d + 1) m_T_empty [z_R x0] σ Q :=
  z_ent k_T_empty l_T_empty rfl (Nat.le_refl _) (z_blk k_T_empty 9 0 rfl h)
set_option maxRecDepth 20000 in
theorem b_T_become_0 {e : z_E} {d : Nat} {x0 x1 : Int} {σ : z_M} {Q : Int → z_M → Prop} (h : z_ck (z_ok z_NT 6 x1) (z_ck (z_ok z_NT 6 x0) (z_ck (z_ok z_NT 6 x1) (z_ck (true && z_ok z_NT 100100 (x1 + 1) && z_ok z_NT 100100 (x0 + 1) && true) ((1 ≤ d ∧ 0 ≤ (0 : Int) ∧ 0 ≤ (0 : Int) ∧ 0 ≤ ((σ x1 1) : Int) ∧ (0 : Int) + (σ x1 1) ≤ 100 ∧ (0 : Int) + (σ x1 1) ≤ 100) ∧ (100100 / 100000 = 2 → ∀ i : Int, 0 ≤ i → i < 100 → σ (x1 + 1) i = 0 ∨ σ (x1 + 1) i = 1) ∧ (z_ck (z_ok z_NT 6 x1) (z_ck (z_ok z_NT 6 x0) (z_ck (z_ok z_NT 6 x1) (z_ck (z_ok z_NT 6 x0) (Q 0 (z_up (z_up (z_cp σ (x1 + 1) 0 (x0 + 1) 0 (σ x1 1)) x0 1 ((z_cp σ (x1 + 1) 0 (x0 + 1) 0 (σ x1 1)) x1 1)) x0 2 ((z_up (z_cp σ (x1 + 1) 0 (x0 + 1) 0 (σ x1 1)) x0 1 ((z_cp σ (x1 + 1) 0 (x0 + 1) 0 (σ x1 1)) x1 1)) x1 2)))))))))))) : z_C e (d + 1) m_T_become [z_R x0, z_R x1] σ Q :=
  z_ent k_T_become l_T_become rfl (Nat.le_refl _) (z_blk k_T_become 20 0 rfl h)
set_option maxRecDepth 20000 in
theorem b_T_put_0 {e : z_E} {d : Nat} {x0 x1 x2 : Int} {σ : z_M} {Q : Int → z_M → Prop} (h : z_ck (z_ok z_NT 6 x0) ((100 ≤ (σ x0 1) → Q 0 σ) ∧ ((σ x0 1) < 100 → z_ck (z_ok z_NT 6 x0) (z_ck (z_ok z_NT 6 x0) (z_ck (z_ok z_NT 100100 (x0 + 1)) ((0 ≤ ((σ x0 1) : Int) ∧ ((σ x0 1) : Int) < 100) ∧ (z_ck (z_ok z_NT 6 x0) (z_ck (z_ok z_NT 6 x0) (z_ck (z_ok z_NT 6 x0) ((¬ x1 = 6 → z_ck (z_ok z_NT 6 x0) (Q 0 (z_up (z_up (z_up σ (x0 + 1) (σ x0 1) (z_or (z_shl x2 4) x1)) x0 1 (z_wr (((z_up σ (x0 + 1) (σ x0 1) (z_or (z_shl x2 4) x1)) x0 1) + 1))) x0 2 (z_wr (((z_up (z_up σ (x0 + 1) (σ x0 1) (z_or (z_shl x2 4) x1)) x0 1 (z_wr (((z_up σ (x0 + 1) (σ x0 1) (z_or (z_shl x2 4) x1)) x0 1) + 1))) x0 2) + 1))))) ∧ (x1 = 6 → z_ck (z_ok z_NT 6 x0) (Q 0 (z_up (z_up (z_up σ (x0 + 1) (σ x0 1) (z_or (z_shl x2 4) x1)) x0 1 (z_wr (((z_up σ (x0 + 1) (σ x0 1) (z_or (z_shl x2 4) x1)) x0 1) + 1))) x0 2 (z_wr (((z_up (z_up σ (x0 + 1) (σ x0 1) (z_or (z_shl x2 4) x1)) x0 1 (z_wr (((z_up σ (x0 + 1) (σ x0 1) (z_or (z_shl x2 4) x1)) x0 1) + 1))) x0 2) + 0))))))))))))))) : z_C e (d + 1) m_T_put [z_R x0, z_I x1, z_I x2] σ Q :=
  z_ent k_T_put l_T_put rfl (Nat.le_refl _) (z_blk k_T_put 33 0 rfl h)
set_option maxRecDepth 20000 in
theorem b_T_lead_0 {e : z_E} {d : Nat} {x0 x1 x2 : Int} {σ : z_M} {Q : Int → z_M → Prop} (h : (x1 < 0 → Q 0 σ) ∧ (0 ≤ x1 → z_ck (z_ok z_NT 6 x0) (((σ x0 1) ≤ x1 → Q 0 σ) ∧ (x1 < (σ x0 1) → z_ck (z_ok z_NT 6 x0) (z_ck (z_ok z_NT 6 x0) (z_ck (z_ok z_NT 100100 (x0 + 1)) ((0 ≤ (x1 : Int) ∧ (x1 : Int) < 100) ∧ (z_ck (z_ok z_NT 100100 (x0 + 1)) ((0 ≤ (x1 : Int) ∧ (x1 : Int) < 100) ∧ (Q 0 (z_up σ (x0 + 1) x1 (z_or (z_shl x2 4) (z_and (σ (x0 + 1) x1) 15))))))))))))) : z_C e (d + 1) m_T_lead [z_R x0, z_I x1, z_I x2] σ Q :=
  z_ent k_T_lead l_T_lead rfl (Nat.le_refl _) (z_blk k_T_lead 23 0 rfl h)
set_option maxRecDepth 20000 in
theorem b_T_leadAll_0 {e : z_E} {d : Nat} {x0 x1 : Int} {σ : z_M} {Q : Int → z_M → Prop} (h : z_T e d m_T_leadAll 6 [some (z_R x0), none, some (z_I (z_wr (x1 - 1))), some (z_I 0), none] σ Q) : z_C e (d + 1) m_T_leadAll [z_R x0, z_I x1] σ Q :=
  z_ent k_T_leadAll l_T_leadAll rfl (Nat.le_refl _) (z_blk k_T_leadAll 9 0 rfl h)
set_option maxRecDepth 20000 in
theorem b_T_leadAll_6 {e : z_E} {d : Nat} {x0 x2 x3 : Int} {σ : z_M} {Q : Int → z_M → Prop} (h : (100 ≤ x3 → Q 0 σ) ∧ (x3 < 100 → (x2 < 0 → Q 0 σ) ∧ (0 ≤ x2 → z_ck (z_ok z_NT 6 x0) (((σ x0 1) ≤ x2 → Q 0 σ) ∧ (x2 < (σ x0 1) → z_ck (z_ok z_NT 6 x0) (z_ck (z_ok z_NT 100100 (x0 + 1)) ((0 ≤ (x2 : Int) ∧ (x2 : Int) < 100) ∧ (z_ck (z_ok z_NT 6 x0) (z_ck (z_ok z_NT 6 x0) (z_C e d m_T_lead [z_R x0, z_I x2, z_I (σ x0 1)] σ (fun _ σ1 => z_T e d m_T_leadAll 6 [some (z_R x0), none, some (z_I (z_wr ((z_shr (σ (x0 + 1) x2) 4) - 1))), some (z_I (z_wr (x3 + 1))), none] σ1 Q))))))))))) : z_T e d m_T_leadAll 6 [some (z_R x0), none, some (z_I x2), some (z_I x3), none] σ Q :=
  z_blk k_T_leadAll 30 6 rfl h
set_option maxRecDepth 20000 in
theorem b_H_forget_0 {e : z_E} {d : Nat} {σ : z_M} {Q : Int → z_M → Prop} (h : Q 0 (z_up σ 213 2 (z_wr ((σ 213 2) + 1)))) : z_C e (d + 1) m_H_forget [z_R 213] σ Q :=
  z_ent k_H_forget l_H_forget rfl (Nat.le_refl _) (z_blk k_H_forget 9 0 rfl h)
set_option maxRecDepth 20000 in
theorem b_H_holds_0 {e : z_E} {d : Nat} {x1 : Int} {σ : z_M} {Q : Int → z_M → Prop} (h : (x1 < 0 → Q 0 σ) ∧ (0 ≤ x1 → (1212 ≤ x1 → Q 0 σ) ∧ (x1 < 1212 → (0 ≤ (x1 : Int) ∧ (x1 : Int) < 1212) ∧ ((¬ (σ 215 x1) = (σ 213 2) → Q 0 σ) ∧ ((σ 215 x1) = (σ 213 2) → Q 1 σ))))) : z_C e (d + 1) m_H_holds [z_R 213, z_I x1] σ Q :=
  z_ent k_H_holds l_H_holds rfl (Nat.le_refl _) (z_blk k_H_holds 17 0 rfl h)
set_option maxRecDepth 20000 in
theorem b_H_valueOf_0 {e : z_E} {d : Nat} {x1 : Int} {σ : z_M} {Q : Int → z_M → Prop} (h : (x1 < 0 → Q 0 σ) ∧ (0 ≤ x1 → (1212 ≤ x1 → Q 0 σ) ∧ (x1 < 1212 → (0 ≤ (x1 : Int) ∧ (x1 : Int) < 1212) ∧ (Q (σ 214 x1) σ)))) : z_C e (d + 1) m_H_valueOf [z_R 213, z_I x1] σ Q :=
  z_ent k_H_valueOf l_H_valueOf rfl (Nat.le_refl _) (z_blk k_H_valueOf 13 0 rfl h)
set_option maxRecDepth 20000 in
theorem b_H_hold_0 {e : z_E} {d : Nat} {x1 x2 : Int} {σ : z_M} {Q : Int → z_M → Prop} (h : (x1 < 0 → Q 0 σ) ∧ (0 ≤ x1 → (1212 ≤ x1 → Q 0 σ) ∧ (x1 < 1212 → (0 ≤ (x1 : Int) ∧ (x1 : Int) < 1212) ∧ ((0 ≤ (x1 : Int) ∧ (x1 : Int) < 1212) ∧ (Q 0 (z_up (z_up σ 214 x1 x2) 215 x1 ((z_up σ 214 x1 x2) 213 2))))))) : z_C e (d + 1) m_H_hold [z_R 213, z_I x1, z_I x2] σ Q :=
  z_ent k_H_hold l_H_hold rfl (Nat.le_refl _) (z_blk k_H_hold 19 0 rfl h)
end
section
/-! blocks: printed by program (wip/whole/gen/blk.py) -/
set_option maxRecDepth 20000 in
theorem b_C_feed_0 {e : z_E} {d : Nat} {x1 : Int} {σ : z_M} {Q : Int → z_M → Prop} (h : (x1 < 0 → Q (-20001) σ) ∧ (0 ≤ x1 → (x1 ≤ 255 → z_C e d m_R_add [z_R 3, z_I x1] σ (fun r1 σ1 => (r1 = 0 → Q (-20004) σ1) ∧ (¬ r1 = 0 → Q (σ1 3 2) σ1))) ∧ (255 < x1 → Q (-20001) σ))) : z_C e (d + 1) m_C_feed [z_R 0, z_I x1] σ Q :=
  z_ent k_C_feed l_C_feed rfl (Nat.le_refl _) (z_blk k_C_feed 17 0 rfl h)
set_option maxRecDepth 20000 in
theorem b_C_rule_0 {e : z_E} {d : Nat} {x1 : Int} {σ : z_M} {Q : Int → z_M → Prop} (h : z_C e d m_C_within [z_I x1, z_I 12] σ (fun r1 σ1 => (¬ r1 = 0 → z_C e d m_R_readTape [z_R 3] σ1 (fun r2 σ2 => (¬ r2 = 0 → (0 ≤ (x1 : Int) ∧ (x1 : Int) < 12) ∧ (z_ck (z_ok z_NT 6 (309 + 2 * x1)) (z_C e d m_T_become [z_R (309 + 2 * x1), z_R 5] σ2 (fun _ σ3 => z_C e d m_C_changed [z_R 0, z_I (z_wr (12 + x1))] σ3 (fun r4 σ4 => (0 ≤ (x1 : Int) ∧ (x1 : Int) < 12) ∧ (z_ck (z_ok z_NT 6 (309 + 2 * x1)) (Q (σ4 (309 + 2 * x1) 2) σ4))))))) ∧ (r2 = 0 → Q (z_wr ((-100) - (σ2 3 3))) σ2))) ∧ (r1 = 0 → Q (-20001) σ1))) : z_C e (d + 1) m_C_rule [z_R 0, z_I x1] σ Q :=
  z_ent k_C_rule l_C_rule rfl (Nat.le_refl _) (z_blk k_C_rule 30 0 rfl h)
set_option maxRecDepth 20000 in
theorem b_C_drop_0 {e : z_E} {d : Nat} {x1 : Int} {σ : z_M} {Q : Int → z_M → Prop} (h : z_C e d m_C_within [z_I x1, z_I 12] σ (fun r1 σ1 => (¬ r1 = 0 → (0 ≤ (x1 : Int) ∧ (x1 : Int) < 12) ∧ (z_ck (z_ok z_NT 6 (309 + 2 * x1)) (z_C e d m_T_stands [z_R (309 + 2 * x1)] σ1 (fun r2 σ2 => (¬ r2 = 0 → (0 ≤ (x1 : Int) ∧ (x1 : Int) < 12) ∧ (z_ck (z_ok z_NT 6 (309 + 2 * x1)) (z_C e d m_T_empty [z_R (309 + 2 * x1)] σ2 (fun _ σ3 => z_C e d m_C_changed [z_R 0, z_I (z_wr (12 + x1))] σ3 (fun r4 σ4 => Q r4 σ4))))) ∧ (r2 = 0 → Q (-20003) σ2))))) ∧ (r1 = 0 → Q (-20001) σ1))) : z_C e (d + 1) m_C_drop [z_R 0, z_I x1] σ Q :=
  z_ent k_C_drop l_C_drop rfl (Nat.le_refl _) (z_blk k_C_drop 23 0 rfl h)
set_option maxRecDepth 20000 in
theorem b_C_set_0 {e : z_E} {d : Nat} {x1 x2 : Int} {σ : z_M} {Q : Int → z_M → Prop} (h : z_C e d m_C_within [z_I x1, z_I 12] σ (fun r1 σ1 => (r1 = 0 → Q (-20001) σ1) ∧ (¬ r1 = 0 → (x2 < (-99) → Q (-20001) σ1) ∧ ((-99) ≤ x2 → (x2 ≤ 99 → (0 ≤ (x1 : Int) ∧ (x1 : Int) < 12) ∧ ((¬ (σ1 1 x1) = x2 → (0 ≤ (x1 : Int) ∧ (x1 : Int) < 12) ∧ (z_C e d m_C_changed [z_R 0, z_I x1] (z_up σ1 1 x1 x2) (fun r2 σ2 => Q r2 σ2))) ∧ ((σ1 1 x1) = x2 → Q 0 σ1))) ∧ (99 < x2 → Q (-20001) σ1))))) : z_C e (d + 1) m_C_set [z_R 0, z_I x1, z_I x2] σ Q :=
  z_ent k_C_set l_C_set rfl (Nat.le_refl _) (z_blk k_C_set 27 0 rfl h)
set_option maxRecDepth 20000 in
theorem b_C_cell_0 {e : z_E} {d : Nat} {x1 : Int} {σ : z_M} {Q : Int → z_M → Prop} (h : z_C e d m_C_within [z_I x1, z_I 12] σ (fun r1 σ1 => (r1 = 0 → Q (-20001) σ1) ∧ (¬ r1 = 0 → (0 ≤ (x1 : Int) ∧ (x1 : Int) < 12) ∧ (Q (σ1 1 x1) σ1)))) : z_C e (d + 1) m_C_cell [z_R 0, z_I x1] σ Q :=
  z_ent k_C_cell l_C_cell rfl (Nat.le_refl _) (z_blk k_C_cell 12 0 rfl h)
set_option maxRecDepth 20000 in
theorem b_C_ask_0 {e : z_E} {d : Nat} {x1 x2 : Int} {σ : z_M} {Q : Int → z_M → Prop} (h : z_C e d m_C_isKey [z_I x1, z_I x2] σ (fun r1 σ1 => (¬ r1 = 0 → z_C e d m_U_renew [z_R 216, z_I 1] σ1 (fun _ σ2 => z_C e d m_C_keyOf [z_I x1, z_I x2] σ2 (fun r3 σ3 => z_C e d m_C_workOut [z_R 0, z_R 216, z_I r3] σ3 (fun _ σ4 => z_C e d m_U_outcome [z_R 216] (z_up σ4 0 8 (σ4 216 4)) (fun r5 σ5 => Q r5 σ5))))) ∧ (r1 = 0 → Q (-20001) σ1))) : z_C e (d + 1) m_C_ask [z_R 0, z_I x1, z_I x2] σ Q :=
  z_ent k_C_ask l_C_ask rfl (Nat.le_refl _) (z_blk k_C_ask 26 0 rfl h)
set_option maxRecDepth 20000 in
theorem b_C_fresh_0 {e : z_E} {d : Nat} {x1 x2 : Int} {σ : z_M} {Q : Int → z_M → Prop} (h : z_C e d m_C_isKey [z_I x1, z_I x2] σ (fun r1 σ1 => (¬ r1 = 0 → z_C e d m_H_forget [z_R 213] σ1 (fun _ σ2 => z_C e d m_U_renew [z_R 216, z_I 2] σ2 (fun _ σ3 => z_C e d m_C_keyOf [z_I x1, z_I x2] σ3 (fun r4 σ4 => z_C e d m_C_workOut [z_R 0, z_R 216, z_I r4] σ4 (fun _ σ5 => z_C e d m_U_outcome [z_R 216] σ5 (fun r6 σ6 => Q r6 σ6)))))) ∧ (r1 = 0 → Q (-20001) σ1))) : z_C e (d + 1) m_C_fresh [z_R 0, z_I x1, z_I x2] σ Q :=
  z_ent k_C_fresh l_C_fresh rfl (Nat.le_refl _) (z_blk k_C_fresh 24 0 rfl h)
set_option maxRecDepth 20000 in
theorem b_C_steps_0 {e : z_E} {d : Nat} {σ : z_M} {Q : Int → z_M → Prop} (h : Q (σ 0 8) σ) : z_C e (d + 1) m_C_steps [z_R 0] σ Q :=
  z_ent k_C_steps l_C_steps rfl (Nat.le_refl _) (z_blk k_C_steps 5 0 rfl h)
set_option maxRecDepth 20000 in
theorem b_C_bound_0 {e : z_E} {d : Nat} {x1 : Int} {σ : z_M} {Q : Int → z_M → Prop} (h : (x1 < 1 → Q (-20001) σ) ∧ (1 ≤ x1 → (x1 ≤ 300 → z_C e d m_S_shrink [z_R 7] (z_up σ 7 5 x1) (fun _ σ1 => Q (σ 7 5) σ1)) ∧ (300 < x1 → Q (-20001) σ))) : z_C e (d + 1) m_C_bound [z_R 0, z_I x1] σ Q :=
  z_ent k_C_bound l_C_bound rfl (Nat.le_refl _) (z_blk k_C_bound 21 0 rfl h)
set_option maxRecDepth 20000 in
theorem b_C_policy_0 {e : z_E} {d : Nat} {x1 : Int} {σ : z_M} {Q : Int → z_M → Prop} (h : (x1 < 0 → Q (-20001) σ) ∧ (0 ≤ x1 → (x1 ≤ 3 → Q (σ 7 6) (z_up σ 7 6 x1)) ∧ (3 < x1 → Q (-20001) σ))) : z_C e (d + 1) m_C_policy [z_R 0, z_I x1] σ Q :=
  z_ent k_C_policy l_C_policy rfl (Nat.le_refl _) (z_blk k_C_policy 17 0 rfl h)
set_option maxRecDepth 20000 in
theorem b_C_kept_0 {e : z_E} {d : Nat} {x1 x2 : Int} {σ : z_M} {Q : Int → z_M → Prop} (h : z_C e d m_C_within [z_I x1, z_I 1212] σ (fun r1 σ1 => (r1 = 0 → Q (-20001) σ1) ∧ (¬ r1 = 0 → (x2 < 0 → Q (-20001) σ1) ∧ (0 ≤ x2 → (x2 ≤ 6 → z_C e d m_S_find [z_R 7, z_I x1] σ1 (fun r2 σ2 => (0 ≤ r2 → z_ck (z_ok z_NT 2 r2) (z_C e d m_K_tell [z_R r2, z_I x2] σ2 (fun r3 σ3 => Q r3 σ3))) ∧ (r2 < 0 → Q (-20002) σ2))) ∧ (6 < x2 → Q (-20001) σ1))))) : z_C e (d + 1) m_C_kept [z_R 0, z_I x1, z_I x2] σ Q :=
  z_ent k_C_kept l_C_kept rfl (Nat.le_refl _) (z_blk k_C_kept 22 0 rfl h)
set_option maxRecDepth 20000 in
theorem b_C_asked_0 {e : z_E} {d : Nat} {x1 x2 : Int} {σ : z_M} {Q : Int → z_M → Prop} (h : z_C e d m_C_within [z_I x1, z_I 1212] σ (fun r1 σ1 => (r1 = 0 → Q (-20001) σ1) ∧ (¬ r1 = 0 → (0 ≤ x2 → z_C e d m_S_find [z_R 7, z_I x1] σ1 (fun r2 σ2 => (r2 < 0 → Q (-20002) σ2) ∧ (0 ≤ r2 → z_ck (z_ok z_NT 2 r2) ((x2 < (σ2 r2 8) → z_ck (z_ok z_NT 2 r2) (z_ck (z_ok z_NT 100025 (r2 + 1)) ((0 ≤ (x2 : Int) ∧ (x2 : Int) < 25) ∧ (Q (σ2 (r2 + 1) x2) σ2)))) ∧ ((σ2 r2 8) ≤ x2 → Q (-20002) σ2))))) ∧ (x2 < 0 → Q (-20001) σ1)))) : z_C e (d + 1) m_C_asked [z_R 0, z_I x1, z_I x2] σ Q :=
  z_ent k_C_asked l_C_asked rfl (Nat.le_refl _) (z_blk k_C_asked 24 0 rfl h)
set_option maxRecDepth 20000 in
theorem b_C_key_0 {e : z_E} {d : Nat} {x1 x2 : Int} {σ : z_M} {Q : Int → z_M → Prop} (h : (x1 < 0 → Q (-20001) σ) ∧ (0 ≤ x1 → (1 < x1 → Q (-20001) σ) ∧ (x1 ≤ 1 → (0 ≤ x2 → (x2 < (σ 7 2) → (¬ x1 = 0 → (0 ≤ (x2 : Int) ∧ (x2 : Int) < 101) ∧ (z_ck (z_ok z_NT 2 (σ 8 x2)) (Q (σ (σ 8 x2) 1) σ))) ∧ (x1 = 0 → z_C e d m_S_byNumber [z_R 7, z_I x2] σ (fun r1 σ1 => Q r1 σ1))) ∧ ((σ 7 2) ≤ x2 → Q (-20002) σ)) ∧ (x2 < 0 → Q (-20001) σ)))) : z_C e (d + 1) m_C_key [z_R 0, z_I x1, z_I x2] σ Q :=
  z_ent k_C_key l_C_key rfl (Nat.le_refl _) (z_blk k_C_key 23 0 rfl h)
set_option maxRecDepth 20000 in
theorem b_C_wave_0 {e : z_E} {d : Nat} {x1 : Int} {σ : z_M} {Q : Int → z_M → Prop} (h : (0 ≤ x1 → ((σ 7 4) ≤ x1 → Q (-20002) σ) ∧ (x1 < (σ 7 4) → (0 ≤ (x1 : Int) ∧ (x1 : Int) < 101) ∧ (Q (σ 9 x1) σ))) ∧ (x1 < 0 → Q (-20001) σ)) : z_C e (d + 1) m_C_wave [z_R 0, z_I x1] σ Q :=
  z_ent k_C_wave l_C_wave rfl (Nat.le_refl _) (z_blk k_C_wave 16 0 rfl h)
set_option maxRecDepth 20000 in
theorem b_C_would_0 {e : z_E} {d : Nat} {x1 : Int} {σ : z_M} {Q : Int → z_M → Prop} (h : z_C e d m_C_within [z_I x1, z_I 24] σ (fun r1 σ1 => (r1 = 0 → Q (-20001) σ1) ∧ (¬ r1 = 0 → z_C e d m_S_users [z_R 7, z_I (z_shl 1 x1)] σ1 (fun r2 σ2 => Q r2 σ2)))) : z_C e (d + 1) m_C_would [z_R 0, z_I x1] σ Q :=
  z_ent k_C_would l_C_would rfl (Nat.le_refl _) (z_blk k_C_would 14 0 rfl h)
set_option maxRecDepth 20000 in
theorem b_C_heirs_0 {e : z_E} {d : Nat} {x1 : Int} {σ : z_M} {Q : Int → z_M → Prop} (h : z_C e d m_C_within [z_I x1, z_I 1212] σ (fun r1 σ1 => (¬ r1 = 0 → z_C e d m_S_find [z_R 7, z_I x1] σ1 (fun r2 σ2 => (0 ≤ r2 → z_C e d m_S_heirsOf [z_R 7, z_R r2] σ2 (fun r3 σ3 => Q r3 σ3)) ∧ (r2 < 0 → Q (-20002) σ2))) ∧ (r1 = 0 → Q (-20001) σ1))) : z_C e (d + 1) m_C_heirs [z_R 0, z_I x1] σ Q :=
  z_ent k_C_heirs l_C_heirs rfl (Nat.le_refl _) (z_blk k_C_heirs 18 0 rfl h)
set_option maxRecDepth 20000 in
theorem b_C_chain_0 {e : z_E} {d : Nat} {x1 : Int} {σ : z_M} {Q : Int → z_M → Prop} (h : z_C e d m_C_within [z_I x1, z_I 1212] σ (fun r1 σ1 => (¬ r1 = 0 → z_C e d m_S_find [z_R 7, z_I x1] σ1 (fun r2 σ2 => (0 ≤ r2 → z_C e d m_S_chainFrom [z_R 7, z_R r2] σ2 (fun r3 σ3 => Q r3 σ3)) ∧ (r2 < 0 → Q (-20002) σ2))) ∧ (r1 = 0 → Q (-20001) σ1))) : z_C e (d + 1) m_C_chain [z_R 0, z_I x1] σ Q :=
  z_ent k_C_chain l_C_chain rfl (Nat.le_refl _) (z_blk k_C_chain 18 0 rfl h)
set_option maxRecDepth 20000 in
theorem b_C_next_0 {e : z_E} {d : Nat} {σ : z_M} {Q : Int → z_M → Prop} (h : (¬ (σ 7 2) = 0 → z_C e d m_S_leastWorth [z_R 7] σ (fun r1 σ1 => (0 ≤ (r1 : Int) ∧ (r1 : Int) < 101) ∧ (z_ck (z_ok z_NT 2 (σ1 8 r1)) (Q (σ1 (σ1 8 r1) 1) σ1)))) ∧ ((σ 7 2) = 0 → Q (-20002) σ)) : z_C e (d + 1) m_C_next [z_R 0] σ Q :=
  z_ent k_C_next l_C_next rfl (Nat.le_refl _) (z_blk k_C_next 15 0 rfl h)
set_option maxRecDepth 20000 in
theorem b_C_clear_0 {e : z_E} {d : Nat} {σ : z_M} {Q : Int → z_M → Prop} (h : z_C e d m_S_empty [z_R 7] σ (fun r1 σ1 => Q r1 σ1)) : z_C e (d + 1) m_C_clear [z_R 0] σ Q :=
  z_ent k_C_clear l_C_clear rfl (Nat.le_refl _) (z_blk k_C_clear 6 0 rfl h)
set_option maxRecDepth 20000 in
theorem b_C_start_0 {e : z_E} {d : Nat} {x1 x2 x3 : Int} {σ : z_M} {Q : Int → z_M → Prop} (h : z_C e d m_C_within [z_I x1, z_I 4] σ (fun r1 σ1 => (r1 = 0 → Q (-20001) σ1) ∧ (¬ r1 = 0 → z_C e d m_C_isKey [z_I x2, z_I x3] σ1 (fun r2 σ2 => (¬ r2 = 0 → (0 ≤ (x1 : Int) ∧ (x1 : Int) < 4) ∧ (z_ck (z_ok z_NT 4 (333 + 92 * x1)) (z_C e d m_U_isBusy [z_R (333 + 92 * x1)] σ2 (fun r3 σ3 => (r3 = 0 → z_ck (z_ok z_NT 4 (333 + 92 * x1)) (z_C e d m_U_renew [z_R (333 + 92 * x1), z_I 0] σ3 (fun _ σ4 => z_C e d m_C_keyOf [z_I x2, z_I x3] σ4 (fun r5 σ5 => z_C e d m_C_askKey [z_R 0, z_R (333 + 92 * x1), z_I r5] σ5 (fun _ σ6 => z_ck (z_ok z_NT 4 (333 + 92 * x1)) (Q (σ6 (333 + 92 * x1) 2) σ6)))))) ∧ (¬ r3 = 0 → Q (-20003) σ3))))) ∧ (r2 = 0 → Q (-20001) σ2))))) : z_C e (d + 1) m_C_start [z_R 0, z_I x1, z_I x2, z_I x3] σ Q :=
  z_ent k_C_start l_C_start rfl (Nat.le_refl _) (z_blk k_C_start 30 0 rfl h)
set_option maxRecDepth 20000 in
theorem b_C_step_0 {e : z_E} {d : Nat} {x1 x2 : Int} {σ : z_M} {Q : Int → z_M → Prop} (h : z_C e d m_C_within [z_I x1, z_I 4] σ (fun r1 σ1 => (r1 = 0 → Q (-20001) σ1) ∧ (¬ r1 = 0 → (x2 < 1 → Q (-20001) σ1) ∧ (1 ≤ x2 → (x2 ≤ 100 → (0 ≤ (x1 : Int) ∧ (x1 : Int) < 4) ∧ (z_ck (z_ok z_NT 4 (333 + 92 * x1)) (z_C e d m_U_isBusy [z_R (333 + 92 * x1)] σ1 (fun r2 σ2 => (¬ r2 = 0 → z_ck (z_ok z_NT 4 (333 + 92 * x1)) (z_C e d m_C_goOn [z_R 0, z_R (333 + 92 * x1)] σ2 (fun _ σ3 => z_T e d m_C_step 55 [some (z_R 0), none, some (z_I x2), some (z_R (333 + 92 * x1)), some (z_I (σ2 (333 + 92 * x1) 4)), some (z_I 0)] σ3 Q))) ∧ (r2 = 0 → Q (-20003) σ2))))) ∧ (100 < x2 → Q (-20001) σ1))))) : z_C e (d + 1) m_C_step [z_R 0, z_I x1, z_I x2] σ Q :=
  z_ent k_C_step l_C_step rfl (Nat.le_refl _) (z_blk k_C_step 29 0 rfl h)
set_option maxRecDepth 20000 in
theorem b_C_step_55 {e : z_E} {d : Nat} {x2 x3 x4 x5 : Int} {σ : z_M} {Q : Int → z_M → Prop} (h : (x2 ≤ x5 → z_ck (z_ok z_NT 4 x3) (Q (z_wr ((σ x3 4) - x4)) σ)) ∧ (x5 < x2 → z_ck (z_ok z_NT 4 x3) ((¬ (σ x3 2) = 1 → z_ck (z_ok z_NT 4 x3) (Q (z_wr ((σ x3 4) - x4)) σ)) ∧ ((σ x3 2) = 1 → z_C e d m_C_workStep [z_R 0, z_R x3] σ (fun _ σ1 => z_T e d m_C_step 55 [some (z_R 0), none, some (z_I x2), some (z_R x3), some (z_I x4), some (z_I (z_wr (x5 + 1)))] σ1 Q))))) : z_T e d m_C_step 55 [some (z_R 0), none, some (z_I x2), some (z_R x3), some (z_I x4), some (z_I x5)] σ Q :=
  z_blk k_C_step 15 30 rfl h
set_option maxRecDepth 20000 in
theorem b_C_stop_0 {e : z_E} {d : Nat} {x1 : Int} {σ : z_M} {Q : Int → z_M → Prop} (h : z_C e d m_C_within [z_I x1, z_I 4] σ (fun r1 σ1 => (¬ r1 = 0 → (0 ≤ (x1 : Int) ∧ (x1 : Int) < 4) ∧ (z_ck (z_ok z_NT 4 (333 + 92 * x1)) (z_C e d m_U_isBusy [z_R (333 + 92 * x1)] σ1 (fun r2 σ2 => (¬ r2 = 0 → z_ck (z_ok z_NT 4 (333 + 92 * x1)) (z_ck (z_ok z_NT 4 (333 + 92 * x1)) (z_C e d m_U_renew [z_R (333 + 92 * x1), z_I 0] σ2 (fun _ σ3 => Q (σ2 (333 + 92 * x1) 3) σ3)))) ∧ (r2 = 0 → Q (-20003) σ2))))) ∧ (r1 = 0 → Q (-20001) σ1))) : z_C e (d + 1) m_C_stop [z_R 0, z_I x1] σ Q :=
  z_ent k_C_stop l_C_stop rfl (Nat.le_refl _) (z_blk k_C_stop 22 0 rfl h)
set_option maxRecDepth 20000 in
theorem b_C_task_0 {e : z_E} {d : Nat} {x1 x2 : Int} {σ : z_M} {Q : Int → z_M → Prop} (h : z_C e d m_C_within [z_I x1, z_I 4] σ (fun r1 σ1 => (r1 = 0 → Q (-20001) σ1) ∧ (¬ r1 = 0 → (x2 < 0 → Q (-20001) σ1) ∧ (0 ≤ x2 → (x2 ≤ 5 → (0 ≤ (x1 : Int) ∧ (x1 : Int) < 4) ∧ (((x2 : Int) = 0 → z_ck (z_ok z_NT 4 (333 + 92 * x1)) (Q (σ1 (333 + 92 * x1) 2) σ1)) ∧ (¬ (x2 : Int) = 0 → ((x2 : Int) = 1 → z_ck (z_ok z_NT 4 (333 + 92 * x1)) (((σ1 (333 + 92 * x1) 2) = 3 → z_ck (z_ok z_NT 4 (333 + 92 * x1)) (z_C e d m_U_outcome [z_R (333 + 92 * x1)] σ1 (fun r2 σ2 => Q r2 σ2))) ∧ (¬ (σ1 (333 + 92 * x1) 2) = 3 → z_ck (z_ok z_NT 4 (333 + 92 * x1)) ((¬ (σ1 (333 + 92 * x1) 2) = 4 → Q (-20002) σ1) ∧ ((σ1 (333 + 92 * x1) 2) = 4 → z_ck (z_ok z_NT 4 (333 + 92 * x1)) (z_C e d m_U_outcome [z_R (333 + 92 * x1)] σ1 (fun r3 σ3 => Q r3 σ3))))))) ∧ (¬ (x2 : Int) = 1 → ((x2 : Int) = 2 → z_ck (z_ok z_NT 4 (333 + 92 * x1)) (Q (σ1 (333 + 92 * x1) 3) σ1)) ∧ (¬ (x2 : Int) = 2 → ((x2 : Int) = 3 → z_ck (z_ok z_NT 4 (333 + 92 * x1)) (Q (σ1 (333 + 92 * x1) 4) σ1)) ∧ (¬ (x2 : Int) = 3 → ((x2 : Int) = 4 → z_ck (z_ok z_NT 4 (333 + 92 * x1)) ((¬ (σ1 (333 + 92 * x1) 2) = 2 → Q (-20002) σ1) ∧ ((σ1 (333 + 92 * x1) 2) = 2 → z_ck (z_ok z_NT 4 (333 + 92 * x1)) (Q (σ1 (333 + 92 * x1) 5) σ1)))) ∧ (¬ (x2 : Int) = 4 → z_ck (z_ok z_NT 4 (333 + 92 * x1)) ((¬ (σ1 (333 + 92 * x1) 2) = 2 → Q (-20002) σ1) ∧ ((σ1 (333 + 92 * x1) 2) = 2 → z_ck (z_ok z_NT 4 (333 + 92 * x1)) (Q (σ1 (333 + 92 * x1) 6) σ1)))))))))) ∧ (5 < x2 → Q (-20001) σ1))))) : z_C e (d + 1) m_C_task [z_R 0, z_I x1, z_I x2] σ Q :=
  z_ent k_C_task l_C_task rfl (Nat.le_refl _) (z_blk k_C_task 30 0 rfl h)
set_option maxRecDepth 20000 in
theorem b_C_frame_0 {e : z_E} {d : Nat} {x1 x2 : Int} {σ : z_M} {Q : Int → z_M → Prop} (h : z_C e d m_C_within [z_I x1, z_I 4] σ (fun r1 σ1 => (r1 = 0 → Q (-20001) σ1) ∧ (¬ r1 = 0 → (0 ≤ x2 → (0 ≤ (x1 : Int) ∧ (x1 : Int) < 4) ∧ (z_ck (z_ok z_NT 4 (333 + 92 * x1)) (((σ1 (333 + 92 * x1) 3) ≤ x2 → Q (-20002) σ1) ∧ (x2 < (σ1 (333 + 92 * x1) 3) → z_ck (z_ok z_NT 4 (333 + 92 * x1)) (z_ck (z_ok z_NT 500030 ((333 + 92 * x1) + 1)) ((0 ≤ (x2 : Int) ∧ (x2 : Int) < 30) ∧ (z_ck (z_ok z_NT 1 (((333 + 92 * x1) + 1) + 1 + 3 * x2)) (Q (σ1 (((333 + 92 * x1) + 1) + 1 + 3 * x2) 3) σ1)))))))) ∧ (x2 < 0 → Q (-20001) σ1)))) : z_C e (d + 1) m_C_frame [z_R 0, z_I x1, z_I x2] σ Q :=
  z_ent k_C_frame l_C_frame rfl (Nat.le_refl _) (z_blk k_C_frame 24 0 rfl h)
set_option maxRecDepth 20000 in
theorem b_C_led_0 {e : z_E} {d : Nat} {x1 : Int} {σ : z_M} {Q : Int → z_M → Prop} (h : ((x1 : Int) = 0 → Q (σ 0 9) σ) ∧ (¬ (x1 : Int) = 0 → ((x1 : Int) = 1 → Q (σ 0 10) σ) ∧ (¬ (x1 : Int) = 1 → ((x1 : Int) = 2 → Q (σ 0 11) σ) ∧ (¬ (x1 : Int) = 2 → ((x1 : Int) = 3 → Q (σ 7 7) σ) ∧ (¬ (x1 : Int) = 3 → ((x1 : Int) = 4 → Q (σ 7 8) σ) ∧ (¬ (x1 : Int) = 4 → ((x1 : Int) = 5 → Q (σ 7 9) σ) ∧ (¬ (x1 : Int) = 5 → ((x1 : Int) = 6 → Q (σ 0 12) σ) ∧ (¬ (x1 : Int) = 6 → Q (-20001) σ)))))))) : z_C e (d + 1) m_C_led [z_R 0, z_I x1] σ Q :=
  z_ent k_C_led l_C_led rfl (Nat.le_refl _) (z_blk k_C_led 8 0 rfl h)
set_option maxRecDepth 20000 in
theorem b_C_count_0 {e : z_E} {d : Nat} {x1 : Int} {σ : z_M} {Q : Int → z_M → Prop} (h : ((x1 : Int) = 0 → Q (σ 7 2) σ) ∧ (¬ (x1 : Int) = 0 → ((x1 : Int) = 1 → Q (σ 7 3) σ) ∧ (¬ (x1 : Int) = 1 → ((x1 : Int) = 2 → z_C e d m_C_rulesWithText [z_R 0] σ (fun r2 σ2 => Q r2 σ2)) ∧ (¬ (x1 : Int) = 2 → ((x1 : Int) = 3 → Q (σ 3 2) σ) ∧ (¬ (x1 : Int) = 3 → ((x1 : Int) = 4 → Q (σ 0 7) σ) ∧ (¬ (x1 : Int) = 4 → ((x1 : Int) = 5 → z_C e d m_C_busyTasks [z_R 0] σ (fun r1 σ1 => Q r1 σ1)) ∧ (¬ (x1 : Int) = 5 → Q (-20001) σ))))))) : z_C e (d + 1) m_C_count [z_R 0, z_I x1] σ Q :=
  z_ent k_C_count l_C_count rfl (Nat.le_refl _) (z_blk k_C_count 8 0 rfl h)
set_option maxRecDepth 20000 in
theorem b_C_within_0 {e : z_E} {d : Nat} {x0 x1 : Int} {σ : z_M} {Q : Int → z_M → Prop} (h : (x0 < 0 → Q 0 σ) ∧ (0 ≤ x0 → (x1 ≤ x0 → Q 0 σ) ∧ (x0 < x1 → Q 1 σ))) : z_C e (d + 1) m_C_within [z_I x0, z_I x1] σ Q :=
  z_ent k_C_within l_C_within rfl (Nat.le_refl _) (z_blk k_C_within 10 0 rfl h)
set_option maxRecDepth 20000 in
theorem b_C_isArgument_0 {e : z_E} {d : Nat} {x0 : Int} {σ : z_M} {Q : Int → z_M → Prop} (h : (x0 < (-50) → Q 0 σ) ∧ ((-50) ≤ x0 → (50 < x0 → Q 0 σ) ∧ (x0 ≤ 50 → Q 1 σ))) : z_C e (d + 1) m_C_isArgument [z_I x0] σ Q :=
  z_ent k_C_isArgument l_C_isArgument rfl (Nat.le_refl _) (z_blk k_C_isArgument 11 0 rfl h)
set_option maxRecDepth 20000 in
theorem b_C_isKey_0 {e : z_E} {d : Nat} {x0 x1 : Int} {σ : z_M} {Q : Int → z_M → Prop} (h : z_C e d m_C_within [z_I x0, z_I 12] σ (fun r1 σ1 => (r1 = 0 → Q 0 σ1) ∧ (¬ r1 = 0 → z_C e d m_C_isArgument [z_I x1] σ1 (fun r2 σ2 => (r2 = 0 → Q 0 σ2) ∧ (¬ r2 = 0 → Q 1 σ2))))) : z_C e (d + 1) m_C_isKey [z_I x0, z_I x1] σ Q :=
  z_ent k_C_isKey l_C_isKey rfl (Nat.le_refl _) (z_blk k_C_isKey 12 0 rfl h)
set_option maxRecDepth 20000 in
theorem b_C_keyOf_0 {e : z_E} {d : Nat} {x0 x1 : Int} {σ : z_M} {Q : Int → z_M → Prop} (h : Q (z_wr ((z_wr ((z_wr (101 * x0)) + x1)) + 50)) σ) : z_C e (d + 1) m_C_keyOf [z_I x0, z_I x1] σ Q :=
  z_ent k_C_keyOf l_C_keyOf rfl (Nat.le_refl _) (z_blk k_C_keyOf 10 0 rfl h)
set_option maxRecDepth 20000 in
theorem b_C_rulesWithText_0 {e : z_E} {d : Nat} {σ : z_M} {Q : Int → z_M → Prop} (h : z_T e d m_C_rulesWithText 13 [none, some (z_I 0), some (z_R 2), some (z_I 12), some (z_I 0), none] σ Q) : z_C e (d + 1) m_C_rulesWithText [z_R 0] σ Q :=
  z_ent k_C_rulesWithText l_C_rulesWithText rfl (Nat.le_refl _) (z_blk k_C_rulesWithText 13 0 rfl h)
set_option maxRecDepth 20000 in
theorem b_C_rulesWithText_13 {e : z_E} {d : Nat} {x1 x2 x3 x4 : Int} {σ : z_M} {Q : Int → z_M → Prop} (h : (x3 ≤ x4 → Q x1 σ) ∧ (x4 < x3 → z_ck (z_ok z_NT 300012 x2) ((0 ≤ (x4 : Int) ∧ (x4 : Int) < 12) ∧ (z_ck (z_ok z_NT 6 (309 + 2 * x4)) (z_C e d m_T_stands [z_R (309 + 2 * x4)] σ (fun r1 σ1 => (r1 = 0 → z_T e d m_C_rulesWithText 36 [none, some (z_I x1), some (z_R x2), some (z_I x3), some (z_I x4), none] σ1 Q) ∧ (¬ r1 = 0 → z_T e d m_C_rulesWithText 36 [none, some (z_I (z_wr (x1 + 1))), some (z_R x2), some (z_I x3), some (z_I x4), none] σ1 Q))))))) : z_T e d m_C_rulesWithText 13 [none, some (z_I x1), some (z_R x2), some (z_I x3), some (z_I x4), none] σ Q :=
  z_blk k_C_rulesWithText 14 10 rfl h
set_option maxRecDepth 20000 in
theorem b_C_rulesWithText_36 {e : z_E} {d : Nat} {x1 x2 x3 x4 : Int} {σ : z_M} {Q : Int → z_M → Prop} (h : z_T e d m_C_rulesWithText 13 [none, some (z_I x1), some (z_R x2), some (z_I x3), some (z_I (z_wr (x4 + 1))), none] σ Q) : z_T e d m_C_rulesWithText 36 [none, some (z_I x1), some (z_R x2), some (z_I x3), some (z_I x4), none] σ Q :=
  z_blk k_C_rulesWithText 5 21 rfl h
set_option maxRecDepth 20000 in
theorem b_C_busyTasks_0 {e : z_E} {d : Nat} {σ : z_M} {Q : Int → z_M → Prop} (h : z_T e d m_C_busyTasks 13 [none, some (z_I 0), some (z_R 308), some (z_I 4), some (z_I 0), none] σ Q) : z_C e (d + 1) m_C_busyTasks [z_R 0] σ Q :=
  z_ent k_C_busyTasks l_C_busyTasks rfl (Nat.le_refl _) (z_blk k_C_busyTasks 13 0 rfl h)
set_option maxRecDepth 20000 in
theorem b_C_busyTasks_13 {e : z_E} {d : Nat} {x1 x2 x3 x4 : Int} {σ : z_M} {Q : Int → z_M → Prop} (h : (x3 ≤ x4 → Q x1 σ) ∧ (x4 < x3 → z_ck (z_ok z_NT 400004 x2) ((0 ≤ (x4 : Int) ∧ (x4 : Int) < 4) ∧ (z_ck (z_ok z_NT 4 (333 + 92 * x4)) (z_C e d m_U_isBusy [z_R (333 + 92 * x4)] σ (fun r1 σ1 => (r1 = 0 → z_T e d m_C_busyTasks 36 [none, some (z_I x1), some (z_R x2), some (z_I x3), some (z_I x4), none] σ1 Q) ∧ (¬ r1 = 0 → z_T e d m_C_busyTasks 36 [none, some (z_I (z_wr (x1 + 1))), some (z_R x2), some (z_I x3), some (z_I x4), none] σ1 Q))))))) : z_T e d m_C_busyTasks 13 [none, some (z_I x1), some (z_R x2), some (z_I x3), some (z_I x4), none] σ Q :=
  z_blk k_C_busyTasks 14 10 rfl h
set_option maxRecDepth 20000 in
theorem b_C_busyTasks_36 {e : z_E} {d : Nat} {x1 x2 x3 x4 : Int} {σ : z_M} {Q : Int → z_M → Prop} (h : z_T e d m_C_busyTasks 13 [none, some (z_I x1), some (z_R x2), some (z_I x3), some (z_I (z_wr (x4 + 1))), none] σ Q) : z_T e d m_C_busyTasks 36 [none, some (z_I x1), some (z_R x2), some (z_I x3), some (z_I x4), none] σ Q :=
  z_blk k_C_busyTasks 5 21 rfl h
set_option maxRecDepth 20000 in
theorem b_C_workOut_0 {e : z_E} {d : Nat} {x1 x2 : Int} {σ : z_M} {Q : Int → z_M → Prop} (h : z_C e d m_C_askKey [z_R 0, z_R x1, z_I x2] σ (fun _ σ1 => z_T e d m_C_workOut 8 [some (z_R 0), some (z_R x1), none, some (z_I 0)] σ1 Q)) : z_C e (d + 1) m_C_workOut [z_R 0, z_R x1, z_I x2] σ Q :=
  z_ent k_C_workOut l_C_workOut rfl (Nat.le_refl _) (z_blk k_C_workOut 9 0 rfl h)
set_option maxRecDepth 20000 in
theorem b_C_workOut_8 {e : z_E} {d : Nat} {x1 x3 : Int} {σ : z_M} {Q : Int → z_M → Prop} (h : (2000 < x3 → Q 0 σ) ∧ (x3 ≤ 2000 → z_ck (z_ok z_NT 4 x1) ((¬ (σ x1 2) = 1 → Q 0 σ) ∧ ((σ x1 2) = 1 → z_C e d m_C_workStep [z_R 0, z_R x1] σ (fun _ σ1 => z_T e d m_C_workOut 8 [some (z_R 0), some (z_R x1), none, some (z_I (z_wr (x3 + 1)))] σ1 Q))))) : z_T e d m_C_workOut 8 [some (z_R 0), some (z_R x1), none, some (z_I x3)] σ Q :=
  z_blk k_C_workOut 15 6 rfl h
set_option maxRecDepth 20000 in
theorem b_C_goOn_0 {e : z_E} {d : Nat} {x1 : Int} {σ : z_M} {Q : Int → z_M → Prop} (h : z_ck (z_ok z_NT 4 x1) ((¬ (σ x1 2) = 2 → z_ck (z_ok z_NT 4 x1) (z_C e d m_U_top [z_R x1] σ (fun r1 σ1 => (r1 < 0 → z_C e d m_C_fail [z_R 0, z_R x1, z_I 5] σ1 (fun _ σ2 => Q 0 σ2)) ∧ (0 ≤ r1 → z_ck (z_ok z_NT 1 r1) (z_C e d m_F_hasText [z_R r1] σ1 (fun r3 σ3 => (¬ r3 = 0 → Q 0 σ3) ∧ (r3 = 0 → z_C e d m_C_fail [z_R 0, z_R x1, z_I 5] σ3 (fun _ σ4 => Q 0 σ4)))))))) ∧ ((σ x1 2) = 2 → z_ck (z_ok z_NT 4 x1) (z_C e d m_C_askKey [z_R 0, z_R x1, z_I (σ x1 6)] σ (fun _ σ5 => z_C e d m_C_settle [z_R 0, z_R x1] σ5 (fun _ σ6 => Q 0 σ6)))))) : z_C e (d + 1) m_C_goOn [z_R 0, z_R x1] σ Q :=
  z_ent k_C_goOn l_C_goOn rfl (Nat.le_refl _) (z_blk k_C_goOn 19 0 rfl h)
set_option maxRecDepth 20000 in
theorem b_C_workStep_0 {e : z_E} {d : Nat} {x1 : Int} {σ : z_M} {Q : Int → z_M → Prop} (h : z_ck (z_ok z_NT 4 x1) (z_C e d m_U_top [z_R x1] σ (fun r1 σ1 => (0 ≤ r1 → z_ck (z_ok z_NT 4 x1) (((σ1 x1 4) < 2000 → z_ck (z_ok z_NT 4 x1) (z_ck (z_ok z_NT 4 x1) (z_C e d m_C_workNode [z_R 0, z_R x1, z_R r1] (z_up σ1 x1 4 (z_wr ((σ1 x1 4) + 1))) (fun r2 σ2 => (r2 = (-1) → z_C e d m_C_settle [z_R 0, z_R x1] σ2 (fun _ σ3 => Q 0 σ3)) ∧ (¬ r2 = (-1) → z_C e d m_C_askKey [z_R 0, z_R x1, z_I r2] σ2 (fun _ σ4 => z_C e d m_C_settle [z_R 0, z_R x1] σ4 (fun _ σ5 => Q 0 σ5))))))) ∧ (2000 ≤ (σ1 x1 4) → z_C e d m_C_fail [z_R 0, z_R x1, z_I 6] σ1 (fun _ σ6 => Q 0 σ6)))) ∧ (r1 < 0 → Q 0 σ1)))) : z_C e (d + 1) m_C_workStep [z_R 0, z_R x1] σ Q :=
  z_ent k_C_workStep l_C_workStep rfl (Nat.le_refl _) (z_blk k_C_workStep 33 0 rfl h)
set_option maxRecDepth 20000 in
theorem b_C_workNode_0 {e : z_E} {d : Nat} {x1 x2 : Int} {σ : z_M} {Q : Int → z_M → Prop} (h : z_ck (z_ok z_NT 1 x2) (z_C e d m_F_fetch [z_R x2] σ (fun r1 σ1 => (((z_and r1 15) : Int) = 0 → z_ck (z_ok z_NT 1 x2) (z_C e d m_F_push [z_R x2, z_I (z_shr r1 4)] σ1 (fun _ σ10 => Q (-1) σ10))) ∧ (¬ ((z_and r1 15) : Int) = 0 → (((z_and r1 15) : Int) = 1 → z_ck (z_ok z_NT 1 x2) (z_C e d m_F_argument [z_R x2] σ1 (fun r8 σ8 => z_ck (z_ok z_NT 1 x2) (z_C e d m_F_push [z_R x2, z_I r8] σ8 (fun _ σ9 => Q (-1) σ9))))) ∧ (¬ ((z_and r1 15) : Int) = 1 → (((z_and r1 15) : Int) = 2 → z_C e d m_C_readCell [z_R 0, z_R x2, z_I (z_shr r1 4)] σ1 (fun _ σ7 => Q (-1) σ7)) ∧ (¬ ((z_and r1 15) : Int) = 2 → (((z_and r1 15) : Int) = 3 → z_C e d m_C_calledKey [z_R 0, z_R x1, z_R x2, z_I (z_shr r1 4)] σ1 (fun r6 σ6 => Q r6 σ6)) ∧ (¬ ((z_and r1 15) : Int) = 3 → (((z_and r1 15) : Int) = 4 → z_ck (z_ok z_NT 1 x2) (z_C e d m_F_pop [z_R x2] σ1 (fun r4 σ4 => z_ck (z_ok z_NT 1 x2) (z_C e d m_F_push [z_R x2, z_I (z_wr (-r4))] σ4 (fun _ σ5 => Q (-1) σ5))))) ∧ (¬ ((z_and r1 15) : Int) = 4 → (((z_and r1 15) : Int) = 5 → z_ck (z_ok z_NT 1 x2) (z_C e d m_F_pop [z_R x2] σ1 (fun r3 σ3 => (¬ r3 = 0 → Q (-1) σ3) ∧ (r3 = 0 → z_ck (z_ok z_NT 1 x2) (Q (-1) (z_up σ3 x2 6 (z_shr r1 4))))))) ∧ (¬ ((z_and r1 15) : Int) = 5 → z_C e d m_C_workSign [z_R 0, z_R x1, z_R x2, z_I (z_and r1 15)] σ1 (fun _ σ2 => Q (-1) σ2)))))))))) : z_C e (d + 1) m_C_workNode [z_R 0, z_R x1, z_R x2] σ Q :=
  z_ent k_C_workNode l_C_workNode rfl (Nat.le_refl _) (z_blk k_C_workNode 22 0 rfl h)
set_option maxRecDepth 20000 in
theorem b_C_readCell_0 {e : z_E} {d : Nat} {x1 x2 : Int} {σ : z_M} {Q : Int → z_M → Prop} (h : z_C e d m_C_within [z_I x2, z_I 12] σ (fun r1 σ1 => (r1 = 0 → Q 0 σ1) ∧ (¬ r1 = 0 → z_ck (z_ok z_NT 1 x1) (z_ck (z_ok z_NT 1 x1) ((0 ≤ (x2 : Int) ∧ (x2 : Int) < 12) ∧ (z_ck (z_ok z_NT 1 x1) (z_C e d m_F_push [z_R x1, z_I ((z_up σ1 x1 7 (z_or (σ1 x1 7) (z_shl 1 x2))) 1 x2)] (z_up σ1 x1 7 (z_or (σ1 x1 7) (z_shl 1 x2))) (fun _ σ2 => Q 0 σ2)))))))) : z_C e (d + 1) m_C_readCell [z_R 0, z_R x1, z_I x2] σ Q :=
  z_ent k_C_readCell l_C_readCell rfl (Nat.le_refl _) (z_blk k_C_readCell 21 0 rfl h)
set_option maxRecDepth 20000 in
theorem b_C_calledKey_0 {e : z_E} {d : Nat} {x1 x2 x3 : Int} {σ : z_M} {Q : Int → z_M → Prop} (h : z_ck (z_ok z_NT 1 x2) (z_C e d m_F_pop [z_R x2] σ (fun r1 σ1 => z_C e d m_C_isArgument [z_I r1] σ1 (fun r2 σ2 => (r2 = 0 → z_C e d m_C_fail [z_R 0, z_R x1, z_I 3] σ2 (fun _ σ3 => Q (-1) σ3)) ∧ (¬ r2 = 0 → z_C e d m_C_keyOf [z_I x3, z_I r1] σ2 (fun r4 σ4 => Q r4 σ4)))))) : z_C e (d + 1) m_C_calledKey [z_R 0, z_R x1, z_R x2, z_I x3] σ Q :=
  z_ent k_C_calledKey l_C_calledKey rfl (Nat.le_refl _) (z_blk k_C_calledKey 14 0 rfl h)
set_option maxRecDepth 20000 in
theorem b_C_workSign_0 {e : z_E} {d : Nat} {x1 x2 x3 : Int} {σ : z_M} {Q : Int → z_M → Prop} (h : z_ck (z_ok z_NT 1 x2) (z_C e d m_F_pop [z_R x2] σ (fun r1 σ1 => z_ck (z_ok z_NT 1 x2) (z_C e d m_F_pop [z_R x2] σ1 (fun r2 σ2 => (¬ x3 = 10 → z_T e d m_C_workSign 30 [some (z_R 0), some (z_R x1), some (z_R x2), some (z_I x3), some (z_I r1), some (z_I r2), none] σ2 Q) ∧ (x3 = 10 → (¬ r1 = 0 → z_T e d m_C_workSign 30 [some (z_R 0), some (z_R x1), some (z_R x2), some (z_I x3), some (z_I r1), some (z_I r2), none] σ2 Q) ∧ (r1 = 0 → z_C e d m_C_fail [z_R 0, z_R x1, z_I 2] σ2 (fun _ σ3 => Q 0 σ3)))))))) : z_C e (d + 1) m_C_workSign [z_R 0, z_R x1, z_R x2, z_I x3] σ Q :=
  z_ent k_C_workSign l_C_workSign rfl (Nat.le_refl _) (z_blk k_C_workSign 18 0 rfl h)
set_option maxRecDepth 20000 in
theorem b_C_workSign_30 {e : z_E} {d : Nat} {x1 x2 x3 x4 x5 : Int} {σ : z_M} {Q : Int → z_M → Prop} (h : z_C e d m_C_join [z_I x3, z_I x5, z_I x4] σ (fun r1 σ1 => (r1 < (-9999) → z_C e d m_C_fail [z_R 0, z_R x1, z_I 3] σ1 (fun _ σ2 => Q 0 σ2)) ∧ ((-9999) ≤ r1 → (r1 ≤ 9999 → z_ck (z_ok z_NT 1 x2) (z_C e d m_F_push [z_R x2, z_I r1] σ1 (fun _ σ3 => Q 0 σ3))) ∧ (9999 < r1 → z_C e d m_C_fail [z_R 0, z_R x1, z_I 3] σ1 (fun _ σ4 => Q 0 σ4))))) : z_T e d m_C_workSign 30 [some (z_R 0), some (z_R x1), some (z_R x2), some (z_I x3), some (z_I x4), some (z_I x5), none] σ Q :=
  z_blk k_C_workSign 18 16 rfl h
set_option maxRecDepth 20000 in
theorem b_C_join_0 {e : z_E} {d : Nat} {x0 x1 x2 : Int} {σ : z_M} {Q : Int → z_M → Prop} (h : ((x0 : Int) = 7 → Q (z_wr (x1 + x2)) σ) ∧ (¬ (x0 : Int) = 7 → ((x0 : Int) = 8 → Q (z_wr (x1 - x2)) σ) ∧ (¬ (x0 : Int) = 8 → ((x0 : Int) = 9 → Q (z_wr (x1 * x2)) σ) ∧ (¬ (x0 : Int) = 9 → ((x0 : Int) = 10 → (¬ x2 = 0 → (¬ (x2 : Int) = 0) ∧ (Q (z_wr (Int.tdiv x1 x2)) σ)) ∧ (x2 = 0 → Q 0 σ)) ∧ (¬ (x0 : Int) = 10 → ((x0 : Int) = 11 → (x2 ≤ x1 → Q 0 σ) ∧ (x1 < x2 → Q 1 σ)) ∧ (¬ (x0 : Int) = 11 → (¬ x1 = x2 → Q 0 σ) ∧ (x1 = x2 → Q 1 σ))))))) : z_C e (d + 1) m_C_join [z_I x0, z_I x1, z_I x2] σ Q :=
  z_ent k_C_join l_C_join rfl (Nat.le_refl _) (z_blk k_C_join 10 0 rfl h)
set_option maxRecDepth 20000 in
theorem b_C_askKey_0 {e : z_E} {d : Nat} {x1 x2 : Int} {σ : z_M} {Q : Int → z_M → Prop} (h : z_ck (z_ok z_NT 4 x1) (((σ x1 1) = 2 → z_T e d m_C_askKey 18 [some (z_R 0), some (z_R x1), some (z_I x2)] σ Q) ∧ (¬ (σ x1 1) = 2 → z_T e d m_C_askKey 18 [some (z_R 0), some (z_R x1), some (z_I x2)] (z_up σ 0 7 (z_wr ((σ 0 7) + 1))) Q))) : z_C e (d + 1) m_C_askKey [z_R 0, z_R x1, z_I x2] σ Q :=
  z_ent k_C_askKey l_C_askKey rfl (Nat.le_refl _) (z_blk k_C_askKey 13 0 rfl h)
set_option maxRecDepth 20000 in
theorem b_C_askKey_18 {e : z_E} {d : Nat} {x1 x2 : Int} {σ : z_M} {Q : Int → z_M → Prop} (h : z_C e d m_C_recalls [z_R 0, z_R x1, z_I x2] σ (fun r1 σ1 => (r1 = 0 → z_ck (z_ok z_NT 4 x1) (z_C e d m_U_hasFrameOf [z_R x1, z_I x2] σ1 (fun r2 σ2 => (r2 = 0 → z_ck (z_ok z_NT 4 x1) ((¬ (σ2 x1 1) = 0 → z_C e d m_C_beginFrame [z_R 0, z_R x1, z_I x2] σ2 (fun _ σ3 => Q 0 σ3)) ∧ ((σ2 x1 1) = 0 → z_C e d m_C_meetsOther [z_R 0, z_R x1, z_I x2] σ2 (fun r4 σ4 => (¬ r4 = 0 → Q 0 σ4) ∧ (r4 = 0 → z_C e d m_C_beginFrame [z_R 0, z_R x1, z_I x2] σ4 (fun _ σ5 => Q 0 σ5)))))) ∧ (¬ r2 = 0 → z_C e d m_C_fail [z_R 0, z_R x1, z_I 1] σ2 (fun _ σ6 => Q 0 σ6))))) ∧ (¬ r1 = 0 → Q 0 σ1))) : z_T e d m_C_askKey 18 [some (z_R 0), some (z_R x1), some (z_I x2)] σ Q :=
  z_blk k_C_askKey 24 10 rfl h
set_option maxRecDepth 20000 in
theorem b_C_recalls_0 {e : z_E} {d : Nat} {x1 x2 : Int} {σ : z_M} {Q : Int → z_M → Prop} (h : z_ck (z_ok z_NT 4 x1) ((¬ (σ x1 1) = 2 → z_C e d m_S_find [z_R 7, z_I x2] σ (fun r1 σ1 => (0 ≤ r1 → z_ck (z_ok z_NT 2 r1) (z_ck (z_ok z_NT 2 r1) (z_ck (z_ok z_NT 2 r1) (z_ck (z_ok z_NT 2 r1) (z_ck (z_ok z_NT 2 r1) (z_ck (z_ok z_NT 4 x1) (z_C e d m_U_give [z_R x1, z_I x2, z_I ((z_up (z_up (z_up σ1 0 9 (z_wr ((σ1 0 9) + 1))) r1 5 ((z_up σ1 0 9 (z_wr ((σ1 0 9) + 1))) 0 7)) r1 6 (z_wr (((z_up (z_up σ1 0 9 (z_wr ((σ1 0 9) + 1))) r1 5 ((z_up σ1 0 9 (z_wr ((σ1 0 9) + 1))) 0 7)) r1 6) + 1))) r1 2), z_I ((z_up (z_up (z_up σ1 0 9 (z_wr ((σ1 0 9) + 1))) r1 5 ((z_up σ1 0 9 (z_wr ((σ1 0 9) + 1))) 0 7)) r1 6 (z_wr (((z_up (z_up σ1 0 9 (z_wr ((σ1 0 9) + 1))) r1 5 ((z_up σ1 0 9 (z_wr ((σ1 0 9) + 1))) 0 7)) r1 6) + 1))) r1 7)] (z_up (z_up (z_up σ1 0 9 (z_wr ((σ1 0 9) + 1))) r1 5 ((z_up σ1 0 9 (z_wr ((σ1 0 9) + 1))) 0 7)) r1 6 (z_wr (((z_up (z_up σ1 0 9 (z_wr ((σ1 0 9) + 1))) r1 5 ((z_up σ1 0 9 (z_wr ((σ1 0 9) + 1))) 0 7)) r1 6) + 1))) (fun _ σ2 => Q 1 σ2)))))))) ∧ (r1 < 0 → Q 0 σ1))) ∧ ((σ x1 1) = 2 → z_C e d m_H_holds [z_R 213, z_I x2] σ (fun r3 σ3 => (¬ r3 = 0 → z_C e d m_H_valueOf [z_R 213, z_I x2] σ3 (fun r4 σ4 => z_ck (z_ok z_NT 4 x1) (z_C e d m_U_give [z_R x1, z_I x2, z_I r4, z_I 0] σ4 (fun _ σ5 => Q 1 σ5)))) ∧ (r3 = 0 → Q 0 σ3))))) : z_C e (d + 1) m_C_recalls [z_R 0, z_R x1, z_I x2] σ Q :=
  z_ent k_C_recalls l_C_recalls rfl (Nat.le_refl _) (z_blk k_C_recalls 38 0 rfl h)
set_option maxRecDepth 20000 in
theorem b_C_meetsOther_0 {e : z_E} {d : Nat} {x1 x2 : Int} {σ : z_M} {Q : Int → z_M → Prop} (h : z_T e d m_C_meetsOther 2 [some (z_R 0), some (z_R x1), some (z_I x2), some (z_I 0)] σ Q) : z_C e (d + 1) m_C_meetsOther [z_R 0, z_R x1, z_I x2] σ Q :=
  z_ent k_C_meetsOther l_C_meetsOther rfl (Nat.le_refl _) (z_blk k_C_meetsOther 5 0 rfl h)
set_option maxRecDepth 20000 in
theorem b_C_meetsOther_2 {e : z_E} {d : Nat} {x1 x2 x3 : Int} {σ : z_M} {Q : Int → z_M → Prop} (h : (4 ≤ x3 → Q 0 σ) ∧ (x3 < 4 → (0 ≤ (x3 : Int) ∧ (x3 : Int) < 4) ∧ ((0 ≤ (333 + 92 * x3) ∧ 0 ≤ x1) ∧ ((333 + 92 * x3) = x1 → z_T e d m_C_meetsOther 78 [some (z_R 0), some (z_R x1), some (z_I x2), some (z_I x3)] σ Q) ∧ (¬ (333 + 92 * x3) = x1 → (0 ≤ (x3 : Int) ∧ (x3 : Int) < 4) ∧ (z_ck (z_ok z_NT 4 (333 + 92 * x3)) (z_C e d m_U_hasFrameOf [z_R (333 + 92 * x3), z_I x2] σ (fun r1 σ1 => (r1 = 0 → z_T e d m_C_meetsOther 78 [some (z_R 0), some (z_R x1), some (z_I x2), some (z_I x3)] σ1 Q) ∧ (¬ r1 = 0 → z_C e d m_C_waitsLeadTo [z_R 0, z_I x3, z_R x1] σ1 (fun r2 σ2 => (r2 = 0 → z_ck (z_ok z_NT 4 x1) ((¬ (σ2 x1 2) = 2 → z_ck (z_ok z_NT 4 x1) (z_C e d m_U_waitFor [z_R x1, z_I x3, z_I x2] (z_up σ2 0 12 (z_wr ((σ2 0 12) + 1))) (fun _ σ3 => Q 1 σ3))) ∧ ((σ2 x1 2) = 2 → z_ck (z_ok z_NT 4 x1) (z_C e d m_U_waitFor [z_R x1, z_I x3, z_I x2] (z_up σ2 0 12 (z_wr ((σ2 0 12) + 0))) (fun _ σ4 => Q 1 σ4))))) ∧ (¬ r2 = 0 → z_C e d m_C_fail [z_R 0, z_R x1, z_I 1] σ2 (fun _ σ5 => Q 1 σ5))))))))))) : z_T e d m_C_meetsOther 2 [some (z_R 0), some (z_R x1), some (z_I x2), some (z_I x3)] σ Q :=
  z_blk k_C_meetsOther 40 2 rfl h
set_option maxRecDepth 20000 in
theorem b_C_meetsOther_78 {e : z_E} {d : Nat} {x1 x2 x3 : Int} {σ : z_M} {Q : Int → z_M → Prop} (h : z_T e d m_C_meetsOther 2 [some (z_R 0), some (z_R x1), some (z_I x2), some (z_I (z_wr (x3 + 1)))] σ Q) : z_T e d m_C_meetsOther 78 [some (z_R 0), some (z_R x1), some (z_I x2), some (z_I x3)] σ Q :=
  z_blk k_C_meetsOther 5 46 rfl h
set_option maxRecDepth 20000 in
theorem b_C_waitsLeadTo_0 {e : z_E} {d : Nat} {x1 x2 : Int} {σ : z_M} {Q : Int → z_M → Prop} (h : z_T e d m_C_waitsLeadTo 5 [some (z_R 0), none, some (z_R x2), some (z_I x1), some (z_I 0)] σ Q) : z_C e (d + 1) m_C_waitsLeadTo [z_R 0, z_I x1, z_R x2] σ Q :=
  z_ent k_C_waitsLeadTo l_C_waitsLeadTo rfl (Nat.le_refl _) (z_blk k_C_waitsLeadTo 7 0 rfl h)
set_option maxRecDepth 20000 in
theorem b_C_waitsLeadTo_5 {e : z_E} {d : Nat} {x2 x3 x4 : Int} {σ : z_M} {Q : Int → z_M → Prop} (h : (4 ≤ x4 → Q 0 σ) ∧ (x4 < 4 → z_C e d m_C_within [z_I x3, z_I 4] σ (fun r1 σ1 => (r1 = 0 → Q 0 σ1) ∧ (¬ r1 = 0 → (0 ≤ (x3 : Int) ∧ (x3 : Int) < 4) ∧ (z_ck (z_ok z_NT 4 (333 + 92 * x3)) (((σ1 (333 + 92 * x3) 2) = 2 → (0 ≤ (x3 : Int) ∧ (x3 : Int) < 4) ∧ (z_ck (z_ok z_NT 4 (333 + 92 * x3)) (z_C e d m_C_within [z_I (σ1 (333 + 92 * x3) 5), z_I 4] σ1 (fun r2 σ2 => (r2 = 0 → z_T e d m_C_waitsLeadTo 64 [some (z_R 0), none, some (z_R x2), some (z_I (σ1 (333 + 92 * x3) 5)), some (z_I x4)] σ2 Q) ∧ (¬ r2 = 0 → (0 ≤ ((σ1 (333 + 92 * x3) 5) : Int) ∧ ((σ1 (333 + 92 * x3) 5) : Int) < 4) ∧ ((0 ≤ (333 + 92 * (σ1 (333 + 92 * x3) 5)) ∧ 0 ≤ x2) ∧ (¬ (333 + 92 * (σ1 (333 + 92 * x3) 5)) = x2 → z_T e d m_C_waitsLeadTo 64 [some (z_R 0), none, some (z_R x2), some (z_I (σ1 (333 + 92 * x3) 5)), some (z_I x4)] σ2 Q) ∧ ((333 + 92 * (σ1 (333 + 92 * x3) 5)) = x2 → Q 1 σ2))))))) ∧ (¬ (σ1 (333 + 92 * x3) 2) = 2 → Q 0 σ1))))))) : z_T e d m_C_waitsLeadTo 5 [some (z_R 0), none, some (z_R x2), some (z_I x3), some (z_I x4)] σ Q :=
  z_blk k_C_waitsLeadTo 34 4 rfl h
set_option maxRecDepth 20000 in
theorem b_C_waitsLeadTo_64 {e : z_E} {d : Nat} {x2 x3 x4 : Int} {σ : z_M} {Q : Int → z_M → Prop} (h : z_T e d m_C_waitsLeadTo 5 [some (z_R 0), none, some (z_R x2), some (z_I x3), some (z_I (z_wr (x4 + 1)))] σ Q) : z_T e d m_C_waitsLeadTo 64 [some (z_R 0), none, some (z_R x2), some (z_I x3), some (z_I x4)] σ Q :=
  z_blk k_C_waitsLeadTo 5 38 rfl h
set_option maxRecDepth 20000 in
theorem b_C_beginFrame_0 {e : z_E} {d : Nat} {x1 x2 : Int} {σ : z_M} {Q : Int → z_M → Prop} (h : z_ck (z_ok z_NT 4 x1) (((σ x1 3) < 30 → z_C e d m_C_within [z_I x2, z_I 1212] σ (fun r1 σ1 => (r1 = 0 → (((-1) : Int) < 0 → z_C e d m_C_fail [z_R 0, z_R x1, z_I 5] σ1 (fun _ σ2 => Q 0 σ2)) ∧ (0 ≤ ((-1) : Int) → False)) ∧ (¬ r1 = 0 → (¬ (101 : Int) = 0) ∧ ((0 ≤ ((z_wr (Int.tdiv x2 101)) : Int) ∧ ((z_wr (Int.tdiv x2 101)) : Int) < 12) ∧ (((309 + 2 * (z_wr (Int.tdiv x2 101))) < 0 → z_C e d m_C_fail [z_R 0, z_R x1, z_I 5] σ1 (fun _ σ6 => Q 0 σ6)) ∧ (0 ≤ (309 + 2 * (z_wr (Int.tdiv x2 101))) → z_ck (z_ok z_NT 6 (309 + 2 * (z_wr (Int.tdiv x2 101)))) (z_C e d m_T_stands [z_R (309 + 2 * (z_wr (Int.tdiv x2 101)))] σ1 (fun r7 σ7 => (¬ r7 = 0 → z_ck (z_ok z_NT 4 x1) (z_C e d m_U_begin [z_R x1, z_I x2, z_R (309 + 2 * (z_wr (Int.tdiv x2 101))), z_I (σ7 0 7)] σ7 (fun _ σ8 => z_ck (z_ok z_NT 4 x1) (((σ8 x1 1) = 2 → Q 0 σ8) ∧ (¬ (σ8 x1 1) = 2 → Q 0 (z_up σ8 0 10 (z_wr ((σ8 0 10) + 1)))))))) ∧ (r7 = 0 → z_C e d m_C_fail [z_R 0, z_R x1, z_I 5] σ7 (fun _ σ9 => Q 0 σ9)))))))))) ∧ (30 ≤ (σ x1 3) → z_C e d m_C_fail [z_R 0, z_R x1, z_I 4] σ (fun _ σ10 => Q 0 σ10)))) : z_C e (d + 1) m_C_beginFrame [z_R 0, z_R x1, z_I x2] σ Q :=
  z_ent k_C_beginFrame l_C_beginFrame rfl (Nat.le_refl _) (z_blk k_C_beginFrame 40 0 rfl h)
set_option maxRecDepth 20000 in
theorem b_C_settle_0 {e : z_E} {d : Nat} {x1 : Int} {σ : z_M} {Q : Int → z_M → Prop} (h : z_T e d m_C_settle 2 [some (z_R 0), some (z_R x1), some (z_I 0), none] σ Q) : z_C e (d + 1) m_C_settle [z_R 0, z_R x1] σ Q :=
  z_ent k_C_settle l_C_settle rfl (Nat.le_refl _) (z_blk k_C_settle 5 0 rfl h)
set_option maxRecDepth 20000 in
theorem b_C_settle_2 {e : z_E} {d : Nat} {x1 x2 : Int} {σ : z_M} {Q : Int → z_M → Prop} (h : (30 ≤ x2 → Q 0 σ) ∧ (x2 < 30 → z_ck (z_ok z_NT 4 x1) ((¬ (σ x1 2) = 1 → Q 0 σ) ∧ ((σ x1 2) = 1 → z_ck (z_ok z_NT 4 x1) (z_C e d m_U_top [z_R x1] σ (fun r1 σ1 => (r1 < 0 → Q 0 σ1) ∧ (0 ≤ r1 → z_ck (z_ok z_NT 1 r1) (z_C e d m_F_isWorkedOut [z_R r1] σ1 (fun r2 σ2 => (¬ r2 = 0 → z_ck (z_ok z_NT 4 x1) (z_ck (z_ok z_NT 4 x1) (z_C e d m_C_keep [z_R 0, z_R x1, z_R r1] (z_up σ2 x1 3 (z_wr ((σ2 x1 3) - 1))) (fun _ σ3 => z_ck (z_ok z_NT 1 r1) (z_ck (z_ok z_NT 1 r1) (z_C e d m_F_value [z_R r1] σ3 (fun r4 σ4 => z_ck (z_ok z_NT 1 r1) (z_ck (z_ok z_NT 4 x1) (z_C e d m_U_give [z_R x1, z_I (σ3 r1 3), z_I r4, z_I (σ4 r1 7)] σ4 (fun _ σ5 => z_T e d m_C_settle 2 [some (z_R 0), some (z_R x1), some (z_I (z_wr (x2 + 1))), none] σ5 Q)))))))))) ∧ (r2 = 0 → Q 0 σ2)))))))))) : z_T e d m_C_settle 2 [some (z_R 0), some (z_R x1), some (z_I x2), none] σ Q :=
  z_blk k_C_settle 38 2 rfl h
set_option maxRecDepth 20000 in
theorem b_C_keep_0 {e : z_E} {d : Nat} {x1 x2 : Int} {σ : z_M} {Q : Int → z_M → Prop} (h : z_ck (z_ok z_NT 4 x1) ((¬ (σ x1 1) = 2 → z_ck (z_ok z_NT 4 x1) (z_ck (z_ok z_NT 1 x2) (z_C e d m_S_keep [z_R 7, z_R x2, z_I (z_wr ((σ x1 4) - (σ x2 5)))] σ (fun _ σ1 => Q 0 σ1)))) ∧ ((σ x1 1) = 2 → z_ck (z_ok z_NT 1 x2) (z_ck (z_ok z_NT 1 x2) (z_C e d m_F_value [z_R x2] σ (fun r2 σ2 => z_C e d m_H_hold [z_R 213, z_I (σ x2 3), z_I r2] σ2 (fun _ σ3 => Q 0 σ3))))))) : z_C e (d + 1) m_C_keep [z_R 0, z_R x1, z_R x2] σ Q :=
  z_ent k_C_keep l_C_keep rfl (Nat.le_refl _) (z_blk k_C_keep 16 0 rfl h)
set_option maxRecDepth 20000 in
theorem b_C_fail_0 {e : z_E} {d : Nat} {x1 x2 : Int} {σ : z_M} {Q : Int → z_M → Prop} (h : z_ck (z_ok z_NT 4 x1) (z_C e d m_U_failBy [z_R x1, z_I x2] σ (fun _ σ1 => z_ck (z_ok z_NT 4 x1) (((σ1 x1 1) = 2 → Q 0 σ1) ∧ (¬ (σ1 x1 1) = 2 → Q 0 (z_up σ1 0 11 (z_wr ((σ1 0 11) + 1)))))))) : z_C e (d + 1) m_C_fail [z_R 0, z_R x1, z_I x2] σ Q :=
  z_ent k_C_fail l_C_fail rfl (Nat.le_refl _) (z_blk k_C_fail 16 0 rfl h)
set_option maxRecDepth 20000 in
theorem b_C_changed_0 {e : z_E} {d : Nat} {x1 : Int} {σ : z_M} {Q : Int → z_M → Prop} (h : z_T e d m_C_changed 16 [some (z_R 0), none, some (z_I (z_shl 1 x1)), some (z_R 308), some (z_I 4), some (z_I 0), none] σ Q) : z_C e (d + 1) m_C_changed [z_R 0, z_I x1] σ Q :=
  z_ent k_C_changed l_C_changed rfl (Nat.le_refl _) (z_blk k_C_changed 15 0 rfl h)
set_option maxRecDepth 20000 in
theorem b_C_changed_16 {e : z_E} {d : Nat} {x2 x3 x4 x5 : Int} {σ : z_M} {Q : Int → z_M → Prop} (h : (x4 ≤ x5 → z_C e d m_S_throwOut [z_R 7, z_I x2] σ (fun r1 σ1 => Q r1 σ1)) ∧ (x5 < x4 → z_ck (z_ok z_NT 400004 x3) ((0 ≤ (x5 : Int) ∧ (x5 : Int) < 4) ∧ (z_ck (z_ok z_NT 4 (333 + 92 * x5)) (z_C e d m_U_isBusy [z_R (333 + 92 * x5)] σ (fun r2 σ2 => (r2 = 0 → z_T e d m_C_changed 56 [some (z_R 0), none, some (z_I x2), some (z_R x3), some (z_I x4), some (z_I x5), none] σ2 Q) ∧ (¬ r2 = 0 → z_ck (z_ok z_NT 4 (333 + 92 * x5)) (z_C e d m_U_beginsAnew [z_R (333 + 92 * x5), z_I x2] σ2 (fun r3 σ3 => (r3 = 0 → z_T e d m_C_changed 56 [some (z_R 0), none, some (z_I x2), some (z_R x3), some (z_I x4), some (z_I x5), none] σ3 Q) ∧ (¬ r3 = 0 → z_T e d m_C_changed 56 [some (z_R 0), none, some (z_I x2), some (z_R x3), some (z_I x4), some (z_I x5), none] (z_up σ3 0 10 (z_wr ((σ3 0 10) + 1))) Q)))))))))) : z_T e d m_C_changed 16 [some (z_R 0), none, some (z_I x2), some (z_R x3), some (z_I x4), some (z_I x5), none] σ Q :=
  z_blk k_C_changed 23 12 rfl h
set_option maxRecDepth 20000 in
theorem b_C_changed_56 {e : z_E} {d : Nat} {x2 x3 x4 x5 : Int} {σ : z_M} {Q : Int → z_M → Prop} (h : z_T e d m_C_changed 16 [some (z_R 0), none, some (z_I x2), some (z_R x3), some (z_I x4), some (z_I (z_wr (x5 + 1))), none] σ Q) : z_T e d m_C_changed 56 [some (z_R 0), none, some (z_I x2), some (z_R x3), some (z_I x4), some (z_I x5), none] σ Q :=
  z_blk k_C_changed 5 32 rfl h
end
section
/-! blocks: printed by program (wip/whole/gen/blk.py) -/
set_option maxRecDepth 20000 in
theorem b_M_in_0 {e : z_E} {d : Nat} {x0 x2 x4 : Int} {σ : z_M} {Q : Int → z_M → Prop} (h : ((z_lcmp x0 x2) < 0 → Q 0 σ) ∧ (0 ≤ (z_lcmp x0 x2) → (0 < (z_lcmp x0 x4) → Q 0 σ) ∧ ((z_lcmp x0 x4) ≤ 0 → Q 1 σ))) : z_C e (d + 1) m_M_in [z_J x0, z_J x2, z_J x4] σ Q :=
  z_ent k_M_in l_M_in rfl (Nat.le_refl _) (z_blk k_M_in 13 0 rfl h)
set_option maxRecDepth 20000 in
theorem b_M_feed_0 {e : z_E} {d : Nat} {x1 : Int} {σ : z_M} {Q : Int → z_M → Prop} (h : z_C e d m_M_in [z_J x1, z_J 0, z_J 255] σ (fun r1 σ1 => (¬ r1 = 0 → (¬ (σ1 701 2) = 100 → (0 ≤ ((σ1 701 2) : Int) ∧ ((σ1 701 2) : Int) < 100) ∧ (Q ((z_up (z_up σ1 703 (σ1 701 2) x1) 701 2 (z_wr (((z_up σ1 703 (σ1 701 2) x1) 701 2) + 1))) 701 2) (z_up (z_up σ1 703 (σ1 701 2) x1) 701 2 (z_wr (((z_up σ1 703 (σ1 701 2) x1) 701 2) + 1))))) ∧ ((σ1 701 2) = 100 → Q (-20004) σ1)) ∧ (r1 = 0 → Q (-20001) σ1))) : z_C e (d + 1) m_M_feed [z_R 701, z_I x1] σ Q :=
  z_ent k_M_feed l_M_feed rfl (Nat.le_refl _) (z_blk k_M_feed 27 0 rfl h)
set_option maxRecDepth 20000 in
theorem b_M_peek_0 {e : z_E} {d : Nat} {σ : z_M} {Q : Int → z_M → Prop} (h : ((σ 701 2) ≤ (σ 701 8) → Q (-1) σ) ∧ ((σ 701 8) < (σ 701 2) → (0 ≤ ((σ 701 8) : Int) ∧ ((σ 701 8) : Int) < 100) ∧ (Q (σ 703 (σ 701 8)) σ))) : z_C e (d + 1) m_M_peek [z_R 701] σ Q :=
  z_ent k_M_peek l_M_peek rfl (Nat.le_refl _) (z_blk k_M_peek 14 0 rfl h)
set_option maxRecDepth 20000 in
theorem b_M_wrong_0 {e : z_E} {d : Nat} {x1 : Int} {σ : z_M} {Q : Int → z_M → Prop} (h : (0 ≤ (σ 701 9) → Q 0 (z_up σ 701 9 (σ 701 9))) ∧ ((σ 701 9) < 0 → Q 0 (z_up σ 701 9 x1))) : z_C e (d + 1) m_M_wrong [z_R 701, z_I x1] σ Q :=
  z_ent k_M_wrong l_M_wrong rfl (Nat.le_refl _) (z_blk k_M_wrong 10 0 rfl h)
set_option maxRecDepth 20000 in
theorem b_M_takes_0 {e : z_E} {d : Nat} {x1 : Int} {σ : z_M} {Q : Int → z_M → Prop} (h : (0 ≤ (σ 701 9) → Q 0 σ) ∧ ((σ 701 9) < 0 → z_C e d m_M_peek [z_R 701] σ (fun r1 σ1 => (r1 = x1 → Q 1 (z_up σ1 701 8 (z_wr ((σ1 701 8) + 1)))) ∧ (¬ r1 = x1 → Q 0 σ1)))) : z_C e (d + 1) m_M_takes [z_R 701, z_I x1] σ Q :=
  z_ent k_M_takes l_M_takes rfl (Nat.le_refl _) (z_blk k_M_takes 17 0 rfl h)
set_option maxRecDepth 20000 in
theorem b_M_wants_0 {e : z_E} {d : Nat} {x1 : Int} {σ : z_M} {Q : Int → z_M → Prop} (h : z_C e d m_M_takes [z_R 701, z_I x1] σ (fun r1 σ1 => (¬ r1 = 0 → Q 0 σ1) ∧ (r1 = 0 → z_C e d m_M_wrong [z_R 701, z_I (σ1 701 8)] σ1 (fun _ σ2 => Q 0 σ2)))) : z_C e (d + 1) m_M_wants [z_R 701, z_I x1] σ Q :=
  z_ent k_M_wants l_M_wants rfl (Nat.le_refl _) (z_blk k_M_wants 11 0 rfl h)
set_option maxRecDepth 20000 in
theorem b_M_writes_0 {e : z_E} {d : Nat} {x1 x2 : Int} {σ : z_M} {Q : Int → z_M → Prop} (h : (0 ≤ (σ 701 9) → Q 0 σ) ∧ ((σ 701 9) < 0 → (0 ≤ ((σ 701 6) : Int) ∧ ((σ 701 6) : Int) < 400) ∧ ((0 ≤ ((z_wr (((z_up σ 706 (σ 701 6) x1) 701 6) + 1)) : Int) ∧ ((z_wr (((z_up σ 706 (σ 701 6) x1) 701 6) + 1)) : Int) < 400) ∧ ((¬ x1 = 13 → Q 0 (z_up (z_up (z_up (z_up σ 706 (σ 701 6) x1) 706 (z_wr (((z_up σ 706 (σ 701 6) x1) 701 6) + 1)) x2) 701 6 (z_wr (((z_up (z_up σ 706 (σ 701 6) x1) 706 (z_wr (((z_up σ 706 (σ 701 6) x1) 701 6) + 1)) x2) 701 6) + 2))) 701 7 (z_wr (((z_up (z_up (z_up σ 706 (σ 701 6) x1) 706 (z_wr (((z_up σ 706 (σ 701 6) x1) 701 6) + 1)) x2) 701 6 (z_wr (((z_up (z_up σ 706 (σ 701 6) x1) 706 (z_wr (((z_up σ 706 (σ 701 6) x1) 701 6) + 1)) x2) 701 6) + 2))) 701 7) + 1)))) ∧ (x1 = 13 → Q 0 (z_up (z_up (z_up (z_up σ 706 (σ 701 6) x1) 706 (z_wr (((z_up σ 706 (σ 701 6) x1) 701 6) + 1)) x2) 701 6 (z_wr (((z_up (z_up σ 706 (σ 701 6) x1) 706 (z_wr (((z_up σ 706 (σ 701 6) x1) 701 6) + 1)) x2) 701 6) + 2))) 701 7 (z_wr (((z_up (z_up (z_up σ 706 (σ 701 6) x1) 706 (z_wr (((z_up σ 706 (σ 701 6) x1) 701 6) + 1)) x2) 701 6 (z_wr (((z_up (z_up σ 706 (σ 701 6) x1) 706 (z_wr (((z_up σ 706 (σ 701 6) x1) 701 6) + 1)) x2) 701 6) + 2))) 701 7) + 0)))))))) : z_C e (d + 1) m_M_writes [z_R 701, z_I x1, z_I x2] σ Q :=
  z_ent k_M_writes l_M_writes rfl (Nat.le_refl _) (z_blk k_M_writes 36 0 rfl h)
set_option maxRecDepth 20000 in
theorem b_M_opens_0 {e : z_E} {d : Nat} {σ : z_M} {Q : Int → z_M → Prop} (h : (0 ≤ (σ 701 9) → Q 0 (z_up σ 701 10 (z_wr ((σ 701 10) + 1)))) ∧ ((σ 701 9) < 0 → (¬ (σ 701 10) = 5 → Q 0 (z_up σ 701 10 (z_wr ((σ 701 10) + 1)))) ∧ ((σ 701 10) = 5 → z_C e d m_M_wrong [z_R 701, z_I (z_wr ((σ 701 8) - 1))] σ (fun _ σ1 => Q 0 (z_up σ1 701 10 (z_wr ((σ1 701 10) + 1))))))) : z_C e (d + 1) m_M_opens [z_R 701] σ Q :=
  z_ent k_M_opens l_M_opens rfl (Nat.le_refl _) (z_blk k_M_opens 22 0 rfl h)
set_option maxRecDepth 20000 in
theorem b_M_readsWhole_0 {e : z_E} {d : Nat} {σ : z_M} {Q : Int → z_M → Prop} (h : z_C e d m_M_readsCompared [z_R 701] σ (fun _ σ1 => z_C e d m_M_takes [z_R 701, z_I 63] σ1 (fun r2 σ2 => (¬ r2 = 0 → z_C e d m_M_opens [z_R 701] σ2 (fun _ σ3 => z_C e d m_M_writes [z_R 701, z_I 12, z_I 0] σ3 (fun _ σ4 => z_C e d m_M_readsWhole [z_R 701] σ4 (fun _ σ5 => z_C e d m_M_wants [z_R 701, z_I 58] σ5 (fun _ σ6 => z_C e d m_M_writes [z_R 701, z_I 13, z_I 0] (z_up σ6 701 10 (z_wr ((σ6 701 10) - 1))) (fun _ σ7 => ((σ7 701 9) < 0 → (0 ≤ ((z_wr ((σ3 701 6) + 1)) : Int) ∧ ((z_wr ((σ3 701 6) + 1)) : Int) < 400) ∧ (z_C e d m_M_readsWhole [z_R 701] (z_up σ7 706 (z_wr ((σ3 701 6) + 1)) (σ7 701 6)) (fun _ σ8 => (0 ≤ ((z_wr (((z_up σ6 701 10 (z_wr ((σ6 701 10) - 1))) 701 6) + 1)) : Int) ∧ ((z_wr (((z_up σ6 701 10 (z_wr ((σ6 701 10) - 1))) 701 6) + 1)) : Int) < 400) ∧ (Q 0 (z_up σ8 706 (z_wr (((z_up σ6 701 10 (z_wr ((σ6 701 10) - 1))) 701 6) + 1)) (σ8 701 6)))))) ∧ (0 ≤ (σ7 701 9) → Q 0 σ7))))))) ∧ (r2 = 0 → Q 0 σ2)))) : z_C e (d + 1) m_M_readsWhole [z_R 701] σ Q :=
  z_ent k_M_readsWhole l_M_readsWhole rfl (Nat.le_refl _) (z_blk k_M_readsWhole 57 0 rfl h)
set_option maxRecDepth 20000 in
theorem b_M_readsCompared_0 {e : z_E} {d : Nat} {σ : z_M} {Q : Int → z_M → Prop} (h : z_C e d m_M_readsSum [z_R 701] σ (fun _ σ1 => z_C e d m_M_takes [z_R 701, z_I 60] σ1 (fun r2 σ2 => (r2 = 0 → z_C e d m_M_takes [z_R 701, z_I 61] σ2 (fun r3 σ3 => (r3 = 0 → Q 0 σ3) ∧ (¬ r3 = 0 → z_C e d m_M_readsSum [z_R 701] σ3 (fun _ σ4 => z_C e d m_M_writes [z_R 701, z_I 10, z_I 0] σ4 (fun _ σ5 => Q 0 σ5))))) ∧ (¬ r2 = 0 → z_C e d m_M_readsSum [z_R 701] σ2 (fun _ σ6 => z_C e d m_M_writes [z_R 701, z_I 9, z_I 0] σ6 (fun _ σ7 => Q 0 σ7)))))) : z_C e (d + 1) m_M_readsCompared [z_R 701] σ Q :=
  z_ent k_M_readsCompared l_M_readsCompared rfl (Nat.le_refl _) (z_blk k_M_readsCompared 19 0 rfl h)
set_option maxRecDepth 20000 in
theorem b_M_readsSum_0 {e : z_E} {d : Nat} {σ : z_M} {Q : Int → z_M → Prop} (h : z_C e d m_M_readsProduct [z_R 701] σ (fun _ σ1 => z_T e d m_M_readsSum 4 [some (z_R 701), none] σ1 Q)) : z_C e (d + 1) m_M_readsSum [z_R 701] σ Q :=
  z_ent k_M_readsSum l_M_readsSum rfl (Nat.le_refl _) (z_blk k_M_readsSum 5 0 rfl h)
set_option maxRecDepth 20000 in
theorem b_M_readsSum_4 {e : z_E} {d : Nat} {σ : z_M} {Q : Int → z_M → Prop} (h : (0 ≤ (σ 701 9) → Q 0 σ) ∧ ((σ 701 9) < 0 → z_C e d m_M_peek [z_R 701] σ (fun r1 σ1 => (r1 = 43 → z_T e d m_M_readsSum 29 [some (z_R 701), none] σ1 Q) ∧ (¬ r1 = 43 → z_C e d m_M_peek [z_R 701] σ1 (fun r2 σ2 => (¬ r2 = 45 → Q 0 σ2) ∧ (r2 = 45 → z_T e d m_M_readsSum 29 [some (z_R 701), none] σ2 Q)))))) : z_T e d m_M_readsSum 4 [some (z_R 701), none] σ Q :=
  z_blk k_M_readsSum 14 2 rfl h
set_option maxRecDepth 20000 in
theorem b_M_readsSum_29 {e : z_E} {d : Nat} {σ : z_M} {Q : Int → z_M → Prop} (h : z_C e d m_M_takes [z_R 701, z_I 43] σ (fun r1 σ1 => (r1 = 0 → z_C e d m_M_readsProduct [z_R 701] (z_up σ1 701 8 (z_wr ((σ1 701 8) + 1))) (fun _ σ2 => (r1 = 0 → z_C e d m_M_writes [z_R 701, z_I 6, z_I 0] σ2 (fun _ σ3 => z_T e d m_M_readsSum 4 [some (z_R 701), none] σ3 Q)) ∧ (¬ r1 = 0 → z_C e d m_M_writes [z_R 701, z_I 5, z_I 0] σ2 (fun _ σ4 => z_T e d m_M_readsSum 4 [some (z_R 701), none] σ4 Q)))) ∧ (¬ r1 = 0 → z_C e d m_M_readsProduct [z_R 701] (z_up σ1 701 8 (z_wr ((σ1 701 8) + 0))) (fun _ σ5 => (r1 = 0 → z_C e d m_M_writes [z_R 701, z_I 6, z_I 0] σ5 (fun _ σ6 => z_T e d m_M_readsSum 4 [some (z_R 701), none] σ6 Q)) ∧ (¬ r1 = 0 → z_C e d m_M_writes [z_R 701, z_I 5, z_I 0] σ5 (fun _ σ7 => z_T e d m_M_readsSum 4 [some (z_R 701), none] σ7 Q)))))) : z_T e d m_M_readsSum 29 [some (z_R 701), none] σ Q :=
  z_blk k_M_readsSum 26 13 rfl h
set_option maxRecDepth 20000 in
theorem b_M_readsProduct_0 {e : z_E} {d : Nat} {σ : z_M} {Q : Int → z_M → Prop} (h : z_C e d m_M_readsUnit [z_R 701] σ (fun _ σ1 => z_T e d m_M_readsProduct 4 [some (z_R 701), none] σ1 Q)) : z_C e (d + 1) m_M_readsProduct [z_R 701] σ Q :=
  z_ent k_M_readsProduct l_M_readsProduct rfl (Nat.le_refl _) (z_blk k_M_readsProduct 5 0 rfl h)
set_option maxRecDepth 20000 in
theorem b_M_readsProduct_4 {e : z_E} {d : Nat} {σ : z_M} {Q : Int → z_M → Prop} (h : (0 ≤ (σ 701 9) → Q 0 σ) ∧ ((σ 701 9) < 0 → z_C e d m_M_peek [z_R 701] σ (fun r1 σ1 => (r1 = 42 → z_T e d m_M_readsProduct 29 [some (z_R 701), none] σ1 Q) ∧ (¬ r1 = 42 → z_C e d m_M_peek [z_R 701] σ1 (fun r2 σ2 => (¬ r2 = 47 → Q 0 σ2) ∧ (r2 = 47 → z_T e d m_M_readsProduct 29 [some (z_R 701), none] σ2 Q)))))) : z_T e d m_M_readsProduct 4 [some (z_R 701), none] σ Q :=
  z_blk k_M_readsProduct 14 2 rfl h
set_option maxRecDepth 20000 in
theorem b_M_readsProduct_29 {e : z_E} {d : Nat} {σ : z_M} {Q : Int → z_M → Prop} (h : z_C e d m_M_takes [z_R 701, z_I 42] σ (fun r1 σ1 => (r1 = 0 → z_C e d m_M_readsUnit [z_R 701] (z_up σ1 701 8 (z_wr ((σ1 701 8) + 1))) (fun _ σ2 => (r1 = 0 → z_C e d m_M_writes [z_R 701, z_I 8, z_I 0] σ2 (fun _ σ3 => z_T e d m_M_readsProduct 4 [some (z_R 701), none] σ3 Q)) ∧ (¬ r1 = 0 → z_C e d m_M_writes [z_R 701, z_I 7, z_I 0] σ2 (fun _ σ4 => z_T e d m_M_readsProduct 4 [some (z_R 701), none] σ4 Q)))) ∧ (¬ r1 = 0 → z_C e d m_M_readsUnit [z_R 701] (z_up σ1 701 8 (z_wr ((σ1 701 8) + 0))) (fun _ σ5 => (r1 = 0 → z_C e d m_M_writes [z_R 701, z_I 8, z_I 0] σ5 (fun _ σ6 => z_T e d m_M_readsProduct 4 [some (z_R 701), none] σ6 Q)) ∧ (¬ r1 = 0 → z_C e d m_M_writes [z_R 701, z_I 7, z_I 0] σ5 (fun _ σ7 => z_T e d m_M_readsProduct 4 [some (z_R 701), none] σ7 Q)))))) : z_T e d m_M_readsProduct 29 [some (z_R 701), none] σ Q :=
  z_blk k_M_readsProduct 26 13 rfl h
set_option maxRecDepth 20000 in
theorem b_M_figures_0 {e : z_E} {d : Nat} {σ : z_M} {Q : Int → z_M → Prop} (h : z_T e d m_M_figures 7 [some (z_R 701), some (z_I (σ 701 8)), some (z_I 0)] σ Q) : z_C e (d + 1) m_M_figures [z_R 701] σ Q :=
  z_ent k_M_figures l_M_figures rfl (Nat.le_refl _) (z_blk k_M_figures 8 0 rfl h)
set_option maxRecDepth 20000 in
theorem b_M_figures_7 {e : z_E} {d : Nat} {x1 x2 : Int} {σ : z_M} {Q : Int → z_M → Prop} (h : (0 ≤ (σ 701 9) → z_T e d m_M_figures 67 [some (z_R 701), some (z_I x1), some (z_I x2)] σ Q) ∧ ((σ 701 9) < 0 → ((z_wr (x1 + 2)) ≤ (σ 701 8) → z_T e d m_M_figures 67 [some (z_R 701), some (z_I x1), some (z_I x2)] σ Q) ∧ ((σ 701 8) < (z_wr (x1 + 2)) → z_C e d m_M_peek [z_R 701] σ (fun r1 σ1 => z_C e d m_M_in [z_J r1, z_J 48, z_J 57] σ1 (fun r2 σ2 => (r2 = 0 → z_T e d m_M_figures 67 [some (z_R 701), some (z_I x1), some (z_I x2)] σ2 Q) ∧ (¬ r2 = 0 → z_C e d m_M_peek [z_R 701] σ2 (fun r3 σ3 => z_T e d m_M_figures 7 [some (z_R 701), some (z_I x1), some (z_I (z_wr ((z_wr ((z_wr (10 * x2)) + r3)) - 48)))] (z_up σ3 701 8 (z_wr ((σ3 701 8) + 1))) Q))))))) : z_T e d m_M_figures 7 [some (z_R 701), some (z_I x1), some (z_I x2)] σ Q :=
  z_blk k_M_figures 35 5 rfl h
set_option maxRecDepth 20000 in
theorem b_M_figures_67 {e : z_E} {d : Nat} {x1 x2 : Int} {σ : z_M} {Q : Int → z_M → Prop} (h : (¬ (σ 701 8) = x1 → Q x2 σ) ∧ ((σ 701 8) = x1 → z_C e d m_M_wrong [z_R 701, z_I (σ 701 8)] σ (fun _ σ1 => Q x2 σ1))) : z_T e d m_M_figures 67 [some (z_R 701), some (z_I x1), some (z_I x2)] σ Q :=
  z_blk k_M_figures 12 37 rfl h
set_option maxRecDepth 20000 in
theorem b_M_figuresToEleven_0 {e : z_E} {d : Nat} {σ : z_M} {Q : Int → z_M → Prop} (h : z_C e d m_M_figures [z_R 701] σ (fun r1 σ1 => (r1 ≤ 11 → Q r1 σ1) ∧ (11 < r1 → z_C e d m_M_wrong [z_R 701, z_I (σ 701 8)] σ1 (fun _ σ2 => Q r1 σ2)))) : z_C e (d + 1) m_M_figuresToEleven [z_R 701] σ Q :=
  z_ent k_M_figuresToEleven l_M_figuresToEleven rfl (Nat.le_refl _) (z_blk k_M_figuresToEleven 16 0 rfl h)
set_option maxRecDepth 20000 in
theorem b_M_readsUnit_0 {e : z_E} {d : Nat} {σ : z_M} {Q : Int → z_M → Prop} (h : z_C e d m_M_takes [z_R 701, z_I 45] σ (fun r1 σ1 => (r1 = 0 → z_C e d m_M_takes [z_R 701, z_I 40] σ1 (fun r2 σ2 => (r2 = 0 → z_C e d m_M_takes [z_R 701, z_I 120] σ2 (fun r3 σ3 => (r3 = 0 → z_C e d m_M_takes [z_R 701, z_I 99] σ3 (fun r4 σ4 => (r4 = 0 → z_C e d m_M_takes [z_R 701, z_I 102] σ4 (fun r5 σ5 => (r5 = 0 → (0 ≤ (σ5 701 9) → Q 0 σ5) ∧ ((σ5 701 9) < 0 → z_C e d m_M_figures [z_R 701] σ5 (fun r6 σ6 => z_C e d m_M_writes [z_R 701, z_I 1, z_I r6] σ6 (fun _ σ7 => Q 0 σ7)))) ∧ (¬ r5 = 0 → z_C e d m_M_figuresToEleven [z_R 701] σ5 (fun r8 σ8 => z_C e d m_M_wants [z_R 701, z_I 40] σ8 (fun _ σ9 => z_C e d m_M_readsBracket [z_R 701] σ9 (fun _ σ10 => z_C e d m_M_writes [z_R 701, z_I 4, z_I r8] σ10 (fun _ σ11 => Q 0 σ11))))))) ∧ (¬ r4 = 0 → z_C e d m_M_figuresToEleven [z_R 701] σ4 (fun r12 σ12 => z_C e d m_M_writes [z_R 701, z_I 3, z_I r12] σ12 (fun _ σ13 => Q 0 σ13))))) ∧ (¬ r3 = 0 → z_C e d m_M_writes [z_R 701, z_I 2, z_I 0] σ3 (fun _ σ14 => Q 0 σ14)))) ∧ (¬ r2 = 0 → z_C e d m_M_readsBracket [z_R 701] σ2 (fun _ σ15 => Q 0 σ15)))) ∧ (¬ r1 = 0 → z_C e d m_M_opens [z_R 701] σ1 (fun _ σ16 => z_C e d m_M_readsUnit [z_R 701] σ16 (fun _ σ17 => z_C e d m_M_writes [z_R 701, z_I 11, z_I 0] (z_up σ17 701 10 (z_wr ((σ17 701 10) - 1))) (fun _ σ18 => Q 0 σ18)))))) : z_C e (d + 1) m_M_readsUnit [z_R 701] σ Q :=
  z_ent k_M_readsUnit l_M_readsUnit rfl (Nat.le_refl _) (z_blk k_M_readsUnit 36 0 rfl h)
set_option maxRecDepth 20000 in
theorem b_M_readsBracket_0 {e : z_E} {d : Nat} {σ : z_M} {Q : Int → z_M → Prop} (h : ((σ 701 9) < 0 → z_C e d m_M_opens [z_R 701] σ (fun _ σ1 => z_C e d m_M_readsWhole [z_R 701] σ1 (fun _ σ2 => z_C e d m_M_wants [z_R 701, z_I 41] σ2 (fun _ σ3 => Q 0 (z_up σ3 701 10 (z_wr ((σ3 701 10) - 1))))))) ∧ (0 ≤ (σ 701 9) → Q 0 σ)) : z_C e (d + 1) m_M_readsBracket [z_R 701] σ Q :=
  z_ent k_M_readsBracket l_M_readsBracket rfl (Nat.le_refl _) (z_blk k_M_readsBracket 19 0 rfl h)
set_option maxRecDepth 20000 in
theorem b_M_rule_0 {e : z_E} {d : Nat} {x1 : Int} {σ : z_M} {Q : Int → z_M → Prop} (h : z_C e d m_M_in [z_J x1, z_J 0, z_J 11] σ (fun r1 σ1 => (¬ r1 = 0 → z_C e d m_M_readsWhole [z_R 701] (z_up (z_up (z_up (z_up (z_up σ1 701 8 0) 701 9 (-1)) 701 10 0) 701 6 0) 701 7 0) (fun _ σ2 => ((σ2 701 2) ≤ (σ2 701 8) → z_T e d m_M_rule 64 [some (z_R 701), some (z_I x1)] σ2 Q) ∧ ((σ2 701 8) < (σ2 701 2) → z_C e d m_M_wrong [z_R 701, z_I (σ2 701 8)] σ2 (fun _ σ3 => z_T e d m_M_rule 64 [some (z_R 701), some (z_I x1)] σ3 Q)))) ∧ (r1 = 0 → Q (-20001) σ1))) : z_C e (d + 1) m_M_rule [z_R 701, z_I x1] σ Q :=
  z_ent k_M_rule l_M_rule rfl (Nat.le_refl _) (z_blk k_M_rule 35 0 rfl h)
set_option maxRecDepth 20000 in
theorem b_M_rule_64 {e : z_E} {d : Nat} {x1 : Int} {σ : z_M} {Q : Int → z_M → Prop} (h : (((z_up σ 701 2 0) 701 9) < 0 → (1 ≤ d ∧ 0 ≤ (0 : Int) ∧ 0 ≤ ((z_wr (400 * x1)) : Int) ∧ 0 ≤ (((z_up σ 701 2 0) 701 6) : Int) ∧ (0 : Int) + ((z_up σ 701 2 0) 701 6) ≤ 400 ∧ ((z_wr (400 * x1)) : Int) + ((z_up σ 701 2 0) 701 6) ≤ 4800) ∧ (100400 / 100000 = 2 → ∀ i : Int, 0 ≤ i → i < 400 → (z_up σ 701 2 0) 706 i = 0 ∨ (z_up σ 701 2 0) 706 i = 1) ∧ ((0 ≤ (x1 : Int) ∧ (x1 : Int) < 12) ∧ (z_C e d m_M_changed [z_R 701, z_I (z_wr (12 + x1))] (z_up (z_cp (z_up σ 701 2 0) 706 0 704 (z_wr (400 * x1)) ((z_up σ 701 2 0) 701 6)) 705 x1 ((z_cp (z_up σ 701 2 0) 706 0 704 (z_wr (400 * x1)) ((z_up σ 701 2 0) 701 6)) 701 6)) (fun r1 σ1 => Q (σ1 701 7) σ1)))) ∧ (0 ≤ ((z_up σ 701 2 0) 701 9) → Q (z_wr ((-100) - ((z_up σ 701 2 0) 701 9))) (z_up σ 701 2 0))) : z_T e d m_M_rule 64 [some (z_R 701), some (z_I x1)] σ Q :=
  z_blk k_M_rule 34 34 rfl h
set_option maxRecDepth 20000 in
theorem b_M_drop_0 {e : z_E} {d : Nat} {x1 : Int} {σ : z_M} {Q : Int → z_M → Prop} (h : z_C e d m_M_in [z_J x1, z_J 0, z_J 11] σ (fun r1 σ1 => (¬ r1 = 0 → (0 ≤ (x1 : Int) ∧ (x1 : Int) < 12) ∧ ((¬ (σ1 705 x1) = 0 → (0 ≤ (x1 : Int) ∧ (x1 : Int) < 12) ∧ (z_C e d m_M_changed [z_R 701, z_I (z_wr (12 + x1))] (z_up σ1 705 x1 0) (fun r2 σ2 => Q r2 σ2))) ∧ ((σ1 705 x1) = 0 → Q (-20003) σ1))) ∧ (r1 = 0 → Q (-20001) σ1))) : z_C e (d + 1) m_M_drop [z_R 701, z_I x1] σ Q :=
  z_ent k_M_drop l_M_drop rfl (Nat.le_refl _) (z_blk k_M_drop 24 0 rfl h)
set_option maxRecDepth 20000 in
theorem b_M_set_0 {e : z_E} {d : Nat} {x1 x2 : Int} {σ : z_M} {Q : Int → z_M → Prop} (h : z_C e d m_M_in [z_J x1, z_J 0, z_J 11] σ (fun r1 σ1 => (r1 = 0 → Q (-20001) σ1) ∧ (¬ r1 = 0 → z_C e d m_M_in [z_J x2, z_J (-99), z_J 99] σ1 (fun r2 σ2 => (¬ r2 = 0 → (0 ≤ (x1 : Int) ∧ (x1 : Int) < 12) ∧ ((¬ (σ2 702 x1) = x2 → (0 ≤ (x1 : Int) ∧ (x1 : Int) < 12) ∧ (z_C e d m_M_changed [z_R 701, z_I x1] (z_up σ2 702 x1 x2) (fun r3 σ3 => Q r3 σ3))) ∧ ((σ2 702 x1) = x2 → Q 0 σ2))) ∧ (r2 = 0 → Q (-20001) σ2))))) : z_C e (d + 1) m_M_set [z_R 701, z_I x1, z_I x2] σ Q :=
  z_ent k_M_set l_M_set rfl (Nat.le_refl _) (z_blk k_M_set 29 0 rfl h)
set_option maxRecDepth 20000 in
theorem b_M_cell_0 {e : z_E} {d : Nat} {x1 : Int} {σ : z_M} {Q : Int → z_M → Prop} (h : z_C e d m_M_in [z_J x1, z_J 0, z_J 11] σ (fun r1 σ1 => (r1 = 0 → Q (-20001) σ1) ∧ (¬ r1 = 0 → (0 ≤ (x1 : Int) ∧ (x1 : Int) < 12) ∧ (Q (σ1 702 x1) σ1)))) : z_C e (d + 1) m_M_cell [z_R 701, z_I x1] σ Q :=
  z_ent k_M_cell l_M_cell rfl (Nat.le_refl _) (z_blk k_M_cell 14 0 rfl h)
set_option maxRecDepth 20000 in
theorem b_M_keyOf_0 {e : z_E} {d : Nat} {x0 x1 : Int} {σ : z_M} {Q : Int → z_M → Prop} (h : Q (z_wr ((z_wr ((z_wr (101 * x0)) + x1)) + 50)) σ) : z_C e (d + 1) m_M_keyOf [z_I x0, z_I x1] σ Q :=
  z_ent k_M_keyOf l_M_keyOf rfl (Nat.le_refl _) (z_blk k_M_keyOf 10 0 rfl h)
set_option maxRecDepth 20000 in
theorem b_M_ruleOf_0 {e : z_E} {d : Nat} {x0 : Int} {σ : z_M} {Q : Int → z_M → Prop} (h : (¬ (101 : Int) = 0) ∧ (Q (z_wr (Int.tdiv x0 101)) σ)) : z_C e (d + 1) m_M_ruleOf [z_I x0] σ Q :=
  z_ent k_M_ruleOf l_M_ruleOf rfl (Nat.le_refl _) (z_blk k_M_ruleOf 6 0 rfl h)
set_option maxRecDepth 20000 in
theorem b_M_argumentOf_0 {e : z_E} {d : Nat} {x0 : Int} {σ : z_M} {Q : Int → z_M → Prop} (h : (¬ (101 : Int) = 0) ∧ (Q (z_wr ((z_wr (x0 - Int.tdiv x0 101 * 101)) - 50)) σ)) : z_C e (d + 1) m_M_argumentOf [z_I x0] σ Q :=
  z_ent k_M_argumentOf l_M_argumentOf rfl (Nat.le_refl _) (z_blk k_M_argumentOf 8 0 rfl h)
set_option maxRecDepth 20000 in
theorem b_M_isKey_0 {e : z_E} {d : Nat} {x0 : Int} {σ : z_M} {Q : Int → z_M → Prop} (h : z_C e d m_M_in [z_J x0, z_J 0, z_J 1211] σ (fun r1 σ1 => z_ck (r1 == 0 || r1 == 1) (Q r1 σ1))) : z_C e (d + 1) m_M_isKey [z_J x0] σ Q :=
  z_ent k_M_isKey l_M_isKey rfl (Nat.le_refl _) (z_blk k_M_isKey 7 0 rfl h)
set_option maxRecDepth 20000 in
theorem b_M_goes_0 {e : z_E} {d : Nat} {x1 : Int} {σ : z_M} {Q : Int → z_M → Prop} (h : (0 ≤ (x1 : Int) ∧ (x1 : Int) < 1212) ∧ (((0 : Int) = 0 ∨ (0 : Int) = 1) ∧ ((0 ≤ (x1 : Int) ∧ (x1 : Int) < 1212) ∧ (Q 0 (z_up (z_up (z_up σ 707 x1 0) 701 22 (z_wr (((z_up σ 707 x1 0) 701 22) - ((z_up σ 707 x1 0) 710 x1)))) 701 23 (z_wr (((z_up (z_up σ 707 x1 0) 701 22 (z_wr (((z_up σ 707 x1 0) 701 22) - ((z_up σ 707 x1 0) 710 x1)))) 701 23) - 1))))))) : z_C e (d + 1) m_M_goes [z_R 701, z_I x1] σ Q :=
  z_ent k_M_goes l_M_goes rfl (Nat.le_refl _) (z_blk k_M_goes 23 0 rfl h)
set_option maxRecDepth 20000 in
theorem b_M_worth_0 {e : z_E} {d : Nat} {x1 : Int} {σ : z_M} {Q : Int → z_M → Prop} (h : (¬ (σ 701 25) = 0 → (¬ (σ 701 25) = 1 → (¬ (σ 701 25) = 2 → (0 ≤ (x1 : Int) ∧ (x1 : Int) < 1212) ∧ (Q (z_wr (-(σ 710 x1))) σ)) ∧ ((σ 701 25) = 2 → (0 ≤ (x1 : Int) ∧ (x1 : Int) < 1212) ∧ (Q (σ 709 x1) σ))) ∧ ((σ 701 25) = 1 → (0 ≤ (x1 : Int) ∧ (x1 : Int) < 1212) ∧ (Q (σ 712 x1) σ))) ∧ ((σ 701 25) = 0 → (0 ≤ (x1 : Int) ∧ (x1 : Int) < 1212) ∧ (Q (σ 711 x1) σ))) : z_C e (d + 1) m_M_worth [z_R 701, z_I x1] σ Q :=
  z_ent k_M_worth l_M_worth rfl (Nat.le_refl _) (z_blk k_M_worth 19 0 rfl h)
set_option maxRecDepth 20000 in
theorem b_M_leastWorth_0 {e : z_E} {d : Nat} {σ : z_M} {Q : Int → z_M → Prop} (h : z_T e d m_M_leastWorth 4 [some (z_R 701), some (z_I (-1)), some (z_I 0)] σ Q) : z_C e (d + 1) m_M_leastWorth [z_R 701] σ Q :=
  z_ent k_M_leastWorth l_M_leastWorth rfl (Nat.le_refl _) (z_blk k_M_leastWorth 7 0 rfl h)
set_option maxRecDepth 20000 in
theorem b_M_leastWorth_4 {e : z_E} {d : Nat} {x1 x2 : Int} {σ : z_M} {Q : Int → z_M → Prop} (h : (1212 ≤ x2 → Q x1 σ) ∧ (x2 < 1212 → (0 ≤ (x2 : Int) ∧ (x2 : Int) < 1212) ∧ (((σ 707 x2) = 0 → z_T e d m_M_leastWorth 40 [some (z_R 701), some (z_I x1), some (z_I x2)] σ Q) ∧ (¬ (σ 707 x2) = 0 → (x1 = (-1) → z_T e d m_M_leastWorth 38 [some (z_R 701), none, some (z_I x2)] σ Q) ∧ (¬ x1 = (-1) → z_C e d m_M_worth [z_R 701, z_I x2] σ (fun r1 σ1 => z_C e d m_M_worth [z_R 701, z_I x1] σ1 (fun r2 σ2 => (r2 ≤ r1 → z_T e d m_M_leastWorth 40 [some (z_R 701), some (z_I x1), some (z_I x2)] σ2 Q) ∧ (r1 < r2 → z_T e d m_M_leastWorth 38 [some (z_R 701), none, some (z_I x2)] σ2 Q)))))))) : z_T e d m_M_leastWorth 4 [some (z_R 701), some (z_I x1), some (z_I x2)] σ Q :=
  z_blk k_M_leastWorth 21 4 rfl h
set_option maxRecDepth 20000 in
theorem b_M_leastWorth_38 {e : z_E} {d : Nat} {x2 : Int} {σ : z_M} {Q : Int → z_M → Prop} (h : z_T e d m_M_leastWorth 40 [some (z_R 701), some (z_I x2), some (z_I x2)] σ Q) : z_T e d m_M_leastWorth 38 [some (z_R 701), none, some (z_I x2)] σ Q :=
  z_blk k_M_leastWorth 5 22 rfl h
set_option maxRecDepth 20000 in
theorem b_M_leastWorth_40 {e : z_E} {d : Nat} {x1 x2 : Int} {σ : z_M} {Q : Int → z_M → Prop} (h : z_T e d m_M_leastWorth 4 [some (z_R 701), some (z_I x1), some (z_I (z_wr (x2 + 1)))] σ Q) : z_T e d m_M_leastWorth 40 [some (z_R 701), some (z_I x1), some (z_I x2)] σ Q :=
  z_blk k_M_leastWorth 5 24 rfl h
set_option maxRecDepth 20000 in
theorem b_M_holdsBound_0 {e : z_E} {d : Nat} {σ : z_M} {Q : Int → z_M → Prop} (h : ((σ 701 30) = 0 → Q 0 σ) ∧ (¬ (σ 701 30) = 0 → ((σ 701 22) ≤ (σ 701 24) → Q 0 σ) ∧ ((σ 701 24) < (σ 701 22) → z_C e d m_M_leastWorth [z_R 701] σ (fun r1 σ1 => z_C e d m_M_goes [z_R 701, z_I r1] σ1 (fun _ σ2 => (0 ≤ (4 : Int) ∧ (4 : Int) < 7) ∧ ((0 ≤ (4 : Int) ∧ (4 : Int) < 7) ∧ (z_T e d m_M_holdsBound 0 [some (z_R 701)] (z_up σ2 717 4 (z_wr ((σ2 717 4) + 1))) Q))))))) : z_C e (d + 1) m_M_holdsBound [z_R 701] σ Q :=
  z_ent k_M_holdsBound l_M_holdsBound rfl (Nat.le_refl _) (z_blk k_M_holdsBound 24 0 rfl h)
set_option maxRecDepth 20000 in
theorem b_M_holdsBound_c0 {e : z_E} {d : Nat} {σ : z_M} {Q : Int → z_M → Prop} (h : ((σ 701 30) = 0 → Q 0 σ) ∧ (¬ (σ 701 30) = 0 → ((σ 701 22) ≤ (σ 701 24) → Q 0 σ) ∧ ((σ 701 24) < (σ 701 22) → z_C e d m_M_leastWorth [z_R 701] σ (fun r1 σ1 => z_C e d m_M_goes [z_R 701, z_I r1] σ1 (fun _ σ2 => (0 ≤ (4 : Int) ∧ (4 : Int) < 7) ∧ ((0 ≤ (4 : Int) ∧ (4 : Int) < 7) ∧ (z_T e d m_M_holdsBound 0 [some (z_R 701)] (z_up σ2 717 4 (z_wr ((σ2 717 4) + 1))) Q))))))) : z_T e d m_M_holdsBound 0 [some (z_R 701)] σ Q :=
  z_blk k_M_holdsBound 24 0 rfl h
set_option maxRecDepth 20000 in
theorem b_M_digits_0 {e : z_E} {d : Nat} {x0 : Int} {σ : z_M} {Q : Int → z_M → Prop} (h : 1 ≤ d ∧ ((¬ (10 : Int) = 0) ∧ (z_T e d m_M_digits 10 [none, some (z_I 1), some (z_I (z_wr (Int.tdiv (z_abs x0) 10)))] σ Q))) : z_C e (d + 1) m_M_digits [z_I x0] σ Q :=
  z_ent k_M_digits l_M_digits rfl (Nat.le_refl _) (z_blk k_M_digits 10 0 rfl h)
set_option maxRecDepth 20000 in
theorem b_M_digits_10 {e : z_E} {d : Nat} {x1 x2 : Int} {σ : z_M} {Q : Int → z_M → Prop} (h : (x2 ≤ 0 → Q x1 σ) ∧ (0 < x2 → (¬ (10 : Int) = 0) ∧ (z_T e d m_M_digits 10 [none, some (z_I (z_wr (x1 + 1))), some (z_I (z_wr (Int.tdiv x2 10)))] σ Q))) : z_T e d m_M_digits 10 [none, some (z_I x1), some (z_I x2)] σ Q :=
  z_blk k_M_digits 11 7 rfl h
set_option maxRecDepth 20000 in
theorem b_M_cameBehind_0 {e : z_E} {d : Nat} {x1 : Int} {σ : z_M} {Q : Int → z_M → Prop} (h : z_T e d m_M_cameBehind 4 [some (z_R 701), some (z_I x1), some (z_I (-1)), some (z_I 0)] σ Q) : z_C e (d + 1) m_M_cameBehind [z_R 701, z_I x1] σ Q :=
  z_ent k_M_cameBehind l_M_cameBehind rfl (Nat.le_refl _) (z_blk k_M_cameBehind 7 0 rfl h)
set_option maxRecDepth 20000 in
theorem b_M_cameBehind_4 {e : z_E} {d : Nat} {x1 x2 x3 : Int} {σ : z_M} {Q : Int → z_M → Prop} (h : (1212 ≤ x3 → Q x2 σ) ∧ (x3 < 1212 → (0 ≤ (x3 : Int) ∧ (x3 : Int) < 1212) ∧ (((σ 707 x3) = 0 → z_T e d m_M_cameBehind 52 [some (z_R 701), some (z_I x1), some (z_I x2), some (z_I x3)] σ Q) ∧ (¬ (σ 707 x3) = 0 → (0 ≤ (x3 : Int) ∧ (x3 : Int) < 1212) ∧ (((σ 714 x3) ≤ x1 → z_T e d m_M_cameBehind 52 [some (z_R 701), some (z_I x1), some (z_I x2), some (z_I x3)] σ Q) ∧ (x1 < (σ 714 x3) → (x2 = (-1) → z_T e d m_M_cameBehind 50 [some (z_R 701), some (z_I x1), none, some (z_I x3)] σ Q) ∧ (¬ x2 = (-1) → (0 ≤ (x3 : Int) ∧ (x3 : Int) < 1212) ∧ ((0 ≤ (x2 : Int) ∧ (x2 : Int) < 1212) ∧ (((σ 714 x2) ≤ (σ 714 x3) → z_T e d m_M_cameBehind 52 [some (z_R 701), some (z_I x1), some (z_I x2), some (z_I x3)] σ Q) ∧ ((σ 714 x3) < (σ 714 x2) → z_T e d m_M_cameBehind 50 [some (z_R 701), some (z_I x1), none, some (z_I x3)] σ Q)))))))))) : z_T e d m_M_cameBehind 4 [some (z_R 701), some (z_I x1), some (z_I x2), some (z_I x3)] σ Q :=
  z_blk k_M_cameBehind 29 4 rfl h
set_option maxRecDepth 20000 in
theorem b_M_cameBehind_50 {e : z_E} {d : Nat} {x1 x3 : Int} {σ : z_M} {Q : Int → z_M → Prop} (h : z_T e d m_M_cameBehind 52 [some (z_R 701), some (z_I x1), some (z_I x3), some (z_I x3)] σ Q) : z_T e d m_M_cameBehind 50 [some (z_R 701), some (z_I x1), none, some (z_I x3)] σ Q :=
  z_blk k_M_cameBehind 5 30 rfl h
set_option maxRecDepth 20000 in
theorem b_M_cameBehind_52 {e : z_E} {d : Nat} {x1 x2 x3 : Int} {σ : z_M} {Q : Int → z_M → Prop} (h : z_T e d m_M_cameBehind 4 [some (z_R 701), some (z_I x1), some (z_I x2), some (z_I (z_wr (x3 + 1)))] σ Q) : z_T e d m_M_cameBehind 52 [some (z_R 701), some (z_I x1), some (z_I x2), some (z_I x3)] σ Q :=
  z_blk k_M_cameBehind 5 32 rfl h
set_option maxRecDepth 20000 in
theorem b_M_changed_0 {e : z_E} {d : Nat} {x1 : Int} {σ : z_M} {Q : Int → z_M → Prop} (h : z_C e d m_M_cameBehind [z_R 701, z_I 0] (z_up σ 701 29 0) (fun r1 σ1 => z_T e d m_M_changed 13 [some (z_R 701), some (z_I x1), none, some (z_I r1), none] σ1 Q)) : z_C e (d + 1) m_M_changed [z_R 701, z_I x1] σ Q :=
  z_ent k_M_changed l_M_changed rfl (Nat.le_refl _) (z_blk k_M_changed 12 0 rfl h)
set_option maxRecDepth 20000 in
theorem b_M_changed_13 {e : z_E} {d : Nat} {x1 x3 : Int} {σ : z_M} {Q : Int → z_M → Prop} (h : (x3 = (-1) → z_T e d m_M_changed 86 [some (z_R 701), some (z_I x1), none, none, some (z_I 0)] σ Q) ∧ (¬ x3 = (-1) → (0 ≤ (x3 : Int) ∧ (x3 : Int) < 1212) ∧ ((0 ≤ (x3 : Int) ∧ (x3 : Int) < 1212) ∧ ((¬ (z_and (z_shr (σ 713 x3) x1) 1) = 1 → z_T e d m_M_changed 74 [some (z_R 701), some (z_I x1), some (z_I (σ 714 x3)), none, none] σ Q) ∧ ((z_and (z_shr (σ 713 x3) x1) 1) = 1 → (0 ≤ ((σ 701 29) : Int) ∧ ((σ 701 29) : Int) < 1212) ∧ (z_C e d m_M_goes [z_R 701, z_I x3] (z_up (z_up σ 718 (σ 701 29) x3) 701 29 (z_wr (((z_up σ 718 (σ 701 29) x3) 701 29) + 1))) (fun _ σ1 => (0 ≤ (3 : Int) ∧ (3 : Int) < 7) ∧ ((0 ≤ (3 : Int) ∧ (3 : Int) < 7) ∧ (z_T e d m_M_changed 74 [some (z_R 701), some (z_I x1), some (z_I (σ 714 x3)), none, none] (z_up σ1 717 3 (z_wr ((σ1 717 3) + 1))) Q))))))))) : z_T e d m_M_changed 13 [some (z_R 701), some (z_I x1), none, some (z_I x3), none] σ Q :=
  z_blk k_M_changed 44 9 rfl h
set_option maxRecDepth 20000 in
theorem b_M_changed_74 {e : z_E} {d : Nat} {x1 x2 : Int} {σ : z_M} {Q : Int → z_M → Prop} (h : z_C e d m_M_cameBehind [z_R 701, z_I x2] σ (fun r1 σ1 => z_T e d m_M_changed 13 [some (z_R 701), some (z_I x1), none, some (z_I r1), none] σ1 Q)) : z_T e d m_M_changed 74 [some (z_R 701), some (z_I x1), some (z_I x2), none, none] σ Q :=
  z_blk k_M_changed 8 50 rfl h
set_option maxRecDepth 20000 in
theorem b_M_changed_86 {e : z_E} {d : Nat} {x1 x4 : Int} {σ : z_M} {Q : Int → z_M → Prop} (h : (4 ≤ x4 → Q (σ 701 29) σ) ∧ (x4 < 4 → (0 ≤ (x4 : Int) ∧ (x4 : Int) < 5) ∧ (((σ 719 x4) = 1 → z_T e d m_M_changed 114 [some (z_R 701), some (z_I x1), none, none, some (z_I x4)] σ Q) ∧ (¬ (σ 719 x4) = 1 → (0 ≤ (x4 : Int) ∧ (x4 : Int) < 5) ∧ ((¬ (σ 719 x4) = 2 → z_T e d m_M_changed 121 [some (z_R 701), some (z_I x1), none, none, some (z_I x4)] σ Q) ∧ ((σ 719 x4) = 2 → z_T e d m_M_changed 114 [some (z_R 701), some (z_I x1), none, none, some (z_I x4)] σ Q)))))) : z_T e d m_M_changed 86 [some (z_R 701), some (z_I x1), none, none, some (z_I x4)] σ Q :=
  z_blk k_M_changed 18 57 rfl h
set_option maxRecDepth 20000 in
theorem b_M_changed_114 {e : z_E} {d : Nat} {x1 x4 : Int} {σ : z_M} {Q : Int → z_M → Prop} (h : z_C e d m_M_beginsAnew [z_R 701, z_I x4, z_I x1] σ (fun _ σ1 => z_T e d m_M_changed 121 [some (z_R 701), some (z_I x1), none, none, some (z_I x4)] σ1 Q)) : z_T e d m_M_changed 114 [some (z_R 701), some (z_I x1), none, none, some (z_I x4)] σ Q :=
  z_blk k_M_changed 7 72 rfl h
set_option maxRecDepth 20000 in
theorem b_M_changed_121 {e : z_E} {d : Nat} {x1 x4 : Int} {σ : z_M} {Q : Int → z_M → Prop} (h : z_T e d m_M_changed 86 [some (z_R 701), some (z_I x1), none, none, some (z_I (z_wr (x4 + 1)))] σ Q) : z_T e d m_M_changed 121 [some (z_R 701), some (z_I x1), none, none, some (z_I x4)] σ Q :=
  z_blk k_M_changed 5 76 rfl h
set_option maxRecDepth 20000 in
theorem b_M_top_0 {e : z_E} {d : Nat} {x1 : Int} {σ : z_M} {Q : Int → z_M → Prop} (h : (0 ≤ (x1 : Int) ∧ (x1 : Int) < 5) ∧ (Q (z_wr ((z_wr ((z_wr (30 * x1)) + (σ 722 x1))) - 1)) σ)) : z_C e (d + 1) m_M_top [z_R 701, z_I x1] σ Q :=
  z_ent k_M_top l_M_top rfl (Nat.le_refl _) (z_blk k_M_top 13 0 rfl h)
set_option maxRecDepth 20000 in
theorem b_M_clears_0 {e : z_E} {d : Nat} {x1 : Int} {σ : z_M} {Q : Int → z_M → Prop} (h : (0 ≤ (x1 : Int) ∧ (x1 : Int) < 150) ∧ ((0 ≤ (x1 : Int) ∧ (x1 : Int) < 150) ∧ (z_C e d m_M_ruleOf [z_I ((z_up σ 726 x1 0) 725 x1)] (z_up σ 726 x1 0) (fun r1 σ1 => (0 ≤ (x1 : Int) ∧ (x1 : Int) < 150) ∧ ((0 ≤ (x1 : Int) ∧ (x1 : Int) < 150) ∧ ((0 ≤ (x1 : Int) ∧ (x1 : Int) < 150) ∧ (Q 0 (z_up (z_up (z_up σ1 729 x1 (z_shl 1 (z_wr (12 + r1)))) 730 x1 0) 732 x1 0)))))))) : z_C e (d + 1) m_M_clears [z_R 701, z_I x1] σ Q :=
  z_ent k_M_clears l_M_clears rfl (Nat.le_refl _) (z_blk k_M_clears 31 0 rfl h)
set_option maxRecDepth 20000 in
theorem b_M_fails_0 {e : z_E} {d : Nat} {x1 x2 : Int} {σ : z_M} {Q : Int → z_M → Prop} (h : (0 ≤ (x1 : Int) ∧ (x1 : Int) < 5) ∧ ((0 ≤ (x1 : Int) ∧ (x1 : Int) < 5) ∧ ((0 ≤ (x1 : Int) ∧ (x1 : Int) < 5) ∧ ((0 ≤ (2 : Int) ∧ (2 : Int) < 7) ∧ ((0 ≤ (2 : Int) ∧ (2 : Int) < 7) ∧ (Q 0 (z_up (z_up (z_up (z_up σ 719 x1 4) 720 x1 (z_wr ((-10000) - x2))) 722 x1 0) 717 2 (z_wr (((z_up (z_up (z_up σ 719 x1 4) 720 x1 (z_wr ((-10000) - x2))) 722 x1 0) 717 2) + 1))))))))) : z_C e (d + 1) m_M_fails [z_R 701, z_I x1, z_I x2] σ Q :=
  z_ent k_M_fails l_M_fails rfl (Nat.le_refl _) (z_blk k_M_fails 28 0 rfl h)
set_option maxRecDepth 20000 in
theorem b_M_hasFrame_0 {e : z_E} {d : Nat} {x1 x2 : Int} {σ : z_M} {Q : Int → z_M → Prop} (h : z_T e d m_M_hasFrame 2 [some (z_R 701), some (z_I x1), some (z_I x2), some (z_I 0)] σ Q) : z_C e (d + 1) m_M_hasFrame [z_R 701, z_I x1, z_I x2] σ Q :=
  z_ent k_M_hasFrame l_M_hasFrame rfl (Nat.le_refl _) (z_blk k_M_hasFrame 5 0 rfl h)
set_option maxRecDepth 20000 in
theorem b_M_hasFrame_2 {e : z_E} {d : Nat} {x1 x2 x3 : Int} {σ : z_M} {Q : Int → z_M → Prop} (h : (0 ≤ (x1 : Int) ∧ (x1 : Int) < 5) ∧ (((σ 722 x1) ≤ x3 → Q 0 σ) ∧ (x3 < (σ 722 x1) → (0 ≤ ((z_wr ((z_wr (30 * x1)) + x3)) : Int) ∧ ((z_wr ((z_wr (30 * x1)) + x3)) : Int) < 150) ∧ ((¬ (σ 725 (z_wr ((z_wr (30 * x1)) + x3))) = x2 → z_T e d m_M_hasFrame 2 [some (z_R 701), some (z_I x1), some (z_I x2), some (z_I (z_wr (x3 + 1)))] σ Q) ∧ ((σ 725 (z_wr ((z_wr (30 * x1)) + x3))) = x2 → Q 1 σ))))) : z_T e d m_M_hasFrame 2 [some (z_R 701), some (z_I x1), some (z_I x2), some (z_I x3)] σ Q :=
  z_blk k_M_hasFrame 21 2 rfl h
set_option maxRecDepth 20000 in
theorem b_M_taskOf_0 {e : z_E} {d : Nat} {x1 x2 : Int} {σ : z_M} {Q : Int → z_M → Prop} (h : z_T e d m_M_taskOf 2 [some (z_R 701), some (z_I x1), some (z_I x2), some (z_I 0)] σ Q) : z_C e (d + 1) m_M_taskOf [z_R 701, z_I x1, z_I x2] σ Q :=
  z_ent k_M_taskOf l_M_taskOf rfl (Nat.le_refl _) (z_blk k_M_taskOf 5 0 rfl h)
set_option maxRecDepth 20000 in
theorem b_M_taskOf_2 {e : z_E} {d : Nat} {x1 x2 x3 : Int} {σ : z_M} {Q : Int → z_M → Prop} (h : (4 ≤ x3 → Q (-1) σ) ∧ (x3 < 4 → (x3 = x2 → z_T e d m_M_taskOf 23 [some (z_R 701), some (z_I x1), some (z_I x2), some (z_I x3)] σ Q) ∧ (¬ x3 = x2 → z_C e d m_M_hasFrame [z_R 701, z_I x3, z_I x1] σ (fun r1 σ1 => (r1 = 0 → z_T e d m_M_taskOf 23 [some (z_R 701), some (z_I x1), some (z_I x2), some (z_I x3)] σ1 Q) ∧ (¬ r1 = 0 → Q x3 σ1))))) : z_T e d m_M_taskOf 2 [some (z_R 701), some (z_I x1), some (z_I x2), some (z_I x3)] σ Q :=
  z_blk k_M_taskOf 15 2 rfl h
set_option maxRecDepth 20000 in
theorem b_M_taskOf_23 {e : z_E} {d : Nat} {x1 x2 x3 : Int} {σ : z_M} {Q : Int → z_M → Prop} (h : z_T e d m_M_taskOf 2 [some (z_R 701), some (z_I x1), some (z_I x2), some (z_I (z_wr (x3 + 1)))] σ Q) : z_T e d m_M_taskOf 23 [some (z_R 701), some (z_I x1), some (z_I x2), some (z_I x3)] σ Q :=
  z_blk k_M_taskOf 5 15 rfl h
set_option maxRecDepth 20000 in
theorem b_M_waitsAtLast_0 {e : z_E} {d : Nat} {x1 x2 : Int} {σ : z_M} {Q : Int → z_M → Prop} (h : z_T e d m_M_waitsAtLast 5 [some (z_R 701), none, some (z_I x2), some (z_I x1), some (z_I 0)] σ Q) : z_C e (d + 1) m_M_waitsAtLast [z_R 701, z_I x1, z_I x2] σ Q :=
  z_ent k_M_waitsAtLast l_M_waitsAtLast rfl (Nat.le_refl _) (z_blk k_M_waitsAtLast 7 0 rfl h)
set_option maxRecDepth 20000 in
theorem b_M_waitsAtLast_5 {e : z_E} {d : Nat} {x2 x3 x4 : Int} {σ : z_M} {Q : Int → z_M → Prop} (h : (4 ≤ x4 → Q 0 σ) ∧ (x4 < 4 → (0 ≤ (x3 : Int) ∧ (x3 : Int) < 5) ∧ ((¬ (σ 719 x3) = 2 → Q 0 σ) ∧ ((σ 719 x3) = 2 → (0 ≤ (x3 : Int) ∧ (x3 : Int) < 5) ∧ ((¬ (σ 723 x3) = x2 → z_T e d m_M_waitsAtLast 5 [some (z_R 701), none, some (z_I x2), some (z_I (σ 723 x3)), some (z_I (z_wr (x4 + 1)))] σ Q) ∧ ((σ 723 x3) = x2 → Q 1 σ)))))) : z_T e d m_M_waitsAtLast 5 [some (z_R 701), none, some (z_I x2), some (z_I x3), some (z_I x4)] σ Q :=
  z_blk k_M_waitsAtLast 22 4 rfl h
set_option maxRecDepth 20000 in
theorem b_M_asksFor_0 {e : z_E} {d : Nat} {x1 x2 x3 : Int} {σ : z_M} {Q : Int → z_M → Prop} (h : (0 ≤ (x1 : Int) ∧ (x1 : Int) < 5) ∧ ((0 ≤ (x2 : Int) ∧ (x2 : Int) < 1212) ∧ ((((z_up (z_up σ 701 26 (z_wr ((σ 701 26) + 1))) 719 x1 1) 707 x2) = 0 → z_C e d m_M_hasFrame [z_R 701, z_I x1, z_I x2] (z_up (z_up σ 701 26 (z_wr ((σ 701 26) + 1))) 719 x1 1) (fun r1 σ1 => (r1 = 0 → (¬ x1 = 4 → z_C e d m_M_taskOf [z_R 701, z_I x2, z_I x1] σ1 (fun r2 σ2 => (r2 = (-1) → (0 ≤ (x1 : Int) ∧ (x1 : Int) < 5) ∧ ((¬ (σ2 722 x1) = 30 → z_C e d m_M_ruleOf [z_I x2] σ2 (fun r3 σ3 => (0 ≤ (r3 : Int) ∧ (r3 : Int) < 12) ∧ ((¬ (σ3 705 r3) = 0 → (0 ≤ (x1 : Int) ∧ (x1 : Int) < 5) ∧ ((0 ≤ (x1 : Int) ∧ (x1 : Int) < 5) ∧ (z_C e d m_M_top [z_R 701, z_I x1] (z_up σ3 722 x1 (z_wr ((σ3 722 x1) + 1))) (fun r4 σ4 => (0 ≤ (r4 : Int) ∧ (r4 : Int) < 150) ∧ ((0 ≤ (x1 : Int) ∧ (x1 : Int) < 5) ∧ ((0 ≤ (r4 : Int) ∧ (r4 : Int) < 150) ∧ ((0 ≤ (r4 : Int) ∧ (r4 : Int) < 150) ∧ (z_C e d m_M_clears [z_R 701, z_I r4] (z_up (z_up (z_up σ4 725 r4 x2) 727 r4 ((z_up σ4 725 r4 x2) 721 x1)) 728 r4 ((z_up (z_up σ4 725 r4 x2) 727 r4 ((z_up σ4 725 r4 x2) 721 x1)) 701 26)) (fun _ σ5 => (0 ≤ (1 : Int) ∧ (1 : Int) < 7) ∧ ((0 ≤ (1 : Int) ∧ (1 : Int) < 7) ∧ (Q 0 (z_up σ5 717 1 (z_wr ((σ5 717 1) + 1)))))))))))))) ∧ ((σ3 705 r3) = 0 → z_C e d m_M_fails [z_R 701, z_I x1, z_I 5] σ3 (fun _ σ6 => Q 0 σ6))))) ∧ ((σ2 722 x1) = 30 → z_C e d m_M_fails [z_R 701, z_I x1, z_I 4] σ2 (fun _ σ7 => Q 0 σ7)))) ∧ (¬ r2 = (-1) → z_C e d m_M_waitsAtLast [z_R 701, z_I r2, z_I x1] σ2 (fun r8 σ8 => (r8 = 0 → (0 ≤ (x1 : Int) ∧ (x1 : Int) < 5) ∧ ((0 ≤ (x1 : Int) ∧ (x1 : Int) < 5) ∧ ((0 ≤ (x1 : Int) ∧ (x1 : Int) < 5) ∧ ((0 ≤ (6 : Int) ∧ (6 : Int) < 7) ∧ ((x3 = 0 → (0 ≤ (6 : Int) ∧ (6 : Int) < 7) ∧ (Q 0 (z_up (z_up (z_up (z_up σ8 719 x1 2) 723 x1 r2) 724 x1 x2) 717 6 (z_wr (((z_up (z_up (z_up σ8 719 x1 2) 723 x1 r2) 724 x1 x2) 717 6) + 1))))) ∧ (¬ x3 = 0 → (0 ≤ (6 : Int) ∧ (6 : Int) < 7) ∧ (Q 0 (z_up (z_up (z_up (z_up σ8 719 x1 2) 723 x1 r2) 724 x1 x2) 717 6 (z_wr (((z_up (z_up (z_up σ8 719 x1 2) 723 x1 r2) 724 x1 x2) 717 6) + 0)))))))))) ∧ (¬ r8 = 0 → z_C e d m_M_fails [z_R 701, z_I x1, z_I 1] σ8 (fun _ σ9 => Q 0 σ9)))))) ∧ (x1 = 4 → (((-1) : Int) = (-1) → (0 ≤ (x1 : Int) ∧ (x1 : Int) < 5) ∧ ((¬ (σ1 722 x1) = 30 → z_C e d m_M_ruleOf [z_I x2] σ1 (fun r10 σ10 => (0 ≤ (r10 : Int) ∧ (r10 : Int) < 12) ∧ ((¬ (σ10 705 r10) = 0 → (0 ≤ (x1 : Int) ∧ (x1 : Int) < 5) ∧ ((0 ≤ (x1 : Int) ∧ (x1 : Int) < 5) ∧ (z_C e d m_M_top [z_R 701, z_I x1] (z_up σ10 722 x1 (z_wr ((σ10 722 x1) + 1))) (fun r11 σ11 => (0 ≤ (r11 : Int) ∧ (r11 : Int) < 150) ∧ ((0 ≤ (x1 : Int) ∧ (x1 : Int) < 5) ∧ ((0 ≤ (r11 : Int) ∧ (r11 : Int) < 150) ∧ ((0 ≤ (r11 : Int) ∧ (r11 : Int) < 150) ∧ (z_C e d m_M_clears [z_R 701, z_I r11] (z_up (z_up (z_up σ11 725 r11 x2) 727 r11 ((z_up σ11 725 r11 x2) 721 x1)) 728 r11 ((z_up (z_up σ11 725 r11 x2) 727 r11 ((z_up σ11 725 r11 x2) 721 x1)) 701 26)) (fun _ σ12 => (0 ≤ (1 : Int) ∧ (1 : Int) < 7) ∧ ((0 ≤ (1 : Int) ∧ (1 : Int) < 7) ∧ (Q 0 (z_up σ12 717 1 (z_wr ((σ12 717 1) + 1)))))))))))))) ∧ ((σ10 705 r10) = 0 → z_C e d m_M_fails [z_R 701, z_I x1, z_I 5] σ10 (fun _ σ13 => Q 0 σ13))))) ∧ ((σ1 722 x1) = 30 → z_C e d m_M_fails [z_R 701, z_I x1, z_I 4] σ1 (fun _ σ14 => Q 0 σ14)))) ∧ (¬ ((-1) : Int) = (-1) → z_C e d m_M_waitsAtLast [z_R 701, z_I (-1), z_I x1] σ1 (fun r15 σ15 => (r15 = 0 → (0 ≤ (x1 : Int) ∧ (x1 : Int) < 5) ∧ ((0 ≤ (x1 : Int) ∧ (x1 : Int) < 5) ∧ ((0 ≤ (x1 : Int) ∧ (x1 : Int) < 5) ∧ ((0 ≤ (6 : Int) ∧ (6 : Int) < 7) ∧ ((x3 = 0 → (0 ≤ (6 : Int) ∧ (6 : Int) < 7) ∧ (Q 0 (z_up (z_up (z_up (z_up σ15 719 x1 2) 723 x1 (-1)) 724 x1 x2) 717 6 (z_wr (((z_up (z_up (z_up σ15 719 x1 2) 723 x1 (-1)) 724 x1 x2) 717 6) + 1))))) ∧ (¬ x3 = 0 → (0 ≤ (6 : Int) ∧ (6 : Int) < 7) ∧ (Q 0 (z_up (z_up (z_up (z_up σ15 719 x1 2) 723 x1 (-1)) 724 x1 x2) 717 6 (z_wr (((z_up (z_up (z_up σ15 719 x1 2) 723 x1 (-1)) 724 x1 x2) 717 6) + 0)))))))))) ∧ (¬ r15 = 0 → z_C e d m_M_fails [z_R 701, z_I x1, z_I 1] σ15 (fun _ σ16 => Q 0 σ16)))))) ∧ (¬ r1 = 0 → z_C e d m_M_fails [z_R 701, z_I x1, z_I 1] σ1 (fun _ σ17 => Q 0 σ17)))) ∧ (¬ ((z_up (z_up σ 701 26 (z_wr ((σ 701 26) + 1))) 719 x1 1) 707 x2) = 0 → (0 ≤ (0 : Int) ∧ (0 : Int) < 7) ∧ ((0 ≤ (0 : Int) ∧ (0 : Int) < 7) ∧ ((0 ≤ (x2 : Int) ∧ (x2 : Int) < 1212) ∧ ((0 ≤ (x2 : Int) ∧ (x2 : Int) < 1212) ∧ ((0 ≤ (x2 : Int) ∧ (x2 : Int) < 1212) ∧ ((0 ≤ (x2 : Int) ∧ (x2 : Int) < 1212) ∧ ((0 ≤ (x2 : Int) ∧ (x2 : Int) < 1212) ∧ (z_C e d m_M_gets [z_R 701, z_I x1, z_I x2, z_I ((z_up (z_up (z_up (z_up (z_up σ 701 26 (z_wr ((σ 701 26) + 1))) 719 x1 1) 717 0 (z_wr (((z_up (z_up σ 701 26 (z_wr ((σ 701 26) + 1))) 719 x1 1) 717 0) + 1))) 711 x2 ((z_up (z_up (z_up σ 701 26 (z_wr ((σ 701 26) + 1))) 719 x1 1) 717 0 (z_wr (((z_up (z_up σ 701 26 (z_wr ((σ 701 26) + 1))) 719 x1 1) 717 0) + 1))) 701 26)) 712 x2 (z_wr (((z_up (z_up (z_up (z_up σ 701 26 (z_wr ((σ 701 26) + 1))) 719 x1 1) 717 0 (z_wr (((z_up (z_up σ 701 26 (z_wr ((σ 701 26) + 1))) 719 x1 1) 717 0) + 1))) 711 x2 ((z_up (z_up (z_up σ 701 26 (z_wr ((σ 701 26) + 1))) 719 x1 1) 717 0 (z_wr (((z_up (z_up σ 701 26 (z_wr ((σ 701 26) + 1))) 719 x1 1) 717 0) + 1))) 701 26)) 712 x2) + 1))) 708 x2), z_I ((z_up (z_up (z_up (z_up (z_up σ 701 26 (z_wr ((σ 701 26) + 1))) 719 x1 1) 717 0 (z_wr (((z_up (z_up σ 701 26 (z_wr ((σ 701 26) + 1))) 719 x1 1) 717 0) + 1))) 711 x2 ((z_up (z_up (z_up σ 701 26 (z_wr ((σ 701 26) + 1))) 719 x1 1) 717 0 (z_wr (((z_up (z_up σ 701 26 (z_wr ((σ 701 26) + 1))) 719 x1 1) 717 0) + 1))) 701 26)) 712 x2 (z_wr (((z_up (z_up (z_up (z_up σ 701 26 (z_wr ((σ 701 26) + 1))) 719 x1 1) 717 0 (z_wr (((z_up (z_up σ 701 26 (z_wr ((σ 701 26) + 1))) 719 x1 1) 717 0) + 1))) 711 x2 ((z_up (z_up (z_up σ 701 26 (z_wr ((σ 701 26) + 1))) 719 x1 1) 717 0 (z_wr (((z_up (z_up σ 701 26 (z_wr ((σ 701 26) + 1))) 719 x1 1) 717 0) + 1))) 701 26)) 712 x2) + 1))) 713 x2)] (z_up (z_up (z_up (z_up (z_up σ 701 26 (z_wr ((σ 701 26) + 1))) 719 x1 1) 717 0 (z_wr (((z_up (z_up σ 701 26 (z_wr ((σ 701 26) + 1))) 719 x1 1) 717 0) + 1))) 711 x2 ((z_up (z_up (z_up σ 701 26 (z_wr ((σ 701 26) + 1))) 719 x1 1) 717 0 (z_wr (((z_up (z_up σ 701 26 (z_wr ((σ 701 26) + 1))) 719 x1 1) 717 0) + 1))) 701 26)) 712 x2 (z_wr (((z_up (z_up (z_up (z_up σ 701 26 (z_wr ((σ 701 26) + 1))) 719 x1 1) 717 0 (z_wr (((z_up (z_up σ 701 26 (z_wr ((σ 701 26) + 1))) 719 x1 1) 717 0) + 1))) 711 x2 ((z_up (z_up (z_up σ 701 26 (z_wr ((σ 701 26) + 1))) 719 x1 1) 717 0 (z_wr (((z_up (z_up σ 701 26 (z_wr ((σ 701 26) + 1))) 719 x1 1) 717 0) + 1))) 701 26)) 712 x2) + 1))) (fun _ σ18 => Q 0 σ18)))))))))))) : z_C e (d + 1) m_M_asksFor [z_R 701, z_I x1, z_I x2, z_I x3] σ Q :=
  z_ent k_M_asksFor l_M_asksFor rfl (Nat.le_refl _) (z_blk k_M_asksFor 89 0 rfl h)
set_option maxRecDepth 20000 in
theorem b_M_holds_0 {e : z_E} {d : Nat} {x1 x2 : Int} {σ : z_M} {Q : Int → z_M → Prop} (h : (0 ≤ (x1 : Int) ∧ (x1 : Int) < 150) ∧ ((0 ≤ ((z_wr ((z_wr (64 * x1)) + (σ 732 x1))) : Int) ∧ ((z_wr ((z_wr (64 * x1)) + (σ 732 x1))) : Int) < 9600) ∧ ((0 ≤ (x1 : Int) ∧ (x1 : Int) < 150) ∧ ((0 ≤ (x1 : Int) ∧ (x1 : Int) < 150) ∧ (Q 0 (z_up (z_up σ 733 (z_wr ((z_wr (64 * x1)) + (σ 732 x1))) x2) 732 x1 (z_wr (((z_up σ 733 (z_wr ((z_wr (64 * x1)) + (σ 732 x1))) x2) 732 x1) + 1)))))))) : z_C e (d + 1) m_M_holds [z_R 701, z_I x1, z_I x2] σ Q :=
  z_ent k_M_holds l_M_holds rfl (Nat.le_refl _) (z_blk k_M_holds 23 0 rfl h)
set_option maxRecDepth 20000 in
theorem b_M_taken_0 {e : z_E} {d : Nat} {x1 : Int} {σ : z_M} {Q : Int → z_M → Prop} (h : (0 ≤ (x1 : Int) ∧ (x1 : Int) < 150) ∧ ((0 ≤ (x1 : Int) ∧ (x1 : Int) < 150) ∧ ((0 ≤ (x1 : Int) ∧ (x1 : Int) < 150) ∧ ((0 ≤ ((z_wr ((z_wr (64 * x1)) + ((z_up σ 732 x1 (z_wr ((σ 732 x1) - 1))) 732 x1))) : Int) ∧ ((z_wr ((z_wr (64 * x1)) + ((z_up σ 732 x1 (z_wr ((σ 732 x1) - 1))) 732 x1))) : Int) < 9600) ∧ (Q ((z_up σ 732 x1 (z_wr ((σ 732 x1) - 1))) 733 (z_wr ((z_wr (64 * x1)) + ((z_up σ 732 x1 (z_wr ((σ 732 x1) - 1))) 732 x1)))) (z_up σ 732 x1 (z_wr ((σ 732 x1) - 1)))))))) : z_C e (d + 1) m_M_taken [z_R 701, z_I x1] σ Q :=
  z_ent k_M_taken l_M_taken rfl (Nat.le_refl _) (z_blk k_M_taken 22 0 rfl h)
set_option maxRecDepth 20000 in
theorem b_M_gets_0 {e : z_E} {d : Nat} {x1 x2 x3 x4 : Int} {σ : z_M} {Q : Int → z_M → Prop} (h : (0 ≤ (x1 : Int) ∧ (x1 : Int) < 5) ∧ ((¬ (σ 722 x1) = 0 → z_C e d m_M_top [z_R 701, z_I x1] σ (fun r1 σ1 => z_T e d m_M_gets 37 [some (z_R 701), some (z_I x1), some (z_I x2), some (z_I x3), some (z_I x4), some (z_I r1), some (z_I 0), some (z_I 0)] σ1 Q)) ∧ ((σ 722 x1) = 0 → (0 ≤ (x1 : Int) ∧ (x1 : Int) < 5) ∧ ((0 ≤ (x1 : Int) ∧ (x1 : Int) < 5) ∧ (Q 0 (z_up (z_up σ 719 x1 3) 720 x1 x3)))))) : z_C e (d + 1) m_M_gets [z_R 701, z_I x1, z_I x2, z_I x3, z_I x4] σ Q :=
  z_ent k_M_gets l_M_gets rfl (Nat.le_refl _) (z_blk k_M_gets 18 0 rfl h)
set_option maxRecDepth 20000 in
theorem b_M_gets_37 {e : z_E} {d : Nat} {x1 x2 x3 x4 x5 x6 x7 : Int} {σ : z_M} {Q : Int → z_M → Prop} (h : (0 ≤ (x5 : Int) ∧ (x5 : Int) < 150) ∧ (((σ 730 x5) ≤ x7 → (¬ x6 = 0 → z_T e d m_M_gets 119 [some (z_R 701), some (z_I x1), none, some (z_I x3), some (z_I x4), some (z_I x5), none, none] σ Q) ∧ (x6 = 0 → (0 ≤ (x5 : Int) ∧ (x5 : Int) < 150) ∧ ((0 ≤ ((z_wr ((z_wr (32 * x5)) + (σ 730 x5))) : Int) ∧ ((z_wr ((z_wr (32 * x5)) + (σ 730 x5))) : Int) < 4800) ∧ ((0 ≤ (x5 : Int) ∧ (x5 : Int) < 150) ∧ ((0 ≤ (x5 : Int) ∧ (x5 : Int) < 150) ∧ (z_T e d m_M_gets 119 [some (z_R 701), some (z_I x1), none, some (z_I x3), some (z_I x4), some (z_I x5), none, none] (z_up (z_up σ 731 (z_wr ((z_wr (32 * x5)) + (σ 730 x5))) x2) 730 x5 (z_wr (((z_up σ 731 (z_wr ((z_wr (32 * x5)) + (σ 730 x5))) x2) 730 x5) + 1))) Q)))))) ∧ (x7 < (σ 730 x5) → (¬ x6 = 0 → z_T e d m_M_gets 71 [some (z_R 701), some (z_I x1), some (z_I x2), some (z_I x3), some (z_I x4), some (z_I x5), none, some (z_I x7)] σ Q) ∧ (x6 = 0 → (0 ≤ ((z_wr ((z_wr (32 * x5)) + x7)) : Int) ∧ ((z_wr ((z_wr (32 * x5)) + x7)) : Int) < 4800) ∧ ((¬ (σ 731 (z_wr ((z_wr (32 * x5)) + x7))) = x2 → z_T e d m_M_gets 37 [some (z_R 701), some (z_I x1), some (z_I x2), some (z_I x3), some (z_I x4), some (z_I x5), some (z_I 0), some (z_I (z_wr (x7 + 1)))] σ Q) ∧ ((σ 731 (z_wr ((z_wr (32 * x5)) + x7))) = x2 → z_T e d m_M_gets 71 [some (z_R 701), some (z_I x1), some (z_I x2), some (z_I x3), some (z_I x4), some (z_I x5), none, some (z_I x7)] σ Q)))))) : z_T e d m_M_gets 37 [some (z_R 701), some (z_I x1), some (z_I x2), some (z_I x3), some (z_I x4), some (z_I x5), some (z_I x6), some (z_I x7)] σ Q :=
  z_blk k_M_gets 31 24 rfl h
set_option maxRecDepth 20000 in
theorem b_M_gets_71 {e : z_E} {d : Nat} {x1 x2 x3 x4 x5 x7 : Int} {σ : z_M} {Q : Int → z_M → Prop} (h : z_T e d m_M_gets 37 [some (z_R 701), some (z_I x1), some (z_I x2), some (z_I x3), some (z_I x4), some (z_I x5), some (z_I 1), some (z_I (z_wr (x7 + 1)))] σ Q) : z_T e d m_M_gets 71 [some (z_R 701), some (z_I x1), some (z_I x2), some (z_I x3), some (z_I x4), some (z_I x5), none, some (z_I x7)] σ Q :=
  z_blk k_M_gets 8 42 rfl h
set_option maxRecDepth 20000 in
theorem b_M_gets_119 {e : z_E} {d : Nat} {x1 x3 x4 x5 : Int} {σ : z_M} {Q : Int → z_M → Prop} (h : (0 ≤ (x5 : Int) ∧ (x5 : Int) < 150) ∧ ((0 ≤ (x5 : Int) ∧ (x5 : Int) < 150) ∧ (z_C e d m_M_holds [z_R 701, z_I x5, z_I x3] (z_up σ 729 x5 (z_or (σ 729 x5) x4)) (fun _ σ1 => z_C e d m_M_goesOn [z_R 701, z_I x1] σ1 (fun _ σ2 => Q 0 σ2))))) : z_T e d m_M_gets 119 [some (z_R 701), some (z_I x1), none, some (z_I x3), some (z_I x4), some (z_I x5), none, none] σ Q :=
  z_blk k_M_gets 18 70 rfl h
set_option maxRecDepth 20000 in
theorem b_M_goesOn_0 {e : z_E} {d : Nat} {x1 : Int} {σ : z_M} {Q : Int → z_M → Prop} (h : z_C e d m_M_top [z_R 701, z_I x1] σ (fun r1 σ1 => (0 ≤ (r1 : Int) ∧ (r1 : Int) < 150) ∧ (z_C e d m_M_ruleOf [z_I (σ1 725 r1)] σ1 (fun r2 σ2 => z_T e d m_M_goesOn 20 [some (z_R 701), some (z_I x1), some (z_I r1), some (z_I (z_wr (400 * r2))), none, none, none] σ2 Q)))) : z_C e (d + 1) m_M_goesOn [z_R 701, z_I x1] σ Q :=
  z_ent k_M_goesOn l_M_goesOn rfl (Nat.le_refl _) (z_blk k_M_goesOn 15 0 rfl h)
set_option maxRecDepth 20000 in
theorem b_M_goesOn_20 {e : z_E} {d : Nat} {x1 x2 x3 : Int} {σ : z_M} {Q : Int → z_M → Prop} (h : (0 ≤ (x2 : Int) ∧ (x2 : Int) < 150) ∧ ((0 ≤ (x2 : Int) ∧ (x2 : Int) < 150) ∧ (z_C e d m_M_ruleOf [z_I (σ 725 x2)] σ (fun r1 σ1 => (0 ≤ (r1 : Int) ∧ (r1 : Int) < 12) ∧ (((σ1 705 r1) ≤ (σ 726 x2) → z_T e d m_M_goesOn 85 [some (z_R 701), some (z_I x1), some (z_I x2), none, none, none, none] σ1 Q) ∧ ((σ 726 x2) < (σ1 705 r1) → (0 ≤ (x2 : Int) ∧ (x2 : Int) < 150) ∧ ((0 ≤ ((z_wr (x3 + (σ1 726 x2))) : Int) ∧ ((z_wr (x3 + (σ1 726 x2))) : Int) < 4800) ∧ ((¬ (σ1 704 (z_wr (x3 + (σ1 726 x2)))) = 13 → z_T e d m_M_goesOn 85 [some (z_R 701), some (z_I x1), some (z_I x2), none, none, none, none] σ1 Q) ∧ ((σ1 704 (z_wr (x3 + (σ1 726 x2)))) = 13 → (0 ≤ (x2 : Int) ∧ (x2 : Int) < 150) ∧ ((0 ≤ ((z_wr ((z_wr (x3 + (σ1 726 x2))) + 1)) : Int) ∧ ((z_wr ((z_wr (x3 + (σ1 726 x2))) + 1)) : Int) < 4800) ∧ ((0 ≤ (x2 : Int) ∧ (x2 : Int) < 150) ∧ (z_T e d m_M_goesOn 20 [some (z_R 701), some (z_I x1), some (z_I x2), some (z_I x3), none, none, none] (z_up σ1 726 x2 (σ1 704 (z_wr ((z_wr (x3 + (σ1 726 x2))) + 1)))) Q)))))))))))) : z_T e d m_M_goesOn 20 [some (z_R 701), some (z_I x1), some (z_I x2), some (z_I x3), none, none, none] σ Q :=
  z_blk k_M_goesOn 43 12 rfl h
set_option maxRecDepth 20000 in
theorem b_M_goesOn_85 {e : z_E} {d : Nat} {x1 x2 : Int} {σ : z_M} {Q : Int → z_M → Prop} (h : (0 ≤ (x2 : Int) ∧ (x2 : Int) < 150) ∧ ((0 ≤ (x2 : Int) ∧ (x2 : Int) < 150) ∧ (z_C e d m_M_ruleOf [z_I (σ 725 x2)] σ (fun r1 σ1 => (0 ≤ (r1 : Int) ∧ (r1 : Int) < 12) ∧ (((σ1 705 r1) ≤ (σ 726 x2) → (0 ≤ (x2 : Int) ∧ (x2 : Int) < 150) ∧ (z_C e d m_M_taken [z_R 701, z_I x2] σ1 (fun r2 σ2 => (0 ≤ (x2 : Int) ∧ (x2 : Int) < 150) ∧ (z_C e d m_M_keeps [z_R 701, z_I x1, z_I x2, z_I r2] σ2 (fun _ σ3 => (0 ≤ (x1 : Int) ∧ (x1 : Int) < 5) ∧ ((0 ≤ (x1 : Int) ∧ (x1 : Int) < 5) ∧ (z_C e d m_M_gets [z_R 701, z_I x1, z_I (σ1 725 x2), z_I r2, z_I (σ2 729 x2)] (z_up σ3 722 x1 (z_wr ((σ3 722 x1) - 1))) (fun _ σ4 => Q 0 σ4)))))))) ∧ ((σ 726 x2) < (σ1 705 r1) → Q 0 σ1)))))) : z_T e d m_M_goesOn 85 [some (z_R 701), some (z_I x1), some (z_I x2), none, none, none, none] σ Q :=
  z_blk k_M_goesOn 49 52 rfl h
set_option maxRecDepth 20000 in
theorem b_M_keeps_0 {e : z_E} {d : Nat} {x1 x2 x3 : Int} {σ : z_M} {Q : Int → z_M → Prop} (h : (0 ≤ (x2 : Int) ∧ (x2 : Int) < 150) ∧ ((0 ≤ ((σ 725 x2) : Int) ∧ ((σ 725 x2) : Int) < 1212) ∧ (((σ 707 (σ 725 x2)) = 0 → (0 ≤ ((σ 725 x2) : Int) ∧ ((σ 725 x2) : Int) < 1212) ∧ (((1 : Int) = 0 ∨ (1 : Int) = 1) ∧ ((0 ≤ ((σ 725 x2) : Int) ∧ ((σ 725 x2) : Int) < 1212) ∧ ((0 ≤ (x1 : Int) ∧ (x1 : Int) < 5) ∧ ((0 ≤ (x2 : Int) ∧ (x2 : Int) < 150) ∧ ((0 ≤ ((σ 725 x2) : Int) ∧ ((σ 725 x2) : Int) < 1212) ∧ (z_C e d m_M_digits [z_I x3] (z_up (z_up (z_up σ 707 (σ 725 x2) 1) 708 (σ 725 x2) x3) 709 (σ 725 x2) (z_wr (((z_up (z_up σ 707 (σ 725 x2) 1) 708 (σ 725 x2) x3) 721 x1) - ((z_up (z_up σ 707 (σ 725 x2) 1) 708 (σ 725 x2) x3) 727 x2)))) (fun r1 σ1 => (0 ≤ (x2 : Int) ∧ (x2 : Int) < 150) ∧ ((0 ≤ ((σ 725 x2) : Int) ∧ ((σ 725 x2) : Int) < 1212) ∧ ((0 ≤ (x2 : Int) ∧ (x2 : Int) < 150) ∧ ((0 ≤ ((σ 725 x2) : Int) ∧ ((σ 725 x2) : Int) < 1212) ∧ ((0 ≤ ((σ 725 x2) : Int) ∧ ((σ 725 x2) : Int) < 1212) ∧ ((0 ≤ (x2 : Int) ∧ (x2 : Int) < 150) ∧ ((0 ≤ ((σ 725 x2) : Int) ∧ ((σ 725 x2) : Int) < 1212) ∧ ((0 ≤ (x2 : Int) ∧ (x2 : Int) < 150) ∧ ((0 ≤ ((σ 725 x2) : Int) ∧ ((σ 725 x2) : Int) < 1212) ∧ (z_T e d m_M_keeps 125 [some (z_R 701), none, some (z_I x2), none, some (z_I (σ 725 x2)), some (z_I 0)] (z_up (z_up (z_up (z_up (z_up σ1 710 (σ 725 x2) (z_wr ((z_wr (2 + r1)) + (σ1 730 x2)))) 711 (σ 725 x2) ((z_up σ1 710 (σ 725 x2) (z_wr ((z_wr (2 + r1)) + (σ1 730 x2)))) 728 x2)) 712 (σ 725 x2) 1) 713 (σ 725 x2) ((z_up (z_up (z_up σ1 710 (σ 725 x2) (z_wr ((z_wr (2 + r1)) + (σ1 730 x2)))) 711 (σ 725 x2) ((z_up σ1 710 (σ 725 x2) (z_wr ((z_wr (2 + r1)) + (σ1 730 x2)))) 728 x2)) 712 (σ 725 x2) 1) 729 x2)) 715 (σ 725 x2) ((z_up (z_up (z_up (z_up σ1 710 (σ 725 x2) (z_wr ((z_wr (2 + r1)) + (σ1 730 x2)))) 711 (σ 725 x2) ((z_up σ1 710 (σ 725 x2) (z_wr ((z_wr (2 + r1)) + (σ1 730 x2)))) 728 x2)) 712 (σ 725 x2) 1) 713 (σ 725 x2) ((z_up (z_up (z_up σ1 710 (σ 725 x2) (z_wr ((z_wr (2 + r1)) + (σ1 730 x2)))) 711 (σ 725 x2) ((z_up σ1 710 (σ 725 x2) (z_wr ((z_wr (2 + r1)) + (σ1 730 x2)))) 728 x2)) 712 (σ 725 x2) 1) 729 x2)) 730 x2)) Q))))))))))))))))) ∧ (¬ (σ 707 (σ 725 x2)) = 0 → Q 0 σ)))) : z_C e (d + 1) m_M_keeps [z_R 701, z_I x1, z_I x2, z_I x3] σ Q :=
  z_ent k_M_keeps l_M_keeps rfl (Nat.le_refl _) (z_blk k_M_keeps 80 0 rfl h)
set_option maxRecDepth 20000 in
theorem b_M_keeps_125 {e : z_E} {d : Nat} {x2 x4 x5 : Int} {σ : z_M} {Q : Int → z_M → Prop} (h : (0 ≤ (x2 : Int) ∧ (x2 : Int) < 150) ∧ (((σ 730 x2) ≤ x5 → (0 ≤ (x4 : Int) ∧ (x4 : Int) < 1212) ∧ ((0 ≤ (x4 : Int) ∧ (x4 : Int) < 1212) ∧ ((0 ≤ (5 : Int) ∧ (5 : Int) < 7) ∧ ((0 ≤ (5 : Int) ∧ (5 : Int) < 7) ∧ (z_C e d m_M_holdsBound [z_R 701] (z_up (z_up (z_up (z_up (z_up σ 701 21 (z_wr ((σ 701 21) + 1))) 714 x4 ((z_up σ 701 21 (z_wr ((σ 701 21) + 1))) 701 21)) 701 23 (z_wr (((z_up (z_up σ 701 21 (z_wr ((σ 701 21) + 1))) 714 x4 ((z_up σ 701 21 (z_wr ((σ 701 21) + 1))) 701 21)) 701 23) + 1))) 701 22 (z_wr (((z_up (z_up (z_up σ 701 21 (z_wr ((σ 701 21) + 1))) 714 x4 ((z_up σ 701 21 (z_wr ((σ 701 21) + 1))) 701 21)) 701 23 (z_wr (((z_up (z_up σ 701 21 (z_wr ((σ 701 21) + 1))) 714 x4 ((z_up σ 701 21 (z_wr ((σ 701 21) + 1))) 701 21)) 701 23) + 1))) 701 22) + ((z_up (z_up (z_up σ 701 21 (z_wr ((σ 701 21) + 1))) 714 x4 ((z_up σ 701 21 (z_wr ((σ 701 21) + 1))) 701 21)) 701 23 (z_wr (((z_up (z_up σ 701 21 (z_wr ((σ 701 21) + 1))) 714 x4 ((z_up σ 701 21 (z_wr ((σ 701 21) + 1))) 701 21)) 701 23) + 1))) 710 x4)))) 717 5 (z_wr (((z_up (z_up (z_up (z_up σ 701 21 (z_wr ((σ 701 21) + 1))) 714 x4 ((z_up σ 701 21 (z_wr ((σ 701 21) + 1))) 701 21)) 701 23 (z_wr (((z_up (z_up σ 701 21 (z_wr ((σ 701 21) + 1))) 714 x4 ((z_up σ 701 21 (z_wr ((σ 701 21) + 1))) 701 21)) 701 23) + 1))) 701 22 (z_wr (((z_up (z_up (z_up σ 701 21 (z_wr ((σ 701 21) + 1))) 714 x4 ((z_up σ 701 21 (z_wr ((σ 701 21) + 1))) 701 21)) 701 23 (z_wr (((z_up (z_up σ 701 21 (z_wr ((σ 701 21) + 1))) 714 x4 ((z_up σ 701 21 (z_wr ((σ 701 21) + 1))) 701 21)) 701 23) + 1))) 701 22) + ((z_up (z_up (z_up σ 701 21 (z_wr ((σ 701 21) + 1))) 714 x4 ((z_up σ 701 21 (z_wr ((σ 701 21) + 1))) 701 21)) 701 23 (z_wr (((z_up (z_up σ 701 21 (z_wr ((σ 701 21) + 1))) 714 x4 ((z_up σ 701 21 (z_wr ((σ 701 21) + 1))) 701 21)) 701 23) + 1))) 710 x4)))) 717 5) + 1))) (fun _ σ1 => Q 0 σ1)))))) ∧ (x5 < (σ 730 x2) → (0 ≤ ((z_wr ((z_wr (32 * x2)) + x5)) : Int) ∧ ((z_wr ((z_wr (32 * x2)) + x5)) : Int) < 4800) ∧ ((0 ≤ ((z_wr ((z_wr (32 * x4)) + x5)) : Int) ∧ ((z_wr ((z_wr (32 * x4)) + x5)) : Int) < 38784) ∧ (z_T e d m_M_keeps 125 [some (z_R 701), none, some (z_I x2), none, some (z_I x4), some (z_I (z_wr (x5 + 1)))] (z_up σ 716 (z_wr ((z_wr (32 * x4)) + x5)) (σ 731 (z_wr ((z_wr (32 * x2)) + x5)))) Q))))) : z_T e d m_M_keeps 125 [some (z_R 701), none, some (z_I x2), none, some (z_I x4), some (z_I x5)] σ Q :=
  z_blk k_M_keeps 46 78 rfl h
set_option maxRecDepth 20000 in
theorem b_M_joined_0 {e : z_E} {d : Nat} {x0 x1 x3 : Int} {σ : z_M} {Q : Int → z_M → Prop} (h : ((x0 : Int) = 5 → Q (z_wl (x1 + x3)) σ) ∧ (¬ (x0 : Int) = 5 → ((x0 : Int) = 6 → Q (z_wl (x1 - x3)) σ) ∧ (¬ (x0 : Int) = 6 → ((x0 : Int) = 7 → Q (z_wl (x1 * x3)) σ) ∧ (¬ (x0 : Int) = 7 → ((x0 : Int) = 8 → (¬ (x3 : Int) = 0) ∧ (Q (z_wl (Int.tdiv x1 x3)) σ)) ∧ (¬ (x0 : Int) = 8 → ((x0 : Int) = 9 → (0 ≤ (z_lcmp x1 x3) → Q 0 σ) ∧ ((z_lcmp x1 x3) < 0 → Q 1 σ)) ∧ (¬ (x0 : Int) = 9 → (¬ (z_lcmp x1 x3) = 0 → Q 0 σ) ∧ ((z_lcmp x1 x3) = 0 → Q 1 σ))))))) : z_C e (d + 1) m_M_joined [z_I x0, z_J x1, z_J x3] σ Q :=
  z_ent k_M_joined l_M_joined rfl (Nat.le_refl _) (z_blk k_M_joined 11 0 rfl h)
set_option maxRecDepth 20000 in
theorem b_M_stepsOnce_0 {e : z_E} {d : Nat} {x1 : Int} {σ : z_M} {Q : Int → z_M → Prop} (h : (0 ≤ (x1 : Int) ∧ (x1 : Int) < 5) ∧ ((¬ (σ 721 x1) = 2000 → (0 ≤ (x1 : Int) ∧ (x1 : Int) < 5) ∧ ((0 ≤ (x1 : Int) ∧ (x1 : Int) < 5) ∧ (z_C e d m_M_top [z_R 701, z_I x1] (z_up σ 721 x1 (z_wr ((σ 721 x1) + 1))) (fun r1 σ1 => (0 ≤ (r1 : Int) ∧ (r1 : Int) < 150) ∧ (z_C e d m_M_ruleOf [z_I (σ1 725 r1)] σ1 (fun r2 σ2 => (0 ≤ (r1 : Int) ∧ (r1 : Int) < 150) ∧ ((0 ≤ ((z_wr ((z_wr (400 * r2)) + (σ2 726 r1))) : Int) ∧ ((z_wr ((z_wr (400 * r2)) + (σ2 726 r1))) : Int) < 4800) ∧ ((0 ≤ (r1 : Int) ∧ (r1 : Int) < 150) ∧ ((0 ≤ (r1 : Int) ∧ (r1 : Int) < 150) ∧ ((¬ (σ2 704 (z_wr ((z_wr (400 * r2)) + (σ2 726 r1)))) = 4 → (¬ (σ2 704 (z_wr ((z_wr (400 * r2)) + (σ2 726 r1)))) = 12 → (0 ≤ ((z_wr ((z_wr ((z_wr (400 * r2)) + (σ2 726 r1))) + 1)) : Int) ∧ ((z_wr ((z_wr ((z_wr (400 * r2)) + (σ2 726 r1))) + 1)) : Int) < 4800) ∧ ((¬ (σ2 704 (z_wr ((z_wr (400 * r2)) + (σ2 726 r1)))) = 2 → (¬ (σ2 704 (z_wr ((z_wr (400 * r2)) + (σ2 726 r1)))) = 3 → (¬ (σ2 704 (z_wr ((z_wr (400 * r2)) + (σ2 726 r1)))) = 11 → ((σ2 704 (z_wr ((z_wr (400 * r2)) + (σ2 726 r1)))) = 1 → z_T e d m_M_stepsOnce 318 [some (z_R 701), some (z_I x1), some (z_I r1), none, none, some (z_J ((z_up σ2 726 r1 (z_wr ((σ2 726 r1) + 2))) 704 (z_wr ((z_wr ((z_wr (400 * r2)) + (σ2 726 r1))) + 1)))), none, none, none] (z_up σ2 726 r1 (z_wr ((σ2 726 r1) + 2))) Q) ∧ (¬ (σ2 704 (z_wr ((z_wr (400 * r2)) + (σ2 726 r1)))) = 1 → z_C e d m_M_taken [z_R 701, z_I r1] (z_up σ2 726 r1 (z_wr ((σ2 726 r1) + 2))) (fun r3 σ3 => z_C e d m_M_taken [z_R 701, z_I r1] σ3 (fun r4 σ4 => (¬ (σ2 704 (z_wr ((z_wr (400 * r2)) + (σ2 726 r1)))) = 8 → z_T e d m_M_stepsOnce 305 [some (z_R 701), some (z_I x1), some (z_I r1), none, some (z_I (σ2 704 (z_wr ((z_wr (400 * r2)) + (σ2 726 r1))))), none, none, some (z_I r3), some (z_I r4)] σ4 Q) ∧ ((σ2 704 (z_wr ((z_wr (400 * r2)) + (σ2 726 r1)))) = 8 → (¬ r3 = 0 → z_T e d m_M_stepsOnce 305 [some (z_R 701), some (z_I x1), some (z_I r1), none, some (z_I (σ2 704 (z_wr ((z_wr (400 * r2)) + (σ2 726 r1))))), none, none, some (z_I r3), some (z_I r4)] σ4 Q) ∧ (r3 = 0 → z_C e d m_M_fails [z_R 701, z_I x1, z_I 2] σ4 (fun _ σ5 => Q 0 σ5))))))) ∧ ((σ2 704 (z_wr ((z_wr (400 * r2)) + (σ2 726 r1)))) = 11 → z_C e d m_M_taken [z_R 701, z_I r1] (z_up σ2 726 r1 (z_wr ((σ2 726 r1) + 2))) (fun r6 σ6 => z_T e d m_M_stepsOnce 318 [some (z_R 701), some (z_I x1), some (z_I r1), none, none, some (z_J (z_wr (-r6))), none, none, none] σ6 Q))) ∧ ((σ2 704 (z_wr ((z_wr (400 * r2)) + (σ2 726 r1)))) = 3 → (0 ≤ (r1 : Int) ∧ (r1 : Int) < 150) ∧ ((0 ≤ ((z_wr ((z_wr ((z_wr (400 * r2)) + (σ2 726 r1))) + 1)) : Int) ∧ ((z_wr ((z_wr ((z_wr (400 * r2)) + (σ2 726 r1))) + 1)) : Int) < 4800) ∧ ((0 ≤ (r1 : Int) ∧ (r1 : Int) < 150) ∧ ((0 ≤ ((z_wr ((z_wr ((z_wr (400 * r2)) + (σ2 726 r1))) + 1)) : Int) ∧ ((z_wr ((z_wr ((z_wr (400 * r2)) + (σ2 726 r1))) + 1)) : Int) < 4800) ∧ ((0 ≤ (((z_up (z_up σ2 726 r1 (z_wr ((σ2 726 r1) + 2))) 729 r1 (z_or ((z_up σ2 726 r1 (z_wr ((σ2 726 r1) + 2))) 729 r1) (z_shl 1 ((z_up σ2 726 r1 (z_wr ((σ2 726 r1) + 2))) 704 (z_wr ((z_wr ((z_wr (400 * r2)) + (σ2 726 r1))) + 1)))))) 704 (z_wr ((z_wr ((z_wr (400 * r2)) + (σ2 726 r1))) + 1))) : Int) ∧ (((z_up (z_up σ2 726 r1 (z_wr ((σ2 726 r1) + 2))) 729 r1 (z_or ((z_up σ2 726 r1 (z_wr ((σ2 726 r1) + 2))) 729 r1) (z_shl 1 ((z_up σ2 726 r1 (z_wr ((σ2 726 r1) + 2))) 704 (z_wr ((z_wr ((z_wr (400 * r2)) + (σ2 726 r1))) + 1)))))) 704 (z_wr ((z_wr ((z_wr (400 * r2)) + (σ2 726 r1))) + 1))) : Int) < 12) ∧ (z_T e d m_M_stepsOnce 318 [some (z_R 701), some (z_I x1), some (z_I r1), none, none, some (z_J ((z_up (z_up σ2 726 r1 (z_wr ((σ2 726 r1) + 2))) 729 r1 (z_or ((z_up σ2 726 r1 (z_wr ((σ2 726 r1) + 2))) 729 r1) (z_shl 1 ((z_up σ2 726 r1 (z_wr ((σ2 726 r1) + 2))) 704 (z_wr ((z_wr ((z_wr (400 * r2)) + (σ2 726 r1))) + 1)))))) 702 ((z_up (z_up σ2 726 r1 (z_wr ((σ2 726 r1) + 2))) 729 r1 (z_or ((z_up σ2 726 r1 (z_wr ((σ2 726 r1) + 2))) 729 r1) (z_shl 1 ((z_up σ2 726 r1 (z_wr ((σ2 726 r1) + 2))) 704 (z_wr ((z_wr ((z_wr (400 * r2)) + (σ2 726 r1))) + 1)))))) 704 (z_wr ((z_wr ((z_wr (400 * r2)) + (σ2 726 r1))) + 1))))), none, none, none] (z_up (z_up σ2 726 r1 (z_wr ((σ2 726 r1) + 2))) 729 r1 (z_or ((z_up σ2 726 r1 (z_wr ((σ2 726 r1) + 2))) 729 r1) (z_shl 1 ((z_up σ2 726 r1 (z_wr ((σ2 726 r1) + 2))) 704 (z_wr ((z_wr ((z_wr (400 * r2)) + (σ2 726 r1))) + 1)))))) Q))))))) ∧ ((σ2 704 (z_wr ((z_wr (400 * r2)) + (σ2 726 r1)))) = 2 → (0 ≤ (r1 : Int) ∧ (r1 : Int) < 150) ∧ (z_C e d m_M_argumentOf [z_I ((z_up σ2 726 r1 (z_wr ((σ2 726 r1) + 2))) 725 r1)] (z_up σ2 726 r1 (z_wr ((σ2 726 r1) + 2))) (fun r7 σ7 => z_T e d m_M_stepsOnce 318 [some (z_R 701), some (z_I x1), some (z_I r1), none, none, some (z_J r7), none, none, none] σ7 Q))))) ∧ ((σ2 704 (z_wr ((z_wr (400 * r2)) + (σ2 726 r1)))) = 12 → z_C e d m_M_taken [z_R 701, z_I r1] (z_up σ2 726 r1 (z_wr ((σ2 726 r1) + 2))) (fun r8 σ8 => (r8 = 0 → (0 ≤ ((z_wr ((z_wr ((z_wr (400 * r2)) + (σ2 726 r1))) + 1)) : Int) ∧ ((z_wr ((z_wr ((z_wr (400 * r2)) + (σ2 726 r1))) + 1)) : Int) < 4800) ∧ ((0 ≤ (r1 : Int) ∧ (r1 : Int) < 150) ∧ (Q 0 (z_up σ8 726 r1 (σ8 704 (z_wr ((z_wr ((z_wr (400 * r2)) + (σ2 726 r1))) + 1))))))) ∧ (¬ r8 = 0 → (0 ≤ (r1 : Int) ∧ (r1 : Int) < 150) ∧ ((0 ≤ (r1 : Int) ∧ (r1 : Int) < 150) ∧ (Q 0 (z_up σ8 726 r1 (σ8 726 r1)))))))) ∧ ((σ2 704 (z_wr ((z_wr (400 * r2)) + (σ2 726 r1)))) = 4 → z_C e d m_M_taken [z_R 701, z_I r1] (z_up σ2 726 r1 (z_wr ((σ2 726 r1) + 2))) (fun r9 σ9 => z_C e d m_M_in [z_J r9, z_J (-50), z_J 50] σ9 (fun r10 σ10 => (r10 = 0 → z_C e d m_M_fails [z_R 701, z_I x1, z_I 3] σ10 (fun _ σ11 => Q 0 σ11)) ∧ (¬ r10 = 0 → (0 ≤ ((z_wr ((z_wr ((z_wr (400 * r2)) + (σ2 726 r1))) + 1)) : Int) ∧ ((z_wr ((z_wr ((z_wr (400 * r2)) + (σ2 726 r1))) + 1)) : Int) < 4800) ∧ (z_C e d m_M_keyOf [z_I (σ10 704 (z_wr ((z_wr ((z_wr (400 * r2)) + (σ2 726 r1))) + 1))), z_I r9] σ10 (fun r12 σ12 => z_C e d m_M_asksFor [z_R 701, z_I x1, z_I r12, z_I 0] σ12 (fun _ σ13 => Q 0 σ13))))))))))))))))) ∧ ((σ 721 x1) = 2000 → z_C e d m_M_fails [z_R 701, z_I x1, z_I 6] σ (fun _ σ14 => Q 0 σ14)))) : z_C e (d + 1) m_M_stepsOnce [z_R 701, z_I x1] σ Q :=
  z_ent k_M_stepsOnce l_M_stepsOnce rfl (Nat.le_refl _) (z_blk k_M_stepsOnce 94 0 rfl h)
set_option maxRecDepth 20000 in
theorem b_M_stepsOnce_305 {e : z_E} {d : Nat} {x1 x2 x4 x7 x8 : Int} {σ : z_M} {Q : Int → z_M → Prop} (h : z_C e d m_M_joined [z_I x4, z_J x8, z_J x7] σ (fun r1 σ1 => z_T e d m_M_stepsOnce 318 [some (z_R 701), some (z_I x1), some (z_I x2), none, none, some (z_J r1), none, none, none] σ1 Q)) : z_T e d m_M_stepsOnce 305 [some (z_R 701), some (z_I x1), some (z_I x2), none, some (z_I x4), none, none, some (z_I x7), some (z_I x8)] σ Q :=
  z_blk k_M_stepsOnce 10 183 rfl h
set_option maxRecDepth 20000 in
theorem b_M_stepsOnce_318 {e : z_E} {d : Nat} {x1 x2 x5 : Int} {σ : z_M} {Q : Int → z_M → Prop} (h : z_C e d m_M_in [z_J x5, z_J (-9999), z_J 9999] σ (fun r1 σ1 => (¬ r1 = 0 → z_C e d m_M_holds [z_R 701, z_I x2, z_I (z_wr x5)] σ1 (fun _ σ2 => z_C e d m_M_goesOn [z_R 701, z_I x1] σ2 (fun _ σ3 => Q 0 σ3))) ∧ (r1 = 0 → z_C e d m_M_fails [z_R 701, z_I x1, z_I 3] σ1 (fun _ σ4 => Q 0 σ4)))) : z_T e d m_M_stepsOnce 318 [some (z_R 701), some (z_I x1), some (z_I x2), none, none, some (z_J x5), none, none, none] σ Q :=
  z_blk k_M_stepsOnce 16 190 rfl h
set_option maxRecDepth 20000 in
theorem b_M_beginsAnew_0 {e : z_E} {d : Nat} {x1 x2 : Int} {σ : z_M} {Q : Int → z_M → Prop} (h : z_T e d m_M_beginsAnew 2 [some (z_R 701), some (z_I x1), some (z_I x2), some (z_I 0), none] σ Q) : z_C e (d + 1) m_M_beginsAnew [z_R 701, z_I x1, z_I x2] σ Q :=
  z_ent k_M_beginsAnew l_M_beginsAnew rfl (Nat.le_refl _) (z_blk k_M_beginsAnew 5 0 rfl h)
set_option maxRecDepth 20000 in
theorem b_M_beginsAnew_2 {e : z_E} {d : Nat} {x1 x2 x3 : Int} {σ : z_M} {Q : Int → z_M → Prop} (h : (0 ≤ (x1 : Int) ∧ (x1 : Int) < 5) ∧ (((σ 722 x1) ≤ x3 → Q 0 σ) ∧ (x3 < (σ 722 x1) → (0 ≤ ((z_wr ((z_wr (30 * x1)) + x3)) : Int) ∧ ((z_wr ((z_wr (30 * x1)) + x3)) : Int) < 150) ∧ ((¬ (z_and (z_shr (σ 729 (z_wr ((z_wr (30 * x1)) + x3))) x2) 1) = 1 → z_T e d m_M_beginsAnew 2 [some (z_R 701), some (z_I x1), some (z_I x2), some (z_I (z_wr (x3 + 1))), none] σ Q) ∧ ((z_and (z_shr (σ 729 (z_wr ((z_wr (30 * x1)) + x3))) x2) 1) = 1 → (0 ≤ (x1 : Int) ∧ (x1 : Int) < 5) ∧ (z_C e d m_M_clears [z_R 701, z_I (z_wr ((z_wr (30 * x1)) + x3))] (z_up σ 722 x1 (z_wr (x3 + 1))) (fun _ σ1 => (0 ≤ (x1 : Int) ∧ (x1 : Int) < 5) ∧ ((0 ≤ ((z_wr ((z_wr (30 * x1)) + x3)) : Int) ∧ ((z_wr ((z_wr (30 * x1)) + x3)) : Int) < 150) ∧ ((0 ≤ (x1 : Int) ∧ (x1 : Int) < 5) ∧ ((0 ≤ (1 : Int) ∧ (1 : Int) < 7) ∧ ((0 ≤ (1 : Int) ∧ (1 : Int) < 7) ∧ (Q 0 (z_up (z_up (z_up σ1 727 (z_wr ((z_wr (30 * x1)) + x3)) (σ1 721 x1)) 719 x1 1) 717 1 (z_wr (((z_up (z_up σ1 727 (z_wr ((z_wr (30 * x1)) + x3)) (σ1 721 x1)) 719 x1 1) 717 1) + 1))))))))))))))) : z_T e d m_M_beginsAnew 2 [some (z_R 701), some (z_I x1), some (z_I x2), some (z_I x3), none] σ Q :=
  z_blk k_M_beginsAnew 56 2 rfl h
set_option maxRecDepth 20000 in
theorem b_M_runs_0 {e : z_E} {d : Nat} {x1 x2 : Int} {σ : z_M} {Q : Int → z_M → Prop} (h : (0 ≤ (4 : Int) ∧ (4 : Int) < 5) ∧ ((0 ≤ (4 : Int) ∧ (4 : Int) < 5) ∧ (z_C e d m_M_keyOf [z_I x1, z_I x2] (z_up (z_up σ 721 4 0) 722 4 0) (fun r1 σ1 => z_C e d m_M_asksFor [z_R 701, z_I 4, z_I r1, z_I 0] σ1 (fun _ σ2 => z_T e d m_M_runs 25 [some (z_R 701), none, none] σ2 Q))))) : z_C e (d + 1) m_M_runs [z_R 701, z_I x1, z_I x2] σ Q :=
  z_ent k_M_runs l_M_runs rfl (Nat.le_refl _) (z_blk k_M_runs 20 0 rfl h)
set_option maxRecDepth 20000 in
theorem b_M_runs_25 {e : z_E} {d : Nat} {σ : z_M} {Q : Int → z_M → Prop} (h : (0 ≤ (4 : Int) ∧ (4 : Int) < 5) ∧ ((¬ (σ 719 4) = 1 → (0 ≤ (4 : Int) ∧ (4 : Int) < 5) ∧ (Q 0 (z_up σ 722 4 0))) ∧ ((σ 719 4) = 1 → z_C e d m_M_stepsOnce [z_R 701, z_I 4] σ (fun _ σ1 => z_T e d m_M_runs 25 [some (z_R 701), none, none] σ1 Q)))) : z_T e d m_M_runs 25 [some (z_R 701), none, none] σ Q :=
  z_blk k_M_runs 14 17 rfl h
set_option maxRecDepth 20000 in
theorem b_M_mayAsk_0 {e : z_E} {d : Nat} {x0 x1 : Int} {σ : z_M} {Q : Int → z_M → Prop} (h : z_C e d m_M_in [z_J x0, z_J 0, z_J 11] σ (fun r1 σ1 => (r1 = 0 → Q 0 σ1) ∧ (¬ r1 = 0 → z_C e d m_M_in [z_J x1, z_J (-50), z_J 50] σ1 (fun r2 σ2 => (r2 = 0 → Q 0 σ2) ∧ (¬ r2 = 0 → Q 1 σ2))))) : z_C e (d + 1) m_M_mayAsk [z_I x0, z_I x1] σ Q :=
  z_ent k_M_mayAsk l_M_mayAsk rfl (Nat.le_refl _) (z_blk k_M_mayAsk 17 0 rfl h)
set_option maxRecDepth 20000 in
theorem b_M_ask_0 {e : z_E} {d : Nat} {x1 x2 : Int} {σ : z_M} {Q : Int → z_M → Prop} (h : z_C e d m_M_mayAsk [z_I x1, z_I x2] σ (fun r1 σ1 => (¬ r1 = 0 → z_C e d m_M_runs [z_R 701, z_I x1, z_I x2] σ1 (fun _ σ2 => (0 ≤ (4 : Int) ∧ (4 : Int) < 5) ∧ ((0 ≤ (4 : Int) ∧ (4 : Int) < 5) ∧ (Q ((z_up σ2 701 46 (σ2 721 4)) 720 4) (z_up σ2 701 46 (σ2 721 4)))))) ∧ (r1 = 0 → Q (-20001) σ1))) : z_C e (d + 1) m_M_ask [z_R 701, z_I x1, z_I x2] σ Q :=
  z_ent k_M_ask l_M_ask rfl (Nat.le_refl _) (z_blk k_M_ask 21 0 rfl h)
set_option maxRecDepth 20000 in
theorem b_M_steps_0 {e : z_E} {d : Nat} {σ : z_M} {Q : Int → z_M → Prop} (h : Q (σ 701 46) σ) : z_C e (d + 1) m_M_steps [z_R 701] σ Q :=
  z_ent k_M_steps l_M_steps rfl (Nat.le_refl _) (z_blk k_M_steps 5 0 rfl h)
set_option maxRecDepth 20000 in
theorem b_M_aside_0 {e : z_E} {d : Nat} {x1 x2 : Int} {σ : z_M} {Q : Int → z_M → Prop} (h : z_ck (true && z_ok z_NT 101212 x2 && z_ok z_NT 109696 735 && true) ((1 ≤ d ∧ 0 ≤ (0 : Int) ∧ 0 ≤ ((z_wr (1212 * x1)) : Int) ∧ 0 ≤ (1212 : Int) ∧ (0 : Int) + 1212 ≤ 1212 ∧ ((z_wr (1212 * x1)) : Int) + 1212 ≤ 9696) ∧ (101212 / 100000 = 2 → ∀ i : Int, 0 ≤ i → i < 1212 → σ x2 i = 0 ∨ σ x2 i = 1) ∧ (Q 0 (z_cp σ x2 0 735 (z_wr (1212 * x1)) 1212)))) : z_C e (d + 1) m_M_aside [z_R 701, z_I x1, z_R x2] σ Q :=
  z_ent k_M_aside l_M_aside rfl (Nat.le_refl _) (z_blk k_M_aside 12 0 rfl h)
set_option maxRecDepth 20000 in
theorem b_M_again_0 {e : z_E} {d : Nat} {x1 x2 : Int} {σ : z_M} {Q : Int → z_M → Prop} (h : z_ck (true && z_ok z_NT 109696 735 && z_ok z_NT 101212 x2 && true) ((1 ≤ d ∧ 0 ≤ ((z_wr (1212 * x1)) : Int) ∧ 0 ≤ (0 : Int) ∧ 0 ≤ (1212 : Int) ∧ ((z_wr (1212 * x1)) : Int) + 1212 ≤ 9696 ∧ (0 : Int) + 1212 ≤ 1212) ∧ (109696 / 100000 = 2 → ∀ i : Int, 0 ≤ i → i < 9696 → σ 735 i = 0 ∨ σ 735 i = 1) ∧ (Q 0 (z_cp σ 735 (z_wr (1212 * x1)) x2 0 1212)))) : z_C e (d + 1) m_M_again [z_R 701, z_I x1, z_R x2] σ Q :=
  z_ent k_M_again l_M_again rfl (Nat.le_refl _) (z_blk k_M_again 12 0 rfl h)
set_option maxRecDepth 20000 in
theorem b_M_fresh_0 {e : z_E} {d : Nat} {x1 x2 : Int} {σ : z_M} {Q : Int → z_M → Prop} (h : z_C e d m_M_mayAsk [z_I x1, z_I x2] σ (fun r1 σ1 => (¬ r1 = 0 → (1 ≤ d ∧ 0 ≤ (0 : Int) ∧ 0 ≤ (0 : Int) ∧ 0 ≤ (1212 : Int) ∧ (0 : Int) + 1212 ≤ 1212 ∧ (0 : Int) + 1212 ≤ 1212) ∧ (201212 / 100000 = 2 → ∀ i : Int, 0 ≤ i → i < 1212 → σ1 707 i = 0 ∨ σ1 707 i = 1) ∧ ((1 ≤ d ∧ 0 ≤ (0 : Int) ∧ 0 ≤ (0 : Int) ∧ 0 ≤ (38784 : Int) ∧ (0 : Int) + 38784 ≤ 38784 ∧ (0 : Int) + 38784 ≤ 38784) ∧ (138784 / 100000 = 2 → ∀ i : Int, 0 ≤ i → i < 38784 → (z_cp σ1 707 0 734 0 1212) 716 i = 0 ∨ (z_cp σ1 707 0 734 0 1212) 716 i = 1) ∧ ((1 ≤ d ∧ 0 ≤ (0 : Int) ∧ 0 ≤ (0 : Int) ∧ 0 ≤ (7 : Int) ∧ (0 : Int) + 7 ≤ 7 ∧ (0 : Int) + 7 ≤ 7) ∧ (100007 / 100000 = 2 → ∀ i : Int, 0 ≤ i → i < 7 → (z_cp (z_cp σ1 707 0 734 0 1212) 716 0 736 0 38784) 717 i = 0 ∨ (z_cp (z_cp σ1 707 0 734 0 1212) 716 0 736 0 38784) 717 i = 1) ∧ (z_C e d m_M_aside [z_R 701, z_I 0, z_R 708] (z_cp (z_cp (z_cp σ1 707 0 734 0 1212) 716 0 736 0 38784) 717 0 737 0 7) (fun _ σ2 => z_C e d m_M_aside [z_R 701, z_I 1, z_R 709] σ2 (fun _ σ3 => z_C e d m_M_aside [z_R 701, z_I 2, z_R 710] σ3 (fun _ σ4 => z_C e d m_M_aside [z_R 701, z_I 3, z_R 711] σ4 (fun _ σ5 => z_C e d m_M_aside [z_R 701, z_I 4, z_R 712] σ5 (fun _ σ6 => z_C e d m_M_aside [z_R 701, z_I 5, z_R 713] σ6 (fun _ σ7 => z_C e d m_M_aside [z_R 701, z_I 6, z_R 714] σ7 (fun _ σ8 => z_C e d m_M_aside [z_R 701, z_I 7, z_R 715] σ8 (fun _ σ9 => z_T e d m_M_fresh 158 [some (z_R 701), some (z_I x1), some (z_I x2), some (z_I (σ1 701 23)), some (z_I (σ1 701 22)), some (z_I (σ1 701 21)), some (z_I (σ1 701 26)), some (z_I 0)] σ9 Q)))))))))))) ∧ (r1 = 0 → Q (-20001) σ1))) : z_C e (d + 1) m_M_fresh [z_R 701, z_I x1, z_I x2] σ Q :=
  z_ent k_M_fresh l_M_fresh rfl (Nat.le_refl _) (z_blk k_M_fresh 85 0 rfl h)
set_option maxRecDepth 20000 in
theorem b_M_fresh_158 {e : z_E} {d : Nat} {x1 x2 x3 x4 x5 x6 x7 : Int} {σ : z_M} {Q : Int → z_M → Prop} (h : (1212 ≤ x7 → ((0 : Int) = 0 ∨ (0 : Int) = 1) ∧ (z_C e d m_M_runs [z_R 701, z_I x1, z_I x2] (z_up σ 701 30 0) (fun _ σ1 => ((1 : Int) = 0 ∨ (1 : Int) = 1) ∧ ((1 ≤ d ∧ 0 ≤ (0 : Int) ∧ 0 ≤ (0 : Int) ∧ 0 ≤ (1212 : Int) ∧ (0 : Int) + 1212 ≤ 1212 ∧ (0 : Int) + 1212 ≤ 1212) ∧ (201212 / 100000 = 2 → ∀ i : Int, 0 ≤ i → i < 1212 → (z_up σ1 701 30 1) 734 i = 0 ∨ (z_up σ1 701 30 1) 734 i = 1) ∧ ((1 ≤ d ∧ 0 ≤ (0 : Int) ∧ 0 ≤ (0 : Int) ∧ 0 ≤ (38784 : Int) ∧ (0 : Int) + 38784 ≤ 38784 ∧ (0 : Int) + 38784 ≤ 38784) ∧ (138784 / 100000 = 2 → ∀ i : Int, 0 ≤ i → i < 38784 → (z_cp (z_up σ1 701 30 1) 734 0 707 0 1212) 736 i = 0 ∨ (z_cp (z_up σ1 701 30 1) 734 0 707 0 1212) 736 i = 1) ∧ ((1 ≤ d ∧ 0 ≤ (0 : Int) ∧ 0 ≤ (0 : Int) ∧ 0 ≤ (7 : Int) ∧ (0 : Int) + 7 ≤ 7 ∧ (0 : Int) + 7 ≤ 7) ∧ (100007 / 100000 = 2 → ∀ i : Int, 0 ≤ i → i < 7 → (z_cp (z_cp (z_up σ1 701 30 1) 734 0 707 0 1212) 736 0 716 0 38784) 737 i = 0 ∨ (z_cp (z_cp (z_up σ1 701 30 1) 734 0 707 0 1212) 736 0 716 0 38784) 737 i = 1) ∧ (z_C e d m_M_again [z_R 701, z_I 0, z_R 708] (z_cp (z_cp (z_cp (z_up σ1 701 30 1) 734 0 707 0 1212) 736 0 716 0 38784) 737 0 717 0 7) (fun _ σ2 => z_C e d m_M_again [z_R 701, z_I 1, z_R 709] σ2 (fun _ σ3 => z_C e d m_M_again [z_R 701, z_I 2, z_R 710] σ3 (fun _ σ4 => z_C e d m_M_again [z_R 701, z_I 3, z_R 711] σ4 (fun _ σ5 => z_C e d m_M_again [z_R 701, z_I 4, z_R 712] σ5 (fun _ σ6 => z_C e d m_M_again [z_R 701, z_I 5, z_R 713] σ6 (fun _ σ7 => z_C e d m_M_again [z_R 701, z_I 6, z_R 714] σ7 (fun _ σ8 => z_C e d m_M_again [z_R 701, z_I 7, z_R 715] σ8 (fun _ σ9 => (0 ≤ (4 : Int) ∧ (4 : Int) < 5) ∧ (Q ((z_up (z_up (z_up (z_up σ9 701 23 x3) 701 22 x4) 701 21 x5) 701 26 x6) 720 4) (z_up (z_up (z_up (z_up σ9 701 23 x3) 701 22 x4) 701 21 x5) 701 26 x6))))))))))))))))) ∧ (x7 < 1212 → (0 ≤ (x7 : Int) ∧ (x7 : Int) < 1212) ∧ (((0 : Int) = 0 ∨ (0 : Int) = 1) ∧ (z_T e d m_M_fresh 158 [some (z_R 701), some (z_I x1), some (z_I x2), some (z_I x3), some (z_I x4), some (z_I x5), some (z_I x6), some (z_I (z_wr (x7 + 1)))] (z_up σ 707 x7 0) Q)))) : z_T e d m_M_fresh 158 [some (z_R 701), some (z_I x1), some (z_I x2), some (z_I x3), some (z_I x4), some (z_I x5), some (z_I x6), some (z_I x7)] σ Q :=
  z_blk k_M_fresh 96 84 rfl h
set_option maxRecDepth 20000 in
theorem b_M_bound_0 {e : z_E} {d : Nat} {x1 : Int} {σ : z_M} {Q : Int → z_M → Prop} (h : z_C e d m_M_in [z_J x1, z_J 1, z_J 300] σ (fun r1 σ1 => (¬ r1 = 0 → z_C e d m_M_holdsBound [z_R 701] (z_up σ1 701 24 x1) (fun _ σ2 => Q (σ1 701 24) σ2)) ∧ (r1 = 0 → Q (-20001) σ1))) : z_C e (d + 1) m_M_bound [z_R 701, z_I x1] σ Q :=
  z_ent k_M_bound l_M_bound rfl (Nat.le_refl _) (z_blk k_M_bound 18 0 rfl h)
set_option maxRecDepth 20000 in
theorem b_M_policy_0 {e : z_E} {d : Nat} {x1 : Int} {σ : z_M} {Q : Int → z_M → Prop} (h : z_C e d m_M_in [z_J x1, z_J 0, z_J 3] σ (fun r1 σ1 => (¬ r1 = 0 → Q (σ1 701 25) (z_up σ1 701 25 x1)) ∧ (r1 = 0 → Q (-20001) σ1))) : z_C e (d + 1) m_M_policy [z_R 701, z_I x1] σ Q :=
  z_ent k_M_policy l_M_policy rfl (Nat.le_refl _) (z_blk k_M_policy 16 0 rfl h)
set_option maxRecDepth 20000 in
theorem b_M_kept_0 {e : z_E} {d : Nat} {x1 x2 : Int} {σ : z_M} {Q : Int → z_M → Prop} (h : z_C e d m_M_isKey [z_J x1] σ (fun r1 σ1 => (r1 = 0 → Q (-20001) σ1) ∧ (¬ r1 = 0 → z_C e d m_M_in [z_J x2, z_J 0, z_J 6] σ1 (fun r2 σ2 => (¬ r2 = 0 → (0 ≤ (x1 : Int) ∧ (x1 : Int) < 1212) ∧ ((¬ (σ2 707 x1) = 0 → ((x2 : Int) = 0 → (0 ≤ (x1 : Int) ∧ (x1 : Int) < 1212) ∧ (Q (σ2 708 x1) σ2)) ∧ (¬ (x2 : Int) = 0 → ((x2 : Int) = 1 → (0 ≤ (x1 : Int) ∧ (x1 : Int) < 1212) ∧ (Q (σ2 709 x1) σ2)) ∧ (¬ (x2 : Int) = 1 → ((x2 : Int) = 2 → (0 ≤ (x1 : Int) ∧ (x1 : Int) < 1212) ∧ (Q (σ2 710 x1) σ2)) ∧ (¬ (x2 : Int) = 2 → ((x2 : Int) = 3 → (0 ≤ (x1 : Int) ∧ (x1 : Int) < 1212) ∧ (Q (σ2 711 x1) σ2)) ∧ (¬ (x2 : Int) = 3 → ((x2 : Int) = 4 → (0 ≤ (x1 : Int) ∧ (x1 : Int) < 1212) ∧ (Q (σ2 712 x1) σ2)) ∧ (¬ (x2 : Int) = 4 → ((x2 : Int) = 5 → (0 ≤ (x1 : Int) ∧ (x1 : Int) < 1212) ∧ (Q (σ2 715 x1) σ2)) ∧ (¬ (x2 : Int) = 5 → (0 ≤ (x1 : Int) ∧ (x1 : Int) < 1212) ∧ (Q (σ2 713 x1) σ2)))))))) ∧ ((σ2 707 x1) = 0 → Q (-20002) σ2))) ∧ (r2 = 0 → Q (-20001) σ2))))) : z_C e (d + 1) m_M_kept [z_R 701, z_I x1, z_I x2] σ Q :=
  z_ent k_M_kept l_M_kept rfl (Nat.le_refl _) (z_blk k_M_kept 24 0 rfl h)
set_option maxRecDepth 20000 in
theorem b_M_asked_0 {e : z_E} {d : Nat} {x1 x2 : Int} {σ : z_M} {Q : Int → z_M → Prop} (h : z_C e d m_M_isKey [z_J x1] σ (fun r1 σ1 => (r1 = 0 → Q (-20001) σ1) ∧ (¬ r1 = 0 → (0 ≤ x2 → (0 ≤ (x1 : Int) ∧ (x1 : Int) < 1212) ∧ (((σ1 707 x1) = 0 → Q (-20002) σ1) ∧ (¬ (σ1 707 x1) = 0 → (0 ≤ (x1 : Int) ∧ (x1 : Int) < 1212) ∧ (((σ1 715 x1) ≤ x2 → Q (-20002) σ1) ∧ (x2 < (σ1 715 x1) → (0 ≤ ((z_wr ((z_wr (32 * x1)) + x2)) : Int) ∧ ((z_wr ((z_wr (32 * x1)) + x2)) : Int) < 38784) ∧ (Q (σ1 716 (z_wr ((z_wr (32 * x1)) + x2))) σ1)))))) ∧ (x2 < 0 → Q (-20001) σ1)))) : z_C e (d + 1) m_M_asked [z_R 701, z_I x1, z_I x2] σ Q :=
  z_ent k_M_asked l_M_asked rfl (Nat.le_refl _) (z_blk k_M_asked 29 0 rfl h)
set_option maxRecDepth 20000 in
theorem b_M_key_0 {e : z_E} {d : Nat} {x1 x2 : Int} {σ : z_M} {Q : Int → z_M → Prop} (h : z_C e d m_M_in [z_J x1, z_J 0, z_J 1] σ (fun r1 σ1 => (r1 = 0 → Q (-20001) σ1) ∧ (¬ r1 = 0 → (0 ≤ x2 → (x2 < (σ1 701 23) → (¬ x1 = 0 → z_C e d m_M_cameBehind [z_R 701, z_I 0] σ1 (fun r2 σ2 => (¬ x1 = 0 → z_T e d m_M_key 55 [some (z_R 701), some (z_I x1), some (z_I x2), some (z_I r2), some (z_I 0)] σ2 Q) ∧ (x1 = 0 → z_T e d m_M_key 55 [some (z_R 701), some (z_I x1), some (z_I x2), some (z_I r2), some (z_I (-1))] σ2 Q))) ∧ (x1 = 0 → (¬ x1 = 0 → z_T e d m_M_key 55 [some (z_R 701), some (z_I x1), some (z_I x2), some (z_I (-1)), some (z_I 0)] σ1 Q) ∧ (x1 = 0 → z_T e d m_M_key 55 [some (z_R 701), some (z_I x1), some (z_I x2), some (z_I (-1)), some (z_I (-1))] σ1 Q))) ∧ ((σ1 701 23) ≤ x2 → Q (-20002) σ1)) ∧ (x2 < 0 → Q (-20001) σ1)))) : z_C e (d + 1) m_M_key [z_R 701, z_I x1, z_I x2] σ Q :=
  z_ent k_M_key l_M_key rfl (Nat.le_refl _) (z_blk k_M_key 26 0 rfl h)
set_option maxRecDepth 20000 in
theorem b_M_key_55 {e : z_E} {d : Nat} {x1 x2 x3 x4 : Int} {σ : z_M} {Q : Int → z_M → Prop} (h : (x2 ≤ x4 → Q x3 σ) ∧ (x4 < x2 → (¬ x1 = 0 → (0 ≤ (x3 : Int) ∧ (x3 : Int) < 1212) ∧ (z_C e d m_M_cameBehind [z_R 701, z_I (σ 714 x3)] σ (fun r1 σ1 => (x1 = 1 → z_T e d m_M_key 55 [some (z_R 701), some (z_I x1), some (z_I x2), some (z_I r1), some (z_I (z_wr (x4 + 1)))] σ1 Q) ∧ (¬ x1 = 1 → (0 ≤ (r1 : Int) ∧ (r1 : Int) < 1212) ∧ (((σ1 707 r1) = 0 → z_T e d m_M_key 55 [some (z_R 701), some (z_I x1), some (z_I x2), some (z_I r1), some (z_I (z_wr (x4 + 0)))] σ1 Q) ∧ (¬ (σ1 707 r1) = 0 → z_T e d m_M_key 55 [some (z_R 701), some (z_I x1), some (z_I x2), some (z_I r1), some (z_I (z_wr (x4 + 1)))] σ1 Q)))))) ∧ (x1 = 0 → (x1 = 1 → z_T e d m_M_key 55 [some (z_R 701), some (z_I x1), some (z_I x2), some (z_I (z_wr (x3 + 1))), some (z_I (z_wr (x4 + 1)))] σ Q) ∧ (¬ x1 = 1 → (0 ≤ ((z_wr (x3 + 1)) : Int) ∧ ((z_wr (x3 + 1)) : Int) < 1212) ∧ (((σ 707 (z_wr (x3 + 1))) = 0 → z_T e d m_M_key 55 [some (z_R 701), some (z_I x1), some (z_I x2), some (z_I (z_wr (x3 + 1))), some (z_I (z_wr (x4 + 0)))] σ Q) ∧ (¬ (σ 707 (z_wr (x3 + 1))) = 0 → z_T e d m_M_key 55 [some (z_R 701), some (z_I x1), some (z_I x2), some (z_I (z_wr (x3 + 1))), some (z_I (z_wr (x4 + 1)))] σ Q)))))) : z_T e d m_M_key 55 [some (z_R 701), some (z_I x1), some (z_I x2), some (z_I x3), some (z_I x4)] σ Q :=
  z_blk k_M_key 29 30 rfl h
set_option maxRecDepth 20000 in
theorem b_M_wave_0 {e : z_E} {d : Nat} {x1 : Int} {σ : z_M} {Q : Int → z_M → Prop} (h : (0 ≤ x1 → ((σ 701 29) ≤ x1 → Q (-20002) σ) ∧ (x1 < (σ 701 29) → (0 ≤ (x1 : Int) ∧ (x1 : Int) < 1212) ∧ (Q (σ 718 x1) σ))) ∧ (x1 < 0 → Q (-20001) σ)) : z_C e (d + 1) m_M_wave [z_R 701, z_I x1] σ Q :=
  z_ent k_M_wave l_M_wave rfl (Nat.le_refl _) (z_blk k_M_wave 14 0 rfl h)
set_option maxRecDepth 20000 in
theorem b_M_would_0 {e : z_E} {d : Nat} {x1 : Int} {σ : z_M} {Q : Int → z_M → Prop} (h : z_C e d m_M_in [z_J x1, z_J 0, z_J 23] σ (fun r1 σ1 => (¬ r1 = 0 → z_T e d m_M_would 20 [some (z_R 701), some (z_I x1), some (z_I 0), some (z_I 0)] σ1 Q) ∧ (r1 = 0 → Q (-20001) σ1))) : z_C e (d + 1) m_M_would [z_R 701, z_I x1] σ Q :=
  z_ent k_M_would l_M_would rfl (Nat.le_refl _) (z_blk k_M_would 13 0 rfl h)
set_option maxRecDepth 20000 in
theorem b_M_would_20 {e : z_E} {d : Nat} {x1 x2 x3 : Int} {σ : z_M} {Q : Int → z_M → Prop} (h : (1212 ≤ x3 → Q x2 σ) ∧ (x3 < 1212 → (0 ≤ (x3 : Int) ∧ (x3 : Int) < 1212) ∧ (((σ 707 x3) = 0 → z_T e d m_M_would 20 [some (z_R 701), some (z_I x1), some (z_I (z_wr (x2 + 0))), some (z_I (z_wr (x3 + 1)))] σ Q) ∧ (¬ (σ 707 x3) = 0 → (0 ≤ (x3 : Int) ∧ (x3 : Int) < 1212) ∧ ((¬ (z_and (z_shr (σ 713 x3) x1) 1) = 1 → z_T e d m_M_would 20 [some (z_R 701), some (z_I x1), some (z_I (z_wr (x2 + 0))), some (z_I (z_wr (x3 + 1)))] σ Q) ∧ ((z_and (z_shr (σ 713 x3) x1) 1) = 1 → z_T e d m_M_would 20 [some (z_R 701), some (z_I x1), some (z_I (z_wr (x2 + 1))), some (z_I (z_wr (x3 + 1)))] σ Q)))))) : z_T e d m_M_would 20 [some (z_R 701), some (z_I x1), some (z_I x2), some (z_I x3)] σ Q :=
  z_blk k_M_would 28 12 rfl h
set_option maxRecDepth 20000 in
theorem b_M_heirs_0 {e : z_E} {d : Nat} {x1 : Int} {σ : z_M} {Q : Int → z_M → Prop} (h : z_C e d m_M_isKey [z_J x1] σ (fun r1 σ1 => (¬ r1 = 0 → (0 ≤ (x1 : Int) ∧ (x1 : Int) < 1212) ∧ ((¬ (σ1 707 x1) = 0 → z_T e d m_M_heirs 27 [some (z_R 701), some (z_I x1), some (z_I 0), none, none] σ1 Q) ∧ ((σ1 707 x1) = 0 → Q (-20002) σ1))) ∧ (r1 = 0 → Q (-20001) σ1))) : z_C e (d + 1) m_M_heirs [z_R 701, z_I x1] σ Q :=
  z_ent k_M_heirs l_M_heirs rfl (Nat.le_refl _) (z_blk k_M_heirs 14 0 rfl h)
set_option maxRecDepth 20000 in
theorem b_M_heirs_27 {e : z_E} {d : Nat} {x1 x2 : Int} {σ : z_M} {Q : Int → z_M → Prop} (h : (1212 ≤ x2 → z_T e d m_M_heirs 60 [some (z_R 701), none, some (z_I 0), some (z_I 1), none] σ Q) ∧ (x2 < 1212 → (¬ x2 = x1 → (0 ≤ (x2 : Int) ∧ (x2 : Int) < 1212) ∧ (((0 : Int) = 0 ∨ (0 : Int) = 1) ∧ (z_T e d m_M_heirs 27 [some (z_R 701), some (z_I x1), some (z_I (z_wr (x2 + 1))), none, none] (z_up σ 738 x2 0) Q))) ∧ (x2 = x1 → (0 ≤ (x2 : Int) ∧ (x2 : Int) < 1212) ∧ (((1 : Int) = 0 ∨ (1 : Int) = 1) ∧ (z_T e d m_M_heirs 27 [some (z_R 701), some (z_I x1), some (z_I (z_wr (x2 + 1))), none, none] (z_up σ 738 x2 1) Q))))) : z_T e d m_M_heirs 27 [some (z_R 701), some (z_I x1), some (z_I x2), none, none] σ Q :=
  z_blk k_M_heirs 17 15 rfl h
set_option maxRecDepth 20000 in
theorem b_M_heirs_60 {e : z_E} {d : Nat} {x2 x3 : Int} {σ : z_M} {Q : Int → z_M → Prop} (h : (x3 = 0 → Q x2 σ) ∧ (¬ x3 = 0 → z_T e d m_M_heirs 69 [some (z_R 701), none, some (z_I x2), some (z_I 0), some (z_I 0)] σ Q)) : z_T e d m_M_heirs 60 [some (z_R 701), none, some (z_I x2), some (z_I x3), none] σ Q :=
  z_blk k_M_heirs 9 34 rfl h
set_option maxRecDepth 20000 in
theorem b_M_heirs_69 {e : z_E} {d : Nat} {x2 x3 x4 : Int} {σ : z_M} {Q : Int → z_M → Prop} (h : (1212 ≤ x4 → z_T e d m_M_heirs 60 [some (z_R 701), none, some (z_I x2), some (z_I x3), none] σ Q) ∧ (x4 < 1212 → (0 ≤ (x4 : Int) ∧ (x4 : Int) < 1212) ∧ (((σ 707 x4) = 0 → z_T e d m_M_heirs 119 [some (z_R 701), none, some (z_I x2), some (z_I x3), some (z_I x4)] σ Q) ∧ (¬ (σ 707 x4) = 0 → (0 ≤ (x4 : Int) ∧ (x4 : Int) < 1212) ∧ ((¬ (σ 738 x4) = 0 → z_T e d m_M_heirs 119 [some (z_R 701), none, some (z_I x2), some (z_I x3), some (z_I x4)] σ Q) ∧ ((σ 738 x4) = 0 → z_C e d m_M_asksHeir [z_R 701, z_I x4] σ (fun r1 σ1 => (r1 = 0 → z_T e d m_M_heirs 119 [some (z_R 701), none, some (z_I x2), some (z_I x3), some (z_I x4)] σ1 Q) ∧ (¬ r1 = 0 → (0 ≤ (x4 : Int) ∧ (x4 : Int) < 1212) ∧ (((1 : Int) = 0 ∨ (1 : Int) = 1) ∧ (z_T e d m_M_heirs 119 [some (z_R 701), none, some (z_I (z_wr (x2 + 1))), some (z_I 1), some (z_I x4)] (z_up σ1 738 x4 1) Q)))))))))) : z_T e d m_M_heirs 69 [some (z_R 701), none, some (z_I x2), some (z_I x3), some (z_I x4)] σ Q :=
  z_blk k_M_heirs 28 40 rfl h
set_option maxRecDepth 20000 in
theorem b_M_heirs_119 {e : z_E} {d : Nat} {x2 x3 x4 : Int} {σ : z_M} {Q : Int → z_M → Prop} (h : z_T e d m_M_heirs 69 [some (z_R 701), none, some (z_I x2), some (z_I x3), some (z_I (z_wr (x4 + 1)))] σ Q) : z_T e d m_M_heirs 119 [some (z_R 701), none, some (z_I x2), some (z_I x3), some (z_I x4)] σ Q :=
  z_blk k_M_heirs 5 65 rfl h
set_option maxRecDepth 20000 in
theorem b_M_asksHeir_0 {e : z_E} {d : Nat} {x1 : Int} {σ : z_M} {Q : Int → z_M → Prop} (h : z_T e d m_M_asksHeir 2 [some (z_R 701), some (z_I x1), some (z_I 0)] σ Q) : z_C e (d + 1) m_M_asksHeir [z_R 701, z_I x1] σ Q :=
  z_ent k_M_asksHeir l_M_asksHeir rfl (Nat.le_refl _) (z_blk k_M_asksHeir 5 0 rfl h)
set_option maxRecDepth 20000 in
theorem b_M_asksHeir_2 {e : z_E} {d : Nat} {x1 x2 : Int} {σ : z_M} {Q : Int → z_M → Prop} (h : (0 ≤ (x1 : Int) ∧ (x1 : Int) < 1212) ∧ (((σ 715 x1) ≤ x2 → Q 0 σ) ∧ (x2 < (σ 715 x1) → (0 ≤ ((z_wr ((z_wr (32 * x1)) + x2)) : Int) ∧ ((z_wr ((z_wr (32 * x1)) + x2)) : Int) < 38784) ∧ ((0 ≤ ((σ 716 (z_wr ((z_wr (32 * x1)) + x2))) : Int) ∧ ((σ 716 (z_wr ((z_wr (32 * x1)) + x2))) : Int) < 1212) ∧ (((σ 738 (σ 716 (z_wr ((z_wr (32 * x1)) + x2)))) = 0 → z_T e d m_M_asksHeir 2 [some (z_R 701), some (z_I x1), some (z_I (z_wr (x2 + 1)))] σ Q) ∧ (¬ (σ 738 (σ 716 (z_wr ((z_wr (32 * x1)) + x2)))) = 0 → Q 1 σ)))))) : z_T e d m_M_asksHeir 2 [some (z_R 701), some (z_I x1), some (z_I x2)] σ Q :=
  z_blk k_M_asksHeir 23 2 rfl h
set_option maxRecDepth 20000 in
theorem b_M_chain_0 {e : z_E} {d : Nat} {x1 : Int} {σ : z_M} {Q : Int → z_M → Prop} (h : z_C e d m_M_isKey [z_J x1] σ (fun r1 σ1 => (¬ r1 = 0 → (0 ≤ (x1 : Int) ∧ (x1 : Int) < 1212) ∧ ((¬ (σ1 707 x1) = 0 → z_T e d m_M_chain 27 [some (z_R 701), some (z_I x1), some (z_I 0), none, none, none, none] σ1 Q) ∧ ((σ1 707 x1) = 0 → Q (-20002) σ1))) ∧ (r1 = 0 → Q (-20001) σ1))) : z_C e (d + 1) m_M_chain [z_R 701, z_I x1] σ Q :=
  z_ent k_M_chain l_M_chain rfl (Nat.le_refl _) (z_blk k_M_chain 14 0 rfl h)
set_option maxRecDepth 20000 in
theorem b_M_chain_27 {e : z_E} {d : Nat} {x1 x2 : Int} {σ : z_M} {Q : Int → z_M → Prop} (h : (1212 ≤ x2 → z_T e d m_M_chain 64 [some (z_R 701), some (z_I x1), some (z_I 1), some (z_I 0), none, none, none] σ Q) ∧ (x2 < 1212 → (0 ≤ (x2 : Int) ∧ (x2 : Int) < 1212) ∧ (((σ 707 x2) = 0 → (0 ≤ (x2 : Int) ∧ (x2 : Int) < 1212) ∧ (z_T e d m_M_chain 27 [some (z_R 701), some (z_I x1), some (z_I (z_wr (x2 + 1))), none, none, none, none] (z_up σ 739 x2 0) Q)) ∧ (¬ (σ 707 x2) = 0 → (0 ≤ (x2 : Int) ∧ (x2 : Int) < 1212) ∧ (z_T e d m_M_chain 27 [some (z_R 701), some (z_I x1), some (z_I (z_wr (x2 + 1))), none, none, none, none] (z_up σ 739 x2 1) Q))))) : z_T e d m_M_chain 27 [some (z_R 701), some (z_I x1), some (z_I x2), none, none, none, none] σ Q :=
  z_blk k_M_chain 19 15 rfl h
set_option maxRecDepth 20000 in
theorem b_M_chain_64 {e : z_E} {d : Nat} {x1 x2 x3 : Int} {σ : z_M} {Q : Int → z_M → Prop} (h : (1212 ≤ x3 → (0 ≤ (x1 : Int) ∧ (x1 : Int) < 1212) ∧ (Q (σ 739 x1) σ)) ∧ (x3 < 1212 → (x2 = 0 → (0 ≤ (x1 : Int) ∧ (x1 : Int) < 1212) ∧ (Q (σ 739 x1) σ)) ∧ (¬ x2 = 0 → z_T e d m_M_chain 80 [some (z_R 701), some (z_I x1), some (z_I 0), some (z_I x3), some (z_I 0), none, none] σ Q))) : z_T e d m_M_chain 64 [some (z_R 701), some (z_I x1), some (z_I x2), some (z_I x3), none, none, none] σ Q :=
  z_blk k_M_chain 12 36 rfl h
set_option maxRecDepth 20000 in
theorem b_M_chain_80 {e : z_E} {d : Nat} {x1 x2 x3 x4 : Int} {σ : z_M} {Q : Int → z_M → Prop} (h : (1212 ≤ x4 → z_T e d m_M_chain 64 [some (z_R 701), some (z_I x1), some (z_I x2), some (z_I (z_wr (x3 + 1))), none, none, none] σ Q) ∧ (x4 < 1212 → z_T e d m_M_chain 91 [some (z_R 701), some (z_I x1), some (z_I x2), some (z_I x3), some (z_I x4), some (z_I 0), none] σ Q)) : z_T e d m_M_chain 80 [some (z_R 701), some (z_I x1), some (z_I x2), some (z_I x3), some (z_I x4), none, none] σ Q :=
  z_blk k_M_chain 8 45 rfl h
set_option maxRecDepth 20000 in
theorem b_M_chain_91 {e : z_E} {d : Nat} {x1 x2 x3 x4 x5 : Int} {σ : z_M} {Q : Int → z_M → Prop} (h : (0 ≤ (x4 : Int) ∧ (x4 : Int) < 1212) ∧ (((σ 707 x4) = 0 → z_T e d m_M_chain 171 [some (z_R 701), some (z_I x1), some (z_I x2), some (z_I x3), some (z_I x4), none, none] σ Q) ∧ (¬ (σ 707 x4) = 0 → (0 ≤ (x4 : Int) ∧ (x4 : Int) < 1212) ∧ (((σ 715 x4) ≤ x5 → z_T e d m_M_chain 171 [some (z_R 701), some (z_I x1), some (z_I x2), some (z_I x3), some (z_I x4), none, none] σ Q) ∧ (x5 < (σ 715 x4) → (0 ≤ ((z_wr ((z_wr (32 * x4)) + x5)) : Int) ∧ ((z_wr ((z_wr (32 * x4)) + x5)) : Int) < 38784) ∧ ((0 ≤ ((σ 716 (z_wr ((z_wr (32 * x4)) + x5))) : Int) ∧ ((σ 716 (z_wr ((z_wr (32 * x4)) + x5))) : Int) < 1212) ∧ (((σ 739 (σ 716 (z_wr ((z_wr (32 * x4)) + x5)))) ≤ 0 → z_T e d m_M_chain 165 [some (z_R 701), some (z_I x1), some (z_I x2), some (z_I x3), some (z_I x4), some (z_I x5), none] σ Q) ∧ (0 < (σ 739 (σ 716 (z_wr ((z_wr (32 * x4)) + x5)))) → (0 ≤ (x4 : Int) ∧ (x4 : Int) < 1212) ∧ (((z_wr ((σ 739 (σ 716 (z_wr ((z_wr (32 * x4)) + x5)))) + 1)) ≤ (σ 739 x4) → z_T e d m_M_chain 165 [some (z_R 701), some (z_I x1), some (z_I x2), some (z_I x3), some (z_I x4), some (z_I x5), none] σ Q) ∧ ((σ 739 x4) < (z_wr ((σ 739 (σ 716 (z_wr ((z_wr (32 * x4)) + x5)))) + 1)) → (0 ≤ (x4 : Int) ∧ (x4 : Int) < 1212) ∧ (z_T e d m_M_chain 165 [some (z_R 701), some (z_I x1), some (z_I 1), some (z_I x3), some (z_I x4), some (z_I x5), none] (z_up σ 739 x4 (z_wr ((σ 739 (σ 716 (z_wr ((z_wr (32 * x4)) + x5)))) + 1))) Q))))))))))) : z_T e d m_M_chain 91 [some (z_R 701), some (z_I x1), some (z_I x2), some (z_I x3), some (z_I x4), some (z_I x5), none] σ Q :=
  z_blk k_M_chain 45 50 rfl h
set_option maxRecDepth 20000 in
theorem b_M_chain_165 {e : z_E} {d : Nat} {x1 x2 x3 x4 x5 : Int} {σ : z_M} {Q : Int → z_M → Prop} (h : z_T e d m_M_chain 91 [some (z_R 701), some (z_I x1), some (z_I x2), some (z_I x3), some (z_I x4), some (z_I (z_wr (x5 + 1))), none] σ Q) : z_T e d m_M_chain 165 [some (z_R 701), some (z_I x1), some (z_I x2), some (z_I x3), some (z_I x4), some (z_I x5), none] σ Q :=
  z_blk k_M_chain 5 92 rfl h
set_option maxRecDepth 20000 in
theorem b_M_chain_171 {e : z_E} {d : Nat} {x1 x2 x3 x4 : Int} {σ : z_M} {Q : Int → z_M → Prop} (h : z_T e d m_M_chain 80 [some (z_R 701), some (z_I x1), some (z_I x2), some (z_I x3), some (z_I (z_wr (x4 + 1))), none, none] σ Q) : z_T e d m_M_chain 171 [some (z_R 701), some (z_I x1), some (z_I x2), some (z_I x3), some (z_I x4), none, none] σ Q :=
  z_blk k_M_chain 5 94 rfl h
set_option maxRecDepth 20000 in
theorem b_M_next_0 {e : z_E} {d : Nat} {σ : z_M} {Q : Int → z_M → Prop} (h : (¬ (σ 701 23) = 0 → z_C e d m_M_leastWorth [z_R 701] σ (fun r1 σ1 => Q r1 σ1)) ∧ ((σ 701 23) = 0 → Q (-20002) σ)) : z_C e (d + 1) m_M_next [z_R 701] σ Q :=
  z_ent k_M_next l_M_next rfl (Nat.le_refl _) (z_blk k_M_next 8 0 rfl h)
set_option maxRecDepth 20000 in
theorem b_M_clear_0 {e : z_E} {d : Nat} {σ : z_M} {Q : Int → z_M → Prop} (h : z_T e d m_M_clear 7 [some (z_R 701), some (z_I (σ 701 23)), some (z_I 0)] σ Q) : z_C e (d + 1) m_M_clear [z_R 701] σ Q :=
  z_ent k_M_clear l_M_clear rfl (Nat.le_refl _) (z_blk k_M_clear 8 0 rfl h)
set_option maxRecDepth 20000 in
theorem b_M_clear_7 {e : z_E} {d : Nat} {x1 x2 : Int} {σ : z_M} {Q : Int → z_M → Prop} (h : (1212 ≤ x2 → Q x1 σ) ∧ (x2 < 1212 → (0 ≤ (x2 : Int) ∧ (x2 : Int) < 1212) ∧ (((σ 707 x2) = 0 → z_T e d m_M_clear 28 [some (z_R 701), some (z_I x1), some (z_I x2)] σ Q) ∧ (¬ (σ 707 x2) = 0 → z_C e d m_M_goes [z_R 701, z_I x2] σ (fun _ σ1 => z_T e d m_M_clear 28 [some (z_R 701), some (z_I x1), some (z_I x2)] σ1 Q))))) : z_T e d m_M_clear 7 [some (z_R 701), some (z_I x1), some (z_I x2)] σ Q :=
  z_blk k_M_clear 14 5 rfl h
set_option maxRecDepth 20000 in
theorem b_M_clear_28 {e : z_E} {d : Nat} {x1 x2 : Int} {σ : z_M} {Q : Int → z_M → Prop} (h : z_T e d m_M_clear 7 [some (z_R 701), some (z_I x1), some (z_I (z_wr (x2 + 1)))] σ Q) : z_T e d m_M_clear 28 [some (z_R 701), some (z_I x1), some (z_I x2)] σ Q :=
  z_blk k_M_clear 5 16 rfl h
set_option maxRecDepth 20000 in
theorem b_M_isTask_0 {e : z_E} {d : Nat} {x0 : Int} {σ : z_M} {Q : Int → z_M → Prop} (h : z_C e d m_M_in [z_J x0, z_J 0, z_J 3] σ (fun r1 σ1 => z_ck (r1 == 0 || r1 == 1) (Q r1 σ1))) : z_C e (d + 1) m_M_isTask [z_I x0] σ Q :=
  z_ent k_M_isTask l_M_isTask rfl (Nat.le_refl _) (z_blk k_M_isTask 8 0 rfl h)
set_option maxRecDepth 20000 in
theorem b_M_isBusy_0 {e : z_E} {d : Nat} {x1 : Int} {σ : z_M} {Q : Int → z_M → Prop} (h : (0 ≤ (x1 : Int) ∧ (x1 : Int) < 5) ∧ (((σ 719 x1) = 1 → Q 1 σ) ∧ (¬ (σ 719 x1) = 1 → (0 ≤ (x1 : Int) ∧ (x1 : Int) < 5) ∧ ((¬ (σ 719 x1) = 2 → Q 0 σ) ∧ ((σ 719 x1) = 2 → Q 1 σ))))) : z_C e (d + 1) m_M_isBusy [z_R 701, z_I x1] σ Q :=
  z_ent k_M_isBusy l_M_isBusy rfl (Nat.le_refl _) (z_blk k_M_isBusy 17 0 rfl h)
set_option maxRecDepth 20000 in
theorem b_M_start_0 {e : z_E} {d : Nat} {x1 x2 x3 : Int} {σ : z_M} {Q : Int → z_M → Prop} (h : z_C e d m_M_isTask [z_I x1] σ (fun r1 σ1 => (r1 = 0 → Q (-20001) σ1) ∧ (¬ r1 = 0 → z_C e d m_M_mayAsk [z_I x2, z_I x3] σ1 (fun r2 σ2 => (¬ r2 = 0 → z_C e d m_M_isBusy [z_R 701, z_I x1] σ2 (fun r3 σ3 => (r3 = 0 → (0 ≤ (x1 : Int) ∧ (x1 : Int) < 5) ∧ ((0 ≤ (x1 : Int) ∧ (x1 : Int) < 5) ∧ (z_C e d m_M_keyOf [z_I x2, z_I x3] (z_up (z_up σ3 721 x1 0) 722 x1 0) (fun r4 σ4 => z_C e d m_M_asksFor [z_R 701, z_I x1, z_I r4, z_I 0] σ4 (fun _ σ5 => (0 ≤ (x1 : Int) ∧ (x1 : Int) < 5) ∧ (Q (σ5 719 x1) σ5)))))) ∧ (¬ r3 = 0 → Q (-20003) σ3))) ∧ (r2 = 0 → Q (-20001) σ2))))) : z_C e (d + 1) m_M_start [z_R 701, z_I x1, z_I x2, z_I x3] σ Q :=
  z_ent k_M_start l_M_start rfl (Nat.le_refl _) (z_blk k_M_start 35 0 rfl h)
set_option maxRecDepth 20000 in
theorem b_M_step_0 {e : z_E} {d : Nat} {x1 x2 : Int} {σ : z_M} {Q : Int → z_M → Prop} (h : z_C e d m_M_isTask [z_I x1] σ (fun r1 σ1 => (r1 = 0 → Q (-20001) σ1) ∧ (¬ r1 = 0 → z_C e d m_M_in [z_J x2, z_J 1, z_J 100] σ1 (fun r2 σ2 => (¬ r2 = 0 → z_C e d m_M_isBusy [z_R 701, z_I x1] σ2 (fun r3 σ3 => (¬ r3 = 0 → (0 ≤ (x1 : Int) ∧ (x1 : Int) < 5) ∧ ((0 ≤ (x1 : Int) ∧ (x1 : Int) < 5) ∧ ((¬ (σ3 719 x1) = 2 → z_T e d m_M_step 64 [some (z_R 701), some (z_I x1), some (z_I x2), some (z_I (σ3 721 x1))] σ3 Q) ∧ ((σ3 719 x1) = 2 → (0 ≤ (x1 : Int) ∧ (x1 : Int) < 5) ∧ (z_C e d m_M_asksFor [z_R 701, z_I x1, z_I (σ3 724 x1), z_I 1] σ3 (fun _ σ4 => z_T e d m_M_step 64 [some (z_R 701), some (z_I x1), some (z_I x2), some (z_I (σ3 721 x1))] σ4 Q)))))) ∧ (r3 = 0 → Q (-20003) σ3))) ∧ (r2 = 0 → Q (-20001) σ2))))) : z_C e (d + 1) m_M_step [z_R 701, z_I x1, z_I x2] σ Q :=
  z_ent k_M_step l_M_step rfl (Nat.le_refl _) (z_blk k_M_step 35 0 rfl h)
set_option maxRecDepth 20000 in
theorem b_M_step_64 {e : z_E} {d : Nat} {x1 x2 x3 : Int} {σ : z_M} {Q : Int → z_M → Prop} (h : (0 ≤ (x1 : Int) ∧ (x1 : Int) < 5) ∧ ((¬ (σ 719 x1) = 1 → (0 ≤ (x1 : Int) ∧ (x1 : Int) < 5) ∧ (Q (z_wr ((σ 721 x1) - x3)) σ)) ∧ ((σ 719 x1) = 1 → (0 ≤ (x1 : Int) ∧ (x1 : Int) < 5) ∧ (((z_wr (x3 + x2)) ≤ (σ 721 x1) → (0 ≤ (x1 : Int) ∧ (x1 : Int) < 5) ∧ (Q (z_wr ((σ 721 x1) - x3)) σ)) ∧ ((σ 721 x1) < (z_wr (x3 + x2)) → z_C e d m_M_top [z_R 701, z_I x1] σ (fun r1 σ1 => (0 ≤ (r1 : Int) ∧ (r1 : Int) < 150) ∧ (z_C e d m_M_ruleOf [z_I (σ1 725 r1)] σ1 (fun r2 σ2 => (0 ≤ (r2 : Int) ∧ (r2 : Int) < 12) ∧ ((¬ (σ2 705 r2) = 0 → z_C e d m_M_stepsOnce [z_R 701, z_I x1] σ2 (fun _ σ3 => z_T e d m_M_step 64 [some (z_R 701), some (z_I x1), some (z_I x2), some (z_I x3)] σ3 Q)) ∧ ((σ2 705 r2) = 0 → z_C e d m_M_fails [z_R 701, z_I x1, z_I 5] σ2 (fun _ σ4 => z_T e d m_M_step 64 [some (z_R 701), some (z_I x1), some (z_I x2), some (z_I x3)] σ4 Q))))))))))) : z_T e d m_M_step 64 [some (z_R 701), some (z_I x1), some (z_I x2), some (z_I x3)] σ Q :=
  z_blk k_M_step 33 36 rfl h
set_option maxRecDepth 20000 in
theorem b_M_stop_0 {e : z_E} {d : Nat} {x1 : Int} {σ : z_M} {Q : Int → z_M → Prop} (h : z_C e d m_M_isTask [z_I x1] σ (fun r1 σ1 => (¬ r1 = 0 → z_C e d m_M_isBusy [z_R 701, z_I x1] σ1 (fun r2 σ2 => (¬ r2 = 0 → (0 ≤ (x1 : Int) ∧ (x1 : Int) < 5) ∧ ((0 ≤ (x1 : Int) ∧ (x1 : Int) < 5) ∧ ((0 ≤ (x1 : Int) ∧ (x1 : Int) < 5) ∧ ((0 ≤ (x1 : Int) ∧ (x1 : Int) < 5) ∧ (Q (σ2 722 x1) (z_up (z_up (z_up σ2 722 x1 0) 721 x1 0) 719 x1 0)))))) ∧ (r2 = 0 → Q (-20003) σ2))) ∧ (r1 = 0 → Q (-20001) σ1))) : z_C e (d + 1) m_M_stop [z_R 701, z_I x1] σ Q :=
  z_ent k_M_stop l_M_stop rfl (Nat.le_refl _) (z_blk k_M_stop 31 0 rfl h)
set_option maxRecDepth 20000 in
theorem b_M_task_0 {e : z_E} {d : Nat} {x1 x2 : Int} {σ : z_M} {Q : Int → z_M → Prop} (h : z_C e d m_M_isTask [z_I x1] σ (fun r1 σ1 => (r1 = 0 → Q (-20001) σ1) ∧ (¬ r1 = 0 → z_C e d m_M_in [z_J x2, z_J 0, z_J 5] σ1 (fun r2 σ2 => (¬ r2 = 0 → ((x2 : Int) = 0 → (0 ≤ (x1 : Int) ∧ (x1 : Int) < 5) ∧ (Q (σ2 719 x1) σ2)) ∧ (¬ (x2 : Int) = 0 → ((x2 : Int) = 1 → (0 ≤ (x1 : Int) ∧ (x1 : Int) < 5) ∧ (((σ2 719 x1) = 3 → (0 ≤ (x1 : Int) ∧ (x1 : Int) < 5) ∧ (Q (σ2 720 x1) σ2)) ∧ (¬ (σ2 719 x1) = 3 → (0 ≤ (x1 : Int) ∧ (x1 : Int) < 5) ∧ ((¬ (σ2 719 x1) = 4 → Q (-20002) σ2) ∧ ((σ2 719 x1) = 4 → (0 ≤ (x1 : Int) ∧ (x1 : Int) < 5) ∧ (Q (σ2 720 x1) σ2)))))) ∧ (¬ (x2 : Int) = 1 → ((x2 : Int) = 2 → (0 ≤ (x1 : Int) ∧ (x1 : Int) < 5) ∧ (Q (σ2 722 x1) σ2)) ∧ (¬ (x2 : Int) = 2 → ((x2 : Int) = 3 → (0 ≤ (x1 : Int) ∧ (x1 : Int) < 5) ∧ (Q (σ2 721 x1) σ2)) ∧ (¬ (x2 : Int) = 3 → ((x2 : Int) = 4 → (0 ≤ (x1 : Int) ∧ (x1 : Int) < 5) ∧ ((¬ (σ2 719 x1) = 2 → Q (-20002) σ2) ∧ ((σ2 719 x1) = 2 → (0 ≤ (x1 : Int) ∧ (x1 : Int) < 5) ∧ (Q (σ2 723 x1) σ2)))) ∧ (¬ (x2 : Int) = 4 → (0 ≤ (x1 : Int) ∧ (x1 : Int) < 5) ∧ ((¬ (σ2 719 x1) = 2 → Q (-20002) σ2) ∧ ((σ2 719 x1) = 2 → (0 ≤ (x1 : Int) ∧ (x1 : Int) < 5) ∧ (Q (σ2 724 x1) σ2))))))))) ∧ (r2 = 0 → Q (-20001) σ2))))) : z_C e (d + 1) m_M_task [z_R 701, z_I x1, z_I x2] σ Q :=
  z_ent k_M_task l_M_task rfl (Nat.le_refl _) (z_blk k_M_task 31 0 rfl h)
set_option maxRecDepth 20000 in
theorem b_M_frame_0 {e : z_E} {d : Nat} {x1 x2 : Int} {σ : z_M} {Q : Int → z_M → Prop} (h : z_C e d m_M_isTask [z_I x1] σ (fun r1 σ1 => (r1 = 0 → Q (-20001) σ1) ∧ (¬ r1 = 0 → (0 ≤ x2 → (0 ≤ (x1 : Int) ∧ (x1 : Int) < 5) ∧ (((σ1 722 x1) ≤ x2 → Q (-20002) σ1) ∧ (x2 < (σ1 722 x1) → (0 ≤ ((z_wr ((z_wr (30 * x1)) + x2)) : Int) ∧ ((z_wr ((z_wr (30 * x1)) + x2)) : Int) < 150) ∧ (Q (σ1 725 (z_wr ((z_wr (30 * x1)) + x2))) σ1)))) ∧ (x2 < 0 → Q (-20001) σ1)))) : z_C e (d + 1) m_M_frame [z_R 701, z_I x1, z_I x2] σ Q :=
  z_ent k_M_frame l_M_frame rfl (Nat.le_refl _) (z_blk k_M_frame 23 0 rfl h)
set_option maxRecDepth 20000 in
theorem b_M_led_0 {e : z_E} {d : Nat} {x1 : Int} {σ : z_M} {Q : Int → z_M → Prop} (h : z_C e d m_M_in [z_J x1, z_J 0, z_J 6] σ (fun r1 σ1 => (r1 = 0 → Q (-20001) σ1) ∧ (¬ r1 = 0 → (0 ≤ (x1 : Int) ∧ (x1 : Int) < 7) ∧ (Q (σ1 717 x1) σ1)))) : z_C e (d + 1) m_M_led [z_R 701, z_I x1] σ Q :=
  z_ent k_M_led l_M_led rfl (Nat.le_refl _) (z_blk k_M_led 14 0 rfl h)
set_option maxRecDepth 20000 in
theorem b_M_count_0 {e : z_E} {d : Nat} {x1 : Int} {σ : z_M} {Q : Int → z_M → Prop} (h : ((x1 : Int) = 0 → Q (σ 701 23) σ) ∧ (¬ (x1 : Int) = 0 → ((x1 : Int) = 1 → Q (σ 701 22) σ) ∧ (¬ (x1 : Int) = 1 → ((x1 : Int) = 2 → z_T e d m_M_count 52 [some (z_R 701), none, some (z_I 0), some (z_I 0)] σ Q) ∧ (¬ (x1 : Int) = 2 → ((x1 : Int) = 3 → Q (σ 701 2) σ) ∧ (¬ (x1 : Int) = 3 → ((x1 : Int) = 4 → Q (σ 701 26) σ) ∧ (¬ (x1 : Int) = 4 → ((x1 : Int) = 5 → z_T e d m_M_count 95 [some (z_R 701), none, some (z_I 0), some (z_I 0)] σ Q) ∧ (¬ (x1 : Int) = 5 → Q (-20001) σ))))))) : z_C e (d + 1) m_M_count [z_R 701, z_I x1] σ Q :=
  z_ent k_M_count l_M_count rfl (Nat.le_refl _) (z_blk k_M_count 9 0 rfl h)
set_option maxRecDepth 20000 in
theorem b_M_count_52 {e : z_E} {d : Nat} {x2 x3 : Int} {σ : z_M} {Q : Int → z_M → Prop} (h : (12 ≤ x3 → Q x2 σ) ∧ (x3 < 12 → (0 ≤ (x3 : Int) ∧ (x3 : Int) < 12) ∧ (((σ 705 x3) ≤ 0 → z_T e d m_M_count 52 [some (z_R 701), none, some (z_I (z_wr (x2 + 0))), some (z_I (z_wr (x3 + 1)))] σ Q) ∧ (0 < (σ 705 x3) → z_T e d m_M_count 52 [some (z_R 701), none, some (z_I (z_wr (x2 + 1))), some (z_I (z_wr (x3 + 1)))] σ Q)))) : z_T e d m_M_count 52 [some (z_R 701), none, some (z_I x2), some (z_I x3)] σ Q :=
  z_blk k_M_count 18 12 rfl h
set_option maxRecDepth 20000 in
theorem b_M_count_95 {e : z_E} {d : Nat} {x2 x3 : Int} {σ : z_M} {Q : Int → z_M → Prop} (h : (4 ≤ x3 → Q x2 σ) ∧ (x3 < 4 → z_C e d m_M_isBusy [z_R 701, z_I x3] σ (fun r1 σ1 => (r1 = 0 → z_T e d m_M_count 95 [some (z_R 701), none, some (z_I (z_wr (x2 + 0))), some (z_I (z_wr (x3 + 1)))] σ1 Q) ∧ (¬ r1 = 0 → z_T e d m_M_count 95 [some (z_R 701), none, some (z_I (z_wr (x2 + 1))), some (z_I (z_wr (x3 + 1)))] σ1 Q)))) : z_T e d m_M_count 95 [some (z_R 701), none, some (z_I x2), some (z_I x3)] σ Q :=
  z_blk k_M_count 17 38 rfl h
end
section
/-! blocks of the constructors: printed by program (wip/whole/gen/blk0.py) -/
set_option maxRecDepth 20000 in
theorem b_F_init_0 {e : z_E} {d N No : Nat} {x : Int} {σ : z_M} {Q : Int → z_M → Prop} (hN : N ≤ No) (h : 1 ≤ d ∧ 0 ≤ x ∧ ((25 : Int) = 25 ∧ z_ck (!false && (z_knd ((N : Nat) : Int) == 100025) && Nat.ble (N + 1) No && Nat.ble 26 100000) (z_ck (z_ok (N + 1) 1 x) (false = false ∧ z_ir ((N : Nat) : Int) ∧ ((19 : Int) = 19 ∧ z_ck (!false && (z_knd ((N + 1 : Nat) : Int) == 100019) && Nat.ble (N + 1 + 1) No && Nat.ble 20 100000) (z_ck (z_ok (N + 1 + 1) 1 x) (false = false ∧ z_ir ((N + 1 : Nat) : Int) ∧ (z_ck (N + 1 + 1 == No) (Q 0 (z_up (z_nu (z_up (z_nu σ ((N : Nat) : Int) 100025) x 0 ((N : Nat) : Int)) ((N + 1 : Nat) : Int) 100019) x 1 ((N + 1 : Nat) : Int))))))))))) : z_Y e false (d + 1) m_F_init [z_R x] N No σ Q :=
  z_ent k_F_init l_F_init rfl hN (z_blk k_F_init 13 0 rfl h)
set_option maxRecDepth 20000 in
theorem b_K_init_0 {e : z_E} {d N No : Nat} {x : Int} {σ : z_M} {Q : Int → z_M → Prop} (hN : N ≤ No) (h : 1 ≤ d ∧ 0 ≤ x ∧ ((25 : Int) = 25 ∧ z_ck (!false && (z_knd ((N : Nat) : Int) == 100025) && Nat.ble (N + 1) No && Nat.ble 26 100000) (z_ck (z_ok (N + 1) 2 x) (false = false ∧ z_ir ((N : Nat) : Int) ∧ (z_ck (N + 1 == No) (Q 0 (z_up (z_nu σ ((N : Nat) : Int) 100025) x 0 ((N : Nat) : Int)))))))) : z_Y e false (d + 1) m_K_init [z_R x] N No σ Q :=
  z_ent k_K_init l_K_init rfl hN (z_blk k_K_init 9 0 rfl h)
set_option maxRecDepth 20000 in
theorem b_R_init_0 {e : z_E} {d N No : Nat} {x : Int} {σ : z_M} {Q : Int → z_M → Prop} (hN : N ≤ No) (h : 1 ≤ d ∧ 0 ≤ x ∧ ((100 : Int) = 100 ∧ z_ck (!false && (z_knd ((N : Nat) : Int) == 100100) && Nat.ble (N + 1) No && Nat.ble 101 100000) (z_ck (z_ok (N + 1) 3 x) (false = false ∧ z_ir ((N : Nat) : Int) ∧ (z_ck (!false && (z_knd ((N + 1 : Nat) : Int) == 6) && Nat.ble (N + 1 + 1) No) (0 ≤ ((N + 1 : Nat) : Int) ∧ z_ck (Nat.ble (N + 1 + 1 + 1) No) (z_Y e false d m_T_init [z_R ((N + 1 : Nat) : Int)] (N + 1 + 1) (N + 1 + 1 + 1) (z_nu (z_up (z_nu σ ((N : Nat) : Int) 100100) x 0 ((N : Nat) : Int)) ((N + 1 : Nat) : Int) 6) (fun _ σ1 => z_ck (z_ok (N + 1 + 1 + 1) 3 x) (false = false ∧ z_ir ((N + 1 : Nat) : Int) ∧ (z_ck (N + 1 + 1 + 1 == No) (Q 0 (z_up σ1 x 1 ((N + 1 : Nat) : Int))))))))))))) : z_Y e false (d + 1) m_R_init [z_R x] N No σ Q :=
  z_ent k_R_init l_R_init rfl hN (z_blk k_R_init 14 0 rfl h)
set_option maxRecDepth 20000 in
theorem b_U_init_0 {e : z_E} {d N No : Nat} {x : Int} {σ : z_M} {Q : Int → z_M → Prop} (hN : N ≤ No) (h : 1 ≤ d ∧ 0 ≤ x ∧ ((30 : Int) = 30 ∧ z_ck (!false && (z_knd ((N : Nat) : Int) == 500030) && Nat.ble (N + 1) No && Nat.ble 31 100000) (z_ck (z_ok (N + 1) 4 x) (false = false ∧ z_ir ((N : Nat) : Int) ∧ (z_X e false d m_U_init N No 15 [some (z_R x), some (z_I 0)] [] (N + 1) (z_up (z_nu σ ((N : Nat) : Int) 500030) x 0 ((N : Nat) : Int)) Q))))) : z_Y e false (d + 1) m_U_init [z_R x] N No σ Q :=
  z_ent k_U_init l_U_init rfl hN (z_blk k_U_init 11 0 rfl h)
set_option maxRecDepth 20000 in
theorem b_U_init_15 {e : z_E} {d N Ni No : Nat} {x x1 : Int} {σ : z_M} {Q : Int → z_M → Prop} (h : (30 ≤ x1 → z_ck (N == No) (Q 0 σ)) ∧ (x1 < 30 → z_ck (z_ok (N) 4 x) (z_ck (!false && (z_knd ((N : Nat) : Int) == 1) && Nat.ble (N + 1) No) (0 ≤ ((N : Nat) : Int) ∧ z_ck (Nat.ble (N + 1 + 2) No) (z_Y e false d m_F_init [z_R ((N : Nat) : Int)] (N + 1) (N + 1 + 2) (z_nu σ ((N : Nat) : Int) 1) (fun _ σ1 => z_ck (z_ok (N + 1 + 2) 500030 (σ x 0) && (!false || 500030 / 100000 == 6)) ((0 ≤ (x1 : Int) ∧ (x1 : Int) < 30) ∧ (((N : Nat) : Int) < 0 ∨ z_ok (N + 1 + 2) 1 ((N : Nat) : Int) = true) ∧ z_ir ((N : Nat) : Int) ∧ (z_X e false d m_U_init Ni No 15 [some (z_R x), some (z_I (z_wr (x1 + 1)))] [] (N + 1 + 2) (z_up σ1 (σ x 0) x1 ((N : Nat) : Int)) Q)))))))) : z_X e false d m_U_init Ni No 15 [some (z_R x), some (z_I x1)] [] N σ Q :=
  z_blk k_U_init 15 8 rfl h
set_option maxRecDepth 20000 in
theorem b_S_init_0 {e : z_E} {d N No : Nat} {x : Int} {σ : z_M} {Q : Int → z_M → Prop} (hN : N ≤ No) (h : 1 ≤ d ∧ 0 ≤ x ∧ ((101 : Int) = 101 ∧ z_ck (!false && (z_knd ((N : Nat) : Int) == 600101) && Nat.ble (N + 1) No && Nat.ble 102 100000) (z_ck (z_ok (N + 1) 5 x) (false = false ∧ z_ir ((N : Nat) : Int) ∧ ((101 : Int) = 101 ∧ z_ck (!false && (z_knd ((N + 1 : Nat) : Int) == 100101) && Nat.ble (N + 1 + 1) No && Nat.ble 102 100000) (z_ck (z_ok (N + 1 + 1) 5 x) (false = false ∧ z_ir ((N + 1 : Nat) : Int) ∧ (z_ck (z_ok (N + 1 + 1) 5 x) ((1212 : Int) = 1212 ∧ z_ck (!false && (z_knd ((N + 1 + 1 : Nat) : Int) == 601212) && Nat.ble (N + 1 + 1 + 1) No && Nat.ble 1213 100000) (z_ck (z_ok (N + 1 + 1 + 1) 5 x) (false = false ∧ z_ir ((N + 1 + 1 : Nat) : Int) ∧ (z_X e false d m_S_init N No 39 [some (z_R x), some (z_I 0)] [] (N + 1 + 1 + 1) (z_up (z_nu (z_up (z_up (z_nu (z_up (z_nu σ ((N : Nat) : Int) 600101) x 0 ((N : Nat) : Int)) ((N + 1 : Nat) : Int) 100101) x 1 ((N + 1 : Nat) : Int)) x 5 60) ((N + 1 + 1 : Nat) : Int) 601212) x 10 ((N + 1 + 1 : Nat) : Int)) Q)))))))))))) : z_Y e false (d + 1) m_S_init [z_R x] N No σ Q :=
  z_ent k_S_init l_S_init rfl hN (z_blk k_S_init 22 0 rfl h)
set_option maxRecDepth 20000 in
theorem b_S_init_39 {e : z_E} {d N Ni No : Nat} {x x1 : Int} {σ : z_M} {Q : Int → z_M → Prop} (h : (101 ≤ x1 → z_ck (N == No) (Q 0 σ)) ∧ (x1 < 101 → z_ck (z_ok (N) 5 x) (z_ck (!false && (z_knd ((N : Nat) : Int) == 2) && Nat.ble (N + 1) No) (0 ≤ ((N : Nat) : Int) ∧ z_ck (Nat.ble (N + 1 + 1) No) (z_Y e false d m_K_init [z_R ((N : Nat) : Int)] (N + 1) (N + 1 + 1) (z_nu σ ((N : Nat) : Int) 2) (fun _ σ1 => z_ck (z_ok (N + 1 + 1) 600101 (σ x 0) && (!false || 600101 / 100000 == 6)) ((0 ≤ (x1 : Int) ∧ (x1 : Int) < 101) ∧ (((N : Nat) : Int) < 0 ∨ z_ok (N + 1 + 1) 2 ((N : Nat) : Int) = true) ∧ z_ir ((N : Nat) : Int) ∧ (z_X e false d m_S_init Ni No 39 [some (z_R x), some (z_I (z_wr (x1 + 1)))] [] (N + 1 + 1) (z_up σ1 (σ x 0) x1 ((N : Nat) : Int)) Q)))))))) : z_X e false d m_S_init Ni No 39 [some (z_R x), some (z_I x1)] [] N σ Q :=
  z_blk k_S_init 15 19 rfl h
set_option maxRecDepth 20000 in
theorem b_T_init_0 {e : z_E} {d N No : Nat} {x : Int} {σ : z_M} {Q : Int → z_M → Prop} (hN : N ≤ No) (h : 1 ≤ d ∧ 0 ≤ x ∧ ((100 : Int) = 100 ∧ z_ck (!false && (z_knd ((N : Nat) : Int) == 100100) && Nat.ble (N + 1) No && Nat.ble 101 100000) (z_ck (z_ok (N + 1) 6 x) (false = false ∧ z_ir ((N : Nat) : Int) ∧ (z_ck (N + 1 == No) (Q 0 (z_up (z_nu σ ((N : Nat) : Int) 100100) x 0 ((N : Nat) : Int)))))))) : z_Y e false (d + 1) m_T_init [z_R x] N No σ Q :=
  z_ent k_T_init l_T_init rfl hN (z_blk k_T_init 9 0 rfl h)
set_option maxRecDepth 20000 in
theorem b_H_init_0 {e : z_E} {d N No : Nat} {x : Int} {σ : z_M} {Q : Int → z_M → Prop} (hN : N ≤ No) (h : 1 ≤ d ∧ 0 ≤ x ∧ ((1212 : Int) = 1212 ∧ z_ck (!false && (z_knd ((N : Nat) : Int) == 101212) && Nat.ble (N + 1) No && Nat.ble 1213 100000) (z_ck (z_ok (N + 1) 7 x) (false = false ∧ z_ir ((N : Nat) : Int) ∧ ((1212 : Int) = 1212 ∧ z_ck (!false && (z_knd ((N + 1 : Nat) : Int) == 101212) && Nat.ble (N + 1 + 1) No && Nat.ble 1213 100000) (z_ck (z_ok (N + 1 + 1) 7 x) (false = false ∧ z_ir ((N + 1 : Nat) : Int) ∧ (z_ck (N + 1 + 1 == No) (Q 0 (z_up (z_nu (z_up (z_nu σ ((N : Nat) : Int) 101212) x 0 ((N : Nat) : Int)) ((N + 1 : Nat) : Int) 101212) x 1 ((N + 1 : Nat) : Int))))))))))) : z_Y e false (d + 1) m_H_init [z_R x] N No σ Q :=
  z_ent k_H_init l_H_init rfl hN (z_blk k_H_init 13 0 rfl h)
set_option maxRecDepth 20000 in
theorem b_C_init_0 {e : z_E} {d N No : Nat} {x : Int} {σ : z_M} {Q : Int → z_M → Prop} (hN : N ≤ No) (h : 1 ≤ d ∧ 0 ≤ x ∧ ((12 : Int) = 12 ∧ z_ck (!false && (z_knd ((N : Nat) : Int) == 100012) && Nat.ble (N + 1) No && Nat.ble 13 100000) (z_ck (z_ok (N + 1) 8 x) (false = false ∧ z_ir ((N : Nat) : Int) ∧ ((12 : Int) = 12 ∧ z_ck (!false && (z_knd ((N + 1 : Nat) : Int) == 300012) && Nat.ble (N + 1 + 1) No && Nat.ble 13 100000) (z_ck (z_ok (N + 1 + 1) 8 x) (false = false ∧ z_ir ((N + 1 : Nat) : Int) ∧ (z_ck (!false && (z_knd ((N + 1 + 1 : Nat) : Int) == 3) && Nat.ble (N + 1 + 1 + 1) No) (0 ≤ ((N + 1 + 1 : Nat) : Int) ∧ z_ck (Nat.ble (N + 1 + 1 + 1 + 3) No) (z_Y e false d m_R_init [z_R ((N + 1 + 1 : Nat) : Int)] (N + 1 + 1 + 1) (N + 1 + 1 + 1 + 3) (z_nu (z_up (z_nu (z_up (z_nu σ ((N : Nat) : Int) 100012) x 0 ((N : Nat) : Int)) ((N + 1 : Nat) : Int) 300012) x 1 ((N + 1 : Nat) : Int)) ((N + 1 + 1 : Nat) : Int) 3) (fun _ σ1 => z_ck (z_ok (N + 1 + 1 + 1 + 3) 8 x) (false = false ∧ z_ir ((N + 1 + 1 : Nat) : Int) ∧ (z_ck (!false && (z_knd ((N + 1 + 1 + 1 + 3 : Nat) : Int) == 5) && Nat.ble (N + 1 + 1 + 1 + 3 + 1) No) (0 ≤ ((N + 1 + 1 + 1 + 3 : Nat) : Int) ∧ z_ck (Nat.ble (N + 1 + 1 + 1 + 3 + 1 + 205) No) (z_Y e false d m_S_init [z_R ((N + 1 + 1 + 1 + 3 : Nat) : Int)] (N + 1 + 1 + 1 + 3 + 1) (N + 1 + 1 + 1 + 3 + 1 + 205) (z_nu (z_up σ1 x 2 ((N + 1 + 1 : Nat) : Int)) ((N + 1 + 1 + 1 + 3 : Nat) : Int) 5) (fun _ σ2 => z_ck (z_ok (N + 1 + 1 + 1 + 3 + 1 + 205) 8 x) (false = false ∧ z_ir ((N + 1 + 1 + 1 + 3 : Nat) : Int) ∧ (z_ck (!false && (z_knd ((N + 1 + 1 + 1 + 3 + 1 + 205 : Nat) : Int) == 7) && Nat.ble (N + 1 + 1 + 1 + 3 + 1 + 205 + 1) No) (0 ≤ ((N + 1 + 1 + 1 + 3 + 1 + 205 : Nat) : Int) ∧ z_ck (Nat.ble (N + 1 + 1 + 1 + 3 + 1 + 205 + 1 + 2) No) (z_Y e false d m_H_init [z_R ((N + 1 + 1 + 1 + 3 + 1 + 205 : Nat) : Int)] (N + 1 + 1 + 1 + 3 + 1 + 205 + 1) (N + 1 + 1 + 1 + 3 + 1 + 205 + 1 + 2) (z_nu (z_up σ2 x 3 ((N + 1 + 1 + 1 + 3 : Nat) : Int)) ((N + 1 + 1 + 1 + 3 + 1 + 205 : Nat) : Int) 7) (fun _ σ3 => z_ck (z_ok (N + 1 + 1 + 1 + 3 + 1 + 205 + 1 + 2) 8 x) (false = false ∧ z_ir ((N + 1 + 1 + 1 + 3 + 1 + 205 : Nat) : Int) ∧ (z_ck (!false && (z_knd ((N + 1 + 1 + 1 + 3 + 1 + 205 + 1 + 2 : Nat) : Int) == 4) && Nat.ble (N + 1 + 1 + 1 + 3 + 1 + 205 + 1 + 2 + 1) No) (0 ≤ ((N + 1 + 1 + 1 + 3 + 1 + 205 + 1 + 2 : Nat) : Int) ∧ z_ck (Nat.ble (N + 1 + 1 + 1 + 3 + 1 + 205 + 1 + 2 + 1 + 91) No) (z_Y e false d m_U_init [z_R ((N + 1 + 1 + 1 + 3 + 1 + 205 + 1 + 2 : Nat) : Int)] (N + 1 + 1 + 1 + 3 + 1 + 205 + 1 + 2 + 1) (N + 1 + 1 + 1 + 3 + 1 + 205 + 1 + 2 + 1 + 91) (z_nu (z_up σ3 x 4 ((N + 1 + 1 + 1 + 3 + 1 + 205 : Nat) : Int)) ((N + 1 + 1 + 1 + 3 + 1 + 205 + 1 + 2 : Nat) : Int) 4) (fun _ σ4 => z_ck (z_ok (N + 1 + 1 + 1 + 3 + 1 + 205 + 1 + 2 + 1 + 91) 8 x) (false = false ∧ z_ir ((N + 1 + 1 + 1 + 3 + 1 + 205 + 1 + 2 : Nat) : Int) ∧ ((4 : Int) = 4 ∧ z_ck (!false && (z_knd ((N + 1 + 1 + 1 + 3 + 1 + 205 + 1 + 2 + 1 + 91 : Nat) : Int) == 400004) && Nat.ble (N + 1 + 1 + 1 + 3 + 1 + 205 + 1 + 2 + 1 + 91 + 1) No && Nat.ble 5 100000) (z_ck (z_ok (N + 1 + 1 + 1 + 3 + 1 + 205 + 1 + 2 + 1 + 91 + 1) 8 x) (false = false ∧ z_ir ((N + 1 + 1 + 1 + 3 + 1 + 205 + 1 + 2 + 1 + 91 : Nat) : Int) ∧ (z_X e false d m_C_init N No 75 [some (z_R x), some (z_I 0)] [] (N + 1 + 1 + 1 + 3 + 1 + 205 + 1 + 2 + 1 + 91 + 1) (z_up (z_nu (z_up σ4 x 5 ((N + 1 + 1 + 1 + 3 + 1 + 205 + 1 + 2 : Nat) : Int)) ((N + 1 + 1 + 1 + 3 + 1 + 205 + 1 + 2 + 1 + 91 : Nat) : Int) 400004) x 6 ((N + 1 + 1 + 1 + 3 + 1 + 205 + 1 + 2 + 1 + 91 : Nat) : Int)) Q))))))))))))))))))))))))))))))) : z_Y e false (d + 1) m_C_init [z_R x] N No σ Q :=
  z_ent k_C_init l_C_init rfl hN (z_blk k_C_init 39 0 rfl h)
set_option maxRecDepth 20000 in
theorem b_C_init_75 {e : z_E} {d N Ni No : Nat} {x x1 : Int} {σ : z_M} {Q : Int → z_M → Prop} (h : (12 ≤ x1 → z_X e false d m_C_init Ni No 102 [some (z_R x), some (z_I 0)] [] (N) σ Q) ∧ (x1 < 12 → z_ck (z_ok (N) 8 x) (z_ck (!false && (z_knd ((N : Nat) : Int) == 6) && Nat.ble (N + 1) No) (0 ≤ ((N : Nat) : Int) ∧ z_ck (Nat.ble (N + 1 + 1) No) (z_Y e false d m_T_init [z_R ((N : Nat) : Int)] (N + 1) (N + 1 + 1) (z_nu σ ((N : Nat) : Int) 6) (fun _ σ1 => z_ck (z_ok (N + 1 + 1) 300012 (σ x 1) && (!false || 300012 / 100000 == 6)) ((0 ≤ (x1 : Int) ∧ (x1 : Int) < 12) ∧ (((N : Nat) : Int) < 0 ∨ z_ok (N + 1 + 1) 6 ((N : Nat) : Int) = true) ∧ z_ir ((N : Nat) : Int) ∧ (z_X e false d m_C_init Ni No 75 [some (z_R x), some (z_I (z_wr (x1 + 1)))] [] (N + 1 + 1) (z_up σ1 (σ x 1) x1 ((N : Nat) : Int)) Q)))))))) : z_X e false d m_C_init Ni No 75 [some (z_R x), some (z_I x1)] [] N σ Q :=
  z_blk k_C_init 15 36 rfl h
set_option maxRecDepth 20000 in
theorem b_C_init_102 {e : z_E} {d N Ni No : Nat} {x x1 : Int} {σ : z_M} {Q : Int → z_M → Prop} (h : (4 ≤ x1 → z_ck (N == No) (Q 0 σ)) ∧ (x1 < 4 → z_ck (z_ok (N) 8 x) (z_ck (!false && (z_knd ((N : Nat) : Int) == 4) && Nat.ble (N + 1) No) (0 ≤ ((N : Nat) : Int) ∧ z_ck (Nat.ble (N + 1 + 91) No) (z_Y e false d m_U_init [z_R ((N : Nat) : Int)] (N + 1) (N + 1 + 91) (z_nu σ ((N : Nat) : Int) 4) (fun _ σ1 => z_ck (z_ok (N + 1 + 91) 400004 (σ x 6) && (!false || 400004 / 100000 == 6)) ((0 ≤ (x1 : Int) ∧ (x1 : Int) < 4) ∧ (((N : Nat) : Int) < 0 ∨ z_ok (N + 1 + 91) 4 ((N : Nat) : Int) = true) ∧ z_ir ((N : Nat) : Int) ∧ (z_X e false d m_C_init Ni No 102 [some (z_R x), some (z_I (z_wr (x1 + 1)))] [] (N + 1 + 91) (z_up σ1 (σ x 6) x1 ((N : Nat) : Int)) Q)))))))) : z_X e false d m_C_init Ni No 102 [some (z_R x), some (z_I x1)] [] N σ Q :=
  z_blk k_C_init 15 50 rfl h
set_option maxRecDepth 20000 in
theorem b_M_init_0 {e : z_E} {d N No : Nat} {x : Int} {σ : z_M} {Q : Int → z_M → Prop} (hN : N ≤ No) (h : 1 ≤ d ∧ 0 ≤ x ∧ ((12 : Int) = 12 ∧ z_ck (!false && (z_knd ((N : Nat) : Int) == 100012) && Nat.ble (N + 1) No && Nat.ble 13 100000) (z_ck (z_ok (N + 1) 9 x) (false = false ∧ z_ir ((N : Nat) : Int) ∧ ((100 : Int) = 100 ∧ z_ck (!false && (z_knd ((N + 1 : Nat) : Int) == 100100) && Nat.ble (N + 1 + 1) No && Nat.ble 101 100000) (z_ck (z_ok (N + 1 + 1) 9 x) (false = false ∧ z_ir ((N + 1 : Nat) : Int) ∧ ((4800 : Int) = 4800 ∧ z_ck (!false && (z_knd ((N + 1 + 1 : Nat) : Int) == 104800) && Nat.ble (N + 1 + 1 + 1) No && Nat.ble 4801 100000) (z_ck (z_ok (N + 1 + 1 + 1) 9 x) (false = false ∧ z_ir ((N + 1 + 1 : Nat) : Int) ∧ ((12 : Int) = 12 ∧ z_ck (!false && (z_knd ((N + 1 + 1 + 1 : Nat) : Int) == 100012) && Nat.ble (N + 1 + 1 + 1 + 1) No && Nat.ble 13 100000) (z_ck (z_ok (N + 1 + 1 + 1 + 1) 9 x) (false = false ∧ z_ir ((N + 1 + 1 + 1 : Nat) : Int) ∧ ((400 : Int) = 400 ∧ z_ck (!false && (z_knd ((N + 1 + 1 + 1 + 1 : Nat) : Int) == 100400) && Nat.ble (N + 1 + 1 + 1 + 1 + 1) No && Nat.ble 401 100000) (z_ck (z_ok (N + 1 + 1 + 1 + 1 + 1) 9 x) (false = false ∧ z_ir ((N + 1 + 1 + 1 + 1 : Nat) : Int) ∧ ((1212 : Int) = 1212 ∧ z_ck (!false && (z_knd ((N + 1 + 1 + 1 + 1 + 1 : Nat) : Int) == 201212) && Nat.ble (N + 1 + 1 + 1 + 1 + 1 + 1) No && Nat.ble 1213 100000) (z_ck (z_ok (N + 1 + 1 + 1 + 1 + 1 + 1) 9 x) (false = false ∧ z_ir ((N + 1 + 1 + 1 + 1 + 1 : Nat) : Int) ∧ ((1212 : Int) = 1212 ∧ z_ck (!false && (z_knd ((N + 1 + 1 + 1 + 1 + 1 + 1 : Nat) : Int) == 101212) && Nat.ble (N + 1 + 1 + 1 + 1 + 1 + 1 + 1) No && Nat.ble 1213 100000) (z_ck (z_ok (N + 1 + 1 + 1 + 1 + 1 + 1 + 1) 9 x) (false = false ∧ z_ir ((N + 1 + 1 + 1 + 1 + 1 + 1 : Nat) : Int) ∧ ((1212 : Int) = 1212 ∧ z_ck (!false && (z_knd ((N + 1 + 1 + 1 + 1 + 1 + 1 + 1 : Nat) : Int) == 101212) && Nat.ble (N + 1 + 1 + 1 + 1 + 1 + 1 + 1 + 1) No && Nat.ble 1213 100000) (z_ck (z_ok (N + 1 + 1 + 1 + 1 + 1 + 1 + 1 + 1) 9 x) (false = false ∧ z_ir ((N + 1 + 1 + 1 + 1 + 1 + 1 + 1 : Nat) : Int) ∧ ((1212 : Int) = 1212 ∧ z_ck (!false && (z_knd ((N + 1 + 1 + 1 + 1 + 1 + 1 + 1 + 1 : Nat) : Int) == 101212) && Nat.ble (N + 1 + 1 + 1 + 1 + 1 + 1 + 1 + 1 + 1) No && Nat.ble 1213 100000) (z_ck (z_ok (N + 1 + 1 + 1 + 1 + 1 + 1 + 1 + 1 + 1) 9 x) (false = false ∧ z_ir ((N + 1 + 1 + 1 + 1 + 1 + 1 + 1 + 1 : Nat) : Int) ∧ ((1212 : Int) = 1212 ∧ z_ck (!false && (z_knd ((N + 1 + 1 + 1 + 1 + 1 + 1 + 1 + 1 + 1 : Nat) : Int) == 101212) && Nat.ble (N + 1 + 1 + 1 + 1 + 1 + 1 + 1 + 1 + 1 + 1) No && Nat.ble 1213 100000) (z_ck (z_ok (N + 1 + 1 + 1 + 1 + 1 + 1 + 1 + 1 + 1 + 1) 9 x) (false = false ∧ z_ir ((N + 1 + 1 + 1 + 1 + 1 + 1 + 1 + 1 + 1 : Nat) : Int) ∧ ((1212 : Int) = 1212 ∧ z_ck (!false && (z_knd ((N + 1 + 1 + 1 + 1 + 1 + 1 + 1 + 1 + 1 + 1 : Nat) : Int) == 101212) && Nat.ble (N + 1 + 1 + 1 + 1 + 1 + 1 + 1 + 1 + 1 + 1 + 1) No && Nat.ble 1213 100000) (z_ck (z_ok (N + 1 + 1 + 1 + 1 + 1 + 1 + 1 + 1 + 1 + 1 + 1) 9 x) (false = false ∧ z_ir ((N + 1 + 1 + 1 + 1 + 1 + 1 + 1 + 1 + 1 + 1 : Nat) : Int) ∧ ((1212 : Int) = 1212 ∧ z_ck (!false && (z_knd ((N + 1 + 1 + 1 + 1 + 1 + 1 + 1 + 1 + 1 + 1 + 1 : Nat) : Int) == 101212) && Nat.ble (N + 1 + 1 + 1 + 1 + 1 + 1 + 1 + 1 + 1 + 1 + 1 + 1) No && Nat.ble 1213 100000) (z_ck (z_ok (N + 1 + 1 + 1 + 1 + 1 + 1 + 1 + 1 + 1 + 1 + 1 + 1) 9 x) (false = false ∧ z_ir ((N + 1 + 1 + 1 + 1 + 1 + 1 + 1 + 1 + 1 + 1 + 1 : Nat) : Int) ∧ ((1212 : Int) = 1212 ∧ z_ck (!false && (z_knd ((N + 1 + 1 + 1 + 1 + 1 + 1 + 1 + 1 + 1 + 1 + 1 + 1 : Nat) : Int) == 101212) && Nat.ble (N + 1 + 1 + 1 + 1 + 1 + 1 + 1 + 1 + 1 + 1 + 1 + 1 + 1) No && Nat.ble 1213 100000) (z_ck (z_ok (N + 1 + 1 + 1 + 1 + 1 + 1 + 1 + 1 + 1 + 1 + 1 + 1 + 1) 9 x) (false = false ∧ z_ir ((N + 1 + 1 + 1 + 1 + 1 + 1 + 1 + 1 + 1 + 1 + 1 + 1 : Nat) : Int) ∧ ((1212 : Int) = 1212 ∧ z_ck (!false && (z_knd ((N + 1 + 1 + 1 + 1 + 1 + 1 + 1 + 1 + 1 + 1 + 1 + 1 + 1 : Nat) : Int) == 101212) && Nat.ble (N + 1 + 1 + 1 + 1 + 1 + 1 + 1 + 1 + 1 + 1 + 1 + 1 + 1 + 1) No && Nat.ble 1213 100000) (z_ck (z_ok (N + 1 + 1 + 1 + 1 + 1 + 1 + 1 + 1 + 1 + 1 + 1 + 1 + 1 + 1) 9 x) (false = false ∧ z_ir ((N + 1 + 1 + 1 + 1 + 1 + 1 + 1 + 1 + 1 + 1 + 1 + 1 + 1 : Nat) : Int) ∧ ((38784 : Int) = 38784 ∧ z_ck (!false && (z_knd ((N + 1 + 1 + 1 + 1 + 1 + 1 + 1 + 1 + 1 + 1 + 1 + 1 + 1 + 1 : Nat) : Int) == 138784) && Nat.ble (N + 1 + 1 + 1 + 1 + 1 + 1 + 1 + 1 + 1 + 1 + 1 + 1 + 1 + 1 + 1) No && Nat.ble 38785 100000) (z_ck (z_ok (N + 1 + 1 + 1 + 1 + 1 + 1 + 1 + 1 + 1 + 1 + 1 + 1 + 1 + 1 + 1) 9 x) (false = false ∧ z_ir ((N + 1 + 1 + 1 + 1 + 1 + 1 + 1 + 1 + 1 + 1 + 1 + 1 + 1 + 1 : Nat) : Int) ∧ (z_ck (z_ok (N + 1 + 1 + 1 + 1 + 1 + 1 + 1 + 1 + 1 + 1 + 1 + 1 + 1 + 1 + 1) 9 x) ((7 : Int) = 7 ∧ z_ck (!false && (z_knd ((N + 1 + 1 + 1 + 1 + 1 + 1 + 1 + 1 + 1 + 1 + 1 + 1 + 1 + 1 + 1 : Nat) : Int) == 100007) && Nat.ble (N + 1 + 1 + 1 + 1 + 1 + 1 + 1 + 1 + 1 + 1 + 1 + 1 + 1 + 1 + 1 + 1) No && Nat.ble 8 100000) (z_ck (z_ok (N + 1 + 1 + 1 + 1 + 1 + 1 + 1 + 1 + 1 + 1 + 1 + 1 + 1 + 1 + 1 + 1) 9 x) (false = false ∧ z_ir ((N + 1 + 1 + 1 + 1 + 1 + 1 + 1 + 1 + 1 + 1 + 1 + 1 + 1 + 1 + 1 : Nat) : Int) ∧ ((1212 : Int) = 1212 ∧ z_ck (!false && (z_knd ((N + 1 + 1 + 1 + 1 + 1 + 1 + 1 + 1 + 1 + 1 + 1 + 1 + 1 + 1 + 1 + 1 : Nat) : Int) == 101212) && Nat.ble (N + 1 + 1 + 1 + 1 + 1 + 1 + 1 + 1 + 1 + 1 + 1 + 1 + 1 + 1 + 1 + 1 + 1) No && Nat.ble 1213 100000) (z_ck (z_ok (N + 1 + 1 + 1 + 1 + 1 + 1 + 1 + 1 + 1 + 1 + 1 + 1 + 1 + 1 + 1 + 1 + 1) 9 x) (false = false ∧ z_ir ((N + 1 + 1 + 1 + 1 + 1 + 1 + 1 + 1 + 1 + 1 + 1 + 1 + 1 + 1 + 1 + 1 : Nat) : Int) ∧ (z_ck (z_ok (N + 1 + 1 + 1 + 1 + 1 + 1 + 1 + 1 + 1 + 1 + 1 + 1 + 1 + 1 + 1 + 1 + 1) 9 x) (((1 : Int) = 0 ∨ (1 : Int) = 1) ∧ ((5 : Int) = 5 ∧ z_ck (!false && (z_knd ((N + 1 + 1 + 1 + 1 + 1 + 1 + 1 + 1 + 1 + 1 + 1 + 1 + 1 + 1 + 1 + 1 + 1 : Nat) : Int) == 100005) && Nat.ble (N + 1 + 1 + 1 + 1 + 1 + 1 + 1 + 1 + 1 + 1 + 1 + 1 + 1 + 1 + 1 + 1 + 1 + 1) No && Nat.ble 6 100000) (z_ck (z_ok (N + 1 + 1 + 1 + 1 + 1 + 1 + 1 + 1 + 1 + 1 + 1 + 1 + 1 + 1 + 1 + 1 + 1 + 1) 9 x) (false = false ∧ z_ir ((N + 1 + 1 + 1 + 1 + 1 + 1 + 1 + 1 + 1 + 1 + 1 + 1 + 1 + 1 + 1 + 1 + 1 : Nat) : Int) ∧ ((5 : Int) = 5 ∧ z_ck (!false && (z_knd ((N + 1 + 1 + 1 + 1 + 1 + 1 + 1 + 1 + 1 + 1 + 1 + 1 + 1 + 1 + 1 + 1 + 1 + 1 : Nat) : Int) == 100005) && Nat.ble (N + 1 + 1 + 1 + 1 + 1 + 1 + 1 + 1 + 1 + 1 + 1 + 1 + 1 + 1 + 1 + 1 + 1 + 1 + 1) No && Nat.ble 6 100000) (z_ck (z_ok (N + 1 + 1 + 1 + 1 + 1 + 1 + 1 + 1 + 1 + 1 + 1 + 1 + 1 + 1 + 1 + 1 + 1 + 1 + 1) 9 x) (false = false ∧ z_ir ((N + 1 + 1 + 1 + 1 + 1 + 1 + 1 + 1 + 1 + 1 + 1 + 1 + 1 + 1 + 1 + 1 + 1 + 1 : Nat) : Int) ∧ ((5 : Int) = 5 ∧ z_ck (!false && (z_knd ((N + 1 + 1 + 1 + 1 + 1 + 1 + 1 + 1 + 1 + 1 + 1 + 1 + 1 + 1 + 1 + 1 + 1 + 1 + 1 : Nat) : Int) == 100005) && Nat.ble (N + 1 + 1 + 1 + 1 + 1 + 1 + 1 + 1 + 1 + 1 + 1 + 1 + 1 + 1 + 1 + 1 + 1 + 1 + 1 + 1) No && Nat.ble 6 100000) (z_ck (z_ok (N + 1 + 1 + 1 + 1 + 1 + 1 + 1 + 1 + 1 + 1 + 1 + 1 + 1 + 1 + 1 + 1 + 1 + 1 + 1 + 1) 9 x) (false = false ∧ z_ir ((N + 1 + 1 + 1 + 1 + 1 + 1 + 1 + 1 + 1 + 1 + 1 + 1 + 1 + 1 + 1 + 1 + 1 + 1 + 1 : Nat) : Int) ∧ ((5 : Int) = 5 ∧ z_ck (!false && (z_knd ((N + 1 + 1 + 1 + 1 + 1 + 1 + 1 + 1 + 1 + 1 + 1 + 1 + 1 + 1 + 1 + 1 + 1 + 1 + 1 + 1 : Nat) : Int) == 100005) && Nat.ble (N + 1 + 1 + 1 + 1 + 1 + 1 + 1 + 1 + 1 + 1 + 1 + 1 + 1 + 1 + 1 + 1 + 1 + 1 + 1 + 1 + 1) No && Nat.ble 6 100000) (z_ck (z_ok (N + 1 + 1 + 1 + 1 + 1 + 1 + 1 + 1 + 1 + 1 + 1 + 1 + 1 + 1 + 1 + 1 + 1 + 1 + 1 + 1 + 1) 9 x) (false = false ∧ z_ir ((N + 1 + 1 + 1 + 1 + 1 + 1 + 1 + 1 + 1 + 1 + 1 + 1 + 1 + 1 + 1 + 1 + 1 + 1 + 1 + 1 : Nat) : Int) ∧ ((5 : Int) = 5 ∧ z_ck (!false && (z_knd ((N + 1 + 1 + 1 + 1 + 1 + 1 + 1 + 1 + 1 + 1 + 1 + 1 + 1 + 1 + 1 + 1 + 1 + 1 + 1 + 1 + 1 : Nat) : Int) == 100005) && Nat.ble (N + 1 + 1 + 1 + 1 + 1 + 1 + 1 + 1 + 1 + 1 + 1 + 1 + 1 + 1 + 1 + 1 + 1 + 1 + 1 + 1 + 1 + 1) No && Nat.ble 6 100000) (z_ck (z_ok (N + 1 + 1 + 1 + 1 + 1 + 1 + 1 + 1 + 1 + 1 + 1 + 1 + 1 + 1 + 1 + 1 + 1 + 1 + 1 + 1 + 1 + 1) 9 x) (false = false ∧ z_ir ((N + 1 + 1 + 1 + 1 + 1 + 1 + 1 + 1 + 1 + 1 + 1 + 1 + 1 + 1 + 1 + 1 + 1 + 1 + 1 + 1 + 1 : Nat) : Int) ∧ ((5 : Int) = 5 ∧ z_ck (!false && (z_knd ((N + 1 + 1 + 1 + 1 + 1 + 1 + 1 + 1 + 1 + 1 + 1 + 1 + 1 + 1 + 1 + 1 + 1 + 1 + 1 + 1 + 1 + 1 : Nat) : Int) == 100005) && Nat.ble (N + 1 + 1 + 1 + 1 + 1 + 1 + 1 + 1 + 1 + 1 + 1 + 1 + 1 + 1 + 1 + 1 + 1 + 1 + 1 + 1 + 1 + 1 + 1) No && Nat.ble 6 100000) (z_ck (z_ok (N + 1 + 1 + 1 + 1 + 1 + 1 + 1 + 1 + 1 + 1 + 1 + 1 + 1 + 1 + 1 + 1 + 1 + 1 + 1 + 1 + 1 + 1 + 1) 9 x) (false = false ∧ z_ir ((N + 1 + 1 + 1 + 1 + 1 + 1 + 1 + 1 + 1 + 1 + 1 + 1 + 1 + 1 + 1 + 1 + 1 + 1 + 1 + 1 + 1 + 1 : Nat) : Int) ∧ ((150 : Int) = 150 ∧ z_ck (!false && (z_knd ((N + 1 + 1 + 1 + 1 + 1 + 1 + 1 + 1 + 1 + 1 + 1 + 1 + 1 + 1 + 1 + 1 + 1 + 1 + 1 + 1 + 1 + 1 + 1 : Nat) : Int) == 100150) && Nat.ble (N + 1 + 1 + 1 + 1 + 1 + 1 + 1 + 1 + 1 + 1 + 1 + 1 + 1 + 1 + 1 + 1 + 1 + 1 + 1 + 1 + 1 + 1 + 1 + 1) No && Nat.ble 151 100000) (z_ck (z_ok (N + 1 + 1 + 1 + 1 + 1 + 1 + 1 + 1 + 1 + 1 + 1 + 1 + 1 + 1 + 1 + 1 + 1 + 1 + 1 + 1 + 1 + 1 + 1 + 1) 9 x) (false = false ∧ z_ir ((N + 1 + 1 + 1 + 1 + 1 + 1 + 1 + 1 + 1 + 1 + 1 + 1 + 1 + 1 + 1 + 1 + 1 + 1 + 1 + 1 + 1 + 1 + 1 : Nat) : Int) ∧ ((150 : Int) = 150 ∧ z_ck (!false && (z_knd ((N + 1 + 1 + 1 + 1 + 1 + 1 + 1 + 1 + 1 + 1 + 1 + 1 + 1 + 1 + 1 + 1 + 1 + 1 + 1 + 1 + 1 + 1 + 1 + 1 : Nat) : Int) == 100150) && Nat.ble (N + 1 + 1 + 1 + 1 + 1 + 1 + 1 + 1 + 1 + 1 + 1 + 1 + 1 + 1 + 1 + 1 + 1 + 1 + 1 + 1 + 1 + 1 + 1 + 1 + 1) No && Nat.ble 151 100000) (z_ck (z_ok (N + 1 + 1 + 1 + 1 + 1 + 1 + 1 + 1 + 1 + 1 + 1 + 1 + 1 + 1 + 1 + 1 + 1 + 1 + 1 + 1 + 1 + 1 + 1 + 1 + 1) 9 x) (false = false ∧ z_ir ((N + 1 + 1 + 1 + 1 + 1 + 1 + 1 + 1 + 1 + 1 + 1 + 1 + 1 + 1 + 1 + 1 + 1 + 1 + 1 + 1 + 1 + 1 + 1 + 1 : Nat) : Int) ∧ ((150 : Int) = 150 ∧ z_ck (!false && (z_knd ((N + 1 + 1 + 1 + 1 + 1 + 1 + 1 + 1 + 1 + 1 + 1 + 1 + 1 + 1 + 1 + 1 + 1 + 1 + 1 + 1 + 1 + 1 + 1 + 1 + 1 : Nat) : Int) == 100150) && Nat.ble (N + 1 + 1 + 1 + 1 + 1 + 1 + 1 + 1 + 1 + 1 + 1 + 1 + 1 + 1 + 1 + 1 + 1 + 1 + 1 + 1 + 1 + 1 + 1 + 1 + 1 + 1) No && Nat.ble 151 100000) (z_ck (z_ok (N + 1 + 1 + 1 + 1 + 1 + 1 + 1 + 1 + 1 + 1 + 1 + 1 + 1 + 1 + 1 + 1 + 1 + 1 + 1 + 1 + 1 + 1 + 1 + 1 + 1 + 1) 9 x) (false = false ∧ z_ir ((N + 1 + 1 + 1 + 1 + 1 + 1 + 1 + 1 + 1 + 1 + 1 + 1 + 1 + 1 + 1 + 1 + 1 + 1 + 1 + 1 + 1 + 1 + 1 + 1 + 1 : Nat) : Int) ∧ ((150 : Int) = 150 ∧ z_ck (!false && (z_knd ((N + 1 + 1 + 1 + 1 + 1 + 1 + 1 + 1 + 1 + 1 + 1 + 1 + 1 + 1 + 1 + 1 + 1 + 1 + 1 + 1 + 1 + 1 + 1 + 1 + 1 + 1 : Nat) : Int) == 100150) && Nat.ble (N + 1 + 1 + 1 + 1 + 1 + 1 + 1 + 1 + 1 + 1 + 1 + 1 + 1 + 1 + 1 + 1 + 1 + 1 + 1 + 1 + 1 + 1 + 1 + 1 + 1 + 1 + 1) No && Nat.ble 151 100000) (z_ck (z_ok (N + 1 + 1 + 1 + 1 + 1 + 1 + 1 + 1 + 1 + 1 + 1 + 1 + 1 + 1 + 1 + 1 + 1 + 1 + 1 + 1 + 1 + 1 + 1 + 1 + 1 + 1 + 1) 9 x) (false = false ∧ z_ir ((N + 1 + 1 + 1 + 1 + 1 + 1 + 1 + 1 + 1 + 1 + 1 + 1 + 1 + 1 + 1 + 1 + 1 + 1 + 1 + 1 + 1 + 1 + 1 + 1 + 1 + 1 : Nat) : Int) ∧ ((150 : Int) = 150 ∧ z_ck (!false && (z_knd ((N + 1 + 1 + 1 + 1 + 1 + 1 + 1 + 1 + 1 + 1 + 1 + 1 + 1 + 1 + 1 + 1 + 1 + 1 + 1 + 1 + 1 + 1 + 1 + 1 + 1 + 1 + 1 : Nat) : Int) == 100150) && Nat.ble (N + 1 + 1 + 1 + 1 + 1 + 1 + 1 + 1 + 1 + 1 + 1 + 1 + 1 + 1 + 1 + 1 + 1 + 1 + 1 + 1 + 1 + 1 + 1 + 1 + 1 + 1 + 1 + 1) No && Nat.ble 151 100000) (z_ck (z_ok (N + 1 + 1 + 1 + 1 + 1 + 1 + 1 + 1 + 1 + 1 + 1 + 1 + 1 + 1 + 1 + 1 + 1 + 1 + 1 + 1 + 1 + 1 + 1 + 1 + 1 + 1 + 1 + 1) 9 x) (false = false ∧ z_ir ((N + 1 + 1 + 1 + 1 + 1 + 1 + 1 + 1 + 1 + 1 + 1 + 1 + 1 + 1 + 1 + 1 + 1 + 1 + 1 + 1 + 1 + 1 + 1 + 1 + 1 + 1 + 1 : Nat) : Int) ∧ ((150 : Int) = 150 ∧ z_ck (!false && (z_knd ((N + 1 + 1 + 1 + 1 + 1 + 1 + 1 + 1 + 1 + 1 + 1 + 1 + 1 + 1 + 1 + 1 + 1 + 1 + 1 + 1 + 1 + 1 + 1 + 1 + 1 + 1 + 1 + 1 : Nat) : Int) == 100150) && Nat.ble (N + 1 + 1 + 1 + 1 + 1 + 1 + 1 + 1 + 1 + 1 + 1 + 1 + 1 + 1 + 1 + 1 + 1 + 1 + 1 + 1 + 1 + 1 + 1 + 1 + 1 + 1 + 1 + 1 + 1) No && Nat.ble 151 100000) (z_ck (z_ok (N + 1 + 1 + 1 + 1 + 1 + 1 + 1 + 1 + 1 + 1 + 1 + 1 + 1 + 1 + 1 + 1 + 1 + 1 + 1 + 1 + 1 + 1 + 1 + 1 + 1 + 1 + 1 + 1 + 1) 9 x) (false = false ∧ z_ir ((N + 1 + 1 + 1 + 1 + 1 + 1 + 1 + 1 + 1 + 1 + 1 + 1 + 1 + 1 + 1 + 1 + 1 + 1 + 1 + 1 + 1 + 1 + 1 + 1 + 1 + 1 + 1 + 1 : Nat) : Int) ∧ ((4800 : Int) = 4800 ∧ z_ck (!false && (z_knd ((N + 1 + 1 + 1 + 1 + 1 + 1 + 1 + 1 + 1 + 1 + 1 + 1 + 1 + 1 + 1 + 1 + 1 + 1 + 1 + 1 + 1 + 1 + 1 + 1 + 1 + 1 + 1 + 1 + 1 : Nat) : Int) == 104800) && Nat.ble (N + 1 + 1 + 1 + 1 + 1 + 1 + 1 + 1 + 1 + 1 + 1 + 1 + 1 + 1 + 1 + 1 + 1 + 1 + 1 + 1 + 1 + 1 + 1 + 1 + 1 + 1 + 1 + 1 + 1 + 1) No && Nat.ble 4801 100000) (z_ck (z_ok (N + 1 + 1 + 1 + 1 + 1 + 1 + 1 + 1 + 1 + 1 + 1 + 1 + 1 + 1 + 1 + 1 + 1 + 1 + 1 + 1 + 1 + 1 + 1 + 1 + 1 + 1 + 1 + 1 + 1 + 1) 9 x) (false = false ∧ z_ir ((N + 1 + 1 + 1 + 1 + 1 + 1 + 1 + 1 + 1 + 1 + 1 + 1 + 1 + 1 + 1 + 1 + 1 + 1 + 1 + 1 + 1 + 1 + 1 + 1 + 1 + 1 + 1 + 1 + 1 : Nat) : Int) ∧ ((150 : Int) = 150 ∧ z_ck (!false && (z_knd ((N + 1 + 1 + 1 + 1 + 1 + 1 + 1 + 1 + 1 + 1 + 1 + 1 + 1 + 1 + 1 + 1 + 1 + 1 + 1 + 1 + 1 + 1 + 1 + 1 + 1 + 1 + 1 + 1 + 1 + 1 : Nat) : Int) == 100150) && Nat.ble (N + 1 + 1 + 1 + 1 + 1 + 1 + 1 + 1 + 1 + 1 + 1 + 1 + 1 + 1 + 1 + 1 + 1 + 1 + 1 + 1 + 1 + 1 + 1 + 1 + 1 + 1 + 1 + 1 + 1 + 1 + 1) No && Nat.ble 151 100000) (z_ck (z_ok (N + 1 + 1 + 1 + 1 + 1 + 1 + 1 + 1 + 1 + 1 + 1 + 1 + 1 + 1 + 1 + 1 + 1 + 1 + 1 + 1 + 1 + 1 + 1 + 1 + 1 + 1 + 1 + 1 + 1 + 1 + 1) 9 x) (false = false ∧ z_ir ((N + 1 + 1 + 1 + 1 + 1 + 1 + 1 + 1 + 1 + 1 + 1 + 1 + 1 + 1 + 1 + 1 + 1 + 1 + 1 + 1 + 1 + 1 + 1 + 1 + 1 + 1 + 1 + 1 + 1 + 1 : Nat) : Int) ∧ ((9600 : Int) = 9600 ∧ z_ck (!false && (z_knd ((N + 1 + 1 + 1 + 1 + 1 + 1 + 1 + 1 + 1 + 1 + 1 + 1 + 1 + 1 + 1 + 1 + 1 + 1 + 1 + 1 + 1 + 1 + 1 + 1 + 1 + 1 + 1 + 1 + 1 + 1 + 1 : Nat) : Int) == 109600) && Nat.ble (N + 1 + 1 + 1 + 1 + 1 + 1 + 1 + 1 + 1 + 1 + 1 + 1 + 1 + 1 + 1 + 1 + 1 + 1 + 1 + 1 + 1 + 1 + 1 + 1 + 1 + 1 + 1 + 1 + 1 + 1 + 1 + 1) No && Nat.ble 9601 100000) (z_ck (z_ok (N + 1 + 1 + 1 + 1 + 1 + 1 + 1 + 1 + 1 + 1 + 1 + 1 + 1 + 1 + 1 + 1 + 1 + 1 + 1 + 1 + 1 + 1 + 1 + 1 + 1 + 1 + 1 + 1 + 1 + 1 + 1 + 1) 9 x) (false = false ∧ z_ir ((N + 1 + 1 + 1 + 1 + 1 + 1 + 1 + 1 + 1 + 1 + 1 + 1 + 1 + 1 + 1 + 1 + 1 + 1 + 1 + 1 + 1 + 1 + 1 + 1 + 1 + 1 + 1 + 1 + 1 + 1 + 1 : Nat) : Int) ∧ ((1212 : Int) = 1212 ∧ z_ck (!false && (z_knd ((N + 1 + 1 + 1 + 1 + 1 + 1 + 1 + 1 + 1 + 1 + 1 + 1 + 1 + 1 + 1 + 1 + 1 + 1 + 1 + 1 + 1 + 1 + 1 + 1 + 1 + 1 + 1 + 1 + 1 + 1 + 1 + 1 : Nat) : Int) == 201212) && Nat.ble (N + 1 + 1 + 1 + 1 + 1 + 1 + 1 + 1 + 1 + 1 + 1 + 1 + 1 + 1 + 1 + 1 + 1 + 1 + 1 + 1 + 1 + 1 + 1 + 1 + 1 + 1 + 1 + 1 + 1 + 1 + 1 + 1 + 1) No && Nat.ble 1213 100000) (z_ck (z_ok (N + 1 + 1 + 1 + 1 + 1 + 1 + 1 + 1 + 1 + 1 + 1 + 1 + 1 + 1 + 1 + 1 + 1 + 1 + 1 + 1 + 1 + 1 + 1 + 1 + 1 + 1 + 1 + 1 + 1 + 1 + 1 + 1 + 1) 9 x) (false = false ∧ z_ir ((N + 1 + 1 + 1 + 1 + 1 + 1 + 1 + 1 + 1 + 1 + 1 + 1 + 1 + 1 + 1 + 1 + 1 + 1 + 1 + 1 + 1 + 1 + 1 + 1 + 1 + 1 + 1 + 1 + 1 + 1 + 1 + 1 : Nat) : Int) ∧ ((9696 : Int) = 9696 ∧ z_ck (!false && (z_knd ((N + 1 + 1 + 1 + 1 + 1 + 1 + 1 + 1 + 1 + 1 + 1 + 1 + 1 + 1 + 1 + 1 + 1 + 1 + 1 + 1 + 1 + 1 + 1 + 1 + 1 + 1 + 1 + 1 + 1 + 1 + 1 + 1 + 1 : Nat) : Int) == 109696) && Nat.ble (N + 1 + 1 + 1 + 1 + 1 + 1 + 1 + 1 + 1 + 1 + 1 + 1 + 1 + 1 + 1 + 1 + 1 + 1 + 1 + 1 + 1 + 1 + 1 + 1 + 1 + 1 + 1 + 1 + 1 + 1 + 1 + 1 + 1 + 1) No && Nat.ble 9697 100000) (z_ck (z_ok (N + 1 + 1 + 1 + 1 + 1 + 1 + 1 + 1 + 1 + 1 + 1 + 1 + 1 + 1 + 1 + 1 + 1 + 1 + 1 + 1 + 1 + 1 + 1 + 1 + 1 + 1 + 1 + 1 + 1 + 1 + 1 + 1 + 1 + 1) 9 x) (false = false ∧ z_ir ((N + 1 + 1 + 1 + 1 + 1 + 1 + 1 + 1 + 1 + 1 + 1 + 1 + 1 + 1 + 1 + 1 + 1 + 1 + 1 + 1 + 1 + 1 + 1 + 1 + 1 + 1 + 1 + 1 + 1 + 1 + 1 + 1 + 1 : Nat) : Int) ∧ ((38784 : Int) = 38784 ∧ z_ck (!false && (z_knd ((N + 1 + 1 + 1 + 1 + 1 + 1 + 1 + 1 + 1 + 1 + 1 + 1 + 1 + 1 + 1 + 1 + 1 + 1 + 1 + 1 + 1 + 1 + 1 + 1 + 1 + 1 + 1 + 1 + 1 + 1 + 1 + 1 + 1 + 1 : Nat) : Int) == 138784) && Nat.ble (N + 1 + 1 + 1 + 1 + 1 + 1 + 1 + 1 + 1 + 1 + 1 + 1 + 1 + 1 + 1 + 1 + 1 + 1 + 1 + 1 + 1 + 1 + 1 + 1 + 1 + 1 + 1 + 1 + 1 + 1 + 1 + 1 + 1 + 1 + 1) No && Nat.ble 38785 100000) (z_ck (z_ok (N + 1 + 1 + 1 + 1 + 1 + 1 + 1 + 1 + 1 + 1 + 1 + 1 + 1 + 1 + 1 + 1 + 1 + 1 + 1 + 1 + 1 + 1 + 1 + 1 + 1 + 1 + 1 + 1 + 1 + 1 + 1 + 1 + 1 + 1 + 1) 9 x) (false = false ∧ z_ir ((N + 1 + 1 + 1 + 1 + 1 + 1 + 1 + 1 + 1 + 1 + 1 + 1 + 1 + 1 + 1 + 1 + 1 + 1 + 1 + 1 + 1 + 1 + 1 + 1 + 1 + 1 + 1 + 1 + 1 + 1 + 1 + 1 + 1 + 1 : Nat) : Int) ∧ ((7 : Int) = 7 ∧ z_ck (!false && (z_knd ((N + 1 + 1 + 1 + 1 + 1 + 1 + 1 + 1 + 1 + 1 + 1 + 1 + 1 + 1 + 1 + 1 + 1 + 1 + 1 + 1 + 1 + 1 + 1 + 1 + 1 + 1 + 1 + 1 + 1 + 1 + 1 + 1 + 1 + 1 + 1 : Nat) : Int) == 100007) && Nat.ble (N + 1 + 1 + 1 + 1 + 1 + 1 + 1 + 1 + 1 + 1 + 1 + 1 + 1 + 1 + 1 + 1 + 1 + 1 + 1 + 1 + 1 + 1 + 1 + 1 + 1 + 1 + 1 + 1 + 1 + 1 + 1 + 1 + 1 + 1 + 1 + 1) No && Nat.ble 8 100000) (z_ck (z_ok (N + 1 + 1 + 1 + 1 + 1 + 1 + 1 + 1 + 1 + 1 + 1 + 1 + 1 + 1 + 1 + 1 + 1 + 1 + 1 + 1 + 1 + 1 + 1 + 1 + 1 + 1 + 1 + 1 + 1 + 1 + 1 + 1 + 1 + 1 + 1 + 1) 9 x) (false = false ∧ z_ir ((N + 1 + 1 + 1 + 1 + 1 + 1 + 1 + 1 + 1 + 1 + 1 + 1 + 1 + 1 + 1 + 1 + 1 + 1 + 1 + 1 + 1 + 1 + 1 + 1 + 1 + 1 + 1 + 1 + 1 + 1 + 1 + 1 + 1 + 1 + 1 : Nat) : Int) ∧ ((1212 : Int) = 1212 ∧ z_ck (!false && (z_knd ((N + 1 + 1 + 1 + 1 + 1 + 1 + 1 + 1 + 1 + 1 + 1 + 1 + 1 + 1 + 1 + 1 + 1 + 1 + 1 + 1 + 1 + 1 + 1 + 1 + 1 + 1 + 1 + 1 + 1 + 1 + 1 + 1 + 1 + 1 + 1 + 1 : Nat) : Int) == 201212) && Nat.ble (N + 1 + 1 + 1 + 1 + 1 + 1 + 1 + 1 + 1 + 1 + 1 + 1 + 1 + 1 + 1 + 1 + 1 + 1 + 1 + 1 + 1 + 1 + 1 + 1 + 1 + 1 + 1 + 1 + 1 + 1 + 1 + 1 + 1 + 1 + 1 + 1 + 1) No && Nat.ble 1213 100000) (z_ck (z_ok (N + 1 + 1 + 1 + 1 + 1 + 1 + 1 + 1 + 1 + 1 + 1 + 1 + 1 + 1 + 1 + 1 + 1 + 1 + 1 + 1 + 1 + 1 + 1 + 1 + 1 + 1 + 1 + 1 + 1 + 1 + 1 + 1 + 1 + 1 + 1 + 1 + 1) 9 x) (false = false ∧ z_ir ((N + 1 + 1 + 1 + 1 + 1 + 1 + 1 + 1 + 1 + 1 + 1 + 1 + 1 + 1 + 1 + 1 + 1 + 1 + 1 + 1 + 1 + 1 + 1 + 1 + 1 + 1 + 1 + 1 + 1 + 1 + 1 + 1 + 1 + 1 + 1 + 1 : Nat) : Int) ∧ ((1212 : Int) = 1212 ∧ z_ck (!false && (z_knd ((N + 1 + 1 + 1 + 1 + 1 + 1 + 1 + 1 + 1 + 1 + 1 + 1 + 1 + 1 + 1 + 1 + 1 + 1 + 1 + 1 + 1 + 1 + 1 + 1 + 1 + 1 + 1 + 1 + 1 + 1 + 1 + 1 + 1 + 1 + 1 + 1 + 1 : Nat) : Int) == 101212) && Nat.ble (N + 1 + 1 + 1 + 1 + 1 + 1 + 1 + 1 + 1 + 1 + 1 + 1 + 1 + 1 + 1 + 1 + 1 + 1 + 1 + 1 + 1 + 1 + 1 + 1 + 1 + 1 + 1 + 1 + 1 + 1 + 1 + 1 + 1 + 1 + 1 + 1 + 1 + 1) No && Nat.ble 1213 100000) (z_ck (z_ok (N + 1 + 1 + 1 + 1 + 1 + 1 + 1 + 1 + 1 + 1 + 1 + 1 + 1 + 1 + 1 + 1 + 1 + 1 + 1 + 1 + 1 + 1 + 1 + 1 + 1 + 1 + 1 + 1 + 1 + 1 + 1 + 1 + 1 + 1 + 1 + 1 + 1 + 1) 9 x) (false = false ∧ z_ir ((N + 1 + 1 + 1 + 1 + 1 + 1 + 1 + 1 + 1 + 1 + 1 + 1 + 1 + 1 + 1 + 1 + 1 + 1 + 1 + 1 + 1 + 1 + 1 + 1 + 1 + 1 + 1 + 1 + 1 + 1 + 1 + 1 + 1 + 1 + 1 + 1 + 1 : Nat) : Int) ∧ (z_ck (N + 1 + 1 + 1 + 1 + 1 + 1 + 1 + 1 + 1 + 1 + 1 + 1 + 1 + 1 + 1 + 1 + 1 + 1 + 1 + 1 + 1 + 1 + 1 + 1 + 1 + 1 + 1 + 1 + 1 + 1 + 1 + 1 + 1 + 1 + 1 + 1 + 1 + 1 == No) (Q 0 (z_up (z_nu (z_up (z_nu (z_up (z_nu (z_up (z_nu (z_up (z_nu (z_up (z_nu (z_up (z_nu (z_up (z_nu (z_up (z_nu (z_up (z_nu (z_up (z_nu (z_up (z_nu (z_up (z_nu (z_up (z_nu (z_up (z_nu (z_up (z_nu (z_up (z_nu (z_up (z_nu (z_up (z_nu (z_up (z_nu (z_up (z_nu (z_up (z_up (z_nu (z_up (z_nu (z_up (z_up (z_nu (z_up (z_nu (z_up (z_nu (z_up (z_nu (z_up (z_nu (z_up (z_nu (z_up (z_nu (z_up (z_nu (z_up (z_nu (z_up (z_nu (z_up (z_nu (z_up (z_nu (z_up (z_nu (z_up (z_nu (z_up (z_nu σ ((N : Nat) : Int) 100012) x 0 ((N : Nat) : Int)) ((N + 1 : Nat) : Int) 100100) x 1 ((N + 1 : Nat) : Int)) ((N + 1 + 1 : Nat) : Int) 104800) x 3 ((N + 1 + 1 : Nat) : Int)) ((N + 1 + 1 + 1 : Nat) : Int) 100012) x 4 ((N + 1 + 1 + 1 : Nat) : Int)) ((N + 1 + 1 + 1 + 1 : Nat) : Int) 100400) x 5 ((N + 1 + 1 + 1 + 1 : Nat) : Int)) ((N + 1 + 1 + 1 + 1 + 1 : Nat) : Int) 201212) x 11 ((N + 1 + 1 + 1 + 1 + 1 : Nat) : Int)) ((N + 1 + 1 + 1 + 1 + 1 + 1 : Nat) : Int) 101212) x 12 ((N + 1 + 1 + 1 + 1 + 1 + 1 : Nat) : Int)) ((N + 1 + 1 + 1 + 1 + 1 + 1 + 1 : Nat) : Int) 101212) x 13 ((N + 1 + 1 + 1 + 1 + 1 + 1 + 1 : Nat) : Int)) ((N + 1 + 1 + 1 + 1 + 1 + 1 + 1 + 1 : Nat) : Int) 101212) x 14 ((N + 1 + 1 + 1 + 1 + 1 + 1 + 1 + 1 : Nat) : Int)) ((N + 1 + 1 + 1 + 1 + 1 + 1 + 1 + 1 + 1 : Nat) : Int) 101212) x 15 ((N + 1 + 1 + 1 + 1 + 1 + 1 + 1 + 1 + 1 : Nat) : Int)) ((N + 1 + 1 + 1 + 1 + 1 + 1 + 1 + 1 + 1 + 1 : Nat) : Int) 101212) x 16 ((N + 1 + 1 + 1 + 1 + 1 + 1 + 1 + 1 + 1 + 1 : Nat) : Int)) ((N + 1 + 1 + 1 + 1 + 1 + 1 + 1 + 1 + 1 + 1 + 1 : Nat) : Int) 101212) x 17 ((N + 1 + 1 + 1 + 1 + 1 + 1 + 1 + 1 + 1 + 1 + 1 : Nat) : Int)) ((N + 1 + 1 + 1 + 1 + 1 + 1 + 1 + 1 + 1 + 1 + 1 + 1 : Nat) : Int) 101212) x 18 ((N + 1 + 1 + 1 + 1 + 1 + 1 + 1 + 1 + 1 + 1 + 1 + 1 : Nat) : Int)) ((N + 1 + 1 + 1 + 1 + 1 + 1 + 1 + 1 + 1 + 1 + 1 + 1 + 1 : Nat) : Int) 101212) x 19 ((N + 1 + 1 + 1 + 1 + 1 + 1 + 1 + 1 + 1 + 1 + 1 + 1 + 1 : Nat) : Int)) ((N + 1 + 1 + 1 + 1 + 1 + 1 + 1 + 1 + 1 + 1 + 1 + 1 + 1 + 1 : Nat) : Int) 138784) x 20 ((N + 1 + 1 + 1 + 1 + 1 + 1 + 1 + 1 + 1 + 1 + 1 + 1 + 1 + 1 : Nat) : Int)) x 24 60) ((N + 1 + 1 + 1 + 1 + 1 + 1 + 1 + 1 + 1 + 1 + 1 + 1 + 1 + 1 + 1 : Nat) : Int) 100007) x 27 ((N + 1 + 1 + 1 + 1 + 1 + 1 + 1 + 1 + 1 + 1 + 1 + 1 + 1 + 1 + 1 : Nat) : Int)) ((N + 1 + 1 + 1 + 1 + 1 + 1 + 1 + 1 + 1 + 1 + 1 + 1 + 1 + 1 + 1 + 1 : Nat) : Int) 101212) x 28 ((N + 1 + 1 + 1 + 1 + 1 + 1 + 1 + 1 + 1 + 1 + 1 + 1 + 1 + 1 + 1 + 1 : Nat) : Int)) x 30 1) ((N + 1 + 1 + 1 + 1 + 1 + 1 + 1 + 1 + 1 + 1 + 1 + 1 + 1 + 1 + 1 + 1 + 1 : Nat) : Int) 100005) x 31 ((N + 1 + 1 + 1 + 1 + 1 + 1 + 1 + 1 + 1 + 1 + 1 + 1 + 1 + 1 + 1 + 1 + 1 : Nat) : Int)) ((N + 1 + 1 + 1 + 1 + 1 + 1 + 1 + 1 + 1 + 1 + 1 + 1 + 1 + 1 + 1 + 1 + 1 + 1 : Nat) : Int) 100005) x 32 ((N + 1 + 1 + 1 + 1 + 1 + 1 + 1 + 1 + 1 + 1 + 1 + 1 + 1 + 1 + 1 + 1 + 1 + 1 : Nat) : Int)) ((N + 1 + 1 + 1 + 1 + 1 + 1 + 1 + 1 + 1 + 1 + 1 + 1 + 1 + 1 + 1 + 1 + 1 + 1 + 1 : Nat) : Int) 100005) x 33 ((N + 1 + 1 + 1 + 1 + 1 + 1 + 1 + 1 + 1 + 1 + 1 + 1 + 1 + 1 + 1 + 1 + 1 + 1 + 1 : Nat) : Int)) ((N + 1 + 1 + 1 + 1 + 1 + 1 + 1 + 1 + 1 + 1 + 1 + 1 + 1 + 1 + 1 + 1 + 1 + 1 + 1 + 1 : Nat) : Int) 100005) x 34 ((N + 1 + 1 + 1 + 1 + 1 + 1 + 1 + 1 + 1 + 1 + 1 + 1 + 1 + 1 + 1 + 1 + 1 + 1 + 1 + 1 : Nat) : Int)) ((N + 1 + 1 + 1 + 1 + 1 + 1 + 1 + 1 + 1 + 1 + 1 + 1 + 1 + 1 + 1 + 1 + 1 + 1 + 1 + 1 + 1 : Nat) : Int) 100005) x 35 ((N + 1 + 1 + 1 + 1 + 1 + 1 + 1 + 1 + 1 + 1 + 1 + 1 + 1 + 1 + 1 + 1 + 1 + 1 + 1 + 1 + 1 : Nat) : Int)) ((N + 1 + 1 + 1 + 1 + 1 + 1 + 1 + 1 + 1 + 1 + 1 + 1 + 1 + 1 + 1 + 1 + 1 + 1 + 1 + 1 + 1 + 1 : Nat) : Int) 100005) x 36 ((N + 1 + 1 + 1 + 1 + 1 + 1 + 1 + 1 + 1 + 1 + 1 + 1 + 1 + 1 + 1 + 1 + 1 + 1 + 1 + 1 + 1 + 1 : Nat) : Int)) ((N + 1 + 1 + 1 + 1 + 1 + 1 + 1 + 1 + 1 + 1 + 1 + 1 + 1 + 1 + 1 + 1 + 1 + 1 + 1 + 1 + 1 + 1 + 1 : Nat) : Int) 100150) x 37 ((N + 1 + 1 + 1 + 1 + 1 + 1 + 1 + 1 + 1 + 1 + 1 + 1 + 1 + 1 + 1 + 1 + 1 + 1 + 1 + 1 + 1 + 1 + 1 : Nat) : Int)) ((N + 1 + 1 + 1 + 1 + 1 + 1 + 1 + 1 + 1 + 1 + 1 + 1 + 1 + 1 + 1 + 1 + 1 + 1 + 1 + 1 + 1 + 1 + 1 + 1 : Nat) : Int) 100150) x 38 ((N + 1 + 1 + 1 + 1 + 1 + 1 + 1 + 1 + 1 + 1 + 1 + 1 + 1 + 1 + 1 + 1 + 1 + 1 + 1 + 1 + 1 + 1 + 1 + 1 : Nat) : Int)) ((N + 1 + 1 + 1 + 1 + 1 + 1 + 1 + 1 + 1 + 1 + 1 + 1 + 1 + 1 + 1 + 1 + 1 + 1 + 1 + 1 + 1 + 1 + 1 + 1 + 1 : Nat) : Int) 100150) x 39 ((N + 1 + 1 + 1 + 1 + 1 + 1 + 1 + 1 + 1 + 1 + 1 + 1 + 1 + 1 + 1 + 1 + 1 + 1 + 1 + 1 + 1 + 1 + 1 + 1 + 1 : Nat) : Int)) ((N + 1 + 1 + 1 + 1 + 1 + 1 + 1 + 1 + 1 + 1 + 1 + 1 + 1 + 1 + 1 + 1 + 1 + 1 + 1 + 1 + 1 + 1 + 1 + 1 + 1 + 1 : Nat) : Int) 100150) x 40 ((N + 1 + 1 + 1 + 1 + 1 + 1 + 1 + 1 + 1 + 1 + 1 + 1 + 1 + 1 + 1 + 1 + 1 + 1 + 1 + 1 + 1 + 1 + 1 + 1 + 1 + 1 : Nat) : Int)) ((N + 1 + 1 + 1 + 1 + 1 + 1 + 1 + 1 + 1 + 1 + 1 + 1 + 1 + 1 + 1 + 1 + 1 + 1 + 1 + 1 + 1 + 1 + 1 + 1 + 1 + 1 + 1 : Nat) : Int) 100150) x 41 ((N + 1 + 1 + 1 + 1 + 1 + 1 + 1 + 1 + 1 + 1 + 1 + 1 + 1 + 1 + 1 + 1 + 1 + 1 + 1 + 1 + 1 + 1 + 1 + 1 + 1 + 1 + 1 : Nat) : Int)) ((N + 1 + 1 + 1 + 1 + 1 + 1 + 1 + 1 + 1 + 1 + 1 + 1 + 1 + 1 + 1 + 1 + 1 + 1 + 1 + 1 + 1 + 1 + 1 + 1 + 1 + 1 + 1 + 1 : Nat) : Int) 100150) x 42 ((N + 1 + 1 + 1 + 1 + 1 + 1 + 1 + 1 + 1 + 1 + 1 + 1 + 1 + 1 + 1 + 1 + 1 + 1 + 1 + 1 + 1 + 1 + 1 + 1 + 1 + 1 + 1 + 1 : Nat) : Int)) ((N + 1 + 1 + 1 + 1 + 1 + 1 + 1 + 1 + 1 + 1 + 1 + 1 + 1 + 1 + 1 + 1 + 1 + 1 + 1 + 1 + 1 + 1 + 1 + 1 + 1 + 1 + 1 + 1 + 1 : Nat) : Int) 104800) x 43 ((N + 1 + 1 + 1 + 1 + 1 + 1 + 1 + 1 + 1 + 1 + 1 + 1 + 1 + 1 + 1 + 1 + 1 + 1 + 1 + 1 + 1 + 1 + 1 + 1 + 1 + 1 + 1 + 1 + 1 : Nat) : Int)) ((N + 1 + 1 + 1 + 1 + 1 + 1 + 1 + 1 + 1 + 1 + 1 + 1 + 1 + 1 + 1 + 1 + 1 + 1 + 1 + 1 + 1 + 1 + 1 + 1 + 1 + 1 + 1 + 1 + 1 + 1 : Nat) : Int) 100150) x 44 ((N + 1 + 1 + 1 + 1 + 1 + 1 + 1 + 1 + 1 + 1 + 1 + 1 + 1 + 1 + 1 + 1 + 1 + 1 + 1 + 1 + 1 + 1 + 1 + 1 + 1 + 1 + 1 + 1 + 1 + 1 : Nat) : Int)) ((N + 1 + 1 + 1 + 1 + 1 + 1 + 1 + 1 + 1 + 1 + 1 + 1 + 1 + 1 + 1 + 1 + 1 + 1 + 1 + 1 + 1 + 1 + 1 + 1 + 1 + 1 + 1 + 1 + 1 + 1 + 1 : Nat) : Int) 109600) x 45 ((N + 1 + 1 + 1 + 1 + 1 + 1 + 1 + 1 + 1 + 1 + 1 + 1 + 1 + 1 + 1 + 1 + 1 + 1 + 1 + 1 + 1 + 1 + 1 + 1 + 1 + 1 + 1 + 1 + 1 + 1 + 1 : Nat) : Int)) ((N + 1 + 1 + 1 + 1 + 1 + 1 + 1 + 1 + 1 + 1 + 1 + 1 + 1 + 1 + 1 + 1 + 1 + 1 + 1 + 1 + 1 + 1 + 1 + 1 + 1 + 1 + 1 + 1 + 1 + 1 + 1 + 1 : Nat) : Int) 201212) x 47 ((N + 1 + 1 + 1 + 1 + 1 + 1 + 1 + 1 + 1 + 1 + 1 + 1 + 1 + 1 + 1 + 1 + 1 + 1 + 1 + 1 + 1 + 1 + 1 + 1 + 1 + 1 + 1 + 1 + 1 + 1 + 1 + 1 : Nat) : Int)) ((N + 1 + 1 + 1 + 1 + 1 + 1 + 1 + 1 + 1 + 1 + 1 + 1 + 1 + 1 + 1 + 1 + 1 + 1 + 1 + 1 + 1 + 1 + 1 + 1 + 1 + 1 + 1 + 1 + 1 + 1 + 1 + 1 + 1 : Nat) : Int) 109696) x 48 ((N + 1 + 1 + 1 + 1 + 1 + 1 + 1 + 1 + 1 + 1 + 1 + 1 + 1 + 1 + 1 + 1 + 1 + 1 + 1 + 1 + 1 + 1 + 1 + 1 + 1 + 1 + 1 + 1 + 1 + 1 + 1 + 1 + 1 : Nat) : Int)) ((N + 1 + 1 + 1 + 1 + 1 + 1 + 1 + 1 + 1 + 1 + 1 + 1 + 1 + 1 + 1 + 1 + 1 + 1 + 1 + 1 + 1 + 1 + 1 + 1 + 1 + 1 + 1 + 1 + 1 + 1 + 1 + 1 + 1 + 1 : Nat) : Int) 138784) x 49 ((N + 1 + 1 + 1 + 1 + 1 + 1 + 1 + 1 + 1 + 1 + 1 + 1 + 1 + 1 + 1 + 1 + 1 + 1 + 1 + 1 + 1 + 1 + 1 + 1 + 1 + 1 + 1 + 1 + 1 + 1 + 1 + 1 + 1 + 1 : Nat) : Int)) ((N + 1 + 1 + 1 + 1 + 1 + 1 + 1 + 1 + 1 + 1 + 1 + 1 + 1 + 1 + 1 + 1 + 1 + 1 + 1 + 1 + 1 + 1 + 1 + 1 + 1 + 1 + 1 + 1 + 1 + 1 + 1 + 1 + 1 + 1 + 1 : Nat) : Int) 100007) x 50 ((N + 1 + 1 + 1 + 1 + 1 + 1 + 1 + 1 + 1 + 1 + 1 + 1 + 1 + 1 + 1 + 1 + 1 + 1 + 1 + 1 + 1 + 1 + 1 + 1 + 1 + 1 + 1 + 1 + 1 + 1 + 1 + 1 + 1 + 1 + 1 : Nat) : Int)) ((N + 1 + 1 + 1 + 1 + 1 + 1 + 1 + 1 + 1 + 1 + 1 + 1 + 1 + 1 + 1 + 1 + 1 + 1 + 1 + 1 + 1 + 1 + 1 + 1 + 1 + 1 + 1 + 1 + 1 + 1 + 1 + 1 + 1 + 1 + 1 + 1 : Nat) : Int) 201212) x 51 ((N + 1 + 1 + 1 + 1 + 1 + 1 + 1 + 1 + 1 + 1 + 1 + 1 + 1 + 1 + 1 + 1 + 1 + 1 + 1 + 1 + 1 + 1 + 1 + 1 + 1 + 1 + 1 + 1 + 1 + 1 + 1 + 1 + 1 + 1 + 1 + 1 : Nat) : Int)) ((N + 1 + 1 + 1 + 1 + 1 + 1 + 1 + 1 + 1 + 1 + 1 + 1 + 1 + 1 + 1 + 1 + 1 + 1 + 1 + 1 + 1 + 1 + 1 + 1 + 1 + 1 + 1 + 1 + 1 + 1 + 1 + 1 + 1 + 1 + 1 + 1 + 1 : Nat) : Int) 101212) x 52 ((N + 1 + 1 + 1 + 1 + 1 + 1 + 1 + 1 + 1 + 1 + 1 + 1 + 1 + 1 + 1 + 1 + 1 + 1 + 1 + 1 + 1 + 1 + 1 + 1 + 1 + 1 + 1 + 1 + 1 + 1 + 1 + 1 + 1 + 1 + 1 + 1 + 1 : Nat) : Int)))))))))))))))))))))))))))))))))))))))))))))))))))))))))))))))))))))))))))))))))))))))))))))))))))))))))))))))))))))))))) : z_Y e false (d + 1) m_M_init [z_R x] N No σ Q :=
  z_ent k_M_init l_M_init rfl hN (z_blk k_M_init 163 0 rfl h)
end
section
/-! helpers of the pure part -/
theorem z_ckI {b : Bool} {P : Prop} (h : b = true) (hp : P) : z_ck b P := by subst h; exact hp
theorem z_ckT (P : Prop) : z_ck true P = P := rfl
theorem z_C_mono {e : z_E} {d y : Nat} {args : List z_V} {σ : z_M} {Q1 Q2 : Int → z_M → Prop} (h : z_C e d y args σ Q1) (hq : ∀ r σ', Q1 r σ' → Q2 r σ') : z_C e d y args σ Q2 := z_Y_mono hq h
theorem z_upd (σ : z_M) (a i v b j : Int) : z_up σ a i v b j = if b = a ∧ j = i then v else σ b j := rfl
theorem z_up_ne {σ : z_M} {a i v b j : Int} (h : b ≠ a ∨ j ≠ i) : z_up σ a i v b j = σ b j := by
  unfold z_up; rw [if_neg (by omega)]
theorem z_up_eq {σ : z_M} {a i v : Int} : z_up σ a i v a i = v := by unfold z_up; rw [if_pos ⟨rfl, rfl⟩]
end
section
/-! the constructors: the first memory -/
def z_nsl (kd : Nat) : Int := if kd < 100000 then (z_nf kd : Int) else ((kd % 100000 : Nat) : Int)
def z_m0k (kd : Nat) (a i : Int) : Int :=
  if kd < 100000 then (if kd = 5 ∧ i = 5 then 60 else if kd = 9 ∧ i = 24 then 60 else if kd = 9 ∧ i = 30 then 1 else if z_ft kd i.toNat = 2 then z_sr kd i.toNat a else if z_ft kd i.toNat = 1 then -1 else 0)
  else if kd < 300000 then 0 else if kd / 100000 = 6 then (if kd = 600101 then 11 + 2 * i else -1) else z_sa (kd / 100000) a i
def z_m0 (a i : Int) : Int := z_m0k (z_knd a) a i
/-- all cells below N hold what they hold in the end, but for what is yet to come -/
def z_q (N : Nat) (σ : z_M) (P : Int → Int → Prop) : Prop := ∀ (k i : Int), 0 ≤ k → k < (N : Int) → 0 ≤ i → i < z_nsl (z_knd k) → (P k i → σ k i = z_df (z_knd k) i) ∧ (¬ P k i → σ k i = z_m0 k i)
theorem z_q_nu {N kd : Nat} {σ : z_M} {P : Int → Int → Prop} (h : z_q N σ P) (hk : z_knd (N : Int) = kd) : z_q (N + 1) (z_nu σ (N : Int) kd) (fun k i => (P k i ∧ k < (N : Int)) ∨ k = (N : Int)) := by
  intro k i h1 h2 h3 h4
  unfold z_nu
  by_cases hn : k = (N : Int)
  · rw [if_pos hn]
    exact ⟨fun _ => by rw [hn, hk], fun w => absurd (Or.inr hn) w⟩
  · rw [if_neg hn]
    obtain ⟨g1, g2⟩ := h k i h1 (by omega) h3 h4
    exact ⟨fun w => g1 (w.resolve_right hn).1, fun w => g2 (fun q => w (Or.inl ⟨q, by omega⟩))⟩
theorem z_q_up {N : Nat} {σ : z_M} {P : Int → Int → Prop} {a j v : Int} (h : z_q N σ P) (hv : v = z_m0 a j) : z_q N (z_up σ a j v) (fun k i => P k i ∧ ¬ (k = a ∧ i = j)) := by
  intro k i h1 h2 h3 h4
  unfold z_up
  obtain ⟨g1, g2⟩ := h k i h1 h2 h3 h4
  by_cases hn : k = a ∧ i = j
  · rw [if_pos hn]
    exact ⟨fun w => absurd hn w.2, fun _ => by rw [hn.1, hn.2]; exact hv⟩
  · rw [if_neg hn]
    exact ⟨fun w => g1 w.1, fun w => g2 (fun q => w ⟨q, hn⟩)⟩
theorem z_q_w {N : Nat} {σ : z_M} {P P' : Int → Int → Prop} (h : z_q N σ P) (h2 : ∀ k i, 0 ≤ k → k < (N : Int) → 0 ≤ i → i < z_nsl (z_knd k) → (P' k i → P k i) ∧ (P k i → ¬ P' k i → z_df (z_knd k) i = z_m0 k i)) : z_q N σ P' := by
  intro k i a1 a2 a3 a4
  obtain ⟨g1, g2⟩ := h k i a1 a2 a3 a4
  obtain ⟨w1, w2⟩ := h2 k i a1 a2 a3 a4
  refine ⟨fun w => g1 (w1 w), fun w => ?_⟩
  by_cases hp : P k i
  · rw [g1 hp]; exact w2 hp w
  · exact g2 hp
theorem z_dm_arr {kd : Nat} {a i : Int} (h1 : ¬ kd < 100000) (h2 : kd < 300000) : z_df kd i = z_m0k kd a i := by
  unfold z_df z_m0k; rw [if_neg h1, if_pos h2, if_neg h1, if_pos h2]
theorem z_dm_obj {kd : Nat} {a i : Int} (h1 : kd < 100000) (h2 : z_ft kd i.toNat ≠ 2) (h3 : ¬ (kd = 5 ∧ i = 5)) (h4 : ¬ (kd = 9 ∧ i = 24)) (h5 : ¬ (kd = 9 ∧ i = 30)) (h6 : z_ft kd i.toNat ≤ 3) : z_df kd i = z_m0k kd a i := by
  unfold z_df z_m0k
  rw [if_pos h1, if_pos h1, if_neg h3, if_neg h4, if_neg h5, if_neg h2]
  by_cases h : z_ft kd i.toNat = 1
  · rw [if_pos h, if_neg (by omega)]
  · rw [if_neg h, if_pos (by omega)]
theorem z_oki {N kd : Nat} {x : Int} (h0 : 0 ≤ x) (h1 : x < (N : Int)) (hk : z_knd x = kd) : z_ok N kd x = true := by
  unfold z_ok; rw [hk]; simp [h0, h1]
theorem z_alI {N No kd n : Nat} (hk : z_knd (N : Int) = kd) (h1 : N + 1 ≤ No) (h2 : Nat.ble n 100000 = true) : (!false && (z_knd ((N : Nat) : Int) == kd) && Nat.ble (N + 1) No && Nat.ble n 100000) = true := by
  rw [hk, h2]; simp [h1]
theorem z_alO {N No kd : Nat} (hk : z_knd (N : Int) = kd) (h1 : N + 1 ≤ No) : (!false && (z_knd ((N : Nat) : Int) == kd) && Nat.ble (N + 1) No) = true := by
  rw [hk]; simp [h1]
theorem z_arI {b : Bool} {kd : Nat} (h : b = true) (hk : kd / 100000 = 6 ∨ True) : (b && (!false || kd / 100000 == 6)) = true := by subst h; rfl
theorem z_eqN {a b : Nat} (h : a = b) : (a == b) = true := by subst h; simp
section ZIN
variable {e : z_E} {d N : Nat} {x : Int} {σ : z_M}
theorem s_T_init (hd : 1 ≤ d) (hx : x = (N : Int) - 1) (h1 : 1 ≤ N) (hN : N < 740) (k0 : z_knd x = 6) (k1 : z_knd (N : Int) = 100100) (P : Int → Int → Prop) (h : z_q N σ (fun k i => (P k i ∧ k < x) ∨ k = x)) :
    z_Y e false (d + 1) m_T_init [z_R x] N (N + 1) σ (fun _ σ' => z_q (N + 1) σ' (fun k i => P k i ∧ k < x)) := by
  refine b_T_init_0 (by omega) ⟨hd, by omega, rfl, z_ckI (z_alI k1 (Nat.le_refl _) rfl) (z_ckI (z_oki (by omega) (by omega) k0) ⟨rfl, by unfold z_ir; omega, z_ckI (z_eqN rfl) ?_⟩)⟩
  refine z_q_w (z_q_up (z_q_nu h k1) (by unfold z_m0; rw [k0]; show (N : Int) = x + 1; omega)) (fun k i a1 a2 a3 a4 => ⟨fun w => ⟨Or.inl ⟨Or.inl w, by omega⟩, by omega⟩, fun w w2 => ?_⟩)
  obtain ⟨w3, w4⟩ := w
  unfold z_m0
  rcases w3 with ⟨w3 | w3, w5⟩ | w3
  · exact absurd w3 w2
  · subst w3
    rw [k0] at a4 ⊢
    have a4 : i < 3 := a4
    rcases (show i = 1 ∨ i = 2 by omega) with rfl | rfl <;> rfl
  · subst w3
    rw [k1]
    exact z_dm_arr (by omega) (by omega)
theorem s_K_init (hd : 1 ≤ d) (hx : x = (N : Int) - 1) (h1 : 1 ≤ N) (hN : N < 740) (k0 : z_knd x = 2) (k1 : z_knd (N : Int) = 100025) (P : Int → Int → Prop) (h : z_q N σ (fun k i => (P k i ∧ k < x) ∨ k = x)) :
    z_Y e false (d + 1) m_K_init [z_R x] N (N + 1) σ (fun _ σ' => z_q (N + 1) σ' (fun k i => P k i ∧ k < x)) := by
  refine b_K_init_0 (by omega) ⟨hd, by omega, rfl, z_ckI (z_alI k1 (Nat.le_refl _) rfl) (z_ckI (z_oki (by omega) (by omega) k0) ⟨rfl, by unfold z_ir; omega, z_ckI (z_eqN rfl) ?_⟩)⟩
  refine z_q_w (z_q_up (z_q_nu h k1) (by unfold z_m0; rw [k0]; show (N : Int) = x + 1; omega)) (fun k i a1 a2 a3 a4 => ⟨fun w => ⟨Or.inl ⟨Or.inl w, by omega⟩, by omega⟩, fun w w2 => ?_⟩)
  obtain ⟨w3, w4⟩ := w
  unfold z_m0
  rcases w3 with ⟨w3 | w3, w5⟩ | w3
  · exact absurd w3 w2
  · subst w3
    rw [k0] at a4 ⊢
    have a4 : i < 10 := a4
    rcases (show i = 1 ∨ i = 2 ∨ i = 3 ∨ i = 4 ∨ i = 5 ∨ i = 6 ∨ i = 7 ∨ i = 8 ∨ i = 9 by omega) with rfl | rfl | rfl | rfl | rfl | rfl | rfl | rfl | rfl <;> rfl
  · subst w3
    rw [k1]
    exact z_dm_arr (by omega) (by omega)
theorem s_F_init (hd : 1 ≤ d) (hx : x = (N : Int) - 1) (h1 : 1 ≤ N) (hN : N < 740) (k0 : z_knd x = 1) (k1 : z_knd (N : Int) = 100025) (k2 : z_knd ((N + 1 : Nat) : Int) = 100019) (P : Int → Int → Prop) (h : z_q N σ (fun k i => (P k i ∧ k < x) ∨ k = x)) :
    z_Y e false (d + 1) m_F_init [z_R x] N (N + 2) σ (fun _ σ' => z_q (N + 2) σ' (fun k i => P k i ∧ k < x)) := by
  refine b_F_init_0 (by omega) ⟨hd, by omega, rfl, z_ckI (z_alI k1 (by omega) rfl) (z_ckI (z_oki (by omega) (by omega) k0) ⟨rfl, by unfold z_ir; omega, rfl, z_ckI (z_alI k2 (Nat.le_refl _) rfl) (z_ckI (z_oki (by omega) (by omega) k0) ⟨rfl, by unfold z_ir; omega, z_ckI (z_eqN rfl) ?_⟩)⟩)⟩
  refine z_q_w (z_q_up (z_q_nu (z_q_up (z_q_nu h k1) (by unfold z_m0; rw [k0]; show (N : Int) = x + 1; omega)) k2) (by unfold z_m0; rw [k0]; show ((N + 1 : Nat) : Int) = x + 2; omega)) (fun k i a1 a2 a3 a4 => ⟨fun w => ⟨Or.inl ⟨⟨Or.inl ⟨Or.inl w, by omega⟩, by omega⟩, by omega⟩, by omega⟩, fun w w2 => ?_⟩)
  obtain ⟨w3, w4⟩ := w
  unfold z_m0
  rcases w3 with ⟨⟨⟨w3 | w3, w5⟩ | w3, w6⟩, w7⟩ | w3
  · exact absurd w3 w2
  · subst w3
    rw [k0] at a4 ⊢
    have a4 : i < 10 := a4
    rcases (show i = 2 ∨ i = 3 ∨ i = 4 ∨ i = 5 ∨ i = 6 ∨ i = 7 ∨ i = 8 ∨ i = 9 by omega) with rfl | rfl | rfl | rfl | rfl | rfl | rfl | rfl <;> rfl
  · subst w3
    rw [k1]
    exact z_dm_arr (by omega) (by omega)
  · subst w3
    rw [k2]
    exact z_dm_arr (by omega) (by omega)
theorem s_H_init (hd : 1 ≤ d) (P : Int → Int → Prop) (h : z_q 214 σ (fun k i => (P k i ∧ k < 213) ∨ k = 213)) :
    z_Y e false (d + 1) m_H_init [z_R 213] 214 216 σ (fun _ σ' => z_q 216 σ' (fun k i => P k i ∧ k < 213)) := by
  have k0 : z_knd 213 = 7 := by decide +kernel
  have k1 : z_knd ((214 : Nat) : Int) = 101212 := by decide +kernel
  have k2 : z_knd ((214 + 1 : Nat) : Int) = 101212 := by decide +kernel
  refine b_H_init_0 (by omega) ⟨hd, by omega, rfl, z_ckI (z_alI k1 (by omega) rfl) (z_ckI (z_oki (by omega) (by omega) k0) ⟨rfl, by unfold z_ir; omega, rfl, z_ckI (z_alI k2 (Nat.le_refl _) rfl) (z_ckI (z_oki (by omega) (by omega) k0) ⟨rfl, by unfold z_ir; omega, z_ckI (z_eqN rfl) ?_⟩)⟩)⟩
  refine z_q_w (z_q_up (z_q_nu (z_q_up (z_q_nu h k1) (by unfold z_m0; rw [k0]; rfl)) k2) (by unfold z_m0; rw [k0]; rfl)) (fun k i a1 a2 a3 a4 => ⟨fun w => ⟨Or.inl ⟨⟨Or.inl ⟨Or.inl w, by omega⟩, by omega⟩, by omega⟩, by omega⟩, fun w w2 => ?_⟩)
  obtain ⟨w3, w4⟩ := w
  unfold z_m0
  rcases w3 with ⟨⟨⟨w3 | w3, w5⟩ | w3, w6⟩, w7⟩ | w3
  · exact absurd w3 w2
  · subst w3
    rw [k0] at a4 ⊢
    have a4 : i < 3 := a4
    rcases (show i = 2 by omega) with rfl
    rfl
  · subst w3
    rw [k1]
    exact z_dm_arr (by omega) (by omega)
  · subst w3
    rw [k2]
    exact z_dm_arr (by omega) (by omega)
theorem s_R_init (hd : 2 ≤ d) (P : Int → Int → Prop) (h : z_q 4 σ (fun k i => (P k i ∧ k < 3) ∨ k = 3)) :
    z_Y e false (d + 1) m_R_init [z_R 3] 4 7 σ (fun _ σ' => z_q 7 σ' (fun k i => P k i ∧ k < 3)) := by
  have k0 : z_knd 3 = 3 := by decide +kernel
  have k1 : z_knd ((4 : Nat) : Int) = 100100 := by decide +kernel
  have k2 : z_knd ((4 + 1 : Nat) : Int) = 6 := by decide +kernel
  have k3 : z_knd ((4 + 1 + 1 : Nat) : Int) = 100100 := by decide +kernel
  obtain ⟨d', rfl⟩ : ∃ d', d = d' + 1 := ⟨d - 1, by omega⟩
  refine b_R_init_0 (by omega) ⟨by omega, by omega, rfl, z_ckI (z_alI k1 (by omega) rfl) (z_ckI (z_oki (by omega) (by omega) k0) ⟨rfl, by unfold z_ir; omega, z_ckI (z_alO k2 (by omega)) ⟨by omega, z_ckI rfl ?_⟩⟩)⟩
  refine z_Y_mono ?_ (s_T_init (by omega) (by omega) (by omega) (by omega) k2 k3 (fun k i => ((P k i ∧ k < 3) ∨ (k = 3 ∧ ¬ i = 0) ∨ k = 4)) (z_q_w (z_q_nu (z_q_up (z_q_nu h k1) (by unfold z_m0; rw [k0]; rfl)) k2) (fun k i a1 a2 a3 a4 => ⟨fun w => by by_cases hP : P k i <;> simp only [hP, true_and, false_and, false_or] at w ⊢ <;> omega, fun w w2 => absurd (by by_cases hP : P k i <;> simp only [hP, true_and, false_and, false_or] at w ⊢ <;> omega) w2⟩)))
  · intro r σ1 h1
    refine z_ckI (z_oki (by omega) (by omega) k0) ⟨rfl, by unfold z_ir; omega, z_ckI rfl ?_⟩
    refine z_q_w (z_q_up h1 (by unfold z_m0; rw [k0]; rfl)) (fun k i a1 a2 a3 a4 => ⟨fun w => ⟨⟨Or.inl w, by omega⟩, by omega⟩, fun w w2 => ?_⟩)
    unfold z_m0
    obtain ⟨⟨w3 | w3 | w3, w5⟩, w6⟩ := w
    · exact absurd w3 w2
    · obtain ⟨rfl, w7⟩ := w3
      rw [k0] at a4 ⊢
      have a4 : i < 6 := a4
      rcases (show i = 2 ∨ i = 3 ∨ i = 4 ∨ i = 5 by omega) with rfl | rfl | rfl | rfl <;> rfl
    · subst w3
      rw [show z_knd 4 = 100100 from k1]
      exact z_dm_arr (by omega) (by omega)
theorem s_U_loop {No Ni : Nat} (hd : 2 ≤ d) (hN : No = N + 91) (hN2 : No ≤ 740) (hx : x = (N : Int) - 1) (h1 : 1 ≤ N) (k0 : z_knd x = 4) (k1 : z_knd (N : Int) = 500030) (kf : ∀ j : Nat, j < 30 → z_knd ((N + 1 + 3 * j : Nat) : Int) = 1 ∧ z_knd ((N + 1 + 3 * j + 1 : Nat) : Int) = 100025 ∧ z_knd ((N + 1 + 3 * j + 2 : Nat) : Int) = 100019) (P : Int → Int → Prop) :
    ∀ (n j : Nat) (σ : z_M), n + j = 30 → z_q (N + 1 + 3 * j) σ (fun k i => (P k i ∧ k < x) ∨ (k = (N : Int) ∧ (j : Int) ≤ i)) → z_X e false d m_U_init Ni No 15 [some (z_R x), some (z_I (j : Int))] [] (N + 1 + 3 * j) σ (fun _ σ' => z_q No σ' (fun k i => P k i ∧ k < x)) := by
  intro n
  induction n with
  | zero =>
    intro j σ hj h
    obtain rfl : j = 30 := by omega
    refine b_U_init_15 ⟨fun _ => z_ckI (z_eqN (by omega)) ?_, fun w => by omega⟩
    rw [show No = N + 1 + 3 * 30 by omega]
    refine z_q_w h (fun k i a1 a2 a3 a4 => ⟨fun w => Or.inl w, fun w w2 => ?_⟩)
    rcases w with w | ⟨w3, w4⟩
    · exact absurd w w2
    · subst w3
      rw [k1] at a4
      have a4 : i < 30 := a4
      omega
  | succ n ih =>
    intro j σ hj h
    obtain ⟨d', rfl⟩ : ∃ d', d = d' + 1 := ⟨d - 1, by omega⟩
    obtain ⟨f0, f1, f2⟩ := kf j (by omega)
    have hσ : σ x 0 = (N : Int) := by
      refine ((h x 0 (by omega) (by omega) (by omega) (by rw [k0]; show (0 : Int) < 9; omega)).2 (by omega)).trans ?_
      unfold z_m0; rw [k0]; show x + 1 = _; omega
    refine b_U_init_15 ⟨fun w => by omega, fun _ => z_ckI (z_oki (by omega) (by omega) k0) (z_ckI (z_alO f0 (by omega)) ⟨by omega, z_ckI (by simp; omega) ?_⟩)⟩
    refine z_Y_mono ?_ (s_F_init (by omega) (by omega) (by omega) (by omega) f0 f1 f2 (fun k i => (P k i ∧ k < x) ∨ (k = (N : Int) ∧ (j : Int) ≤ i)) (z_q_w (z_q_nu h f0) (fun k i a1 a2 a3 a4 => ⟨fun w => w, fun w w2 => absurd w w2⟩)))
    intro r σ1 g1
    rw [hσ]
    refine z_ckI (z_arI (z_oki (by omega) (by omega) k1) (Or.inr trivial)) ⟨⟨by omega, by omega⟩, Or.inr (z_oki (by omega) (by omega) f0), by unfold z_ir; omega, ?_⟩
    rw [z_wr_id (by omega) (by omega), show ((j : Int) + 1) = ((j + 1 : Nat) : Int) by omega, show N + 1 + 3 * j + 1 + 2 = N + 1 + 3 * (j + 1) by omega]
    refine ih (j + 1) _ (by omega) ?_
    rw [show N + 1 + 3 * (j + 1) = N + 1 + 3 * j + 1 + 2 by omega]
    refine z_q_w (z_q_up g1 (by unfold z_m0; rw [k1]; show _ = (N : Int) + 1 + 3 * (j : Int); omega)) (fun k i a1 a2 a3 a4 => ⟨fun w => ?_, fun w w2 => absurd ?_ w2⟩)
    · by_cases hP : P k i <;> simp only [hP, true_and, false_and, false_or] at w ⊢ <;> omega
    · by_cases hP : P k i <;> simp only [hP, true_and, false_and, false_or] at w ⊢ <;> omega
theorem s_U_init (hd : 2 ≤ d) (hN : N + 91 ≤ 740) (hx : x = (N : Int) - 1) (h1 : 1 ≤ N) (k0 : z_knd x = 4) (k1 : z_knd (N : Int) = 500030) (kf : ∀ j : Nat, j < 30 → z_knd ((N + 1 + 3 * j : Nat) : Int) = 1 ∧ z_knd ((N + 1 + 3 * j + 1 : Nat) : Int) = 100025 ∧ z_knd ((N + 1 + 3 * j + 2 : Nat) : Int) = 100019) (P : Int → Int → Prop) (h : z_q N σ (fun k i => (P k i ∧ k < x) ∨ k = x)) :
    z_Y e false (d + 1) m_U_init [z_R x] N (N + 91) σ (fun _ σ' => z_q (N + 91) σ' (fun k i => P k i ∧ k < x)) := by
  refine b_U_init_0 (by omega) ⟨by omega, by omega, rfl, z_ckI (z_alI k1 (by omega) rfl) (z_ckI (z_oki (by omega) (by omega) k0) ⟨rfl, by unfold z_ir; omega, ?_⟩)⟩
  refine s_U_loop hd rfl hN hx h1 k0 k1 kf P 30 0 _ rfl ?_
  refine z_q_w (z_q_up (z_q_nu h k1) (by unfold z_m0; rw [k0]; show (N : Int) = x + 1; omega)) (fun k i a1 a2 a3 a4 => ⟨fun w => ?_, fun w w2 => ?_⟩)
  · by_cases hP : P k i <;> simp only [hP, true_and, false_and, false_or] at w ⊢ <;> omega
  · by_cases hk : k = x
    · subst hk
      unfold z_m0
      rw [k0] at a4 ⊢
      have a4 : i < 9 := a4
      have : ¬ i = 0 := by
        intro q; by_cases hP : P k i <;> simp only [hP, true_and, false_and, false_or] at w <;> omega
      rcases (show i = 1 ∨ i = 2 ∨ i = 3 ∨ i = 4 ∨ i = 5 ∨ i = 6 ∨ i = 7 ∨ i = 8 by omega) with rfl | rfl | rfl | rfl | rfl | rfl | rfl | rfl <;> rfl
    · exfalso
      by_cases hP : P k i <;> simp only [hP, true_and, false_and, false_or] at w w2 <;> omega
end ZIN
end
section
section ZI2
variable {e : z_E} {d : Nat}
theorem z_k_kept : ∀ j : Nat, j < 101 → z_knd ((11 + 2 * j : Nat) : Int) = 2 ∧ z_knd ((11 + 2 * j + 1 : Nat) : Int) = 100025 := by decide +kernel
theorem s_S_loop {Ni : Nat} (hd : 2 ≤ d) (P : Int → Int → Prop) :
    ∀ (n j : Nat) (σ : z_M), n + j = 101 → z_q (11 + 2 * j) σ (fun k i => (P k i ∧ k < 7) ∨ (k = 8 ∧ (j : Int) ≤ i)) → z_X e false d m_S_init Ni 213 39 [some (z_R 7), some (z_I (j : Int))] [] (11 + 2 * j) σ (fun _ σ' => z_q 213 σ' (fun k i => P k i ∧ k < 7)) := by
  have k0 : z_knd 7 = 5 := by decide +kernel
  have k1 : z_knd 8 = 600101 := by decide +kernel
  intro n
  induction n with
  | zero =>
    intro j σ hj h
    obtain rfl : j = 101 := by omega
    refine b_S_init_39 ⟨fun _ => z_ckI (z_eqN (by omega)) ?_, fun w => by omega⟩
    refine z_q_w h (fun k i a1 a2 a3 a4 => ⟨fun w => Or.inl w, fun w w2 => ?_⟩)
    rcases w with w | ⟨w3, w4⟩
    · exact absurd w w2
    · subst w3
      rw [k1] at a4
      have a4 : i < 101 := a4
      omega
  | succ n ih =>
    intro j σ hj h
    obtain ⟨d', rfl⟩ : ∃ d', d = d' + 1 := ⟨d - 1, by omega⟩
    obtain ⟨f0, f1⟩ := z_k_kept j (by omega)
    have hσ : σ 7 0 = 8 := by
      refine ((h 7 0 (by omega) (by omega) (by omega) (by rw [k0]; show (0 : Int) < 11; omega)).2 (by omega)).trans ?_
      unfold z_m0; rw [k0]; rfl
    refine b_S_init_39 ⟨fun w => by omega, fun _ => z_ckI (z_oki (by omega) (by omega) k0) (z_ckI (z_alO f0 (by omega)) ⟨by omega, z_ckI (by simp; omega) ?_⟩)⟩
    refine z_Y_mono ?_ (s_K_init (by omega) (by omega) (by omega) (by omega) f0 f1 (fun k i => (P k i ∧ k < 7) ∨ (k = 8 ∧ (j : Int) ≤ i)) (z_q_w (z_q_nu h f0) (fun k i a1 a2 a3 a4 => ⟨fun w => w, fun w w2 => absurd w w2⟩)))
    intro r σ1 g1
    rw [hσ]
    refine z_ckI (z_arI (z_oki (by omega) (by omega) k1) (Or.inr trivial)) ⟨⟨by omega, by omega⟩, Or.inr (z_oki (by omega) (by omega) f0), by unfold z_ir; omega, ?_⟩
    rw [z_wr_id (by omega) (by omega), show ((j : Int) + 1) = ((j + 1 : Nat) : Int) by omega, show 11 + 2 * j + 1 + 1 = 11 + 2 * (j + 1) by omega]
    refine ih (j + 1) _ (by omega) ?_
    rw [show 11 + 2 * (j + 1) = 11 + 2 * j + 1 + 1 by omega]
    refine z_q_w (z_q_up g1 (by unfold z_m0; rw [k1]; show _ = 11 + 2 * (j : Int); omega)) (fun k i a1 a2 a3 a4 => ⟨fun w => ?_, fun w w2 => absurd ?_ w2⟩)
    · by_cases hP : P k i <;> simp only [hP, true_and, false_and, false_or] at w ⊢ <;> omega
    · by_cases hP : P k i <;> simp only [hP, true_and, false_and, false_or] at w ⊢ <;> omega
theorem s_S_init {σ : z_M} (hd : 2 ≤ d) (P : Int → Int → Prop) (h : z_q 8 σ (fun k i => (P k i ∧ k < 7) ∨ k = 7)) :
    z_Y e false (d + 1) m_S_init [z_R 7] 8 213 σ (fun _ σ' => z_q 213 σ' (fun k i => P k i ∧ k < 7)) := by
  have k0 : z_knd 7 = 5 := by decide +kernel
  have k1 : z_knd ((8 : Nat) : Int) = 600101 := by decide +kernel
  have k2 : z_knd ((8 + 1 : Nat) : Int) = 100101 := by decide +kernel
  have k3 : z_knd ((8 + 1 + 1 : Nat) : Int) = 601212 := by decide +kernel
  refine b_S_init_0 (by omega) ⟨by omega, by omega, rfl, z_ckI (z_alI k1 (by omega) rfl) (z_ckI (z_oki (by omega) (by omega) k0) ⟨rfl, by unfold z_ir; omega, rfl, z_ckI (z_alI k2 (by omega) rfl) (z_ckI (z_oki (by omega) (by omega) k0) ⟨rfl, by unfold z_ir; omega, z_ckI (z_oki (by omega) (by omega) k0) ⟨rfl, z_ckI (z_alI k3 (by omega) rfl) (z_ckI (z_oki (by omega) (by omega) k0) ⟨rfl, by unfold z_ir; omega, ?_⟩)⟩⟩)⟩)⟩
  refine s_S_loop hd P 101 0 _ rfl ?_
  refine z_q_w (z_q_up (z_q_nu (z_q_up (z_q_up (z_q_nu (z_q_up (z_q_nu h k1) (by unfold z_m0; rw [k0]; rfl)) k2) (by unfold z_m0; rw [k0]; rfl)) (by unfold z_m0; rw [k0]; rfl)) k3) (by unfold z_m0; rw [k0]; rfl)) (fun k i a1 a2 a3 a4 => ⟨fun w => ?_, fun w w2 => ?_⟩)
  · by_cases hP : P k i <;> simp only [hP, true_and, false_and, false_or] at w ⊢ <;> omega
  · by_cases hk : k = 7
    · subst hk
      unfold z_m0
      rw [k0] at a4 ⊢
      have a4 : i < 11 := a4
      have : ¬ i = 0 ∧ ¬ i = 1 ∧ ¬ i = 5 ∧ ¬ i = 10 := by
        by_cases hP : P 7 i <;> simp only [hP, true_and, false_and, false_or] at w <;> omega
      rcases (show i = 2 ∨ i = 3 ∨ i = 4 ∨ i = 6 ∨ i = 7 ∨ i = 8 ∨ i = 9 by omega) with rfl | rfl | rfl | rfl | rfl | rfl | rfl <;> rfl
    · unfold z_m0
      have : k = 9 ∨ k = 10 := by
        by_cases hP : P k i <;> simp only [hP, true_and, false_and, false_or] at w w2 <;> omega
      rcases this with rfl | rfl
      · rw [show z_knd 9 = 100101 from k2]; exact z_dm_arr (by omega) (by omega)
      · rw [show z_knd 10 = 601212 from k3]; rfl
end ZI2
end
section
section ZI3
variable {e : z_E} {d : Nat}
theorem z_k_text : ∀ j : Nat, j < 12 → z_knd ((309 + 2 * j : Nat) : Int) = 6 ∧ z_knd ((309 + 2 * j + 1 : Nat) : Int) = 100100 := by decide +kernel
theorem z_k_task : ∀ t : Nat, t < 4 → z_knd ((333 + 92 * t : Nat) : Int) = 4 ∧ z_knd ((333 + 92 * t + 1 : Nat) : Int) = 500030 ∧ ∀ j : Nat, j < 30 → z_knd ((333 + 92 * t + 1 + 1 + 3 * j : Nat) : Int) = 1 ∧ z_knd ((333 + 92 * t + 1 + 1 + 3 * j + 1 : Nat) : Int) = 100025 ∧ z_knd ((333 + 92 * t + 1 + 1 + 3 * j + 2 : Nat) : Int) = 100019 := by decide +kernel
theorem z_k_ask : ∀ j : Nat, j < 30 → z_knd ((217 + 1 + 3 * j : Nat) : Int) = 1 ∧ z_knd ((217 + 1 + 3 * j + 1 : Nat) : Int) = 100025 ∧ z_knd ((217 + 1 + 3 * j + 2 : Nat) : Int) = 100019 := by decide +kernel
theorem s_C_loop2 {Ni : Nat} (hd : 3 ≤ d) :
    ∀ (n j : Nat) (σ : z_M), n + j = 4 → z_q (333 + 92 * j) σ (fun k i => k = 308 ∧ (j : Int) ≤ i) → z_X e false d m_C_init Ni 701 102 [some (z_R 0), some (z_I (j : Int))] [] (333 + 92 * j) σ (fun _ σ' => z_q 701 σ' (fun _ _ => False)) := by
  have k0 : z_knd 0 = 8 := by decide +kernel
  have k1 : z_knd 308 = 400004 := by decide +kernel
  intro n
  induction n with
  | zero =>
    intro j σ hj h
    obtain rfl : j = 4 := by omega
    refine b_C_init_102 ⟨fun _ => z_ckI (z_eqN (by omega)) ?_, fun w => by omega⟩
    refine z_q_w h (fun k i a1 a2 a3 a4 => ⟨fun w => w.elim, fun w w2 => ?_⟩)
    obtain ⟨w3, w4⟩ := w
    subst w3
    rw [k1] at a4
    have a4 : i < 4 := a4
    omega
  | succ n ih =>
    intro j σ hj h
    obtain ⟨d', rfl⟩ : ∃ d', d = d' + 1 := ⟨d - 1, by omega⟩
    obtain ⟨f0, f1, f2⟩ := z_k_task j (by omega)
    have hσ : σ 0 6 = 308 := by
      refine ((h 0 6 (by omega) (by omega) (by omega) (by rw [k0]; show (6 : Int) < 13; omega)).2 (by omega)).trans ?_
      unfold z_m0; rw [k0]; rfl
    refine b_C_init_102 ⟨fun w => by omega, fun _ => z_ckI (z_oki (by omega) (by omega) k0) (z_ckI (z_alO f0 (by omega)) ⟨by omega, z_ckI (by simp; omega) ?_⟩)⟩
    refine z_Y_mono ?_ (s_U_init (by omega) (by omega) (by omega) (by omega) f0 f1 f2 (fun k i => k = 308 ∧ (j : Int) ≤ i) (z_q_w (z_q_nu h f0) (fun k i a1 a2 a3 a4 => ⟨fun w => by omega, fun w w2 => absurd (by omega) w2⟩)))
    intro r σ1 g1
    rw [hσ]
    refine z_ckI (z_arI (z_oki (by omega) (by omega) k1) (Or.inr trivial)) ⟨⟨by omega, by omega⟩, Or.inr (z_oki (by omega) (by omega) f0), by unfold z_ir; omega, ?_⟩
    rw [z_wr_id (by omega) (by omega), show ((j : Int) + 1) = ((j + 1 : Nat) : Int) by omega, show 333 + 92 * j + 1 + 91 = 333 + 92 * (j + 1) by omega]
    refine ih (j + 1) _ (by omega) ?_
    rw [show 333 + 92 * (j + 1) = 333 + 92 * j + 1 + 91 by omega]
    refine z_q_w (z_q_up g1 (by unfold z_m0; rw [k1]; show _ = 333 + 92 * (j : Int); omega)) (fun k i a1 a2 a3 a4 => ⟨fun w => by omega, fun w w2 => absurd (by omega) w2⟩)
theorem s_C_loop1 {Ni : Nat} (hd : 3 ≤ d) :
    ∀ (n j : Nat) (σ : z_M), n + j = 12 → z_q (309 + 2 * j) σ (fun k i => (k = 2 ∧ (j : Int) ≤ i) ∨ k = 308) → z_X e false d m_C_init Ni 701 75 [some (z_R 0), some (z_I (j : Int))] [] (309 + 2 * j) σ (fun _ σ' => z_q 701 σ' (fun _ _ => False)) := by
  have k0 : z_knd 0 = 8 := by decide +kernel
  have k1 : z_knd 2 = 300012 := by decide +kernel
  intro n
  induction n with
  | zero =>
    intro j σ hj h
    obtain rfl : j = 12 := by omega
    refine b_C_init_75 ⟨fun _ => ?_, fun w => by omega⟩
    refine s_C_loop2 hd 4 0 σ rfl (z_q_w h (fun k i a1 a2 a3 a4 => ⟨fun w => by omega, fun w w2 => ?_⟩))
    rcases w with ⟨w3, w4⟩ | w
    · subst w3
      rw [k1] at a4
      have a4 : i < 12 := a4
      omega
    · omega
  | succ n ih =>
    intro j σ hj h
    obtain ⟨d', rfl⟩ : ∃ d', d = d' + 1 := ⟨d - 1, by omega⟩
    obtain ⟨f0, f1⟩ := z_k_text j (by omega)
    have hσ : σ 0 1 = 2 := by
      refine ((h 0 1 (by omega) (by omega) (by omega) (by rw [k0]; show (1 : Int) < 13; omega)).2 (by omega)).trans ?_
      unfold z_m0; rw [k0]; rfl
    refine b_C_init_75 ⟨fun w => by omega, fun _ => z_ckI (z_oki (by omega) (by omega) k0) (z_ckI (z_alO f0 (by omega)) ⟨by omega, z_ckI (by simp; omega) ?_⟩)⟩
    refine z_Y_mono ?_ (s_T_init (by omega) (by omega) (by omega) (by omega) f0 f1 (fun k i => (k = 2 ∧ (j : Int) ≤ i) ∨ k = 308) (z_q_w (z_q_nu h f0) (fun k i a1 a2 a3 a4 => ⟨fun w => by omega, fun w w2 => absurd (by omega) w2⟩)))
    intro r σ1 g1
    rw [hσ]
    refine z_ckI (z_arI (z_oki (by omega) (by omega) k1) (Or.inr trivial)) ⟨⟨by omega, by omega⟩, Or.inr (z_oki (by omega) (by omega) f0), by unfold z_ir; omega, ?_⟩
    rw [z_wr_id (by omega) (by omega), show ((j : Int) + 1) = ((j + 1 : Nat) : Int) by omega, show 309 + 2 * j + 1 + 1 = 309 + 2 * (j + 1) by omega]
    refine ih (j + 1) _ (by omega) ?_
    rw [show 309 + 2 * (j + 1) = 309 + 2 * j + 1 + 1 by omega]
    refine z_q_w (z_q_up g1 (by unfold z_m0; rw [k1]; show _ = 309 + 2 * (j : Int); omega)) (fun k i a1 a2 a3 a4 => ⟨fun w => by omega, fun w w2 => absurd (by omega) w2⟩)
theorem s_C_init {σ : z_M} (hd : 4 ≤ d) (h : z_q 1 σ (fun k _ => k = 0)) :
    z_Y e false (d + 1) m_C_init [z_R 0] 1 701 σ (fun _ σ' => z_q 701 σ' (fun _ _ => False)) := by
  have k0 : z_knd 0 = 8 := by decide +kernel
  have k1 : z_knd ((1 : Nat) : Int) = 100012 := by decide +kernel
  have k2 : z_knd ((1 + 1 : Nat) : Int) = 300012 := by decide +kernel
  have k3 : z_knd ((1 + 1 + 1 : Nat) : Int) = 3 := by decide +kernel
  have k7 : z_knd ((1 + 1 + 1 + 1 + 3 : Nat) : Int) = 5 := by decide +kernel
  have k213 : z_knd ((1 + 1 + 1 + 1 + 3 + 1 + 205 : Nat) : Int) = 7 := by decide +kernel
  have k216 : z_knd ((1 + 1 + 1 + 1 + 3 + 1 + 205 + 1 + 2 : Nat) : Int) = 4 := by decide +kernel
  have k217 : z_knd ((217 : Nat) : Int) = 500030 := by decide +kernel
  have k308 : z_knd ((1 + 1 + 1 + 1 + 3 + 1 + 205 + 1 + 2 + 1 + 91 : Nat) : Int) = 400004 := by decide +kernel
  obtain ⟨d', rfl⟩ : ∃ d', d = d' + 1 := ⟨d - 1, by omega⟩
  refine b_C_init_0 (by omega) ⟨by omega, by omega, rfl, z_ckI (z_alI k1 (by omega) rfl) (z_ckI (z_oki (by omega) (by omega) k0) ⟨rfl, by unfold z_ir; omega, rfl, z_ckI (z_alI k2 (by omega) rfl) (z_ckI (z_oki (by omega) (by omega) k0) ⟨rfl, by unfold z_ir; omega, z_ckI (z_alO k3 (by omega)) ⟨by omega, z_ckI (by simp) ?_⟩⟩)⟩)⟩
  refine z_Y_mono ?_ (s_R_init (by omega) (fun k i => (k = 0 ∧ ¬ i = 0 ∧ ¬ i = 1) ∨ k = 2) (z_q_w (z_q_nu (z_q_up (z_q_nu (z_q_up (z_q_nu h k1) (by unfold z_m0; rw [k0]; rfl)) k2) (by unfold z_m0; rw [k0]; rfl)) k3) (fun k i a1 a2 a3 a4 => ⟨fun w => by omega, fun w w2 => ?_⟩)))
  · intro r σ1 g1
    refine z_ckI (z_oki (by omega) (by omega) k0) ⟨rfl, by unfold z_ir; omega, z_ckI (z_alO k7 (by omega)) ⟨by omega, z_ckI (by simp) ?_⟩⟩
    refine z_Y_mono ?_ (s_S_init (by omega) (fun k i => (k = 0 ∧ ¬ i = 0 ∧ ¬ i = 1 ∧ ¬ i = 2) ∨ k = 2) (z_q_w (z_q_nu (z_q_up g1 (by unfold z_m0; rw [k0]; rfl)) k7) (fun k i a1 a2 a3 a4 => ⟨fun w => by omega, fun w w2 => absurd (by omega) w2⟩)))
    intro r σ2 g2
    refine z_ckI (z_oki (by omega) (by omega) k0) ⟨rfl, by unfold z_ir; omega, z_ckI (z_alO k213 (by omega)) ⟨by omega, z_ckI (by simp) ?_⟩⟩
    refine z_Y_mono ?_ (s_H_init (by omega) (fun k i => (k = 0 ∧ ¬ i = 0 ∧ ¬ i = 1 ∧ ¬ i = 2 ∧ ¬ i = 3) ∨ k = 2) (z_q_w (z_q_nu (z_q_up g2 (by unfold z_m0; rw [k0]; rfl)) k213) (fun k i a1 a2 a3 a4 => ⟨fun w => by omega, fun w w2 => absurd (by omega) w2⟩)))
    intro r σ3 g3
    refine z_ckI (z_oki (by omega) (by omega) k0) ⟨rfl, by unfold z_ir; omega, z_ckI (z_alO k216 (by omega)) ⟨by omega, z_ckI (by simp) ?_⟩⟩
    refine z_Y_mono ?_ (s_U_init (N := 217) (by omega) (by omega) (by omega) (by omega) k216 k217 z_k_ask (fun k i => (k = 0 ∧ ¬ i = 0 ∧ ¬ i = 1 ∧ ¬ i = 2 ∧ ¬ i = 3 ∧ ¬ i = 4) ∨ k = 2) (z_q_w (z_q_nu (z_q_up g3 (by unfold z_m0; rw [k0]; rfl)) k216) (fun k i a1 a2 a3 a4 => ⟨fun w => by omega, fun w w2 => absurd (by omega) w2⟩)))
    intro r σ4 g4
    refine z_ckI (z_oki (by omega) (by omega) k0) ⟨rfl, by unfold z_ir; omega, rfl, z_ckI (z_alI k308 (by omega) rfl) (z_ckI (z_oki (by omega) (by omega) k0) ⟨rfl, by unfold z_ir; omega, ?_⟩)⟩
    refine s_C_loop1 (by omega) 12 0 _ rfl ?_
    refine z_q_w (z_q_up (z_q_nu (z_q_up g4 (by unfold z_m0; rw [k0]; rfl)) k308) (by unfold z_m0; rw [k0]; rfl)) (fun k i a1 a2 a3 a4 => ⟨fun w => by omega, fun w w2 => ?_⟩)
    have hk : k = 0 := by omega
    subst hk
    unfold z_m0
    rw [k0] at a4 ⊢
    have a4 : i < 13 := a4
    rcases (show i = 7 ∨ i = 8 ∨ i = 9 ∨ i = 10 ∨ i = 11 ∨ i = 12 by omega) with rfl | rfl | rfl | rfl | rfl | rfl <;> rfl
  · have hk : k = 1 := by omega
    subst hk
    unfold z_m0
    rw [show z_knd 1 = 100012 from k1]
    exact z_dm_arr (by omega) (by omega)
end ZI3
end
section
section ZI4
variable {e : z_E} {d : Nat}
theorem z_k_marr : ∀ j : Nat, j < 38 → ¬ z_knd ((702 + j : Nat) : Int) < 100000 ∧ z_knd ((702 + j : Nat) : Int) < 300000 := by decide +kernel
theorem z_q_arr {N kd : Nat} {σ : z_M} {P : Int → Prop} {j : Int} (h : z_q N σ (fun k i => k = 701 ∧ P i)) (hk : z_knd (N : Int) = kd) (h1 : ¬ kd < 100000) (h2 : kd < 300000) (hN : 702 ≤ N) (hv : (N : Int) = z_m0 701 j) : z_q (N + 1) (z_up (z_nu σ (N : Int) kd) 701 j (N : Int)) (fun k i => k = 701 ∧ (P i ∧ ¬ i = j)) := by
  refine z_q_w (z_q_up (z_q_nu h hk) hv) (fun k i a1 a2 a3 a4 => ⟨fun w => ⟨Or.inl ⟨⟨w.1, w.2.1⟩, by omega⟩, fun q => w.2.2 q.2⟩, fun w w2 => ?_⟩)
  obtain ⟨w3, w4⟩ := w
  rcases w3 with ⟨⟨w3, w5⟩, w6⟩ | w3
  · exact absurd ⟨w3, w5, fun q => w4 ⟨w3, q⟩⟩ w2
  · subst w3
    unfold z_m0
    rw [hk]
    exact z_dm_arr h1 h2
theorem z_q_int {N : Nat} {σ : z_M} {P : Int → Prop} {j v : Int} (h : z_q N σ (fun k i => k = 701 ∧ P i)) (hv : v = z_m0 701 j) : z_q N (z_up σ 701 j v) (fun k i => k = 701 ∧ (P i ∧ ¬ i = j)) := by
  refine z_q_w (z_q_up h hv) (fun k i a1 a2 a3 a4 => ⟨fun w => ⟨⟨w.1, w.2.1⟩, fun q => w.2.2 q.2⟩, fun w w2 => ?_⟩)
  exact absurd ⟨w.1.1, w.1.2, fun q => w.2 ⟨w.1.1, q⟩⟩ w2
set_option maxRecDepth 20000 in
set_option maxHeartbeats 4000000 in
theorem s_M_init {σ : z_M} (hd : 1 ≤ d) (h : z_q 702 σ (fun k _ => k = 701)) : z_Y e false (d + 1) m_M_init [z_R 701] 702 740 σ (fun _ σ' => z_q 740 σ' (fun _ _ => False)) := by
  have k0 : z_knd 701 = 9 := by decide +kernel
  have k1 : z_knd ((702 : Nat) : Int) = 100012 := by decide +kernel
  have k2 : z_knd ((702 + 1 : Nat) : Int) = 100100 := by decide +kernel
  have k3 : z_knd ((702 + 1 + 1 : Nat) : Int) = 104800 := by decide +kernel
  have k4 : z_knd ((702 + 1 + 1 + 1 : Nat) : Int) = 100012 := by decide +kernel
  have k5 : z_knd ((702 + 1 + 1 + 1 + 1 : Nat) : Int) = 100400 := by decide +kernel
  have k6 : z_knd ((702 + 1 + 1 + 1 + 1 + 1 : Nat) : Int) = 201212 := by decide +kernel
  have k7 : z_knd ((702 + 1 + 1 + 1 + 1 + 1 + 1 : Nat) : Int) = 101212 := by decide +kernel
  have k8 : z_knd ((702 + 1 + 1 + 1 + 1 + 1 + 1 + 1 : Nat) : Int) = 101212 := by decide +kernel
  have k9 : z_knd ((702 + 1 + 1 + 1 + 1 + 1 + 1 + 1 + 1 : Nat) : Int) = 101212 := by decide +kernel
  have k10 : z_knd ((702 + 1 + 1 + 1 + 1 + 1 + 1 + 1 + 1 + 1 : Nat) : Int) = 101212 := by decide +kernel
  have k11 : z_knd ((702 + 1 + 1 + 1 + 1 + 1 + 1 + 1 + 1 + 1 + 1 : Nat) : Int) = 101212 := by decide +kernel
  have k12 : z_knd ((702 + 1 + 1 + 1 + 1 + 1 + 1 + 1 + 1 + 1 + 1 + 1 : Nat) : Int) = 101212 := by decide +kernel
  have k13 : z_knd ((702 + 1 + 1 + 1 + 1 + 1 + 1 + 1 + 1 + 1 + 1 + 1 + 1 : Nat) : Int) = 101212 := by decide +kernel
  have k14 : z_knd ((702 + 1 + 1 + 1 + 1 + 1 + 1 + 1 + 1 + 1 + 1 + 1 + 1 + 1 : Nat) : Int) = 101212 := by decide +kernel
  have k15 : z_knd ((702 + 1 + 1 + 1 + 1 + 1 + 1 + 1 + 1 + 1 + 1 + 1 + 1 + 1 + 1 : Nat) : Int) = 138784 := by decide +kernel
  have k16 : z_knd ((702 + 1 + 1 + 1 + 1 + 1 + 1 + 1 + 1 + 1 + 1 + 1 + 1 + 1 + 1 + 1 : Nat) : Int) = 100007 := by decide +kernel
  have k17 : z_knd ((702 + 1 + 1 + 1 + 1 + 1 + 1 + 1 + 1 + 1 + 1 + 1 + 1 + 1 + 1 + 1 + 1 : Nat) : Int) = 101212 := by decide +kernel
  have k18 : z_knd ((702 + 1 + 1 + 1 + 1 + 1 + 1 + 1 + 1 + 1 + 1 + 1 + 1 + 1 + 1 + 1 + 1 + 1 : Nat) : Int) = 100005 := by decide +kernel
  have k19 : z_knd ((702 + 1 + 1 + 1 + 1 + 1 + 1 + 1 + 1 + 1 + 1 + 1 + 1 + 1 + 1 + 1 + 1 + 1 + 1 : Nat) : Int) = 100005 := by decide +kernel
  have k20 : z_knd ((702 + 1 + 1 + 1 + 1 + 1 + 1 + 1 + 1 + 1 + 1 + 1 + 1 + 1 + 1 + 1 + 1 + 1 + 1 + 1 : Nat) : Int) = 100005 := by decide +kernel
  have k21 : z_knd ((702 + 1 + 1 + 1 + 1 + 1 + 1 + 1 + 1 + 1 + 1 + 1 + 1 + 1 + 1 + 1 + 1 + 1 + 1 + 1 + 1 : Nat) : Int) = 100005 := by decide +kernel
  have k22 : z_knd ((702 + 1 + 1 + 1 + 1 + 1 + 1 + 1 + 1 + 1 + 1 + 1 + 1 + 1 + 1 + 1 + 1 + 1 + 1 + 1 + 1 + 1 : Nat) : Int) = 100005 := by decide +kernel
  have k23 : z_knd ((702 + 1 + 1 + 1 + 1 + 1 + 1 + 1 + 1 + 1 + 1 + 1 + 1 + 1 + 1 + 1 + 1 + 1 + 1 + 1 + 1 + 1 + 1 : Nat) : Int) = 100005 := by decide +kernel
  have k24 : z_knd ((702 + 1 + 1 + 1 + 1 + 1 + 1 + 1 + 1 + 1 + 1 + 1 + 1 + 1 + 1 + 1 + 1 + 1 + 1 + 1 + 1 + 1 + 1 + 1 : Nat) : Int) = 100150 := by decide +kernel
  have k25 : z_knd ((702 + 1 + 1 + 1 + 1 + 1 + 1 + 1 + 1 + 1 + 1 + 1 + 1 + 1 + 1 + 1 + 1 + 1 + 1 + 1 + 1 + 1 + 1 + 1 + 1 : Nat) : Int) = 100150 := by decide +kernel
  have k26 : z_knd ((702 + 1 + 1 + 1 + 1 + 1 + 1 + 1 + 1 + 1 + 1 + 1 + 1 + 1 + 1 + 1 + 1 + 1 + 1 + 1 + 1 + 1 + 1 + 1 + 1 + 1 : Nat) : Int) = 100150 := by decide +kernel
  have k27 : z_knd ((702 + 1 + 1 + 1 + 1 + 1 + 1 + 1 + 1 + 1 + 1 + 1 + 1 + 1 + 1 + 1 + 1 + 1 + 1 + 1 + 1 + 1 + 1 + 1 + 1 + 1 + 1 : Nat) : Int) = 100150 := by decide +kernel
  have k28 : z_knd ((702 + 1 + 1 + 1 + 1 + 1 + 1 + 1 + 1 + 1 + 1 + 1 + 1 + 1 + 1 + 1 + 1 + 1 + 1 + 1 + 1 + 1 + 1 + 1 + 1 + 1 + 1 + 1 : Nat) : Int) = 100150 := by decide +kernel
  have k29 : z_knd ((702 + 1 + 1 + 1 + 1 + 1 + 1 + 1 + 1 + 1 + 1 + 1 + 1 + 1 + 1 + 1 + 1 + 1 + 1 + 1 + 1 + 1 + 1 + 1 + 1 + 1 + 1 + 1 + 1 : Nat) : Int) = 100150 := by decide +kernel
  have k30 : z_knd ((702 + 1 + 1 + 1 + 1 + 1 + 1 + 1 + 1 + 1 + 1 + 1 + 1 + 1 + 1 + 1 + 1 + 1 + 1 + 1 + 1 + 1 + 1 + 1 + 1 + 1 + 1 + 1 + 1 + 1 : Nat) : Int) = 104800 := by decide +kernel
  have k31 : z_knd ((702 + 1 + 1 + 1 + 1 + 1 + 1 + 1 + 1 + 1 + 1 + 1 + 1 + 1 + 1 + 1 + 1 + 1 + 1 + 1 + 1 + 1 + 1 + 1 + 1 + 1 + 1 + 1 + 1 + 1 + 1 : Nat) : Int) = 100150 := by decide +kernel
  have k32 : z_knd ((702 + 1 + 1 + 1 + 1 + 1 + 1 + 1 + 1 + 1 + 1 + 1 + 1 + 1 + 1 + 1 + 1 + 1 + 1 + 1 + 1 + 1 + 1 + 1 + 1 + 1 + 1 + 1 + 1 + 1 + 1 + 1 : Nat) : Int) = 109600 := by decide +kernel
  have k33 : z_knd ((702 + 1 + 1 + 1 + 1 + 1 + 1 + 1 + 1 + 1 + 1 + 1 + 1 + 1 + 1 + 1 + 1 + 1 + 1 + 1 + 1 + 1 + 1 + 1 + 1 + 1 + 1 + 1 + 1 + 1 + 1 + 1 + 1 : Nat) : Int) = 201212 := by decide +kernel
  have k34 : z_knd ((702 + 1 + 1 + 1 + 1 + 1 + 1 + 1 + 1 + 1 + 1 + 1 + 1 + 1 + 1 + 1 + 1 + 1 + 1 + 1 + 1 + 1 + 1 + 1 + 1 + 1 + 1 + 1 + 1 + 1 + 1 + 1 + 1 + 1 : Nat) : Int) = 109696 := by decide +kernel
  have k35 : z_knd ((702 + 1 + 1 + 1 + 1 + 1 + 1 + 1 + 1 + 1 + 1 + 1 + 1 + 1 + 1 + 1 + 1 + 1 + 1 + 1 + 1 + 1 + 1 + 1 + 1 + 1 + 1 + 1 + 1 + 1 + 1 + 1 + 1 + 1 + 1 : Nat) : Int) = 138784 := by decide +kernel
  have k36 : z_knd ((702 + 1 + 1 + 1 + 1 + 1 + 1 + 1 + 1 + 1 + 1 + 1 + 1 + 1 + 1 + 1 + 1 + 1 + 1 + 1 + 1 + 1 + 1 + 1 + 1 + 1 + 1 + 1 + 1 + 1 + 1 + 1 + 1 + 1 + 1 + 1 : Nat) : Int) = 100007 := by decide +kernel
  have k37 : z_knd ((702 + 1 + 1 + 1 + 1 + 1 + 1 + 1 + 1 + 1 + 1 + 1 + 1 + 1 + 1 + 1 + 1 + 1 + 1 + 1 + 1 + 1 + 1 + 1 + 1 + 1 + 1 + 1 + 1 + 1 + 1 + 1 + 1 + 1 + 1 + 1 + 1 : Nat) : Int) = 201212 := by decide +kernel
  have k38 : z_knd ((702 + 1 + 1 + 1 + 1 + 1 + 1 + 1 + 1 + 1 + 1 + 1 + 1 + 1 + 1 + 1 + 1 + 1 + 1 + 1 + 1 + 1 + 1 + 1 + 1 + 1 + 1 + 1 + 1 + 1 + 1 + 1 + 1 + 1 + 1 + 1 + 1 + 1 : Nat) : Int) = 101212 := by decide +kernel
  refine b_M_init_0 (by omega) ⟨hd, by omega, ⟨rfl, z_ckI (z_alI k1 (by omega) rfl) (z_ckI (z_oki (by omega) (by omega) k0) ⟨rfl, by unfold z_ir; omega, ⟨rfl, z_ckI (z_alI k2 (by omega) rfl) (z_ckI (z_oki (by omega) (by omega) k0) ⟨rfl, by unfold z_ir; omega, ⟨rfl, z_ckI (z_alI k3 (by omega) rfl) (z_ckI (z_oki (by omega) (by omega) k0) ⟨rfl, by unfold z_ir; omega, ⟨rfl, z_ckI (z_alI k4 (by omega) rfl) (z_ckI (z_oki (by omega) (by omega) k0) ⟨rfl, by unfold z_ir; omega, ⟨rfl, z_ckI (z_alI k5 (by omega) rfl) (z_ckI (z_oki (by omega) (by omega) k0) ⟨rfl, by unfold z_ir; omega, ⟨rfl, z_ckI (z_alI k6 (by omega) rfl) (z_ckI (z_oki (by omega) (by omega) k0) ⟨rfl, by unfold z_ir; omega, ⟨rfl, z_ckI (z_alI k7 (by omega) rfl) (z_ckI (z_oki (by omega) (by omega) k0) ⟨rfl, by unfold z_ir; omega, ⟨rfl, z_ckI (z_alI k8 (by omega) rfl) (z_ckI (z_oki (by omega) (by omega) k0) ⟨rfl, by unfold z_ir; omega, ⟨rfl, z_ckI (z_alI k9 (by omega) rfl) (z_ckI (z_oki (by omega) (by omega) k0) ⟨rfl, by unfold z_ir; omega, ⟨rfl, z_ckI (z_alI k10 (by omega) rfl) (z_ckI (z_oki (by omega) (by omega) k0) ⟨rfl, by unfold z_ir; omega, ⟨rfl, z_ckI (z_alI k11 (by omega) rfl) (z_ckI (z_oki (by omega) (by omega) k0) ⟨rfl, by unfold z_ir; omega, ⟨rfl, z_ckI (z_alI k12 (by omega) rfl) (z_ckI (z_oki (by omega) (by omega) k0) ⟨rfl, by unfold z_ir; omega, ⟨rfl, z_ckI (z_alI k13 (by omega) rfl) (z_ckI (z_oki (by omega) (by omega) k0) ⟨rfl, by unfold z_ir; omega, ⟨rfl, z_ckI (z_alI k14 (by omega) rfl) (z_ckI (z_oki (by omega) (by omega) k0) ⟨rfl, by unfold z_ir; omega, ⟨rfl, z_ckI (z_alI k15 (by omega) rfl) (z_ckI (z_oki (by omega) (by omega) k0) ⟨rfl, by unfold z_ir; omega, z_ckI (z_oki (by omega) (by omega) k0) (⟨rfl, z_ckI (z_alI k16 (by omega) rfl) (z_ckI (z_oki (by omega) (by omega) k0) ⟨rfl, by unfold z_ir; omega, ⟨rfl, z_ckI (z_alI k17 (by omega) rfl) (z_ckI (z_oki (by omega) (by omega) k0) ⟨rfl, by unfold z_ir; omega, z_ckI (z_oki (by omega) (by omega) k0) ⟨Or.inr rfl, ⟨rfl, z_ckI (z_alI k18 (by omega) rfl) (z_ckI (z_oki (by omega) (by omega) k0) ⟨rfl, by unfold z_ir; omega, ⟨rfl, z_ckI (z_alI k19 (by omega) rfl) (z_ckI (z_oki (by omega) (by omega) k0) ⟨rfl, by unfold z_ir; omega, ⟨rfl, z_ckI (z_alI k20 (by omega) rfl) (z_ckI (z_oki (by omega) (by omega) k0) ⟨rfl, by unfold z_ir; omega, ⟨rfl, z_ckI (z_alI k21 (by omega) rfl) (z_ckI (z_oki (by omega) (by omega) k0) ⟨rfl, by unfold z_ir; omega, ⟨rfl, z_ckI (z_alI k22 (by omega) rfl) (z_ckI (z_oki (by omega) (by omega) k0) ⟨rfl, by unfold z_ir; omega, ⟨rfl, z_ckI (z_alI k23 (by omega) rfl) (z_ckI (z_oki (by omega) (by omega) k0) ⟨rfl, by unfold z_ir; omega, ⟨rfl, z_ckI (z_alI k24 (by omega) rfl) (z_ckI (z_oki (by omega) (by omega) k0) ⟨rfl, by unfold z_ir; omega, ⟨rfl, z_ckI (z_alI k25 (by omega) rfl) (z_ckI (z_oki (by omega) (by omega) k0) ⟨rfl, by unfold z_ir; omega, ⟨rfl, z_ckI (z_alI k26 (by omega) rfl) (z_ckI (z_oki (by omega) (by omega) k0) ⟨rfl, by unfold z_ir; omega, ⟨rfl, z_ckI (z_alI k27 (by omega) rfl) (z_ckI (z_oki (by omega) (by omega) k0) ⟨rfl, by unfold z_ir; omega, ⟨rfl, z_ckI (z_alI k28 (by omega) rfl) (z_ckI (z_oki (by omega) (by omega) k0) ⟨rfl, by unfold z_ir; omega, ⟨rfl, z_ckI (z_alI k29 (by omega) rfl) (z_ckI (z_oki (by omega) (by omega) k0) ⟨rfl, by unfold z_ir; omega, ⟨rfl, z_ckI (z_alI k30 (by omega) rfl) (z_ckI (z_oki (by omega) (by omega) k0) ⟨rfl, by unfold z_ir; omega, ⟨rfl, z_ckI (z_alI k31 (by omega) rfl) (z_ckI (z_oki (by omega) (by omega) k0) ⟨rfl, by unfold z_ir; omega, ⟨rfl, z_ckI (z_alI k32 (by omega) rfl) (z_ckI (z_oki (by omega) (by omega) k0) ⟨rfl, by unfold z_ir; omega, ⟨rfl, z_ckI (z_alI k33 (by omega) rfl) (z_ckI (z_oki (by omega) (by omega) k0) ⟨rfl, by unfold z_ir; omega, ⟨rfl, z_ckI (z_alI k34 (by omega) rfl) (z_ckI (z_oki (by omega) (by omega) k0) ⟨rfl, by unfold z_ir; omega, ⟨rfl, z_ckI (z_alI k35 (by omega) rfl) (z_ckI (z_oki (by omega) (by omega) k0) ⟨rfl, by unfold z_ir; omega, ⟨rfl, z_ckI (z_alI k36 (by omega) rfl) (z_ckI (z_oki (by omega) (by omega) k0) ⟨rfl, by unfold z_ir; omega, ⟨rfl, z_ckI (z_alI k37 (by omega) rfl) (z_ckI (z_oki (by omega) (by omega) k0) ⟨rfl, by unfold z_ir; omega, ⟨rfl, z_ckI (z_alI k38 (by omega) rfl) (z_ckI (z_oki (by omega) (by omega) k0) ⟨rfl, by unfold z_ir; omega, z_ckI (z_eqN rfl) ?_⟩)⟩⟩)⟩⟩)⟩⟩)⟩⟩)⟩⟩)⟩⟩)⟩⟩)⟩⟩)⟩⟩)⟩⟩)⟩⟩)⟩⟩)⟩⟩)⟩⟩)⟩⟩)⟩⟩)⟩⟩)⟩⟩)⟩⟩)⟩⟩)⟩⟩⟩)⟩⟩)⟩)⟩)⟩⟩)⟩⟩)⟩⟩)⟩⟩)⟩⟩)⟩⟩)⟩⟩)⟩⟩)⟩⟩)⟩⟩)⟩⟩)⟩⟩)⟩⟩)⟩⟩)⟩⟩
  refine z_q_w (z_q_arr (z_q_arr (z_q_arr (z_q_arr (z_q_arr (z_q_arr (z_q_arr (z_q_arr (z_q_arr (z_q_arr (z_q_arr (z_q_arr (z_q_arr (z_q_arr (z_q_arr (z_q_arr (z_q_arr (z_q_arr (z_q_arr (z_q_arr (z_q_arr (z_q_int (z_q_arr (z_q_arr (z_q_int (z_q_arr (z_q_arr (z_q_arr (z_q_arr (z_q_arr (z_q_arr (z_q_arr (z_q_arr (z_q_arr (z_q_arr (z_q_arr (z_q_arr (z_q_arr (z_q_arr (z_q_arr (z_q_w h (P' := fun k i => k = 701 ∧ True) (fun k i _ _ _ _ => ⟨fun w => w.1, fun w w2 => absurd ⟨w, trivial⟩ w2⟩)) k1 (by omega) (by omega) (by omega) (by unfold z_m0; rw [k0]; rfl)) k2 (by omega) (by omega) (by omega) (by unfold z_m0; rw [k0]; rfl)) k3 (by omega) (by omega) (by omega) (by unfold z_m0; rw [k0]; rfl)) k4 (by omega) (by omega) (by omega) (by unfold z_m0; rw [k0]; rfl)) k5 (by omega) (by omega) (by omega) (by unfold z_m0; rw [k0]; rfl)) k6 (by omega) (by omega) (by omega) (by unfold z_m0; rw [k0]; rfl)) k7 (by omega) (by omega) (by omega) (by unfold z_m0; rw [k0]; rfl)) k8 (by omega) (by omega) (by omega) (by unfold z_m0; rw [k0]; rfl)) k9 (by omega) (by omega) (by omega) (by unfold z_m0; rw [k0]; rfl)) k10 (by omega) (by omega) (by omega) (by unfold z_m0; rw [k0]; rfl)) k11 (by omega) (by omega) (by omega) (by unfold z_m0; rw [k0]; rfl)) k12 (by omega) (by omega) (by omega) (by unfold z_m0; rw [k0]; rfl)) k13 (by omega) (by omega) (by omega) (by unfold z_m0; rw [k0]; rfl)) k14 (by omega) (by omega) (by omega) (by unfold z_m0; rw [k0]; rfl)) k15 (by omega) (by omega) (by omega) (by unfold z_m0; rw [k0]; rfl)) (by unfold z_m0; rw [k0]; rfl)) k16 (by omega) (by omega) (by omega) (by unfold z_m0; rw [k0]; rfl)) k17 (by omega) (by omega) (by omega) (by unfold z_m0; rw [k0]; rfl)) (by unfold z_m0; rw [k0]; rfl)) k18 (by omega) (by omega) (by omega) (by unfold z_m0; rw [k0]; rfl)) k19 (by omega) (by omega) (by omega) (by unfold z_m0; rw [k0]; rfl)) k20 (by omega) (by omega) (by omega) (by unfold z_m0; rw [k0]; rfl)) k21 (by omega) (by omega) (by omega) (by unfold z_m0; rw [k0]; rfl)) k22 (by omega) (by omega) (by omega) (by unfold z_m0; rw [k0]; rfl)) k23 (by omega) (by omega) (by omega) (by unfold z_m0; rw [k0]; rfl)) k24 (by omega) (by omega) (by omega) (by unfold z_m0; rw [k0]; rfl)) k25 (by omega) (by omega) (by omega) (by unfold z_m0; rw [k0]; rfl)) k26 (by omega) (by omega) (by omega) (by unfold z_m0; rw [k0]; rfl)) k27 (by omega) (by omega) (by omega) (by unfold z_m0; rw [k0]; rfl)) k28 (by omega) (by omega) (by omega) (by unfold z_m0; rw [k0]; rfl)) k29 (by omega) (by omega) (by omega) (by unfold z_m0; rw [k0]; rfl)) k30 (by omega) (by omega) (by omega) (by unfold z_m0; rw [k0]; rfl)) k31 (by omega) (by omega) (by omega) (by unfold z_m0; rw [k0]; rfl)) k32 (by omega) (by omega) (by omega) (by unfold z_m0; rw [k0]; rfl)) k33 (by omega) (by omega) (by omega) (by unfold z_m0; rw [k0]; rfl)) k34 (by omega) (by omega) (by omega) (by unfold z_m0; rw [k0]; rfl)) k35 (by omega) (by omega) (by omega) (by unfold z_m0; rw [k0]; rfl)) k36 (by omega) (by omega) (by omega) (by unfold z_m0; rw [k0]; rfl)) k37 (by omega) (by omega) (by omega) (by unfold z_m0; rw [k0]; rfl)) k38 (by omega) (by omega) (by omega) (by unfold z_m0; rw [k0]; rfl)) (fun k i a1 a2 a3 a4 => ⟨fun w => w.elim, fun w w2 => ?_⟩)
  unfold z_m0
  obtain ⟨hk, w⟩ := w
  subst hk
  rw [k0] at a4 ⊢
  have a4 : i < 53 := a4
  simp only [true_and] at w
  rcases (show i = 2 ∨ i = 6 ∨ i = 7 ∨ i = 8 ∨ i = 9 ∨ i = 10 ∨ i = 21 ∨ i = 22 ∨ i = 23 ∨ i = 25 ∨ i = 26 ∨ i = 29 ∨ i = 46 by omega) with rfl | rfl | rfl | rfl | rfl | rfl | rfl | rfl | rfl | rfl | rfl | rfl | rfl <;> rfl
end ZI4
end
section
/-! THE CLAIM OUT OF ONE WALK OF THE LAW'S BODY. Your part is whole_start (and what it stands on); all else here is the same for every law, but numbers. -/
def R_law : String := "MemoByWeightLaw"
def lw_P (b : Addr) (xs : List Int32) (args : Array Value) (s : State) : Prop := args = #[.ref b] ∧ s.IntsAt b xs ∧ xs.length ≤ 2048 ∧ (Jvm.Cond.and given_1 narrow_1).before args s = true
def lw_Q (_ : Array Value) (s : State) (o : Outcome) (t : State) : Prop := o = .returned (some (.int 1)) ∧ Framed s o t [] 600000 7302250
def lw_Z (below : List Frame) (a : Array Value) (s : State) : State → Prop := fun t => ∃ o, t.status = .running ∧ Ended t below o ∧ lw_Q a s o t
/-- the law's own end, with 1 on the stack, nothing written that was there before, its room as the claim has it -/
theorem lw_ret {p : Program} {l : Launch} {e : Env} {s : State} {m : MethodId} {below : List Frame} {meth : Method} {c : Code} {b : Nat} (hx : p.tables.exec = Jvm.exec) (hb : c.code = code) (hr : meth.sig.returnType = ret) (hlocks : meth.locks = false) {pc : Nat} {H : Heap} {ls : Array Slot} (hdg : decode code pc = .ok (.ireturn, 1)) : W p l e room_1 s m #[Value.ref b] below meth c H [] 600000 7302250 (lw_Z below #[Value.ref b] s) (F0 m pc ls [.int 1]) := by
  intro T hT X
  obtain ⟨fs, hret, hrun, hended, hW, hframe⟩ := X.leave (v := some (.int 1)) (hlocks := hlocks) (fun h => by rw [hr] at h; cases h)
  have hmeth' : T.vm.method? m = some meth := X.method'
  refine ⟨T.setFrames fs, ?_, .returned (some (.int 1)), hrun, hended, rfl, ⟨_, rfl⟩, hW, hframe⟩
  jvm_step X.here [X.here.top, hx, hb, hdg, hmeth', hr, ret, narrow_b1]
  (try refine ⟨rfl, ?_⟩); (try refine ⟨rfl, ?_⟩)
  first | (intro acts; rw [hret _ acts rfl rfl rfl]) | rw [hret _ _ rfl rfl rfl]
  exact Steps.refl _
/-- what holds at the law's entry: the machine, the code, the tables' words (any of lw_tbl by 'hts w (by decide +kernel)'), the script of L ints xs at the cell b, what the Statement gives of the start (any of its parts by flat_of_before) -/
def lw_At (p : Program) (s : State) (m : MethodId) (meth : Method) (c : Code) (b L : Nat) (xs : Nat → Int32) : Prop :=
  p.tables.exec = Jvm.exec ∧ c.code = code ∧ meth.sig.returnType = ret ∧ c.maxLocals = 4 ∧ s.vm.findClass R_law = some m.cls ∧ (∀ w ∈ lw_tbl, w.before #[Value.ref b] s = true) ∧ va_X b L xs s s.heap ∧ b < s.heap.size ∧ meth.locks = false ∧ (Jvm.Cond.and given_1 narrow_1).before #[Value.ref b] s = true
end
section
/-! the law: its instructions: printed by program (wip/whole/gen/law.py) -/
theorem dl_0 : decode code 0 = .ok (.new 7, 3) := by decide +kernel
theorem dl_3 : decode code 3 = .ok (.dup, 1) := by decide +kernel
theorem dl_4 : decode code 4 = .ok (.invokespecial 9, 3) := by decide +kernel
theorem dl_7 : decode code 7 = .ok (.astore_n 1, 1) := by decide +kernel
theorem dl_8 : decode code 8 = .ok (.new 10, 3) := by decide +kernel
theorem dl_11 : decode code 11 = .ok (.dup, 1) := by decide +kernel
theorem dl_12 : decode code 12 = .ok (.invokespecial 12, 3) := by decide +kernel
theorem dl_15 : decode code 15 = .ok (.astore_n 2, 1) := by decide +kernel
theorem dl_16 : decode code 16 = .ok (.iconst 0, 1) := by decide +kernel
theorem dl_17 : decode code 17 = .ok (.istore_n 3, 1) := by decide +kernel
theorem dl_18 : decode code 18 = .ok (.iload_n 3, 1) := by decide +kernel
theorem dl_19 : decode code 19 = .ok (.aload_n 0, 1) := by decide +kernel
theorem dl_20 : decode code 20 = .ok (.arraylength, 1) := by decide +kernel
theorem dl_21 : decode code 21 = .ok (.iconst 4, 1) := by decide +kernel
theorem dl_22 : decode code 22 = .ok (.isub, 1) := by decide +kernel
theorem dl_23 : decode code 23 = .ok (.if_icmp .gt 813, 3) := by decide +kernel
theorem dl_26 : decode code 26 = .ok (.aload_n 0, 1) := by decide +kernel
theorem dl_27 : decode code 27 = .ok (.iload_n 3, 1) := by decide +kernel
theorem dl_28 : decode code 28 = .ok (.iaload, 1) := by decide +kernel
theorem dl_29 : decode code 29 = .ok (.bipush 31, 2) := by decide +kernel
theorem dl_31 : decode code 31 = .ok (.iand, 1) := by decide +kernel
theorem dl_32 : decode code 32 = .ok (.tableswitch 798 0 25 #[120, 143, 166, 189, 222, 245, 278, 311, 324, 347, 370, 403, 436, 469, 492, 515, 538, 561, 574, 587, 630, 663, 686, 719, 752, 775], 120) := by decide +kernel
theorem dl_152 : decode code 152 = .ok (.aload_n 1, 1) := by decide +kernel
theorem dl_153 : decode code 153 = .ok (.aload_n 0, 1) := by decide +kernel
theorem dl_154 : decode code 154 = .ok (.iload_n 3, 1) := by decide +kernel
theorem dl_155 : decode code 155 = .ok (.iconst 1, 1) := by decide +kernel
theorem dl_156 : decode code 156 = .ok (.iadd, 1) := by decide +kernel
theorem dl_157 : decode code 157 = .ok (.iaload, 1) := by decide +kernel
theorem dl_158 : decode code 158 = .ok (.invokevirtual 13, 3) := by decide +kernel
theorem dl_161 : decode code 161 = .ok (.aload_n 2, 1) := by decide +kernel
theorem dl_162 : decode code 162 = .ok (.aload_n 0, 1) := by decide +kernel
theorem dl_163 : decode code 163 = .ok (.iload_n 3, 1) := by decide +kernel
theorem dl_164 : decode code 164 = .ok (.iconst 1, 1) := by decide +kernel
theorem dl_165 : decode code 165 = .ok (.iadd, 1) := by decide +kernel
theorem dl_166 : decode code 166 = .ok (.iaload, 1) := by decide +kernel
theorem dl_167 : decode code 167 = .ok (.invokevirtual 17, 3) := by decide +kernel
theorem dl_170 : decode code 170 = .ok (.if_icmp .eq 660, 3) := by decide +kernel
theorem dl_173 : decode code 173 = .ok (.iconst 0, 1) := by decide +kernel
theorem dl_174 : decode code 174 = .ok (.ireturn, 1) := by decide +kernel
theorem dl_175 : decode code 175 = .ok (.aload_n 1, 1) := by decide +kernel
theorem dl_176 : decode code 176 = .ok (.aload_n 0, 1) := by decide +kernel
theorem dl_177 : decode code 177 = .ok (.iload_n 3, 1) := by decide +kernel
theorem dl_178 : decode code 178 = .ok (.iconst 1, 1) := by decide +kernel
theorem dl_179 : decode code 179 = .ok (.iadd, 1) := by decide +kernel
theorem dl_180 : decode code 180 = .ok (.iaload, 1) := by decide +kernel
theorem dl_181 : decode code 181 = .ok (.invokevirtual 18, 3) := by decide +kernel
theorem dl_184 : decode code 184 = .ok (.aload_n 2, 1) := by decide +kernel
theorem dl_185 : decode code 185 = .ok (.aload_n 0, 1) := by decide +kernel
theorem dl_186 : decode code 186 = .ok (.iload_n 3, 1) := by decide +kernel
theorem dl_187 : decode code 187 = .ok (.iconst 1, 1) := by decide +kernel
theorem dl_188 : decode code 188 = .ok (.iadd, 1) := by decide +kernel
theorem dl_189 : decode code 189 = .ok (.iaload, 1) := by decide +kernel
theorem dl_190 : decode code 190 = .ok (.invokevirtual 21, 3) := by decide +kernel
theorem dl_193 : decode code 193 = .ok (.if_icmp .eq 637, 3) := by decide +kernel
theorem dl_196 : decode code 196 = .ok (.iconst 0, 1) := by decide +kernel
theorem dl_197 : decode code 197 = .ok (.ireturn, 1) := by decide +kernel
theorem dl_198 : decode code 198 = .ok (.aload_n 1, 1) := by decide +kernel
theorem dl_199 : decode code 199 = .ok (.aload_n 0, 1) := by decide +kernel
theorem dl_200 : decode code 200 = .ok (.iload_n 3, 1) := by decide +kernel
theorem dl_201 : decode code 201 = .ok (.iconst 1, 1) := by decide +kernel
theorem dl_202 : decode code 202 = .ok (.iadd, 1) := by decide +kernel
theorem dl_203 : decode code 203 = .ok (.iaload, 1) := by decide +kernel
theorem dl_204 : decode code 204 = .ok (.invokevirtual 22, 3) := by decide +kernel
theorem dl_207 : decode code 207 = .ok (.aload_n 2, 1) := by decide +kernel
theorem dl_208 : decode code 208 = .ok (.aload_n 0, 1) := by decide +kernel
theorem dl_209 : decode code 209 = .ok (.iload_n 3, 1) := by decide +kernel
theorem dl_210 : decode code 210 = .ok (.iconst 1, 1) := by decide +kernel
theorem dl_211 : decode code 211 = .ok (.iadd, 1) := by decide +kernel
theorem dl_212 : decode code 212 = .ok (.iaload, 1) := by decide +kernel
theorem dl_213 : decode code 213 = .ok (.invokevirtual 25, 3) := by decide +kernel
theorem dl_216 : decode code 216 = .ok (.if_icmp .eq 614, 3) := by decide +kernel
theorem dl_219 : decode code 219 = .ok (.iconst 0, 1) := by decide +kernel
theorem dl_220 : decode code 220 = .ok (.ireturn, 1) := by decide +kernel
theorem dl_221 : decode code 221 = .ok (.aload_n 1, 1) := by decide +kernel
theorem dl_222 : decode code 222 = .ok (.aload_n 0, 1) := by decide +kernel
theorem dl_223 : decode code 223 = .ok (.iload_n 3, 1) := by decide +kernel
theorem dl_224 : decode code 224 = .ok (.iconst 1, 1) := by decide +kernel
theorem dl_225 : decode code 225 = .ok (.iadd, 1) := by decide +kernel
theorem dl_226 : decode code 226 = .ok (.iaload, 1) := by decide +kernel
theorem dl_227 : decode code 227 = .ok (.aload_n 0, 1) := by decide +kernel
theorem dl_228 : decode code 228 = .ok (.iload_n 3, 1) := by decide +kernel
theorem dl_229 : decode code 229 = .ok (.iconst 2, 1) := by decide +kernel
theorem dl_230 : decode code 230 = .ok (.iadd, 1) := by decide +kernel
theorem dl_231 : decode code 231 = .ok (.iaload, 1) := by decide +kernel
theorem dl_232 : decode code 232 = .ok (.invokevirtual 26, 3) := by decide +kernel
theorem dl_235 : decode code 235 = .ok (.aload_n 2, 1) := by decide +kernel
theorem dl_236 : decode code 236 = .ok (.aload_n 0, 1) := by decide +kernel
theorem dl_237 : decode code 237 = .ok (.iload_n 3, 1) := by decide +kernel
theorem dl_238 : decode code 238 = .ok (.iconst 1, 1) := by decide +kernel
theorem dl_239 : decode code 239 = .ok (.iadd, 1) := by decide +kernel
theorem dl_240 : decode code 240 = .ok (.iaload, 1) := by decide +kernel
theorem dl_241 : decode code 241 = .ok (.aload_n 0, 1) := by decide +kernel
theorem dl_242 : decode code 242 = .ok (.iload_n 3, 1) := by decide +kernel
theorem dl_243 : decode code 243 = .ok (.iconst 2, 1) := by decide +kernel
theorem dl_244 : decode code 244 = .ok (.iadd, 1) := by decide +kernel
theorem dl_245 : decode code 245 = .ok (.iaload, 1) := by decide +kernel
theorem dl_246 : decode code 246 = .ok (.invokevirtual 30, 3) := by decide +kernel
theorem dl_249 : decode code 249 = .ok (.if_icmp .eq 581, 3) := by decide +kernel
theorem dl_252 : decode code 252 = .ok (.iconst 0, 1) := by decide +kernel
theorem dl_253 : decode code 253 = .ok (.ireturn, 1) := by decide +kernel
theorem dl_254 : decode code 254 = .ok (.aload_n 1, 1) := by decide +kernel
theorem dl_255 : decode code 255 = .ok (.aload_n 0, 1) := by decide +kernel
theorem dl_256 : decode code 256 = .ok (.iload_n 3, 1) := by decide +kernel
theorem dl_257 : decode code 257 = .ok (.iconst 1, 1) := by decide +kernel
theorem dl_258 : decode code 258 = .ok (.iadd, 1) := by decide +kernel
theorem dl_259 : decode code 259 = .ok (.iaload, 1) := by decide +kernel
theorem dl_260 : decode code 260 = .ok (.invokevirtual 31, 3) := by decide +kernel
theorem dl_263 : decode code 263 = .ok (.aload_n 2, 1) := by decide +kernel
theorem dl_264 : decode code 264 = .ok (.aload_n 0, 1) := by decide +kernel
theorem dl_265 : decode code 265 = .ok (.iload_n 3, 1) := by decide +kernel
theorem dl_266 : decode code 266 = .ok (.iconst 1, 1) := by decide +kernel
theorem dl_267 : decode code 267 = .ok (.iadd, 1) := by decide +kernel
theorem dl_268 : decode code 268 = .ok (.iaload, 1) := by decide +kernel
theorem dl_269 : decode code 269 = .ok (.invokevirtual 34, 3) := by decide +kernel
theorem dl_272 : decode code 272 = .ok (.if_icmp .eq 558, 3) := by decide +kernel
theorem dl_275 : decode code 275 = .ok (.iconst 0, 1) := by decide +kernel
theorem dl_276 : decode code 276 = .ok (.ireturn, 1) := by decide +kernel
theorem dl_277 : decode code 277 = .ok (.aload_n 1, 1) := by decide +kernel
theorem dl_278 : decode code 278 = .ok (.aload_n 0, 1) := by decide +kernel
theorem dl_279 : decode code 279 = .ok (.iload_n 3, 1) := by decide +kernel
theorem dl_280 : decode code 280 = .ok (.iconst 1, 1) := by decide +kernel
theorem dl_281 : decode code 281 = .ok (.iadd, 1) := by decide +kernel
theorem dl_282 : decode code 282 = .ok (.iaload, 1) := by decide +kernel
theorem dl_283 : decode code 283 = .ok (.aload_n 0, 1) := by decide +kernel
theorem dl_284 : decode code 284 = .ok (.iload_n 3, 1) := by decide +kernel
theorem dl_285 : decode code 285 = .ok (.iconst 2, 1) := by decide +kernel
theorem dl_286 : decode code 286 = .ok (.iadd, 1) := by decide +kernel
theorem dl_287 : decode code 287 = .ok (.iaload, 1) := by decide +kernel
theorem dl_288 : decode code 288 = .ok (.invokevirtual 35, 3) := by decide +kernel
theorem dl_291 : decode code 291 = .ok (.aload_n 2, 1) := by decide +kernel
theorem dl_292 : decode code 292 = .ok (.aload_n 0, 1) := by decide +kernel
theorem dl_293 : decode code 293 = .ok (.iload_n 3, 1) := by decide +kernel
theorem dl_294 : decode code 294 = .ok (.iconst 1, 1) := by decide +kernel
theorem dl_295 : decode code 295 = .ok (.iadd, 1) := by decide +kernel
theorem dl_296 : decode code 296 = .ok (.iaload, 1) := by decide +kernel
theorem dl_297 : decode code 297 = .ok (.aload_n 0, 1) := by decide +kernel
theorem dl_298 : decode code 298 = .ok (.iload_n 3, 1) := by decide +kernel
theorem dl_299 : decode code 299 = .ok (.iconst 2, 1) := by decide +kernel
theorem dl_300 : decode code 300 = .ok (.iadd, 1) := by decide +kernel
theorem dl_301 : decode code 301 = .ok (.iaload, 1) := by decide +kernel
theorem dl_302 : decode code 302 = .ok (.invokevirtual 38, 3) := by decide +kernel
theorem dl_305 : decode code 305 = .ok (.if_icmp .eq 525, 3) := by decide +kernel
theorem dl_308 : decode code 308 = .ok (.iconst 0, 1) := by decide +kernel
theorem dl_309 : decode code 309 = .ok (.ireturn, 1) := by decide +kernel
theorem dl_310 : decode code 310 = .ok (.aload_n 1, 1) := by decide +kernel
theorem dl_311 : decode code 311 = .ok (.aload_n 0, 1) := by decide +kernel
theorem dl_312 : decode code 312 = .ok (.iload_n 3, 1) := by decide +kernel
theorem dl_313 : decode code 313 = .ok (.iconst 1, 1) := by decide +kernel
theorem dl_314 : decode code 314 = .ok (.iadd, 1) := by decide +kernel
theorem dl_315 : decode code 315 = .ok (.iaload, 1) := by decide +kernel
theorem dl_316 : decode code 316 = .ok (.aload_n 0, 1) := by decide +kernel
theorem dl_317 : decode code 317 = .ok (.iload_n 3, 1) := by decide +kernel
theorem dl_318 : decode code 318 = .ok (.iconst 2, 1) := by decide +kernel
theorem dl_319 : decode code 319 = .ok (.iadd, 1) := by decide +kernel
theorem dl_320 : decode code 320 = .ok (.iaload, 1) := by decide +kernel
theorem dl_321 : decode code 321 = .ok (.invokevirtual 39, 3) := by decide +kernel
theorem dl_324 : decode code 324 = .ok (.aload_n 2, 1) := by decide +kernel
theorem dl_325 : decode code 325 = .ok (.aload_n 0, 1) := by decide +kernel
theorem dl_326 : decode code 326 = .ok (.iload_n 3, 1) := by decide +kernel
theorem dl_327 : decode code 327 = .ok (.iconst 1, 1) := by decide +kernel
theorem dl_328 : decode code 328 = .ok (.iadd, 1) := by decide +kernel
theorem dl_329 : decode code 329 = .ok (.iaload, 1) := by decide +kernel
theorem dl_330 : decode code 330 = .ok (.aload_n 0, 1) := by decide +kernel
theorem dl_331 : decode code 331 = .ok (.iload_n 3, 1) := by decide +kernel
theorem dl_332 : decode code 332 = .ok (.iconst 2, 1) := by decide +kernel
theorem dl_333 : decode code 333 = .ok (.iadd, 1) := by decide +kernel
theorem dl_334 : decode code 334 = .ok (.iaload, 1) := by decide +kernel
theorem dl_335 : decode code 335 = .ok (.invokevirtual 42, 3) := by decide +kernel
theorem dl_338 : decode code 338 = .ok (.if_icmp .eq 492, 3) := by decide +kernel
theorem dl_341 : decode code 341 = .ok (.iconst 0, 1) := by decide +kernel
theorem dl_342 : decode code 342 = .ok (.ireturn, 1) := by decide +kernel
theorem dl_343 : decode code 343 = .ok (.aload_n 1, 1) := by decide +kernel
theorem dl_344 : decode code 344 = .ok (.invokevirtual 43, 3) := by decide +kernel
theorem dl_347 : decode code 347 = .ok (.aload_n 2, 1) := by decide +kernel
theorem dl_348 : decode code 348 = .ok (.invokevirtual 47, 3) := by decide +kernel
theorem dl_351 : decode code 351 = .ok (.if_icmp .eq 479, 3) := by decide +kernel
theorem dl_354 : decode code 354 = .ok (.iconst 0, 1) := by decide +kernel
theorem dl_355 : decode code 355 = .ok (.ireturn, 1) := by decide +kernel
theorem dl_356 : decode code 356 = .ok (.aload_n 1, 1) := by decide +kernel
theorem dl_357 : decode code 357 = .ok (.aload_n 0, 1) := by decide +kernel
theorem dl_358 : decode code 358 = .ok (.iload_n 3, 1) := by decide +kernel
theorem dl_359 : decode code 359 = .ok (.iconst 1, 1) := by decide +kernel
theorem dl_360 : decode code 360 = .ok (.iadd, 1) := by decide +kernel
theorem dl_361 : decode code 361 = .ok (.iaload, 1) := by decide +kernel
theorem dl_362 : decode code 362 = .ok (.invokevirtual 48, 3) := by decide +kernel
theorem dl_365 : decode code 365 = .ok (.aload_n 2, 1) := by decide +kernel
theorem dl_366 : decode code 366 = .ok (.aload_n 0, 1) := by decide +kernel
theorem dl_367 : decode code 367 = .ok (.iload_n 3, 1) := by decide +kernel
theorem dl_368 : decode code 368 = .ok (.iconst 1, 1) := by decide +kernel
theorem dl_369 : decode code 369 = .ok (.iadd, 1) := by decide +kernel
theorem dl_370 : decode code 370 = .ok (.iaload, 1) := by decide +kernel
theorem dl_371 : decode code 371 = .ok (.invokevirtual 51, 3) := by decide +kernel
theorem dl_374 : decode code 374 = .ok (.if_icmp .eq 456, 3) := by decide +kernel
theorem dl_377 : decode code 377 = .ok (.iconst 0, 1) := by decide +kernel
theorem dl_378 : decode code 378 = .ok (.ireturn, 1) := by decide +kernel
theorem dl_379 : decode code 379 = .ok (.aload_n 1, 1) := by decide +kernel
theorem dl_380 : decode code 380 = .ok (.aload_n 0, 1) := by decide +kernel
theorem dl_381 : decode code 381 = .ok (.iload_n 3, 1) := by decide +kernel
theorem dl_382 : decode code 382 = .ok (.iconst 1, 1) := by decide +kernel
theorem dl_383 : decode code 383 = .ok (.iadd, 1) := by decide +kernel
theorem dl_384 : decode code 384 = .ok (.iaload, 1) := by decide +kernel
theorem dl_385 : decode code 385 = .ok (.invokevirtual 52, 3) := by decide +kernel
theorem dl_388 : decode code 388 = .ok (.aload_n 2, 1) := by decide +kernel
theorem dl_389 : decode code 389 = .ok (.aload_n 0, 1) := by decide +kernel
theorem dl_390 : decode code 390 = .ok (.iload_n 3, 1) := by decide +kernel
theorem dl_391 : decode code 391 = .ok (.iconst 1, 1) := by decide +kernel
theorem dl_392 : decode code 392 = .ok (.iadd, 1) := by decide +kernel
theorem dl_393 : decode code 393 = .ok (.iaload, 1) := by decide +kernel
theorem dl_394 : decode code 394 = .ok (.invokevirtual 55, 3) := by decide +kernel
theorem dl_397 : decode code 397 = .ok (.if_icmp .eq 433, 3) := by decide +kernel
theorem dl_400 : decode code 400 = .ok (.iconst 0, 1) := by decide +kernel
theorem dl_401 : decode code 401 = .ok (.ireturn, 1) := by decide +kernel
theorem dl_402 : decode code 402 = .ok (.aload_n 1, 1) := by decide +kernel
theorem dl_403 : decode code 403 = .ok (.aload_n 0, 1) := by decide +kernel
theorem dl_404 : decode code 404 = .ok (.iload_n 3, 1) := by decide +kernel
theorem dl_405 : decode code 405 = .ok (.iconst 1, 1) := by decide +kernel
theorem dl_406 : decode code 406 = .ok (.iadd, 1) := by decide +kernel
theorem dl_407 : decode code 407 = .ok (.iaload, 1) := by decide +kernel
theorem dl_408 : decode code 408 = .ok (.aload_n 0, 1) := by decide +kernel
theorem dl_409 : decode code 409 = .ok (.iload_n 3, 1) := by decide +kernel
theorem dl_410 : decode code 410 = .ok (.iconst 2, 1) := by decide +kernel
theorem dl_411 : decode code 411 = .ok (.iadd, 1) := by decide +kernel
theorem dl_412 : decode code 412 = .ok (.iaload, 1) := by decide +kernel
theorem dl_413 : decode code 413 = .ok (.invokevirtual 56, 3) := by decide +kernel
theorem dl_416 : decode code 416 = .ok (.aload_n 2, 1) := by decide +kernel
theorem dl_417 : decode code 417 = .ok (.aload_n 0, 1) := by decide +kernel
theorem dl_418 : decode code 418 = .ok (.iload_n 3, 1) := by decide +kernel
theorem dl_419 : decode code 419 = .ok (.iconst 1, 1) := by decide +kernel
theorem dl_420 : decode code 420 = .ok (.iadd, 1) := by decide +kernel
theorem dl_421 : decode code 421 = .ok (.iaload, 1) := by decide +kernel
theorem dl_422 : decode code 422 = .ok (.aload_n 0, 1) := by decide +kernel
theorem dl_423 : decode code 423 = .ok (.iload_n 3, 1) := by decide +kernel
theorem dl_424 : decode code 424 = .ok (.iconst 2, 1) := by decide +kernel
theorem dl_425 : decode code 425 = .ok (.iadd, 1) := by decide +kernel
theorem dl_426 : decode code 426 = .ok (.iaload, 1) := by decide +kernel
theorem dl_427 : decode code 427 = .ok (.invokevirtual 59, 3) := by decide +kernel
theorem dl_430 : decode code 430 = .ok (.if_icmp .eq 400, 3) := by decide +kernel
theorem dl_433 : decode code 433 = .ok (.iconst 0, 1) := by decide +kernel
theorem dl_434 : decode code 434 = .ok (.ireturn, 1) := by decide +kernel
theorem dl_435 : decode code 435 = .ok (.aload_n 1, 1) := by decide +kernel
theorem dl_436 : decode code 436 = .ok (.aload_n 0, 1) := by decide +kernel
theorem dl_437 : decode code 437 = .ok (.iload_n 3, 1) := by decide +kernel
theorem dl_438 : decode code 438 = .ok (.iconst 1, 1) := by decide +kernel
theorem dl_439 : decode code 439 = .ok (.iadd, 1) := by decide +kernel
theorem dl_440 : decode code 440 = .ok (.iaload, 1) := by decide +kernel
theorem dl_441 : decode code 441 = .ok (.aload_n 0, 1) := by decide +kernel
theorem dl_442 : decode code 442 = .ok (.iload_n 3, 1) := by decide +kernel
theorem dl_443 : decode code 443 = .ok (.iconst 2, 1) := by decide +kernel
theorem dl_444 : decode code 444 = .ok (.iadd, 1) := by decide +kernel
theorem dl_445 : decode code 445 = .ok (.iaload, 1) := by decide +kernel
theorem dl_446 : decode code 446 = .ok (.invokevirtual 60, 3) := by decide +kernel
theorem dl_449 : decode code 449 = .ok (.aload_n 2, 1) := by decide +kernel
theorem dl_450 : decode code 450 = .ok (.aload_n 0, 1) := by decide +kernel
theorem dl_451 : decode code 451 = .ok (.iload_n 3, 1) := by decide +kernel
theorem dl_452 : decode code 452 = .ok (.iconst 1, 1) := by decide +kernel
theorem dl_453 : decode code 453 = .ok (.iadd, 1) := by decide +kernel
theorem dl_454 : decode code 454 = .ok (.iaload, 1) := by decide +kernel
theorem dl_455 : decode code 455 = .ok (.aload_n 0, 1) := by decide +kernel
theorem dl_456 : decode code 456 = .ok (.iload_n 3, 1) := by decide +kernel
theorem dl_457 : decode code 457 = .ok (.iconst 2, 1) := by decide +kernel
theorem dl_458 : decode code 458 = .ok (.iadd, 1) := by decide +kernel
theorem dl_459 : decode code 459 = .ok (.iaload, 1) := by decide +kernel
theorem dl_460 : decode code 460 = .ok (.invokevirtual 63, 3) := by decide +kernel
theorem dl_463 : decode code 463 = .ok (.if_icmp .eq 367, 3) := by decide +kernel
theorem dl_466 : decode code 466 = .ok (.iconst 0, 1) := by decide +kernel
theorem dl_467 : decode code 467 = .ok (.ireturn, 1) := by decide +kernel
theorem dl_468 : decode code 468 = .ok (.aload_n 1, 1) := by decide +kernel
theorem dl_469 : decode code 469 = .ok (.aload_n 0, 1) := by decide +kernel
theorem dl_470 : decode code 470 = .ok (.iload_n 3, 1) := by decide +kernel
theorem dl_471 : decode code 471 = .ok (.iconst 1, 1) := by decide +kernel
theorem dl_472 : decode code 472 = .ok (.iadd, 1) := by decide +kernel
theorem dl_473 : decode code 473 = .ok (.iaload, 1) := by decide +kernel
theorem dl_474 : decode code 474 = .ok (.aload_n 0, 1) := by decide +kernel
theorem dl_475 : decode code 475 = .ok (.iload_n 3, 1) := by decide +kernel
theorem dl_476 : decode code 476 = .ok (.iconst 2, 1) := by decide +kernel
theorem dl_477 : decode code 477 = .ok (.iadd, 1) := by decide +kernel
theorem dl_478 : decode code 478 = .ok (.iaload, 1) := by decide +kernel
theorem dl_479 : decode code 479 = .ok (.invokevirtual 64, 3) := by decide +kernel
theorem dl_482 : decode code 482 = .ok (.aload_n 2, 1) := by decide +kernel
theorem dl_483 : decode code 483 = .ok (.aload_n 0, 1) := by decide +kernel
theorem dl_484 : decode code 484 = .ok (.iload_n 3, 1) := by decide +kernel
theorem dl_485 : decode code 485 = .ok (.iconst 1, 1) := by decide +kernel
theorem dl_486 : decode code 486 = .ok (.iadd, 1) := by decide +kernel
theorem dl_487 : decode code 487 = .ok (.iaload, 1) := by decide +kernel
theorem dl_488 : decode code 488 = .ok (.aload_n 0, 1) := by decide +kernel
theorem dl_489 : decode code 489 = .ok (.iload_n 3, 1) := by decide +kernel
theorem dl_490 : decode code 490 = .ok (.iconst 2, 1) := by decide +kernel
theorem dl_491 : decode code 491 = .ok (.iadd, 1) := by decide +kernel
theorem dl_492 : decode code 492 = .ok (.iaload, 1) := by decide +kernel
theorem dl_493 : decode code 493 = .ok (.invokevirtual 67, 3) := by decide +kernel
theorem dl_496 : decode code 496 = .ok (.if_icmp .eq 334, 3) := by decide +kernel
theorem dl_499 : decode code 499 = .ok (.iconst 0, 1) := by decide +kernel
theorem dl_500 : decode code 500 = .ok (.ireturn, 1) := by decide +kernel
theorem dl_501 : decode code 501 = .ok (.aload_n 1, 1) := by decide +kernel
theorem dl_502 : decode code 502 = .ok (.aload_n 0, 1) := by decide +kernel
theorem dl_503 : decode code 503 = .ok (.iload_n 3, 1) := by decide +kernel
theorem dl_504 : decode code 504 = .ok (.iconst 1, 1) := by decide +kernel
theorem dl_505 : decode code 505 = .ok (.iadd, 1) := by decide +kernel
theorem dl_506 : decode code 506 = .ok (.iaload, 1) := by decide +kernel
theorem dl_507 : decode code 507 = .ok (.invokevirtual 68, 3) := by decide +kernel
theorem dl_510 : decode code 510 = .ok (.aload_n 2, 1) := by decide +kernel
theorem dl_511 : decode code 511 = .ok (.aload_n 0, 1) := by decide +kernel
theorem dl_512 : decode code 512 = .ok (.iload_n 3, 1) := by decide +kernel
theorem dl_513 : decode code 513 = .ok (.iconst 1, 1) := by decide +kernel
theorem dl_514 : decode code 514 = .ok (.iadd, 1) := by decide +kernel
theorem dl_515 : decode code 515 = .ok (.iaload, 1) := by decide +kernel
theorem dl_516 : decode code 516 = .ok (.invokevirtual 71, 3) := by decide +kernel
theorem dl_519 : decode code 519 = .ok (.if_icmp .eq 311, 3) := by decide +kernel
theorem dl_522 : decode code 522 = .ok (.iconst 0, 1) := by decide +kernel
theorem dl_523 : decode code 523 = .ok (.ireturn, 1) := by decide +kernel
theorem dl_524 : decode code 524 = .ok (.aload_n 1, 1) := by decide +kernel
theorem dl_525 : decode code 525 = .ok (.aload_n 0, 1) := by decide +kernel
theorem dl_526 : decode code 526 = .ok (.iload_n 3, 1) := by decide +kernel
theorem dl_527 : decode code 527 = .ok (.iconst 1, 1) := by decide +kernel
theorem dl_528 : decode code 528 = .ok (.iadd, 1) := by decide +kernel
theorem dl_529 : decode code 529 = .ok (.iaload, 1) := by decide +kernel
theorem dl_530 : decode code 530 = .ok (.invokevirtual 72, 3) := by decide +kernel
theorem dl_533 : decode code 533 = .ok (.aload_n 2, 1) := by decide +kernel
theorem dl_534 : decode code 534 = .ok (.aload_n 0, 1) := by decide +kernel
theorem dl_535 : decode code 535 = .ok (.iload_n 3, 1) := by decide +kernel
theorem dl_536 : decode code 536 = .ok (.iconst 1, 1) := by decide +kernel
theorem dl_537 : decode code 537 = .ok (.iadd, 1) := by decide +kernel
theorem dl_538 : decode code 538 = .ok (.iaload, 1) := by decide +kernel
theorem dl_539 : decode code 539 = .ok (.invokevirtual 75, 3) := by decide +kernel
theorem dl_542 : decode code 542 = .ok (.if_icmp .eq 288, 3) := by decide +kernel
theorem dl_545 : decode code 545 = .ok (.iconst 0, 1) := by decide +kernel
theorem dl_546 : decode code 546 = .ok (.ireturn, 1) := by decide +kernel
theorem dl_547 : decode code 547 = .ok (.aload_n 1, 1) := by decide +kernel
theorem dl_548 : decode code 548 = .ok (.aload_n 0, 1) := by decide +kernel
theorem dl_549 : decode code 549 = .ok (.iload_n 3, 1) := by decide +kernel
theorem dl_550 : decode code 550 = .ok (.iconst 1, 1) := by decide +kernel
theorem dl_551 : decode code 551 = .ok (.iadd, 1) := by decide +kernel
theorem dl_552 : decode code 552 = .ok (.iaload, 1) := by decide +kernel
theorem dl_553 : decode code 553 = .ok (.invokevirtual 76, 3) := by decide +kernel
theorem dl_556 : decode code 556 = .ok (.aload_n 2, 1) := by decide +kernel
theorem dl_557 : decode code 557 = .ok (.aload_n 0, 1) := by decide +kernel
theorem dl_558 : decode code 558 = .ok (.iload_n 3, 1) := by decide +kernel
theorem dl_559 : decode code 559 = .ok (.iconst 1, 1) := by decide +kernel
theorem dl_560 : decode code 560 = .ok (.iadd, 1) := by decide +kernel
theorem dl_561 : decode code 561 = .ok (.iaload, 1) := by decide +kernel
theorem dl_562 : decode code 562 = .ok (.invokevirtual 79, 3) := by decide +kernel
theorem dl_565 : decode code 565 = .ok (.if_icmp .eq 265, 3) := by decide +kernel
theorem dl_568 : decode code 568 = .ok (.iconst 0, 1) := by decide +kernel
theorem dl_569 : decode code 569 = .ok (.ireturn, 1) := by decide +kernel
theorem dl_570 : decode code 570 = .ok (.aload_n 1, 1) := by decide +kernel
theorem dl_571 : decode code 571 = .ok (.aload_n 0, 1) := by decide +kernel
theorem dl_572 : decode code 572 = .ok (.iload_n 3, 1) := by decide +kernel
theorem dl_573 : decode code 573 = .ok (.iconst 1, 1) := by decide +kernel
theorem dl_574 : decode code 574 = .ok (.iadd, 1) := by decide +kernel
theorem dl_575 : decode code 575 = .ok (.iaload, 1) := by decide +kernel
theorem dl_576 : decode code 576 = .ok (.invokevirtual 80, 3) := by decide +kernel
theorem dl_579 : decode code 579 = .ok (.aload_n 2, 1) := by decide +kernel
theorem dl_580 : decode code 580 = .ok (.aload_n 0, 1) := by decide +kernel
theorem dl_581 : decode code 581 = .ok (.iload_n 3, 1) := by decide +kernel
theorem dl_582 : decode code 582 = .ok (.iconst 1, 1) := by decide +kernel
theorem dl_583 : decode code 583 = .ok (.iadd, 1) := by decide +kernel
theorem dl_584 : decode code 584 = .ok (.iaload, 1) := by decide +kernel
theorem dl_585 : decode code 585 = .ok (.invokevirtual 83, 3) := by decide +kernel
theorem dl_588 : decode code 588 = .ok (.if_icmp .eq 242, 3) := by decide +kernel
theorem dl_591 : decode code 591 = .ok (.iconst 0, 1) := by decide +kernel
theorem dl_592 : decode code 592 = .ok (.ireturn, 1) := by decide +kernel
theorem dl_593 : decode code 593 = .ok (.aload_n 1, 1) := by decide +kernel
theorem dl_594 : decode code 594 = .ok (.invokevirtual 84, 3) := by decide +kernel
theorem dl_597 : decode code 597 = .ok (.aload_n 2, 1) := by decide +kernel
theorem dl_598 : decode code 598 = .ok (.invokevirtual 87, 3) := by decide +kernel
theorem dl_601 : decode code 601 = .ok (.if_icmp .eq 229, 3) := by decide +kernel
theorem dl_604 : decode code 604 = .ok (.iconst 0, 1) := by decide +kernel
theorem dl_605 : decode code 605 = .ok (.ireturn, 1) := by decide +kernel
theorem dl_606 : decode code 606 = .ok (.aload_n 1, 1) := by decide +kernel
theorem dl_607 : decode code 607 = .ok (.invokevirtual 88, 3) := by decide +kernel
theorem dl_610 : decode code 610 = .ok (.aload_n 2, 1) := by decide +kernel
theorem dl_611 : decode code 611 = .ok (.invokevirtual 91, 3) := by decide +kernel
theorem dl_614 : decode code 614 = .ok (.if_icmp .eq 216, 3) := by decide +kernel
theorem dl_617 : decode code 617 = .ok (.iconst 0, 1) := by decide +kernel
theorem dl_618 : decode code 618 = .ok (.ireturn, 1) := by decide +kernel
theorem dl_619 : decode code 619 = .ok (.aload_n 1, 1) := by decide +kernel
theorem dl_620 : decode code 620 = .ok (.aload_n 0, 1) := by decide +kernel
theorem dl_621 : decode code 621 = .ok (.iload_n 3, 1) := by decide +kernel
theorem dl_622 : decode code 622 = .ok (.iconst 1, 1) := by decide +kernel
theorem dl_623 : decode code 623 = .ok (.iadd, 1) := by decide +kernel
theorem dl_624 : decode code 624 = .ok (.iaload, 1) := by decide +kernel
theorem dl_625 : decode code 625 = .ok (.aload_n 0, 1) := by decide +kernel
theorem dl_626 : decode code 626 = .ok (.iload_n 3, 1) := by decide +kernel
theorem dl_627 : decode code 627 = .ok (.iconst 2, 1) := by decide +kernel
theorem dl_628 : decode code 628 = .ok (.iadd, 1) := by decide +kernel
theorem dl_629 : decode code 629 = .ok (.iaload, 1) := by decide +kernel
theorem dl_630 : decode code 630 = .ok (.aload_n 0, 1) := by decide +kernel
theorem dl_631 : decode code 631 = .ok (.iload_n 3, 1) := by decide +kernel
theorem dl_632 : decode code 632 = .ok (.iconst 3, 1) := by decide +kernel
theorem dl_633 : decode code 633 = .ok (.iadd, 1) := by decide +kernel
theorem dl_634 : decode code 634 = .ok (.iaload, 1) := by decide +kernel
theorem dl_635 : decode code 635 = .ok (.invokevirtual 92, 3) := by decide +kernel
theorem dl_638 : decode code 638 = .ok (.aload_n 2, 1) := by decide +kernel
theorem dl_639 : decode code 639 = .ok (.aload_n 0, 1) := by decide +kernel
theorem dl_640 : decode code 640 = .ok (.iload_n 3, 1) := by decide +kernel
theorem dl_641 : decode code 641 = .ok (.iconst 1, 1) := by decide +kernel
theorem dl_642 : decode code 642 = .ok (.iadd, 1) := by decide +kernel
theorem dl_643 : decode code 643 = .ok (.iaload, 1) := by decide +kernel
theorem dl_644 : decode code 644 = .ok (.aload_n 0, 1) := by decide +kernel
theorem dl_645 : decode code 645 = .ok (.iload_n 3, 1) := by decide +kernel
theorem dl_646 : decode code 646 = .ok (.iconst 2, 1) := by decide +kernel
theorem dl_647 : decode code 647 = .ok (.iadd, 1) := by decide +kernel
theorem dl_648 : decode code 648 = .ok (.iaload, 1) := by decide +kernel
theorem dl_649 : decode code 649 = .ok (.aload_n 0, 1) := by decide +kernel
theorem dl_650 : decode code 650 = .ok (.iload_n 3, 1) := by decide +kernel
theorem dl_651 : decode code 651 = .ok (.iconst 3, 1) := by decide +kernel
theorem dl_652 : decode code 652 = .ok (.iadd, 1) := by decide +kernel
theorem dl_653 : decode code 653 = .ok (.iaload, 1) := by decide +kernel
theorem dl_654 : decode code 654 = .ok (.invokevirtual 96, 3) := by decide +kernel
theorem dl_657 : decode code 657 = .ok (.if_icmp .eq 173, 3) := by decide +kernel
theorem dl_660 : decode code 660 = .ok (.iconst 0, 1) := by decide +kernel
theorem dl_661 : decode code 661 = .ok (.ireturn, 1) := by decide +kernel
theorem dl_662 : decode code 662 = .ok (.aload_n 1, 1) := by decide +kernel
theorem dl_663 : decode code 663 = .ok (.aload_n 0, 1) := by decide +kernel
theorem dl_664 : decode code 664 = .ok (.iload_n 3, 1) := by decide +kernel
theorem dl_665 : decode code 665 = .ok (.iconst 1, 1) := by decide +kernel
theorem dl_666 : decode code 666 = .ok (.iadd, 1) := by decide +kernel
theorem dl_667 : decode code 667 = .ok (.iaload, 1) := by decide +kernel
theorem dl_668 : decode code 668 = .ok (.aload_n 0, 1) := by decide +kernel
theorem dl_669 : decode code 669 = .ok (.iload_n 3, 1) := by decide +kernel
theorem dl_670 : decode code 670 = .ok (.iconst 2, 1) := by decide +kernel
theorem dl_671 : decode code 671 = .ok (.iadd, 1) := by decide +kernel
theorem dl_672 : decode code 672 = .ok (.iaload, 1) := by decide +kernel
theorem dl_673 : decode code 673 = .ok (.invokevirtual 97, 3) := by decide +kernel
theorem dl_676 : decode code 676 = .ok (.aload_n 2, 1) := by decide +kernel
theorem dl_677 : decode code 677 = .ok (.aload_n 0, 1) := by decide +kernel
theorem dl_678 : decode code 678 = .ok (.iload_n 3, 1) := by decide +kernel
theorem dl_679 : decode code 679 = .ok (.iconst 1, 1) := by decide +kernel
theorem dl_680 : decode code 680 = .ok (.iadd, 1) := by decide +kernel
theorem dl_681 : decode code 681 = .ok (.iaload, 1) := by decide +kernel
theorem dl_682 : decode code 682 = .ok (.aload_n 0, 1) := by decide +kernel
theorem dl_683 : decode code 683 = .ok (.iload_n 3, 1) := by decide +kernel
theorem dl_684 : decode code 684 = .ok (.iconst 2, 1) := by decide +kernel
theorem dl_685 : decode code 685 = .ok (.iadd, 1) := by decide +kernel
theorem dl_686 : decode code 686 = .ok (.iaload, 1) := by decide +kernel
theorem dl_687 : decode code 687 = .ok (.invokevirtual 100, 3) := by decide +kernel
theorem dl_690 : decode code 690 = .ok (.if_icmp .eq 140, 3) := by decide +kernel
theorem dl_693 : decode code 693 = .ok (.iconst 0, 1) := by decide +kernel
theorem dl_694 : decode code 694 = .ok (.ireturn, 1) := by decide +kernel
theorem dl_695 : decode code 695 = .ok (.aload_n 1, 1) := by decide +kernel
theorem dl_696 : decode code 696 = .ok (.aload_n 0, 1) := by decide +kernel
theorem dl_697 : decode code 697 = .ok (.iload_n 3, 1) := by decide +kernel
theorem dl_698 : decode code 698 = .ok (.iconst 1, 1) := by decide +kernel
theorem dl_699 : decode code 699 = .ok (.iadd, 1) := by decide +kernel
theorem dl_700 : decode code 700 = .ok (.iaload, 1) := by decide +kernel
theorem dl_701 : decode code 701 = .ok (.invokevirtual 101, 3) := by decide +kernel
theorem dl_704 : decode code 704 = .ok (.aload_n 2, 1) := by decide +kernel
theorem dl_705 : decode code 705 = .ok (.aload_n 0, 1) := by decide +kernel
theorem dl_706 : decode code 706 = .ok (.iload_n 3, 1) := by decide +kernel
theorem dl_707 : decode code 707 = .ok (.iconst 1, 1) := by decide +kernel
theorem dl_708 : decode code 708 = .ok (.iadd, 1) := by decide +kernel
theorem dl_709 : decode code 709 = .ok (.iaload, 1) := by decide +kernel
theorem dl_710 : decode code 710 = .ok (.invokevirtual 104, 3) := by decide +kernel
theorem dl_713 : decode code 713 = .ok (.if_icmp .eq 117, 3) := by decide +kernel
theorem dl_716 : decode code 716 = .ok (.iconst 0, 1) := by decide +kernel
theorem dl_717 : decode code 717 = .ok (.ireturn, 1) := by decide +kernel
theorem dl_718 : decode code 718 = .ok (.aload_n 1, 1) := by decide +kernel
theorem dl_719 : decode code 719 = .ok (.aload_n 0, 1) := by decide +kernel
theorem dl_720 : decode code 720 = .ok (.iload_n 3, 1) := by decide +kernel
theorem dl_721 : decode code 721 = .ok (.iconst 1, 1) := by decide +kernel
theorem dl_722 : decode code 722 = .ok (.iadd, 1) := by decide +kernel
theorem dl_723 : decode code 723 = .ok (.iaload, 1) := by decide +kernel
theorem dl_724 : decode code 724 = .ok (.aload_n 0, 1) := by decide +kernel
theorem dl_725 : decode code 725 = .ok (.iload_n 3, 1) := by decide +kernel
theorem dl_726 : decode code 726 = .ok (.iconst 2, 1) := by decide +kernel
theorem dl_727 : decode code 727 = .ok (.iadd, 1) := by decide +kernel
theorem dl_728 : decode code 728 = .ok (.iaload, 1) := by decide +kernel
theorem dl_729 : decode code 729 = .ok (.invokevirtual 105, 3) := by decide +kernel
theorem dl_732 : decode code 732 = .ok (.aload_n 2, 1) := by decide +kernel
theorem dl_733 : decode code 733 = .ok (.aload_n 0, 1) := by decide +kernel
theorem dl_734 : decode code 734 = .ok (.iload_n 3, 1) := by decide +kernel
theorem dl_735 : decode code 735 = .ok (.iconst 1, 1) := by decide +kernel
theorem dl_736 : decode code 736 = .ok (.iadd, 1) := by decide +kernel
theorem dl_737 : decode code 737 = .ok (.iaload, 1) := by decide +kernel
theorem dl_738 : decode code 738 = .ok (.aload_n 0, 1) := by decide +kernel
theorem dl_739 : decode code 739 = .ok (.iload_n 3, 1) := by decide +kernel
theorem dl_740 : decode code 740 = .ok (.iconst 2, 1) := by decide +kernel
theorem dl_741 : decode code 741 = .ok (.iadd, 1) := by decide +kernel
theorem dl_742 : decode code 742 = .ok (.iaload, 1) := by decide +kernel
theorem dl_743 : decode code 743 = .ok (.invokevirtual 108, 3) := by decide +kernel
theorem dl_746 : decode code 746 = .ok (.if_icmp .eq 84, 3) := by decide +kernel
theorem dl_749 : decode code 749 = .ok (.iconst 0, 1) := by decide +kernel
theorem dl_750 : decode code 750 = .ok (.ireturn, 1) := by decide +kernel
theorem dl_751 : decode code 751 = .ok (.aload_n 1, 1) := by decide +kernel
theorem dl_752 : decode code 752 = .ok (.aload_n 0, 1) := by decide +kernel
theorem dl_753 : decode code 753 = .ok (.iload_n 3, 1) := by decide +kernel
theorem dl_754 : decode code 754 = .ok (.iconst 1, 1) := by decide +kernel
theorem dl_755 : decode code 755 = .ok (.iadd, 1) := by decide +kernel
theorem dl_756 : decode code 756 = .ok (.iaload, 1) := by decide +kernel
theorem dl_757 : decode code 757 = .ok (.aload_n 0, 1) := by decide +kernel
theorem dl_758 : decode code 758 = .ok (.iload_n 3, 1) := by decide +kernel
theorem dl_759 : decode code 759 = .ok (.iconst 2, 1) := by decide +kernel
theorem dl_760 : decode code 760 = .ok (.iadd, 1) := by decide +kernel
theorem dl_761 : decode code 761 = .ok (.iaload, 1) := by decide +kernel
theorem dl_762 : decode code 762 = .ok (.invokevirtual 109, 3) := by decide +kernel
theorem dl_765 : decode code 765 = .ok (.aload_n 2, 1) := by decide +kernel
theorem dl_766 : decode code 766 = .ok (.aload_n 0, 1) := by decide +kernel
theorem dl_767 : decode code 767 = .ok (.iload_n 3, 1) := by decide +kernel
theorem dl_768 : decode code 768 = .ok (.iconst 1, 1) := by decide +kernel
theorem dl_769 : decode code 769 = .ok (.iadd, 1) := by decide +kernel
theorem dl_770 : decode code 770 = .ok (.iaload, 1) := by decide +kernel
theorem dl_771 : decode code 771 = .ok (.aload_n 0, 1) := by decide +kernel
theorem dl_772 : decode code 772 = .ok (.iload_n 3, 1) := by decide +kernel
theorem dl_773 : decode code 773 = .ok (.iconst 2, 1) := by decide +kernel
theorem dl_774 : decode code 774 = .ok (.iadd, 1) := by decide +kernel
theorem dl_775 : decode code 775 = .ok (.iaload, 1) := by decide +kernel
theorem dl_776 : decode code 776 = .ok (.invokevirtual 112, 3) := by decide +kernel
theorem dl_779 : decode code 779 = .ok (.if_icmp .eq 51, 3) := by decide +kernel
theorem dl_782 : decode code 782 = .ok (.iconst 0, 1) := by decide +kernel
theorem dl_783 : decode code 783 = .ok (.ireturn, 1) := by decide +kernel
theorem dl_784 : decode code 784 = .ok (.aload_n 1, 1) := by decide +kernel
theorem dl_785 : decode code 785 = .ok (.aload_n 0, 1) := by decide +kernel
theorem dl_786 : decode code 786 = .ok (.iload_n 3, 1) := by decide +kernel
theorem dl_787 : decode code 787 = .ok (.iconst 1, 1) := by decide +kernel
theorem dl_788 : decode code 788 = .ok (.iadd, 1) := by decide +kernel
theorem dl_789 : decode code 789 = .ok (.iaload, 1) := by decide +kernel
theorem dl_790 : decode code 790 = .ok (.invokevirtual 113, 3) := by decide +kernel
theorem dl_793 : decode code 793 = .ok (.aload_n 2, 1) := by decide +kernel
theorem dl_794 : decode code 794 = .ok (.aload_n 0, 1) := by decide +kernel
theorem dl_795 : decode code 795 = .ok (.iload_n 3, 1) := by decide +kernel
theorem dl_796 : decode code 796 = .ok (.iconst 1, 1) := by decide +kernel
theorem dl_797 : decode code 797 = .ok (.iadd, 1) := by decide +kernel
theorem dl_798 : decode code 798 = .ok (.iaload, 1) := by decide +kernel
theorem dl_799 : decode code 799 = .ok (.invokevirtual 116, 3) := by decide +kernel
theorem dl_802 : decode code 802 = .ok (.if_icmp .eq 28, 3) := by decide +kernel
theorem dl_805 : decode code 805 = .ok (.iconst 0, 1) := by decide +kernel
theorem dl_806 : decode code 806 = .ok (.ireturn, 1) := by decide +kernel
theorem dl_807 : decode code 807 = .ok (.aload_n 1, 1) := by decide +kernel
theorem dl_808 : decode code 808 = .ok (.aload_n 0, 1) := by decide +kernel
theorem dl_809 : decode code 809 = .ok (.iload_n 3, 1) := by decide +kernel
theorem dl_810 : decode code 810 = .ok (.iconst 1, 1) := by decide +kernel
theorem dl_811 : decode code 811 = .ok (.iadd, 1) := by decide +kernel
theorem dl_812 : decode code 812 = .ok (.iaload, 1) := by decide +kernel
theorem dl_813 : decode code 813 = .ok (.invokevirtual 117, 3) := by decide +kernel
theorem dl_816 : decode code 816 = .ok (.aload_n 2, 1) := by decide +kernel
theorem dl_817 : decode code 817 = .ok (.aload_n 0, 1) := by decide +kernel
theorem dl_818 : decode code 818 = .ok (.iload_n 3, 1) := by decide +kernel
theorem dl_819 : decode code 819 = .ok (.iconst 1, 1) := by decide +kernel
theorem dl_820 : decode code 820 = .ok (.iadd, 1) := by decide +kernel
theorem dl_821 : decode code 821 = .ok (.iaload, 1) := by decide +kernel
theorem dl_822 : decode code 822 = .ok (.invokevirtual 120, 3) := by decide +kernel
theorem dl_825 : decode code 825 = .ok (.if_icmp .eq 5, 3) := by decide +kernel
theorem dl_828 : decode code 828 = .ok (.iconst 0, 1) := by decide +kernel
theorem dl_829 : decode code 829 = .ok (.ireturn, 1) := by decide +kernel
theorem dl_830 : decode code 830 = .ok (.iinc 3 4, 3) := by decide +kernel
theorem dl_833 : decode code 833 = .ok (.goto (-815), 3) := by decide +kernel
theorem dl_836 : decode code 836 = .ok (.iconst 1, 1) := by decide +kernel
theorem dl_837 : decode code 837 = .ok (.ireturn, 1) := by decide +kernel
end
section
/-! the law: the environment at its entry, the step behind the constructors, calls -/
theorem z_gw_tbl {w : Cond} (h : w ∈ z_gw) : w ∈ lw_tbl := (List.mem_filter.mp h).1
theorem z_inst_w : ∀ (c : Nat) (q : vw_C), z_cl[c]? = some q → Cond.instantiable q.1 q.2.2 ∈ lw_tbl
  | 0, q, h => by cases h; exact z_gw_tbl (z_in_gw (p := 269) (by decide +kernel))
  | 1, q, h => by cases h; exact z_gw_tbl (z_in_gw (p := 153) (by decide +kernel))
  | 2, q, h => by cases h; exact z_gw_tbl (z_in_gw (p := 97) (by decide +kernel))
  | 3, q, h => by cases h; exact z_gw_tbl (z_in_gw (p := 262) (by decide +kernel))
  | 4, q, h => by cases h; exact z_gw_tbl (z_in_gw (p := 146) (by decide +kernel))
  | 5, q, h => by cases h; exact z_gw_tbl (z_in_gw (p := 103) (by decide +kernel))
  | 6, q, h => by cases h; exact z_gw_tbl (z_in_gw (p := 246) (by decide +kernel))
  | 7, q, h => by cases h; exact z_gw_tbl (z_in_gw (p := 87) (by decide +kernel))
  | 8, q, h => by cases h; exact z_gw_tbl (z_in_gw (p := 852) (by decide +kernel))
  | n + 9, q, h => by simp [z_cl] at h
theorem z_nw_tbl : ∀ w ∈ z_nw, w ∈ lw_tbl := by
  have h : ∀ (p : Nat) (w : Cond), decide (lw_tbl[p]? = some w) = true → w ∈ lw_tbl := fun p w h => List.mem_of_getElem? (of_decide_eq_true h)
  unfold z_nw
  exact List.forall_mem_cons.mpr ⟨h 98 _ (by decide +kernel), List.forall_mem_cons.mpr ⟨h 104 _ (by decide +kernel), List.forall_mem_cons.mpr ⟨h 154 _ (by decide +kernel), List.forall_mem_cons.mpr ⟨h 247 _ (by decide +kernel), List.forall_mem_cons.mpr ⟨h 270 _ (by decide +kernel), List.forall_mem_cons.mpr ⟨h 354 _ (by decide +kernel), List.forall_mem_cons.mpr ⟨h 691 _ (by decide +kernel), fun _ h => absurd h List.not_mem_nil⟩⟩⟩⟩⟩⟩⟩
theorem z_ao_tbl : ∀ C ∈ z_ao, Cond.arrayOver (.object C) ∈ lw_tbl := by
  have h : ∀ (p : Nat) (w : Cond), decide (lw_tbl[p]? = some w) = true → w ∈ lw_tbl := fun p w h => List.mem_of_getElem? (of_decide_eq_true h)
  unfold z_ao
  exact List.forall_mem_cons.mpr ⟨h 95 _ (by decide +kernel), List.forall_mem_cons.mpr ⟨h 353 _ (by decide +kernel), List.forall_mem_cons.mpr ⟨h 268 _ (by decide +kernel), List.forall_mem_cons.mpr ⟨h 152 _ (by decide +kernel), fun _ h => absurd h List.not_mem_nil⟩⟩⟩⟩
/-- the tables at the law's entry give an environment -/
theorem z_env (l : Launch) {s : State} {args : Array Value} (hts : ∀ w ∈ lw_tbl, w.before args s = true) : ∃ e : z_E, e.1 = l ∧ e.2.1 = s.heap ∧ z_KS e s := by
  have h1 : ∀ c : Nat, ∃ x : ClassId × (Nat → Nat), ∀ q, z_cl[c]? = some q → u_Kn s q.1 q.2.1 q.2.2 x.1 x.2 := by
    intro c
    cases hq : z_cl[c]? with
    | none => exact ⟨(0, fun _ => 0), fun q h => by cases h⟩
    | some q =>
      obtain ⟨cC, iS, hk⟩ := u_known (C := q.1) (T := q.2.1) (N := q.2.2) (n := q.2.2) (fun w hw => hts w (z_gw_tbl hw)) (z_cls c q hq).1 (hts _ (z_inst_w c q hq))
      exact ⟨(cC, iS), fun q' h => by cases h; exact hk⟩
  have hao : ∀ C ∈ z_ao, va_AO C s := fun C hC => va_AO.of (hts _ (z_ao_tbl C hC))
  have h2 : ∀ tag : Nat, ∃ cA : ClassId, ∀ ty, (match tag with | 1 => ty = FieldType.int | 2 => ty = .boolean | 3 => ty = .object "MemoByWeight$Text" | 4 => ty = .object "MemoByWeight$Run" | 5 => ty = .object "MemoByWeight$Frame" | 6 => ty = .object "MemoByWeight$Kept" | _ => False) → ArrOfT s cA ty ∧ va_RA s cA ty := by
    have ha : ∀ ty : FieldType, (∀ C, ty ≠ .object C) → Cond.arrayClass ty ∈ lw_tbl → ∃ cA : ClassId, ArrOfT s cA ty ∧ va_RA s cA ty := by
      intro ty hne hw
      obtain ⟨c, k, comp, f1, f2, f3⟩ := Cond.arrayClass_spec (hts _ hw)
      refine ⟨c, fun N z => ⟨(fun k h => by cases h), k, f2, comp, f3⟩, ?_⟩
      cases ty with
      | object C => exact absurd rfl (hne C)
      | _ => exact f1
    have ho : ∀ C ∈ z_ao, ∃ cA : ClassId, ArrOfT s cA (.object C) ∧ va_RA s cA (.object C) := by
      intro C hC
      obtain ⟨comp, c, k, f1, f2, f3, f4, f5⟩ := Cond.arrayOver_spec (va_AO.use (A := args) (hao C hC))
      exact ⟨c, fun N z => ⟨(fun k h => by cases h), k, f3, comp, f4⟩, k, comp, f3, f4, f1, f5⟩
    intro tag
    match tag with
    | 0 => exact ⟨0, fun ty h => h.elim⟩
    | 1 => obtain ⟨c, h⟩ := ha .int (fun C h => by cases h) (z_gw_tbl (z_in_gw (p := 122) (by decide +kernel))); exact ⟨c, fun ty q => by subst q; exact h⟩
    | 2 => obtain ⟨c, h⟩ := ha .boolean (fun C h => by cases h) (z_gw_tbl (z_in_gw (p := 1018) (by decide +kernel))); exact ⟨c, fun ty q => by subst q; exact h⟩
    | 3 => obtain ⟨c, h⟩ := ho "MemoByWeight$Text" (by decide +kernel); exact ⟨c, fun ty q => by subst q; exact h⟩
    | 4 => obtain ⟨c, h⟩ := ho "MemoByWeight$Run" (by decide +kernel); exact ⟨c, fun ty q => by subst q; exact h⟩
    | 5 => obtain ⟨c, h⟩ := ho "MemoByWeight$Frame" (by decide +kernel); exact ⟨c, fun ty q => by subst q; exact h⟩
    | 6 => obtain ⟨c, h⟩ := ho "MemoByWeight$Kept" (by decide +kernel); exact ⟨c, fun ty q => by subst q; exact h⟩
    | n + 7 => exact ⟨0, fun ty h => h.elim⟩
  refine ⟨(l, s.heap, (fun c => (Classical.choose (h1 c)).1, fun c => (Classical.choose (h1 c)).2), fun t => Classical.choose (h2 t)), rfl, rfl, ⟨fun c q hq => Classical.choose_spec (h1 c) q hq, fun k q hq => ?_⟩, fun w hw => va_tabs (A := args) (u := s) ?_ rfl (hts w (z_nw_tbl w hw)), hao⟩
  · match k, hq with
    | 0, hq => cases hq; exact Classical.choose_spec (h2 1) _ rfl
    | 1, hq => cases hq; exact Classical.choose_spec (h2 2) _ rfl
    | 2, hq => cases hq; exact Classical.choose_spec (h2 3) _ rfl
    | 3, hq => cases hq; exact Classical.choose_spec (h2 4) _ rfl
    | 4, hq => cases hq; exact Classical.choose_spec (h2 5) _ rfl
    | 5, hq => cases hq; exact Classical.choose_spec (h2 6) _ rfl
    | n + 6, hq => simp [z_tys] at hq
  · obtain ⟨a, i, x, hh, rfl⟩ := z_nw_form w hw
    rfl
theorem z_arrV_congr {c : ClassId} {n : Nat} {f g : Nat → Value} (h : ∀ j, j < n → f j = g j) : arrV c n f = arrV c n g := by
  have : (fun j : Fin n => f j.val) = fun j : Fin n => g j.val := funext fun j => h j.val j.isLt
  unfold arrV
  rw [this]
/-- behind the constructors -/
theorem z_phase {e : z_E} {σ : z_M} {H : Heap} {locs : List Loc} (hq : z_q 740 σ (fun _ _ => False)) (R : z_Rep e false 740 σ H locs) : z_Rep e true 740 σ H locs := by
  refine ⟨fun h => absurd h (by decide), fun k q hk => ?_, R.2.2⟩
  obtain ⟨hk1, rfl⟩ := z_wd_get' hk
  have hat := R.2.1 k _ (z_wd_get hk1)
  have hv : ∀ j : Nat, (j : Int) < z_nsl (z_knd (k : Int)) → σ (k : Int) (j : Int) = z_m0 (k : Int) (j : Int) := fun j hj => (hq k j (by omega) (by omega) (by omega) hj).2 id
  by_cases h1 : z_knd (k : Int) < 100000
  · have hce := fun ph => z_ce_obj (e := e) (ph := ph) (σ := σ) (k := k) rfl h1
    rw [hce] at hat ⊢
    rw [show (List.range (z_nf (z_knd (k : Int)))).map (fun j : Nat => z_fv e true (z_knd (k : Int)) j (k : Int) (σ (k : Int) (j : Int))) = (List.range (z_nf (z_knd (k : Int)))).map (fun j : Nat => z_fv e false (z_knd (k : Int)) j (k : Int) (σ (k : Int) (j : Int))) from ?_]
    · exact hat
    · refine List.map_congr_left fun j hj => ?_
      have hj := List.mem_range.mp hj
      have hs := hv j (by unfold z_nsl; rw [if_pos h1]; omega)
      unfold z_m0 z_m0k at hs
      rw [if_pos h1] at hs
      unfold z_fv
      by_cases h2 : z_ft (z_knd (k : Int)) j = 2
      · rw [show ((j : Int)).toNat = j by omega] at hs
        rw [h2]
        show va_rf (z_ad e (z_sr _ _ _)) = va_rf (z_ad e (σ _ _))
        rw [hs]
        have n1 : ¬ (z_knd (k : Int) = 5 ∧ (j : Int) = 5) := by
          rintro ⟨a, b⟩
          rw [a, show j = 5 by omega] at h2; revert h2; decide
        have n2 : ¬ (z_knd (k : Int) = 9 ∧ (j : Int) = 24) := by
          rintro ⟨a, b⟩
          rw [a, show j = 24 by omega] at h2; revert h2; decide
        have n3 : ¬ (z_knd (k : Int) = 9 ∧ (j : Int) = 30) := by
          rintro ⟨a, b⟩
          rw [a, show j = 30 by omega] at h2; revert h2; decide
        rw [if_neg n1, if_neg n2, if_neg n3, if_pos h2]
      · generalize z_ft (z_knd (k : Int)) j = t at h2
        match t, h2 with
        | 0, _ => rfl
        | 1, _ => rfl
        | 2, h2 => exact absurd rfl h2
        | n + 3, _ => rfl
  · by_cases h3 : z_knd (k : Int) < 300000
    · have hce : z_ce e true σ k = z_ce e false σ k := by
        unfold z_ce; rw [if_neg h1, if_pos h3, if_neg h1, if_pos h3]
      rw [hce]; exact hat
    · by_cases h6 : z_knd (k : Int) / 100000 = 6
      · have hce : z_ce e true σ k = z_ce e false σ k := by
          unfold z_ce; rw [if_neg h1, if_neg h3, if_neg h1, if_neg h3, h6]; rfl
        rw [hce]; exact hat
      · have hce := fun ph => z_ce_ref (e := e) (ph := ph) (σ := σ) (k := k) rfl (tag := z_knd (k : Int) / 100000) (n := z_knd (k : Int) % 100000) rfl rfl (by omega)
        rw [hce] at hat ⊢
        have hb : (z_knd (k : Int) / 100000 == 6) = false := by simp [h6]
        rw [hb] at hat ⊢
        refine Eq.trans hat (congrArg some ?_)
        rw [vp_cell_q, vp_cell_q]
        refine z_arrV_congr fun j hj => ?_
        have hs := hv j (by unfold z_nsl; rw [if_neg h1]; omega)
        unfold z_m0 z_m0k at hs
        rw [if_neg h1, if_neg h3, if_neg h6] at hs
        show va_rf (z_ad e (σ _ _)) = va_rf (z_ad e (z_sa _ _ _))
        rw [hs]
end
section
section LWC
variable {p : Program} {env : Env} {s : State} {m : MethodId} {below : List Frame} {meth : Method} {c : Code} {b L : Nat} {xs : Nat → Int32} {e : z_E} {ph : Bool} {N N' pc cells slots d : Nat} {H : Heap} {locs : List Loc} {la : Array Slot} {σ : z_M} {st : List Value} {QQ : State → Prop} {Q : Int → z_M → Prop}
theorem lw_run {y' : Nat} {args0 : List z_V} {st0 : List Value} (R : z_Rep e ph N σ H locs)
    (hr : va_Run p e.1 env room_1 s m #[.ref b] below meth c H locs cells slots (N' - N) (z_sl N' - z_sl N) (F0 m pc la st0) st (z_Qc e ph (z_hd y').2.2.2.1 N' Q (args0.map (z_vv e)).toArray) (z_A e))
    (k : ∀ r σ' H1 locs1, Q r σ' → z_rM σ' → z_rr (z_hd y').2.2.2.1 r → z_Rep e ph N' σ' H1 locs1 → W p e.1 env room_1 s m #[.ref b] below meth c H1 locs1 (cells + (N' - N)) (slots + (z_sl N' - z_sl N)) QQ (F0 m (pc + 3) la ((z_rv e (z_hd y').2.2.2.1 r).toList ++ st))) :
    W p e.1 env room_1 s m #[.ref b] below meth c H locs cells slots QQ (F0 m pc la st0) := by
  intro T hT X
  obtain ⟨v, st₀, t, T', L', h0, X', hL, e1, e2, ⟨r, σ', hQ, hM, hrr, hv, R'⟩, stp⟩ := hr T hT X
  have hv' : v = z_rv e (z_hd y').2.2.2.1 r := by cases hv; rfl
  subst hv'
  obtain ⟨t2, a1, b1⟩ := k r σ' T'.heap (locs ++ L') hQ hM hrr ⟨by rw [e1]; exact R'.1, by rw [e1]; exact R'.2.1, by rw [e1]; exact R'.2.2.1, by rw [e1]; exact R'.2.2.2.1, fun q hq => by
    rcases List.mem_append.mp hq with h | h
    · exact R.2.2.2.2 q h
    · exact hL q h⟩ T' rfl X'
  exact ⟨t2, stp t2 a1, b1⟩
theorem lw_cr {d' : Nat} (y' : Nat) (h : (z_hd y').2.2.1 ≤ 21) (hd : d' ≤ 1500) : (z_rm d' N N').frames + 1 ≤ room_1.frames ∧ 8 + ((z_hd y').2.2.1 + 11) + (z_rm d' N N').locals ≤ room_1.locals := by
  show d' + 1 ≤ 2048 ∧ 8 + ((z_hd y').2.2.1 + 11) + (40 * d' + 60) ≤ 84000
  omega
theorem lw_callV {y' ix : Nat} {b0 : Int} {As : List z_V} (C0 : lw_At p s m meth c b L xs) (hKS : z_KS e s) (hh : z_hok y') (hst : (z_hd y').2.2.2.2.2.2.2.2 = false) (hn : As.length = (z_hd y').2.2.2.2.2.1) (hok : z_ok N ((z_hd y').2.2.2.2.1 + 1) b0 = true) (hw1 : Cond.methodLink R_law ix (z_hd y').1 ∈ z_gw) (hw2 : Cond.selects (z_hd y').1.cls (z_hd y').1 (z_hd y').1 ∈ z_gw) (hdg : decode code pc = .ok (.invokevirtual ix, 3)) (hdd : d ≤ 1501) (hc : cells + (N' - N) ≤ 600000 ∧ slots + (z_sl N' - z_sl N) ≤ 7302250) (rA : z_rS As) (rM : z_rM σ) (R : z_Rep e ph N σ H locs) (hla : la.size = 4) (hcat : (st.map fun v => v.category).sum ≤ 8)
    (hY : z_Y e ph d y' (z_R b0 :: As) N N' σ Q)
    (k : ∀ r σ' H1 locs1, Q r σ' → z_rM σ' → z_rr (z_hd y').2.2.2.1 r → z_Rep e ph N' σ' H1 locs1 → W p e.1 env room_1 s m #[.ref b] below meth c H1 locs1 (cells + (N' - N)) (slots + (z_sl N' - z_sl N)) QQ (F0 m (pc + 3) la ((z_rv e (z_hd y').2.2.2.1 r).toList ++ st))) :
    W p e.1 env room_1 s m #[.ref b] below meth c H locs cells slots QQ (F0 m pc la ((As.map (z_vv e)).reverse ++ .ref (e.2.1.size + b0.toNat) :: st)) := by
  obtain ⟨hx, hb, hr, hml, hown, hts, hX, hbl, hlocks, hgv⟩ := C0
  obtain ⟨k1, k2, k3, k4, k5, k6, k7⟩ := z_hok_sp hh
  rw [hst, cond_false] at k3
  have hts' : ∀ w ∈ z_gw, w.before #[Value.ref b] s = true := fun w hw => hts w (z_gw_tbl hw)
  obtain ⟨d', rfl, hN1, hM⟩ := hY (List.forall_mem_cons.mpr ⟨trivial, rA⟩) rM
  obtain ⟨g0, g1, g2, g3⟩ := z_ok_sp hok
  obtain ⟨q, hcq, hq⟩ := Option.map_eq_some_iff.mp k6
  have hci : (z_hd y').2.2.2.2.1 < 9 := (List.getElem?_eq_some_iff.mp hcq).1
  have he := z_wd_get (e := e) (ph := ph) (σ := σ) g1
  rw [z_ce_obj (kd := (z_hd y').2.2.2.2.1 + 1) (by rw [g2]; exact g3) (by omega), g2] at he
  have hvb : z_vv e (z_R b0) = .ref (e.2.1.size + b0.toNat) := z_vv_pos (by omega)
  refine lw_run (args0 := z_R b0 :: As) (y' := y') R ?_ k
  rw [List.map_cons, hvb]
  refine va_runV (C := (z_hd y').1.cls) ⟨hx, hb, hml, hown, hts'⟩ hM (cwV _ hts' (z_good ?_) rfl rfl rfl ⟨rfl, k4.1, k4.2, k5⟩ (lw_cr y' k7 (by omega))) ⟨z_blind, ?_, fun U hU hW => ?_⟩ rfl (by rw [List.length_map]; exact hn) hla rfl (lv_room hcat) hdg hc
  · intro w hw
    rcases List.mem_append.mp hw with hw | hw
    · simp only [List.mem_cons, List.not_mem_nil, or_false] at hw
      rcases hw with rfl | rfl | rfl | rfl
      · exact hw1
      · exact k3
      · exact hw2
      · exact k2
    · exact z_wsin hh w hw
  · rw [← hq]
    exact va_recv hKS.1 R.2.1 hcq he
  · have := z_pre (args := z_R b0 :: As) hKS R hU hW
    rw [List.map_cons, hvb] at this
    exact this
theorem lw_callI {y' ix : Nat} {b0 : Int} (C0 : lw_At p s m meth c b L xs) (hKS : z_KS e s) (hh : z_hok y') (hst : (z_hd y').2.2.2.2.2.2.2.2 = false) (hini : (z_hd y').1.name = "<init>") (hvoid : (z_hd y').2.2.2.1 = none) (hn : (z_hd y').2.2.2.2.2.1 = 0) (hb0 : 0 ≤ b0) (hw1 : Cond.methodLink R_law ix (z_hd y').1 ∈ z_gw) (hdg : decode code pc = .ok (.invokespecial ix, 3)) (hdd : d ≤ 1501) (hc : cells + (N' - N) ≤ 600000 ∧ slots + (z_sl N' - z_sl N) ≤ 7302250) (rM : z_rM σ) (R : z_Rep e ph N σ H locs) (hla : la.size = 4) (hcat : (st.map fun v => v.category).sum ≤ 8)
    (hY : z_Y e ph d y' [z_R b0] N N' σ Q)
    (k : ∀ r σ' H1 locs1, Q r σ' → z_rM σ' → z_Rep e ph N' σ' H1 locs1 → W p e.1 env room_1 s m #[.ref b] below meth c H1 locs1 (cells + (N' - N)) (slots + (z_sl N' - z_sl N)) QQ (F0 m (pc + 3) la st)) :
    W p e.1 env room_1 s m #[.ref b] below meth c H locs cells slots QQ (F0 m pc la (.ref (e.2.1.size + b0.toNat) :: st)) := by
  obtain ⟨hx, hb, hr, hml, hown, hts, hX, hbl, hlocks, hgv⟩ := C0
  obtain ⟨k1, k2, k3, k4, k5, k6, k7⟩ := z_hok_sp hh
  rw [hst, cond_false] at k3
  have hts' : ∀ w ∈ z_gw, w.before #[Value.ref b] s = true := fun w hw => hts w (z_gw_tbl hw)
  obtain ⟨d', rfl, hN1, hM⟩ := hY (List.forall_mem_cons.mpr ⟨trivial, fun v h => by cases h⟩) rM
  have hvb : z_vv e (z_R b0) = .ref (e.2.1.size + b0.toNat) := z_vv_pos (by omega)
  refine lw_run (args0 := [z_R b0]) (y' := y') (st := st) (Q := Q) (N' := N') R ?_ ?_
  · rw [List.map_cons, hvb]
    refine va_runI (As := []) ⟨hx, hb, hml, hown, hts'⟩ hM (cwI (bytes := (z_hd y').2.1) (maxL := (z_hd y').2.2.1) (ws' := z_gw) _ hts' (z_good (z_wsin hh)) (by show z_ws y' = _; rw [z_ws, hvoid]) rfl rfl (hts' _ k2) (hts' _ hw1) (hts' _ k3) hini ⟨k4.1, k4.2, k5⟩ (lw_cr y' k7 (by omega))) ⟨z_blind, fun U hU hW => ?_⟩ rfl (by rw [hn]; rfl) hla rfl (lv_room hcat) hdg hc
    have := z_pre (args := [z_R b0]) hKS R hU hW
    rw [List.map_cons, hvb] at this
    exact this
  · intro r σ' H1 locs1 h1 h2 h3 h4
    rw [hvoid]
    exact k r σ' H1 locs1 h1 h2 h4
theorem lw_new {ci ix : Nat} {q : vw_C} (C0 : lw_At p s m meth c b L xs) (hKS : z_KS e s) (hc : z_cl[ci]? = some q) (hk : z_knd (N : Int) = ci + 1) (hw : Cond.classLink R_law ix q.1 ∈ z_gw) (hw3 : Cond.initialized q.1 ∈ z_gw) (hdg : decode code pc = .ok (.new ix, 3)) (hcs : cells + 1 ≤ 600000 ∧ slots + z_slot N ≤ 7302250) (rM : z_rM σ) (R : z_Rep e false N σ H locs)
    (k : ∀ H1, z_rM (z_nu σ (N : Int) (ci + 1)) → z_Rep e false (N + 1) (z_nu σ (N : Int) (ci + 1)) H1 locs → W p e.1 env room_1 s m #[.ref b] below meth c H1 locs (cells + 1) (slots + z_slot N) QQ (F0 m (pc + 3) la (.ref (e.2.1.size + N) :: st))) :
    W p e.1 env room_1 s m #[.ref b] below meth c H locs cells slots QQ (F0 m pc la st) := by
  obtain ⟨hx, hb, hr, hml, hown, hts, hX, hbl, hlocks, hgv⟩ := C0
  have hts' : ∀ w ∈ z_gw, w.before #[Value.ref b] s = true := fun w hw => hts w (z_gw_tbl hw)
  obtain ⟨f1, f2, f3, f4⟩ := z_cls ci q hc
  have hci : ci < 9 := (List.getElem?_eq_some_iff.mp hc).1
  have hsl : z_slot N = q.2.2 := by unfold z_slot; rw [hk, if_pos (by omega)]; exact f2
  have hKn := hKS.1.1 ci q hc
  rw [hsl] at hcs k
  refine W.newcK hx hb hown (hts' _ hw) (hts _ (z_inst_w ci q hc)) (hts' _ hw3) rfl hdg hcs.1 hcs.2 hKn.2.1 (R.1 rfl) fun H1 kC hkC e1 z1 o1 => ?_
  refine k H1 (z_rM_nu rM) ⟨fun _ => by omega, z_P_push R.2.1 ?_ o1 (fun k' hk => z_nu_o rfl (by omega)), ⟨by have := R.2.2.1; have := R.1 rfl; omega, fun q g1 g2 => by rw [o1 q (by omega)]; exact R.2.2.2.1 q g1 g2, R.2.2.2.2⟩⟩
  rw [z_ce_obj (kd := ci + 1) hk (by omega)]
  refine ⟨q, hc, (u_born (z_ty ci) hts' f1 hKn hkC e1 f3).to (fun j hj => ?_)⟩
  show defaultValue (z_ty ci j) = vp_V _ j
  have hg := z_fs_get (e := e) (ph := false) (σ := z_nu σ (N : Int) (ci + 1)) (x := (N : Int)) f2 hj
  unfold vp_V
  rw [List.getD_eq_getElem?_getD]
  refine Eq.trans ?_ (congrArg (fun o : Option Value => o.getD .null) hg).symm
  show _ = z_fv e false (ci + 1) j _ (if (N : Int) = N then z_df (ci + 1) (j : Int) else _)
  rw [if_pos rfl]
  have ht := z_tc_sp (z_tyk ci q hc j hj)
  unfold z_fv z_df
  rw [if_pos (by omega), show ((j : Int)).toNat = j by omega]
  revert ht
  generalize z_ft (ci + 1) j = t
  intro ht
  match t, ht with
  | 0, ht => rw [show z_ty ci j = .int from ht]; rfl
  | 1, ht => obtain ⟨n, hn⟩ := ht; rw [hn]; rfl
  | 2, ht => rcases ht with ⟨n, hn⟩ | ⟨n, hn⟩ <;> rw [hn] <;> rfl
  | 3, ht => rw [show z_ty ci j = .boolean from ht]; rfl
end LWC
end
