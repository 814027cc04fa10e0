section
-- ===== PART A: goes FIRST, ahead of the names: the tables' words, and 'selects' of the private methods out of them =====
/-- a private method of a class that the tables say can be made, by its rows of tables_1 -/
def lw_okq (q : MethodName × Nat) : Prop := (q.1.cls ≠ "java/lang/invoke/MethodHandle" ∧ q.1.cls ≠ "java/lang/invoke/VarHandle") ∧ Cond.instantiable q.1.cls q.2 ∈ tables_1 ∧ Cond.privateMethod q.1 ∈ tables_1 ∧ Cond.instanceMethod q.1 ∈ tables_1
theorem lw_p0 : lw_okq (⟨"SheetObjects$Tape", "addOne", "(I)V"⟩, 2) := ⟨⟨by decide +kernel, by decide +kernel⟩, List.mem_of_getElem? (i := 30) (by decide +kernel), List.mem_of_getElem? (i := 247) (by decide +kernel), List.mem_of_getElem? (i := 248) (by decide +kernel)⟩
theorem lw_p1 : lw_okq (⟨"java/lang/Throwable", "fillInStackTrace", "(I)Ljava/lang/Throwable;"⟩, 6) := ⟨⟨by decide +kernel, by decide +kernel⟩, List.mem_of_getElem? (i := 327) (by decide +kernel), List.mem_of_getElem? (i := 325) (by decide +kernel), List.mem_of_getElem? (i := 326) (by decide +kernel)⟩
theorem lw_p2 : lw_okq (⟨"SheetObjects", "needPlace", "(I)V"⟩, 4) := ⟨⟨by decide +kernel, by decide +kernel⟩, List.mem_of_getElem? (i := 22) (by decide +kernel), List.mem_of_getElem? (i := 399) (by decide +kernel), List.mem_of_getElem? (i := 400) (by decide +kernel)⟩
theorem lw_p3 : lw_okq (⟨"SheetObjects$Tokens", "become", "(II)V"⟩, 6) := ⟨⟨by decide +kernel, by decide +kernel⟩, List.mem_of_getElem? (i := 103) (by decide +kernel), List.mem_of_getElem? (i := 429) (by decide +kernel), List.mem_of_getElem? (i := 430) (by decide +kernel)⟩
theorem lw_p4 : lw_okq (⟨"SheetObjects$Tokens", "seekHex", "()V"⟩, 6) := ⟨⟨by decide +kernel, by decide +kernel⟩, List.mem_of_getElem? (i := 103) (by decide +kernel), List.mem_of_getElem? (i := 433) (by decide +kernel), List.mem_of_getElem? (i := 434) (by decide +kernel)⟩
theorem lw_p5 : lw_okq (⟨"SheetObjects$Tokens", "seekLiteral", "()V"⟩, 6) := ⟨⟨by decide +kernel, by decide +kernel⟩, List.mem_of_getElem? (i := 103) (by decide +kernel), List.mem_of_getElem? (i := 448) (by decide +kernel), List.mem_of_getElem? (i := 449) (by decide +kernel)⟩
theorem lw_p6 : lw_okq (⟨"SheetObjects$Tokens", "draftEscape", "(I)I"⟩, 6) := ⟨⟨by decide +kernel, by decide +kernel⟩, List.mem_of_getElem? (i := 103) (by decide +kernel), List.mem_of_getElem? (i := 452) (by decide +kernel), List.mem_of_getElem? (i := 453) (by decide +kernel)⟩
theorem lw_p7 : lw_okq (⟨"SheetObjects$Tokens", "lineLength", "(I)I"⟩, 6) := ⟨⟨by decide +kernel, by decide +kernel⟩, List.mem_of_getElem? (i := 103) (by decide +kernel), List.mem_of_getElem? (i := 456) (by decide +kernel), List.mem_of_getElem? (i := 457) (by decide +kernel)⟩
theorem lw_p8 : lw_okq (⟨"SheetObjects$Tokens", "draftOctal", "(I)I"⟩, 6) := ⟨⟨by decide +kernel, by decide +kernel⟩, List.mem_of_getElem? (i := 103) (by decide +kernel), List.mem_of_getElem? (i := 463) (by decide +kernel), List.mem_of_getElem? (i := 464) (by decide +kernel)⟩
theorem lw_p9 : lw_okq (⟨"SheetObjects$Tokens", "seekName", "()V"⟩, 6) := ⟨⟨by decide +kernel, by decide +kernel⟩, List.mem_of_getElem? (i := 103) (by decide +kernel), List.mem_of_getElem? (i := 473) (by decide +kernel), List.mem_of_getElem? (i := 474) (by decide +kernel)⟩
theorem lw_p10 : lw_okq (⟨"SheetObjects$Reader", "takeKey", "()I"⟩, 13) := ⟨⟨by decide +kernel, by decide +kernel⟩, List.mem_of_getElem? (i := 97) (by decide +kernel), List.mem_of_getElem? (i := 484) (by decide +kernel), List.mem_of_getElem? (i := 485) (by decide +kernel)⟩
theorem lw_p11 : lw_okq (⟨"SheetObjects$Reader", "takeEnd", "()I"⟩, 13) := ⟨⟨by decide +kernel, by decide +kernel⟩, List.mem_of_getElem? (i := 97) (by decide +kernel), List.mem_of_getElem? (i := 488) (by decide +kernel), List.mem_of_getElem? (i := 489) (by decide +kernel)⟩
theorem lw_p12 : lw_okq (⟨"SheetObjects$Reader", "innermost", "()I"⟩, 13) := ⟨⟨by decide +kernel, by decide +kernel⟩, List.mem_of_getElem? (i := 97) (by decide +kernel), List.mem_of_getElem? (i := 492) (by decide +kernel), List.mem_of_getElem? (i := 493) (by decide +kernel)⟩
theorem lw_p13 : lw_okq (⟨"SheetObjects$Reader", "countInParent", "()V"⟩, 13) := ⟨⟨by decide +kernel, by decide +kernel⟩, List.mem_of_getElem? (i := 97) (by decide +kernel), List.mem_of_getElem? (i := 501) (by decide +kernel), List.mem_of_getElem? (i := 502) (by decide +kernel)⟩
theorem lw_p14 : lw_okq (⟨"SheetObjects$Reader", "takeToken", "()I"⟩, 13) := ⟨⟨by decide +kernel, by decide +kernel⟩, List.mem_of_getElem? (i := 97) (by decide +kernel), List.mem_of_getElem? (i := 517) (by decide +kernel), List.mem_of_getElem? (i := 518) (by decide +kernel)⟩
theorem lw_p15 : lw_okq (⟨"SheetObjects$Reader", "takeBegin", "(I)I"⟩, 13) := ⟨⟨by decide +kernel, by decide +kernel⟩, List.mem_of_getElem? (i := 97) (by decide +kernel), List.mem_of_getElem? (i := 521) (by decide +kernel), List.mem_of_getElem? (i := 522) (by decide +kernel)⟩
def lw_privs_1 : List (MethodName × Nat) := [(⟨"SheetObjects$Tape", "addOne", "(I)V"⟩, 2), (⟨"java/lang/Throwable", "fillInStackTrace", "(I)Ljava/lang/Throwable;"⟩, 6), (⟨"SheetObjects", "needPlace", "(I)V"⟩, 4), (⟨"SheetObjects$Tokens", "become", "(II)V"⟩, 6), (⟨"SheetObjects$Tokens", "seekHex", "()V"⟩, 6), (⟨"SheetObjects$Tokens", "seekLiteral", "()V"⟩, 6), (⟨"SheetObjects$Tokens", "draftEscape", "(I)I"⟩, 6), (⟨"SheetObjects$Tokens", "lineLength", "(I)I"⟩, 6), (⟨"SheetObjects$Tokens", "draftOctal", "(I)I"⟩, 6), (⟨"SheetObjects$Tokens", "seekName", "()V"⟩, 6), (⟨"SheetObjects$Reader", "takeKey", "()I"⟩, 13), (⟨"SheetObjects$Reader", "takeEnd", "()I"⟩, 13), (⟨"SheetObjects$Reader", "innermost", "()I"⟩, 13), (⟨"SheetObjects$Reader", "countInParent", "()V"⟩, 13), (⟨"SheetObjects$Reader", "takeToken", "()I"⟩, 13), (⟨"SheetObjects$Reader", "takeBegin", "(I)I"⟩, 13)]
theorem lw_r1 : ∀ q ∈ lw_privs_1, lw_okq q := List.forall_mem_cons.mpr ⟨lw_p0, List.forall_mem_cons.mpr ⟨lw_p1, List.forall_mem_cons.mpr ⟨lw_p2, List.forall_mem_cons.mpr ⟨lw_p3, List.forall_mem_cons.mpr ⟨lw_p4, List.forall_mem_cons.mpr ⟨lw_p5, List.forall_mem_cons.mpr ⟨lw_p6, List.forall_mem_cons.mpr ⟨lw_p7, List.forall_mem_cons.mpr ⟨lw_p8, List.forall_mem_cons.mpr ⟨lw_p9, List.forall_mem_cons.mpr ⟨lw_p10, List.forall_mem_cons.mpr ⟨lw_p11, List.forall_mem_cons.mpr ⟨lw_p12, List.forall_mem_cons.mpr ⟨lw_p13, List.forall_mem_cons.mpr ⟨lw_p14, List.forall_mem_cons.mpr ⟨lw_p15, fun _ h => absurd h List.not_mem_nil⟩⟩⟩⟩⟩⟩⟩⟩⟩⟩⟩⟩⟩⟩⟩⟩
theorem lw_p16 : lw_okq (⟨"SheetObjects$Reader", "takeLeaf", "(III)I"⟩, 13) := ⟨⟨by decide +kernel, by decide +kernel⟩, List.mem_of_getElem? (i := 97) (by decide +kernel), List.mem_of_getElem? (i := 525) (by decide +kernel), List.mem_of_getElem? (i := 526) (by decide +kernel)⟩
theorem lw_p17 : lw_okq (⟨"SheetObjects$Reader", "takeWord", "()I"⟩, 13) := ⟨⟨by decide +kernel, by decide +kernel⟩, List.mem_of_getElem? (i := 97) (by decide +kernel), List.mem_of_getElem? (i := 529) (by decide +kernel), List.mem_of_getElem? (i := 530) (by decide +kernel)⟩
theorem lw_p18 : lw_okq (⟨"SheetObjects$Reader", "seekReference", "()I"⟩, 13) := ⟨⟨by decide +kernel, by decide +kernel⟩, List.mem_of_getElem? (i := 97) (by decide +kernel), List.mem_of_getElem? (i := 544) (by decide +kernel), List.mem_of_getElem? (i := 545) (by decide +kernel)⟩
theorem lw_p19 : lw_okq (⟨"SheetObjects$Reader", "fail", "(I)I"⟩, 13) := ⟨⟨by decide +kernel, by decide +kernel⟩, List.mem_of_getElem? (i := 97) (by decide +kernel), List.mem_of_getElem? (i := 588) (by decide +kernel), List.mem_of_getElem? (i := 589) (by decide +kernel)⟩
theorem lw_p20 : lw_okq (⟨"SheetObjects", "needNode", "(I)V"⟩, 4) := ⟨⟨by decide +kernel, by decide +kernel⟩, List.mem_of_getElem? (i := 22) (by decide +kernel), List.mem_of_getElem? (i := 640) (by decide +kernel), List.mem_of_getElem? (i := 641) (by decide +kernel)⟩
theorem lw_p21 : lw_okq (⟨"SheetObjects$Store", "sameBytes", "(II)Z"⟩, 11) := ⟨⟨by decide +kernel, by decide +kernel⟩, List.mem_of_getElem? (i := 48) (by decide +kernel), List.mem_of_getElem? (i := 717) (by decide +kernel), List.mem_of_getElem? (i := 718) (by decide +kernel)⟩
theorem lw_p22 : lw_okq (⟨"SheetObjects$Store", "sameNode", "(II)Z"⟩, 11) := ⟨⟨by decide +kernel, by decide +kernel⟩, List.mem_of_getElem? (i := 48) (by decide +kernel), List.mem_of_getElem? (i := 733) (by decide +kernel), List.mem_of_getElem? (i := 734) (by decide +kernel)⟩
theorem lw_p23 : lw_okq (⟨"SheetObjects$Page", "addEndsBefore", "(I)V"⟩, 8) := ⟨⟨by decide +kernel, by decide +kernel⟩, List.mem_of_getElem? (i := 191) (by decide +kernel), List.mem_of_getElem? (i := 749) (by decide +kernel), List.mem_of_getElem? (i := 750) (by decide +kernel)⟩
theorem lw_p24 : lw_okq (⟨"SheetObjects$Page", "addBracket", "(I)V"⟩, 8) := ⟨⟨by decide +kernel, by decide +kernel⟩, List.mem_of_getElem? (i := 191) (by decide +kernel), List.mem_of_getElem? (i := 754) (by decide +kernel), List.mem_of_getElem? (i := 755) (by decide +kernel)⟩
theorem lw_p25 : lw_okq (⟨"SheetObjects$Page", "beginToken", "()V"⟩, 8) := ⟨⟨by decide +kernel, by decide +kernel⟩, List.mem_of_getElem? (i := 191) (by decide +kernel), List.mem_of_getElem? (i := 758) (by decide +kernel), List.mem_of_getElem? (i := 759) (by decide +kernel)⟩
theorem lw_p26 : lw_okq (⟨"SheetObjects$Page", "add", "(I)V"⟩, 8) := ⟨⟨by decide +kernel, by decide +kernel⟩, List.mem_of_getElem? (i := 191) (by decide +kernel), List.mem_of_getElem? (i := 762) (by decide +kernel), List.mem_of_getElem? (i := 763) (by decide +kernel)⟩
theorem lw_p27 : lw_okq (⟨"SheetObjects$Page", "addNode", "(I)V"⟩, 8) := ⟨⟨by decide +kernel, by decide +kernel⟩, List.mem_of_getElem? (i := 191) (by decide +kernel), List.mem_of_getElem? (i := 766) (by decide +kernel), List.mem_of_getElem? (i := 767) (by decide +kernel)⟩
theorem lw_p28 : lw_okq (⟨"SheetObjects$Page", "addWord", "([B)V"⟩, 8) := ⟨⟨by decide +kernel, by decide +kernel⟩, List.mem_of_getElem? (i := 191) (by decide +kernel), List.mem_of_getElem? (i := 772) (by decide +kernel), List.mem_of_getElem? (i := 773) (by decide +kernel)⟩
theorem lw_p29 : lw_okq (⟨"SheetObjects$Page", "addInteger", "(I)V"⟩, 8) := ⟨⟨by decide +kernel, by decide +kernel⟩, List.mem_of_getElem? (i := 191) (by decide +kernel), List.mem_of_getElem? (i := 778) (by decide +kernel), List.mem_of_getElem? (i := 779) (by decide +kernel)⟩
theorem lw_p30 : lw_okq (⟨"SheetObjects$Page", "addSign", "(I)V"⟩, 8) := ⟨⟨by decide +kernel, by decide +kernel⟩, List.mem_of_getElem? (i := 191) (by decide +kernel), List.mem_of_getElem? (i := 782) (by decide +kernel), List.mem_of_getElem? (i := 783) (by decide +kernel)⟩
theorem lw_p31 : lw_okq (⟨"SheetObjects$Page", "addDigits", "(I)V"⟩, 8) := ⟨⟨by decide +kernel, by decide +kernel⟩, List.mem_of_getElem? (i := 191) (by decide +kernel), List.mem_of_getElem? (i := 789) (by decide +kernel), List.mem_of_getElem? (i := 790) (by decide +kernel)⟩
def lw_privs_2 : List (MethodName × Nat) := [(⟨"SheetObjects$Reader", "takeLeaf", "(III)I"⟩, 13), (⟨"SheetObjects$Reader", "takeWord", "()I"⟩, 13), (⟨"SheetObjects$Reader", "seekReference", "()I"⟩, 13), (⟨"SheetObjects$Reader", "fail", "(I)I"⟩, 13), (⟨"SheetObjects", "needNode", "(I)V"⟩, 4), (⟨"SheetObjects$Store", "sameBytes", "(II)Z"⟩, 11), (⟨"SheetObjects$Store", "sameNode", "(II)Z"⟩, 11), (⟨"SheetObjects$Page", "addEndsBefore", "(I)V"⟩, 8), (⟨"SheetObjects$Page", "addBracket", "(I)V"⟩, 8), (⟨"SheetObjects$Page", "beginToken", "()V"⟩, 8), (⟨"SheetObjects$Page", "add", "(I)V"⟩, 8), (⟨"SheetObjects$Page", "addNode", "(I)V"⟩, 8), (⟨"SheetObjects$Page", "addWord", "([B)V"⟩, 8), (⟨"SheetObjects$Page", "addInteger", "(I)V"⟩, 8), (⟨"SheetObjects$Page", "addSign", "(I)V"⟩, 8), (⟨"SheetObjects$Page", "addDigits", "(I)V"⟩, 8)]
theorem lw_r2 : ∀ q ∈ lw_privs_2, lw_okq q := List.forall_mem_cons.mpr ⟨lw_p16, List.forall_mem_cons.mpr ⟨lw_p17, List.forall_mem_cons.mpr ⟨lw_p18, List.forall_mem_cons.mpr ⟨lw_p19, List.forall_mem_cons.mpr ⟨lw_p20, List.forall_mem_cons.mpr ⟨lw_p21, List.forall_mem_cons.mpr ⟨lw_p22, List.forall_mem_cons.mpr ⟨lw_p23, List.forall_mem_cons.mpr ⟨lw_p24, List.forall_mem_cons.mpr ⟨lw_p25, List.forall_mem_cons.mpr ⟨lw_p26, List.forall_mem_cons.mpr ⟨lw_p27, List.forall_mem_cons.mpr ⟨lw_p28, List.forall_mem_cons.mpr ⟨lw_p29, List.forall_mem_cons.mpr ⟨lw_p30, List.forall_mem_cons.mpr ⟨lw_p31, fun _ h => absurd h List.not_mem_nil⟩⟩⟩⟩⟩⟩⟩⟩⟩⟩⟩⟩⟩⟩⟩⟩
theorem lw_p32 : lw_okq (⟨"SheetObjects$Page", "addReal", "(I)V"⟩, 8) := ⟨⟨by decide +kernel, by decide +kernel⟩, List.mem_of_getElem? (i := 191) (by decide +kernel), List.mem_of_getElem? (i := 794) (by decide +kernel), List.mem_of_getElem? (i := 795) (by decide +kernel)⟩
theorem lw_p33 : lw_okq (⟨"SheetObjects$Page", "addString", "(I)V"⟩, 8) := ⟨⟨by decide +kernel, by decide +kernel⟩, List.mem_of_getElem? (i := 191) (by decide +kernel), List.mem_of_getElem? (i := 799) (by decide +kernel), List.mem_of_getElem? (i := 800) (by decide +kernel)⟩
theorem lw_p34 : lw_okq (⟨"SheetObjects$Page", "addHex", "(I)V"⟩, 8) := ⟨⟨by decide +kernel, by decide +kernel⟩, List.mem_of_getElem? (i := 191) (by decide +kernel), List.mem_of_getElem? (i := 804) (by decide +kernel), List.mem_of_getElem? (i := 805) (by decide +kernel)⟩
theorem lw_p35 : lw_okq (⟨"SheetObjects$Page", "addName", "(I)V"⟩, 8) := ⟨⟨by decide +kernel, by decide +kernel⟩, List.mem_of_getElem? (i := 191) (by decide +kernel), List.mem_of_getElem? (i := 811) (by decide +kernel), List.mem_of_getElem? (i := 812) (by decide +kernel)⟩
theorem lw_p36 : lw_okq (⟨"SheetObjects$Page", "addBegin", "(II)V"⟩, 8) := ⟨⟨by decide +kernel, by decide +kernel⟩, List.mem_of_getElem? (i := 191) (by decide +kernel), List.mem_of_getElem? (i := 816) (by decide +kernel), List.mem_of_getElem? (i := 817) (by decide +kernel)⟩
theorem lw_p37 : lw_okq (⟨"SheetObjectsModel", "refused", "(I)Z"⟩, 33) := ⟨⟨by decide +kernel, by decide +kernel⟩, List.mem_of_getElem? (i := 840) (by decide +kernel), List.mem_of_getElem? (i := 960) (by decide +kernel), List.mem_of_getElem? (i := 961) (by decide +kernel)⟩
theorem lw_p38 : lw_okq (⟨"SheetObjectsModel", "readObject", "(I)I"⟩, 33) := ⟨⟨by decide +kernel, by decide +kernel⟩, List.mem_of_getElem? (i := 840) (by decide +kernel), List.mem_of_getElem? (i := 972) (by decide +kernel), List.mem_of_getElem? (i := 973) (by decide +kernel)⟩
theorem lw_p39 : lw_okq (⟨"SheetObjectsModel", "look", "(I)V"⟩, 33) := ⟨⟨by decide +kernel, by decide +kernel⟩, List.mem_of_getElem? (i := 840) (by decide +kernel), List.mem_of_getElem? (i := 976) (by decide +kernel), List.mem_of_getElem? (i := 977) (by decide +kernel)⟩
theorem lw_p40 : lw_okq (⟨"SheetObjectsModel", "skip", "(I)I"⟩, 33) := ⟨⟨by decide +kernel, by decide +kernel⟩, List.mem_of_getElem? (i := 840) (by decide +kernel), List.mem_of_getElem? (i := 980) (by decide +kernel), List.mem_of_getElem? (i := 981) (by decide +kernel)⟩
theorem lw_p41 : lw_okq (⟨"SheetObjectsModel", "at", "(I)I"⟩, 33) := ⟨⟨by decide +kernel, by decide +kernel⟩, List.mem_of_getElem? (i := 840) (by decide +kernel), List.mem_of_getElem? (i := 987) (by decide +kernel), List.mem_of_getElem? (i := 988) (by decide +kernel)⟩
theorem lw_p42 : lw_okq (⟨"SheetObjectsModel", "one", "(II)V"⟩, 33) := ⟨⟨by decide +kernel, by decide +kernel⟩, List.mem_of_getElem? (i := 840) (by decide +kernel), List.mem_of_getElem? (i := 991) (by decide +kernel), List.mem_of_getElem? (i := 992) (by decide +kernel)⟩
theorem lw_p43 : lw_okq (⟨"SheetObjectsModel", "lookString", "()V"⟩, 33) := ⟨⟨by decide +kernel, by decide +kernel⟩, List.mem_of_getElem? (i := 840) (by decide +kernel), List.mem_of_getElem? (i := 995) (by decide +kernel), List.mem_of_getElem? (i := 996) (by decide +kernel)⟩
theorem lw_p44 : lw_okq (⟨"SheetObjectsModel", "escaped", "(I)I"⟩, 33) := ⟨⟨by decide +kernel, by decide +kernel⟩, List.mem_of_getElem? (i := 840) (by decide +kernel), List.mem_of_getElem? (i := 999) (by decide +kernel), List.mem_of_getElem? (i := 1000) (by decide +kernel)⟩
theorem lw_p45 : lw_okq (⟨"SheetObjectsModel", "text", "(I)V"⟩, 33) := ⟨⟨by decide +kernel, by decide +kernel⟩, List.mem_of_getElem? (i := 840) (by decide +kernel), List.mem_of_getElem? (i := 1006) (by decide +kernel), List.mem_of_getElem? (i := 1007) (by decide +kernel)⟩
theorem lw_p46 : lw_okq (⟨"SheetObjectsModel", "lookHex", "()V"⟩, 33) := ⟨⟨by decide +kernel, by decide +kernel⟩, List.mem_of_getElem? (i := 840) (by decide +kernel), List.mem_of_getElem? (i := 1010) (by decide +kernel), List.mem_of_getElem? (i := 1011) (by decide +kernel)⟩
theorem lw_p47 : lw_okq (⟨"SheetObjectsModel", "lookName", "()V"⟩, 33) := ⟨⟨by decide +kernel, by decide +kernel⟩, List.mem_of_getElem? (i := 840) (by decide +kernel), List.mem_of_getElem? (i := 1020) (by decide +kernel), List.mem_of_getElem? (i := 1021) (by decide +kernel)⟩
def lw_privs_3 : List (MethodName × Nat) := [(⟨"SheetObjects$Page", "addReal", "(I)V"⟩, 8), (⟨"SheetObjects$Page", "addString", "(I)V"⟩, 8), (⟨"SheetObjects$Page", "addHex", "(I)V"⟩, 8), (⟨"SheetObjects$Page", "addName", "(I)V"⟩, 8), (⟨"SheetObjects$Page", "addBegin", "(II)V"⟩, 8), (⟨"SheetObjectsModel", "refused", "(I)Z"⟩, 33), (⟨"SheetObjectsModel", "readObject", "(I)I"⟩, 33), (⟨"SheetObjectsModel", "look", "(I)V"⟩, 33), (⟨"SheetObjectsModel", "skip", "(I)I"⟩, 33), (⟨"SheetObjectsModel", "at", "(I)I"⟩, 33), (⟨"SheetObjectsModel", "one", "(II)V"⟩, 33), (⟨"SheetObjectsModel", "lookString", "()V"⟩, 33), (⟨"SheetObjectsModel", "escaped", "(I)I"⟩, 33), (⟨"SheetObjectsModel", "text", "(I)V"⟩, 33), (⟨"SheetObjectsModel", "lookHex", "()V"⟩, 33), (⟨"SheetObjectsModel", "lookName", "()V"⟩, 33)]
theorem lw_r3 : ∀ q ∈ lw_privs_3, lw_okq q := List.forall_mem_cons.mpr ⟨lw_p32, List.forall_mem_cons.mpr ⟨lw_p33, List.forall_mem_cons.mpr ⟨lw_p34, List.forall_mem_cons.mpr ⟨lw_p35, List.forall_mem_cons.mpr ⟨lw_p36, List.forall_mem_cons.mpr ⟨lw_p37, List.forall_mem_cons.mpr ⟨lw_p38, List.forall_mem_cons.mpr ⟨lw_p39, List.forall_mem_cons.mpr ⟨lw_p40, List.forall_mem_cons.mpr ⟨lw_p41, List.forall_mem_cons.mpr ⟨lw_p42, List.forall_mem_cons.mpr ⟨lw_p43, List.forall_mem_cons.mpr ⟨lw_p44, List.forall_mem_cons.mpr ⟨lw_p45, List.forall_mem_cons.mpr ⟨lw_p46, List.forall_mem_cons.mpr ⟨lw_p47, fun _ h => absurd h List.not_mem_nil⟩⟩⟩⟩⟩⟩⟩⟩⟩⟩⟩⟩⟩⟩⟩⟩
theorem lw_p48 : lw_okq (⟨"SheetObjectsModel", "lookWord", "()V"⟩, 33) := ⟨⟨by decide +kernel, by decide +kernel⟩, List.mem_of_getElem? (i := 840) (by decide +kernel), List.mem_of_getElem? (i := 1030) (by decide +kernel), List.mem_of_getElem? (i := 1031) (by decide +kernel)⟩
theorem lw_p49 : lw_okq (⟨"SheetObjectsModel", "sense", "()I"⟩, 33) := ⟨⟨by decide +kernel, by decide +kernel⟩, List.mem_of_getElem? (i := 840) (by decide +kernel), List.mem_of_getElem? (i := 1034) (by decide +kernel), List.mem_of_getElem? (i := 1035) (by decide +kernel)⟩
theorem lw_p50 : lw_okq (⟨"SheetObjectsModel", "isNumber", "()Z"⟩, 33) := ⟨⟨by decide +kernel, by decide +kernel⟩, List.mem_of_getElem? (i := 840) (by decide +kernel), List.mem_of_getElem? (i := 1038) (by decide +kernel), List.mem_of_getElem? (i := 1039) (by decide +kernel)⟩
theorem lw_p51 : lw_okq (⟨"SheetObjectsModel", "signs", "()I"⟩, 33) := ⟨⟨by decide +kernel, by decide +kernel⟩, List.mem_of_getElem? (i := 840) (by decide +kernel), List.mem_of_getElem? (i := 1042) (by decide +kernel), List.mem_of_getElem? (i := 1043) (by decide +kernel)⟩
theorem lw_p52 : lw_okq (⟨"SheetObjectsModel", "isWord", "(Ljava/lang/String;)Z"⟩, 33) := ⟨⟨by decide +kernel, by decide +kernel⟩, List.mem_of_getElem? (i := 840) (by decide +kernel), List.mem_of_getElem? (i := 1047) (by decide +kernel), List.mem_of_getElem? (i := 1048) (by decide +kernel)⟩
theorem lw_p53 : lw_okq (⟨"SheetObjectsModel", "take", "()I"⟩, 33) := ⟨⟨by decide +kernel, by decide +kernel⟩, List.mem_of_getElem? (i := 840) (by decide +kernel), List.mem_of_getElem? (i := 1101) (by decide +kernel), List.mem_of_getElem? (i := 1102) (by decide +kernel)⟩
theorem lw_p54 : lw_okq (⟨"SheetObjectsModel", "valueIsThere", "()V"⟩, 33) := ⟨⟨by decide +kernel, by decide +kernel⟩, List.mem_of_getElem? (i := 840) (by decide +kernel), List.mem_of_getElem? (i := 1105) (by decide +kernel), List.mem_of_getElem? (i := 1106) (by decide +kernel)⟩
theorem lw_p55 : lw_okq (⟨"SheetObjectsModel", "hasRoom", "()Z"⟩, 33) := ⟨⟨by decide +kernel, by decide +kernel⟩, List.mem_of_getElem? (i := 840) (by decide +kernel), List.mem_of_getElem? (i := 1109) (by decide +kernel), List.mem_of_getElem? (i := 1110) (by decide +kernel)⟩
theorem lw_p56 : lw_okq (⟨"SheetObjectsModel", "add", "(III)V"⟩, 33) := ⟨⟨by decide +kernel, by decide +kernel⟩, List.mem_of_getElem? (i := 840) (by decide +kernel), List.mem_of_getElem? (i := 1113) (by decide +kernel), List.mem_of_getElem? (i := 1114) (by decide +kernel)⟩
theorem lw_p57 : lw_okq (⟨"SheetObjectsModel", "addText", "(I)V"⟩, 33) := ⟨⟨by decide +kernel, by decide +kernel⟩, List.mem_of_getElem? (i := 840) (by decide +kernel), List.mem_of_getElem? (i := 1117) (by decide +kernel), List.mem_of_getElem? (i := 1118) (by decide +kernel)⟩
theorem lw_p58 : lw_okq (⟨"SheetObjectsModel", "isReference", "()Z"⟩, 33) := ⟨⟨by decide +kernel, by decide +kernel⟩, List.mem_of_getElem? (i := 840) (by decide +kernel), List.mem_of_getElem? (i := 1121) (by decide +kernel), List.mem_of_getElem? (i := 1122) (by decide +kernel)⟩
theorem lw_p59 : lw_okq (⟨"SheetObjectsModel", "isCount", "(I)Z"⟩, 33) := ⟨⟨by decide +kernel, by decide +kernel⟩, List.mem_of_getElem? (i := 840) (by decide +kernel), List.mem_of_getElem? (i := 1126) (by decide +kernel), List.mem_of_getElem? (i := 1127) (by decide +kernel)⟩
theorem lw_p60 : lw_okq (⟨"SheetObjectsModel", "isInteger", "()Z"⟩, 33) := ⟨⟨by decide +kernel, by decide +kernel⟩, List.mem_of_getElem? (i := 840) (by decide +kernel), List.mem_of_getElem? (i := 1134) (by decide +kernel), List.mem_of_getElem? (i := 1135) (by decide +kernel)⟩
theorem lw_p61 : lw_okq (⟨"SheetObjectsModel", "point", "()I"⟩, 33) := ⟨⟨by decide +kernel, by decide +kernel⟩, List.mem_of_getElem? (i := 840) (by decide +kernel), List.mem_of_getElem? (i := 1138) (by decide +kernel), List.mem_of_getElem? (i := 1139) (by decide +kernel)⟩
theorem lw_p62 : lw_okq (⟨"SheetObjectsModel", "whole", "()J"⟩, 33) := ⟨⟨by decide +kernel, by decide +kernel⟩, List.mem_of_getElem? (i := 840) (by decide +kernel), List.mem_of_getElem? (i := 1142) (by decide +kernel), List.mem_of_getElem? (i := 1143) (by decide +kernel)⟩
theorem lw_p63 : lw_okq (⟨"SheetObjectsModel", "numberValue", "()I"⟩, 33) := ⟨⟨by decide +kernel, by decide +kernel⟩, List.mem_of_getElem? (i := 840) (by decide +kernel), List.mem_of_getElem? (i := 1147) (by decide +kernel), List.mem_of_getElem? (i := 1148) (by decide +kernel)⟩
def lw_privs_4 : List (MethodName × Nat) := [(⟨"SheetObjectsModel", "lookWord", "()V"⟩, 33), (⟨"SheetObjectsModel", "sense", "()I"⟩, 33), (⟨"SheetObjectsModel", "isNumber", "()Z"⟩, 33), (⟨"SheetObjectsModel", "signs", "()I"⟩, 33), (⟨"SheetObjectsModel", "isWord", "(Ljava/lang/String;)Z"⟩, 33), (⟨"SheetObjectsModel", "take", "()I"⟩, 33), (⟨"SheetObjectsModel", "valueIsThere", "()V"⟩, 33), (⟨"SheetObjectsModel", "hasRoom", "()Z"⟩, 33), (⟨"SheetObjectsModel", "add", "(III)V"⟩, 33), (⟨"SheetObjectsModel", "addText", "(I)V"⟩, 33), (⟨"SheetObjectsModel", "isReference", "()Z"⟩, 33), (⟨"SheetObjectsModel", "isCount", "(I)Z"⟩, 33), (⟨"SheetObjectsModel", "isInteger", "()Z"⟩, 33), (⟨"SheetObjectsModel", "point", "()I"⟩, 33), (⟨"SheetObjectsModel", "whole", "()J"⟩, 33), (⟨"SheetObjectsModel", "numberValue", "()I"⟩, 33)]
theorem lw_r4 : ∀ q ∈ lw_privs_4, lw_okq q := List.forall_mem_cons.mpr ⟨lw_p48, List.forall_mem_cons.mpr ⟨lw_p49, List.forall_mem_cons.mpr ⟨lw_p50, List.forall_mem_cons.mpr ⟨lw_p51, List.forall_mem_cons.mpr ⟨lw_p52, List.forall_mem_cons.mpr ⟨lw_p53, List.forall_mem_cons.mpr ⟨lw_p54, List.forall_mem_cons.mpr ⟨lw_p55, List.forall_mem_cons.mpr ⟨lw_p56, List.forall_mem_cons.mpr ⟨lw_p57, List.forall_mem_cons.mpr ⟨lw_p58, List.forall_mem_cons.mpr ⟨lw_p59, List.forall_mem_cons.mpr ⟨lw_p60, List.forall_mem_cons.mpr ⟨lw_p61, List.forall_mem_cons.mpr ⟨lw_p62, List.forall_mem_cons.mpr ⟨lw_p63, fun _ h => absurd h List.not_mem_nil⟩⟩⟩⟩⟩⟩⟩⟩⟩⟩⟩⟩⟩⟩⟩⟩
theorem lw_p64 : lw_okq (⟨"SheetObjectsModel", "parts", "()J"⟩, 33) := ⟨⟨by decide +kernel, by decide +kernel⟩, List.mem_of_getElem? (i := 840) (by decide +kernel), List.mem_of_getElem? (i := 1152) (by decide +kernel), List.mem_of_getElem? (i := 1153) (by decide +kernel)⟩
theorem lw_p65 : lw_okq (⟨"SheetObjectsModel", "keepObject", "(II)V"⟩, 33) := ⟨⟨by decide +kernel, by decide +kernel⟩, List.mem_of_getElem? (i := 840) (by decide +kernel), List.mem_of_getElem? (i := 1159) (by decide +kernel), List.mem_of_getElem? (i := 1160) (by decide +kernel)⟩
theorem lw_p66 : lw_okq (⟨"SheetObjectsModel", "readHead", "(I)Z"⟩, 33) := ⟨⟨by decide +kernel, by decide +kernel⟩, List.mem_of_getElem? (i := 840) (by decide +kernel), List.mem_of_getElem? (i := 1167) (by decide +kernel), List.mem_of_getElem? (i := 1168) (by decide +kernel)⟩
theorem lw_p67 : lw_okq (⟨"SheetObjectsModel", "refuseAt", "(III)I"⟩, 33) := ⟨⟨by decide +kernel, by decide +kernel⟩, List.mem_of_getElem? (i := 840) (by decide +kernel), List.mem_of_getElem? (i := 1172) (by decide +kernel), List.mem_of_getElem? (i := 1173) (by decide +kernel)⟩
theorem lw_p68 : lw_okq (⟨"SheetObjectsModel", "addStream", "(III)I"⟩, 33) := ⟨⟨by decide +kernel, by decide +kernel⟩, List.mem_of_getElem? (i := 840) (by decide +kernel), List.mem_of_getElem? (i := 1178) (by decide +kernel), List.mem_of_getElem? (i := 1179) (by decide +kernel)⟩
theorem lw_p69 : lw_okq (⟨"SheetObjectsModel", "isWrong", "(I)Z"⟩, 33) := ⟨⟨by decide +kernel, by decide +kernel⟩, List.mem_of_getElem? (i := 840) (by decide +kernel), List.mem_of_getElem? (i := 1190) (by decide +kernel), List.mem_of_getElem? (i := 1191) (by decide +kernel)⟩
theorem lw_p70 : lw_okq (⟨"SheetObjectsModel", "isNode", "(I)Z"⟩, 33) := ⟨⟨by decide +kernel, by decide +kernel⟩, List.mem_of_getElem? (i := 840) (by decide +kernel), List.mem_of_getElem? (i := 1194) (by decide +kernel), List.mem_of_getElem? (i := 1195) (by decide +kernel)⟩
theorem lw_p71 : lw_okq (⟨"SheetObjectsModel", "isText", "(I)Z"⟩, 33) := ⟨⟨by decide +kernel, by decide +kernel⟩, List.mem_of_getElem? (i := 840) (by decide +kernel), List.mem_of_getElem? (i := 1206) (by decide +kernel), List.mem_of_getElem? (i := 1207) (by decide +kernel)⟩
theorem lw_p72 : lw_okq (⟨"SheetObjectsModel", "part", "(II)I"⟩, 33) := ⟨⟨by decide +kernel, by decide +kernel⟩, List.mem_of_getElem? (i := 840) (by decide +kernel), List.mem_of_getElem? (i := 1214) (by decide +kernel), List.mem_of_getElem? (i := 1215) (by decide +kernel)⟩
theorem lw_p73 : lw_okq (⟨"SheetObjectsModel", "dictionaryOf", "(I)I"⟩, 33) := ⟨⟨by decide +kernel, by decide +kernel⟩, List.mem_of_getElem? (i := 840) (by decide +kernel), List.mem_of_getElem? (i := 1222) (by decide +kernel), List.mem_of_getElem? (i := 1223) (by decide +kernel)⟩
theorem lw_p74 : lw_okq (⟨"SheetObjectsModel", "same", "(II)Z"⟩, 33) := ⟨⟨by decide +kernel, by decide +kernel⟩, List.mem_of_getElem? (i := 840) (by decide +kernel), List.mem_of_getElem? (i := 1226) (by decide +kernel), List.mem_of_getElem? (i := 1227) (by decide +kernel)⟩
theorem lw_p75 : lw_okq (⟨"SheetObjectsModel", "put1", "(I)V"⟩, 33) := ⟨⟨by decide +kernel, by decide +kernel⟩, List.mem_of_getElem? (i := 840) (by decide +kernel), List.mem_of_getElem? (i := 1238) (by decide +kernel), List.mem_of_getElem? (i := 1239) (by decide +kernel)⟩
theorem lw_p76 : lw_okq (⟨"SheetObjectsModel", "putNode", "(I)V"⟩, 33) := ⟨⟨by decide +kernel, by decide +kernel⟩, List.mem_of_getElem? (i := 840) (by decide +kernel), List.mem_of_getElem? (i := 1242) (by decide +kernel), List.mem_of_getElem? (i := 1243) (by decide +kernel)⟩
theorem lw_p77 : lw_okq (⟨"SheetObjectsModel", "putWord", "(Ljava/lang/String;)V"⟩, 33) := ⟨⟨by decide +kernel, by decide +kernel⟩, List.mem_of_getElem? (i := 840) (by decide +kernel), List.mem_of_getElem? (i := 1246) (by decide +kernel), List.mem_of_getElem? (i := 1247) (by decide +kernel)⟩
theorem lw_p78 : lw_okq (⟨"SheetObjectsModel", "putNumber", "(J)V"⟩, 33) := ⟨⟨by decide +kernel, by decide +kernel⟩, List.mem_of_getElem? (i := 840) (by decide +kernel), List.mem_of_getElem? (i := 1250) (by decide +kernel), List.mem_of_getElem? (i := 1251) (by decide +kernel)⟩
theorem lw_p79 : lw_okq (⟨"SheetObjectsModel", "putReal", "(J)V"⟩, 33) := ⟨⟨by decide +kernel, by decide +kernel⟩, List.mem_of_getElem? (i := 840) (by decide +kernel), List.mem_of_getElem? (i := 1254) (by decide +kernel), List.mem_of_getElem? (i := 1255) (by decide +kernel)⟩
def lw_privs_5 : List (MethodName × Nat) := [(⟨"SheetObjectsModel", "parts", "()J"⟩, 33), (⟨"SheetObjectsModel", "keepObject", "(II)V"⟩, 33), (⟨"SheetObjectsModel", "readHead", "(I)Z"⟩, 33), (⟨"SheetObjectsModel", "refuseAt", "(III)I"⟩, 33), (⟨"SheetObjectsModel", "addStream", "(III)I"⟩, 33), (⟨"SheetObjectsModel", "isWrong", "(I)Z"⟩, 33), (⟨"SheetObjectsModel", "isNode", "(I)Z"⟩, 33), (⟨"SheetObjectsModel", "isText", "(I)Z"⟩, 33), (⟨"SheetObjectsModel", "part", "(II)I"⟩, 33), (⟨"SheetObjectsModel", "dictionaryOf", "(I)I"⟩, 33), (⟨"SheetObjectsModel", "same", "(II)Z"⟩, 33), (⟨"SheetObjectsModel", "put1", "(I)V"⟩, 33), (⟨"SheetObjectsModel", "putNode", "(I)V"⟩, 33), (⟨"SheetObjectsModel", "putWord", "(Ljava/lang/String;)V"⟩, 33), (⟨"SheetObjectsModel", "putNumber", "(J)V"⟩, 33), (⟨"SheetObjectsModel", "putReal", "(J)V"⟩, 33)]
theorem lw_r5 : ∀ q ∈ lw_privs_5, lw_okq q := List.forall_mem_cons.mpr ⟨lw_p64, List.forall_mem_cons.mpr ⟨lw_p65, List.forall_mem_cons.mpr ⟨lw_p66, List.forall_mem_cons.mpr ⟨lw_p67, List.forall_mem_cons.mpr ⟨lw_p68, List.forall_mem_cons.mpr ⟨lw_p69, List.forall_mem_cons.mpr ⟨lw_p70, List.forall_mem_cons.mpr ⟨lw_p71, List.forall_mem_cons.mpr ⟨lw_p72, List.forall_mem_cons.mpr ⟨lw_p73, List.forall_mem_cons.mpr ⟨lw_p74, List.forall_mem_cons.mpr ⟨lw_p75, List.forall_mem_cons.mpr ⟨lw_p76, List.forall_mem_cons.mpr ⟨lw_p77, List.forall_mem_cons.mpr ⟨lw_p78, List.forall_mem_cons.mpr ⟨lw_p79, fun _ h => absurd h List.not_mem_nil⟩⟩⟩⟩⟩⟩⟩⟩⟩⟩⟩⟩⟩⟩⟩⟩
theorem lw_p80 : lw_okq (⟨"SheetObjectsModel", "putText", "(I)V"⟩, 33) := ⟨⟨by decide +kernel, by decide +kernel⟩, List.mem_of_getElem? (i := 840) (by decide +kernel), List.mem_of_getElem? (i := 1258) (by decide +kernel), List.mem_of_getElem? (i := 1259) (by decide +kernel)⟩
theorem lw_p81 : lw_okq (⟨"SheetObjectsModel", "putHex", "(I)V"⟩, 33) := ⟨⟨by decide +kernel, by decide +kernel⟩, List.mem_of_getElem? (i := 840) (by decide +kernel), List.mem_of_getElem? (i := 1262) (by decide +kernel), List.mem_of_getElem? (i := 1263) (by decide +kernel)⟩
theorem lw_p82 : lw_okq (⟨"SheetObjectsModel", "putEnds", "(II)V"⟩, 33) := ⟨⟨by decide +kernel, by decide +kernel⟩, List.mem_of_getElem? (i := 840) (by decide +kernel), List.mem_of_getElem? (i := 1269) (by decide +kernel), List.mem_of_getElem? (i := 1270) (by decide +kernel)⟩
def lw_privs_6 : List (MethodName × Nat) := [(⟨"SheetObjectsModel", "putText", "(I)V"⟩, 33), (⟨"SheetObjectsModel", "putHex", "(I)V"⟩, 33), (⟨"SheetObjectsModel", "putEnds", "(II)V"⟩, 33)]
theorem lw_r6 : ∀ q ∈ lw_privs_6, lw_okq q := List.forall_mem_cons.mpr ⟨lw_p80, List.forall_mem_cons.mpr ⟨lw_p81, List.forall_mem_cons.mpr ⟨lw_p82, fun _ h => absurd h List.not_mem_nil⟩⟩⟩
def lw_privs : List (MethodName × Nat) := lw_privs_1 ++ (lw_privs_2 ++ (lw_privs_3 ++ (lw_privs_4 ++ (lw_privs_5 ++ (lw_privs_6)))))
def lw_tbl : List Cond := k2_sels lw_privs ++ tables_1
theorem lw_privs_ok : ∀ q ∈ lw_privs, lw_okq q := by
  show ∀ q ∈ lw_privs_1 ++ (lw_privs_2 ++ (lw_privs_3 ++ (lw_privs_4 ++ (lw_privs_5 ++ (lw_privs_6))))), lw_okq q
  exact List.forall_mem_append.mpr ⟨lw_r1, List.forall_mem_append.mpr ⟨lw_r2, List.forall_mem_append.mpr ⟨lw_r3, List.forall_mem_append.mpr ⟨lw_r4, List.forall_mem_append.mpr ⟨lw_r5, lw_r6⟩⟩⟩⟩⟩
end
section
/-! ===== BEGIN words of one list among another's, by their places ===== -/
theorem goodIn_r {big : List Cond} (ws : List Cond) (ps : List Nat) (hp : ws = ps.filterMap (fun i => big[i]?)) (h : ws.all goodWord = true) : GoodIn big ws := by
  intro w hw
  have h1 := List.all_eq_true.mp h w hw
  rw [hp] at hw
  obtain ⟨i, -, hi⟩ := List.mem_filterMap.mp hw
  have hm : w ∈ big := by first | exact List.mem_of_getElem? hi | exact List.getElem?_mem hi
  exact ⟨hm, good_of_word h1⟩
theorem goodIn_app {big a b : List Cond} (ha : GoodIn big a) (hb : GoodIn big b) : GoodIn big (a ++ b) := fun w h => (List.mem_append.mp h).elim (ha w) (hb w)
theorem goodIn_ca {big a b : List Cond} {c : Cond} (ha : GoodIn big (c :: a)) (hb : GoodIn big b) : GoodIn big (c :: (a ++ b)) := fun w h => (List.mem_cons.mp h).elim (fun e => ha w (List.mem_cons.mpr (Or.inl e))) (fun h => (List.mem_append.mp h).elim (fun h => ha w (List.mem_cons.mpr (Or.inr h))) (hb w))
theorem goodIn_sub {big ws : List Cond} (hm : ∀ w ∈ ws, w ∈ big) (h : ws.all goodWord = true) : GoodIn big ws := fun w hw => ⟨hm w hw, good_of_word (List.all_eq_true.mp h w hw)⟩
/-! ===== END ===== -/

/-! ===== BEGIN exceptions that leave a method, and their catching by the caller (launches without stack traces) ===== -/
section VXA
/-! The laws vx_back, vx_callV, vx_callS, vx_callSW, vx_throw0, vx_throwS follow proofs of the library, with one case more: JvmDerived/Free/Laws.lean (Back.of_free), Shelf42/LK1.lean (callV, callS), Shelf/KitTraced.lean (throwNew0V, throwNewS). -/
/-- where a method has thrown q: the class by its name, the cell, what was written, the world -/
def vx_T (XC : String → State → State → Prop) (st : State) (q : Addr) (t : State) (mc ms : Nat) (free : Addr → Prop) : Prop :=
  ∃ (E : String) (ce : Cell) (L : List Loc), XC E st t ∧ t.heap[q]? = some ce ∧ ce.vm = .none ∧ st.vm.findClass E = some ce.cls ∧ st.WarmedH t.vm ∧ st.sameButNew ({ t with vm := st.vm } : State) L mc ms ∧ ∀ z ∈ L, free z.base
def vx_Q (Qc : Array Value → State → Outcome → State → Prop) (XC : String → State → State → Prop) (mc ms : Nat) (free : Addr → Prop) : Array Value → State → Outcome → State → Prop := fun a st o t =>
  (Qc a st o t ∧ ∃ L, FrameEnd st o t L mc ms ∧ ∀ q ∈ L, free q.base) ∨ ∃ q, o = .threw q ∧ vx_T XC st q t mc ms free
/-- a callee that returns or throws -/
def vx_Met (l : Launch) (y : MethodName) (ws : List Cond) (rm : Room) (Pc : Array Value → State → Prop) (Qc : Array Value → State → Outcome → State → Prop) (XC : String → State → State → Prop) (mc ms : Nat) (free : Addr → Prop) : Prop :=
  MetFree l y (headSpec ws rm) Pc (fun _ _ _ _ _ => True) (vx_Q Qc XC mc ms free)
def vx_Post (XC : String → State → State → Prop) (mc ms : Nat) (free : Addr → Prop) : Pt → Array Value → Addr → Pt → Prop := fun A a q B =>
  ∃ (g : JFrame) (mk : MethodId) (t : State) (L : List Loc) (E : String) (ce : Cell), B.U.heap = t.heap ∧ B.U.vm = t.vm ∧ XC E (A.U.calling g mk a) t ∧ t.heap[q]? = some ce ∧ ce.vm = .none ∧ A.U.vm.findClass E = some ce.cls ∧ B.locs = A.locs ++ L ∧ (∀ z ∈ L, free z.base) ∧ B.cells = A.cells + mc ∧ B.slots = A.slots + ms
def vx_Back (l : Launch) (R : Room) (p : Program) (e : Env) (below : List Frame) (s : State) (sargs : Array Value) (y : MethodName) (len W9 : Nat)
    (Pre : Pt → Array Value → Prop) (Post : Pt → Array Value → Option Value → Pt → Prop) (PostX : Pt → Array Value → Addr → Pt → Prop) : Prop :=
  ∀ (m : MethodId) (meth : Method) (c : Code) (A : Pt) (g : JFrame) (ig : Instr) (mk : MethodId) (a : Array Value),
    Stand p l e R s m sargs below meth c A.U A.locs A.cells A.slots → g.method = m → g.locals.size = c.maxLocals → decode c.code g.pc = .ok (ig, len) →
    2 * g.monitorRoom + (g.stack.map fun v => v.category).sum ≤ W9 → A.U.methodNamed? y = some mk → Pre A a →
    (∃ (v : Option Value) (B : Pt), Stand p l e R s m sargs below meth c B.U B.locs B.cells B.slots ∧ Post A a v B ∧
      Steps p.tables e below (doInvoke e (A.U.setTop g) [] mk a).1 (B.U.setTop { g with pc := g.pc + len, stack := v.toList ++ g.stack })) ∨
    (∃ (q : Addr) (B : Pt), Stand p l e R s m sargs below meth c B.U B.locs B.cells B.slots ∧ PostX A a q B ∧
      Steps p.tables e below (doInvoke e (A.U.setTop g) [] mk a).1 ((B.U.setTop g).pushFrame (.throwing q)))
section Payer
variable {l : Launch} {R : Room} {p : Program} {e : Env} {below : List Frame} {s : State} {sargs : Array Value} {y : MethodName} {len W9 : Nat}
theorem vx_back {ws : List Cond} {rm : Room} {Pc : Array Value → State → Prop} {Qc : Array Value → State → Outcome → State → Prop} {XC : String → State → State → Prop} {mc ms : Nat} {free : Addr → Prop} {bytes : ByteArray} {maxL : Nat} {ret : Option FieldType}
    (hM : vx_Met l y ws rm Pc Qc XC mc ms free) (hblind : FrameBlind Pc) (hrc : rm.cells = mc) (hrs : rm.slots = ms)
    (hframes : rm.frames + 1 ≤ R.frames) (hlocals : W9 + (maxL + 11) + rm.locals ≤ R.locals)
    (hws : ∀ w ∈ ws, ∀ a' U, s.WarmedH U.vm → w.before a' U = true) (hcode : Cond.code y bytes maxL ret ∈ ws) (hinit : ∀ a' U, s.WarmedH U.vm → (Cond.initialized y.cls).before a' U = true) :
    vx_Back l R p e below s sargs y len W9 (PreOf R mc ms Pc) (PostOf Qc mc ms free) (vx_Post XC mc ms free) := by
  intro m meth c A g ig mk a X hg hsize hdg hW hn hp
  have h1 : (headSpec ws rm).pre.before a A.U = true := atoms_intro fun w hw => hws w hw _ _ X.warmed
  have h2 : (Cond.code y bytes maxL ret).before a A.U = true := hws _ hcode _ _ X.warmed
  have h3 : (Cond.initialized y.cls).before a A.U = true := hinit _ _ X.warmed
  have h4 : A.cells + (headSpec ws rm).room.cells ≤ R.cells := by rw [show (headSpec ws rm).room.cells = mc from hrc]; exact hp.1
  have h5 : A.slots + (headSpec ws rm).room.slots ≤ R.slots := by rw [show (headSpec ws rm).room.slots = ms from hrs]; exact hp.2.1
  have hPc : Pc a (A.U.calling g mk a) := hblind _ _ _ _ hp.2.2
  obtain ⟨U, Ls, c0, s0⟩ := A
  dsimp only [Pt.U, Pt.locs, Pt.cells, Pt.slots] at h1 h2 h3 h4 h5 X hn hPc ⊢
  obtain ⟨methY, cY, hmY, hcY, -, hlY, -, -, -, -⟩ := Cond.code_spec hn h2
  obtain ⟨kY, hkY, -⟩ := className_of_methodNamed hn
  have hinitY : kY.init = .initialized := Cond.initialized_spec (findClass_of_methodNamed hn) hkY h3
  have h : At U g.method c below := by rw [hg]; exact X.here
  have hlocals9 : W9 + (maxL + 11) + (headSpec ws rm).room.locals ≤ R.locals := hlocals
  have happ : (headSpec ws rm).appliesLoose y e.platform (U.calling g mk a) = true :=
    Spec.appliesLoose_calling (g := g) h hdg hn hkY hinitY
      (X.room_calling (g := g) (R' := (headSpec ws rm).room) hsize hmY hcY hframes (by rw [hlY]; omega) h4 h5) h1
  obtain ⟨mid, hmid⟩ := h.above
  have hfr : (U.setTop g).frames = (.java g :: mid) ++ below := by rw [State.frames_setTop' g h.top, hmid]; rfl
  obtain ⟨o, s₂, hsteps, -, hend, hq⟩ := Steps.callFree hM p X.admits X.cas X.clock (acts := []) hfr happ hPc trivial
  have hq' : vx_Q Qc XC mc ms free a (U.calling g mk a) o s₂ := hq
  rw [State.frames_setTop' g h.top] at hend
  obtain ⟨g₀, hg0⟩ := Option.isSome_iff_exists.mp h.top
  obtain ⟨r, hr⟩ := State.topJava?_eq_some.mp hg0
  have hr' : (({ U with heap := s₂.heap, slotsUsed := s₂.slotsUsed } : State).setVm s₂.vm).frames = .java g₀ :: r := hr
  rcases hq' with ⟨hqc, L, hfe, hL⟩ | ⟨q, rfl, E, ce, L, hx, hce, hcv, hcl, hW₂, hsm, hL⟩
  · obtain ⟨⟨v, rfl⟩, hW₂, e2, q2, q3, q4, q5, q6⟩ := id hfe
    have e3 : s₂ = ({ (U.calling g mk a).setFrames s₂.frames with heap := s₂.heap, slotsUsed := s₂.slotsUsed } : State).setVm s₂.vm := by
      have : s₂ = ({ s₂ with vm := (U.calling g mk a).vm } : State).setVm s₂.vm := rfl
      rw [e2] at this
      exact this
    obtain ⟨c₂, i₂, len₂, hc₂, hd₂, hf₂⟩ := hend
    have hW' : U.WarmedH s₂.vm := hW₂
    have hcc : c₂ = c := by
      have h1 : s₂.code? g.method = U.code? g.method := by
        rw [State.code?_eq, State.code?_eq, hW'.alike.method?]
      exact Option.some.inj (hc₂.symm.trans (h1.trans h.code))
    subst hcc
    have hlen : len₂ = len := by rw [hdg] at hd₂; cases hd₂; rfl
    subst hlen
    have hs₂ : s₂ = (({ U with heap := s₂.heap, slotsUsed := s₂.slotsUsed } : State).setVm s₂.vm).setTop { g with pc := g.pc + len₂, stack := v.toList ++ g.stack } := by
      refine e3.trans ?_
      rw [hf₂, State.calling_eq h.top, State.setFrames_setFrames, State.setTop_of_frames _ hr', hr]
      rfl
    have hsame : U.sameButNew ({ U with heap := s₂.heap, slotsUsed := s₂.slotsUsed } : State) L mc ms := by
      refine ⟨?_, q2, q3, q4, q5, q6⟩
      obtain ⟨t, ht, -⟩ := State.frames_cons hr
      show ({ U with heap := s₂.heap, slotsUsed := s₂.slotsUsed } : State) = { U.setFrames U.frames with heap := s₂.heap, slotsUsed := s₂.slotsUsed }
      rw [State.setFrames_self ht]
    subst hg
    refine Or.inl ⟨v, ⟨(({ U with heap := s₂.heap, slotsUsed := s₂.slotsUsed } : State).setVm s₂.vm), Ls ++ L, c0 + mc, s0 + ms⟩,
      ⟨X.admits, X.cas, X.clock, X.frames, X.room, X.hears, X.method, X.code, (X.here.setHeapUsed s₂.heap s₂.slotsUsed).setVm hW'.alike, X.tail, State.WarmedH.trans X.warmed hW', X.limits, X.bytes, X.same.trans (hsame.setVm s.vm)⟩,
      ⟨g, mk, s₂, L, rfl, rfl, hqc, rfl, hL, rfl, rfl⟩, ?_⟩
    show Steps p.tables e below _ ((({ U with heap := s₂.heap, slotsUsed := s₂.slotsUsed } : State).setVm s₂.vm).setTop { g with pc := g.pc + len₂, stack := v.toList ++ g.stack })
    rw [← hs₂]
    exact hsteps
  · obtain ⟨e2, q2, q3, q4, q5, q6⟩ := id hsm
    have e3 : s₂ = ({ (U.calling g mk a).setFrames s₂.frames with heap := s₂.heap, slotsUsed := s₂.slotsUsed } : State).setVm s₂.vm := by
      have : s₂ = ({ s₂ with vm := (U.calling g mk a).vm } : State).setVm s₂.vm := rfl
      rw [e2] at this
      exact this
    have hf₂ : s₂.frames = .throwing q :: .java g :: U.frames.tail := hend
    have hW' : U.WarmedH s₂.vm := hW₂
    have hs₂ : s₂ = ((({ U with heap := s₂.heap, slotsUsed := s₂.slotsUsed } : State).setVm s₂.vm).setTop g).pushFrame (.throwing q) := by
      refine e3.trans ?_
      rw [hf₂, State.calling_eq h.top, State.setFrames_setFrames, State.pushFrame, State.frames_setTop _ hr', State.setTop_of_frames _ hr', State.setFrames_setFrames, hr]
      rfl
    have hsame : U.sameButNew ({ U with heap := s₂.heap, slotsUsed := s₂.slotsUsed } : State) L mc ms := by
      refine ⟨?_, q2, q3, q4, q5, q6⟩
      obtain ⟨t, ht, -⟩ := State.frames_cons hr
      show ({ U with heap := s₂.heap, slotsUsed := s₂.slotsUsed } : State) = { U.setFrames U.frames with heap := s₂.heap, slotsUsed := s₂.slotsUsed }
      rw [State.setFrames_self ht]
    subst hg
    refine Or.inr ⟨q, ⟨(({ U with heap := s₂.heap, slotsUsed := s₂.slotsUsed } : State).setVm s₂.vm), Ls ++ L, c0 + mc, s0 + ms⟩,
      ⟨X.admits, X.cas, X.clock, X.frames, X.room, X.hears, X.method, X.code, (X.here.setHeapUsed s₂.heap s₂.slotsUsed).setVm hW'.alike, X.tail, State.WarmedH.trans X.warmed hW', X.limits, X.bytes, X.same.trans (hsame.setVm s.vm)⟩,
      ⟨g, mk, s₂, L, E, ce, rfl, rfl, hx, hce, hcv, hcl, rfl, hL, rfl, rfl⟩, ?_⟩
    show Steps p.tables e below _ (((({ U with heap := s₂.heap, slotsUsed := s₂.slotsUsed } : State).setVm s₂.vm).setTop g).pushFrame (.throwing q))
    rw [← hs₂]
    exact hsteps
end Payer
section Calls
variable {p : Program} {l : Launch} {e : Env} {R : Room} {s : State} {m : MethodId} {args : Array Value} {below : List Frame} {meth : Method} {c : Code} {T : State} {locs : List Loc} {cells slots : Nat}
theorem vx_callV (X : Stand p l e R s m args below meth c T locs cells slots) (hexec : p.tables.exec = Jvm.exec) {own C : String} {index : Nat} {y : MethodName} {bytes : ByteArray} {maxL : Nat} {ret : Option FieldType}
    (hown : s.vm.findClass own = some m.cls) (hlink : (Cond.methodLink own index y).before args s = true) (hinst : (Cond.instanceMethod y).before args s = true) (hsel : (Cond.selects C y y).before args s = true)
    (hcode : (Cond.code y bytes maxL ret).before args s = true) (hy : y.cls ≠ "java/lang/invoke/MethodHandle" ∧ y.cls ≠ "java/lang/invoke/VarHandle")
    {W9 : Nat} {Pre : Pt → Array Value → Prop} {Post : Pt → Array Value → Option Value → Pt → Prop} {PostX : Pt → Array Value → Addr → Pt → Prop} (hK : vx_Back l R p e below s args y 3 W9 Pre Post PostX)
    {b : Addr} {cellB : Cell} (hcell : T.heap[b]? = some cellB) (hobj : cellB.vm.isStatics = false) (hcls : s.vm.findClass C = some cellB.cls)
    {g : JFrame} (hg : g.method = m) (hsize : g.locals.size = c.maxLocals) {argsL rest : List Value} (hlen : ∀ sig, parseMethodDescriptor y.desc = some sig → argsL.length = sig.parameters.length)
    (hstack : g.stack = argsL.reverse ++ .ref b :: rest) (hW : 2 * g.monitorRoom + (rest.map fun v => v.category).sum ≤ W9) (hdg : decode c.code g.pc = .ok (.invokevirtual index, 3))
    (hpre : ∀ vm₁, s.WarmedH vm₁ → Pre ⟨T.setVm vm₁, locs, cells, slots⟩ (Value.ref b :: argsL).toArray) :
    (∃ (v : Option Value) (vm₁ : Vm) (B : Pt), s.WarmedH vm₁ ∧ Stand p l e R s m args below meth c B.U B.locs B.cells B.slots ∧ Post ⟨T.setVm vm₁, locs, cells, slots⟩ (Value.ref b :: argsL).toArray v B ∧
      ∀ target, Steps p.tables e below (B.U.setTop { g with pc := g.pc + 3, stack := v.toList ++ rest }) target → Steps p.tables e below (T.setTop g) target) ∨
    (∃ (q : Addr) (vm₁ : Vm) (B : Pt), s.WarmedH vm₁ ∧ Stand p l e R s m args below meth c B.U B.locs B.cells B.slots ∧ PostX ⟨T.setVm vm₁, locs, cells, slots⟩ (Value.ref b :: argsL).toArray q B ∧
      Steps p.tables e below (T.setTop g) ((B.U.setTop { g with stack := rest }).pushFrame (.throwing q))) := by
  obtain ⟨mk, methM, hnamed, hmethM, hstM, habM⟩ := Cond.instanceMethod_spec hinst
  obtain ⟨methM', cM, hmethM', -, -, -, -, -, -, hsigM⟩ := Cond.code_spec hnamed hcode
  cases hmethM.symm.trans hmethM'
  obtain ⟨c2, r2, m2, q1, q2, q3, q4, kP, hkP, hkPi⟩ := Cond.selects_spec hsel
  cases hcls.symm.trans q1
  cases (State.methodFound?_of_named hnamed hy).symm.trans q2
  cases hnamed.symm.trans q3
  have hselP : selectMethod e.platform s.vm cellB.cls mk = .method mk := by rw [Launch.admits_selectMethod X.admits]; exact q4
  obtain ⟨vm₁, X₁, hstep₁⟩ := X.invokevirtual hexec hown hlink hnamed hmethM hstM hkP hkPi hy (a := b) (cell := cellB) hcell
    (fun z h => by rw [h] at hobj; cases hobj) hselP hmethM habM hkP hkPi (g := g) hg (argsL := argsL) (rest := rest) (hlen _ hsigM) hstack hdg
  rcases hK m meth c ⟨T.setVm vm₁, locs, cells, slots⟩ { g with stack := rest } (.invokevirtual index) mk (Value.ref b :: argsL).toArray X₁ hg hsize hdg hW (X₁.named hnamed) (hpre vm₁ X₁.warmed) with ⟨v, B, X', hpost, hsteps⟩ | ⟨q, B, X', hpost, hsteps⟩
  · exact Or.inl ⟨v, vm₁, B, X₁.warmed, X', hpost, fun target h => hstep₁ _ fun acts => by rw [doInvoke_state]; exact hsteps.trans h⟩
  · exact Or.inr ⟨q, vm₁, B, X₁.warmed, X', hpost, hstep₁ _ fun acts => by rw [doInvoke_state]; exact hsteps⟩
theorem vx_callS (X : Stand p l e R s m args below meth c T locs cells slots) (hexec : p.tables.exec = Jvm.exec) {own : String} {index : Nat} {y : MethodName} {bytes : ByteArray} {maxL : Nat} {ret : Option FieldType}
    (hown : s.vm.findClass own = some m.cls) (hlink : (Cond.methodLink own index y).before args s = true) (hstat : (Cond.static y).before args s = true) (hinit : (Cond.initialized y.cls).before args s = true)
    (hcode : (Cond.code y bytes maxL ret).before args s = true) (hy : y.cls ≠ "java/lang/invoke/MethodHandle" ∧ y.cls ≠ "java/lang/invoke/VarHandle")
    {W9 : Nat} {Pre : Pt → Array Value → Prop} {Post : Pt → Array Value → Option Value → Pt → Prop} {PostX : Pt → Array Value → Addr → Pt → Prop} (hK : vx_Back l R p e below s args y 3 W9 Pre Post PostX)
    {g : JFrame} (hg : g.method = m) (hsize : g.locals.size = c.maxLocals) {argsL rest : List Value} (hlen : ∀ sig, parseMethodDescriptor y.desc = some sig → argsL.length = sig.parameters.length)
    (hstack : g.stack = argsL.reverse ++ rest) (hW : 2 * g.monitorRoom + (rest.map fun v => v.category).sum ≤ W9) (hdg : decode c.code g.pc = .ok (.invokestatic index, 3))
    (hpre : ∀ vm₁, s.WarmedH vm₁ → Pre ⟨T.setVm vm₁, locs, cells, slots⟩ argsL.toArray) :
    (∃ (v : Option Value) (vm₁ : Vm) (B : Pt), s.WarmedH vm₁ ∧ Stand p l e R s m args below meth c B.U B.locs B.cells B.slots ∧ Post ⟨T.setVm vm₁, locs, cells, slots⟩ argsL.toArray v B ∧
      ∀ target, Steps p.tables e below (B.U.setTop { g with pc := g.pc + 3, stack := v.toList ++ rest }) target → Steps p.tables e below (T.setTop g) target) ∨
    (∃ (q : Addr) (vm₁ : Vm) (B : Pt), s.WarmedH vm₁ ∧ Stand p l e R s m args below meth c B.U B.locs B.cells B.slots ∧ PostX ⟨T.setVm vm₁, locs, cells, slots⟩ argsL.toArray q B ∧
      Steps p.tables e below (T.setTop g) ((B.U.setTop { g with stack := rest }).pushFrame (.throwing q))) := by
  obtain ⟨mk, hnamed⟩ := Cond.code_named hcode
  obtain ⟨methM, cM, hmethM, -, -, -, -, -, -, hsigM⟩ := Cond.code_spec hnamed hcode
  have hstatic : methM.isStatic = true := Cond.static_spec hnamed hmethM hstat
  obtain ⟨kP, hkP, -⟩ := className_of_methodNamed hnamed
  have hinitP : kP.init = .initialized := Cond.initialized_spec (findClass_of_methodNamed hnamed) hkP hinit
  obtain ⟨vm₁, X₁, hstep₁⟩ := X.invokestatic hexec hown hlink hnamed hmethM hstatic hkP hinitP hy (g := g) hg (argsL := argsL) (rest := rest) (hlen _ hsigM) hstack hdg
  rcases hK m meth c ⟨T.setVm vm₁, locs, cells, slots⟩ { g with stack := rest } (.invokestatic index) mk argsL.toArray X₁ hg hsize hdg hW (X₁.named hnamed) (hpre vm₁ X₁.warmed) with ⟨v, B, X', hpost, hsteps⟩ | ⟨q, B, X', hpost, hsteps⟩
  · exact Or.inl ⟨v, vm₁, B, X₁.warmed, X', hpost, fun target h => hstep₁ _ fun acts => by rw [doInvoke_state]; exact hsteps.trans h⟩
  · exact Or.inr ⟨q, vm₁, B, X₁.warmed, X', hpost, hstep₁ _ fun acts => by rw [doInvoke_state]; exact hsteps⟩
end Calls
theorem vx_cls {s : State} {T : State} {vm₁ : Vm} {E : String} {k : ClassId} (hW : s.WarmedH vm₁) (h : (T.setVm vm₁).vm.findClass E = some k) : s.vm.findClass E = some k := by
  have h1 : vm₁.findClass E = some k := h
  rw [hW.alike.findClass] at h1
  exact h1
/-- the method's frame g, with q thrown over it -/
def vx_W (p : Program) (l : Launch) (e : Env) (R : Room) (s : State) (m : MethodId) (args : Array Value) (below : List Frame) (meth : Method) (c : Code) (H : Heap) (locs : List Loc) (cells slots : Nat) (Q : State → Prop) (g : JFrame) (q : Addr) : Prop :=
  ∀ T : State, T.heap = H → Stand p l e R s m args below meth c T locs cells slots → ∃ t, Steps p.tables e below ((T.setTop g).pushFrame (.throwing q)) t ∧ Q t
def vx_Run (p : Program) (l : Launch) (e : Env) (R : Room) (s : State) (m : MethodId) (args : Array Value) (below : List Frame) (meth : Method) (c : Code) (H : Heap) (locs : List Loc) (cells slots mc ms : Nat) (g : JFrame) (rest : List Value) (Qa : State → Outcome → State → Prop) (XC : String → State → State → Prop) (free : Addr → Prop) : Prop :=
  ∀ T : State, T.heap = H → Stand p l e R s m args below meth c T locs cells slots →
    (∃ (v : Option Value) (st₀ t T' : State) (L : List Loc), st₀.heap = H ∧ Stand p l e R s m args below meth c T' (locs ++ L) (cells + mc) (slots + ms) ∧ (∀ q ∈ L, free q.base) ∧ T'.heap = t.heap ∧ T'.vm = t.vm ∧ Qa st₀ (.returned v) t ∧
      Goes p e below T g T' { g with pc := g.pc + 3, stack := v.toList ++ rest }) ∨
    (∃ (q : Addr) (st₀ t T' : State) (L : List Loc) (E : String) (ce : Cell), st₀.heap = H ∧ Stand p l e R s m args below meth c T' (locs ++ L) (cells + mc) (slots + ms) ∧ (∀ z ∈ L, free z.base) ∧ T'.heap = t.heap ∧ T'.vm = t.vm ∧ XC E st₀ t ∧ t.heap[q]? = some ce ∧ ce.vm = .none ∧ s.vm.findClass E = some ce.cls ∧
      Steps p.tables e below (T.setTop g) ((T'.setTop { g with stack := rest }).pushFrame (.throwing q)))
def vx_X {S : Type} (px : S → Prop) (B : String → S → State → Prop) (A : Nat → Prop) : String → State → State → Prop := fun E st t => ∃ u : S, px u ∧ B E u t ∧ va_F A st t
section Runs
variable {p : Program} {l : Launch} {e : Env} {R : Room} {s : State} {m : MethodId} {args : Array Value} {below : List Frame} {meth : Method} {c : Code} {H : Heap} {locs : List Loc} {cells slots : Nat}
variable {y : MethodName} {bytes cc : ByteArray} {maxL nL mc ms n index : Nat} {ret : Option FieldType} {ws : List Cond} {rm : Room} {Pc : Array Value → State → Prop} {Qc : Array Value → State → Outcome → State → Prop} {XC : String → State → State → Prop} {free : Addr → Prop} {Ts : List Cond} {own C : String} {b : Addr} {As rest : List Value} {g : JFrame}
theorem vx_callBack (cb : CallB R s args own index y bytes maxL ret ws rm mc ms n) (hM : vx_Met l y ws rm Pc Qc XC mc ms free) (hbl : FrameBlind Pc) : vx_Back l R p e below s args y 3 8 (PreOf R mc ms Pc) (PostOf Qc mc ms free) (vx_Post XC mc ms free) := by
  obtain ⟨hrc, hrs, hfr, hlo, hws, hcw, -, hini, -⟩ := cb
  exact vx_back (bytes := bytes) (maxL := maxL) (ret := ret) hM hbl hrc hrs hfr hlo hws hcw (fun a' U hW => word_at hW (Or.inl (by first | rfl | simp [Cond.onTables, Cond.keeps, Cond.steady])) hini)
theorem vx_runV (S : CallFix p m c cc nL s args Ts own) (hM : vx_Met l y ws rm Pc Qc XC mc ms free) (cw : CallW R s args own C index y bytes maxL ret ws rm mc ms n) (hp : PreV s H C b Pc As)
    (hg : g.method = m) (hn : As.length = n) (hsize : g.locals.size = nL) (hstack : g.stack = As.reverse ++ .ref b :: rest) (hW : 2 * g.monitorRoom + (rest.map fun v => v.category).sum ≤ 8) (hdg : decode cc g.pc = .ok (.invokevirtual index, 3)) (hf : cells + mc ≤ R.cells ∧ slots + ms ≤ R.slots) :
    vx_Run p l e R s m args below meth c H locs cells slots mc ms g rest (Qc (Value.ref b :: As).toArray) XC free := by
  have hK : vx_Back l R p e below s args y 3 8 (PreOf R mc ms Pc) (PostOf Qc mc ms free) (vx_Post XC mc ms free) := vx_callBack cw.1 hM hp.1
  obtain ⟨⟨-, -, -, -, -, -, hcode, -, hy, hlen, hl⟩, hin, hse⟩ := cw
  obtain ⟨hx, hb, hml, ho, -⟩ := S
  obtain ⟨-, ⟨cellB, hcB, hoB, hclB⟩, hPc⟩ := hp
  intro T hT X
  rcases vx_callV X hx (C := C) (bytes := bytes) (maxL := maxL) (ret := ret) ho hl hin hse hcode hy hK (by rw [hT]; exact hcB) hoB hclB hg (hsize.trans hml.symm) (argsL := As) (rest := rest) (fun sig h => hn.trans (hlen sig h)) hstack hW (by rw [hb]; exact hdg)
    (fun vm₁ hW₁ => ⟨hf.1, hf.2, hPc (T.setVm vm₁) hT hW₁⟩) with ⟨v, vm₁, ⟨U', l2, c2, s2⟩, hW₁, X', ⟨g', mk, t, L, e1, e2, hq, h1, hL, h2, h3⟩, st⟩ | ⟨q, vm₁, ⟨U', l2, c2, s2⟩, hW₁, X', ⟨g', mk, t, L, E, ce, e1, e2, hq, hce, hcv, hcl, h1, hL, h2, h3⟩, st⟩
  · dsimp only [Pt.U, Pt.locs, Pt.cells, Pt.slots] at X' e1 e2 h1 h2 h3 st
    subst h1; subst h2; subst h3
    exact Or.inl ⟨v, (T.setVm vm₁).calling g' mk (Value.ref b :: As).toArray, t, U', L, hT, X', hL, e1, e2, hq, st⟩
  · dsimp only [Pt.U, Pt.locs, Pt.cells, Pt.slots] at X' e1 e2 h1 h2 h3 st hcl
    subst h1; subst h2; subst h3
    exact Or.inr ⟨q, (T.setVm vm₁).calling g' mk (Value.ref b :: As).toArray, t, U', L, E, ce, hT, X', hL, e1, e2, hq, hce, hcv, vx_cls hW₁ hcl, st⟩
theorem vx_runS (S : CallFix p m c cc nL s args Ts own) (hM : vx_Met l y ws rm Pc Qc XC mc ms free) (cw : CallB R s args own index y bytes maxL ret ws rm mc ms n ∧ (Cond.static y).before args s = true) (hp : PreS s H Pc As)
    (hg : g.method = m) (hn : As.length = n) (hsize : g.locals.size = nL) (hstack : g.stack = As.reverse ++ rest) (hW : 2 * g.monitorRoom + (rest.map fun v => v.category).sum ≤ 8) (hdg : decode cc g.pc = .ok (.invokestatic index, 3)) (hf : cells + mc ≤ R.cells ∧ slots + ms ≤ R.slots) :
    vx_Run p l e R s m args below meth c H locs cells slots mc ms g rest (Qc As.toArray) XC free := by
  have hK : vx_Back l R p e below s args y 3 8 (PreOf R mc ms Pc) (PostOf Qc mc ms free) (vx_Post XC mc ms free) := vx_callBack cw.1 hM hp.1
  obtain ⟨⟨-, -, -, -, -, -, hcode, hini, hy, hlen, hl⟩, hstt⟩ := cw
  obtain ⟨hx, hb, hml, ho, -⟩ := S
  intro T hT X
  rcases vx_callS X hx (bytes := bytes) (maxL := maxL) (ret := ret) ho hl hstt hini hcode hy hK hg (hsize.trans hml.symm) (argsL := As) (rest := rest) (fun sig h => hn.trans (hlen sig h)) hstack hW (by rw [hb]; exact hdg)
    (fun vm₁ hW₁ => ⟨hf.1, hf.2, hp.2 (T.setVm vm₁) hT hW₁⟩) with ⟨v, vm₁, ⟨U', l2, c2, s2⟩, hW₁, X', ⟨g', mk, t, L, e1, e2, hq, h1, hL, h2, h3⟩, st⟩ | ⟨q, vm₁, ⟨U', l2, c2, s2⟩, hW₁, X', ⟨g', mk, t, L, E, ce, e1, e2, hq, hce, hcv, hcl, h1, hL, h2, h3⟩, st⟩
  · dsimp only [Pt.U, Pt.locs, Pt.cells, Pt.slots] at X' e1 e2 h1 h2 h3 st
    subst h1; subst h2; subst h3
    exact Or.inl ⟨v, (T.setVm vm₁).calling g' mk As.toArray, t, U', L, hT, X', hL, e1, e2, hq, st⟩
  · dsimp only [Pt.U, Pt.locs, Pt.cells, Pt.slots] at X' e1 e2 h1 h2 h3 st hcl
    subst h1; subst h2; subst h3
    exact Or.inr ⟨q, (T.setVm vm₁).calling g' mk As.toArray, t, U', L, E, ce, hT, X', hL, e1, e2, hq, hce, hcv, vx_cls hW₁ hcl, st⟩
end Runs
section Rows
variable {p : Program} {l : Launch} {e : Env} {R : Room} {s : State} {m : MethodId} {args : Array Value} {below : List Frame} {meth : Method} {c : Code} {H : Heap} {locs : List Loc} {cells slots : Nat} {Q : State → Prop}
variable {mc ms : Nat} {free : Addr → Prop} {A0 A1 : Nat → Prop} {H0 : Heap} {a : Array Value} {pc : Nat} {ls : Array Slot} {st0 rest : List Value}
theorem vx_keep {st₀ t T' : State} {L : List Loc} (h0 : st₀.heap = H) (e1 : T'.heap = t.heap) (hS : va_S A0 H0 H locs) (hA : ∀ q, q < H.size → A1 q → A0 q) (hf : ∀ q, free q → A0 q) (hL : ∀ q ∈ L, free q.base) (hF : va_F A1 st₀ t) :
    H.size ≤ T'.heap.size ∧ (∀ q : Nat, q < H.size → ¬ A1 q → T'.heap[q]? = H[q]?) ∧ va_S A0 H0 T'.heap (locs ++ L) := by
  obtain ⟨hz, hk⟩ := hF
  rw [h0] at hz hk
  exact ⟨by rw [e1]; exact hz, fun q h1 h2 => by rw [e1]; exact hk q h1 h2,
    ⟨Nat.le_trans hS.1 (by rw [e1]; exact hz), fun q h1 h2 => by rw [e1, hk q (Nat.lt_of_lt_of_le h1 hS.1) (fun z => h2 (hA q (Nat.lt_of_lt_of_le h1 hS.1) z))]; exact hS.2.1 q h1 h2, fun q hq => by
      rcases List.mem_append.mp hq with h | h
      · exact hS.2.2 q h
      · exact hf _ (hL q h)⟩⟩
theorem vx_calli {S SX : Type} {post : Int32 → S → Prop} {px : SX → Prop} {B : S → State → Prop} {BX : String → SX → State → Prop} {AX : Nat → Prop} (hr : vx_Run p l e R s m args below meth c H locs cells slots mc ms (F0 m pc ls st0) rest (va_Qi post B A1 a) (vx_X px BX AX) free) (hS : va_S A0 H0 H locs) (hA : ∀ q, q < H.size → A1 q → A0 q) (hf : ∀ q, free q → A0 q) (hAX : ∀ q, q < H.size → AX q → A0 q)
    (kx : ∀ (E : String) (ce : Cell) (q9 : Addr) (u : SX) (t : State) (H1 : Heap) (locs1 : List Loc), t.heap = H1 → s.vm.Alike t.vm → px u → BX E u t → H.size ≤ H1.size → (∀ q : Nat, q < H.size → ¬ AX q → H1[q]? = H[q]?) → va_S A0 H0 H1 locs1 → H1[q9]? = some ce → ce.vm = .none → s.vm.findClass E = some ce.cls → vx_W p l e R s m args below meth c H1 locs1 (cells + mc) (slots + ms) Q (F0 m pc ls rest) q9)
    (kk : ∀ (r : Int32) (u : S) (t : State) (H1 : Heap) (locs1 : List Loc), t.heap = H1 → s.vm.Alike t.vm → post r u → B u t → H.size ≤ H1.size → (∀ q : Nat, q < H.size → ¬ A1 q → H1[q]? = H[q]?) → va_S A0 H0 H1 locs1 → W p l e R s m args below meth c H1 locs1 (cells + mc) (slots + ms) Q (F0 m (pc + 3) ls (.int r :: rest))) : W p l e R s m args below meth c H locs cells slots Q (F0 m pc ls st0) := by
  intro T hT X
  rcases hr T hT X with ⟨v, st₀, t, T', L, h0, X', hL, e1, e2, ⟨⟨r, u, hv, hp, hb⟩, hF⟩, st⟩ | ⟨q, st₀, t, T', L, E, ce, h0, X', hL, e1, e2, ⟨u, hp, hb, hF⟩, hce, hcv, hcl, st⟩
  · cases hv
    obtain ⟨k1, k2, k3⟩ := vx_keep h0 e1 hS hA hf hL hF
    obtain ⟨t2, a1, b1⟩ := kk r u t T'.heap (locs ++ L) e1.symm (by rw [← e2]; exact X'.warmed.alike) hp hb k1 k2 k3 T' rfl X'
    exact ⟨t2, st t2 a1, b1⟩
  · obtain ⟨k1, k2, k3⟩ := vx_keep h0 e1 hS hAX hf hL hF
    obtain ⟨t2, a1, b1⟩ := kx E ce q u t T'.heap (locs ++ L) e1.symm (by rw [← e2]; exact X'.warmed.alike) hp hb k1 k2 k3 (by rw [e1]; exact hce) hcv hcl T' rfl X'
    exact ⟨t2, st.trans a1, b1⟩
theorem vx_calll {S SX : Type} {post : Int64 → S → Prop} {px : SX → Prop} {B : S → State → Prop} {BX : String → SX → State → Prop} {AX : Nat → Prop} (hr : vx_Run p l e R s m args below meth c H locs cells slots mc ms (F0 m pc ls st0) rest (va_Ql post B A1 a) (vx_X px BX AX) free) (hS : va_S A0 H0 H locs) (hA : ∀ q, q < H.size → A1 q → A0 q) (hf : ∀ q, free q → A0 q) (hAX : ∀ q, q < H.size → AX q → A0 q)
    (kx : ∀ (E : String) (ce : Cell) (q9 : Addr) (u : SX) (t : State) (H1 : Heap) (locs1 : List Loc), t.heap = H1 → s.vm.Alike t.vm → px u → BX E u t → H.size ≤ H1.size → (∀ q : Nat, q < H.size → ¬ AX q → H1[q]? = H[q]?) → va_S A0 H0 H1 locs1 → H1[q9]? = some ce → ce.vm = .none → s.vm.findClass E = some ce.cls → vx_W p l e R s m args below meth c H1 locs1 (cells + mc) (slots + ms) Q (F0 m pc ls rest) q9)
    (kk : ∀ (r : Int64) (u : S) (t : State) (H1 : Heap) (locs1 : List Loc), t.heap = H1 → s.vm.Alike t.vm → post r u → B u t → H.size ≤ H1.size → (∀ q : Nat, q < H.size → ¬ A1 q → H1[q]? = H[q]?) → va_S A0 H0 H1 locs1 → W p l e R s m args below meth c H1 locs1 (cells + mc) (slots + ms) Q (F0 m (pc + 3) ls (.long r :: rest))) : W p l e R s m args below meth c H locs cells slots Q (F0 m pc ls st0) := by
  intro T hT X
  rcases hr T hT X with ⟨v, st₀, t, T', L, h0, X', hL, e1, e2, ⟨⟨r, u, hv, hp, hb⟩, hF⟩, st⟩ | ⟨q, st₀, t, T', L, E, ce, h0, X', hL, e1, e2, ⟨u, hp, hb, hF⟩, hce, hcv, hcl, st⟩
  · cases hv
    obtain ⟨k1, k2, k3⟩ := vx_keep h0 e1 hS hA hf hL hF
    obtain ⟨t2, a1, b1⟩ := kk r u t T'.heap (locs ++ L) e1.symm (by rw [← e2]; exact X'.warmed.alike) hp hb k1 k2 k3 T' rfl X'
    exact ⟨t2, st t2 a1, b1⟩
  · obtain ⟨k1, k2, k3⟩ := vx_keep h0 e1 hS hAX hf hL hF
    obtain ⟨t2, a1, b1⟩ := kx E ce q u t T'.heap (locs ++ L) e1.symm (by rw [← e2]; exact X'.warmed.alike) hp hb k1 k2 k3 (by rw [e1]; exact hce) hcv hcl T' rfl X'
    exact ⟨t2, st.trans a1, b1⟩
theorem vx_callf {S SX : Type} {post : UInt32 → S → Prop} {px : SX → Prop} {B : S → State → Prop} {BX : String → SX → State → Prop} {AX : Nat → Prop} (hr : vx_Run p l e R s m args below meth c H locs cells slots mc ms (F0 m pc ls st0) rest (va_Qf post B A1 a) (vx_X px BX AX) free) (hS : va_S A0 H0 H locs) (hA : ∀ q, q < H.size → A1 q → A0 q) (hf : ∀ q, free q → A0 q) (hAX : ∀ q, q < H.size → AX q → A0 q)
    (kx : ∀ (E : String) (ce : Cell) (q9 : Addr) (u : SX) (t : State) (H1 : Heap) (locs1 : List Loc), t.heap = H1 → s.vm.Alike t.vm → px u → BX E u t → H.size ≤ H1.size → (∀ q : Nat, q < H.size → ¬ AX q → H1[q]? = H[q]?) → va_S A0 H0 H1 locs1 → H1[q9]? = some ce → ce.vm = .none → s.vm.findClass E = some ce.cls → vx_W p l e R s m args below meth c H1 locs1 (cells + mc) (slots + ms) Q (F0 m pc ls rest) q9)
    (kk : ∀ (r : UInt32) (u : S) (t : State) (H1 : Heap) (locs1 : List Loc), t.heap = H1 → s.vm.Alike t.vm → post r u → B u t → H.size ≤ H1.size → (∀ q : Nat, q < H.size → ¬ A1 q → H1[q]? = H[q]?) → va_S A0 H0 H1 locs1 → W p l e R s m args below meth c H1 locs1 (cells + mc) (slots + ms) Q (F0 m (pc + 3) ls (.float r :: rest))) : W p l e R s m args below meth c H locs cells slots Q (F0 m pc ls st0) := by
  intro T hT X
  rcases hr T hT X with ⟨v, st₀, t, T', L, h0, X', hL, e1, e2, ⟨⟨r, u, hv, hp, hb⟩, hF⟩, st⟩ | ⟨q, st₀, t, T', L, E, ce, h0, X', hL, e1, e2, ⟨u, hp, hb, hF⟩, hce, hcv, hcl, st⟩
  · cases hv
    obtain ⟨k1, k2, k3⟩ := vx_keep h0 e1 hS hA hf hL hF
    obtain ⟨t2, a1, b1⟩ := kk r u t T'.heap (locs ++ L) e1.symm (by rw [← e2]; exact X'.warmed.alike) hp hb k1 k2 k3 T' rfl X'
    exact ⟨t2, st t2 a1, b1⟩
  · obtain ⟨k1, k2, k3⟩ := vx_keep h0 e1 hS hAX hf hL hF
    obtain ⟨t2, a1, b1⟩ := kx E ce q u t T'.heap (locs ++ L) e1.symm (by rw [← e2]; exact X'.warmed.alike) hp hb k1 k2 k3 (by rw [e1]; exact hce) hcv hcl T' rfl X'
    exact ⟨t2, st.trans a1, b1⟩
theorem vx_calld {S SX : Type} {post : UInt64 → S → Prop} {px : SX → Prop} {B : S → State → Prop} {BX : String → SX → State → Prop} {AX : Nat → Prop} (hr : vx_Run p l e R s m args below meth c H locs cells slots mc ms (F0 m pc ls st0) rest (va_Qd post B A1 a) (vx_X px BX AX) free) (hS : va_S A0 H0 H locs) (hA : ∀ q, q < H.size → A1 q → A0 q) (hf : ∀ q, free q → A0 q) (hAX : ∀ q, q < H.size → AX q → A0 q)
    (kx : ∀ (E : String) (ce : Cell) (q9 : Addr) (u : SX) (t : State) (H1 : Heap) (locs1 : List Loc), t.heap = H1 → s.vm.Alike t.vm → px u → BX E u t → H.size ≤ H1.size → (∀ q : Nat, q < H.size → ¬ AX q → H1[q]? = H[q]?) → va_S A0 H0 H1 locs1 → H1[q9]? = some ce → ce.vm = .none → s.vm.findClass E = some ce.cls → vx_W p l e R s m args below meth c H1 locs1 (cells + mc) (slots + ms) Q (F0 m pc ls rest) q9)
    (kk : ∀ (r : UInt64) (u : S) (t : State) (H1 : Heap) (locs1 : List Loc), t.heap = H1 → s.vm.Alike t.vm → post r u → B u t → H.size ≤ H1.size → (∀ q : Nat, q < H.size → ¬ A1 q → H1[q]? = H[q]?) → va_S A0 H0 H1 locs1 → W p l e R s m args below meth c H1 locs1 (cells + mc) (slots + ms) Q (F0 m (pc + 3) ls (.double r :: rest))) : W p l e R s m args below meth c H locs cells slots Q (F0 m pc ls st0) := by
  intro T hT X
  rcases hr T hT X with ⟨v, st₀, t, T', L, h0, X', hL, e1, e2, ⟨⟨r, u, hv, hp, hb⟩, hF⟩, st⟩ | ⟨q, st₀, t, T', L, E, ce, h0, X', hL, e1, e2, ⟨u, hp, hb, hF⟩, hce, hcv, hcl, st⟩
  · cases hv
    obtain ⟨k1, k2, k3⟩ := vx_keep h0 e1 hS hA hf hL hF
    obtain ⟨t2, a1, b1⟩ := kk r u t T'.heap (locs ++ L) e1.symm (by rw [← e2]; exact X'.warmed.alike) hp hb k1 k2 k3 T' rfl X'
    exact ⟨t2, st t2 a1, b1⟩
  · obtain ⟨k1, k2, k3⟩ := vx_keep h0 e1 hS hAX hf hL hF
    obtain ⟨t2, a1, b1⟩ := kx E ce q u t T'.heap (locs ++ L) e1.symm (by rw [← e2]; exact X'.warmed.alike) hp hb k1 k2 k3 (by rw [e1]; exact hce) hcv hcl T' rfl X'
    exact ⟨t2, st.trans a1, b1⟩
theorem vx_callv {S SX : Type} {post : S → Prop} {px : SX → Prop} {B : S → State → Prop} {BX : String → SX → State → Prop} {AX : Nat → Prop} (hr : vx_Run p l e R s m args below meth c H locs cells slots mc ms (F0 m pc ls st0) rest (va_Qv post B A1 a) (vx_X px BX AX) free) (hS : va_S A0 H0 H locs) (hA : ∀ q, q < H.size → A1 q → A0 q) (hf : ∀ q, free q → A0 q) (hAX : ∀ q, q < H.size → AX q → A0 q)
    (kx : ∀ (E : String) (ce : Cell) (q9 : Addr) (u : SX) (t : State) (H1 : Heap) (locs1 : List Loc), t.heap = H1 → s.vm.Alike t.vm → px u → BX E u t → H.size ≤ H1.size → (∀ q : Nat, q < H.size → ¬ AX q → H1[q]? = H[q]?) → va_S A0 H0 H1 locs1 → H1[q9]? = some ce → ce.vm = .none → s.vm.findClass E = some ce.cls → vx_W p l e R s m args below meth c H1 locs1 (cells + mc) (slots + ms) Q (F0 m pc ls rest) q9)
    (kk : ∀ (u : S) (t : State) (H1 : Heap) (locs1 : List Loc), t.heap = H1 → s.vm.Alike t.vm → post u → B u t → H.size ≤ H1.size → (∀ q : Nat, q < H.size → ¬ A1 q → H1[q]? = H[q]?) → va_S A0 H0 H1 locs1 → W p l e R s m args below meth c H1 locs1 (cells + mc) (slots + ms) Q (F0 m (pc + 3) ls (rest))) : W p l e R s m args below meth c H locs cells slots Q (F0 m pc ls st0) := by
  intro T hT X
  rcases hr T hT X with ⟨v, st₀, t, T', L, h0, X', hL, e1, e2, ⟨⟨u, hv, hp, hb⟩, hF⟩, st⟩ | ⟨q, st₀, t, T', L, E, ce, h0, X', hL, e1, e2, ⟨u, hp, hb, hF⟩, hce, hcv, hcl, st⟩
  · cases hv
    obtain ⟨k1, k2, k3⟩ := vx_keep h0 e1 hS hA hf hL hF
    obtain ⟨t2, a1, b1⟩ := kk u t T'.heap (locs ++ L) e1.symm (by rw [← e2]; exact X'.warmed.alike) hp hb k1 k2 k3 T' rfl X'
    exact ⟨t2, st t2 a1, b1⟩
  · obtain ⟨k1, k2, k3⟩ := vx_keep h0 e1 hS hAX hf hL hF
    obtain ⟨t2, a1, b1⟩ := kx E ce q u t T'.heap (locs ++ L) e1.symm (by rw [← e2]; exact X'.warmed.alike) hp hb k1 k2 k3 (by rw [e1]; exact hce) hcv hcl T' rfl X'
    exact ⟨t2, st.trans a1, b1⟩
end Rows
section Ends
variable {p : Program} {l : Launch} {e : Env} {R : Room} {s : State} {m : MethodId} {args : Array Value} {below : List Frame} {meth : Method} {c : Code} {H : Heap} {locs : List Loc} {cells slots : Nat} {Q : State → Prop}
variable {mc ms : Nat} {free : Addr → Prop} {A0 A1 : Nat → Prop} {H0 : Heap} {a : Array Value} {ls : Array Slot} {st0 rest : List Value}
variable {Qc : Array Value → State → Outcome → State → Prop} {XC : String → State → State → Prop}
/-- what a body that may throw owes at its end -/
def vx_MQ (below : List Frame) (Qc : Array Value → State → Outcome → State → Prop) (XC : String → State → State → Prop) (a : Array Value) (s : State) (mc ms : Nat) (free : Addr → Prop) : State → Prop := fun t =>
  ∃ o, t.status = .running ∧ Ended t below o ∧ vx_Q Qc XC mc ms free a s o t
theorem vx_ret {g : JFrame} {mc ms : Nat} (k : W p l e R s m args below meth c H locs cells slots (MQ below Qc args s mc ms free) g) : W p l e R s m args below meth c H locs cells slots (vx_MQ below Qc XC args s mc ms free) g := by
  intro T hT X
  obtain ⟨t, a1, o, b1, b2, b3, b4⟩ := k T hT X
  exact ⟨t, a1, o, b1, b2, Or.inl ⟨b3, b4⟩⟩
/-- not caught here: it goes on to the caller -/
theorem vx_widen {g : JFrame} {q : Addr} {k n : Nat} (h1 : cells ≤ k) (h2 : slots ≤ n) (kk : vx_W p l e R s m args below meth c H locs k n Q g q) : vx_W p l e R s m args below meth c H locs cells slots Q g q := fun T hT X => kk T hT (stand_widen X h1 h2)
theorem vx_out {pc : Nat} {E : String} {ce : Cell} {q : Addr} {mc ms : Nat} (hout : ∀ x ∈ c.exceptionTable.toList, covers x pc = false) (hlocks : meth.locks = false) (hcell : H[q]? = some ce) (hv : ce.vm = .none) (hcl : s.vm.findClass E = some ce.cls)
    (hx : ∀ t : State, t.heap = H → s.vm.Alike t.vm → XC E s t) (hf : ∀ z ∈ locs, free z.base) (hc : cells ≤ mc) (hs : slots ≤ ms) :
    vx_W p l e R s m args below meth c H locs cells slots (vx_MQ below Qc XC args s mc ms free) (F0 m pc ls rest) q := by
  intro T hT X
  obtain ⟨st1, hrun, hend, hW, hsm⟩ := X.leaveThrown q (g := F0 m pc ls rest) rfl rfl rfl hout hlocks
  have hcell9 : (T.setFrames (.throwing q :: below)).heap[q]? = some ce := by
    show T.heap[q]? = some ce
    rw [hT]; exact hcell
  exact ⟨_, st1, .threw q, hrun, hend, Or.inr ⟨q, rfl, E, ce, locs, hx _ hT hW.alike, hcell9, hv, hcl, hW, hsm.mono hc hs, hf⟩⟩
theorem vx_frame {U : State} {k n : Nat} (h : s.sameButNew ({ U with vm := s.vm } : State) locs k n) : s.heap.size ≤ U.heap.size ∧ ∀ q : Nat, q < s.heap.size → (∀ z ∈ locs, z.base ≠ q) → U.heap[q]? = s.heap[q]? := by
  obtain ⟨-, h2, -, -, -, h6⟩ := h
  refine ⟨h2, fun q hq hz => ?_⟩
  obtain ⟨c9, e1, e2, e3, e4⟩ := h6 q _ (Array.getElem?_eq_getElem hq)
  have hs : c9.slots = (s.heap[q]).slots := Array.ext_getElem? fun i => e4 i fun hm => hz _ hm rfl
  have h9 : c9 = s.heap[q] := by
    rw [hs] at e2
    exact e2
  have e5 : U.heap[q]? = some c9 := e1
  rw [e5, h9, Array.getElem?_eq_getElem hq]
/-- the words of a throw but the four that speak of the heap -/
def vx_no (w : Cond) : Bool := decide (w ≠ .isRef (.static Bundle.tN "UNASSIGNED_STACK" Bundle.steD)) && decide (w ≠ .isRef (.static Bundle.tN "SUPPRESSED_SENTINEL" Bundle.listD)) && decide (w ≠ .laysStatic Bundle.tN "UNASSIGNED_STACK" Bundle.steD) && decide (w ≠ .laysStatic Bundle.tN "SUPPRESSED_SENTINEL" Bundle.listD)
def vx_at0 (own : String) (ic : Nat) (X : String) (names : List String) : List Cond := (Bundle.ownAtoms0 own ic X names).filter vx_no
def vx_atS (own : String) (ic : Nat) (X : String) (names : List String) : List Cond := (Bundle.ownAtoms own ic X names).filter vx_no
/-- a word that the tables alone decide, or a good one -/
def vx_ot (w : Cond) : Bool := w.onTables || goodWord w
theorem vx_ot_at {args a' : Array Value} {s U : State} {w : Cond} (hW : s.WarmedH U.vm) (hvm : s.vm = U.vm) (hg : vx_ot w = true) (h : w.before args s = true) : w.before a' U = true := by
  simp only [vx_ot, Bool.or_eq_true] at hg
  rcases hg with hg | hg
  · exact va_tabs hg hvm h
  · exact word_at hW (good_of_word hg) h
/-- a list's words: the good ones out of the method's own list, the others by premises of their own -/
theorem vx_hat {args : Array Value} {s : State} {L B : List Cond} (h1 : ∀ w ∈ L.filter goodWord, w.before args s = true) (h2 : ∀ w ∈ L.filter (fun w => !goodWord w), w ∈ B) (h3 : ∀ w ∈ B, w.before args s = true) : ∀ w ∈ L, w.before args s = true := by
  intro w hw
  by_cases g : goodWord w = true
  · exact h1 w (List.mem_filter.mpr ⟨hw, g⟩)
  · refine h3 w (h2 w (List.mem_filter.mpr ⟨hw, ?_⟩))
    show (!goodWord w) = true
    cases hgw : goodWord w
    · rfl
    · exact absurd hgw g
theorem vx_c {args : Array Value} {s : State} {w : Cond} {B : List Cond} (h : w.before args s = true) (t : ∀ w ∈ B, w.before args s = true) : ∀ w' ∈ w :: B, w'.before args s = true := fun w' h' => (List.mem_cons.mp h').elim (fun e => by rw [e]; exact h) (t w')
theorem vx_n {args : Array Value} {s : State} : ∀ w ∈ ([] : List Cond), w.before args s = true := fun _ h => nomatch h
theorem vx_own {args : Array Value} {s : State} {L : List Cond} (h1 : ∀ w ∈ L.filter vx_no, w.before args s = true)
    (hU : (Cond.isRef (.static Bundle.tN "UNASSIGNED_STACK" Bundle.steD)).before args s = true) (hN : (Cond.isRef (.static Bundle.tN "SUPPRESSED_SENTINEL" Bundle.listD)).before args s = true)
    (lU : (Cond.laysStatic Bundle.tN "UNASSIGNED_STACK" Bundle.steD).before args s = true) (lN : (Cond.laysStatic Bundle.tN "SUPPRESSED_SENTINEL" Bundle.listD).before args s = true) : ∀ w ∈ L, w.before args s = true := by
  intro w hw
  by_cases e1 : w = .isRef (.static Bundle.tN "UNASSIGNED_STACK" Bundle.steD)
  · rw [e1]; exact hU
  · by_cases e2 : w = .isRef (.static Bundle.tN "SUPPRESSED_SENTINEL" Bundle.listD)
    · rw [e2]; exact hN
    · by_cases e3 : w = .laysStatic Bundle.tN "UNASSIGNED_STACK" Bundle.steD
      · rw [e3]; exact lU
      · by_cases e4 : w = .laysStatic Bundle.tN "SUPPRESSED_SENTINEL" Bundle.listD
        · rw [e4]; exact lN
        · exact h1 w (List.mem_filter.mpr ⟨hw, by unfold vx_no; rw [decide_eq_true e1, decide_eq_true e2, decide_eq_true e3, decide_eq_true e4]; rfl⟩)
/-- where a static field lies, its class's statics cell in H -/
def vx_L (C n d : String) (A : Nat → Prop) (U : State) (H : Heap) : Prop := ∃ (c : ClassId) (k : Class) (i : Nat) (f : Field) (a : Nat) (cell : Cell), U.vm.findClass C = some c ∧ U.fieldFound? C n d = some (c, k, i, f) ∧ f.isStatic = true ∧ k.statics = some a ∧ H[a]? = some cell ∧ cell.vm.isStatics = true ∧ cell.cls = c ∧ f.slot < cell.slots.size ∧ k.staticTypes[f.slot]? = some f.type ∧ ¬ A a
theorem vx_L.moved {C n d : String} {A : Nat → Prop} {u U : State} {H : Heap} (hvm : u.vm.Alike U.vm) (h : vx_L C n d A u H) : vx_L C n d A U H := by
  obtain ⟨c, k, i, f, a, cell, h1, h2, h3, h4, h5, h6, h7, h8, h9, h10⟩ := h
  obtain ⟨k', hi', he⟩ := State.fieldFound?_setVm hvm h2
  exact ⟨c, k', i, f, a, cell, by rw [hvm.findClass]; exact h1, hi', h3, by rw [he]; exact h4, h5, h6, h7, h8, by rw [he]; exact h9, h10⟩
theorem vx_L.kept {C n d : String} {A : Nat → Prop} {U : State} {H H1 : Heap} (h : vx_L C n d A U H) (hq : ∀ a : Nat, a < H.size → ¬ A a → H1[a]? = H[a]?) : vx_L C n d A U H1 := by
  obtain ⟨c, k, i, f, a, cell, h1, h2, h3, h4, h5, h6, h7, h8, h9, h10⟩ := h
  exact ⟨c, k, i, f, a, cell, h1, h2, h3, h4, by rw [hq a (Array.getElem?_eq_some_iff.mp h5).1 h10]; exact h5, h6, h7, h8, h9, h10⟩
theorem vx_L.narrow {C n d : String} {A B : Nat → Prop} {U : State} {H : Heap} (h : vx_L C n d A U H) (hAB : ∀ q, B q → A q) : vx_L C n d B U H := by
  obtain ⟨c, k, i, f, a, cell, h1, h2, h3, h4, h5, h6, h7, h8, h9, h10⟩ := h
  exact ⟨c, k, i, f, a, cell, h1, h2, h3, h4, h5, h6, h7, h8, h9, fun z => h10 (hAB _ z)⟩
theorem vx_L.word {C n d : String} {A : Nat → Prop} {s : State} {args : Array Value} (h : vx_L C n d A s s.heap) : (Cond.laysStatic C n d).before args s = true := by
  obtain ⟨c, k, i, f, a, cell, h1, h2, h3, h4, h5, h6, h7, h8, h9, -⟩ := h
  show (Cond.laysStatic C n d).holds args s none s [] = true
  exact Cond.laysStatic_of h1 h2 h3 h4 h5 h6 h7 h8 h9
/-- .. and what it holds: null or some reference -/
def vx_Zq (C n d : String) (A : Nat → Prop) (U : State) (H : Heap) : Prop := va_Zq C n d A U H ∧ vx_L C n d A U H
theorem vx_Zq.moved {C n d : String} {A : Nat → Prop} {u U : State} {H : Heap} (hvm : u.vm.Alike U.vm) (h : vx_Zq C n d A u H) : vx_Zq C n d A U H := ⟨va_Zq.moved hvm h.1, vx_L.moved hvm h.2⟩
theorem vx_Zq.kept {C n d : String} {A : Nat → Prop} {U : State} {H H1 : Heap} (h : vx_Zq C n d A U H) (hq : ∀ a : Nat, a < H.size → ¬ A a → H1[a]? = H[a]?) : vx_Zq C n d A U H1 := ⟨va_Zq.kept h.1 hq, vx_L.kept h.2 hq⟩
theorem vx_Zq.narrow {C n d : String} {A B : Nat → Prop} {U : State} {H : Heap} (h : vx_Zq C n d A U H) (hAB : ∀ q, B q → A q) : vx_Zq C n d B U H := ⟨va_Zq.narrow h.1 hAB, vx_L.narrow h.2 hAB⟩
theorem vx_Zqof {args : Array Value} {s : State} {C n d : String} {A : Nat → Prop} (hl : (Cond.laysStatic C n d).before args s = true) (hini : (Cond.initialized C).before args s = true) (h : (Cond.isRef (.static C n d)).before args s = true) (hA : ∀ a : Nat, a < s.heap.size → ¬ A a) : vx_Zq C n d A s s.heap := by
  refine ⟨va_Zqof hl hini h hA, ?_⟩
  obtain ⟨c, k, i, f, a, cell, h1, h2, h3, h4, h5, h6, h7, h8, h9⟩ := Cond.laysStatic_spec hl
  exact ⟨c, k, i, f, a, cell, h1, h2, h3, h4, h5, h6, h7, h8, h9, hA a (Array.getElem?_eq_some_iff.mp h5).1⟩
theorem vx_isRef {C n d : String} {v : Value} {A : Nat → Prop} {s : State} {args : Array Value} (h : va_Z C n d v A s s.heap) (hv : v.isRef = true) : (Cond.isRef (.static C n d)).before args s = true := by
  obtain ⟨cf, kf, fi, f, a, cell, h1, h2, h3, h4, h5, h6, h7, -⟩ := h
  have he : (Term.static C n d).eval args s none [] s = some v := by
    simp [Term.eval, State.fieldNamed?, h1, h2, h4, h5, h6, h7]
  simp only [Cond.before, Cond.holds, Cond.value, he]
  cases v <;> simp_all [Value.isRef]
theorem vx_isRefq {C n d : String} {A : Nat → Prop} {s : State} {args : Array Value} (h : va_Zq C n d A s s.heap) : (Cond.isRef (.static C n d)).before args s = true := by
  rcases h with h | ⟨t, h⟩
  · exact vx_isRef h rfl
  · exact vx_isRef h rfl
/-- the same frame, seen from here: as if the method were called anew in this heap -/
theorem vx_rebase {T : State} (X : Stand p l e R s m args below meth c T locs cells slots) {R' : Room} (hf : R'.frames ≤ R.frames) (hl : R'.locals ≤ R.locals) (hc : cells + R'.cells ≤ R.cells) (hs : slots + R'.slots ≤ R.slots) :
    Stand p l e R' ((T.setVm s.vm).setFrames (.invoking m args :: below)) m args below meth c T [] 0 0 := by
  have htop : (T.setVm s.vm).topJava?.isSome := X.here.top
  have hF : ((T.setVm s.vm).setFrames (.invoking m args :: below)).frames = .invoking m args :: below := State.frames_setFrames _ (State.cur_lt_of_top htop)
  obtain ⟨g₀, hg0⟩ := Option.isSome_iff_exists.mp htop
  obtain ⟨r, hr⟩ := State.topJava?_eq_some.mp hg0
  have hl9 : e.platform.stackLimits (T.setVm s.vm).me = e.platform.stackLimits s.me := X.limits
  have hb9 : (T.setVm s.vm).me.stackBytes = s.me.stackBytes := X.bytes
  refine ⟨X.admits, X.cas, X.clock, hF, ?_, X.hears, X.method, X.code, X.here, X.tail, X.warmed, ?_, ?_, ?_⟩
  · have h := X.room
    have hU : ((T.setVm s.vm).setFrames (.invoking m args :: below)).localsInUse = s.localsInUse := by
      rw [State.localsInUse_invoking hF (meth := meth) (c := c) X.method X.code, State.localsInUse_invoking X.frames X.method X.code]
    simp only [State.hasRoom, Bool.and_eq_true, decide_eq_true_eq] at h ⊢
    obtain ⟨⟨⟨⟨h1, h2, h3, h4, h5, h6⟩, h7⟩, h8⟩, h9⟩ := h
    rw [X.frames, List.length_cons] at h2 h3
    have q1 := X.heapSize
    have q2 := X.used
    simp only [hF, hU, List.length_cons, State.stackLimits_setFrames, State.stackBytes_setFrames, hl9, hb9]
    refine ⟨⟨⟨⟨by omega, by omega, by omega, by omega, by omega, h6⟩, ?_⟩, ?_⟩, X.book⟩
    · show T.heap.size + R'.cells ≤ e.platform.maxCells
      omega
    · show T.slotsUsed + R'.slots ≤ e.platform.maxSlots
      omega
  · rw [State.stackLimits_setFrames]; rfl
  · rw [State.stackBytes_setFrames]; rfl
  · refine ⟨?_, Nat.le_refl _, Nat.le_refl _, ?_, ?_, fun a c9 h9 => ⟨c9, h9, rfl, rfl, fun _ _ => rfl⟩⟩
    · obtain ⟨t, ht, -⟩ := State.frames_cons hr
      show T.setVm s.vm = { ((T.setVm s.vm).setFrames (.invoking m args :: below)).setFrames (T.setVm s.vm).frames with heap := T.heap, slotsUsed := T.slotsUsed }
      rw [State.setFrames_setFrames, State.setFrames_self ht]
      rfl
    · show T.slotsUsed = T.slotsUsed + ((T.heap.toList.drop T.heap.size).map (·.slots.size)).sum
      rw [List.drop_eq_nil_of_le (Nat.le_of_eq Array.length_toList)]
      rfl
    · show ((T.heap.toList.drop T.heap.size).map (·.slots.size)).sum ≤ 0
      rw [List.drop_eq_nil_of_le (Nat.le_of_eq Array.length_toList)]
      exact Nat.le_refl _
/-- 'throw new E()': new; dup; invokespecial; athrow -/
theorem vx_throw0 {cc : ByteArray} {pc : Nat} (hexec : p.tables.exec = Jvm.exec) (hb : c.code = cc) (hl : l.stackTraces = false) {own cls : String} {names : List String} {ik ic mc ms : Nat} {A : Nat → Prop}
    (hown : s.vm.findClass own = some m.cls) (hcls : Bundle.fit cls = true) (hnames : ∀ n ∈ names, Bundle.fit n = true)
    (hk : (Cond.classLink own ik cls).before args s = true) (hini : (Cond.initialized cls).before args s = true) (hat : ∀ w ∈ vx_at0 own ic cls names, w.before args s = true)
    (hgood : ∀ w ∈ Cond.classLink own ik cls :: Cond.initialized cls :: vx_at0 own ic cls names, vx_ot w = true)
    (hU : vx_Zq Bundle.tN "UNASSIGNED_STACK" Bundle.steD A s s.heap) (hN : vx_Zq Bundle.tN "SUPPRESSED_SENTINEL" Bundle.listD A s s.heap) (hS : va_S A s.heap H locs) (hsize : ls.size = c.maxLocals)
    (d0 : decode cc pc = .ok (.new ik, 3)) (d3 : decode cc (pc + 3) = .ok (.dup, 1)) (d4 : decode cc (pc + 4) = .ok (.invokespecial ic, 3)) (d7 : decode cc (pc + 7) = .ok (.athrow, 1))
    (hout : ∀ x ∈ c.exceptionTable.toList, covers x (pc + 7) = false)
    (hRframes : names.length + 3 < R.frames) (hRlocals : (rest.map fun v => v.category).sum + (13 * (names.length + 1) + 42) ≤ R.locals) (hRcells : cells + 1 ≤ R.cells) (hRslots : slots + 6 ≤ R.slots) (hlocks : meth.locks = false)
    (hx : ∀ t : State, s.vm.Alike t.vm → H.size ≤ t.heap.size → (∀ q : Nat, q < H.size → t.heap[q]? = H[q]?) → XC cls s t)
    (hf : ∀ z ∈ locs, free z.base) (hc : cells + 1 ≤ mc) (hs : slots + 6 ≤ ms) :
    W p l e R s m args below meth c H locs cells slots (vx_MQ below Qc XC args s mc ms free) (F0 m pc ls rest) := by
  intro T hT X
  have htr : e.platform.stackTraces = false := (show e.platform.stackTraces = l.stackTraces by rw [X.admits.platform]).trans hl
  have Y := vx_rebase X (R' := { frames := R.frames, locals := R.locals, cells := 1, slots := 6 }) (Nat.le_refl _) (Nat.le_refl _) hRcells hRslots
  obtain ⟨s', hA⟩ : ∃ z, z = (T.setVm s.vm).setFrames (.invoking m args :: below) := ⟨_, rfl⟩
  rw [← hA] at Y
  have hvm : s'.vm = s.vm := by rw [hA]; rfl
  have hhp : s'.heap = H := by rw [hA]; exact hT
  have hW0 : s.WarmedH s'.vm := by rw [hvm]; exact State.WarmedH.refl s
  have hat' : ∀ w ∈ vx_at0 own ic cls names, w.before args s' = true := fun w hw => vx_ot_at hW0 hvm.symm (hgood w (List.mem_cons_of_mem _ (List.mem_cons_of_mem _ hw))) (hat w hw)
  have hk' : (Cond.classLink own ik cls).before args s' = true := vx_ot_at hW0 hvm.symm (hgood _ List.mem_cons_self) hk
  have hini' : (Cond.initialized cls).before args s' = true := vx_ot_at hW0 hvm.symm (hgood _ (List.mem_cons_of_mem _ List.mem_cons_self)) hini
  have hU' : vx_Zq Bundle.tN "UNASSIGNED_STACK" Bundle.steD A s' s'.heap := by rw [hhp]; exact vx_Zq.moved hW0.alike (hU.kept hS.2.1)
  have hN' : vx_Zq Bundle.tN "SUPPRESSED_SENTINEL" Bundle.listD A s' s'.heap := by rw [hhp]; exact vx_Zq.moved hW0.alike (hN.kept hS.2.1)
  have h : ∀ w ∈ Bundle.ownAtoms0 own ic cls names, w.before args s' = true := vx_own hat' (vx_isRefq hU'.1) (vx_isRefq hN'.1) hU'.2.word hN'.2.word
  have hown' : s'.vm.findClass own = some m.cls := by rw [hvm]; exact hown
  have hins : (Cond.instantiable cls 6).before args s' = true := h _ (by simp [Bundle.ownAtoms0])
  obtain ⟨vm₁, cX, kX, hfX, hkX, -, -, X₁, st1⟩ := Y.newCold hexec (own := own) (C := cls) (index := ik) (n := 6) hown' hk' hins hini'
    (g := F0 m pc ls rest) rfl (by rw [hb]; exact d0) (Nat.le_refl _) (Nat.le_refl _)
  generalize hT1 : (T.setVm vm₁).pushCell { cls := cX, slots := kX.instanceTypes.map defaultValue, vm := .none } = T1 at X₁ st1
  have hcat : (Value.ref T.heap.size).category = 1 := rfl
  have hcellA : T1.heap[T.heap.size]? = some (freshCell cX kX) := by rw [← hT1]; exact State.heap_pushCell_size _ _
  have d3' : decode c.code (pc + 3) = .ok (.dup, 1) := by rw [hb]; exact d3
  obtain ⟨U, hsteps, hrun, hend, hW, hsame, ce, hce, hO⟩ := X₁.ctorThrow0 hexec htr (own := own) (cls := cls) (names := names) (ic := ic) hown' hcls hnames h (fun x hx => nomatch hx) hfX hkX hcellA (by rw [hhp, hT]; exact Nat.le_refl _)
    (g := { method := m, pc := pc + 4, locals := ls, stack := .ref T.heap.size :: .ref T.heap.size :: rest, locked := none }) rfl hsize rfl rfl (rest := rest) rfl
    (by rw [hb]; exact d4) (by rw [hb]; exact d7) hout hRframes (by simp only [List.map_cons, List.sum_cons, hcat]; omega) hlocks
  obtain ⟨f1, f2⟩ := vx_frame hsame
  rw [hhp] at f1 f2
  have hWs : s.WarmedH U.vm := State.WarmedH.trans hW0 hW
  have hcl : s.vm.findClass cls = some ce.cls := by
    have h9 := hO.cls
    rw [hvm] at h9
    exact h9
  have hall : s.sameButNew ({ U with vm := s.vm } : State) locs mc ms := by
    subst hA
    obtain ⟨e1, e2⟩ := hsame
    rw [State.setFrames_setFrames] at e1
    have h2 : (T.setVm s.vm).sameButNew ({ U with vm := s.vm } : State) [] (0 + 1) (0 + 6) := ⟨e1, e2⟩
    have h3 := X.same.trans h2
    rw [List.append_nil] at h3
    exact h3.mono hc hs
  refine ⟨U, ?_, .threw T.heap.size, hrun, hend, Or.inr ⟨T.heap.size, rfl, cls, ce, locs, hx U hWs.alike f1 (fun q hq => f2 q hq (fun z hz => nomatch hz)), hce, hO.vm, hcl, hWs, hall, hf⟩⟩
  refine st1 _ ?_
  show Steps p.tables e below (T1.setTop { method := m, pc := pc + 3, locals := ls, stack := .ref T.heap.size :: rest, locked := none }) _
  jvm_step X₁.here [X₁.here.top, hexec, d3', Value.category]
  exact hsteps
/-- 'throw new E("text")': new; dup; ldc; invokespecial; athrow -/
theorem vx_throwS {cc : ByteArray} {pc : Nat} (hexec : p.tables.exec = Jvm.exec) (hb : c.code = cc) (hl : l.stackTraces = false) {own cls text : String} {names : List String} {ik is ic mc ms sa : Nat} {A : Nat → Prop}
    (hown : s.vm.findClass own = some m.cls) (hcls : Bundle.fit cls = true) (hnames : ∀ n ∈ names, Bundle.fit n = true)
    (hk : (Cond.classLink own ik cls).before args s = true) (hini : (Cond.initialized cls).before args s = true) (hstr : vk_R own is text sa s) (hat : ∀ w ∈ vx_atS own ic cls names, w.before args s = true)
    (hgood : ∀ w ∈ Cond.classLink own ik cls :: Cond.initialized cls :: vx_atS own ic cls names, vx_ot w = true)
    (hU : vx_Zq Bundle.tN "UNASSIGNED_STACK" Bundle.steD A s s.heap) (hN : vx_Zq Bundle.tN "SUPPRESSED_SENTINEL" Bundle.listD A s s.heap) (hS : va_S A s.heap H locs) (hsize : ls.size = c.maxLocals)
    (d0 : decode cc pc = .ok (.new ik, 3)) (d3 : decode cc (pc + 3) = .ok (.dup, 1)) (d4 : decode cc (pc + 4) = .ok (.ldc is, 2)) (d6 : decode cc (pc + 6) = .ok (.invokespecial ic, 3)) (d9 : decode cc (pc + 9) = .ok (.athrow, 1))
    (hout : ∀ x ∈ c.exceptionTable.toList, covers x (pc + 9) = false)
    (hRframes : names.length + 3 < R.frames) (hRlocals : (rest.map fun v => v.category).sum + (13 * (names.length + 1) + 43) ≤ R.locals) (hRcells : cells + 1 ≤ R.cells) (hRslots : slots + 6 ≤ R.slots) (hlocks : meth.locks = false)
    (hx : ∀ t : State, s.vm.Alike t.vm → H.size ≤ t.heap.size → (∀ q : Nat, q < H.size → t.heap[q]? = H[q]?) → XC cls s t)
    (hf : ∀ z ∈ locs, free z.base) (hc : cells + 1 ≤ mc) (hs : slots + 6 ≤ ms) :
    W p l e R s m args below meth c H locs cells slots (vx_MQ below Qc XC args s mc ms free) (F0 m pc ls rest) := by
  intro T hT X
  have htr : e.platform.stackTraces = false := (show e.platform.stackTraces = l.stackTraces by rw [X.admits.platform]).trans hl
  have Y := vx_rebase X (R' := { frames := R.frames, locals := R.locals, cells := 1, slots := 6 }) (Nat.le_refl _) (Nat.le_refl _) hRcells hRslots
  obtain ⟨s', hA⟩ : ∃ z, z = (T.setVm s.vm).setFrames (.invoking m args :: below) := ⟨_, rfl⟩
  rw [← hA] at Y
  have hvm : s'.vm = s.vm := by rw [hA]; rfl
  have hhp : s'.heap = H := by rw [hA]; exact hT
  have hW0 : s.WarmedH s'.vm := by rw [hvm]; exact State.WarmedH.refl s
  have hat' : ∀ w ∈ vx_atS own ic cls names, w.before args s' = true := fun w hw => vx_ot_at hW0 hvm.symm (hgood w (List.mem_cons_of_mem _ (List.mem_cons_of_mem _ hw))) (hat w hw)
  have hk' : (Cond.classLink own ik cls).before args s' = true := vx_ot_at hW0 hvm.symm (hgood _ List.mem_cons_self) hk
  have hini' : (Cond.initialized cls).before args s' = true := vx_ot_at hW0 hvm.symm (hgood _ (List.mem_cons_of_mem _ List.mem_cons_self)) hini
  have hU' : vx_Zq Bundle.tN "UNASSIGNED_STACK" Bundle.steD A s' s'.heap := by rw [hhp]; exact vx_Zq.moved hW0.alike (hU.kept hS.2.1)
  have hN' : vx_Zq Bundle.tN "SUPPRESSED_SENTINEL" Bundle.listD A s' s'.heap := by rw [hhp]; exact vx_Zq.moved hW0.alike (hN.kept hS.2.1)
  have h : ∀ w ∈ Bundle.ownAtoms own ic cls names, w.before args s' = true := vx_own hat' (vx_isRefq hU'.1) (vx_isRefq hN'.1) hU'.2.word hN'.2.word
  have hown' : s'.vm.findClass own = some m.cls := by rw [hvm]; exact hown
  have hins : (Cond.instantiable cls 6).before args s' = true := h _ (by simp [Bundle.ownAtoms])
  obtain ⟨vm₁, cX, kX, hfX, hkX, -, -, X₁, st1⟩ := Y.newCold hexec (own := own) (C := cls) (index := ik) (n := 6) hown' hk' hins hini'
    (g := F0 m pc ls rest) rfl (by rw [hb]; exact d0) (Nat.le_refl _) (Nat.le_refl _)
  generalize hT1 : (T.setVm vm₁).pushCell { cls := cX, slots := kX.instanceTypes.map defaultValue, vm := .none } = T1 at X₁ st1
  have hcat : (Value.ref T.heap.size).category = 1 := rfl
  have hcellA : T1.heap[T.heap.size]? = some (freshCell cX kX) := by rw [← hT1]; exact State.heap_pushCell_size _ _
  have d3' : decode c.code (pc + 3) = .ok (.dup, 1) := by rw [hb]; exact d3
  have d4' : decode c.code (pc + 4) = .ok (.ldc is, 2) := by rw [hb]; exact d4
  have hstr' : vk_R own is text sa s' := vk_R.warm hW0 hstr
  obtain ⟨U, hsteps, hrun, hend, hW, hsame, ce, hce, hO⟩ := X₁.ctorThrowS hexec htr (own := own) (cls := cls) (names := names) (ic := ic) hown' hcls hnames h (fun x hx => nomatch hx) hfX hkX hcellA (by rw [hhp, hT]; exact Nat.le_refl _) (msg := .ref sa) rfl
    (g := { method := m, pc := pc + 6, locals := ls, stack := .ref sa :: .ref T.heap.size :: .ref T.heap.size :: rest, locked := none }) rfl hsize rfl rfl (rest := rest) rfl
    (by rw [hb]; exact d6) (by rw [hb]; exact d9) hout hRframes (by simp only [List.map_cons, List.sum_cons, hcat]; omega) hlocks
  obtain ⟨f1, f2⟩ := vx_frame hsame
  rw [hhp] at f1 f2
  have hWs : s.WarmedH U.vm := State.WarmedH.trans hW0 hW
  have hcl : s.vm.findClass cls = some ce.cls := by
    have h9 := hO.cls
    rw [hvm] at h9
    exact h9
  have hall : s.sameButNew ({ U with vm := s.vm } : State) locs mc ms := by
    subst hA
    obtain ⟨e1, e2⟩ := hsame
    rw [State.setFrames_setFrames] at e1
    have h2 : (T.setVm s.vm).sameButNew ({ U with vm := s.vm } : State) [] (0 + 1) (0 + 6) := ⟨e1, e2⟩
    have h3 := X.same.trans h2
    rw [List.append_nil] at h3
    exact h3.mono hc hs
  refine ⟨U, ?_, .threw T.heap.size, hrun, hend, Or.inr ⟨T.heap.size, rfl, cls, ce, locs, hx U hWs.alike f1 (fun q hq => f2 q hq (fun z hz => nomatch hz)), hce, hO.vm, hcl, hWs, hall, hf⟩⟩
  refine st1 _ ?_
  show Steps p.tables e below (T1.setTop { method := m, pc := pc + 3, locals := ls, stack := .ref T.heap.size :: rest, locked := none }) _
  jvm_step X₁.here [X₁.here.top, hexec, d3', Value.category]
  exact X₁.ldcString hexec (own := own) (text := text) (index := is) (a := sa) hown' hstr'.1 hstr'.2
    (g := { method := m, pc := pc + 4, locals := ls, stack := .ref T.heap.size :: .ref T.heap.size :: rest, locked := none }) rfl d4' _ hsteps
/-- 'throw new E("text")', the text by a wide index -/
theorem vx_throwSW {cc : ByteArray} {pc : Nat} (hexec : p.tables.exec = Jvm.exec) (hb : c.code = cc) (hl : l.stackTraces = false) {own cls text : String} {names : List String} {ik is ic mc ms sa : Nat} {A : Nat → Prop}
    (hown : s.vm.findClass own = some m.cls) (hcls : Bundle.fit cls = true) (hnames : ∀ n ∈ names, Bundle.fit n = true)
    (hk : (Cond.classLink own ik cls).before args s = true) (hini : (Cond.initialized cls).before args s = true) (hstr : vk_R own is text sa s) (hat : ∀ w ∈ vx_atS own ic cls names, w.before args s = true)
    (hgood : ∀ w ∈ Cond.classLink own ik cls :: Cond.initialized cls :: vx_atS own ic cls names, vx_ot w = true)
    (hU : vx_Zq Bundle.tN "UNASSIGNED_STACK" Bundle.steD A s s.heap) (hN : vx_Zq Bundle.tN "SUPPRESSED_SENTINEL" Bundle.listD A s s.heap) (hS : va_S A s.heap H locs) (hsize : ls.size = c.maxLocals)
    (d0 : decode cc pc = .ok (.new ik, 3)) (d3 : decode cc (pc + 3) = .ok (.dup, 1)) (d4 : decode cc (pc + 4) = .ok (.ldc_w is, 3)) (d7 : decode cc (pc + 7) = .ok (.invokespecial ic, 3)) (d10 : decode cc (pc + 10) = .ok (.athrow, 1))
    (hout : ∀ x ∈ c.exceptionTable.toList, covers x (pc + 10) = false)
    (hRframes : names.length + 3 < R.frames) (hRlocals : (rest.map fun v => v.category).sum + (13 * (names.length + 1) + 43) ≤ R.locals) (hRcells : cells + 1 ≤ R.cells) (hRslots : slots + 6 ≤ R.slots) (hlocks : meth.locks = false)
    (hx : ∀ t : State, s.vm.Alike t.vm → H.size ≤ t.heap.size → (∀ q : Nat, q < H.size → t.heap[q]? = H[q]?) → XC cls s t)
    (hf : ∀ z ∈ locs, free z.base) (hc : cells + 1 ≤ mc) (hs : slots + 6 ≤ ms) :
    W p l e R s m args below meth c H locs cells slots (vx_MQ below Qc XC args s mc ms free) (F0 m pc ls rest) := by
  intro T hT X
  have htr : e.platform.stackTraces = false := (show e.platform.stackTraces = l.stackTraces by rw [X.admits.platform]).trans hl
  have Y := vx_rebase X (R' := { frames := R.frames, locals := R.locals, cells := 1, slots := 6 }) (Nat.le_refl _) (Nat.le_refl _) hRcells hRslots
  obtain ⟨s', hA⟩ : ∃ z, z = (T.setVm s.vm).setFrames (.invoking m args :: below) := ⟨_, rfl⟩
  rw [← hA] at Y
  have hvm : s'.vm = s.vm := by rw [hA]; rfl
  have hhp : s'.heap = H := by rw [hA]; exact hT
  have hW0 : s.WarmedH s'.vm := by rw [hvm]; exact State.WarmedH.refl s
  have hat' : ∀ w ∈ vx_atS own ic cls names, w.before args s' = true := fun w hw => vx_ot_at hW0 hvm.symm (hgood w (List.mem_cons_of_mem _ (List.mem_cons_of_mem _ hw))) (hat w hw)
  have hk' : (Cond.classLink own ik cls).before args s' = true := vx_ot_at hW0 hvm.symm (hgood _ List.mem_cons_self) hk
  have hini' : (Cond.initialized cls).before args s' = true := vx_ot_at hW0 hvm.symm (hgood _ (List.mem_cons_of_mem _ List.mem_cons_self)) hini
  have hU' : vx_Zq Bundle.tN "UNASSIGNED_STACK" Bundle.steD A s' s'.heap := by rw [hhp]; exact vx_Zq.moved hW0.alike (hU.kept hS.2.1)
  have hN' : vx_Zq Bundle.tN "SUPPRESSED_SENTINEL" Bundle.listD A s' s'.heap := by rw [hhp]; exact vx_Zq.moved hW0.alike (hN.kept hS.2.1)
  have h : ∀ w ∈ Bundle.ownAtoms own ic cls names, w.before args s' = true := vx_own hat' (vx_isRefq hU'.1) (vx_isRefq hN'.1) hU'.2.word hN'.2.word
  have hown' : s'.vm.findClass own = some m.cls := by rw [hvm]; exact hown
  have hins : (Cond.instantiable cls 6).before args s' = true := h _ (by simp [Bundle.ownAtoms])
  obtain ⟨vm₁, cX, kX, hfX, hkX, -, -, X₁, st1⟩ := Y.newCold hexec (own := own) (C := cls) (index := ik) (n := 6) hown' hk' hins hini'
    (g := F0 m pc ls rest) rfl (by rw [hb]; exact d0) (Nat.le_refl _) (Nat.le_refl _)
  generalize hT1 : (T.setVm vm₁).pushCell { cls := cX, slots := kX.instanceTypes.map defaultValue, vm := .none } = T1 at X₁ st1
  have hcat : (Value.ref T.heap.size).category = 1 := rfl
  have hcellA : T1.heap[T.heap.size]? = some (freshCell cX kX) := by rw [← hT1]; exact State.heap_pushCell_size _ _
  have d3' : decode c.code (pc + 3) = .ok (.dup, 1) := by rw [hb]; exact d3
  have d4' : decode c.code (pc + 4) = .ok (.ldc_w is, 3) := by rw [hb]; exact d4
  have hstr' : vk_R own is text sa s' := vk_R.warm hW0 hstr
  obtain ⟨U, hsteps, hrun, hend, hW, hsame, ce, hce, hO⟩ := X₁.ctorThrowS hexec htr (own := own) (cls := cls) (names := names) (ic := ic) hown' hcls hnames h (fun x hx => nomatch hx) hfX hkX hcellA (by rw [hhp, hT]; exact Nat.le_refl _) (msg := .ref sa) rfl
    (g := { method := m, pc := pc + 7, locals := ls, stack := .ref sa :: .ref T.heap.size :: .ref T.heap.size :: rest, locked := none }) rfl hsize rfl rfl (rest := rest) rfl
    (by rw [hb]; exact d7) (by rw [hb]; exact d10) hout hRframes (by simp only [List.map_cons, List.sum_cons, hcat]; omega) hlocks
  obtain ⟨f1, f2⟩ := vx_frame hsame
  rw [hhp] at f1 f2
  have hWs : s.WarmedH U.vm := State.WarmedH.trans hW0 hW
  have hcl : s.vm.findClass cls = some ce.cls := by
    have h9 := hO.cls
    rw [hvm] at h9
    exact h9
  have hall : s.sameButNew ({ U with vm := s.vm } : State) locs mc ms := by
    subst hA
    obtain ⟨e1, e2⟩ := hsame
    rw [State.setFrames_setFrames] at e1
    have h2 : (T.setVm s.vm).sameButNew ({ U with vm := s.vm } : State) [] (0 + 1) (0 + 6) := ⟨e1, e2⟩
    have h3 := X.same.trans h2
    rw [List.append_nil] at h3
    exact h3.mono hc hs
  refine ⟨U, ?_, .threw T.heap.size, hrun, hend, Or.inr ⟨T.heap.size, rfl, cls, ce, locs, hx U hWs.alike f1 (fun q hq => f2 q hq (fun z hz => nomatch hz)), hce, hO.vm, hcl, hWs, hall, hf⟩⟩
  refine st1 _ ?_
  show Steps p.tables e below (T1.setTop { method := m, pc := pc + 3, locals := ls, stack := .ref T.heap.size :: rest, locked := none }) _
  jvm_step X₁.here [X₁.here.top, hexec, d3', Value.category]
  exact X₁.ldcStringW hexec (own := own) (text := text) (index := is) (a := sa) hown' hstr'.1 hstr'.2
    (g := { method := m, pc := pc + 4, locals := ls, stack := .ref T.heap.size :: .ref T.heap.size :: rest, locked := none }) rfl d4' _ hsteps
end Ends
section Bodies
variable {l : Launch}
theorem vx_ofW {y : MethodName} {ws ws' : List Cond} {rm : Room} {Pc : Array Value → State → Prop} {Qc : Array Value → State → Outcome → State → Prop} {XC : String → State → State → Prop} {mc ms : Nat} {free : Addr → Prop} {cc : ByteArray} {maxL : Nat} {ret : Option FieldType}
    (hy : plainName y.cls = true) (hw : ws = Cond.code y cc maxL ret :: ws')
    (body : ∀ p e s m args below meth c s₁, BodyLoose p l y (headSpec ws rm) cc maxL ret e s m args below meth c s₁ → c.maxLocals = maxL → (∀ x ∈ c.exceptionTable.toList, False) → Pc args s →
      W p l e (headSpec ws rm).room s m args below meth c s.heap [] 0 0 (vx_MQ below Qc XC args s mc ms free) (entryFrame m args maxL)) : vx_Met l y ws rm Pc Qc XC mc ms free := by
  refine MetFree.of_bodyS (code := cc) (maxLocals := maxL) (ret := ret) hy ?_ ?_
  · intro args s m h hn
    obtain ⟨meth, c, h1, h2, h3, h4, h5, h6, -, -⟩ := Cond.code_spec hn (atoms_spec (ws := ws) h _ (by rw [hw]; exact List.mem_cons_self))
    exact ⟨meth, c, h1, h2, h3, h4, h5, h6⟩
  · intro p e s m args below meth c s₁ B hml hP _
    have hh0 : s₁.heap = s.heap := by rw [B.state]; rfl
    have ht : ∀ x ∈ c.exceptionTable.toList, False := by
      obtain ⟨meth9, c9, h1, h2, -, -, -, -, h7, -⟩ := Cond.code_spec B.named (atoms_spec (ws := ws) B.pre _ (by rw [hw]; exact List.mem_cons_self))
      cases Option.some.inj (h1.symm.trans B.method)
      cases Option.some.inj (h2.symm.trans (Stand.of_body B).code)
      intro x hx
      rw [Array.isEmpty_iff.mp h7] at hx
      cases hx
    obtain ⟨t, a1, o, b1, b2, b3⟩ := body p e s m args below meth c s₁ B hml ht hP s₁ hh0 (Stand.of_body B)
    exact ⟨t, o, a1, b1, b2, b3⟩
/-- the table of a body with handlers -/
theorem vx_table {p : Program} {x y : MethodName} {S : Spec} {cc bytes : ByteArray} {maxL maxL' : Nat} {ret ret' : Option FieldType} {e : Env} {s s₁ : State} {m : MethodId} {args : Array Value} {below : List Frame} {meth : Method} {c : Code} {hh : List (Nat × Nat × Nat × Nat)}
    (B : BodyLoose p l y S cc maxL ret e s m args below meth c s₁) (h : (Cond.codeWith y bytes maxL' ret' hh).before args s = true) : c.exceptionTable.toList = tableOf hh := by
  obtain ⟨m9, meth9, c9, hn9, h1, h2, -, -, h6, -⟩ := Cond.codeWith_spec h
  cases Option.some.inj (hn9.symm.trans B.named)
  cases Option.some.inj (h1.symm.trans B.method)
  cases Option.some.inj (h2.symm.trans (Stand.of_body B).code)
  rw [← h6, table_eq]
end Bodies
end VXA
/-! ===== END ===== -/
/-! ===== BEGIN a static call of a method with an exception table ===== -/
section VXS
variable {p : Program} {l : Launch} {e : Env} {R : Room} {s : State} {m : MethodId} {args : Array Value} {below : List Frame} {meth : Method} {c : Code} {T : State} {H : Heap} {locs : List Loc} {cells slots : Nat}
abbrev vx_CSW (R : Room) (s : State) (args : Array Value) (own : String) (index : Nat) (y : MethodName) (bytes : ByteArray) (maxL : Nat) (ret : Option FieldType) (hh : List (Nat × Nat × Nat × Nat)) (ws : List Cond) (rm : Room) (mc ms n : Nat) : Prop :=
  (rm.cells = mc ∧ rm.slots = ms ∧ rm.frames + 1 ≤ R.frames ∧ 8 + (maxL + 11) + rm.locals ≤ R.locals ∧ (∀ w ∈ ws, ∀ (a' : Array Value) (U : State), s.WarmedH U.vm → w.before a' U = true) ∧ Cond.codeWith y bytes maxL ret hh ∈ ws) ∧
  (Cond.codeWith y bytes maxL ret hh).before args s = true ∧ (Cond.initialized y.cls).before args s = true ∧ (y.cls ≠ "java/lang/invoke/MethodHandle" ∧ y.cls ≠ "java/lang/invoke/VarHandle") ∧
  (∀ sig, parseMethodDescriptor y.desc = some sig → n = sig.parameters.length) ∧ (Cond.methodLink own index y).before args s = true ∧ (Cond.static y).before args s = true
theorem vx_cwSW {own : String} {index maxL mc ms : Nat} {y : MethodName} {bytes : ByteArray} {ret : Option FieldType} {hh : List (Nat × Nat × Nat × Nat)} {Ts ws ws' : List Cond} {rm : Room} (n : Nat) (ht : ∀ w ∈ Ts, w.before args s = true) (hT : GoodIn Ts (va_wsS own index y ws)) (hw : ws = Cond.codeWith y bytes maxL ret hh :: ws') (hrc : rm.cells = mc) (hrs : rm.slots = ms)
    (hd : y.cls ≠ "java/lang/invoke/MethodHandle" ∧ y.cls ≠ "java/lang/invoke/VarHandle" ∧ (parseMethodDescriptor y.desc).map (fun d => d.parameters.length) = some n) (hR : rm.frames + 1 ≤ R.frames ∧ 8 + (maxL + 11) + rm.locals ≤ R.locals) :
    vx_CSW R s args own index y bytes maxL ret hh ws rm mc ms n := by
  have ok : ∀ w ∈ va_wsS own index y ws, w.before args s = true := fun w h => ht w (hT w h).1
  have hG : GoodIn Ts ws := fun w h => hT w (by unfold va_wsS; exact List.mem_append_right _ h)
  have hc : Cond.codeWith y bytes maxL ret hh ∈ ws := by rw [hw]; exact List.mem_cons_self
  refine ⟨⟨hrc, hrs, hR.1, hR.2, pay_in ht hG, hc⟩, ht _ (hG _ hc).1, ok _ (by simp [va_wsS]), ⟨hd.1, hd.2.1⟩, fun sig h => ?_, ok _ (by simp [va_wsS]), ok _ (by simp [va_wsS])⟩
  have h2 := hd.2.2
  rw [h] at h2
  exact (Option.some.inj h2).symm
theorem vx_callSW (X : Stand p l e R s m args below meth c T locs cells slots) (hexec : p.tables.exec = Jvm.exec) {own : String} {index : Nat} {y : MethodName} {bytes : ByteArray} {maxL : Nat} {ret : Option FieldType} {hh : List (Nat × Nat × Nat × Nat)}
    (hown : s.vm.findClass own = some m.cls) (hlink : (Cond.methodLink own index y).before args s = true) (hstat : (Cond.static y).before args s = true) (hinit : (Cond.initialized y.cls).before args s = true)
    (hcode : (Cond.codeWith y bytes maxL ret hh).before args s = true) (hy : y.cls ≠ "java/lang/invoke/MethodHandle" ∧ y.cls ≠ "java/lang/invoke/VarHandle")
    {W9 : Nat} {Pre : Pt → Array Value → Prop} {Post : Pt → Array Value → Option Value → Pt → Prop} (hK : Back l R p e below s args y 3 W9 Pre Post)
    {g : JFrame} (hg : g.method = m) (hsize : g.locals.size = c.maxLocals) {argsL rest : List Value} (hlen : ∀ sig, parseMethodDescriptor y.desc = some sig → argsL.length = sig.parameters.length)
    (hstack : g.stack = argsL.reverse ++ rest) (hW : 2 * g.monitorRoom + (rest.map fun v => v.category).sum ≤ W9) (hdg : decode c.code g.pc = .ok (.invokestatic index, 3))
    (hpre : ∀ vm₁, s.WarmedH vm₁ → Pre ⟨T.setVm vm₁, locs, cells, slots⟩ argsL.toArray) :
    ∃ (v : Option Value) (vm₁ : Vm) (B : Pt), s.WarmedH vm₁ ∧ Stand p l e R s m args below meth c B.U B.locs B.cells B.slots ∧ Post ⟨T.setVm vm₁, locs, cells, slots⟩ argsL.toArray v B ∧
      ∀ target, Steps p.tables e below (B.U.setTop { g with pc := g.pc + 3, stack := v.toList ++ rest }) target → Steps p.tables e below (T.setTop g) target := by
  obtain ⟨mk, methM, cM, hnamed, hmethM, -, -, -, -, -, -, hsigM⟩ := Cond.codeWith_spec hcode
  have hstatic : methM.isStatic = true := Cond.static_spec hnamed hmethM hstat
  obtain ⟨kP, hkP, -⟩ := className_of_methodNamed hnamed
  have hinitP : kP.init = .initialized := Cond.initialized_spec (findClass_of_methodNamed hnamed) hkP hinit
  obtain ⟨vm₁, X₁, hstep₁⟩ := X.invokestatic hexec hown hlink hnamed hmethM hstatic hkP hinitP hy (g := g) hg (argsL := argsL) (rest := rest) (hlen _ hsigM) hstack hdg
  obtain ⟨v, B, X', hpost, hsteps⟩ := hK m meth c ⟨T.setVm vm₁, locs, cells, slots⟩ { g with stack := rest } (.invokestatic index) mk argsL.toArray X₁ hg hsize hdg hW (X₁.named hnamed) (hpre vm₁ X₁.warmed)
  exact ⟨v, vm₁, B, X₁.warmed, X', hpost, fun target h => hstep₁ _ fun acts => by rw [doInvoke_state]; exact hsteps.trans h⟩
theorem vx_runSW {y : MethodName} {bytes cc : ByteArray} {maxL nL mc ms n index : Nat} {ret : Option FieldType} {hh : List (Nat × Nat × Nat × Nat)} {ws : List Cond} {rm : Room} {Pc : Array Value → State → Prop} {Qc : Array Value → State → Outcome → State → Prop} {free : Addr → Prop} {Ts : List Cond} {own : String} {As rest : List Value} {g : JFrame}
    (S : CallFix p m c cc nL s args Ts own) (hM : Met l y ws rm Pc Qc mc ms free) (cw : vx_CSW R s args own index y bytes maxL ret hh ws rm mc ms n) (hp : PreS s H Pc As)
    (hg : g.method = m) (hn : As.length = n) (hsize : g.locals.size = nL) (hstack : g.stack = As.reverse ++ rest) (hW : 2 * g.monitorRoom + (rest.map fun v => v.category).sum ≤ 8) (hdg : decode cc g.pc = .ok (.invokestatic index, 3)) (hf : cells + mc ≤ R.cells ∧ slots + ms ≤ R.slots) :
    va_Run p l e R s m args below meth c H locs cells slots mc ms g rest (Qc As.toArray) (free) := by
  obtain ⟨⟨hrc, hrs, hfr, hlo, hws, hcw⟩, hcode, hini, hy, hlen, hl, hstt⟩ := cw
  have hK : Back l R p e below s args y 3 8 (PreOf R mc ms Pc) (PostOf Qc mc ms free) := va_backW (hh := hh) (bytes := bytes) (maxL := maxL) (ret := ret) hM hp.1 hrc hrs hfr hlo hws hcw (fun a' U hW => word_at hW (Or.inl (by first | rfl | simp [Cond.onTables, Cond.keeps, Cond.steady])) hini)
  obtain ⟨hx, hb, hml, ho, -⟩ := S
  intro T hT X
  obtain ⟨v, vm₁, ⟨U', l2, c2, s2⟩, hW₁, X', ⟨g', mk, t, L, e1, e2, hq, h1, hL, h2, h3⟩, st⟩ := vx_callSW X hx (hh := hh) (bytes := bytes) (maxL := maxL) (ret := ret) ho hl hstt hini hcode hy hK hg (hsize.trans hml.symm) (argsL := As) (rest := rest) (fun sig h => hn.trans (hlen sig h)) hstack hW (by rw [hb]; exact hdg)
    (fun vm₁ hW₁ => ⟨hf.1, hf.2, hp.2 (T.setVm vm₁) hT hW₁⟩)
  dsimp only [Pt.U, Pt.locs, Pt.cells, Pt.slots] at X' e1 e2 h1 h2 h3 st
  subst h1; subst h2; subst h3
  exact ⟨v, (T.setVm vm₁).calling g' mk As.toArray, t, U', L, hT, X', hL, e1, e2, hq, st⟩
/-- a thing of a world lies in the heap -/
theorem vx_lt {D : va_G} {cl : List vw_C} {ws : va_W} {H1 : Heap} (h : va_P D cl ws H1) {k : Nat} {q : Nat × va_E} (hk : ws[k]? = some q) : q.1 < H1.size := (h k q hk).lt
end VXS
/-! ===== END ===== -/
/-! ===== BEGIN methods with a table of their own: called by a name, returning or throwing ===== -/
section VXH
/-! vx_backW, vx_callVX, vx_callSX, vx_callVW, vx_runVW, vx_runVX, vx_runSX, vx_ofWH follow the same proofs as their sisters above (Free/Laws.lean, Shelf42/LK1.lean); vx_outP calls Shelf42/NT130.lean (outThrough). -/
section
variable {l : Launch} {R : Room} {p : Program} {e : Env} {below : List Frame} {s : State} {sargs : Array Value} {y : MethodName} {len W9 : Nat}
theorem vx_backW {ws : List Cond} {rm : Room} {Pc : Array Value → State → Prop} {Qc : Array Value → State → Outcome → State → Prop} {XC : String → State → State → Prop} {mc ms : Nat} {free : Addr → Prop} {bytes : ByteArray} {maxL : Nat} {ret : Option FieldType} {hh : List (Nat × Nat × Nat × Nat)}
    (hM : vx_Met l y ws rm Pc Qc XC mc ms free) (hblind : FrameBlind Pc) (hrc : rm.cells = mc) (hrs : rm.slots = ms)
    (hframes : rm.frames + 1 ≤ R.frames) (hlocals : W9 + (maxL + 11) + rm.locals ≤ R.locals)
    (hws : ∀ w ∈ ws, ∀ a' U, s.WarmedH U.vm → w.before a' U = true) (hcode : Cond.codeWith y bytes maxL ret hh ∈ ws) (hinit : ∀ a' U, s.WarmedH U.vm → (Cond.initialized y.cls).before a' U = true) :
    vx_Back l R p e below s sargs y len W9 (PreOf R mc ms Pc) (PostOf Qc mc ms free) (vx_Post XC mc ms free) := by
  intro m meth c A g ig mk a X hg hsize hdg hW hn hp
  have h1 : (headSpec ws rm).pre.before a A.U = true := atoms_intro fun w hw => hws w hw _ _ X.warmed
  have h2 : (Cond.codeWith y bytes maxL ret hh).before a A.U = true := hws _ hcode _ _ X.warmed
  have h3 : (Cond.initialized y.cls).before a A.U = true := hinit _ _ X.warmed
  have h4 : A.cells + (headSpec ws rm).room.cells ≤ R.cells := by rw [show (headSpec ws rm).room.cells = mc from hrc]; exact hp.1
  have h5 : A.slots + (headSpec ws rm).room.slots ≤ R.slots := by rw [show (headSpec ws rm).room.slots = ms from hrs]; exact hp.2.1
  have hPc : Pc a (A.U.calling g mk a) := hblind _ _ _ _ hp.2.2
  obtain ⟨U, Ls, c0, s0⟩ := A
  dsimp only [Pt.U, Pt.locs, Pt.cells, Pt.slots] at h1 h2 h3 h4 h5 X hn hPc ⊢
  obtain ⟨m9, methY, cY, hn9, hmY, hcY, -, hlY, -⟩ := Cond.codeWith_spec h2
  cases Option.some.inj (hn9.symm.trans hn)
  obtain ⟨kY, hkY, -⟩ := className_of_methodNamed hn
  have hinitY : kY.init = .initialized := Cond.initialized_spec (findClass_of_methodNamed hn) hkY h3
  have h : At U g.method c below := by rw [hg]; exact X.here
  have hlocals9 : W9 + (maxL + 11) + (headSpec ws rm).room.locals ≤ R.locals := hlocals
  have happ : (headSpec ws rm).appliesLoose y e.platform (U.calling g mk a) = true :=
    Spec.appliesLoose_calling (g := g) h hdg hn hkY hinitY
      (X.room_calling (g := g) (R' := (headSpec ws rm).room) hsize hmY hcY hframes (by rw [hlY]; omega) h4 h5) h1
  obtain ⟨mid, hmid⟩ := h.above
  have hfr : (U.setTop g).frames = (.java g :: mid) ++ below := by rw [State.frames_setTop' g h.top, hmid]; rfl
  obtain ⟨o, s₂, hsteps, -, hend, hq⟩ := Steps.callFree hM p X.admits X.cas X.clock (acts := []) hfr happ hPc trivial
  have hq' : vx_Q Qc XC mc ms free a (U.calling g mk a) o s₂ := hq
  rw [State.frames_setTop' g h.top] at hend
  obtain ⟨g₀, hg0⟩ := Option.isSome_iff_exists.mp h.top
  obtain ⟨r, hr⟩ := State.topJava?_eq_some.mp hg0
  have hr' : (({ U with heap := s₂.heap, slotsUsed := s₂.slotsUsed } : State).setVm s₂.vm).frames = .java g₀ :: r := hr
  rcases hq' with ⟨hqc, L, hfe, hL⟩ | ⟨q, rfl, E, ce, L, hx, hce, hcv, hcl, hW₂, hsm, hL⟩
  · obtain ⟨⟨v, rfl⟩, hW₂, e2, q2, q3, q4, q5, q6⟩ := id hfe
    have e3 : s₂ = ({ (U.calling g mk a).setFrames s₂.frames with heap := s₂.heap, slotsUsed := s₂.slotsUsed } : State).setVm s₂.vm := by
      have : s₂ = ({ s₂ with vm := (U.calling g mk a).vm } : State).setVm s₂.vm := rfl
      rw [e2] at this
      exact this
    obtain ⟨c₂, i₂, len₂, hc₂, hd₂, hf₂⟩ := hend
    have hW' : U.WarmedH s₂.vm := hW₂
    have hcc : c₂ = c := by
      have h1 : s₂.code? g.method = U.code? g.method := by
        rw [State.code?_eq, State.code?_eq, hW'.alike.method?]
      exact Option.some.inj (hc₂.symm.trans (h1.trans h.code))
    subst hcc
    have hlen : len₂ = len := by rw [hdg] at hd₂; cases hd₂; rfl
    subst hlen
    have hs₂ : s₂ = (({ U with heap := s₂.heap, slotsUsed := s₂.slotsUsed } : State).setVm s₂.vm).setTop { g with pc := g.pc + len₂, stack := v.toList ++ g.stack } := by
      refine e3.trans ?_
      rw [hf₂, State.calling_eq h.top, State.setFrames_setFrames, State.setTop_of_frames _ hr', hr]
      rfl
    have hsame : U.sameButNew ({ U with heap := s₂.heap, slotsUsed := s₂.slotsUsed } : State) L mc ms := by
      refine ⟨?_, q2, q3, q4, q5, q6⟩
      obtain ⟨t, ht, -⟩ := State.frames_cons hr
      show ({ U with heap := s₂.heap, slotsUsed := s₂.slotsUsed } : State) = { U.setFrames U.frames with heap := s₂.heap, slotsUsed := s₂.slotsUsed }
      rw [State.setFrames_self ht]
    subst hg
    refine Or.inl ⟨v, ⟨(({ U with heap := s₂.heap, slotsUsed := s₂.slotsUsed } : State).setVm s₂.vm), Ls ++ L, c0 + mc, s0 + ms⟩,
      ⟨X.admits, X.cas, X.clock, X.frames, X.room, X.hears, X.method, X.code, (X.here.setHeapUsed s₂.heap s₂.slotsUsed).setVm hW'.alike, X.tail, State.WarmedH.trans X.warmed hW', X.limits, X.bytes, X.same.trans (hsame.setVm s.vm)⟩,
      ⟨g, mk, s₂, L, rfl, rfl, hqc, rfl, hL, rfl, rfl⟩, ?_⟩
    show Steps p.tables e below _ ((({ U with heap := s₂.heap, slotsUsed := s₂.slotsUsed } : State).setVm s₂.vm).setTop { g with pc := g.pc + len₂, stack := v.toList ++ g.stack })
    rw [← hs₂]
    exact hsteps
  · obtain ⟨e2, q2, q3, q4, q5, q6⟩ := id hsm
    have e3 : s₂ = ({ (U.calling g mk a).setFrames s₂.frames with heap := s₂.heap, slotsUsed := s₂.slotsUsed } : State).setVm s₂.vm := by
      have : s₂ = ({ s₂ with vm := (U.calling g mk a).vm } : State).setVm s₂.vm := rfl
      rw [e2] at this
      exact this
    have hf₂ : s₂.frames = .throwing q :: .java g :: U.frames.tail := hend
    have hW' : U.WarmedH s₂.vm := hW₂
    have hs₂ : s₂ = ((({ U with heap := s₂.heap, slotsUsed := s₂.slotsUsed } : State).setVm s₂.vm).setTop g).pushFrame (.throwing q) := by
      refine e3.trans ?_
      rw [hf₂, State.calling_eq h.top, State.setFrames_setFrames, State.pushFrame, State.frames_setTop _ hr', State.setTop_of_frames _ hr', State.setFrames_setFrames, hr]
      rfl
    have hsame : U.sameButNew ({ U with heap := s₂.heap, slotsUsed := s₂.slotsUsed } : State) L mc ms := by
      refine ⟨?_, q2, q3, q4, q5, q6⟩
      obtain ⟨t, ht, -⟩ := State.frames_cons hr
      show ({ U with heap := s₂.heap, slotsUsed := s₂.slotsUsed } : State) = { U.setFrames U.frames with heap := s₂.heap, slotsUsed := s₂.slotsUsed }
      rw [State.setFrames_self ht]
    subst hg
    refine Or.inr ⟨q, ⟨(({ U with heap := s₂.heap, slotsUsed := s₂.slotsUsed } : State).setVm s₂.vm), Ls ++ L, c0 + mc, s0 + ms⟩,
      ⟨X.admits, X.cas, X.clock, X.frames, X.room, X.hears, X.method, X.code, (X.here.setHeapUsed s₂.heap s₂.slotsUsed).setVm hW'.alike, X.tail, State.WarmedH.trans X.warmed hW', X.limits, X.bytes, X.same.trans (hsame.setVm s.vm)⟩,
      ⟨g, mk, s₂, L, E, ce, rfl, rfl, hx, hce, hcv, hcl, rfl, hL, rfl, rfl⟩, ?_⟩
    show Steps p.tables e below _ (((({ U with heap := s₂.heap, slotsUsed := s₂.slotsUsed } : State).setVm s₂.vm).setTop g).pushFrame (.throwing q))
    rw [← hs₂]
    exact hsteps
end
variable {p : Program} {l : Launch} {e : Env} {R : Room} {s : State} {m : MethodId} {args : Array Value} {below : List Frame} {meth : Method} {c : Code} {T : State} {H : Heap} {locs : List Loc} {cells slots : Nat}
theorem vx_callVX (X : Stand p l e R s m args below meth c T locs cells slots) (hexec : p.tables.exec = Jvm.exec) {own C : String} {index : Nat} {y : MethodName} {bytes : ByteArray} {maxL : Nat} {ret : Option FieldType} {hh : List (Nat × Nat × Nat × Nat)}
    (hown : s.vm.findClass own = some m.cls) (hlink : (Cond.methodLink own index y).before args s = true) (hinst : (Cond.instanceMethod y).before args s = true) (hsel : (Cond.selects C y y).before args s = true)
    (hcode : (Cond.codeWith y bytes maxL ret hh).before args s = true) (hy : y.cls ≠ "java/lang/invoke/MethodHandle" ∧ y.cls ≠ "java/lang/invoke/VarHandle")
    {W9 : Nat} {Pre : Pt → Array Value → Prop} {Post : Pt → Array Value → Option Value → Pt → Prop} {PostX : Pt → Array Value → Addr → Pt → Prop} (hK : vx_Back l R p e below s args y 3 W9 Pre Post PostX)
    {b : Addr} {cellB : Cell} (hcell : T.heap[b]? = some cellB) (hobj : cellB.vm.isStatics = false) (hcls : s.vm.findClass C = some cellB.cls)
    {g : JFrame} (hg : g.method = m) (hsize : g.locals.size = c.maxLocals) {argsL rest : List Value} (hlen : ∀ sig, parseMethodDescriptor y.desc = some sig → argsL.length = sig.parameters.length)
    (hstack : g.stack = argsL.reverse ++ .ref b :: rest) (hW : 2 * g.monitorRoom + (rest.map fun v => v.category).sum ≤ W9) (hdg : decode c.code g.pc = .ok (.invokevirtual index, 3))
    (hpre : ∀ vm₁, s.WarmedH vm₁ → Pre ⟨T.setVm vm₁, locs, cells, slots⟩ (Value.ref b :: argsL).toArray) :
    (∃ (v : Option Value) (vm₁ : Vm) (B : Pt), s.WarmedH vm₁ ∧ Stand p l e R s m args below meth c B.U B.locs B.cells B.slots ∧ Post ⟨T.setVm vm₁, locs, cells, slots⟩ (Value.ref b :: argsL).toArray v B ∧
      ∀ target, Steps p.tables e below (B.U.setTop { g with pc := g.pc + 3, stack := v.toList ++ rest }) target → Steps p.tables e below (T.setTop g) target) ∨
    (∃ (q : Addr) (vm₁ : Vm) (B : Pt), s.WarmedH vm₁ ∧ Stand p l e R s m args below meth c B.U B.locs B.cells B.slots ∧ PostX ⟨T.setVm vm₁, locs, cells, slots⟩ (Value.ref b :: argsL).toArray q B ∧
      Steps p.tables e below (T.setTop g) ((B.U.setTop { g with stack := rest }).pushFrame (.throwing q))) := by
  obtain ⟨mk, methM, hnamed, hmethM, hstM, habM⟩ := Cond.instanceMethod_spec hinst
  obtain ⟨m8, methM', cM, hn8, hmethM', -, -, -, -, -, -, hsigM⟩ := Cond.codeWith_spec hcode
  cases Option.some.inj (hn8.symm.trans hnamed)
  cases hmethM.symm.trans hmethM'
  obtain ⟨c2, r2, m2, q1, q2, q3, q4, kP, hkP, hkPi⟩ := Cond.selects_spec hsel
  cases hcls.symm.trans q1
  cases (State.methodFound?_of_named hnamed hy).symm.trans q2
  cases hnamed.symm.trans q3
  have hselP : selectMethod e.platform s.vm cellB.cls mk = .method mk := by rw [Launch.admits_selectMethod X.admits]; exact q4
  obtain ⟨vm₁, X₁, hstep₁⟩ := X.invokevirtual hexec hown hlink hnamed hmethM hstM hkP hkPi hy (a := b) (cell := cellB) hcell
    (fun z h => by rw [h] at hobj; cases hobj) hselP hmethM habM hkP hkPi (g := g) hg (argsL := argsL) (rest := rest) (hlen _ hsigM) hstack hdg
  rcases hK m meth c ⟨T.setVm vm₁, locs, cells, slots⟩ { g with stack := rest } (.invokevirtual index) mk (Value.ref b :: argsL).toArray X₁ hg hsize hdg hW (X₁.named hnamed) (hpre vm₁ X₁.warmed) with ⟨v, B, X', hpost, hsteps⟩ | ⟨q, B, X', hpost, hsteps⟩
  · exact Or.inl ⟨v, vm₁, B, X₁.warmed, X', hpost, fun target h => hstep₁ _ fun acts => by rw [doInvoke_state]; exact hsteps.trans h⟩
  · exact Or.inr ⟨q, vm₁, B, X₁.warmed, X', hpost, hstep₁ _ fun acts => by rw [doInvoke_state]; exact hsteps⟩
theorem vx_callSX (X : Stand p l e R s m args below meth c T locs cells slots) (hexec : p.tables.exec = Jvm.exec) {own : String} {index : Nat} {y : MethodName} {bytes : ByteArray} {maxL : Nat} {ret : Option FieldType} {hh : List (Nat × Nat × Nat × Nat)}
    (hown : s.vm.findClass own = some m.cls) (hlink : (Cond.methodLink own index y).before args s = true) (hstat : (Cond.static y).before args s = true) (hinit : (Cond.initialized y.cls).before args s = true)
    (hcode : (Cond.codeWith y bytes maxL ret hh).before args s = true) (hy : y.cls ≠ "java/lang/invoke/MethodHandle" ∧ y.cls ≠ "java/lang/invoke/VarHandle")
    {W9 : Nat} {Pre : Pt → Array Value → Prop} {Post : Pt → Array Value → Option Value → Pt → Prop} {PostX : Pt → Array Value → Addr → Pt → Prop} (hK : vx_Back l R p e below s args y 3 W9 Pre Post PostX)
    {g : JFrame} (hg : g.method = m) (hsize : g.locals.size = c.maxLocals) {argsL rest : List Value} (hlen : ∀ sig, parseMethodDescriptor y.desc = some sig → argsL.length = sig.parameters.length)
    (hstack : g.stack = argsL.reverse ++ rest) (hW : 2 * g.monitorRoom + (rest.map fun v => v.category).sum ≤ W9) (hdg : decode c.code g.pc = .ok (.invokestatic index, 3))
    (hpre : ∀ vm₁, s.WarmedH vm₁ → Pre ⟨T.setVm vm₁, locs, cells, slots⟩ argsL.toArray) :
    (∃ (v : Option Value) (vm₁ : Vm) (B : Pt), s.WarmedH vm₁ ∧ Stand p l e R s m args below meth c B.U B.locs B.cells B.slots ∧ Post ⟨T.setVm vm₁, locs, cells, slots⟩ argsL.toArray v B ∧
      ∀ target, Steps p.tables e below (B.U.setTop { g with pc := g.pc + 3, stack := v.toList ++ rest }) target → Steps p.tables e below (T.setTop g) target) ∨
    (∃ (q : Addr) (vm₁ : Vm) (B : Pt), s.WarmedH vm₁ ∧ Stand p l e R s m args below meth c B.U B.locs B.cells B.slots ∧ PostX ⟨T.setVm vm₁, locs, cells, slots⟩ argsL.toArray q B ∧
      Steps p.tables e below (T.setTop g) ((B.U.setTop { g with stack := rest }).pushFrame (.throwing q))) := by
  obtain ⟨mk, methM, cM, hnamed, hmethM, -, -, -, -, -, -, hsigM⟩ := Cond.codeWith_spec hcode
  have hstatic : methM.isStatic = true := Cond.static_spec hnamed hmethM hstat
  obtain ⟨kP, hkP, -⟩ := className_of_methodNamed hnamed
  have hinitP : kP.init = .initialized := Cond.initialized_spec (findClass_of_methodNamed hnamed) hkP hinit
  obtain ⟨vm₁, X₁, hstep₁⟩ := X.invokestatic hexec hown hlink hnamed hmethM hstatic hkP hinitP hy (g := g) hg (argsL := argsL) (rest := rest) (hlen _ hsigM) hstack hdg
  rcases hK m meth c ⟨T.setVm vm₁, locs, cells, slots⟩ { g with stack := rest } (.invokestatic index) mk argsL.toArray X₁ hg hsize hdg hW (X₁.named hnamed) (hpre vm₁ X₁.warmed) with ⟨v, B, X', hpost, hsteps⟩ | ⟨q, B, X', hpost, hsteps⟩
  · exact Or.inl ⟨v, vm₁, B, X₁.warmed, X', hpost, fun target h => hstep₁ _ fun acts => by rw [doInvoke_state]; exact hsteps.trans h⟩
  · exact Or.inr ⟨q, vm₁, B, X₁.warmed, X', hpost, hstep₁ _ fun acts => by rw [doInvoke_state]; exact hsteps⟩
theorem vx_callVW (X : Stand p l e R s m args below meth c T locs cells slots) (hexec : p.tables.exec = Jvm.exec) {own C : String} {index : Nat} {y : MethodName} {bytes : ByteArray} {maxL : Nat} {ret : Option FieldType} {hh : List (Nat × Nat × Nat × Nat)}
    (hown : s.vm.findClass own = some m.cls) (hlink : (Cond.methodLink own index y).before args s = true) (hinst : (Cond.instanceMethod y).before args s = true) (hsel : (Cond.selects C y y).before args s = true)
    (hcode : (Cond.codeWith y bytes maxL ret hh).before args s = true) (hy : y.cls ≠ "java/lang/invoke/MethodHandle" ∧ y.cls ≠ "java/lang/invoke/VarHandle")
    {W9 : Nat} {Pre : Pt → Array Value → Prop} {Post : Pt → Array Value → Option Value → Pt → Prop} (hK : Back l R p e below s args y 3 W9 Pre Post)
    {b : Addr} {cellB : Cell} (hcell : T.heap[b]? = some cellB) (hobj : cellB.vm.isStatics = false) (hcls : s.vm.findClass C = some cellB.cls)
    {g : JFrame} (hg : g.method = m) (hsize : g.locals.size = c.maxLocals) {argsL rest : List Value} (hlen : ∀ sig, parseMethodDescriptor y.desc = some sig → argsL.length = sig.parameters.length)
    (hstack : g.stack = argsL.reverse ++ .ref b :: rest) (hW : 2 * g.monitorRoom + (rest.map fun v => v.category).sum ≤ W9) (hdg : decode c.code g.pc = .ok (.invokevirtual index, 3))
    (hpre : ∀ vm₁, s.WarmedH vm₁ → Pre ⟨T.setVm vm₁, locs, cells, slots⟩ (Value.ref b :: argsL).toArray) :
    ∃ (v : Option Value) (vm₁ : Vm) (B : Pt), s.WarmedH vm₁ ∧ Stand p l e R s m args below meth c B.U B.locs B.cells B.slots ∧ Post ⟨T.setVm vm₁, locs, cells, slots⟩ (Value.ref b :: argsL).toArray v B ∧
      ∀ target, Steps p.tables e below (B.U.setTop { g with pc := g.pc + 3, stack := v.toList ++ rest }) target → Steps p.tables e below (T.setTop g) target := by
  obtain ⟨mk, methM, hnamed, hmethM, hstM, habM⟩ := Cond.instanceMethod_spec hinst
  obtain ⟨m8, methM', cM, hn8, hmethM', -, -, -, -, -, -, hsigM⟩ := Cond.codeWith_spec hcode
  cases Option.some.inj (hn8.symm.trans hnamed)
  cases hmethM.symm.trans hmethM'
  obtain ⟨c2, r2, m2, q1, q2, q3, q4, kP, hkP, hkPi⟩ := Cond.selects_spec hsel
  cases hcls.symm.trans q1
  cases (State.methodFound?_of_named hnamed hy).symm.trans q2
  cases hnamed.symm.trans q3
  have hselP : selectMethod e.platform s.vm cellB.cls mk = .method mk := by rw [Launch.admits_selectMethod X.admits]; exact q4
  obtain ⟨vm₁, X₁, hstep₁⟩ := X.invokevirtual hexec hown hlink hnamed hmethM hstM hkP hkPi hy (a := b) (cell := cellB) hcell
    (fun z h => by rw [h] at hobj; cases hobj) hselP hmethM habM hkP hkPi (g := g) hg (argsL := argsL) (rest := rest) (hlen _ hsigM) hstack hdg
  obtain ⟨v, B, X', hpost, hsteps⟩ := hK m meth c ⟨T.setVm vm₁, locs, cells, slots⟩ { g with stack := rest } (.invokevirtual index) mk (Value.ref b :: argsL).toArray X₁ hg hsize hdg hW (X₁.named hnamed) (hpre vm₁ X₁.warmed)
  exact ⟨v, vm₁, B, X₁.warmed, X', hpost, fun target h => hstep₁ _ fun acts => by rw [doInvoke_state]; exact hsteps.trans h⟩
abbrev vx_CVW (R : Room) (s : State) (args : Array Value) (own C : String) (index : Nat) (y : MethodName) (bytes : ByteArray) (maxL : Nat) (ret : Option FieldType) (hh : List (Nat × Nat × Nat × Nat)) (ws : List Cond) (rm : Room) (mc ms n : Nat) : Prop :=
  (rm.cells = mc ∧ rm.slots = ms ∧ rm.frames + 1 ≤ R.frames ∧ 8 + (maxL + 11) + rm.locals ≤ R.locals ∧ (∀ w ∈ ws, ∀ (a' : Array Value) (U : State), s.WarmedH U.vm → w.before a' U = true) ∧ Cond.codeWith y bytes maxL ret hh ∈ ws) ∧
  (Cond.codeWith y bytes maxL ret hh).before args s = true ∧ (Cond.initialized y.cls).before args s = true ∧ (y.cls ≠ "java/lang/invoke/MethodHandle" ∧ y.cls ≠ "java/lang/invoke/VarHandle") ∧
  (∀ sig, parseMethodDescriptor y.desc = some sig → n = sig.parameters.length) ∧ (Cond.methodLink own index y).before args s = true ∧ (Cond.instanceMethod y).before args s = true ∧ (Cond.selects C y y).before args s = true
theorem vx_cwVW {own C : String} {index maxL mc ms : Nat} {y : MethodName} {bytes : ByteArray} {ret : Option FieldType} {hh : List (Nat × Nat × Nat × Nat)} {Ts ws ws' : List Cond} {rm : Room} (n : Nat) (ht : ∀ w ∈ Ts, w.before args s = true) (hT : GoodIn Ts (wsV own index C y ws)) (hw : ws = Cond.codeWith y bytes maxL ret hh :: ws') (hrc : rm.cells = mc) (hrs : rm.slots = ms)
    (hd : y.cls = C ∧ y.cls ≠ "java/lang/invoke/MethodHandle" ∧ y.cls ≠ "java/lang/invoke/VarHandle" ∧ (parseMethodDescriptor y.desc).map (fun d => d.parameters.length) = some n) (hR : rm.frames + 1 ≤ R.frames ∧ 8 + (maxL + 11) + rm.locals ≤ R.locals) :
    vx_CVW R s args own C index y bytes maxL ret hh ws rm mc ms n := by
  obtain ⟨hC, hd⟩ := hd
  subst hC
  have ok : ∀ w ∈ wsV own index y.cls y ws, w.before args s = true := fun w h => ht w (hT w h).1
  have hG : GoodIn Ts ws := fun w h => hT w (by unfold wsV; exact List.mem_append_right _ h)
  have hc : Cond.codeWith y bytes maxL ret hh ∈ ws := by rw [hw]; exact List.mem_cons_self
  refine ⟨⟨hrc, hrs, hR.1, hR.2, pay_in ht hG, hc⟩, ht _ (hG _ hc).1, ok _ (by simp [wsV]), ⟨hd.1, hd.2.1⟩, fun sig h => ?_, ok _ (by simp [wsV]), ok _ (by simp [wsV]), ok _ (by simp [wsV])⟩
  have h2 := hd.2.2
  rw [h] at h2
  exact (Option.some.inj h2).symm
theorem vx_runVW {y : MethodName} {bytes cc : ByteArray} {maxL nL mc ms n index : Nat} {ret : Option FieldType} {hh : List (Nat × Nat × Nat × Nat)} {ws : List Cond} {rm : Room} {Pc : Array Value → State → Prop} {Qc : Array Value → State → Outcome → State → Prop} {free : Addr → Prop} {Ts : List Cond} {own C : String} {b : Addr} {As rest : List Value} {g : JFrame}
    (S : CallFix p m c cc nL s args Ts own) (hM : Met l y ws rm Pc Qc mc ms free) (cw : vx_CVW R s args own C index y bytes maxL ret hh ws rm mc ms n) (hp : PreV s H C b Pc As)
    (hg : g.method = m) (hn : As.length = n) (hsize : g.locals.size = nL) (hstack : g.stack = As.reverse ++ .ref b :: rest) (hW : 2 * g.monitorRoom + (rest.map fun v => v.category).sum ≤ 8) (hdg : decode cc g.pc = .ok (.invokevirtual index, 3)) (hf : cells + mc ≤ R.cells ∧ slots + ms ≤ R.slots) :
    va_Run p l e R s m args below meth c H locs cells slots mc ms g rest (Qc (Value.ref b :: As).toArray) free := by
  obtain ⟨⟨hrc, hrs, hfr, hlo, hws, hcw⟩, hcode, hini, hy, hlen, hl, hin, hse⟩ := cw
  have hK : Back l R p e below s args y 3 8 (PreOf R mc ms Pc) (PostOf Qc mc ms free) := va_backW (hh := hh) (bytes := bytes) (maxL := maxL) (ret := ret) hM hp.1 hrc hrs hfr hlo hws hcw (fun a' U hW => word_at hW (Or.inl (by first | rfl | simp [Cond.onTables, Cond.keeps, Cond.steady])) hini)
  obtain ⟨hx, hb, hml, ho, -⟩ := S
  obtain ⟨-, ⟨cellB, hcB, hoB, hclB⟩, hPc⟩ := hp
  intro T hT X
  obtain ⟨v, vm₁, ⟨U', l2, c2, s2⟩, hW₁, X', ⟨g', mk, t, L, e1, e2, hq, h1, hL, h2, h3⟩, st⟩ := vx_callVW X hx (C := C) (hh := hh) (bytes := bytes) (maxL := maxL) (ret := ret) ho hl hin hse hcode hy hK (by rw [hT]; exact hcB) hoB hclB hg (hsize.trans hml.symm) (argsL := As) (rest := rest) (fun sig h => hn.trans (hlen sig h)) hstack hW (by rw [hb]; exact hdg)
    (fun vm₁ hW₁ => ⟨hf.1, hf.2, hPc (T.setVm vm₁) hT hW₁⟩)
  dsimp only [Pt.U, Pt.locs, Pt.cells, Pt.slots] at X' e1 e2 h1 h2 h3 st
  subst h1; subst h2; subst h3
  exact ⟨v, (T.setVm vm₁).calling g' mk (Value.ref b :: As).toArray, t, U', L, hT, X', hL, e1, e2, hq, st⟩
section
variable {y : MethodName} {bytes cc : ByteArray} {maxL nL mc ms n index : Nat} {ret : Option FieldType} {ws : List Cond} {rm : Room} {Pc : Array Value → State → Prop} {Qc : Array Value → State → Outcome → State → Prop} {XC : String → State → State → Prop} {free : Addr → Prop} {Ts : List Cond} {own C : String} {b : Addr} {As rest : List Value} {g : JFrame}
theorem vx_runVX {hh : List (Nat × Nat × Nat × Nat)} (S : CallFix p m c cc nL s args Ts own) (hM : vx_Met l y ws rm Pc Qc XC mc ms free) (cw : vx_CVW R s args own C index y bytes maxL ret hh ws rm mc ms n) (hp : PreV s H C b Pc As)
    (hg : g.method = m) (hn : As.length = n) (hsize : g.locals.size = nL) (hstack : g.stack = As.reverse ++ .ref b :: rest) (hW : 2 * g.monitorRoom + (rest.map fun v => v.category).sum ≤ 8) (hdg : decode cc g.pc = .ok (.invokevirtual index, 3)) (hf : cells + mc ≤ R.cells ∧ slots + ms ≤ R.slots) :
    vx_Run p l e R s m args below meth c H locs cells slots mc ms g rest (Qc (Value.ref b :: As).toArray) XC free := by
  obtain ⟨⟨hrc, hrs, hfr, hlo, hws, hcw⟩, hcode, hini, hy, hlen, hl, hin, hse⟩ := cw
  have hK : vx_Back l R p e below s args y 3 8 (PreOf R mc ms Pc) (PostOf Qc mc ms free) (vx_Post XC mc ms free) := vx_backW (hh := hh) (bytes := bytes) (maxL := maxL) (ret := ret) hM hp.1 hrc hrs hfr hlo hws hcw (fun a' U hW => word_at hW (Or.inl (by first | rfl | simp [Cond.onTables, Cond.keeps, Cond.steady])) hini)
  obtain ⟨hx, hb, hml, ho, -⟩ := S
  obtain ⟨-, ⟨cellB, hcB, hoB, hclB⟩, hPc⟩ := hp
  intro T hT X
  rcases vx_callVX X hx (C := C) (hh := hh) (bytes := bytes) (maxL := maxL) (ret := ret) ho hl hin hse hcode hy hK (by rw [hT]; exact hcB) hoB hclB hg (hsize.trans hml.symm) (argsL := As) (rest := rest) (fun sig h => hn.trans (hlen sig h)) hstack hW (by rw [hb]; exact hdg)
    (fun vm₁ hW₁ => ⟨hf.1, hf.2, hPc (T.setVm vm₁) hT hW₁⟩) with ⟨v, vm₁, ⟨U', l2, c2, s2⟩, hW₁, X', ⟨g', mk, t, L, e1, e2, hq, h1, hL, h2, h3⟩, st⟩ | ⟨q, vm₁, ⟨U', l2, c2, s2⟩, hW₁, X', ⟨g', mk, t, L, E, ce, e1, e2, hq, hce, hcv, hcl, h1, hL, h2, h3⟩, st⟩
  · dsimp only [Pt.U, Pt.locs, Pt.cells, Pt.slots] at X' e1 e2 h1 h2 h3 st
    subst h1; subst h2; subst h3
    exact Or.inl ⟨v, (T.setVm vm₁).calling g' mk (Value.ref b :: As).toArray, t, U', L, hT, X', hL, e1, e2, hq, st⟩
  · dsimp only [Pt.U, Pt.locs, Pt.cells, Pt.slots] at X' e1 e2 h1 h2 h3 st hcl
    subst h1; subst h2; subst h3
    exact Or.inr ⟨q, (T.setVm vm₁).calling g' mk (Value.ref b :: As).toArray, t, U', L, E, ce, hT, X', hL, e1, e2, hq, hce, hcv, vx_cls hW₁ hcl, st⟩
theorem vx_runSX {hh : List (Nat × Nat × Nat × Nat)} (S : CallFix p m c cc nL s args Ts own) (hM : vx_Met l y ws rm Pc Qc XC mc ms free) (cw : vx_CSW R s args own index y bytes maxL ret hh ws rm mc ms n) (hp : PreS s H Pc As)
    (hg : g.method = m) (hn : As.length = n) (hsize : g.locals.size = nL) (hstack : g.stack = As.reverse ++ rest) (hW : 2 * g.monitorRoom + (rest.map fun v => v.category).sum ≤ 8) (hdg : decode cc g.pc = .ok (.invokestatic index, 3)) (hf : cells + mc ≤ R.cells ∧ slots + ms ≤ R.slots) :
    vx_Run p l e R s m args below meth c H locs cells slots mc ms g rest (Qc As.toArray) XC free := by
  obtain ⟨⟨hrc, hrs, hfr, hlo, hws, hcw⟩, hcode, hini, hy, hlen, hl, hstt⟩ := cw
  have hK : vx_Back l R p e below s args y 3 8 (PreOf R mc ms Pc) (PostOf Qc mc ms free) (vx_Post XC mc ms free) := vx_backW (hh := hh) (bytes := bytes) (maxL := maxL) (ret := ret) hM hp.1 hrc hrs hfr hlo hws hcw (fun a' U hW => word_at hW (Or.inl (by first | rfl | simp [Cond.onTables, Cond.keeps, Cond.steady])) hini)
  obtain ⟨hx, hb, hml, ho, -⟩ := S
  intro T hT X
  rcases vx_callSX X hx (hh := hh) (bytes := bytes) (maxL := maxL) (ret := ret) ho hl hstt hini hcode hy hK hg (hsize.trans hml.symm) (argsL := As) (rest := rest) (fun sig h => hn.trans (hlen sig h)) hstack hW (by rw [hb]; exact hdg)
    (fun vm₁ hW₁ => ⟨hf.1, hf.2, hp.2 (T.setVm vm₁) hT hW₁⟩) with ⟨v, vm₁, ⟨U', l2, c2, s2⟩, hW₁, X', ⟨g', mk, t, L, e1, e2, hq, h1, hL, h2, h3⟩, st⟩ | ⟨q, vm₁, ⟨U', l2, c2, s2⟩, hW₁, X', ⟨g', mk, t, L, E, ce, e1, e2, hq, hce, hcv, hcl, h1, hL, h2, h3⟩, st⟩
  · dsimp only [Pt.U, Pt.locs, Pt.cells, Pt.slots] at X' e1 e2 h1 h2 h3 st
    subst h1; subst h2; subst h3
    exact Or.inl ⟨v, (T.setVm vm₁).calling g' mk As.toArray, t, U', L, hT, X', hL, e1, e2, hq, st⟩
  · dsimp only [Pt.U, Pt.locs, Pt.cells, Pt.slots] at X' e1 e2 h1 h2 h3 st hcl
    subst h1; subst h2; subst h3
    exact Or.inr ⟨q, (T.setVm vm₁).calling g' mk As.toArray, t, U', L, E, ce, hT, X', hL, e1, e2, hq, hce, hcv, vx_cls hW₁ hcl, st⟩
end
end VXH
theorem vx_ofWH {l : Launch} {y : MethodName} {ws ws' : List Cond} {rm : Room} {Pc : Array Value → State → Prop} {Qc : Array Value → State → Outcome → State → Prop} {XC : String → State → State → Prop} {mc ms : Nat} {free : Addr → Prop} {cc : ByteArray} {maxL : Nat} {ret : Option FieldType} {hh : List (Nat × Nat × Nat × Nat)}
    (hy : plainName y.cls = true) (hw : ws = Cond.codeWith y cc maxL ret hh :: ws')
    (body : ∀ p e s m args below meth c s₁, BodyLoose p l y (headSpec ws rm) cc maxL ret e s m args below meth c s₁ → c.maxLocals = maxL → Pc args s →
      W p l e (headSpec ws rm).room s m args below meth c s.heap [] 0 0 (vx_MQ below Qc XC args s mc ms free) (entryFrame m args maxL)) : vx_Met l y ws rm Pc Qc XC mc ms free := by
  refine MetFree.of_bodyS (code := cc) (maxLocals := maxL) (ret := ret) hy ?_ ?_
  · intro args s m h hn
    obtain ⟨m9, meth, c, hn9, h1, h2, h3, h4, -, h5, h6, -⟩ := Cond.codeWith_spec (atoms_spec (ws := ws) h _ (by rw [hw]; exact List.mem_cons_self))
    cases hn.symm.trans hn9
    exact ⟨meth, c, h1, h2, h3, h4, h5, h6⟩
  · intro p e s m args below meth c s₁ B hml hP _
    have hh0 : s₁.heap = s.heap := by rw [B.state]; rfl
    obtain ⟨t, a1, o, b1, b2, b3⟩ := body p e s m args below meth c s₁ B hml hP s₁ hh0 (Stand.of_body B)
    exact ⟨t, o, a1, b1, b2, b3⟩
/-! ===== END ===== -/
end
section
/-! ===== BEGIN printed: names, fields, word lists, decode rows ===== -/
def RX0 : String := "SheetObjects$Marks"
def TX0 : u_T := fun k => match k with
  | _ => ("", "", "", false)
def tyX0 : Nat → FieldType := fun k => match k with
  | _ => .int
abbrev wsX00 : List Cond := u_ws RX0 TX0 0
theorem nmX0 : ∀ a, a < 0 → ∀ b, b < 0 → a ≠ b → (TX0 a).2.1 ≠ (TX0 b).2.1 := by decide +kernel
theorem tyX0_ok : ∀ k, k < 0 → parseFieldDescriptor (TX0 k).2.2.1 = some (tyX0 k) := by decide +kernel
abbrev cX0_isWhite : ByteArray := prog_2_method_2_code
def yX0_isWhite : MethodName := ⟨RX0, "isWhite", "(I)Z"⟩
abbrev cX0_isRegular : ByteArray := prog_2_method_3_code
def yX0_isRegular : MethodName := ⟨RX0, "isRegular", "(I)Z"⟩
abbrev cX0_digitOf : ByteArray := prog_2_method_4_code
def yX0_digitOf : MethodName := ⟨RX0, "digitOf", "(I)I"⟩
abbrev cX0_octalOf : ByteArray := prog_2_method_5_code
def yX0_octalOf : MethodName := ⟨RX0, "octalOf", "(I)I"⟩
abbrev cX0_hexOf : ByteArray := prog_2_method_6_code
def yX0_hexOf : MethodName := ⟨RX0, "hexOf", "(I)I"⟩
def RX1 : String := "SheetObjects$Numeral"
def TX1 : u_T := fun k => match k with
  | 0 => ("SheetObjects$Numeral", "real", "Z", false)
  | _ => ("SheetObjects$Numeral", "amount", "I", false)
def tyX1 : Nat → FieldType := fun k => match k with
  | 0 => .boolean
  | _ => .int
abbrev wsX10 : List Cond := u_ws RX1 TX1 2
theorem nmX1 : ∀ a, a < 2 → ∀ b, b < 2 → a ≠ b → (TX1 a).2.1 ≠ (TX1 b).2.1 := by decide +kernel
theorem tyX1_ok : ∀ k, k < 2 → parseFieldDescriptor (TX1 k).2.2.1 = some (tyX1 k) := by decide +kernel
abbrev cX1_init : ByteArray := prog_3_method_1_code
def yX1_init : MethodName := ⟨RX1, "<init>", "()V"⟩
abbrev cX1_takes : ByteArray := prog_3_method_2_code
def yX1_takes : MethodName := ⟨RX1, "takes", "(LSheetObjects$Tape;II)Z"⟩
abbrev cX1_inParts : ByteArray := prog_3_method_3_code
def yX1_inParts : MethodName := ⟨RX1, "inParts", "(JJ)J"⟩
def RX2 : String := "SheetObjects$Page"
def TX2 : u_T := fun k => match k with
  | 0 => ("SheetObjects$Page", "store", "LSheetObjects$Store;", true)
  | 1 => ("SheetObjects$Page", "open", "[I", true)
  | 2 => ("SheetObjects$Page", "depth", "I", false)
  | 3 => ("SheetObjects$Page", "bytes", "[B", false)
  | 4 => ("SheetObjects$Page", "size", "I", false)
  | 5 => ("SheetObjects$Page", "next", "[B", false)
  | 6 => ("SheetObjects$Page", "nextSize", "I", false)
  | _ => ("SheetObjects$Page", "over", "Z", false)
def tyX2 : Nat → FieldType := fun k => match k with
  | 0 => .object "SheetObjects$Store"
  | 1 => .array .int
  | 2 => .int
  | 3 => .array .byte
  | 4 => .int
  | 5 => .array .byte
  | 6 => .int
  | _ => .boolean
abbrev wsX20 : List Cond := u_ws RX2 TX2 8
theorem nmX2 : ∀ a, a < 8 → ∀ b, b < 8 → a ≠ b → (TX2 a).2.1 ≠ (TX2 b).2.1 := by decide +kernel
theorem tyX2_ok : ∀ k, k < 8 → parseFieldDescriptor (TX2 k).2.2.1 = some (tyX2 k) := by decide +kernel
abbrev cX2_init : ByteArray := prog_4_method_1_code
def yX2_init : MethodName := ⟨RX2, "<init>", "(LSheetObjects$Store;)V"⟩
abbrev cX2_get : ByteArray := prog_4_method_2_code
def yX2_get : MethodName := ⟨RX2, "get", "(I)I"⟩
abbrev cX2_compose : ByteArray := prog_4_method_3_code
def yX2_compose : MethodName := ⟨RX2, "compose", "(I)I"⟩
abbrev cX2_addEndsBefore : ByteArray := prog_4_method_4_code
def yX2_addEndsBefore : MethodName := ⟨RX2, "addEndsBefore", "(I)V"⟩
abbrev cX2_addNode : ByteArray := prog_4_method_5_code
def yX2_addNode : MethodName := ⟨RX2, "addNode", "(I)V"⟩
abbrev cX2_addBegin : ByteArray := prog_4_method_6_code
def yX2_addBegin : MethodName := ⟨RX2, "addBegin", "(II)V"⟩
abbrev cX2_addBracket : ByteArray := prog_4_method_7_code
def yX2_addBracket : MethodName := ⟨RX2, "addBracket", "(I)V"⟩
abbrev cX2_addInteger : ByteArray := prog_4_method_8_code
def yX2_addInteger : MethodName := ⟨RX2, "addInteger", "(I)V"⟩
abbrev cX2_addReal : ByteArray := prog_4_method_9_code
def yX2_addReal : MethodName := ⟨RX2, "addReal", "(I)V"⟩
abbrev cX2_addSign : ByteArray := prog_4_method_10_code
def yX2_addSign : MethodName := ⟨RX2, "addSign", "(I)V"⟩
abbrev cX2_addDigits : ByteArray := prog_4_method_11_code
def yX2_addDigits : MethodName := ⟨RX2, "addDigits", "(I)V"⟩
abbrev cX2_addString : ByteArray := prog_4_method_12_code
def yX2_addString : MethodName := ⟨RX2, "addString", "(I)V"⟩
abbrev cX2_addName : ByteArray := prog_4_method_13_code
def yX2_addName : MethodName := ⟨RX2, "addName", "(I)V"⟩
abbrev cX2_addHex : ByteArray := prog_4_method_14_code
def yX2_addHex : MethodName := ⟨RX2, "addHex", "(I)V"⟩
abbrev cX2_hexDigit : ByteArray := prog_4_method_15_code
def yX2_hexDigit : MethodName := ⟨RX2, "hexDigit", "(I)I"⟩
abbrev cX2_addWord : ByteArray := prog_4_method_16_code
def yX2_addWord : MethodName := ⟨RX2, "addWord", "([B)V"⟩
abbrev cX2_beginToken : ByteArray := prog_4_method_17_code
def yX2_beginToken : MethodName := ⟨RX2, "beginToken", "()V"⟩
abbrev cX2_add : ByteArray := prog_4_method_18_code
def yX2_add : MethodName := ⟨RX2, "add", "(I)V"⟩
def RX3 : String := "SheetObjects$Reader"
def TX3 : u_T := fun k => match k with
  | 0 => ("SheetObjects$Reader", "tape", "LSheetObjects$Tape;", true)
  | 1 => ("SheetObjects$Reader", "store", "LSheetObjects$Store;", true)
  | 2 => ("SheetObjects$Reader", "tokens", "LSheetObjects$Tokens;", true)
  | 3 => ("SheetObjects$Reader", "numeral", "LSheetObjects$Numeral;", true)
  | 4 => ("SheetObjects$Reader", "open", "[I", true)
  | 5 => ("SheetObjects$Reader", "depth", "I", false)
  | 6 => ("SheetObjects$Reader", "keyDue", "Z", false)
  | 7 => ("SheetObjects$Reader", "nodesBefore", "I", false)
  | 8 => ("SheetObjects$Reader", "usedBefore", "I", false)
  | 9 => ("SheetObjects$Reader", "begun", "Z", false)
  | 10 => ("SheetObjects$Reader", "place", "I", false)
  | 11 => ("SheetObjects$Reader", "number", "I", false)
  | _ => ("SheetObjects$Reader", "generation", "I", false)
def tyX3 : Nat → FieldType := fun k => match k with
  | 0 => .object "SheetObjects$Tape"
  | 1 => .object "SheetObjects$Store"
  | 2 => .object "SheetObjects$Tokens"
  | 3 => .object "SheetObjects$Numeral"
  | 4 => .array .int
  | 5 => .int
  | 6 => .boolean
  | 7 => .int
  | 8 => .int
  | 9 => .boolean
  | 10 => .int
  | 11 => .int
  | _ => .int
abbrev wsX30 : List Cond := u_ws RX3 TX3 13
theorem nmX3 : ∀ a, a < 13 → ∀ b, b < 13 → a ≠ b → (TX3 a).2.1 ≠ (TX3 b).2.1 := by decide +kernel
theorem tyX3_ok : ∀ k, k < 13 → parseFieldDescriptor (TX3 k).2.2.1 = some (tyX3 k) := by decide +kernel
abbrev cX3_init : ByteArray := prog_5_method_1_code
def yX3_init : MethodName := ⟨RX3, "<init>", "(LSheetObjects$Tape;LSheetObjects$Store;)V"⟩
abbrev cX3_begin : ByteArray := prog_5_method_2_code
def yX3_begin : MethodName := ⟨RX3, "begin", "()V"⟩
abbrev cX3_settle : ByteArray := prog_5_method_3_code
def yX3_settle : MethodName := ⟨RX3, "settle", "(I)I"⟩
abbrev cX3_fail : ByteArray := prog_5_method_4_code
def yX3_fail : MethodName := ⟨RX3, "fail", "(I)I"⟩
abbrev cX3_takeHead : ByteArray := prog_5_method_5_code
def yX3_takeHead : MethodName := ⟨RX3, "takeHead", "(I)I"⟩
abbrev cX3_takeTail : ByteArray := prog_5_method_6_code
def yX3_takeTail : MethodName := ⟨RX3, "takeTail", "(I)I"⟩
abbrev cX3_takeObject : ByteArray := prog_5_method_7_code
def yX3_takeObject : MethodName := ⟨RX3, "takeObject", "(I)I"⟩
abbrev cX3_takeKey : ByteArray := prog_5_method_8_code
def yX3_takeKey : MethodName := ⟨RX3, "takeKey", "()I"⟩
abbrev cX3_takeToken : ByteArray := prog_5_method_9_code
def yX3_takeToken : MethodName := ⟨RX3, "takeToken", "()I"⟩
abbrev cX3_innermost : ByteArray := prog_5_method_10_code
def yX3_innermost : MethodName := ⟨RX3, "innermost", "()I"⟩
abbrev cX3_takeBegin : ByteArray := prog_5_method_11_code
def yX3_takeBegin : MethodName := ⟨RX3, "takeBegin", "(I)I"⟩
abbrev cX3_takeEnd : ByteArray := prog_5_method_12_code
def yX3_takeEnd : MethodName := ⟨RX3, "takeEnd", "()I"⟩
abbrev cX3_takeLeaf : ByteArray := prog_5_method_13_code
def yX3_takeLeaf : MethodName := ⟨RX3, "takeLeaf", "(III)I"⟩
abbrev cX3_countInParent : ByteArray := prog_5_method_14_code
def yX3_countInParent : MethodName := ⟨RX3, "countInParent", "()V"⟩
abbrev cX3_takeWord : ByteArray := prog_5_method_15_code
def yX3_takeWord : MethodName := ⟨RX3, "takeWord", "()I"⟩
abbrev cX3_seekReference : ByteArray := prog_5_method_16_code
def yX3_seekReference : MethodName := ⟨RX3, "seekReference", "()I"⟩
def RX4 : String := "SheetObjects$Store"
def TX4 : u_T := fun k => match k with
  | 0 => ("SheetObjects$Store", "kinds", "[B", true)
  | 1 => ("SheetObjects$Store", "values", "[I", true)
  | 2 => ("SheetObjects$Store", "extras", "[I", true)
  | 3 => ("SheetObjects$Store", "ends", "[I", true)
  | 4 => ("SheetObjects$Store", "starts", "[I", true)
  | 5 => ("SheetObjects$Store", "firsts", "[I", true)
  | 6 => ("SheetObjects$Store", "bytes", "[B", true)
  | 7 => ("SheetObjects$Store", "nodes", "I", false)
  | 8 => ("SheetObjects$Store", "used", "I", false)
  | 9 => ("SheetObjects$Store", "objects", "I", false)
  | _ => ("SheetObjects$Store", "drafted", "I", false)
def tyX4 : Nat → FieldType := fun k => match k with
  | 0 => .array .byte
  | 1 => .array .int
  | 2 => .array .int
  | 3 => .array .int
  | 4 => .array .int
  | 5 => .array .int
  | 6 => .array .byte
  | 7 => .int
  | 8 => .int
  | 9 => .int
  | _ => .int
abbrev wsX40 : List Cond := u_ws RX4 TX4 11
theorem nmX4 : ∀ a, a < 11 → ∀ b, b < 11 → a ≠ b → (TX4 a).2.1 ≠ (TX4 b).2.1 := by decide +kernel
theorem tyX4_ok : ∀ k, k < 11 → parseFieldDescriptor (TX4 k).2.2.1 = some (tyX4 k) := by decide +kernel
abbrev cX4_init : ByteArray := prog_6_method_1_code
def yX4_init : MethodName := ⟨RX4, "<init>", "()V"⟩
abbrev cX4_has : ByteArray := prog_6_method_2_code
def yX4_has : MethodName := ⟨RX4, "has", "(I)Z"⟩
abbrev cX4_kindOf : ByteArray := prog_6_method_3_code
def yX4_kindOf : MethodName := ⟨RX4, "kindOf", "(I)I"⟩
abbrev cX4_valueOf : ByteArray := prog_6_method_4_code
def yX4_valueOf : MethodName := ⟨RX4, "valueOf", "(I)I"⟩
abbrev cX4_extraOf : ByteArray := prog_6_method_5_code
def yX4_extraOf : MethodName := ⟨RX4, "extraOf", "(I)I"⟩
abbrev cX4_endOf : ByteArray := prog_6_method_6_code
def yX4_endOf : MethodName := ⟨RX4, "endOf", "(I)I"⟩
abbrev cX4_hasBytes : ByteArray := prog_6_method_7_code
def yX4_hasBytes : MethodName := ⟨RX4, "hasBytes", "(I)Z"⟩
abbrev cX4_byteOf : ByteArray := prog_6_method_8_code
def yX4_byteOf : MethodName := ⟨RX4, "byteOf", "(II)I"⟩
abbrev cX4_unwrap : ByteArray := prog_6_method_9_code
def yX4_unwrap : MethodName := ⟨RX4, "unwrap", "(I)I"⟩
abbrev cX4_clearDraft : ByteArray := prog_6_method_10_code
def yX4_clearDraft : MethodName := ⟨RX4, "clearDraft", "()V"⟩
abbrev cX4_draft : ByteArray := prog_6_method_11_code
def yX4_draft : MethodName := ⟨RX4, "draft", "(I)V"⟩
abbrev cX4_add : ByteArray := prog_6_method_12_code
def yX4_add : MethodName := ⟨RX4, "add", "(III)I"⟩
abbrev cX4_addPart : ByteArray := prog_6_method_13_code
def yX4_addPart : MethodName := ⟨RX4, "addPart", "(I)V"⟩
abbrev cX4_close : ByteArray := prog_6_method_14_code
def yX4_close : MethodName := ⟨RX4, "close", "(I)V"⟩
abbrev cX4_addObject : ByteArray := prog_6_method_15_code
def yX4_addObject : MethodName := ⟨RX4, "addObject", "(I)V"⟩
abbrev cX4_goBack : ByteArray := prog_6_method_16_code
def yX4_goBack : MethodName := ⟨RX4, "goBack", "(II)V"⟩
abbrev cX4_objectBeginningAt : ByteArray := prog_6_method_17_code
def yX4_objectBeginningAt : MethodName := ⟨RX4, "objectBeginningAt", "(I)I"⟩
abbrev cX4_keepObjects : ByteArray := prog_6_method_18_code
def yX4_keepObjects : MethodName := ⟨RX4, "keepObjects", "(I)I"⟩
abbrev cX4_partOf : ByteArray := prog_6_method_19_code
def yX4_partOf : MethodName := ⟨RX4, "partOf", "(II)I"⟩
abbrev cX4_sideOf : ByteArray := prog_6_method_20_code
def yX4_sideOf : MethodName := ⟨RX4, "sideOf", "(IIZ)I"⟩
abbrev cX4_lookUp : ByteArray := prog_6_method_21_code
def yX4_lookUp : MethodName := ⟨RX4, "lookUp", "(II)I"⟩
abbrev cX4_sameTree : ByteArray := prog_6_method_22_code
def yX4_sameTree : MethodName := ⟨RX4, "sameTree", "(II)Z"⟩
abbrev cX4_sameNode : ByteArray := prog_6_method_23_code
def yX4_sameNode : MethodName := ⟨RX4, "sameNode", "(II)Z"⟩
abbrev cX4_sameBytes : ByteArray := prog_6_method_24_code
def yX4_sameBytes : MethodName := ⟨RX4, "sameBytes", "(II)Z"⟩
def RX5 : String := "SheetObjects$Tape"
def TX5 : u_T := fun k => match k with
  | 0 => ("SheetObjects$Tape", "bytes", "[B", true)
  | _ => ("SheetObjects$Tape", "size", "I", false)
def tyX5 : Nat → FieldType := fun k => match k with
  | 0 => .array .byte
  | _ => .int
abbrev wsX50 : List Cond := u_ws RX5 TX5 2
theorem nmX5 : ∀ a, a < 2 → ∀ b, b < 2 → a ≠ b → (TX5 a).2.1 ≠ (TX5 b).2.1 := by decide +kernel
theorem tyX5_ok : ∀ k, k < 2 → parseFieldDescriptor (TX5 k).2.2.1 = some (tyX5 k) := by decide +kernel
abbrev cX5_init : ByteArray := prog_7_method_1_code
def yX5_init : MethodName := ⟨RX5, "<init>", "()V"⟩
abbrev cX5_get : ByteArray := prog_7_method_2_code
def yX5_get : MethodName := ⟨RX5, "get", "(I)I"⟩
abbrev cX5_addFour : ByteArray := prog_7_method_3_code
def yX5_addFour : MethodName := ⟨RX5, "addFour", "(I)V"⟩
abbrev cX5_addOne : ByteArray := prog_7_method_4_code
def yX5_addOne : MethodName := ⟨RX5, "addOne", "(I)V"⟩
abbrev cX5_change : ByteArray := prog_7_method_5_code
def yX5_change : MethodName := ⟨RX5, "change", "(II)I"⟩
abbrev cX5_shorten : ByteArray := prog_7_method_6_code
def yX5_shorten : MethodName := ⟨RX5, "shorten", "(I)I"⟩
abbrev cX5_become : ByteArray := prog_7_method_7_code
def yX5_become : MethodName := ⟨RX5, "become", "([BI)V"⟩
abbrev cX5_pastBlanks : ByteArray := prog_7_method_8_code
def yX5_pastBlanks : MethodName := ⟨RX5, "pastBlanks", "(I)I"⟩
abbrev cX5_pastWord : ByteArray := prog_7_method_9_code
def yX5_pastWord : MethodName := ⟨RX5, "pastWord", "(I)I"⟩
abbrev cX5_pastLine : ByteArray := prog_7_method_10_code
def yX5_pastLine : MethodName := ⟨RX5, "pastLine", "(I)I"⟩
abbrev cX5_isText : ByteArray := prog_7_method_11_code
def yX5_isText : MethodName := ⟨RX5, "isText", "(II[B)Z"⟩
abbrev cX5_indexIn : ByteArray := prog_7_method_12_code
def yX5_indexIn : MethodName := ⟨RX5, "indexIn", "(III)I"⟩
def RX6 : String := "SheetObjects$Tokens"
def TX6 : u_T := fun k => match k with
  | 0 => ("SheetObjects$Tokens", "tape", "LSheetObjects$Tape;", true)
  | 1 => ("SheetObjects$Tokens", "store", "LSheetObjects$Store;", true)
  | 2 => ("SheetObjects$Tokens", "type", "I", false)
  | 3 => ("SheetObjects$Tokens", "start", "I", false)
  | 4 => ("SheetObjects$Tokens", "past", "I", false)
  | _ => ("SheetObjects$Tokens", "flaw", "I", false)
def tyX6 : Nat → FieldType := fun k => match k with
  | 0 => .object "SheetObjects$Tape"
  | 1 => .object "SheetObjects$Store"
  | 2 => .int
  | 3 => .int
  | 4 => .int
  | _ => .int
abbrev wsX60 : List Cond := u_ws RX6 TX6 6
theorem nmX6 : ∀ a, a < 6 → ∀ b, b < 6 → a ≠ b → (TX6 a).2.1 ≠ (TX6 b).2.1 := by decide +kernel
theorem tyX6_ok : ∀ k, k < 6 → parseFieldDescriptor (TX6 k).2.2.1 = some (tyX6 k) := by decide +kernel
abbrev cX6_init : ByteArray := prog_8_method_1_code
def yX6_init : MethodName := ⟨RX6, "<init>", "(LSheetObjects$Tape;LSheetObjects$Store;)V"⟩
abbrev cX6_seekWord : ByteArray := prog_8_method_2_code
def yX6_seekWord : MethodName := ⟨RX6, "seekWord", "(I)V"⟩
abbrev cX6_isText : ByteArray := prog_8_method_3_code
def yX6_isText : MethodName := ⟨RX6, "isText", "([B)Z"⟩
abbrev cX6_indexUpTo : ByteArray := prog_8_method_4_code
def yX6_indexUpTo : MethodName := ⟨RX6, "indexUpTo", "(I)I"⟩
abbrev cX6_seek : ByteArray := prog_8_method_5_code
def yX6_seek : MethodName := ⟨RX6, "seek", "(I)V"⟩
abbrev cX6_become : ByteArray := prog_8_method_6_code
def yX6_become : MethodName := ⟨RX6, "become", "(II)V"⟩
abbrev cX6_seekHex : ByteArray := prog_8_method_7_code
def yX6_seekHex : MethodName := ⟨RX6, "seekHex", "()V"⟩
abbrev cX6_seekLiteral : ByteArray := prog_8_method_8_code
def yX6_seekLiteral : MethodName := ⟨RX6, "seekLiteral", "()V"⟩
abbrev cX6_lineLength : ByteArray := prog_8_method_9_code
def yX6_lineLength : MethodName := ⟨RX6, "lineLength", "(I)I"⟩
abbrev cX6_draftEscape : ByteArray := prog_8_method_10_code
def yX6_draftEscape : MethodName := ⟨RX6, "draftEscape", "(I)I"⟩
abbrev cX6_draftOctal : ByteArray := prog_8_method_11_code
def yX6_draftOctal : MethodName := ⟨RX6, "draftOctal", "(I)I"⟩
abbrev cX6_escaped : ByteArray := prog_8_method_12_code
def yX6_escaped : MethodName := ⟨RX6, "escaped", "(I)I"⟩
abbrev cX6_seekName : ByteArray := prog_8_method_13_code
def yX6_seekName : MethodName := ⟨RX6, "seekName", "()V"⟩
def RX7 : String := "SheetObjects"
def TX7 : u_T := fun k => match k with
  | 0 => ("SheetObjects", "tape", "LSheetObjects$Tape;", true)
  | 1 => ("SheetObjects", "store", "LSheetObjects$Store;", true)
  | 2 => ("SheetObjects", "reader", "LSheetObjects$Reader;", true)
  | _ => ("SheetObjects", "page", "LSheetObjects$Page;", true)
def tyX7 : Nat → FieldType := fun k => match k with
  | 0 => .object "SheetObjects$Tape"
  | 1 => .object "SheetObjects$Store"
  | 2 => .object "SheetObjects$Reader"
  | _ => .object "SheetObjects$Page"
abbrev wsX70 : List Cond := u_ws RX7 TX7 4
theorem nmX7 : ∀ a, a < 4 → ∀ b, b < 4 → a ≠ b → (TX7 a).2.1 ≠ (TX7 b).2.1 := by decide +kernel
theorem tyX7_ok : ∀ k, k < 4 → parseFieldDescriptor (TX7 k).2.2.1 = some (tyX7 k) := by decide +kernel
abbrev cX7_init : ByteArray := prog_1_method_1_code
def yX7_init : MethodName := ⟨RX7, "<init>", "()V"⟩
abbrev cX7_feed : ByteArray := prog_1_method_2_code
def yX7_feed : MethodName := ⟨RX7, "feed", "(IIIII)I"⟩
abbrev cX7_put : ByteArray := prog_1_method_3_code
def yX7_put : MethodName := ⟨RX7, "put", "(II)I"⟩
abbrev cX7_cut : ByteArray := prog_1_method_4_code
def yX7_cut : MethodName := ⟨RX7, "cut", "(I)I"⟩
abbrev cX7_read : ByteArray := prog_1_method_5_code
def yX7_read : MethodName := ⟨RX7, "read", "(I)I"⟩
abbrev cX7_entry : ByteArray := prog_1_method_6_code
def yX7_entry : MethodName := ⟨RX7, "entry", "(I)I"⟩
abbrev cX7_last : ByteArray := prog_1_method_7_code
def yX7_last : MethodName := ⟨RX7, "last", "(I)I"⟩
abbrev cX7_kind : ByteArray := prog_1_method_8_code
def yX7_kind : MethodName := ⟨RX7, "kind", "(I)I"⟩
abbrev cX7_value : ByteArray := prog_1_method_9_code
def yX7_value : MethodName := ⟨RX7, "value", "(I)I"⟩
abbrev cX7_byteAt : ByteArray := prog_1_method_10_code
def yX7_byteAt : MethodName := ⟨RX7, "byteAt", "(II)I"⟩
abbrev cX7_child : ByteArray := prog_1_method_11_code
def yX7_child : MethodName := ⟨RX7, "child", "(IIZ)I"⟩
abbrev cX7_find : ByteArray := prog_1_method_12_code
def yX7_find : MethodName := ⟨RX7, "find", "(II)I"⟩
abbrev cX7_alike : ByteArray := prog_1_method_13_code
def yX7_alike : MethodName := ⟨RX7, "alike", "(II)Z"⟩
abbrev cX7_write : ByteArray := prog_1_method_14_code
def yX7_write : MethodName := ⟨RX7, "write", "(I)I"⟩
abbrev cX7_written : ByteArray := prog_1_method_15_code
def yX7_written : MethodName := ⟨RX7, "written", "(I)I"⟩
abbrev cX7_rewind : ByteArray := prog_1_method_16_code
def yX7_rewind : MethodName := ⟨RX7, "rewind", "()I"⟩
abbrev cX7_drop : ByteArray := prog_1_method_17_code
def yX7_drop : MethodName := ⟨RX7, "drop", "(I)I"⟩
abbrev cX7_count : ByteArray := prog_1_method_18_code
def yX7_count : MethodName := ⟨RX7, "count", "(I)I"⟩
abbrev cX7_needPlace : ByteArray := prog_1_method_19_code
def yX7_needPlace : MethodName := ⟨RX7, "needPlace", "(I)V"⟩
abbrev cX7_needNode : ByteArray := prog_1_method_20_code
def yX7_needNode : MethodName := ⟨RX7, "needNode", "(I)V"⟩
def RX8 : String := "SheetObjectsModel"
def TX8 : u_T := fun k => match k with
  | 0 => ("SheetObjectsModel", "fault", "I", false)
  | 1 => ("SheetObjectsModel", "size", "I", false)
  | 2 => ("SheetObjectsModel", "tape", "[I", true)
  | 3 => ("SheetObjectsModel", "nodes", "I", false)
  | 4 => ("SheetObjectsModel", "kinds", "[I", true)
  | 5 => ("SheetObjectsModel", "values", "[I", true)
  | 6 => ("SheetObjectsModel", "seconds", "[I", true)
  | 7 => ("SheetObjectsModel", "starts", "[I", true)
  | 8 => ("SheetObjectsModel", "ends", "[I", true)
  | 9 => ("SheetObjectsModel", "byteCount", "I", false)
  | 10 => ("SheetObjectsModel", "bytes", "[I", true)
  | 11 => ("SheetObjectsModel", "objects", "I", false)
  | 12 => ("SheetObjectsModel", "firstNode", "[I", true)
  | 13 => ("SheetObjectsModel", "firstByte", "[I", true)
  | 14 => ("SheetObjectsModel", "wasRead", "Z", false)
  | 15 => ("SheetObjectsModel", "lastPlace", "I", false)
  | 16 => ("SheetObjectsModel", "lastNumber", "I", false)
  | 17 => ("SheetObjectsModel", "lastGeneration", "I", false)
  | 18 => ("SheetObjectsModel", "writtenSize", "I", false)
  | 19 => ("SheetObjectsModel", "written", "[I", true)
  | 20 => ("SheetObjectsModel", "draftSize", "I", false)
  | 21 => ("SheetObjectsModel", "draft", "[I", true)
  | 22 => ("SheetObjectsModel", "sort", "I", false)
  | 23 => ("SheetObjectsModel", "from", "I", false)
  | 24 => ("SheetObjectsModel", "to", "I", false)
  | 25 => ("SheetObjectsModel", "wrong", "I", false)
  | 26 => ("SheetObjectsModel", "textSize", "I", false)
  | 27 => ("SheetObjectsModel", "text", "[I", true)
  | 28 => ("SheetObjectsModel", "number", "I", false)
  | 29 => ("SheetObjectsModel", "open", "I", false)
  | 30 => ("SheetObjectsModel", "stack", "[I", true)
  | 31 => ("SheetObjectsModel", "keyNext", "Z", false)
  | _ => ("SheetObjectsModel", "referred", "I", false)
def tyX8 : Nat → FieldType := fun k => match k with
  | 0 => .int
  | 1 => .int
  | 2 => .array .int
  | 3 => .int
  | 4 => .array .int
  | 5 => .array .int
  | 6 => .array .int
  | 7 => .array .int
  | 8 => .array .int
  | 9 => .int
  | 10 => .array .int
  | 11 => .int
  | 12 => .array .int
  | 13 => .array .int
  | 14 => .boolean
  | 15 => .int
  | 16 => .int
  | 17 => .int
  | 18 => .int
  | 19 => .array .int
  | 20 => .int
  | 21 => .array .int
  | 22 => .int
  | 23 => .int
  | 24 => .int
  | 25 => .int
  | 26 => .int
  | 27 => .array .int
  | 28 => .int
  | 29 => .int
  | 30 => .array .int
  | 31 => .boolean
  | _ => .int
abbrev wsX80 : List Cond := u_ws RX8 TX8 33
theorem nmX8 : ∀ a, a < 33 → ∀ b, b < 33 → a ≠ b → (TX8 a).2.1 ≠ (TX8 b).2.1 := by decide +kernel
theorem tyX8_ok : ∀ k, k < 33 → parseFieldDescriptor (TX8 k).2.2.1 = some (tyX8 k) := by decide +kernel
abbrev cX8_init : ByteArray := prog_10_method_1_code
def yX8_init : MethodName := ⟨RX8, "<init>", "()V"⟩
abbrev cX8_thrown : ByteArray := prog_10_method_2_code
def yX8_thrown : MethodName := ⟨RX8, "thrown", "()I"⟩
abbrev cX8_refused : ByteArray := prog_10_method_3_code
def yX8_refused : MethodName := ⟨RX8, "refused", "(I)Z"⟩
abbrev cX8_feed : ByteArray := prog_10_method_4_code
def yX8_feed : MethodName := ⟨RX8, "feed", "(IIIII)I"⟩
abbrev cX8_put : ByteArray := prog_10_method_5_code
def yX8_put : MethodName := ⟨RX8, "put", "(II)I"⟩
abbrev cX8_cut : ByteArray := prog_10_method_6_code
def yX8_cut : MethodName := ⟨RX8, "cut", "(I)I"⟩
abbrev cX8_at : ByteArray := prog_10_method_7_code
def yX8_at : MethodName := ⟨RX8, "at", "(I)I"⟩
abbrev cX8_isWhite : ByteArray := prog_10_method_8_code
def yX8_isWhite : MethodName := ⟨RX8, "isWhite", "(I)Z"⟩
abbrev cX8_isDelimiter : ByteArray := prog_10_method_9_code
def yX8_isDelimiter : MethodName := ⟨RX8, "isDelimiter", "(I)Z"⟩
abbrev cX8_isRegular : ByteArray := prog_10_method_10_code
def yX8_isRegular : MethodName := ⟨RX8, "isRegular", "(I)Z"⟩
abbrev cX8_isDigit : ByteArray := prog_10_method_11_code
def yX8_isDigit : MethodName := ⟨RX8, "isDigit", "(I)Z"⟩
abbrev cX8_hex : ByteArray := prog_10_method_12_code
def yX8_hex : MethodName := ⟨RX8, "hex", "(I)I"⟩
abbrev cX8_skip : ByteArray := prog_10_method_13_code
def yX8_skip : MethodName := ⟨RX8, "skip", "(I)I"⟩
abbrev cX8_text : ByteArray := prog_10_method_14_code
def yX8_text : MethodName := ⟨RX8, "text", "(I)V"⟩
abbrev cX8_one : ByteArray := prog_10_method_15_code
def yX8_one : MethodName := ⟨RX8, "one", "(II)V"⟩
abbrev cX8_look : ByteArray := prog_10_method_16_code
def yX8_look : MethodName := ⟨RX8, "look", "(I)V"⟩
abbrev cX8_lookString : ByteArray := prog_10_method_17_code
def yX8_lookString : MethodName := ⟨RX8, "lookString", "()V"⟩
abbrev cX8_isOctal : ByteArray := prog_10_method_18_code
def yX8_isOctal : MethodName := ⟨RX8, "isOctal", "(I)Z"⟩
abbrev cX8_escaped : ByteArray := prog_10_method_19_code
def yX8_escaped : MethodName := ⟨RX8, "escaped", "(I)I"⟩
abbrev cX8_lookHex : ByteArray := prog_10_method_20_code
def yX8_lookHex : MethodName := ⟨RX8, "lookHex", "()V"⟩
abbrev cX8_lookName : ByteArray := prog_10_method_21_code
def yX8_lookName : MethodName := ⟨RX8, "lookName", "()V"⟩
abbrev cX8_lookWord : ByteArray := prog_10_method_22_code
def yX8_lookWord : MethodName := ⟨RX8, "lookWord", "()V"⟩
abbrev cX8_isWord : ByteArray := prog_10_method_23_code
def yX8_isWord : MethodName := ⟨RX8, "isWord", "(Ljava/lang/String;)Z"⟩
abbrev cX8_isCount : ByteArray := prog_10_method_24_code
def yX8_isCount : MethodName := ⟨RX8, "isCount", "(I)Z"⟩
abbrev cX8_signs : ByteArray := prog_10_method_25_code
def yX8_signs : MethodName := ⟨RX8, "signs", "()I"⟩
abbrev cX8_point : ByteArray := prog_10_method_26_code
def yX8_point : MethodName := ⟨RX8, "point", "()I"⟩
abbrev cX8_isNumber : ByteArray := prog_10_method_27_code
def yX8_isNumber : MethodName := ⟨RX8, "isNumber", "()Z"⟩
abbrev cX8_whole : ByteArray := prog_10_method_28_code
def yX8_whole : MethodName := ⟨RX8, "whole", "()J"⟩
abbrev cX8_parts : ByteArray := prog_10_method_29_code
def yX8_parts : MethodName := ⟨RX8, "parts", "()J"⟩
abbrev cX8_isInteger : ByteArray := prog_10_method_30_code
def yX8_isInteger : MethodName := ⟨RX8, "isInteger", "()Z"⟩
abbrev cX8_numberValue : ByteArray := prog_10_method_31_code
def yX8_numberValue : MethodName := ⟨RX8, "numberValue", "()I"⟩
abbrev cX8_hasRoom : ByteArray := prog_10_method_32_code
def yX8_hasRoom : MethodName := ⟨RX8, "hasRoom", "()Z"⟩
abbrev cX8_add : ByteArray := prog_10_method_33_code
def yX8_add : MethodName := ⟨RX8, "add", "(III)V"⟩
abbrev cX8_addText : ByteArray := prog_10_method_34_code
def yX8_addText : MethodName := ⟨RX8, "addText", "(I)V"⟩
abbrev cX8_isReference : ByteArray := prog_10_method_35_code
def yX8_isReference : MethodName := ⟨RX8, "isReference", "()Z"⟩
abbrev cX8_sense : ByteArray := prog_10_method_36_code
def yX8_sense : MethodName := ⟨RX8, "sense", "()I"⟩
abbrev cX8_take : ByteArray := prog_10_method_37_code
def yX8_take : MethodName := ⟨RX8, "take", "()I"⟩
abbrev cX8_valueIsThere : ByteArray := prog_10_method_38_code
def yX8_valueIsThere : MethodName := ⟨RX8, "valueIsThere", "()V"⟩
abbrev cX8_readObject : ByteArray := prog_10_method_39_code
def yX8_readObject : MethodName := ⟨RX8, "readObject", "(I)I"⟩
abbrev cX8_keepObject : ByteArray := prog_10_method_40_code
def yX8_keepObject : MethodName := ⟨RX8, "keepObject", "(II)V"⟩
abbrev cX8_read : ByteArray := prog_10_method_41_code
def yX8_read : MethodName := ⟨RX8, "read", "(I)I"⟩
abbrev cX8_refuseAt : ByteArray := prog_10_method_42_code
def yX8_refuseAt : MethodName := ⟨RX8, "refuseAt", "(III)I"⟩
abbrev cX8_readHead : ByteArray := prog_10_method_43_code
def yX8_readHead : MethodName := ⟨RX8, "readHead", "(I)Z"⟩
abbrev cX8_entry : ByteArray := prog_10_method_44_code
def yX8_entry : MethodName := ⟨RX8, "entry", "(I)I"⟩
abbrev cX8_addStream : ByteArray := prog_10_method_45_code
def yX8_addStream : MethodName := ⟨RX8, "addStream", "(III)I"⟩
abbrev cX8_last : ByteArray := prog_10_method_46_code
def yX8_last : MethodName := ⟨RX8, "last", "(I)I"⟩
abbrev cX8_isNode : ByteArray := prog_10_method_47_code
def yX8_isNode : MethodName := ⟨RX8, "isNode", "(I)Z"⟩
abbrev cX8_isWrong : ByteArray := prog_10_method_48_code
def yX8_isWrong : MethodName := ⟨RX8, "isWrong", "(I)Z"⟩
abbrev cX8_kind : ByteArray := prog_10_method_49_code
def yX8_kind : MethodName := ⟨RX8, "kind", "(I)I"⟩
abbrev cX8_value : ByteArray := prog_10_method_50_code
def yX8_value : MethodName := ⟨RX8, "value", "(I)I"⟩
abbrev cX8_isText : ByteArray := prog_10_method_51_code
def yX8_isText : MethodName := ⟨RX8, "isText", "(I)Z"⟩
abbrev cX8_byteAt : ByteArray := prog_10_method_52_code
def yX8_byteAt : MethodName := ⟨RX8, "byteAt", "(II)I"⟩
abbrev cX8_part : ByteArray := prog_10_method_53_code
def yX8_part : MethodName := ⟨RX8, "part", "(II)I"⟩
abbrev cX8_child : ByteArray := prog_10_method_54_code
def yX8_child : MethodName := ⟨RX8, "child", "(IIZ)I"⟩
abbrev cX8_same : ByteArray := prog_10_method_55_code
def yX8_same : MethodName := ⟨RX8, "same", "(II)Z"⟩
abbrev cX8_dictionaryOf : ByteArray := prog_10_method_56_code
def yX8_dictionaryOf : MethodName := ⟨RX8, "dictionaryOf", "(I)I"⟩
abbrev cX8_find : ByteArray := prog_10_method_57_code
def yX8_find : MethodName := ⟨RX8, "find", "(II)I"⟩
abbrev cX8_alike : ByteArray := prog_10_method_58_code
def yX8_alike : MethodName := ⟨RX8, "alike", "(II)Z"⟩
abbrev cX8_put1 : ByteArray := prog_10_method_59_code
def yX8_put1 : MethodName := ⟨RX8, "put1", "(I)V"⟩
abbrev cX8_putWord : ByteArray := prog_10_method_60_code
def yX8_putWord : MethodName := ⟨RX8, "putWord", "(Ljava/lang/String;)V"⟩
abbrev cX8_putNumber : ByteArray := prog_10_method_61_code
def yX8_putNumber : MethodName := ⟨RX8, "putNumber", "(J)V"⟩
abbrev cX8_putReal : ByteArray := prog_10_method_62_code
def yX8_putReal : MethodName := ⟨RX8, "putReal", "(J)V"⟩
abbrev cX8_putHex : ByteArray := prog_10_method_63_code
def yX8_putHex : MethodName := ⟨RX8, "putHex", "(I)V"⟩
abbrev cX8_putText : ByteArray := prog_10_method_64_code
def yX8_putText : MethodName := ⟨RX8, "putText", "(I)V"⟩
abbrev cX8_putNode : ByteArray := prog_10_method_65_code
def yX8_putNode : MethodName := ⟨RX8, "putNode", "(I)V"⟩
abbrev cX8_putEnds : ByteArray := prog_10_method_66_code
def yX8_putEnds : MethodName := ⟨RX8, "putEnds", "(II)V"⟩
abbrev cX8_write : ByteArray := prog_10_method_67_code
def yX8_write : MethodName := ⟨RX8, "write", "(I)I"⟩
abbrev cX8_written : ByteArray := prog_10_method_68_code
def yX8_written : MethodName := ⟨RX8, "written", "(I)I"⟩
abbrev cX8_rewind : ByteArray := prog_10_method_69_code
def yX8_rewind : MethodName := ⟨RX8, "rewind", "()I"⟩
abbrev cX8_drop : ByteArray := prog_10_method_70_code
def yX8_drop : MethodName := ⟨RX8, "drop", "(I)I"⟩
abbrev cX8_count : ByteArray := prog_10_method_71_code
def yX8_count : MethodName := ⟨RX8, "count", "(I)I"⟩
def RJ9 : String := "java/lang/Math"
def TJ9 : u_T := fun k => match k with
  | _ => ("", "", "", false)
def tyJ9 : Nat → FieldType := fun k => match k with
  | _ => .int
abbrev wsJ90 : List Cond := u_ws RJ9 TJ9 0
theorem nmJ9 : ∀ a, a < 0 → ∀ b, b < 0 → a ≠ b → (TJ9 a).2.1 ≠ (TJ9 b).2.1 := by decide +kernel
theorem tyJ9_ok : ∀ k, k < 0 → parseFieldDescriptor (TJ9 k).2.2.1 = some (tyJ9 k) := by decide +kernel
abbrev cJ9_abs_0f7a4 : ByteArray := prog_14_method_59_code
def yJ9_abs_0f7a4 : MethodName := ⟨RJ9, "abs", "(I)I"⟩
abbrev cJ9_max_7cf53 : ByteArray := prog_14_method_65_code
def yJ9_max_7cf53 : MethodName := ⟨RJ9, "max", "(II)I"⟩
abbrev cJ9_min_7cf53 : ByteArray := prog_14_method_69_code
def yJ9_min_7cf53 : MethodName := ⟨RJ9, "min", "(II)I"⟩
abbrev cJ9_min_f86c9 : ByteArray := prog_14_method_70_code
def yJ9_min_f86c9 : MethodName := ⟨RJ9, "min", "(JJ)J"⟩
def RJ0 : String := "java/lang/String"
def TJ0 : u_T := fun k => match k with
  | _ => ("", "", "", false)
def tyJ0 : Nat → FieldType := fun k => match k with
  | _ => .int
abbrev wsJ00 : List Cond := u_ws RJ0 TJ0 0
theorem nmJ0 : ∀ a, a < 0 → ∀ b, b < 0 → a ≠ b → (TJ0 a).2.1 ≠ (TJ0 b).2.1 := by decide +kernel
theorem tyJ0_ok : ∀ k, k < 0 → parseFieldDescriptor (TJ0 k).2.2.1 = some (tyJ0 k) := by decide +kernel
abbrev cJ0_length_8abf5 : ByteArray := prog_16_method_54_code
def yJ0_length_8abf5 : MethodName := ⟨RJ0, "length", "()I"⟩
abbrev cJ0_charAt_5068e : ByteArray := prog_16_method_56_code
def yJ0_charAt_5068e : MethodName := ⟨RJ0, "charAt", "(I)C"⟩
abbrev cJ0_coder_7d493 : ByteArray := prog_16_method_152_code
def yJ0_coder_7d493 : MethodName := ⟨RJ0, "coder", "()B"⟩
abbrev cJ0_isLatin1_aae02 : ByteArray := prog_16_method_154_code
def yJ0_isLatin1_aae02 : MethodName := ⟨RJ0, "isLatin1", "()Z"⟩
abbrev cJ0_checkIndex_df160 : ByteArray := prog_16_method_155_code
def yJ0_checkIndex_df160 : MethodName := ⟨RJ0, "checkIndex", "(II)V"⟩
def RJ1 : String := "java/lang/StringLatin1"
def TJ1 : u_T := fun k => match k with
  | _ => ("", "", "", false)
def tyJ1 : Nat → FieldType := fun k => match k with
  | _ => .int
abbrev wsJ10 : List Cond := u_ws RJ1 TJ1 0
theorem nmJ1 : ∀ a, a < 0 → ∀ b, b < 0 → a ≠ b → (TJ1 a).2.1 ≠ (TJ1 b).2.1 := by decide +kernel
theorem tyJ1_ok : ∀ k, k < 0 → parseFieldDescriptor (TJ1 k).2.2.1 = some (tyJ1 k) := by decide +kernel
abbrev cJ1_charAt_3b067 : ByteArray := prog_17_method_2_code
def yJ1_charAt_3b067 : MethodName := ⟨RJ1, "charAt", "([BI)C"⟩
def RJ2 : String := "java/lang/StringUTF16"
def TJ2 : u_T := fun k => match k with
  | _ => ("", "", "", false)
def tyJ2 : Nat → FieldType := fun k => match k with
  | _ => .int
abbrev wsJ20 : List Cond := u_ws RJ2 TJ2 0
theorem nmJ2 : ∀ a, a < 0 → ∀ b, b < 0 → a ≠ b → (TJ2 a).2.1 ≠ (TJ2 b).2.1 := by decide +kernel
theorem tyJ2_ok : ∀ k, k < 0 → parseFieldDescriptor (TJ2 k).2.2.1 = some (tyJ2 k) := by decide +kernel
abbrev cJ2_getChar_3b067 : ByteArray := prog_18_method_5_code
def yJ2_getChar_3b067 : MethodName := ⟨RJ2, "getChar", "([BI)C"⟩
abbrev cJ2_length_9d52b : ByteArray := prog_18_method_6_code
def yJ2_length_9d52b : MethodName := ⟨RJ2, "length", "([B)I"⟩
abbrev cJ2_charAt_3b067 : ByteArray := prog_18_method_83_code
def yJ2_charAt_3b067 : MethodName := ⟨RJ2, "charAt", "([BI)C"⟩
abbrev cJ2_checkIndex_2214a : ByteArray := prog_18_method_91_code
def yJ2_checkIndex_2214a : MethodName := ⟨RJ2, "checkIndex", "(I[B)V"⟩
def RJ10 : String := "java/lang/System"
def TJ10 : u_T := fun k => match k with
  | _ => ("", "", "", false)
def tyJ10 : Nat → FieldType := fun k => match k with
  | _ => .int
abbrev wsJ100 : List Cond := u_ws RJ10 TJ10 0
theorem nmJ10 : ∀ a, a < 0 → ∀ b, b < 0 → a ≠ b → (TJ10 a).2.1 ≠ (TJ10 b).2.1 := by decide +kernel
theorem tyJ10_ok : ∀ k, k < 0 → parseFieldDescriptor (TJ10 k).2.2.1 = some (tyJ10 k) := by decide +kernel
def RJ3 : String := "jdk/internal/util/Preconditions"
def TJ3 : u_T := fun k => match k with
  | _ => ("", "", "", false)
def tyJ3 : Nat → FieldType := fun k => match k with
  | _ => .int
abbrev wsJ30 : List Cond := u_ws RJ3 TJ3 0
theorem nmJ3 : ∀ a, a < 0 → ∀ b, b < 0 → a ≠ b → (TJ3 a).2.1 ≠ (TJ3 b).2.1 := by decide +kernel
theorem tyJ3_ok : ∀ k, k < 0 → parseFieldDescriptor (TJ3 k).2.2.1 = some (tyJ3 k) := by decide +kernel
abbrev cJ3_checkIndex_8e157 : ByteArray := prog_21_method_11_code
def yJ3_checkIndex_8e157 : MethodName := ⟨RJ3, "checkIndex", "(IILjava/util/function/BiFunction;)I"⟩
def RL : String := "SheetObjectsLaw"
abbrev cL_put : ByteArray := method_3_code
def yL_put : MethodName := ⟨RL, "put", "(LSheetObjects;II[J)I"⟩
abbrev cL_cut : ByteArray := method_4_code
def yL_cut : MethodName := ⟨RL, "cut", "(LSheetObjects;I[J)I"⟩
abbrev cL_read : ByteArray := method_5_code
def yL_read : MethodName := ⟨RL, "read", "(LSheetObjects;I[J)I"⟩
abbrev cL_entry : ByteArray := method_6_code
def yL_entry : MethodName := ⟨RL, "entry", "(LSheetObjects;I[J)I"⟩
abbrev cL_kind : ByteArray := method_7_code
def yL_kind : MethodName := ⟨RL, "kind", "(LSheetObjects;I[J)I"⟩
abbrev cL_value : ByteArray := method_8_code
def yL_value : MethodName := ⟨RL, "value", "(LSheetObjects;I[J)I"⟩
abbrev cL_byteAt : ByteArray := method_9_code
def yL_byteAt : MethodName := ⟨RL, "byteAt", "(LSheetObjects;II[J)I"⟩
abbrev cL_child : ByteArray := method_10_code
def yL_child : MethodName := ⟨RL, "child", "(LSheetObjects;IIZ[J)I"⟩
abbrev cL_find : ByteArray := method_11_code
def yL_find : MethodName := ⟨RL, "find", "(LSheetObjects;II[J)I"⟩
abbrev cL_alike : ByteArray := method_12_code
def yL_alike : MethodName := ⟨RL, "alike", "(LSheetObjects;II[J)I"⟩
abbrev cL_write : ByteArray := method_13_code
def yL_write : MethodName := ⟨RL, "write", "(LSheetObjects;I[J)I"⟩
abbrev cL_drop : ByteArray := method_14_code
def yL_drop : MethodName := ⟨RL, "drop", "(LSheetObjects;I[J)I"⟩
abbrev cL_law : ByteArray := code
def yL_law : MethodName := ⟨RL, "law", "([I)Z"⟩
abbrev vwCl : List vw_C := [(RX1, TX1, 2), (RX2, TX2, 8), (RX3, TX3, 13), (RX4, TX4, 11), (RX5, TX5, 2), (RX6, TX6, 6), (RX7, TX7, 4), (RX8, TX8, 33)]
end
section
/-! ===== THE ABSTRACT MACHINE: values, locals, cells; one step of it as a transformer of predicates ===== -/
/-- the state: numbers of cell j at place k (fields of objects, elements of arrays), the cells that two fields of the page name, the law's out -/
abbrev Sg : Type := (Nat → Nat → Int32) × (Nat → Nat → Nat) × (Nat → Int64)
abbrev Lc : Type := List (Option Value)
abbrev Jt : Type := Nat → Nat → Lc → List Value → Sg → Prop
abbrev Po : Type := Option Value → Sg → Prop
abbrev Xo : Type := String → Sg → Prop
abbrev Ct : Type := List Value → Sg → Po → Xo → Prop
abbrev Ent : Type := Instr × Nat × Nat × Int32 × Int64
def upd2 (M : Nat → Nat → Int32) (j k : Nat) (v : Int32) : Nat → Nat → Int32 := fun i => if i = j then upd (M j) k v else M i
def sM (σ : Sg) (j k : Nat) (v : Int32) : Sg := (upd2 σ.1 j k v, σ.2)
def sR (σ : Sg) (j k r : Nat) : Sg := (σ.1, fun i n => if i = j ∧ n = k then r else σ.2.1 i n, σ.2.2)
def sO (σ : Sg) (i : Nat) (v : Int64) : Sg := (σ.1, σ.2.1, vp_updL σ.2.2 i v)
/-- a whole row replaced -/
def sA (σ : Sg) (j : Nat) (f : Nat → Int32) : Sg := (fun i => if i = j then f else σ.1 i, σ.2)
def gl : Lc → Nat → Option Value
  | [], _ => none
  | x :: _, 0 => x
  | _ :: xs, n + 1 => gl xs n
def ml : Lc → Nat → (Option Value → Option Value) → Lc
  | [], _, _ => []
  | x :: xs, 0, f => f x :: xs
  | x :: xs, n + 1, f => x :: ml xs n f
def kl (o : Option Value) : Option Value := match o with
  | some (.long _) => none
  | some (.double _) => none
  | some v => some v
  | none => none
/-- a store of one word at k: a long before it is gone -/
def st1 (l : Lc) (k : Nat) (o : Option Value) : Lc := match k with
  | 0 => ml l 0 (fun _ => o)
  | k + 1 => ml (ml l k kl) (k + 1) (fun _ => o)
/-- a store of two words at k -/
def st2 (l : Lc) (k : Nat) (o : Option Value) : Lc := ml (st1 l k o) (k + 1) (fun _ => none)
/-- which number in the list of classes an object cell has -/
def oc (j : Nat) : Nat := match j with
  | 0 => 6
  | 1 => 4
  | 2 => 3
  | 3 => 2
  | 4 => 5
  | 5 => 0
  | 6 => 1
  | 7 => 7
  | _ => 99
/-- arrays: 1 int, 2 byte, 3 long, 4 static byte, 0 none; the length -/
def ak (j : Nat) : Nat × Nat := match j with
  | 8 => (2, 65536)
  | 9 => (2, 4000)
  | 10 => (1, 4000)
  | 11 => (1, 4000)
  | 12 => (1, 4000)
  | 13 => (1, 4000)
  | 14 => (1, 4000)
  | 15 => (2, 32768)
  | 16 => (1, 100)
  | 17 => (1, 100)
  | 18 => (2, 65536)
  | 19 => (2, 65536)
  | 20 => (1, 65536)
  | 21 => (1, 4000)
  | 22 => (1, 4000)
  | 23 => (1, 4000)
  | 24 => (1, 4000)
  | 25 => (1, 4000)
  | 26 => (1, 32768)
  | 27 => (1, 4000)
  | 28 => (1, 4000)
  | 29 => (1, 65536)
  | 30 => (1, 65536)
  | 31 => (1, 65536)
  | 32 => (1, 100)
  | 33 => (3, 1)
  | 40 => (4, 4)
  | 41 => (4, 4)
  | 42 => (4, 5)
  | 43 => (4, 1)
  | 44 => (4, 3)
  | 45 => (4, 6)
  | 46 => (4, 6)
  | _ => (0, 0)
/-- the fields: how many, and of each: (0, _) int, (1, _) boolean, (2, r) the cell r, (3, _) the cell that the state names -/
def fl (j : Nat) : List (Nat × Nat) := match j with
  | 0 => [(2, 1), (2, 2), (2, 3), (2, 6)]
  | 1 => [(2, 8), (0, 0)]
  | 2 => [(2, 9), (2, 10), (2, 11), (2, 12), (2, 13), (2, 14), (2, 15), (0, 0), (0, 0), (0, 0), (0, 0)]
  | 3 => [(2, 1), (2, 2), (2, 4), (2, 5), (2, 16), (0, 0), (1, 0), (0, 0), (0, 0), (1, 0), (0, 0), (0, 0), (0, 0)]
  | 4 => [(2, 1), (2, 2), (0, 0), (0, 0), (0, 0), (0, 0)]
  | 5 => [(1, 0), (0, 0)]
  | 6 => [(2, 2), (2, 17), (0, 0), (3, 0), (0, 0), (3, 0), (0, 0), (1, 0)]
  | 7 => [(0, 0), (0, 0), (2, 20), (0, 0), (2, 21), (2, 22), (2, 23), (2, 24), (2, 25), (0, 0), (2, 26), (0, 0), (2, 27), (2, 28), (1, 0), (0, 0), (0, 0), (0, 0), (0, 0), (2, 29), (0, 0), (2, 30), (0, 0), (0, 0), (0, 0), (0, 0), (0, 0), (2, 31), (0, 0), (0, 0), (2, 32), (1, 0), (0, 0)]
  | _ => []
def fg : List (Nat × Nat) → Nat → Nat × Nat
  | [], _ => (9, 0)
  | x :: _, 0 => x
  | _ :: xs, n + 1 => fg xs n
/-- the bytes of the static words -/
def wb (w : Nat) : List Int32 := match w with
  | 40 => [110, 117, 108, 108]
  | 41 => [116, 114, 117, 101]
  | 42 => [102, 97, 108, 115, 101]
  | 43 => [82]
  | 44 => [111, 98, 106]
  | 45 => [101, 110, 100, 111, 98, 106]
  | 46 => [115, 116, 114, 101, 97, 109]
  | _ => []
/-- an array's element, whatever the array -/
def el (σ : Sg) (j : Nat) (i : Int32) : Int32 := if j < 40 then σ.1 j i.toNatClampNeg else (wb j).getD i.toNatClampNeg 0
/-- how long an instruction is (switches apart) -/
def ln (i : Instr) : Nat := match i with
  | .aload _ => 2
  | .astore _ => 2
  | .iload _ => 2
  | .istore _ => 2
  | .lload _ => 2
  | .lstore _ => 2
  | .bipush _ => 2
  | .ldc _ => 2
  | .newarray _ => 2
  | .sipush _ => 3
  | .ldc_w _ => 3
  | .ldc2_w _ => 3
  | .getfield _ => 3
  | .putfield _ => 3
  | .getstatic _ => 3
  | .invokevirtual _ => 3
  | .invokestatic _ => 3
  | .invokespecial _ => 3
  | .new _ => 3
  | .goto _ => 3
  | .if_icmp _ _ => 3
  | .ifCond _ _ => 3
  | .iinc _ _ => 3
  | _ => 1
def cmpI (c : Jvm.ClassFile.Cond) (x y : Int32) (A B : Prop) : Prop := match c with
  | .eq => (x = y → A) ∧ (¬ x = y → B)
  | .ne => (¬ x = y → A) ∧ (x = y → B)
  | .lt => (x < y → A) ∧ (¬ x < y → B)
  | .ge => (y ≤ x → A) ∧ (¬ y ≤ x → B)
  | .gt => (y < x → A) ∧ (¬ y < x → B)
  | .le => (x ≤ y → A) ∧ (¬ x ≤ y → B)
def cmp0 (c : Jvm.ClassFile.Cond) (x : Int32) (A B : Prop) : Prop := match c with
  | .eq => (x = 0 → A) ∧ (¬ x = 0 → B)
  | .ne => (¬ x = 0 → A) ∧ (x = 0 → B)
  | .lt => (x < 0 → A) ∧ (¬ x < 0 → B)
  | .ge => (0 ≤ x → A) ∧ (¬ 0 ≤ x → B)
  | .gt => (0 < x → A) ∧ (¬ 0 < x → B)
  | .le => (x ≤ 0 → A) ∧ (¬ x ≤ 0 → B)
def ldI (o : Option Value) (k : Int32 → Prop) : Prop := match o with
  | some (.int x) => k x
  | _ => False
def ldL (o : Option Value) (k : Int64 → Prop) : Prop := match o with
  | some (.long x) => k x
  | _ => False
def ldR (o : Option Value) (k : Nat → Prop) : Prop := match o with
  | some (.ref x) => k x
  | _ => False
def po1 (st : List Value) (k : Int32 → List Value → Prop) : Prop := match st with
  | .int x :: r => k x r
  | _ => False
def po2 (st : List Value) (k : Int32 → Int32 → List Value → Prop) : Prop := match st with
  | .int y :: .int x :: r => k x y r
  | _ => False
def poL (st : List Value) (k : Int64 → List Value → Prop) : Prop := match st with
  | .long x :: r => k x r
  | _ => False
def poLL (st : List Value) (k : Int64 → Int64 → List Value → Prop) : Prop := match st with
  | .long y :: .long x :: r => k x y r
  | _ => False
def poR (st : List Value) (k : Nat → List Value → Prop) : Prop := match st with
  | .ref x :: r => k x r
  | _ => False
/-- the cases of a switch, in their order, then what is left -/
def sw (x : Int32) : List (Int32 × Nat) → (Nat → Prop) → Nat → Prop
  | [], k, d => k d
  | (v, t) :: r, k, d => (x = v → k t) ∧ (¬ x = v → sw x r k d)
/-- a load out of array j -/
def aLd (σ : Sg) (ok : Prop) (j : Nat) (i : Int32) (k : Int32 → Prop) : Prop := ok ∧ vp_in i (ak j).2 ∧ k (el σ j i)
/-- getfield of slot y of the object cell j, a thing of the kind x -/
def gF (σ : Sg) (j x y : Nat) (k : Value → Prop) : Prop := bif Nat.beq (oc j) x then (match fg (fl j) y with
  | (0, _) => k (.int (σ.1 j y))
  | (1, _) => k (.int (σ.1 j y))
  | (2, r) => k (.ref r)
  | (3, _) => k (.ref (σ.2.1 j y))
  | _ => False) else False
/-- putfield -/
def pF (σ : Sg) (j x y : Nat) (v : Value) (k : Sg → Prop) : Prop := bif Nat.beq (oc j) x then (match fg (fl j) y, v with
  | (0, _), .int z => k (sM σ j y z)
  | (1, _), .int z => (z = 0 ∨ z = 1) ∧ k (sM σ j y z)
  | (3, _), .ref r => k (sR σ j y r)
  | _, _ => False) else False
/-- the exception E leaves the call at pc: caught by the row that hd names (the handler begins with a store into a local), or on to the caller -/
def hX (hd : String → Option (Nat × Nat)) (Xt : String → Nat → Sg → Prop) (J : Jt) (l : Lc) (T : Nat) (E : String) (σ : Sg) : Prop := match hd E with
  | some (h, k) => J T h (st1 l k none) [] σ
  | none => Xt E T σ
/-- ONE STEP. tb: the instructions, with numbers of ours (x, y), constants (c, d); ce: the callees (what they make, what they do); hd: handlers; sc: the script; xn: exceptions; mc: what may be made; Rt, Xt: the ends -/
def Step (tb : Nat → Option Ent) (ce : Nat → Nat × Ct) (hd : Nat → String → Option (Nat × Nat)) (sc : Nat × (Nat → Int32)) (xn : Nat → String) (mc : Nat) (sws : Nat → List (Int32 × Nat))
    (Rt : Option Value → Nat → Sg → Prop) (Xt : String → Nat → Sg → Prop) (J : Jt) : Jt := fun T pc l st σ =>
  match tb pc with
  | none => False
  | some (i, x, y, c, d) => match i with
    | .aload_n k => ldR (gl l k.val) fun j => J T (pc + 1) l (.ref j :: st) σ
    | .aload k => ldR (gl l k) fun j => J T (pc + 2) l (.ref j :: st) σ
    | .iload_n k => ldI (gl l k.val) fun v => J T (pc + 1) l (.int v :: st) σ
    | .iload k => ldI (gl l k) fun v => J T (pc + 2) l (.int v :: st) σ
    | .lload_n k => ldL (gl l k.val) fun v => J T (pc + 1) l (.long v :: st) σ
    | .lload k => ldL (gl l k) fun v => J T (pc + 2) l (.long v :: st) σ
    | .astore_n k => poR st fun j r => J T (pc + 1) (st1 l k.val (some (.ref j))) r σ
    | .astore k => poR st fun j r => J T (pc + 2) (st1 l k (some (.ref j))) r σ
    | .istore_n k => po1 st fun v r => J T (pc + 1) (st1 l k.val (some (.int v))) r σ
    | .istore k => po1 st fun v r => J T (pc + 2) (st1 l k (some (.int v))) r σ
    | .lstore_n k => poL st fun v r => J T (pc + 1) (st2 l k.val (some (.long v))) r σ
    | .lstore k => poL st fun v r => J T (pc + 2) (st2 l k (some (.long v))) r σ
    | .iinc k _ => ldI (gl l k) fun v => J T (pc + 3) (st1 l k (some (.int (v + c)))) st σ
    | .iconst _ => J T (pc + 1) l (.int c :: st) σ
    | .bipush _ => J T (pc + 2) l (.int c :: st) σ
    | .sipush _ => J T (pc + 3) l (.int c :: st) σ
    | .lconst _ => J T (pc + 1) l (.long d :: st) σ
    | .ldc2_w _ => J T (pc + 3) l (.long d :: st) σ
    | .ldc _ => bif Nat.beq x 0 then J T (pc + 2) l (.int c :: st) σ else J T (pc + 2) l (.ref x :: st) σ
    | .ldc_w _ => J T (pc + 3) l (.ref x :: st) σ
    | .getstatic _ => J T (pc + 3) l (.ref x :: st) σ
    | .dup => match st with
      | .ref j :: r => J T (pc + 1) l (.ref j :: .ref j :: r) σ
      | .int v :: r => J T (pc + 1) l (.int v :: .int v :: r) σ
      | _ => False
    | .dup2 => match st with
      | .int v :: .ref j :: r => J T (pc + 1) l (.int v :: .ref j :: .int v :: .ref j :: r) σ
      | _ => False
    | .iadd => po2 st fun v w r => J T (pc + 1) l (.int (v + w) :: r) σ
    | .isub => po2 st fun v w r => J T (pc + 1) l (.int (v - w) :: r) σ
    | .imul => po2 st fun v w r => J T (pc + 1) l (.int (v * w) :: r) σ
    | .idiv => po2 st fun v w r => ¬ w = 0 ∧ J T (pc + 1) l (.int (v / w) :: r) σ
    | .irem => po2 st fun v w r => ¬ w = 0 ∧ J T (pc + 1) l (.int (v - v / w * w) :: r) σ
    | .iand => po2 st fun v w r => J T (pc + 1) l (.int (v &&& w) :: r) σ
    | .ishr => po2 st fun v w r => J T (pc + 1) l (.int (v >>> (w &&& 31)) :: r) σ
    | .iushr => po2 st fun v w r => J T (pc + 1) l (.int ((v.toUInt32 >>> (w.toUInt32 &&& Int32.toUInt32 31)).toInt32) :: r) σ
    | .i2l => po1 st fun v r => J T (pc + 1) l (.long v.toInt64 :: r) σ
    | .i2b => po1 st fun v r => J T (pc + 1) l (.int v.toInt8.toInt32 :: r) σ
    | .l2i => poL st fun v r => J T (pc + 1) l (.int v.toInt32 :: r) σ
    | .ladd => poLL st fun v w r => J T (pc + 1) l (.long (v + w) :: r) σ
    | .lsub => poLL st fun v w r => J T (pc + 1) l (.long (v - w) :: r) σ
    | .lmul => poLL st fun v w r => J T (pc + 1) l (.long (v * w) :: r) σ
    | .ldiv => poLL st fun v w r => ¬ w = 0 ∧ J T (pc + 1) l (.long (v / w) :: r) σ
    | .lrem => poLL st fun v w r => ¬ w = 0 ∧ J T (pc + 1) l (.long (v - v / w * w) :: r) σ
    | .lneg => poL st fun v r => J T (pc + 1) l (.long (-v) :: r) σ
    | .lcmp => poLL st fun v w r => J T (pc + 1) l (.int (lg_cmp v w) :: r) σ
    | .goto _ => J T x l st σ
    | .if_icmp q _ => po2 st fun v w r => cmpI q v w (J T x l r σ) (J T (pc + 3) l r σ)
    | .ifCond q _ => po1 st fun v r => cmp0 q v (J T x l r σ) (J T (pc + 3) l r σ)
    | .tableswitch _ _ _ _ => po1 st fun v r => sw v (sws pc) (fun t => J T t l r σ) x
    | .lookupswitch _ _ => po1 st fun v r => sw v (sws pc) (fun t => J T t l r σ) x
    | .getfield _ => poR st fun j r => gF σ j x y fun v => J T (pc + 3) l (v :: r) σ
    | .putfield _ => match st with
      | v :: .ref j :: r => pF σ j x y v fun σ => J T (pc + 3) l r σ
      | _ => False
    | .arraylength => poR st fun j r => bif Nat.beq j 50 then (x = 1 ∧ J T (pc + 1) l (.int (Int32.ofNat sc.1) :: r) σ) else (¬ (ak j).1 = 0 ∧ J T (pc + 1) l (.int (Int32.ofNat (ak j).2) :: r) σ)
    | .iaload => po1 st fun v r => poR r fun j r => bif Nat.beq j 50 then (x = 1 ∧ vp_in v sc.1 ∧ J T (pc + 1) l (.int (sc.2 v.toNatClampNeg) :: r) σ) else aLd σ ((ak j).1 = 1) j v fun z => J T (pc + 1) l (.int z :: r) σ
    | .baload => po1 st fun v r => poR r fun j r => aLd σ ((ak j).1 = 2 ∨ (ak j).1 = 4) j v fun z => J T (pc + 1) l (.int z :: r) σ
    | .laload => po1 st fun v r => poR r fun j r => (ak j).1 = 3 ∧ vp_in v (ak j).2 ∧ J T (pc + 1) l (.long (σ.2.2 v.toNatClampNeg) :: r) σ
    | .iastore => po2 st fun v w r => poR r fun j r => (ak j).1 = 1 ∧ vp_in v (ak j).2 ∧ J T (pc + 1) l r (sM σ j v.toNatClampNeg w)
    | .bastore => po2 st fun v w r => poR r fun j r => (ak j).1 = 2 ∧ vp_in v (ak j).2 ∧ J T (pc + 1) l r (sM σ j v.toNatClampNeg (vp_nar .byte w))
    | .lastore => poL st fun w r => po1 r fun v r => poR r fun j r => (ak j).1 = 3 ∧ vp_in v (ak j).2 ∧ J T (pc + 1) l r (sO σ v.toNatClampNeg w)
    | .invokevirtual _ => bif Nat.ble y st.length && Nat.ble (st.drop y).length 4 then (T + (ce x).1 ≤ mc ∧ (ce x).2 (st.take y).reverse σ (fun r σ => J (T + (ce x).1) (pc + 3) l (r.toList ++ st.drop y) σ) (fun E σ => hX (hd pc) Xt J l (T + (ce x).1) E σ)) else False
    | .invokestatic _ => bif Nat.ble y st.length && Nat.ble (st.drop y).length 4 then (T + (ce x).1 ≤ mc ∧ (ce x).2 (st.take y).reverse σ (fun r σ => J (T + (ce x).1) (pc + 3) l (r.toList ++ st.drop y) σ) (fun E σ => hX (hd pc) Xt J l (T + (ce x).1) E σ)) else False
    | .new _ => bif Nat.ble st.length 0 then (T + 1 ≤ mc ∧ Xt (xn pc) (T + 1) σ) else False
    | .ireturn => match st with
      | [.int v] => Rt (some (.int v)) T σ
      | _ => False
    | .lreturn => match st with
      | [.long v] => Rt (some (.long v)) T σ
      | _ => False
    | .return_ => match st with
      | [] => Rt none T σ
      | _ => False
    | _ => False
/-- closed under steps -/
def Cl (F : Jt → Jt) (I : Jt) : Prop := ∀ J : Jt, (∀ T pc l st σ, J T pc l st σ → I T pc l st σ) → ∀ T pc l st σ, F J T pc l st σ → I T pc l st σ
/-- what holds of every closed predicate -/
def Lf (F : Jt → Jt) : Jt := fun T pc l st σ => ∀ I : Jt, Cl F I → I T pc l st σ
/-- n steps, but none from the pcs that stop names -/
def run (F : Jt → Jt) (I : Jt) (stop : Nat → Bool) : Nat → Jt
  | 0 => I
  | n + 1 => fun T pc l st σ => F (fun T pc l st σ => bif stop pc then I T pc l st σ else run F I stop n T pc l st σ) T pc l st σ
theorem run_in {F : Jt → Jt} {I : Jt} {stop : Nat → Bool} (hI : Cl F I) : ∀ (n : Nat) {T pc : Nat} {l : Lc} {st : List Value} {σ : Sg}, run F I stop n T pc l st σ → I T pc l st σ := by
  intro n
  induction n with
  | zero => intro T pc l st σ h; exact h
  | succ n ih =>
    intro T pc l st σ h
    refine hI _ (fun T pc l st σ h => ?_) T pc l st σ h
    cases hs : stop pc with
    | true => rw [hs] at h; exact h
    | false => rw [hs] at h; exact ih h
end
section
/-! ===== THE WORLD: what a state is in the heap ===== -/
def cv (a : Nat → Nat) (v : Value) : Value := match v with
  | .ref j => .ref (a j)
  | v => v
theorem cv_cat (a : Nat → Nat) (v : Value) : (cv a v).category = v.category := by cases v <;> rfl
def fv (a : Nat → Nat) (σ : Sg) (j : Nat) (k : Nat) (q : Nat × Nat) : Value := match q with
  | (2, r) => .ref (a r)
  | (3, _) => .ref (a (σ.2.1 j k))
  | _ => .int (σ.1 j k)
def fvs (a : Nat → Nat) (σ : Sg) (j : Nat) : List Value := (List.range (fl j).length).map (fun k => fv a σ j k (fg (fl j) k))
def cel (a : Nat → Nat) (cI cB cJ : ClassId) (σ : Sg) (j : Nat) : va_E := match (ak j).1 with
  | 0 => .inr (oc j, fvs a σ j)
  | 1 => .inl (cI, (ak j).2, .inl (σ.1 j))
  | 2 => .inl (cB, (ak j).2, .inl (σ.1 j))
  | _ => .inl (cJ, (ak j).2, .inr (.inl σ.2.2))
def wld (a : Nat → Nat) (cI cB cJ : ClassId) (σ : Sg) : va_W := (List.range 34).map (fun j => (a j, cel a cI cB cJ σ j))
abbrev tys3 (cI cB cJ : ClassId) : List (ClassId × FieldType) := [(cI, .int), (cB, .byte), (cJ, .long)]
section WL
variable {a : Nat → Nat} {cI cB cJ : ClassId} {σ τ : Sg}
theorem wld_at {j : Nat} (hj : j < 34) : (wld a cI cB cJ σ)[j]? = some (a j, cel a cI cB cJ σ j) := by
  simp [wld, List.getElem?_map, List.getElem?_range hj]
theorem wld_ge {j : Nat} (hj : 34 ≤ j) : (wld a cI cB cJ σ)[j]? = none := by
  simp [wld, hj]
theorem wld_set {j : Nat} {e : va_E} (hj : j < 34) (he : cel a cI cB cJ τ j = e) (ho : ∀ i, i < 34 → i ≠ j → cel a cI cB cJ τ i = cel a cI cB cJ σ i) : (wld a cI cB cJ σ).set j (a j, e) = wld a cI cB cJ τ := by
  apply List.ext_getElem?
  intro i
  by_cases hi : i < 34
  · by_cases hij : j = i
    · subst hij
      rw [List.getElem?_set_self (by simp [wld]; exact hj), wld_at hj, he]
    · rw [List.getElem?_set_ne hij, wld_at hi, wld_at hi, ho i hi (fun h => hij h.symm)]
  · have hi' : 34 ≤ i := Nat.le_of_not_lt hi
    rw [wld_ge hi', List.getElem?_set_ne (by omega), wld_ge hi']
theorem fvs_at {j k : Nat} (hk : k < (fl j).length) : (fvs a σ j)[k]? = some (fv a σ j k (fg (fl j) k)) := by
  simp [fvs, List.getElem?_map, List.getElem?_range hk]
theorem fvs_len {j : Nat} : (fvs a σ j).length = (fl j).length := by simp [fvs]
/-- the cells of another state differ only where the state does -/
theorem cel_eq {i : Nat} (h1 : σ.1 i = τ.1 i) (h2 : σ.2.1 i = τ.2.1 i) (h3 : (ak i).1 ≠ 3 ∨ σ.2.2 = τ.2.2) (hi : (ak i).1 < 4) : cel a cI cB cJ τ i = cel a cI cB cJ σ i := by
  have hf : fvs a τ i = fvs a σ i := by
    simp only [fvs]
    apply List.map_congr_left
    intro k _
    simp only [fv, h1, h2]
  unfold cel
  rw [hf, h1]
  rcases h3 with h3 | h3
  · have : (ak i).1 = 0 ∨ (ak i).1 = 1 ∨ (ak i).1 = 2 := by omega
    rcases this with e | e | e <;> rw [e] <;> rfl
  · rw [h3]
theorem ak_lt : ∀ i, i < 34 → (ak i).1 < 4 := by decide +kernel
theorem oc_lt : ∀ i, i < 34 → (ak i).1 = 0 → oc i < 8 := by decide +kernel
theorem upd2_ne {M : Nat → Nat → Int32} {i j k : Nat} {v : Int32} (h : i ≠ j) : upd2 M j k v i = M i := by simp [upd2, h]
theorem upd2_eq {M : Nat → Nat → Int32} {j k : Nat} {v : Int32} : upd2 M j k v j = upd (M j) k v := by simp [upd2]
/-- a number stored in an array -/
theorem wld_sMi {j i : Nat} {v : Int32} (hj : j < 34) (hk : (ak j).1 = 1) : (wld a cI cB cJ σ).set j (a j, .inl (cI, (ak j).2, .inl (upd (σ.1 j) i v))) = wld a cI cB cJ (sM σ j i v) := by
  refine wld_set hj ?_ (fun q hq hne => cel_eq ?_ rfl (Or.inr rfl) (ak_lt q hq))
  · unfold cel; rw [hk]; simp [sM, upd2_eq]
  · show σ.1 q = upd2 σ.1 j i v q
    rw [upd2_ne hne]
theorem wld_sMb {j i : Nat} {v : Int32} (hj : j < 34) (hk : (ak j).1 = 2) : (wld a cI cB cJ σ).set j (a j, .inl (cB, (ak j).2, .inl (upd (σ.1 j) i v))) = wld a cI cB cJ (sM σ j i v) := by
  refine wld_set hj ?_ (fun q hq hne => cel_eq ?_ rfl (Or.inr rfl) (ak_lt q hq))
  · unfold cel; rw [hk]; simp [sM, upd2_eq]
  · show σ.1 q = upd2 σ.1 j i v q
    rw [upd2_ne hne]
theorem wld_sAb {j : Nat} {f : Nat → Int32} (hj : j < 34) (hk : (ak j).1 = 2) : (wld a cI cB cJ σ).set j (a j, .inl (cB, (ak j).2, .inl f)) = wld a cI cB cJ (sA σ j f) := by
  refine wld_set hj ?_ (fun q hq hne => cel_eq ?_ rfl (Or.inr rfl) (ak_lt q hq))
  · unfold cel; rw [hk]; simp [sA]
  · show σ.1 q = (if q = j then f else σ.1 q)
    rw [if_neg hne]
theorem wld_sO {j i : Nat} {v : Int64} (hj : j < 34) (hk : (ak j).1 = 3) : (wld a cI cB cJ σ).set j (a j, .inl (cJ, (ak j).2, .inr (.inl (vp_updL σ.2.2 i v)))) = wld a cI cB cJ (sO σ i v) := by
  refine wld_set hj ?_ (fun q hq hne => cel_eq rfl rfl (Or.inl ?_) (ak_lt q hq))
  · unfold cel; rw [hk]; rfl
  · have hone : ∀ q, q < 34 → (ak q).1 = 3 → q = 33 := by decide +kernel
    intro h
    exact hne ((hone q hq h).trans (hone j hj hk).symm)
/-- a number stored in a field -/
theorem fvs_sM {j k : Nat} {v : Int32} (hk : k < (fl j).length) (h0 : (fg (fl j) k).1 = 0 ∨ (fg (fl j) k).1 = 1) : (fvs a σ j).set k (.int v) = fvs a (sM σ j k v) j := by
  apply List.ext_getElem?
  intro i
  by_cases hik : k = i
  · subst hik
    rw [List.getElem?_set_self (by rw [fvs_len]; exact hk), fvs_at hk]
    have e : (sM σ j k v).1 j k = v := by simp [sM, upd2, upd]
    generalize fg (fl j) k = q at h0
    obtain ⟨q1, q2⟩ := q
    simp only at h0
    rcases h0 with rfl | rfl <;> simp [fv, e]
  · rw [List.getElem?_set_ne hik]
    by_cases hi : i < (fl j).length
    · rw [fvs_at hi, fvs_at hi]
      have e : (sM σ j k v).1 j i = σ.1 j i := by simp [sM, upd2, upd, Ne.symm hik]
      have e2 : (sM σ j k v).2 = σ.2 := rfl
      simp only [fv, e, e2]
    · simp [fvs, hi]
theorem fvs_sR {j k r : Nat} (hk : k < (fl j).length) (h0 : (fg (fl j) k).1 = 3) : (fvs a σ j).set k (.ref (a r)) = fvs a (sR σ j k r) j := by
  apply List.ext_getElem?
  intro i
  by_cases hik : k = i
  · subst hik
    rw [List.getElem?_set_self (by rw [fvs_len]; exact hk), fvs_at hk]
    generalize fg (fl j) k = q at h0
    obtain ⟨q1, q2⟩ := q
    simp only at h0
    subst h0
    simp [fv, sR]
  · rw [List.getElem?_set_ne hik]
    by_cases hi : i < (fl j).length
    · rw [fvs_at hi, fvs_at hi]
      have e : (sR σ j k r).2.1 j i = σ.2.1 j i := by simp [sR, Ne.symm hik]
      have e2 : (sR σ j k r).1 = σ.1 := rfl
      simp only [fv, e, e2]
    · simp [fvs, hi]
theorem wld_sF {j k : Nat} {v : Int32} (hj : j < 34) (hz : (ak j).1 = 0) (hk : k < (fl j).length) (h0 : (fg (fl j) k).1 = 0 ∨ (fg (fl j) k).1 = 1) : (wld a cI cB cJ σ).set j (a j, .inr (oc j, (fvs a σ j).set k (.int v))) = wld a cI cB cJ (sM σ j k v) := by
  refine wld_set hj ?_ (fun q hq hne => cel_eq ?_ rfl (Or.inr rfl) (ak_lt q hq))
  · unfold cel; rw [hz, fvs_sM hk h0]; rfl
  · show σ.1 q = upd2 σ.1 j k v q
    rw [upd2_ne hne]
theorem wld_sR {j k r : Nat} (hj : j < 34) (hz : (ak j).1 = 0) (hk : k < (fl j).length) (h0 : (fg (fl j) k).1 = 3) : (wld a cI cB cJ σ).set j (a j, .inr (oc j, (fvs a σ j).set k (.ref (a r)))) = wld a cI cB cJ (sR σ j k r) := by
  refine wld_set hj ?_ (fun q hq hne => cel_eq rfl ?_ (Or.inr rfl) (ak_lt q hq))
  · unfold cel; rw [hz, fvs_sR hk h0]; rfl
  · funext n
    show σ.2.1 q n = (if q = j ∧ n = k then r else σ.2.1 q n)
    rw [if_neg (fun h => hne h.1)]
theorem wld_D {A : Nat → Prop} (h : va_D A (wld a cI cB cJ σ)) (τ : Sg) : va_D A (wld a cI cB cJ τ) := by
  have key : ∀ (k : Nat) (q : Nat × va_E), (wld a cI cB cJ τ)[k]? = some q → k < 34 ∧ q.1 = a k := by
    intro k q hq
    by_cases hk : k < 34
    · rw [wld_at hk] at hq; cases hq; exact ⟨hk, rfl⟩
    · rw [wld_ge (Nat.le_of_not_lt hk)] at hq; cases hq
  refine ⟨fun i j x y hx hy hxy => ?_, fun k q hq => ?_⟩
  · obtain ⟨h1, e1⟩ := key i x hx
    obtain ⟨h2, e2⟩ := key j y hy
    exact h.1 i j _ _ (wld_at h1) (wld_at h2) (by rw [← e1, ← e2]; exact hxy)
  · obtain ⟨h1, e1⟩ := key k q hq
    rw [e1]
    exact h.2 k _ (wld_at h1)
end WL
/-! the locals -/
def Lv (a : Nat → Nat) (ls : Array Slot) (nL : Nat) (l : Lc) : Prop := l.length = nL ∧ ls.size = nL ∧ lv_wf ls ∧ ∀ i v, gl l i = some v → ls[i]? = some (.val (cv a v))
def prs (a : Nat → Nat) (nL : Nat) (l : Lc) : List (Nat × Value) := (List.range nL).filterMap (fun i => (gl l i).map (fun v => (i, cv a v)))
theorem gl_len {l : Lc} {i : Nat} {v : Value} (h : gl l i = some v) : i < l.length := by
  induction l generalizing i with
  | nil => simp [gl] at h
  | cons x xs ih =>
    cases i with
    | zero => simp
    | succ n => simp only [gl] at h; have := ih h; simp; omega
theorem gl_ml {l : Lc} {k i : Nat} {f : Option Value → Option Value} : gl (ml l k f) i = if i = k ∧ k < l.length then f (gl l i) else gl l i := by
  induction l generalizing k i with
  | nil => simp [ml, gl]
  | cons x xs ih =>
    cases k with
    | zero => cases i with
      | zero => simp [ml, gl]
      | succ n => simp [ml, gl]
    | succ k => cases i with
      | zero => simp [ml, gl]
      | succ n => simp only [ml, gl, ih]; simp
theorem ml_len {l : Lc} {k : Nat} {f : Option Value → Option Value} : (ml l k f).length = l.length := by
  induction l generalizing k with
  | nil => simp [ml]
  | cons x xs ih => cases k with
    | zero => simp [ml]
    | succ k => simp [ml, ih]
theorem st1_len {l : Lc} {k : Nat} {o : Option Value} : (st1 l k o).length = l.length := by
  cases k <;> simp [st1, ml_len]
theorem st2_len {l : Lc} {k : Nat} {o : Option Value} : (st2 l k o).length = l.length := by simp [st2, ml_len, st1_len]
theorem kl_some {o : Option Value} {v : Value} (h : kl o = some v) : o = some v ∧ v.category = 1 := by
  unfold kl at h
  split at h <;> simp_all
  subst h
  rename_i v h1 h2
  cases v <;> simp_all [Value.category]
theorem st1_at {l : Lc} {k i : Nat} {o : Option Value} {v : Value} (h : gl (st1 l k o) i = some v) : (i = k ∧ o = some v) ∨ (i ≠ k ∧ gl l i = some v ∧ (i + 1 = k → v.category = 1)) := by
  have hl := gl_len h
  rw [st1_len] at hl
  cases k with
  | zero =>
    simp only [st1, gl_ml] at h
    split at h
    · rename_i q; exact Or.inl ⟨q.1, h⟩
    · rename_i q
      by_cases hi : i = 0
      · subst hi; exact absurd ⟨rfl, hl⟩ q
      · exact Or.inr ⟨hi, h, fun z => absurd z (by omega)⟩
  | succ k =>
    simp only [st1, gl_ml, ml_len] at h
    split at h
    · rename_i q; exact Or.inl ⟨q.1, h⟩
    · rename_i q
      have hik : i ≠ k + 1 := fun z => q ⟨z, by omega⟩
      split at h
      · rename_i q2
        obtain ⟨h1, h2⟩ := kl_some h
        exact Or.inr ⟨hik, h1, fun _ => h2⟩
      · rename_i q2
        refine Or.inr ⟨hik, h, fun z => ?_⟩
        exact absurd ⟨by omega, by omega⟩ q2
theorem prs_in {a : Nat → Nat} {nL : Nat} {l : Lc} {i : Nat} {v : Value} (hn : l.length = nL) (h : gl l i = some v) : (i, cv a v) ∈ prs a nL l := by
  refine List.mem_filterMap.mpr ⟨i, ?_, by rw [h]; rfl⟩
  rw [List.mem_range, ← hn]
  exact gl_len h
theorem prs_has {a : Nat → Nat} {ls : Array Slot} {nL : Nat} {l : Lc} (h : Lv a ls nL l) : lv_has ls nL (prs a nL l) := by
  refine ⟨h.2.1, h.2.2.1, fun q hq => ?_⟩
  obtain ⟨i, -, hi⟩ := List.mem_filterMap.mp hq
  cases hg : gl l i with
  | none => rw [hg] at hi; cases hi
  | some v =>
    rw [hg] at hi
    cases hi
    exact h.2.2.2 i v hg
theorem Lv_st1 {a : Nat → Nat} {ls' : Array Slot} {nL i : Nat} {l : Lc} {v : Value} (hn : l.length = nL) (h : lv_has ls' nL ((i, cv a v) :: (prs a nL l).filter (fun q => !(q.1 == i) && !(q.1 + 1 == i && q.2.category == 2)))) : Lv a ls' nL (st1 l i (some v)) := by
  refine ⟨by rw [st1_len]; exact hn, h.1, h.2.1, fun j w hw => ?_⟩
  rcases st1_at hw with ⟨rfl, e⟩ | ⟨h1, h2, h3⟩
  · cases e
    exact h.2.2 _ List.mem_cons_self
  · refine h.2.2 (j, cv a w) (List.mem_cons_of_mem _ (List.mem_filter.mpr ⟨prs_in hn h2, ?_⟩))
    by_cases hj : j + 1 = i
    · simp [h1, cv_cat, h3 hj]
    · simp [h1, hj]
theorem Lv_st2 {a : Nat → Nat} {ls' : Array Slot} {nL i : Nat} {l : Lc} {v : Value} (hn : l.length = nL) (h : lv_has ls' nL ((i, cv a v) :: (prs a nL l).filter (fun q => !(q.1 == i) && (!(q.1 == i + 1) && !(q.1 + 1 == i && q.2.category == 2))))) : Lv a ls' nL (st2 l i (some v)) := by
  refine ⟨by rw [st2_len]; exact hn, h.1, h.2.1, fun j w hw => ?_⟩
  have hl := gl_len hw
  rw [st2_len] at hl
  simp only [st2, gl_ml, st1_len] at hw
  split at hw
  · cases hw
  · rename_i q
    have hj1 : j ≠ i + 1 := fun z => q ⟨z, by omega⟩
    rcases st1_at hw with ⟨rfl, e⟩ | ⟨h1, h2, h3⟩
    · cases e
      exact h.2.2 _ List.mem_cons_self
    · refine h.2.2 (j, cv a w) (List.mem_cons_of_mem _ (List.mem_filter.mpr ⟨prs_in hn h2, ?_⟩))
      by_cases hj : j + 1 = i
      · simp [h1, hj1, cv_cat, h3 hj]
      · simp [h1, hj1, hj]
/-- a local forgotten -/
theorem Lv_none {a : Nat → Nat} {ls' : Array Slot} {nL i : Nat} {l : Lc} {w0 : Value} (hn : l.length = nL) (h : lv_has ls' nL ((i, w0) :: (prs a nL l).filter (fun q => !(q.1 == i) && !(q.1 + 1 == i && q.2.category == 2)))) : Lv a ls' nL (st1 l i none) := by
  refine ⟨by rw [st1_len]; exact hn, h.1, h.2.1, fun j w hw => ?_⟩
  rcases st1_at hw with ⟨rfl, e⟩ | ⟨h1, h2, h3⟩
  · cases e
  · refine h.2.2 (j, cv a w) (List.mem_cons_of_mem _ (List.mem_filter.mpr ⟨prs_in hn h2, ?_⟩))
    by_cases hj : j + 1 = i
    · simp [h1, cv_cat, h3 hj]
    · simp [h1, hj]
end
section
/-! ===== what stands fast: statics, string constants; the words that all methods share ===== -/
def Tw : List Cond := lw_tbl.filter goodWord
theorem tw_in {w : Cond} (h : w ∈ lw_tbl) (hg : goodWord w = true) : w ∈ Tw := List.mem_filter.mpr ⟨h, hg⟩
theorem tw_good : ∀ w ∈ Tw, (w.onTables && w.keeps) = true ∨ ∃ ty, w = .arrayClass ty := fun _ h => good_of_word (List.mem_filter.mp h).2
def wn (w : Nat) : String := match w with
  | 40 => "NULL_WORD"
  | 41 => "TRUE_WORD"
  | 42 => "FALSE_WORD"
  | 43 => "REFERENCE_WORD"
  | 44 => "BEGIN_WORD"
  | 45 => "END_WORD"
  | _ => "STREAM_WORD"
/-- the model's string constants: entry, text, cell -/
def strT : List (Nat × String × Nat) := [(205, "null", 60), (207, "true", 61), (209, "false", 62), (186, "R", 63), (253, "obj", 64), (262, "endobj", 65), (264, "stream", 66), (312, "[", 67), (314, "<<", 68), (316, " R", 69), (318, "]", 70), (320, ">>", 71)]
def bytS : List (List Int32) := [[110, 117, 108, 108], [116, 114, 117, 101], [102, 97, 108, 115, 101], [82], [111, 98, 106], [101, 110, 100, 111, 98, 106], [115, 116, 114, 101, 97, 109], [91], [60, 60], [32, 82], [93], [62, 62]]
def lenS : List Nat := [4, 4, 5, 1, 3, 6, 6, 1, 2, 2, 1, 2]
def exT : List (Nat × String) := [(52, "the tape has no such byte"), (59, "a byte is 0 .. 255"), (66, "less than no bytes"), (169, "the tape has no such place"), (175, "the store has no such node"), (150, "less than no nodes"), (158, "in the midst of an object")]
def isNest (w : Cond) : Bool := match w with
  | .fieldLinkNest _ _ _ _ _ _ => true
  | .castable _ _ => true
  | .declares _ => true
  | _ => false
abbrev AN (N0 : Nat) : Nat → Prop := fun q => N0 ≤ q
def Stt (a : Nat → Nat) (N0 : Nat) (U : State) (H : Heap) : Prop :=
  (∀ w, 40 ≤ w → w < 47 → va_Z "SheetObjects" (wn w) "[B" (.ref (a w)) (AN N0) U H ∧ va_T .byte (a w) (ak w).2 (fun i => .int ((wb w).getD i 0)) (AN N0) U H) ∧
  vk_S 12 lenS bytS (fun i => a (60 + i)) (fun i => a (80 + i)) (AN N0) U H ∧
  (∀ q ∈ strT, vk_R "SheetObjectsModel" q.1 q.2.1 (a q.2.2) U) ∧
  (∀ q ∈ exT, ∃ sa, vk_R "SheetObjects" q.1 q.2 sa U) ∧
  va_Z "java/lang/String" "COMPACT_STRINGS" "Z" (.int 1) (AN N0) U H ∧
  vx_Zq Bundle.tN "UNASSIGNED_STACK" Bundle.steD (AN N0) U H ∧ vx_Zq Bundle.tN "SUPPRESSED_SENTINEL" Bundle.listD (AN N0) U H ∧
  va_Zq "jdk/internal/util/Preconditions" "SIOOBE_FORMATTER" "Ljava/util/function/BiFunction;" (AN N0) U H ∧
  (∀ w ∈ lw_tbl, isNest w = true → va_Nw w U)
theorem nest_warm {w : Cond} {s U : State} (hn : isNest w = true) (hW : s.WarmedH U.vm) (h : va_Nw w s) : va_Nw w U := by
  cases w <;> first | exact h.warmF hW | exact h.warmC hW | exact h.warmD hW | (simp [isNest] at hn)
theorem nest_tab {w : Cond} (hn : isNest w = true) : w.onTables = true := by
  cases w <;> first | rfl | (simp [isNest] at hn)
theorem Stt.kept {a : Nat → Nat} {N0 : Nat} {U : State} {H H1 : Heap} (h : Stt a N0 U H) (hq : ∀ q : Nat, q < H.size → ¬ AN N0 q → H1[q]? = H[q]?) : Stt a N0 U H1 := by
  obtain ⟨h1, h2, h3, h4, h5, h6, h7, h8, h9⟩ := h
  exact ⟨fun w g1 g2 => ⟨(h1 w g1 g2).1.kept hq, (h1 w g1 g2).2.kept hq⟩, h2.kept hq, h3, h4, h5.kept hq, h6.kept hq, h7.kept hq, h8.kept hq, h9⟩
theorem Stt.warm {a : Nat → Nat} {N0 : Nat} {s U : State} {H : Heap} (hW : s.WarmedH U.vm) (h : Stt a N0 s H) : Stt a N0 U H := by
  obtain ⟨h1, h2, h3, h4, h5, h6, h7, h8, h9⟩ := h
  have hv := hW.alike
  refine ⟨fun w g1 g2 => ⟨va_Z.moved hv (h1 w g1 g2).1, va_T.moved hv (h1 w g1 g2).2⟩, vk_S.moved hv h2, fun q hq => (h3 q hq).warm hW, fun q hq => ?_, va_Z.moved hv h5, vx_Zq.moved hv h6, vx_Zq.moved hv h7, va_Zq.moved hv h8, fun w hw hn => nest_warm hn hW (h9 w hw hn)⟩
  obtain ⟨sa, hs⟩ := h4 q hq
  exact ⟨sa, hs.warm hW⟩
theorem Stt.same {a : Nat → Nat} {N0 : Nat} {s U : State} {H : Heap} (hv : U.vm = s.vm) (h : Stt a N0 s H) : Stt a N0 U H := by
  obtain ⟨h1, h2, h3, h4, h5, h6, h7, h8, h9⟩ := h
  have ha : s.vm.Alike U.vm := by rw [hv]; exact Vm.Alike.refl _
  refine ⟨fun w g1 g2 => ⟨va_Z.moved ha (h1 w g1 g2).1, va_T.moved ha (h1 w g1 g2).2⟩, vk_S.moved ha h2, fun q hq => (h3 q hq).same hv, fun q hq => ?_, va_Z.moved ha h5, vx_Zq.moved ha h6, vx_Zq.moved ha h7, va_Zq.moved ha h8, fun w hw hn => (h9 w hw hn).same (nest_tab hn) hv.symm⟩
  obtain ⟨sa, hs⟩ := h4 q hq
  exact ⟨sa, hs.same hv⟩
/-! the classes of the cells -/
theorem tw_all {ws : List Cond} (h : ws.all (fun w => decide (w ∈ lw_tbl) && goodWord w) = true) : ∀ w ∈ ws, w ∈ Tw := by
  intro w hw
  have h1 := List.all_eq_true.mp h w hw
  simp only [Bool.and_eq_true, decide_eq_true_eq] at h1
  exact tw_in h1.1 h1.2
def kdOk (q : Nat × Nat) (d : String) : Bool := match q.1 with
  | 0 => d == "I"
  | 1 => d == "Z"
  | 3 => d == "[B"
  | _ => true
def Ci (j : Nat) (C : String) (T : u_T) (N : Nat) (ty0 : Nat → FieldType) : Prop :=
  vwCl[oc j]? = some (C, T, N) ∧ (fl j).length = N ∧ (∀ w ∈ u_ws C T N, w ∈ Tw) ∧ (∀ k, k < N → parseFieldDescriptor (T k).2.2.1 = some (ty0 k)) ∧ (∀ a, a < N → ∀ b, b < N → a ≠ b → (T a).2.1 ≠ (T b).2.1) ∧ ∀ k, k < N → kdOk (fg (fl j) k) (T k).2.2.1 = true
set_option maxRecDepth 100000 in
theorem twX1 : ∀ w ∈ u_ws RX1 TX1 2, w ∈ Tw := tw_all (by decide +kernel)
set_option maxRecDepth 100000 in
theorem twX2 : ∀ w ∈ u_ws RX2 TX2 8, w ∈ Tw := tw_all (by decide +kernel)
set_option maxRecDepth 100000 in
theorem twX3 : ∀ w ∈ u_ws RX3 TX3 13, w ∈ Tw := tw_all (by decide +kernel)
set_option maxRecDepth 100000 in
theorem twX4 : ∀ w ∈ u_ws RX4 TX4 11, w ∈ Tw := tw_all (by decide +kernel)
set_option maxRecDepth 100000 in
theorem twX5 : ∀ w ∈ u_ws RX5 TX5 2, w ∈ Tw := tw_all (by decide +kernel)
set_option maxRecDepth 100000 in
theorem twX6 : ∀ w ∈ u_ws RX6 TX6 6, w ∈ Tw := tw_all (by decide +kernel)
set_option maxRecDepth 100000 in
theorem twX7 : ∀ w ∈ u_ws RX7 TX7 4, w ∈ Tw := tw_all (by decide +kernel)
set_option maxRecDepth 100000 in
theorem twX8 : ∀ w ∈ u_ws RX8 TX8 33, w ∈ Tw := tw_all (by decide +kernel)
theorem cinfo {j : Nat} (hj : j < 8) : ∃ (C : String) (T : u_T) (N : Nat) (ty0 : Nat → FieldType), Ci j C T N ty0 := by
  match j, hj with
  | 0, _ => exact ⟨RX7, TX7, 4, tyX7, rfl, rfl, twX7, tyX7_ok, nmX7, by decide +kernel⟩
  | 1, _ => exact ⟨RX5, TX5, 2, tyX5, rfl, rfl, twX5, tyX5_ok, nmX5, by decide +kernel⟩
  | 2, _ => exact ⟨RX4, TX4, 11, tyX4, rfl, rfl, twX4, tyX4_ok, nmX4, by decide +kernel⟩
  | 3, _ => exact ⟨RX3, TX3, 13, tyX3, rfl, rfl, twX3, tyX3_ok, nmX3, by decide +kernel⟩
  | 4, _ => exact ⟨RX6, TX6, 6, tyX6, rfl, rfl, twX6, tyX6_ok, nmX6, by decide +kernel⟩
  | 5, _ => exact ⟨RX1, TX1, 2, tyX1, rfl, rfl, twX1, tyX1_ok, nmX1, by decide +kernel⟩
  | 6, _ => exact ⟨RX2, TX2, 8, tyX2, rfl, rfl, twX2, tyX2_ok, nmX2, by decide +kernel⟩
  | 7, _ => exact ⟨RX8, TX8, 33, tyX8, rfl, rfl, twX8, tyX8_ok, nmX8, by decide +kernel⟩
theorem oc_j {j : Nat} (h : oc j < 8) : j < 8 ∧ (ak j).1 = 0 := by
  unfold oc at h
  split at h <;> first | exact ⟨by omega, rfl⟩ | (exfalso; omega)
theorem ak_big {j : Nat} (h : 47 ≤ j) : ak j = (0, 0) := by
  unfold ak
  split <;> first | rfl | (exfalso; omega)
theorem ak_in {j : Nat} (h : (ak j).1 = 1 ∨ (ak j).1 = 2 ∨ (ak j).1 = 3) : j < 34 := by
  have key : ∀ j, j < 47 → ((ak j).1 = 1 ∨ (ak j).1 = 2 ∨ (ak j).1 = 3) → j < 34 := by decide +kernel
  by_cases hj : j < 47
  · exact key j hj h
  · rw [ak_big (by omega)] at h; simp at h
theorem ak_st {j : Nat} (h : (ak j).1 = 4) : 40 ≤ j ∧ j < 47 := by
  have key : ∀ j, j < 47 → (ak j).1 = 4 → 40 ≤ j := by decide +kernel
  by_cases hj : j < 47
  · exact ⟨key j hj h, hj⟩
  · rw [ak_big (by omega)] at h; simp at h
theorem ak_no (j : Nat) : (ak j).1 = 0 ∨ ((ak j).1 = 1 ∨ (ak j).1 = 2 ∨ (ak j).1 = 3) ∨ (ak j).1 = 4 := by
  have key : ∀ j, j < 47 → (ak j).1 = 0 ∨ ((ak j).1 = 1 ∨ (ak j).1 = 2 ∨ (ak j).1 = 3) ∨ (ak j).1 = 4 := by decide +kernel
  by_cases hj : j < 47
  · exact key j hj
  · rw [ak_big (by omega)]; exact Or.inl rfl
theorem fg_lt {L : List (Nat × Nat)} {k : Nat} (h : (fg L k).1 ≠ 9) : k < L.length := by
  induction L generalizing k with
  | nil => simp [fg] at h
  | cons x xs ih => cases k with
    | zero => simp
    | succ n => simp only [fg] at h; have := ih h; simp; omega
end
section
/-! ===== a table of instructions held against the code ===== -/
def isSw (i : Instr) : Bool := match i with
  | .tableswitch _ _ _ _ => true
  | .lookupswitch _ _ => true
  | _ => false
def chkD (cc : ByteArray) (pc : Nat) (i : Instr) : Bool := match decode cc pc with
  | .ok (i', n) => decide (i' = i) && (isSw i || decide (n = ln i))
  | .error _ => false
def fldOk (own : String) (idx x y : Nat) (w : Bool) : Bool := match vwCl[x]? with
  | some (_, T, _) => (decide (Cond.fieldLink own idx (T y).1 (T y).2.1 (T y).2.2.1 ∈ lw_tbl) || decide (Cond.fieldLinkNest own idx (T y).1 (T y).2.1 (T y).2.2.1 "SheetObjects" ∈ lw_tbl)) && (!w || !(T y).2.2.2)
  | none => false
def tsw (pc : Nat) : Int → List Int → List (Int × Int)
  | _, [] => []
  | lo, o :: r => (lo, (pc : Int) + o) :: tsw pc (lo + 1) r
def chkA (own : String) (nL : Nat) (sws : Nat → List (Int32 × Nat)) (pc : Nat) (e : Ent) : Bool := match e with
  | (i, x, y, c, d) => match i with
    | .astore_n k => decide (k.val < nL)
    | .astore k => decide (k < nL)
    | .istore_n k => decide (k.val < nL)
    | .istore k => decide (k < nL)
    | .lstore_n k => decide (k.val + 1 < nL)
    | .lstore k => decide (k + 1 < nL)
    | .iinc _ n => decide (Int32.ofInt n = c)
    | .iconst n => decide (Int32.ofInt n = c)
    | .bipush n => decide ((Int8.ofInt n).toInt32 = c)
    | .sipush n => decide ((Int16.ofInt n).toInt32 = c)
    | .lconst n => decide (Int64.ofNat n.val = d)
    | .ldc idx => bif Nat.beq x 0 then decide (Cond.constant own idx c ∈ lw_tbl) else (own == "SheetObjectsModel" && strT.any (fun q => q.1 == idx && q.2.2 == x))
    | .ldc_w idx => (own == "SheetObjectsModel" && strT.any (fun q => q.1 == idx && q.2.2 == x))
    | .ldc2_w idx => decide (Cond.constantLong own idx d ∈ lw_tbl)
    | .goto o => decide ((pc : Int) + o = (x : Int))
    | .if_icmp _ o => decide ((pc : Int) + o = (x : Int))
    | .ifCond _ o => decide ((pc : Int) + o = (x : Int))
    | .getfield idx => decide (x < 8) && fldOk own idx x y false
    | .putfield idx => decide (x < 8) && fldOk own idx x y true
    | .getstatic idx => decide (40 ≤ x) && decide (x < 47) && (decide (Cond.fieldLink own idx "SheetObjects" (wn x) "[B" ∈ lw_tbl) || decide (Cond.fieldLinkNest own idx "SheetObjects" (wn x) "[B" "SheetObjects" ∈ lw_tbl))
    | .tableswitch df lo hi os => decide ((sws pc).map (fun q => (q.1.toInt, (q.2 : Int))) = tsw pc lo os.toList) && decide (hi + 1 = lo + os.toList.length) && decide ((pc : Int) + df = (x : Int))
    | .lookupswitch df ps => decide ((sws pc).map (fun q => (q.1.toInt, (q.2 : Int))) = ps.toList.map (fun q => (q.1, (pc : Int) + q.2))) && (ps.toList.zip (ps.toList.drop 1)).all (fun (a, next) => a.1 < next.1) && decide ((pc : Int) + df = (x : Int))
    | _ => true
def chk (own : String) (cc : ByteArray) (nL : Nat) (sws : Nat → List (Int32 × Nat)) (pc : Nat) (e : Ent) : Bool := chkD cc pc e.1 && chkA own nL sws pc e
theorem chk_d {own : String} {cc : ByteArray} {nL : Nat} {sws : Nat → List (Int32 × Nat)} {pc : Nat} {e : Ent} (h : chk own cc nL sws pc e = true) : ∃ n, decode cc pc = .ok (e.1, n) ∧ (isSw e.1 = false → n = ln e.1) := by
  have h1 : chkD cc pc e.1 = true := (Bool.and_eq_true_iff.mp h).1
  unfold chkD at h1
  split at h1
  · rename_i i' n hd
    simp only [Bool.and_eq_true, Bool.or_eq_true, decide_eq_true_eq] at h1
    obtain ⟨rfl, h2⟩ := h1
    exact ⟨n, hd, fun hs => by rcases h2 with h2 | h2; (· rw [hs] at h2; cases h2); (· exact h2)⟩
  · cases h1
theorem chk_a {own : String} {cc : ByteArray} {nL : Nat} {sws : Nat → List (Int32 × Nat)} {pc : Nat} {e : Ent} (h : chk own cc nL sws pc e = true) : chkA own nL sws pc e = true := (Bool.and_eq_true_iff.mp h).2
/-- the table of a method: entries below N -/
def cutN (N : Nat) (t : Nat → Option Ent) : Nat → Option Ent := fun pc => bif Nat.ble N pc then none else t pc
theorem cutN_chk {N : Nat} {t : Nat → Option Ent} {f : Nat → Ent → Bool} (h : (List.range N).all (fun pc => match t pc with | some e => f pc e | none => true) = true) : ∀ pc e, cutN N t pc = some e → f pc e = true := by
  intro pc e he
  unfold cutN at he
  cases hb : Nat.ble N pc with
  | true => rw [hb] at he; cases he
  | false =>
    rw [hb] at he
    have hlt : pc < N := by
      rcases Nat.lt_or_ge pc N with q | q
      · exact q
      · rw [Nat.ble_eq_true_of_le q] at hb; cases hb
    have h1 := List.all_eq_true.mp h pc (List.mem_range.mpr hlt)
    have he' : t pc = some e := he
    rw [he'] at h1
    exact h1
/-! what a step asks of stack and locals -/
theorem ldI_s {o : Option Value} {k : Int32 → Prop} (h : ldI o k) : ∃ x, o = some (.int x) ∧ k x := by
  unfold ldI at h
  split at h
  · exact ⟨_, rfl, h⟩
  · exact h.elim
theorem ldL_s {o : Option Value} {k : Int64 → Prop} (h : ldL o k) : ∃ x, o = some (.long x) ∧ k x := by
  unfold ldL at h
  split at h
  · exact ⟨_, rfl, h⟩
  · exact h.elim
theorem ldR_s {o : Option Value} {k : Nat → Prop} (h : ldR o k) : ∃ x, o = some (.ref x) ∧ k x := by
  unfold ldR at h
  split at h
  · exact ⟨_, rfl, h⟩
  · exact h.elim
theorem po1_s {st : List Value} {k : Int32 → List Value → Prop} (h : po1 st k) : ∃ x r, st = .int x :: r ∧ k x r := by
  unfold po1 at h
  split at h
  · exact ⟨_, _, rfl, h⟩
  · exact h.elim
theorem po2_s {st : List Value} {k : Int32 → Int32 → List Value → Prop} (h : po2 st k) : ∃ x y r, st = .int y :: .int x :: r ∧ k x y r := by
  unfold po2 at h
  split at h
  · exact ⟨_, _, _, rfl, h⟩
  · exact h.elim
theorem poL_s {st : List Value} {k : Int64 → List Value → Prop} (h : poL st k) : ∃ x r, st = .long x :: r ∧ k x r := by
  unfold poL at h
  split at h
  · exact ⟨_, _, rfl, h⟩
  · exact h.elim
theorem poLL_s {st : List Value} {k : Int64 → Int64 → List Value → Prop} (h : poLL st k) : ∃ x y r, st = .long y :: .long x :: r ∧ k x y r := by
  unfold poLL at h
  split at h
  · exact ⟨_, _, _, rfl, h⟩
  · exact h.elim
theorem poR_s {st : List Value} {k : Nat → List Value → Prop} (h : poR st k) : ∃ x r, st = .ref x :: r ∧ k x r := by
  unfold poR at h
  split at h
  · exact ⟨_, _, rfl, h⟩
  · exact h.elim
theorem sw_s {x : Int32} {k : Nat → Prop} {d : Nat} : ∀ {L : List (Int32 × Nat)}, sw x L k d → (∃ (n : Nat) (q : Int32 × Nat), L[n]? = some q ∧ x = q.1 ∧ k q.2 ∧ ∀ (n' : Nat) (q' : Int32 × Nat), n' < n → L[n']? = some q' → ¬ x = q'.1) ∨ ((∀ q ∈ L, ¬ x = q.1) ∧ k d) := by
  intro L
  induction L with
  | nil => intro h; exact Or.inr ⟨fun q hq => (nomatch hq), h⟩
  | cons z r ih =>
    intro h
    obtain ⟨v, t⟩ := z
    by_cases hx : x = v
    · exact Or.inl ⟨0, (v, t), rfl, hx, h.1 hx, fun n' q' hn => absurd hn (Nat.not_lt_zero _)⟩
    · rcases ih (h.2 hx) with ⟨n, q, h1, h2, h3, h4⟩ | ⟨h1, h2⟩
      · refine Or.inl ⟨n + 1, q, by simpa using h1, h2, h3, fun n' q' hn hq => ?_⟩
        cases n' with
        | zero => simp at hq; rw [← hq]; exact hx
        | succ m => exact h4 m q' (by omega) (by simpa using hq)
      · refine Or.inr ⟨fun q hq => ?_, h2⟩
        rcases List.mem_cons.mp hq with e | hq
        · rw [e]; exact hx
        · exact h1 q hq
theorem tsw_at {pc : Nat} : ∀ {os : List Int} {lo : Int} {n : Nat} {q : Int × Int}, (tsw pc lo os)[n]? = some q → q.1 = lo + n ∧ ∃ o, os[n]? = some o ∧ q.2 = (pc : Int) + o := by
  intro os
  induction os with
  | nil => intro lo n q h; simp [tsw] at h
  | cons o r ih =>
    intro lo n q h
    cases n with
    | zero => simp [tsw] at h; subst h; exact ⟨by simp, o, rfl, rfl⟩
    | succ n =>
      simp only [tsw, List.getElem?_cons_succ] at h
      obtain ⟨h1, o', h2, h3⟩ := ih h
      exact ⟨by rw [h1]; push_cast; omega, o', by simpa using h2, h3⟩
theorem tsw_len {pc : Nat} : ∀ {os : List Int} {lo : Int}, (tsw pc lo os).length = os.length := by
  intro os
  induction os with
  | nil => intro lo; rfl
  | cons o r ih => intro lo; simp [tsw, ih]
end
section
/-! ===== A STEP OF THE ABSTRACT MACHINE IS A STEP OF THE MACHINE ===== -/
section Snd
variable {p : Program} {l : Launch} {e : Env} {R : Room} {s : State} {m : MethodId} {args : Array Value} {below : List Frame} {meth : Method} {c : Code} {Z : State → Prop}
variable {cc : ByteArray} {nL mc N0 : Nat} {a : Nat → Nat} {D : va_G} {cI cB cJ : ClassId} {own : String}
/-- what stands fast in a method -/
def Cx (p : Program) (s : State) (m : MethodId) (args : Array Value) (c : Code) (cc : ByteArray) (nL N0 : Nat) (a : Nat → Nat) (D : va_G) (cI cB cJ : ClassId) (own : String) : Prop :=
  p.tables.exec = Jvm.exec ∧ c.code = cc ∧ c.maxLocals = nL ∧ s.vm.findClass own = some m.cls ∧ (∀ w ∈ Tw, w.before args s = true) ∧ va_K D vwCl (tys3 cI cB cJ) s ∧ (∀ σ, va_D (AN N0) (wld a cI cB cJ σ)) ∧ Stt a N0 s s.heap ∧ N0 ≤ s.heap.size
/-- the machine at pc, with these locals, this stack, this state -/
def Im (p : Program) (l : Launch) (e : Env) (R : Room) (s : State) (m : MethodId) (args : Array Value) (below : List Frame) (meth : Method) (c : Code) (Z : State → Prop) (nL mc N0 : Nat) (a : Nat → Nat) (D : va_G) (cI cB cJ : ClassId) : Jt := fun T pc lc st σ =>
  T ≤ mc → ∀ (H : Heap) (locs : List Loc) (ls : Array Slot), va_P D vwCl (wld a cI cB cJ σ) H → va_S (AN N0) s.heap H locs → Lv a ls nL lc → W p l e R s m args below meth c H locs T (6 * T) Z (F0 m pc ls (st.map (cv a)))
/-- a call at pc of n arguments, that may make k things, does P -/
def COk (p : Program) (l : Launch) (e : Env) (R : Room) (s : State) (m : MethodId) (args : Array Value) (below : List Frame) (meth : Method) (c : Code) (Z : State → Prop) (nL mc N0 : Nat) (a : Nat → Nat) (D : va_G) (cI cB cJ : ClassId) (pc n k : Nat) (P : Ct) : Prop :=
  ∀ (T : Nat) (av rest : List Value) (σ : Sg) (Q : Po) (X : Xo) (H : Heap) (locs : List Loc) (ls : Array Slot), av.length = n → rest.length ≤ 4 → T + k ≤ mc → ls.size = nL → P av σ Q X → va_P D vwCl (wld a cI cB cJ σ) H → va_S (AN N0) s.heap H locs →
    (∀ (r : Option Value) (τ : Sg) (H1 : Heap) (locs1 : List Loc), Q r τ → va_P D vwCl (wld a cI cB cJ τ) H1 → va_S (AN N0) s.heap H1 locs1 → W p l e R s m args below meth c H1 locs1 (T + k) (6 * (T + k)) Z (F0 m (pc + 3) ls ((r.toList ++ rest).map (cv a)))) →
    (∀ (E : String) (τ : Sg) (H1 : Heap) (locs1 : List Loc) (q : Addr) (ce : Cell), X E τ → va_P D vwCl (wld a cI cB cJ τ) H1 → va_S (AN N0) s.heap H1 locs1 → H1[q]? = some ce → ce.vm = .none → s.vm.findClass E = some ce.cls → vx_W p l e R s m args below meth c H1 locs1 (T + k) (6 * (T + k)) Z (F0 m pc ls (rest.map (cv a))) q) →
    W p l e R s m args below meth c H locs T (6 * T) Z (F0 m pc ls ((av.reverse ++ rest).map (cv a)))
/-- an ldc_w of a string -/
theorem va_ldcSW (hexec : p.tables.exec = Jvm.exec) (hb : c.code = cc) {H : Heap} {locs : List Loc} {cells slots pc : Nat} {Q : State → Prop} {ls : Array Slot} {rest : List Value} {own tx : String} {index q : Nat} (hown : s.vm.findClass own = some m.cls) (hZ : vk_R own index tx q s) (hdg : decode cc pc = .ok (.ldc_w index, 3))
    (k : W p l e R s m args below meth c H locs cells slots Q (F0 m (pc + 3) ls (.ref q :: rest))) : W p l e R s m args below meth c H locs cells slots Q (F0 m pc ls rest) := by
  intro T hT X
  obtain ⟨t, a1, b1⟩ := k T hT X
  exact ⟨t, X.ldcStringW hexec hown (text := tx) (a := q) hZ.1 hZ.2 (g := F0 m pc ls rest) rfl (by rw [hb]; exact hdg) t a1, b1⟩
theorem gF_s {σ : Sg} {j x y : Nat} {k : Value → Prop} (h : gF σ j x y k) : oc j = x ∧ y < (fl j).length ∧ ∃ v, k v ∧ fv a σ j y (fg (fl j) y) = cv a v := by
  unfold gF at h
  cases hb : Nat.beq (oc j) x with
  | false => rw [hb] at h; exact h.elim
  | true =>
    rw [hb] at h
    refine ⟨Nat.eq_of_beq_eq_true hb, ?_⟩
    simp only [cond_true] at h
    split at h
    · rename_i r hq; rw [hq]; exact ⟨fg_lt (by rw [hq]; simp), _, h, rfl⟩
    · rename_i r hq; rw [hq]; exact ⟨fg_lt (by rw [hq]; simp), _, h, rfl⟩
    · rename_i r hq; rw [hq]; exact ⟨fg_lt (by rw [hq]; simp), _, h, rfl⟩
    · rename_i r hq; rw [hq]; exact ⟨fg_lt (by rw [hq]; simp), _, h, rfl⟩
    · exact h.elim
theorem pF_s {σ : Sg} {j x y : Nat} {v : Value} {k : Sg → Prop} (h : pF σ j x y v k) : oc j = x ∧ y < (fl j).length ∧ ((∃ z, v = .int z ∧ ((fg (fl j) y).1 = 0 ∨ ((fg (fl j) y).1 = 1 ∧ (z = 0 ∨ z = 1))) ∧ k (sM σ j y z)) ∨ ∃ r, v = .ref r ∧ (fg (fl j) y).1 = 3 ∧ k (sR σ j y r)) := by
  unfold pF at h
  cases hb : Nat.beq (oc j) x with
  | false => rw [hb] at h; exact h.elim
  | true =>
    rw [hb] at h
    refine ⟨Nat.eq_of_beq_eq_true hb, ?_⟩
    simp only [cond_true] at h
    split at h
    · rename_i r z hq; rw [hq]; exact ⟨fg_lt (by rw [hq]; simp), Or.inl ⟨_, rfl, Or.inl rfl, h⟩⟩
    · rename_i r z hq; rw [hq]; exact ⟨fg_lt (by rw [hq]; simp), Or.inl ⟨_, rfl, Or.inr ⟨rfl, h.1⟩, h.2⟩⟩
    · rename_i r z hq; rw [hq]; exact ⟨fg_lt (by rw [hq]; simp), Or.inr ⟨_, rfl, rfl, h⟩⟩
    · exact h.elim
theorem fld_s {own : String} {idx x y : Nat} {w : Bool} {C : String} {T : u_T} {N : Nat} (hc : vwCl[x]? = some (C, T, N)) (h : fldOk own idx x y w = true) (hts : ∀ w ∈ Tw, w.before args s = true) (hnw : ∀ w ∈ lw_tbl, isNest w = true → va_Nw w s) :
    ((Cond.fieldLink own idx (T y).1 (T y).2.1 (T y).2.2.1).before args s = true ∨ (Cond.fieldLinkNest own idx (T y).1 (T y).2.1 (T y).2.2.1 "SheetObjects").before args s = true) ∧ (w = true → (T y).2.2.2 = false) := by
  unfold fldOk at h
  rw [hc] at h
  simp only [Bool.and_eq_true, Bool.or_eq_true, decide_eq_true_eq] at h
  obtain ⟨h1, h2⟩ := h
  refine ⟨?_, fun hw => ?_⟩
  · rcases h1 with h1 | h1
    · exact Or.inl (hts _ (tw_in h1 rfl))
    · exact Or.inr (va_Nw.use rfl (hnw _ h1 rfl))
  · subst hw
    simpa using h2
/-- one array cell of the world -/
theorem wld_ai {σ : Sg} {j : Nat} (h : (ak j).1 = 1) : (wld a cI cB cJ σ)[j]? = some (a j, .inl (cI, (ak j).2, .inl (σ.1 j))) := by
  rw [wld_at (ak_in (Or.inl h))]; unfold cel; rw [h]; rfl
theorem wld_ab {σ : Sg} {j : Nat} (h : (ak j).1 = 2) : (wld a cI cB cJ σ)[j]? = some (a j, .inl (cB, (ak j).2, .inl (σ.1 j))) := by
  rw [wld_at (ak_in (Or.inr (Or.inl h)))]; unfold cel; rw [h]; rfl
theorem wld_aj {σ : Sg} {j : Nat} (h : (ak j).1 = 3) : (wld a cI cB cJ σ)[j]? = some (a j, .inl (cJ, (ak j).2, .inr (.inl σ.2.2))) := by
  rw [wld_at (ak_in (Or.inr (Or.inr h)))]; unfold cel; rw [h]; rfl
theorem wld_ao {σ : Sg} {j : Nat} (h : oc j < 8) : (wld a cI cB cJ σ)[j]? = some (a j, .inr (oc j, fvs a σ j)) := by
  obtain ⟨h1, h2⟩ := oc_j h
  rw [wld_at (by omega)]; unfold cel; rw [h2]; rfl
variable {tb : Nat → Option Ent} {ce : Nat → Nat × Ct} {hd : Nat → String → Option (Nat × Nat)} {sc : Nat × (Nat → Int32)} {xn : Nat → String} {sws : Nat → List (Int32 × Nat)} {Rt : Option Value → Nat → Sg → Prop} {Xt : String → Nat → Sg → Prop}
set_option maxHeartbeats 4000000 in
set_option maxRecDepth 100000 in
theorem sound (C0 : Cx p s m args c cc nL N0 a D cI cB cJ own) (hchk : ∀ pc en, tb pc = some en → chk own cc nL sws pc en = true)
    (hcall : ∀ pc i x y c' d, tb pc = some (i, x, y, c', d) → (∃ k, i = .invokevirtual k ∨ i = .invokestatic k) → COk p l e R s m args below meth c Z nL mc N0 a D cI cB cJ pc y (ce x).1 (ce x).2)
    (hsc : ∀ pc i y c' d, tb pc = some (i, 1, y, c', d) → i = .iaload ∨ i = .arraylength → va_X (a 50) sc.1 sc.2 s s.heap ∧ a 50 < N0)
    (hhand : ∀ (pc : Nat) (E : String) (h k T : Nat) (lc : Lc) (rest : List Value) (H1 : Heap) (locs1 : List Loc) (ls : Array Slot) (q : Addr) (ce : Cell), hd pc E = some (h, k) → H1[q]? = some ce → ce.vm = .none → s.vm.findClass E = some ce.cls → Lv a ls nL lc →
      (∀ ls' : Array Slot, Lv a ls' nL (st1 lc k none) → W p l e R s m args below meth c H1 locs1 T (6 * T) Z (F0 m h ls' [])) → vx_W p l e R s m args below meth c H1 locs1 T (6 * T) Z (F0 m pc ls rest) q)
    (hout : ∀ (pc : Nat) (E : String) (T : Nat) (τ : Sg) (rest : List Value) (H1 : Heap) (locs1 : List Loc) (ls : Array Slot) (q : Addr) (ce : Cell), hd pc E = none → Xt E T τ → T ≤ mc → va_P D vwCl (wld a cI cB cJ τ) H1 → va_S (AN N0) s.heap H1 locs1 → H1[q]? = some ce → ce.vm = .none → s.vm.findClass E = some ce.cls → vx_W p l e R s m args below meth c H1 locs1 T (6 * T) Z (F0 m pc ls rest) q)
    (hthrow : ∀ (pc k x y : Nat) (c' : Int32) (d : Int64) (T : Nat) (σ : Sg) (H : Heap) (locs : List Loc) (ls : Array Slot), tb pc = some (.new k, x, y, c', d) → Xt (xn pc) (T + 1) σ → T + 1 ≤ mc → ls.size = nL → va_P D vwCl (wld a cI cB cJ σ) H → va_S (AN N0) s.heap H locs → W p l e R s m args below meth c H locs T (6 * T) Z (F0 m pc ls []))
    (hri : ∀ (pc x y : Nat) (c' : Int32) (d : Int64) (v : Int32) (T : Nat) (σ : Sg) (H : Heap) (locs : List Loc) (ls : Array Slot), tb pc = some (.ireturn, x, y, c', d) → decode cc pc = .ok (.ireturn, 1) → Rt (some (.int v)) T σ → T ≤ mc → va_P D vwCl (wld a cI cB cJ σ) H → va_S (AN N0) s.heap H locs → W p l e R s m args below meth c H locs T (6 * T) Z (F0 m pc ls [.int v]))
    (hrl : ∀ (pc x y : Nat) (c' : Int32) (d : Int64) (v : Int64) (T : Nat) (σ : Sg) (H : Heap) (locs : List Loc) (ls : Array Slot), tb pc = some (.lreturn, x, y, c', d) → decode cc pc = .ok (.lreturn, 1) → Rt (some (.long v)) T σ → T ≤ mc → va_P D vwCl (wld a cI cB cJ σ) H → va_S (AN N0) s.heap H locs → W p l e R s m args below meth c H locs T (6 * T) Z (F0 m pc ls [.long v]))
    (hrv : ∀ (pc x y : Nat) (c' : Int32) (d : Int64) (T : Nat) (σ : Sg) (H : Heap) (locs : List Loc) (ls : Array Slot), tb pc = some (.return_, x, y, c', d) → decode cc pc = .ok (.return_, 1) → Rt none T σ → T ≤ mc → va_P D vwCl (wld a cI cB cJ σ) H → va_S (AN N0) s.heap H locs → W p l e R s m args below meth c H locs T (6 * T) Z (F0 m pc ls [])) :
    Cl (Step tb ce hd sc xn mc sws Rt Xt) (Im p l e R s m args below meth c Z nL mc N0 a D cI cB cJ) := by
  obtain ⟨hx, hb, hml, hown, hts, hK, hDD, hst, hN⟩ := C0
  intro J hJ T pc lc st σ h hT H locs ls hP hS hL
  have hD := hDD σ
  unfold Step at h
  cases hE : tb pc with
  | none => rw [hE] at h; exact h.elim
  | some en =>
    obtain ⟨i, x, y, c', d⟩ := en
    rw [hE] at h
    have hk := hchk pc _ hE
    obtain ⟨n, hdn, hln⟩ := chk_d hk
    have hA := chk_a hk
    have go : ∀ {T pc lc st σ}, J T pc lc st σ → T ≤ mc → ∀ {H : Heap} {locs : List Loc} {ls : Array Slot}, va_P D vwCl (wld a cI cB cJ σ) H → va_S (AN N0) s.heap H locs → Lv a ls nL lc → W p l e R s m args below meth c H locs T (6 * T) Z (F0 m pc ls (st.map (cv a))) := fun h hT _ _ _ hP hS hL => hJ _ _ _ _ _ h hT _ _ _ hP hS hL
    cases i
    case aload_n k =>
      cases hln rfl
      obtain ⟨j, hg, h⟩ := ldR_s h
      exact lv_aload_n hx hb hdn rfl (hL.2.2.2 _ _ hg) (go h hT hP hS hL)
    case aload k =>
      cases hln rfl
      obtain ⟨j, hg, h⟩ := ldR_s h
      exact lv_aload hx hb hdn (hL.2.2.2 _ _ hg) (go h hT hP hS hL)
    case iload_n k =>
      cases hln rfl
      obtain ⟨j, hg, h⟩ := ldI_s h
      exact lv_iload_n hx hb hdn rfl (hL.2.2.2 _ _ hg) (go h hT hP hS hL)
    case iload k =>
      cases hln rfl
      obtain ⟨j, hg, h⟩ := ldI_s h
      exact lv_iload hx hb hdn (hL.2.2.2 _ _ hg) (go h hT hP hS hL)
    case lload_n k =>
      cases hln rfl
      obtain ⟨j, hg, h⟩ := ldL_s h
      exact lv_lload_n hx hb hdn rfl (hL.2.2.2 _ _ hg) (go h hT hP hS hL)
    case lload k =>
      cases hln rfl
      obtain ⟨j, hg, h⟩ := ldL_s h
      exact lv_lload hx hb hdn (hL.2.2.2 _ _ hg) (go h hT hP hS hL)
    case astore_n k =>
      cases hln rfl
      obtain ⟨j, r, rfl, h⟩ := poR_s h
      exact lv_astore_n hx hb hdn rfl (prs_has hL) (of_decide_eq_true hA) rfl (fun ls' hl' => go h hT hP hS (Lv_st1 (v := .ref j) hL.1 hl'))
    case astore k =>
      cases hln rfl
      obtain ⟨j, r, rfl, h⟩ := poR_s h
      exact lv_astore hx hb hdn (prs_has hL) (of_decide_eq_true hA) rfl (fun ls' hl' => go h hT hP hS (Lv_st1 (v := .ref j) hL.1 hl'))
    case istore_n k =>
      cases hln rfl
      obtain ⟨j, r, rfl, h⟩ := po1_s h
      exact lv_istore_n hx hb hdn rfl (prs_has hL) (of_decide_eq_true hA) rfl (fun ls' hl' => go h hT hP hS (Lv_st1 (v := .int j) hL.1 hl'))
    case istore k =>
      cases hln rfl
      obtain ⟨j, r, rfl, h⟩ := po1_s h
      exact lv_istore hx hb hdn (prs_has hL) (of_decide_eq_true hA) rfl (fun ls' hl' => go h hT hP hS (Lv_st1 (v := .int j) hL.1 hl'))
    case lstore_n k =>
      cases hln rfl
      obtain ⟨j, r, rfl, h⟩ := poL_s h
      exact lv_lstore_n hx hb hdn rfl (prs_has hL) (of_decide_eq_true hA) rfl (fun ls' hl' => go h hT hP hS (Lv_st2 (v := .long j) hL.1 hl'))
    case lstore k =>
      cases hln rfl
      obtain ⟨j, r, rfl, h⟩ := poL_s h
      exact lv_lstore hx hb hdn (prs_has hL) (of_decide_eq_true hA) rfl (fun ls' hl' => go h hT hP hS (Lv_st2 (v := .long j) hL.1 hl'))
    case iinc k n =>
      cases hln rfl
      obtain ⟨v, hg, h⟩ := ldI_s h
      obtain ⟨ix, hix⟩ := List.getElem?_of_mem (prs_in (a := a) hL.1 hg)
      have hc : Int32.ofInt n = c' := of_decide_eq_true hA
      exact lv_iinc (k := ix) (v := v + c') hx hb hdn (prs_has hL) hix (by rw [hc]) (by rw [← hL.1]; exact gl_len hg) rfl (fun ls' hl' => go h hT hP hS (Lv_st1 (v := .int (v + c')) hL.1 hl'))
    case iconst k => cases hln rfl; exact lv_iconst hx hb hdn (of_decide_eq_true hA) (go h hT hP hS hL)
    case bipush k => cases hln rfl; exact lv_bipush hx hb hdn (of_decide_eq_true hA) (go h hT hP hS hL)
    case sipush k => cases hln rfl; exact lv_sipush hx hb hdn (of_decide_eq_true hA) (go h hT hP hS hL)
    case lconst k => cases hln rfl; exact lv_lconst hx hb hdn (of_decide_eq_true hA) (go h hT hP hS hL)
    case ldc2_w k => cases hln rfl; exact lv_ldc2 hx hb hown (hts _ (tw_in (of_decide_eq_true hA) rfl)) hdn (go h hT hP hS hL)
    case ldc k =>
      cases hln rfl
      cases hz : Nat.beq x 0 with
      | true =>
        simp only [hz, cond_true] at h
        simp only [chkA, hz, cond_true] at hA
        exact lv_ldc hx hb hown (hts _ (tw_in (of_decide_eq_true hA) rfl)) hdn (go h hT hP hS hL)
      | false =>
        simp only [hz, cond_false] at h
        simp only [chkA, hz, cond_false, Bool.and_eq_true, List.any_eq_true, beq_iff_eq] at hA
        obtain ⟨rfl, q, hq, rfl, rfl⟩ := hA
        exact va_ldcS hx hb hown (hst.2.2.1 q hq) hdn (go h hT hP hS hL)
    case ldc_w k =>
      cases hln rfl
      simp only [chkA, Bool.and_eq_true, List.any_eq_true, beq_iff_eq] at hA
      obtain ⟨rfl, q, hq, rfl, rfl⟩ := hA
      exact va_ldcSW hx hb hown (hst.2.2.1 q hq) hdn (go h hT hP hS hL)
    case getstatic k =>
      cases hln rfl
      simp only [chkA, Bool.and_eq_true, Bool.or_eq_true, decide_eq_true_eq] at hA
      obtain ⟨⟨h40, h47⟩, hw⟩ := hA
      have hz := (hst.1 x h40 h47).1
      rcases hw with hw | hw
      · exact va_gets hx hb hz hS hown (hts _ (tw_in hw rfl)) (fun _ h9 => h9) hdn (go h hT hP hS hL)
      · exact va_getsN hx hb hz hS hown (va_Nw.use rfl (hst.2.2.2.2.2.2.2.2 _ hw rfl)) (fun _ h9 => h9) hdn (go h hT hP hS hL)
    case dup =>
      cases hln rfl
      dsimp only at h
      split at h
      · exact lv_dup hx hb hdn rfl (go h hT hP hS hL)
      · exact lv_dup hx hb hdn rfl (go h hT hP hS hL)
      · exact h.elim
    case dup2 =>
      cases hln rfl
      dsimp only at h
      split at h
      · exact lv_dup2_11 hx hb hdn rfl rfl (go h hT hP hS hL)
      · exact h.elim
    case iadd => cases hln rfl; obtain ⟨v, w, r, rfl, h⟩ := po2_s h; exact lv_iadd hx hb hdn (go h hT hP hS hL)
    case isub => cases hln rfl; obtain ⟨v, w, r, rfl, h⟩ := po2_s h; exact lv_isub hx hb hdn (go h hT hP hS hL)
    case imul => cases hln rfl; obtain ⟨v, w, r, rfl, h⟩ := po2_s h; exact lv_imul hx hb hdn (go h hT hP hS hL)
    case idiv => cases hln rfl; obtain ⟨v, w, r, rfl, h0, h⟩ := po2_s h; exact lv_idiv hx hb hdn h0 (go h hT hP hS hL)
    case irem => cases hln rfl; obtain ⟨v, w, r, rfl, h0, h⟩ := po2_s h; exact lv_irem hx hb hdn h0 (go h hT hP hS hL)
    case iand => cases hln rfl; obtain ⟨v, w, r, rfl, h⟩ := po2_s h; exact lv_iand hx hb hdn (go h hT hP hS hL)
    case ishr => cases hln rfl; obtain ⟨v, w, r, rfl, h⟩ := po2_s h; exact lv_ishr hx hb hdn (go h hT hP hS hL)
    case iushr => cases hln rfl; obtain ⟨v, w, r, rfl, h⟩ := po2_s h; exact lv_iushr hx hb hdn rfl (go h hT hP hS hL)
    case i2l => cases hln rfl; obtain ⟨v, r, rfl, h⟩ := po1_s h; exact lv_i2l hx hb hdn rfl (go h hT hP hS hL)
    case i2b => cases hln rfl; obtain ⟨v, r, rfl, h⟩ := po1_s h; exact lv_i2b hx hb hdn rfl (go h hT hP hS hL)
    case l2i => cases hln rfl; obtain ⟨v, r, rfl, h⟩ := poL_s h; exact lv_l2i hx hb hdn rfl (go h hT hP hS hL)
    case ladd => cases hln rfl; obtain ⟨v, w, r, rfl, h⟩ := poLL_s h; exact lv_ladd hx hb hdn (go h hT hP hS hL)
    case lsub => cases hln rfl; obtain ⟨v, w, r, rfl, h⟩ := poLL_s h; exact lv_lsub hx hb hdn (go h hT hP hS hL)
    case lmul => cases hln rfl; obtain ⟨v, w, r, rfl, h⟩ := poLL_s h; exact lv_lmul hx hb hdn (go h hT hP hS hL)
    case ldiv => cases hln rfl; obtain ⟨v, w, r, rfl, h0, h⟩ := poLL_s h; exact lv_ldiv hx hb hdn h0 (go h hT hP hS hL)
    case lrem => cases hln rfl; obtain ⟨v, w, r, rfl, h0, h⟩ := poLL_s h; exact lv_lrem hx hb hdn h0 (go h hT hP hS hL)
    case lneg => cases hln rfl; obtain ⟨v, r, rfl, h⟩ := poL_s h; exact lv_lneg hx hb hdn (go h hT hP hS hL)
    case lcmp => cases hln rfl; obtain ⟨v, w, r, rfl, h⟩ := poLL_s h; exact W.lcmp hx hb hdn (go h hT hP hS hL)
    case goto o => cases hln rfl; exact lv_goto hx hb hdn (of_decide_eq_true hA) (go h hT hP hS hL)
    case if_icmp q o =>
      cases hln rfl
      obtain ⟨v, w, r, rfl, h⟩ := po2_s h
      have ht : (pc : Int) + o = (x : Int) := of_decide_eq_true hA
      cases q
      · exact lv_icmp_eq hx hb hdn ht (fun c1 => go (h.1 c1) hT hP hS hL) (fun c1 => go (h.2 c1) hT hP hS hL)
      · exact lv_icmp_ne hx hb hdn ht (fun c1 => go (h.1 c1) hT hP hS hL) (fun c1 => go (h.2 c1) hT hP hS hL)
      · exact lv_icmp_lt hx hb hdn ht (fun c1 => go (h.1 c1) hT hP hS hL) (fun c1 => go (h.2 c1) hT hP hS hL)
      · exact lv_icmp_ge hx hb hdn ht (fun c1 => go (h.1 c1) hT hP hS hL) (fun c1 => go (h.2 c1) hT hP hS hL)
      · exact lv_icmp_gt hx hb hdn ht (fun c1 => go (h.1 c1) hT hP hS hL) (fun c1 => go (h.2 c1) hT hP hS hL)
      · exact lv_icmp_le hx hb hdn ht (fun c1 => go (h.1 c1) hT hP hS hL) (fun c1 => go (h.2 c1) hT hP hS hL)
    case ifCond q o =>
      cases hln rfl
      obtain ⟨v, r, rfl, h⟩ := po1_s h
      have ht : (pc : Int) + o = (x : Int) := of_decide_eq_true hA
      cases q
      · exact lv_if_eq hx hb hdn ht (fun c1 => go (h.1 c1) hT hP hS hL) (fun c1 => go (h.2 c1) hT hP hS hL)
      · exact lv_if_ne hx hb hdn ht (fun c1 => go (h.1 c1) hT hP hS hL) (fun c1 => go (h.2 c1) hT hP hS hL)
      · exact lv_if_lt hx hb hdn ht (fun c1 => go (h.1 c1) hT hP hS hL) (fun c1 => go (h.2 c1) hT hP hS hL)
      · exact lv_if_ge hx hb hdn ht (fun c1 => go (h.1 c1) hT hP hS hL) (fun c1 => go (h.2 c1) hT hP hS hL)
      · exact lv_if_gt hx hb hdn ht (fun c1 => go (h.1 c1) hT hP hS hL) (fun c1 => go (h.2 c1) hT hP hS hL)
      · exact lv_if_le hx hb hdn ht (fun c1 => go (h.1 c1) hT hP hS hL) (fun c1 => go (h.2 c1) hT hP hS hL)
    case tableswitch df lo hi os =>
      obtain ⟨v, r, rfl, h⟩ := po1_s h
      simp only [chkA, Bool.and_eq_true, decide_eq_true_eq] at hA
      obtain ⟨⟨h1, h2⟩, h3⟩ := hA
      have hlen : (sws pc).length = os.toList.length := by have := congrArg List.length h1; simpa [tsw_len] using this
      rcases sw_s h with ⟨ix, q, e1, e2, e3, -⟩ | ⟨e1, e2⟩
      · have hq : (tsw pc lo os.toList)[ix]? = some (q.1.toInt, (q.2 : Int)) := by rw [← h1, List.getElem?_map, e1]; rfl
        obtain ⟨g1, o, g2, g3⟩ := tsw_at hq
        have g1' : q.1.toInt = lo + ix := g1
        have hix : ix < os.toList.length := by rw [← hlen]; exact (List.getElem?_eq_some_iff.mp e1).1
        have hv : v.toInt = lo + ix := by rw [e2]; exact g1'
        refine lv_tableIn (off := o) (tgt := q.2) hx hb hdn (by omega) (by omega) ?_ ?_ (go e3 hT hP hS hL)
        · have : (v.toInt - lo).toNat = ix := by omega
          rw [this, ← Array.getElem?_toList]; exact g2
        · have g3' : (q.2 : Int) = (pc : Int) + o := g3
          omega
      · refine lv_tableOut (tgt := x) hx hb hdn ?_ h3 (go e2 hT hP hS hL)
        rcases Int.lt_or_le v.toInt lo with q | q
        · exact Or.inl q
        · refine Or.inr ?_
          rcases Int.lt_or_le hi v.toInt with q2 | q2
          · exact q2
          · exfalso
            have hix : (v.toInt - lo).toNat < (sws pc).length := by rw [hlen]; omega
            obtain ⟨z, hz⟩ : ∃ z, (sws pc)[(v.toInt - lo).toNat]? = some z := ⟨_, List.getElem?_eq_getElem hix⟩
            have hq : (tsw pc lo os.toList)[(v.toInt - lo).toNat]? = some (z.1.toInt, (z.2 : Int)) := by rw [← h1, List.getElem?_map, hz]; rfl
            obtain ⟨g1, -⟩ := tsw_at hq
            have g1' : z.1.toInt = lo + ((v.toInt - lo).toNat : Nat) := g1
            exact e1 z (List.mem_of_getElem? hz) (Int32.toInt_inj.mp (by omega))
    case lookupswitch df ps =>
      obtain ⟨v, r, rfl, h⟩ := po1_s h
      simp only [chkA, Bool.and_eq_true, decide_eq_true_eq] at hA
      obtain ⟨⟨h1, h2⟩, h3⟩ := hA
      have key : ∀ (L : List (Int32 × Nat)) (M : List (Int × Int)), L.map (fun q => (q.1.toInt, (q.2 : Int))) = M.map (fun q => (q.1, (pc : Int) + q.2)) → sw v L (fun t => J T t lc r σ) x → ∃ (off : Int) (t : Nat), Op.lookupswitch.offset M df v.toInt = off ∧ (pc : Int) + off = (t : Int) ∧ J T t lc r σ := by
        intro L
        induction L with
        | nil =>
          intro M hM hs
          cases M with
          | nil => exact ⟨df, x, rfl, h3, hs⟩
          | cons z M => simp at hM
        | cons q L ih =>
          intro M hM hs
          cases M with
          | nil => simp at hM
          | cons z M =>
            simp only [List.map_cons, List.cons.injEq, Prod.mk.injEq] at hM
            obtain ⟨⟨g1, g2⟩, g3⟩ := hM
            obtain ⟨q1, q2⟩ := q
            obtain ⟨z1, z2⟩ := z
            by_cases hv : v = q1
            · refine ⟨z2, q2, ?_, g2.symm, hs.1 hv⟩
              rw [Op.lookupswitch.offset_cons, if_pos]
              first | (rw [hv]; exact g1) | (rw [hv]; exact g1.symm)
            · obtain ⟨off, t, f1, f2, f3⟩ := ih M g3 (hs.2 hv)
              exact ⟨off, t, by rw [lv_osw hv g1]; exact f1, f2, f3⟩
      obtain ⟨off, t, f1, f2, f3⟩ := key _ _ h1 h
      exact lv_lookup (off := off) (tgt := t) hx hb hdn h2 f1 f2 (go f3 hT hP hS hL)
    case getfield k =>
      cases hln rfl
      obtain ⟨j, r, rfl, h2⟩ := poR_s h
      simp only [chkA, Bool.and_eq_true, decide_eq_true_eq] at hA
      obtain ⟨h8, hA⟩ := hA
      obtain ⟨rfl, hy, v, h3, hv⟩ := gF_s (a := a) h2
      obtain ⟨C, T0, N, ty0, g1, g2, g3, g4, g5, g6⟩ := cinfo (oc_j h8).1
      obtain ⟨hw, -⟩ := fld_s g1 hA hts hst.2.2.2.2.2.2.2.2
      have hfv : (fvs a σ j)[y]? = some (cv a v) := by rw [fvs_at hy, hv]
      rcases hw with hw | hw
      · exact va_get (D := D) (C := C) (T := T0) (N := N) hx hb hts g3 hown hK hP j (wld_ao h8) g1 y (by omega) hw (fun _ h9 => h9) hfv hdn (go h3 hT hP hS hL)
      · exact va_getN (D := D) (C := C) (T := T0) (N := N) hx hb hts g3 hown hK hP j (wld_ao h8) g1 y (by omega) hw (fun _ h9 => h9) hfv hdn (go h3 hT hP hS hL)
    case putfield k =>
      cases hln rfl
      dsimp only at h
      split at h
      · rename_i v j r
        simp only [chkA, Bool.and_eq_true, decide_eq_true_eq] at hA
        obtain ⟨h8, hA⟩ := hA
        obtain ⟨rfl, hy, h3⟩ := pF_s h
        obtain ⟨C, T0, N, ty0, g1, g2, g3, g4, g5, g6⟩ := cinfo (oc_j h8).1
        obtain ⟨hw, hfin⟩ := fld_s g1 hA hts hst.2.2.2.2.2.2.2.2
        have hj := oc_j h8
        have hj34 : j < 34 := Nat.lt_trans hj.1 (by decide)
        have hyN : y < N := by omega
        have hk6 := g6 y hyN
        have hl9 : y < (fvs a σ j).length := by rw [fvs_len]; exact hy
        rcases h3 with ⟨z, rfl, hkd, h4⟩ | ⟨r2, rfl, hkd, h4⟩
        · have hty : ∃ ty, parseFieldDescriptor (T0 y).2.2.1 = some ty ∧ narrow ty (.int z) = .int z ∧ fits ty (.int z) = true := by
            rcases hkd with e | ⟨e, e2⟩
            · have : (T0 y).2.2.1 = "I" := by unfold kdOk at hk6; rw [e] at hk6; simpa using hk6
              rw [this]; exact ⟨.int, by decide +kernel, rfl, rfl⟩
            · have : (T0 y).2.2.1 = "Z" := by unfold kdOk at hk6; rw [e] at hk6; simpa using hk6
              rw [this]; refine ⟨.boolean, by decide +kernel, ?_, ?_⟩
              · rcases e2 with rfl | rfl <;> decide +kernel
              · rcases e2 with rfl | rfl <;> decide +kernel
          obtain ⟨ty, t1, t2, t3⟩ := hty
          have e9 := wld_sF (a := a) (cI := cI) (cB := cB) (cJ := cJ) (σ := σ) (v := z) hj34 hj.2 hy (by rcases hkd with e | ⟨e, -⟩; (· exact Or.inl e); (· exact Or.inr e))
          rcases hw with hw | hw
          · refine va_put (D := D) (C := C) (T := T0) (N := N) (v := .int z) (ty := ty) hx hb hts g3 ty0 g4 g5 hown hK hP hD hS j (wld_ao h8) g1 y hyN hw (fun _ h9 => h9) (hfin rfl) t1 t2 t3 hl9 hdn (fun H1 locs1 hP1 hD1 hS1 => ?_)
            rw [e9] at hP1
            exact go h4 hT hP1 hS1 hL
          · refine va_putN (D := D) (C := C) (T := T0) (N := N) (v := .int z) (ty := ty) hx hb hts g3 ty0 g4 g5 hown hK hP hD hS j (wld_ao h8) g1 y hyN hw (fun _ h9 => h9) (hfin rfl) t1 t2 t3 hl9 hdn (fun H1 locs1 hP1 hD1 hS1 => ?_)
            rw [e9] at hP1
            exact go h4 hT hP1 hS1 hL
        · have hde : (T0 y).2.2.1 = "[B" := by unfold kdOk at hk6; rw [hkd] at hk6; simpa using hk6
          have t1 : parseFieldDescriptor (T0 y).2.2.1 = some (.array .byte) := by rw [hde]; decide +kernel
          have e9 := wld_sR (a := a) (cI := cI) (cB := cB) (cJ := cJ) (σ := σ) (r := r2) hj34 hj.2 hy hkd
          rcases hw with hw | hw
          · refine va_put (D := D) (C := C) (T := T0) (N := N) (v := .ref (a r2)) (ty := .array .byte) hx hb hts g3 ty0 g4 g5 hown hK hP hD hS j (wld_ao h8) g1 y hyN hw (fun _ h9 => h9) (hfin rfl) t1 rfl rfl hl9 hdn (fun H1 locs1 hP1 hD1 hS1 => ?_)
            rw [e9] at hP1
            exact go h4 hT hP1 hS1 hL
          · refine va_putN (D := D) (C := C) (T := T0) (N := N) (v := .ref (a r2)) (ty := .array .byte) hx hb hts g3 ty0 g4 g5 hown hK hP hD hS j (wld_ao h8) g1 y hyN hw (fun _ h9 => h9) (hfin rfl) t1 rfl rfl hl9 hdn (fun H1 locs1 hP1 hD1 hS1 => ?_)
            rw [e9] at hP1
            exact go h4 hT hP1 hS1 hL
      · exact h.elim
    case arraylength =>
      cases hln rfl
      obtain ⟨j, r, rfl, h2⟩ := poR_s h
      cases hz : Nat.beq j 50 with
      | true =>
        simp only [hz, cond_true] at h2
        obtain ⟨rfl, h3⟩ := h2
        cases Nat.eq_of_beq_eq_true hz
        obtain ⟨f1, f2⟩ := hsc pc _ _ _ _ hE (Or.inr rfl)
        exact va_slen hx hb f1 (by omega) (by show ¬ N0 ≤ _; omega) hS hdn (go h3 hT hP hS hL)
      | false =>
        simp only [hz, cond_false] at h2
        obtain ⟨h0, h3⟩ := h2
        rcases ak_no j with e | e | e
        · exact absurd e h0
        · rcases e with e | e | e
          · exact va_alen hx hb hK hP j 0 (wld_ai e) (ty := .int) rfl rfl hdn (go h3 hT hP hS hL)
          · exact va_alen hx hb hK hP j 1 (wld_ab e) (ty := .byte) rfl rfl hdn (go h3 hT hP hS hL)
          · exact va_alen hx hb hK hP j 2 (wld_aj e) (ty := .long) rfl rfl hdn (go h3 hT hP hS hL)
        · obtain ⟨f1, f2⟩ := ak_st e
          exact va_tlen hx hb (hst.1 j f1 f2).2 hS rfl hdn (go h3 hT hP hS hL)
    case iaload =>
      cases hln rfl
      obtain ⟨v, r1, rfl, h1⟩ := po1_s h
      obtain ⟨j, r, rfl, h2⟩ := poR_s h1
      cases hz : Nat.beq j 50 with
      | true =>
        simp only [hz, cond_true] at h2
        obtain ⟨rfl, hi, h3⟩ := h2
        cases Nat.eq_of_beq_eq_true hz
        obtain ⟨f1, f2⟩ := hsc pc _ _ _ _ hE (Or.inl rfl)
        exact va_sld hx hb f1 (by omega) (by show ¬ N0 ≤ _; omega) hS hi hdn (go h3 hT hP hS hL)
      | false =>
        simp only [hz, cond_false] at h2
        obtain ⟨e, hi, h3⟩ := h2
        have e40 : j < 40 := Nat.lt_trans (ak_in (Or.inl e)) (by decide)
        simp only [el, if_pos e40] at h3
        exact va_iald hx hb hK hP j 0 (wld_ai e) rfl hi hdn (go h3 hT hP hS hL)
    case baload =>
      cases hln rfl
      obtain ⟨v, r1, rfl, h1⟩ := po1_s h
      obtain ⟨j, r, rfl, h2⟩ := poR_s h1
      obtain ⟨e, hi, h3⟩ := h2
      rcases e with e | e
      · have e40 : j < 40 := Nat.lt_trans (ak_in (Or.inr (Or.inl e))) (by decide)
        simp only [el, if_pos e40] at h3
        exact va_bald hx hb hK hP j 1 (wld_ab e) rfl hi hdn (go h3 hT hP hS hL)
      · obtain ⟨f1, f2⟩ := ak_st e
        have e40 : ¬ j < 40 := Nat.not_lt.mpr f1
        simp only [el, if_neg e40] at h3
        exact va_tb hx hb (hst.1 j f1 f2).2 hS hi rfl hdn (go h3 hT hP hS hL)
    case laload =>
      cases hln rfl
      obtain ⟨v, r1, rfl, h1⟩ := po1_s h
      obtain ⟨j, r, rfl, e, hi, h3⟩ := poR_s h1
      exact va_lald hx hb hK hP j 2 (wld_aj e) rfl hi hdn (go h3 hT hP hS hL)
    case iastore =>
      cases hln rfl
      obtain ⟨v, w, r1, rfl, h1⟩ := po2_s h
      obtain ⟨j, r, rfl, e, hi, h3⟩ := poR_s h1
      refine va_iast hx hb hK hP hD hS j 0 (wld_ai e) rfl hi hdn (fun H1 locs1 hP1 hD1 hS1 => ?_)
      rw [wld_sMi (ak_in (Or.inl e)) e] at hP1
      exact go h3 hT hP1 hS1 hL
    case bastore =>
      cases hln rfl
      obtain ⟨v, w, r1, rfl, h1⟩ := po2_s h
      obtain ⟨j, r, rfl, e, hi, h3⟩ := poR_s h1
      refine va_bast hx hb hK hP hD hS j 1 (wld_ab e) rfl hi hdn (fun H1 locs1 hP1 hD1 hS1 => ?_)
      rw [wld_sMb (ak_in (Or.inr (Or.inl e))) e] at hP1
      exact go h3 hT hP1 hS1 hL
    case lastore =>
      cases hln rfl
      obtain ⟨w, r, rfl, h⟩ := poL_s h
      obtain ⟨v, r1, rfl, h1⟩ := po1_s h
      obtain ⟨j, r, rfl, e, hi, h3⟩ := poR_s h1
      refine va_last hx hb hK hP hD hS j 2 (wld_aj e) rfl hi hdn (fun H1 locs1 hP1 hD1 hS1 => ?_)
      rw [wld_sO (ak_in (Or.inr (Or.inr e))) e] at hP1
      exact go h3 hT hP1 hS1 hL
    case invokevirtual k =>
      have hz : (Nat.ble y st.length && Nat.ble (st.drop y).length 4) = true := by
        cases hz : (Nat.ble y st.length && Nat.ble (st.drop y).length 4) with
        | true => rfl
        | false => simp only [hz, cond_false] at h
      simp only [hz, cond_true] at h
      rw [Bool.and_eq_true] at hz
      have hl1 : y ≤ st.length := Nat.le_of_ble_eq_true hz.1
      have hl2 : (st.drop y).length ≤ 4 := Nat.le_of_ble_eq_true hz.2
      have hst9 : st = (st.take y).reverse.reverse ++ st.drop y := by simp
      rw [hst9]
      refine hcall pc _ _ _ _ _ hE ⟨k, Or.inl rfl⟩ T _ _ σ _ _ H locs ls (by simp; omega) hl2 h.1 hL.2.1 h.2 hP hS (fun r τ H1 locs1 hq hP1 hS1 => go hq h.1 hP1 hS1 hL) (fun E τ H1 locs1 q ce' hq hP1 hS1 f1 f2 f3 => ?_)
      unfold hX at hq
      split at hq
      · rename_i h9 k9 hh
        exact hhand pc E h9 k9 _ lc _ H1 locs1 ls q ce' hh f1 f2 f3 hL (fun ls' hl' => go hq h.1 hP1 hS1 hl')
      · rename_i hh
        exact hout pc E _ τ _ H1 locs1 ls q ce' hh hq h.1 hP1 hS1 f1 f2 f3
    case invokestatic k =>
      have hz : (Nat.ble y st.length && Nat.ble (st.drop y).length 4) = true := by
        cases hz : (Nat.ble y st.length && Nat.ble (st.drop y).length 4) with
        | true => rfl
        | false => simp only [hz, cond_false] at h
      simp only [hz, cond_true] at h
      rw [Bool.and_eq_true] at hz
      have hl1 : y ≤ st.length := Nat.le_of_ble_eq_true hz.1
      have hl2 : (st.drop y).length ≤ 4 := Nat.le_of_ble_eq_true hz.2
      have hst9 : st = (st.take y).reverse.reverse ++ st.drop y := by simp
      rw [hst9]
      refine hcall pc _ _ _ _ _ hE ⟨k, Or.inr rfl⟩ T _ _ σ _ _ H locs ls (by simp; omega) hl2 h.1 hL.2.1 h.2 hP hS (fun r τ H1 locs1 hq hP1 hS1 => go hq h.1 hP1 hS1 hL) (fun E τ H1 locs1 q ce' hq hP1 hS1 f1 f2 f3 => ?_)
      unfold hX at hq
      split at hq
      · rename_i h9 k9 hh
        exact hhand pc E h9 k9 _ lc _ H1 locs1 ls q ce' hh f1 f2 f3 hL (fun ls' hl' => go hq h.1 hP1 hS1 hl')
      · rename_i hh
        exact hout pc E _ τ _ H1 locs1 ls q ce' hh hq h.1 hP1 hS1 f1 f2 f3
    case new k =>
      cases st with
      | nil => exact hthrow pc k x y c' d T σ H locs ls hE h.2 h.1 hL.2.1 hP hS
      | cons z r => exact h.elim
    case ireturn =>
      cases hln rfl
      dsimp only at h
      split at h
      · exact hri pc _ _ _ _ _ T σ H locs ls hE hdn h hT hP hS
      · exact h.elim
    case lreturn =>
      cases hln rfl
      dsimp only at h
      split at h
      · exact hrl pc _ _ _ _ _ T σ H locs ls hE hdn h hT hP hS
      · exact h.elim
    case return_ =>
      cases hln rfl
      dsimp only at h
      split at h
      · exact hrv pc _ _ _ _ T σ H locs ls hE hdn h hT hP hS
      · exact h.elim
    all_goals exact h.elim
end Snd
end
section
/-! ===== CONTRACTS: a method does what its table does ===== -/
def lcs : List Value → Lc
  | [] => []
  | .long v :: r => some (.long v) :: none :: lcs r
  | .double v :: r => some (.double v) :: none :: lcs r
  | .int v :: r => some (.int v) :: lcs r
  | .ref v :: r => some (.ref v) :: lcs r
  | .null :: r => some .null :: lcs r
  | .float v :: r => some (.float v) :: lcs r
  | .retAddr v :: r => some (.retAddr v) :: lcs r
def pad : Nat → Lc → Lc
  | 0, _ => []
  | n + 1, [] => none :: pad n []
  | n + 1, x :: xs => x :: pad n xs
theorem pad_len : ∀ (n : Nat) (l : Lc), (pad n l).length = n := by
  intro n
  induction n with
  | zero => intro l; rfl
  | succ n ih => intro l; cases l <;> simp [pad, ih]
theorem pad_gl : ∀ (n : Nat) (l : Lc) (i : Nat) (v : Value), gl (pad n l) i = some v → gl l i = some v := by
  intro n
  induction n with
  | zero => intro l i v h; simp [pad, gl] at h
  | succ n ih =>
    intro l i v h
    cases l with
    | nil =>
      cases i with
      | zero => simp [pad, gl] at h
      | succ i => simp only [pad, gl] at h; have := ih [] i v h; simp [gl] at this
    | cons x xs =>
      cases i with
      | zero => simpa [pad, gl] using h
      | succ i => simp only [pad, gl] at h ⊢; exact ih xs i v h
theorem lcs_sl (a : Nat → Nat) : ∀ av : List Value, (lg_sl (av.map (cv a))).length = (lcs av).length := by
  intro av
  induction av with
  | nil => rfl
  | cons v r ih =>
    have ih' : (List.flatMap (fun v => if v.category = 2 then [Slot.val v, Slot.second] else [Slot.val v]) (r.map (cv a))).length = (lcs r).length := ih
    cases v <;> simp only [lg_sl, List.map_cons, List.flatMap_cons, List.length_append, ih', lcs, List.length_cons] <;> simp [cv, Value.category] <;> omega
theorem lcs_args (a : Nat → Nat) : ∀ (av : List Value) (k i : Nat) (v : Value), gl (lcs av) i = some v → (k + i, cv a v) ∈ lv_args k (av.map (cv a)) := by
  intro av
  induction av with
  | nil => intro k i v h; simp [lcs, gl] at h
  | cons w r ih =>
    intro k i v h
    have one : (w.category = 1 ∧ lcs (w :: r) = some w :: lcs r) ∨ (w.category = 2 ∧ lcs (w :: r) = some w :: none :: lcs r) := by cases w <;> simp [lcs, Value.category]
    rcases one with ⟨hc, e⟩ | ⟨hc, e⟩
    · rw [e] at h
      have hl : lv_args k ((w :: r).map (cv a)) = (k, cv a w) :: lv_args (k + 1) (r.map (cv a)) := by simp [lv_args, cv_cat, hc]
      rw [hl]
      cases i with
      | zero => simp only [gl, Option.some.injEq] at h; rw [h]; exact List.mem_cons_self
      | succ i =>
        simp only [gl] at h
        have := ih (k + 1) i v h
        rw [show k + (i + 1) = k + 1 + i by omega]
        exact List.mem_cons_of_mem _ this
    · rw [e] at h
      have hl : lv_args k ((w :: r).map (cv a)) = (k, cv a w) :: lv_args (k + 2) (r.map (cv a)) := by simp [lv_args, cv_cat, hc]
      rw [hl]
      cases i with
      | zero => simp only [gl, Option.some.injEq] at h; rw [h]; exact List.mem_cons_self
      | succ i => cases i with
        | zero => simp [gl] at h
        | succ i =>
          simp only [gl] at h
          have := ih (k + 2) i v h
          rw [show k + (i + 1 + 1) = k + 2 + i by omega]
          exact List.mem_cons_of_mem _ this
/-- the arguments are as the method wants them: the receiver of its kind, as many as are due -/
def okv (ci maxL n : Nat) (av : List Value) : Bool := (bif Nat.beq ci 99 then true else match av with
  | .ref j :: _ => Nat.beq (oc j) ci
  | _ => false) && (Nat.beq av.length n && Nat.ble (lcs av).length maxL)
def bo (r : Option Value) : Prop := match r with
  | some (.int v) => v = 0 ∨ v = 1
  | _ => False
def rtO (b : Bool) (r : Option Value) (P : Prop) : Prop := bif b then (bo r ∧ P) else P
def hd0 : Nat → String → Option (Nat × Nat) := fun _ _ => none
def sc0 : Nat × (Nat → Int32) := (0, fun _ => 0)
/-- a method's step -/
abbrev FM (tb : Nat → Option Ent) (ce : Nat → Nat × Ct) (xn : Nat → String) (mc : Nat) (sws : Nat → List (Int32 × Nat)) (b : Bool) (Q : Po) (X : Xo) : Jt → Jt := Step tb ce hd0 sc0 xn mc sws (fun r _ τ => rtO b r (Q r τ)) (fun E _ τ => X E τ)
/-- a method as a transformer -/
def mkP (tb : Nat → Option Ent) (ce : Nat → Nat × Ct) (xn : Nat → String) (mc : Nat) (sws : Nat → List (Int32 × Nat)) (b : Bool) (ci maxL n : Nat) : Ct := fun av σ Q X => okv ci maxL n av = true ∧ Lf (FM tb ce xn mc sws b Q X) 0 0 (pad maxL (lcs av)) [] σ
section Con
variable {l : Launch} {N0 : Nat} {a : Nat → Nat} {D : va_G} {cI cB cJ : ClassId}
def Gp (N0 : Nat) (a : Nat → Nat) (D : va_G) (cI cB cJ : ClassId) (σ : Sg) (U : State) : Prop := N0 ≤ U.heap.size ∧ va_P D vwCl (wld a cI cB cJ σ) U.heap ∧ va_K D vwCl (tys3 cI cB cJ) U ∧ (∀ τ, va_D (AN N0) (wld a cI cB cJ τ)) ∧ Stt a N0 U U.heap
def Qg (N0 : Nat) (a : Nat → Nat) (D : va_G) (cI cB cJ : ClassId) (Q : Po) : Array Value → State → Outcome → State → Prop := fun _ st oc' t => (∃ (r : Option Value) (τ : Sg), oc' = .returned (r.map (cv a)) ∧ Q r τ ∧ va_P D vwCl (wld a cI cB cJ τ) t.heap) ∧ va_F (AN N0) st t
def Xg (N0 : Nat) (a : Nat → Nat) (D : va_G) (cI cB cJ : ClassId) (X : Xo) : String → State → State → Prop := fun E st t => ∃ τ : Sg, X E τ ∧ va_P D vwCl (wld a cI cB cJ τ) t.heap ∧ va_F (AN N0) st t
abbrev rmO (f lo mc : Nat) : Room := { frames := f, cells := mc, slots := 6 * mc, locals := lo }
/-- the contract -/
def Con (l : Launch) (N0 : Nat) (a : Nat → Nat) (D : va_G) (cI cB cJ : ClassId) (y : MethodName) (ws : List Cond) (f lo mc : Nat) (P : Ct) : Prop :=
  ∀ (av : List Value) (σ : Sg) (Q : Po) (X : Xo), P av σ Q X → vx_Met l y ws (rmO f lo mc) (va_Pc (av.map (cv a)) (Gp N0 a D cI cB cJ σ)) (Qg N0 a D cI cB cJ Q) (Xg N0 a D cI cB cJ X) mc (6 * mc) (AN N0)
theorem Gp_blind {av : List Value} {σ : Sg} : FrameBlind (va_Pc av (Gp N0 a D cI cB cJ σ)) := by
  intro A U g mk h
  obtain ⟨h1, h2, h3, h4, h5, h6⟩ := h
  exact ⟨h1, h2, h3, va_K.moved (u := U) (U := U.calling g mk A) (Vm.Alike.refl U.vm) h4, h5, Stt.same (s := U) (U := U.calling g mk A) rfl h6⟩
theorem cat_sum (a : Nat → Nat) : ∀ {rest : List Value}, rest.length ≤ 4 → ((rest.map (cv a)).map fun v => v.category).sum ≤ 8 := by
  have key : ∀ rest : List Value, ((rest.map (cv a)).map fun v => v.category).sum ≤ 2 * rest.length := by
    intro rest
    induction rest with
    | nil => simp
    | cons v r ih =>
      have h2 : (cv a v).category ≤ 2 := by rcases lv_cat (cv a v) with e | e <;> omega
      simp only [List.map_cons, List.sum_cons, List.length_cons]
      omega
  intro rest h
  have := key rest
  omega
section Call
variable {p : Program} {e : Env} {R : Room} {s : State} {m : MethodId} {args : Array Value} {below : List Frame} {meth : Method} {c : Code} {Z : State → Prop} {cc : ByteArray} {nL mc : Nat} {own : String}
/-- behind a call: it has returned, or thrown -/
theorem xcall {H : Heap} {locs : List Loc} {pc T k : Nat} {ls : Array Slot} {st0 rest : List Value} {A : Array Value} {Q : Po} {X : Xo}
    (hr : vx_Run p l e R s m args below meth c H locs T (6 * T) k (6 * k) (F0 m pc ls st0) (rest.map (cv a)) (Qg N0 a D cI cB cJ Q A) (Xg N0 a D cI cB cJ X) (AN N0)) (hS : va_S (AN N0) s.heap H locs)
    (kk : ∀ (r : Option Value) (τ : Sg) (H1 : Heap) (locs1 : List Loc), Q r τ → va_P D vwCl (wld a cI cB cJ τ) H1 → va_S (AN N0) s.heap H1 locs1 → W p l e R s m args below meth c H1 locs1 (T + k) (6 * (T + k)) Z (F0 m (pc + 3) ls ((r.toList ++ rest).map (cv a))))
    (kx : ∀ (E : String) (τ : Sg) (H1 : Heap) (locs1 : List Loc) (q : Addr) (ce : Cell), X E τ → va_P D vwCl (wld a cI cB cJ τ) H1 → va_S (AN N0) s.heap H1 locs1 → H1[q]? = some ce → ce.vm = .none → s.vm.findClass E = some ce.cls → vx_W p l e R s m args below meth c H1 locs1 (T + k) (6 * (T + k)) Z (F0 m pc ls (rest.map (cv a))) q) :
    W p l e R s m args below meth c H locs T (6 * T) Z (F0 m pc ls st0) := by
  intro U hU Y
  have e6 : 6 * T + 6 * k = 6 * (T + k) := by omega
  rcases hr U hU Y with ⟨v, st₀, t, T', L, h0, X', hL, e1, e2, ⟨⟨r, τ, hv, hq, hp⟩, hF⟩, st⟩ | ⟨q, st₀, t, T', L, E, ce, h0, X', hL, e1, e2, ⟨τ, hq, hp, hF⟩, hce, hcv, hcl, st⟩
  · cases hv
    obtain ⟨k1, k2, k3⟩ := vx_keep (A0 := AN N0) h0 e1 hS (fun _ _ h => h) (fun _ h => h) hL hF
    rw [e6] at X'
    obtain ⟨t2, a1, b1⟩ := kk r τ T'.heap (locs ++ L) hq (by rw [e1]; exact hp) k3 T' rfl X'
    refine ⟨t2, st t2 ?_, b1⟩
    have e9 : ((r.map (cv a)).toList ++ rest.map (cv a)) = (r.toList ++ rest).map (cv a) := by cases r <;> simp
    rw [e9]
    exact a1
  · obtain ⟨k1, k2, k3⟩ := vx_keep (A0 := AN N0) h0 e1 hS (fun _ _ h => h) (fun _ h => h) hL hF
    rw [e6] at X'
    obtain ⟨t2, a1, b1⟩ := kx E τ T'.heap (locs ++ L) q ce hq (by rw [e1]; exact hp) k3 (by rw [e1]; exact hce) hcv hcl T' rfl X'
    exact ⟨t2, st.trans a1, b1⟩
theorem Gp_at {σ : Sg} {H : Heap} {locs : List Loc} (C0 : Cx p s m args c cc nL N0 a D cI cB cJ own) (hP : va_P D vwCl (wld a cI cB cJ σ) H) (hS : va_S (AN N0) s.heap H locs) : ∀ U : State, U.heap = H → s.WarmedH U.vm → Gp N0 a D cI cB cJ σ U := by
  obtain ⟨-, -, -, -, -, hK, hDD, hst, hN⟩ := C0
  intro U hU hW
  refine ⟨by rw [hU]; exact Nat.le_trans hN hS.1, by rw [hU]; exact hP, va_K.moved hW.alike hK, hDD, ?_⟩
  rw [hU]
  exact (hst.kept hS.2.1).warm hW
end Call
/-- a call site, in whatever method state -/
def CallS (l : Launch) (N0 : Nat) (a : Nat → Nat) (D : va_G) (cI cB cJ : ClassId) (own : String) (cc : ByteArray) (nL : Nat) (R : Room) (mc pc n k : Nat) (P : Ct) : Prop :=
  ∀ ⦃p : Program⦄ ⦃e : Env⦄ ⦃s : State⦄ ⦃m : MethodId⦄ ⦃args : Array Value⦄ ⦃below : List Frame⦄ ⦃meth : Method⦄ ⦃c : Code⦄ ⦃Z : State → Prop⦄, R.cells = mc → R.slots = 6 * mc → Cx p s m args c cc nL N0 a D cI cB cJ own → COk p l e R s m args below meth c Z nL mc N0 a D cI cB cJ pc n k P
def wd4 (own : String) (idx : Nat) (C : String) (y : MethodName) : List Cond := [.methodLink own idx y, .instanceMethod y, .selects C y y, .initialized C]
def wd3 (own : String) (idx : Nat) (y : MethodName) : List Cond := [.methodLink own idx y, .static y, .initialized y.cls]
theorem good_sub {ws : List Cond} (h : ∀ w ∈ ws, w ∈ Tw) : GoodIn Tw ws := fun w hw => ⟨h w hw, tw_good w (h w hw)⟩
theorem okv_n {ci maxL n : Nat} {av : List Value} (h : okv ci maxL n av = true) : av.length = n ∧ (lcs av).length ≤ maxL := by
  unfold okv at h
  rw [Bool.and_eq_true, Bool.and_eq_true] at h
  exact ⟨Nat.eq_of_beq_eq_true h.2.1, Nat.le_of_ble_eq_true h.2.2⟩
theorem okv_r {ci maxL n : Nat} {av : List Value} (hc : ci < 8) (h : okv ci maxL n av = true) : ∃ j r, av = .ref j :: r ∧ oc j = ci := by
  unfold okv at h
  rw [Bool.and_eq_true] at h
  have hb : Nat.beq ci 99 = false := by
    cases hb : Nat.beq ci 99 with
    | false => rfl
    | true => have := Nat.eq_of_beq_eq_true hb; omega
  simp only [hb, cond_false] at h
  obtain ⟨h1, -⟩ := h
  split at h1
  · exact ⟨_, _, rfl, Nat.eq_of_beq_eq_true h1⟩
  · cases h1
/-- a virtual call, out of the callee's contract -/
theorem cs_V {own : String} {cc cY : ByteArray} {nL mY fY loY f lo mc pc idx n ci k : Nat} {y : MethodName} {rY : Option FieldType} {C : String} {T : u_T} {N : Nat} {P : Ct} (hdec : decode cc pc = .ok (.invokevirtual idx, 3))
    (hcon : Con l N0 a D cI cB cJ y (Cond.code y cY mY rY :: Tw) fY loY k P) (hP : ∀ av σ Q X, P av σ Q X → okv ci mY (n + 1) av = true) (hci : vwCl[ci]? = some (C, T, N)) (hc8 : ci < 8)
    (hw : ∀ w ∈ wd4 own idx C y, w ∈ Tw) (hcode : Cond.code y cY mY rY ∈ Tw)
    (hd : y.cls = C ∧ y.cls ≠ "java/lang/invoke/MethodHandle" ∧ y.cls ≠ "java/lang/invoke/VarHandle" ∧ (parseMethodDescriptor y.desc).map (fun d => d.parameters.length) = some n) (hR : fY + 1 ≤ f ∧ 8 + (mY + 11) + loY ≤ lo) :
    CallS l N0 a D cI cB cJ own cc nL (rmO f lo mc) mc pc (n + 1) k P := by
  intro p e s m args below meth c Z hRc hRs C0 T' av rest σ Q X H locs ls hlen hrest hmc hls hp hPw hS kk kx
  obtain ⟨hx, hb, hml, hown, hts, hK, hDD, hst, hN⟩ := id C0
  have hok := hP av σ Q X hp
  obtain ⟨j, as, rfl, hj⟩ := okv_r hc8 hok
  have hn := (okv_n hok).1
  have hG : GoodIn Tw (wsV own idx C y (Cond.code y cY mY rY :: Tw)) := good_sub (fun w hw' => by
    rcases List.mem_append.mp hw' with h | h
    · exact hw w h
    · rcases List.mem_cons.mp h with h | h
      · rw [h]; exact hcode
      · exact h)
  have e1 : ((.ref j :: as : List Value).reverse ++ rest).map (cv a) = (as.map (cv a)).reverse ++ .ref (a j) :: rest.map (cv a) := by simp [cv]
  rw [e1]
  refine xcall (vx_runV (As := as.map (cv a)) (b := a j) (rest := rest.map (cv a)) (n := n) (C := C) (ret := rY) (bytes := cY) (maxL := mY) ⟨hx, hb, hml, hown, hts⟩ (hcon (.ref j :: as) σ Q X hp) (cwV n hts hG rfl rfl rfl hd hR) ⟨Gp_blind, ?_, fun U hU hW => ⟨by simp [cv], Gp_at C0 hPw hS U hU hW⟩⟩ rfl (by simp at hn ⊢; omega) hls rfl (lv_room (cat_sum a hrest)) hdec ⟨?_, ?_⟩) hS kk kx
  · subst hj
    obtain ⟨cell, g1, g2, g3⟩ := va_recv hK hPw hci (wld_ao hc8)
    exact ⟨cell, g1, g2, g3⟩
  · rw [hRc]; exact hmc
  · rw [hRs]; omega
/-- a static call, out of the callee's contract -/
theorem cs_T {own : String} {cc cY : ByteArray} {nL mY fY loY f lo mc pc idx n k : Nat} {y : MethodName} {rY : Option FieldType} {P : Ct} (hdec : decode cc pc = .ok (.invokestatic idx, 3))
    (hcon : Con l N0 a D cI cB cJ y (Cond.code y cY mY rY :: Tw) fY loY k P) (hP : ∀ av σ Q X, P av σ Q X → okv 99 mY n av = true)
    (hw : ∀ w ∈ wd3 own idx y, w ∈ Tw) (hcode : Cond.code y cY mY rY ∈ Tw)
    (hd : y.cls ≠ "java/lang/invoke/MethodHandle" ∧ y.cls ≠ "java/lang/invoke/VarHandle" ∧ (parseMethodDescriptor y.desc).map (fun d => d.parameters.length) = some n) (hR : fY + 1 ≤ f ∧ 8 + (mY + 11) + loY ≤ lo) :
    CallS l N0 a D cI cB cJ own cc nL (rmO f lo mc) mc pc n k P := by
  intro p e s m args below meth c Z hRc hRs C0 T' av rest σ Q X H locs ls hlen hrest hmc hls hp hPw hS kk kx
  obtain ⟨hx, hb, hml, hown, hts, hK, hDD, hst, hN⟩ := id C0
  have hn := (okv_n (hP av σ Q X hp)).1
  have hG : GoodIn Tw (va_wsS own idx y (Cond.code y cY mY rY :: Tw)) := good_sub (fun w hw' => by
    rcases List.mem_append.mp hw' with h | h
    · exact hw w h
    · rcases List.mem_cons.mp h with h | h
      · rw [h]; exact hcode
      · exact h)
  have e1 : (av.reverse ++ rest).map (cv a) = (av.map (cv a)).reverse ++ rest.map (cv a) := by simp
  rw [e1]
  refine xcall (vx_runS (As := av.map (cv a)) (rest := rest.map (cv a)) (n := n) (ret := rY) (bytes := cY) (maxL := mY) ⟨hx, hb, hml, hown, hts⟩ (hcon av σ Q X hp) (va_cwS n hts hG rfl rfl rfl hd hR) ⟨Gp_blind, fun U hU hW => ⟨rfl, Gp_at C0 hPw hS U hU hW⟩⟩ rfl (by simp [hn]) hls rfl (lv_room (cat_sum a hrest)) hdec ⟨?_, ?_⟩) hS kk kx
  · rw [hRc]; exact hmc
  · rw [hRs]; omega
/-- a throw at pc, in whatever method state -/
def ThrS (l : Launch) (N0 : Nat) (a : Nat → Nat) (D : va_G) (cI cB cJ : ClassId) (own : String) (cc : ByteArray) (nL : Nat) (R : Room) (mc pc : Nat) (E : String) : Prop :=
  ∀ ⦃p : Program⦄ ⦃e : Env⦄ ⦃s : State⦄ ⦃m : MethodId⦄ ⦃args : Array Value⦄ ⦃below : List Frame⦄ ⦃meth : Method⦄ ⦃c : Code⦄ ⦃Qc : Array Value → State → Outcome → State → Prop⦄ ⦃X : Xo⦄ ⦃T : Nat⦄ ⦃σ : Sg⦄ ⦃H : Heap⦄ ⦃locs : List Loc⦄ ⦃ls : Array Slot⦄,
    R.cells = mc → R.slots = 6 * mc → Cx p s m args c cc nL N0 a D cI cB cJ own → (∀ x ∈ c.exceptionTable.toList, False) → meth.locks = false → X E σ → T + 1 ≤ mc → ls.size = nL → va_P D vwCl (wld a cI cB cJ σ) H → va_S (AN N0) s.heap H locs →
    W p l e R s m args below meth c H locs T (6 * T) (vx_MQ below Qc (Xg N0 a D cI cB cJ X) args s mc (6 * mc) (AN N0)) (F0 m pc ls [])
/-- what the ends of a method's table say -/
def chkR (ret : Option FieldType) (b : Bool) (e : Ent) : Bool := match e.1 with
  | .ireturn => decide (ret = some .int) || (decide (ret = some .boolean) && b)
  | .lreturn => decide (ret = some .long)
  | .return_ => decide (ret = none)
  | .iaload => Nat.beq e.2.1 0
  | .arraylength => Nat.beq e.2.1 0
  | _ => true
set_option maxHeartbeats 1000000 in
/-- THE CONTRACT OF A METHOD -/
theorem con_of {y : MethodName} {cc : ByteArray} {maxL f lo mc ci n : Nat} {ret : Option FieldType} {b : Bool} {tb : Nat → Option Ent} {ce : Nat → Nat × Ct} {xn : Nat → String} {sws : Nat → List (Int32 × Nat)}
    (hy : plainName y.cls = true) (hchk : ∀ pc en, tb pc = some en → (chk y.cls cc maxL sws pc en && chkR ret b en) = true)
    (hcall : ∀ pc i x yy c' d, tb pc = some (i, x, yy, c', d) → (∃ k, i = .invokevirtual k ∨ i = .invokestatic k) → decode cc pc = .ok (i, 3) → CallS l N0 a D cI cB cJ y.cls cc maxL (rmO f lo mc) mc pc yy (ce x).1 (ce x).2)
    (hthr : ∀ pc k x yy c' d, tb pc = some (.new k, x, yy, c', d) → ThrS l N0 a D cI cB cJ y.cls cc maxL (rmO f lo mc) mc pc (xn pc)) :
    Con l N0 a D cI cB cJ y (Cond.code y cc maxL ret :: Tw) f lo mc (mkP tb ce xn mc sws b ci maxL n) := by
  intro av σ Q X hp
  obtain ⟨hok, hp⟩ := hp
  refine vx_ofW (cc := cc) (maxL := maxL) (ret := ret) hy rfl ?_
  intro p e s m args below meth c s₁ B hml hno hv
  obtain ⟨rfl, hN, hP, hK, hDD, hst⟩ := hv
  have hx := B.exec
  have hb := B.bytes
  have hr := B.returns
  have hts0 := atoms_spec (ws := Cond.code y cc maxL ret :: Tw) B.pre
  have hts : ∀ w ∈ Tw, w.before (av.map (cv a)).toArray s = true := fun w h => hts0 w (List.mem_cons_of_mem _ h)
  have hown : s.vm.findClass y.cls = some m.cls := findClass_of_methodNamed B.named
  have hlocks := B.notSynchronized
  have C0 : Cx p s m (av.map (cv a)).toArray c cc maxL N0 a D cI cB cJ y.cls := ⟨hx, hb, hml, hown, hts, hK, hDD, hst, hN⟩
  have hchk1 : ∀ pc en, tb pc = some en → chk y.cls cc maxL sws pc en = true := fun pc en h => (Bool.and_eq_true_iff.mp (hchk pc en h)).1
  have hchk2 : ∀ pc en, tb pc = some en → chkR ret b en = true := fun pc en h => (Bool.and_eq_true_iff.mp (hchk pc en h)).2
  have hS : va_S (AN N0) s.heap s.heap [] := va_S.rf
  have hl := lv_entry (av.map (cv a)) (n := maxL) (by rw [lcs_sl]; exact (okv_n hok).2)
  rw [lg_entry_eq]
  generalize (lg_sl (av.map (cv a)) ++ List.replicate (maxL - (lg_sl (av.map (cv a))).length) Slot.unset).toArray = ls at hl ⊢
  have hL : Lv a ls maxL (pad maxL (lcs av)) := by
    refine ⟨pad_len _ _, hl.1, hl.2.1, fun i v h => ?_⟩
    have h1 := lcs_args a av 0 i v (pad_gl _ _ _ _ h)
    rw [Nat.zero_add] at h1
    exact hl.2.2 _ h1
  have I : Im p l e (rmO f lo mc) s m (av.map (cv a)).toArray below meth c (vx_MQ below (Qg N0 a D cI cB cJ Q) (Xg N0 a D cI cB cJ X) (av.map (cv a)).toArray s mc (6 * mc) (AN N0)) maxL mc N0 a D cI cB cJ 0 0 (pad maxL (lcs av)) [] σ := by
    refine hp _ (sound C0 hchk1 ?_ ?_ ?_ ?_ ?_ ?_ ?_ ?_)
    · intro pc i x yy c' d hE hi
      obtain ⟨n9, hd9, hl9⟩ := chk_d (hchk1 pc _ hE)
      have hd3 : decode cc pc = .ok (i, 3) := by
        obtain ⟨k, rfl | rfl⟩ := hi
        · cases hl9 rfl; exact hd9
        · cases hl9 rfl; exact hd9
      exact hcall pc i x yy c' d hE hi hd3 rfl rfl C0
    · intro pc i yy c' d hE hi
      have := hchk2 pc _ hE
      rcases hi with rfl | rfl <;> simp [chkR] at this
    · intro pc E h k T lc rest H1 locs1 ls q ce hh
      cases hh
    · intro pc E T τ rest H1 locs1 ls q ce' _ hX hT hP1 hS1 f1 f2 f3
      exact vx_out (fun x hx => absurd (hno x hx) id) hlocks f1 f2 f3 (fun t ht _ => ⟨τ, hX, by rw [ht]; exact hP1, hS1.F ht⟩) hS1.2.2 hT (by omega)
    · intro pc k x yy c' d T σ H locs ls hE hX hT hls hP1 hS1
      exact hthr pc k x yy c' d hE rfl rfl C0 hno hlocks hX hT hls hP1 hS1
    · intro pc x yy c' d v T σ H locs ls hE hdg hR hT hP1 hS1
      refine vx_ret (W.widen (k := mc) (n := 6 * mc) hT (by omega) ?_)
      have h9 := hchk2 pc _ hE
      simp only [chkR, Bool.or_eq_true, Bool.and_eq_true, decide_eq_true_eq] at h9
      rcases h9 with h9 | ⟨h9, hb9⟩
      · rw [h9] at hr
        have hq : Q (some (.int v)) σ := by
          cases b with
          | true => exact hR.2
          | false => exact hR
        exact W.iret hx hb hr (fun t ht _ => ⟨⟨some (.int v), σ, rfl, hq, by rw [ht]; exact hP1⟩, hS1.F ht⟩) hS1.2.2 hdg hlocks
      · rw [h9] at hr
        subst hb9
        obtain ⟨hbo, hq⟩ : (v = 0 ∨ v = 1) ∧ Q (some (.int v)) σ := hR
        exact W.zret hx hb hr (by rcases hbo with rfl | rfl <;> decide +kernel) (fun t ht _ => ⟨⟨some (.int v), σ, rfl, hq, by rw [ht]; exact hP1⟩, hS1.F ht⟩) hS1.2.2 hdg hlocks
    · intro pc x yy c' d v T σ H locs ls hE hdg hR hT hP1 hS1
      refine vx_ret (W.widen (k := mc) (n := 6 * mc) hT (by omega) ?_)
      have h9 := hchk2 pc _ hE
      simp only [chkR, decide_eq_true_eq] at h9
      rw [h9] at hr
      have hq : Q (some (.long v)) σ := by
        cases b with
        | true => exact hR.2
        | false => exact hR
      exact W.lret hx hb hr (fun t ht _ => ⟨⟨some (.long v), σ, rfl, hq, by rw [ht]; exact hP1⟩, hS1.F ht⟩) hS1.2.2 hdg hlocks
    · intro pc x yy c' d T σ H locs ls hE hdg hR hT hP1 hS1
      refine vx_ret (W.widen (k := mc) (n := 6 * mc) hT (by omega) ?_)
      have h9 := hchk2 pc _ hE
      simp only [chkR, decide_eq_true_eq] at h9
      rw [h9] at hr
      have hq : Q none σ := by
        cases b with
        | true => exact hR.2
        | false => exact hR
      exact W.vret hx hb hr (fun t ht _ => ⟨⟨none, σ, rfl, hq, by rw [ht]; exact hP1⟩, hS1.F ht⟩) hS1.2.2 hdg hlocks
  exact I (Nat.zero_le _) s.heap [] ls hP hS hL
theorem mkP_ok {tb : Nat → Option Ent} {ce : Nat → Nat × Ct} {xn : Nat → String} {mc : Nat} {sws : Nat → List (Int32 × Nat)} {b : Bool} {ci maxL n : Nat} : ∀ av σ Q X, mkP tb ce xn mc sws b ci maxL n av σ Q X → okv ci maxL n av = true := fun _ _ _ _ h => h.1
end Con
end
section
/-! ===== call sites by a list; Math, arraycopy, throws ===== -/
def isInv (i : Instr) : Bool := match i with
  | .invokevirtual _ => true
  | .invokestatic _ => true
  | _ => false
def isNew (i : Instr) : Bool := match i with
  | .new _ => true
  | _ => false
def sws0 : Nat → List (Int32 × Nat) := fun _ => []
def xn0 : Nat → String := fun _ => ""
section Jdk
variable {l : Launch} {N0 : Nat} {a : Nat → Nat} {D : va_G} {cI cB cJ : ClassId} {own : String} {cc : ByteArray} {nL f lo mc : Nat} {tb : Nat → Option Ent} {ce : Nat → Nat × Ct} {xn : Nat → String}
theorem cp1 {pc : Nat} {i0 : Instr} {x0 y0 : Nat} {c0 : Int32} {d0 : Int64} (he : tb pc = some (i0, x0, y0, c0, d0)) (h : decode cc pc = .ok (i0, 3) → CallS l N0 a D cI cB cJ own cc nL (rmO f lo mc) mc pc y0 (ce x0).1 (ce x0).2) :
    ∀ i x yy c' d, tb pc = some (i, x, yy, c', d) → decode cc pc = .ok (i, 3) → CallS l N0 a D cI cB cJ own cc nL (rmO f lo mc) mc pc yy (ce x).1 (ce x).2 := by
  intro i x yy c' d h1 h2
  rw [he] at h1
  cases h1
  exact h h2
theorem calls_of {cl : List Nat} (h1 : ∀ pc en, tb pc = some en → (!(isInv en.1) || decide (pc ∈ cl)) = true) (h2 : ∀ pc ∈ cl, ∀ i x yy c' d, tb pc = some (i, x, yy, c', d) → decode cc pc = .ok (i, 3) → CallS l N0 a D cI cB cJ own cc nL (rmO f lo mc) mc pc yy (ce x).1 (ce x).2) :
    ∀ pc i x yy c' d, tb pc = some (i, x, yy, c', d) → (∃ k, i = .invokevirtual k ∨ i = .invokestatic k) → decode cc pc = .ok (i, 3) → CallS l N0 a D cI cB cJ own cc nL (rmO f lo mc) mc pc yy (ce x).1 (ce x).2 := by
  intro pc i x yy c' d hE hi hd
  have h := h1 pc _ hE
  have hin : pc ∈ cl := by
    obtain ⟨k, rfl | rfl⟩ := hi <;> simpa [isInv] using h
  exact h2 pc hin i x yy c' d hE hd
theorem news_of {cl : List Nat} (h1 : ∀ pc en, tb pc = some en → (!(isNew en.1) || decide (pc ∈ cl)) = true) (h2 : ∀ pc ∈ cl, ThrS l N0 a D cI cB cJ own cc nL (rmO f lo mc) mc pc (xn pc)) :
    ∀ pc k x yy c' d, tb pc = some (.new k, x, yy, c', d) → ThrS l N0 a D cI cB cJ own cc nL (rmO f lo mc) mc pc (xn pc) := by
  intro pc k x yy c' d hE
  have h := h1 pc _ hE
  exact h2 pc (by simpa [isNew] using h)
def P_smax : Ct := fun av σ Q _ => match av with
  | [.int x, .int y] => Q (some (.int (if x < y then y else x))) σ
  | _ => False
def P_smin : Ct := fun av σ Q _ => match av with
  | [.int x, .int y] => Q (some (.int (if y < x then y else x))) σ
  | _ => False
def P_sabs : Ct := fun av σ Q _ => match av with
  | [.int x] => Q (some (.int (if 0 ≤ x then x else 0 - x))) σ
  | _ => False
def P_sminl : Ct := fun av σ Q _ => match av with
  | [.long x, .long y] => Q (some (.long (if y < x then y else x))) σ
  | _ => False
def P_scopy : Ct := fun av σ Q _ => match av with
  | [.ref j, .int sp, .ref j2, .int dp, .int n] => (ak j).1 = 2 ∧ (ak j2).1 = 2 ∧ ¬ sp < 0 ∧ ¬ dp < 0 ∧ ¬ n < 0 ∧ sp.toNatClampNeg + n.toNatClampNeg ≤ (ak j).2 ∧ dp.toNatClampNeg + n.toNatClampNeg ≤ (ak j2).2 ∧ (∀ i, i < n.toNatClampNeg → fits .byte (.int (σ.1 j (sp.toNatClampNeg + i))) = true) ∧ Q none (sA σ j2 (va_cpy (σ.1 j) (σ.1 j2) sp.toNatClampNeg dp.toNatClampNeg n.toNatClampNeg))
  | _ => False
theorem cs_max {pc idx : Nat} (hd : decode cc pc = .ok (.invokestatic idx, 3)) (hw : ([.methodLink own idx Lib.Math.max.name, .static Lib.Math.max.name, .initialized "java/lang/Math", .code Lib.Math.max.name Lib.Math.max.code 2 (some .int)] : List Cond).all (fun w => decide (w ∈ lw_tbl) && goodWord w) = true) (hR : 1 ≤ f ∧ 21 ≤ lo) : CallS l N0 a D cI cB cJ own cc nL (rmO f lo mc) mc pc 2 0 P_smax := by
  intro p e s m args below meth c Z hRc hRs C0 T av rest σ Q X H locs ls hlen hrest hmc hls hp hPw hS kk kx
  obtain ⟨hx, hb, hml, hown, hts, -⟩ := id C0
  have hw := tw_all hw
  unfold P_smax at hp
  split at hp
  · rename_i x y
    have hs := cat_sum a hrest
    have h9 := kk _ σ H locs hp hPw hS
    exact va_mmax (cells := T) (slots := 6 * T) (rest := rest.map (cv a)) hx hb (by rw [hml, hls]) hown (hts _ (hw _ (by simp))) (hts _ (hw _ (by simp))) (hts _ (hw _ (by simp))) (hts _ (hw _ (by simp))) hR.1 (by show _ + 13 ≤ lo; omega) (by show T ≤ mc; omega) (by show 6 * T ≤ 6 * mc; omega) hd h9
  · exact hp.elim
theorem cs_min {pc idx : Nat} (hd : decode cc pc = .ok (.invokestatic idx, 3)) (hw : ([.methodLink own idx Lib.Math.min.name, .static Lib.Math.min.name, .initialized "java/lang/Math", .code Lib.Math.min.name Lib.Math.min.code 2 (some .int)] : List Cond).all (fun w => decide (w ∈ lw_tbl) && goodWord w) = true) (hR : 1 ≤ f ∧ 21 ≤ lo) : CallS l N0 a D cI cB cJ own cc nL (rmO f lo mc) mc pc 2 0 P_smin := by
  intro p e s m args below meth c Z hRc hRs C0 T av rest σ Q X H locs ls hlen hrest hmc hls hp hPw hS kk kx
  obtain ⟨hx, hb, hml, hown, hts, -⟩ := id C0
  have hw := tw_all hw
  unfold P_smin at hp
  split at hp
  · rename_i x y
    have hs := cat_sum a hrest
    have h9 := kk _ σ H locs hp hPw hS
    exact va_mmin (cells := T) (slots := 6 * T) (rest := rest.map (cv a)) hx hb (by rw [hml, hls]) hown (hts _ (hw _ (by simp))) (hts _ (hw _ (by simp))) (hts _ (hw _ (by simp))) (hts _ (hw _ (by simp))) hR.1 (by show _ + 13 ≤ lo; omega) (by show T ≤ mc; omega) (by show 6 * T ≤ 6 * mc; omega) hd h9
  · exact hp.elim
theorem cs_abs {pc idx : Nat} (hd : decode cc pc = .ok (.invokestatic idx, 3)) (hw : ([.methodLink own idx Lib.Math.abs.name, .static Lib.Math.abs.name, .initialized "java/lang/Math", .code Lib.Math.abs.name Lib.Math.abs.code 1 (some .int)] : List Cond).all (fun w => decide (w ∈ lw_tbl) && goodWord w) = true) (hR : 1 ≤ f ∧ 21 ≤ lo) : CallS l N0 a D cI cB cJ own cc nL (rmO f lo mc) mc pc 1 0 P_sabs := by
  intro p e s m args below meth c Z hRc hRs C0 T av rest σ Q X H locs ls hlen hrest hmc hls hp hPw hS kk kx
  obtain ⟨hx, hb, hml, hown, hts, -⟩ := id C0
  have hw := tw_all hw
  unfold P_sabs at hp
  split at hp
  · rename_i x
    have hs := cat_sum a hrest
    have h9 := kk _ σ H locs hp hPw hS
    exact va_mabs (cells := T) (slots := 6 * T) (rest := rest.map (cv a)) hx hb (by rw [hml, hls]) hown (hts _ (hw _ (by simp))) (hts _ (hw _ (by simp))) (hts _ (hw _ (by simp))) (hts _ (hw _ (by simp))) hR.1 (by show _ + 13 ≤ lo; omega) (by show T ≤ mc; omega) (by show 6 * T ≤ 6 * mc; omega) hd h9
  · exact hp.elim
theorem cs_minl {pc idx : Nat} (hd : decode cc pc = .ok (.invokestatic idx, 3)) (hw : ([.methodLink own idx Lib.MathLoose.min_long.x, .static Lib.MathLoose.min_long.x, .initialized "java/lang/Math", .code Lib.MathLoose.min_long.x Lib.MathLoose.min_long.code 4 (some .long)] : List Cond).all (fun w => decide (w ∈ lw_tbl) && goodWord w) = true) (hR : 1 ≤ f ∧ 23 ≤ lo) : CallS l N0 a D cI cB cJ own cc nL (rmO f lo mc) mc pc 2 0 P_sminl := by
  intro p e s m args below meth c Z hRc hRs C0 T av rest σ Q X H locs ls hlen hrest hmc hls hp hPw hS kk kx
  obtain ⟨hx, hb, hml, hown, hts, -⟩ := id C0
  have hw := tw_all hw
  unfold P_sminl at hp
  split at hp
  · rename_i x y
    have hs := cat_sum a hrest
    have h9 := kk _ σ H locs hp hPw hS
    exact va_mmin_long (cells := T) (slots := 6 * T) (rest := rest.map (cv a)) hx hb (by rw [hml, hls]) hown (hts _ (hw _ (by simp))) (hts _ (hw _ (by simp))) (hts _ (hw _ (by simp))) (hts _ (hw _ (by simp))) hR.1 (by show _ + 15 ≤ lo; omega) (by show T ≤ mc; omega) (by show 6 * T ≤ 6 * mc; omega) hd h9
  · exact hp.elim
theorem cs_copy {pc idx : Nat} (hd : decode cc pc = .ok (.invokestatic idx, 3)) (hw : ([.methodLink own idx arraycopyName, .native arraycopyName, .static arraycopyName, .initialized "java/lang/System"] : List Cond).all (fun w => decide (w ∈ lw_tbl) && goodWord w) = true) (hR : 1 ≤ f ∧ 8 + (nativeFrameWords "java/lang/System" "arraycopy" 5 + 11) ≤ lo) : CallS l N0 a D cI cB cJ own cc nL (rmO f lo mc) mc pc 5 0 P_scopy := by
  intro p e s m args below meth c Z hRc hRs C0 T av rest σ Q X H locs ls hlen hrest hmc hls hp hPw hS kk kx
  obtain ⟨hx, hb, hml, hown, hts, hK, hDD, hst, hN⟩ := id C0
  have hw := tw_all hw
  unfold P_scopy at hp
  split at hp
  · rename_i j sp j2 dp n
    obtain ⟨h1, h2, h3, h4, h5, h6, h7, h8, hq⟩ := hp
    have hs := cat_sum a hrest
    refine va_copyi (cells := T) (slots := 6 * T) (rest := rest.map (cv a)) (ty := .byte) hx hb (by rw [hml, hls]) hown (hts _ (hw _ (by simp))) (hts _ (hw _ (by simp))) (hts _ (hw _ (by simp))) (hts _ (hw _ (by simp))) hK hPw (hDD σ) hS j j2 1 1 (wld_ab h1) (wld_ab h2) rfl rfl (by decide) h3 h4 h5 h6 h7 h8 hR.1 (by show _ + _ ≤ lo; omega) hd (fun H1 locs1 hP1 hD1 hS1 => ?_)
    rw [wld_sAb (ak_in (Or.inr (Or.inl h2))) h2] at hP1
    exact kk none _ H1 locs1 hq hP1 hS1
  · exact hp.elim
set_option maxHeartbeats 1000000 in
theorem th_any {pc ik is ic : Nat} {E : String} {tx : String} (hq : (is, tx) ∈ exT) (hl : l.stackTraces = false) (hfit : Bundle.fit E = true)
    (hw : ([.classLink "SheetObjects" ik E, .initialized E] ++ vx_atS "SheetObjects" ic E ["java/lang/RuntimeException", "java/lang/Exception"] : List Cond).all (fun w => decide (w ∈ lw_tbl) && (goodWord w || isNest w)) = true)
    (d0 : decode cc pc = .ok (.new ik, 3)) (d3 : decode cc (pc + 3) = .ok (.dup, 1)) (d4 : decode cc (pc + 4) = .ok (.ldc is, 2)) (d6 : decode cc (pc + 6) = .ok (.invokespecial ic, 3)) (d9 : decode cc (pc + 9) = .ok (.athrow, 1))
    (hR : 6 ≤ f ∧ 82 ≤ lo) : ThrS l N0 a D cI cB cJ "SheetObjects" cc nL (rmO f lo mc) mc pc E := by
  intro p e s m args below meth c Qc X T σ H locs ls hRc hRs C0 hno hlocks hX hT hls hPw hS
  obtain ⟨hx, hb, hml, hown, hts, hK, hDD, hst, hN⟩ := id C0
  have hall : ∀ w ∈ ([.classLink "SheetObjects" ik E, .initialized E] ++ vx_atS "SheetObjects" ic E ["java/lang/RuntimeException", "java/lang/Exception"] : List Cond), w.before args s = true ∧ vx_ot w = true := by
    intro w hm
    have h1 := List.all_eq_true.mp hw w hm
    simp only [Bool.and_eq_true, Bool.or_eq_true, decide_eq_true_eq] at h1
    rcases h1.2 with g | g
    · exact ⟨hts w (tw_in h1.1 g), by simp [vx_ot, g]⟩
    · exact ⟨va_Nw.use (nest_tab g) (hst.2.2.2.2.2.2.2.2 w h1.1 g), by simp [vx_ot, nest_tab g]⟩
  obtain ⟨sa, hsa⟩ := hst.2.2.2.1 _ hq
  refine vx_throwS (names := ["java/lang/RuntimeException", "java/lang/Exception"]) (A := AN N0) (sa := sa) (text := tx) hx hb hl hown hfit (by decide +kernel) (hall _ (by simp)).1 (hall _ (by simp)).1 hsa (fun w h => (hall _ (List.mem_append_right _ h)).1) (fun w h => (hall w (by simpa using h)).2) hst.2.2.2.2.2.1 hst.2.2.2.2.2.2.1 hS (by rw [hls, hml]) d0 d3 d4 d6 d9 (fun x h => absurd (hno x h) id) (by show 2 + 3 < f; omega) (by show 0 + (13 * (2 + 1) + 43) ≤ lo; omega) (by show T + 1 ≤ mc; omega) (by show 6 * T + 6 ≤ 6 * mc; omega) hlocks (fun t ht hz hk => ?_) hS.2.2 hT (by omega)
  · refine ⟨σ, hX, fun k q hq => ?_, Nat.le_trans hS.1 hz, fun q h1 h2 => by rw [hk q (Nat.lt_of_lt_of_le h1 hS.1)]; exact hS.2.1 q h1 h2⟩
    exact (hPw k q hq).kept (hk q.1 (hPw k q hq).lt)
end Jdk
end
