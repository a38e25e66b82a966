section
-- ===== PART A: goes FIRST, ahead of the names: the tables' words, and 'selects' of the private methods out of them =====
/-- a private method of a class that the tables say can be made, by its rows of tables_1 -/
def lw_okq (q : MethodName × Nat) : Prop := (q.1.cls ≠ "java/lang/invoke/MethodHandle" ∧ q.1.cls ≠ "java/lang/invoke/VarHandle") ∧ Cond.instantiable q.1.cls q.2 ∈ tables_1 ∧ Cond.privateMethod q.1 ∈ tables_1 ∧ Cond.instanceMethod q.1 ∈ tables_1
theorem lw_p0 : lw_okq (⟨"PathSums", "startAnew", "(IZ)V"⟩, 12) := ⟨⟨by decide +kernel, by decide +kernel⟩, List.mem_of_getElem? (i := 16) (by decide +kernel), List.mem_of_getElem? (i := 104) (by decide +kernel), List.mem_of_getElem? (i := 105) (by decide +kernel)⟩
theorem lw_p1 : lw_okq (⟨"PathSums", "fits", "(IIII)Z"⟩, 12) := ⟨⟨by decide +kernel, by decide +kernel⟩, List.mem_of_getElem? (i := 16) (by decide +kernel), List.mem_of_getElem? (i := 172) (by decide +kernel), List.mem_of_getElem? (i := 173) (by decide +kernel)⟩
theorem lw_p2 : lw_okq (⟨"PathSums", "isWire", "(I)Z"⟩, 12) := ⟨⟨by decide +kernel, by decide +kernel⟩, List.mem_of_getElem? (i := 16) (by decide +kernel), List.mem_of_getElem? (i := 176) (by decide +kernel), List.mem_of_getElem? (i := 177) (by decide +kernel)⟩
theorem lw_p3 : lw_okq (⟨"PathSums$Polynomial", "addPairsBelow", "(IIII)V"⟩, 2) := ⟨⟨by decide +kernel, by decide +kernel⟩, List.mem_of_getElem? (i := 24) (by decide +kernel), List.mem_of_getElem? (i := 201) (by decide +kernel), List.mem_of_getElem? (i := 202) (by decide +kernel)⟩
theorem lw_p4 : lw_okq (⟨"PathSums$Polynomial", "addTriplesBelow", "(III)V"⟩, 2) := ⟨⟨by decide +kernel, by decide +kernel⟩, List.mem_of_getElem? (i := 24) (by decide +kernel), List.mem_of_getElem? (i := 205) (by decide +kernel), List.mem_of_getElem? (i := 206) (by decide +kernel)⟩
theorem lw_p5 : lw_okq (⟨"PathSums", "bringBit", "(II)V"⟩, 12) := ⟨⟨by decide +kernel, by decide +kernel⟩, List.mem_of_getElem? (i := 16) (by decide +kernel), List.mem_of_getElem? (i := 213) (by decide +kernel), List.mem_of_getElem? (i := 214) (by decide +kernel)⟩
theorem lw_p6 : lw_okq (⟨"PathSums", "leastBitWithRule", "()I"⟩, 12) := ⟨⟨by decide +kernel, by decide +kernel⟩, List.mem_of_getElem? (i := 16) (by decide +kernel), List.mem_of_getElem? (i := 222) (by decide +kernel), List.mem_of_getElem? (i := 223) (by decide +kernel)⟩
theorem lw_p7 : lw_okq (⟨"PathSums", "ruleFor", "(I)I"⟩, 12) := ⟨⟨by decide +kernel, by decide +kernel⟩, List.mem_of_getElem? (i := 16) (by decide +kernel), List.mem_of_getElem? (i := 226) (by decide +kernel), List.mem_of_getElem? (i := 227) (by decide +kernel)⟩
theorem lw_p8 : lw_okq (⟨"PathSums", "doRule", "(II)V"⟩, 12) := ⟨⟨by decide +kernel, by decide +kernel⟩, List.mem_of_getElem? (i := 16) (by decide +kernel), List.mem_of_getElem? (i := 239) (by decide +kernel), List.mem_of_getElem? (i := 240) (by decide +kernel)⟩
theorem lw_p9 : lw_okq (⟨"PathSums", "becomeEmpty", "()V"⟩, 12) := ⟨⟨by decide +kernel, by decide +kernel⟩, List.mem_of_getElem? (i := 16) (by decide +kernel), List.mem_of_getElem? (i := 250) (by decide +kernel), List.mem_of_getElem? (i := 251) (by decide +kernel)⟩
theorem lw_p10 : lw_okq (⟨"PathSums", "replaceInValues", "(II)V"⟩, 12) := ⟨⟨by decide +kernel, by decide +kernel⟩, List.mem_of_getElem? (i := 16) (by decide +kernel), List.mem_of_getElem? (i := 259) (by decide +kernel), List.mem_of_getElem? (i := 260) (by decide +kernel)⟩
theorem lw_p11 : lw_okq (⟨"PathSums", "isChoice", "(I)Z"⟩, 12) := ⟨⟨by decide +kernel, by decide +kernel⟩, List.mem_of_getElem? (i := 16) (by decide +kernel), List.mem_of_getElem? (i := 298) (by decide +kernel), List.mem_of_getElem? (i := 299) (by decide +kernel)⟩
theorem lw_p12 : lw_okq (⟨"java/lang/Throwable", "fillInStackTrace", "(I)Ljava/lang/Throwable;"⟩, 6) := ⟨⟨by decide +kernel, by decide +kernel⟩, List.mem_of_getElem? (i := 339) (by decide +kernel), List.mem_of_getElem? (i := 337) (by decide +kernel), List.mem_of_getElem? (i := 338) (by decide +kernel)⟩
theorem lw_p13 : lw_okq (⟨"PathSums", "findAmplitude", "(III)V"⟩, 12) := ⟨⟨by decide +kernel, by decide +kernel⟩, List.mem_of_getElem? (i := 16) (by decide +kernel), List.mem_of_getElem? (i := 385) (by decide +kernel), List.mem_of_getElem? (i := 386) (by decide +kernel)⟩
theorem lw_p14 : lw_okq (⟨"PathSums$Ways", "addNumber", "(II)V"⟩, 5) := ⟨⟨by decide +kernel, by decide +kernel⟩, List.mem_of_getElem? (i := 59) (by decide +kernel), List.mem_of_getElem? (i := 403) (by decide +kernel), List.mem_of_getElem? (i := 404) (by decide +kernel)⟩
theorem lw_p15 : lw_okq (⟨"PathSums$Ways", "layProductsBelow", "(ILPathSums$Polynomial;I)V"⟩, 5) := ⟨⟨by decide +kernel, by decide +kernel⟩, List.mem_of_getElem? (i := 59) (by decide +kernel), List.mem_of_getElem? (i := 407) (by decide +kernel), List.mem_of_getElem? (i := 408) (by decide +kernel)⟩
def lw_privs_1 : List (MethodName × Nat) := [(⟨"PathSums", "startAnew", "(IZ)V"⟩, 12), (⟨"PathSums", "fits", "(IIII)Z"⟩, 12), (⟨"PathSums", "isWire", "(I)Z"⟩, 12), (⟨"PathSums$Polynomial", "addPairsBelow", "(IIII)V"⟩, 2), (⟨"PathSums$Polynomial", "addTriplesBelow", "(III)V"⟩, 2), (⟨"PathSums", "bringBit", "(II)V"⟩, 12), (⟨"PathSums", "leastBitWithRule", "()I"⟩, 12), (⟨"PathSums", "ruleFor", "(I)I"⟩, 12), (⟨"PathSums", "doRule", "(II)V"⟩, 12), (⟨"PathSums", "becomeEmpty", "()V"⟩, 12), (⟨"PathSums", "replaceInValues", "(II)V"⟩, 12), (⟨"PathSums", "isChoice", "(I)Z"⟩, 12), (⟨"java/lang/Throwable", "fillInStackTrace", "(I)Ljava/lang/Throwable;"⟩, 6), (⟨"PathSums", "findAmplitude", "(III)V"⟩, 12), (⟨"PathSums$Ways", "addNumber", "(II)V"⟩, 5), (⟨"PathSums$Ways", "layProductsBelow", "(ILPathSums$Polynomial;I)V"⟩, 5)]
theorem lw_r1 : ∀ q ∈ lw_privs_1, lw_okq q := List.forall_mem_cons.mpr ⟨lw_p0, List.forall_mem_cons.mpr ⟨lw_p1, List.forall_mem_cons.mpr ⟨lw_p2, List.forall_mem_cons.mpr ⟨lw_p3, List.forall_mem_cons.mpr ⟨lw_p4, List.forall_mem_cons.mpr ⟨lw_p5, List.forall_mem_cons.mpr ⟨lw_p6, List.forall_mem_cons.mpr ⟨lw_p7, List.forall_mem_cons.mpr ⟨lw_p8, List.forall_mem_cons.mpr ⟨lw_p9, List.forall_mem_cons.mpr ⟨lw_p10, List.forall_mem_cons.mpr ⟨lw_p11, List.forall_mem_cons.mpr ⟨lw_p12, List.forall_mem_cons.mpr ⟨lw_p13, List.forall_mem_cons.mpr ⟨lw_p14, List.forall_mem_cons.mpr ⟨lw_p15, fun _ h => absurd h List.not_mem_nil⟩⟩⟩⟩⟩⟩⟩⟩⟩⟩⟩⟩⟩⟩⟩⟩
theorem lw_p16 : lw_okq (⟨"PathSums$Ways", "sumOverParts", "()V"⟩, 5) := ⟨⟨by decide +kernel, by decide +kernel⟩, List.mem_of_getElem? (i := 59) (by decide +kernel), List.mem_of_getElem? (i := 411) (by decide +kernel), List.mem_of_getElem? (i := 412) (by decide +kernel)⟩
theorem lw_p17 : lw_okq (⟨"PathSums$Root", "multiplyByR", "()V"⟩, 5) := ⟨⟨by decide +kernel, by decide +kernel⟩, List.mem_of_getElem? (i := 82) (by decide +kernel), List.mem_of_getElem? (i := 424) (by decide +kernel), List.mem_of_getElem? (i := 425) (by decide +kernel)⟩
theorem lw_p18 : lw_okq (⟨"PathSums$Root", "isMultipleOfR", "()Z"⟩, 5) := ⟨⟨by decide +kernel, by decide +kernel⟩, List.mem_of_getElem? (i := 82) (by decide +kernel), List.mem_of_getElem? (i := 431) (by decide +kernel), List.mem_of_getElem? (i := 432) (by decide +kernel)⟩
theorem lw_p19 : lw_okq (⟨"PathSums$Root", "halve", "()V"⟩, 5) := ⟨⟨by decide +kernel, by decide +kernel⟩, List.mem_of_getElem? (i := 82) (by decide +kernel), List.mem_of_getElem? (i := 436) (by decide +kernel), List.mem_of_getElem? (i := 437) (by decide +kernel)⟩
theorem lw_p20 : lw_okq (⟨"PathSumsModel", "start", "(I)V"⟩, 22) := ⟨⟨by decide +kernel, by decide +kernel⟩, List.mem_of_getElem? (i := 444) (by decide +kernel), List.mem_of_getElem? (i := 450) (by decide +kernel), List.mem_of_getElem? (i := 451) (by decide +kernel)⟩
theorem lw_p21 : lw_okq (⟨"PathSumsModel", "isWire", "(I)Z"⟩, 22) := ⟨⟨by decide +kernel, by decide +kernel⟩, List.mem_of_getElem? (i := 444) (by decide +kernel), List.mem_of_getElem? (i := 541) (by decide +kernel), List.mem_of_getElem? (i := 542) (by decide +kernel)⟩
theorem lw_p22 : lw_okq (⟨"PathSumsModel", "exchange", "(II)V"⟩, 22) := ⟨⟨by decide +kernel, by decide +kernel⟩, List.mem_of_getElem? (i := 444) (by decide +kernel), List.mem_of_getElem? (i := 545) (by decide +kernel), List.mem_of_getElem? (i := 546) (by decide +kernel)⟩
theorem lw_p23 : lw_okq (⟨"PathSumsModel", "addTwo", "(III)V"⟩, 22) := ⟨⟨by decide +kernel, by decide +kernel⟩, List.mem_of_getElem? (i := 444) (by decide +kernel), List.mem_of_getElem? (i := 549) (by decide +kernel), List.mem_of_getElem? (i := 550) (by decide +kernel)⟩
theorem lw_p24 : lw_okq (⟨"PathSumsModel", "addHalf", "(II)V"⟩, 22) := ⟨⟨by decide +kernel, by decide +kernel⟩, List.mem_of_getElem? (i := 444) (by decide +kernel), List.mem_of_getElem? (i := 553) (by decide +kernel), List.mem_of_getElem? (i := 554) (by decide +kernel)⟩
theorem lw_p25 : lw_okq (⟨"PathSumsModel", "add", "(II)V"⟩, 22) := ⟨⟨by decide +kernel, by decide +kernel⟩, List.mem_of_getElem? (i := 444) (by decide +kernel), List.mem_of_getElem? (i := 557) (by decide +kernel), List.mem_of_getElem? (i := 558) (by decide +kernel)⟩
theorem lw_p26 : lw_okq (⟨"PathSumsModel", "addThree", "(III)V"⟩, 22) := ⟨⟨by decide +kernel, by decide +kernel⟩, List.mem_of_getElem? (i := 444) (by decide +kernel), List.mem_of_getElem? (i := 567) (by decide +kernel), List.mem_of_getElem? (i := 568) (by decide +kernel)⟩
theorem lw_p27 : lw_okq (⟨"PathSumsModel", "newBit", "(II)V"⟩, 22) := ⟨⟨by decide +kernel, by decide +kernel⟩, List.mem_of_getElem? (i := 444) (by decide +kernel), List.mem_of_getElem? (i := 571) (by decide +kernel), List.mem_of_getElem? (i := 572) (by decide +kernel)⟩
theorem lw_p28 : lw_okq (⟨"PathSumsModel", "addOr", "(IIII)V"⟩, 22) := ⟨⟨by decide +kernel, by decide +kernel⟩, List.mem_of_getElem? (i := 444) (by decide +kernel), List.mem_of_getElem? (i := 578) (by decide +kernel), List.mem_of_getElem? (i := 579) (by decide +kernel)⟩
theorem lw_p29 : lw_okq (⟨"PathSumsModel", "ruleFor", "(I)I"⟩, 22) := ⟨⟨by decide +kernel, by decide +kernel⟩, List.mem_of_getElem? (i := 444) (by decide +kernel), List.mem_of_getElem? (i := 586) (by decide +kernel), List.mem_of_getElem? (i := 587) (by decide +kernel)⟩
theorem lw_p30 : lw_okq (⟨"PathSumsModel", "isHidden", "(I)Z"⟩, 22) := ⟨⟨by decide +kernel, by decide +kernel⟩, List.mem_of_getElem? (i := 444) (by decide +kernel), List.mem_of_getElem? (i := 590) (by decide +kernel), List.mem_of_getElem? (i := 591) (by decide +kernel)⟩
theorem lw_p31 : lw_okq (⟨"PathSumsModel", "inputs", "()I"⟩, 22) := ⟨⟨by decide +kernel, by decide +kernel⟩, List.mem_of_getElem? (i := 444) (by decide +kernel), List.mem_of_getElem? (i := 594) (by decide +kernel), List.mem_of_getElem? (i := 595) (by decide +kernel)⟩
def lw_privs_2 : List (MethodName × Nat) := [(⟨"PathSums$Ways", "sumOverParts", "()V"⟩, 5), (⟨"PathSums$Root", "multiplyByR", "()V"⟩, 5), (⟨"PathSums$Root", "isMultipleOfR", "()Z"⟩, 5), (⟨"PathSums$Root", "halve", "()V"⟩, 5), (⟨"PathSumsModel", "start", "(I)V"⟩, 22), (⟨"PathSumsModel", "isWire", "(I)Z"⟩, 22), (⟨"PathSumsModel", "exchange", "(II)V"⟩, 22), (⟨"PathSumsModel", "addTwo", "(III)V"⟩, 22), (⟨"PathSumsModel", "addHalf", "(II)V"⟩, 22), (⟨"PathSumsModel", "add", "(II)V"⟩, 22), (⟨"PathSumsModel", "addThree", "(III)V"⟩, 22), (⟨"PathSumsModel", "newBit", "(II)V"⟩, 22), (⟨"PathSumsModel", "addOr", "(IIII)V"⟩, 22), (⟨"PathSumsModel", "ruleFor", "(I)I"⟩, 22), (⟨"PathSumsModel", "isHidden", "(I)Z"⟩, 22), (⟨"PathSumsModel", "inputs", "()I"⟩, 22)]
theorem lw_r2 : ∀ q ∈ lw_privs_2, lw_okq q := List.forall_mem_cons.mpr ⟨lw_p16, List.forall_mem_cons.mpr ⟨lw_p17, List.forall_mem_cons.mpr ⟨lw_p18, List.forall_mem_cons.mpr ⟨lw_p19, List.forall_mem_cons.mpr ⟨lw_p20, List.forall_mem_cons.mpr ⟨lw_p21, List.forall_mem_cons.mpr ⟨lw_p22, List.forall_mem_cons.mpr ⟨lw_p23, List.forall_mem_cons.mpr ⟨lw_p24, List.forall_mem_cons.mpr ⟨lw_p25, List.forall_mem_cons.mpr ⟨lw_p26, List.forall_mem_cons.mpr ⟨lw_p27, List.forall_mem_cons.mpr ⟨lw_p28, List.forall_mem_cons.mpr ⟨lw_p29, List.forall_mem_cons.mpr ⟨lw_p30, List.forall_mem_cons.mpr ⟨lw_p31, fun _ h => absurd h List.not_mem_nil⟩⟩⟩⟩⟩⟩⟩⟩⟩⟩⟩⟩⟩⟩⟩⟩
theorem lw_p32 : lw_okq (⟨"PathSumsModel", "findFactor", "(I)Z"⟩, 22) := ⟨⟨by decide +kernel, by decide +kernel⟩, List.mem_of_getElem? (i := 444) (by decide +kernel), List.mem_of_getElem? (i := 598) (by decide +kernel), List.mem_of_getElem? (i := 599) (by decide +kernel)⟩
theorem lw_p33 : lw_okq (⟨"PathSumsModel", "numberOf", "(I)I"⟩, 22) := ⟨⟨by decide +kernel, by decide +kernel⟩, List.mem_of_getElem? (i := 444) (by decide +kernel), List.mem_of_getElem? (i := 602) (by decide +kernel), List.mem_of_getElem? (i := 603) (by decide +kernel)⟩
theorem lw_p34 : lw_okq (⟨"PathSumsModel", "doRule", "(II)V"⟩, 22) := ⟨⟨by decide +kernel, by decide +kernel⟩, List.mem_of_getElem? (i := 444) (by decide +kernel), List.mem_of_getElem? (i := 606) (by decide +kernel), List.mem_of_getElem? (i := 607) (by decide +kernel)⟩
theorem lw_p35 : lw_okq (⟨"PathSumsModel", "empty", "()V"⟩, 22) := ⟨⟨by decide +kernel, by decide +kernel⟩, List.mem_of_getElem? (i := 444) (by decide +kernel), List.mem_of_getElem? (i := 610) (by decide +kernel), List.mem_of_getElem? (i := 611) (by decide +kernel)⟩
theorem lw_p36 : lw_okq (⟨"PathSumsModel", "dropBit", "(I)V"⟩, 22) := ⟨⟨by decide +kernel, by decide +kernel⟩, List.mem_of_getElem? (i := 444) (by decide +kernel), List.mem_of_getElem? (i := 614) (by decide +kernel), List.mem_of_getElem? (i := 615) (by decide +kernel)⟩
theorem lw_p37 : lw_okq (⟨"PathSumsModel", "become", "(III)V"⟩, 22) := ⟨⟨by decide +kernel, by decide +kernel⟩, List.mem_of_getElem? (i := 444) (by decide +kernel), List.mem_of_getElem? (i := 621) (by decide +kernel), List.mem_of_getElem? (i := 622) (by decide +kernel)⟩
theorem lw_p38 : lw_okq (⟨"PathSumsModel", "raise", "(I)J"⟩, 22) := ⟨⟨by decide +kernel, by decide +kernel⟩, List.mem_of_getElem? (i := 444) (by decide +kernel), List.mem_of_getElem? (i := 641) (by decide +kernel), List.mem_of_getElem? (i := 642) (by decide +kernel)⟩
theorem lw_p39 : lw_okq (⟨"PathSumsModel", "listAll", "()V"⟩, 22) := ⟨⟨by decide +kernel, by decide +kernel⟩, List.mem_of_getElem? (i := 444) (by decide +kernel), List.mem_of_getElem? (i := 645) (by decide +kernel), List.mem_of_getElem? (i := 646) (by decide +kernel)⟩
theorem lw_p40 : lw_okq (⟨"PathSumsModel", "isOutput", "(II)Z"⟩, 22) := ⟨⟨by decide +kernel, by decide +kernel⟩, List.mem_of_getElem? (i := 444) (by decide +kernel), List.mem_of_getElem? (i := 652) (by decide +kernel), List.mem_of_getElem? (i := 653) (by decide +kernel)⟩
theorem lw_p41 : lw_okq (⟨"PathSumsModel", "phaseOf", "(I)I"⟩, 22) := ⟨⟨by decide +kernel, by decide +kernel⟩, List.mem_of_getElem? (i := 444) (by decide +kernel), List.mem_of_getElem? (i := 659) (by decide +kernel), List.mem_of_getElem? (i := 660) (by decide +kernel)⟩
theorem lw_p42 : lw_okq (⟨"PathSumsModel", "settle", "()V"⟩, 22) := ⟨⟨by decide +kernel, by decide +kernel⟩, List.mem_of_getElem? (i := 444) (by decide +kernel), List.mem_of_getElem? (i := 664) (by decide +kernel), List.mem_of_getElem? (i := 665) (by decide +kernel)⟩
theorem lw_p43 : lw_okq (⟨"PathSumsModel", "timesRoot", "()V"⟩, 22) := ⟨⟨by decide +kernel, by decide +kernel⟩, List.mem_of_getElem? (i := 444) (by decide +kernel), List.mem_of_getElem? (i := 668) (by decide +kernel), List.mem_of_getElem? (i := 669) (by decide +kernel)⟩
theorem lw_p44 : lw_okq (⟨"PathSumsModel", "byRoot", "()Z"⟩, 22) := ⟨⟨by decide +kernel, by decide +kernel⟩, List.mem_of_getElem? (i := 444) (by decide +kernel), List.mem_of_getElem? (i := 672) (by decide +kernel), List.mem_of_getElem? (i := 673) (by decide +kernel)⟩
def lw_privs_3 : List (MethodName × Nat) := [(⟨"PathSumsModel", "findFactor", "(I)Z"⟩, 22), (⟨"PathSumsModel", "numberOf", "(I)I"⟩, 22), (⟨"PathSumsModel", "doRule", "(II)V"⟩, 22), (⟨"PathSumsModel", "empty", "()V"⟩, 22), (⟨"PathSumsModel", "dropBit", "(I)V"⟩, 22), (⟨"PathSumsModel", "become", "(III)V"⟩, 22), (⟨"PathSumsModel", "raise", "(I)J"⟩, 22), (⟨"PathSumsModel", "listAll", "()V"⟩, 22), (⟨"PathSumsModel", "isOutput", "(II)Z"⟩, 22), (⟨"PathSumsModel", "phaseOf", "(I)I"⟩, 22), (⟨"PathSumsModel", "settle", "()V"⟩, 22), (⟨"PathSumsModel", "timesRoot", "()V"⟩, 22), (⟨"PathSumsModel", "byRoot", "()Z"⟩, 22)]
theorem lw_r3 : ∀ q ∈ lw_privs_3, lw_okq q := List.forall_mem_cons.mpr ⟨lw_p32, List.forall_mem_cons.mpr ⟨lw_p33, List.forall_mem_cons.mpr ⟨lw_p34, List.forall_mem_cons.mpr ⟨lw_p35, List.forall_mem_cons.mpr ⟨lw_p36, List.forall_mem_cons.mpr ⟨lw_p37, List.forall_mem_cons.mpr ⟨lw_p38, List.forall_mem_cons.mpr ⟨lw_p39, List.forall_mem_cons.mpr ⟨lw_p40, List.forall_mem_cons.mpr ⟨lw_p41, List.forall_mem_cons.mpr ⟨lw_p42, List.forall_mem_cons.mpr ⟨lw_p43, List.forall_mem_cons.mpr ⟨lw_p44, fun _ h => absurd h List.not_mem_nil⟩⟩⟩⟩⟩⟩⟩⟩⟩⟩⟩⟩⟩
def lw_privs : List (MethodName × Nat) := lw_privs_1 ++ (lw_privs_2 ++ (lw_privs_3))
def lw_tbl : List Cond := k2_sels lw_privs ++ tables_1
theorem lw_privs_ok : ∀ q ∈ lw_privs, lw_okq q := by
  show ∀ q ∈ lw_privs_1 ++ (lw_privs_2 ++ (lw_privs_3)), lw_okq q
  exact List.forall_mem_append.mpr ⟨lw_r1, List.forall_mem_append.mpr ⟨lw_r2, lw_r3⟩⟩
end
section
def R_Dr : String := "PathSums$DoneRules"
def R_Po : String := "PathSums$Polynomial"
def R_Ro : String := "PathSums$Root"
def R_Wa : String := "PathSums$Ways"
def R_Ps : String := "PathSums"
def R_Md : String := "PathSumsModel"
def R_Lw : String := "PathSumsLaw"
def R_Jint : String := "java/lang/Integer"
def R_Jmath : String := "java/lang/Math"
def R_Jarr : String := "java/util/Arrays"
def R_Jthr : String := "java/lang/Throwable"
def R_Jexc : String := "java/lang/Exception"
def R_Jrun : String := "java/lang/RuntimeException"
def R_Jnse : String := "java/util/NoSuchElementException"
def R_Jari : String := "java/lang/ArithmeticException"
def F_Dr : u_T := fun k => match k with
  | 0 => ("PathSums$DoneRules", "kinds", "[I", true)
  | 1 => ("PathSums$DoneRules", "ys", "[I", true)
  | 2 => ("PathSums$DoneRules", "zs", "[I", true)
  | _ => ("PathSums$DoneRules", "count", "I", false)
def t_Dr : Nat → FieldType := fun k => match k with
  | 0 => .array .int
  | 1 => .array .int
  | 2 => .array .int
  | _ => .int
theorem n_Dr : ∀ a, a < 4 → ∀ b, b < 4 → a ≠ b → (F_Dr a).2.1 ≠ (F_Dr b).2.1 := by decide +kernel
theorem t_Dr_ok : ∀ k, k < 4 → parseFieldDescriptor (F_Dr k).2.2.1 = some (t_Dr k) := by decide +kernel
def F_Po : u_T := fun k => match k with
  | 0 => ("PathSums$Polynomial", "numbers", "[I", true)
  | _ => ("PathSums$Polynomial", "monomials", "I", false)
def t_Po : Nat → FieldType := fun k => match k with
  | 0 => .array .int
  | _ => .int
theorem n_Po : ∀ a, a < 2 → ∀ b, b < 2 → a ≠ b → (F_Po a).2.1 ≠ (F_Po b).2.1 := by decide +kernel
theorem t_Po_ok : ∀ k, k < 2 → parseFieldDescriptor (F_Po k).2.2.1 = some (t_Po k) := by decide +kernel
def F_Ro : u_T := fun k => match k with
  | 0 => ("PathSums$Root", "a", "J", false)
  | 1 => ("PathSums$Root", "b", "J", false)
  | 2 => ("PathSums$Root", "c", "J", false)
  | 3 => ("PathSums$Root", "d", "J", false)
  | _ => ("PathSums$Root", "k", "I", false)
def t_Ro : Nat → FieldType := fun k => match k with
  | 0 => .long
  | 1 => .long
  | 2 => .long
  | 3 => .long
  | _ => .int
theorem n_Ro : ∀ a, a < 5 → ∀ b, b < 5 → a ≠ b → (F_Ro a).2.1 ≠ (F_Ro b).2.1 := by decide +kernel
theorem t_Ro_ok : ∀ k, k < 5 → parseFieldDescriptor (F_Ro k).2.2.1 = some (t_Ro k) := by decide +kernel
def F_Wa : u_T := fun k => match k with
  | 0 => ("PathSums$Ways", "phases", "[I", true)
  | 1 => ("PathSums$Ways", "wayOf", "[I", true)
  | 2 => ("PathSums$Ways", "wiresOf", "[I", true)
  | 3 => ("PathSums$Ways", "tallies", "[I", true)
  | _ => ("PathSums$Ways", "chosen", "I", false)
def t_Wa : Nat → FieldType := fun k => match k with
  | 0 => .array .int
  | 1 => .array .int
  | 2 => .array .int
  | 3 => .array .int
  | _ => .int
theorem n_Wa : ∀ a, a < 5 → ∀ b, b < 5 → a ≠ b → (F_Wa a).2.1 ≠ (F_Wa b).2.1 := by decide +kernel
theorem t_Wa_ok : ∀ k, k < 5 → parseFieldDescriptor (F_Wa k).2.2.1 = some (t_Wa k) := by decide +kernel
def F_Ps : u_T := fun k => match k with
  | 0 => ("PathSums", "values", "[I", true)
  | 1 => ("PathSums", "polynomial", "LPathSums$Polynomial;", true)
  | 2 => ("PathSums", "doneRules", "LPathSums$DoneRules;", true)
  | 3 => ("PathSums", "ways", "LPathSums$Ways;", true)
  | 4 => ("PathSums", "root", "LPathSums$Root;", true)
  | 5 => ("PathSums", "wireCount", "I", false)
  | 6 => ("PathSums", "bitsCame", "I", false)
  | 7 => ("PathSums", "bitsThere", "I", false)
  | 8 => ("PathSums", "inputBits", "I", false)
  | 9 => ("PathSums", "rootsBelow", "I", false)
  | 10 => ("PathSums", "begunOpen", "Z", false)
  | _ => ("PathSums", "empty", "Z", false)
def t_Ps : Nat → FieldType := fun k => match k with
  | 0 => .array .int
  | 1 => .object "PathSums$Polynomial"
  | 2 => .object "PathSums$DoneRules"
  | 3 => .object "PathSums$Ways"
  | 4 => .object "PathSums$Root"
  | 5 => .int
  | 6 => .int
  | 7 => .int
  | 8 => .int
  | 9 => .int
  | 10 => .boolean
  | _ => .boolean
theorem n_Ps : ∀ a, a < 12 → ∀ b, b < 12 → a ≠ b → (F_Ps a).2.1 ≠ (F_Ps b).2.1 := by decide +kernel
theorem t_Ps_ok : ∀ k, k < 12 → parseFieldDescriptor (F_Ps k).2.2.1 = some (t_Ps k) := by decide +kernel
def F_Md : u_T := fun k => match k with
  | 0 => ("PathSumsModel", "thrown", "I", false)
  | 1 => ("PathSumsModel", "wires", "I", false)
  | 2 => ("PathSumsModel", "isOpen", "Z", false)
  | 3 => ("PathSumsModel", "isEmpty", "Z", false)
  | 4 => ("PathSumsModel", "came", "I", false)
  | 5 => ("PathSumsModel", "there", "I", false)
  | 6 => ("PathSumsModel", "halves", "I", false)
  | 7 => ("PathSumsModel", "number", "[I", true)
  | 8 => ("PathSumsModel", "set", "[I", true)
  | 9 => ("PathSumsModel", "constant", "[I", true)
  | 10 => ("PathSumsModel", "rules", "I", false)
  | 11 => ("PathSumsModel", "ruleKind", "[I", true)
  | 12 => ("PathSumsModel", "ruleBit", "[I", true)
  | 13 => ("PathSumsModel", "ruleOther", "[I", true)
  | 14 => ("PathSumsModel", "alone", "I", false)
  | 15 => ("PathSumsModel", "halfBits", "I", false)
  | 16 => ("PathSumsModel", "oldSet", "[I", true)
  | 17 => ("PathSumsModel", "oldNumber", "[I", true)
  | 18 => ("PathSumsModel", "allSets", "[I", true)
  | 19 => ("PathSumsModel", "allNumbers", "[I", true)
  | 20 => ("PathSumsModel", "allMany", "I", false)
  | _ => ("PathSumsModel", "root", "[J", true)
def t_Md : Nat → FieldType := fun k => match k with
  | 0 => .int
  | 1 => .int
  | 2 => .boolean
  | 3 => .boolean
  | 4 => .int
  | 5 => .int
  | 6 => .int
  | 7 => .array .int
  | 8 => .array .int
  | 9 => .array .int
  | 10 => .int
  | 11 => .array .int
  | 12 => .array .int
  | 13 => .array .int
  | 14 => .int
  | 15 => .int
  | 16 => .array .int
  | 17 => .array .int
  | 18 => .array .int
  | 19 => .array .int
  | 20 => .int
  | _ => .array .long
theorem n_Md : ∀ a, a < 22 → ∀ b, b < 22 → a ≠ b → (F_Md a).2.1 ≠ (F_Md b).2.1 := by decide +kernel
theorem t_Md_ok : ∀ k, k < 22 → parseFieldDescriptor (F_Md k).2.2.1 = some (t_Md k) := by decide +kernel
abbrev vwCl : List vw_C := [(R_Dr, F_Dr, 4), (R_Po, F_Po, 2), (R_Ro, F_Ro, 5), (R_Wa, F_Wa, 5), (R_Ps, F_Ps, 12), (R_Md, F_Md, 22)]
/-- all words of the tables that stay -/
def zT : List Cond := lw_tbl.filter goodWord
theorem zT_good : ∀ w ∈ zT, (w.onTables && w.keeps) = true ∨ ∃ ty, w = .arrayClass ty := fun w h => good_of_word (List.mem_filter.mp h).2
theorem zmem0 {w : Cond} (i : Nat) (h : (k2_sels lw_privs)[i]? = some w) (hg : goodWord w = true) : w ∈ zT := List.mem_filter.mpr ⟨List.mem_append_left _ (List.mem_of_getElem? h), hg⟩
theorem zmem1 {w : Cond} (i : Nat) (h : tables_1_1[i]? = some w) (hg : goodWord w = true) : w ∈ zT := List.mem_filter.mpr ⟨List.mem_append_right _ (List.mem_append_left _ (List.mem_of_getElem? h)), hg⟩
theorem zmem2 {w : Cond} (i : Nat) (h : tables_1_2[i]? = some w) (hg : goodWord w = true) : w ∈ zT := List.mem_filter.mpr ⟨List.mem_append_right _ (List.mem_append_right _ (List.mem_append_left _ (List.mem_of_getElem? h))), hg⟩
theorem zmem3 {w : Cond} (i : Nat) (h : tables_1_3[i]? = some w) (hg : goodWord w = true) : w ∈ zT := List.mem_filter.mpr ⟨List.mem_append_right _ (List.mem_append_right _ (List.mem_append_right _ (List.mem_of_getElem? h))), hg⟩
theorem iw_Dr : ∀ w ∈ u_ws R_Dr F_Dr 4, w ∈ zT := by
  intro w h
  obtain ⟨k, hk, rfl⟩ := List.mem_map.mp h
  have hk := List.mem_range.mp hk
  match k, hk with
  | 0, _ => exact zmem1 49 rfl rfl
  | 1, _ => exact zmem1 51 rfl rfl
  | 2, _ => exact zmem1 53 rfl rfl
  | 3, _ => exact zmem1 55 rfl rfl
  | k + 4, hk => exact absurd hk (by omega)
theorem iw_Po : ∀ w ∈ u_ws R_Po F_Po 2, w ∈ zT := by
  intro w h
  obtain ⟨k, hk, rfl⟩ := List.mem_map.mp h
  have hk := List.mem_range.mp hk
  match k, hk with
  | 0, _ => exact zmem1 32 rfl rfl
  | 1, _ => exact zmem1 34 rfl rfl
  | k + 2, hk => exact absurd hk (by omega)
theorem iw_Ro : ∀ w ∈ u_ws R_Ro F_Ro 5, w ∈ zT := by
  intro w h
  obtain ⟨k, hk, rfl⟩ := List.mem_map.mp h
  have hk := List.mem_range.mp hk
  match k, hk with
  | 0, _ => exact zmem1 92 rfl rfl
  | 1, _ => exact zmem1 94 rfl rfl
  | 2, _ => exact zmem1 96 rfl rfl
  | 3, _ => exact zmem1 98 rfl rfl
  | 4, _ => exact zmem1 100 rfl rfl
  | k + 5, hk => exact absurd hk (by omega)
theorem iw_Wa : ∀ w ∈ u_ws R_Wa F_Wa 5, w ∈ zT := by
  intro w h
  obtain ⟨k, hk, rfl⟩ := List.mem_map.mp h
  have hk := List.mem_range.mp hk
  match k, hk with
  | 0, _ => exact zmem1 70 rfl rfl
  | 1, _ => exact zmem1 72 rfl rfl
  | 2, _ => exact zmem1 74 rfl rfl
  | 3, _ => exact zmem1 76 rfl rfl
  | 4, _ => exact zmem1 78 rfl rfl
  | k + 5, hk => exact absurd hk (by omega)
theorem iw_Ps : ∀ w ∈ u_ws R_Ps F_Ps 12, w ∈ zT := by
  intro w h
  obtain ⟨k, hk, rfl⟩ := List.mem_map.mp h
  have hk := List.mem_range.mp hk
  match k, hk with
  | 0, _ => exact zmem1 127 rfl rfl
  | 1, _ => exact zmem1 129 rfl rfl
  | 2, _ => exact zmem1 131 rfl rfl
  | 3, _ => exact zmem1 133 rfl rfl
  | 4, _ => exact zmem1 135 rfl rfl
  | 5, _ => exact zmem1 137 rfl rfl
  | 6, _ => exact zmem1 139 rfl rfl
  | 7, _ => exact zmem1 141 rfl rfl
  | 8, _ => exact zmem1 143 rfl rfl
  | 9, _ => exact zmem1 145 rfl rfl
  | 10, _ => exact zmem1 147 rfl rfl
  | 11, _ => exact zmem1 149 rfl rfl
  | k + 12, hk => exact absurd hk (by omega)
theorem iw_Md : ∀ w ∈ u_ws R_Md F_Md 22, w ∈ zT := by
  intro w h
  obtain ⟨k, hk, rfl⟩ := List.mem_map.mp h
  have hk := List.mem_range.mp hk
  match k, hk with
  | 0, _ => exact zmem2 235 rfl rfl
  | 1, _ => exact zmem2 237 rfl rfl
  | 2, _ => exact zmem2 239 rfl rfl
  | 3, _ => exact zmem3 1 rfl rfl
  | 4, _ => exact zmem3 3 rfl rfl
  | 5, _ => exact zmem3 5 rfl rfl
  | 6, _ => exact zmem3 7 rfl rfl
  | 7, _ => exact zmem3 9 rfl rfl
  | 8, _ => exact zmem3 11 rfl rfl
  | 9, _ => exact zmem3 13 rfl rfl
  | 10, _ => exact zmem3 15 rfl rfl
  | 11, _ => exact zmem3 17 rfl rfl
  | 12, _ => exact zmem3 19 rfl rfl
  | 13, _ => exact zmem3 21 rfl rfl
  | 14, _ => exact zmem3 23 rfl rfl
  | 15, _ => exact zmem3 25 rfl rfl
  | 16, _ => exact zmem3 27 rfl rfl
  | 17, _ => exact zmem3 29 rfl rfl
  | 18, _ => exact zmem3 31 rfl rfl
  | 19, _ => exact zmem3 33 rfl rfl
  | 20, _ => exact zmem3 35 rfl rfl
  | 21, _ => exact zmem3 37 rfl rfl
  | k + 22, hk => exact absurd hk (by omega)
abbrev b_Ps_init : ByteArray := prog_1_method_1_code
def y_Ps_init : MethodName := ⟨R_Ps, "<init>", "()V"⟩
abbrev b_Ps_begin : ByteArray := prog_1_method_2_code
def y_Ps_begin : MethodName := ⟨R_Ps, "begin", "(II)Z"⟩
abbrev b_Ps_open : ByteArray := prog_1_method_3_code
def y_Ps_open : MethodName := ⟨R_Ps, "open", "(I)Z"⟩
abbrev b_Ps_gate : ByteArray := prog_1_method_4_code
def y_Ps_gate : MethodName := ⟨R_Ps, "gate", "(IIII)Z"⟩
abbrev b_Ps_reduce : ByteArray := prog_1_method_5_code
def y_Ps_reduce : MethodName := ⟨R_Ps, "reduce", "()I"⟩
abbrev b_Ps_rule : ByteArray := prog_1_method_6_code
def y_Ps_rule : MethodName := ⟨R_Ps, "rule", "(II)I"⟩
abbrev b_Ps_term : ByteArray := prog_1_method_7_code
def y_Ps_term : MethodName := ⟨R_Ps, "term", "(I)I"⟩
abbrev b_Ps_wire : ByteArray := prog_1_method_8_code
def y_Ps_wire : MethodName := ⟨R_Ps, "wire", "(II)I"⟩
abbrev b_Ps_value : ByteArray := prog_1_method_9_code
def y_Ps_value : MethodName := ⟨R_Ps, "value", "(III)J"⟩
abbrev b_Ps_total : ByteArray := prog_1_method_10_code
def y_Ps_total : MethodName := ⟨R_Ps, "total", "(I)I"⟩
abbrev b_Ps_halves : ByteArray := prog_1_method_11_code
def y_Ps_halves : MethodName := ⟨R_Ps, "halves", "()I"⟩
abbrev b_Ps_has : ByteArray := prog_1_method_12_code
def y_Ps_has : MethodName := ⟨R_Ps, "has", "(II)Z"⟩
abbrev b_Ps_isWireCount : ByteArray := prog_1_method_13_code
def y_Ps_isWireCount : MethodName := ⟨R_Ps, "isWireCount", "(I)Z"⟩
abbrev b_Ps_isWire : ByteArray := prog_1_method_14_code
def y_Ps_isWire : MethodName := ⟨R_Ps, "isWire", "(I)Z"⟩
abbrev b_Ps_isChoice : ByteArray := prog_1_method_15_code
def y_Ps_isChoice : MethodName := ⟨R_Ps, "isChoice", "(I)Z"⟩
abbrev b_Ps_startAnew : ByteArray := prog_1_method_16_code
def y_Ps_startAnew : MethodName := ⟨R_Ps, "startAnew", "(IZ)V"⟩
abbrev b_Ps_fits : ByteArray := prog_1_method_17_code
def y_Ps_fits : MethodName := ⟨R_Ps, "fits", "(IIII)Z"⟩
abbrev b_Ps_bringBit : ByteArray := prog_1_method_18_code
def y_Ps_bringBit : MethodName := ⟨R_Ps, "bringBit", "(II)V"⟩
abbrev b_Ps_leastBitWithRule : ByteArray := prog_1_method_19_code
def y_Ps_leastBitWithRule : MethodName := ⟨R_Ps, "leastBitWithRule", "()I"⟩
abbrev b_Ps_ruleFor : ByteArray := prog_1_method_20_code
def y_Ps_ruleFor : MethodName := ⟨R_Ps, "ruleFor", "(I)I"⟩
abbrev b_Ps_doRule : ByteArray := prog_1_method_21_code
def y_Ps_doRule : MethodName := ⟨R_Ps, "doRule", "(II)V"⟩
abbrev b_Ps_greatestOf : ByteArray := prog_1_method_22_code
def y_Ps_greatestOf : MethodName := ⟨R_Ps, "greatestOf", "(I)I"⟩
abbrev b_Ps_becomeEmpty : ByteArray := prog_1_method_23_code
def y_Ps_becomeEmpty : MethodName := ⟨R_Ps, "becomeEmpty", "()V"⟩
abbrev b_Ps_replaceInValues : ByteArray := prog_1_method_24_code
def y_Ps_replaceInValues : MethodName := ⟨R_Ps, "replaceInValues", "(II)V"⟩
abbrev b_Ps_findAmplitude : ByteArray := prog_1_method_25_code
def y_Ps_findAmplitude : MethodName := ⟨R_Ps, "findAmplitude", "(III)V"⟩
abbrev b_Md_init : ByteArray := prog_7_method_1_code
def y_Md_init : MethodName := ⟨R_Md, "<init>", "()V"⟩
abbrev b_Md_thrown : ByteArray := prog_7_method_2_code
def y_Md_thrown : MethodName := ⟨R_Md, "thrown", "()I"⟩
abbrev b_Md_count : ByteArray := prog_7_method_3_code
def y_Md_count : MethodName := ⟨R_Md, "count", "(I)I"⟩
abbrev b_Md_placeOf : ByteArray := prog_7_method_4_code
def y_Md_placeOf : MethodName := ⟨R_Md, "placeOf", "(I)I"⟩
abbrev b_Md_numberOf : ByteArray := prog_7_method_5_code
def y_Md_numberOf : MethodName := ⟨R_Md, "numberOf", "(I)I"⟩
abbrev b_Md_add : ByteArray := prog_7_method_6_code
def y_Md_add : MethodName := ⟨R_Md, "add", "(II)V"⟩
abbrev b_Md_addOr : ByteArray := prog_7_method_7_code
def y_Md_addOr : MethodName := ⟨R_Md, "addOr", "(IIII)V"⟩
abbrev b_Md_addHalf : ByteArray := prog_7_method_8_code
def y_Md_addHalf : MethodName := ⟨R_Md, "addHalf", "(II)V"⟩
abbrev b_Md_addTwo : ByteArray := prog_7_method_9_code
def y_Md_addTwo : MethodName := ⟨R_Md, "addTwo", "(III)V"⟩
abbrev b_Md_addThree : ByteArray := prog_7_method_10_code
def y_Md_addThree : MethodName := ⟨R_Md, "addThree", "(III)V"⟩
abbrev b_Md_start : ByteArray := prog_7_method_11_code
def y_Md_start : MethodName := ⟨R_Md, "start", "(I)V"⟩
abbrev b_Md_begin : ByteArray := prog_7_method_12_code
def y_Md_begin : MethodName := ⟨R_Md, "begin", "(II)Z"⟩
abbrev b_Md_open : ByteArray := prog_7_method_13_code
def y_Md_open : MethodName := ⟨R_Md, "open", "(I)Z"⟩
abbrev b_Md_isWire : ByteArray := prog_7_method_14_code
def y_Md_isWire : MethodName := ⟨R_Md, "isWire", "(I)Z"⟩
abbrev b_Md_wiresOf : ByteArray := prog_7_method_15_code
def y_Md_wiresOf : MethodName := ⟨R_Md, "wiresOf", "(I)I"⟩
abbrev b_Md_eighthsOf : ByteArray := prog_7_method_16_code
def y_Md_eighthsOf : MethodName := ⟨R_Md, "eighthsOf", "(I)I"⟩
abbrev b_Md_exchange : ByteArray := prog_7_method_17_code
def y_Md_exchange : MethodName := ⟨R_Md, "exchange", "(II)V"⟩
abbrev b_Md_gate : ByteArray := prog_7_method_18_code
def y_Md_gate : MethodName := ⟨R_Md, "gate", "(IIII)Z"⟩
abbrev b_Md_newBit : ByteArray := prog_7_method_19_code
def y_Md_newBit : MethodName := ⟨R_Md, "newBit", "(II)V"⟩
abbrev b_Md_inputs : ByteArray := prog_7_method_20_code
def y_Md_inputs : MethodName := ⟨R_Md, "inputs", "()I"⟩
abbrev b_Md_isHidden : ByteArray := prog_7_method_21_code
def y_Md_isHidden : MethodName := ⟨R_Md, "isHidden", "(I)Z"⟩
abbrev b_Md_findFactor : ByteArray := prog_7_method_22_code
def y_Md_findFactor : MethodName := ⟨R_Md, "findFactor", "(I)Z"⟩
abbrev b_Md_ruleFor : ByteArray := prog_7_method_23_code
def y_Md_ruleFor : MethodName := ⟨R_Md, "ruleFor", "(I)I"⟩
abbrev b_Md_empty : ByteArray := prog_7_method_24_code
def y_Md_empty : MethodName := ⟨R_Md, "empty", "()V"⟩
abbrev b_Md_dropBit : ByteArray := prog_7_method_25_code
def y_Md_dropBit : MethodName := ⟨R_Md, "dropBit", "(I)V"⟩
abbrev b_Md_greatest : ByteArray := prog_7_method_26_code
def y_Md_greatest : MethodName := ⟨R_Md, "greatest", "(I)I"⟩
abbrev b_Md_become : ByteArray := prog_7_method_27_code
def y_Md_become : MethodName := ⟨R_Md, "become", "(III)V"⟩
abbrev b_Md_doRule : ByteArray := prog_7_method_28_code
def y_Md_doRule : MethodName := ⟨R_Md, "doRule", "(II)V"⟩
abbrev b_Md_reduce : ByteArray := prog_7_method_29_code
def y_Md_reduce : MethodName := ⟨R_Md, "reduce", "()I"⟩
abbrev b_Md_rule : ByteArray := prog_7_method_30_code
def y_Md_rule : MethodName := ⟨R_Md, "rule", "(II)I"⟩
abbrev b_Md_term : ByteArray := prog_7_method_31_code
def y_Md_term : MethodName := ⟨R_Md, "term", "(I)I"⟩
abbrev b_Md_wire : ByteArray := prog_7_method_32_code
def y_Md_wire : MethodName := ⟨R_Md, "wire", "(II)I"⟩
abbrev b_Md_listAll : ByteArray := prog_7_method_33_code
def y_Md_listAll : MethodName := ⟨R_Md, "listAll", "()V"⟩
abbrev b_Md_parity : ByteArray := prog_7_method_34_code
def y_Md_parity : MethodName := ⟨R_Md, "parity", "(I)I"⟩
abbrev b_Md_isOutput : ByteArray := prog_7_method_35_code
def y_Md_isOutput : MethodName := ⟨R_Md, "isOutput", "(II)Z"⟩
abbrev b_Md_phaseOf : ByteArray := prog_7_method_36_code
def y_Md_phaseOf : MethodName := ⟨R_Md, "phaseOf", "(I)I"⟩
abbrev b_Md_spread : ByteArray := prog_7_method_37_code
def y_Md_spread : MethodName := ⟨R_Md, "spread", "(II)I"⟩
abbrev b_Md_timesRoot : ByteArray := prog_7_method_38_code
def y_Md_timesRoot : MethodName := ⟨R_Md, "timesRoot", "()V"⟩
abbrev b_Md_byRoot : ByteArray := prog_7_method_39_code
def y_Md_byRoot : MethodName := ⟨R_Md, "byRoot", "()Z"⟩
abbrev b_Md_settle : ByteArray := prog_7_method_40_code
def y_Md_settle : MethodName := ⟨R_Md, "settle", "()V"⟩
abbrev b_Md_raise : ByteArray := prog_7_method_41_code
def y_Md_raise : MethodName := ⟨R_Md, "raise", "(I)J"⟩
abbrev b_Md_value : ByteArray := prog_7_method_42_code
def y_Md_value : MethodName := ⟨R_Md, "value", "(III)J"⟩
abbrev b_Md_total : ByteArray := prog_7_method_43_code
def y_Md_total : MethodName := ⟨R_Md, "total", "(I)I"⟩
abbrev b_Md_halves : ByteArray := prog_7_method_44_code
def y_Md_halves : MethodName := ⟨R_Md, "halves", "()I"⟩
abbrev b_Dr_init : ByteArray := prog_2_method_1_code
def y_Dr_init : MethodName := ⟨R_Dr, "<init>", "()V"⟩
abbrev b_Dr_keep : ByteArray := prog_2_method_2_code
def y_Dr_keep : MethodName := ⟨R_Dr, "keep", "(III)V"⟩
abbrev b_Dr_look : ByteArray := prog_2_method_3_code
def y_Dr_look : MethodName := ⟨R_Dr, "look", "(II)I"⟩
abbrev b_Po_init : ByteArray := prog_3_method_1_code
def y_Po_init : MethodName := ⟨R_Po, "<init>", "()V"⟩
abbrev b_Po_clear : ByteArray := prog_3_method_2_code
def y_Po_clear : MethodName := ⟨R_Po, "clear", "()V"⟩
abbrev b_Po_numberOf : ByteArray := prog_3_method_3_code
def y_Po_numberOf : MethodName := ⟨R_Po, "numberOf", "(I)I"⟩
abbrev b_Po_add : ByteArray := prog_3_method_4_code
def y_Po_add : MethodName := ⟨R_Po, "add", "(II)V"⟩
abbrev b_Po_addXor : ByteArray := prog_3_method_5_code
def y_Po_addXor : MethodName := ⟨R_Po, "addXor", "(III)V"⟩
abbrev b_Po_addPairsBelow : ByteArray := prog_3_method_6_code
def y_Po_addPairsBelow : MethodName := ⟨R_Po, "addPairsBelow", "(IIII)V"⟩
abbrev b_Po_addTriplesBelow : ByteArray := prog_3_method_7_code
def y_Po_addTriplesBelow : MethodName := ⟨R_Po, "addTriplesBelow", "(III)V"⟩
abbrev b_Po_addFourTimes : ByteArray := prog_3_method_8_code
def y_Po_addFourTimes : MethodName := ⟨R_Po, "addFourTimes", "(III)V"⟩
abbrev b_Po_replaceBit : ByteArray := prog_3_method_9_code
def y_Po_replaceBit : MethodName := ⟨R_Po, "replaceBit", "(II)V"⟩
abbrev b_Po_partnersOf : ByteArray := prog_3_method_10_code
def y_Po_partnersOf : MethodName := ⟨R_Po, "partnersOf", "(I)I"⟩
abbrev b_Po_placeOf : ByteArray := prog_3_method_11_code
def y_Po_placeOf : MethodName := ⟨R_Po, "placeOf", "(I)I"⟩
abbrev b_Ro_init : ByteArray := prog_4_method_1_code
def y_Ro_init : MethodName := ⟨R_Ro, "<init>", "()V"⟩
abbrev b_Ro_take : ByteArray := prog_4_method_2_code
def y_Ro_take : MethodName := ⟨R_Ro, "take", "([II)V"⟩
abbrev b_Ro_multiplyByR : ByteArray := prog_4_method_3_code
def y_Ro_multiplyByR : MethodName := ⟨R_Ro, "multiplyByR", "()V"⟩
abbrev b_Ro_isMultipleOfR : ByteArray := prog_4_method_4_code
def y_Ro_isMultipleOfR : MethodName := ⟨R_Ro, "isMultipleOfR", "()Z"⟩
abbrev b_Ro_halve : ByteArray := prog_4_method_5_code
def y_Ro_halve : MethodName := ⟨R_Ro, "halve", "()V"⟩
abbrev b_Ro_look : ByteArray := prog_4_method_6_code
def y_Ro_look : MethodName := ⟨R_Ro, "look", "(I)J"⟩
abbrev b_Wa_init : ByteArray := prog_5_method_1_code
def y_Wa_init : MethodName := ⟨R_Wa, "<init>", "()V"⟩
abbrev b_Wa_choose : ByteArray := prog_5_method_2_code
def y_Wa_choose : MethodName := ⟨R_Wa, "choose", "(I[I)V"⟩
abbrev b_Wa_wiresWith : ByteArray := prog_5_method_3_code
def y_Wa_wiresWith : MethodName := ⟨R_Wa, "wiresWith", "(I[I)I"⟩
abbrev b_Wa_findPhases : ByteArray := prog_5_method_4_code
def y_Wa_findPhases : MethodName := ⟨R_Wa, "findPhases", "(LPathSums$Polynomial;I)V"⟩
abbrev b_Wa_layProductsBelow : ByteArray := prog_5_method_5_code
def y_Wa_layProductsBelow : MethodName := ⟨R_Wa, "layProductsBelow", "(ILPathSums$Polynomial;I)V"⟩
abbrev b_Wa_addNumber : ByteArray := prog_5_method_6_code
def y_Wa_addNumber : MethodName := ⟨R_Wa, "addNumber", "(II)V"⟩
abbrev b_Wa_sumOverParts : ByteArray := prog_5_method_7_code
def y_Wa_sumOverParts : MethodName := ⟨R_Wa, "sumOverParts", "()V"⟩
abbrev b_Wa_tally : ByteArray := prog_5_method_8_code
def y_Wa_tally : MethodName := ⟨R_Wa, "tally", "(II)V"⟩
abbrev b_Jint_bitCount : ByteArray := prog_10_method_49_code
def y_Jint_bitCount : MethodName := ⟨R_Jint, "bitCount", "(I)I"⟩
abbrev b_Jmath_max : ByteArray := prog_11_method_65_code
def y_Jmath_max : MethodName := ⟨R_Jmath, "max", "(II)I"⟩
abbrev b_Jarr_fill : ByteArray := prog_15_method_103_code
def y_Jarr_fill : MethodName := ⟨R_Jarr, "fill", "([II)V"⟩
end
section
/-! what is the same wherever the machine stands -/
def zN : List Cond := [(Jvm.Cond.methodLinkNest "PathSums" (15 : Nat) ({ cls := "PathSums$Polynomial", name := "<init>", desc := "()V" } : Jvm.MethodName) "PathSums"), (Jvm.Cond.fieldLinkNest "PathSums" (140 : Nat) "PathSums$Polynomial" "monomials" "I" "PathSums"), (Jvm.Cond.methodLinkNest "PathSums" (22 : Nat) ({ cls := "PathSums$DoneRules", name := "<init>", desc := "()V" } : Jvm.MethodName) "PathSums"), (Jvm.Cond.fieldLinkNest "PathSums" (143 : Nat) "PathSums$DoneRules" "count" "I" "PathSums"), (Jvm.Cond.methodLinkNest "PathSums" (29 : Nat) ({ cls := "PathSums$Ways", name := "<init>", desc := "()V" } : Jvm.MethodName) "PathSums"), (Jvm.Cond.fieldLinkNest "PathSums" (190 : Nat) "PathSums$Ways" "tallies" "[I" "PathSums"), (Jvm.Cond.methodLinkNest "PathSums" (36 : Nat) ({ cls := "PathSums$Root", name := "<init>", desc := "()V" } : Jvm.MethodName) "PathSums"), (Jvm.Cond.methodLinkNest "PathSums$Polynomial" (29 : Nat) ({ cls := "PathSums", name := "has", desc := "(II)Z" } : Jvm.MethodName) "PathSums"), (Jvm.Cond.methodLinkNest "PathSums$Ways" (28 : Nat) ({ cls := "PathSums", name := "has", desc := "(II)Z" } : Jvm.MethodName) "PathSums")]
def tb_TURNS : Nat → Int32 := fun k => match k with
  | 0 => 4
  | 1 => 2
  | 2 => 1
  | 3 => 6
  | _ => 7
def zE (A : Nat → Prop) (U : State) (H : Heap) : Prop := (∀ w ∈ zN, va_Nw w U) ∧ (∃ t : Nat, va_Z "PathSums" "TURNS" "[I" (.ref t) A U H ∧ va_T .int t 5 (fun k => .int (tb_TURNS k)) A U H)
theorem zN_kind : ∀ w ∈ zN, (∃ a i b n d h, w = .fieldLinkNest a i b n d h) ∨ (∃ a i x h, w = .methodLinkNest a i x h) := by
  intro w h
  simp only [zN, List.mem_cons, List.not_mem_nil, or_false] at h
  rcases h with rfl | rfl | rfl | rfl | rfl | rfl | rfl | rfl | rfl <;> first | exact Or.inl ⟨_, _, _, _, _, _, rfl⟩ | exact Or.inr ⟨_, _, _, _, rfl⟩
theorem zN_warm {s U : State} (hW : s.WarmedH U.vm) {w : Cond} (hw : w ∈ zN) (h : va_Nw w s) : va_Nw w U := by
  rcases zN_kind w hw with ⟨a, i, b, n, d, h1, rfl⟩ | ⟨a, i, x, h1, rfl⟩
  · exact va_Nw.warmF hW h
  · exact va_Nw.warmM hW h
theorem zN_same {u U : State} (hv : u.vm = U.vm) {w : Cond} (hw : w ∈ zN) (h : va_Nw w u) : va_Nw w U := by
  rcases zN_kind w hw with ⟨a, i, b, n, d, h1, rfl⟩ | ⟨a, i, x, h1, rfl⟩
  · exact va_Nw.same rfl hv h
  · exact va_Nw.same rfl hv h
theorem zE.warm {A : Nat → Prop} {s U : State} {H : Heap} (hW : s.WarmedH U.vm) (h : zE A s H) : zE A U H := by
  obtain ⟨h1, t, h2, h3⟩ := h
  exact ⟨fun w hw => zN_warm hW hw (h1 w hw), t, va_Z.moved hW.alike h2, va_T.moved hW.alike h3⟩
theorem zE.same {A : Nat → Prop} {u U : State} {H : Heap} (hv : u.vm = U.vm) (h : zE A u H) : zE A U H := by
  obtain ⟨h1, t, h2, h3⟩ := h
  have hal : u.vm.Alike U.vm := by rw [hv]; exact Vm.Alike.refl _
  exact ⟨fun w hw => zN_same hv hw (h1 w hw), t, va_Z.moved hal h2, va_T.moved hal h3⟩
theorem zE.kept {A : Nat → Prop} {U : State} {H H1 : Heap} (h : zE A U H) (hq : ∀ a : Nat, a < H.size → ¬ A a → H1[a]? = H[a]?) : zE A U H1 := by
  obtain ⟨h1, t, h2, h3⟩ := h
  exact ⟨h1, t, va_Z.kept h2 hq, va_T.kept h3 hq⟩
theorem zE.narrow {A B : Nat → Prop} {U : State} {H : Heap} (h : zE A U H) (hAB : ∀ q, B q → A q) : zE B U H := by
  obtain ⟨h1, t, h2, h3⟩ := h
  exact ⟨h1, t, va_Z.narrow h2 hAB, va_T.narrow h3 hAB⟩

/-! The Z layer: a frame with its world, its locals and its stack as lists -/
section ZL
variable {p : Program} {l : Launch} {e : Env} {R : Room} {s : State} {m : MethodId} {args : Array Value} {below : List Frame} {meth : Method} {c : Code} {cells slots : Nat} {Q : State → Prop}
variable {cc : ByteArray} {pc nL : Nat} {D : va_G} {cl : List vw_C} {A : Nat → Prop} {tys : List (ClassId × FieldType)} {ws ws' : va_W} {lv lv' : List (Nat × Value)} {st rest : List Value} {own : String} {as0 : List Nat}
/-- what stays the same all over a method -/
def zC (p : Program) (s : State) (m : MethodId) (args : Array Value) (meth : Method) (c : Code) (cc : ByteArray) (nL : Nat) (own : String) (D : va_G) (cl : List vw_C) (tys : List (ClassId × FieldType)) (A : Nat → Prop) : Prop :=
  p.tables.exec = Jvm.exec ∧ c.code = cc ∧ c.maxLocals = nL ∧ s.vm.findClass own = some m.cls ∧ (∀ w ∈ zT, w.before args s = true) ∧ va_K D cl tys s ∧ (∀ q, s.heap.size ≤ q → A q) ∧ meth.locks = false ∧ zE A s s.heap
/-- the machine at pc, with these locals, this stack, this world, comes to Q -/
def ZW (p : Program) (l : Launch) (e : Env) (R : Room) (s : State) (m : MethodId) (args : Array Value) (below : List Frame) (meth : Method) (c : Code) (nL : Nat) (D : va_G) (cl : List vw_C) (A : Nat → Prop) (cells slots : Nat) (Q : State → Prop) (ws : va_W) (pc : Nat) (lv : List (Nat × Value)) (st : List Value) : Prop :=
  ∀ (H : Heap) (locs : List Loc) (ls : Array Slot), lv_has ls nL lv → va_P D cl ws H → va_D A ws → va_S A s.heap H locs → W p l e R s m args below meth c H locs cells slots Q (F0 m pc ls st)

theorem z_iconst (C : zC p s m args meth c cc nL own D cl tys A) {n : Int} {v : Int32} (hdg : decode cc pc = .ok (.iconst n, 1)) (hv : Int32.ofInt n = v) (k : ZW p l e R s m args below meth c nL D cl A cells slots Q ws (pc + 1) lv (.int v :: st)) : ZW p l e R s m args below meth c nL D cl A cells slots Q ws pc lv st :=
  fun H locs ls h1 h2 h3 h4 => lv_iconst C.1 C.2.1 hdg hv (k H locs ls h1 h2 h3 h4)
theorem z_bipush (C : zC p s m args meth c cc nL own D cl tys A) {n : Int} {v : Int32} (hdg : decode cc pc = .ok (.bipush n, 2)) (hv : (Int8.ofInt n).toInt32 = v) (k : ZW p l e R s m args below meth c nL D cl A cells slots Q ws (pc + 2) lv (.int v :: st)) : ZW p l e R s m args below meth c nL D cl A cells slots Q ws pc lv st :=
  fun H locs ls h1 h2 h3 h4 => lv_bipush C.1 C.2.1 hdg hv (k H locs ls h1 h2 h3 h4)
theorem z_sipush (C : zC p s m args meth c cc nL own D cl tys A) {n : Int} {v : Int32} (hdg : decode cc pc = .ok (.sipush n, 3)) (hv : (Int16.ofInt n).toInt32 = v) (k : ZW p l e R s m args below meth c nL D cl A cells slots Q ws (pc + 3) lv (.int v :: st)) : ZW p l e R s m args below meth c nL D cl A cells slots Q ws pc lv st :=
  fun H locs ls h1 h2 h3 h4 => lv_sipush C.1 C.2.1 hdg hv (k H locs ls h1 h2 h3 h4)
theorem z_lconst (C : zC p s m args meth c cc nL own D cl tys A) {n : Fin 2} {v : Int64} (hdg : decode cc pc = .ok (.lconst n, 1)) (hv : Int64.ofNat (n : Nat) = v) (k : ZW p l e R s m args below meth c nL D cl A cells slots Q ws (pc + 1) lv (.long v :: st)) : ZW p l e R s m args below meth c nL D cl A cells slots Q ws pc lv st :=
  fun H locs ls h1 h2 h3 h4 => lv_lconst C.1 C.2.1 hdg hv (k H locs ls h1 h2 h3 h4)
theorem z_ldc (C : zC p s m args meth c cc nL own D cl tys A) {index : Nat} {v : Int32} (hc : Jvm.Cond.constant own index v ∈ zT) (hdg : decode cc pc = .ok (.ldc index, 2)) (k : ZW p l e R s m args below meth c nL D cl A cells slots Q ws (pc + 2) lv (.int v :: st)) : ZW p l e R s m args below meth c nL D cl A cells slots Q ws pc lv st :=
  fun H locs ls h1 h2 h3 h4 => lv_ldc C.1 C.2.1 C.2.2.2.1 (C.2.2.2.2.1 _ hc) hdg (k H locs ls h1 h2 h3 h4)
theorem z_ldc2 (C : zC p s m args meth c cc nL own D cl tys A) {index : Nat} {v : Int64} (hc : Jvm.Cond.constantLong own index v ∈ zT) (hdg : decode cc pc = .ok (.ldc2_w index, 3)) (k : ZW p l e R s m args below meth c nL D cl A cells slots Q ws (pc + 3) lv (.long v :: st)) : ZW p l e R s m args below meth c nL D cl A cells slots Q ws pc lv st :=
  fun H locs ls h1 h2 h3 h4 => lv_ldc2 C.1 C.2.1 C.2.2.2.1 (C.2.2.2.2.1 _ hc) hdg (k H locs ls h1 h2 h3 h4)
theorem z_iload_n (C : zC p s m args meth c cc nL own D cl tys A) {k : Fin 4} {i : Nat} {x : Int32} (hdg : decode cc pc = .ok (.iload_n k, 1)) (hi : (k : Nat) = i) (q : Nat) (hl : lv[q]? = some (i, .int x)) (kk : ZW p l e R s m args below meth c nL D cl A cells slots Q ws (pc + 1) lv (.int x :: st)) : ZW p l e R s m args below meth c nL D cl A cells slots Q ws pc lv st :=
  fun H locs ls h1 h2 h3 h4 => lv_iload_n C.1 C.2.1 hdg hi (lv_at h1 q hl) (kk H locs ls h1 h2 h3 h4)
theorem z_iload (C : zC p s m args meth c cc nL own D cl tys A) {i : Nat} {x : Int32} (hdg : decode cc pc = .ok (.iload i, 2)) (q : Nat) (hl : lv[q]? = some (i, .int x)) (kk : ZW p l e R s m args below meth c nL D cl A cells slots Q ws (pc + 2) lv (.int x :: st)) : ZW p l e R s m args below meth c nL D cl A cells slots Q ws pc lv st :=
  fun H locs ls h1 h2 h3 h4 => lv_iload C.1 C.2.1 hdg (lv_at h1 q hl) (kk H locs ls h1 h2 h3 h4)
theorem z_istore_n (C : zC p s m args meth c cc nL own D cl tys A) {k : Fin 4} {i : Nat} {x : Int32} (hdg : decode cc pc = .ok (.istore_n k, 1)) (hi : (k : Nat) = i) (hn : i < nL) (hl : (i, Value.int x) :: lv.filter (fun q => !(q.1 == i) && !(q.1 + 1 == i && q.2.category == 2)) = lv') (kk : ZW p l e R s m args below meth c nL D cl A cells slots Q ws (pc + 1) lv' st) : ZW p l e R s m args below meth c nL D cl A cells slots Q ws pc lv (.int x :: st) :=
  fun H locs ls h1 h2 h3 h4 => lv_istore_n C.1 C.2.1 hdg hi h1 hn hl (fun ls' h1' => kk H locs ls' h1' h2 h3 h4)
theorem z_istore (C : zC p s m args meth c cc nL own D cl tys A) {i : Nat} {x : Int32} (hdg : decode cc pc = .ok (.istore i, 2)) (hn : i < nL) (hl : (i, Value.int x) :: lv.filter (fun q => !(q.1 == i) && !(q.1 + 1 == i && q.2.category == 2)) = lv') (kk : ZW p l e R s m args below meth c nL D cl A cells slots Q ws (pc + 2) lv' st) : ZW p l e R s m args below meth c nL D cl A cells slots Q ws pc lv (.int x :: st) :=
  fun H locs ls h1 h2 h3 h4 => lv_istore C.1 C.2.1 hdg h1 hn hl (fun ls' h1' => kk H locs ls' h1' h2 h3 h4)
theorem z_lload_n (C : zC p s m args meth c cc nL own D cl tys A) {k : Fin 4} {i : Nat} {x : Int64} (hdg : decode cc pc = .ok (.lload_n k, 1)) (hi : (k : Nat) = i) (q : Nat) (hl : lv[q]? = some (i, .long x)) (kk : ZW p l e R s m args below meth c nL D cl A cells slots Q ws (pc + 1) lv (.long x :: st)) : ZW p l e R s m args below meth c nL D cl A cells slots Q ws pc lv st :=
  fun H locs ls h1 h2 h3 h4 => lv_lload_n C.1 C.2.1 hdg hi (lv_at h1 q hl) (kk H locs ls h1 h2 h3 h4)
theorem z_lload (C : zC p s m args meth c cc nL own D cl tys A) {i : Nat} {x : Int64} (hdg : decode cc pc = .ok (.lload i, 2)) (q : Nat) (hl : lv[q]? = some (i, .long x)) (kk : ZW p l e R s m args below meth c nL D cl A cells slots Q ws (pc + 2) lv (.long x :: st)) : ZW p l e R s m args below meth c nL D cl A cells slots Q ws pc lv st :=
  fun H locs ls h1 h2 h3 h4 => lv_lload C.1 C.2.1 hdg (lv_at h1 q hl) (kk H locs ls h1 h2 h3 h4)
theorem z_lstore_n (C : zC p s m args meth c cc nL own D cl tys A) {k : Fin 4} {i : Nat} {x : Int64} (hdg : decode cc pc = .ok (.lstore_n k, 1)) (hi : (k : Nat) = i) (hn : i + 1 < nL) (hl : (i, Value.long x) :: lv.filter (fun q => !(q.1 == i) && (!(q.1 == i + 1) && !(q.1 + 1 == i && q.2.category == 2))) = lv') (kk : ZW p l e R s m args below meth c nL D cl A cells slots Q ws (pc + 1) lv' st) : ZW p l e R s m args below meth c nL D cl A cells slots Q ws pc lv (.long x :: st) :=
  fun H locs ls h1 h2 h3 h4 => lv_lstore_n C.1 C.2.1 hdg hi h1 hn hl (fun ls' h1' => kk H locs ls' h1' h2 h3 h4)
theorem z_lstore (C : zC p s m args meth c cc nL own D cl tys A) {i : Nat} {x : Int64} (hdg : decode cc pc = .ok (.lstore i, 2)) (hn : i + 1 < nL) (hl : (i, Value.long x) :: lv.filter (fun q => !(q.1 == i) && (!(q.1 == i + 1) && !(q.1 + 1 == i && q.2.category == 2))) = lv') (kk : ZW p l e R s m args below meth c nL D cl A cells slots Q ws (pc + 2) lv' st) : ZW p l e R s m args below meth c nL D cl A cells slots Q ws pc lv (.long x :: st) :=
  fun H locs ls h1 h2 h3 h4 => lv_lstore C.1 C.2.1 hdg h1 hn hl (fun ls' h1' => kk H locs ls' h1' h2 h3 h4)
theorem z_aload_n (C : zC p s m args meth c cc nL own D cl tys A) {k : Fin 4} {i : Nat} {x : Nat} (hdg : decode cc pc = .ok (.aload_n k, 1)) (hi : (k : Nat) = i) (q : Nat) (hl : lv[q]? = some (i, .ref x)) (kk : ZW p l e R s m args below meth c nL D cl A cells slots Q ws (pc + 1) lv (.ref x :: st)) : ZW p l e R s m args below meth c nL D cl A cells slots Q ws pc lv st :=
  fun H locs ls h1 h2 h3 h4 => lv_aload_n C.1 C.2.1 hdg hi (lv_at h1 q hl) (kk H locs ls h1 h2 h3 h4)
theorem z_aload (C : zC p s m args meth c cc nL own D cl tys A) {i : Nat} {x : Nat} (hdg : decode cc pc = .ok (.aload i, 2)) (q : Nat) (hl : lv[q]? = some (i, .ref x)) (kk : ZW p l e R s m args below meth c nL D cl A cells slots Q ws (pc + 2) lv (.ref x :: st)) : ZW p l e R s m args below meth c nL D cl A cells slots Q ws pc lv st :=
  fun H locs ls h1 h2 h3 h4 => lv_aload C.1 C.2.1 hdg (lv_at h1 q hl) (kk H locs ls h1 h2 h3 h4)
theorem z_astore_n (C : zC p s m args meth c cc nL own D cl tys A) {k : Fin 4} {i : Nat} {x : Nat} (hdg : decode cc pc = .ok (.astore_n k, 1)) (hi : (k : Nat) = i) (hn : i < nL) (hl : (i, Value.ref x) :: lv.filter (fun q => !(q.1 == i) && !(q.1 + 1 == i && q.2.category == 2)) = lv') (kk : ZW p l e R s m args below meth c nL D cl A cells slots Q ws (pc + 1) lv' st) : ZW p l e R s m args below meth c nL D cl A cells slots Q ws pc lv (.ref x :: st) :=
  fun H locs ls h1 h2 h3 h4 => lv_astore_n C.1 C.2.1 hdg hi h1 hn hl (fun ls' h1' => kk H locs ls' h1' h2 h3 h4)
theorem z_astore (C : zC p s m args meth c cc nL own D cl tys A) {i : Nat} {x : Nat} (hdg : decode cc pc = .ok (.astore i, 2)) (hn : i < nL) (hl : (i, Value.ref x) :: lv.filter (fun q => !(q.1 == i) && !(q.1 + 1 == i && q.2.category == 2)) = lv') (kk : ZW p l e R s m args below meth c nL D cl A cells slots Q ws (pc + 2) lv' st) : ZW p l e R s m args below meth c nL D cl A cells slots Q ws pc lv (.ref x :: st) :=
  fun H locs ls h1 h2 h3 h4 => lv_astore C.1 C.2.1 hdg h1 hn hl (fun ls' h1' => kk H locs ls' h1' h2 h3 h4)
theorem z_iinc (C : zC p s m args meth c cc nL own D cl tys A) {i k : Nat} {n : Int} {x v : Int32} (hdg : decode cc pc = .ok (.iinc i n, 3)) (hk : lv[k]? = some (i, .int x)) (hv : x + Int32.ofInt n = v) (hn : i < nL) (hl : (i, Value.int v) :: lv.filter (fun q => !(q.1 == i) && !(q.1 + 1 == i && q.2.category == 2)) = lv') (kk : ZW p l e R s m args below meth c nL D cl A cells slots Q ws (pc + 3) lv' st) : ZW p l e R s m args below meth c nL D cl A cells slots Q ws pc lv st :=
  fun H locs ls h1 h2 h3 h4 => lv_iinc C.1 C.2.1 hdg h1 hk hv hn hl (fun ls' h1' => kk H locs ls' h1' h2 h3 h4)
theorem z_iadd (C : zC p s m args meth c cc nL own D cl tys A) {x y : Int32} (hdg : decode cc pc = .ok (.iadd, 1)) (k : ZW p l e R s m args below meth c nL D cl A cells slots Q ws (pc + 1) lv (.int (x + y) :: st)) : ZW p l e R s m args below meth c nL D cl A cells slots Q ws pc lv (.int y :: .int x :: st) :=
  fun H locs ls h1 h2 h3 h4 => lv_iadd C.1 C.2.1 hdg (k H locs ls h1 h2 h3 h4)
theorem z_isub (C : zC p s m args meth c cc nL own D cl tys A) {x y : Int32} (hdg : decode cc pc = .ok (.isub, 1)) (k : ZW p l e R s m args below meth c nL D cl A cells slots Q ws (pc + 1) lv (.int (x - y) :: st)) : ZW p l e R s m args below meth c nL D cl A cells slots Q ws pc lv (.int y :: .int x :: st) :=
  fun H locs ls h1 h2 h3 h4 => lv_isub C.1 C.2.1 hdg (k H locs ls h1 h2 h3 h4)
theorem z_imul (C : zC p s m args meth c cc nL own D cl tys A) {x y : Int32} (hdg : decode cc pc = .ok (.imul, 1)) (k : ZW p l e R s m args below meth c nL D cl A cells slots Q ws (pc + 1) lv (.int (x * y) :: st)) : ZW p l e R s m args below meth c nL D cl A cells slots Q ws pc lv (.int y :: .int x :: st) :=
  fun H locs ls h1 h2 h3 h4 => lv_imul C.1 C.2.1 hdg (k H locs ls h1 h2 h3 h4)
theorem z_iand (C : zC p s m args meth c cc nL own D cl tys A) {x y : Int32} (hdg : decode cc pc = .ok (.iand, 1)) (k : ZW p l e R s m args below meth c nL D cl A cells slots Q ws (pc + 1) lv (.int (x &&& y) :: st)) : ZW p l e R s m args below meth c nL D cl A cells slots Q ws pc lv (.int y :: .int x :: st) :=
  fun H locs ls h1 h2 h3 h4 => lv_iand C.1 C.2.1 hdg (k H locs ls h1 h2 h3 h4)
theorem z_ior (C : zC p s m args meth c cc nL own D cl tys A) {x y : Int32} (hdg : decode cc pc = .ok (.ior, 1)) (k : ZW p l e R s m args below meth c nL D cl A cells slots Q ws (pc + 1) lv (.int (x ||| y) :: st)) : ZW p l e R s m args below meth c nL D cl A cells slots Q ws pc lv (.int y :: .int x :: st) :=
  fun H locs ls h1 h2 h3 h4 => lv_ior C.1 C.2.1 hdg (k H locs ls h1 h2 h3 h4)
theorem z_ixor (C : zC p s m args meth c cc nL own D cl tys A) {x y : Int32} (hdg : decode cc pc = .ok (.ixor, 1)) (k : ZW p l e R s m args below meth c nL D cl A cells slots Q ws (pc + 1) lv (.int (x ^^^ y) :: st)) : ZW p l e R s m args below meth c nL D cl A cells slots Q ws pc lv (.int y :: .int x :: st) :=
  fun H locs ls h1 h2 h3 h4 => lv_ixor C.1 C.2.1 hdg (k H locs ls h1 h2 h3 h4)
theorem z_idiv (C : zC p s m args meth c cc nL own D cl tys A) {x y : Int32} (hdg : decode cc pc = .ok (.idiv, 1)) (hne : ¬ y = 0) (k : ZW p l e R s m args below meth c nL D cl A cells slots Q ws (pc + 1) lv (.int (x / y) :: st)) : ZW p l e R s m args below meth c nL D cl A cells slots Q ws pc lv (.int y :: .int x :: st) :=
  fun H locs ls h1 h2 h3 h4 => lv_idiv C.1 C.2.1 hdg hne (k H locs ls h1 h2 h3 h4)
theorem z_irem (C : zC p s m args meth c cc nL own D cl tys A) {x y : Int32} (hdg : decode cc pc = .ok (.irem, 1)) (hne : ¬ y = 0) (k : ZW p l e R s m args below meth c nL D cl A cells slots Q ws (pc + 1) lv (.int (x - x / y * y) :: st)) : ZW p l e R s m args below meth c nL D cl A cells slots Q ws pc lv (.int y :: .int x :: st) :=
  fun H locs ls h1 h2 h3 h4 => lv_irem C.1 C.2.1 hdg hne (k H locs ls h1 h2 h3 h4)
theorem z_ineg (C : zC p s m args meth c cc nL own D cl tys A) {x : Int32} (hdg : decode cc pc = .ok (.ineg, 1)) (k : ZW p l e R s m args below meth c nL D cl A cells slots Q ws (pc + 1) lv (.int (-x) :: st)) : ZW p l e R s m args below meth c nL D cl A cells slots Q ws pc lv (.int x :: st) :=
  fun H locs ls h1 h2 h3 h4 => lv_ineg C.1 C.2.1 hdg (k H locs ls h1 h2 h3 h4)
theorem z_ladd (C : zC p s m args meth c cc nL own D cl tys A) {x y : Int64} (hdg : decode cc pc = .ok (.ladd, 1)) (k : ZW p l e R s m args below meth c nL D cl A cells slots Q ws (pc + 1) lv (.long (x + y) :: st)) : ZW p l e R s m args below meth c nL D cl A cells slots Q ws pc lv (.long y :: .long x :: st) :=
  fun H locs ls h1 h2 h3 h4 => lv_ladd C.1 C.2.1 hdg (k H locs ls h1 h2 h3 h4)
theorem z_lsub (C : zC p s m args meth c cc nL own D cl tys A) {x y : Int64} (hdg : decode cc pc = .ok (.lsub, 1)) (k : ZW p l e R s m args below meth c nL D cl A cells slots Q ws (pc + 1) lv (.long (x - y) :: st)) : ZW p l e R s m args below meth c nL D cl A cells slots Q ws pc lv (.long y :: .long x :: st) :=
  fun H locs ls h1 h2 h3 h4 => lv_lsub C.1 C.2.1 hdg (k H locs ls h1 h2 h3 h4)
theorem z_lmul (C : zC p s m args meth c cc nL own D cl tys A) {x y : Int64} (hdg : decode cc pc = .ok (.lmul, 1)) (k : ZW p l e R s m args below meth c nL D cl A cells slots Q ws (pc + 1) lv (.long (x * y) :: st)) : ZW p l e R s m args below meth c nL D cl A cells slots Q ws pc lv (.long y :: .long x :: st) :=
  fun H locs ls h1 h2 h3 h4 => lv_lmul C.1 C.2.1 hdg (k H locs ls h1 h2 h3 h4)
theorem z_land (C : zC p s m args meth c cc nL own D cl tys A) {x y : Int64} (hdg : decode cc pc = .ok (.land, 1)) (k : ZW p l e R s m args below meth c nL D cl A cells slots Q ws (pc + 1) lv (.long (x &&& y) :: st)) : ZW p l e R s m args below meth c nL D cl A cells slots Q ws pc lv (.long y :: .long x :: st) :=
  fun H locs ls h1 h2 h3 h4 => lv_land C.1 C.2.1 hdg (k H locs ls h1 h2 h3 h4)
theorem z_lor (C : zC p s m args meth c cc nL own D cl tys A) {x y : Int64} (hdg : decode cc pc = .ok (.lor, 1)) (k : ZW p l e R s m args below meth c nL D cl A cells slots Q ws (pc + 1) lv (.long (x ||| y) :: st)) : ZW p l e R s m args below meth c nL D cl A cells slots Q ws pc lv (.long y :: .long x :: st) :=
  fun H locs ls h1 h2 h3 h4 => lv_lor C.1 C.2.1 hdg (k H locs ls h1 h2 h3 h4)
theorem z_lxor (C : zC p s m args meth c cc nL own D cl tys A) {x y : Int64} (hdg : decode cc pc = .ok (.lxor, 1)) (k : ZW p l e R s m args below meth c nL D cl A cells slots Q ws (pc + 1) lv (.long (x ^^^ y) :: st)) : ZW p l e R s m args below meth c nL D cl A cells slots Q ws pc lv (.long y :: .long x :: st) :=
  fun H locs ls h1 h2 h3 h4 => lv_lxor C.1 C.2.1 hdg (k H locs ls h1 h2 h3 h4)
theorem z_ldiv (C : zC p s m args meth c cc nL own D cl tys A) {x y : Int64} (hdg : decode cc pc = .ok (.ldiv, 1)) (hne : ¬ y = 0) (k : ZW p l e R s m args below meth c nL D cl A cells slots Q ws (pc + 1) lv (.long (x / y) :: st)) : ZW p l e R s m args below meth c nL D cl A cells slots Q ws pc lv (.long y :: .long x :: st) :=
  fun H locs ls h1 h2 h3 h4 => lv_ldiv C.1 C.2.1 hdg hne (k H locs ls h1 h2 h3 h4)
theorem z_lrem (C : zC p s m args meth c cc nL own D cl tys A) {x y : Int64} (hdg : decode cc pc = .ok (.lrem, 1)) (hne : ¬ y = 0) (k : ZW p l e R s m args below meth c nL D cl A cells slots Q ws (pc + 1) lv (.long (x - x / y * y) :: st)) : ZW p l e R s m args below meth c nL D cl A cells slots Q ws pc lv (.long y :: .long x :: st) :=
  fun H locs ls h1 h2 h3 h4 => lv_lrem C.1 C.2.1 hdg hne (k H locs ls h1 h2 h3 h4)
theorem z_lneg (C : zC p s m args meth c cc nL own D cl tys A) {x : Int64} (hdg : decode cc pc = .ok (.lneg, 1)) (k : ZW p l e R s m args below meth c nL D cl A cells slots Q ws (pc + 1) lv (.long (-x) :: st)) : ZW p l e R s m args below meth c nL D cl A cells slots Q ws pc lv (.long x :: st) :=
  fun H locs ls h1 h2 h3 h4 => lv_lneg C.1 C.2.1 hdg (k H locs ls h1 h2 h3 h4)
theorem z_ishl (C : zC p s m args meth c cc nL own D cl tys A) {x y : Int32} (hdg : decode cc pc = .ok (.ishl, 1)) (k : ZW p l e R s m args below meth c nL D cl A cells slots Q ws (pc + 1) lv (.int (x <<< (y &&& 31)) :: st)) : ZW p l e R s m args below meth c nL D cl A cells slots Q ws pc lv (.int y :: .int x :: st) :=
  fun H locs ls h1 h2 h3 h4 => lv_ishl C.1 C.2.1 hdg (k H locs ls h1 h2 h3 h4)
theorem z_ishr (C : zC p s m args meth c cc nL own D cl tys A) {x y : Int32} (hdg : decode cc pc = .ok (.ishr, 1)) (k : ZW p l e R s m args below meth c nL D cl A cells slots Q ws (pc + 1) lv (.int (x >>> (y &&& 31)) :: st)) : ZW p l e R s m args below meth c nL D cl A cells slots Q ws pc lv (.int y :: .int x :: st) :=
  fun H locs ls h1 h2 h3 h4 => lv_ishr C.1 C.2.1 hdg (k H locs ls h1 h2 h3 h4)
/-- the unsigned shift, as a name -/
def zushr (x y : Int32) : Int32 := (x.toUInt32 >>> (y.toUInt32 &&& Int32.toUInt32 31)).toInt32
theorem z_iushr (C : zC p s m args meth c cc nL own D cl tys A) {x y : Int32} (hdg : decode cc pc = .ok (.iushr, 1)) (k : ZW p l e R s m args below meth c nL D cl A cells slots Q ws (pc + 1) lv (.int (zushr x y) :: st)) : ZW p l e R s m args below meth c nL D cl A cells slots Q ws pc lv (.int y :: .int x :: st) :=
  fun H locs ls h1 h2 h3 h4 => lv_iushr C.1 C.2.1 hdg rfl (k H locs ls h1 h2 h3 h4)
theorem z_i2l (C : zC p s m args meth c cc nL own D cl tys A) {x : Int32} (hdg : decode cc pc = .ok (.i2l, 1)) (k : ZW p l e R s m args below meth c nL D cl A cells slots Q ws (pc + 1) lv (.long x.toInt64 :: st)) : ZW p l e R s m args below meth c nL D cl A cells slots Q ws pc lv (.int x :: st) :=
  fun H locs ls h1 h2 h3 h4 => lv_i2l C.1 C.2.1 hdg rfl (k H locs ls h1 h2 h3 h4)
theorem z_l2i (C : zC p s m args meth c cc nL own D cl tys A) {x : Int64} (hdg : decode cc pc = .ok (.l2i, 1)) (k : ZW p l e R s m args below meth c nL D cl A cells slots Q ws (pc + 1) lv (.int x.toInt32 :: st)) : ZW p l e R s m args below meth c nL D cl A cells slots Q ws pc lv (.long x :: st) :=
  fun H locs ls h1 h2 h3 h4 => lv_l2i C.1 C.2.1 hdg rfl (k H locs ls h1 h2 h3 h4)
theorem z_lcmp (C : zC p s m args meth c cc nL own D cl tys A) {x y : Int64} (hdg : decode cc pc = .ok (.lcmp, 1)) (k : ZW p l e R s m args below meth c nL D cl A cells slots Q ws (pc + 1) lv (.int (lg_cmp x y) :: st)) : ZW p l e R s m args below meth c nL D cl A cells slots Q ws pc lv (.long y :: .long x :: st) :=
  fun H locs ls h1 h2 h3 h4 => W.lcmp C.1 C.2.1 hdg (k H locs ls h1 h2 h3 h4)
theorem z_dup (C : zC p s m args meth c cc nL own D cl tys A) {v : Value} (hdg : decode cc pc = .ok (.dup, 1)) (hv : v.category = 1) (k : ZW p l e R s m args below meth c nL D cl A cells slots Q ws (pc + 1) lv (v :: v :: st)) : ZW p l e R s m args below meth c nL D cl A cells slots Q ws pc lv (v :: st) :=
  fun H locs ls h1 h2 h3 h4 => lv_dup C.1 C.2.1 hdg hv (k H locs ls h1 h2 h3 h4)
theorem z_pop (C : zC p s m args meth c cc nL own D cl tys A) {v : Value} (hdg : decode cc pc = .ok (.pop, 1)) (hv : v.category = 1) (k : ZW p l e R s m args below meth c nL D cl A cells slots Q ws (pc + 1) lv (st)) : ZW p l e R s m args below meth c nL D cl A cells slots Q ws pc lv (v :: st) :=
  fun H locs ls h1 h2 h3 h4 => lv_pop C.1 C.2.1 hdg hv (k H locs ls h1 h2 h3 h4)
theorem z_dup_x1 (C : zC p s m args meth c cc nL own D cl tys A) {v u : Value} (hdg : decode cc pc = .ok (.dup_x1, 1)) (hv : v.category = 1) (hu : u.category = 1) (k : ZW p l e R s m args below meth c nL D cl A cells slots Q ws (pc + 1) lv (v :: u :: v :: st)) : ZW p l e R s m args below meth c nL D cl A cells slots Q ws pc lv (v :: u :: st) :=
  fun H locs ls h1 h2 h3 h4 => lv_dup_x1 C.1 C.2.1 hdg hv hu (k H locs ls h1 h2 h3 h4)
theorem z_dup_x2 (C : zC p s m args meth c cc nL own D cl tys A) {v u t : Value} (hdg : decode cc pc = .ok (.dup_x2, 1)) (hv : v.category = 1) (hu : u.category = 1) (ht : t.category = 1) (k : ZW p l e R s m args below meth c nL D cl A cells slots Q ws (pc + 1) lv (v :: u :: t :: v :: st)) : ZW p l e R s m args below meth c nL D cl A cells slots Q ws pc lv (v :: u :: t :: st) :=
  fun H locs ls h1 h2 h3 h4 => lv_dup_x2 C.1 C.2.1 hdg hv hu ht (k H locs ls h1 h2 h3 h4)
theorem z_dup2_11 (C : zC p s m args meth c cc nL own D cl tys A) {v u : Value} (hdg : decode cc pc = .ok (.dup2, 1)) (hv : v.category = 1) (hu : u.category = 1) (k : ZW p l e R s m args below meth c nL D cl A cells slots Q ws (pc + 1) lv (v :: u :: v :: u :: st)) : ZW p l e R s m args below meth c nL D cl A cells slots Q ws pc lv (v :: u :: st) :=
  fun H locs ls h1 h2 h3 h4 => lv_dup2_11 C.1 C.2.1 hdg hv hu (k H locs ls h1 h2 h3 h4)
theorem z_dup2_2 (C : zC p s m args meth c cc nL own D cl tys A) {v : Value} (hdg : decode cc pc = .ok (.dup2, 1)) (hv : v.category = 2) (k : ZW p l e R s m args below meth c nL D cl A cells slots Q ws (pc + 1) lv (v :: v :: st)) : ZW p l e R s m args below meth c nL D cl A cells slots Q ws pc lv (v :: st) :=
  fun H locs ls h1 h2 h3 h4 => lv_dup2_2 C.1 C.2.1 hdg hv (k H locs ls h1 h2 h3 h4)
theorem z_goto (C : zC p s m args meth c cc nL own D cl tys A) {off : Int} {tgt : Nat} (hdg : decode cc pc = .ok (.goto off, 3)) (ht : (pc : Int) + off = (tgt : Int)) (k : ZW p l e R s m args below meth c nL D cl A cells slots Q ws tgt lv st) : ZW p l e R s m args below meth c nL D cl A cells slots Q ws pc lv st :=
  fun H locs ls h1 h2 h3 h4 => lv_goto C.1 C.2.1 hdg ht (k H locs ls h1 h2 h3 h4)
theorem z_if_eq (C : zC p s m args meth c cc nL own D cl tys A) {x : Int32} {off : Int} {tgt : Nat} (hdg : decode cc pc = .ok (.ifCond .eq off, 3)) (ht : (pc : Int) + off = (tgt : Int)) (kt : x = 0 → ZW p l e R s m args below meth c nL D cl A cells slots Q ws tgt lv st) (kf : ¬ x = 0 → ZW p l e R s m args below meth c nL D cl A cells slots Q ws (pc + 3) lv st) : ZW p l e R s m args below meth c nL D cl A cells slots Q ws pc lv (.int x :: st) :=
  fun H locs ls h1 h2 h3 h4 => lv_if_eq C.1 C.2.1 hdg ht (fun q => kt q H locs ls h1 h2 h3 h4) (fun q => kf q H locs ls h1 h2 h3 h4)
theorem z_icmp_eq (C : zC p s m args meth c cc nL own D cl tys A) {x y : Int32} {off : Int} {tgt : Nat} (hdg : decode cc pc = .ok (.if_icmp .eq off, 3)) (ht : (pc : Int) + off = (tgt : Int)) (kt : x = y → ZW p l e R s m args below meth c nL D cl A cells slots Q ws tgt lv st) (kf : ¬ x = y → ZW p l e R s m args below meth c nL D cl A cells slots Q ws (pc + 3) lv st) : ZW p l e R s m args below meth c nL D cl A cells slots Q ws pc lv (.int y :: .int x :: st) :=
  fun H locs ls h1 h2 h3 h4 => lv_icmp_eq C.1 C.2.1 hdg ht (fun q => kt q H locs ls h1 h2 h3 h4) (fun q => kf q H locs ls h1 h2 h3 h4)
theorem z_if_ne (C : zC p s m args meth c cc nL own D cl tys A) {x : Int32} {off : Int} {tgt : Nat} (hdg : decode cc pc = .ok (.ifCond .ne off, 3)) (ht : (pc : Int) + off = (tgt : Int)) (kt : ¬ x = 0 → ZW p l e R s m args below meth c nL D cl A cells slots Q ws tgt lv st) (kf : x = 0 → ZW p l e R s m args below meth c nL D cl A cells slots Q ws (pc + 3) lv st) : ZW p l e R s m args below meth c nL D cl A cells slots Q ws pc lv (.int x :: st) :=
  fun H locs ls h1 h2 h3 h4 => lv_if_ne C.1 C.2.1 hdg ht (fun q => kt q H locs ls h1 h2 h3 h4) (fun q => kf q H locs ls h1 h2 h3 h4)
theorem z_icmp_ne (C : zC p s m args meth c cc nL own D cl tys A) {x y : Int32} {off : Int} {tgt : Nat} (hdg : decode cc pc = .ok (.if_icmp .ne off, 3)) (ht : (pc : Int) + off = (tgt : Int)) (kt : ¬ x = y → ZW p l e R s m args below meth c nL D cl A cells slots Q ws tgt lv st) (kf : x = y → ZW p l e R s m args below meth c nL D cl A cells slots Q ws (pc + 3) lv st) : ZW p l e R s m args below meth c nL D cl A cells slots Q ws pc lv (.int y :: .int x :: st) :=
  fun H locs ls h1 h2 h3 h4 => lv_icmp_ne C.1 C.2.1 hdg ht (fun q => kt q H locs ls h1 h2 h3 h4) (fun q => kf q H locs ls h1 h2 h3 h4)
theorem z_if_lt (C : zC p s m args meth c cc nL own D cl tys A) {x : Int32} {off : Int} {tgt : Nat} (hdg : decode cc pc = .ok (.ifCond .lt off, 3)) (ht : (pc : Int) + off = (tgt : Int)) (kt : x < 0 → ZW p l e R s m args below meth c nL D cl A cells slots Q ws tgt lv st) (kf : ¬ x < 0 → ZW p l e R s m args below meth c nL D cl A cells slots Q ws (pc + 3) lv st) : ZW p l e R s m args below meth c nL D cl A cells slots Q ws pc lv (.int x :: st) :=
  fun H locs ls h1 h2 h3 h4 => lv_if_lt C.1 C.2.1 hdg ht (fun q => kt q H locs ls h1 h2 h3 h4) (fun q => kf q H locs ls h1 h2 h3 h4)
theorem z_icmp_lt (C : zC p s m args meth c cc nL own D cl tys A) {x y : Int32} {off : Int} {tgt : Nat} (hdg : decode cc pc = .ok (.if_icmp .lt off, 3)) (ht : (pc : Int) + off = (tgt : Int)) (kt : x < y → ZW p l e R s m args below meth c nL D cl A cells slots Q ws tgt lv st) (kf : ¬ x < y → ZW p l e R s m args below meth c nL D cl A cells slots Q ws (pc + 3) lv st) : ZW p l e R s m args below meth c nL D cl A cells slots Q ws pc lv (.int y :: .int x :: st) :=
  fun H locs ls h1 h2 h3 h4 => lv_icmp_lt C.1 C.2.1 hdg ht (fun q => kt q H locs ls h1 h2 h3 h4) (fun q => kf q H locs ls h1 h2 h3 h4)
theorem z_if_ge (C : zC p s m args meth c cc nL own D cl tys A) {x : Int32} {off : Int} {tgt : Nat} (hdg : decode cc pc = .ok (.ifCond .ge off, 3)) (ht : (pc : Int) + off = (tgt : Int)) (kt : 0 ≤ x → ZW p l e R s m args below meth c nL D cl A cells slots Q ws tgt lv st) (kf : ¬ 0 ≤ x → ZW p l e R s m args below meth c nL D cl A cells slots Q ws (pc + 3) lv st) : ZW p l e R s m args below meth c nL D cl A cells slots Q ws pc lv (.int x :: st) :=
  fun H locs ls h1 h2 h3 h4 => lv_if_ge C.1 C.2.1 hdg ht (fun q => kt q H locs ls h1 h2 h3 h4) (fun q => kf q H locs ls h1 h2 h3 h4)
theorem z_icmp_ge (C : zC p s m args meth c cc nL own D cl tys A) {x y : Int32} {off : Int} {tgt : Nat} (hdg : decode cc pc = .ok (.if_icmp .ge off, 3)) (ht : (pc : Int) + off = (tgt : Int)) (kt : y ≤ x → ZW p l e R s m args below meth c nL D cl A cells slots Q ws tgt lv st) (kf : ¬ y ≤ x → ZW p l e R s m args below meth c nL D cl A cells slots Q ws (pc + 3) lv st) : ZW p l e R s m args below meth c nL D cl A cells slots Q ws pc lv (.int y :: .int x :: st) :=
  fun H locs ls h1 h2 h3 h4 => lv_icmp_ge C.1 C.2.1 hdg ht (fun q => kt q H locs ls h1 h2 h3 h4) (fun q => kf q H locs ls h1 h2 h3 h4)
theorem z_if_gt (C : zC p s m args meth c cc nL own D cl tys A) {x : Int32} {off : Int} {tgt : Nat} (hdg : decode cc pc = .ok (.ifCond .gt off, 3)) (ht : (pc : Int) + off = (tgt : Int)) (kt : 0 < x → ZW p l e R s m args below meth c nL D cl A cells slots Q ws tgt lv st) (kf : ¬ 0 < x → ZW p l e R s m args below meth c nL D cl A cells slots Q ws (pc + 3) lv st) : ZW p l e R s m args below meth c nL D cl A cells slots Q ws pc lv (.int x :: st) :=
  fun H locs ls h1 h2 h3 h4 => lv_if_gt C.1 C.2.1 hdg ht (fun q => kt q H locs ls h1 h2 h3 h4) (fun q => kf q H locs ls h1 h2 h3 h4)
theorem z_icmp_gt (C : zC p s m args meth c cc nL own D cl tys A) {x y : Int32} {off : Int} {tgt : Nat} (hdg : decode cc pc = .ok (.if_icmp .gt off, 3)) (ht : (pc : Int) + off = (tgt : Int)) (kt : y < x → ZW p l e R s m args below meth c nL D cl A cells slots Q ws tgt lv st) (kf : ¬ y < x → ZW p l e R s m args below meth c nL D cl A cells slots Q ws (pc + 3) lv st) : ZW p l e R s m args below meth c nL D cl A cells slots Q ws pc lv (.int y :: .int x :: st) :=
  fun H locs ls h1 h2 h3 h4 => lv_icmp_gt C.1 C.2.1 hdg ht (fun q => kt q H locs ls h1 h2 h3 h4) (fun q => kf q H locs ls h1 h2 h3 h4)
theorem z_if_le (C : zC p s m args meth c cc nL own D cl tys A) {x : Int32} {off : Int} {tgt : Nat} (hdg : decode cc pc = .ok (.ifCond .le off, 3)) (ht : (pc : Int) + off = (tgt : Int)) (kt : x ≤ 0 → ZW p l e R s m args below meth c nL D cl A cells slots Q ws tgt lv st) (kf : ¬ x ≤ 0 → ZW p l e R s m args below meth c nL D cl A cells slots Q ws (pc + 3) lv st) : ZW p l e R s m args below meth c nL D cl A cells slots Q ws pc lv (.int x :: st) :=
  fun H locs ls h1 h2 h3 h4 => lv_if_le C.1 C.2.1 hdg ht (fun q => kt q H locs ls h1 h2 h3 h4) (fun q => kf q H locs ls h1 h2 h3 h4)
theorem z_icmp_le (C : zC p s m args meth c cc nL own D cl tys A) {x y : Int32} {off : Int} {tgt : Nat} (hdg : decode cc pc = .ok (.if_icmp .le off, 3)) (ht : (pc : Int) + off = (tgt : Int)) (kt : x ≤ y → ZW p l e R s m args below meth c nL D cl A cells slots Q ws tgt lv st) (kf : ¬ x ≤ y → ZW p l e R s m args below meth c nL D cl A cells slots Q ws (pc + 3) lv st) : ZW p l e R s m args below meth c nL D cl A cells slots Q ws pc lv (.int y :: .int x :: st) :=
  fun H locs ls h1 h2 h3 h4 => lv_icmp_le C.1 C.2.1 hdg ht (fun q => kt q H locs ls h1 h2 h3 h4) (fun q => kf q H locs ls h1 h2 h3 h4)
theorem z_topi {x : Int32} (k : ∀ y : Int32, y = x → ZW p l e R s m args below meth c nL D cl A cells slots Q ws pc lv (.int y :: st)) : ZW p l e R s m args below meth c nL D cl A cells slots Q ws pc lv (.int x :: st) := k x rfl
theorem z_topl {x : Int64} (k : ∀ y : Int64, y = x → ZW p l e R s m args below meth c nL D cl A cells slots Q ws pc lv (.long y :: st)) : ZW p l e R s m args below meth c nL D cl A cells slots Q ws pc lv (.long x :: st) := k x rfl
/-- fewer locals, or in another order -/
theorem z_lv (ks : List Nat) (hl : lv_pick lv ks = lv') (k : ZW p l e R s m args below meth c nL D cl A cells slots Q ws pc lv' st) : ZW p l e R s m args below meth c nL D cl A cells slots Q ws pc lv st :=
  fun H locs ls h1 h2 h3 h4 => k H locs ls (lv_sub h1 ks hl) h2 h3 h4
theorem z_get (C : zC p s m args meth c cc nL own D cl tys A) {Cn : String} {T : u_T} {N ci index a : Nat} {fs : List Value} (hin : ∀ w ∈ u_ws Cn T N, w ∈ zT) (q0 : Nat) (he : ws[q0]? = some (a, .inr (ci, fs))) (hc : cl[ci]? = some (Cn, T, N)) (k : Nat) (hk : k < N) (hlink : Cond.fieldLink own index (T k).1 (T k).2.1 (T k).2.2.1 ∈ zT) {v : Value} (hv : fs[k]? = some v) (hdg : decode cc pc = .ok (.getfield index, 3))
    (kk : ZW p l e R s m args below meth c nL D cl A cells slots Q ws (pc + 3) lv (v :: st)) : ZW p l e R s m args below meth c nL D cl A cells slots Q ws pc lv (.ref a :: st) :=
  fun H locs ls h1 h2 h3 h4 => va_get C.1 C.2.1 C.2.2.2.2.1 hin C.2.2.2.1 C.2.2.2.2.2.1 h2 q0 he hc k hk (C.2.2.2.2.1 _ hlink) (fun _ h => h) hv hdg (kk H locs ls h1 h2 h3 h4)
theorem z_getN (C : zC p s m args meth c cc nL own D cl tys A) {Cn host : String} {T : u_T} {N ci index a : Nat} {fs : List Value} (hin : ∀ w ∈ u_ws Cn T N, w ∈ zT) (q0 : Nat) (he : ws[q0]? = some (a, .inr (ci, fs))) (hc : cl[ci]? = some (Cn, T, N)) (k : Nat) (hk : k < N) (hlink : va_Nw (Cond.fieldLinkNest own index (T k).1 (T k).2.1 (T k).2.2.1 host) s) {v : Value} (hv : fs[k]? = some v) (hdg : decode cc pc = .ok (.getfield index, 3))
    (kk : ZW p l e R s m args below meth c nL D cl A cells slots Q ws (pc + 3) lv (v :: st)) : ZW p l e R s m args below meth c nL D cl A cells slots Q ws pc lv (.ref a :: st) :=
  fun H locs ls h1 h2 h3 h4 => va_getN C.1 C.2.1 C.2.2.2.2.1 hin C.2.2.2.1 C.2.2.2.2.2.1 h2 q0 he hc k hk (va_Nw.use rfl hlink) (fun _ h => h) hv hdg (kk H locs ls h1 h2 h3 h4)
theorem z_put (C : zC p s m args meth c cc nL own D cl tys A) {Cn : String} {T : u_T} {N ci index a : Nat} {fs : List Value} (hin : ∀ w ∈ u_ws Cn T N, w ∈ zT) (ty0 : Nat → FieldType) (hty : ∀ k, k < N → parseFieldDescriptor (T k).2.2.1 = some (ty0 k)) (hnm : ∀ a, a < N → ∀ b, b < N → a ≠ b → (T a).2.1 ≠ (T b).2.1) (q0 : Nat) (he : ws[q0]? = some (a, .inr (ci, fs))) (hc : cl[ci]? = some (Cn, T, N)) (k : Nat) (hk : k < N) (hlink : Cond.fieldLink own index (T k).1 (T k).2.1 (T k).2.2.1 ∈ zT) (hfin : (T k).2.2.2 = false) {ty : FieldType} {v : Value} (hd : ty0 k = ty) (hn : narrow ty v = v) (hfit : fits ty v = true) (hl : k < fs.length) (hdg : decode cc pc = .ok (.putfield index, 3)) (hw : ws.set q0 (a, .inr (ci, fs.set k v)) = ws')
    (kk : ZW p l e R s m args below meth c nL D cl A cells slots Q ws' (pc + 3) lv st) : ZW p l e R s m args below meth c nL D cl A cells slots Q ws pc lv (v :: .ref a :: st) :=
  fun H locs ls h1 h2 h3 h4 => va_put C.1 C.2.1 C.2.2.2.2.1 hin ty0 hty hnm C.2.2.2.1 C.2.2.2.2.2.1 h2 h3 h4 q0 he hc k hk (C.2.2.2.2.1 _ hlink) (fun _ h => h) hfin (by rw [← hd]; exact hty k hk) hn hfit hl hdg (fun H1 locs1 g2 g3 g4 => kk H1 locs1 ls h1 (hw ▸ g2) (hw ▸ g3) g4)
theorem z_putN (C : zC p s m args meth c cc nL own D cl tys A) {Cn host : String} {T : u_T} {N ci index a : Nat} {fs : List Value} (hin : ∀ w ∈ u_ws Cn T N, w ∈ zT) (ty0 : Nat → FieldType) (hty : ∀ k, k < N → parseFieldDescriptor (T k).2.2.1 = some (ty0 k)) (hnm : ∀ a, a < N → ∀ b, b < N → a ≠ b → (T a).2.1 ≠ (T b).2.1) (q0 : Nat) (he : ws[q0]? = some (a, .inr (ci, fs))) (hc : cl[ci]? = some (Cn, T, N)) (k : Nat) (hk : k < N) (hlink : va_Nw (Cond.fieldLinkNest own index (T k).1 (T k).2.1 (T k).2.2.1 host) s) (hfin : (T k).2.2.2 = false) {ty : FieldType} {v : Value} (hd : ty0 k = ty) (hn : narrow ty v = v) (hfit : fits ty v = true) (hl : k < fs.length) (hdg : decode cc pc = .ok (.putfield index, 3)) (hw : ws.set q0 (a, .inr (ci, fs.set k v)) = ws')
    (kk : ZW p l e R s m args below meth c nL D cl A cells slots Q ws' (pc + 3) lv st) : ZW p l e R s m args below meth c nL D cl A cells slots Q ws pc lv (v :: .ref a :: st) :=
  fun H locs ls h1 h2 h3 h4 => va_putN C.1 C.2.1 C.2.2.2.2.1 hin ty0 hty hnm C.2.2.2.1 C.2.2.2.2.2.1 h2 h3 h4 q0 he hc k hk (va_Nw.use rfl hlink) (fun _ h => h) hfin (by rw [← hd]; exact hty k hk) hn hfit hl hdg (fun H1 locs1 g2 g3 g4 => kk H1 locs1 ls h1 (hw ▸ g2) (hw ▸ g3) g4)
theorem z_iald (C : zC p s m args meth c cc nL own D cl tys A) (q0 t0 : Nat) {cA : ClassId} {n a : Nat} {f : Nat → Int32} (ha : ws[q0]? = some (a, .inl (cA, n, .inl f))) (ht : tys[t0]? = some (cA, .int)) {i : Int32} (hin : ¬ (i < 0 ∨ n ≤ i.toNatClampNeg)) (hdg : decode cc pc = .ok (.iaload, 1))
    (kk : ZW p l e R s m args below meth c nL D cl A cells slots Q ws (pc + 1) lv (.int (f i.toNatClampNeg) :: st)) : ZW p l e R s m args below meth c nL D cl A cells slots Q ws pc lv (.int i :: .ref a :: st) :=
  fun H locs ls h1 h2 h3 h4 => va_iald C.1 C.2.1 C.2.2.2.2.2.1 h2 q0 t0 ha ht hin hdg (kk H locs ls h1 h2 h3 h4)
theorem z_lald (C : zC p s m args meth c cc nL own D cl tys A) (q0 t0 : Nat) {cA : ClassId} {n a : Nat} {f : Nat → Int64} (ha : ws[q0]? = some (a, .inl (cA, n, .inr (.inl f)))) (ht : tys[t0]? = some (cA, .long)) {i : Int32} (hin : ¬ (i < 0 ∨ n ≤ i.toNatClampNeg)) (hdg : decode cc pc = .ok (.laload, 1))
    (kk : ZW p l e R s m args below meth c nL D cl A cells slots Q ws (pc + 1) lv (.long (f i.toNatClampNeg) :: st)) : ZW p l e R s m args below meth c nL D cl A cells slots Q ws pc lv (.int i :: .ref a :: st) :=
  fun H locs ls h1 h2 h3 h4 => va_lald C.1 C.2.1 C.2.2.2.2.2.1 h2 q0 t0 ha ht hin hdg (kk H locs ls h1 h2 h3 h4)
theorem z_iast (C : zC p s m args meth c cc nL own D cl tys A) (q0 t0 : Nat) {cA : ClassId} {n a : Nat} {f : Nat → Int32} (ha : ws[q0]? = some (a, .inl (cA, n, .inl f))) (ht : tys[t0]? = some (cA, .int)) {i x : Int32} (hin : ¬ (i < 0 ∨ n ≤ i.toNatClampNeg)) (hdg : decode cc pc = .ok (.iastore, 1)) (hw : ws.set q0 (a, .inl (cA, n, .inl (upd f i.toNatClampNeg x))) = ws')
    (kk : ZW p l e R s m args below meth c nL D cl A cells slots Q ws' (pc + 1) lv st) : ZW p l e R s m args below meth c nL D cl A cells slots Q ws pc lv (.int x :: .int i :: .ref a :: st) :=
  fun H locs ls h1 h2 h3 h4 => va_iast C.1 C.2.1 C.2.2.2.2.2.1 h2 h3 h4 q0 t0 ha ht hin hdg (fun H1 locs1 g2 g3 g4 => kk H1 locs1 ls h1 (hw ▸ g2) (hw ▸ g3) g4)
theorem z_last (C : zC p s m args meth c cc nL own D cl tys A) (q0 t0 : Nat) {cA : ClassId} {n a : Nat} {f : Nat → Int64} (ha : ws[q0]? = some (a, .inl (cA, n, .inr (.inl f)))) (ht : tys[t0]? = some (cA, .long)) {i : Int32} {x : Int64} (hin : ¬ (i < 0 ∨ n ≤ i.toNatClampNeg)) (hdg : decode cc pc = .ok (.lastore, 1)) (hw : ws.set q0 (a, .inl (cA, n, .inr (.inl (vp_updL f i.toNatClampNeg x)))) = ws')
    (kk : ZW p l e R s m args below meth c nL D cl A cells slots Q ws' (pc + 1) lv st) : ZW p l e R s m args below meth c nL D cl A cells slots Q ws pc lv (.long x :: .int i :: .ref a :: st) :=
  fun H locs ls h1 h2 h3 h4 => va_last C.1 C.2.1 C.2.2.2.2.2.1 h2 h3 h4 q0 t0 ha ht hin hdg (fun H1 locs1 g2 g3 g4 => kk H1 locs1 ls h1 (hw ▸ g2) (hw ▸ g3) g4)
theorem z_alen (C : zC p s m args meth c cc nL own D cl tys A) (q0 t0 : Nat) {cA : ClassId} {a : Nat} {x : vp_A} (ha : ws[q0]? = some (a, .inl (cA, x))) {ty : FieldType} (ht : tys[t0]? = some (cA, ty)) {v : Int32} (hv : Int32.ofNat x.1 = v) (hdg : decode cc pc = .ok (.arraylength, 1))
    (kk : ZW p l e R s m args below meth c nL D cl A cells slots Q ws (pc + 1) lv (.int v :: st)) : ZW p l e R s m args below meth c nL D cl A cells slots Q ws pc lv (.ref a :: st) :=
  fun H locs ls h1 h2 h3 h4 => va_alen C.1 C.2.1 C.2.2.2.2.2.1 h2 q0 t0 ha ht hv hdg (kk H locs ls h1 h2 h3 h4)
theorem z_ldcw (C : zC p s m args meth c cc nL own D cl tys A) {index : Nat} {v : Int32} (hc : Jvm.Cond.constant own index v ∈ zT) (hdg : decode cc pc = .ok (.ldc_w index, 3)) (k : ZW p l e R s m args below meth c nL D cl A cells slots Q ws (pc + 3) lv (.int v :: st)) : ZW p l e R s m args below meth c nL D cl A cells slots Q ws pc lv st :=
  fun H locs ls h1 h2 h3 h4 => lv_ldcw C.1 C.2.1 C.2.2.2.1 (C.2.2.2.2.1 _ hc) hdg (k H locs ls h1 h2 h3 h4)
theorem z_mmax (C : zC p s m args meth c cc nL own D cl tys A) {index : Nat} (hl : Cond.methodLink own index Lib.Math.max.name ∈ zT) (hs : Cond.static Lib.Math.max.name ∈ zT) (hi : Cond.initialized "java/lang/Math" ∈ zT) (hc : Cond.code Lib.Math.max.name Lib.Math.max.code 2 (some .int) ∈ zT) (hR : 1 ≤ R.frames ∧ (st.map fun v => v.category).sum + 13 ≤ R.locals ∧ cells ≤ R.cells ∧ slots ≤ R.slots) {x y : Int32} (hdg : decode cc pc = .ok (.invokestatic index, 3)) (k : ZW p l e R s m args below meth c nL D cl A cells slots Q ws (pc + 3) lv (.int (if x < y then y else x) :: st)) : ZW p l e R s m args below meth c nL D cl A cells slots Q ws pc lv (.int y :: .int x :: st) :=
  fun H locs ls h1 h2 h3 h4 => va_mmax C.1 C.2.1 (C.2.2.1.trans h1.1.symm) C.2.2.2.1 (C.2.2.2.2.1 _ hl) (C.2.2.2.2.1 _ hs) (C.2.2.2.2.1 _ hi) (C.2.2.2.2.1 _ hc) hR.1 hR.2.1 hR.2.2.1 hR.2.2.2 hdg (k H locs ls h1 h2 h3 h4)
theorem z_gets (C : zC p s m args meth c cc nL own D cl tys A) {Cn n d : String} {v : Value} {index : Nat} (hZ : va_Z Cn n d v A s s.heap) (hlink : Cond.fieldLink own index Cn n d ∈ zT) (hdg : decode cc pc = .ok (.getstatic index, 3))
    (kk : ZW p l e R s m args below meth c nL D cl A cells slots Q ws (pc + 3) lv (v :: st)) : ZW p l e R s m args below meth c nL D cl A cells slots Q ws pc lv st :=
  fun H locs ls h1 h2 h3 h4 => va_gets C.1 C.2.1 hZ h4 C.2.2.2.1 (C.2.2.2.2.1 _ hlink) (fun _ h => h) hdg (kk H locs ls h1 h2 h3 h4)
theorem z_ti (C : zC p s m args meth c cc nL own D cl tys A) {t N : Nat} {f : Nat → Value} (hT : va_T .int t N f A s s.heap) {i : Int32} (hin : ¬ (i < 0 ∨ N ≤ i.toNatClampNeg)) {v : Value} (hv : f i.toNatClampNeg = v) (hdg : decode cc pc = .ok (.iaload, 1))
    (kk : ZW p l e R s m args below meth c nL D cl A cells slots Q ws (pc + 1) lv (v :: st)) : ZW p l e R s m args below meth c nL D cl A cells slots Q ws pc lv (.int i :: .ref t :: st) :=
  fun H locs ls h1 h2 h3 h4 => va_ti C.1 C.2.1 hT h4 hin hv hdg (kk H locs ls h1 h2 h3 h4)
theorem z_tableIn (C : zC p s m args meth c cc nL own D cl tys A) {dflt lo hi : Int} {offs : Array Int} {len : Nat} {x : Int32} {off : Int} {tgt : Nat} (hdg : decode cc pc = .ok (.tableswitch dflt lo hi offs, len)) (x0 : Int32) (hx0 : x = x0) (h1 : ¬ x0.toInt < lo) (h2 : ¬ hi < x0.toInt) (ho : offs[(x0.toInt - lo).toNat]? = some off) (ht : (pc : Int) + off = (tgt : Int))
    (k : ZW p l e R s m args below meth c nL D cl A cells slots Q ws tgt lv st) : ZW p l e R s m args below meth c nL D cl A cells slots Q ws pc lv (.int x :: st) :=
  fun H locs ls g1 g2 g3 g4 => lv_tableIn C.1 C.2.1 hdg (by rw [hx0]; exact h1) (by rw [hx0]; exact h2) (by rw [hx0]; exact ho) ht (k H locs ls g1 g2 g3 g4)
theorem z_tableOut (C : zC p s m args meth c cc nL own D cl tys A) {dflt lo hi : Int} {offs : Array Int} {len : Nat} {x : Int32} {tgt : Nat} (hdg : decode cc pc = .ok (.tableswitch dflt lo hi offs, len)) (h : x.toInt < lo ∨ hi < x.toInt) (ht : (pc : Int) + dflt = (tgt : Int))
    (k : ZW p l e R s m args below meth c nL D cl A cells slots Q ws tgt lv st) : ZW p l e R s m args below meth c nL D cl A cells slots Q ws pc lv (.int x :: st) :=
  fun H locs ls g1 g2 g3 g4 => lv_tableOut C.1 C.2.1 hdg h ht (k H locs ls g1 g2 g3 g4)
theorem z_lookup (C : zC p s m args meth c cc nL own D cl tys A) {dflt : Int} {ps : Array (Int × Int)} {len : Nat} {x : Int32} {off : Int} {tgt : Nat} (hdg : decode cc pc = .ok (.lookupswitch dflt ps, len)) (hp : (ps.toList.zip (ps.toList.drop 1)).all (fun (a, next) => a.1 < next.1) = true) (ho : Op.lookupswitch.offset ps.toList dflt x.toInt = off) (ht : (pc : Int) + off = (tgt : Int))
    (k : ZW p l e R s m args below meth c nL D cl A cells slots Q ws tgt lv st) : ZW p l e R s m args below meth c nL D cl A cells slots Q ws pc lv (.int x :: st) :=
  fun H locs ls g1 g2 g3 g4 => lv_lookup C.1 C.2.1 hdg hp ho ht (k H locs ls g1 g2 g3 g4)

end ZL
/-! contracts of methods that make nothing -/
def z_rep : va_W → List Nat → va_W → va_W
  | ws, i :: is, w :: wc => z_rep (ws.set i w) is wc
  | ws, _, _ => ws
theorem z_rep_get : ∀ (is : List Nat) (wc ws : va_W) (k : Nat) (q : Nat × va_E), is.length ≤ wc.length → (z_rep ws is wc)[k]? = some q → (∃ j : Nat, wc[j]? = some q) ∨ (ws[k]? = some q ∧ k ∉ is)
  | [], wc, ws, k, q, _, h => Or.inr ⟨by cases wc <;> exact h, List.not_mem_nil⟩
  | i :: is, [], ws, k, q, hl, h => absurd hl (by simp)
  | i :: is, w :: wc, ws, k, q, hl, h => by
    rcases z_rep_get is wc (ws.set i w) k q (by simpa using hl) h with ⟨j, hj⟩ | ⟨h1, h2⟩
    · exact Or.inl ⟨j + 1, by simpa using hj⟩
    · by_cases e : i = k
      · subst e
        rw [List.getElem?_set] at h1
        split at h1
        · rename_i hh
          split at h1
          · exact Or.inl ⟨0, by simpa using h1⟩
          · cases h1
        · rename_i hh; exact absurd rfl hh
      · rw [List.getElem?_set_ne e] at h1
        exact Or.inr ⟨h1, fun hm => by rcases List.mem_cons.mp hm with r | r; exact e r.symm; exact h2 r⟩
theorem z_rep_fst : ∀ (is : List Nat) (wc ws : va_W), is.map (fun i => (ws.map Prod.fst)[i]?) = wc.map (fun w => some w.1) → (z_rep ws is wc).map Prod.fst = ws.map Prod.fst
  | [], wc, ws, _ => by cases wc <;> rfl
  | i :: is, [], ws, h => rfl
  | i :: is, w :: wc, ws, h => by
    have h1 : (ws.map Prod.fst)[i]? = some w.1 := by have := congrArg List.head? h; simpa using this
    have h2 : is.map (fun i => (ws.map Prod.fst)[i]?) = wc.map (fun w => some w.1) := by have := congrArg List.tail h; simpa using this
    have h3 : (ws.set i w).map Prod.fst = ws.map Prod.fst := by
      rw [List.map_set]
      apply List.ext_getElem?
      intro k
      rw [List.getElem?_set]
      by_cases e : i = k
      · subst e
        rw [h1]
        have : i < (ws.map Prod.fst).length := (List.getElem?_eq_some_iff.mp h1).1
        have h9 : i < ws.length := by simpa using this
        simp [h9]
      · simp [e]
    show (z_rep (ws.set i w) is wc).map Prod.fst = _
    rw [z_rep_fst is wc (ws.set i w) (by rw [h3]; exact h2), h3]
theorem z_D_fst {A : Nat → Prop} {ws ws' : va_W} (h : ws'.map Prod.fst = ws.map Prod.fst) (hD : va_D A ws) : va_D A ws' := by
  have key : ∀ (k : Nat) (q : Nat × va_E), ws'[k]? = some q → ∃ q2, ws[k]? = some q2 ∧ q2.1 = q.1 := by
    intro k q hq
    have h1 : (ws.map Prod.fst)[k]? = some q.1 := by rw [← h, List.getElem?_map, hq]; rfl
    rw [List.getElem?_map] at h1
    cases hk : ws[k]? with
    | none => rw [hk] at h1; cases h1
    | some q2 => rw [hk] at h1; exact ⟨q2, rfl, Option.some.inj h1⟩
  refine ⟨fun i j p q h1 h2 e => ?_, fun k q hk => ?_⟩
  · obtain ⟨p2, a1, a2⟩ := key i p h1
    obtain ⟨q2, b1, b2⟩ := key j q h2
    exact hD.1 i j p2 q2 a1 b1 (by rw [a2, b2, e])
  · obtain ⟨q2, b1, b2⟩ := key k q hk
    rw [← b2]
    exact hD.2 k q2 b1
theorem z_map_sub {ws wc : va_W} {is : List Nat} (h : is.map (fun i => ws[i]?) = wc.map some) : is.filterMap (fun i => ws[i]?) = wc := by
  have : is.filterMap (fun i => ws[i]?) = (is.map (fun i => ws[i]?)).filterMap id := by rw [List.filterMap_map]; rfl
  rw [this, h, List.filterMap_map]
  simp
/-- the addresses that a method may write: those of its cells, and new ones -/
def zA (as : List Nat) (sz : Nat) : Nat → Prop := fun q => q ∈ as ∨ sz ≤ q
theorem zA_of {wc : va_W} {sz q : Nat} (h : zA (wc.map Prod.fst) sz q) : va_A wc sz q := by
  rcases h with h | h
  · obtain ⟨w, hw, rfl⟩ := List.mem_map.mp h
    obtain ⟨k, hk⟩ := List.mem_iff_getElem?.mp hw
    exact Or.inl ⟨k, w.2, hk⟩
  · exact Or.inr h
theorem zA_self {A : Nat → Prop} {wc : va_W} {sz : Nat} (h : va_D A wc) : va_D (zA (wc.map Prod.fst) sz) wc := ⟨h.1, fun _ q hk => Or.inl (List.mem_map.mpr ⟨q, List.mem_of_getElem? hk, rfl⟩)⟩
/-- a contract's end: this answer, these cells, nothing else -/
def zQ (r : Option Value) (D : va_G) (cl : List vw_C) (wc' : va_W) (as : List Nat) : Array Value → State → Outcome → State → Prop := fun _ st oc t => oc = .returned r ∧ va_P D cl wc' t.heap ∧ va_F (zA as st.heap.size) st t
/-- a contract's start -/
def zPre (av : List Value) (D : va_G) (cl : List vw_C) (tys : List (ClassId × FieldType)) (wc : va_W) (sz : Nat) : Array Value → State → Prop := fun v U => v = av.toArray ∧ U.heap.size = sz ∧ va_P D cl wc U.heap ∧ va_K D cl tys U ∧ va_D (fun _ => True) wc ∧ zE (zA (wc.map Prod.fst) sz) U U.heap
/-- the contract of a method that makes nothing: from the cells wc it comes to the cells wc' and answers r -/
def zM (l : Launch) (y : MethodName) (wy : List Cond) (rm : Room) (D : va_G) (cl : List vw_C) (tys : List (ClassId × FieldType)) (av : List Value) (wc wc' : va_W) (r : Option Value) : Prop := ∀ sz : Nat, Met l y wy rm (zPre av D cl tys wc sz) (zQ r D cl wc' (wc.map Prod.fst)) 0 0 (zA (wc.map Prod.fst) sz)
theorem zPre.blind {av : List Value} {D : va_G} {cl : List vw_C} {tys : List (ClassId × FieldType)} {wc : va_W} {sz : Nat} : FrameBlind (zPre av D cl tys wc sz) := by
  intro a U g mk h
  obtain ⟨h1, h2, h3, h4, h5, h6⟩ := h
  exact ⟨h1, h2, h3, va_K.moved (u := U) (U := U.calling g mk a) (Vm.Alike.refl U.vm) h4, h5, zE.same (u := U) (U := U.calling g mk a) rfl h6⟩
section ZK
variable {p : Program} {l : Launch} {e : Env} {R : Room} {s : State} {m : MethodId} {args : Array Value} {below : List Frame} {meth : Method} {c : Code} {cells slots : Nat} {Q : State → Prop}
variable {cc : ByteArray} {pc nL : Nat} {D : va_G} {cl : List vw_C} {A : Nat → Prop} {tys : List (ClassId × FieldType)} {ws ws' : va_W} {lv lv' : List (Nat × Value)} {st rest : List Value} {own : String} {as0 : List Nat}
/-- a method from its walk -/
theorem zM.intro {y : MethodName} {wy wy' : List Cond} {rm : Room} {wc wc' : va_W} {r : Option Value} {maxL : Nat} {ret : Option FieldType} {av : List Value}
    (hy : plainName y.cls = true) (hw : wy = Cond.code y cc maxL ret :: wy') (hT : ∀ w ∈ zT, w ∈ wy) (hlen : (lg_sl av).length ≤ maxL)
    (body : ∀ (p : Program) (e : Env) (s : State) (m : MethodId) (below : List Frame) (meth : Method) (c : Code), zC p s m av.toArray meth c cc maxL y.cls D cl tys (zA (wc.map Prod.fst) s.heap.size) → meth.sig.returnType = ret → (y.name = "<init>" → meth.name = "<init>") →
      ZW p l e rm s m av.toArray below meth c maxL D cl (zA (wc.map Prod.fst) s.heap.size) 0 0 (MQ below (zQ r D cl wc' (wc.map Prod.fst)) av.toArray s 0 0 (zA (wc.map Prod.fst) s.heap.size)) wc 0 (lv_args 0 av) []) : zM l y wy rm D cl tys av wc wc' r := by
  intro sz
  refine Met.ofW (cc := cc) (maxL := maxL) (ret := ret) hy hw ?_
  intro p e s m args below meth c s₁ B hml hv
  obtain ⟨rfl, hsz, hP, hK, hD0, hE⟩ := hv
  subst hsz
  have hts := atoms_spec (ws := wy) B.pre
  rw [lg_entry_eq]
  exact body p e s m below meth c ⟨B.exec, B.bytes, hml, findClass_of_methodNamed B.named, fun w h => hts w (hT w h), hK, fun q h => Or.inr h, B.notSynchronized, hE⟩ B.returns
    (fun hn => by rw [← hn]; exact (name_of_methodNamed B.named B.method).1) s.heap [] _ (lv_entry av hlen) hP (zA_self hD0) va_S.rf
theorem z_iret (C : zC p s m args meth c cc nL own D cl tys (zA as0 s.heap.size)) (hr : meth.sig.returnType = some .int) {v : Int32} (hdg : decode cc pc = .ok (.ireturn, 1)) :
    ZW p l e R s m args below meth c nL D cl (zA as0 s.heap.size) cells slots (MQ below (zQ (some (.int v)) D cl ws as0) args s cells slots (zA as0 s.heap.size)) ws pc lv [.int v] :=
  fun H locs ls h1 h2 h3 h4 => W.iret C.1 C.2.1 hr (fun t ht hW => ⟨rfl, by rw [ht]; exact h2, h4.F ht⟩) h4.2.2 hdg C.2.2.2.2.2.2.2.1
theorem z_zret (C : zC p s m args meth c cc nL own D cl tys (zA as0 s.heap.size)) {ty : FieldType} (hr : meth.sig.returnType = some ty) {v : Int32} (hn : narrow ty (.int v) = .int v) (hdg : decode cc pc = .ok (.ireturn, 1)) :
    ZW p l e R s m args below meth c nL D cl (zA as0 s.heap.size) cells slots (MQ below (zQ (some (.int v)) D cl ws as0) args s cells slots (zA as0 s.heap.size)) ws pc lv [.int v] :=
  fun H locs ls h1 h2 h3 h4 => W.zret C.1 C.2.1 hr hn (fun t ht hW => ⟨rfl, by rw [ht]; exact h2, h4.F ht⟩) h4.2.2 hdg C.2.2.2.2.2.2.2.1
theorem z_lret (C : zC p s m args meth c cc nL own D cl tys (zA as0 s.heap.size)) (hr : meth.sig.returnType = some .long) {v : Int64} (hdg : decode cc pc = .ok (.lreturn, 1)) :
    ZW p l e R s m args below meth c nL D cl (zA as0 s.heap.size) cells slots (MQ below (zQ (some (.long v)) D cl ws as0) args s cells slots (zA as0 s.heap.size)) ws pc lv [.long v] :=
  fun H locs ls h1 h2 h3 h4 => W.lret C.1 C.2.1 hr (fun t ht hW => ⟨rfl, by rw [ht]; exact h2, h4.F ht⟩) h4.2.2 hdg C.2.2.2.2.2.2.2.1
theorem z_vret (C : zC p s m args meth c cc nL own D cl tys (zA as0 s.heap.size)) (hr : meth.sig.returnType = none) (hdg : decode cc pc = .ok (.return_, 1)) :
    ZW p l e R s m args below meth c nL D cl (zA as0 s.heap.size) cells slots (MQ below (zQ none D cl ws as0) args s cells slots (zA as0 s.heap.size)) ws pc lv [] :=
  fun H locs ls h1 h2 h3 h4 => W.vret C.1 C.2.1 hr (fun t ht hW => ⟨rfl, by rw [ht]; exact h2, h4.F ht⟩) h4.2.2 hdg C.2.2.2.2.2.2.2.1
/-- behind a call: the callee's cells are changed in their places -/
theorem z_call (C : zC p s m args meth c cc nL own D cl tys A) {wc wc' : va_W} {r : Option Value} {aa : Array Value} (isC : List Nat) (hnd : va_nd isC = true)
    (hC : isC.map (fun i => ws[i]?) = wc.map some) (hf : wc'.map Prod.fst = wc.map Prod.fst) (hw : z_rep ws isC wc' = ws')
    (run : ∀ (H : Heap) (locs : List Loc) (ls : Array Slot), lv_has ls nL lv → va_P D cl wc H → va_D (fun _ => True) wc → zE (zA (wc.map Prod.fst) H.size) s H → va_Run p l e R s m args below meth c H locs cells slots 0 0 (F0 m pc ls st) rest (zQ r D cl wc' (wc.map Prod.fst) aa) (zA (wc.map Prod.fst) H.size))
    (kk : ZW p l e R s m args below meth c nL D cl A cells slots Q ws' (pc + 3) lv (r.toList ++ rest)) : ZW p l e R s m args below meth c nL D cl A cells slots Q ws pc lv st := by
  intro H locs ls h1 h2 h3 h4
  have hFc : ∀ q, zA (wc.map Prod.fst) H.size q → A q := fun q h => va_free h3 h4 C.2.2.2.2.2.2.1 isC hC q (zA_of h)
  have hPc : va_P D cl wc H := h2.sub isC (z_map_sub hC)
  have hDc : va_D (fun _ => True) wc := (h3.sub isC hnd hC).weaken (fun _ _ _ _ => trivial)
  have hE : zE (zA (wc.map Prod.fst) H.size) s H := zE.narrow (zE.kept C.2.2.2.2.2.2.2.2 h4.2.1) hFc
  intro T hT X
  obtain ⟨v, st₀, t, T', L, h0, X', hL, e1, e2, ⟨hv, hP1, hF1⟩, hgo⟩ := run H locs ls h1 hPc hDc hE T hT X
  cases hv
  have hk : ∀ q : Nat, q < H.size → ¬ zA (wc.map Prod.fst) H.size q → t.heap[q]? = H[q]? := fun q a b => by
    have := hF1.2 q (by rw [h0]; exact a) (by rw [h0]; exact b)
    rw [h0] at this
    exact this
  have hz : H.size ≤ t.heap.size := by have := hF1.1; rw [h0] at this; exact this
  have hlen : isC.length ≤ wc'.length := by
    have a1 := congrArg List.length hC
    have a2 := congrArg List.length hf
    simp only [List.length_map] at a1 a2
    omega
  have P2 : va_P D cl ws' T'.heap := by
    rw [e1, ← hw]
    intro k q hq
    rcases z_rep_get isC wc' ws k q hlen hq with ⟨j, hj⟩ | ⟨hq1, hq2⟩
    · exact hP1 j q hj
    · have hat := h2 k q hq1
      refine hat.kept (hk q.1 hat.lt ?_)
      intro hz9
      rcases zA_of hz9 with ⟨k', e', hk'⟩ | hk'
      · have a1 : (isC.map (fun i => ws[i]?))[k']? = some (some (q.1, e')) := by rw [hC, List.getElem?_map, hk']; rfl
        rw [List.getElem?_map] at a1
        cases hi : isC[k']? with
        | none => rw [hi] at a1; cases a1
        | some i =>
          rw [hi] at a1
          have a2 : ws[i]? = some (q.1, e') := Option.some.inj a1
          have a3 := h3.1 i k _ _ a2 hq1 rfl
          subst a3
          exact hq2 (List.mem_of_getElem? hi)
      · exact absurd hat.lt (Nat.not_lt.mpr hk')
  have D2 : va_D A ws' := by
    rw [← hw]
    refine z_D_fst (z_rep_fst isC wc' ws ?_) h3
    have a1 : isC.map (fun i => (ws.map Prod.fst)[i]?) = (isC.map (fun i => ws[i]?)).map (fun o => o.map Prod.fst) := by simp [Function.comp_def]
    have a2 : wc'.map (fun w => some w.1) = (wc'.map Prod.fst).map some := by simp [Function.comp_def]
    rw [a1, hC, a2, hf]
    simp [Function.comp_def]
  have S2 : va_S A s.heap T'.heap (locs ++ L) := ⟨Nat.le_trans h4.1 (by rw [e1]; exact hz), fun q a b => by rw [e1, hk q (Nat.lt_of_lt_of_le a h4.1) (fun z => b (hFc q z))]; exact h4.2.1 q a b, fun q hq => by
    rcases List.mem_append.mp hq with h | h
    · exact h4.2.2 q h
    · exact hFc _ (hL q h)⟩
  obtain ⟨t2, a1, b1⟩ := kk T'.heap (locs ++ L) ls h1 P2 D2 S2 T' rfl X'
  exact ⟨t2, hgo t2 a1, b1⟩
/-- what the tables say of an instance method, of a static one -/
def zMi (y : MethodName) (bytes : ByteArray) (maxL : Nat) (ret : Option FieldType) (n : Nat) : Prop := Cond.code y bytes maxL ret ∈ zT ∧ Cond.initialized y.cls ∈ zT ∧ Cond.instanceMethod y ∈ zT ∧ Cond.selects y.cls y y ∈ zT ∧ y.cls ≠ "java/lang/invoke/MethodHandle" ∧ y.cls ≠ "java/lang/invoke/VarHandle" ∧ (parseMethodDescriptor y.desc).map (fun d => d.parameters.length) = some n
def zMs (y : MethodName) (bytes : ByteArray) (maxL : Nat) (ret : Option FieldType) (n : Nat) : Prop := Cond.code y bytes maxL ret ∈ zT ∧ Cond.initialized y.cls ∈ zT ∧ Cond.static y ∈ zT ∧ y.cls ≠ "java/lang/invoke/MethodHandle" ∧ y.cls ≠ "java/lang/invoke/VarHandle" ∧ (parseMethodDescriptor y.desc).map (fun d => d.parameters.length) = some n
theorem zGood {y : MethodName} {bytes : ByteArray} {maxL : Nat} {ret : Option FieldType} (h : Cond.code y bytes maxL ret ∈ zT) : GoodIn zT (Cond.code y bytes maxL ret :: zT) := fun w hw => by
  rcases List.mem_cons.mp hw with rfl | hw
  · exact ⟨h, zT_good _ h⟩
  · exact ⟨hw, zT_good w hw⟩
abbrev zRoom (R rm : Room) (maxL : Nat) : Prop := rm.cells = 0 ∧ rm.slots = 0 ∧ rm.frames + 1 ≤ R.frames ∧ 8 + (maxL + 11) + rm.locals ≤ R.locals
theorem z_callV (C : zC p s m args meth c cc nL own D cl tys A) {y : MethodName} {rm : Room} {bytes : ByteArray} {maxL n index b ci N : Nat} {ret : Option FieldType} {As : List Value} {wc wc' : va_W} {r : Option Value} {T : u_T} {fs : List Value}
    (hM : zM l y (Cond.code y bytes maxL ret :: zT) rm D cl tys (.ref b :: As) wc wc' r) (my : zMi y bytes maxL ret n) (hl : Cond.methodLink own index y ∈ zT) (hR : zRoom R rm maxL)
    (q0 : Nat) (he : wc[q0]? = some (b, .inr (ci, fs))) (hc : cl[ci]? = some (y.cls, T, N)) (isC : List Nat) (hnd : va_nd isC = true) (hC : isC.map (fun i => ws[i]?) = wc.map some) (hf : wc'.map Prod.fst = wc.map Prod.fst) (hw : z_rep ws isC wc' = ws')
    (hn : As.length = n) (hst : st = As.reverse ++ .ref b :: rest) (hrm : (rest.map fun v => v.category).sum ≤ 8) (hcs : cells ≤ R.cells ∧ slots ≤ R.slots) (hdg : decode cc pc = .ok (.invokevirtual index, 3))
    (kk : ZW p l e R s m args below meth c nL D cl A cells slots Q ws' (pc + 3) lv (r.toList ++ rest)) : ZW p l e R s m args below meth c nL D cl A cells slots Q ws pc lv st := by
  refine z_call C isC hnd hC hf hw (aa := (Value.ref b :: As).toArray) (fun H locs ls h1 hP hD hE => ?_) kk
  obtain ⟨m1, m2, m3, m4, m5, m6, m7⟩ := my
  have hts := C.2.2.2.2.1
  exact va_runV (Ts := zT) ⟨C.1, C.2.1, C.2.2.1, C.2.2.2.1, hts⟩ (hM H.size) ⟨callB_of n hts (zGood m1) rfl hR.1 hR.2.1 (hts _ m2) (hts _ hl) ⟨m5, m6, m7⟩ hR.2.2, hts _ m3, hts _ m4⟩
    ⟨zPre.blind, va_recv C.2.2.2.2.2.1 hP hc he, fun U hU hW => ⟨rfl, by rw [hU], by rw [hU]; exact hP, va_K.moved hW.alike C.2.2.2.2.2.1, hD, by rw [hU]; exact zE.warm hW hE⟩⟩ rfl hn h1.1 hst (lv_room hrm) hdg hcs
theorem z_callVN (C : zC p s m args meth c cc nL own D cl tys A) {y : MethodName} {host : String} {rm : Room} {bytes : ByteArray} {maxL n index b ci N : Nat} {ret : Option FieldType} {As : List Value} {wc wc' : va_W} {r : Option Value} {T : u_T} {fs : List Value}
    (hM : zM l y (Cond.code y bytes maxL ret :: zT) rm D cl tys (.ref b :: As) wc wc' r) (my : zMi y bytes maxL ret n) (hl : va_Nw (Cond.methodLinkNest own index y host) s) (hR : zRoom R rm maxL)
    (q0 : Nat) (he : wc[q0]? = some (b, .inr (ci, fs))) (hc : cl[ci]? = some (y.cls, T, N)) (isC : List Nat) (hnd : va_nd isC = true) (hC : isC.map (fun i => ws[i]?) = wc.map some) (hf : wc'.map Prod.fst = wc.map Prod.fst) (hw : z_rep ws isC wc' = ws')
    (hn : As.length = n) (hst : st = As.reverse ++ .ref b :: rest) (hrm : (rest.map fun v => v.category).sum ≤ 8) (hcs : cells ≤ R.cells ∧ slots ≤ R.slots) (hdg : decode cc pc = .ok (.invokevirtual index, 3))
    (kk : ZW p l e R s m args below meth c nL D cl A cells slots Q ws' (pc + 3) lv (r.toList ++ rest)) : ZW p l e R s m args below meth c nL D cl A cells slots Q ws pc lv st := by
  refine z_call C isC hnd hC hf hw (aa := (Value.ref b :: As).toArray) (fun H locs ls h1 hP hD hE => ?_) kk
  obtain ⟨m1, m2, m3, m4, m5, m6, m7⟩ := my
  have hts := C.2.2.2.2.1
  exact va_runVN (Ts := zT) ⟨C.1, C.2.1, C.2.2.1, C.2.2.2.1, hts⟩ (hM H.size) ⟨va_cnB n hts (zGood m1) rfl hR.1 hR.2.1 hl (hts _ m2) ⟨m5, m6, m7⟩ hR.2.2, hts _ m3, hts _ m4⟩
    ⟨zPre.blind, va_recv C.2.2.2.2.2.1 hP hc he, fun U hU hW => ⟨rfl, by rw [hU], by rw [hU]; exact hP, va_K.moved hW.alike C.2.2.2.2.2.1, hD, by rw [hU]; exact zE.warm hW hE⟩⟩ rfl hn h1.1 hst (lv_room hrm) hdg hcs
theorem z_callS (C : zC p s m args meth c cc nL own D cl tys A) {y : MethodName} {rm : Room} {bytes : ByteArray} {maxL n index : Nat} {ret : Option FieldType} {As : List Value} {wc wc' : va_W} {r : Option Value}
    (hM : zM l y (Cond.code y bytes maxL ret :: zT) rm D cl tys As wc wc' r) (my : zMs y bytes maxL ret n) (hl : Cond.methodLink own index y ∈ zT) (hR : zRoom R rm maxL)
    (isC : List Nat) (hnd : va_nd isC = true) (hC : isC.map (fun i => ws[i]?) = wc.map some) (hf : wc'.map Prod.fst = wc.map Prod.fst) (hw : z_rep ws isC wc' = ws')
    (hn : As.length = n) (hst : st = As.reverse ++ rest) (hrm : (rest.map fun v => v.category).sum ≤ 8) (hcs : cells ≤ R.cells ∧ slots ≤ R.slots) (hdg : decode cc pc = .ok (.invokestatic index, 3))
    (kk : ZW p l e R s m args below meth c nL D cl A cells slots Q ws' (pc + 3) lv (r.toList ++ rest)) : ZW p l e R s m args below meth c nL D cl A cells slots Q ws pc lv st := by
  refine z_call C isC hnd hC hf hw (aa := As.toArray) (fun H locs ls h1 hP hD hE => ?_) kk
  obtain ⟨m1, m2, m3, m5, m6, m7⟩ := my
  have hts := C.2.2.2.2.1
  exact va_runS (Ts := zT) ⟨C.1, C.2.1, C.2.2.1, C.2.2.2.1, hts⟩ (hM H.size) ⟨callB_of n hts (zGood m1) rfl hR.1 hR.2.1 (hts _ m2) (hts _ hl) ⟨m5, m6, m7⟩ hR.2.2, hts _ m3⟩
    ⟨zPre.blind, fun U hU hW => ⟨rfl, by rw [hU], by rw [hU]; exact hP, va_K.moved hW.alike C.2.2.2.2.2.1, hD, by rw [hU]; exact zE.warm hW hE⟩⟩ rfl hn h1.1 hst (lv_room hrm) hdg hcs
theorem z_callSN (C : zC p s m args meth c cc nL own D cl tys A) {y : MethodName} {host : String} {rm : Room} {bytes : ByteArray} {maxL n index : Nat} {ret : Option FieldType} {As : List Value} {wc wc' : va_W} {r : Option Value}
    (hM : zM l y (Cond.code y bytes maxL ret :: zT) rm D cl tys As wc wc' r) (my : zMs y bytes maxL ret n) (hl : va_Nw (Cond.methodLinkNest own index y host) s) (hR : zRoom R rm maxL)
    (isC : List Nat) (hnd : va_nd isC = true) (hC : isC.map (fun i => ws[i]?) = wc.map some) (hf : wc'.map Prod.fst = wc.map Prod.fst) (hw : z_rep ws isC wc' = ws')
    (hn : As.length = n) (hst : st = As.reverse ++ rest) (hrm : (rest.map fun v => v.category).sum ≤ 8) (hcs : cells ≤ R.cells ∧ slots ≤ R.slots) (hdg : decode cc pc = .ok (.invokestatic index, 3))
    (kk : ZW p l e R s m args below meth c nL D cl A cells slots Q ws' (pc + 3) lv (r.toList ++ rest)) : ZW p l e R s m args below meth c nL D cl A cells slots Q ws pc lv st := by
  refine z_call C isC hnd hC hf hw (aa := As.toArray) (fun H locs ls h1 hP hD hE => ?_) kk
  obtain ⟨m1, m2, m3, m5, m6, m7⟩ := my
  have hts := C.2.2.2.2.1
  exact va_runSN (Ts := zT) ⟨C.1, C.2.1, C.2.2.1, C.2.2.2.1, hts⟩ (hM H.size) ⟨va_cnB n hts (zGood m1) rfl hR.1 hR.2.1 hl (hts _ m2) ⟨m5, m6, m7⟩ hR.2.2, hts _ m3, trivial⟩
    ⟨zPre.blind, fun U hU hW => ⟨rfl, by rw [hU], by rw [hU]; exact hP, va_K.moved hW.alike C.2.2.2.2.2.1, hD, by rw [hU]; exact zE.warm hW hE⟩⟩ rfl hn h1.1 hst (lv_room hrm) hdg hcs
end ZK


section ZT
variable {p : Program} {s : State} {m : MethodId} {args : Array Value} {meth : Method} {c : Code} {cc : ByteArray} {nL : Nat} {own : String} {D : va_G} {cl : List vw_C} {tys : List (ClassId × FieldType)} {A : Nat → Prop}
theorem znest (C : zC p s m args meth c cc nL own D cl tys A) {w : Cond} (i : Nat) (h : zN[i]? = some w) : va_Nw w s := C.2.2.2.2.2.2.2.2.1 w (List.mem_of_getElem? h)
theorem zturns (C : zC p s m args meth c cc nL own D cl tys A) : ∃ t : Nat, va_Z "PathSums" "TURNS" "[I" (.ref t) A s s.heap ∧ va_T .int t 5 (fun k => .int (tb_TURNS k)) A s s.heap := C.2.2.2.2.2.2.2.2.2
end ZT
abbrev ZV (p : Program) (l : Launch) (e : Env) (R : Room) (s : State) (m : MethodId) (args : Array Value) (below : List Frame) (meth : Method) (c : Code) (nL : Nat) (D : va_G) (r : Option Value) (wc' : va_W) (as : List Nat) (ws : va_W) (pc : Nat) (lv : List (Nat × Value)) (st : List Value) : Prop :=
  ZW p l e R s m args below meth c nL D vwCl (zA as s.heap.size) 0 0 (MQ below (zQ r D vwCl wc' as) args s 0 0 (zA as s.heap.size)) ws pc lv st
end
section
/-! the words of the functions -/
def zlet {α β : Type} (a : α) (f : α → β) : β := f a
theorem zlet_at {α β : Type} {a x : α} {f : α → β} {r : β} (ex : x = a) (h : zlet a f = r) : f x = r := by rw [ex]; exact h
theorem zguard {α : Type} {c : Prop} [Decidable c] {k : Option α} {r : α} (h : (if c then none else k) = some r) : ¬ c ∧ k = some r := by
  by_cases hc : c
  · rw [if_pos hc] at h; cases h
  · rw [if_neg hc] at h; exact ⟨hc, h⟩
theorem zif_pos {α : Type} {c : Prop} [Decidable c] {a b r : α} (hc : c) (h : (if c then a else b) = r) : a = r := by rw [if_pos hc] at h; exact h
theorem zif_neg {α : Type} {c : Prop} [Decidable c] {a b r : α} (hc : ¬ c) (h : (if c then a else b) = r) : b = r := by rw [if_neg hc] at h; exact h
theorem zne {x y : Int32} (h : ¬ x = y) : ¬ x.toInt = y.toInt := fun q => h (Int32.toInt_inj.mp q)
theorem zbool_n {x : Int32} (h : ¬ ¬ (x = 0 ∨ x = 1)) : narrow .boolean (.int x) = .int x := by
  rcases Classical.not_not.mp h with rfl | rfl <;> rfl
theorem zbool_f {x : Int32} (h : ¬ ¬ (x = 0 ∨ x = 1)) : fits .boolean (.int x) = true := by
  rcases Classical.not_not.mp h with rfl | rfl <;> rfl
def zcase {α β : Type} (P : α → Prop) (K : β → Prop) : α ⊕ β → Prop
  | .inl a => P a
  | .inr b => K b
def zloop {σ ρ : Type} (step : σ → Option (σ ⊕ ρ)) : Nat → σ → Option ρ
  | 0, _ => none
  | n + 1, s => match step s with
    | none => none
    | some (.inl s') => zloop step n s'
    | some (.inr r) => some r
theorem zloop_run {σ ρ : Type} {step : σ → Option (σ ⊕ ρ)} {P : σ → Prop} {K : ρ → Prop} (h : ∀ (s : σ) (x : σ ⊕ ρ), step s = some x → zcase P K x → P s) : ∀ (n : Nat) (s : σ) (r : ρ), zloop step n s = some r → K r → P s
  | 0, s, r, hr, hk => by cases hr
  | n + 1, s, r, hr, hk => by
    unfold zloop at hr
    cases hs : step s with
    | none => rw [hs] at hr; cases hr
    | some x =>
      rw [hs] at hr
      cases x with
      | inl s' => exact h s _ hs (zloop_run h n s' r hr hk)
      | inr r' =>
        cases hr
        exact h s _ hs hk
/-- how often a loop may go round, at most -/
def zF : Nat := 100000
def zb0 {β : Type} (o : Option Unit) (k : Option β) : Option β := o.bind fun _ => k
theorem zb0_elim {β : Type} {o : Option Unit} {k : Option β} {r : β} (h : zb0 o k = some r) : o = some () ∧ k = some r := by
  cases o with
  | none => cases h
  | some u => exact ⟨rfl, h⟩
def zb1 {α0 β : Type} (o : Option (α0)) (k : α0 → Option β) : Option β := match o with | none => none | some p => k p
theorem zb1_elim {α0 β : Type} {o : Option (α0)} {k : α0 → Option β} {r : β} (h : zb1 o k = some r) : ∃ a0, o = some a0 ∧ k a0 = some r := by
  cases o with
  | none => cases h
  | some p => exact ⟨p, rfl, h⟩
def zl1 {α0 β : Type} (p : α0) (k : α0 → β) : β := k p
theorem zl1_elim {α0 β : Type} {p : α0} {k : α0 → β} {r : β} (h : zl1 p k = r) : ∃ a0, p = a0 ∧ k a0 = r := ⟨p, rfl, h⟩
def zb2 {α0 α1 β : Type} (o : Option (α0 × α1)) (k : α0 → α1 → Option β) : Option β := match o with | none => none | some p => k p.1 p.2
theorem zb2_elim {α0 α1 β : Type} {o : Option (α0 × α1)} {k : α0 → α1 → Option β} {r : β} (h : zb2 o k = some r) : ∃ a0 a1, o = some (a0, a1) ∧ k a0 a1 = some r := by
  cases o with
  | none => cases h
  | some p => exact ⟨p.1, p.2, rfl, h⟩
def zl2 {α0 α1 β : Type} (p : α0 × α1) (k : α0 → α1 → β) : β := k p.1 p.2
theorem zl2_elim {α0 α1 β : Type} {p : α0 × α1} {k : α0 → α1 → β} {r : β} (h : zl2 p k = r) : ∃ a0 a1, p = (a0, a1) ∧ k a0 a1 = r := ⟨p.1, p.2, rfl, h⟩
def zb3 {α0 α1 α2 β : Type} (o : Option (α0 × α1 × α2)) (k : α0 → α1 → α2 → Option β) : Option β := match o with | none => none | some p => k p.1 p.2.1 p.2.2
theorem zb3_elim {α0 α1 α2 β : Type} {o : Option (α0 × α1 × α2)} {k : α0 → α1 → α2 → Option β} {r : β} (h : zb3 o k = some r) : ∃ a0 a1 a2, o = some (a0, a1, a2) ∧ k a0 a1 a2 = some r := by
  cases o with
  | none => cases h
  | some p => exact ⟨p.1, p.2.1, p.2.2, rfl, h⟩
def zl3 {α0 α1 α2 β : Type} (p : α0 × α1 × α2) (k : α0 → α1 → α2 → β) : β := k p.1 p.2.1 p.2.2
theorem zl3_elim {α0 α1 α2 β : Type} {p : α0 × α1 × α2} {k : α0 → α1 → α2 → β} {r : β} (h : zl3 p k = r) : ∃ a0 a1 a2, p = (a0, a1, a2) ∧ k a0 a1 a2 = r := ⟨p.1, p.2.1, p.2.2, rfl, h⟩
def zb4 {α0 α1 α2 α3 β : Type} (o : Option (α0 × α1 × α2 × α3)) (k : α0 → α1 → α2 → α3 → Option β) : Option β := match o with | none => none | some p => k p.1 p.2.1 p.2.2.1 p.2.2.2
theorem zb4_elim {α0 α1 α2 α3 β : Type} {o : Option (α0 × α1 × α2 × α3)} {k : α0 → α1 → α2 → α3 → Option β} {r : β} (h : zb4 o k = some r) : ∃ a0 a1 a2 a3, o = some (a0, a1, a2, a3) ∧ k a0 a1 a2 a3 = some r := by
  cases o with
  | none => cases h
  | some p => exact ⟨p.1, p.2.1, p.2.2.1, p.2.2.2, rfl, h⟩
def zl4 {α0 α1 α2 α3 β : Type} (p : α0 × α1 × α2 × α3) (k : α0 → α1 → α2 → α3 → β) : β := k p.1 p.2.1 p.2.2.1 p.2.2.2
theorem zl4_elim {α0 α1 α2 α3 β : Type} {p : α0 × α1 × α2 × α3} {k : α0 → α1 → α2 → α3 → β} {r : β} (h : zl4 p k = r) : ∃ a0 a1 a2 a3, p = (a0, a1, a2, a3) ∧ k a0 a1 a2 a3 = r := ⟨p.1, p.2.1, p.2.2.1, p.2.2.2, rfl, h⟩
def zb5 {α0 α1 α2 α3 α4 β : Type} (o : Option (α0 × α1 × α2 × α3 × α4)) (k : α0 → α1 → α2 → α3 → α4 → Option β) : Option β := match o with | none => none | some p => k p.1 p.2.1 p.2.2.1 p.2.2.2.1 p.2.2.2.2
theorem zb5_elim {α0 α1 α2 α3 α4 β : Type} {o : Option (α0 × α1 × α2 × α3 × α4)} {k : α0 → α1 → α2 → α3 → α4 → Option β} {r : β} (h : zb5 o k = some r) : ∃ a0 a1 a2 a3 a4, o = some (a0, a1, a2, a3, a4) ∧ k a0 a1 a2 a3 a4 = some r := by
  cases o with
  | none => cases h
  | some p => exact ⟨p.1, p.2.1, p.2.2.1, p.2.2.2.1, p.2.2.2.2, rfl, h⟩
def zl5 {α0 α1 α2 α3 α4 β : Type} (p : α0 × α1 × α2 × α3 × α4) (k : α0 → α1 → α2 → α3 → α4 → β) : β := k p.1 p.2.1 p.2.2.1 p.2.2.2.1 p.2.2.2.2
theorem zl5_elim {α0 α1 α2 α3 α4 β : Type} {p : α0 × α1 × α2 × α3 × α4} {k : α0 → α1 → α2 → α3 → α4 → β} {r : β} (h : zl5 p k = r) : ∃ a0 a1 a2 a3 a4, p = (a0, a1, a2, a3, a4) ∧ k a0 a1 a2 a3 a4 = r := ⟨p.1, p.2.1, p.2.2.1, p.2.2.2.1, p.2.2.2.2, rfl, h⟩
def zb6 {α0 α1 α2 α3 α4 α5 β : Type} (o : Option (α0 × α1 × α2 × α3 × α4 × α5)) (k : α0 → α1 → α2 → α3 → α4 → α5 → Option β) : Option β := match o with | none => none | some p => k p.1 p.2.1 p.2.2.1 p.2.2.2.1 p.2.2.2.2.1 p.2.2.2.2.2
theorem zb6_elim {α0 α1 α2 α3 α4 α5 β : Type} {o : Option (α0 × α1 × α2 × α3 × α4 × α5)} {k : α0 → α1 → α2 → α3 → α4 → α5 → Option β} {r : β} (h : zb6 o k = some r) : ∃ a0 a1 a2 a3 a4 a5, o = some (a0, a1, a2, a3, a4, a5) ∧ k a0 a1 a2 a3 a4 a5 = some r := by
  cases o with
  | none => cases h
  | some p => exact ⟨p.1, p.2.1, p.2.2.1, p.2.2.2.1, p.2.2.2.2.1, p.2.2.2.2.2, rfl, h⟩
def zl6 {α0 α1 α2 α3 α4 α5 β : Type} (p : α0 × α1 × α2 × α3 × α4 × α5) (k : α0 → α1 → α2 → α3 → α4 → α5 → β) : β := k p.1 p.2.1 p.2.2.1 p.2.2.2.1 p.2.2.2.2.1 p.2.2.2.2.2
theorem zl6_elim {α0 α1 α2 α3 α4 α5 β : Type} {p : α0 × α1 × α2 × α3 × α4 × α5} {k : α0 → α1 → α2 → α3 → α4 → α5 → β} {r : β} (h : zl6 p k = r) : ∃ a0 a1 a2 a3 a4 a5, p = (a0, a1, a2, a3, a4, a5) ∧ k a0 a1 a2 a3 a4 a5 = r := ⟨p.1, p.2.1, p.2.2.1, p.2.2.2.1, p.2.2.2.2.1, p.2.2.2.2.2, rfl, h⟩
def zb7 {α0 α1 α2 α3 α4 α5 α6 β : Type} (o : Option (α0 × α1 × α2 × α3 × α4 × α5 × α6)) (k : α0 → α1 → α2 → α3 → α4 → α5 → α6 → Option β) : Option β := match o with | none => none | some p => k p.1 p.2.1 p.2.2.1 p.2.2.2.1 p.2.2.2.2.1 p.2.2.2.2.2.1 p.2.2.2.2.2.2
theorem zb7_elim {α0 α1 α2 α3 α4 α5 α6 β : Type} {o : Option (α0 × α1 × α2 × α3 × α4 × α5 × α6)} {k : α0 → α1 → α2 → α3 → α4 → α5 → α6 → Option β} {r : β} (h : zb7 o k = some r) : ∃ a0 a1 a2 a3 a4 a5 a6, o = some (a0, a1, a2, a3, a4, a5, a6) ∧ k a0 a1 a2 a3 a4 a5 a6 = some r := by
  cases o with
  | none => cases h
  | some p => exact ⟨p.1, p.2.1, p.2.2.1, p.2.2.2.1, p.2.2.2.2.1, p.2.2.2.2.2.1, p.2.2.2.2.2.2, rfl, h⟩
def zl7 {α0 α1 α2 α3 α4 α5 α6 β : Type} (p : α0 × α1 × α2 × α3 × α4 × α5 × α6) (k : α0 → α1 → α2 → α3 → α4 → α5 → α6 → β) : β := k p.1 p.2.1 p.2.2.1 p.2.2.2.1 p.2.2.2.2.1 p.2.2.2.2.2.1 p.2.2.2.2.2.2
theorem zl7_elim {α0 α1 α2 α3 α4 α5 α6 β : Type} {p : α0 × α1 × α2 × α3 × α4 × α5 × α6} {k : α0 → α1 → α2 → α3 → α4 → α5 → α6 → β} {r : β} (h : zl7 p k = r) : ∃ a0 a1 a2 a3 a4 a5 a6, p = (a0, a1, a2, a3, a4, a5, a6) ∧ k a0 a1 a2 a3 a4 a5 a6 = r := ⟨p.1, p.2.1, p.2.2.1, p.2.2.2.1, p.2.2.2.2.1, p.2.2.2.2.2.1, p.2.2.2.2.2.2, rfl, h⟩
def zb8 {α0 α1 α2 α3 α4 α5 α6 α7 β : Type} (o : Option (α0 × α1 × α2 × α3 × α4 × α5 × α6 × α7)) (k : α0 → α1 → α2 → α3 → α4 → α5 → α6 → α7 → Option β) : Option β := match o with | none => none | some p => k p.1 p.2.1 p.2.2.1 p.2.2.2.1 p.2.2.2.2.1 p.2.2.2.2.2.1 p.2.2.2.2.2.2.1 p.2.2.2.2.2.2.2
theorem zb8_elim {α0 α1 α2 α3 α4 α5 α6 α7 β : Type} {o : Option (α0 × α1 × α2 × α3 × α4 × α5 × α6 × α7)} {k : α0 → α1 → α2 → α3 → α4 → α5 → α6 → α7 → Option β} {r : β} (h : zb8 o k = some r) : ∃ a0 a1 a2 a3 a4 a5 a6 a7, o = some (a0, a1, a2, a3, a4, a5, a6, a7) ∧ k a0 a1 a2 a3 a4 a5 a6 a7 = some r := by
  cases o with
  | none => cases h
  | some p => exact ⟨p.1, p.2.1, p.2.2.1, p.2.2.2.1, p.2.2.2.2.1, p.2.2.2.2.2.1, p.2.2.2.2.2.2.1, p.2.2.2.2.2.2.2, rfl, h⟩
def zl8 {α0 α1 α2 α3 α4 α5 α6 α7 β : Type} (p : α0 × α1 × α2 × α3 × α4 × α5 × α6 × α7) (k : α0 → α1 → α2 → α3 → α4 → α5 → α6 → α7 → β) : β := k p.1 p.2.1 p.2.2.1 p.2.2.2.1 p.2.2.2.2.1 p.2.2.2.2.2.1 p.2.2.2.2.2.2.1 p.2.2.2.2.2.2.2
theorem zl8_elim {α0 α1 α2 α3 α4 α5 α6 α7 β : Type} {p : α0 × α1 × α2 × α3 × α4 × α5 × α6 × α7} {k : α0 → α1 → α2 → α3 → α4 → α5 → α6 → α7 → β} {r : β} (h : zl8 p k = r) : ∃ a0 a1 a2 a3 a4 a5 a6 a7, p = (a0, a1, a2, a3, a4, a5, a6, a7) ∧ k a0 a1 a2 a3 a4 a5 a6 a7 = r := ⟨p.1, p.2.1, p.2.2.1, p.2.2.2.1, p.2.2.2.2.1, p.2.2.2.2.2.1, p.2.2.2.2.2.2.1, p.2.2.2.2.2.2.2, rfl, h⟩
def zb9 {α0 α1 α2 α3 α4 α5 α6 α7 α8 β : Type} (o : Option (α0 × α1 × α2 × α3 × α4 × α5 × α6 × α7 × α8)) (k : α0 → α1 → α2 → α3 → α4 → α5 → α6 → α7 → α8 → Option β) : Option β := match o with | none => none | some p => k p.1 p.2.1 p.2.2.1 p.2.2.2.1 p.2.2.2.2.1 p.2.2.2.2.2.1 p.2.2.2.2.2.2.1 p.2.2.2.2.2.2.2.1 p.2.2.2.2.2.2.2.2
theorem zb9_elim {α0 α1 α2 α3 α4 α5 α6 α7 α8 β : Type} {o : Option (α0 × α1 × α2 × α3 × α4 × α5 × α6 × α7 × α8)} {k : α0 → α1 → α2 → α3 → α4 → α5 → α6 → α7 → α8 → Option β} {r : β} (h : zb9 o k = some r) : ∃ a0 a1 a2 a3 a4 a5 a6 a7 a8, o = some (a0, a1, a2, a3, a4, a5, a6, a7, a8) ∧ k a0 a1 a2 a3 a4 a5 a6 a7 a8 = some r := by
  cases o with
  | none => cases h
  | some p => exact ⟨p.1, p.2.1, p.2.2.1, p.2.2.2.1, p.2.2.2.2.1, p.2.2.2.2.2.1, p.2.2.2.2.2.2.1, p.2.2.2.2.2.2.2.1, p.2.2.2.2.2.2.2.2, rfl, h⟩
def zl9 {α0 α1 α2 α3 α4 α5 α6 α7 α8 β : Type} (p : α0 × α1 × α2 × α3 × α4 × α5 × α6 × α7 × α8) (k : α0 → α1 → α2 → α3 → α4 → α5 → α6 → α7 → α8 → β) : β := k p.1 p.2.1 p.2.2.1 p.2.2.2.1 p.2.2.2.2.1 p.2.2.2.2.2.1 p.2.2.2.2.2.2.1 p.2.2.2.2.2.2.2.1 p.2.2.2.2.2.2.2.2
theorem zl9_elim {α0 α1 α2 α3 α4 α5 α6 α7 α8 β : Type} {p : α0 × α1 × α2 × α3 × α4 × α5 × α6 × α7 × α8} {k : α0 → α1 → α2 → α3 → α4 → α5 → α6 → α7 → α8 → β} {r : β} (h : zl9 p k = r) : ∃ a0 a1 a2 a3 a4 a5 a6 a7 a8, p = (a0, a1, a2, a3, a4, a5, a6, a7, a8) ∧ k a0 a1 a2 a3 a4 a5 a6 a7 a8 = r := ⟨p.1, p.2.1, p.2.2.1, p.2.2.2.1, p.2.2.2.2.1, p.2.2.2.2.2.1, p.2.2.2.2.2.2.1, p.2.2.2.2.2.2.2.1, p.2.2.2.2.2.2.2.2, rfl, h⟩
def zb10 {α0 α1 α2 α3 α4 α5 α6 α7 α8 α9 β : Type} (o : Option (α0 × α1 × α2 × α3 × α4 × α5 × α6 × α7 × α8 × α9)) (k : α0 → α1 → α2 → α3 → α4 → α5 → α6 → α7 → α8 → α9 → Option β) : Option β := match o with | none => none | some p => k p.1 p.2.1 p.2.2.1 p.2.2.2.1 p.2.2.2.2.1 p.2.2.2.2.2.1 p.2.2.2.2.2.2.1 p.2.2.2.2.2.2.2.1 p.2.2.2.2.2.2.2.2.1 p.2.2.2.2.2.2.2.2.2
theorem zb10_elim {α0 α1 α2 α3 α4 α5 α6 α7 α8 α9 β : Type} {o : Option (α0 × α1 × α2 × α3 × α4 × α5 × α6 × α7 × α8 × α9)} {k : α0 → α1 → α2 → α3 → α4 → α5 → α6 → α7 → α8 → α9 → Option β} {r : β} (h : zb10 o k = some r) : ∃ a0 a1 a2 a3 a4 a5 a6 a7 a8 a9, o = some (a0, a1, a2, a3, a4, a5, a6, a7, a8, a9) ∧ k a0 a1 a2 a3 a4 a5 a6 a7 a8 a9 = some r := by
  cases o with
  | none => cases h
  | some p => exact ⟨p.1, p.2.1, p.2.2.1, p.2.2.2.1, p.2.2.2.2.1, p.2.2.2.2.2.1, p.2.2.2.2.2.2.1, p.2.2.2.2.2.2.2.1, p.2.2.2.2.2.2.2.2.1, p.2.2.2.2.2.2.2.2.2, rfl, h⟩
def zl10 {α0 α1 α2 α3 α4 α5 α6 α7 α8 α9 β : Type} (p : α0 × α1 × α2 × α3 × α4 × α5 × α6 × α7 × α8 × α9) (k : α0 → α1 → α2 → α3 → α4 → α5 → α6 → α7 → α8 → α9 → β) : β := k p.1 p.2.1 p.2.2.1 p.2.2.2.1 p.2.2.2.2.1 p.2.2.2.2.2.1 p.2.2.2.2.2.2.1 p.2.2.2.2.2.2.2.1 p.2.2.2.2.2.2.2.2.1 p.2.2.2.2.2.2.2.2.2
theorem zl10_elim {α0 α1 α2 α3 α4 α5 α6 α7 α8 α9 β : Type} {p : α0 × α1 × α2 × α3 × α4 × α5 × α6 × α7 × α8 × α9} {k : α0 → α1 → α2 → α3 → α4 → α5 → α6 → α7 → α8 → α9 → β} {r : β} (h : zl10 p k = r) : ∃ a0 a1 a2 a3 a4 a5 a6 a7 a8 a9, p = (a0, a1, a2, a3, a4, a5, a6, a7, a8, a9) ∧ k a0 a1 a2 a3 a4 a5 a6 a7 a8 a9 = r := ⟨p.1, p.2.1, p.2.2.1, p.2.2.2.1, p.2.2.2.2.1, p.2.2.2.2.2.1, p.2.2.2.2.2.2.1, p.2.2.2.2.2.2.2.1, p.2.2.2.2.2.2.2.2.1, p.2.2.2.2.2.2.2.2.2, rfl, h⟩
def zb11 {α0 α1 α2 α3 α4 α5 α6 α7 α8 α9 α10 β : Type} (o : Option (α0 × α1 × α2 × α3 × α4 × α5 × α6 × α7 × α8 × α9 × α10)) (k : α0 → α1 → α2 → α3 → α4 → α5 → α6 → α7 → α8 → α9 → α10 → Option β) : Option β := match o with | none => none | some p => k p.1 p.2.1 p.2.2.1 p.2.2.2.1 p.2.2.2.2.1 p.2.2.2.2.2.1 p.2.2.2.2.2.2.1 p.2.2.2.2.2.2.2.1 p.2.2.2.2.2.2.2.2.1 p.2.2.2.2.2.2.2.2.2.1 p.2.2.2.2.2.2.2.2.2.2
theorem zb11_elim {α0 α1 α2 α3 α4 α5 α6 α7 α8 α9 α10 β : Type} {o : Option (α0 × α1 × α2 × α3 × α4 × α5 × α6 × α7 × α8 × α9 × α10)} {k : α0 → α1 → α2 → α3 → α4 → α5 → α6 → α7 → α8 → α9 → α10 → Option β} {r : β} (h : zb11 o k = some r) : ∃ a0 a1 a2 a3 a4 a5 a6 a7 a8 a9 a10, o = some (a0, a1, a2, a3, a4, a5, a6, a7, a8, a9, a10) ∧ k a0 a1 a2 a3 a4 a5 a6 a7 a8 a9 a10 = some r := by
  cases o with
  | none => cases h
  | some p => exact ⟨p.1, p.2.1, p.2.2.1, p.2.2.2.1, p.2.2.2.2.1, p.2.2.2.2.2.1, p.2.2.2.2.2.2.1, p.2.2.2.2.2.2.2.1, p.2.2.2.2.2.2.2.2.1, p.2.2.2.2.2.2.2.2.2.1, p.2.2.2.2.2.2.2.2.2.2, rfl, h⟩
def zl11 {α0 α1 α2 α3 α4 α5 α6 α7 α8 α9 α10 β : Type} (p : α0 × α1 × α2 × α3 × α4 × α5 × α6 × α7 × α8 × α9 × α10) (k : α0 → α1 → α2 → α3 → α4 → α5 → α6 → α7 → α8 → α9 → α10 → β) : β := k p.1 p.2.1 p.2.2.1 p.2.2.2.1 p.2.2.2.2.1 p.2.2.2.2.2.1 p.2.2.2.2.2.2.1 p.2.2.2.2.2.2.2.1 p.2.2.2.2.2.2.2.2.1 p.2.2.2.2.2.2.2.2.2.1 p.2.2.2.2.2.2.2.2.2.2
theorem zl11_elim {α0 α1 α2 α3 α4 α5 α6 α7 α8 α9 α10 β : Type} {p : α0 × α1 × α2 × α3 × α4 × α5 × α6 × α7 × α8 × α9 × α10} {k : α0 → α1 → α2 → α3 → α4 → α5 → α6 → α7 → α8 → α9 → α10 → β} {r : β} (h : zl11 p k = r) : ∃ a0 a1 a2 a3 a4 a5 a6 a7 a8 a9 a10, p = (a0, a1, a2, a3, a4, a5, a6, a7, a8, a9, a10) ∧ k a0 a1 a2 a3 a4 a5 a6 a7 a8 a9 a10 = r := ⟨p.1, p.2.1, p.2.2.1, p.2.2.2.1, p.2.2.2.2.1, p.2.2.2.2.2.1, p.2.2.2.2.2.2.1, p.2.2.2.2.2.2.2.1, p.2.2.2.2.2.2.2.2.1, p.2.2.2.2.2.2.2.2.2.1, p.2.2.2.2.2.2.2.2.2.2, rfl, h⟩
def zb12 {α0 α1 α2 α3 α4 α5 α6 α7 α8 α9 α10 α11 β : Type} (o : Option (α0 × α1 × α2 × α3 × α4 × α5 × α6 × α7 × α8 × α9 × α10 × α11)) (k : α0 → α1 → α2 → α3 → α4 → α5 → α6 → α7 → α8 → α9 → α10 → α11 → Option β) : Option β := match o with | none => none | some p => k p.1 p.2.1 p.2.2.1 p.2.2.2.1 p.2.2.2.2.1 p.2.2.2.2.2.1 p.2.2.2.2.2.2.1 p.2.2.2.2.2.2.2.1 p.2.2.2.2.2.2.2.2.1 p.2.2.2.2.2.2.2.2.2.1 p.2.2.2.2.2.2.2.2.2.2.1 p.2.2.2.2.2.2.2.2.2.2.2
theorem zb12_elim {α0 α1 α2 α3 α4 α5 α6 α7 α8 α9 α10 α11 β : Type} {o : Option (α0 × α1 × α2 × α3 × α4 × α5 × α6 × α7 × α8 × α9 × α10 × α11)} {k : α0 → α1 → α2 → α3 → α4 → α5 → α6 → α7 → α8 → α9 → α10 → α11 → Option β} {r : β} (h : zb12 o k = some r) : ∃ a0 a1 a2 a3 a4 a5 a6 a7 a8 a9 a10 a11, o = some (a0, a1, a2, a3, a4, a5, a6, a7, a8, a9, a10, a11) ∧ k a0 a1 a2 a3 a4 a5 a6 a7 a8 a9 a10 a11 = some r := by
  cases o with
  | none => cases h
  | some p => exact ⟨p.1, p.2.1, p.2.2.1, p.2.2.2.1, p.2.2.2.2.1, p.2.2.2.2.2.1, p.2.2.2.2.2.2.1, p.2.2.2.2.2.2.2.1, p.2.2.2.2.2.2.2.2.1, p.2.2.2.2.2.2.2.2.2.1, p.2.2.2.2.2.2.2.2.2.2.1, p.2.2.2.2.2.2.2.2.2.2.2, rfl, h⟩
def zl12 {α0 α1 α2 α3 α4 α5 α6 α7 α8 α9 α10 α11 β : Type} (p : α0 × α1 × α2 × α3 × α4 × α5 × α6 × α7 × α8 × α9 × α10 × α11) (k : α0 → α1 → α2 → α3 → α4 → α5 → α6 → α7 → α8 → α9 → α10 → α11 → β) : β := k p.1 p.2.1 p.2.2.1 p.2.2.2.1 p.2.2.2.2.1 p.2.2.2.2.2.1 p.2.2.2.2.2.2.1 p.2.2.2.2.2.2.2.1 p.2.2.2.2.2.2.2.2.1 p.2.2.2.2.2.2.2.2.2.1 p.2.2.2.2.2.2.2.2.2.2.1 p.2.2.2.2.2.2.2.2.2.2.2
theorem zl12_elim {α0 α1 α2 α3 α4 α5 α6 α7 α8 α9 α10 α11 β : Type} {p : α0 × α1 × α2 × α3 × α4 × α5 × α6 × α7 × α8 × α9 × α10 × α11} {k : α0 → α1 → α2 → α3 → α4 → α5 → α6 → α7 → α8 → α9 → α10 → α11 → β} {r : β} (h : zl12 p k = r) : ∃ a0 a1 a2 a3 a4 a5 a6 a7 a8 a9 a10 a11, p = (a0, a1, a2, a3, a4, a5, a6, a7, a8, a9, a10, a11) ∧ k a0 a1 a2 a3 a4 a5 a6 a7 a8 a9 a10 a11 = r := ⟨p.1, p.2.1, p.2.2.1, p.2.2.2.1, p.2.2.2.2.1, p.2.2.2.2.2.1, p.2.2.2.2.2.2.1, p.2.2.2.2.2.2.2.1, p.2.2.2.2.2.2.2.2.1, p.2.2.2.2.2.2.2.2.2.1, p.2.2.2.2.2.2.2.2.2.2.1, p.2.2.2.2.2.2.2.2.2.2.2, rfl, h⟩
def zb13 {α0 α1 α2 α3 α4 α5 α6 α7 α8 α9 α10 α11 α12 β : Type} (o : Option (α0 × α1 × α2 × α3 × α4 × α5 × α6 × α7 × α8 × α9 × α10 × α11 × α12)) (k : α0 → α1 → α2 → α3 → α4 → α5 → α6 → α7 → α8 → α9 → α10 → α11 → α12 → Option β) : Option β := match o with | none => none | some p => k p.1 p.2.1 p.2.2.1 p.2.2.2.1 p.2.2.2.2.1 p.2.2.2.2.2.1 p.2.2.2.2.2.2.1 p.2.2.2.2.2.2.2.1 p.2.2.2.2.2.2.2.2.1 p.2.2.2.2.2.2.2.2.2.1 p.2.2.2.2.2.2.2.2.2.2.1 p.2.2.2.2.2.2.2.2.2.2.2.1 p.2.2.2.2.2.2.2.2.2.2.2.2
theorem zb13_elim {α0 α1 α2 α3 α4 α5 α6 α7 α8 α9 α10 α11 α12 β : Type} {o : Option (α0 × α1 × α2 × α3 × α4 × α5 × α6 × α7 × α8 × α9 × α10 × α11 × α12)} {k : α0 → α1 → α2 → α3 → α4 → α5 → α6 → α7 → α8 → α9 → α10 → α11 → α12 → Option β} {r : β} (h : zb13 o k = some r) : ∃ a0 a1 a2 a3 a4 a5 a6 a7 a8 a9 a10 a11 a12, o = some (a0, a1, a2, a3, a4, a5, a6, a7, a8, a9, a10, a11, a12) ∧ k a0 a1 a2 a3 a4 a5 a6 a7 a8 a9 a10 a11 a12 = some r := by
  cases o with
  | none => cases h
  | some p => exact ⟨p.1, p.2.1, p.2.2.1, p.2.2.2.1, p.2.2.2.2.1, p.2.2.2.2.2.1, p.2.2.2.2.2.2.1, p.2.2.2.2.2.2.2.1, p.2.2.2.2.2.2.2.2.1, p.2.2.2.2.2.2.2.2.2.1, p.2.2.2.2.2.2.2.2.2.2.1, p.2.2.2.2.2.2.2.2.2.2.2.1, p.2.2.2.2.2.2.2.2.2.2.2.2, rfl, h⟩
def zl13 {α0 α1 α2 α3 α4 α5 α6 α7 α8 α9 α10 α11 α12 β : Type} (p : α0 × α1 × α2 × α3 × α4 × α5 × α6 × α7 × α8 × α9 × α10 × α11 × α12) (k : α0 → α1 → α2 → α3 → α4 → α5 → α6 → α7 → α8 → α9 → α10 → α11 → α12 → β) : β := k p.1 p.2.1 p.2.2.1 p.2.2.2.1 p.2.2.2.2.1 p.2.2.2.2.2.1 p.2.2.2.2.2.2.1 p.2.2.2.2.2.2.2.1 p.2.2.2.2.2.2.2.2.1 p.2.2.2.2.2.2.2.2.2.1 p.2.2.2.2.2.2.2.2.2.2.1 p.2.2.2.2.2.2.2.2.2.2.2.1 p.2.2.2.2.2.2.2.2.2.2.2.2
theorem zl13_elim {α0 α1 α2 α3 α4 α5 α6 α7 α8 α9 α10 α11 α12 β : Type} {p : α0 × α1 × α2 × α3 × α4 × α5 × α6 × α7 × α8 × α9 × α10 × α11 × α12} {k : α0 → α1 → α2 → α3 → α4 → α5 → α6 → α7 → α8 → α9 → α10 → α11 → α12 → β} {r : β} (h : zl13 p k = r) : ∃ a0 a1 a2 a3 a4 a5 a6 a7 a8 a9 a10 a11 a12, p = (a0, a1, a2, a3, a4, a5, a6, a7, a8, a9, a10, a11, a12) ∧ k a0 a1 a2 a3 a4 a5 a6 a7 a8 a9 a10 a11 a12 = r := ⟨p.1, p.2.1, p.2.2.1, p.2.2.2.1, p.2.2.2.2.1, p.2.2.2.2.2.1, p.2.2.2.2.2.2.1, p.2.2.2.2.2.2.2.1, p.2.2.2.2.2.2.2.2.1, p.2.2.2.2.2.2.2.2.2.1, p.2.2.2.2.2.2.2.2.2.2.1, p.2.2.2.2.2.2.2.2.2.2.2.1, p.2.2.2.2.2.2.2.2.2.2.2.2, rfl, h⟩
def zb14 {α0 α1 α2 α3 α4 α5 α6 α7 α8 α9 α10 α11 α12 α13 β : Type} (o : Option (α0 × α1 × α2 × α3 × α4 × α5 × α6 × α7 × α8 × α9 × α10 × α11 × α12 × α13)) (k : α0 → α1 → α2 → α3 → α4 → α5 → α6 → α7 → α8 → α9 → α10 → α11 → α12 → α13 → Option β) : Option β := match o with | none => none | some p => k p.1 p.2.1 p.2.2.1 p.2.2.2.1 p.2.2.2.2.1 p.2.2.2.2.2.1 p.2.2.2.2.2.2.1 p.2.2.2.2.2.2.2.1 p.2.2.2.2.2.2.2.2.1 p.2.2.2.2.2.2.2.2.2.1 p.2.2.2.2.2.2.2.2.2.2.1 p.2.2.2.2.2.2.2.2.2.2.2.1 p.2.2.2.2.2.2.2.2.2.2.2.2.1 p.2.2.2.2.2.2.2.2.2.2.2.2.2
theorem zb14_elim {α0 α1 α2 α3 α4 α5 α6 α7 α8 α9 α10 α11 α12 α13 β : Type} {o : Option (α0 × α1 × α2 × α3 × α4 × α5 × α6 × α7 × α8 × α9 × α10 × α11 × α12 × α13)} {k : α0 → α1 → α2 → α3 → α4 → α5 → α6 → α7 → α8 → α9 → α10 → α11 → α12 → α13 → Option β} {r : β} (h : zb14 o k = some r) : ∃ a0 a1 a2 a3 a4 a5 a6 a7 a8 a9 a10 a11 a12 a13, o = some (a0, a1, a2, a3, a4, a5, a6, a7, a8, a9, a10, a11, a12, a13) ∧ k a0 a1 a2 a3 a4 a5 a6 a7 a8 a9 a10 a11 a12 a13 = some r := by
  cases o with
  | none => cases h
  | some p => exact ⟨p.1, p.2.1, p.2.2.1, p.2.2.2.1, p.2.2.2.2.1, p.2.2.2.2.2.1, p.2.2.2.2.2.2.1, p.2.2.2.2.2.2.2.1, p.2.2.2.2.2.2.2.2.1, p.2.2.2.2.2.2.2.2.2.1, p.2.2.2.2.2.2.2.2.2.2.1, p.2.2.2.2.2.2.2.2.2.2.2.1, p.2.2.2.2.2.2.2.2.2.2.2.2.1, p.2.2.2.2.2.2.2.2.2.2.2.2.2, rfl, h⟩
def zl14 {α0 α1 α2 α3 α4 α5 α6 α7 α8 α9 α10 α11 α12 α13 β : Type} (p : α0 × α1 × α2 × α3 × α4 × α5 × α6 × α7 × α8 × α9 × α10 × α11 × α12 × α13) (k : α0 → α1 → α2 → α3 → α4 → α5 → α6 → α7 → α8 → α9 → α10 → α11 → α12 → α13 → β) : β := k p.1 p.2.1 p.2.2.1 p.2.2.2.1 p.2.2.2.2.1 p.2.2.2.2.2.1 p.2.2.2.2.2.2.1 p.2.2.2.2.2.2.2.1 p.2.2.2.2.2.2.2.2.1 p.2.2.2.2.2.2.2.2.2.1 p.2.2.2.2.2.2.2.2.2.2.1 p.2.2.2.2.2.2.2.2.2.2.2.1 p.2.2.2.2.2.2.2.2.2.2.2.2.1 p.2.2.2.2.2.2.2.2.2.2.2.2.2
theorem zl14_elim {α0 α1 α2 α3 α4 α5 α6 α7 α8 α9 α10 α11 α12 α13 β : Type} {p : α0 × α1 × α2 × α3 × α4 × α5 × α6 × α7 × α8 × α9 × α10 × α11 × α12 × α13} {k : α0 → α1 → α2 → α3 → α4 → α5 → α6 → α7 → α8 → α9 → α10 → α11 → α12 → α13 → β} {r : β} (h : zl14 p k = r) : ∃ a0 a1 a2 a3 a4 a5 a6 a7 a8 a9 a10 a11 a12 a13, p = (a0, a1, a2, a3, a4, a5, a6, a7, a8, a9, a10, a11, a12, a13) ∧ k a0 a1 a2 a3 a4 a5 a6 a7 a8 a9 a10 a11 a12 a13 = r := ⟨p.1, p.2.1, p.2.2.1, p.2.2.2.1, p.2.2.2.2.1, p.2.2.2.2.2.1, p.2.2.2.2.2.2.1, p.2.2.2.2.2.2.2.1, p.2.2.2.2.2.2.2.2.1, p.2.2.2.2.2.2.2.2.2.1, p.2.2.2.2.2.2.2.2.2.2.1, p.2.2.2.2.2.2.2.2.2.2.2.1, p.2.2.2.2.2.2.2.2.2.2.2.2.1, p.2.2.2.2.2.2.2.2.2.2.2.2.2, rfl, h⟩
def zb15 {α0 α1 α2 α3 α4 α5 α6 α7 α8 α9 α10 α11 α12 α13 α14 β : Type} (o : Option (α0 × α1 × α2 × α3 × α4 × α5 × α6 × α7 × α8 × α9 × α10 × α11 × α12 × α13 × α14)) (k : α0 → α1 → α2 → α3 → α4 → α5 → α6 → α7 → α8 → α9 → α10 → α11 → α12 → α13 → α14 → Option β) : Option β := match o with | none => none | some p => k p.1 p.2.1 p.2.2.1 p.2.2.2.1 p.2.2.2.2.1 p.2.2.2.2.2.1 p.2.2.2.2.2.2.1 p.2.2.2.2.2.2.2.1 p.2.2.2.2.2.2.2.2.1 p.2.2.2.2.2.2.2.2.2.1 p.2.2.2.2.2.2.2.2.2.2.1 p.2.2.2.2.2.2.2.2.2.2.2.1 p.2.2.2.2.2.2.2.2.2.2.2.2.1 p.2.2.2.2.2.2.2.2.2.2.2.2.2.1 p.2.2.2.2.2.2.2.2.2.2.2.2.2.2
theorem zb15_elim {α0 α1 α2 α3 α4 α5 α6 α7 α8 α9 α10 α11 α12 α13 α14 β : Type} {o : Option (α0 × α1 × α2 × α3 × α4 × α5 × α6 × α7 × α8 × α9 × α10 × α11 × α12 × α13 × α14)} {k : α0 → α1 → α2 → α3 → α4 → α5 → α6 → α7 → α8 → α9 → α10 → α11 → α12 → α13 → α14 → Option β} {r : β} (h : zb15 o k = some r) : ∃ a0 a1 a2 a3 a4 a5 a6 a7 a8 a9 a10 a11 a12 a13 a14, o = some (a0, a1, a2, a3, a4, a5, a6, a7, a8, a9, a10, a11, a12, a13, a14) ∧ k a0 a1 a2 a3 a4 a5 a6 a7 a8 a9 a10 a11 a12 a13 a14 = some r := by
  cases o with
  | none => cases h
  | some p => exact ⟨p.1, p.2.1, p.2.2.1, p.2.2.2.1, p.2.2.2.2.1, p.2.2.2.2.2.1, p.2.2.2.2.2.2.1, p.2.2.2.2.2.2.2.1, p.2.2.2.2.2.2.2.2.1, p.2.2.2.2.2.2.2.2.2.1, p.2.2.2.2.2.2.2.2.2.2.1, p.2.2.2.2.2.2.2.2.2.2.2.1, p.2.2.2.2.2.2.2.2.2.2.2.2.1, p.2.2.2.2.2.2.2.2.2.2.2.2.2.1, p.2.2.2.2.2.2.2.2.2.2.2.2.2.2, rfl, h⟩
def zl15 {α0 α1 α2 α3 α4 α5 α6 α7 α8 α9 α10 α11 α12 α13 α14 β : Type} (p : α0 × α1 × α2 × α3 × α4 × α5 × α6 × α7 × α8 × α9 × α10 × α11 × α12 × α13 × α14) (k : α0 → α1 → α2 → α3 → α4 → α5 → α6 → α7 → α8 → α9 → α10 → α11 → α12 → α13 → α14 → β) : β := k p.1 p.2.1 p.2.2.1 p.2.2.2.1 p.2.2.2.2.1 p.2.2.2.2.2.1 p.2.2.2.2.2.2.1 p.2.2.2.2.2.2.2.1 p.2.2.2.2.2.2.2.2.1 p.2.2.2.2.2.2.2.2.2.1 p.2.2.2.2.2.2.2.2.2.2.1 p.2.2.2.2.2.2.2.2.2.2.2.1 p.2.2.2.2.2.2.2.2.2.2.2.2.1 p.2.2.2.2.2.2.2.2.2.2.2.2.2.1 p.2.2.2.2.2.2.2.2.2.2.2.2.2.2
theorem zl15_elim {α0 α1 α2 α3 α4 α5 α6 α7 α8 α9 α10 α11 α12 α13 α14 β : Type} {p : α0 × α1 × α2 × α3 × α4 × α5 × α6 × α7 × α8 × α9 × α10 × α11 × α12 × α13 × α14} {k : α0 → α1 → α2 → α3 → α4 → α5 → α6 → α7 → α8 → α9 → α10 → α11 → α12 → α13 → α14 → β} {r : β} (h : zl15 p k = r) : ∃ a0 a1 a2 a3 a4 a5 a6 a7 a8 a9 a10 a11 a12 a13 a14, p = (a0, a1, a2, a3, a4, a5, a6, a7, a8, a9, a10, a11, a12, a13, a14) ∧ k a0 a1 a2 a3 a4 a5 a6 a7 a8 a9 a10 a11 a12 a13 a14 = r := ⟨p.1, p.2.1, p.2.2.1, p.2.2.2.1, p.2.2.2.2.1, p.2.2.2.2.2.1, p.2.2.2.2.2.2.1, p.2.2.2.2.2.2.2.1, p.2.2.2.2.2.2.2.2.1, p.2.2.2.2.2.2.2.2.2.1, p.2.2.2.2.2.2.2.2.2.2.1, p.2.2.2.2.2.2.2.2.2.2.2.1, p.2.2.2.2.2.2.2.2.2.2.2.2.1, p.2.2.2.2.2.2.2.2.2.2.2.2.2.1, p.2.2.2.2.2.2.2.2.2.2.2.2.2.2, rfl, h⟩
def zb16 {α0 α1 α2 α3 α4 α5 α6 α7 α8 α9 α10 α11 α12 α13 α14 α15 β : Type} (o : Option (α0 × α1 × α2 × α3 × α4 × α5 × α6 × α7 × α8 × α9 × α10 × α11 × α12 × α13 × α14 × α15)) (k : α0 → α1 → α2 → α3 → α4 → α5 → α6 → α7 → α8 → α9 → α10 → α11 → α12 → α13 → α14 → α15 → Option β) : Option β := match o with | none => none | some p => k p.1 p.2.1 p.2.2.1 p.2.2.2.1 p.2.2.2.2.1 p.2.2.2.2.2.1 p.2.2.2.2.2.2.1 p.2.2.2.2.2.2.2.1 p.2.2.2.2.2.2.2.2.1 p.2.2.2.2.2.2.2.2.2.1 p.2.2.2.2.2.2.2.2.2.2.1 p.2.2.2.2.2.2.2.2.2.2.2.1 p.2.2.2.2.2.2.2.2.2.2.2.2.1 p.2.2.2.2.2.2.2.2.2.2.2.2.2.1 p.2.2.2.2.2.2.2.2.2.2.2.2.2.2.1 p.2.2.2.2.2.2.2.2.2.2.2.2.2.2.2
theorem zb16_elim {α0 α1 α2 α3 α4 α5 α6 α7 α8 α9 α10 α11 α12 α13 α14 α15 β : Type} {o : Option (α0 × α1 × α2 × α3 × α4 × α5 × α6 × α7 × α8 × α9 × α10 × α11 × α12 × α13 × α14 × α15)} {k : α0 → α1 → α2 → α3 → α4 → α5 → α6 → α7 → α8 → α9 → α10 → α11 → α12 → α13 → α14 → α15 → Option β} {r : β} (h : zb16 o k = some r) : ∃ a0 a1 a2 a3 a4 a5 a6 a7 a8 a9 a10 a11 a12 a13 a14 a15, o = some (a0, a1, a2, a3, a4, a5, a6, a7, a8, a9, a10, a11, a12, a13, a14, a15) ∧ k a0 a1 a2 a3 a4 a5 a6 a7 a8 a9 a10 a11 a12 a13 a14 a15 = some r := by
  cases o with
  | none => cases h
  | some p => exact ⟨p.1, p.2.1, p.2.2.1, p.2.2.2.1, p.2.2.2.2.1, p.2.2.2.2.2.1, p.2.2.2.2.2.2.1, p.2.2.2.2.2.2.2.1, p.2.2.2.2.2.2.2.2.1, p.2.2.2.2.2.2.2.2.2.1, p.2.2.2.2.2.2.2.2.2.2.1, p.2.2.2.2.2.2.2.2.2.2.2.1, p.2.2.2.2.2.2.2.2.2.2.2.2.1, p.2.2.2.2.2.2.2.2.2.2.2.2.2.1, p.2.2.2.2.2.2.2.2.2.2.2.2.2.2.1, p.2.2.2.2.2.2.2.2.2.2.2.2.2.2.2, rfl, h⟩
def zl16 {α0 α1 α2 α3 α4 α5 α6 α7 α8 α9 α10 α11 α12 α13 α14 α15 β : Type} (p : α0 × α1 × α2 × α3 × α4 × α5 × α6 × α7 × α8 × α9 × α10 × α11 × α12 × α13 × α14 × α15) (k : α0 → α1 → α2 → α3 → α4 → α5 → α6 → α7 → α8 → α9 → α10 → α11 → α12 → α13 → α14 → α15 → β) : β := k p.1 p.2.1 p.2.2.1 p.2.2.2.1 p.2.2.2.2.1 p.2.2.2.2.2.1 p.2.2.2.2.2.2.1 p.2.2.2.2.2.2.2.1 p.2.2.2.2.2.2.2.2.1 p.2.2.2.2.2.2.2.2.2.1 p.2.2.2.2.2.2.2.2.2.2.1 p.2.2.2.2.2.2.2.2.2.2.2.1 p.2.2.2.2.2.2.2.2.2.2.2.2.1 p.2.2.2.2.2.2.2.2.2.2.2.2.2.1 p.2.2.2.2.2.2.2.2.2.2.2.2.2.2.1 p.2.2.2.2.2.2.2.2.2.2.2.2.2.2.2
theorem zl16_elim {α0 α1 α2 α3 α4 α5 α6 α7 α8 α9 α10 α11 α12 α13 α14 α15 β : Type} {p : α0 × α1 × α2 × α3 × α4 × α5 × α6 × α7 × α8 × α9 × α10 × α11 × α12 × α13 × α14 × α15} {k : α0 → α1 → α2 → α3 → α4 → α5 → α6 → α7 → α8 → α9 → α10 → α11 → α12 → α13 → α14 → α15 → β} {r : β} (h : zl16 p k = r) : ∃ a0 a1 a2 a3 a4 a5 a6 a7 a8 a9 a10 a11 a12 a13 a14 a15, p = (a0, a1, a2, a3, a4, a5, a6, a7, a8, a9, a10, a11, a12, a13, a14, a15) ∧ k a0 a1 a2 a3 a4 a5 a6 a7 a8 a9 a10 a11 a12 a13 a14 a15 = r := ⟨p.1, p.2.1, p.2.2.1, p.2.2.2.1, p.2.2.2.2.1, p.2.2.2.2.2.1, p.2.2.2.2.2.2.1, p.2.2.2.2.2.2.2.1, p.2.2.2.2.2.2.2.2.1, p.2.2.2.2.2.2.2.2.2.1, p.2.2.2.2.2.2.2.2.2.2.1, p.2.2.2.2.2.2.2.2.2.2.2.1, p.2.2.2.2.2.2.2.2.2.2.2.2.1, p.2.2.2.2.2.2.2.2.2.2.2.2.2.1, p.2.2.2.2.2.2.2.2.2.2.2.2.2.2.1, p.2.2.2.2.2.2.2.2.2.2.2.2.2.2.2, rfl, h⟩
def zb17 {α0 α1 α2 α3 α4 α5 α6 α7 α8 α9 α10 α11 α12 α13 α14 α15 α16 β : Type} (o : Option (α0 × α1 × α2 × α3 × α4 × α5 × α6 × α7 × α8 × α9 × α10 × α11 × α12 × α13 × α14 × α15 × α16)) (k : α0 → α1 → α2 → α3 → α4 → α5 → α6 → α7 → α8 → α9 → α10 → α11 → α12 → α13 → α14 → α15 → α16 → Option β) : Option β := match o with | none => none | some p => k p.1 p.2.1 p.2.2.1 p.2.2.2.1 p.2.2.2.2.1 p.2.2.2.2.2.1 p.2.2.2.2.2.2.1 p.2.2.2.2.2.2.2.1 p.2.2.2.2.2.2.2.2.1 p.2.2.2.2.2.2.2.2.2.1 p.2.2.2.2.2.2.2.2.2.2.1 p.2.2.2.2.2.2.2.2.2.2.2.1 p.2.2.2.2.2.2.2.2.2.2.2.2.1 p.2.2.2.2.2.2.2.2.2.2.2.2.2.1 p.2.2.2.2.2.2.2.2.2.2.2.2.2.2.1 p.2.2.2.2.2.2.2.2.2.2.2.2.2.2.2.1 p.2.2.2.2.2.2.2.2.2.2.2.2.2.2.2.2
theorem zb17_elim {α0 α1 α2 α3 α4 α5 α6 α7 α8 α9 α10 α11 α12 α13 α14 α15 α16 β : Type} {o : Option (α0 × α1 × α2 × α3 × α4 × α5 × α6 × α7 × α8 × α9 × α10 × α11 × α12 × α13 × α14 × α15 × α16)} {k : α0 → α1 → α2 → α3 → α4 → α5 → α6 → α7 → α8 → α9 → α10 → α11 → α12 → α13 → α14 → α15 → α16 → Option β} {r : β} (h : zb17 o k = some r) : ∃ a0 a1 a2 a3 a4 a5 a6 a7 a8 a9 a10 a11 a12 a13 a14 a15 a16, o = some (a0, a1, a2, a3, a4, a5, a6, a7, a8, a9, a10, a11, a12, a13, a14, a15, a16) ∧ k a0 a1 a2 a3 a4 a5 a6 a7 a8 a9 a10 a11 a12 a13 a14 a15 a16 = some r := by
  cases o with
  | none => cases h
  | some p => exact ⟨p.1, p.2.1, p.2.2.1, p.2.2.2.1, p.2.2.2.2.1, p.2.2.2.2.2.1, p.2.2.2.2.2.2.1, p.2.2.2.2.2.2.2.1, p.2.2.2.2.2.2.2.2.1, p.2.2.2.2.2.2.2.2.2.1, p.2.2.2.2.2.2.2.2.2.2.1, p.2.2.2.2.2.2.2.2.2.2.2.1, p.2.2.2.2.2.2.2.2.2.2.2.2.1, p.2.2.2.2.2.2.2.2.2.2.2.2.2.1, p.2.2.2.2.2.2.2.2.2.2.2.2.2.2.1, p.2.2.2.2.2.2.2.2.2.2.2.2.2.2.2.1, p.2.2.2.2.2.2.2.2.2.2.2.2.2.2.2.2, rfl, h⟩
def zl17 {α0 α1 α2 α3 α4 α5 α6 α7 α8 α9 α10 α11 α12 α13 α14 α15 α16 β : Type} (p : α0 × α1 × α2 × α3 × α4 × α5 × α6 × α7 × α8 × α9 × α10 × α11 × α12 × α13 × α14 × α15 × α16) (k : α0 → α1 → α2 → α3 → α4 → α5 → α6 → α7 → α8 → α9 → α10 → α11 → α12 → α13 → α14 → α15 → α16 → β) : β := k p.1 p.2.1 p.2.2.1 p.2.2.2.1 p.2.2.2.2.1 p.2.2.2.2.2.1 p.2.2.2.2.2.2.1 p.2.2.2.2.2.2.2.1 p.2.2.2.2.2.2.2.2.1 p.2.2.2.2.2.2.2.2.2.1 p.2.2.2.2.2.2.2.2.2.2.1 p.2.2.2.2.2.2.2.2.2.2.2.1 p.2.2.2.2.2.2.2.2.2.2.2.2.1 p.2.2.2.2.2.2.2.2.2.2.2.2.2.1 p.2.2.2.2.2.2.2.2.2.2.2.2.2.2.1 p.2.2.2.2.2.2.2.2.2.2.2.2.2.2.2.1 p.2.2.2.2.2.2.2.2.2.2.2.2.2.2.2.2
theorem zl17_elim {α0 α1 α2 α3 α4 α5 α6 α7 α8 α9 α10 α11 α12 α13 α14 α15 α16 β : Type} {p : α0 × α1 × α2 × α3 × α4 × α5 × α6 × α7 × α8 × α9 × α10 × α11 × α12 × α13 × α14 × α15 × α16} {k : α0 → α1 → α2 → α3 → α4 → α5 → α6 → α7 → α8 → α9 → α10 → α11 → α12 → α13 → α14 → α15 → α16 → β} {r : β} (h : zl17 p k = r) : ∃ a0 a1 a2 a3 a4 a5 a6 a7 a8 a9 a10 a11 a12 a13 a14 a15 a16, p = (a0, a1, a2, a3, a4, a5, a6, a7, a8, a9, a10, a11, a12, a13, a14, a15, a16) ∧ k a0 a1 a2 a3 a4 a5 a6 a7 a8 a9 a10 a11 a12 a13 a14 a15 a16 = r := ⟨p.1, p.2.1, p.2.2.1, p.2.2.2.1, p.2.2.2.2.1, p.2.2.2.2.2.1, p.2.2.2.2.2.2.1, p.2.2.2.2.2.2.2.1, p.2.2.2.2.2.2.2.2.1, p.2.2.2.2.2.2.2.2.2.1, p.2.2.2.2.2.2.2.2.2.2.1, p.2.2.2.2.2.2.2.2.2.2.2.1, p.2.2.2.2.2.2.2.2.2.2.2.2.1, p.2.2.2.2.2.2.2.2.2.2.2.2.2.1, p.2.2.2.2.2.2.2.2.2.2.2.2.2.2.1, p.2.2.2.2.2.2.2.2.2.2.2.2.2.2.2.1, p.2.2.2.2.2.2.2.2.2.2.2.2.2.2.2.2, rfl, h⟩
def zb18 {α0 α1 α2 α3 α4 α5 α6 α7 α8 α9 α10 α11 α12 α13 α14 α15 α16 α17 β : Type} (o : Option (α0 × α1 × α2 × α3 × α4 × α5 × α6 × α7 × α8 × α9 × α10 × α11 × α12 × α13 × α14 × α15 × α16 × α17)) (k : α0 → α1 → α2 → α3 → α4 → α5 → α6 → α7 → α8 → α9 → α10 → α11 → α12 → α13 → α14 → α15 → α16 → α17 → Option β) : Option β := match o with | none => none | some p => k p.1 p.2.1 p.2.2.1 p.2.2.2.1 p.2.2.2.2.1 p.2.2.2.2.2.1 p.2.2.2.2.2.2.1 p.2.2.2.2.2.2.2.1 p.2.2.2.2.2.2.2.2.1 p.2.2.2.2.2.2.2.2.2.1 p.2.2.2.2.2.2.2.2.2.2.1 p.2.2.2.2.2.2.2.2.2.2.2.1 p.2.2.2.2.2.2.2.2.2.2.2.2.1 p.2.2.2.2.2.2.2.2.2.2.2.2.2.1 p.2.2.2.2.2.2.2.2.2.2.2.2.2.2.1 p.2.2.2.2.2.2.2.2.2.2.2.2.2.2.2.1 p.2.2.2.2.2.2.2.2.2.2.2.2.2.2.2.2.1 p.2.2.2.2.2.2.2.2.2.2.2.2.2.2.2.2.2
theorem zb18_elim {α0 α1 α2 α3 α4 α5 α6 α7 α8 α9 α10 α11 α12 α13 α14 α15 α16 α17 β : Type} {o : Option (α0 × α1 × α2 × α3 × α4 × α5 × α6 × α7 × α8 × α9 × α10 × α11 × α12 × α13 × α14 × α15 × α16 × α17)} {k : α0 → α1 → α2 → α3 → α4 → α5 → α6 → α7 → α8 → α9 → α10 → α11 → α12 → α13 → α14 → α15 → α16 → α17 → Option β} {r : β} (h : zb18 o k = some r) : ∃ a0 a1 a2 a3 a4 a5 a6 a7 a8 a9 a10 a11 a12 a13 a14 a15 a16 a17, o = some (a0, a1, a2, a3, a4, a5, a6, a7, a8, a9, a10, a11, a12, a13, a14, a15, a16, a17) ∧ k a0 a1 a2 a3 a4 a5 a6 a7 a8 a9 a10 a11 a12 a13 a14 a15 a16 a17 = some r := by
  cases o with
  | none => cases h
  | some p => exact ⟨p.1, p.2.1, p.2.2.1, p.2.2.2.1, p.2.2.2.2.1, p.2.2.2.2.2.1, p.2.2.2.2.2.2.1, p.2.2.2.2.2.2.2.1, p.2.2.2.2.2.2.2.2.1, p.2.2.2.2.2.2.2.2.2.1, p.2.2.2.2.2.2.2.2.2.2.1, p.2.2.2.2.2.2.2.2.2.2.2.1, p.2.2.2.2.2.2.2.2.2.2.2.2.1, p.2.2.2.2.2.2.2.2.2.2.2.2.2.1, p.2.2.2.2.2.2.2.2.2.2.2.2.2.2.1, p.2.2.2.2.2.2.2.2.2.2.2.2.2.2.2.1, p.2.2.2.2.2.2.2.2.2.2.2.2.2.2.2.2.1, p.2.2.2.2.2.2.2.2.2.2.2.2.2.2.2.2.2, rfl, h⟩
def zl18 {α0 α1 α2 α3 α4 α5 α6 α7 α8 α9 α10 α11 α12 α13 α14 α15 α16 α17 β : Type} (p : α0 × α1 × α2 × α3 × α4 × α5 × α6 × α7 × α8 × α9 × α10 × α11 × α12 × α13 × α14 × α15 × α16 × α17) (k : α0 → α1 → α2 → α3 → α4 → α5 → α6 → α7 → α8 → α9 → α10 → α11 → α12 → α13 → α14 → α15 → α16 → α17 → β) : β := k p.1 p.2.1 p.2.2.1 p.2.2.2.1 p.2.2.2.2.1 p.2.2.2.2.2.1 p.2.2.2.2.2.2.1 p.2.2.2.2.2.2.2.1 p.2.2.2.2.2.2.2.2.1 p.2.2.2.2.2.2.2.2.2.1 p.2.2.2.2.2.2.2.2.2.2.1 p.2.2.2.2.2.2.2.2.2.2.2.1 p.2.2.2.2.2.2.2.2.2.2.2.2.1 p.2.2.2.2.2.2.2.2.2.2.2.2.2.1 p.2.2.2.2.2.2.2.2.2.2.2.2.2.2.1 p.2.2.2.2.2.2.2.2.2.2.2.2.2.2.2.1 p.2.2.2.2.2.2.2.2.2.2.2.2.2.2.2.2.1 p.2.2.2.2.2.2.2.2.2.2.2.2.2.2.2.2.2
theorem zl18_elim {α0 α1 α2 α3 α4 α5 α6 α7 α8 α9 α10 α11 α12 α13 α14 α15 α16 α17 β : Type} {p : α0 × α1 × α2 × α3 × α4 × α5 × α6 × α7 × α8 × α9 × α10 × α11 × α12 × α13 × α14 × α15 × α16 × α17} {k : α0 → α1 → α2 → α3 → α4 → α5 → α6 → α7 → α8 → α9 → α10 → α11 → α12 → α13 → α14 → α15 → α16 → α17 → β} {r : β} (h : zl18 p k = r) : ∃ a0 a1 a2 a3 a4 a5 a6 a7 a8 a9 a10 a11 a12 a13 a14 a15 a16 a17, p = (a0, a1, a2, a3, a4, a5, a6, a7, a8, a9, a10, a11, a12, a13, a14, a15, a16, a17) ∧ k a0 a1 a2 a3 a4 a5 a6 a7 a8 a9 a10 a11 a12 a13 a14 a15 a16 a17 = r := ⟨p.1, p.2.1, p.2.2.1, p.2.2.2.1, p.2.2.2.2.1, p.2.2.2.2.2.1, p.2.2.2.2.2.2.1, p.2.2.2.2.2.2.2.1, p.2.2.2.2.2.2.2.2.1, p.2.2.2.2.2.2.2.2.2.1, p.2.2.2.2.2.2.2.2.2.2.1, p.2.2.2.2.2.2.2.2.2.2.2.1, p.2.2.2.2.2.2.2.2.2.2.2.2.1, p.2.2.2.2.2.2.2.2.2.2.2.2.2.1, p.2.2.2.2.2.2.2.2.2.2.2.2.2.2.1, p.2.2.2.2.2.2.2.2.2.2.2.2.2.2.2.1, p.2.2.2.2.2.2.2.2.2.2.2.2.2.2.2.2.1, p.2.2.2.2.2.2.2.2.2.2.2.2.2.2.2.2.2, rfl, h⟩
def zb19 {α0 α1 α2 α3 α4 α5 α6 α7 α8 α9 α10 α11 α12 α13 α14 α15 α16 α17 α18 β : Type} (o : Option (α0 × α1 × α2 × α3 × α4 × α5 × α6 × α7 × α8 × α9 × α10 × α11 × α12 × α13 × α14 × α15 × α16 × α17 × α18)) (k : α0 → α1 → α2 → α3 → α4 → α5 → α6 → α7 → α8 → α9 → α10 → α11 → α12 → α13 → α14 → α15 → α16 → α17 → α18 → Option β) : Option β := match o with | none => none | some p => k p.1 p.2.1 p.2.2.1 p.2.2.2.1 p.2.2.2.2.1 p.2.2.2.2.2.1 p.2.2.2.2.2.2.1 p.2.2.2.2.2.2.2.1 p.2.2.2.2.2.2.2.2.1 p.2.2.2.2.2.2.2.2.2.1 p.2.2.2.2.2.2.2.2.2.2.1 p.2.2.2.2.2.2.2.2.2.2.2.1 p.2.2.2.2.2.2.2.2.2.2.2.2.1 p.2.2.2.2.2.2.2.2.2.2.2.2.2.1 p.2.2.2.2.2.2.2.2.2.2.2.2.2.2.1 p.2.2.2.2.2.2.2.2.2.2.2.2.2.2.2.1 p.2.2.2.2.2.2.2.2.2.2.2.2.2.2.2.2.1 p.2.2.2.2.2.2.2.2.2.2.2.2.2.2.2.2.2.1 p.2.2.2.2.2.2.2.2.2.2.2.2.2.2.2.2.2.2
theorem zb19_elim {α0 α1 α2 α3 α4 α5 α6 α7 α8 α9 α10 α11 α12 α13 α14 α15 α16 α17 α18 β : Type} {o : Option (α0 × α1 × α2 × α3 × α4 × α5 × α6 × α7 × α8 × α9 × α10 × α11 × α12 × α13 × α14 × α15 × α16 × α17 × α18)} {k : α0 → α1 → α2 → α3 → α4 → α5 → α6 → α7 → α8 → α9 → α10 → α11 → α12 → α13 → α14 → α15 → α16 → α17 → α18 → Option β} {r : β} (h : zb19 o k = some r) : ∃ a0 a1 a2 a3 a4 a5 a6 a7 a8 a9 a10 a11 a12 a13 a14 a15 a16 a17 a18, o = some (a0, a1, a2, a3, a4, a5, a6, a7, a8, a9, a10, a11, a12, a13, a14, a15, a16, a17, a18) ∧ k a0 a1 a2 a3 a4 a5 a6 a7 a8 a9 a10 a11 a12 a13 a14 a15 a16 a17 a18 = some r := by
  cases o with
  | none => cases h
  | some p => exact ⟨p.1, p.2.1, p.2.2.1, p.2.2.2.1, p.2.2.2.2.1, p.2.2.2.2.2.1, p.2.2.2.2.2.2.1, p.2.2.2.2.2.2.2.1, p.2.2.2.2.2.2.2.2.1, p.2.2.2.2.2.2.2.2.2.1, p.2.2.2.2.2.2.2.2.2.2.1, p.2.2.2.2.2.2.2.2.2.2.2.1, p.2.2.2.2.2.2.2.2.2.2.2.2.1, p.2.2.2.2.2.2.2.2.2.2.2.2.2.1, p.2.2.2.2.2.2.2.2.2.2.2.2.2.2.1, p.2.2.2.2.2.2.2.2.2.2.2.2.2.2.2.1, p.2.2.2.2.2.2.2.2.2.2.2.2.2.2.2.2.1, p.2.2.2.2.2.2.2.2.2.2.2.2.2.2.2.2.2.1, p.2.2.2.2.2.2.2.2.2.2.2.2.2.2.2.2.2.2, rfl, h⟩
def zl19 {α0 α1 α2 α3 α4 α5 α6 α7 α8 α9 α10 α11 α12 α13 α14 α15 α16 α17 α18 β : Type} (p : α0 × α1 × α2 × α3 × α4 × α5 × α6 × α7 × α8 × α9 × α10 × α11 × α12 × α13 × α14 × α15 × α16 × α17 × α18) (k : α0 → α1 → α2 → α3 → α4 → α5 → α6 → α7 → α8 → α9 → α10 → α11 → α12 → α13 → α14 → α15 → α16 → α17 → α18 → β) : β := k p.1 p.2.1 p.2.2.1 p.2.2.2.1 p.2.2.2.2.1 p.2.2.2.2.2.1 p.2.2.2.2.2.2.1 p.2.2.2.2.2.2.2.1 p.2.2.2.2.2.2.2.2.1 p.2.2.2.2.2.2.2.2.2.1 p.2.2.2.2.2.2.2.2.2.2.1 p.2.2.2.2.2.2.2.2.2.2.2.1 p.2.2.2.2.2.2.2.2.2.2.2.2.1 p.2.2.2.2.2.2.2.2.2.2.2.2.2.1 p.2.2.2.2.2.2.2.2.2.2.2.2.2.2.1 p.2.2.2.2.2.2.2.2.2.2.2.2.2.2.2.1 p.2.2.2.2.2.2.2.2.2.2.2.2.2.2.2.2.1 p.2.2.2.2.2.2.2.2.2.2.2.2.2.2.2.2.2.1 p.2.2.2.2.2.2.2.2.2.2.2.2.2.2.2.2.2.2
theorem zl19_elim {α0 α1 α2 α3 α4 α5 α6 α7 α8 α9 α10 α11 α12 α13 α14 α15 α16 α17 α18 β : Type} {p : α0 × α1 × α2 × α3 × α4 × α5 × α6 × α7 × α8 × α9 × α10 × α11 × α12 × α13 × α14 × α15 × α16 × α17 × α18} {k : α0 → α1 → α2 → α3 → α4 → α5 → α6 → α7 → α8 → α9 → α10 → α11 → α12 → α13 → α14 → α15 → α16 → α17 → α18 → β} {r : β} (h : zl19 p k = r) : ∃ a0 a1 a2 a3 a4 a5 a6 a7 a8 a9 a10 a11 a12 a13 a14 a15 a16 a17 a18, p = (a0, a1, a2, a3, a4, a5, a6, a7, a8, a9, a10, a11, a12, a13, a14, a15, a16, a17, a18) ∧ k a0 a1 a2 a3 a4 a5 a6 a7 a8 a9 a10 a11 a12 a13 a14 a15 a16 a17 a18 = r := ⟨p.1, p.2.1, p.2.2.1, p.2.2.2.1, p.2.2.2.2.1, p.2.2.2.2.2.1, p.2.2.2.2.2.2.1, p.2.2.2.2.2.2.2.1, p.2.2.2.2.2.2.2.2.1, p.2.2.2.2.2.2.2.2.2.1, p.2.2.2.2.2.2.2.2.2.2.1, p.2.2.2.2.2.2.2.2.2.2.2.1, p.2.2.2.2.2.2.2.2.2.2.2.2.1, p.2.2.2.2.2.2.2.2.2.2.2.2.2.1, p.2.2.2.2.2.2.2.2.2.2.2.2.2.2.1, p.2.2.2.2.2.2.2.2.2.2.2.2.2.2.2.1, p.2.2.2.2.2.2.2.2.2.2.2.2.2.2.2.2.1, p.2.2.2.2.2.2.2.2.2.2.2.2.2.2.2.2.2.1, p.2.2.2.2.2.2.2.2.2.2.2.2.2.2.2.2.2.2, rfl, h⟩
def zb20 {α0 α1 α2 α3 α4 α5 α6 α7 α8 α9 α10 α11 α12 α13 α14 α15 α16 α17 α18 α19 β : Type} (o : Option (α0 × α1 × α2 × α3 × α4 × α5 × α6 × α7 × α8 × α9 × α10 × α11 × α12 × α13 × α14 × α15 × α16 × α17 × α18 × α19)) (k : α0 → α1 → α2 → α3 → α4 → α5 → α6 → α7 → α8 → α9 → α10 → α11 → α12 → α13 → α14 → α15 → α16 → α17 → α18 → α19 → Option β) : Option β := match o with | none => none | some p => k p.1 p.2.1 p.2.2.1 p.2.2.2.1 p.2.2.2.2.1 p.2.2.2.2.2.1 p.2.2.2.2.2.2.1 p.2.2.2.2.2.2.2.1 p.2.2.2.2.2.2.2.2.1 p.2.2.2.2.2.2.2.2.2.1 p.2.2.2.2.2.2.2.2.2.2.1 p.2.2.2.2.2.2.2.2.2.2.2.1 p.2.2.2.2.2.2.2.2.2.2.2.2.1 p.2.2.2.2.2.2.2.2.2.2.2.2.2.1 p.2.2.2.2.2.2.2.2.2.2.2.2.2.2.1 p.2.2.2.2.2.2.2.2.2.2.2.2.2.2.2.1 p.2.2.2.2.2.2.2.2.2.2.2.2.2.2.2.2.1 p.2.2.2.2.2.2.2.2.2.2.2.2.2.2.2.2.2.1 p.2.2.2.2.2.2.2.2.2.2.2.2.2.2.2.2.2.2.1 p.2.2.2.2.2.2.2.2.2.2.2.2.2.2.2.2.2.2.2
theorem zb20_elim {α0 α1 α2 α3 α4 α5 α6 α7 α8 α9 α10 α11 α12 α13 α14 α15 α16 α17 α18 α19 β : Type} {o : Option (α0 × α1 × α2 × α3 × α4 × α5 × α6 × α7 × α8 × α9 × α10 × α11 × α12 × α13 × α14 × α15 × α16 × α17 × α18 × α19)} {k : α0 → α1 → α2 → α3 → α4 → α5 → α6 → α7 → α8 → α9 → α10 → α11 → α12 → α13 → α14 → α15 → α16 → α17 → α18 → α19 → Option β} {r : β} (h : zb20 o k = some r) : ∃ a0 a1 a2 a3 a4 a5 a6 a7 a8 a9 a10 a11 a12 a13 a14 a15 a16 a17 a18 a19, o = some (a0, a1, a2, a3, a4, a5, a6, a7, a8, a9, a10, a11, a12, a13, a14, a15, a16, a17, a18, a19) ∧ k a0 a1 a2 a3 a4 a5 a6 a7 a8 a9 a10 a11 a12 a13 a14 a15 a16 a17 a18 a19 = some r := by
  cases o with
  | none => cases h
  | some p => exact ⟨p.1, p.2.1, p.2.2.1, p.2.2.2.1, p.2.2.2.2.1, p.2.2.2.2.2.1, p.2.2.2.2.2.2.1, p.2.2.2.2.2.2.2.1, p.2.2.2.2.2.2.2.2.1, p.2.2.2.2.2.2.2.2.2.1, p.2.2.2.2.2.2.2.2.2.2.1, p.2.2.2.2.2.2.2.2.2.2.2.1, p.2.2.2.2.2.2.2.2.2.2.2.2.1, p.2.2.2.2.2.2.2.2.2.2.2.2.2.1, p.2.2.2.2.2.2.2.2.2.2.2.2.2.2.1, p.2.2.2.2.2.2.2.2.2.2.2.2.2.2.2.1, p.2.2.2.2.2.2.2.2.2.2.2.2.2.2.2.2.1, p.2.2.2.2.2.2.2.2.2.2.2.2.2.2.2.2.2.1, p.2.2.2.2.2.2.2.2.2.2.2.2.2.2.2.2.2.2.1, p.2.2.2.2.2.2.2.2.2.2.2.2.2.2.2.2.2.2.2, rfl, h⟩
def zl20 {α0 α1 α2 α3 α4 α5 α6 α7 α8 α9 α10 α11 α12 α13 α14 α15 α16 α17 α18 α19 β : Type} (p : α0 × α1 × α2 × α3 × α4 × α5 × α6 × α7 × α8 × α9 × α10 × α11 × α12 × α13 × α14 × α15 × α16 × α17 × α18 × α19) (k : α0 → α1 → α2 → α3 → α4 → α5 → α6 → α7 → α8 → α9 → α10 → α11 → α12 → α13 → α14 → α15 → α16 → α17 → α18 → α19 → β) : β := k p.1 p.2.1 p.2.2.1 p.2.2.2.1 p.2.2.2.2.1 p.2.2.2.2.2.1 p.2.2.2.2.2.2.1 p.2.2.2.2.2.2.2.1 p.2.2.2.2.2.2.2.2.1 p.2.2.2.2.2.2.2.2.2.1 p.2.2.2.2.2.2.2.2.2.2.1 p.2.2.2.2.2.2.2.2.2.2.2.1 p.2.2.2.2.2.2.2.2.2.2.2.2.1 p.2.2.2.2.2.2.2.2.2.2.2.2.2.1 p.2.2.2.2.2.2.2.2.2.2.2.2.2.2.1 p.2.2.2.2.2.2.2.2.2.2.2.2.2.2.2.1 p.2.2.2.2.2.2.2.2.2.2.2.2.2.2.2.2.1 p.2.2.2.2.2.2.2.2.2.2.2.2.2.2.2.2.2.1 p.2.2.2.2.2.2.2.2.2.2.2.2.2.2.2.2.2.2.1 p.2.2.2.2.2.2.2.2.2.2.2.2.2.2.2.2.2.2.2
theorem zl20_elim {α0 α1 α2 α3 α4 α5 α6 α7 α8 α9 α10 α11 α12 α13 α14 α15 α16 α17 α18 α19 β : Type} {p : α0 × α1 × α2 × α3 × α4 × α5 × α6 × α7 × α8 × α9 × α10 × α11 × α12 × α13 × α14 × α15 × α16 × α17 × α18 × α19} {k : α0 → α1 → α2 → α3 → α4 → α5 → α6 → α7 → α8 → α9 → α10 → α11 → α12 → α13 → α14 → α15 → α16 → α17 → α18 → α19 → β} {r : β} (h : zl20 p k = r) : ∃ a0 a1 a2 a3 a4 a5 a6 a7 a8 a9 a10 a11 a12 a13 a14 a15 a16 a17 a18 a19, p = (a0, a1, a2, a3, a4, a5, a6, a7, a8, a9, a10, a11, a12, a13, a14, a15, a16, a17, a18, a19) ∧ k a0 a1 a2 a3 a4 a5 a6 a7 a8 a9 a10 a11 a12 a13 a14 a15 a16 a17 a18 a19 = r := ⟨p.1, p.2.1, p.2.2.1, p.2.2.2.1, p.2.2.2.2.1, p.2.2.2.2.2.1, p.2.2.2.2.2.2.1, p.2.2.2.2.2.2.2.1, p.2.2.2.2.2.2.2.2.1, p.2.2.2.2.2.2.2.2.2.1, p.2.2.2.2.2.2.2.2.2.2.1, p.2.2.2.2.2.2.2.2.2.2.2.1, p.2.2.2.2.2.2.2.2.2.2.2.2.1, p.2.2.2.2.2.2.2.2.2.2.2.2.2.1, p.2.2.2.2.2.2.2.2.2.2.2.2.2.2.1, p.2.2.2.2.2.2.2.2.2.2.2.2.2.2.2.1, p.2.2.2.2.2.2.2.2.2.2.2.2.2.2.2.2.1, p.2.2.2.2.2.2.2.2.2.2.2.2.2.2.2.2.2.1, p.2.2.2.2.2.2.2.2.2.2.2.2.2.2.2.2.2.2.1, p.2.2.2.2.2.2.2.2.2.2.2.2.2.2.2.2.2.2.2, rfl, h⟩
def zb21 {α0 α1 α2 α3 α4 α5 α6 α7 α8 α9 α10 α11 α12 α13 α14 α15 α16 α17 α18 α19 α20 β : Type} (o : Option (α0 × α1 × α2 × α3 × α4 × α5 × α6 × α7 × α8 × α9 × α10 × α11 × α12 × α13 × α14 × α15 × α16 × α17 × α18 × α19 × α20)) (k : α0 → α1 → α2 → α3 → α4 → α5 → α6 → α7 → α8 → α9 → α10 → α11 → α12 → α13 → α14 → α15 → α16 → α17 → α18 → α19 → α20 → Option β) : Option β := match o with | none => none | some p => k p.1 p.2.1 p.2.2.1 p.2.2.2.1 p.2.2.2.2.1 p.2.2.2.2.2.1 p.2.2.2.2.2.2.1 p.2.2.2.2.2.2.2.1 p.2.2.2.2.2.2.2.2.1 p.2.2.2.2.2.2.2.2.2.1 p.2.2.2.2.2.2.2.2.2.2.1 p.2.2.2.2.2.2.2.2.2.2.2.1 p.2.2.2.2.2.2.2.2.2.2.2.2.1 p.2.2.2.2.2.2.2.2.2.2.2.2.2.1 p.2.2.2.2.2.2.2.2.2.2.2.2.2.2.1 p.2.2.2.2.2.2.2.2.2.2.2.2.2.2.2.1 p.2.2.2.2.2.2.2.2.2.2.2.2.2.2.2.2.1 p.2.2.2.2.2.2.2.2.2.2.2.2.2.2.2.2.2.1 p.2.2.2.2.2.2.2.2.2.2.2.2.2.2.2.2.2.2.1 p.2.2.2.2.2.2.2.2.2.2.2.2.2.2.2.2.2.2.2.1 p.2.2.2.2.2.2.2.2.2.2.2.2.2.2.2.2.2.2.2.2
theorem zb21_elim {α0 α1 α2 α3 α4 α5 α6 α7 α8 α9 α10 α11 α12 α13 α14 α15 α16 α17 α18 α19 α20 β : Type} {o : Option (α0 × α1 × α2 × α3 × α4 × α5 × α6 × α7 × α8 × α9 × α10 × α11 × α12 × α13 × α14 × α15 × α16 × α17 × α18 × α19 × α20)} {k : α0 → α1 → α2 → α3 → α4 → α5 → α6 → α7 → α8 → α9 → α10 → α11 → α12 → α13 → α14 → α15 → α16 → α17 → α18 → α19 → α20 → Option β} {r : β} (h : zb21 o k = some r) : ∃ a0 a1 a2 a3 a4 a5 a6 a7 a8 a9 a10 a11 a12 a13 a14 a15 a16 a17 a18 a19 a20, o = some (a0, a1, a2, a3, a4, a5, a6, a7, a8, a9, a10, a11, a12, a13, a14, a15, a16, a17, a18, a19, a20) ∧ k a0 a1 a2 a3 a4 a5 a6 a7 a8 a9 a10 a11 a12 a13 a14 a15 a16 a17 a18 a19 a20 = some r := by
  cases o with
  | none => cases h
  | some p => exact ⟨p.1, p.2.1, p.2.2.1, p.2.2.2.1, p.2.2.2.2.1, p.2.2.2.2.2.1, p.2.2.2.2.2.2.1, p.2.2.2.2.2.2.2.1, p.2.2.2.2.2.2.2.2.1, p.2.2.2.2.2.2.2.2.2.1, p.2.2.2.2.2.2.2.2.2.2.1, p.2.2.2.2.2.2.2.2.2.2.2.1, p.2.2.2.2.2.2.2.2.2.2.2.2.1, p.2.2.2.2.2.2.2.2.2.2.2.2.2.1, p.2.2.2.2.2.2.2.2.2.2.2.2.2.2.1, p.2.2.2.2.2.2.2.2.2.2.2.2.2.2.2.1, p.2.2.2.2.2.2.2.2.2.2.2.2.2.2.2.2.1, p.2.2.2.2.2.2.2.2.2.2.2.2.2.2.2.2.2.1, p.2.2.2.2.2.2.2.2.2.2.2.2.2.2.2.2.2.2.1, p.2.2.2.2.2.2.2.2.2.2.2.2.2.2.2.2.2.2.2.1, p.2.2.2.2.2.2.2.2.2.2.2.2.2.2.2.2.2.2.2.2, rfl, h⟩
def zl21 {α0 α1 α2 α3 α4 α5 α6 α7 α8 α9 α10 α11 α12 α13 α14 α15 α16 α17 α18 α19 α20 β : Type} (p : α0 × α1 × α2 × α3 × α4 × α5 × α6 × α7 × α8 × α9 × α10 × α11 × α12 × α13 × α14 × α15 × α16 × α17 × α18 × α19 × α20) (k : α0 → α1 → α2 → α3 → α4 → α5 → α6 → α7 → α8 → α9 → α10 → α11 → α12 → α13 → α14 → α15 → α16 → α17 → α18 → α19 → α20 → β) : β := k p.1 p.2.1 p.2.2.1 p.2.2.2.1 p.2.2.2.2.1 p.2.2.2.2.2.1 p.2.2.2.2.2.2.1 p.2.2.2.2.2.2.2.1 p.2.2.2.2.2.2.2.2.1 p.2.2.2.2.2.2.2.2.2.1 p.2.2.2.2.2.2.2.2.2.2.1 p.2.2.2.2.2.2.2.2.2.2.2.1 p.2.2.2.2.2.2.2.2.2.2.2.2.1 p.2.2.2.2.2.2.2.2.2.2.2.2.2.1 p.2.2.2.2.2.2.2.2.2.2.2.2.2.2.1 p.2.2.2.2.2.2.2.2.2.2.2.2.2.2.2.1 p.2.2.2.2.2.2.2.2.2.2.2.2.2.2.2.2.1 p.2.2.2.2.2.2.2.2.2.2.2.2.2.2.2.2.2.1 p.2.2.2.2.2.2.2.2.2.2.2.2.2.2.2.2.2.2.1 p.2.2.2.2.2.2.2.2.2.2.2.2.2.2.2.2.2.2.2.1 p.2.2.2.2.2.2.2.2.2.2.2.2.2.2.2.2.2.2.2.2
theorem zl21_elim {α0 α1 α2 α3 α4 α5 α6 α7 α8 α9 α10 α11 α12 α13 α14 α15 α16 α17 α18 α19 α20 β : Type} {p : α0 × α1 × α2 × α3 × α4 × α5 × α6 × α7 × α8 × α9 × α10 × α11 × α12 × α13 × α14 × α15 × α16 × α17 × α18 × α19 × α20} {k : α0 → α1 → α2 → α3 → α4 → α5 → α6 → α7 → α8 → α9 → α10 → α11 → α12 → α13 → α14 → α15 → α16 → α17 → α18 → α19 → α20 → β} {r : β} (h : zl21 p k = r) : ∃ a0 a1 a2 a3 a4 a5 a6 a7 a8 a9 a10 a11 a12 a13 a14 a15 a16 a17 a18 a19 a20, p = (a0, a1, a2, a3, a4, a5, a6, a7, a8, a9, a10, a11, a12, a13, a14, a15, a16, a17, a18, a19, a20) ∧ k a0 a1 a2 a3 a4 a5 a6 a7 a8 a9 a10 a11 a12 a13 a14 a15 a16 a17 a18 a19 a20 = r := ⟨p.1, p.2.1, p.2.2.1, p.2.2.2.1, p.2.2.2.2.1, p.2.2.2.2.2.1, p.2.2.2.2.2.2.1, p.2.2.2.2.2.2.2.1, p.2.2.2.2.2.2.2.2.1, p.2.2.2.2.2.2.2.2.2.1, p.2.2.2.2.2.2.2.2.2.2.1, p.2.2.2.2.2.2.2.2.2.2.2.1, p.2.2.2.2.2.2.2.2.2.2.2.2.1, p.2.2.2.2.2.2.2.2.2.2.2.2.2.1, p.2.2.2.2.2.2.2.2.2.2.2.2.2.2.1, p.2.2.2.2.2.2.2.2.2.2.2.2.2.2.2.1, p.2.2.2.2.2.2.2.2.2.2.2.2.2.2.2.2.1, p.2.2.2.2.2.2.2.2.2.2.2.2.2.2.2.2.2.1, p.2.2.2.2.2.2.2.2.2.2.2.2.2.2.2.2.2.2.1, p.2.2.2.2.2.2.2.2.2.2.2.2.2.2.2.2.2.2.2.1, p.2.2.2.2.2.2.2.2.2.2.2.2.2.2.2.2.2.2.2.2, rfl, h⟩
def zb22 {α0 α1 α2 α3 α4 α5 α6 α7 α8 α9 α10 α11 α12 α13 α14 α15 α16 α17 α18 α19 α20 α21 β : Type} (o : Option (α0 × α1 × α2 × α3 × α4 × α5 × α6 × α7 × α8 × α9 × α10 × α11 × α12 × α13 × α14 × α15 × α16 × α17 × α18 × α19 × α20 × α21)) (k : α0 → α1 → α2 → α3 → α4 → α5 → α6 → α7 → α8 → α9 → α10 → α11 → α12 → α13 → α14 → α15 → α16 → α17 → α18 → α19 → α20 → α21 → Option β) : Option β := match o with | none => none | some p => k p.1 p.2.1 p.2.2.1 p.2.2.2.1 p.2.2.2.2.1 p.2.2.2.2.2.1 p.2.2.2.2.2.2.1 p.2.2.2.2.2.2.2.1 p.2.2.2.2.2.2.2.2.1 p.2.2.2.2.2.2.2.2.2.1 p.2.2.2.2.2.2.2.2.2.2.1 p.2.2.2.2.2.2.2.2.2.2.2.1 p.2.2.2.2.2.2.2.2.2.2.2.2.1 p.2.2.2.2.2.2.2.2.2.2.2.2.2.1 p.2.2.2.2.2.2.2.2.2.2.2.2.2.2.1 p.2.2.2.2.2.2.2.2.2.2.2.2.2.2.2.1 p.2.2.2.2.2.2.2.2.2.2.2.2.2.2.2.2.1 p.2.2.2.2.2.2.2.2.2.2.2.2.2.2.2.2.2.1 p.2.2.2.2.2.2.2.2.2.2.2.2.2.2.2.2.2.2.1 p.2.2.2.2.2.2.2.2.2.2.2.2.2.2.2.2.2.2.2.1 p.2.2.2.2.2.2.2.2.2.2.2.2.2.2.2.2.2.2.2.2.1 p.2.2.2.2.2.2.2.2.2.2.2.2.2.2.2.2.2.2.2.2.2
theorem zb22_elim {α0 α1 α2 α3 α4 α5 α6 α7 α8 α9 α10 α11 α12 α13 α14 α15 α16 α17 α18 α19 α20 α21 β : Type} {o : Option (α0 × α1 × α2 × α3 × α4 × α5 × α6 × α7 × α8 × α9 × α10 × α11 × α12 × α13 × α14 × α15 × α16 × α17 × α18 × α19 × α20 × α21)} {k : α0 → α1 → α2 → α3 → α4 → α5 → α6 → α7 → α8 → α9 → α10 → α11 → α12 → α13 → α14 → α15 → α16 → α17 → α18 → α19 → α20 → α21 → Option β} {r : β} (h : zb22 o k = some r) : ∃ a0 a1 a2 a3 a4 a5 a6 a7 a8 a9 a10 a11 a12 a13 a14 a15 a16 a17 a18 a19 a20 a21, o = some (a0, a1, a2, a3, a4, a5, a6, a7, a8, a9, a10, a11, a12, a13, a14, a15, a16, a17, a18, a19, a20, a21) ∧ k a0 a1 a2 a3 a4 a5 a6 a7 a8 a9 a10 a11 a12 a13 a14 a15 a16 a17 a18 a19 a20 a21 = some r := by
  cases o with
  | none => cases h
  | some p => exact ⟨p.1, p.2.1, p.2.2.1, p.2.2.2.1, p.2.2.2.2.1, p.2.2.2.2.2.1, p.2.2.2.2.2.2.1, p.2.2.2.2.2.2.2.1, p.2.2.2.2.2.2.2.2.1, p.2.2.2.2.2.2.2.2.2.1, p.2.2.2.2.2.2.2.2.2.2.1, p.2.2.2.2.2.2.2.2.2.2.2.1, p.2.2.2.2.2.2.2.2.2.2.2.2.1, p.2.2.2.2.2.2.2.2.2.2.2.2.2.1, p.2.2.2.2.2.2.2.2.2.2.2.2.2.2.1, p.2.2.2.2.2.2.2.2.2.2.2.2.2.2.2.1, p.2.2.2.2.2.2.2.2.2.2.2.2.2.2.2.2.1, p.2.2.2.2.2.2.2.2.2.2.2.2.2.2.2.2.2.1, p.2.2.2.2.2.2.2.2.2.2.2.2.2.2.2.2.2.2.1, p.2.2.2.2.2.2.2.2.2.2.2.2.2.2.2.2.2.2.2.1, p.2.2.2.2.2.2.2.2.2.2.2.2.2.2.2.2.2.2.2.2.1, p.2.2.2.2.2.2.2.2.2.2.2.2.2.2.2.2.2.2.2.2.2, rfl, h⟩
def zl22 {α0 α1 α2 α3 α4 α5 α6 α7 α8 α9 α10 α11 α12 α13 α14 α15 α16 α17 α18 α19 α20 α21 β : Type} (p : α0 × α1 × α2 × α3 × α4 × α5 × α6 × α7 × α8 × α9 × α10 × α11 × α12 × α13 × α14 × α15 × α16 × α17 × α18 × α19 × α20 × α21) (k : α0 → α1 → α2 → α3 → α4 → α5 → α6 → α7 → α8 → α9 → α10 → α11 → α12 → α13 → α14 → α15 → α16 → α17 → α18 → α19 → α20 → α21 → β) : β := k p.1 p.2.1 p.2.2.1 p.2.2.2.1 p.2.2.2.2.1 p.2.2.2.2.2.1 p.2.2.2.2.2.2.1 p.2.2.2.2.2.2.2.1 p.2.2.2.2.2.2.2.2.1 p.2.2.2.2.2.2.2.2.2.1 p.2.2.2.2.2.2.2.2.2.2.1 p.2.2.2.2.2.2.2.2.2.2.2.1 p.2.2.2.2.2.2.2.2.2.2.2.2.1 p.2.2.2.2.2.2.2.2.2.2.2.2.2.1 p.2.2.2.2.2.2.2.2.2.2.2.2.2.2.1 p.2.2.2.2.2.2.2.2.2.2.2.2.2.2.2.1 p.2.2.2.2.2.2.2.2.2.2.2.2.2.2.2.2.1 p.2.2.2.2.2.2.2.2.2.2.2.2.2.2.2.2.2.1 p.2.2.2.2.2.2.2.2.2.2.2.2.2.2.2.2.2.2.1 p.2.2.2.2.2.2.2.2.2.2.2.2.2.2.2.2.2.2.2.1 p.2.2.2.2.2.2.2.2.2.2.2.2.2.2.2.2.2.2.2.2.1 p.2.2.2.2.2.2.2.2.2.2.2.2.2.2.2.2.2.2.2.2.2
theorem zl22_elim {α0 α1 α2 α3 α4 α5 α6 α7 α8 α9 α10 α11 α12 α13 α14 α15 α16 α17 α18 α19 α20 α21 β : Type} {p : α0 × α1 × α2 × α3 × α4 × α5 × α6 × α7 × α8 × α9 × α10 × α11 × α12 × α13 × α14 × α15 × α16 × α17 × α18 × α19 × α20 × α21} {k : α0 → α1 → α2 → α3 → α4 → α5 → α6 → α7 → α8 → α9 → α10 → α11 → α12 → α13 → α14 → α15 → α16 → α17 → α18 → α19 → α20 → α21 → β} {r : β} (h : zl22 p k = r) : ∃ a0 a1 a2 a3 a4 a5 a6 a7 a8 a9 a10 a11 a12 a13 a14 a15 a16 a17 a18 a19 a20 a21, p = (a0, a1, a2, a3, a4, a5, a6, a7, a8, a9, a10, a11, a12, a13, a14, a15, a16, a17, a18, a19, a20, a21) ∧ k a0 a1 a2 a3 a4 a5 a6 a7 a8 a9 a10 a11 a12 a13 a14 a15 a16 a17 a18 a19 a20 a21 = r := ⟨p.1, p.2.1, p.2.2.1, p.2.2.2.1, p.2.2.2.2.1, p.2.2.2.2.2.1, p.2.2.2.2.2.2.1, p.2.2.2.2.2.2.2.1, p.2.2.2.2.2.2.2.2.1, p.2.2.2.2.2.2.2.2.2.1, p.2.2.2.2.2.2.2.2.2.2.1, p.2.2.2.2.2.2.2.2.2.2.2.1, p.2.2.2.2.2.2.2.2.2.2.2.2.1, p.2.2.2.2.2.2.2.2.2.2.2.2.2.1, p.2.2.2.2.2.2.2.2.2.2.2.2.2.2.1, p.2.2.2.2.2.2.2.2.2.2.2.2.2.2.2.1, p.2.2.2.2.2.2.2.2.2.2.2.2.2.2.2.2.1, p.2.2.2.2.2.2.2.2.2.2.2.2.2.2.2.2.2.1, p.2.2.2.2.2.2.2.2.2.2.2.2.2.2.2.2.2.2.1, p.2.2.2.2.2.2.2.2.2.2.2.2.2.2.2.2.2.2.2.1, p.2.2.2.2.2.2.2.2.2.2.2.2.2.2.2.2.2.2.2.2.1, p.2.2.2.2.2.2.2.2.2.2.2.2.2.2.2.2.2.2.2.2.2, rfl, h⟩
def zb23 {α0 α1 α2 α3 α4 α5 α6 α7 α8 α9 α10 α11 α12 α13 α14 α15 α16 α17 α18 α19 α20 α21 α22 β : Type} (o : Option (α0 × α1 × α2 × α3 × α4 × α5 × α6 × α7 × α8 × α9 × α10 × α11 × α12 × α13 × α14 × α15 × α16 × α17 × α18 × α19 × α20 × α21 × α22)) (k : α0 → α1 → α2 → α3 → α4 → α5 → α6 → α7 → α8 → α9 → α10 → α11 → α12 → α13 → α14 → α15 → α16 → α17 → α18 → α19 → α20 → α21 → α22 → Option β) : Option β := match o with | none => none | some p => k p.1 p.2.1 p.2.2.1 p.2.2.2.1 p.2.2.2.2.1 p.2.2.2.2.2.1 p.2.2.2.2.2.2.1 p.2.2.2.2.2.2.2.1 p.2.2.2.2.2.2.2.2.1 p.2.2.2.2.2.2.2.2.2.1 p.2.2.2.2.2.2.2.2.2.2.1 p.2.2.2.2.2.2.2.2.2.2.2.1 p.2.2.2.2.2.2.2.2.2.2.2.2.1 p.2.2.2.2.2.2.2.2.2.2.2.2.2.1 p.2.2.2.2.2.2.2.2.2.2.2.2.2.2.1 p.2.2.2.2.2.2.2.2.2.2.2.2.2.2.2.1 p.2.2.2.2.2.2.2.2.2.2.2.2.2.2.2.2.1 p.2.2.2.2.2.2.2.2.2.2.2.2.2.2.2.2.2.1 p.2.2.2.2.2.2.2.2.2.2.2.2.2.2.2.2.2.2.1 p.2.2.2.2.2.2.2.2.2.2.2.2.2.2.2.2.2.2.2.1 p.2.2.2.2.2.2.2.2.2.2.2.2.2.2.2.2.2.2.2.2.1 p.2.2.2.2.2.2.2.2.2.2.2.2.2.2.2.2.2.2.2.2.2.1 p.2.2.2.2.2.2.2.2.2.2.2.2.2.2.2.2.2.2.2.2.2.2
theorem zb23_elim {α0 α1 α2 α3 α4 α5 α6 α7 α8 α9 α10 α11 α12 α13 α14 α15 α16 α17 α18 α19 α20 α21 α22 β : Type} {o : Option (α0 × α1 × α2 × α3 × α4 × α5 × α6 × α7 × α8 × α9 × α10 × α11 × α12 × α13 × α14 × α15 × α16 × α17 × α18 × α19 × α20 × α21 × α22)} {k : α0 → α1 → α2 → α3 → α4 → α5 → α6 → α7 → α8 → α9 → α10 → α11 → α12 → α13 → α14 → α15 → α16 → α17 → α18 → α19 → α20 → α21 → α22 → Option β} {r : β} (h : zb23 o k = some r) : ∃ a0 a1 a2 a3 a4 a5 a6 a7 a8 a9 a10 a11 a12 a13 a14 a15 a16 a17 a18 a19 a20 a21 a22, o = some (a0, a1, a2, a3, a4, a5, a6, a7, a8, a9, a10, a11, a12, a13, a14, a15, a16, a17, a18, a19, a20, a21, a22) ∧ k a0 a1 a2 a3 a4 a5 a6 a7 a8 a9 a10 a11 a12 a13 a14 a15 a16 a17 a18 a19 a20 a21 a22 = some r := by
  cases o with
  | none => cases h
  | some p => exact ⟨p.1, p.2.1, p.2.2.1, p.2.2.2.1, p.2.2.2.2.1, p.2.2.2.2.2.1, p.2.2.2.2.2.2.1, p.2.2.2.2.2.2.2.1, p.2.2.2.2.2.2.2.2.1, p.2.2.2.2.2.2.2.2.2.1, p.2.2.2.2.2.2.2.2.2.2.1, p.2.2.2.2.2.2.2.2.2.2.2.1, p.2.2.2.2.2.2.2.2.2.2.2.2.1, p.2.2.2.2.2.2.2.2.2.2.2.2.2.1, p.2.2.2.2.2.2.2.2.2.2.2.2.2.2.1, p.2.2.2.2.2.2.2.2.2.2.2.2.2.2.2.1, p.2.2.2.2.2.2.2.2.2.2.2.2.2.2.2.2.1, p.2.2.2.2.2.2.2.2.2.2.2.2.2.2.2.2.2.1, p.2.2.2.2.2.2.2.2.2.2.2.2.2.2.2.2.2.2.1, p.2.2.2.2.2.2.2.2.2.2.2.2.2.2.2.2.2.2.2.1, p.2.2.2.2.2.2.2.2.2.2.2.2.2.2.2.2.2.2.2.2.1, p.2.2.2.2.2.2.2.2.2.2.2.2.2.2.2.2.2.2.2.2.2.1, p.2.2.2.2.2.2.2.2.2.2.2.2.2.2.2.2.2.2.2.2.2.2, rfl, h⟩
def zl23 {α0 α1 α2 α3 α4 α5 α6 α7 α8 α9 α10 α11 α12 α13 α14 α15 α16 α17 α18 α19 α20 α21 α22 β : Type} (p : α0 × α1 × α2 × α3 × α4 × α5 × α6 × α7 × α8 × α9 × α10 × α11 × α12 × α13 × α14 × α15 × α16 × α17 × α18 × α19 × α20 × α21 × α22) (k : α0 → α1 → α2 → α3 → α4 → α5 → α6 → α7 → α8 → α9 → α10 → α11 → α12 → α13 → α14 → α15 → α16 → α17 → α18 → α19 → α20 → α21 → α22 → β) : β := k p.1 p.2.1 p.2.2.1 p.2.2.2.1 p.2.2.2.2.1 p.2.2.2.2.2.1 p.2.2.2.2.2.2.1 p.2.2.2.2.2.2.2.1 p.2.2.2.2.2.2.2.2.1 p.2.2.2.2.2.2.2.2.2.1 p.2.2.2.2.2.2.2.2.2.2.1 p.2.2.2.2.2.2.2.2.2.2.2.1 p.2.2.2.2.2.2.2.2.2.2.2.2.1 p.2.2.2.2.2.2.2.2.2.2.2.2.2.1 p.2.2.2.2.2.2.2.2.2.2.2.2.2.2.1 p.2.2.2.2.2.2.2.2.2.2.2.2.2.2.2.1 p.2.2.2.2.2.2.2.2.2.2.2.2.2.2.2.2.1 p.2.2.2.2.2.2.2.2.2.2.2.2.2.2.2.2.2.1 p.2.2.2.2.2.2.2.2.2.2.2.2.2.2.2.2.2.2.1 p.2.2.2.2.2.2.2.2.2.2.2.2.2.2.2.2.2.2.2.1 p.2.2.2.2.2.2.2.2.2.2.2.2.2.2.2.2.2.2.2.2.1 p.2.2.2.2.2.2.2.2.2.2.2.2.2.2.2.2.2.2.2.2.2.1 p.2.2.2.2.2.2.2.2.2.2.2.2.2.2.2.2.2.2.2.2.2.2
theorem zl23_elim {α0 α1 α2 α3 α4 α5 α6 α7 α8 α9 α10 α11 α12 α13 α14 α15 α16 α17 α18 α19 α20 α21 α22 β : Type} {p : α0 × α1 × α2 × α3 × α4 × α5 × α6 × α7 × α8 × α9 × α10 × α11 × α12 × α13 × α14 × α15 × α16 × α17 × α18 × α19 × α20 × α21 × α22} {k : α0 → α1 → α2 → α3 → α4 → α5 → α6 → α7 → α8 → α9 → α10 → α11 → α12 → α13 → α14 → α15 → α16 → α17 → α18 → α19 → α20 → α21 → α22 → β} {r : β} (h : zl23 p k = r) : ∃ a0 a1 a2 a3 a4 a5 a6 a7 a8 a9 a10 a11 a12 a13 a14 a15 a16 a17 a18 a19 a20 a21 a22, p = (a0, a1, a2, a3, a4, a5, a6, a7, a8, a9, a10, a11, a12, a13, a14, a15, a16, a17, a18, a19, a20, a21, a22) ∧ k a0 a1 a2 a3 a4 a5 a6 a7 a8 a9 a10 a11 a12 a13 a14 a15 a16 a17 a18 a19 a20 a21 a22 = r := ⟨p.1, p.2.1, p.2.2.1, p.2.2.2.1, p.2.2.2.2.1, p.2.2.2.2.2.1, p.2.2.2.2.2.2.1, p.2.2.2.2.2.2.2.1, p.2.2.2.2.2.2.2.2.1, p.2.2.2.2.2.2.2.2.2.1, p.2.2.2.2.2.2.2.2.2.2.1, p.2.2.2.2.2.2.2.2.2.2.2.1, p.2.2.2.2.2.2.2.2.2.2.2.2.1, p.2.2.2.2.2.2.2.2.2.2.2.2.2.1, p.2.2.2.2.2.2.2.2.2.2.2.2.2.2.1, p.2.2.2.2.2.2.2.2.2.2.2.2.2.2.2.1, p.2.2.2.2.2.2.2.2.2.2.2.2.2.2.2.2.1, p.2.2.2.2.2.2.2.2.2.2.2.2.2.2.2.2.2.1, p.2.2.2.2.2.2.2.2.2.2.2.2.2.2.2.2.2.2.1, p.2.2.2.2.2.2.2.2.2.2.2.2.2.2.2.2.2.2.2.1, p.2.2.2.2.2.2.2.2.2.2.2.2.2.2.2.2.2.2.2.2.1, p.2.2.2.2.2.2.2.2.2.2.2.2.2.2.2.2.2.2.2.2.2.1, p.2.2.2.2.2.2.2.2.2.2.2.2.2.2.2.2.2.2.2.2.2.2, rfl, h⟩
def zb24 {α0 α1 α2 α3 α4 α5 α6 α7 α8 α9 α10 α11 α12 α13 α14 α15 α16 α17 α18 α19 α20 α21 α22 α23 β : Type} (o : Option (α0 × α1 × α2 × α3 × α4 × α5 × α6 × α7 × α8 × α9 × α10 × α11 × α12 × α13 × α14 × α15 × α16 × α17 × α18 × α19 × α20 × α21 × α22 × α23)) (k : α0 → α1 → α2 → α3 → α4 → α5 → α6 → α7 → α8 → α9 → α10 → α11 → α12 → α13 → α14 → α15 → α16 → α17 → α18 → α19 → α20 → α21 → α22 → α23 → Option β) : Option β := match o with | none => none | some p => k p.1 p.2.1 p.2.2.1 p.2.2.2.1 p.2.2.2.2.1 p.2.2.2.2.2.1 p.2.2.2.2.2.2.1 p.2.2.2.2.2.2.2.1 p.2.2.2.2.2.2.2.2.1 p.2.2.2.2.2.2.2.2.2.1 p.2.2.2.2.2.2.2.2.2.2.1 p.2.2.2.2.2.2.2.2.2.2.2.1 p.2.2.2.2.2.2.2.2.2.2.2.2.1 p.2.2.2.2.2.2.2.2.2.2.2.2.2.1 p.2.2.2.2.2.2.2.2.2.2.2.2.2.2.1 p.2.2.2.2.2.2.2.2.2.2.2.2.2.2.2.1 p.2.2.2.2.2.2.2.2.2.2.2.2.2.2.2.2.1 p.2.2.2.2.2.2.2.2.2.2.2.2.2.2.2.2.2.1 p.2.2.2.2.2.2.2.2.2.2.2.2.2.2.2.2.2.2.1 p.2.2.2.2.2.2.2.2.2.2.2.2.2.2.2.2.2.2.2.1 p.2.2.2.2.2.2.2.2.2.2.2.2.2.2.2.2.2.2.2.2.1 p.2.2.2.2.2.2.2.2.2.2.2.2.2.2.2.2.2.2.2.2.2.1 p.2.2.2.2.2.2.2.2.2.2.2.2.2.2.2.2.2.2.2.2.2.2.1 p.2.2.2.2.2.2.2.2.2.2.2.2.2.2.2.2.2.2.2.2.2.2.2
theorem zb24_elim {α0 α1 α2 α3 α4 α5 α6 α7 α8 α9 α10 α11 α12 α13 α14 α15 α16 α17 α18 α19 α20 α21 α22 α23 β : Type} {o : Option (α0 × α1 × α2 × α3 × α4 × α5 × α6 × α7 × α8 × α9 × α10 × α11 × α12 × α13 × α14 × α15 × α16 × α17 × α18 × α19 × α20 × α21 × α22 × α23)} {k : α0 → α1 → α2 → α3 → α4 → α5 → α6 → α7 → α8 → α9 → α10 → α11 → α12 → α13 → α14 → α15 → α16 → α17 → α18 → α19 → α20 → α21 → α22 → α23 → Option β} {r : β} (h : zb24 o k = some r) : ∃ a0 a1 a2 a3 a4 a5 a6 a7 a8 a9 a10 a11 a12 a13 a14 a15 a16 a17 a18 a19 a20 a21 a22 a23, o = some (a0, a1, a2, a3, a4, a5, a6, a7, a8, a9, a10, a11, a12, a13, a14, a15, a16, a17, a18, a19, a20, a21, a22, a23) ∧ k a0 a1 a2 a3 a4 a5 a6 a7 a8 a9 a10 a11 a12 a13 a14 a15 a16 a17 a18 a19 a20 a21 a22 a23 = some r := by
  cases o with
  | none => cases h
  | some p => exact ⟨p.1, p.2.1, p.2.2.1, p.2.2.2.1, p.2.2.2.2.1, p.2.2.2.2.2.1, p.2.2.2.2.2.2.1, p.2.2.2.2.2.2.2.1, p.2.2.2.2.2.2.2.2.1, p.2.2.2.2.2.2.2.2.2.1, p.2.2.2.2.2.2.2.2.2.2.1, p.2.2.2.2.2.2.2.2.2.2.2.1, p.2.2.2.2.2.2.2.2.2.2.2.2.1, p.2.2.2.2.2.2.2.2.2.2.2.2.2.1, p.2.2.2.2.2.2.2.2.2.2.2.2.2.2.1, p.2.2.2.2.2.2.2.2.2.2.2.2.2.2.2.1, p.2.2.2.2.2.2.2.2.2.2.2.2.2.2.2.2.1, p.2.2.2.2.2.2.2.2.2.2.2.2.2.2.2.2.2.1, p.2.2.2.2.2.2.2.2.2.2.2.2.2.2.2.2.2.2.1, p.2.2.2.2.2.2.2.2.2.2.2.2.2.2.2.2.2.2.2.1, p.2.2.2.2.2.2.2.2.2.2.2.2.2.2.2.2.2.2.2.2.1, p.2.2.2.2.2.2.2.2.2.2.2.2.2.2.2.2.2.2.2.2.2.1, p.2.2.2.2.2.2.2.2.2.2.2.2.2.2.2.2.2.2.2.2.2.2.1, p.2.2.2.2.2.2.2.2.2.2.2.2.2.2.2.2.2.2.2.2.2.2.2, rfl, h⟩
def zl24 {α0 α1 α2 α3 α4 α5 α6 α7 α8 α9 α10 α11 α12 α13 α14 α15 α16 α17 α18 α19 α20 α21 α22 α23 β : Type} (p : α0 × α1 × α2 × α3 × α4 × α5 × α6 × α7 × α8 × α9 × α10 × α11 × α12 × α13 × α14 × α15 × α16 × α17 × α18 × α19 × α20 × α21 × α22 × α23) (k : α0 → α1 → α2 → α3 → α4 → α5 → α6 → α7 → α8 → α9 → α10 → α11 → α12 → α13 → α14 → α15 → α16 → α17 → α18 → α19 → α20 → α21 → α22 → α23 → β) : β := k p.1 p.2.1 p.2.2.1 p.2.2.2.1 p.2.2.2.2.1 p.2.2.2.2.2.1 p.2.2.2.2.2.2.1 p.2.2.2.2.2.2.2.1 p.2.2.2.2.2.2.2.2.1 p.2.2.2.2.2.2.2.2.2.1 p.2.2.2.2.2.2.2.2.2.2.1 p.2.2.2.2.2.2.2.2.2.2.2.1 p.2.2.2.2.2.2.2.2.2.2.2.2.1 p.2.2.2.2.2.2.2.2.2.2.2.2.2.1 p.2.2.2.2.2.2.2.2.2.2.2.2.2.2.1 p.2.2.2.2.2.2.2.2.2.2.2.2.2.2.2.1 p.2.2.2.2.2.2.2.2.2.2.2.2.2.2.2.2.1 p.2.2.2.2.2.2.2.2.2.2.2.2.2.2.2.2.2.1 p.2.2.2.2.2.2.2.2.2.2.2.2.2.2.2.2.2.2.1 p.2.2.2.2.2.2.2.2.2.2.2.2.2.2.2.2.2.2.2.1 p.2.2.2.2.2.2.2.2.2.2.2.2.2.2.2.2.2.2.2.2.1 p.2.2.2.2.2.2.2.2.2.2.2.2.2.2.2.2.2.2.2.2.2.1 p.2.2.2.2.2.2.2.2.2.2.2.2.2.2.2.2.2.2.2.2.2.2.1 p.2.2.2.2.2.2.2.2.2.2.2.2.2.2.2.2.2.2.2.2.2.2.2
theorem zl24_elim {α0 α1 α2 α3 α4 α5 α6 α7 α8 α9 α10 α11 α12 α13 α14 α15 α16 α17 α18 α19 α20 α21 α22 α23 β : Type} {p : α0 × α1 × α2 × α3 × α4 × α5 × α6 × α7 × α8 × α9 × α10 × α11 × α12 × α13 × α14 × α15 × α16 × α17 × α18 × α19 × α20 × α21 × α22 × α23} {k : α0 → α1 → α2 → α3 → α4 → α5 → α6 → α7 → α8 → α9 → α10 → α11 → α12 → α13 → α14 → α15 → α16 → α17 → α18 → α19 → α20 → α21 → α22 → α23 → β} {r : β} (h : zl24 p k = r) : ∃ a0 a1 a2 a3 a4 a5 a6 a7 a8 a9 a10 a11 a12 a13 a14 a15 a16 a17 a18 a19 a20 a21 a22 a23, p = (a0, a1, a2, a3, a4, a5, a6, a7, a8, a9, a10, a11, a12, a13, a14, a15, a16, a17, a18, a19, a20, a21, a22, a23) ∧ k a0 a1 a2 a3 a4 a5 a6 a7 a8 a9 a10 a11 a12 a13 a14 a15 a16 a17 a18 a19 a20 a21 a22 a23 = r := ⟨p.1, p.2.1, p.2.2.1, p.2.2.2.1, p.2.2.2.2.1, p.2.2.2.2.2.1, p.2.2.2.2.2.2.1, p.2.2.2.2.2.2.2.1, p.2.2.2.2.2.2.2.2.1, p.2.2.2.2.2.2.2.2.2.1, p.2.2.2.2.2.2.2.2.2.2.1, p.2.2.2.2.2.2.2.2.2.2.2.1, p.2.2.2.2.2.2.2.2.2.2.2.2.1, p.2.2.2.2.2.2.2.2.2.2.2.2.2.1, p.2.2.2.2.2.2.2.2.2.2.2.2.2.2.1, p.2.2.2.2.2.2.2.2.2.2.2.2.2.2.2.1, p.2.2.2.2.2.2.2.2.2.2.2.2.2.2.2.2.1, p.2.2.2.2.2.2.2.2.2.2.2.2.2.2.2.2.2.1, p.2.2.2.2.2.2.2.2.2.2.2.2.2.2.2.2.2.2.1, p.2.2.2.2.2.2.2.2.2.2.2.2.2.2.2.2.2.2.2.1, p.2.2.2.2.2.2.2.2.2.2.2.2.2.2.2.2.2.2.2.2.1, p.2.2.2.2.2.2.2.2.2.2.2.2.2.2.2.2.2.2.2.2.2.1, p.2.2.2.2.2.2.2.2.2.2.2.2.2.2.2.2.2.2.2.2.2.2.1, p.2.2.2.2.2.2.2.2.2.2.2.2.2.2.2.2.2.2.2.2.2.2.2, rfl, h⟩
def zr0 { ρ : Type} (o : Option ((Unit) ⊕ ρ)) (k : Option ρ) : Option ρ := match o with | none => none | some (.inl _) => k  | some (.inr w) => some w
theorem zr0_elim { ρ : Type} {o : Option ((Unit) ⊕ ρ)} {k : Option ρ} {r : ρ} (h : zr0 o k = some r) : (o = some (.inl ()) ∧ k  = some r) ∨ o = some (.inr r) := by
  cases o with
  | none => cases h
  | some q =>
    cases q with
    | inl p => exact Or.inl ⟨rfl, h⟩
    | inr w => cases h; exact Or.inr rfl
def zs0 { τ ξ ρ : Type} (o : Option ((Unit) ⊕ ρ)) (k : Option (τ ⊕ (ξ ⊕ ρ))) : Option (τ ⊕ (ξ ⊕ ρ)) := match o with | none => none | some (.inl _) => k  | some (.inr w) => some (.inr (.inr w))
theorem zs0_elim { τ ξ ρ : Type} {o : Option ((Unit) ⊕ ρ)} {k : Option (τ ⊕ (ξ ⊕ ρ))} {r : τ ⊕ (ξ ⊕ ρ)} (h : zs0 o k = some r) : (o = some (.inl ()) ∧ k  = some r) ∨ ∃ w, o = some (.inr w) ∧ r = .inr (.inr w) := by
  cases o with
  | none => cases h
  | some q =>
    cases q with
    | inl p => exact Or.inl ⟨rfl, h⟩
    | inr w => cases h; exact Or.inr ⟨w, rfl, rfl⟩
def zr1 {α0 ρ : Type} (o : Option ((α0) ⊕ ρ)) (k : α0 → Option ρ) : Option ρ := match o with | none => none | some (.inl p) => k p | some (.inr w) => some w
theorem zr1_elim {α0 ρ : Type} {o : Option ((α0) ⊕ ρ)} {k : α0 → Option ρ} {r : ρ} (h : zr1 o k = some r) : (∃ a0, o = some (.inl a0) ∧ k a0 = some r) ∨ o = some (.inr r) := by
  cases o with
  | none => cases h
  | some q =>
    cases q with
    | inl p => exact Or.inl ⟨p, rfl, h⟩
    | inr w => cases h; exact Or.inr rfl
def zs1 {α0 τ ξ ρ : Type} (o : Option ((α0) ⊕ ρ)) (k : α0 → Option (τ ⊕ (ξ ⊕ ρ))) : Option (τ ⊕ (ξ ⊕ ρ)) := match o with | none => none | some (.inl p) => k p | some (.inr w) => some (.inr (.inr w))
theorem zs1_elim {α0 τ ξ ρ : Type} {o : Option ((α0) ⊕ ρ)} {k : α0 → Option (τ ⊕ (ξ ⊕ ρ))} {r : τ ⊕ (ξ ⊕ ρ)} (h : zs1 o k = some r) : (∃ a0, o = some (.inl a0) ∧ k a0 = some r) ∨ ∃ w, o = some (.inr w) ∧ r = .inr (.inr w) := by
  cases o with
  | none => cases h
  | some q =>
    cases q with
    | inl p => exact Or.inl ⟨p, rfl, h⟩
    | inr w => cases h; exact Or.inr ⟨w, rfl, rfl⟩
def zr2 {α0 α1 ρ : Type} (o : Option ((α0 × α1) ⊕ ρ)) (k : α0 → α1 → Option ρ) : Option ρ := match o with | none => none | some (.inl p) => k p.1 p.2 | some (.inr w) => some w
theorem zr2_elim {α0 α1 ρ : Type} {o : Option ((α0 × α1) ⊕ ρ)} {k : α0 → α1 → Option ρ} {r : ρ} (h : zr2 o k = some r) : (∃ a0 a1, o = some (.inl (a0, a1)) ∧ k a0 a1 = some r) ∨ o = some (.inr r) := by
  cases o with
  | none => cases h
  | some q =>
    cases q with
    | inl p => exact Or.inl ⟨p.1, p.2, rfl, h⟩
    | inr w => cases h; exact Or.inr rfl
def zs2 {α0 α1 τ ξ ρ : Type} (o : Option ((α0 × α1) ⊕ ρ)) (k : α0 → α1 → Option (τ ⊕ (ξ ⊕ ρ))) : Option (τ ⊕ (ξ ⊕ ρ)) := match o with | none => none | some (.inl p) => k p.1 p.2 | some (.inr w) => some (.inr (.inr w))
theorem zs2_elim {α0 α1 τ ξ ρ : Type} {o : Option ((α0 × α1) ⊕ ρ)} {k : α0 → α1 → Option (τ ⊕ (ξ ⊕ ρ))} {r : τ ⊕ (ξ ⊕ ρ)} (h : zs2 o k = some r) : (∃ a0 a1, o = some (.inl (a0, a1)) ∧ k a0 a1 = some r) ∨ ∃ w, o = some (.inr w) ∧ r = .inr (.inr w) := by
  cases o with
  | none => cases h
  | some q =>
    cases q with
    | inl p => exact Or.inl ⟨p.1, p.2, rfl, h⟩
    | inr w => cases h; exact Or.inr ⟨w, rfl, rfl⟩
def zr3 {α0 α1 α2 ρ : Type} (o : Option ((α0 × α1 × α2) ⊕ ρ)) (k : α0 → α1 → α2 → Option ρ) : Option ρ := match o with | none => none | some (.inl p) => k p.1 p.2.1 p.2.2 | some (.inr w) => some w
theorem zr3_elim {α0 α1 α2 ρ : Type} {o : Option ((α0 × α1 × α2) ⊕ ρ)} {k : α0 → α1 → α2 → Option ρ} {r : ρ} (h : zr3 o k = some r) : (∃ a0 a1 a2, o = some (.inl (a0, a1, a2)) ∧ k a0 a1 a2 = some r) ∨ o = some (.inr r) := by
  cases o with
  | none => cases h
  | some q =>
    cases q with
    | inl p => exact Or.inl ⟨p.1, p.2.1, p.2.2, rfl, h⟩
    | inr w => cases h; exact Or.inr rfl
def zs3 {α0 α1 α2 τ ξ ρ : Type} (o : Option ((α0 × α1 × α2) ⊕ ρ)) (k : α0 → α1 → α2 → Option (τ ⊕ (ξ ⊕ ρ))) : Option (τ ⊕ (ξ ⊕ ρ)) := match o with | none => none | some (.inl p) => k p.1 p.2.1 p.2.2 | some (.inr w) => some (.inr (.inr w))
theorem zs3_elim {α0 α1 α2 τ ξ ρ : Type} {o : Option ((α0 × α1 × α2) ⊕ ρ)} {k : α0 → α1 → α2 → Option (τ ⊕ (ξ ⊕ ρ))} {r : τ ⊕ (ξ ⊕ ρ)} (h : zs3 o k = some r) : (∃ a0 a1 a2, o = some (.inl (a0, a1, a2)) ∧ k a0 a1 a2 = some r) ∨ ∃ w, o = some (.inr w) ∧ r = .inr (.inr w) := by
  cases o with
  | none => cases h
  | some q =>
    cases q with
    | inl p => exact Or.inl ⟨p.1, p.2.1, p.2.2, rfl, h⟩
    | inr w => cases h; exact Or.inr ⟨w, rfl, rfl⟩
def zr4 {α0 α1 α2 α3 ρ : Type} (o : Option ((α0 × α1 × α2 × α3) ⊕ ρ)) (k : α0 → α1 → α2 → α3 → Option ρ) : Option ρ := match o with | none => none | some (.inl p) => k p.1 p.2.1 p.2.2.1 p.2.2.2 | some (.inr w) => some w
theorem zr4_elim {α0 α1 α2 α3 ρ : Type} {o : Option ((α0 × α1 × α2 × α3) ⊕ ρ)} {k : α0 → α1 → α2 → α3 → Option ρ} {r : ρ} (h : zr4 o k = some r) : (∃ a0 a1 a2 a3, o = some (.inl (a0, a1, a2, a3)) ∧ k a0 a1 a2 a3 = some r) ∨ o = some (.inr r) := by
  cases o with
  | none => cases h
  | some q =>
    cases q with
    | inl p => exact Or.inl ⟨p.1, p.2.1, p.2.2.1, p.2.2.2, rfl, h⟩
    | inr w => cases h; exact Or.inr rfl
def zs4 {α0 α1 α2 α3 τ ξ ρ : Type} (o : Option ((α0 × α1 × α2 × α3) ⊕ ρ)) (k : α0 → α1 → α2 → α3 → Option (τ ⊕ (ξ ⊕ ρ))) : Option (τ ⊕ (ξ ⊕ ρ)) := match o with | none => none | some (.inl p) => k p.1 p.2.1 p.2.2.1 p.2.2.2 | some (.inr w) => some (.inr (.inr w))
theorem zs4_elim {α0 α1 α2 α3 τ ξ ρ : Type} {o : Option ((α0 × α1 × α2 × α3) ⊕ ρ)} {k : α0 → α1 → α2 → α3 → Option (τ ⊕ (ξ ⊕ ρ))} {r : τ ⊕ (ξ ⊕ ρ)} (h : zs4 o k = some r) : (∃ a0 a1 a2 a3, o = some (.inl (a0, a1, a2, a3)) ∧ k a0 a1 a2 a3 = some r) ∨ ∃ w, o = some (.inr w) ∧ r = .inr (.inr w) := by
  cases o with
  | none => cases h
  | some q =>
    cases q with
    | inl p => exact Or.inl ⟨p.1, p.2.1, p.2.2.1, p.2.2.2, rfl, h⟩
    | inr w => cases h; exact Or.inr ⟨w, rfl, rfl⟩
def zr5 {α0 α1 α2 α3 α4 ρ : Type} (o : Option ((α0 × α1 × α2 × α3 × α4) ⊕ ρ)) (k : α0 → α1 → α2 → α3 → α4 → Option ρ) : Option ρ := match o with | none => none | some (.inl p) => k p.1 p.2.1 p.2.2.1 p.2.2.2.1 p.2.2.2.2 | some (.inr w) => some w
theorem zr5_elim {α0 α1 α2 α3 α4 ρ : Type} {o : Option ((α0 × α1 × α2 × α3 × α4) ⊕ ρ)} {k : α0 → α1 → α2 → α3 → α4 → Option ρ} {r : ρ} (h : zr5 o k = some r) : (∃ a0 a1 a2 a3 a4, o = some (.inl (a0, a1, a2, a3, a4)) ∧ k a0 a1 a2 a3 a4 = some r) ∨ o = some (.inr r) := by
  cases o with
  | none => cases h
  | some q =>
    cases q with
    | inl p => exact Or.inl ⟨p.1, p.2.1, p.2.2.1, p.2.2.2.1, p.2.2.2.2, rfl, h⟩
    | inr w => cases h; exact Or.inr rfl
def zs5 {α0 α1 α2 α3 α4 τ ξ ρ : Type} (o : Option ((α0 × α1 × α2 × α3 × α4) ⊕ ρ)) (k : α0 → α1 → α2 → α3 → α4 → Option (τ ⊕ (ξ ⊕ ρ))) : Option (τ ⊕ (ξ ⊕ ρ)) := match o with | none => none | some (.inl p) => k p.1 p.2.1 p.2.2.1 p.2.2.2.1 p.2.2.2.2 | some (.inr w) => some (.inr (.inr w))
theorem zs5_elim {α0 α1 α2 α3 α4 τ ξ ρ : Type} {o : Option ((α0 × α1 × α2 × α3 × α4) ⊕ ρ)} {k : α0 → α1 → α2 → α3 → α4 → Option (τ ⊕ (ξ ⊕ ρ))} {r : τ ⊕ (ξ ⊕ ρ)} (h : zs5 o k = some r) : (∃ a0 a1 a2 a3 a4, o = some (.inl (a0, a1, a2, a3, a4)) ∧ k a0 a1 a2 a3 a4 = some r) ∨ ∃ w, o = some (.inr w) ∧ r = .inr (.inr w) := by
  cases o with
  | none => cases h
  | some q =>
    cases q with
    | inl p => exact Or.inl ⟨p.1, p.2.1, p.2.2.1, p.2.2.2.1, p.2.2.2.2, rfl, h⟩
    | inr w => cases h; exact Or.inr ⟨w, rfl, rfl⟩
def zr6 {α0 α1 α2 α3 α4 α5 ρ : Type} (o : Option ((α0 × α1 × α2 × α3 × α4 × α5) ⊕ ρ)) (k : α0 → α1 → α2 → α3 → α4 → α5 → Option ρ) : Option ρ := match o with | none => none | some (.inl p) => k p.1 p.2.1 p.2.2.1 p.2.2.2.1 p.2.2.2.2.1 p.2.2.2.2.2 | some (.inr w) => some w
theorem zr6_elim {α0 α1 α2 α3 α4 α5 ρ : Type} {o : Option ((α0 × α1 × α2 × α3 × α4 × α5) ⊕ ρ)} {k : α0 → α1 → α2 → α3 → α4 → α5 → Option ρ} {r : ρ} (h : zr6 o k = some r) : (∃ a0 a1 a2 a3 a4 a5, o = some (.inl (a0, a1, a2, a3, a4, a5)) ∧ k a0 a1 a2 a3 a4 a5 = some r) ∨ o = some (.inr r) := by
  cases o with
  | none => cases h
  | some q =>
    cases q with
    | inl p => exact Or.inl ⟨p.1, p.2.1, p.2.2.1, p.2.2.2.1, p.2.2.2.2.1, p.2.2.2.2.2, rfl, h⟩
    | inr w => cases h; exact Or.inr rfl
def zs6 {α0 α1 α2 α3 α4 α5 τ ξ ρ : Type} (o : Option ((α0 × α1 × α2 × α3 × α4 × α5) ⊕ ρ)) (k : α0 → α1 → α2 → α3 → α4 → α5 → Option (τ ⊕ (ξ ⊕ ρ))) : Option (τ ⊕ (ξ ⊕ ρ)) := match o with | none => none | some (.inl p) => k p.1 p.2.1 p.2.2.1 p.2.2.2.1 p.2.2.2.2.1 p.2.2.2.2.2 | some (.inr w) => some (.inr (.inr w))
theorem zs6_elim {α0 α1 α2 α3 α4 α5 τ ξ ρ : Type} {o : Option ((α0 × α1 × α2 × α3 × α4 × α5) ⊕ ρ)} {k : α0 → α1 → α2 → α3 → α4 → α5 → Option (τ ⊕ (ξ ⊕ ρ))} {r : τ ⊕ (ξ ⊕ ρ)} (h : zs6 o k = some r) : (∃ a0 a1 a2 a3 a4 a5, o = some (.inl (a0, a1, a2, a3, a4, a5)) ∧ k a0 a1 a2 a3 a4 a5 = some r) ∨ ∃ w, o = some (.inr w) ∧ r = .inr (.inr w) := by
  cases o with
  | none => cases h
  | some q =>
    cases q with
    | inl p => exact Or.inl ⟨p.1, p.2.1, p.2.2.1, p.2.2.2.1, p.2.2.2.2.1, p.2.2.2.2.2, rfl, h⟩
    | inr w => cases h; exact Or.inr ⟨w, rfl, rfl⟩
def zr7 {α0 α1 α2 α3 α4 α5 α6 ρ : Type} (o : Option ((α0 × α1 × α2 × α3 × α4 × α5 × α6) ⊕ ρ)) (k : α0 → α1 → α2 → α3 → α4 → α5 → α6 → Option ρ) : Option ρ := match o with | none => none | some (.inl p) => k p.1 p.2.1 p.2.2.1 p.2.2.2.1 p.2.2.2.2.1 p.2.2.2.2.2.1 p.2.2.2.2.2.2 | some (.inr w) => some w
theorem zr7_elim {α0 α1 α2 α3 α4 α5 α6 ρ : Type} {o : Option ((α0 × α1 × α2 × α3 × α4 × α5 × α6) ⊕ ρ)} {k : α0 → α1 → α2 → α3 → α4 → α5 → α6 → Option ρ} {r : ρ} (h : zr7 o k = some r) : (∃ a0 a1 a2 a3 a4 a5 a6, o = some (.inl (a0, a1, a2, a3, a4, a5, a6)) ∧ k a0 a1 a2 a3 a4 a5 a6 = some r) ∨ o = some (.inr r) := by
  cases o with
  | none => cases h
  | some q =>
    cases q with
    | inl p => exact Or.inl ⟨p.1, p.2.1, p.2.2.1, p.2.2.2.1, p.2.2.2.2.1, p.2.2.2.2.2.1, p.2.2.2.2.2.2, rfl, h⟩
    | inr w => cases h; exact Or.inr rfl
def zs7 {α0 α1 α2 α3 α4 α5 α6 τ ξ ρ : Type} (o : Option ((α0 × α1 × α2 × α3 × α4 × α5 × α6) ⊕ ρ)) (k : α0 → α1 → α2 → α3 → α4 → α5 → α6 → Option (τ ⊕ (ξ ⊕ ρ))) : Option (τ ⊕ (ξ ⊕ ρ)) := match o with | none => none | some (.inl p) => k p.1 p.2.1 p.2.2.1 p.2.2.2.1 p.2.2.2.2.1 p.2.2.2.2.2.1 p.2.2.2.2.2.2 | some (.inr w) => some (.inr (.inr w))
theorem zs7_elim {α0 α1 α2 α3 α4 α5 α6 τ ξ ρ : Type} {o : Option ((α0 × α1 × α2 × α3 × α4 × α5 × α6) ⊕ ρ)} {k : α0 → α1 → α2 → α3 → α4 → α5 → α6 → Option (τ ⊕ (ξ ⊕ ρ))} {r : τ ⊕ (ξ ⊕ ρ)} (h : zs7 o k = some r) : (∃ a0 a1 a2 a3 a4 a5 a6, o = some (.inl (a0, a1, a2, a3, a4, a5, a6)) ∧ k a0 a1 a2 a3 a4 a5 a6 = some r) ∨ ∃ w, o = some (.inr w) ∧ r = .inr (.inr w) := by
  cases o with
  | none => cases h
  | some q =>
    cases q with
    | inl p => exact Or.inl ⟨p.1, p.2.1, p.2.2.1, p.2.2.2.1, p.2.2.2.2.1, p.2.2.2.2.2.1, p.2.2.2.2.2.2, rfl, h⟩
    | inr w => cases h; exact Or.inr ⟨w, rfl, rfl⟩
end
section
theorem zw_59 : Cond.initialized "java/lang/Math" ∈ zT := zmem1 14 rfl rfl
theorem zw_74 : Cond.fieldLink R_Po 11 (F_Po 0).1 (F_Po 0).2.1 (F_Po 0).2.2.1 ∈ zT := zmem1 29 rfl rfl
theorem zw_75 : Cond.fieldLink R_Po 21 (F_Po 1).1 (F_Po 1).2.1 (F_Po 1).2.2.1 ∈ zT := zmem1 30 rfl rfl
theorem zw_89 : Cond.fieldLink R_Dr 9 (F_Dr 0).1 (F_Dr 0).2.1 (F_Dr 0).2.2.1 ∈ zT := zmem1 44 rfl rfl
theorem zw_90 : Cond.fieldLink R_Dr 15 (F_Dr 1).1 (F_Dr 1).2.1 (F_Dr 1).2.2.1 ∈ zT := zmem1 45 rfl rfl
theorem zw_91 : Cond.fieldLink R_Dr 18 (F_Dr 2).1 (F_Dr 2).2.1 (F_Dr 2).2.2.1 ∈ zT := zmem1 46 rfl rfl
theorem zw_92 : Cond.fieldLink R_Dr 21 (F_Dr 3).1 (F_Dr 3).2.1 (F_Dr 3).2.2.1 ∈ zT := zmem1 47 rfl rfl
theorem zw_109 : Cond.fieldLink R_Wa 11 (F_Wa 0).1 (F_Wa 0).2.1 (F_Wa 0).2.2.1 ∈ zT := zmem1 64 rfl rfl
theorem zw_110 : Cond.fieldLink R_Wa 15 (F_Wa 1).1 (F_Wa 1).2.1 (F_Wa 1).2.2.1 ∈ zT := zmem1 65 rfl rfl
theorem zw_111 : Cond.fieldLink R_Wa 18 (F_Wa 2).1 (F_Wa 2).2.1 (F_Wa 2).2.2.1 ∈ zT := zmem1 66 rfl rfl
theorem zw_112 : Cond.fieldLink R_Wa 21 (F_Wa 3).1 (F_Wa 3).2.1 (F_Wa 3).2.2.1 ∈ zT := zmem1 67 rfl rfl
theorem zw_114 : Cond.fieldLink R_Wa 24 (F_Wa 4).1 (F_Wa 4).2.1 (F_Wa 4).2.2.1 ∈ zT := zmem1 69 rfl rfl
theorem zw_132 : Cond.fieldLink R_Ro 7 (F_Ro 0).1 (F_Ro 0).2.1 (F_Ro 0).2.2.1 ∈ zT := zmem1 87 rfl rfl
theorem zw_133 : Cond.fieldLink R_Ro 13 (F_Ro 1).1 (F_Ro 1).2.1 (F_Ro 1).2.2.1 ∈ zT := zmem1 88 rfl rfl
theorem zw_134 : Cond.fieldLink R_Ro 16 (F_Ro 2).1 (F_Ro 2).2.1 (F_Ro 2).2.2.1 ∈ zT := zmem1 89 rfl rfl
theorem zw_135 : Cond.fieldLink R_Ro 19 (F_Ro 3).1 (F_Ro 3).2.1 (F_Ro 3).2.2.1 ∈ zT := zmem1 90 rfl rfl
theorem zw_136 : Cond.fieldLink R_Ro 31 (F_Ro 4).1 (F_Ro 4).2.1 (F_Ro 4).2.2.1 ∈ zT := zmem1 91 rfl rfl
theorem zw_148 : Cond.methodLink R_Ps 41 y_Ps_startAnew ∈ zT := zmem1 103 rfl rfl
theorem zw_152 : Cond.methodLink R_Ps 149 y_Jarr_fill ∈ zT := zmem1 107 rfl rfl
theorem zw_155 : Cond.methodLink R_Ps 155 y_Po_clear ∈ zT := zmem1 110 rfl rfl
theorem zw_159 : Cond.methodLink R_Po 15 y_Jarr_fill ∈ zT := zmem1 114 rfl rfl
theorem zw_160 : Cond.fieldLink R_Ps 9 (F_Ps 0).1 (F_Ps 0).2.1 (F_Ps 0).2.2.1 ∈ zT := zmem1 115 rfl rfl
theorem zw_161 : Cond.fieldLink R_Ps 16 (F_Ps 1).1 (F_Ps 1).2.1 (F_Ps 1).2.2.1 ∈ zT := zmem1 116 rfl rfl
theorem zw_162 : Cond.fieldLink R_Ps 23 (F_Ps 2).1 (F_Ps 2).2.1 (F_Ps 2).2.2.1 ∈ zT := zmem1 117 rfl rfl
theorem zw_163 : Cond.fieldLink R_Ps 30 (F_Ps 3).1 (F_Ps 3).2.1 (F_Ps 3).2.2.1 ∈ zT := zmem1 118 rfl rfl
theorem zw_164 : Cond.fieldLink R_Ps 37 (F_Ps 4).1 (F_Ps 4).2.1 (F_Ps 4).2.2.1 ∈ zT := zmem1 119 rfl rfl
theorem zw_165 : Cond.fieldLink R_Ps 137 (F_Ps 5).1 (F_Ps 5).2.1 (F_Ps 5).2.2.1 ∈ zT := zmem1 120 rfl rfl
theorem zw_166 : Cond.fieldLink R_Ps 54 (F_Ps 6).1 (F_Ps 6).2.1 (F_Ps 6).2.2.1 ∈ zT := zmem1 121 rfl rfl
theorem zw_167 : Cond.fieldLink R_Ps 61 (F_Ps 7).1 (F_Ps 7).2.1 (F_Ps 7).2.2.1 ∈ zT := zmem1 122 rfl rfl
theorem zw_168 : Cond.fieldLink R_Ps 58 (F_Ps 8).1 (F_Ps 8).2.1 (F_Ps 8).2.2.1 ∈ zT := zmem1 123 rfl rfl
theorem zw_169 : Cond.fieldLink R_Ps 146 (F_Ps 9).1 (F_Ps 9).2.1 (F_Ps 9).2.2.1 ∈ zT := zmem1 124 rfl rfl
theorem zw_170 : Cond.fieldLink R_Ps 113 (F_Ps 10).1 (F_Ps 10).2.1 (F_Ps 10).2.2.1 ∈ zT := zmem1 125 rfl rfl
theorem zw_171 : Cond.fieldLink R_Ps 64 (F_Ps 11).1 (F_Ps 11).2.1 (F_Ps 11).2.2.1 ∈ zT := zmem1 126 rfl rfl
theorem zw_201 : Cond.methodLink R_Ps 45 y_Ps_isWireCount ∈ zT := zmem1 156 rfl rfl
theorem zw_204 : Cond.methodLink R_Ps 49 y_Ps_has ∈ zT := zmem1 159 rfl rfl
theorem zw_207 : Jvm.Cond.constant R_Ps 53 (16777216) ∈ zT := zmem1 162 rfl rfl
theorem zw_216 : Cond.methodLink R_Ps 68 y_Ps_fits ∈ zT := zmem1 171 rfl rfl
theorem zw_220 : Cond.methodLink R_Ps 109 y_Ps_isWire ∈ zT := zmem1 175 rfl rfl
theorem zw_224 : Cond.fieldLink R_Ps 72 "PathSums" "TURNS" "[I" ∈ zT := zmem1 179 rfl rfl
theorem zw_226 : Cond.methodLink R_Ps 75 y_Po_addXor ∈ zT := zmem1 181 rfl rfl
theorem zw_231 : Cond.methodLink R_Po 33 y_Po_add ∈ zT := zmem1 186 rfl rfl
theorem zw_235 : Cond.methodLink R_Po 25 y_Po_placeOf ∈ zT := zmem1 190 rfl rfl
theorem zw_238 : Jvm.Cond.constant R_Po 45 (16777215) ∈ zT := zmem1 193 rfl rfl
theorem zw_239 : Cond.methodLink R_Po 52 y_Jint_bitCount ∈ zT := zmem1 194 rfl rfl
theorem zw_242 : Jvm.Cond.constant R_Jint 265 (1431655765) ∈ zT := zmem1 197 rfl rfl
theorem zw_243 : Jvm.Cond.constant R_Jint 266 (858993459) ∈ zT := zmem1 198 rfl rfl
theorem zw_244 : Jvm.Cond.constant R_Jint 267 (252645135) ∈ zT := zmem1 199 rfl rfl
theorem zw_245 : Cond.methodLink R_Po 37 y_Po_addPairsBelow ∈ zT := zmem1 200 rfl rfl
theorem zw_249 : Cond.methodLink R_Po 41 y_Po_addTriplesBelow ∈ zT := zmem1 204 rfl rfl
theorem zw_253 : Cond.methodLink R_Ps 79 y_Po_addFourTimes ∈ zT := zmem1 208 rfl rfl
theorem zw_257 : Cond.methodLink R_Ps 82 y_Ps_bringBit ∈ zT := zmem1 212 rfl rfl
theorem zw_261 : Cond.methodLink R_Ps 158 y_Po_add ∈ zT := zmem1 216 rfl rfl
theorem zw_266 : Cond.methodLink R_Ps 86 y_Ps_leastBitWithRule ∈ zT := zmem1 221 rfl rfl
theorem zw_270 : Cond.methodLink R_Ps 90 y_Ps_ruleFor ∈ zT := zmem1 225 rfl rfl
theorem zw_274 : Cond.methodLink R_Ps 106 y_Po_numberOf ∈ zT := zmem1 229 rfl rfl
theorem zw_278 : Cond.methodLink R_Ps 161 y_Po_partnersOf ∈ zT := zmem1 233 rfl rfl
theorem zw_282 : Cond.methodLink R_Po 46 y_Po_numberOf ∈ zT := zmem1 237 rfl rfl
theorem zw_283 : Cond.methodLink R_Ps 94 y_Ps_doRule ∈ zT := zmem1 238 rfl rfl
theorem zw_287 : Cond.methodLink R_Ps 164 y_Ps_greatestOf ∈ zT := zmem2 2 rfl rfl
theorem zw_290 : Cond.methodLink R_Ps 167 y_Dr_keep ∈ zT := zmem2 5 rfl rfl
theorem zw_294 : Cond.methodLink R_Ps 170 y_Ps_becomeEmpty ∈ zT := zmem2 9 rfl rfl
theorem zw_298 : Cond.methodLink R_Ps 173 y_Po_replaceBit ∈ zT := zmem2 13 rfl rfl
theorem zw_302 : Cond.methodLink R_Po 49 y_Po_addXor ∈ zT := zmem2 17 rfl rfl
theorem zw_303 : Cond.methodLink R_Ps 176 y_Ps_replaceInValues ∈ zT := zmem2 18 rfl rfl
theorem zw_311 : Cond.methodLink R_Ps 97 y_Dr_look ∈ zT := zmem2 26 rfl rfl
theorem zw_319 : Cond.methodLink R_Ps 101 y_Jint_bitCount ∈ zT := zmem2 34 rfl rfl
theorem zw_324 : Jvm.Cond.constant R_Ps 112 (16777215) ∈ zT := zmem2 39 rfl rfl
theorem zw_433 : Cond.methodLink R_Ps 179 y_Wa_choose ∈ zT := zmem2 148 rfl rfl
theorem zw_438 : Cond.methodLink R_Wa 32 y_Wa_wiresWith ∈ zT := zmem2 153 rfl rfl
theorem zw_441 : Cond.methodLink R_Ps 183 y_Wa_findPhases ∈ zT := zmem2 156 rfl rfl
theorem zw_445 : Cond.methodLink R_Wa 36 y_Jarr_fill ∈ zT := zmem2 160 rfl rfl
theorem zw_446 : Cond.methodLink R_Wa 42 y_Po_numberOf ∈ zT := zmem2 161 rfl rfl
theorem zw_447 : Cond.methodLink R_Wa 48 y_Wa_addNumber ∈ zT := zmem2 162 rfl rfl
theorem zw_451 : Cond.methodLink R_Wa 52 y_Wa_layProductsBelow ∈ zT := zmem2 166 rfl rfl
theorem zw_455 : Cond.methodLink R_Wa 56 y_Wa_sumOverParts ∈ zT := zmem2 170 rfl rfl
theorem zw_459 : Cond.methodLink R_Ps 187 y_Wa_tally ∈ zT := zmem2 174 rfl rfl
theorem zw_463 : Cond.methodLink R_Wa 59 y_Jint_bitCount ∈ zT := zmem2 178 rfl rfl
theorem zw_464 : Cond.methodLink R_Ps 193 y_Ro_take ∈ zT := zmem2 179 rfl rfl
theorem zw_468 : Cond.methodLink R_Ro 22 y_Ro_multiplyByR ∈ zT := zmem2 183 rfl rfl
theorem zw_472 : Cond.methodLink R_Ro 25 Lib.Math.max.name ∈ zT := zmem2 187 rfl rfl
theorem zw_473 : Cond.static Lib.Math.max.name ∈ zT := zmem2 188 rfl rfl
theorem zw_474 : Cond.code Lib.Math.max.name Lib.Math.max.code 2 (some .int) ∈ zT := zmem2 189 rfl rfl
theorem zw_475 : Cond.methodLink R_Ro 35 y_Ro_isMultipleOfR ∈ zT := zmem2 190 rfl rfl
theorem zw_479 : Jvm.Cond.constantLong R_Ro 42 (2) ∈ zT := zmem2 194 rfl rfl
theorem zw_480 : Cond.methodLink R_Ro 39 y_Ro_halve ∈ zT := zmem2 195 rfl rfl
theorem zw_494 : Cond.methodLink R_Md 44 y_Md_start ∈ zT := zmem2 209 rfl rfl
theorem zw_498 : Cond.fieldLink R_Md 48 (F_Md 0).1 (F_Md 0).2.1 (F_Md 0).2.2.1 ∈ zT := zmem2 213 rfl rfl
theorem zw_499 : Cond.fieldLink R_Md 70 (F_Md 1).1 (F_Md 1).2.1 (F_Md 1).2.2.1 ∈ zT := zmem2 214 rfl rfl
theorem zw_500 : Cond.fieldLink R_Md 73 (F_Md 2).1 (F_Md 2).2.1 (F_Md 2).2.2.1 ∈ zT := zmem2 215 rfl rfl
theorem zw_501 : Cond.fieldLink R_Md 77 (F_Md 3).1 (F_Md 3).2.1 (F_Md 3).2.2.1 ∈ zT := zmem2 216 rfl rfl
theorem zw_502 : Cond.fieldLink R_Md 80 (F_Md 4).1 (F_Md 4).2.1 (F_Md 4).2.2.1 ∈ zT := zmem2 217 rfl rfl
theorem zw_503 : Cond.fieldLink R_Md 83 (F_Md 5).1 (F_Md 5).2.1 (F_Md 5).2.2.1 ∈ zT := zmem2 218 rfl rfl
theorem zw_504 : Cond.fieldLink R_Md 86 (F_Md 6).1 (F_Md 6).2.1 (F_Md 6).2.2.1 ∈ zT := zmem2 219 rfl rfl
theorem zw_505 : Cond.fieldLink R_Md 7 (F_Md 7).1 (F_Md 7).2.1 (F_Md 7).2.2.1 ∈ zT := zmem2 220 rfl rfl
theorem zw_506 : Cond.fieldLink R_Md 13 (F_Md 8).1 (F_Md 8).2.1 (F_Md 8).2.2.1 ∈ zT := zmem2 221 rfl rfl
theorem zw_507 : Cond.fieldLink R_Md 16 (F_Md 9).1 (F_Md 9).2.1 (F_Md 9).2.2.1 ∈ zT := zmem2 222 rfl rfl
theorem zw_508 : Cond.fieldLink R_Md 89 (F_Md 10).1 (F_Md 10).2.1 (F_Md 10).2.2.1 ∈ zT := zmem2 223 rfl rfl
theorem zw_509 : Cond.fieldLink R_Md 19 (F_Md 11).1 (F_Md 11).2.1 (F_Md 11).2.2.1 ∈ zT := zmem2 224 rfl rfl
theorem zw_510 : Cond.fieldLink R_Md 22 (F_Md 12).1 (F_Md 12).2.1 (F_Md 12).2.2.1 ∈ zT := zmem2 225 rfl rfl
theorem zw_511 : Cond.fieldLink R_Md 25 (F_Md 13).1 (F_Md 13).2.1 (F_Md 13).2.2.1 ∈ zT := zmem2 226 rfl rfl
theorem zw_512 : Cond.fieldLink R_Md 122 (F_Md 14).1 (F_Md 14).2.1 (F_Md 14).2.2.1 ∈ zT := zmem2 227 rfl rfl
theorem zw_513 : Cond.fieldLink R_Md 125 (F_Md 15).1 (F_Md 15).2.1 (F_Md 15).2.2.1 ∈ zT := zmem2 228 rfl rfl
theorem zw_514 : Cond.fieldLink R_Md 28 (F_Md 16).1 (F_Md 16).2.1 (F_Md 16).2.2.1 ∈ zT := zmem2 229 rfl rfl
theorem zw_515 : Cond.fieldLink R_Md 31 (F_Md 17).1 (F_Md 17).2.1 (F_Md 17).2.2.1 ∈ zT := zmem2 230 rfl rfl
theorem zw_516 : Cond.fieldLink R_Md 34 (F_Md 18).1 (F_Md 18).2.1 (F_Md 18).2.2.1 ∈ zT := zmem2 231 rfl rfl
theorem zw_517 : Cond.fieldLink R_Md 37 (F_Md 19).1 (F_Md 19).2.1 (F_Md 19).2.2.1 ∈ zT := zmem2 232 rfl rfl
theorem zw_518 : Cond.fieldLink R_Md 152 (F_Md 20).1 (F_Md 20).2.1 (F_Md 20).2.2.1 ∈ zT := zmem2 233 rfl rfl
theorem zw_519 : Cond.fieldLink R_Md 40 (F_Md 21).1 (F_Md 21).2.1 (F_Md 21).2.2.1 ∈ zT := zmem2 234 rfl rfl
theorem zw_582 : Cond.methodLink R_Md 92 y_Md_wiresOf ∈ zT := zmem3 57 rfl rfl
theorem zw_585 : Cond.methodLink R_Md 95 y_Md_isWire ∈ zT := zmem3 60 rfl rfl
theorem zw_589 : Cond.methodLink R_Md 99 y_Md_exchange ∈ zT := zmem3 64 rfl rfl
theorem zw_593 : Cond.methodLink R_Md 66 y_Md_addTwo ∈ zT := zmem3 68 rfl rfl
theorem zw_597 : Cond.methodLink R_Md 63 y_Md_addHalf ∈ zT := zmem3 72 rfl rfl
theorem zw_601 : Cond.methodLink R_Md 59 y_Md_add ∈ zT := zmem3 76 rfl rfl
theorem zw_605 : Cond.methodLink R_Md 56 y_Md_count ∈ zT := zmem3 80 rfl rfl
theorem zw_608 : Cond.methodLink R_Md 52 y_Md_placeOf ∈ zT := zmem3 83 rfl rfl
theorem zw_611 : Cond.methodLink R_Md 102 y_Md_addThree ∈ zT := zmem3 86 rfl rfl
theorem zw_615 : Cond.methodLink R_Md 105 y_Md_newBit ∈ zT := zmem3 90 rfl rfl
theorem zw_619 : Cond.methodLink R_Md 108 y_Md_eighthsOf ∈ zT := zmem3 94 rfl rfl
theorem zw_622 : Cond.methodLink R_Md 111 y_Md_addOr ∈ zT := zmem3 97 rfl rfl
theorem zw_630 : Cond.methodLink R_Md 146 y_Md_ruleFor ∈ zT := zmem3 105 rfl rfl
theorem zw_634 : Cond.methodLink R_Md 128 y_Md_isHidden ∈ zT := zmem3 109 rfl rfl
theorem zw_638 : Cond.methodLink R_Md 115 y_Md_inputs ∈ zT := zmem3 113 rfl rfl
theorem zw_642 : Cond.methodLink R_Md 131 y_Md_findFactor ∈ zT := zmem3 117 rfl rfl
theorem zw_646 : Cond.methodLink R_Md 119 y_Md_numberOf ∈ zT := zmem3 121 rfl rfl
theorem zw_650 : Cond.methodLink R_Md 149 y_Md_doRule ∈ zT := zmem3 125 rfl rfl
theorem zw_654 : Cond.methodLink R_Md 137 y_Md_empty ∈ zT := zmem3 129 rfl rfl
theorem zw_658 : Cond.methodLink R_Md 134 y_Md_dropBit ∈ zT := zmem3 133 rfl rfl
theorem zw_662 : Cond.methodLink R_Md 140 y_Md_greatest ∈ zT := zmem3 137 rfl rfl
theorem zw_665 : Cond.methodLink R_Md 143 y_Md_become ∈ zT := zmem3 140 rfl rfl
theorem zw_685 : Cond.methodLink R_Md 167 y_Md_raise ∈ zT := zmem3 160 rfl rfl
theorem zw_689 : Cond.methodLink R_Md 171 y_Md_listAll ∈ zT := zmem3 164 rfl rfl
theorem zw_693 : Cond.methodLink R_Md 174 y_Md_spread ∈ zT := zmem3 168 rfl rfl
theorem zw_696 : Cond.methodLink R_Md 178 y_Md_isOutput ∈ zT := zmem3 171 rfl rfl
theorem zw_700 : Cond.methodLink R_Md 155 y_Md_parity ∈ zT := zmem3 175 rfl rfl
theorem zw_703 : Cond.methodLink R_Md 182 y_Md_phaseOf ∈ zT := zmem3 178 rfl rfl
theorem zw_707 : Jvm.Cond.constantLong R_Md 185 (-1) ∈ zT := zmem3 182 rfl rfl
theorem zw_708 : Cond.methodLink R_Md 187 y_Md_settle ∈ zT := zmem3 183 rfl rfl
theorem zw_712 : Cond.methodLink R_Md 160 y_Md_timesRoot ∈ zT := zmem3 187 rfl rfl
theorem zw_716 : Cond.methodLink R_Md 163 y_Md_byRoot ∈ zT := zmem3 191 rfl rfl
theorem zw_720 : Jvm.Cond.constantLong R_Md 158 (2) ∈ zT := zmem3 195 rfl rfl
theorem mi_Jint_bitCount : zMs y_Jint_bitCount b_Jint_bitCount 1 (some .int) 1 := ⟨zmem1 196 rfl rfl, zmem1 8 rfl rfl, zmem1 195 rfl rfl, by decide, by decide, by decide +kernel⟩
theorem mi_Po_placeOf : zMs y_Po_placeOf b_Po_placeOf 8 (some .int) 1 := ⟨zmem1 192 rfl rfl, zmem1 2 rfl rfl, zmem1 191 rfl rfl, by decide, by decide, by decide +kernel⟩
theorem mi_Jarr_fill : zMs y_Jarr_fill b_Jarr_fill 4 none 2 := ⟨zmem1 109 rfl rfl, zmem1 6 rfl rfl, zmem1 108 rfl rfl, by decide, by decide, by decide +kernel⟩
theorem mi_Ps_has : zMs y_Ps_has b_Ps_has 2 (some .boolean) 2 := ⟨zmem1 161 rfl rfl, zmem1 1 rfl rfl, zmem1 160 rfl rfl, by decide, by decide, by decide +kernel⟩
theorem mi_Po_add : zMi y_Po_add b_Po_add 6 none 2 := ⟨zmem1 189 rfl rfl, zmem1 2 rfl rfl, zmem1 187 rfl rfl, zmem1 188 rfl rfl, by decide, by decide, by decide +kernel⟩
theorem mi_Po_addTriplesBelow : zMi y_Po_addTriplesBelow b_Po_addTriplesBelow 5 none 3 := ⟨zmem1 207 rfl rfl, zmem1 2 rfl rfl, zmem1 206 rfl rfl, zmem0 4 rfl rfl, by decide, by decide, by decide +kernel⟩
theorem mi_Po_addPairsBelow : zMi y_Po_addPairsBelow b_Po_addPairsBelow 6 none 4 := ⟨zmem1 203 rfl rfl, zmem1 2 rfl rfl, zmem1 202 rfl rfl, zmem0 3 rfl rfl, by decide, by decide, by decide +kernel⟩
theorem mi_Po_numberOf : zMi y_Po_numberOf b_Po_numberOf 3 (some .int) 1 := ⟨zmem1 232 rfl rfl, zmem1 2 rfl rfl, zmem1 230 rfl rfl, zmem1 231 rfl rfl, by decide, by decide, by decide +kernel⟩
theorem mi_Po_addXor : zMi y_Po_addXor b_Po_addXor 6 none 3 := ⟨zmem1 184 rfl rfl, zmem1 2 rfl rfl, zmem1 182 rfl rfl, zmem1 183 rfl rfl, by decide, by decide, by decide +kernel⟩
theorem mi_Wa_wiresWith : zMs y_Wa_wiresWith b_Wa_wiresWith 4 (some .int) 2 := ⟨zmem2 155 rfl rfl, zmem1 4 rfl rfl, zmem2 154 rfl rfl, by decide, by decide, by decide +kernel⟩
theorem mi_Wa_addNumber : zMi y_Wa_addNumber b_Wa_addNumber 3 none 2 := ⟨zmem2 165 rfl rfl, zmem1 4 rfl rfl, zmem2 164 rfl rfl, zmem0 14 rfl rfl, by decide, by decide, by decide +kernel⟩
theorem mi_Wa_layProductsBelow : zMi y_Wa_layProductsBelow b_Wa_layProductsBelow 8 none 3 := ⟨zmem2 169 rfl rfl, zmem1 4 rfl rfl, zmem2 168 rfl rfl, zmem0 15 rfl rfl, by decide, by decide, by decide +kernel⟩
theorem mi_Wa_sumOverParts : zMi y_Wa_sumOverParts b_Wa_sumOverParts 4 none 0 := ⟨zmem2 173 rfl rfl, zmem1 4 rfl rfl, zmem2 172 rfl rfl, zmem0 16 rfl rfl, by decide, by decide, by decide +kernel⟩
theorem mi_Ro_multiplyByR : zMi y_Ro_multiplyByR b_Ro_multiplyByR 9 none 0 := ⟨zmem2 186 rfl rfl, zmem1 5 rfl rfl, zmem2 185 rfl rfl, zmem0 17 rfl rfl, by decide, by decide, by decide +kernel⟩
theorem mi_Ro_isMultipleOfR : zMi y_Ro_isMultipleOfR b_Ro_isMultipleOfR 1 (some .boolean) 0 := ⟨zmem2 193 rfl rfl, zmem1 5 rfl rfl, zmem2 192 rfl rfl, zmem0 18 rfl rfl, by decide, by decide, by decide +kernel⟩
theorem mi_Ro_halve : zMi y_Ro_halve b_Ro_halve 1 none 0 := ⟨zmem2 198 rfl rfl, zmem1 5 rfl rfl, zmem2 197 rfl rfl, zmem0 19 rfl rfl, by decide, by decide, by decide +kernel⟩
theorem mi_Po_clear : zMi y_Po_clear b_Po_clear 1 none 0 := ⟨zmem1 113 rfl rfl, zmem1 2 rfl rfl, zmem1 111 rfl rfl, zmem1 112 rfl rfl, by decide, by decide, by decide +kernel⟩
theorem mi_Ps_isWireCount : zMs y_Ps_isWireCount b_Ps_isWireCount 1 (some .boolean) 1 := ⟨zmem1 158 rfl rfl, zmem1 1 rfl rfl, zmem1 157 rfl rfl, by decide, by decide, by decide +kernel⟩
theorem mi_Ps_startAnew : zMi y_Ps_startAnew b_Ps_startAnew 3 none 2 := ⟨zmem1 106 rfl rfl, zmem1 1 rfl rfl, zmem1 105 rfl rfl, zmem0 0 rfl rfl, by decide, by decide, by decide +kernel⟩
theorem mi_Ps_isWire : zMi y_Ps_isWire b_Ps_isWire 2 (some .boolean) 1 := ⟨zmem1 178 rfl rfl, zmem1 1 rfl rfl, zmem1 177 rfl rfl, zmem0 2 rfl rfl, by decide, by decide, by decide +kernel⟩
theorem mi_Po_addFourTimes : zMi y_Po_addFourTimes b_Po_addFourTimes 7 none 3 := ⟨zmem1 211 rfl rfl, zmem1 2 rfl rfl, zmem1 209 rfl rfl, zmem1 210 rfl rfl, by decide, by decide, by decide +kernel⟩
theorem mi_Po_partnersOf : zMi y_Po_partnersOf b_Po_partnersOf 7 (some .int) 1 := ⟨zmem1 236 rfl rfl, zmem1 2 rfl rfl, zmem1 234 rfl rfl, zmem1 235 rfl rfl, by decide, by decide, by decide +kernel⟩
theorem mi_Ps_ruleFor : zMi y_Ps_ruleFor b_Ps_ruleFor 4 (some .int) 1 := ⟨zmem1 228 rfl rfl, zmem1 1 rfl rfl, zmem1 227 rfl rfl, zmem0 7 rfl rfl, by decide, by decide, by decide +kernel⟩
theorem mi_Ps_greatestOf : zMs y_Ps_greatestOf b_Ps_greatestOf 2 (some .int) 1 := ⟨zmem2 4 rfl rfl, zmem1 1 rfl rfl, zmem2 3 rfl rfl, by decide, by decide, by decide +kernel⟩
theorem mi_Dr_keep : zMi y_Dr_keep b_Dr_keep 4 none 3 := ⟨zmem2 8 rfl rfl, zmem1 3 rfl rfl, zmem2 6 rfl rfl, zmem2 7 rfl rfl, by decide, by decide, by decide +kernel⟩
theorem mi_Ps_becomeEmpty : zMi y_Ps_becomeEmpty b_Ps_becomeEmpty 2 none 0 := ⟨zmem2 12 rfl rfl, zmem1 1 rfl rfl, zmem2 11 rfl rfl, zmem0 9 rfl rfl, by decide, by decide, by decide +kernel⟩
theorem mi_Po_replaceBit : zMi y_Po_replaceBit b_Po_replaceBit 7 none 2 := ⟨zmem2 16 rfl rfl, zmem1 2 rfl rfl, zmem2 14 rfl rfl, zmem2 15 rfl rfl, by decide, by decide, by decide +kernel⟩
theorem mi_Ps_replaceInValues : zMi y_Ps_replaceInValues b_Ps_replaceInValues 4 none 2 := ⟨zmem2 21 rfl rfl, zmem1 1 rfl rfl, zmem2 20 rfl rfl, zmem0 10 rfl rfl, by decide, by decide, by decide +kernel⟩
theorem mi_Wa_choose : zMi y_Wa_choose b_Wa_choose 4 none 2 := ⟨zmem2 151 rfl rfl, zmem1 4 rfl rfl, zmem2 149 rfl rfl, zmem2 150 rfl rfl, by decide, by decide, by decide +kernel⟩
theorem mi_Wa_findPhases : zMi y_Wa_findPhases b_Wa_findPhases 4 none 2 := ⟨zmem2 159 rfl rfl, zmem1 4 rfl rfl, zmem2 157 rfl rfl, zmem2 158 rfl rfl, by decide, by decide, by decide +kernel⟩
theorem mi_Wa_tally : zMi y_Wa_tally b_Wa_tally 7 none 2 := ⟨zmem2 177 rfl rfl, zmem1 4 rfl rfl, zmem2 175 rfl rfl, zmem2 176 rfl rfl, by decide, by decide, by decide +kernel⟩
theorem mi_Ro_take : zMi y_Ro_take b_Ro_take 4 none 2 := ⟨zmem2 182 rfl rfl, zmem1 5 rfl rfl, zmem2 180 rfl rfl, zmem2 181 rfl rfl, by decide, by decide, by decide +kernel⟩
theorem mi_Ps_fits : zMi y_Ps_fits b_Ps_fits 6 (some .boolean) 4 := ⟨zmem1 174 rfl rfl, zmem1 1 rfl rfl, zmem1 173 rfl rfl, zmem0 1 rfl rfl, by decide, by decide, by decide +kernel⟩
theorem mi_Ps_bringBit : zMi y_Ps_bringBit b_Ps_bringBit 4 none 2 := ⟨zmem1 215 rfl rfl, zmem1 1 rfl rfl, zmem1 214 rfl rfl, zmem0 5 rfl rfl, by decide, by decide, by decide +kernel⟩
theorem mi_Ps_leastBitWithRule : zMi y_Ps_leastBitWithRule b_Ps_leastBitWithRule 3 (some .int) 0 := ⟨zmem1 224 rfl rfl, zmem1 1 rfl rfl, zmem1 223 rfl rfl, zmem0 6 rfl rfl, by decide, by decide, by decide +kernel⟩
theorem mi_Ps_doRule : zMi y_Ps_doRule b_Ps_doRule 7 none 2 := ⟨zmem2 1 rfl rfl, zmem1 1 rfl rfl, zmem2 0 rfl rfl, zmem0 8 rfl rfl, by decide, by decide, by decide +kernel⟩
theorem mi_Dr_look : zMi y_Dr_look b_Dr_look 3 (some .int) 2 := ⟨zmem2 29 rfl rfl, zmem1 3 rfl rfl, zmem2 27 rfl rfl, zmem2 28 rfl rfl, by decide, by decide, by decide +kernel⟩
theorem mi_Md_placeOf : zMs y_Md_placeOf b_Md_placeOf 4 (some .int) 1 := ⟨zmem3 85 rfl rfl, zmem1 7 rfl rfl, zmem3 84 rfl rfl, by decide, by decide, by decide +kernel⟩
theorem mi_Md_count : zMs y_Md_count b_Md_count 3 (some .int) 1 := ⟨zmem3 82 rfl rfl, zmem1 7 rfl rfl, zmem3 81 rfl rfl, by decide, by decide, by decide +kernel⟩
theorem mi_Md_add : zMi y_Md_add b_Md_add 4 none 2 := ⟨zmem3 79 rfl rfl, zmem1 7 rfl rfl, zmem3 78 rfl rfl, zmem0 25 rfl rfl, by decide, by decide, by decide +kernel⟩
theorem mi_Md_addHalf : zMi y_Md_addHalf b_Md_addHalf 4 none 2 := ⟨zmem3 75 rfl rfl, zmem1 7 rfl rfl, zmem3 74 rfl rfl, zmem0 24 rfl rfl, by decide, by decide, by decide +kernel⟩
theorem mi_Md_addTwo : zMi y_Md_addTwo b_Md_addTwo 5 none 3 := ⟨zmem3 71 rfl rfl, zmem1 7 rfl rfl, zmem3 70 rfl rfl, zmem0 23 rfl rfl, by decide, by decide, by decide +kernel⟩
theorem mi_Md_start : zMi y_Md_start b_Md_start 3 none 1 := ⟨zmem2 212 rfl rfl, zmem1 7 rfl rfl, zmem2 211 rfl rfl, zmem0 20 rfl rfl, by decide, by decide, by decide +kernel⟩
theorem mi_Md_wiresOf : zMs y_Md_wiresOf b_Md_wiresOf 1 (some .int) 1 := ⟨zmem3 59 rfl rfl, zmem1 7 rfl rfl, zmem3 58 rfl rfl, by decide, by decide, by decide +kernel⟩
theorem mi_Md_isWire : zMi y_Md_isWire b_Md_isWire 2 (some .boolean) 1 := ⟨zmem3 63 rfl rfl, zmem1 7 rfl rfl, zmem3 62 rfl rfl, zmem0 21 rfl rfl, by decide, by decide, by decide +kernel⟩
theorem mi_Md_exchange : zMi y_Md_exchange b_Md_exchange 5 none 2 := ⟨zmem3 67 rfl rfl, zmem1 7 rfl rfl, zmem3 66 rfl rfl, zmem0 22 rfl rfl, by decide, by decide, by decide +kernel⟩
theorem mi_Md_eighthsOf : zMs y_Md_eighthsOf b_Md_eighthsOf 1 (some .int) 1 := ⟨zmem3 96 rfl rfl, zmem1 7 rfl rfl, zmem3 95 rfl rfl, by decide, by decide, by decide +kernel⟩
theorem mi_Md_addOr : zMi y_Md_addOr b_Md_addOr 9 none 4 := ⟨zmem3 100 rfl rfl, zmem1 7 rfl rfl, zmem3 99 rfl rfl, zmem0 28 rfl rfl, by decide, by decide, by decide +kernel⟩
theorem mi_Md_addThree : zMi y_Md_addThree b_Md_addThree 5 none 3 := ⟨zmem3 89 rfl rfl, zmem1 7 rfl rfl, zmem3 88 rfl rfl, zmem0 26 rfl rfl, by decide, by decide, by decide +kernel⟩
theorem mi_Md_newBit : zMi y_Md_newBit b_Md_newBit 3 none 2 := ⟨zmem3 93 rfl rfl, zmem1 7 rfl rfl, zmem3 92 rfl rfl, zmem0 27 rfl rfl, by decide, by decide, by decide +kernel⟩
theorem mi_Md_inputs : zMi y_Md_inputs b_Md_inputs 1 (some .int) 0 := ⟨zmem3 116 rfl rfl, zmem1 7 rfl rfl, zmem3 115 rfl rfl, zmem0 31 rfl rfl, by decide, by decide, by decide +kernel⟩
theorem mi_Md_numberOf : zMi y_Md_numberOf b_Md_numberOf 2 (some .int) 1 := ⟨zmem3 124 rfl rfl, zmem1 7 rfl rfl, zmem3 123 rfl rfl, zmem0 33 rfl rfl, by decide, by decide, by decide +kernel⟩
theorem mi_Md_isHidden : zMi y_Md_isHidden b_Md_isHidden 3 (some .boolean) 1 := ⟨zmem3 112 rfl rfl, zmem1 7 rfl rfl, zmem3 111 rfl rfl, zmem0 30 rfl rfl, by decide, by decide, by decide +kernel⟩
theorem mi_Md_findFactor : zMi y_Md_findFactor b_Md_findFactor 5 (some .boolean) 1 := ⟨zmem3 120 rfl rfl, zmem1 7 rfl rfl, zmem3 119 rfl rfl, zmem0 32 rfl rfl, by decide, by decide, by decide +kernel⟩
theorem mi_Md_dropBit : zMi y_Md_dropBit b_Md_dropBit 4 none 1 := ⟨zmem3 136 rfl rfl, zmem1 7 rfl rfl, zmem3 135 rfl rfl, zmem0 36 rfl rfl, by decide, by decide, by decide +kernel⟩
theorem mi_Md_empty : zMi y_Md_empty b_Md_empty 2 none 0 := ⟨zmem3 132 rfl rfl, zmem1 7 rfl rfl, zmem3 131 rfl rfl, zmem0 35 rfl rfl, by decide, by decide, by decide +kernel⟩
theorem mi_Md_greatest : zMs y_Md_greatest b_Md_greatest 2 (some .int) 1 := ⟨zmem3 139 rfl rfl, zmem1 7 rfl rfl, zmem3 138 rfl rfl, by decide, by decide, by decide +kernel⟩
theorem mi_Md_become : zMi y_Md_become b_Md_become 10 none 3 := ⟨zmem3 143 rfl rfl, zmem1 7 rfl rfl, zmem3 142 rfl rfl, zmem0 37 rfl rfl, by decide, by decide, by decide +kernel⟩
theorem mi_Md_ruleFor : zMi y_Md_ruleFor b_Md_ruleFor 3 (some .int) 1 := ⟨zmem3 108 rfl rfl, zmem1 7 rfl rfl, zmem3 107 rfl rfl, zmem0 29 rfl rfl, by decide, by decide, by decide +kernel⟩
theorem mi_Md_doRule : zMi y_Md_doRule b_Md_doRule 6 none 2 := ⟨zmem3 128 rfl rfl, zmem1 7 rfl rfl, zmem3 127 rfl rfl, zmem0 34 rfl rfl, by decide, by decide, by decide +kernel⟩
theorem mi_Md_parity : zMs y_Md_parity b_Md_parity 1 (some .int) 1 := ⟨zmem3 177 rfl rfl, zmem1 7 rfl rfl, zmem3 176 rfl rfl, by decide, by decide, by decide +kernel⟩
theorem mi_Md_timesRoot : zMi y_Md_timesRoot b_Md_timesRoot 9 none 0 := ⟨zmem3 190 rfl rfl, zmem1 7 rfl rfl, zmem3 189 rfl rfl, zmem0 43 rfl rfl, by decide, by decide, by decide +kernel⟩
theorem mi_Md_byRoot : zMi y_Md_byRoot b_Md_byRoot 2 (some .boolean) 0 := ⟨zmem3 194 rfl rfl, zmem1 7 rfl rfl, zmem3 193 rfl rfl, zmem0 44 rfl rfl, by decide, by decide, by decide +kernel⟩
theorem mi_Md_raise : zMi y_Md_raise b_Md_raise 2 (some .long) 1 := ⟨zmem3 163 rfl rfl, zmem1 7 rfl rfl, zmem3 162 rfl rfl, zmem0 38 rfl rfl, by decide, by decide, by decide +kernel⟩
theorem mi_Md_listAll : zMi y_Md_listAll b_Md_listAll 5 none 0 := ⟨zmem3 167 rfl rfl, zmem1 7 rfl rfl, zmem3 166 rfl rfl, zmem0 39 rfl rfl, by decide, by decide, by decide +kernel⟩
theorem mi_Md_spread : zMs y_Md_spread b_Md_spread 5 (some .int) 2 := ⟨zmem3 170 rfl rfl, zmem1 7 rfl rfl, zmem3 169 rfl rfl, by decide, by decide, by decide +kernel⟩
theorem mi_Md_isOutput : zMi y_Md_isOutput b_Md_isOutput 4 (some .boolean) 2 := ⟨zmem3 174 rfl rfl, zmem1 7 rfl rfl, zmem3 173 rfl rfl, zmem0 40 rfl rfl, by decide, by decide, by decide +kernel⟩
theorem mi_Md_phaseOf : zMi y_Md_phaseOf b_Md_phaseOf 4 (some .int) 1 := ⟨zmem3 181 rfl rfl, zmem1 7 rfl rfl, zmem3 180 rfl rfl, zmem0 41 rfl rfl, by decide, by decide, by decide +kernel⟩
theorem mi_Md_settle : zMi y_Md_settle b_Md_settle 2 none 0 := ⟨zmem3 186 rfl rfl, zmem1 7 rfl rfl, zmem3 185 rfl rfl, zmem0 42 rfl rfl, by decide, by decide, by decide +kernel⟩
end
section
/-- java/lang/Integer.bitCount(I)I -/
def f_Jint_bitCount (x0 : Int32) : Int32 :=
  zlet (x0 - ((zushr x0 (1 : Int32)) &&& (1431655765 : Int32))) fun y_1 =>
  zlet ((y_1 &&& (858993459 : Int32)) + ((zushr y_1 (2 : Int32)) &&& (858993459 : Int32))) fun y_2 =>
  zlet ((y_2 + (zushr y_2 (4 : Int32))) &&& (252645135 : Int32)) fun y_3 =>
  zlet (y_3 + (zushr y_3 (8 : Int32))) fun y_4 =>
  zlet (y_4 + (zushr y_4 (16 : Int32))) fun y_5 =>
  y_5 &&& (63 : Int32)
def f_Jarr_fill_l5 (n_arg0 : Nat) (x1 : Int32) (x3 : Int32) (x2 : Int32) (v_arg0 : Nat → Int32) : Option ((Int32 × (Nat → Int32)) ⊕ ((Nat → Int32))) :=
  if x3 ≤ x2 then (
    some (.inr (v_arg0)))
  else (
    if x2 < 0 ∨ n_arg0 ≤ x2.toNatClampNeg then none else
    zlet (upd v_arg0 x2.toNatClampNeg x1) fun u_3 =>
    zlet (x2 + 1) fun y_4 =>
    some (.inl (y_4, u_3)))
/-- java/util/Arrays.fill([II)V -/
def f_Jarr_fill (n_arg0 : Nat) (x1 : Int32) (v_arg0 : Nat → Int32) : Option ((Nat → Int32)) :=
  zlet (Int32.ofNat n_arg0) fun y_1 =>
  zb1 (zloop (fun q => f_Jarr_fill_l5 n_arg0 x1 y_1 q.1 q.2) zF ((0 : Int32), v_arg0)) fun q_2 =>
  some q_2
/-- PathSums.has(II)Z -/
def f_Ps_has (x0 : Int32) (x1 : Int32) : Int32 :=
  if ((zushr x0 x1) &&& (1 : Int32)) = 0 then (
    (0 : Int32))
  else (
    (1 : Int32))
/-- PathSums$Polynomial.placeOf(I)I -/
def f_Po_placeOf (x0 : Int32) : Int32 :=
  zlet (x0 &&& (-x0)) fun y_1 =>
  zlet ((x0 &&& (y_1 ^^^ (-1 : Int32))) &&& (-(x0 &&& (y_1 ^^^ (-1 : Int32))))) fun y_2 =>
  zlet ((x0 &&& (y_1 ^^^ (-1 : Int32))) &&& (y_2 ^^^ (-1 : Int32))) fun y_3 =>
  if x0 < 0 then (
    (-1 : Int32))
  else (
    if (16777215 : Int32) < x0 then (
      (-1 : Int32))
    else (
      if (y_3 &&& (y_3 - (1 : Int32))) = 0 then (
        if x0 = 0 then (
          (0 : Int32))
        else (
          zlet (f_Jint_bitCount (y_1 - (1 : Int32))) fun y_9 =>
          if y_2 = 0 then (
            (1 : Int32) + y_9)
          else (
            zlet (f_Jint_bitCount (y_2 - (1 : Int32))) fun y_12 =>
            zlet (((y_12 * (y_12 - (1 : Int32))) / (2 : Int32)) + y_9) fun y_13 =>
            if y_3 = 0 then (
              (25 : Int32) + y_13)
            else (
              zlet (f_Jint_bitCount (y_3 - (1 : Int32))) fun y_16 =>
              ((301 : Int32) + (((y_16 * (y_16 - (1 : Int32))) * (y_16 - (2 : Int32))) / (6 : Int32))) + y_13))))
      else (
        (-1 : Int32))))
/-- PathSums$Polynomial.numberOf(I)I -/
def f_Po_numberOf (x1 : Int32) (v_numbers : Nat → Int32) : Option (Int32) :=
  zlet (f_Po_placeOf x1) fun y_2 =>
  if y_2 < 0 then (
    some (0 : Int32))
  else (
    if (2325 : Int32) ≤ y_2 then (
      some (0 : Int32))
    else (
      if y_2 < 0 ∨ 2325 ≤ y_2.toNatClampNeg then none else
      some (v_numbers y_2.toNatClampNeg)))
/-- PathSums$Polynomial.add(II)V -/
def f_Po_add (x1 : Int32) (x2 : Int32) (v_monomials : Int32) (v_numbers : Nat → Int32) : Option (Int32 × (Nat → Int32)) :=
  zlet (f_Po_placeOf x1) fun y_2 =>
  if y_2 < 0 then (
    some (v_monomials, v_numbers))
  else (
    if y_2 < (2325 : Int32) then (
      if y_2 < 0 ∨ 2325 ≤ y_2.toNatClampNeg then none else
      zlet (v_numbers y_2.toNatClampNeg) fun y_6 =>
      zlet ((y_6 + x2) &&& (7 : Int32)) fun y_7 =>
      if y_2 < 0 ∨ 2325 ≤ y_2.toNatClampNeg then none else
      zlet (upd v_numbers y_2.toNatClampNeg y_7) fun u_9 =>
      if y_7 = 0 then (
        if y_6 = 0 then (
          zlet (v_monomials + ((0 : Int32) - (0 : Int32))) fun y_12 =>
          some (y_12, u_9))
        else (
          zlet (v_monomials + ((0 : Int32) - (1 : Int32))) fun y_13 =>
          some (y_13, u_9)))
      else (
        if y_6 = 0 then (
          zlet (v_monomials + ((1 : Int32) - (0 : Int32))) fun y_15 =>
          some (y_15, u_9))
        else (
          zlet (v_monomials + ((1 : Int32) - (1 : Int32))) fun y_16 =>
          some (y_16, u_9))))
    else (
      some (v_monomials, v_numbers)))
/-- PathSums$Polynomial.clear()V -/
def f_Po_clear (v_monomials : Int32) (v_numbers : Nat → Int32) : Option (Int32 × (Nat → Int32)) :=
  zb1 (f_Jarr_fill 2325 (0 : Int32) v_numbers) fun q_2 =>
  some ((0 : Int32), q_2)
def f_Po_addTriplesBelow_l3 (x1 : Int32) (x2 : Int32) (x3 : Int32) (x4 : Int32) (v_monomials : Int32) (v_numbers : Nat → Int32) : Option ((Int32 × Int32 × (Nat → Int32)) ⊕ (Int32 × (Nat → Int32))) :=
  if x1 ≤ x4 then (
    some (.inr (v_monomials, v_numbers)))
  else (
    if (f_Ps_has x2 x4) = 0 then (
      zlet (x4 + 1) fun y_4 =>
      some (.inl (y_4, v_monomials, v_numbers)))
    else (
      zb2 (f_Po_add (x3 ||| ((1 : Int32) <<< (x4 &&& 31))) (4 : Int32) v_monomials v_numbers) fun q_6 q_7 =>
      zlet (x4 + 1) fun y_8 =>
      some (.inl (y_8, q_6, q_7))))
/-- PathSums$Polynomial.addTriplesBelow(III)V -/
def f_Po_addTriplesBelow (x1 : Int32) (x2 : Int32) (x3 : Int32) (v_monomials : Int32) (v_numbers : Nat → Int32) : Option (Int32 × (Nat → Int32)) :=
  zb2 (zloop (fun q => f_Po_addTriplesBelow_l3 x1 x2 x3 q.1 q.2.1 q.2.2) zF ((0 : Int32), v_monomials, v_numbers)) fun q_1 q_2 =>
  some (q_1, q_2)
def f_Po_addPairsBelow_l3 (x1 : Int32) (x2 : Int32) (x3 : Int32) (x4 : Int32) (x5 : Int32) (v_monomials : Int32) (v_numbers : Nat → Int32) : Option ((Int32 × Int32 × (Nat → Int32)) ⊕ (Int32 × (Nat → Int32))) :=
  if x1 ≤ x5 then (
    some (.inr (v_monomials, v_numbers)))
  else (
    if (f_Ps_has x3 x5) = 0 then (
      zlet (x5 + 1) fun y_4 =>
      some (.inl (y_4, v_monomials, v_numbers)))
    else (
      zb2 (f_Po_add (x4 ||| ((1 : Int32) <<< (x5 &&& 31))) ((-2 : Int32) * x2) v_monomials v_numbers) fun q_6 q_7 =>
      if (f_Ps_has x2 (0 : Int32)) = 0 then (
        zlet (x5 + 1) fun y_10 =>
        some (.inl (y_10, q_6, q_7)))
      else (
        zb2 (f_Po_addTriplesBelow x5 x3 (x4 ||| ((1 : Int32) <<< (x5 &&& 31))) q_6 q_7) fun q_12 q_13 =>
        zlet (x5 + 1) fun y_14 =>
        some (.inl (y_14, q_12, q_13)))))
/-- PathSums$Polynomial.addPairsBelow(IIII)V -/
def f_Po_addPairsBelow (x1 : Int32) (x2 : Int32) (x3 : Int32) (x4 : Int32) (v_monomials : Int32) (v_numbers : Nat → Int32) : Option (Int32 × (Nat → Int32)) :=
  zb2 (zloop (fun q => f_Po_addPairsBelow_l3 x1 x2 x3 x4 q.1 q.2.1 q.2.2) zF ((0 : Int32), v_monomials, v_numbers)) fun q_1 q_2 =>
  some (q_1, q_2)
def f_Po_addXor_l25 (x2 : Int32) (x3 : Int32) (x4 : Int32) (x5 : Int32) (v_monomials : Int32) (v_numbers : Nat → Int32) : Option ((Int32 × Int32 × (Nat → Int32)) ⊕ (Int32 × (Nat → Int32))) :=
  if (24 : Int32) ≤ x5 then (
    some (.inr (v_monomials, v_numbers)))
  else (
    if (f_Ps_has x2 x5) = 0 then (
      zlet (x5 + 1) fun y_4 =>
      some (.inl (y_4, v_monomials, v_numbers)))
    else (
      zb2 (f_Po_add (x3 ||| ((1 : Int32) <<< (x5 &&& 31))) x4 v_monomials v_numbers) fun q_6 q_7 =>
      if (x4 &&& (3 : Int32)) = 0 then (
        zlet (x5 + 1) fun y_9 =>
        some (.inl (y_9, q_6, q_7)))
      else (
        zb2 (f_Po_addPairsBelow x5 x4 x2 (x3 ||| ((1 : Int32) <<< (x5 &&& 31))) q_6 q_7) fun q_11 q_12 =>
        zlet (x5 + 1) fun y_13 =>
        some (.inl (y_13, q_11, q_12)))))
def f_Po_addXor_j22 (x2 : Int32) (x3 : Int32) (x4 : Int32) (v_monomials : Int32) (v_numbers : Nat → Int32) : Option (Int32 × (Nat → Int32)) :=
  zb2 (zloop (fun q => f_Po_addXor_l25 x2 x3 x4 q.1 q.2.1 q.2.2) zF ((0 : Int32), v_monomials, v_numbers)) fun q_1 q_2 =>
  some (q_1, q_2)
/-- PathSums$Polynomial.addXor(III)V -/
def f_Po_addXor (x1 : Int32) (x2 : Int32) (x3 : Int32) (v_monomials : Int32) (v_numbers : Nat → Int32) : Option (Int32 × (Nat → Int32)) :=
  if (f_Ps_has x2 (24 : Int32)) = 0 then (
    f_Po_addXor_j22 x2 x3 x1 v_monomials v_numbers)
  else (
    zb2 (f_Po_add x3 x1 v_monomials v_numbers) fun q_4 q_5 =>
    zlet (-x1) fun y_6 =>
    f_Po_addXor_j22 x2 x3 y_6 q_4 q_5)
def f_Po_addFourTimes_l47 (x1 : Int32) (x2 : Int32) (x3 : Int32) (x4 : Int32) (x5 : Int32) (x6 : Int32) (v_monomials : Int32) (v_numbers : Nat → Int32) : Option ((Int32 × Int32 × (Nat → Int32)) ⊕ (Int32 × (Nat → Int32))) :=
  if (24 : Int32) < x6 then (
    some (.inr (v_monomials, v_numbers)))
  else (
    if (f_Ps_has x3 x6) = 0 then (
      zlet (x6 + 1) fun y_4 =>
      some (.inl (y_4, v_monomials, v_numbers)))
    else (
      zb2 (f_Po_add (((((1 : Int32) <<< (x4 &&& 31)) ||| ((1 : Int32) <<< (x5 &&& 31))) ||| ((1 : Int32) <<< (x6 &&& 31))) &&& (16777215 : Int32)) (4 : Int32) v_monomials v_numbers) fun q_6 q_7 =>
      zlet (x6 + 1) fun y_8 =>
      some (.inl (y_8, q_6, q_7))))
def f_Po_addFourTimes_l25 (x1 : Int32) (x2 : Int32) (x3 : Int32) (x4 : Int32) (x5 : Int32) (v_monomials : Int32) (v_numbers : Nat → Int32) : Option ((Int32 × Int32 × (Nat → Int32)) ⊕ (Int32 × (Nat → Int32))) :=
  if (24 : Int32) < x5 then (
    some (.inr (v_monomials, v_numbers)))
  else (
    if (f_Ps_has x2 x5) = 0 then (
      zlet (x5 + 1) fun y_4 =>
      some (.inl (y_4, v_monomials, v_numbers)))
    else (
      zb2 (zloop (fun q => f_Po_addFourTimes_l47 x1 x2 x3 x4 x5 q.1 q.2.1 q.2.2) zF ((0 : Int32), v_monomials, v_numbers)) fun q_5 q_6 =>
      zlet (x5 + 1) fun y_8 =>
      some (.inl (y_8, q_5, q_6))))
def f_Po_addFourTimes_l3 (x1 : Int32) (x2 : Int32) (x3 : Int32) (x4 : Int32) (v_monomials : Int32) (v_numbers : Nat → Int32) : Option ((Int32 × Int32 × (Nat → Int32)) ⊕ (Int32 × (Nat → Int32))) :=
  if (24 : Int32) < x4 then (
    some (.inr (v_monomials, v_numbers)))
  else (
    if (f_Ps_has x1 x4) = 0 then (
      zlet (x4 + 1) fun y_4 =>
      some (.inl (y_4, v_monomials, v_numbers)))
    else (
      zb2 (zloop (fun q => f_Po_addFourTimes_l25 x1 x2 x3 x4 q.1 q.2.1 q.2.2) zF ((0 : Int32), v_monomials, v_numbers)) fun q_5 q_6 =>
      zlet (x4 + 1) fun y_8 =>
      some (.inl (y_8, q_5, q_6))))
/-- PathSums$Polynomial.addFourTimes(III)V -/
def f_Po_addFourTimes (x1 : Int32) (x2 : Int32) (x3 : Int32) (v_monomials : Int32) (v_numbers : Nat → Int32) : Option (Int32 × (Nat → Int32)) :=
  zb2 (zloop (fun q => f_Po_addFourTimes_l3 x1 x2 x3 q.1 q.2.1 q.2.2) zF ((0 : Int32), v_monomials, v_numbers)) fun q_1 q_2 =>
  some (q_1, q_2)
def f_Po_replaceBit_l11 (x1 : Int32) (x2 : Int32) (x3 : Int32) (x4 : Int32) (v_monomials : Int32) (v_numbers : Nat → Int32) : Option ((Int32 × Int32 × (Nat → Int32)) ⊕ (Int32 × (Nat → Int32))) :=
  if x3 < x4 then (
    some (.inr (v_monomials, v_numbers)))
  else (
    zlet ((((1 : Int32) <<< (x1 &&& 31)) ||| ((1 : Int32) <<< (x3 &&& 31))) ||| ((1 : Int32) <<< (x4 &&& 31))) fun y_2 =>
    zb1 (f_Po_numberOf y_2 v_numbers) fun r_4 =>
    if r_4 = 0 then (
      zlet (x4 + 1) fun y_6 =>
      some (.inl (y_6, v_monomials, v_numbers)))
    else (
      zb2 (f_Po_add y_2 (-r_4) v_monomials v_numbers) fun q_8 q_9 =>
      zb2 (f_Po_addXor r_4 x2 (y_2 &&& (((1 : Int32) <<< (x1 &&& 31)) ^^^ (-1 : Int32))) q_8 q_9) fun q_11 q_12 =>
      zlet (x4 + 1) fun y_13 =>
      some (.inl (y_13, q_11, q_12))))
def f_Po_replaceBit_l2 (x1 : Int32) (x2 : Int32) (x3 : Int32) (v_monomials : Int32) (v_numbers : Nat → Int32) : Option ((Int32 × Int32 × (Nat → Int32)) ⊕ (Int32 × (Nat → Int32))) :=
  if (24 : Int32) ≤ x3 then (
    some (.inr (v_monomials, v_numbers)))
  else (
    zb2 (zloop (fun q => f_Po_replaceBit_l11 x1 x2 x3 q.1 q.2.1 q.2.2) zF ((0 : Int32), v_monomials, v_numbers)) fun q_2 q_3 =>
    zlet (x3 + 1) fun y_5 =>
    some (.inl (y_5, q_2, q_3)))
/-- PathSums$Polynomial.replaceBit(II)V -/
def f_Po_replaceBit (x1 : Int32) (x2 : Int32) (v_monomials : Int32) (v_numbers : Nat → Int32) : Option (Int32 × (Nat → Int32)) :=
  zb2 (zloop (fun q => f_Po_replaceBit_l2 x1 x2 q.1 q.2.1 q.2.2) zF ((0 : Int32), v_monomials, v_numbers)) fun q_1 q_2 =>
  some (q_1, q_2)
def f_Po_partnersOf_l13 (x1 : Int32) (x3 : Int32) (v_numbers : Nat → Int32) (x2 : Int32) (x4 : Int32) : Option ((Int32 × Int32) ⊕ ((Int32) ⊕ (Int32))) :=
  if x3 < x4 then (
    some (.inr (.inl (x2))))
  else (
    zlet ((((1 : Int32) <<< (x1 &&& 31)) ||| ((1 : Int32) <<< (x3 &&& 31))) ||| ((1 : Int32) <<< (x4 &&& 31))) fun y_2 =>
    if y_2 = ((1 : Int32) <<< (x1 &&& 31)) then (
      zlet (x2 ||| (0 : Int32)) fun y_4 =>
      zlet (x4 + 1) fun y_5 =>
      some (.inl (y_4, y_5)))
    else (
      zb1 (f_Po_numberOf y_2 v_numbers) fun r_7 =>
      if r_7 = 0 then (
        if r_7 = 0 then (
          zlet (x2 ||| (0 : Int32)) fun y_10 =>
          zlet (x4 + 1) fun y_11 =>
          some (.inl (y_10, y_11)))
        else (
          zlet (x2 ||| (y_2 &&& (((1 : Int32) <<< (x1 &&& 31)) ^^^ (-1 : Int32)))) fun y_12 =>
          zlet (x4 + 1) fun y_13 =>
          some (.inl (y_12, y_13))))
      else (
        if r_7 = (4 : Int32) then (
          if (f_Jint_bitCount y_2) ≤ (2 : Int32) then (
            if r_7 = 0 then (
              zlet (x2 ||| (0 : Int32)) fun y_18 =>
              zlet (x4 + 1) fun y_19 =>
              some (.inl (y_18, y_19)))
            else (
              zlet (x2 ||| (y_2 &&& (((1 : Int32) <<< (x1 &&& 31)) ^^^ (-1 : Int32)))) fun y_20 =>
              zlet (x4 + 1) fun y_21 =>
              some (.inl (y_20, y_21))))
          else (
            some (.inr (.inr (-1 : Int32)))))
        else (
          some (.inr (.inr (-1 : Int32)))))))
def f_Po_partnersOf_l4 (x1 : Int32) (v_numbers : Nat → Int32) (x2 : Int32) (x3 : Int32) : Option ((Int32 × Int32) ⊕ ((Int32) ⊕ (Int32))) :=
  if (24 : Int32) ≤ x3 then (
    some (.inr (.inl (x2))))
  else (
    zs1 (zloop (fun q => f_Po_partnersOf_l13 x1 x3 v_numbers q.1 q.2) zF (x2, (0 : Int32))) fun y_2 =>
    zlet (x3 + 1) fun y_4 =>
    some (.inl (y_2, y_4)))
/-- PathSums$Polynomial.partnersOf(I)I -/
def f_Po_partnersOf (x1 : Int32) (v_numbers : Nat → Int32) : Option (Int32) :=
  zr1 (zloop (fun q => f_Po_partnersOf_l4 x1 v_numbers q.1 q.2) zF ((0 : Int32), (0 : Int32))) fun y_1 =>
  some y_1
/-- PathSums$DoneRules.keep(III)V -/
def f_Dr_keep (x1 : Int32) (x2 : Int32) (x3 : Int32) (v_count : Int32) (v_kinds : Nat → Int32) (v_ys : Nat → Int32) (v_zs : Nat → Int32) : Option (Int32 × (Nat → Int32) × (Nat → Int32) × (Nat → Int32)) :=
  if v_count < 0 then (
    some (v_count, v_kinds, v_ys, v_zs))
  else (
    if v_count < (24 : Int32) then (
      if v_count < 0 ∨ 24 ≤ v_count.toNatClampNeg then none else
      zlet (upd v_kinds v_count.toNatClampNeg x1) fun u_4 =>
      if v_count < 0 ∨ 24 ≤ v_count.toNatClampNeg then none else
      zlet (upd v_ys v_count.toNatClampNeg x2) fun u_6 =>
      if v_count < 0 ∨ 24 ≤ v_count.toNatClampNeg then none else
      zlet (upd v_zs v_count.toNatClampNeg x3) fun u_8 =>
      zlet (v_count + (1 : Int32)) fun y_9 =>
      some (y_9, u_4, u_6, u_8))
    else (
      some (v_count, v_kinds, v_ys, v_zs)))
/-- PathSums$DoneRules.look(II)I -/
def f_Dr_look (x1 : Int32) (x2 : Int32) (v_count : Int32) (v_kinds : Nat → Int32) (v_ys : Nat → Int32) (v_zs : Nat → Int32) : Option (Int32) :=
  if x1 < 0 then (
    some (-1 : Int32))
  else (
    if v_count ≤ x1 then (
      some (-1 : Int32))
    else (
      if x1 < (24 : Int32) then (
        if x2 = 0 then (
          if x1 < 0 ∨ 24 ≤ x1.toNatClampNeg then none else
          some (v_kinds x1.toNatClampNeg))
        else (
        if x2 = 1 then (
          if x1 < 0 ∨ 24 ≤ x1.toNatClampNeg then none else
          some (v_ys x1.toNatClampNeg))
        else (
        if x2 = 2 then (
          if x1 < 0 ∨ 24 ≤ x1.toNatClampNeg then none else
          some (v_zs x1.toNatClampNeg))
        else (
        some (-1 : Int32)))))
      else (
        some (-1 : Int32))))
def f_Wa_wiresWith_l4 (x0 : Int32) (v_arg1 : Nat → Int32) (x2 : Int32) (x3 : Int32) : Option ((Int32 × Int32) ⊕ (Int32)) :=
  if (6 : Int32) ≤ x3 then (
    some (.inr (x2)))
  else (
    if (6 : Int32) ≤ x3 then (
      some (.inr (x2)))
    else (
      if x3 < 0 ∨ 6 ≤ x3.toNatClampNeg then none else
      zlet (x2 ||| (((zushr (v_arg1 x3.toNatClampNeg) x0) &&& (1 : Int32)) <<< (x3 &&& 31))) fun y_4 =>
      zlet (x3 + 1) fun y_5 =>
      some (.inl (y_4, y_5))))
/-- PathSums$Ways.wiresWith(I[I)I -/
def f_Wa_wiresWith (x0 : Int32) (v_arg1 : Nat → Int32) : Option (Int32) :=
  zb1 (zloop (fun q => f_Wa_wiresWith_l4 x0 v_arg1 q.1 q.2) zF ((0 : Int32), (0 : Int32))) fun y_1 =>
  some y_1
def f_Wa_choose_l7 (x1 : Int32) (v_arg1 : Nat → Int32) (x3 : Int32) (v_chosen : Int32) (v_wayOf : Nat → Int32) (v_wiresOf : Nat → Int32) : Option ((Int32 × Int32 × (Nat → Int32) × (Nat → Int32)) ⊕ (Int32 × (Nat → Int32) × (Nat → Int32))) :=
  if (24 : Int32) ≤ x3 then (
    some (.inr (v_chosen, v_wayOf, v_wiresOf)))
  else (
    if x3 < 0 ∨ 24 ≤ x3.toNatClampNeg then none else
    zlet (upd v_wayOf x3.toNatClampNeg (0 : Int32)) fun u_3 =>
    if (f_Ps_has x1 x3) = 0 then (
      zlet (x3 + 1) fun y_6 =>
      some (.inl (y_6, v_chosen, u_3, v_wiresOf)))
    else (
      if (12 : Int32) ≤ v_chosen then (
        zlet (x3 + 1) fun y_8 =>
        some (.inl (y_8, v_chosen, u_3, v_wiresOf)))
      else (
        if x3 < 0 ∨ 24 ≤ x3.toNatClampNeg then none else
        zlet (upd u_3 x3.toNatClampNeg ((1 : Int32) <<< (v_chosen &&& 31))) fun u_10 =>
        zb1 (f_Wa_wiresWith x3 v_arg1) fun r_12 =>
        if v_chosen < 0 ∨ 12 ≤ v_chosen.toNatClampNeg then none else
        zlet (upd v_wiresOf v_chosen.toNatClampNeg r_12) fun u_14 =>
        zlet (v_chosen + (1 : Int32)) fun y_15 =>
        zlet (x3 + 1) fun y_16 =>
        some (.inl (y_16, y_15, u_10, u_14)))))
/-- PathSums$Ways.choose(I[I)V -/
def f_Wa_choose (x1 : Int32) (v_chosen : Int32) (v_wayOf : Nat → Int32) (v_arg1 : Nat → Int32) (v_wiresOf : Nat → Int32) : Option (Int32 × (Nat → Int32) × (Nat → Int32)) :=
  zb3 (zloop (fun q => f_Wa_choose_l7 x1 v_arg1 q.1 q.2.1 q.2.2.1 q.2.2.2) zF ((0 : Int32), (0 : Int32), v_wayOf, v_wiresOf)) fun q_1 q_2 q_3 =>
  some (q_1, q_2, q_3)
/-- PathSums$Ways.addNumber(II)V -/
def f_Wa_addNumber (x1 : Int32) (x2 : Int32) (v_phases : Nat → Int32) : Option ((Nat → Int32)) :=
  if x1 < 0 then (
    some v_phases)
  else (
    if (4096 : Int32) ≤ x1 then (
      some v_phases)
    else (
      if x1 < 0 ∨ 4096 ≤ x1.toNatClampNeg then none else
      if x1 < 0 ∨ 4096 ≤ x1.toNatClampNeg then none else
      zlet (upd v_phases x1.toNatClampNeg ((v_phases x1.toNatClampNeg) + x2)) fun u_5 =>
      some u_5))
def f_Wa_layProductsBelow_l59 (x1 : Int32) (x3 : Int32) (x4 : Int32) (x5 : Int32) (x6 : Int32) (v_wayOf : Nat → Int32) (v_arg1_numbers : Nat → Int32) (x7 : Int32) (v_phases : Nat → Int32) : Option ((Int32 × (Nat → Int32)) ⊕ ((Nat → Int32))) :=
  if x4 ≤ x7 then (
    some (.inr (v_phases)))
  else (
    if (f_Ps_has x3 x7) = 0 then (
      zlet (x7 + 1) fun y_4 =>
      some (.inl (y_4, v_phases)))
    else (
      if x7 < 0 ∨ 24 ≤ x7.toNatClampNeg then none else
      zb1 (f_Po_numberOf (x5 ||| ((1 : Int32) <<< (x7 &&& 31))) v_arg1_numbers) fun r_7 =>
      zb1 (f_Wa_addNumber (x6 ||| (v_wayOf x7.toNatClampNeg)) r_7 v_phases) fun q_9 =>
      zlet (x7 + 1) fun y_10 =>
      some (.inl (y_10, q_9))))
def f_Wa_layProductsBelow_l3 (x1 : Int32) (x3 : Int32) (v_wayOf : Nat → Int32) (v_arg1_numbers : Nat → Int32) (x4 : Int32) (v_phases : Nat → Int32) : Option ((Int32 × (Nat → Int32)) ⊕ ((Nat → Int32))) :=
  if x1 ≤ x4 then (
    some (.inr (v_phases)))
  else (
    if (f_Ps_has x3 x4) = 0 then (
      zlet (x4 + 1) fun y_4 =>
      some (.inl (y_4, v_phases)))
    else (
      zlet (((1 : Int32) <<< (x1 &&& 31)) ||| ((1 : Int32) <<< (x4 &&& 31))) fun y_5 =>
      if x1 < 0 ∨ 24 ≤ x1.toNatClampNeg then none else
      if x4 < 0 ∨ 24 ≤ x4.toNatClampNeg then none else
      zlet ((v_wayOf x1.toNatClampNeg) ||| (v_wayOf x4.toNatClampNeg)) fun y_8 =>
      zb1 (f_Po_numberOf y_5 v_arg1_numbers) fun r_10 =>
      zb1 (f_Wa_addNumber y_8 r_10 v_phases) fun q_12 =>
      zb1 (zloop (fun q => f_Wa_layProductsBelow_l59 x1 x3 x4 y_5 y_8 v_wayOf v_arg1_numbers q.1 q.2) zF ((0 : Int32), q_12)) fun q_13 =>
      zlet (x4 + 1) fun y_15 =>
      some (.inl (y_15, q_13))))
/-- PathSums$Ways.layProductsBelow(ILPathSums$Polynomial;I)V -/
def f_Wa_layProductsBelow (x1 : Int32) (x3 : Int32) (v_wayOf : Nat → Int32) (v_arg1_numbers : Nat → Int32) (v_phases : Nat → Int32) : Option ((Nat → Int32)) :=
  zb1 (zloop (fun q => f_Wa_layProductsBelow_l3 x1 x3 v_wayOf v_arg1_numbers q.1 q.2) zF ((0 : Int32), v_phases)) fun q_1 =>
  some q_1
def f_Wa_sumOverParts_l16 (x1 : Int32) (x2 : Int32) (v_chosen : Int32) (x3 : Int32) (v_phases : Nat → Int32) : Option ((Int32 × (Nat → Int32)) ⊕ ((Nat → Int32))) :=
  if ((1 : Int32) <<< (v_chosen &&& 31)) ≤ x3 then (
    some (.inr (v_phases)))
  else (
    if (4096 : Int32) ≤ x3 then (
      some (.inr (v_phases)))
    else (
      if (x3 &&& x2) = 0 then (
        zlet (x3 + 1) fun y_4 =>
        some (.inl (y_4, v_phases)))
      else (
        if x3 < 0 ∨ 4096 ≤ x3.toNatClampNeg then none else
        if (x3 ^^^ x2) < 0 ∨ 4096 ≤ (x3 ^^^ x2).toNatClampNeg then none else
        if x3 < 0 ∨ 4096 ≤ x3.toNatClampNeg then none else
        zlet (upd v_phases x3.toNatClampNeg ((v_phases x3.toNatClampNeg) + (v_phases (x3 ^^^ x2).toNatClampNeg))) fun u_8 =>
        zlet (x3 + 1) fun y_9 =>
        some (.inl (y_9, u_8)))))
def f_Wa_sumOverParts_l2 (v_chosen : Int32) (x1 : Int32) (v_phases : Nat → Int32) : Option ((Int32 × (Nat → Int32)) ⊕ ((Nat → Int32))) :=
  if v_chosen ≤ x1 then (
    some (.inr (v_phases)))
  else (
    zlet ((1 : Int32) <<< (x1 &&& 31)) fun y_2 =>
    zb1 (zloop (fun q => f_Wa_sumOverParts_l16 x1 y_2 v_chosen q.1 q.2) zF ((0 : Int32), v_phases)) fun q_3 =>
    zlet (x1 + 1) fun y_5 =>
    some (.inl (y_5, q_3)))
/-- PathSums$Ways.sumOverParts()V -/
def f_Wa_sumOverParts (v_chosen : Int32) (v_phases : Nat → Int32) : Option ((Nat → Int32)) :=
  zb1 (zloop (fun q => f_Wa_sumOverParts_l2 v_chosen q.1 q.2) zF ((0 : Int32), v_phases)) fun q_1 =>
  some q_1
def f_Wa_findPhases_l21 (x2 : Int32) (v_chosen : Int32) (v_arg0_numbers : Nat → Int32) (v_wayOf : Nat → Int32) (x3 : Int32) (v_phases : Nat → Int32) : Option ((Int32 × (Nat → Int32)) ⊕ ((Nat → Int32))) :=
  if (24 : Int32) ≤ x3 then (
    some (.inr (v_phases)))
  else (
    if (f_Ps_has x2 x3) = 0 then (
      zlet (x3 + 1) fun y_4 =>
      some (.inl (y_4, v_phases)))
    else (
      if x3 < 0 ∨ 24 ≤ x3.toNatClampNeg then none else
      zb1 (f_Po_numberOf ((1 : Int32) <<< (x3 &&& 31)) v_arg0_numbers) fun r_7 =>
      zb1 (f_Wa_addNumber (v_wayOf x3.toNatClampNeg) r_7 v_phases) fun q_9 =>
      zb1 (f_Wa_layProductsBelow x3 x2 v_wayOf v_arg0_numbers q_9) fun q_11 =>
      zlet (x3 + 1) fun y_12 =>
      some (.inl (y_12, q_11))))
/-- PathSums$Ways.findPhases(LPathSums$Polynomial;I)V -/
def f_Wa_findPhases (x2 : Int32) (v_chosen : Int32) (v_phases : Nat → Int32) (v_arg0_numbers : Nat → Int32) (v_wayOf : Nat → Int32) : Option ((Nat → Int32)) :=
  zb1 (f_Jarr_fill 4096 (0 : Int32) v_phases) fun q_2 =>
  zb1 (f_Po_numberOf (0 : Int32) v_arg0_numbers) fun r_4 =>
  zlet (upd q_2 (0 : Int32).toNatClampNeg r_4) fun u_5 =>
  zb1 (zloop (fun q => f_Wa_findPhases_l21 x2 v_chosen v_arg0_numbers v_wayOf q.1 q.2) zF ((0 : Int32), u_5)) fun q_6 =>
  zb1 (f_Wa_sumOverParts v_chosen q_6) fun q_9 =>
  some q_9
def f_Wa_tally_l16 (x2 : Int32) (v_chosen : Int32) (v_wiresOf : Nat → Int32) (v_phases : Nat → Int32) (x3 : Int32) (x4 : Int32) (x5 : Int32) (v_tallies : Nat → Int32) : Option ((Int32 × Int32 × Int32 × (Nat → Int32)) ⊕ ((Nat → Int32))) :=
  if ((1 : Int32) <<< (v_chosen &&& 31)) < x5 then (
    some (.inr (v_tallies)))
  else (
    if x4 = x2 then (
      if x3 < 0 then (
        zlet (f_Jint_bitCount ((x5 &&& (-x5)) - (1 : Int32))) fun y_5 =>
        if v_chosen ≤ y_5 then (
          zlet (x5 + 1) fun y_7 =>
          some (.inl (x3, x4, y_7, v_tallies)))
        else (
          if (12 : Int32) ≤ y_5 then (
            zlet (x5 + 1) fun y_9 =>
            some (.inl (x3, x4, y_9, v_tallies)))
          else (
            zlet (x3 ^^^ ((1 : Int32) <<< (y_5 &&& 31))) fun y_10 =>
            if y_5 < 0 ∨ 12 ≤ y_5.toNatClampNeg then none else
            zlet (x4 ^^^ (v_wiresOf y_5.toNatClampNeg)) fun y_12 =>
            zlet (x5 + 1) fun y_13 =>
            some (.inl (y_10, y_12, y_13, v_tallies)))))
      else (
        if (4096 : Int32) ≤ x3 then (
          zlet (f_Jint_bitCount ((x5 &&& (-x5)) - (1 : Int32))) fun y_16 =>
          if v_chosen ≤ y_16 then (
            zlet (x5 + 1) fun y_18 =>
            some (.inl (x3, x4, y_18, v_tallies)))
          else (
            if (12 : Int32) ≤ y_16 then (
              zlet (x5 + 1) fun y_20 =>
              some (.inl (x3, x4, y_20, v_tallies)))
            else (
              zlet (x3 ^^^ ((1 : Int32) <<< (y_16 &&& 31))) fun y_21 =>
              if y_16 < 0 ∨ 12 ≤ y_16.toNatClampNeg then none else
              zlet (x4 ^^^ (v_wiresOf y_16.toNatClampNeg)) fun y_23 =>
              zlet (x5 + 1) fun y_24 =>
              some (.inl (y_21, y_23, y_24, v_tallies)))))
        else (
          if x3 < 0 ∨ 4096 ≤ x3.toNatClampNeg then none else
          if ((v_phases x3.toNatClampNeg) &&& (7 : Int32)) < 0 ∨ 8 ≤ ((v_phases x3.toNatClampNeg) &&& (7 : Int32)).toNatClampNeg then none else
          if ((v_phases x3.toNatClampNeg) &&& (7 : Int32)) < 0 ∨ 8 ≤ ((v_phases x3.toNatClampNeg) &&& (7 : Int32)).toNatClampNeg then none else
          zlet (upd v_tallies ((v_phases x3.toNatClampNeg) &&& (7 : Int32)).toNatClampNeg ((v_tallies ((v_phases x3.toNatClampNeg) &&& (7 : Int32)).toNatClampNeg) + (1 : Int32))) fun u_28 =>
          zlet (f_Jint_bitCount ((x5 &&& (-x5)) - (1 : Int32))) fun y_30 =>
          if v_chosen ≤ y_30 then (
            zlet (x5 + 1) fun y_32 =>
            some (.inl (x3, x4, y_32, u_28)))
          else (
            if (12 : Int32) ≤ y_30 then (
              zlet (x5 + 1) fun y_34 =>
              some (.inl (x3, x4, y_34, u_28)))
            else (
              zlet (x3 ^^^ ((1 : Int32) <<< (y_30 &&& 31))) fun y_35 =>
              if y_30 < 0 ∨ 12 ≤ y_30.toNatClampNeg then none else
              zlet (x4 ^^^ (v_wiresOf y_30.toNatClampNeg)) fun y_37 =>
              zlet (x5 + 1) fun y_38 =>
              some (.inl (y_35, y_37, y_38, u_28)))))))
    else (
      zlet (f_Jint_bitCount ((x5 &&& (-x5)) - (1 : Int32))) fun y_40 =>
      if v_chosen ≤ y_40 then (
        zlet (x5 + 1) fun y_42 =>
        some (.inl (x3, x4, y_42, v_tallies)))
      else (
        if (12 : Int32) ≤ y_40 then (
          zlet (x5 + 1) fun y_44 =>
          some (.inl (x3, x4, y_44, v_tallies)))
        else (
          zlet (x3 ^^^ ((1 : Int32) <<< (y_40 &&& 31))) fun y_45 =>
          if y_40 < 0 ∨ 12 ≤ y_40.toNatClampNeg then none else
          zlet (x4 ^^^ (v_wiresOf y_40.toNatClampNeg)) fun y_47 =>
          zlet (x5 + 1) fun y_48 =>
          some (.inl (y_45, y_47, y_48, v_tallies))))))
/-- PathSums$Ways.tally(II)V -/
def f_Wa_tally (x1 : Int32) (x2 : Int32) (v_chosen : Int32) (v_tallies : Nat → Int32) (v_wiresOf : Nat → Int32) (v_phases : Nat → Int32) : Option ((Nat → Int32)) :=
  zb1 (f_Jarr_fill 8 (0 : Int32) v_tallies) fun q_2 =>
  zb1 (zloop (fun q => f_Wa_tally_l16 x2 v_chosen v_wiresOf v_phases q.1 q.2.1 q.2.2.1 q.2.2.2) zF ((0 : Int32), x1, (1 : Int32), q_2)) fun q_3 =>
  some q_3
/-- PathSums$Root.multiplyByR()V -/
def f_Ro_multiplyByR (v_a : Int64) (v_b : Int64) (v_c : Int64) (v_d : Int64) : Int64 × Int64 × Int64 × Int64 :=
  zlet (v_b - v_d) fun y_1 =>
  zlet (v_a + v_c) fun y_2 =>
  zlet (v_b + v_d) fun y_3 =>
  zlet (v_c - v_a) fun y_4 =>
  (y_1, y_2, y_3, y_4)
/-- PathSums$Root.isMultipleOfR()Z -/
def f_Ro_isMultipleOfR (v_a : Int64) (v_b : Int64) (v_c : Int64) (v_d : Int64) : Int32 :=
  if (lg_cmp ((v_a - v_c) - (v_a - v_c) / (2 : Int64) * (2 : Int64)) (0 : Int64)) = 0 then (
    if (lg_cmp ((v_b - v_d) - (v_b - v_d) / (2 : Int64) * (2 : Int64)) (0 : Int64)) = 0 then (
      (1 : Int32))
    else (
      (0 : Int32)))
  else (
    (0 : Int32))
/-- PathSums$Root.halve()V -/
def f_Ro_halve (v_a : Int64) (v_b : Int64) (v_c : Int64) (v_d : Int64) : Int64 × Int64 × Int64 × Int64 :=
  zlet (v_a / (2 : Int64)) fun y_1 =>
  zlet (v_b / (2 : Int64)) fun y_2 =>
  zlet (v_c / (2 : Int64)) fun y_3 =>
  zlet (v_d / (2 : Int64)) fun y_4 =>
  (y_1, y_2, y_3, y_4)
def f_Ro_take_l60 (x2 : Int32) (v_k : Int32) (v_arg0 : Nat → Int32) (x3 : Int32) (v_a : Int64) (v_b : Int64) (v_c : Int64) (v_d : Int64) : Option ((Int32 × Int64 × Int64 × Int64 × Int64) ⊕ (Int64 × Int64 × Int64 × Int64)) :=
  if 0 ≤ x3 then (
    some (.inr (v_a, v_b, v_c, v_d)))
  else (
    zl4 (f_Ro_multiplyByR v_a v_b v_c v_d) fun q_3 q_4 q_5 q_6 =>
    zlet (x3 + 1) fun y_7 =>
    some (.inl (y_7, q_3, q_4, q_5, q_6)))
def f_Ro_take_l83 (v_arg0 : Nat → Int32) (v_a : Int64) (v_b : Int64) (v_c : Int64) (v_d : Int64) (v_k : Int32) : Option ((Int64 × Int64 × Int64 × Int64 × Int32) ⊕ (Int64 × Int64 × Int64 × Int64 × Int32)) :=
  if v_k ≤ 0 then (
    some (.inr (v_a, v_b, v_c, v_d, v_k)))
  else (
    if (f_Ro_isMultipleOfR v_a v_b v_c v_d) = 0 then (
      some (.inr (v_a, v_b, v_c, v_d, v_k)))
    else (
      zl4 (f_Ro_multiplyByR v_a v_b v_c v_d) fun q_5 q_6 q_7 q_8 =>
      zl4 (f_Ro_halve q_5 q_6 q_7 q_8) fun q_10 q_11 q_12 q_13 =>
      zlet (v_k - (1 : Int32)) fun y_14 =>
      some (.inl (q_10, q_11, q_12, q_13, y_14))))
/-- PathSums$Root.take([II)V -/
def f_Ro_take (x2 : Int32) (v_a : Int64) (v_b : Int64) (v_c : Int64) (v_d : Int64) (v_k : Int32) (v_arg0 : Nat → Int32) : Option (Int64 × Int64 × Int64 × Int64 × Int32) :=
  zlet (((v_arg0 (0 : Int32).toNatClampNeg) - (v_arg0 (4 : Int32).toNatClampNeg)).toInt64) fun y_1 =>
  zlet (((v_arg0 (1 : Int32).toNatClampNeg) - (v_arg0 (5 : Int32).toNatClampNeg)).toInt64) fun y_2 =>
  zlet (((v_arg0 (2 : Int32).toNatClampNeg) - (v_arg0 (6 : Int32).toNatClampNeg)).toInt64) fun y_3 =>
  zlet (((v_arg0 (3 : Int32).toNatClampNeg) - (v_arg0 (7 : Int32).toNatClampNeg)).toInt64) fun y_4 =>
  zb4 (zloop (fun q => f_Ro_take_l60 x2 v_k v_arg0 q.1 q.2.1 q.2.2.1 q.2.2.2.1 q.2.2.2.2) zF (x2, y_1, y_2, y_3, y_4)) fun q_5 q_6 q_7 q_8 =>
  zlet (if x2 < (0 : Int32) then (0 : Int32) else x2) fun y_10 =>
  zb5 (zloop (fun q => f_Ro_take_l83 v_arg0 q.1 q.2.1 q.2.2.1 q.2.2.2.1 q.2.2.2.2) zF (q_5, q_6, q_7, q_8, y_10)) fun q_11 q_12 q_13 q_14 q_15 =>
  some (q_11, q_12, q_13, q_14, q_15)
/-- PathSums$Root.look(I)J -/
def f_Ro_look (x1 : Int32) (v_a : Int64) (v_b : Int64) (v_c : Int64) (v_d : Int64) (v_k : Int32) : Int64 :=
  if x1 = 0 then (
    v_a)
  else (
  if x1 = 1 then (
    v_b)
  else (
  if x1 = 2 then (
    v_c)
  else (
  if x1 = 3 then (
    v_d)
  else (
  v_k.toInt64))))
/-- PathSums.isWireCount(I)Z -/
def f_Ps_isWireCount (x0 : Int32) : Int32 :=
  if x0 < (1 : Int32) then (
    (0 : Int32))
  else (
    if (6 : Int32) < x0 then (
      (0 : Int32))
    else (
      (1 : Int32)))
/-- PathSums.isWire(I)Z -/
def f_Ps_isWire (x1 : Int32) (v_wireCount : Int32) : Int32 :=
  if x1 < 0 then (
    (0 : Int32))
  else (
    if v_wireCount ≤ x1 then (
      (0 : Int32))
    else (
      if (6 : Int32) ≤ x1 then (
        (0 : Int32))
      else (
        (1 : Int32))))
/-- PathSums.isChoice(I)Z -/
def f_Ps_isChoice (x1 : Int32) (v_wireCount : Int32) : Int32 :=
  if x1 < 0 then (
    (0 : Int32))
  else (
    if ((1 : Int32) <<< (v_wireCount &&& 31)) ≤ x1 then (
      (0 : Int32))
    else (
      (1 : Int32)))
/-- PathSums.startAnew(IZ)V -/
def f_Ps_startAnew (x1 : Int32) (x2 : Int32) (v_wireCount : Int32) (v_bitsCame : Int32) (v_bitsThere : Int32) (v_inputBits : Int32) (v_rootsBelow : Int32) (v_begunOpen : Int32) (v_empty : Int32) (v_values : Nat → Int32) (v_polynomial_monomials : Int32) (v_polynomial_numbers : Nat → Int32) (v_doneRules_count : Int32) : Option (Int32 × Int32 × Int32 × Int32 × Int32 × Int32 × Int32 × (Nat → Int32) × Int32 × (Nat → Int32) × Int32) :=
  zb1 (f_Jarr_fill 6 (0 : Int32) v_values) fun q_2 =>
  zb2 (f_Po_clear v_polynomial_monomials v_polynomial_numbers) fun q_4 q_5 =>
  if ¬ (x2 = 0 ∨ x2 = 1) then none else
  some (x1, (0 : Int32), (0 : Int32), (0 : Int32), (0 : Int32), x2, (0 : Int32), q_2, q_4, q_5, (0 : Int32))
def f_Ps_begin_l28 (x1 : Int32) (x2 : Int32) (v_wireCount : Int32) (v_bitsCame : Int32) (v_bitsThere : Int32) (v_inputBits : Int32) (v_rootsBelow : Int32) (v_begunOpen : Int32) (v_empty : Int32) (v_polynomial_monomials : Int32) (v_polynomial_numbers : Nat → Int32) (v_doneRules_count : Int32) (x3 : Int32) (v_values : Nat → Int32) : Option ((Int32 × (Nat → Int32)) ⊕ ((Nat → Int32))) :=
  if x1 ≤ x3 then (
    some (.inr (v_values)))
  else (
    if (f_Ps_has x2 x3) = 0 then (
      if x3 < 0 ∨ 6 ≤ x3.toNatClampNeg then none else
      zlet (upd v_values x3.toNatClampNeg (0 : Int32)) fun u_5 =>
      zlet (x3 + 1) fun y_6 =>
      some (.inl (y_6, u_5)))
    else (
      if x3 < 0 ∨ 6 ≤ x3.toNatClampNeg then none else
      zlet (upd v_values x3.toNatClampNeg (16777216 : Int32)) fun u_8 =>
      zlet (x3 + 1) fun y_9 =>
      some (.inl (y_9, u_8))))
/-- PathSums.begin(II)Z -/
def f_Ps_begin (x1 : Int32) (x2 : Int32) (v_wireCount : Int32) (v_bitsCame : Int32) (v_bitsThere : Int32) (v_inputBits : Int32) (v_rootsBelow : Int32) (v_begunOpen : Int32) (v_empty : Int32) (v_values : Nat → Int32) (v_polynomial_monomials : Int32) (v_polynomial_numbers : Nat → Int32) (v_doneRules_count : Int32) : Option (Int32 × Int32 × Int32 × Int32 × Int32 × Int32 × Int32 × Int32 × (Nat → Int32) × Int32 × (Nat → Int32) × Int32) :=
  if (f_Ps_isWireCount x1) = 0 then (
    some ((0 : Int32), v_wireCount, v_bitsCame, v_bitsThere, v_inputBits, v_rootsBelow, v_begunOpen, v_empty, v_values, v_polynomial_monomials, v_polynomial_numbers, v_doneRules_count))
  else (
    if x2 < 0 then (
      some ((0 : Int32), v_wireCount, v_bitsCame, v_bitsThere, v_inputBits, v_rootsBelow, v_begunOpen, v_empty, v_values, v_polynomial_monomials, v_polynomial_numbers, v_doneRules_count))
    else (
      if x2 < ((1 : Int32) <<< (x1 &&& 31)) then (
        zb11 (f_Ps_startAnew x1 (0 : Int32) v_wireCount v_bitsCame v_bitsThere v_inputBits v_rootsBelow v_begunOpen v_empty v_values v_polynomial_monomials v_polynomial_numbers v_doneRules_count) fun q_6 q_7 q_8 q_9 q_10 q_11 q_12 q_13 q_14 q_15 q_16 =>
        zb1 (zloop (fun q => f_Ps_begin_l28 x1 x2 q_6 q_7 q_8 q_9 q_10 q_11 q_12 q_14 q_15 q_16 q.1 q.2) zF ((0 : Int32), q_13)) fun q_17 =>
        some ((1 : Int32), q_6, q_7, q_8, q_9, q_10, q_11, q_12, q_17, q_14, q_15, q_16))
      else (
        some ((0 : Int32), v_wireCount, v_bitsCame, v_bitsThere, v_inputBits, v_rootsBelow, v_begunOpen, v_empty, v_values, v_polynomial_monomials, v_polynomial_numbers, v_doneRules_count))))
def f_Ps_open_l17 (x1 : Int32) (v_wireCount : Int32) (v_bitsCame : Int32) (v_bitsThere : Int32) (v_inputBits : Int32) (v_rootsBelow : Int32) (v_begunOpen : Int32) (v_empty : Int32) (v_polynomial_monomials : Int32) (v_polynomial_numbers : Nat → Int32) (v_doneRules_count : Int32) (x2 : Int32) (v_values : Nat → Int32) : Option ((Int32 × (Nat → Int32)) ⊕ ((Nat → Int32))) :=
  if x1 ≤ x2 then (
    some (.inr (v_values)))
  else (
    if x2 < 0 ∨ 6 ≤ x2.toNatClampNeg then none else
    zlet (upd v_values x2.toNatClampNeg ((1 : Int32) <<< (x2 &&& 31))) fun u_3 =>
    zlet (x2 + 1) fun y_4 =>
    some (.inl (y_4, u_3)))
/-- PathSums.open(I)Z -/
def f_Ps_open (x1 : Int32) (v_wireCount : Int32) (v_bitsCame : Int32) (v_bitsThere : Int32) (v_inputBits : Int32) (v_rootsBelow : Int32) (v_begunOpen : Int32) (v_empty : Int32) (v_values : Nat → Int32) (v_polynomial_monomials : Int32) (v_polynomial_numbers : Nat → Int32) (v_doneRules_count : Int32) : Option (Int32 × Int32 × Int32 × Int32 × Int32 × Int32 × Int32 × Int32 × (Nat → Int32) × Int32 × (Nat → Int32) × Int32) :=
  if (f_Ps_isWireCount x1) = 0 then (
    some ((0 : Int32), v_wireCount, v_bitsCame, v_bitsThere, v_inputBits, v_rootsBelow, v_begunOpen, v_empty, v_values, v_polynomial_monomials, v_polynomial_numbers, v_doneRules_count))
  else (
    zb11 (f_Ps_startAnew x1 (1 : Int32) v_wireCount v_bitsCame v_bitsThere v_inputBits v_rootsBelow v_begunOpen v_empty v_values v_polynomial_monomials v_polynomial_numbers v_doneRules_count) fun q_4 q_5 q_6 q_7 q_8 q_9 q_10 q_11 q_12 q_13 q_14 =>
    zb1 (zloop (fun q => f_Ps_open_l17 x1 q_4 q_5 q_6 q_7 q_8 q_9 q_10 q_12 q_13 q_14 q.1 q.2) zF ((0 : Int32), q_11)) fun q_15 =>
    zlet (((1 : Int32) <<< (x1 &&& 31)) - (1 : Int32)) fun y_17 =>
    some ((1 : Int32), q_4, x1, y_17, y_17, q_8, q_9, q_10, q_15, q_12, q_13, q_14))
def f_Ps_fits_j90 (x2 : Int32) (x3 : Int32) (t0 : Int32) (v_wireCount : Int32) (v_bitsCame : Int32) : Int32 :=
  if t0 = 0 then (
    if (f_Ps_isWire x3 v_wireCount) = 0 then (
      (0 : Int32))
    else (
      if x3 = x2 then (
        (0 : Int32))
      else (
        (1 : Int32))))
  else (
    (1 : Int32))
def f_Ps_fits_j89 (x2 : Int32) (x3 : Int32) (v_wireCount : Int32) (v_bitsCame : Int32) : Int32 :=
  f_Ps_fits_j90 x2 x3 (0 : Int32) v_wireCount v_bitsCame
def f_Ps_fits_j85 (x2 : Int32) (x3 : Int32) (v_wireCount : Int32) (v_bitsCame : Int32) : Int32 :=
  f_Ps_fits_j90 x2 x3 (1 : Int32) v_wireCount v_bitsCame
def f_Ps_fits_j70 (x1 : Int32) (x2 : Int32) (x3 : Int32) (v_wireCount : Int32) (v_bitsCame : Int32) : Int32 :=
  if x1 = 0 then (
    f_Ps_fits_j85 x2 x3 v_wireCount v_bitsCame)
  else (
    if x1 < (3 : Int32) then (
      f_Ps_fits_j89 x2 x3 v_wireCount v_bitsCame)
    else (
      if (7 : Int32) < x1 then (
        f_Ps_fits_j89 x2 x3 v_wireCount v_bitsCame)
      else (
        f_Ps_fits_j85 x2 x3 v_wireCount v_bitsCame)))
/-- PathSums.fits(IIII)Z -/
def f_Ps_fits (x1 : Int32) (x2 : Int32) (x3 : Int32) (x4 : Int32) (v_wireCount : Int32) (v_bitsCame : Int32) : Int32 :=
  if x1 < 0 then (
    (0 : Int32))
  else (
    if (12 : Int32) < x1 then (
      (0 : Int32))
    else (
      if (f_Ps_isWire x2 v_wireCount) = 0 then (
        (0 : Int32))
      else (
        if x1 < (10 : Int32) then (
          if x1 = (9 : Int32) then (
            if (f_Ps_isWire x4 v_wireCount) = 0 then (
              (0 : Int32))
            else (
              if x4 = x2 then (
                (0 : Int32))
              else (
                if x4 = x3 then (
                  (0 : Int32))
                else (
                  f_Ps_fits_j70 x1 x2 x3 v_wireCount v_bitsCame))))
          else (
            f_Ps_fits_j70 x1 x2 x3 v_wireCount v_bitsCame))
        else (
          if (24 : Int32) ≤ v_bitsCame then (
            (0 : Int32))
          else (
            (1 : Int32))))))
def f_Ps_bringBit_j58 (x1 : Int32) (x2 : Int32) (x3 : Int32) (v_bitsCame : Int32) (v_bitsThere : Int32) (v_rootsBelow : Int32) (v_values : Nat → Int32) (v_polynomial_monomials : Int32) (v_polynomial_numbers : Nat → Int32) : Option (Int32 × Int32 × Int32 × (Nat → Int32) × Int32 × (Nat → Int32)) :=
  if x1 = (10 : Int32) then (
    if x2 < 0 ∨ 6 ≤ x2.toNatClampNeg then none else
    zlet (upd v_values x2.toNatClampNeg x3) fun u_3 =>
    zlet (v_rootsBelow + (1 : Int32)) fun y_4 =>
    some (v_bitsCame, v_bitsThere, y_4, u_3, v_polynomial_monomials, v_polynomial_numbers))
  else (
    zlet (v_rootsBelow + (2 : Int32)) fun y_5 =>
    some (v_bitsCame, v_bitsThere, y_5, v_values, v_polynomial_monomials, v_polynomial_numbers))
/-- PathSums.bringBit(II)V -/
def f_Ps_bringBit (x1 : Int32) (x2 : Int32) (v_bitsCame : Int32) (v_bitsThere : Int32) (v_rootsBelow : Int32) (v_values : Nat → Int32) (v_polynomial_monomials : Int32) (v_polynomial_numbers : Nat → Int32) : Option (Int32 × Int32 × Int32 × (Nat → Int32) × Int32 × (Nat → Int32)) :=
  zlet ((1 : Int32) <<< (v_bitsCame &&& 31)) fun y_1 =>
  zlet (v_bitsCame + (1 : Int32)) fun y_2 =>
  zlet (v_bitsThere ||| y_1) fun y_3 =>
  if x2 < 0 ∨ 6 ≤ x2.toNatClampNeg then none else
  zb2 (f_Po_addFourTimes y_1 (v_values x2.toNatClampNeg) (16777216 : Int32) v_polynomial_monomials v_polynomial_numbers) fun q_6 q_7 =>
  if x1 = (12 : Int32) then (
    zb2 (f_Po_add y_1 (4 : Int32) q_6 q_7) fun q_10 q_11 =>
    f_Ps_bringBit_j58 x1 x2 y_1 y_2 y_3 v_rootsBelow v_values q_10 q_11)
  else (
    f_Ps_bringBit_j58 x1 x2 y_1 y_2 y_3 v_rootsBelow v_values q_6 q_7)
/-- PathSums.ruleFor(I)I -/
def f_Ps_ruleFor (x1 : Int32) (v_inputBits : Int32) (v_polynomial_numbers : Nat → Int32) : Option (Int32) :=
  zb1 (f_Po_numberOf ((1 : Int32) <<< (x1 &&& 31)) v_polynomial_numbers) fun r_2 =>
  if (f_Ps_has r_2 (0 : Int32)) = 0 then (
    zb1 (f_Po_partnersOf x1 v_polynomial_numbers) fun r_6 =>
    if r_6 = (-1 : Int32) then (
      some (-1 : Int32))
    else (
      if (f_Ps_has r_2 (1 : Int32)) = 0 then (
        if r_6 = 0 then (
          if r_2 = 0 then (
            some (1 : Int32))
          else (
            some (2 : Int32)))
        else (
          if (r_6 &&& (v_inputBits ^^^ (-1 : Int32))) = 0 then (
            some (-1 : Int32))
          else (
            some (3 : Int32))))
      else (
        some (4 : Int32))))
  else (
    some (-1 : Int32))
def f_Ps_leastBitWithRule_l14 (v_bitsThere : Int32) (v_inputBits : Int32) (v_values : Nat → Int32) (v_polynomial_numbers : Nat → Int32) (x1 : Int32) (x2 : Int32) : Option ((Int32 × Int32) ⊕ (Int32)) :=
  if (6 : Int32) ≤ x2 then (
    some (.inr (x1)))
  else (
    if x2 < 0 ∨ 6 ≤ x2.toNatClampNeg then none else
    zlet (x1 &&& ((v_values x2.toNatClampNeg) ^^^ (-1 : Int32))) fun y_3 =>
    zlet (x2 + 1) fun y_4 =>
    some (.inl (y_3, y_4)))
def f_Ps_leastBitWithRule_l39 (x1 : Int32) (v_bitsThere : Int32) (v_inputBits : Int32) (v_values : Nat → Int32) (v_polynomial_numbers : Nat → Int32) (x2 : Int32) : Option ((Int32) ⊕ ((Unit) ⊕ (Int32))) :=
  if (24 : Int32) ≤ x2 then (
    some (.inr (.inl ())))
  else (
    if (f_Ps_has x1 x2) = 0 then (
      zlet (x2 + 1) fun y_4 =>
      some (.inl (y_4)))
    else (
      zb1 (f_Ps_ruleFor x2 v_inputBits v_polynomial_numbers) fun r_6 =>
      if r_6 = (-1 : Int32) then (
        zlet (x2 + 1) fun y_8 =>
        some (.inl (y_8)))
      else (
        some (.inr (.inr x2)))))
/-- PathSums.leastBitWithRule()I -/
def f_Ps_leastBitWithRule (v_bitsThere : Int32) (v_inputBits : Int32) (v_values : Nat → Int32) (v_polynomial_numbers : Nat → Int32) : Option (Int32) :=
  zlet (v_bitsThere &&& (v_inputBits ^^^ (-1 : Int32))) fun y_1 =>
  zb1 (zloop (fun q => f_Ps_leastBitWithRule_l14 v_bitsThere v_inputBits v_values v_polynomial_numbers q.1 q.2) zF (y_1, (0 : Int32))) fun y_2 =>
  zr0 (zloop (fun q => f_Ps_leastBitWithRule_l39 y_2 v_bitsThere v_inputBits v_values v_polynomial_numbers q) zF ((0 : Int32))) <|
  some (-1 : Int32)
def f_Ps_greatestOf_l3 (x0 : Int32) (x1 : Int32) : Option ((Int32) ⊕ ((Unit) ⊕ (Int32))) :=
  if x1 < 0 then (
    some (.inr (.inl ())))
  else (
    if (f_Ps_has x0 x1) = 0 then (
      zlet (x1 + (-1)) fun y_4 =>
      some (.inl (y_4)))
    else (
      some (.inr (.inr x1))))
/-- PathSums.greatestOf(I)I -/
def f_Ps_greatestOf (x0 : Int32) : Option (Int32) :=
  zr0 (zloop (fun q => f_Ps_greatestOf_l3 x0 q) zF ((23 : Int32))) <|
  some (-1 : Int32)
def f_Ps_becomeEmpty_l2 (v_bitsThere : Int32) (v_inputBits : Int32) (v_rootsBelow : Int32) (v_empty : Int32) (v_polynomial_monomials : Int32) (v_polynomial_numbers : Nat → Int32) (x1 : Int32) (v_values : Nat → Int32) : Option ((Int32 × (Nat → Int32)) ⊕ ((Nat → Int32))) :=
  if (6 : Int32) ≤ x1 then (
    some (.inr (v_values)))
  else (
    if x1 < 0 ∨ 6 ≤ x1.toNatClampNeg then none else
    if x1 < 0 ∨ 6 ≤ x1.toNatClampNeg then none else
    zlet (upd v_values x1.toNatClampNeg ((v_values x1.toNatClampNeg) &&& (v_inputBits ||| (16777216 : Int32)))) fun u_4 =>
    zlet (x1 + 1) fun y_5 =>
    some (.inl (y_5, u_4)))
/-- PathSums.becomeEmpty()V -/
def f_Ps_becomeEmpty (v_bitsThere : Int32) (v_inputBits : Int32) (v_rootsBelow : Int32) (v_empty : Int32) (v_values : Nat → Int32) (v_polynomial_monomials : Int32) (v_polynomial_numbers : Nat → Int32) : Option (Int32 × Int32 × Int32 × (Nat → Int32) × Int32 × (Nat → Int32)) :=
  zb1 (zloop (fun q => f_Ps_becomeEmpty_l2 v_bitsThere v_inputBits v_rootsBelow v_empty v_polynomial_monomials v_polynomial_numbers q.1 q.2) zF ((0 : Int32), v_values)) fun q_1 =>
  zb2 (f_Po_clear v_polynomial_monomials v_polynomial_numbers) fun q_4 q_5 =>
  some (v_inputBits, (0 : Int32), (1 : Int32), q_1, q_4, q_5)
def f_Ps_replaceInValues_l2 (x1 : Int32) (x2 : Int32) (x3 : Int32) (v_values : Nat → Int32) : Option ((Int32 × (Nat → Int32)) ⊕ ((Nat → Int32))) :=
  if (6 : Int32) ≤ x3 then (
    some (.inr (v_values)))
  else (
    if x3 < 0 ∨ 6 ≤ x3.toNatClampNeg then none else
    if (f_Ps_has (v_values x3.toNatClampNeg) x1) = 0 then (
      zlet (x3 + 1) fun y_5 =>
      some (.inl (y_5, v_values)))
    else (
      if x3 < 0 ∨ 6 ≤ x3.toNatClampNeg then none else
      if x3 < 0 ∨ 6 ≤ x3.toNatClampNeg then none else
      zlet (upd v_values x3.toNatClampNeg ((v_values x3.toNatClampNeg) ^^^ (((1 : Int32) <<< (x1 &&& 31)) ^^^ x2))) fun u_8 =>
      zlet (x3 + 1) fun y_9 =>
      some (.inl (y_9, u_8))))
/-- PathSums.replaceInValues(II)V -/
def f_Ps_replaceInValues (x1 : Int32) (x2 : Int32) (v_values : Nat → Int32) : Option ((Nat → Int32)) :=
  zb1 (zloop (fun q => f_Ps_replaceInValues_l2 x1 x2 q.1 q.2) zF ((0 : Int32), v_values)) fun q_1 =>
  some q_1
def f_Ps_doRule_j193 (x3 : Int32) (x4 : Int32) (t1 : Int32) (t2 : Int32) (v_bitsThere : Int32) (v_inputBits : Int32) (v_rootsBelow : Int32) (v_empty : Int32) (v_polynomial_monomials : Int32) (v_polynomial_numbers : Nat → Int32) (v_doneRules_count : Int32) (v_doneRules_kinds : Nat → Int32) (v_doneRules_ys : Nat → Int32) (v_doneRules_zs : Nat → Int32) (v_values : Nat → Int32) : Option (Int32 × Int32 × Int32 × Int32 × (Nat → Int32) × Int32 × (Nat → Int32) × (Nat → Int32) × (Nat → Int32) × (Nat → Int32)) :=
  zb2 (f_Po_add t1 t2 v_polynomial_monomials v_polynomial_numbers) fun q_2 q_3 =>
  if x3 = (2 : Int32) then (
    zb2 (f_Po_addXor (6 : Int32) x4 (0 : Int32) q_2 q_3) fun q_6 q_7 =>
    some (v_bitsThere, v_rootsBelow, v_empty, q_6, q_7, v_doneRules_count, v_doneRules_kinds, v_doneRules_ys, v_doneRules_zs, v_values))
  else (
    zb2 (f_Po_addXor (2 : Int32) x4 (0 : Int32) q_2 q_3) fun q_9 q_10 =>
    some (v_bitsThere, v_rootsBelow, v_empty, q_9, q_10, v_doneRules_count, v_doneRules_kinds, v_doneRules_ys, v_doneRules_zs, v_values))
def f_Ps_doRule_j132 (x5 : Int32) (t0 : Int32) (t1 : Int32) (v_bitsThere : Int32) (v_inputBits : Int32) (v_rootsBelow : Int32) (v_empty : Int32) (v_polynomial_monomials : Int32) (v_polynomial_numbers : Nat → Int32) (v_doneRules_count : Int32) (v_doneRules_kinds : Nat → Int32) (v_doneRules_ys : Nat → Int32) (v_doneRules_zs : Nat → Int32) (v_values : Nat → Int32) : Option (Int32 × Int32 × Int32 × Int32 × (Nat → Int32) × Int32 × (Nat → Int32) × (Nat → Int32) × (Nat → Int32) × (Nat → Int32)) :=
  zlet (t0 ||| t1) fun y_1 =>
  zb2 (f_Po_replaceBit x5 y_1 v_polynomial_monomials v_polynomial_numbers) fun q_3 q_4 =>
  zb1 (f_Ps_replaceInValues x5 y_1 v_values) fun q_6 =>
  zlet (v_bitsThere &&& (((1 : Int32) <<< (x5 &&& 31)) ^^^ (-1 : Int32))) fun y_7 =>
  some (y_7, v_rootsBelow, v_empty, q_3, q_4, v_doneRules_count, v_doneRules_kinds, v_doneRules_ys, v_doneRules_zs, q_6)
def f_Ps_doRule_j103 (x1 : Int32) (x3 : Int32) (x4 : Int32) (x5 : Int32) (t1 : Int32) (t2 : Int32) (v_bitsThere : Int32) (v_inputBits : Int32) (v_rootsBelow : Int32) (v_empty : Int32) (v_polynomial_monomials : Int32) (v_polynomial_numbers : Nat → Int32) (v_doneRules_count : Int32) (v_doneRules_kinds : Nat → Int32) (v_doneRules_ys : Nat → Int32) (v_doneRules_zs : Nat → Int32) (v_values : Nat → Int32) : Option (Int32 × Int32 × Int32 × Int32 × (Nat → Int32) × Int32 × (Nat → Int32) × (Nat → Int32) × (Nat → Int32) × (Nat → Int32)) :=
  zlet (t1 - t2) fun y_1 =>
  if x1 = (3 : Int32) then (
    if x3 = (4 : Int32) then (
      f_Ps_doRule_j132 x5 (x4 &&& (((1 : Int32) <<< (x5 &&& 31)) ^^^ (-1 : Int32))) (16777216 : Int32) v_bitsThere v_inputBits y_1 v_empty v_polynomial_monomials v_polynomial_numbers v_doneRules_count v_doneRules_kinds v_doneRules_ys v_doneRules_zs v_values)
    else (
      f_Ps_doRule_j132 x5 (x4 &&& (((1 : Int32) <<< (x5 &&& 31)) ^^^ (-1 : Int32))) (0 : Int32) v_bitsThere v_inputBits y_1 v_empty v_polynomial_monomials v_polynomial_numbers v_doneRules_count v_doneRules_kinds v_doneRules_ys v_doneRules_zs v_values))
  else (
    if x1 = (4 : Int32) then (
      if x3 = (2 : Int32) then (
        f_Ps_doRule_j193 x3 x4 (0 : Int32) (1 : Int32) v_bitsThere v_inputBits y_1 v_empty v_polynomial_monomials v_polynomial_numbers v_doneRules_count v_doneRules_kinds v_doneRules_ys v_doneRules_zs v_values)
      else (
        f_Ps_doRule_j193 x3 x4 (0 : Int32) (7 : Int32) v_bitsThere v_inputBits y_1 v_empty v_polynomial_monomials v_polynomial_numbers v_doneRules_count v_doneRules_kinds v_doneRules_ys v_doneRules_zs v_values))
    else (
      some (v_bitsThere, y_1, v_empty, v_polynomial_monomials, v_polynomial_numbers, v_doneRules_count, v_doneRules_kinds, v_doneRules_ys, v_doneRules_zs, v_values)))
def f_Ps_doRule_j42 (x1 : Int32) (x2 : Int32) (x3 : Int32) (x4 : Int32) (t0 : Int32) (v_bitsThere : Int32) (v_inputBits : Int32) (v_rootsBelow : Int32) (v_empty : Int32) (v_polynomial_monomials : Int32) (v_polynomial_numbers : Nat → Int32) (v_doneRules_count : Int32) (v_doneRules_kinds : Nat → Int32) (v_doneRules_ys : Nat → Int32) (v_doneRules_zs : Nat → Int32) (v_values : Nat → Int32) : Option (Int32 × Int32 × Int32 × Int32 × (Nat → Int32) × Int32 × (Nat → Int32) × (Nat → Int32) × (Nat → Int32) × (Nat → Int32)) :=
  zb4 (f_Dr_keep x1 x2 t0 v_doneRules_count v_doneRules_kinds v_doneRules_ys v_doneRules_zs) fun q_2 q_3 q_4 q_5 =>
  if x1 = (2 : Int32) then (
    zb6 (f_Ps_becomeEmpty v_bitsThere v_inputBits v_rootsBelow v_empty v_values v_polynomial_monomials v_polynomial_numbers) fun q_8 q_9 q_10 q_11 q_12 q_13 =>
    some (q_8, q_9, q_10, q_12, q_13, q_2, q_3, q_4, q_5, q_11))
  else (
    zb2 (f_Po_replaceBit x2 (0 : Int32) v_polynomial_monomials v_polynomial_numbers) fun q_15 q_16 =>
    zlet (v_bitsThere &&& (((1 : Int32) <<< (x2 &&& 31)) ^^^ (-1 : Int32))) fun y_17 =>
    if x1 = (4 : Int32) then (
      f_Ps_doRule_j103 x1 x3 x4 t0 v_rootsBelow (1 : Int32) y_17 v_inputBits v_rootsBelow v_empty q_15 q_16 q_2 q_3 q_4 q_5 v_values)
    else (
      f_Ps_doRule_j103 x1 x3 x4 t0 v_rootsBelow (2 : Int32) y_17 v_inputBits v_rootsBelow v_empty q_15 q_16 q_2 q_3 q_4 q_5 v_values))
/-- PathSums.doRule(II)V -/
def f_Ps_doRule (x1 : Int32) (x2 : Int32) (v_bitsThere : Int32) (v_inputBits : Int32) (v_rootsBelow : Int32) (v_empty : Int32) (v_polynomial_monomials : Int32) (v_polynomial_numbers : Nat → Int32) (v_doneRules_count : Int32) (v_doneRules_kinds : Nat → Int32) (v_doneRules_ys : Nat → Int32) (v_doneRules_zs : Nat → Int32) (v_values : Nat → Int32) : Option (Int32 × Int32 × Int32 × Int32 × (Nat → Int32) × Int32 × (Nat → Int32) × (Nat → Int32) × (Nat → Int32) × (Nat → Int32)) :=
  zb1 (f_Po_numberOf ((1 : Int32) <<< (x2 &&& 31)) v_polynomial_numbers) fun r_2 =>
  zb1 (f_Po_partnersOf x2 v_polynomial_numbers) fun r_4 =>
  if x1 = (3 : Int32) then (
    zb1 (f_Ps_greatestOf (r_4 &&& (v_inputBits ^^^ (-1 : Int32)))) fun r_7 =>
    f_Ps_doRule_j42 x1 x2 r_2 r_4 r_7 v_bitsThere v_inputBits v_rootsBelow v_empty v_polynomial_monomials v_polynomial_numbers v_doneRules_count v_doneRules_kinds v_doneRules_ys v_doneRules_zs v_values)
  else (
    f_Ps_doRule_j42 x1 x2 r_2 r_4 (-1 : Int32) v_bitsThere v_inputBits v_rootsBelow v_empty v_polynomial_monomials v_polynomial_numbers v_doneRules_count v_doneRules_kinds v_doneRules_ys v_doneRules_zs v_values)
def f_Ps_findAmplitude_l6 (x1 : Int32) (x2 : Int32) (x3 : Int32) (v_wireCount : Int32) (v_rootsBelow : Int32) (v_values : Nat → Int32) (v_ways_chosen : Int32) (v_ways_wayOf : Nat → Int32) (v_ways_wiresOf : Nat → Int32) (v_ways_phases : Nat → Int32) (v_polynomial_numbers : Nat → Int32) (v_ways_tallies : Nat → Int32) (v_root_a : Int64) (v_root_b : Int64) (v_root_c : Int64) (v_root_d : Int64) (v_root_k : Int32) (x4 : Int32) (x5 : Int32) : Option ((Int32 × Int32) ⊕ (Int32)) :=
  if v_wireCount ≤ x5 then (
    some (.inr (x4)))
  else (
    if (6 : Int32) ≤ x5 then (
      some (.inr (x4)))
    else (
      if x5 < 0 ∨ 6 ≤ x5.toNatClampNeg then none else
      zlet (x4 ||| (((f_Jint_bitCount ((v_values x5.toNatClampNeg) &&& (x2 ||| (16777216 : Int32)))) &&& (1 : Int32)) <<< (x5 &&& 31))) fun y_5 =>
      zlet (x5 + 1) fun y_6 =>
      some (.inl (y_5, y_6))))
/-- PathSums.findAmplitude(III)V -/
def f_Ps_findAmplitude (x1 : Int32) (x2 : Int32) (x3 : Int32) (v_wireCount : Int32) (v_rootsBelow : Int32) (v_values : Nat → Int32) (v_ways_chosen : Int32) (v_ways_wayOf : Nat → Int32) (v_ways_wiresOf : Nat → Int32) (v_ways_phases : Nat → Int32) (v_polynomial_numbers : Nat → Int32) (v_ways_tallies : Nat → Int32) (v_root_a : Int64) (v_root_b : Int64) (v_root_c : Int64) (v_root_d : Int64) (v_root_k : Int32) : Option (Int32 × (Nat → Int32) × (Nat → Int32) × (Nat → Int32) × (Nat → Int32) × Int64 × Int64 × Int64 × Int64 × Int32) :=
  zb1 (zloop (fun q => f_Ps_findAmplitude_l6 x1 x2 x3 v_wireCount v_rootsBelow v_values v_ways_chosen v_ways_wayOf v_ways_wiresOf v_ways_phases v_polynomial_numbers v_ways_tallies v_root_a v_root_b v_root_c v_root_d v_root_k q.1 q.2) zF ((0 : Int32), (0 : Int32))) fun y_1 =>
  zb3 (f_Wa_choose x1 v_ways_chosen v_ways_wayOf v_values v_ways_wiresOf) fun q_4 q_5 q_6 =>
  zb1 (f_Wa_findPhases (x1 ||| x2) q_4 v_ways_phases v_polynomial_numbers q_5) fun q_8 =>
  zb1 (f_Wa_tally y_1 x3 q_4 v_ways_tallies q_6 q_8) fun q_10 =>
  zb5 (f_Ro_take v_rootsBelow v_root_a v_root_b v_root_c v_root_d v_root_k q_10) fun q_12 q_13 q_14 q_15 q_16 =>
  some (q_4, q_5, q_6, q_8, q_10, q_12, q_13, q_14, q_15, q_16)
/-- PathSums.gate(IIII)Z -/
def f_Ps_gate (x1 : Int32) (x2 : Int32) (x3 : Int32) (x4 : Int32) (v_wireCount : Int32) (v_bitsCame : Int32) (v_bitsThere : Int32) (v_rootsBelow : Int32) (v_empty : Int32) (v_values : Nat → Int32) (v_polynomial_monomials : Int32) (v_polynomial_numbers : Nat → Int32) : Option (Int32 × Int32 × Int32 × Int32 × (Nat → Int32) × Int32 × (Nat → Int32)) :=
  if v_empty = 0 then (
    if (f_Ps_fits x1 x2 x3 x4 v_wireCount v_bitsCame) = 0 then (
      some ((0 : Int32), v_bitsCame, v_bitsThere, v_rootsBelow, v_values, v_polynomial_monomials, v_polynomial_numbers))
    else (
      if x1 = 0 then (
        if x2 < 0 ∨ 6 ≤ x2.toNatClampNeg then none else
        if x2 < 0 ∨ 6 ≤ x2.toNatClampNeg then none else
        zlet (upd v_values x2.toNatClampNeg ((v_values x2.toNatClampNeg) ^^^ (16777216 : Int32))) fun u_7 =>
        some ((1 : Int32), v_bitsCame, v_bitsThere, v_rootsBelow, u_7, v_polynomial_monomials, v_polynomial_numbers))
      else (
        if x1 = (1 : Int32) then (
          if x2 < 0 ∨ 6 ≤ x2.toNatClampNeg then none else
          if x3 < 0 ∨ 6 ≤ x3.toNatClampNeg then none else
          if x2 < 0 ∨ 6 ≤ x2.toNatClampNeg then none else
          zlet (upd v_values x2.toNatClampNeg ((v_values x2.toNatClampNeg) ^^^ (v_values x3.toNatClampNeg))) fun u_12 =>
          some ((1 : Int32), v_bitsCame, v_bitsThere, v_rootsBelow, u_12, v_polynomial_monomials, v_polynomial_numbers))
        else (
          if x1 = (2 : Int32) then (
            if x2 < 0 ∨ 6 ≤ x2.toNatClampNeg then none else
            zlet (v_values x2.toNatClampNeg) fun y_15 =>
            if x3 < 0 ∨ 6 ≤ x3.toNatClampNeg then none else
            if x2 < 0 ∨ 6 ≤ x2.toNatClampNeg then none else
            zlet (upd v_values x2.toNatClampNeg (v_values x3.toNatClampNeg)) fun u_18 =>
            if x3 < 0 ∨ 6 ≤ x3.toNatClampNeg then none else
            zlet (upd u_18 x3.toNatClampNeg y_15) fun u_20 =>
            some ((1 : Int32), v_bitsCame, v_bitsThere, v_rootsBelow, u_20, v_polynomial_monomials, v_polynomial_numbers))
          else (
            if (7 : Int32) < x1 then (
              if x1 = (8 : Int32) then (
                if x2 < 0 ∨ 6 ≤ x2.toNatClampNeg then none else
                if x3 < 0 ∨ 6 ≤ x3.toNatClampNeg then none else
                zb2 (f_Po_addFourTimes (v_values x2.toNatClampNeg) (v_values x3.toNatClampNeg) (16777216 : Int32) v_polynomial_monomials v_polynomial_numbers) fun q_26 q_27 =>
                some ((1 : Int32), v_bitsCame, v_bitsThere, v_rootsBelow, v_values, q_26, q_27))
              else (
                if x1 = (9 : Int32) then (
                  if x2 < 0 ∨ 6 ≤ x2.toNatClampNeg then none else
                  if x3 < 0 ∨ 6 ≤ x3.toNatClampNeg then none else
                  if x4 < 0 ∨ 6 ≤ x4.toNatClampNeg then none else
                  zb2 (f_Po_addFourTimes (v_values x2.toNatClampNeg) (v_values x3.toNatClampNeg) (v_values x4.toNatClampNeg) v_polynomial_monomials v_polynomial_numbers) fun q_33 q_34 =>
                  some ((1 : Int32), v_bitsCame, v_bitsThere, v_rootsBelow, v_values, q_33, q_34))
                else (
                  zb6 (f_Ps_bringBit x1 x2 v_bitsCame v_bitsThere v_rootsBelow v_values v_polynomial_monomials v_polynomial_numbers) fun q_36 q_37 q_38 q_39 q_40 q_41 =>
                  some ((1 : Int32), q_36, q_37, q_38, q_39, q_40, q_41))))
            else (
              if (x1 - (3 : Int32)) < 0 ∨ 5 ≤ (x1 - (3 : Int32)).toNatClampNeg then none else
              if x2 < 0 ∨ 6 ≤ x2.toNatClampNeg then none else
              zb2 (f_Po_addXor (tb_TURNS (x1 - (3 : Int32)).toNatClampNeg) (v_values x2.toNatClampNeg) (0 : Int32) v_polynomial_monomials v_polynomial_numbers) fun q_45 q_46 =>
              some ((1 : Int32), v_bitsCame, v_bitsThere, v_rootsBelow, v_values, q_45, q_46)))))))
  else (
    some ((0 : Int32), v_bitsCame, v_bitsThere, v_rootsBelow, v_values, v_polynomial_monomials, v_polynomial_numbers))
def f_Ps_reduce_l7 (v_inputBits : Int32) (x1 : Int32) (x2 : Int32) (v_bitsThere : Int32) (v_rootsBelow : Int32) (v_empty : Int32) (v_values : Nat → Int32) (v_polynomial_monomials : Int32) (v_polynomial_numbers : Nat → Int32) (v_doneRules_count : Int32) (v_doneRules_kinds : Nat → Int32) (v_doneRules_ys : Nat → Int32) (v_doneRules_zs : Nat → Int32) : Option ((Int32 × Int32 × Int32 × Int32 × Int32 × (Nat → Int32) × Int32 × (Nat → Int32) × Int32 × (Nat → Int32) × (Nat → Int32) × (Nat → Int32)) ⊕ (Int32 × Int32 × Int32 × Int32 × (Nat → Int32) × Int32 × (Nat → Int32) × Int32 × (Nat → Int32) × (Nat → Int32) × (Nat → Int32))) :=
  if x2 = (-1 : Int32) then (
    some (.inr (x1, v_bitsThere, v_rootsBelow, v_empty, v_values, v_polynomial_monomials, v_polynomial_numbers, v_doneRules_count, v_doneRules_kinds, v_doneRules_ys, v_doneRules_zs)))
  else (
    if (24 : Int32) ≤ x1 then (
      some (.inr (x1, v_bitsThere, v_rootsBelow, v_empty, v_values, v_polynomial_monomials, v_polynomial_numbers, v_doneRules_count, v_doneRules_kinds, v_doneRules_ys, v_doneRules_zs)))
    else (
      zb1 (f_Ps_ruleFor x2 v_inputBits v_polynomial_numbers) fun r_4 =>
      zb10 (f_Ps_doRule r_4 x2 v_bitsThere v_inputBits v_rootsBelow v_empty v_polynomial_monomials v_polynomial_numbers v_doneRules_count v_doneRules_kinds v_doneRules_ys v_doneRules_zs v_values) fun q_6 q_7 q_8 q_9 q_10 q_11 q_12 q_13 q_14 q_15 =>
      zlet (x1 + 1) fun y_16 =>
      zb1 (f_Ps_leastBitWithRule q_6 v_inputBits q_15 q_10) fun r_18 =>
      some (.inl (y_16, r_18, q_6, q_7, q_8, q_15, q_9, q_10, q_11, q_12, q_13, q_14))))
/-- PathSums.reduce()I -/
def f_Ps_reduce (v_bitsThere : Int32) (v_inputBits : Int32) (v_rootsBelow : Int32) (v_empty : Int32) (v_values : Nat → Int32) (v_polynomial_monomials : Int32) (v_polynomial_numbers : Nat → Int32) (v_doneRules_count : Int32) (v_doneRules_kinds : Nat → Int32) (v_doneRules_ys : Nat → Int32) (v_doneRules_zs : Nat → Int32) : Option (Int32 × Int32 × Int32 × Int32 × (Nat → Int32) × Int32 × (Nat → Int32) × Int32 × (Nat → Int32) × (Nat → Int32) × (Nat → Int32)) :=
  zb1 (f_Ps_leastBitWithRule v_bitsThere v_inputBits v_values v_polynomial_numbers) fun r_2 =>
  zb11 (zloop (fun q => f_Ps_reduce_l7 v_inputBits q.1 q.2.1 q.2.2.1 q.2.2.2.1 q.2.2.2.2.1 q.2.2.2.2.2.1 q.2.2.2.2.2.2.1 q.2.2.2.2.2.2.2.1 q.2.2.2.2.2.2.2.2.1 q.2.2.2.2.2.2.2.2.2.1 q.2.2.2.2.2.2.2.2.2.2.1 q.2.2.2.2.2.2.2.2.2.2.2) zF ((0 : Int32), r_2, v_bitsThere, v_rootsBelow, v_empty, v_values, v_polynomial_monomials, v_polynomial_numbers, v_doneRules_count, v_doneRules_kinds, v_doneRules_ys, v_doneRules_zs)) fun y_3 q_4 q_5 q_6 q_7 q_8 q_9 q_10 q_11 q_12 q_13 =>
  some (y_3, q_4, q_5, q_6, q_7, q_8, q_9, q_10, q_11, q_12, q_13)
/-- PathSums.rule(II)I -/
def f_Ps_rule (x1 : Int32) (x2 : Int32) (v_doneRules_count : Int32) (v_doneRules_kinds : Nat → Int32) (v_doneRules_ys : Nat → Int32) (v_doneRules_zs : Nat → Int32) : Option (Int32) :=
  zb1 (f_Dr_look x1 x2 v_doneRules_count v_doneRules_kinds v_doneRules_ys v_doneRules_zs) fun r_2 =>
  some r_2
/-- PathSums.term(I)I -/
def f_Ps_term (x1 : Int32) (v_bitsCame : Int32) (v_polynomial_numbers : Nat → Int32) : Option (Int32) :=
  if (zushr x1 v_bitsCame) = 0 then (
    if (f_Jint_bitCount x1) ≤ (3 : Int32) then (
      zb1 (f_Po_numberOf x1 v_polynomial_numbers) fun r_5 =>
      some r_5)
    else (
      some (-1 : Int32)))
  else (
    some (-1 : Int32))
/-- PathSums.wire(II)I -/
def f_Ps_wire (x1 : Int32) (x2 : Int32) (v_wireCount : Int32) (v_values : Nat → Int32) : Option (Int32) :=
  if (f_Ps_isWire x1 v_wireCount) = 0 then (
    some (-1 : Int32))
  else (
    if x2 = 0 then (
      if x1 < 0 ∨ 6 ≤ x1.toNatClampNeg then none else
      some ((v_values x1.toNatClampNeg) &&& (16777215 : Int32)))
    else (
    if x2 = 1 then (
      if x1 < 0 ∨ 6 ≤ x1.toNatClampNeg then none else
      if (f_Ps_has (v_values x1.toNatClampNeg) (24 : Int32)) = 0 then (
        some (0 : Int32))
      else (
        some (1 : Int32)))
    else (
    some (-1 : Int32))))
/-- PathSums.total(I)I -/
def f_Ps_total (x1 : Int32) (v_wireCount : Int32) (v_bitsCame : Int32) (v_bitsThere : Int32) (v_begunOpen : Int32) (v_empty : Int32) (v_polynomial_monomials : Int32) (v_doneRules_count : Int32) : Int32 :=
  if x1 = 0 then (
    v_wireCount)
  else (
  if x1 = 1 then (
    v_bitsThere)
  else (
  if x1 = 2 then (
    v_bitsCame)
  else (
  if x1 = 3 then (
    v_polynomial_monomials)
  else (
  if x1 = 4 then (
    v_doneRules_count)
  else (
  if x1 = 5 then (
    if v_empty = 0 then (
      (0 : Int32))
    else (
      (1 : Int32)))
  else (
  if x1 = 6 then (
    if v_begunOpen = 0 then (
      (0 : Int32))
    else (
      (1 : Int32)))
  else (
  (-1 : Int32))))))))
/-- PathSums.halves()I -/
def f_Ps_halves (v_rootsBelow : Int32) : Int32 :=
  v_rootsBelow
/-- PathSumsModel.thrown()I -/
def f_Md_thrown (v_thrown : Int32) : Int32 :=
  v_thrown
def f_Md_count_l4 (x0 : Int32) (x1 : Int32) (x2 : Int32) : Option ((Int32 × Int32) ⊕ (Int32)) :=
  if (24 : Int32) ≤ x2 then (
    some (.inr (x1)))
  else (
    zlet (x1 + ((x0 >>> (x2 &&& 31)) &&& (1 : Int32))) fun y_2 =>
    zlet (x2 + 1) fun y_3 =>
    some (.inl (y_2, y_3)))
/-- PathSumsModel.count(I)I -/
def f_Md_count (x0 : Int32) : Option (Int32) :=
  zb1 (zloop (fun q => f_Md_count_l4 x0 q.1 q.2) zF ((0 : Int32), (0 : Int32))) fun y_1 =>
  some y_1
def f_Md_placeOf_l6 (x0 : Int32) (x1 : Int32) (x2 : Int32) (x3 : Int32) : Option ((Int32 × Int32 × Int32) ⊕ (Int32 × Int32)) :=
  if (24 : Int32) ≤ x3 then (
    some (.inr (x1, x2)))
  else (
    if ((x0 >>> (x3 &&& 31)) &&& (1 : Int32)) = 0 then (
      zlet (x3 + 1) fun y_3 =>
      some (.inl (x1, x2, y_3)))
    else (
      zlet (((25 : Int32) * x1) + x3) fun y_4 =>
      zlet (x2 + 1) fun y_5 =>
      zlet (x3 + 1) fun y_6 =>
      some (.inl (y_4, y_5, y_6))))
def f_Md_placeOf_l41 (x1 : Int32) (x3 : Int32) : Option ((Int32 × Int32) ⊕ (Int32)) :=
  if (3 : Int32) ≤ x3 then (
    some (.inr (x1)))
  else (
    zlet (((25 : Int32) * x1) + (24 : Int32)) fun y_2 =>
    zlet (x3 + 1) fun y_3 =>
    some (.inl (y_2, y_3)))
/-- PathSumsModel.placeOf(I)I -/
def f_Md_placeOf (x0 : Int32) : Option (Int32) :=
  zb2 (zloop (fun q => f_Md_placeOf_l6 x0 q.1 q.2.1 q.2.2) zF ((0 : Int32), (0 : Int32), (0 : Int32))) fun y_1 y_2 =>
  zb1 (zloop (fun q => f_Md_placeOf_l41 q.1 q.2) zF (y_1, y_2)) fun y_4 =>
  some y_4
/-- PathSumsModel.numberOf(I)I -/
def f_Md_numberOf (x1 : Int32) (v_number : Nat → Int32) : Option (Int32) :=
  zb1 (f_Md_placeOf x1) fun r_2 =>
  if r_2 < 0 ∨ 15625 ≤ r_2.toNatClampNeg then none else
  some (v_number r_2.toNatClampNeg)
/-- PathSumsModel.add(II)V -/
def f_Md_add (x1 : Int32) (x2 : Int32) (v_number : Nat → Int32) : Option ((Nat → Int32)) :=
  zb1 (f_Md_count x1) fun r_2 =>
  if r_2 ≤ (3 : Int32) then (
    zb1 (f_Md_placeOf x1) fun r_5 =>
    if r_5 < 0 ∨ 15625 ≤ r_5.toNatClampNeg then none else
    if r_5 < 0 ∨ 15625 ≤ r_5.toNatClampNeg then none else
    zlet (upd v_number r_5.toNatClampNeg (((v_number r_5.toNatClampNeg) + x2) &&& (7 : Int32))) fun u_8 =>
    some u_8)
  else (
    some v_number)
def f_Md_addOr_l106 (x1 : Int32) (x4 : Int32) (x5 : Int32) (x6 : Int32) (x7 : Int32) (x8 : Int32) (v_number : Nat → Int32) : Option ((Int32 × (Nat → Int32)) ⊕ ((Nat → Int32))) :=
  if x7 ≤ x8 then (
    some (.inr (v_number)))
  else (
    if ((x1 >>> (x8 &&& 31)) &&& (1 : Int32)) = (1 : Int32) then (
      zb1 (f_Md_add (((x4 ||| ((1 : Int32) <<< (x6 &&& 31))) ||| ((1 : Int32) <<< (x7 &&& 31))) ||| ((1 : Int32) <<< (x8 &&& 31))) ((4 : Int32) * x5) v_number) fun q_4 =>
      zlet (x8 + 1) fun y_5 =>
      some (.inl (y_5, q_4)))
    else (
      zlet (x8 + 1) fun y_6 =>
      some (.inl (y_6, v_number))))
def f_Md_addOr_l63 (x1 : Int32) (x4 : Int32) (x5 : Int32) (x6 : Int32) (x7 : Int32) (v_number : Nat → Int32) : Option ((Int32 × (Nat → Int32)) ⊕ ((Nat → Int32))) :=
  if x6 ≤ x7 then (
    some (.inr (v_number)))
  else (
    if ((x1 >>> (x7 &&& 31)) &&& (1 : Int32)) = 0 then (
      zlet (x7 + 1) fun y_3 =>
      some (.inl (y_3, v_number)))
    else (
      zb1 (f_Md_add ((x4 ||| ((1 : Int32) <<< (x6 &&& 31))) ||| ((1 : Int32) <<< (x7 &&& 31))) ((-2 : Int32) * x5) v_number) fun q_5 =>
      zb1 (zloop (fun q => f_Md_addOr_l106 x1 x4 x5 x6 x7 q.1 q.2) zF ((0 : Int32), q_5)) fun q_6 =>
      zlet (x7 + 1) fun y_8 =>
      some (.inl (y_8, q_6))))
def f_Md_addOr_l28 (x1 : Int32) (x4 : Int32) (x5 : Int32) (x6 : Int32) (v_number : Nat → Int32) : Option ((Int32 × (Nat → Int32)) ⊕ ((Nat → Int32))) :=
  if (24 : Int32) ≤ x6 then (
    some (.inr (v_number)))
  else (
    if ((x1 >>> (x6 &&& 31)) &&& (1 : Int32)) = 0 then (
      zlet (x6 + 1) fun y_3 =>
      some (.inl (y_3, v_number)))
    else (
      zb1 (f_Md_add (x4 ||| ((1 : Int32) <<< (x6 &&& 31))) x5 v_number) fun q_5 =>
      zb1 (zloop (fun q => f_Md_addOr_l63 x1 x4 x5 x6 q.1 q.2) zF ((0 : Int32), q_5)) fun q_6 =>
      zlet (x6 + 1) fun y_8 =>
      some (.inl (y_8, q_6))))
def f_Md_addOr_j25 (x1 : Int32) (x4 : Int32) (x5 : Int32) (v_number : Nat → Int32) : Option ((Nat → Int32)) :=
  zb1 (zloop (fun q => f_Md_addOr_l28 x1 x4 x5 q.1 q.2) zF ((0 : Int32), v_number)) fun q_1 =>
  some q_1
def f_Md_addOr_j11 (x1 : Int32) (x2 : Int32) (x3 : Int32) (x4 : Int32) (t0 : Int32) (v_number : Nat → Int32) : Option ((Nat → Int32)) :=
  if x2 = (1 : Int32) then (
    zb1 (f_Md_add x4 x3 v_number) fun q_3 =>
    f_Md_addOr_j25 x1 x4 t0 q_3)
  else (
    f_Md_addOr_j25 x1 x4 t0 v_number)
/-- PathSumsModel.addOr(IIII)V -/
def f_Md_addOr (x1 : Int32) (x2 : Int32) (x3 : Int32) (x4 : Int32) (v_number : Nat → Int32) : Option ((Nat → Int32)) :=
  if x2 = (1 : Int32) then (
    f_Md_addOr_j11 x1 x2 x3 x4 (-x3) v_number)
  else (
    f_Md_addOr_j11 x1 x2 x3 x4 x3 v_number)
def f_Md_addHalf_l18 (x1 : Int32) (x2 : Int32) (v_constant : Nat → Int32) (v_set : Nat → Int32) (x3 : Int32) (v_number : Nat → Int32) : Option ((Int32 × (Nat → Int32)) ⊕ ((Nat → Int32))) :=
  if (24 : Int32) ≤ x3 then (
    some (.inr (v_number)))
  else (
    if x1 < 0 ∨ 6 ≤ x1.toNatClampNeg then none else
    if (((v_set x1.toNatClampNeg) >>> (x3 &&& 31)) &&& (1 : Int32)) = (1 : Int32) then (
      zb1 (f_Md_add (x2 ||| ((1 : Int32) <<< (x3 &&& 31))) (4 : Int32) v_number) fun q_5 =>
      zlet (x3 + 1) fun y_6 =>
      some (.inl (y_6, q_5)))
    else (
      zlet (x3 + 1) fun y_7 =>
      some (.inl (y_7, v_number))))
def f_Md_addHalf_j16 (x1 : Int32) (x2 : Int32) (v_constant : Nat → Int32) (v_number : Nat → Int32) (v_set : Nat → Int32) : Option ((Nat → Int32)) :=
  zb1 (zloop (fun q => f_Md_addHalf_l18 x1 x2 v_constant v_set q.1 q.2) zF ((0 : Int32), v_number)) fun q_1 =>
  some q_1
/-- PathSumsModel.addHalf(II)V -/
def f_Md_addHalf (x1 : Int32) (x2 : Int32) (v_constant : Nat → Int32) (v_number : Nat → Int32) (v_set : Nat → Int32) : Option ((Nat → Int32)) :=
  if x1 < 0 ∨ 6 ≤ x1.toNatClampNeg then none else
  if (v_constant x1.toNatClampNeg) = (1 : Int32) then (
    zb1 (f_Md_add x2 (4 : Int32) v_number) fun q_4 =>
    f_Md_addHalf_j16 x1 x2 v_constant q_4 v_set)
  else (
    f_Md_addHalf_j16 x1 x2 v_constant v_number v_set)
def f_Md_addTwo_l19 (x1 : Int32) (x2 : Int32) (x3 : Int32) (v_constant : Nat → Int32) (v_set : Nat → Int32) (x4 : Int32) (v_number : Nat → Int32) : Option ((Int32 × (Nat → Int32)) ⊕ ((Nat → Int32))) :=
  if (24 : Int32) ≤ x4 then (
    some (.inr (v_number)))
  else (
    if x1 < 0 ∨ 6 ≤ x1.toNatClampNeg then none else
    if (((v_set x1.toNatClampNeg) >>> (x4 &&& 31)) &&& (1 : Int32)) = (1 : Int32) then (
      zb1 (f_Md_addHalf x2 (x3 ||| ((1 : Int32) <<< (x4 &&& 31))) v_constant v_number v_set) fun q_5 =>
      zlet (x4 + 1) fun y_6 =>
      some (.inl (y_6, q_5)))
    else (
      zlet (x4 + 1) fun y_7 =>
      some (.inl (y_7, v_number))))
def f_Md_addTwo_j16 (x1 : Int32) (x2 : Int32) (x3 : Int32) (v_constant : Nat → Int32) (v_number : Nat → Int32) (v_set : Nat → Int32) : Option ((Nat → Int32)) :=
  zb1 (zloop (fun q => f_Md_addTwo_l19 x1 x2 x3 v_constant v_set q.1 q.2) zF ((0 : Int32), v_number)) fun q_1 =>
  some q_1
/-- PathSumsModel.addTwo(III)V -/
def f_Md_addTwo (x1 : Int32) (x2 : Int32) (x3 : Int32) (v_constant : Nat → Int32) (v_number : Nat → Int32) (v_set : Nat → Int32) : Option ((Nat → Int32)) :=
  if x1 < 0 ∨ 6 ≤ x1.toNatClampNeg then none else
  if (v_constant x1.toNatClampNeg) = (1 : Int32) then (
    zb1 (f_Md_addHalf x2 x3 v_constant v_number v_set) fun q_4 =>
    f_Md_addTwo_j16 x1 x2 x3 v_constant q_4 v_set)
  else (
    f_Md_addTwo_j16 x1 x2 x3 v_constant v_number v_set)
def f_Md_addThree_l20 (x1 : Int32) (x2 : Int32) (x3 : Int32) (v_constant : Nat → Int32) (v_set : Nat → Int32) (x4 : Int32) (v_number : Nat → Int32) : Option ((Int32 × (Nat → Int32)) ⊕ ((Nat → Int32))) :=
  if (24 : Int32) ≤ x4 then (
    some (.inr (v_number)))
  else (
    if x1 < 0 ∨ 6 ≤ x1.toNatClampNeg then none else
    if (((v_set x1.toNatClampNeg) >>> (x4 &&& 31)) &&& (1 : Int32)) = (1 : Int32) then (
      zb1 (f_Md_addTwo x2 x3 ((1 : Int32) <<< (x4 &&& 31)) v_constant v_number v_set) fun q_5 =>
      zlet (x4 + 1) fun y_6 =>
      some (.inl (y_6, q_5)))
    else (
      zlet (x4 + 1) fun y_7 =>
      some (.inl (y_7, v_number))))
def f_Md_addThree_j17 (x1 : Int32) (x2 : Int32) (x3 : Int32) (v_constant : Nat → Int32) (v_number : Nat → Int32) (v_set : Nat → Int32) : Option ((Nat → Int32)) :=
  zb1 (zloop (fun q => f_Md_addThree_l20 x1 x2 x3 v_constant v_set q.1 q.2) zF ((0 : Int32), v_number)) fun q_1 =>
  some q_1
/-- PathSumsModel.addThree(III)V -/
def f_Md_addThree (x1 : Int32) (x2 : Int32) (x3 : Int32) (v_constant : Nat → Int32) (v_number : Nat → Int32) (v_set : Nat → Int32) : Option ((Nat → Int32)) :=
  if x1 < 0 ∨ 6 ≤ x1.toNatClampNeg then none else
  if (v_constant x1.toNatClampNeg) = (1 : Int32) then (
    zb1 (f_Md_addTwo x2 x3 (0 : Int32) v_constant v_number v_set) fun q_4 =>
    f_Md_addThree_j17 x1 x2 x3 v_constant q_4 v_set)
  else (
    f_Md_addThree_j17 x1 x2 x3 v_constant v_number v_set)
def f_Md_start_l37 (v_wires : Int32) (v_isOpen : Int32) (v_isEmpty : Int32) (v_came : Int32) (v_there : Int32) (v_halves : Int32) (v_rules : Int32) (v_set : Nat → Int32) (v_constant : Nat → Int32) (x2 : Int32) (v_number : Nat → Int32) : Option ((Int32 × (Nat → Int32)) ⊕ ((Nat → Int32))) :=
  if (15625 : Int32) ≤ x2 then (
    some (.inr (v_number)))
  else (
    if x2 < 0 ∨ 15625 ≤ x2.toNatClampNeg then none else
    zlet (upd v_number x2.toNatClampNeg (0 : Int32)) fun u_3 =>
    zlet (x2 + 1) fun y_4 =>
    some (.inl (y_4, u_3)))
def f_Md_start_l59 (v_wires : Int32) (v_isOpen : Int32) (v_isEmpty : Int32) (v_came : Int32) (v_there : Int32) (v_halves : Int32) (v_rules : Int32) (v_number : Nat → Int32) (x2 : Int32) (v_set : Nat → Int32) (v_constant : Nat → Int32) : Option ((Int32 × (Nat → Int32) × (Nat → Int32)) ⊕ ((Nat → Int32) × (Nat → Int32))) :=
  if (6 : Int32) ≤ x2 then (
    some (.inr (v_set, v_constant)))
  else (
    if x2 < 0 ∨ 6 ≤ x2.toNatClampNeg then none else
    zlet (upd v_set x2.toNatClampNeg (0 : Int32)) fun u_3 =>
    if x2 < 0 ∨ 6 ≤ x2.toNatClampNeg then none else
    zlet (upd v_constant x2.toNatClampNeg (0 : Int32)) fun u_5 =>
    zlet (x2 + 1) fun y_6 =>
    some (.inl (y_6, u_3, u_5)))
/-- PathSumsModel.start(I)V -/
def f_Md_start (x1 : Int32) (v_wires : Int32) (v_isOpen : Int32) (v_isEmpty : Int32) (v_came : Int32) (v_there : Int32) (v_halves : Int32) (v_rules : Int32) (v_number : Nat → Int32) (v_set : Nat → Int32) (v_constant : Nat → Int32) : Option (Int32 × Int32 × Int32 × Int32 × Int32 × Int32 × Int32 × (Nat → Int32) × (Nat → Int32) × (Nat → Int32)) :=
  zb1 (zloop (fun q => f_Md_start_l37 x1 (0 : Int32) (0 : Int32) (0 : Int32) (0 : Int32) (0 : Int32) (0 : Int32) v_set v_constant q.1 q.2) zF ((0 : Int32), v_number)) fun q_1 =>
  zb2 (zloop (fun q => f_Md_start_l59 x1 (0 : Int32) (0 : Int32) (0 : Int32) (0 : Int32) (0 : Int32) (0 : Int32) q_1 q.1 q.2.1 q.2.2) zF ((0 : Int32), v_set, v_constant)) fun q_3 q_4 =>
  some (x1, (0 : Int32), (0 : Int32), (0 : Int32), (0 : Int32), (0 : Int32), (0 : Int32), q_1, q_3, q_4)
def f_Md_begin_l36 (x1 : Int32) (x2 : Int32) (v_thrown : Int32) (v_wires : Int32) (v_isOpen : Int32) (v_isEmpty : Int32) (v_came : Int32) (v_there : Int32) (v_halves : Int32) (v_rules : Int32) (v_number : Nat → Int32) (v_set : Nat → Int32) (x3 : Int32) (v_constant : Nat → Int32) : Option ((Int32 × (Nat → Int32)) ⊕ ((Nat → Int32))) :=
  if x1 ≤ x3 then (
    some (.inr (v_constant)))
  else (
    if x3 < 0 ∨ 6 ≤ x3.toNatClampNeg then none else
    zlet (upd v_constant x3.toNatClampNeg ((x2 >>> (x3 &&& 31)) &&& (1 : Int32))) fun u_3 =>
    zlet (x3 + 1) fun y_4 =>
    some (.inl (y_4, u_3)))
/-- PathSumsModel.begin(II)Z -/
def f_Md_begin (x1 : Int32) (x2 : Int32) (v_thrown : Int32) (v_wires : Int32) (v_isOpen : Int32) (v_isEmpty : Int32) (v_came : Int32) (v_there : Int32) (v_halves : Int32) (v_rules : Int32) (v_number : Nat → Int32) (v_set : Nat → Int32) (v_constant : Nat → Int32) : Option (Int32 × Int32 × Int32 × Int32 × Int32 × Int32 × Int32 × Int32 × Int32 × (Nat → Int32) × (Nat → Int32) × (Nat → Int32)) :=
  if x1 < (1 : Int32) then (
    some ((0 : Int32), (0 : Int32), v_wires, v_isOpen, v_isEmpty, v_came, v_there, v_halves, v_rules, v_number, v_set, v_constant))
  else (
    if (6 : Int32) < x1 then (
      some ((0 : Int32), (0 : Int32), v_wires, v_isOpen, v_isEmpty, v_came, v_there, v_halves, v_rules, v_number, v_set, v_constant))
    else (
      if x2 < 0 then (
        some ((0 : Int32), (0 : Int32), v_wires, v_isOpen, v_isEmpty, v_came, v_there, v_halves, v_rules, v_number, v_set, v_constant))
      else (
        if x2 < ((1 : Int32) <<< (x1 &&& 31)) then (
          zb10 (f_Md_start x1 v_wires v_isOpen v_isEmpty v_came v_there v_halves v_rules v_number v_set v_constant) fun q_6 q_7 q_8 q_9 q_10 q_11 q_12 q_13 q_14 q_15 =>
          zb1 (zloop (fun q => f_Md_begin_l36 x1 x2 (0 : Int32) q_6 q_7 q_8 q_9 q_10 q_11 q_12 q_13 q_14 q.1 q.2) zF ((0 : Int32), q_15)) fun q_16 =>
          some ((1 : Int32), (0 : Int32), q_6, q_7, q_8, q_9, q_10, q_11, q_12, q_13, q_14, q_16))
        else (
          some ((0 : Int32), (0 : Int32), v_wires, v_isOpen, v_isEmpty, v_came, v_there, v_halves, v_rules, v_number, v_set, v_constant)))))
def f_Md_open_l44 (x1 : Int32) (v_thrown : Int32) (v_wires : Int32) (v_isOpen : Int32) (v_isEmpty : Int32) (v_came : Int32) (v_there : Int32) (v_halves : Int32) (v_rules : Int32) (v_number : Nat → Int32) (v_constant : Nat → Int32) (x2 : Int32) (v_set : Nat → Int32) : Option ((Int32 × (Nat → Int32)) ⊕ ((Nat → Int32))) :=
  if x1 ≤ x2 then (
    some (.inr (v_set)))
  else (
    if x2 < 0 ∨ 6 ≤ x2.toNatClampNeg then none else
    zlet (upd v_set x2.toNatClampNeg ((1 : Int32) <<< (x2 &&& 31))) fun u_3 =>
    zlet (x2 + 1) fun y_4 =>
    some (.inl (y_4, u_3)))
/-- PathSumsModel.open(I)Z -/
def f_Md_open (x1 : Int32) (v_thrown : Int32) (v_wires : Int32) (v_isOpen : Int32) (v_isEmpty : Int32) (v_came : Int32) (v_there : Int32) (v_halves : Int32) (v_rules : Int32) (v_number : Nat → Int32) (v_set : Nat → Int32) (v_constant : Nat → Int32) : Option (Int32 × Int32 × Int32 × Int32 × Int32 × Int32 × Int32 × Int32 × Int32 × (Nat → Int32) × (Nat → Int32) × (Nat → Int32)) :=
  if x1 < (1 : Int32) then (
    some ((0 : Int32), (0 : Int32), v_wires, v_isOpen, v_isEmpty, v_came, v_there, v_halves, v_rules, v_number, v_set, v_constant))
  else (
    if x1 ≤ (6 : Int32) then (
      zb10 (f_Md_start x1 v_wires v_isOpen v_isEmpty v_came v_there v_halves v_rules v_number v_set v_constant) fun q_4 q_5 q_6 q_7 q_8 q_9 q_10 q_11 q_12 q_13 =>
      zlet (((1 : Int32) <<< (x1 &&& 31)) - (1 : Int32)) fun y_14 =>
      zb1 (zloop (fun q => f_Md_open_l44 x1 (0 : Int32) q_4 (1 : Int32) q_6 x1 y_14 q_9 q_10 q_11 q_13 q.1 q.2) zF ((0 : Int32), q_12)) fun q_15 =>
      some ((1 : Int32), (0 : Int32), q_4, (1 : Int32), q_6, x1, y_14, q_9, q_10, q_11, q_15, q_13))
    else (
      some ((0 : Int32), (0 : Int32), v_wires, v_isOpen, v_isEmpty, v_came, v_there, v_halves, v_rules, v_number, v_set, v_constant)))
/-- PathSumsModel.isWire(I)Z -/
def f_Md_isWire (x1 : Int32) (v_wires : Int32) : Int32 :=
  if x1 < 0 then (
    (0 : Int32))
  else (
    if v_wires ≤ x1 then (
      (0 : Int32))
    else (
      (1 : Int32)))
/-- PathSumsModel.wiresOf(I)I -/
def f_Md_wiresOf (x0 : Int32) : Int32 :=
  if x0 = (9 : Int32) then (
    (3 : Int32))
  else (
    if x0 = (1 : Int32) then (
      (2 : Int32))
    else (
      if x0 = (2 : Int32) then (
        (2 : Int32))
      else (
        if x0 = (8 : Int32) then (
          (2 : Int32))
        else (
          (1 : Int32)))))
/-- PathSumsModel.eighthsOf(I)I -/
def f_Md_eighthsOf (x0 : Int32) : Int32 :=
  if x0 = (3 : Int32) then (
    (4 : Int32))
  else (
    if x0 = (4 : Int32) then (
      (2 : Int32))
    else (
      if x0 = (5 : Int32) then (
        (1 : Int32))
      else (
        if x0 = (6 : Int32) then (
          (6 : Int32))
        else (
          (7 : Int32)))))
/-- PathSumsModel.exchange(II)V -/
def f_Md_exchange (x1 : Int32) (x2 : Int32) (v_set : Nat → Int32) (v_constant : Nat → Int32) : Option ((Nat → Int32) × (Nat → Int32)) :=
  if x1 < 0 ∨ 6 ≤ x1.toNatClampNeg then none else
  zlet (v_set x1.toNatClampNeg) fun y_2 =>
  if x2 < 0 ∨ 6 ≤ x2.toNatClampNeg then none else
  if x1 < 0 ∨ 6 ≤ x1.toNatClampNeg then none else
  zlet (upd v_set x1.toNatClampNeg (v_set x2.toNatClampNeg)) fun u_5 =>
  if x2 < 0 ∨ 6 ≤ x2.toNatClampNeg then none else
  zlet (upd u_5 x2.toNatClampNeg y_2) fun u_7 =>
  if x1 < 0 ∨ 6 ≤ x1.toNatClampNeg then none else
  zlet (v_constant x1.toNatClampNeg) fun y_9 =>
  if x2 < 0 ∨ 6 ≤ x2.toNatClampNeg then none else
  if x1 < 0 ∨ 6 ≤ x1.toNatClampNeg then none else
  zlet (upd v_constant x1.toNatClampNeg (v_constant x2.toNatClampNeg)) fun u_12 =>
  if x2 < 0 ∨ 6 ≤ x2.toNatClampNeg then none else
  zlet (upd u_12 x2.toNatClampNeg y_9) fun u_14 =>
  some (u_7, u_14)
/-- PathSumsModel.newBit(II)V -/
def f_Md_newBit (x1 : Int32) (x2 : Int32) (v_came : Int32) (v_there : Int32) (v_halves : Int32) (v_constant : Nat → Int32) (v_number : Nat → Int32) (v_set : Nat → Int32) : Option (Int32 × Int32 × Int32 × (Nat → Int32)) :=
  zb1 (f_Md_addHalf x1 ((1 : Int32) <<< (v_came &&& 31)) v_constant v_number v_set) fun q_2 =>
  zlet (v_there ||| ((1 : Int32) <<< (v_came &&& 31))) fun y_3 =>
  zlet (v_came + (1 : Int32)) fun y_4 =>
  zlet (v_halves + x2) fun y_5 =>
  some (y_4, y_3, y_5, q_2)
def f_Md_gate_j101 (x1 : Int32) (x2 : Int32) (x3 : Int32) (x4 : Int32) (v_thrown : Int32) (v_wires : Int32) (v_isEmpty : Int32) (v_came : Int32) (v_there : Int32) (v_halves : Int32) (v_constant : Nat → Int32) (v_set : Nat → Int32) (v_number : Nat → Int32) : Option (Int32 × Int32 × Int32 × Int32 × Int32 × (Nat → Int32) × (Nat → Int32) × (Nat → Int32)) :=
  if x1 = 0 then (
    if x2 < 0 ∨ 6 ≤ x2.toNatClampNeg then none else
    if x2 < 0 ∨ 6 ≤ x2.toNatClampNeg then none else
    zlet (upd v_constant x2.toNatClampNeg ((v_constant x2.toNatClampNeg) ^^^ (1 : Int32))) fun u_4 =>
    some ((1 : Int32), v_thrown, v_came, v_there, v_halves, u_4, v_set, v_number))
  else (
  if x1 = 1 then (
    if x2 < 0 ∨ 6 ≤ x2.toNatClampNeg then none else
    if x3 < 0 ∨ 6 ≤ x3.toNatClampNeg then none else
    if x2 < 0 ∨ 6 ≤ x2.toNatClampNeg then none else
    zlet (upd v_set x2.toNatClampNeg ((v_set x2.toNatClampNeg) ^^^ (v_set x3.toNatClampNeg))) fun u_9 =>
    if x2 < 0 ∨ 6 ≤ x2.toNatClampNeg then none else
    if x3 < 0 ∨ 6 ≤ x3.toNatClampNeg then none else
    if x2 < 0 ∨ 6 ≤ x2.toNatClampNeg then none else
    zlet (upd v_constant x2.toNatClampNeg ((v_constant x2.toNatClampNeg) ^^^ (v_constant x3.toNatClampNeg))) fun u_13 =>
    some ((1 : Int32), v_thrown, v_came, v_there, v_halves, u_13, u_9, v_number))
  else (
  if x1 = 2 then (
    zb2 (f_Md_exchange x2 x3 v_set v_constant) fun q_16 q_17 =>
    some ((1 : Int32), v_thrown, v_came, v_there, v_halves, q_17, q_16, v_number))
  else (
  if x1 = 3 then (
    if x2 < 0 ∨ 6 ≤ x2.toNatClampNeg then none else
    if x2 < 0 ∨ 6 ≤ x2.toNatClampNeg then none else
    zb1 (f_Md_addOr (v_set x2.toNatClampNeg) (v_constant x2.toNatClampNeg) (f_Md_eighthsOf x1) (0 : Int32) v_number) fun q_23 =>
    some ((1 : Int32), v_thrown, v_came, v_there, v_halves, v_constant, v_set, q_23))
  else (
  if x1 = 4 then (
    if x2 < 0 ∨ 6 ≤ x2.toNatClampNeg then none else
    if x2 < 0 ∨ 6 ≤ x2.toNatClampNeg then none else
    zb1 (f_Md_addOr (v_set x2.toNatClampNeg) (v_constant x2.toNatClampNeg) (f_Md_eighthsOf x1) (0 : Int32) v_number) fun q_29 =>
    some ((1 : Int32), v_thrown, v_came, v_there, v_halves, v_constant, v_set, q_29))
  else (
  if x1 = 5 then (
    if x2 < 0 ∨ 6 ≤ x2.toNatClampNeg then none else
    if x2 < 0 ∨ 6 ≤ x2.toNatClampNeg then none else
    zb1 (f_Md_addOr (v_set x2.toNatClampNeg) (v_constant x2.toNatClampNeg) (f_Md_eighthsOf x1) (0 : Int32) v_number) fun q_35 =>
    some ((1 : Int32), v_thrown, v_came, v_there, v_halves, v_constant, v_set, q_35))
  else (
  if x1 = 6 then (
    if x2 < 0 ∨ 6 ≤ x2.toNatClampNeg then none else
    if x2 < 0 ∨ 6 ≤ x2.toNatClampNeg then none else
    zb1 (f_Md_addOr (v_set x2.toNatClampNeg) (v_constant x2.toNatClampNeg) (f_Md_eighthsOf x1) (0 : Int32) v_number) fun q_41 =>
    some ((1 : Int32), v_thrown, v_came, v_there, v_halves, v_constant, v_set, q_41))
  else (
  if x1 = 7 then (
    if x2 < 0 ∨ 6 ≤ x2.toNatClampNeg then none else
    if x2 < 0 ∨ 6 ≤ x2.toNatClampNeg then none else
    zb1 (f_Md_addOr (v_set x2.toNatClampNeg) (v_constant x2.toNatClampNeg) (f_Md_eighthsOf x1) (0 : Int32) v_number) fun q_47 =>
    some ((1 : Int32), v_thrown, v_came, v_there, v_halves, v_constant, v_set, q_47))
  else (
  if x1 = 8 then (
    zb1 (f_Md_addTwo x2 x3 (0 : Int32) v_constant v_number v_set) fun q_50 =>
    some ((1 : Int32), v_thrown, v_came, v_there, v_halves, v_constant, v_set, q_50))
  else (
  if x1 = 9 then (
    zb1 (f_Md_addThree x2 x3 x4 v_constant v_number v_set) fun q_53 =>
    some ((1 : Int32), v_thrown, v_came, v_there, v_halves, v_constant, v_set, q_53))
  else (
  if x1 = 10 then (
    zb4 (f_Md_newBit x2 (1 : Int32) v_came v_there v_halves v_constant v_number v_set) fun q_56 q_57 q_58 q_59 =>
    if x2 < 0 ∨ 6 ≤ x2.toNatClampNeg then none else
    zlet (upd v_set x2.toNatClampNeg ((1 : Int32) <<< ((q_56 - (1 : Int32)) &&& 31))) fun u_61 =>
    if x2 < 0 ∨ 6 ≤ x2.toNatClampNeg then none else
    zlet (upd v_constant x2.toNatClampNeg (0 : Int32)) fun u_63 =>
    some ((1 : Int32), v_thrown, q_56, q_57, q_58, u_63, u_61, q_59))
  else (
  if x1 = 11 then (
    zb4 (f_Md_newBit x2 (2 : Int32) v_came v_there v_halves v_constant v_number v_set) fun q_66 q_67 q_68 q_69 =>
    some ((1 : Int32), v_thrown, q_66, q_67, q_68, v_constant, v_set, q_69))
  else (
  if x1 = 12 then (
    zb4 (f_Md_newBit x2 (2 : Int32) v_came v_there v_halves v_constant v_number v_set) fun q_72 q_73 q_74 q_75 =>
    zb1 (f_Md_add ((1 : Int32) <<< ((q_72 - (1 : Int32)) &&& 31)) (4 : Int32) q_75) fun q_77 =>
    some ((1 : Int32), v_thrown, q_72, q_73, q_74, v_constant, v_set, q_77))
  else (
  if x2 < 0 ∨ 6 ≤ x2.toNatClampNeg then none else
  if x2 < 0 ∨ 6 ≤ x2.toNatClampNeg then none else
  zb1 (f_Md_addOr (v_set x2.toNatClampNeg) (v_constant x2.toNatClampNeg) (f_Md_eighthsOf x1) (0 : Int32) v_number) fun q_82 =>
  some ((1 : Int32), v_thrown, v_came, v_there, v_halves, v_constant, v_set, q_82))))))))))))))
def f_Md_gate_j72 (x1 : Int32) (x2 : Int32) (x3 : Int32) (x4 : Int32) (x5 : Int32) (v_thrown : Int32) (v_wires : Int32) (v_isEmpty : Int32) (v_came : Int32) (v_there : Int32) (v_halves : Int32) (v_constant : Nat → Int32) (v_set : Nat → Int32) (v_number : Nat → Int32) : Option (Int32 × Int32 × Int32 × Int32 × Int32 × (Nat → Int32) × (Nat → Int32) × (Nat → Int32)) :=
  if x5 ≤ (2 : Int32) then (
    f_Md_gate_j101 x1 x2 x3 x4 v_thrown v_wires v_isEmpty v_came v_there v_halves v_constant v_set v_number)
  else (
    if (f_Md_isWire x4 v_wires) = 0 then (
      some ((0 : Int32), v_thrown, v_came, v_there, v_halves, v_constant, v_set, v_number))
    else (
      if x4 = x2 then (
        some ((0 : Int32), v_thrown, v_came, v_there, v_halves, v_constant, v_set, v_number))
      else (
        if x4 = x3 then (
          some ((0 : Int32), v_thrown, v_came, v_there, v_halves, v_constant, v_set, v_number))
        else (
          f_Md_gate_j101 x1 x2 x3 x4 v_thrown v_wires v_isEmpty v_came v_there v_halves v_constant v_set v_number))))
def f_Md_gate_j39 (x1 : Int32) (x2 : Int32) (x3 : Int32) (x4 : Int32) (v_thrown : Int32) (v_wires : Int32) (v_isEmpty : Int32) (v_came : Int32) (v_there : Int32) (v_halves : Int32) (v_constant : Nat → Int32) (v_set : Nat → Int32) (v_number : Nat → Int32) : Option (Int32 × Int32 × Int32 × Int32 × Int32 × (Nat → Int32) × (Nat → Int32) × (Nat → Int32)) :=
  zlet (f_Md_wiresOf x1) fun y_2 =>
  if (f_Md_isWire x2 v_wires) = 0 then (
    some ((0 : Int32), v_thrown, v_came, v_there, v_halves, v_constant, v_set, v_number))
  else (
    if y_2 ≤ (1 : Int32) then (
      f_Md_gate_j72 x1 x2 x3 x4 y_2 v_thrown v_wires v_isEmpty v_came v_there v_halves v_constant v_set v_number)
    else (
      if (f_Md_isWire x3 v_wires) = 0 then (
        some ((0 : Int32), v_thrown, v_came, v_there, v_halves, v_constant, v_set, v_number))
      else (
        if x2 = x3 then (
          some ((0 : Int32), v_thrown, v_came, v_there, v_halves, v_constant, v_set, v_number))
        else (
          f_Md_gate_j72 x1 x2 x3 x4 y_2 v_thrown v_wires v_isEmpty v_came v_there v_halves v_constant v_set v_number))))
/-- PathSumsModel.gate(IIII)Z -/
def f_Md_gate (x1 : Int32) (x2 : Int32) (x3 : Int32) (x4 : Int32) (v_thrown : Int32) (v_wires : Int32) (v_isEmpty : Int32) (v_came : Int32) (v_there : Int32) (v_halves : Int32) (v_constant : Nat → Int32) (v_set : Nat → Int32) (v_number : Nat → Int32) : Option (Int32 × Int32 × Int32 × Int32 × Int32 × (Nat → Int32) × (Nat → Int32) × (Nat → Int32)) :=
  if x1 < 0 then (
    some ((0 : Int32), (0 : Int32), v_came, v_there, v_halves, v_constant, v_set, v_number))
  else (
    if (12 : Int32) < x1 then (
      some ((0 : Int32), (0 : Int32), v_came, v_there, v_halves, v_constant, v_set, v_number))
    else (
      if v_isEmpty = 0 then (
        if x1 ≤ (9 : Int32) then (
          f_Md_gate_j39 x1 x2 x3 x4 (0 : Int32) v_wires v_isEmpty v_came v_there v_halves v_constant v_set v_number)
        else (
          if v_came = (24 : Int32) then (
            some ((0 : Int32), (0 : Int32), v_came, v_there, v_halves, v_constant, v_set, v_number))
          else (
            f_Md_gate_j39 x1 x2 x3 x4 (0 : Int32) v_wires v_isEmpty v_came v_there v_halves v_constant v_set v_number)))
      else (
        some ((0 : Int32), (0 : Int32), v_came, v_there, v_halves, v_constant, v_set, v_number))))
/-- PathSumsModel.inputs()I -/
def f_Md_inputs (v_wires : Int32) (v_isOpen : Int32) : Int32 :=
  if v_isOpen = 0 then (
    (0 : Int32))
  else (
    ((1 : Int32) <<< (v_wires &&& 31)) - (1 : Int32))
def f_Md_isHidden_l27 (x1 : Int32) (v_wires : Int32) (v_isOpen : Int32) (v_there : Int32) (v_set : Nat → Int32) (x2 : Int32) : Option ((Int32) ⊕ ((Unit) ⊕ (Int32))) :=
  if v_wires ≤ x2 then (
    some (.inr (.inl ())))
  else (
    if x2 < 0 ∨ 6 ≤ x2.toNatClampNeg then none else
    if (((v_set x2.toNatClampNeg) >>> (x1 &&& 31)) &&& (1 : Int32)) = (1 : Int32) then (
      some (.inr (.inr (0 : Int32))))
    else (
      zlet (x2 + 1) fun y_4 =>
      some (.inl (y_4))))
/-- PathSumsModel.isHidden(I)Z -/
def f_Md_isHidden (x1 : Int32) (v_wires : Int32) (v_isOpen : Int32) (v_there : Int32) (v_set : Nat → Int32) : Option (Int32) :=
  if ((v_there >>> (x1 &&& 31)) &&& (1 : Int32)) = 0 then (
    some (0 : Int32))
  else (
    if (((f_Md_inputs v_wires v_isOpen) >>> (x1 &&& 31)) &&& (1 : Int32)) = (1 : Int32) then (
      some (0 : Int32))
    else (
      zr0 (zloop (fun q => f_Md_isHidden_l27 x1 v_wires v_isOpen v_there v_set q) zF ((0 : Int32))) <|
      some (1 : Int32)))
def f_Md_findFactor_l75 (x1 : Int32) (x2 : Int32) (v_alone : Int32) (v_halfBits : Int32) (v_number : Nat → Int32) (x4 : Int32) : Option ((Int32) ⊕ ((Unit) ⊕ (Int32 × Int32 × Int32))) :=
  if x2 ≤ x4 then (
    some (.inr (.inl ())))
  else (
    if x4 = x1 then (
      zlet (x4 + 1) fun y_3 =>
      some (.inl (y_3)))
    else (
      zb1 (f_Md_numberOf ((((1 : Int32) <<< (x1 &&& 31)) ||| ((1 : Int32) <<< (x2 &&& 31))) ||| ((1 : Int32) <<< (x4 &&& 31))) v_number) fun r_5 =>
      if r_5 = 0 then (
        zlet (x4 + 1) fun y_7 =>
        some (.inl (y_7)))
      else (
        some (.inr (.inr ((0 : Int32), v_alone, v_halfBits))))))
def f_Md_findFactor_l18 (x1 : Int32) (v_alone : Int32) (v_number : Nat → Int32) (x2 : Int32) (v_halfBits : Int32) : Option ((Int32 × Int32) ⊕ ((Int32) ⊕ (Int32 × Int32 × Int32))) :=
  if (24 : Int32) ≤ x2 then (
    some (.inr (.inl (v_halfBits))))
  else (
    if x2 = x1 then (
      zlet (x2 + 1) fun y_3 =>
      some (.inl (y_3, v_halfBits)))
    else (
      zb1 (f_Md_numberOf (((1 : Int32) <<< (x1 &&& 31)) ||| ((1 : Int32) <<< (x2 &&& 31))) v_number) fun r_5 =>
      if r_5 = 0 then (
        if r_5 = (4 : Int32) then (
          zlet (v_halfBits ||| ((1 : Int32) <<< (x2 &&& 31))) fun y_8 =>
          zs0 (zloop (fun q => f_Md_findFactor_l75 x1 x2 v_alone y_8 v_number q) zF ((0 : Int32))) <|
          zlet (x2 + 1) fun y_10 =>
          some (.inl (y_10, y_8)))
        else (
          zs0 (zloop (fun q => f_Md_findFactor_l75 x1 x2 v_alone v_halfBits v_number q) zF ((0 : Int32))) <|
          zlet (x2 + 1) fun y_12 =>
          some (.inl (y_12, v_halfBits))))
      else (
        if r_5 = (4 : Int32) then (
          if r_5 = (4 : Int32) then (
            zlet (v_halfBits ||| ((1 : Int32) <<< (x2 &&& 31))) fun y_15 =>
            zs0 (zloop (fun q => f_Md_findFactor_l75 x1 x2 v_alone y_15 v_number q) zF ((0 : Int32))) <|
            zlet (x2 + 1) fun y_17 =>
            some (.inl (y_17, y_15)))
          else (
            zs0 (zloop (fun q => f_Md_findFactor_l75 x1 x2 v_alone v_halfBits v_number q) zF ((0 : Int32))) <|
            zlet (x2 + 1) fun y_19 =>
            some (.inl (y_19, v_halfBits))))
        else (
          some (.inr (.inr ((0 : Int32), v_alone, v_halfBits)))))))
/-- PathSumsModel.findFactor(I)Z -/
def f_Md_findFactor (x1 : Int32) (v_alone : Int32) (v_halfBits : Int32) (v_number : Nat → Int32) : Option (Int32 × Int32 × Int32) :=
  zb1 (f_Md_numberOf ((1 : Int32) <<< (x1 &&& 31)) v_number) fun r_2 =>
  zr1 (zloop (fun q => f_Md_findFactor_l18 x1 r_2 v_number q.1 q.2) zF ((0 : Int32), (0 : Int32))) fun q_3 =>
  some ((1 : Int32), r_2, q_3)
def f_Md_ruleFor_j90 (t0 : Int32) (v_wires : Int32) (v_isOpen : Int32) (v_there : Int32) (v_alone : Int32) (v_halfBits : Int32) (v_set : Nat → Int32) (v_number : Nat → Int32) : Option (Int32 × Int32 × Int32) :=
  if t0 = 0 then (
    some ((0 : Int32), v_alone, v_halfBits))
  else (
    if (v_halfBits &&& ((f_Md_inputs v_wires v_isOpen) ^^^ (-1 : Int32))) = 0 then (
      some ((0 : Int32), v_alone, v_halfBits))
    else (
      some ((3 : Int32), v_alone, v_halfBits)))
def f_Md_ruleFor_j85 (v_wires : Int32) (v_isOpen : Int32) (v_there : Int32) (v_alone : Int32) (v_halfBits : Int32) (v_set : Nat → Int32) (v_number : Nat → Int32) : Option (Int32 × Int32 × Int32) :=
  f_Md_ruleFor_j90 (1 : Int32) v_wires v_isOpen v_there v_alone v_halfBits v_set v_number
def f_Md_ruleFor_j51 (v_wires : Int32) (v_isOpen : Int32) (v_there : Int32) (v_alone : Int32) (v_halfBits : Int32) (v_set : Nat → Int32) (v_number : Nat → Int32) : Option (Int32 × Int32 × Int32) :=
  if v_alone = (2 : Int32) then (
    some ((4 : Int32), v_alone, v_halfBits))
  else (
    if v_alone = (6 : Int32) then (
      some ((4 : Int32), v_alone, v_halfBits))
    else (
      if v_alone = 0 then (
        f_Md_ruleFor_j85 v_wires v_isOpen v_there v_alone v_halfBits v_set v_number)
      else (
        if v_alone = (4 : Int32) then (
          f_Md_ruleFor_j85 v_wires v_isOpen v_there v_alone v_halfBits v_set v_number)
        else (
          f_Md_ruleFor_j90 (0 : Int32) v_wires v_isOpen v_there v_alone v_halfBits v_set v_number))))
def f_Md_ruleFor_j34 (v_wires : Int32) (v_isOpen : Int32) (v_there : Int32) (v_alone : Int32) (v_halfBits : Int32) (v_set : Nat → Int32) (v_number : Nat → Int32) : Option (Int32 × Int32 × Int32) :=
  if v_halfBits = 0 then (
    if v_alone = (4 : Int32) then (
      some ((2 : Int32), v_alone, v_halfBits))
    else (
      f_Md_ruleFor_j51 v_wires v_isOpen v_there v_alone v_halfBits v_set v_number))
  else (
    f_Md_ruleFor_j51 v_wires v_isOpen v_there v_alone v_halfBits v_set v_number)
/-- PathSumsModel.ruleFor(I)I -/
def f_Md_ruleFor (x1 : Int32) (v_wires : Int32) (v_isOpen : Int32) (v_there : Int32) (v_alone : Int32) (v_halfBits : Int32) (v_set : Nat → Int32) (v_number : Nat → Int32) : Option (Int32 × Int32 × Int32) :=
  zb1 (f_Md_isHidden x1 v_wires v_isOpen v_there v_set) fun r_2 =>
  if r_2 = 0 then (
    some ((0 : Int32), v_alone, v_halfBits))
  else (
    zb3 (f_Md_findFactor x1 v_alone v_halfBits v_number) fun r_5 q_6 q_7 =>
    if r_5 = 0 then (
      some ((0 : Int32), q_6, q_7))
    else (
      if q_7 = 0 then (
        if q_6 = 0 then (
          some ((1 : Int32), q_6, q_7))
        else (
          f_Md_ruleFor_j34 v_wires v_isOpen v_there q_6 q_7 v_set v_number))
      else (
        f_Md_ruleFor_j34 v_wires v_isOpen v_there q_6 q_7 v_set v_number)))
def f_Md_empty_l25 (v_wires : Int32) (v_isOpen : Int32) (v_isEmpty : Int32) (v_there : Int32) (v_halves : Int32) (v_set : Nat → Int32) (x1 : Int32) (v_number : Nat → Int32) : Option ((Int32 × (Nat → Int32)) ⊕ ((Nat → Int32))) :=
  if (15625 : Int32) ≤ x1 then (
    some (.inr (v_number)))
  else (
    if x1 < 0 ∨ 15625 ≤ x1.toNatClampNeg then none else
    zlet (upd v_number x1.toNatClampNeg (0 : Int32)) fun u_3 =>
    zlet (x1 + 1) fun y_4 =>
    some (.inl (y_4, u_3)))
def f_Md_empty_l47 (v_wires : Int32) (v_isOpen : Int32) (v_isEmpty : Int32) (v_there : Int32) (v_halves : Int32) (v_number : Nat → Int32) (x1 : Int32) (v_set : Nat → Int32) : Option ((Int32 × (Nat → Int32)) ⊕ ((Nat → Int32))) :=
  if v_wires ≤ x1 then (
    some (.inr (v_set)))
  else (
    if x1 < 0 ∨ 6 ≤ x1.toNatClampNeg then none else
    if x1 < 0 ∨ 6 ≤ x1.toNatClampNeg then none else
    zlet (upd v_set x1.toNatClampNeg ((v_set x1.toNatClampNeg) &&& (f_Md_inputs v_wires v_isOpen))) fun u_5 =>
    zlet (x1 + 1) fun y_6 =>
    some (.inl (y_6, u_5)))
/-- PathSumsModel.empty()V -/
def f_Md_empty (v_wires : Int32) (v_isOpen : Int32) (v_isEmpty : Int32) (v_there : Int32) (v_halves : Int32) (v_number : Nat → Int32) (v_set : Nat → Int32) : Option (Int32 × Int32 × Int32 × (Nat → Int32) × (Nat → Int32)) :=
  zlet (v_there &&& (f_Md_inputs v_wires v_isOpen)) fun y_2 =>
  zb1 (zloop (fun q => f_Md_empty_l25 v_wires v_isOpen (1 : Int32) y_2 (0 : Int32) v_set q.1 q.2) zF ((0 : Int32), v_number)) fun q_3 =>
  zb1 (zloop (fun q => f_Md_empty_l47 v_wires v_isOpen (1 : Int32) y_2 (0 : Int32) q_3 q.1 q.2) zF ((0 : Int32), v_set)) fun q_5 =>
  some ((1 : Int32), y_2, (0 : Int32), q_3, q_5)
def f_Md_dropBit_l24 (x1 : Int32) (x2 : Int32) (v_there : Int32) (x3 : Int32) (v_number : Nat → Int32) : Option ((Int32 × (Nat → Int32)) ⊕ ((Nat → Int32))) :=
  if x2 < x3 then (
    some (.inr (v_number)))
  else (
    zb1 (f_Md_placeOf ((((1 : Int32) <<< (x1 &&& 31)) ||| ((1 : Int32) <<< (x2 &&& 31))) ||| ((1 : Int32) <<< (x3 &&& 31)))) fun r_3 =>
    if r_3 < 0 ∨ 15625 ≤ r_3.toNatClampNeg then none else
    zlet (upd v_number r_3.toNatClampNeg (0 : Int32)) fun u_5 =>
    zlet (x3 + 1) fun y_6 =>
    some (.inl (y_6, u_5)))
def f_Md_dropBit_l16 (x1 : Int32) (v_there : Int32) (x2 : Int32) (v_number : Nat → Int32) : Option ((Int32 × (Nat → Int32)) ⊕ ((Nat → Int32))) :=
  if (24 : Int32) ≤ x2 then (
    some (.inr (v_number)))
  else (
    zb1 (zloop (fun q => f_Md_dropBit_l24 x1 x2 v_there q.1 q.2) zF ((0 : Int32), v_number)) fun q_2 =>
    zlet (x2 + 1) fun y_4 =>
    some (.inl (y_4, q_2)))
/-- PathSumsModel.dropBit(I)V -/
def f_Md_dropBit (x1 : Int32) (v_there : Int32) (v_number : Nat → Int32) : Option (Int32 × (Nat → Int32)) :=
  zlet (v_there &&& (((1 : Int32) <<< (x1 &&& 31)) ^^^ (-1 : Int32))) fun y_1 =>
  zb1 (zloop (fun q => f_Md_dropBit_l16 x1 y_1 q.1 q.2) zF ((0 : Int32), v_number)) fun q_2 =>
  some (y_1, q_2)
def f_Md_greatest_l3 (x0 : Int32) (x1 : Int32) : Option ((Int32) ⊕ (Int32)) :=
  if ((x0 >>> (x1 &&& 31)) &&& (1 : Int32)) = 0 then (
    zlet (x1 + (-1)) fun y_2 =>
    some (.inl (y_2)))
  else (
    some (.inr (x1)))
/-- PathSumsModel.greatest(I)I -/
def f_Md_greatest (x0 : Int32) : Option (Int32) :=
  zb1 (zloop (fun q => f_Md_greatest_l3 x0 q) zF ((23 : Int32))) fun y_1 =>
  some y_1
def f_Md_become_l16 (x1 : Int32) (x2 : Int32) (x3 : Int32) (x5 : Int32) (v_wires : Int32) (v_there : Int32) (v_number : Nat → Int32) (v_set : Nat → Int32) (v_constant : Nat → Int32) (x4 : Int32) (x6 : Int32) (v_oldSet : Nat → Int32) (v_oldNumber : Nat → Int32) : Option ((Int32 × Int32 × (Nat → Int32) × (Nat → Int32)) ⊕ (Int32 × (Nat → Int32) × (Nat → Int32))) :=
  if x5 < x6 then (
    some (.inr (x4, v_oldSet, v_oldNumber)))
  else (
    zlet ((((1 : Int32) <<< (x5 &&& 31)) ||| ((1 : Int32) <<< (x6 &&& 31))) &&& (((1 : Int32) <<< (x1 &&& 31)) ^^^ (-1 : Int32))) fun y_2 =>
    if x5 = x1 then (
      if x6 = x1 then (
        zb1 (f_Md_numberOf (y_2 ||| ((1 : Int32) <<< (x1 &&& 31))) v_number) fun r_6 =>
        if r_6 = 0 then (
          zlet (x6 + 1) fun y_8 =>
          some (.inl (x4, y_8, v_oldSet, v_oldNumber)))
        else (
          if x4 < 0 ∨ 300 ≤ x4.toNatClampNeg then none else
          zlet (upd v_oldSet x4.toNatClampNeg y_2) fun u_10 =>
          if x4 < 0 ∨ 300 ≤ x4.toNatClampNeg then none else
          zlet (upd v_oldNumber x4.toNatClampNeg r_6) fun u_12 =>
          zlet (x4 + 1) fun y_13 =>
          zlet (x6 + 1) fun y_14 =>
          some (.inl (y_13, y_14, u_10, u_12))))
      else (
        zb1 (f_Md_numberOf (y_2 ||| ((1 : Int32) <<< (x1 &&& 31))) v_number) fun r_16 =>
        zlet (x6 + 1) fun y_17 =>
        some (.inl (x4, y_17, v_oldSet, v_oldNumber))))
    else (
      if x6 = x1 then (
        zb1 (f_Md_numberOf (y_2 ||| ((1 : Int32) <<< (x1 &&& 31))) v_number) fun r_20 =>
        zlet (x6 + 1) fun y_21 =>
        some (.inl (x4, y_21, v_oldSet, v_oldNumber)))
      else (
        zb1 (f_Md_numberOf (y_2 ||| ((1 : Int32) <<< (x1 &&& 31))) v_number) fun r_23 =>
        if r_23 = 0 then (
          zlet (x6 + 1) fun y_25 =>
          some (.inl (x4, y_25, v_oldSet, v_oldNumber)))
        else (
          if x4 < 0 ∨ 300 ≤ x4.toNatClampNeg then none else
          zlet (upd v_oldSet x4.toNatClampNeg y_2) fun u_27 =>
          if x4 < 0 ∨ 300 ≤ x4.toNatClampNeg then none else
          zlet (upd v_oldNumber x4.toNatClampNeg r_23) fun u_29 =>
          zlet (x4 + 1) fun y_30 =>
          zlet (x6 + 1) fun y_31 =>
          some (.inl (y_30, y_31, u_27, u_29))))))
def f_Md_become_l6 (x1 : Int32) (x2 : Int32) (x3 : Int32) (v_wires : Int32) (v_there : Int32) (v_number : Nat → Int32) (v_set : Nat → Int32) (v_constant : Nat → Int32) (x4 : Int32) (x5 : Int32) (v_oldSet : Nat → Int32) (v_oldNumber : Nat → Int32) : Option ((Int32 × Int32 × (Nat → Int32) × (Nat → Int32)) ⊕ (Int32 × (Nat → Int32) × (Nat → Int32))) :=
  if (24 : Int32) ≤ x5 then (
    some (.inr (x4, v_oldSet, v_oldNumber)))
  else (
    zb3 (zloop (fun q => f_Md_become_l16 x1 x2 x3 x5 v_wires v_there v_number v_set v_constant q.1 q.2.1 q.2.2.1 q.2.2.2) zF (x4, (0 : Int32), v_oldSet, v_oldNumber)) fun y_2 q_3 q_4 =>
    zlet (x5 + 1) fun y_6 =>
    some (.inl (y_2, y_6, q_3, q_4)))
def f_Md_become_l139 (x1 : Int32) (x2 : Int32) (x3 : Int32) (x4 : Int32) (v_wires : Int32) (v_there : Int32) (v_oldSet : Nat → Int32) (v_oldNumber : Nat → Int32) (v_set : Nat → Int32) (v_constant : Nat → Int32) (x5 : Int32) (v_number : Nat → Int32) : Option ((Int32 × (Nat → Int32)) ⊕ ((Nat → Int32))) :=
  if x4 ≤ x5 then (
    some (.inr (v_number)))
  else (
    if x5 < 0 ∨ 300 ≤ x5.toNatClampNeg then none else
    if x5 < 0 ∨ 300 ≤ x5.toNatClampNeg then none else
    zb1 (f_Md_addOr x2 x3 (v_oldNumber x5.toNatClampNeg) (v_oldSet x5.toNatClampNeg) v_number) fun q_5 =>
    zlet (x5 + 1) fun y_6 =>
    some (.inl (y_6, q_5)))
def f_Md_become_l175 (x1 : Int32) (x2 : Int32) (x3 : Int32) (v_wires : Int32) (v_there : Int32) (v_number : Nat → Int32) (v_oldSet : Nat → Int32) (v_oldNumber : Nat → Int32) (x5 : Int32) (v_set : Nat → Int32) (v_constant : Nat → Int32) : Option ((Int32 × (Nat → Int32) × (Nat → Int32)) ⊕ ((Nat → Int32) × (Nat → Int32))) :=
  if v_wires ≤ x5 then (
    some (.inr (v_set, v_constant)))
  else (
    if x5 < 0 ∨ 6 ≤ x5.toNatClampNeg then none else
    if (((v_set x5.toNatClampNeg) >>> (x1 &&& 31)) &&& (1 : Int32)) = 0 then (
      zlet (x5 + 1) fun y_4 =>
      some (.inl (y_4, v_set, v_constant)))
    else (
      if x5 < 0 ∨ 6 ≤ x5.toNatClampNeg then none else
      if x5 < 0 ∨ 6 ≤ x5.toNatClampNeg then none else
      zlet (upd v_set x5.toNatClampNeg (((v_set x5.toNatClampNeg) &&& (((1 : Int32) <<< (x1 &&& 31)) ^^^ (-1 : Int32))) ^^^ x2)) fun u_7 =>
      if x5 < 0 ∨ 6 ≤ x5.toNatClampNeg then none else
      if x5 < 0 ∨ 6 ≤ x5.toNatClampNeg then none else
      zlet (upd v_constant x5.toNatClampNeg ((v_constant x5.toNatClampNeg) ^^^ x3)) fun u_10 =>
      zlet (x5 + 1) fun y_11 =>
      some (.inl (y_11, u_7, u_10))))
/-- PathSumsModel.become(III)V -/
def f_Md_become (x1 : Int32) (x2 : Int32) (x3 : Int32) (v_wires : Int32) (v_there : Int32) (v_number : Nat → Int32) (v_oldSet : Nat → Int32) (v_oldNumber : Nat → Int32) (v_set : Nat → Int32) (v_constant : Nat → Int32) : Option (Int32 × (Nat → Int32) × (Nat → Int32) × (Nat → Int32) × (Nat → Int32) × (Nat → Int32)) :=
  zb3 (zloop (fun q => f_Md_become_l6 x1 x2 x3 v_wires v_there v_number v_set v_constant q.1 q.2.1 q.2.2.1 q.2.2.2) zF ((0 : Int32), (0 : Int32), v_oldSet, v_oldNumber)) fun y_1 q_2 q_3 =>
  zb2 (f_Md_dropBit x1 v_there v_number) fun q_6 q_7 =>
  zb1 (zloop (fun q => f_Md_become_l139 x1 x2 x3 y_1 v_wires q_6 q_2 q_3 v_set v_constant q.1 q.2) zF ((0 : Int32), q_7)) fun q_8 =>
  zb2 (zloop (fun q => f_Md_become_l175 x1 x2 x3 v_wires q_6 q_8 q_2 q_3 q.1 q.2.1 q.2.2) zF ((0 : Int32), v_set, v_constant)) fun q_10 q_11 =>
  some (q_6, q_8, q_2, q_3, q_10, q_11)
def f_Md_doRule_j134 (x1 : Int32) (x2 : Int32) (x3 : Int32) (v_wires : Int32) (v_isOpen : Int32) (v_isEmpty : Int32) (v_there : Int32) (v_halves : Int32) (v_rules : Int32) (v_alone : Int32) (v_halfBits : Int32) (v_number : Nat → Int32) (v_set : Nat → Int32) (v_ruleKind : Nat → Int32) (v_ruleBit : Nat → Int32) (v_ruleOther : Nat → Int32) (v_oldSet : Nat → Int32) (v_oldNumber : Nat → Int32) (v_constant : Nat → Int32) : Option (Int32 × Int32 × Int32 × Int32 × (Nat → Int32) × (Nat → Int32) × (Nat → Int32) × (Nat → Int32) × (Nat → Int32) × (Nat → Int32) × (Nat → Int32) × (Nat → Int32)) :=
  if v_rules < 0 ∨ 24 ≤ v_rules.toNatClampNeg then none else
  zlet (upd v_ruleKind v_rules.toNatClampNeg x1) fun u_2 =>
  if v_rules < 0 ∨ 24 ≤ v_rules.toNatClampNeg then none else
  zlet (upd v_ruleBit v_rules.toNatClampNeg x2) fun u_4 =>
  if v_rules < 0 ∨ 24 ≤ v_rules.toNatClampNeg then none else
  zlet (upd v_ruleOther v_rules.toNatClampNeg x3) fun u_6 =>
  zlet (v_rules + (1 : Int32)) fun y_7 =>
  some (v_isEmpty, v_there, v_halves, y_7, v_number, v_set, u_2, u_4, u_6, v_oldSet, v_oldNumber, v_constant)
def f_Md_doRule_j130 (x1 : Int32) (x2 : Int32) (x3 : Int32) (t1 : Int32) (t2 : Int32) (t3 : Int32) (v_wires : Int32) (v_isOpen : Int32) (v_isEmpty : Int32) (v_there : Int32) (v_halves : Int32) (v_rules : Int32) (v_alone : Int32) (v_halfBits : Int32) (v_number : Nat → Int32) (v_set : Nat → Int32) (v_ruleKind : Nat → Int32) (v_ruleBit : Nat → Int32) (v_ruleOther : Nat → Int32) (v_oldSet : Nat → Int32) (v_oldNumber : Nat → Int32) (v_constant : Nat → Int32) : Option (Int32 × Int32 × Int32 × Int32 × (Nat → Int32) × (Nat → Int32) × (Nat → Int32) × (Nat → Int32) × (Nat → Int32) × (Nat → Int32) × (Nat → Int32) × (Nat → Int32)) :=
  zb1 (f_Md_addOr t1 t2 t3 (0 : Int32) v_number) fun q_2 =>
  f_Md_doRule_j134 x1 x2 x3 v_wires v_isOpen v_isEmpty v_there v_halves v_rules v_alone v_halfBits q_2 v_set v_ruleKind v_ruleBit v_ruleOther v_oldSet v_oldNumber v_constant
def f_Md_doRule_j111 (x1 : Int32) (x2 : Int32) (x3 : Int32) (x4 : Int32) (x5 : Int32) (t1 : Int32) (t2 : Int32) (v_wires : Int32) (v_isOpen : Int32) (v_isEmpty : Int32) (v_there : Int32) (v_halves : Int32) (v_rules : Int32) (v_alone : Int32) (v_halfBits : Int32) (v_number : Nat → Int32) (v_set : Nat → Int32) (v_ruleKind : Nat → Int32) (v_ruleBit : Nat → Int32) (v_ruleOther : Nat → Int32) (v_oldSet : Nat → Int32) (v_oldNumber : Nat → Int32) (v_constant : Nat → Int32) : Option (Int32 × Int32 × Int32 × Int32 × (Nat → Int32) × (Nat → Int32) × (Nat → Int32) × (Nat → Int32) × (Nat → Int32) × (Nat → Int32) × (Nat → Int32) × (Nat → Int32)) :=
  zb1 (f_Md_add t1 t2 v_number) fun q_2 =>
  if x5 = (2 : Int32) then (
    f_Md_doRule_j130 x1 x2 x3 x4 (0 : Int32) (6 : Int32) v_wires v_isOpen v_isEmpty v_there v_halves v_rules v_alone v_halfBits q_2 v_set v_ruleKind v_ruleBit v_ruleOther v_oldSet v_oldNumber v_constant)
  else (
    f_Md_doRule_j130 x1 x2 x3 x4 (0 : Int32) (2 : Int32) v_wires v_isOpen v_isEmpty v_there v_halves v_rules v_alone v_halfBits q_2 v_set v_ruleKind v_ruleBit v_ruleOther v_oldSet v_oldNumber v_constant)
def f_Md_doRule_j92 (x1 : Int32) (x2 : Int32) (x3 : Int32) (x4 : Int32) (x5 : Int32) (v_wires : Int32) (v_isOpen : Int32) (v_isEmpty : Int32) (v_there : Int32) (v_halves : Int32) (v_rules : Int32) (v_alone : Int32) (v_halfBits : Int32) (v_number : Nat → Int32) (v_set : Nat → Int32) (v_ruleKind : Nat → Int32) (v_ruleBit : Nat → Int32) (v_ruleOther : Nat → Int32) (v_oldSet : Nat → Int32) (v_oldNumber : Nat → Int32) (v_constant : Nat → Int32) : Option (Int32 × Int32 × Int32 × Int32 × (Nat → Int32) × (Nat → Int32) × (Nat → Int32) × (Nat → Int32) × (Nat → Int32) × (Nat → Int32) × (Nat → Int32) × (Nat → Int32)) :=
  if x1 = (4 : Int32) then (
    if x5 = (2 : Int32) then (
      f_Md_doRule_j111 x1 x2 x3 x4 x5 (0 : Int32) (1 : Int32) v_wires v_isOpen v_isEmpty v_there v_halves v_rules v_alone v_halfBits v_number v_set v_ruleKind v_ruleBit v_ruleOther v_oldSet v_oldNumber v_constant)
    else (
      f_Md_doRule_j111 x1 x2 x3 x4 x5 (0 : Int32) (7 : Int32) v_wires v_isOpen v_isEmpty v_there v_halves v_rules v_alone v_halfBits v_number v_set v_ruleKind v_ruleBit v_ruleOther v_oldSet v_oldNumber v_constant))
  else (
    f_Md_doRule_j134 x1 x2 x3 v_wires v_isOpen v_isEmpty v_there v_halves v_rules v_alone v_halfBits v_number v_set v_ruleKind v_ruleBit v_ruleOther v_oldSet v_oldNumber v_constant)
def f_Md_doRule_j89 (x1 : Int32) (x2 : Int32) (x3 : Int32) (x4 : Int32) (x5 : Int32) (t1 : Int32) (t2 : Int32) (t3 : Int32) (v_wires : Int32) (v_isOpen : Int32) (v_isEmpty : Int32) (v_there : Int32) (v_halves : Int32) (v_rules : Int32) (v_alone : Int32) (v_halfBits : Int32) (v_number : Nat → Int32) (v_set : Nat → Int32) (v_ruleKind : Nat → Int32) (v_ruleBit : Nat → Int32) (v_ruleOther : Nat → Int32) (v_oldSet : Nat → Int32) (v_oldNumber : Nat → Int32) (v_constant : Nat → Int32) : Option (Int32 × Int32 × Int32 × Int32 × (Nat → Int32) × (Nat → Int32) × (Nat → Int32) × (Nat → Int32) × (Nat → Int32) × (Nat → Int32) × (Nat → Int32) × (Nat → Int32)) :=
  zb6 (f_Md_become t1 t2 t3 v_wires v_there v_number v_oldSet v_oldNumber v_set v_constant) fun q_2 q_3 q_4 q_5 q_6 q_7 =>
  f_Md_doRule_j92 x1 x2 x3 x4 x5 v_wires v_isOpen v_isEmpty q_2 v_halves v_rules v_alone v_halfBits q_3 q_6 v_ruleKind v_ruleBit v_ruleOther q_4 q_5 q_7
def f_Md_doRule_j50 (x1 : Int32) (x2 : Int32) (x3 : Int32) (x4 : Int32) (x5 : Int32) (v_wires : Int32) (v_isOpen : Int32) (v_isEmpty : Int32) (v_there : Int32) (v_halves : Int32) (v_rules : Int32) (v_alone : Int32) (v_halfBits : Int32) (v_number : Nat → Int32) (v_set : Nat → Int32) (v_ruleKind : Nat → Int32) (v_ruleBit : Nat → Int32) (v_ruleOther : Nat → Int32) (v_oldSet : Nat → Int32) (v_oldNumber : Nat → Int32) (v_constant : Nat → Int32) : Option (Int32 × Int32 × Int32 × Int32 × (Nat → Int32) × (Nat → Int32) × (Nat → Int32) × (Nat → Int32) × (Nat → Int32) × (Nat → Int32) × (Nat → Int32) × (Nat → Int32)) :=
  if x1 = (3 : Int32) then (
    zb1 (f_Md_greatest (x4 &&& ((f_Md_inputs v_wires v_isOpen) ^^^ (-1 : Int32)))) fun r_4 =>
    if x5 = (4 : Int32) then (
      f_Md_doRule_j89 x1 x2 r_4 x4 x5 r_4 (x4 &&& (((1 : Int32) <<< (r_4 &&& 31)) ^^^ (-1 : Int32))) (1 : Int32) v_wires v_isOpen v_isEmpty v_there v_halves v_rules v_alone v_halfBits v_number v_set v_ruleKind v_ruleBit v_ruleOther v_oldSet v_oldNumber v_constant)
    else (
      f_Md_doRule_j89 x1 x2 r_4 x4 x5 r_4 (x4 &&& (((1 : Int32) <<< (r_4 &&& 31)) ^^^ (-1 : Int32))) (0 : Int32) v_wires v_isOpen v_isEmpty v_there v_halves v_rules v_alone v_halfBits v_number v_set v_ruleKind v_ruleBit v_ruleOther v_oldSet v_oldNumber v_constant))
  else (
    f_Md_doRule_j92 x1 x2 x3 x4 x5 v_wires v_isOpen v_isEmpty v_there v_halves v_rules v_alone v_halfBits v_number v_set v_ruleKind v_ruleBit v_ruleOther v_oldSet v_oldNumber v_constant)
def f_Md_doRule_j46 (x1 : Int32) (x2 : Int32) (x3 : Int32) (x4 : Int32) (x5 : Int32) (t1 : Int32) (t2 : Int32) (v_wires : Int32) (v_isOpen : Int32) (v_isEmpty : Int32) (v_there : Int32) (v_halves : Int32) (v_rules : Int32) (v_alone : Int32) (v_halfBits : Int32) (v_number : Nat → Int32) (v_set : Nat → Int32) (v_ruleKind : Nat → Int32) (v_ruleBit : Nat → Int32) (v_ruleOther : Nat → Int32) (v_oldSet : Nat → Int32) (v_oldNumber : Nat → Int32) (v_constant : Nat → Int32) : Option (Int32 × Int32 × Int32 × Int32 × (Nat → Int32) × (Nat → Int32) × (Nat → Int32) × (Nat → Int32) × (Nat → Int32) × (Nat → Int32) × (Nat → Int32) × (Nat → Int32)) :=
  zlet (t1 - t2) fun y_1 =>
  f_Md_doRule_j50 x1 x2 x3 x4 x5 v_wires v_isOpen v_isEmpty v_there y_1 v_rules v_alone v_halfBits v_number v_set v_ruleKind v_ruleBit v_ruleOther v_oldSet v_oldNumber v_constant
/-- PathSumsModel.doRule(II)V -/
def f_Md_doRule (x1 : Int32) (x2 : Int32) (v_wires : Int32) (v_isOpen : Int32) (v_isEmpty : Int32) (v_there : Int32) (v_halves : Int32) (v_rules : Int32) (v_alone : Int32) (v_halfBits : Int32) (v_number : Nat → Int32) (v_set : Nat → Int32) (v_ruleKind : Nat → Int32) (v_ruleBit : Nat → Int32) (v_ruleOther : Nat → Int32) (v_oldSet : Nat → Int32) (v_oldNumber : Nat → Int32) (v_constant : Nat → Int32) : Option (Int32 × Int32 × Int32 × Int32 × (Nat → Int32) × (Nat → Int32) × (Nat → Int32) × (Nat → Int32) × (Nat → Int32) × (Nat → Int32) × (Nat → Int32) × (Nat → Int32)) :=
  if x1 = (2 : Int32) then (
    zb5 (f_Md_empty v_wires v_isOpen v_isEmpty v_there v_halves v_number v_set) fun q_3 q_4 q_5 q_6 q_7 =>
    f_Md_doRule_j50 x1 x2 (-1 : Int32) v_halfBits v_alone v_wires v_isOpen q_3 q_4 q_5 v_rules v_alone v_halfBits q_6 q_7 v_ruleKind v_ruleBit v_ruleOther v_oldSet v_oldNumber v_constant)
  else (
    zb2 (f_Md_dropBit x2 v_there v_number) fun q_9 q_10 =>
    if x1 = (4 : Int32) then (
      f_Md_doRule_j46 x1 x2 (-1 : Int32) v_halfBits v_alone v_halves (1 : Int32) v_wires v_isOpen v_isEmpty q_9 v_halves v_rules v_alone v_halfBits q_10 v_set v_ruleKind v_ruleBit v_ruleOther v_oldSet v_oldNumber v_constant)
    else (
      f_Md_doRule_j46 x1 x2 (-1 : Int32) v_halfBits v_alone v_halves (2 : Int32) v_wires v_isOpen v_isEmpty q_9 v_halves v_rules v_alone v_halfBits q_10 v_set v_ruleKind v_ruleBit v_ruleOther v_oldSet v_oldNumber v_constant))
def f_Md_reduce_l12 (x1 : Int32) (v_thrown : Int32) (v_wires : Int32) (v_isOpen : Int32) (x2 : Int32) (v_isEmpty : Int32) (v_there : Int32) (v_halves : Int32) (v_rules : Int32) (v_alone : Int32) (v_halfBits : Int32) (v_set : Nat → Int32) (v_number : Nat → Int32) (v_ruleKind : Nat → Int32) (v_ruleBit : Nat → Int32) (v_ruleOther : Nat → Int32) (v_oldSet : Nat → Int32) (v_oldNumber : Nat → Int32) (v_constant : Nat → Int32) : Option ((Int32 × Int32 × Int32 × Int32 × Int32 × Int32 × Int32 × (Nat → Int32) × (Nat → Int32) × (Nat → Int32) × (Nat → Int32) × (Nat → Int32) × (Nat → Int32) × (Nat → Int32) × (Nat → Int32)) ⊕ (Int32 × Int32 × Int32 × Int32 × Int32 × Int32 × (Nat → Int32) × (Nat → Int32) × (Nat → Int32) × (Nat → Int32) × (Nat → Int32) × (Nat → Int32) × (Nat → Int32) × (Nat → Int32))) :=
  if (24 : Int32) ≤ x2 then (
    some (.inr (v_isEmpty, v_there, v_halves, v_rules, v_alone, v_halfBits, v_set, v_number, v_ruleKind, v_ruleBit, v_ruleOther, v_oldSet, v_oldNumber, v_constant)))
  else (
    zb3 (f_Md_ruleFor x2 v_wires v_isOpen v_there v_alone v_halfBits v_set v_number) fun r_3 q_4 q_5 =>
    if r_3 ≤ 0 then (
      if r_3 ≤ 0 then (
        zlet (x2 + (1 : Int32)) fun y_8 =>
        some (.inl (y_8, v_isEmpty, v_there, v_halves, v_rules, q_4, q_5, v_set, v_number, v_ruleKind, v_ruleBit, v_ruleOther, v_oldSet, v_oldNumber, v_constant)))
      else (
        some (.inl ((0 : Int32), v_isEmpty, v_there, v_halves, v_rules, q_4, q_5, v_set, v_number, v_ruleKind, v_ruleBit, v_ruleOther, v_oldSet, v_oldNumber, v_constant))))
    else (
      zb12 (f_Md_doRule r_3 x2 v_wires v_isOpen v_isEmpty v_there v_halves v_rules q_4 q_5 v_number v_set v_ruleKind v_ruleBit v_ruleOther v_oldSet v_oldNumber v_constant) fun q_10 q_11 q_12 q_13 q_14 q_15 q_16 q_17 q_18 q_19 q_20 q_21 =>
      if r_3 ≤ 0 then (
        zlet (x2 + (1 : Int32)) fun y_23 =>
        some (.inl (y_23, q_10, q_11, q_12, q_13, q_4, q_5, q_15, q_14, q_16, q_17, q_18, q_19, q_20, q_21)))
      else (
        some (.inl ((0 : Int32), q_10, q_11, q_12, q_13, q_4, q_5, q_15, q_14, q_16, q_17, q_18, q_19, q_20, q_21)))))
/-- PathSumsModel.reduce()I -/
def f_Md_reduce (v_thrown : Int32) (v_wires : Int32) (v_isOpen : Int32) (v_isEmpty : Int32) (v_there : Int32) (v_halves : Int32) (v_rules : Int32) (v_alone : Int32) (v_halfBits : Int32) (v_set : Nat → Int32) (v_number : Nat → Int32) (v_ruleKind : Nat → Int32) (v_ruleBit : Nat → Int32) (v_ruleOther : Nat → Int32) (v_oldSet : Nat → Int32) (v_oldNumber : Nat → Int32) (v_constant : Nat → Int32) : Option (Int32 × Int32 × Int32 × Int32 × Int32 × Int32 × Int32 × Int32 × (Nat → Int32) × (Nat → Int32) × (Nat → Int32) × (Nat → Int32) × (Nat → Int32) × (Nat → Int32) × (Nat → Int32) × (Nat → Int32)) :=
  zb14 (zloop (fun q => f_Md_reduce_l12 v_rules (0 : Int32) v_wires v_isOpen q.1 q.2.1 q.2.2.1 q.2.2.2.1 q.2.2.2.2.1 q.2.2.2.2.2.1 q.2.2.2.2.2.2.1 q.2.2.2.2.2.2.2.1 q.2.2.2.2.2.2.2.2.1 q.2.2.2.2.2.2.2.2.2.1 q.2.2.2.2.2.2.2.2.2.2.1 q.2.2.2.2.2.2.2.2.2.2.2.1 q.2.2.2.2.2.2.2.2.2.2.2.2.1 q.2.2.2.2.2.2.2.2.2.2.2.2.2.1 q.2.2.2.2.2.2.2.2.2.2.2.2.2.2) zF ((0 : Int32), v_isEmpty, v_there, v_halves, v_rules, v_alone, v_halfBits, v_set, v_number, v_ruleKind, v_ruleBit, v_ruleOther, v_oldSet, v_oldNumber, v_constant)) fun q_1 q_2 q_3 q_4 q_5 q_6 q_7 q_8 q_9 q_10 q_11 q_12 q_13 q_14 =>
  some (q_4 - v_rules, (0 : Int32), q_1, q_2, q_3, q_4, q_5, q_6, q_7, q_8, q_9, q_10, q_11, q_12, q_13, q_14)
/-- PathSumsModel.rule(II)I -/
def f_Md_rule (x1 : Int32) (x2 : Int32) (v_thrown : Int32) (v_rules : Int32) (v_ruleKind : Nat → Int32) (v_ruleBit : Nat → Int32) (v_ruleOther : Nat → Int32) : Option (Int32 × Int32) :=
  if x1 < 0 then (
    some ((-1 : Int32), (0 : Int32)))
  else (
    if x1 < v_rules then (
      if x2 = 0 then (
        if x1 < 0 ∨ 24 ≤ x1.toNatClampNeg then none else
        some (v_ruleKind x1.toNatClampNeg, (0 : Int32)))
      else (
        if x2 = (1 : Int32) then (
          if x1 < 0 ∨ 24 ≤ x1.toNatClampNeg then none else
          some (v_ruleBit x1.toNatClampNeg, (0 : Int32)))
        else (
          if x2 = (2 : Int32) then (
            if x1 < 0 ∨ 24 ≤ x1.toNatClampNeg then none else
            some (v_ruleOther x1.toNatClampNeg, (0 : Int32)))
          else (
            some ((-1 : Int32), (0 : Int32))))))
    else (
      some ((-1 : Int32), (0 : Int32))))
/-- PathSumsModel.term(I)I -/
def f_Md_term (x1 : Int32) (v_thrown : Int32) (v_came : Int32) (v_number : Nat → Int32) : Option (Int32 × Int32) :=
  if x1 < 0 then (
    some ((-1 : Int32), (0 : Int32)))
  else (
    if (zushr x1 v_came) = 0 then (
      zb1 (f_Md_count x1) fun r_4 =>
      if r_4 ≤ (3 : Int32) then (
        zb1 (f_Md_numberOf x1 v_number) fun r_7 =>
        some (r_7, (0 : Int32)))
      else (
        some ((-1 : Int32), (0 : Int32))))
    else (
      some ((-1 : Int32), (0 : Int32))))
/-- PathSumsModel.wire(II)I -/
def f_Md_wire (x1 : Int32) (x2 : Int32) (v_thrown : Int32) (v_wires : Int32) (v_set : Nat → Int32) (v_constant : Nat → Int32) : Option (Int32 × Int32) :=
  if (f_Md_isWire x1 v_wires) = 0 then (
    some ((-1 : Int32), (0 : Int32)))
  else (
    if x2 = 0 then (
      if x1 < 0 ∨ 6 ≤ x1.toNatClampNeg then none else
      some (v_set x1.toNatClampNeg, (0 : Int32)))
    else (
      if x2 = (1 : Int32) then (
        if x1 < 0 ∨ 6 ≤ x1.toNatClampNeg then none else
        some (v_constant x1.toNatClampNeg, (0 : Int32)))
      else (
        some ((-1 : Int32), (0 : Int32)))))
def f_Md_listAll_l33 (x1 : Int32) (v_allMany : Int32) (v_number : Nat → Int32) (v_allSets : Nat → Int32) (v_allNumbers : Nat → Int32) (x2 : Int32) (x3 : Int32) (x4 : Int32) : Option ((Int32 × Int32 × Int32) ⊕ (Int32)) :=
  if (3 : Int32) ≤ x4 then (
    some (.inr (x2)))
  else (
    if (24 : Int32) ≤ (x3 - x3 / (25 : Int32) * (25 : Int32)) then (
      zlet (x3 / (25 : Int32)) fun y_3 =>
      zlet (x4 + 1) fun y_4 =>
      some (.inl (x2, y_3, y_4)))
    else (
      zlet (x2 ||| ((1 : Int32) <<< ((x3 - x3 / (25 : Int32) * (25 : Int32)) &&& 31))) fun y_5 =>
      zlet (x3 / (25 : Int32)) fun y_6 =>
      zlet (x4 + 1) fun y_7 =>
      some (.inl (y_5, y_6, y_7))))
def f_Md_listAll_l7 (v_number : Nat → Int32) (x1 : Int32) (v_allMany : Int32) (v_allSets : Nat → Int32) (v_allNumbers : Nat → Int32) : Option ((Int32 × Int32 × (Nat → Int32) × (Nat → Int32)) ⊕ (Int32 × (Nat → Int32) × (Nat → Int32))) :=
  if (15625 : Int32) ≤ x1 then (
    some (.inr (v_allMany, v_allSets, v_allNumbers)))
  else (
    if x1 < 0 ∨ 15625 ≤ x1.toNatClampNeg then none else
    if (v_number x1.toNatClampNeg) = 0 then (
      zlet (x1 + 1) fun y_4 =>
      some (.inl (y_4, v_allMany, v_allSets, v_allNumbers)))
    else (
      zb1 (zloop (fun q => f_Md_listAll_l33 x1 v_allMany v_number v_allSets v_allNumbers q.1 q.2.1 q.2.2) zF ((0 : Int32), x1, (0 : Int32))) fun y_5 =>
      if v_allMany < 0 ∨ 2325 ≤ v_allMany.toNatClampNeg then none else
      zlet (upd v_allSets v_allMany.toNatClampNeg y_5) fun u_8 =>
      if x1 < 0 ∨ 15625 ≤ x1.toNatClampNeg then none else
      if v_allMany < 0 ∨ 2325 ≤ v_allMany.toNatClampNeg then none else
      zlet (upd v_allNumbers v_allMany.toNatClampNeg (v_number x1.toNatClampNeg)) fun u_11 =>
      zlet (v_allMany + (1 : Int32)) fun y_12 =>
      zlet (x1 + 1) fun y_13 =>
      some (.inl (y_13, y_12, u_8, u_11))))
/-- PathSumsModel.listAll()V -/
def f_Md_listAll (v_allMany : Int32) (v_number : Nat → Int32) (v_allSets : Nat → Int32) (v_allNumbers : Nat → Int32) : Option (Int32 × (Nat → Int32) × (Nat → Int32)) :=
  zb3 (zloop (fun q => f_Md_listAll_l7 v_number q.1 q.2.1 q.2.2.1 q.2.2.2) zF ((0 : Int32), (0 : Int32), v_allSets, v_allNumbers)) fun q_1 q_2 q_3 =>
  some (q_1, q_2, q_3)
/-- PathSumsModel.parity(I)I -/
def f_Md_parity (x0 : Int32) : Option (Int32) :=
  zb1 (f_Md_count x0) fun r_2 =>
  some (r_2 &&& (1 : Int32))
def f_Md_isOutput_l2 (x1 : Int32) (x2 : Int32) (v_wires : Int32) (v_set : Nat → Int32) (v_constant : Nat → Int32) (x3 : Int32) : Option ((Int32) ⊕ ((Unit) ⊕ (Int32))) :=
  if v_wires ≤ x3 then (
    some (.inr (.inl ())))
  else (
    if x3 < 0 ∨ 6 ≤ x3.toNatClampNeg then none else
    zb1 (f_Md_parity (x1 &&& (v_set x3.toNatClampNeg))) fun r_4 =>
    if x3 < 0 ∨ 6 ≤ x3.toNatClampNeg then none else
    if (r_4 ^^^ (v_constant x3.toNatClampNeg)) = ((x2 >>> (x3 &&& 31)) &&& (1 : Int32)) then (
      zlet (x3 + 1) fun y_7 =>
      some (.inl (y_7)))
    else (
      some (.inr (.inr (0 : Int32)))))
/-- PathSumsModel.isOutput(II)Z -/
def f_Md_isOutput (x1 : Int32) (x2 : Int32) (v_wires : Int32) (v_set : Nat → Int32) (v_constant : Nat → Int32) : Option (Int32) :=
  zr0 (zloop (fun q => f_Md_isOutput_l2 x1 x2 v_wires v_set v_constant q) zF ((0 : Int32))) <|
  some (1 : Int32)
def f_Md_phaseOf_l4 (x1 : Int32) (v_allMany : Int32) (v_allSets : Nat → Int32) (v_allNumbers : Nat → Int32) (x2 : Int32) (x3 : Int32) : Option ((Int32 × Int32) ⊕ (Int32)) :=
  if v_allMany ≤ x3 then (
    some (.inr (x2)))
  else (
    if x3 < 0 ∨ 2325 ≤ x3.toNatClampNeg then none else
    if x3 < 0 ∨ 2325 ≤ x3.toNatClampNeg then none else
    if ((v_allSets x3.toNatClampNeg) &&& x1) = (v_allSets x3.toNatClampNeg) then (
      if x3 < 0 ∨ 2325 ≤ x3.toNatClampNeg then none else
      zlet (x2 + (v_allNumbers x3.toNatClampNeg)) fun y_6 =>
      zlet (x3 + 1) fun y_7 =>
      some (.inl (y_6, y_7)))
    else (
      zlet (x2 + (0 : Int32)) fun y_8 =>
      zlet (x3 + 1) fun y_9 =>
      some (.inl (y_8, y_9))))
/-- PathSumsModel.phaseOf(I)I -/
def f_Md_phaseOf (x1 : Int32) (v_allMany : Int32) (v_allSets : Nat → Int32) (v_allNumbers : Nat → Int32) : Option (Int32) :=
  zb1 (zloop (fun q => f_Md_phaseOf_l4 x1 v_allMany v_allSets v_allNumbers q.1 q.2) zF ((0 : Int32), (0 : Int32))) fun y_1 =>
  some (y_1 &&& (7 : Int32))
def f_Md_spread_l7 (x1 : Int32) (x2 : Int32) (x3 : Int32) (x4 : Int32) : Option ((Int32 × Int32 × Int32) ⊕ (Int32)) :=
  if (24 : Int32) ≤ x4 then (
    some (.inr (x2)))
  else (
    if ((x1 >>> (x4 &&& 31)) &&& (1 : Int32)) = 0 then (
      zlet (x4 + 1) fun y_3 =>
      some (.inl (x2, x3, y_3)))
    else (
      zlet (x2 ||| ((x3 &&& (1 : Int32)) <<< (x4 &&& 31))) fun y_4 =>
      zlet (x3 >>> ((1 : Int32) &&& 31)) fun y_5 =>
      zlet (x4 + 1) fun y_6 =>
      some (.inl (y_4, y_5, y_6))))
/-- PathSumsModel.spread(II)I -/
def f_Md_spread (x0 : Int32) (x1 : Int32) : Option (Int32) :=
  zb1 (zloop (fun q => f_Md_spread_l7 x1 q.1 q.2.1 q.2.2) zF ((0 : Int32), x0, (0 : Int32))) fun y_1 =>
  some y_1
/-- PathSumsModel.timesRoot()V -/
def f_Md_timesRoot (v_root : Nat → Int64) : (Nat → Int64) :=
  zlet (v_root (0 : Int32).toNatClampNeg) fun y_1 =>
  zlet (v_root (1 : Int32).toNatClampNeg) fun y_2 =>
  zlet (v_root (2 : Int32).toNatClampNeg) fun y_3 =>
  zlet (v_root (3 : Int32).toNatClampNeg) fun y_4 =>
  zlet (vp_updL v_root (0 : Int32).toNatClampNeg (y_2 - y_4)) fun u_5 =>
  zlet (vp_updL u_5 (1 : Int32).toNatClampNeg (y_1 + y_3)) fun u_6 =>
  zlet (vp_updL u_6 (2 : Int32).toNatClampNeg (y_2 + y_4)) fun u_7 =>
  zlet (vp_updL u_7 (3 : Int32).toNatClampNeg (y_3 - y_1)) fun u_8 =>
  u_8
def f_Md_byRoot_l52 (x1 : Int32) (v_root : Nat → Int64) : Option ((Int32 × (Nat → Int64)) ⊕ ((Nat → Int64))) :=
  if (4 : Int32) ≤ x1 then (
    some (.inr (v_root)))
  else (
    if x1 < 0 ∨ 5 ≤ x1.toNatClampNeg then none else
    if x1 < 0 ∨ 5 ≤ x1.toNatClampNeg then none else
    zlet (vp_updL v_root x1.toNatClampNeg ((v_root x1.toNatClampNeg) / (2 : Int64))) fun u_4 =>
    zlet (x1 + 1) fun y_5 =>
    some (.inl (y_5, u_4)))
/-- PathSumsModel.byRoot()Z -/
def f_Md_byRoot (v_root : Nat → Int64) : Option (Int32 × (Nat → Int64)) :=
  if (lg_cmp (((v_root (0 : Int32).toNatClampNeg) + (v_root (2 : Int32).toNatClampNeg)) - ((v_root (0 : Int32).toNatClampNeg) + (v_root (2 : Int32).toNatClampNeg)) / (2 : Int64) * (2 : Int64)) (0 : Int64)) = 0 then (
    if (lg_cmp (((v_root (1 : Int32).toNatClampNeg) + (v_root (3 : Int32).toNatClampNeg)) - ((v_root (1 : Int32).toNatClampNeg) + (v_root (3 : Int32).toNatClampNeg)) / (2 : Int64) * (2 : Int64)) (0 : Int64)) = 0 then (
      zl1 (f_Md_timesRoot v_root) fun q_4 =>
      zb1 (zloop (fun q => f_Md_byRoot_l52 q.1 q.2) zF ((0 : Int32), q_4)) fun q_5 =>
      some ((1 : Int32), q_5))
    else (
      some ((0 : Int32), v_root)))
  else (
    some ((0 : Int32), v_root))
def f_Md_settle_l11 (v_halves : Int32) (v_root : Nat → Int64) : Option (((Nat → Int64)) ⊕ ((Nat → Int64))) :=
  if 0 ≤ (lg_cmp (v_root (4 : Int32).toNatClampNeg) (0 : Int64)) then (
    some (.inr (v_root)))
  else (
    zl1 (f_Md_timesRoot v_root) fun q_3 =>
    zlet (vp_updL q_3 (4 : Int32).toNatClampNeg ((q_3 (4 : Int32).toNatClampNeg) + (1 : Int64))) fun u_4 =>
    some (.inl (u_4)))
def f_Md_settle_l100 (v_halves : Int32) (v_root : Nat → Int64) : Option (((Nat → Int64)) ⊕ ((Nat → Int64))) :=
  if (lg_cmp (v_root (4 : Int32).toNatClampNeg) (0 : Int64)) ≤ 0 then (
    some (.inr (v_root)))
  else (
    zb2 (f_Md_byRoot v_root) fun r_3 q_4 =>
    if r_3 = 0 then (
      some (.inr (q_4)))
    else (
      zlet (vp_updL q_4 (4 : Int32).toNatClampNeg ((q_4 (4 : Int32).toNatClampNeg) - (1 : Int64))) fun u_6 =>
      some (.inl (u_6))))
def f_Md_settle_j88 (t0 : Int32) (v_halves : Int32) (v_root : Nat → Int64) : Option ((Nat → Int64)) :=
  if t0 = 0 then (
    zb1 (zloop (fun q => f_Md_settle_l100 v_halves q) zF (v_root)) fun q_2 =>
    some q_2)
  else (
    zlet (vp_updL v_root (4 : Int32).toNatClampNeg (0 : Int64)) fun u_4 =>
    zb1 (zloop (fun q => f_Md_settle_l100 v_halves q) zF (u_4)) fun q_5 =>
    some q_5)
def f_Md_settle_j87 (v_halves : Int32) (v_root : Nat → Int64) : Option ((Nat → Int64)) :=
  f_Md_settle_j88 (0 : Int32) v_halves v_root
/-- PathSumsModel.settle()V -/
def f_Md_settle (v_halves : Int32) (v_root : Nat → Int64) : Option ((Nat → Int64)) :=
  zlet (vp_updL v_root (4 : Int32).toNatClampNeg (v_halves.toInt64)) fun u_1 =>
  zb1 (zloop (fun q => f_Md_settle_l11 v_halves q) zF (u_1)) fun q_2 =>
  if (lg_cmp (q_2 (0 : Int32).toNatClampNeg) (0 : Int64)) = 0 then (
    if (lg_cmp (q_2 (1 : Int32).toNatClampNeg) (0 : Int64)) = 0 then (
      if (lg_cmp (q_2 (2 : Int32).toNatClampNeg) (0 : Int64)) = 0 then (
        if (lg_cmp (q_2 (3 : Int32).toNatClampNeg) (0 : Int64)) = 0 then (
          f_Md_settle_j88 (1 : Int32) v_halves q_2)
        else (
          f_Md_settle_j87 v_halves q_2))
      else (
        f_Md_settle_j87 v_halves q_2))
    else (
      f_Md_settle_j87 v_halves q_2))
  else (
    f_Md_settle_j87 v_halves q_2)
/-- PathSumsModel.raise(I)J -/
def f_Md_raise (x1 : Int32) (v_thrown : Int32) : Int64 × Int32 :=
  ((0 : Int64), x1)
def f_Md_value_l99 (x1 : Int32) (x2 : Int32) (x3 : Int32) (x5 : Int32) (v_thrown : Int32) (v_wires : Int32) (v_isOpen : Int32) (v_isEmpty : Int32) (v_there : Int32) (v_halves : Int32) (v_allMany : Int32) (v_number : Nat → Int32) (v_allSets : Nat → Int32) (v_allNumbers : Nat → Int32) (v_set : Nat → Int32) (v_constant : Nat → Int32) (x6 : Int32) (v_root : Nat → Int64) : Option ((Int32 × (Nat → Int64)) ⊕ ((Nat → Int64))) :=
  if (5 : Int32) ≤ x6 then (
    some (.inr (v_root)))
  else (
    if x6 < 0 ∨ 5 ≤ x6.toNatClampNeg then none else
    zlet (vp_updL v_root x6.toNatClampNeg (0 : Int64)) fun u_3 =>
    zlet (x6 + 1) fun y_4 =>
    some (.inl (y_4, u_3)))
def f_Md_value_l126 (x1 : Int32) (x2 : Int32) (x3 : Int32) (x5 : Int32) (v_thrown : Int32) (v_wires : Int32) (v_isOpen : Int32) (v_isEmpty : Int32) (v_there : Int32) (v_halves : Int32) (v_allMany : Int32) (v_number : Nat → Int32) (v_allSets : Nat → Int32) (v_allNumbers : Nat → Int32) (v_set : Nat → Int32) (v_constant : Nat → Int32) (x6 : Int32) (v_root : Nat → Int64) : Option ((Int32 × (Nat → Int64)) ⊕ ((Nat → Int64))) :=
  zb1 (f_Md_count x5) fun r_2 =>
  if ((1 : Int32) <<< (r_2 &&& 31)) ≤ x6 then (
    some (.inr (v_root)))
  else (
    if v_isEmpty = 0 then (
      zb1 (f_Md_spread x6 x5) fun r_6 =>
      if v_isOpen = 0 then (
        zlet (r_6 ||| (0 : Int32)) fun y_8 =>
        zb1 (f_Md_isOutput y_8 x2 v_wires v_set v_constant) fun r_10 =>
        if r_10 = 0 then (
          zlet (x6 + 1) fun y_12 =>
          some (.inl (y_12, v_root)))
        else (
          zb1 (f_Md_phaseOf y_8 v_allMany v_allSets v_allNumbers) fun r_14 =>
          if (r_14 &&& (3 : Int32)) < 0 ∨ 5 ≤ (r_14 &&& (3 : Int32)).toNatClampNeg then none else
          if (4 : Int32) ≤ r_14 then (
            if (r_14 &&& (3 : Int32)) < 0 ∨ 5 ≤ (r_14 &&& (3 : Int32)).toNatClampNeg then none else
            zlet (vp_updL v_root (r_14 &&& (3 : Int32)).toNatClampNeg ((v_root (r_14 &&& (3 : Int32)).toNatClampNeg) + (-1 : Int64))) fun u_18 =>
            zlet (x6 + 1) fun y_19 =>
            some (.inl (y_19, u_18)))
          else (
            if (r_14 &&& (3 : Int32)) < 0 ∨ 5 ≤ (r_14 &&& (3 : Int32)).toNatClampNeg then none else
            zlet (vp_updL v_root (r_14 &&& (3 : Int32)).toNatClampNeg ((v_root (r_14 &&& (3 : Int32)).toNatClampNeg) + (1 : Int64))) fun u_21 =>
            zlet (x6 + 1) fun y_22 =>
            some (.inl (y_22, u_21)))))
      else (
        zlet (r_6 ||| x1) fun y_23 =>
        zb1 (f_Md_isOutput y_23 x2 v_wires v_set v_constant) fun r_25 =>
        if r_25 = 0 then (
          zlet (x6 + 1) fun y_27 =>
          some (.inl (y_27, v_root)))
        else (
          zb1 (f_Md_phaseOf y_23 v_allMany v_allSets v_allNumbers) fun r_29 =>
          if (r_29 &&& (3 : Int32)) < 0 ∨ 5 ≤ (r_29 &&& (3 : Int32)).toNatClampNeg then none else
          if (4 : Int32) ≤ r_29 then (
            if (r_29 &&& (3 : Int32)) < 0 ∨ 5 ≤ (r_29 &&& (3 : Int32)).toNatClampNeg then none else
            zlet (vp_updL v_root (r_29 &&& (3 : Int32)).toNatClampNeg ((v_root (r_29 &&& (3 : Int32)).toNatClampNeg) + (-1 : Int64))) fun u_33 =>
            zlet (x6 + 1) fun y_34 =>
            some (.inl (y_34, u_33)))
          else (
            if (r_29 &&& (3 : Int32)) < 0 ∨ 5 ≤ (r_29 &&& (3 : Int32)).toNatClampNeg then none else
            zlet (vp_updL v_root (r_29 &&& (3 : Int32)).toNatClampNeg ((v_root (r_29 &&& (3 : Int32)).toNatClampNeg) + (1 : Int64))) fun u_36 =>
            zlet (x6 + 1) fun y_37 =>
            some (.inl (y_37, u_36))))))
    else (
      some (.inr (v_root))))
def f_Md_value_j49 (x1 : Int32) (x2 : Int32) (x3 : Int32) (t0 : Int32) (v_thrown : Int32) (v_wires : Int32) (v_isOpen : Int32) (v_isEmpty : Int32) (v_there : Int32) (v_halves : Int32) (v_allMany : Int32) (v_root : Nat → Int64) (v_number : Nat → Int32) (v_allSets : Nat → Int32) (v_allNumbers : Nat → Int32) (v_set : Nat → Int32) (v_constant : Nat → Int32) : Option (Int64 × Int32 × Int32 × (Nat → Int64) × (Nat → Int32) × (Nat → Int32)) :=
  if t0 = 0 then (
    zl2 (f_Md_raise (1 : Int32) v_thrown) fun r_3 q_4 =>
    some (r_3, q_4, v_allMany, v_root, v_allSets, v_allNumbers))
  else (
    zlet (v_there &&& ((f_Md_inputs v_wires v_isOpen) ^^^ (-1 : Int32))) fun y_6 =>
    zb1 (f_Md_count y_6) fun r_8 =>
    if r_8 ≤ (12 : Int32) then (
      zb1 (zloop (fun q => f_Md_value_l99 x1 x2 x3 y_6 (0 : Int32) v_wires v_isOpen v_isEmpty v_there v_halves v_allMany v_number v_allSets v_allNumbers v_set v_constant q.1 q.2) zF ((0 : Int32), v_root)) fun q_10 =>
      zb3 (f_Md_listAll v_allMany v_number v_allSets v_allNumbers) fun q_13 q_14 q_15 =>
      zb1 (zloop (fun q => f_Md_value_l126 x1 x2 x3 y_6 (0 : Int32) v_wires v_isOpen v_isEmpty v_there v_halves q_13 v_number q_14 q_15 v_set v_constant q.1 q.2) zF ((0 : Int32), q_10)) fun q_16 =>
      zb1 (f_Md_settle v_halves q_16) fun q_19 =>
      if x3 < 0 ∨ 5 ≤ x3.toNatClampNeg then none else
      some (q_19 x3.toNatClampNeg, (0 : Int32), q_13, q_19, q_14, q_15))
    else (
      zl2 (f_Md_raise (2 : Int32) v_thrown) fun r_22 q_23 =>
      some (r_22, q_23, v_allMany, v_root, v_allSets, v_allNumbers)))
def f_Md_value_j48 (x1 : Int32) (x2 : Int32) (x3 : Int32) (v_thrown : Int32) (v_wires : Int32) (v_isOpen : Int32) (v_isEmpty : Int32) (v_there : Int32) (v_halves : Int32) (v_allMany : Int32) (v_root : Nat → Int64) (v_number : Nat → Int32) (v_allSets : Nat → Int32) (v_allNumbers : Nat → Int32) (v_set : Nat → Int32) (v_constant : Nat → Int32) : Option (Int64 × Int32 × Int32 × (Nat → Int64) × (Nat → Int32) × (Nat → Int32)) :=
  f_Md_value_j49 x1 x2 x3 (0 : Int32) v_thrown v_wires v_isOpen v_isEmpty v_there v_halves v_allMany v_root v_number v_allSets v_allNumbers v_set v_constant
def f_Md_value_j44 (x1 : Int32) (x2 : Int32) (x3 : Int32) (v_thrown : Int32) (v_wires : Int32) (v_isOpen : Int32) (v_isEmpty : Int32) (v_there : Int32) (v_halves : Int32) (v_allMany : Int32) (v_root : Nat → Int64) (v_number : Nat → Int32) (v_allSets : Nat → Int32) (v_allNumbers : Nat → Int32) (v_set : Nat → Int32) (v_constant : Nat → Int32) : Option (Int64 × Int32 × Int32 × (Nat → Int64) × (Nat → Int32) × (Nat → Int32)) :=
  f_Md_value_j49 x1 x2 x3 (1 : Int32) v_thrown v_wires v_isOpen v_isEmpty v_there v_halves v_allMany v_root v_number v_allSets v_allNumbers v_set v_constant
/-- PathSumsModel.value(III)J -/
def f_Md_value (x1 : Int32) (x2 : Int32) (x3 : Int32) (v_thrown : Int32) (v_wires : Int32) (v_isOpen : Int32) (v_isEmpty : Int32) (v_there : Int32) (v_halves : Int32) (v_allMany : Int32) (v_root : Nat → Int64) (v_number : Nat → Int32) (v_allSets : Nat → Int32) (v_allNumbers : Nat → Int32) (v_set : Nat → Int32) (v_constant : Nat → Int32) : Option (Int64 × Int32 × Int32 × (Nat → Int64) × (Nat → Int32) × (Nat → Int32)) :=
  if x2 < 0 then (
    f_Md_value_j48 x1 x2 x3 v_thrown v_wires v_isOpen v_isEmpty v_there v_halves v_allMany v_root v_number v_allSets v_allNumbers v_set v_constant)
  else (
    if ((1 : Int32) <<< (v_wires &&& 31)) ≤ x2 then (
      f_Md_value_j48 x1 x2 x3 v_thrown v_wires v_isOpen v_isEmpty v_there v_halves v_allMany v_root v_number v_allSets v_allNumbers v_set v_constant)
    else (
      if x3 < 0 then (
        f_Md_value_j48 x1 x2 x3 v_thrown v_wires v_isOpen v_isEmpty v_there v_halves v_allMany v_root v_number v_allSets v_allNumbers v_set v_constant)
      else (
        if (4 : Int32) < x3 then (
          f_Md_value_j48 x1 x2 x3 v_thrown v_wires v_isOpen v_isEmpty v_there v_halves v_allMany v_root v_number v_allSets v_allNumbers v_set v_constant)
        else (
          if v_isOpen = 0 then (
            f_Md_value_j44 x1 x2 x3 v_thrown v_wires v_isOpen v_isEmpty v_there v_halves v_allMany v_root v_number v_allSets v_allNumbers v_set v_constant)
          else (
            if x1 < 0 then (
              f_Md_value_j48 x1 x2 x3 v_thrown v_wires v_isOpen v_isEmpty v_there v_halves v_allMany v_root v_number v_allSets v_allNumbers v_set v_constant)
            else (
              if ((1 : Int32) <<< (v_wires &&& 31)) ≤ x1 then (
                f_Md_value_j48 x1 x2 x3 v_thrown v_wires v_isOpen v_isEmpty v_there v_halves v_allMany v_root v_number v_allSets v_allNumbers v_set v_constant)
              else (
                f_Md_value_j44 x1 x2 x3 v_thrown v_wires v_isOpen v_isEmpty v_there v_halves v_allMany v_root v_number v_allSets v_allNumbers v_set v_constant)))))))
/-- PathSumsModel.total(I)I -/
def f_Md_total (x1 : Int32) (v_thrown : Int32) (v_wires : Int32) (v_isOpen : Int32) (v_isEmpty : Int32) (v_came : Int32) (v_there : Int32) (v_rules : Int32) (v_allMany : Int32) (v_number : Nat → Int32) (v_allSets : Nat → Int32) (v_allNumbers : Nat → Int32) : Option (Int32 × Int32 × Int32 × (Nat → Int32) × (Nat → Int32)) :=
  if x1 = 0 then (
    some (v_wires, (0 : Int32), v_allMany, v_allSets, v_allNumbers))
  else (
  if x1 = 1 then (
    some (v_there, (0 : Int32), v_allMany, v_allSets, v_allNumbers))
  else (
  if x1 = 2 then (
    some (v_came, (0 : Int32), v_allMany, v_allSets, v_allNumbers))
  else (
  if x1 = 3 then (
    zb3 (f_Md_listAll v_allMany v_number v_allSets v_allNumbers) fun q_6 q_7 q_8 =>
    some (q_6, (0 : Int32), q_6, q_7, q_8))
  else (
  if x1 = 4 then (
    some (v_rules, (0 : Int32), v_allMany, v_allSets, v_allNumbers))
  else (
  if x1 = 5 then (
    if v_isEmpty = 0 then (
      some ((0 : Int32), (0 : Int32), v_allMany, v_allSets, v_allNumbers))
    else (
      some ((1 : Int32), (0 : Int32), v_allMany, v_allSets, v_allNumbers)))
  else (
  if x1 = 6 then (
    if v_isOpen = 0 then (
      some ((0 : Int32), (0 : Int32), v_allMany, v_allSets, v_allNumbers))
    else (
      some ((1 : Int32), (0 : Int32), v_allMany, v_allSets, v_allNumbers)))
  else (
  some ((-1 : Int32), (0 : Int32), v_allMany, v_allSets, v_allNumbers))))))))
/-- PathSumsModel.halves()I -/
def f_Md_halves (v_thrown : Int32) (v_halves : Int32) : Int32 × Int32 :=
  (v_halves, (0 : Int32))
end
section
/-! loops of the functions, by an invariant -/
theorem zF_big {n : Nat} (h : n < 100000) : n < zF := h
theorem zloop_all {σ ρ : Type} {step : σ → Option (σ ⊕ ρ)} (I : Nat → σ → Prop) (K : ρ → Prop) (N : Nat)
    (hs : ∀ i s, i < N → I i s → (∃ s', step s = some (.inl s') ∧ I (i + 1) s') ∨ (∃ r, step s = some (.inr r) ∧ K r))
    (he : ∀ s, I N s → ∃ r, step s = some (.inr r) ∧ K r) : ∀ (d i n : Nat) (s : σ), i + d = N → d < n → I i s → ∃ r, zloop step n s = some r ∧ K r
  | 0, i, n, s, h1, h2, h3 => by
    obtain ⟨n, rfl⟩ : ∃ k, n = k + 1 := ⟨n - 1, by omega⟩
    obtain ⟨r, h4, h5⟩ := he s (by have : i = N := by omega
                                   rw [← this]; exact h3)
    exact ⟨r, by unfold zloop; rw [h4], h5⟩
  | d + 1, i, n, s, h1, h2, h3 => by
    obtain ⟨n, rfl⟩ : ∃ k, n = k + 1 := ⟨n - 1, by omega⟩
    rcases hs i s (by omega) h3 with ⟨s', h4, h5⟩ | ⟨r, h4, h5⟩
    · obtain ⟨r, h6, h7⟩ := zloop_all I K N hs he d (i + 1) n s' (by omega) (by omega) h5
      exact ⟨r, by unfold zloop; rw [h4]; exact h6, h7⟩
    · exact ⟨r, by unfold zloop; rw [h4], h5⟩
/-- a loop that counts up to N -/
theorem zloop_rel {σ ρ : Type} {step : σ → Option (σ ⊕ ρ)} (I : Nat → σ → Prop) (K : ρ → Prop) (N i0 : Nat) {s0 : σ} (hN : N < 100000) (hi : i0 ≤ N) (h0 : I i0 s0)
    (hs : ∀ i s, i < N → I i s → ∃ s', step s = some (.inl s') ∧ I (i + 1) s')
    (he : ∀ s, I N s → ∃ r, step s = some (.inr r) ∧ K r) : ∃ r, zloop step zF s0 = some r ∧ K r :=
  zloop_all I K N (fun i s a b => Or.inl (hs i s a b)) he (N - i0) i0 zF s0 (by omega) (zF_big (by omega)) h0
/-- one that may end earlier -/
theorem zloop_rel2 {σ ρ : Type} {step : σ → Option (σ ⊕ ρ)} (I : Nat → σ → Prop) (K : ρ → Prop) (N i0 : Nat) {s0 : σ} (hN : N < 100000) (hi : i0 ≤ N) (h0 : I i0 s0)
    (hs : ∀ i s, i < N → I i s → (∃ s', step s = some (.inl s') ∧ I (i + 1) s') ∨ (∃ r, step s = some (.inr r) ∧ K r))
    (he : ∀ s, I N s → ∃ r, step s = some (.inr r) ∧ K r) : ∃ r, zloop step zF s0 = some r ∧ K r :=
  zloop_all I K N hs he (N - i0) i0 zF s0 (by omega) (zF_big (by omega)) h0
theorem nI_inj {a b : Nat} (ha : a < 2 ^ 31) (hb : b < 2 ^ 31) (h : nI a = nI b) : a = b := (nI_eq ha hb).mp h
end
section
/-! ===== Int32 by its bits: bt x i ===== -/
def bt (x : Int32) (i : Nat) : Bool := x.toBitVec.getLsbD i
theorem b_ext {x y : Int32} (h : ∀ i, i < 32 → bt x i = bt y i) : x = y := Int32.toBitVec_inj.mp (BitVec.eq_of_getLsbD_eq (fun i hi => h i hi))
theorem b_or (x y : Int32) (i : Nat) : bt (x ||| y) i = (bt x i || bt y i) := by unfold bt; rw [Int32.toBitVec_or, BitVec.getLsbD_or]
theorem b_and (x y : Int32) (i : Nat) : bt (x &&& y) i = (bt x i && bt y i) := by unfold bt; rw [Int32.toBitVec_and, BitVec.getLsbD_and]
theorem b_xor (x y : Int32) (i : Nat) : bt (x ^^^ y) i = (bt x i ^^ bt y i) := by unfold bt; rw [Int32.toBitVec_xor, BitVec.getLsbD_xor]
theorem b_big {x : Int32} {i : Nat} (h : 32 ≤ i) : bt x i = false := BitVec.getLsbD_of_ge _ _ h
theorem b_255 (i : Nat) : bt 255 i = decide (i < 8) := by
  rcases Nat.lt_or_ge i 32 with h | h
  · exact (by decide +kernel : ∀ i, i < 32 → bt 255 i = decide (i < 8)) i h
  · rw [b_big h, decide_eq_false (by omega)]
theorem b_65535 (i : Nat) : bt 65535 i = decide (i < 16) := by
  rcases Nat.lt_or_ge i 32 with h | h
  · exact (by decide +kernel : ∀ i, i < 32 → bt 65535 i = decide (i < 16)) i h
  · rw [b_big h, decide_eq_false (by omega)]
theorem b_m1 : ∀ i, i < 32 → bt (-1) i = true := by decide +kernel
theorem b_0 (i : Nat) : bt 0 i = false := BitVec.getLsbD_zero
theorem s_l : ∀ n, n < 32 → ((nI n &&& 31).toBitVec.smod 32).toNat = n := by decide +kernel
theorem s_u : ∀ n, n < 32 → (((nI n).toUInt32 &&& Int32.toUInt32 31).toBitVec % 32).toNat = n := by decide +kernel
theorem b_shl (n : Nat) (hn : n < 32) (x : Int32) {i : Nat} (hi : i < 32) : bt (x <<< (nI n &&& 31)) i = (decide (n ≤ i) && bt x (i - n)) := by
  unfold bt
  rw [Int32.toBitVec_shiftLeft]
  show (x.toBitVec <<< ((nI n &&& 31).toBitVec.smod 32).toNat).getLsbD i = _
  rw [s_l n hn, BitVec.getLsbD_shiftLeft]
  rcases Nat.lt_or_ge i n with h | h
  · simp [h, Nat.not_le.mpr h]
  · simp [hi, h, Nat.not_lt.mpr h]
theorem b_ushr (n : Nat) (hn : n < 32) (x : Int32) (i : Nat) : bt ((x.toUInt32 >>> ((nI n).toUInt32 &&& Int32.toUInt32 31)).toInt32) i = bt x (n + i) := by
  show (x.toUInt32 >>> ((nI n).toUInt32 &&& Int32.toUInt32 31)).toBitVec.getLsbD i = x.toUInt32.toBitVec.getLsbD (n + i)
  rw [UInt32.toBitVec_shiftRight]
  show (x.toUInt32.toBitVec >>> (((nI n).toUInt32 &&& Int32.toUInt32 31).toBitVec % 32).toNat).getLsbD i = _
  rw [s_u n hn, BitVec.getLsbD_ushiftRight]
theorem b_sshr (n : Nat) (hn : n < 32) (x : Int32) {i : Nat} (hi : i < 32) : bt (x >>> (nI n &&& 31)) i = if n + i < 32 then bt x (n + i) else bt x 31 := by
  unfold bt
  rw [Int32.toBitVec_shiftRight]
  show (x.toBitVec.sshiftRight ((nI n &&& 31).toBitVec.smod 32).toNat).getLsbD i = _
  rw [s_l n hn, BitVec.getLsbD_sshiftRight, BitVec.msb_eq_getLsbD_last]
  simp [hi]
/-! ===== masks ===== -/
theorem b_1 : ∀ i, i < 32 → bt 1 i = decide (i = 0) := by decide +kernel
/-- one bit -/
def sb (i : Nat) : Int32 := (1 : Int32) <<< (nI i &&& 31)
theorem bt_sb {i j : Nat} (hi : i < 32) (hj : j < 32) : bt (sb i) j = decide (i = j) := by
  unfold sb
  rw [b_shl i hi 1 hj]
  by_cases h : i ≤ j
  · rw [b_1 (j - i) (by omega)]
    simp only [h, decide_true, Bool.true_and]
    by_cases e : i = j
    · simp [e]
    · simp [e]; omega
  · simp [h]; omega
theorem bt_not (x : Int32) {i : Nat} (hi : i < 32) : bt (x ^^^ (-1)) i = !bt x i := by
  rw [b_xor, b_m1 i hi]; simp
theorem bt_neg (x : Int32) {i : Nat} (hi : i < 32) : bt (-x) i = (bt x i ^^ decide (∃ j < i, bt x j = true)) := by
  unfold bt
  rw [Int32.toBitVec_neg, BitVec.getLsbD_neg]
  simp [hi]
theorem bt_pred (x : Int32) {i : Nat} (hi : i < 32) : bt (x - 1) i = !(bt x i ^^ decide (∃ j < i, bt x j = true)) := by
  have h : x - 1 = (-x) ^^^ (-1) := by
    apply Int32.toBitVec_inj.mp
    rw [Int32.toBitVec_sub, Int32.toBitVec_xor, Int32.toBitVec_neg]
    show x.toBitVec - 1#32 = (-x.toBitVec) ^^^ (BitVec.allOnes 32)
    rw [BitVec.xor_allOnes, BitVec.not_neg, BitVec.sub_eq_add_neg]
  rw [h, bt_not _ hi, bt_neg _ hi]
/-- no bit from 24 on -/
def lo24 (x : Int32) : Prop := ∀ i, i < 32 → 24 ≤ i → bt x i = false
theorem lo24_sb {i : Nat} (h : i < 24) : lo24 (sb i) := fun j hj h2 => by rw [bt_sb (by omega) hj]; simp; omega
theorem lo24_or {x y : Int32} (hx : lo24 x) (hy : lo24 y) : lo24 (x ||| y) := fun j hj h2 => by rw [b_or, hx j hj h2, hy j hj h2]; rfl
theorem lo24_0 : lo24 0 := fun j _ _ => b_0 j
theorem lo24_and {x : Int32} (hx : lo24 x) (y : Int32) : lo24 (x &&& y) := fun j hj h2 => by rw [b_and, hx j hj h2]; rfl
theorem lo24_and' {y : Int32} (x : Int32) (hx : lo24 y) : lo24 (x &&& y) := fun j hj h2 => by rw [b_and, hx j hj h2]; simp
theorem lo24_xor {x y : Int32} (hx : lo24 x) (hy : lo24 y) : lo24 (x ^^^ y) := fun j hj h2 => by rw [b_xor, hx j hj h2, hy j hj h2]; rfl
/-- the bits of a mask, from the least on -/
def bl (x : Int32) : List Nat := (List.range 24).filter (fun i => bt x i)
theorem mem_bl {x : Int32} {i : Nat} : i ∈ bl x ↔ i < 24 ∧ bt x i = true := by
  unfold bl; rw [List.mem_filter, List.mem_range]
theorem bl_sorted (x : Int32) : (bl x).Pairwise (· < ·) := List.Pairwise.filter _ List.pairwise_lt_range
theorem bl_inj {x y : Int32} (hx : lo24 x) (hy : lo24 y) (h : bl x = bl y) : x = y := by
  apply b_ext
  intro i hi
  by_cases h24 : i < 24
  · have h1 : i ∈ bl x ↔ i ∈ bl y := by rw [h]
    rw [mem_bl, mem_bl] at h1
    cases hbx : bt x i <;> cases hby : bt y i <;> simp_all
  · rw [hx i hi (by omega), hy i hi (by omega)]
/-- all masks of at most three bits, in the class's order -/
def ALLC : List Int32 := [0] ++ ((List.range 24).map sb ++ ((List.range 24).flatMap (fun j => (List.range j).map (fun i => sb i ||| sb j)) ++ (List.range 24).flatMap (fun k => (List.range k).flatMap (fun j => (List.range j).map (fun i => sb i ||| sb j ||| sb k)))))
theorem all_0 : (0 : Int32) ∈ ALLC := List.mem_append_left _ (List.mem_singleton.mpr rfl)
theorem all_1 {i : Nat} (h : i < 24) : sb i ∈ ALLC := List.mem_append_right _ (List.mem_append_left _ (List.mem_map.mpr ⟨i, List.mem_range.mpr h, rfl⟩))
theorem all_2 {i j : Nat} (h : i < j) (h2 : j < 24) : sb i ||| sb j ∈ ALLC := List.mem_append_right _ (List.mem_append_right _ (List.mem_append_left _ (List.mem_flatMap.mpr ⟨j, List.mem_range.mpr h2, List.mem_map.mpr ⟨i, List.mem_range.mpr h, rfl⟩⟩)))
theorem all_3 {i j k : Nat} (h : i < j) (h2 : j < k) (h3 : k < 24) : sb i ||| sb j ||| sb k ∈ ALLC := List.mem_append_right _ (List.mem_append_right _ (List.mem_append_right _ (List.mem_flatMap.mpr ⟨k, List.mem_range.mpr h3, List.mem_flatMap.mpr ⟨j, List.mem_range.mpr h2, List.mem_map.mpr ⟨i, List.mem_range.mpr h, rfl⟩⟩⟩)))
theorem or_bl {x : Int32} (hx : lo24 x) {l : List Nat} {y : Int32} (hy : lo24 y) (hl : bl x = l) (h : ∀ i, i < 24 → (bt y i = true ↔ i ∈ l)) : x = y := by
  apply b_ext
  intro i hi
  by_cases h24 : i < 24
  · have h1 := h i h24
    rw [← hl, mem_bl] at h1
    cases hbx : bt x i <;> cases hby : bt y i <;> simp_all
  · rw [hx i hi (by omega), hy i hi (by omega)]
/-- few bits: it is one of those masks -/
theorem all_of_few {x : Int32} (hx : lo24 x) (h : (bl x).length ≤ 3) : x ∈ ALLC := by
  have hs := bl_sorted x
  have hm : ∀ i ∈ bl x, i < 24 := fun i hi => (mem_bl.mp hi).1
  match hl : bl x with
  | [] =>
    rw [or_bl hx lo24_0 hl (fun i hi => by rw [b_0]; simp)]
    exact all_0
  | [a] =>
    have ha : a < 24 := hm a (by rw [hl]; simp)
    rw [or_bl hx (lo24_sb ha) hl (fun i hi => by rw [bt_sb (by omega) (by omega)]; simp; omega)]
    exact all_1 ha
  | [a, b] =>
    have ha : a < 24 := hm a (by rw [hl]; simp)
    have hb : b < 24 := hm b (by rw [hl]; simp)
    have hab : a < b := by rw [hl] at hs; simpa using hs
    rw [or_bl hx (lo24_or (lo24_sb ha) (lo24_sb hb)) hl (fun i hi => by rw [b_or, bt_sb (by omega) (by omega), bt_sb (by omega) (by omega)]; simp; omega)]
    exact all_2 hab hb
  | [a, b, c] =>
    have ha : a < 24 := hm a (by rw [hl]; simp)
    have hb : b < 24 := hm b (by rw [hl]; simp)
    have hc : c < 24 := hm c (by rw [hl]; simp)
    rw [hl] at hs
    have h1 : a < b := by simp at hs; omega
    have h2 : b < c := by simp at hs; omega
    rw [or_bl hx (lo24_or (lo24_or (lo24_sb ha) (lo24_sb hb)) (lo24_sb hc)) hl (fun i hi => by rw [b_or, b_or, bt_sb (by omega) (by omega), bt_sb (by omega) (by omega), bt_sb (by omega) (by omega)]; simp; omega)]
    exact all_3 h1 h2 hc
  | a :: b :: c :: d :: r => rw [hl] at h; simp at h
/-- many bits: four of them, in order -/
theorem four_of_many {x : Int32} (h : ¬ (bl x).length ≤ 3) : ∃ a b c d, a < b ∧ b < c ∧ c < d ∧ d < 24 ∧ bt x a = true ∧ bt x b = true ∧ bt x c = true ∧ bt x d = true := by
  have hs := bl_sorted x
  have hm : ∀ i ∈ bl x, i < 24 ∧ bt x i = true := fun i hi => mem_bl.mp hi
  match hl : bl x with
  | [] => rw [hl] at h; simp at h
  | [a] => rw [hl] at h; simp at h
  | [a, b] => rw [hl] at h; simp at h
  | [a, b, c] => rw [hl] at h; simp at h
  | a :: b :: c :: d :: r =>
    rw [hl] at hs
    have ha := hm a (by rw [hl]; simp)
    have hb := hm b (by rw [hl]; simp)
    have hc := hm c (by rw [hl]; simp)
    have hd := hm d (by rw [hl]; simp)
    simp only [List.pairwise_cons, List.mem_cons, forall_eq_or_imp] at hs
    exact ⟨a, b, c, d, hs.1.1, hs.2.1.1, hs.2.2.1.1, hd.1, ha.2, hb.2, hc.2, hd.2⟩
end
section
/-! tables that are decided -/
theorem plC_tab : ALLC.map f_Po_placeOf = (List.range 2325).map nI := by decide +kernel
theorem plC_len : ALLC.length = 2325 := by decide +kernel
/-- the mask of a place of the reference -/
def unR (k : Nat) : Int32 := (if k % 25 < 24 then sb (k % 25) else 0) ||| (if k / 25 % 25 < 24 then sb (k / 25 % 25) else 0) ||| (if k / 625 < 24 then sb (k / 625) else 0)
theorem plR_tab : ALLC.all (fun m => match f_Md_placeOf m with | some r => decide (0 ≤ r ∧ r < 15625 ∧ unR r.toNatClampNeg = m) | none => false) = true := by decide +kernel
theorem few_of_all : ∀ m ∈ ALLC, (bl m).length ≤ 3 := by
  have h : ALLC.all (fun m => decide ((bl m).length ≤ 3)) = true := by decide +kernel
  intro m hm
  have := List.all_eq_true.mp h m hm
  simpa using this
end
section
/-! the places of masks, in the class and in the reference -/
theorem bt_low (x : Int32) {n : Nat} (hn : n < 32) : bt (x &&& -x) n = (bt x n && !decide (∃ j < n, bt x j = true)) := by
  rw [b_and, bt_neg x hn]
  cases bt x n <;> simp
theorem bt_drop (x : Int32) {n : Nat} (hn : n < 32) : bt (x &&& ((x &&& -x) ^^^ (-1))) n = (bt x n && decide (∃ j < n, bt x j = true)) := by
  rw [b_and, bt_not _ hn, bt_low x hn]
  cases bt x n <;> simp
theorem bt_rest (x : Int32) {n : Nat} (hn : n < 32) : bt (x &&& (x - 1)) n = (bt x n && decide (∃ j < n, bt x j = true)) := by
  rw [b_and, bt_pred x hn]
  cases bt x n <;> simp
theorem plC_at {c : Nat} {x : Int32} (h : ALLC[c]? = some x) : c < 2325 ∧ f_Po_placeOf x = nI c := by
  have hc : c < 2325 := by
    have := (List.getElem?_eq_some_iff.mp h).1
    rw [plC_len] at this
    exact this
  refine ⟨hc, ?_⟩
  have h1 : (ALLC.map f_Po_placeOf)[c]? = ((List.range 2325).map nI)[c]? := by rw [plC_tab]
  rw [List.getElem?_map, h, List.getElem?_map, List.getElem?_range hc] at h1
  exact Option.some.inj h1
theorem plC_mem {x : Int32} (h : x ∈ ALLC) : ∃ c, c < 2325 ∧ f_Po_placeOf x = nI c ∧ ALLC[c]? = some x := by
  obtain ⟨c, hc⟩ := List.mem_iff_getElem?.mp h
  exact ⟨c, (plC_at hc).1, (plC_at hc).2, hc⟩
theorem plC_out {x : Int32} (hx : lo24 x) (h : x ∉ ALLC) : f_Po_placeOf x = -1 := by
  obtain ⟨a, b, c, d, hab, hbc, hcd, hd, ba, bb, bc, bd⟩ := four_of_many (x := x) (fun q => h (all_of_few hx q))
  unfold f_Po_placeOf
  simp only [zlet]
  by_cases h0 : x < 0
  · rw [if_pos h0]
  rw [if_neg h0]
  by_cases h1 : 16777215 < x
  · rw [if_pos h1]
  rw [if_neg h1]
  rw [if_neg]
  intro hz
  have e : bt ((x &&& ((x &&& -x) ^^^ (-1))) &&& (((x &&& ((x &&& -x) ^^^ (-1))) &&& (-(x &&& ((x &&& -x) ^^^ (-1))))) ^^^ (-1)) &&& (((x &&& ((x &&& -x) ^^^ (-1))) &&& (((x &&& ((x &&& -x) ^^^ (-1))) &&& (-(x &&& ((x &&& -x) ^^^ (-1))))) ^^^ (-1))) - 1)) d = bt 0 d := congrArg (fun z => bt z d) hz
  rw [bt_rest _ (by omega), b_0, bt_drop _ (by omega), bt_drop _ (by omega)] at e
  have f1 : ∀ n, n < 32 → a < n → bt x n = true → bt (x &&& ((x &&& -x) ^^^ (-1))) n = true := by
    intro n hn han hb
    rw [bt_drop _ hn, hb]
    simp only [Bool.true_and, decide_eq_true_eq]
    exact ⟨a, han, ba⟩
  have f2 : ∀ n, n < 32 → b < n → bt x n = true → bt ((x &&& ((x &&& -x) ^^^ (-1))) &&& (((x &&& ((x &&& -x) ^^^ (-1))) &&& (-(x &&& ((x &&& -x) ^^^ (-1))))) ^^^ (-1))) n = true := by
    intro n hn hbn hb
    rw [bt_drop _ hn, f1 n hn (by omega) hb]
    simp only [Bool.true_and, decide_eq_true_eq]
    exact ⟨b, hbn, f1 b (by omega) hab bb⟩
  have g1 : decide (∃ j < d, bt x j = true) = true := by
    rw [decide_eq_true_eq]; exact ⟨c, hcd, bc⟩
  have g2 : decide (∃ j < d, bt (x &&& ((x &&& -x) ^^^ (-1))) j = true) = true := by
    rw [decide_eq_true_eq]; exact ⟨c, hcd, f1 c (by omega) (by omega) bc⟩
  have g3 : decide (∃ j < d, bt ((x &&& ((x &&& -x) ^^^ (-1))) &&& (((x &&& ((x &&& -x) ^^^ (-1))) &&& (-(x &&& ((x &&& -x) ^^^ (-1))))) ^^^ (-1))) j = true) = true := by
    rw [decide_eq_true_eq]; exact ⟨c, hcd, f2 c (by omega) (by omega) bc⟩
  rw [bd, g1, g2, g3] at e
  cases e
theorem sh1 (x : Int32) {k : Nat} (hk : k < 32) : (x >>> (nI k &&& 31)) &&& 1 = if bt x k then 1 else 0 := by
  apply b_ext
  intro i hi
  rw [b_and, b_1 i hi, b_sshr k hk x hi]
  by_cases h : i = 0
  · subst h
    simp only [Nat.add_zero, hk, if_true]
    cases hb : bt x k
    · simp; rw [b_0]
    · simp; exact b_1 0 (by omega)
  · simp only [h, decide_false, Bool.and_false]
    cases hb : bt x k
    · simp; rw [b_0]
    · simp; rw [b_1 i hi]; simp [h]
theorem ush1 (x : Int32) {k : Nat} (hk : k < 32) : (zushr x (nI k)) &&& 1 = if bt x k then 1 else 0 := by
  apply b_ext
  intro i hi
  rw [b_and, b_1 i hi]
  unfold zushr
  rw [b_ushr k hk x i]
  by_cases h : i = 0
  · subst h
    simp only [Nat.add_zero]
    cases hb : bt x k
    · simp; rw [b_0]
    · simp; exact b_1 0 (by omega)
  · simp only [h, decide_false, Bool.and_false]
    cases hb : bt x k
    · simp; rw [b_0]
    · simp; rw [b_1 i hi]; simp [h]
theorem has_eq (x : Int32) {k : Nat} (hk : k < 32) : f_Ps_has x (nI k) = if bt x k then 1 else 0 := by
  unfold f_Ps_has
  rw [ush1 x hk]
  cases bt x k
  · rfl
  · rfl
theorem lt24 {i : Nat} (h : i < 24) : ¬ (24 : Int32) ≤ nI i := show ¬ nI 24 ≤ nI i from nI_ge h (by omega)
theorem ge24 : (24 : Int32) ≤ nI 24 := show nI 24 ≤ nI 24 from nI_le (Nat.le_refl 24) (by omega)
theorem count_eq (x : Int32) : f_Md_count x = some (nI (bl x).length) := by
  unfold f_Md_count
  obtain ⟨r, h1, h2⟩ := zloop_rel (step := fun q : Int32 × Int32 => f_Md_count_l4 x q.1 q.2) (I := fun i s => s = (nI ((List.range i).filter (fun k => bt x k)).length, nI i)) (K := fun r => r = nI (bl x).length) 24 0 (s0 := (0, 0)) (by omega) (by omega) rfl
    (fun i s hi hs => by
      subst hs
      refine ⟨_, ?_, rfl⟩
      unfold f_Md_count_l4
      simp only [zlet]
      rw [if_neg (lt24 hi), sh1 x (by omega), List.range_succ, List.filter_append]
      cases hb : bt x i
      · simp [hb, nI_1]
      · simp [hb, nI_1])
    (fun s hs => by
      subst hs
      refine ⟨_, ?_, rfl⟩
      unfold f_Md_count_l4
      rw [if_pos ge24]
      rfl)
  rw [h1, h2]
  rfl
theorem plR_mem {m : Int32} (h : m ∈ ALLC) : ∃ r, r < 15625 ∧ f_Md_placeOf m = some (nI r) ∧ unR r = m := by
  have h1 := List.all_eq_true.mp plR_tab m h
  cases hp : f_Md_placeOf m with
  | none => rw [hp] at h1; simp at h1
  | some r =>
    rw [hp] at h1
    simp only [decide_eq_true_eq] at h1
    obtain ⟨j, hj, rfl⟩ := nI_of (x := r) (fun q => by
      have := Int32.lt_of_lt_of_le q h1.1
      rw [Int32.lt_iff_toInt_lt] at this
      omega)
    rw [nI_clamp hj] at h1
    exact ⟨j, (nI_ltI hj (by omega)).mp h1.2.1, rfl, h1.2.2⟩
end
section
/-! the polynomial: a number modulo 8 for each mask; how the class and the reference hold it -/
def toI (b : BitVec 3) : Int32 := nI b.toNat
def pi3 (n : Int32) : BitVec 3 := n.toBitVec.setWidth 3
theorem toI_lt (b : BitVec 3) : b.toNat < 8 := b.isLt
theorem and7 (x : Int32) : x &&& 7 = nI (x.toBitVec.toNat % 8) := pk_and x 3 (by decide)
theorem toI_add (a : BitVec 3) (n : Int32) : (toI a + n) &&& 7 = toI (a + pi3 n) := by
  rw [and7]
  unfold toI pi3
  congr 1
  rw [Int32.toBitVec_add, BitVec.toNat_add, BitVec.toNat_add, BitVec.toNat_setWidth]
  show ((BitVec.ofNat 32 a.toNat).toNat + n.toBitVec.toNat) % 2 ^ 32 % 8 = _
  have := a.isLt
  rw [BitVec.toNat_ofNat]
  omega
theorem toI_inj {a b : BitVec 3} (h : toI a = toI b) : a = b := by
  have ha := a.isLt
  have hb := b.isLt
  exact BitVec.eq_of_toNat_eq (nI_inj (by omega) (by omega) h)
theorem toI_0 : toI 0 = 0 := by decide
theorem toI_ne {a : BitVec 3} : toI a = 0 ↔ a = 0 := ⟨fun h => toI_inj (h.trans toI_0.symm), fun h => by rw [h, toI_0]⟩
/-- n comes to the number of x -/
def addP (P : Int32 → BitVec 3) (x n : Int32) : Int32 → BitVec 3 := fun m => if m = x then P m + pi3 n else P m
/-- how many of the first numbers are not 0 -/
def cntN (f : Nat → Int32) : Nat → Nat
  | 0 => 0
  | n + 1 => cntN f n + if f n = 0 then 0 else 1
theorem cntN_ge (f : Nat → Int32) (c : Nat) (v : Int32) : ∀ n, n ≤ c → cntN (upd f c v) n = cntN f n
  | 0, _ => rfl
  | n + 1, h => by
    have h1 : upd f c v n = f n := pk_un (by omega)
    unfold cntN
    rw [cntN_ge f c v n (by omega), h1]
theorem cntN_upd (f : Nat → Int32) (c : Nat) (v : Int32) : ∀ n, c < n → cntN (upd f c v) n + (if f c = 0 then 0 else 1) = cntN f n + (if v = 0 then 0 else 1)
  | 0, h => absurd h (Nat.not_lt_zero _)
  | n + 1, h => by
    unfold cntN
    by_cases e : c = n
    · subst e
      rw [cntN_ge f c v c (Nat.le_refl _), pk_us]
      omega
    · have h1 : upd f c v n = f n := pk_un (by omega)
      have h2 := cntN_upd f c v n (by omega)
      rw [h1]
      omega
theorem cntN_le (f : Nat → Int32) : ∀ n, cntN f n ≤ n
  | 0 => Nat.le_refl _
  | n + 1 => by
    unfold cntN
    have := cntN_le f n
    split <;> omega
/-- the class's row holds P, its count of monomials is right -/
def PC (P : Int32 → BitVec 3) (mono : Int32) (num : Nat → Int32) : Prop := (∀ (m : Int32) (c : Nat), ALLC[c]? = some m → num c = toI (P m)) ∧ mono = nI (cntN num 2325)
/-- the reference's row holds P -/
def PR (P : Int32 → BitVec 3) (num : Nat → Int32) : Prop := (∀ (m : Int32) (r : Nat), m ∈ ALLC → r < 15625 → f_Md_placeOf m = some (nI r) → num r = toI (P m)) ∧ ∀ k, k < 15625 → num k ≠ 0 → unR k ∈ ALLC ∧ f_Md_placeOf (unR k) = some (nI k)
theorem PC_ext {P P' : Int32 → BitVec 3} {mono : Int32} {num : Nat → Int32} (h : ∀ m ∈ ALLC, P m = P' m) (hp : PC P mono num) : PC P' mono num :=
  ⟨fun m c hc => by rw [← h m (List.mem_of_getElem? hc)]; exact hp.1 m c hc, hp.2⟩
theorem PR_ext {P P' : Int32 → BitVec 3} {num : Nat → Int32} (h : ∀ m ∈ ALLC, P m = P' m) (hp : PR P num) : PR P' num :=
  ⟨fun m r hm hr hq => by rw [← h m hm]; exact hp.1 m r hm hr hq, hp.2⟩
theorem clampI {c : Nat} (h : c < 2 ^ 31) : (nI c).toNatClampNeg = c := nI_clamp h
theorem in_nI {c N : Nat} (h : c < N) (hN : N < 2 ^ 31) : ¬ (nI c < 0 ∨ N ≤ (nI c).toNatClampNeg) := nI_in h hN
theorem mono_step {K K' a b : Nat} (h : K' + a = K + b) (x : Int32) (hx : nI b - nI a = x) : nI K + x = nI K' := by
  subst hx
  apply Int32.toBitVec_inj.mp
  rw [Int32.toBitVec_add, Int32.toBitVec_sub]
  show BitVec.ofNat 32 K + (BitVec.ofNat 32 b - BitVec.ofNat 32 a) = BitVec.ofNat 32 K'
  have e : BitVec.ofNat 32 K' + BitVec.ofNat 32 a = BitVec.ofNat 32 K + BitVec.ofNat 32 b := by
    rw [← BitVec.ofNat_add, ← BitVec.ofNat_add, h]
  have e2 : BitVec.ofNat 32 K' = BitVec.ofNat 32 K + BitVec.ofNat 32 b - BitVec.ofNat 32 a := by
    rw [← e, BitVec.add_sub_cancel]
  rw [e2, BitVec.sub_eq_add_neg, BitVec.sub_eq_add_neg, BitVec.add_assoc]
theorem addC {P : Int32 → BitVec 3} {mono : Int32} {num : Nat → Int32} (hp : PC P mono num) {x : Int32} (hx : lo24 x) (n : Int32) : ∃ mono' num', f_Po_add x n mono num = some (mono', num') ∧ PC (addP P x n) mono' num' := by
  by_cases hm : x ∈ ALLC
  · obtain ⟨c, hc, h1, h2⟩ := plC_mem hm
    have hb : num c = toI (P x) := hp.1 x c h2
    have hP : ∀ (mono' : Int32), mono' = nI (cntN (upd num c ((num c + n) &&& 7)) 2325) → PC (addP P x n) mono' (upd num c ((num c + n) &&& 7)) := by
      intro mono' hmo
      refine ⟨fun m c' hc' => ?_, hmo⟩
      unfold addP
      by_cases e : c' = c
      · subst e
        have : m = x := Option.some.inj (hc'.symm.trans h2)
        subst this
        rw [pk_us, if_pos rfl, hb, toI_add]
      · have hne : m ≠ x := by
          intro q
          subst q
          have a1 := (plC_at hc').2
          rw [h1] at a1
          exact e (nI_inj (by have := (plC_at hc').1; omega) (by omega) a1.symm)
        rw [pk_un e, if_neg hne]
        exact hp.1 m c' hc'
    have hk := cntN_upd num c ((num c + n) &&& 7) 2325 hc
    unfold f_Po_add
    simp only [zlet]
    rw [h1, if_neg (nI_pos (by omega)), if_pos (show nI c < 2325 from (show nI c < nI 2325 from nI_lt hc (by omega))), if_neg (in_nI hc (by omega)), if_neg (in_nI hc (by omega)), clampI (by omega)]
    rw [hp.2]
    by_cases ha : (num c + n) &&& 7 = 0
    · rw [if_pos ha]
      by_cases hb0 : num c = 0
      · rw [if_pos hb0]
        exact ⟨_, _, rfl, hP _ (mono_step (a := 0) (b := 0) (by rw [if_pos ha, if_pos hb0] at hk; omega) _ (by decide))⟩
      · rw [if_neg hb0]
        exact ⟨_, _, rfl, hP _ (mono_step (a := 1) (b := 0) (by rw [if_pos ha, if_neg hb0] at hk; omega) _ (by decide))⟩
    · rw [if_neg ha]
      by_cases hb0 : num c = 0
      · rw [if_pos hb0]
        exact ⟨_, _, rfl, hP _ (mono_step (a := 0) (b := 1) (by rw [if_neg ha, if_pos hb0] at hk; omega) _ (by decide))⟩
      · rw [if_neg hb0]
        exact ⟨_, _, rfl, hP _ (mono_step (a := 1) (b := 1) (by rw [if_neg ha, if_neg hb0] at hk; omega) _ (by decide))⟩
  · refine ⟨mono, num, ?_, PC_ext (fun m hmm => ?_) hp⟩
    · unfold f_Po_add
      simp only [zlet]
      rw [plC_out hx hm, if_pos (by decide)]
    · unfold addP
      rw [if_neg (show ¬ m = x from fun q => hm (q ▸ hmm))]
theorem numC {P : Int32 → BitVec 3} {mono : Int32} {num : Nat → Int32} (hp : PC P mono num) {x : Int32} (hm : x ∈ ALLC) : f_Po_numberOf x num = some (toI (P x)) := by
  obtain ⟨c, hc, h1, h2⟩ := plC_mem hm
  unfold f_Po_numberOf
  simp only [zlet]
  rw [h1, if_neg (nI_pos (by omega)), if_neg (show ¬ (2325 : Int32) ≤ nI c from (show ¬ nI 2325 ≤ nI c from nI_ge hc (by omega))), if_neg (in_nI hc (by omega)), clampI (by omega), hp.1 x c h2]
theorem addR {P : Int32 → BitVec 3} {num : Nat → Int32} (hp : PR P num) {x : Int32} (hx : lo24 x) (n : Int32) : ∃ num', f_Md_add x n num = some num' ∧ PR (addP P x n) num' := by
  by_cases hm : x ∈ ALLC
  · obtain ⟨c, hc, h1, h2⟩ := plR_mem hm
    have hb : num c = toI (P x) := hp.1 x c hm hc h1
    unfold f_Md_add
    rw [count_eq, h1]
    simp only [zlet, zb1]
    have hlen := few_of_all x hm
    rw [if_pos (show nI (bl x).length ≤ 3 from (show nI (bl x).length ≤ nI 3 from nI_le hlen (by omega))), if_neg (in_nI hc (by omega)), if_neg (in_nI hc (by omega)), clampI (by omega)]
    refine ⟨_, rfl, fun m r hmm hr hq => ?_, fun k hk hne => ?_⟩
    · unfold addP
      by_cases e : r = c
      · subst e
        obtain ⟨c', _, h3, h4⟩ := plR_mem hmm
        have : m = x := by
          rw [hq] at h3
          have := nI_inj (by omega) (by omega) (Option.some.inj h3)
          subst this
          rw [← h4, h2]
        subst this
        rw [pk_us, if_pos rfl, hb, toI_add]
      · have hne : m ≠ x := by
          intro q
          subst q
          rw [h1] at hq
          exact e (nI_inj (by omega) (by omega) (Option.some.inj hq)).symm
        rw [pk_un e, if_neg hne]
        exact hp.1 m r hmm hr hq
    · by_cases e : k = c
      · subst e
        rw [h2]
        exact ⟨hm, h1⟩
      · rw [pk_un e] at hne
        exact hp.2 k hk hne
  · refine ⟨num, ?_, PR_ext (fun m hmm => ?_) hp⟩
    · unfold f_Md_add
      rw [count_eq]
      simp only [zb1]
      rw [if_neg]
      intro q
      exact hm (all_of_few hx ((nI_leI (by have : (bl x).length ≤ 24 := by
                                             unfold bl
                                             exact Nat.le_trans (List.length_filter_le _ _) (by simp)
                                           omega) (by omega)).mp (show nI (bl x).length ≤ nI 3 from q)))
    · unfold addP
      rw [if_neg (show ¬ m = x from fun q => hm (q ▸ hmm))]
theorem numR {P : Int32 → BitVec 3} {num : Nat → Int32} (hp : PR P num) {x : Int32} (hm : x ∈ ALLC) : f_Md_numberOf x num = some (toI (P x)) := by
  obtain ⟨c, hc, h1, h2⟩ := plR_mem hm
  unfold f_Md_numberOf
  rw [h1]
  simp only [zb1]
  rw [if_neg (in_nI hc (by omega)), clampI (by omega), hp.1 x c hm hc h1]
end
section
/-! what comes to the polynomial: the class's additions -/
theorem bz (a : BitVec 3) : a + 0 = a := BitVec.add_zero a
theorem zb (a : BitVec 3) : 0 + a = a := BitVec.zero_add a
/-- n at the mask x -/
def ct (x n m : Int32) : BitVec 3 := if m = x then pi3 n else 0
theorem addP_eq (P : Int32 → BitVec 3) (x n : Int32) : addP P x n = fun m => P m + ct x n m := by
  funext m
  unfold addP ct
  by_cases h : m = x
  · rw [if_pos h, if_pos h]
  · rw [if_neg h, if_neg h, bz]
/-- a sum of the first n -/
def sm (f : Nat → BitVec 3) : Nat → BitVec 3
  | 0 => 0
  | n + 1 => sm f n + f n
theorem sm_congr {f g : Nat → BitVec 3} : ∀ n, (∀ i, i < n → f i = g i) → sm f n = sm g n
  | 0, _ => rfl
  | n + 1, h => by
    unfold sm
    rw [sm_congr n (fun i hi => h i (by omega)), h n (by omega)]
theorem sm_zero {f : Nat → BitVec 3} : ∀ n, (∀ i, i < n → f i = 0) → sm f n = 0
  | 0, _ => rfl
  | n + 1, h => by
    unfold sm
    rw [sm_zero n (fun i hi => h i (by omega)), h n (by omega), bz]
theorem sbe (k : Nat) : (1 : Int32) <<< (nI k &&& 31) = sb k := rfl
theorem has_t {x : Int32} {k : Nat} (hk : k < 32) (h : bt x k = true) : f_Ps_has x (nI k) = 1 := by rw [has_eq x hk, h]; rfl
theorem has_f {x : Int32} {k : Nat} (hk : k < 32) (h : bt x k = false) : f_Ps_has x (nI k) = 0 := by rw [has_eq x hk, h]; rfl
/-- a function of the class adds e to the polynomial, nothing else -/
def EffC (f : Int32 → (Nat → Int32) → Option (Int32 × (Nat → Int32))) (e : Int32 → BitVec 3) : Prop := ∀ P mono num, PC P mono num → ∃ mono' num', f mono num = some (mono', num') ∧ PC (fun m => P m + e m) mono' num'
theorem effC_add {x : Int32} (hx : lo24 x) (n : Int32) : EffC (f_Po_add x n) (ct x n) := fun P mono num hp => by
  obtain ⟨mono', num', h1, h2⟩ := addC hp hx n
  exact ⟨mono', num', h1, by rw [addP_eq] at h2; exact h2⟩
theorem effC_loop {step : Int32 × Int32 × (Nat → Int32) → Option ((Int32 × Int32 × (Nat → Int32)) ⊕ (Int32 × (Nat → Int32)))} (N : Nat) (hN : N < 100000) (e : Nat → Int32 → BitVec 3)
    (hs : ∀ i, i < N → ∀ P mono num, PC P mono num → ∃ mono' num', step (nI i, mono, num) = some (.inl (nI (i + 1), mono', num')) ∧ PC (fun m => P m + e i m) mono' num')
    (he : ∀ mono num, step (nI N, mono, num) = some (.inr (mono, num))) : EffC (fun mono num => zloop step zF (0, mono, num)) (fun m => sm (fun i => e i m) N) := by
  intro P mono num hp
  obtain ⟨r, h1, h2⟩ := zloop_rel (step := step) (I := fun i s => ∃ mono num, s = (nI i, mono, num) ∧ PC (fun m => P m + sm (fun i => e i m) i) mono num) (K := fun r => PC (fun m => P m + sm (fun i => e i m) N) r.1 r.2) N 0 (s0 := (0, mono, num)) hN (Nat.zero_le _)
    ⟨mono, num, by rw [nI_0], PC_ext (fun m _ => by show P m = P m + 0; rw [bz]) hp⟩
    (fun i s hi hI => by
      obtain ⟨mo, nu, rfl, h⟩ := hI
      obtain ⟨mo', nu', h1, h2⟩ := hs i hi _ mo nu h
      exact ⟨_, h1, mo', nu', rfl, PC_ext (fun m _ => by show P m + sm (fun i => e i m) i + e i m = P m + (sm (fun i => e i m) i + e i m); rw [BitVec.add_assoc]) h2⟩)
    (fun s hI => by
      obtain ⟨mo, nu, rfl, h⟩ := hI
      exact ⟨_, he mo nu, h⟩)
  exact ⟨r.1, r.2, h1, h2⟩
theorem PC_0 {P : Int32 → BitVec 3} {mono : Int32} {num : Nat → Int32} (hp : PC P mono num) : PC (fun m => P m + 0) mono num := PC_ext (fun m _ => by rw [bz]) hp
theorem PC_2 {P e f : Int32 → BitVec 3} {mono : Int32} {num : Nat → Int32} (hp : PC (fun m => (fun m => P m + e m) m + f m) mono num) : PC (fun m => P m + (e m + f m)) mono num := PC_ext (fun m _ => by rw [BitVec.add_assoc]) hp
def eTr (x fa : Int32) (j : Nat) (m : Int32) : BitVec 3 := sm (fun k => if bt x k then ct (fa ||| sb k) 4 m else 0) j
theorem triC {j : Nat} (hj : j ≤ 24) {fa : Int32} (hf : lo24 fa) (x : Int32) : EffC (f_Po_addTriplesBelow (nI j) x fa) (eTr x fa j) := by
  intro P mono num hp
  unfold f_Po_addTriplesBelow
  obtain ⟨mo, nu, h1, h2⟩ := effC_loop (step := fun q => f_Po_addTriplesBelow_l3 (nI j) x fa q.1 q.2.1 q.2.2) j (by omega) (fun k m => if bt x k then ct (fa ||| sb k) 4 m else 0)
    (fun k hk P mono num hp => by
      show ∃ mono' num', f_Po_addTriplesBelow_l3 (nI j) x fa (nI k) mono num = _ ∧ _
      unfold f_Po_addTriplesBelow_l3
      rw [if_neg (nI_ge hk (by omega)), sbe k]
      cases hb : bt x k
      · rw [has_f (by omega) hb, if_pos rfl]
        exact ⟨mono, num, by simp only [zlet, nI_1], PC_0 hp⟩
      · rw [has_t (by omega) hb, if_neg (by decide)]
        obtain ⟨mo, nu, h1, h2⟩ := effC_add (lo24_or hf (lo24_sb (i := k) (by omega))) 4 P mono num hp
        rw [h1]
        exact ⟨mo, nu, by simp only [zlet, zb2, nI_1], h2⟩)
    (fun mono num => by
      show f_Po_addTriplesBelow_l3 (nI j) x fa (nI j) mono num = _
      unfold f_Po_addTriplesBelow_l3
      rw [if_pos (nI_le (Nat.le_refl j) (by omega))]) P mono num hp
  have h1 : zloop (fun q => f_Po_addTriplesBelow_l3 (nI j) x fa q.1 q.2.1 q.2.2) zF ((0 : Int32), mono, num) = some (mo, nu) := h1
  rw [h1]
  exact ⟨mo, nu, rfl, h2⟩
def ePa (x : Int32) (sg : Int32) (fa : Int32) (i : Nat) (m : Int32) : BitVec 3 := sm (fun j => if bt x j then ct (fa ||| sb j) (-2 * sg) m + (if bt sg 0 then eTr x (fa ||| sb j) j m else 0) else 0) i
theorem pairC {i : Nat} (hi : i ≤ 24) {fa : Int32} (hf : lo24 fa) (sg x : Int32) : EffC (f_Po_addPairsBelow (nI i) sg x fa) (ePa x sg fa i) := by
  intro P mono num hp
  unfold f_Po_addPairsBelow
  obtain ⟨mo, nu, h1, h2⟩ := effC_loop (step := fun q => f_Po_addPairsBelow_l3 (nI i) sg x fa q.1 q.2.1 q.2.2) i (by omega) (fun j m => if bt x j then ct (fa ||| sb j) (-2 * sg) m + (if bt sg 0 then eTr x (fa ||| sb j) j m else 0) else 0)
    (fun k hk P mono num hp => by
      show ∃ mono' num', f_Po_addPairsBelow_l3 (nI i) sg x fa (nI k) mono num = _ ∧ _
      unfold f_Po_addPairsBelow_l3
      rw [if_neg (nI_ge hk (by omega)), sbe k]
      have hl := lo24_or hf (lo24_sb (i := k) (by omega))
      cases hb : bt x k
      · rw [has_f (by omega) hb, if_pos rfl]
        exact ⟨mono, num, by simp only [zlet, nI_1], PC_0 hp⟩
      · rw [has_t (by omega) hb, if_neg (by decide)]
        obtain ⟨mo, nu, h1, h2⟩ := effC_add hl (-2 * sg) P mono num hp
        rw [h1]
        have e0 : f_Ps_has sg 0 = f_Ps_has sg (nI 0) := by rw [nI_0]
        simp only [zb2, e0]
        cases hs : bt sg 0
        · rw [has_f (by omega) hs, if_pos rfl]
          exact ⟨mo, nu, by simp only [zlet, nI_1], PC_ext (fun m _ => by simp) h2⟩
        · rw [has_t (by omega) hs, if_neg (by decide)]
          obtain ⟨mo2, nu2, h3, h4⟩ := triC (j := k) (by omega) hl x _ mo nu h2
          rw [h3]
          exact ⟨mo2, nu2, by simp only [zlet, zb2, nI_1], PC_ext (fun m _ => by simp [BitVec.add_assoc]) h4⟩)
    (fun mono num => by
      show f_Po_addPairsBelow_l3 (nI i) sg x fa (nI i) mono num = _
      unfold f_Po_addPairsBelow_l3
      rw [if_pos (nI_le (Nat.le_refl i) (by omega))]) P mono num hp
  have h1 : zloop (fun q => f_Po_addPairsBelow_l3 (nI i) sg x fa q.1 q.2.1 q.2.2) zF ((0 : Int32), mono, num) = some (mo, nu) := h1
  rw [h1]
  exact ⟨mo, nu, rfl, h2⟩
def eXj (x sg fa : Int32) (m : Int32) : BitVec 3 := sm (fun i => if bt x i then ct (fa ||| sb i) sg m + (if sg &&& 3 = 0 then 0 else ePa x sg (fa ||| sb i) i m) else 0) 24
theorem xorJC {fa : Int32} (hf : lo24 fa) (sg x : Int32) : EffC (f_Po_addXor_j22 x fa sg) (eXj x sg fa) := by
  intro P mono num hp
  unfold f_Po_addXor_j22
  obtain ⟨mo, nu, h1, h2⟩ := effC_loop (step := fun q => f_Po_addXor_l25 x fa sg q.1 q.2.1 q.2.2) 24 (by omega) (fun i m => if bt x i then ct (fa ||| sb i) sg m + (if sg &&& 3 = 0 then 0 else ePa x sg (fa ||| sb i) i m) else 0)
    (fun k hk P mono num hp => by
      show ∃ mono' num', f_Po_addXor_l25 x fa sg (nI k) mono num = _ ∧ _
      unfold f_Po_addXor_l25
      rw [if_neg (lt24 hk), sbe k]
      have hl := lo24_or hf (lo24_sb (i := k) (by omega))
      cases hb : bt x k
      · rw [has_f (by omega) hb, if_pos rfl]
        exact ⟨mono, num, by simp only [zlet, nI_1], PC_0 hp⟩
      · rw [has_t (by omega) hb, if_neg (by decide)]
        obtain ⟨mo, nu, h1, h2⟩ := effC_add hl sg P mono num hp
        rw [h1]
        simp only [zb2]
        by_cases hs : sg &&& 3 = 0
        · rw [if_pos hs]
          exact ⟨mo, nu, by simp only [zlet, nI_1], PC_ext (fun m _ => by simp [hs]) h2⟩
        · rw [if_neg hs]
          obtain ⟨mo2, nu2, h3, h4⟩ := pairC (i := k) (by omega) hl sg x _ mo nu h2
          rw [h3]
          exact ⟨mo2, nu2, by simp only [zlet, zb2, nI_1], PC_ext (fun m _ => by simp [hs, BitVec.add_assoc]) h4⟩)
    (fun mono num => by
      show f_Po_addXor_l25 x fa sg (nI 24) mono num = _
      unfold f_Po_addXor_l25
      rw [if_pos ge24]) P mono num hp
  have h1 : zloop (fun q => f_Po_addXor_l25 x fa sg q.1 q.2.1 q.2.2) zF ((0 : Int32), mono, num) = some (mo, nu) := h1
  rw [h1]
  exact ⟨mo, nu, rfl, h2⟩
/-- what addXor(n, x, fa) adds -/
def eXo (n x fa : Int32) (m : Int32) : BitVec 3 := if bt x 24 then ct fa n m + eXj x (-n) fa m else eXj x n fa m
theorem xorC {fa : Int32} (hf : lo24 fa) (n x : Int32) : EffC (f_Po_addXor n x fa) (eXo n x fa) := by
  intro P mono num hp
  unfold f_Po_addXor
  have e0 : f_Ps_has x 24 = f_Ps_has x (nI 24) := rfl
  rw [e0]
  cases hb : bt x 24
  · rw [has_f (by omega) hb, if_pos rfl]
    obtain ⟨mo, nu, h1, h2⟩ := xorJC hf n x P mono num hp
    exact ⟨mo, nu, h1, PC_ext (fun m _ => by simp [eXo, hb]) h2⟩
  · rw [has_t (by omega) hb, if_neg (by decide)]
    obtain ⟨mo, nu, h1, h2⟩ := effC_add hf n P mono num hp
    rw [h1]
    obtain ⟨mo2, nu2, h3, h4⟩ := xorJC hf (-n) x _ mo nu h2
    exact ⟨mo2, nu2, by simp only [zlet, zb2]; exact h3, PC_ext (fun m _ => by simp [eXo, hb, BitVec.add_assoc]) h4⟩
end
section
/-! the class's four times the product of three values -/
/-- the mask of a bit, of a constant (24) none -/
def mk (i : Nat) : Int32 := if i < 24 then sb i else 0
theorem bt_all : ∀ i, i < 32 → bt 16777215 i = decide (i < 24) := by decide +kernel
theorem lo24_all : lo24 16777215 := fun j hj h2 => by rw [bt_all j hj]; simp; omega
theorem mk_and {i : Nat} (hi : i ≤ 24) : sb i &&& 16777215 = mk i := by
  unfold mk
  apply b_ext
  intro j hj
  rw [b_and, bt_sb (by omega) hj, bt_all j hj]
  by_cases h : i < 24
  · rw [if_pos h, bt_sb (by omega) hj]
    by_cases e : i = j
    · subst e; simp [h]
    · simp [e]
  · rw [if_neg h, b_0]
    simp; omega
theorem and_or3 (a b c d : Int32) : (a ||| b ||| c) &&& d = (a &&& d) ||| (b &&& d) ||| (c &&& d) := by
  apply b_ext
  intro j hj
  simp only [b_and, b_or]
  cases bt a j <;> cases bt b j <;> cases bt c j <;> cases bt d j <;> rfl
theorem mk3 {i j k : Nat} (hi : i ≤ 24) (hj : j ≤ 24) (hk : k ≤ 24) : (sb i ||| sb j ||| sb k) &&& 16777215 = mk i ||| mk j ||| mk k := by
  rw [and_or3, mk_and hi, mk_and hj, mk_and hk]
theorem lo24_mk {i : Nat} : lo24 (mk i) := by
  unfold mk
  by_cases h : i < 24
  · rw [if_pos h]; exact lo24_sb h
  · rw [if_neg h]; exact lo24_0
theorem lt25 {i : Nat} (h : i < 25) : ¬ (24 : Int32) < nI i := show ¬ nI 24 < nI i from nI_nlt (by omega) (by omega)
theorem ge25 : (24 : Int32) < nI 25 := show nI 24 < nI 25 from nI_lt (by omega) (by omega)
/-- what addFourTimes(a, b, c) adds -/
def e4k (c : Int32) (fa : Int32) (m : Int32) : BitVec 3 := sm (fun k => if bt c k then ct (fa ||| mk k) 4 m else 0) 25
def e4j (b c : Int32) (fa : Int32) (m : Int32) : BitVec 3 := sm (fun j => if bt b j then e4k c (fa ||| mk j) m else 0) 25
def e4 (a b c : Int32) (m : Int32) : BitVec 3 := sm (fun i => if bt a i then e4j b c (mk i) m else 0) 25
theorem four1 {i j : Nat} (hi : i < 25) (hj : j < 25) (a b c : Int32) : EffC (fun mono num => zloop (fun q => f_Po_addFourTimes_l47 a b c (nI i) (nI j) q.1 q.2.1 q.2.2) zF (0, mono, num)) (e4k c (mk i ||| mk j)) :=
  effC_loop (step := fun q => f_Po_addFourTimes_l47 a b c (nI i) (nI j) q.1 q.2.1 q.2.2) 25 (by omega) (fun k m => if bt c k then ct (mk i ||| mk j ||| mk k) 4 m else 0)
    (fun k hk P mono num hp => by
      show ∃ mono' num', f_Po_addFourTimes_l47 a b c (nI i) (nI j) (nI k) mono num = _ ∧ _
      unfold f_Po_addFourTimes_l47
      rw [if_neg (lt25 hk), sbe i, sbe j, sbe k, mk3 (by omega) (by omega) (by omega)]
      cases hb : bt c k
      · rw [has_f (by omega) hb, if_pos rfl]
        exact ⟨mono, num, by simp only [zlet, nI_1], PC_0 hp⟩
      · rw [has_t (by omega) hb, if_neg (by decide)]
        obtain ⟨mo, nu, h1, h2⟩ := effC_add (lo24_or (lo24_or lo24_mk lo24_mk) lo24_mk) 4 P mono num hp
        rw [h1]
        exact ⟨mo, nu, by simp only [zlet, zb2, nI_1], h2⟩)
    (fun mono num => by
      show f_Po_addFourTimes_l47 a b c (nI i) (nI j) (nI 25) mono num = _
      unfold f_Po_addFourTimes_l47
      rw [if_pos ge25])
theorem four2 {i : Nat} (hi : i < 25) (a b c : Int32) : EffC (fun mono num => zloop (fun q => f_Po_addFourTimes_l25 a b c (nI i) q.1 q.2.1 q.2.2) zF (0, mono, num)) (e4j b c (mk i)) :=
  effC_loop (step := fun q => f_Po_addFourTimes_l25 a b c (nI i) q.1 q.2.1 q.2.2) 25 (by omega) (fun j m => if bt b j then e4k c (mk i ||| mk j) m else 0)
    (fun j hj P mono num hp => by
      show ∃ mono' num', f_Po_addFourTimes_l25 a b c (nI i) (nI j) mono num = _ ∧ _
      unfold f_Po_addFourTimes_l25
      rw [if_neg (lt25 hj)]
      cases hb : bt b j
      · rw [has_f (by omega) hb, if_pos rfl]
        exact ⟨mono, num, by simp only [zlet, nI_1], PC_0 hp⟩
      · rw [has_t (by omega) hb, if_neg (by decide)]
        obtain ⟨mo, nu, h1, h2⟩ := four1 hi hj a b c P mono num hp
        have h1 : zloop (fun q => f_Po_addFourTimes_l47 a b c (nI i) (nI j) q.1 q.2.1 q.2.2) zF ((0 : Int32), mono, num) = some (mo, nu) := h1
        rw [h1]
        exact ⟨mo, nu, by simp only [zlet, zb2, nI_1], h2⟩)
    (fun mono num => by
      show f_Po_addFourTimes_l25 a b c (nI i) (nI 25) mono num = _
      unfold f_Po_addFourTimes_l25
      rw [if_pos ge25])
theorem fourC (a b c : Int32) : EffC (f_Po_addFourTimes a b c) (e4 a b c) := by
  intro P mono num hp
  unfold f_Po_addFourTimes
  obtain ⟨mo, nu, h1, h2⟩ := effC_loop (step := fun q => f_Po_addFourTimes_l3 a b c q.1 q.2.1 q.2.2) 25 (by omega) (fun i m => if bt a i then e4j b c (mk i) m else 0)
    (fun i hi P mono num hp => by
      show ∃ mono' num', f_Po_addFourTimes_l3 a b c (nI i) mono num = _ ∧ _
      unfold f_Po_addFourTimes_l3
      rw [if_neg (lt25 hi)]
      cases hb : bt a i
      · rw [has_f (by omega) hb, if_pos rfl]
        exact ⟨mono, num, by simp only [zlet, nI_1], PC_0 hp⟩
      · rw [has_t (by omega) hb, if_neg (by decide)]
        obtain ⟨mo, nu, h1, h2⟩ := four2 hi a b c P mono num hp
        have h1 : zloop (fun q => f_Po_addFourTimes_l25 a b c (nI i) q.1 q.2.1 q.2.2) zF ((0 : Int32), mono, num) = some (mo, nu) := h1
        rw [h1]
        exact ⟨mo, nu, by simp only [zlet, zb2, nI_1], h2⟩)
    (fun mono num => by
      show f_Po_addFourTimes_l3 a b c (nI 25) mono num = _
      unfold f_Po_addFourTimes_l3
      rw [if_pos ge25]) P mono num hp
  have h1 : zloop (fun q => f_Po_addFourTimes_l3 a b c q.1 q.2.1 q.2.2) zF ((0 : Int32), mono, num) = some (mo, nu) := h1
  rw [h1]
  exact ⟨mo, nu, rfl, h2⟩
end
section
/-! what comes to the polynomial: the reference's additions -/
def EffR (f : (Nat → Int32) → Option (Nat → Int32)) (e : Int32 → BitVec 3) : Prop := ∀ P num, PR P num → ∃ num', f num = some num' ∧ PR (fun m => P m + e m) num'
theorem PR_0 {P : Int32 → BitVec 3} {num : Nat → Int32} (hp : PR P num) : PR (fun m => P m + 0) num := PR_ext (fun m _ => by rw [bz]) hp
theorem effR_add {x : Int32} (hx : lo24 x) (n : Int32) : EffR (f_Md_add x n) (ct x n) := fun P num hp => by
  obtain ⟨num', h1, h2⟩ := addR hp hx n
  exact ⟨num', h1, by rw [addP_eq] at h2; exact h2⟩
theorem effR_loop {step : Int32 × (Nat → Int32) → Option ((Int32 × (Nat → Int32)) ⊕ (Nat → Int32))} (N : Nat) (hN : N < 100000) (e : Nat → Int32 → BitVec 3)
    (hs : ∀ i, i < N → ∀ P num, PR P num → ∃ num', step (nI i, num) = some (.inl (nI (i + 1), num')) ∧ PR (fun m => P m + e i m) num')
    (he : ∀ num, step (nI N, num) = some (.inr num)) : EffR (fun num => zloop step zF (0, num)) (fun m => sm (fun i => e i m) N) := by
  intro P num hp
  obtain ⟨r, h1, h2⟩ := zloop_rel (step := step) (I := fun i s => ∃ num, s = (nI i, num) ∧ PR (fun m => P m + sm (fun i => e i m) i) num) (K := fun r => PR (fun m => P m + sm (fun i => e i m) N) r) N 0 (s0 := (0, num)) hN (Nat.zero_le _)
    ⟨num, by rw [nI_0], PR_ext (fun m _ => by show P m = P m + 0; rw [bz]) hp⟩
    (fun i s hi hI => by
      obtain ⟨nu, rfl, h⟩ := hI
      obtain ⟨nu', h1, h2⟩ := hs i hi _ nu h
      exact ⟨_, h1, nu', rfl, PR_ext (fun m _ => by show P m + sm (fun i => e i m) i + e i m = P m + (sm (fun i => e i m) i + e i m); rw [BitVec.add_assoc]) h2⟩)
    (fun s hI => by
      obtain ⟨nu, rfl, h⟩ := hI
      exact ⟨_, he nu, h⟩)
  exact ⟨r, h1, h2⟩
theorem sh_t {x : Int32} {k : Nat} (hk : k < 32) (h : bt x k = true) : (x >>> (nI k &&& 31)) &&& 1 = 1 := by rw [sh1 x hk, h]; rfl
theorem sh_f {x : Int32} {k : Nat} (hk : k < 32) (h : bt x k = false) : (x >>> (nI k &&& 31)) &&& 1 = 0 := by rw [sh1 x hk, h]; rfl
def rK (x by_ fa : Int32) (j : Nat) (m : Int32) : BitVec 3 := sm (fun k => if bt x k then ct (fa ||| sb k) (4 * by_) m else 0) j
def rJ (x by_ fa : Int32) (i : Nat) (m : Int32) : BitVec 3 := sm (fun j => if bt x j then ct (fa ||| sb j) (-2 * by_) m + rK x by_ (fa ||| sb j) j m else 0) i
def rI (x by_ fa : Int32) (m : Int32) : BitVec 3 := sm (fun i => if bt x i then ct (fa ||| sb i) by_ m + rJ x by_ (fa ||| sb i) i m else 0) 24
theorem or1 {i j : Nat} (hi : i < 24) (hj : j < 24) {fa : Int32} (hf : lo24 fa) (x by_ : Int32) : EffR (fun num => zloop (fun q => f_Md_addOr_l106 x fa by_ (nI i) (nI j) q.1 q.2) zF (0, num)) (rK x by_ (fa ||| sb i ||| sb j) j) :=
  effR_loop (step := fun q => f_Md_addOr_l106 x fa by_ (nI i) (nI j) q.1 q.2) j (by omega) (fun k m => if bt x k then ct (fa ||| sb i ||| sb j ||| sb k) (4 * by_) m else 0)
    (fun k hk P num hp => by
      show ∃ num', f_Md_addOr_l106 x fa by_ (nI i) (nI j) (nI k) num = _ ∧ _
      unfold f_Md_addOr_l106
      rw [if_neg (nI_ge hk (by omega)), sbe i, sbe j, sbe k]
      cases hb : bt x k
      · rw [sh_f (by omega) hb, if_neg (by decide)]
        exact ⟨num, by simp only [zlet, nI_1], PR_0 hp⟩
      · rw [sh_t (by omega) hb, if_pos rfl]
        obtain ⟨nu, h1, h2⟩ := effR_add (lo24_or (lo24_or (lo24_or hf (lo24_sb hi)) (lo24_sb hj)) (lo24_sb (i := k) (by omega))) (4 * by_) P num hp
        rw [h1]
        exact ⟨nu, by simp only [zlet, zb1, nI_1], h2⟩)
    (fun num => by
      show f_Md_addOr_l106 x fa by_ (nI i) (nI j) (nI j) num = _
      unfold f_Md_addOr_l106
      rw [if_pos (nI_le (Nat.le_refl j) (by omega))])
theorem or2 {i : Nat} (hi : i < 24) {fa : Int32} (hf : lo24 fa) (x by_ : Int32) : EffR (fun num => zloop (fun q => f_Md_addOr_l63 x fa by_ (nI i) q.1 q.2) zF (0, num)) (rJ x by_ (fa ||| sb i) i) :=
  effR_loop (step := fun q => f_Md_addOr_l63 x fa by_ (nI i) q.1 q.2) i (by omega) (fun j m => if bt x j then ct (fa ||| sb i ||| sb j) (-2 * by_) m + rK x by_ (fa ||| sb i ||| sb j) j m else 0)
    (fun k hk P num hp => by
      show ∃ num', f_Md_addOr_l63 x fa by_ (nI i) (nI k) num = _ ∧ _
      unfold f_Md_addOr_l63
      rw [if_neg (nI_ge hk (by omega)), sbe i, sbe k]
      cases hb : bt x k
      · rw [sh_f (by omega) hb, if_pos rfl]
        exact ⟨num, by simp only [zlet, nI_1], PR_0 hp⟩
      · rw [sh_t (by omega) hb, if_neg (by decide)]
        obtain ⟨nu, h1, h2⟩ := effR_add (lo24_or (lo24_or hf (lo24_sb hi)) (lo24_sb (i := k) (by omega))) (-2 * by_) P num hp
        rw [h1]
        obtain ⟨nu2, h3, h4⟩ := or1 hi (j := k) (by omega) hf x by_ _ nu h2
        have h3 : zloop (fun q => f_Md_addOr_l106 x fa by_ (nI i) (nI k) q.1 q.2) zF ((0 : Int32), nu) = some nu2 := h3
        simp only [zb1]
        rw [h3]
        exact ⟨nu2, by simp only [zlet, nI_1], PR_ext (fun m _ => by simp [BitVec.add_assoc]) h4⟩)
    (fun num => by
      show f_Md_addOr_l63 x fa by_ (nI i) (nI i) num = _
      unfold f_Md_addOr_l63
      rw [if_pos (nI_le (Nat.le_refl i) (by omega))])
theorem or3 {fa : Int32} (hf : lo24 fa) (x by_ : Int32) : EffR (f_Md_addOr_j25 x fa by_) (rI x by_ fa) := by
  intro P num hp
  unfold f_Md_addOr_j25
  obtain ⟨nu, h1, h2⟩ := effR_loop (step := fun q => f_Md_addOr_l28 x fa by_ q.1 q.2) 24 (by omega) (fun i m => if bt x i then ct (fa ||| sb i) by_ m + rJ x by_ (fa ||| sb i) i m else 0)
    (fun k hk P num hp => by
      show ∃ num', f_Md_addOr_l28 x fa by_ (nI k) num = _ ∧ _
      unfold f_Md_addOr_l28
      rw [if_neg (lt24 hk), sbe k]
      cases hb : bt x k
      · rw [sh_f (by omega) hb, if_pos rfl]
        exact ⟨num, by simp only [zlet, nI_1], PR_0 hp⟩
      · rw [sh_t (by omega) hb, if_neg (by decide)]
        obtain ⟨nu, h1, h2⟩ := effR_add (lo24_or hf (lo24_sb hk)) by_ P num hp
        rw [h1]
        obtain ⟨nu2, h3, h4⟩ := or2 hk hf x by_ _ nu h2
        have h3 : zloop (fun q => f_Md_addOr_l63 x fa by_ (nI k) q.1 q.2) zF ((0 : Int32), nu) = some nu2 := h3
        simp only [zb1]
        rw [h3]
        exact ⟨nu2, by simp only [zlet, nI_1], PR_ext (fun m _ => by simp [BitVec.add_assoc]) h4⟩)
    (fun num => by
      show f_Md_addOr_l28 x fa by_ (nI 24) num = _
      unfold f_Md_addOr_l28
      rw [if_pos ge24]) P num hp
  have h1 : zloop (fun q => f_Md_addOr_l28 x fa by_ q.1 q.2) zF ((0 : Int32), num) = some nu := h1
  rw [h1]
  exact ⟨nu, rfl, h2⟩
/-- what addOr(x, c, n, fa) adds -/
def eOr (x c n fa : Int32) (m : Int32) : BitVec 3 := if c = 1 then ct fa n m + rI x (-n) fa m else rI x n fa m
theorem orR {fa : Int32} (hf : lo24 fa) (x c n : Int32) : EffR (f_Md_addOr x c n fa) (eOr x c n fa) := by
  intro P num hp
  unfold f_Md_addOr f_Md_addOr_j11
  by_cases hc : c = 1
  · rw [if_pos hc, if_pos hc]
    obtain ⟨nu, h1, h2⟩ := effR_add hf n P num hp
    rw [h1]
    obtain ⟨nu2, h3, h4⟩ := or3 hf x (-n) _ nu h2
    exact ⟨nu2, h3, PR_ext (fun m _ => by simp [eOr, hc, BitVec.add_assoc]) h4⟩
  · rw [if_neg hc, if_neg hc]
    obtain ⟨nu2, h3, h4⟩ := or3 hf x n _ num hp
    exact ⟨nu2, h3, PR_ext (fun m _ => by simp [eOr, hc]) h4⟩
/-- what addHalf adds, of a wire with the set s and the constant c -/
def eH (s c fa : Int32) (m : Int32) : BitVec 3 := (if c = 1 then ct fa 4 m else 0) + sm (fun i => if bt s i then ct (fa ||| sb i) 4 m else 0) 24
theorem halfR {w : Nat} (hw : w < 6) {fa : Int32} (hf : lo24 fa) (cs st : Nat → Int32) : EffR (fun num => f_Md_addHalf (nI w) fa cs num st) (eH (st w) (cs w) fa) := by
  have hj : EffR (fun num => f_Md_addHalf_j16 (nI w) fa cs num st) (fun m => sm (fun i => if bt (st w) i then ct (fa ||| sb i) 4 m else 0) 24) := by
    intro P num hp
    show ∃ num', f_Md_addHalf_j16 (nI w) fa cs num st = _ ∧ _
    unfold f_Md_addHalf_j16
    obtain ⟨nu, h1, h2⟩ := effR_loop (step := fun q => f_Md_addHalf_l18 (nI w) fa cs st q.1 q.2) 24 (by omega) (fun i m => if bt (st w) i then ct (fa ||| sb i) 4 m else 0)
      (fun k hk P num hp => by
        show ∃ num', f_Md_addHalf_l18 (nI w) fa cs st (nI k) num = _ ∧ _
        unfold f_Md_addHalf_l18
        rw [if_neg (lt24 hk), sbe k, if_neg (in_nI hw (by omega)), clampI (by omega)]
        cases hb : bt (st w) k
        · rw [sh_f (by omega) hb, if_neg (by decide)]
          exact ⟨num, by simp only [zlet, nI_1], PR_0 hp⟩
        · rw [sh_t (by omega) hb, if_pos rfl]
          obtain ⟨nu, h1, h2⟩ := effR_add (lo24_or hf (lo24_sb hk)) 4 P num hp
          rw [h1]
          exact ⟨nu, by simp only [zlet, zb1, nI_1], h2⟩)
      (fun num => by
        show f_Md_addHalf_l18 (nI w) fa cs st (nI 24) num = _
        unfold f_Md_addHalf_l18
        rw [if_pos ge24]) P num hp
    have h1 : zloop (fun q => f_Md_addHalf_l18 (nI w) fa cs st q.1 q.2) zF ((0 : Int32), num) = some nu := h1
    rw [h1]
    exact ⟨nu, rfl, h2⟩
  intro P num hp
  show ∃ num', f_Md_addHalf (nI w) fa cs num st = _ ∧ _
  unfold f_Md_addHalf
  rw [if_neg (in_nI hw (by omega)), clampI (by omega)]
  by_cases hc : cs w = 1
  · rw [if_pos hc]
    obtain ⟨nu, h1, h2⟩ := effR_add hf 4 P num hp
    rw [h1]
    obtain ⟨nu2, h3, h4⟩ := hj _ nu h2
    exact ⟨nu2, h3, PR_ext (fun m _ => by simp [eH, hc, BitVec.add_assoc]) h4⟩
  · rw [if_neg hc]
    obtain ⟨nu2, h3, h4⟩ := hj _ num hp
    exact ⟨nu2, h3, PR_ext (fun m _ => by simp [eH, hc]) h4⟩
def eW (s c s2 c2 fa : Int32) (m : Int32) : BitVec 3 := (if c = 1 then eH s2 c2 fa m else 0) + sm (fun i => if bt s i then eH s2 c2 (fa ||| sb i) m else 0) 24
theorem twoR {v w : Nat} (hv : v < 6) (hw : w < 6) {fa : Int32} (hf : lo24 fa) (cs st : Nat → Int32) : EffR (fun num => f_Md_addTwo (nI v) (nI w) fa cs num st) (eW (st v) (cs v) (st w) (cs w) fa) := by
  have hj : EffR (fun num => f_Md_addTwo_j16 (nI v) (nI w) fa cs num st) (fun m => sm (fun i => if bt (st v) i then eH (st w) (cs w) (fa ||| sb i) m else 0) 24) := by
    intro P num hp
    show ∃ num', f_Md_addTwo_j16 (nI v) (nI w) fa cs num st = _ ∧ _
    unfold f_Md_addTwo_j16
    obtain ⟨nu, h1, h2⟩ := effR_loop (step := fun q => f_Md_addTwo_l19 (nI v) (nI w) fa cs st q.1 q.2) 24 (by omega) (fun i m => if bt (st v) i then eH (st w) (cs w) (fa ||| sb i) m else 0)
      (fun k hk P num hp => by
        show ∃ num', f_Md_addTwo_l19 (nI v) (nI w) fa cs st (nI k) num = _ ∧ _
        unfold f_Md_addTwo_l19
        rw [if_neg (lt24 hk), sbe k, if_neg (in_nI hv (by omega)), clampI (by omega)]
        cases hb : bt (st v) k
        · rw [sh_f (by omega) hb, if_neg (by decide)]
          exact ⟨num, by simp only [zlet, nI_1], PR_0 hp⟩
        · rw [sh_t (by omega) hb, if_pos rfl]
          obtain ⟨nu, h1, h2⟩ := halfR hw (lo24_or hf (lo24_sb hk)) cs st P num hp
          have h1 : f_Md_addHalf (nI w) (fa ||| sb k) cs num st = some nu := h1
          rw [h1]
          exact ⟨nu, by simp only [zlet, zb1, nI_1], h2⟩)
      (fun num => by
        show f_Md_addTwo_l19 (nI v) (nI w) fa cs st (nI 24) num = _
        unfold f_Md_addTwo_l19
        rw [if_pos ge24]) P num hp
    have h1 : zloop (fun q => f_Md_addTwo_l19 (nI v) (nI w) fa cs st q.1 q.2) zF ((0 : Int32), num) = some nu := h1
    rw [h1]
    exact ⟨nu, rfl, h2⟩
  intro P num hp
  show ∃ num', f_Md_addTwo (nI v) (nI w) fa cs num st = _ ∧ _
  unfold f_Md_addTwo
  rw [if_neg (in_nI hv (by omega)), clampI (by omega)]
  by_cases hc : cs v = 1
  · rw [if_pos hc]
    obtain ⟨nu, h1, h2⟩ := halfR hw hf cs st P num hp
    have h1 : f_Md_addHalf (nI w) fa cs num st = some nu := h1
    rw [h1]
    obtain ⟨nu2, h3, h4⟩ := hj _ nu h2
    exact ⟨nu2, h3, PR_ext (fun m _ => by simp [eW, hc, BitVec.add_assoc]) h4⟩
  · rw [if_neg hc]
    obtain ⟨nu2, h3, h4⟩ := hj _ num hp
    exact ⟨nu2, h3, PR_ext (fun m _ => by simp [eW, hc]) h4⟩
def eU (s c s2 c2 s3 c3 : Int32) (m : Int32) : BitVec 3 := (if c = 1 then eW s2 c2 s3 c3 0 m else 0) + sm (fun i => if bt s i then eW s2 c2 s3 c3 (sb i) m else 0) 24
theorem threeR {u v w : Nat} (hu : u < 6) (hv : v < 6) (hw : w < 6) (cs st : Nat → Int32) : EffR (fun num => f_Md_addThree (nI u) (nI v) (nI w) cs num st) (eU (st u) (cs u) (st v) (cs v) (st w) (cs w)) := by
  have hj : EffR (fun num => f_Md_addThree_j17 (nI u) (nI v) (nI w) cs num st) (fun m => sm (fun i => if bt (st u) i then eW (st v) (cs v) (st w) (cs w) (sb i) m else 0) 24) := by
    intro P num hp
    show ∃ num', f_Md_addThree_j17 (nI u) (nI v) (nI w) cs num st = _ ∧ _
    unfold f_Md_addThree_j17
    obtain ⟨nu, h1, h2⟩ := effR_loop (step := fun q => f_Md_addThree_l20 (nI u) (nI v) (nI w) cs st q.1 q.2) 24 (by omega) (fun i m => if bt (st u) i then eW (st v) (cs v) (st w) (cs w) (sb i) m else 0)
      (fun k hk P num hp => by
        show ∃ num', f_Md_addThree_l20 (nI u) (nI v) (nI w) cs st (nI k) num = _ ∧ _
        unfold f_Md_addThree_l20
        rw [if_neg (lt24 hk), sbe k, if_neg (in_nI hu (by omega)), clampI (by omega)]
        cases hb : bt (st u) k
        · rw [sh_f (by omega) hb, if_neg (by decide)]
          exact ⟨num, by simp only [zlet, nI_1], PR_0 hp⟩
        · rw [sh_t (by omega) hb, if_pos rfl]
          obtain ⟨nu, h1, h2⟩ := twoR hv hw (lo24_sb hk) cs st P num hp
          have h1 : f_Md_addTwo (nI v) (nI w) (sb k) cs num st = some nu := h1
          rw [h1]
          exact ⟨nu, by simp only [zlet, zb1, nI_1], h2⟩)
      (fun num => by
        show f_Md_addThree_l20 (nI u) (nI v) (nI w) cs st (nI 24) num = _
        unfold f_Md_addThree_l20
        rw [if_pos ge24]) P num hp
    have h1 : zloop (fun q => f_Md_addThree_l20 (nI u) (nI v) (nI w) cs st q.1 q.2) zF ((0 : Int32), num) = some nu := h1
    rw [h1]
    exact ⟨nu, rfl, h2⟩
  intro P num hp
  show ∃ num', f_Md_addThree (nI u) (nI v) (nI w) cs num st = _ ∧ _
  unfold f_Md_addThree
  rw [if_neg (in_nI hu (by omega)), clampI (by omega)]
  by_cases hc : cs u = 1
  · rw [if_pos hc]
    obtain ⟨nu, h1, h2⟩ := twoR hv hw lo24_0 cs st P num hp
    have h1 : f_Md_addTwo (nI v) (nI w) 0 cs num st = some nu := h1
    rw [h1]
    obtain ⟨nu2, h3, h4⟩ := hj _ nu h2
    exact ⟨nu2, h3, PR_ext (fun m _ => by simp [eU, hc, BitVec.add_assoc]) h4⟩
  · rw [if_neg hc]
    obtain ⟨nu2, h3, h4⟩ := hj _ num hp
    exact ⟨nu2, h3, PR_ext (fun m _ => by simp [eU, hc]) h4⟩
end
section
/-! the class's additions are the reference's -/
theorem add_eq {a b c d : BitVec 3} (h1 : a = c) (h2 : b = d) : a + b = c + d := by rw [h1, h2]
theorem pi3_mul (a b : Int32) : pi3 (a * b) = pi3 a * pi3 b := by
  unfold pi3
  apply BitVec.eq_of_toNat_eq
  rw [Int32.toBitVec_mul, BitVec.toNat_setWidth, BitVec.toNat_mul, BitVec.toNat_mul, BitVec.toNat_setWidth, BitVec.toNat_setWidth]
  rw [Nat.mod_mod_of_dvd _ (show 2 ^ 3 ∣ 2 ^ 32 by decide), Nat.mul_mod]
theorem pi3_and (a b : Int32) : pi3 (a &&& b) = pi3 a &&& pi3 b := by
  unfold pi3
  rw [Int32.toBitVec_and, BitVec.setWidth_and]
theorem pi3_bit0 (a : Int32) : (pi3 a).getLsbD 0 = bt a 0 := by
  unfold pi3 bt
  rw [BitVec.getLsbD_setWidth]
  simp
theorem pi3_m2 {sg : Int32} (h : sg &&& 3 = 0) : pi3 (-2 * sg) = 0 := by
  rw [pi3_mul]
  have h1 : pi3 sg &&& pi3 3 = 0 := by rw [← pi3_and, h]; decide
  generalize pi3 sg = b at h1
  revert b
  decide
theorem pi3_4e {sg : Int32} (h : bt sg 0 = false) : pi3 (4 * sg) = 0 := by
  rw [pi3_mul]
  rw [← pi3_bit0] at h
  generalize pi3 sg = b at h
  revert b
  decide
theorem pi3_4o {sg : Int32} (h : bt sg 0 = true) : pi3 (4 * sg) = pi3 4 := by
  rw [pi3_mul]
  rw [← pi3_bit0] at h
  generalize pi3 sg = b at h
  revert b
  decide
theorem bit0_of_and3 {sg : Int32} (h : sg &&& 3 = 0) : bt sg 0 = false := by
  have h1 : bt (sg &&& 3) 0 = false := by rw [h, b_0]
  rw [b_and] at h1
  have h2 : bt 3 0 = true := by decide
  rw [h2] at h1
  simpa using h1
theorem ct_0 {x n m : Int32} (h : pi3 n = 0) : ct x n m = 0 := by
  unfold ct
  rw [h]
  split <;> rfl
theorem ct_c {x n n' m : Int32} (h : pi3 n = pi3 n') : ct x n m = ct x n' m := by
  unfold ct
  rw [h]
/-- the class's value of a wire: the set and the constant -/
def Rv (V s c : Int32) : Prop := (∀ k, k < 24 → bt V k = bt s k) ∧ (bt V 24 = true ↔ c = 1)
theorem rK_e {s sg fa m : Int32} (h : bt sg 0 = false) (j : Nat) : rK s sg fa j m = 0 := by
  unfold rK
  refine sm_zero j (fun k _ => ?_)
  split
  · exact ct_0 (pi3_4e h)
  · rfl
theorem rJ_0 {s sg fa m : Int32} (h : sg &&& 3 = 0) (i : Nat) : rJ s sg fa i m = 0 := by
  unfold rJ
  refine sm_zero i (fun k _ => ?_)
  split
  · rw [ct_0 (pi3_m2 h), rK_e (bit0_of_and3 h), bz]
  · rfl
theorem ePa_rJ {V s c sg fa m : Int32} (hv : Rv V s c) {i : Nat} (hi : i ≤ 24) : ePa V sg fa i m = rJ s sg fa i m := by
  unfold ePa rJ
  refine sm_congr i (fun j hj => ?_)
  rw [hv.1 j (by omega)]
  cases hb : bt s j
  · rfl
  · simp only [if_true]
    refine add_eq rfl ?_
    cases ho : bt sg 0
    · rw [rK_e ho]
      rfl
    · simp only [if_true]
      unfold eTr rK
      refine sm_congr j (fun k hk => ?_)
      rw [hv.1 k (by omega), ct_c (pi3_4o ho)]
theorem eXj_rI {V s c sg fa m : Int32} (hv : Rv V s c) : eXj V sg fa m = rI s sg fa m := by
  unfold eXj rI
  refine sm_congr 24 (fun i hi => ?_)
  rw [hv.1 i hi]
  cases hb : bt s i
  · rfl
  · simp only [if_true]
    refine add_eq rfl ?_
    by_cases h3 : sg &&& 3 = 0
    · rw [if_pos h3, rJ_0 h3]
    · rw [if_neg h3, ePa_rJ hv (by omega)]
theorem eXo_eOr {V s c : Int32} (hv : Rv V s c) (n fa m : Int32) : eXo n V fa m = eOr s c n fa m := by
  unfold eXo eOr
  by_cases hc : c = 1
  · rw [if_pos hc, if_pos (hv.2.mpr hc), eXj_rI hv]
  · rw [if_neg hc, if_neg (fun q => hc (hv.2.mp q)), eXj_rI hv]
theorem or0 (x : Int32) : x ||| 0 = x := by
  apply b_ext; intro i _; rw [b_or, b_0]; simp
theorem zor (x : Int32) : 0 ||| x = x := by
  apply b_ext; intro i _; rw [b_or, b_0]; simp
theorem mk_lt {i : Nat} (h : i < 24) : mk i = sb i := if_pos h
theorem mk_24 : mk 24 = 0 := rfl
theorem sm_last (f : Nat → BitVec 3) (n : Nat) : sm f (n + 1) = sm f n + f n := rfl
theorem e4k_eH {V s c : Int32} (hv : Rv V s c) (fa m : Int32) : e4k V fa m = eH s c fa m := by
  unfold e4k eH
  rw [sm_last, mk_24, or0, BitVec.add_comm]
  refine add_eq ?_ ?_
  · by_cases hc : c = 1
    · rw [if_pos hc, if_pos (hv.2.mpr hc)]
    · rw [if_neg hc, if_neg (fun q => hc (hv.2.mp q))]
  · refine sm_congr 24 (fun k hk => ?_)
    rw [hv.1 k hk, mk_lt hk]
theorem e4j_eW {V s c V2 s2 c2 : Int32} (hv : Rv V s c) (hv2 : Rv V2 s2 c2) (fa m : Int32) : e4j V V2 fa m = eW s c s2 c2 fa m := by
  unfold e4j eW
  rw [sm_last, mk_24, or0, BitVec.add_comm]
  refine add_eq ?_ ?_
  · by_cases hc : c = 1
    · rw [if_pos hc, if_pos (hv.2.mpr hc), e4k_eH hv2]
    · rw [if_neg hc, if_neg (fun q => hc (hv.2.mp q))]
  · refine sm_congr 24 (fun k hk => ?_)
    rw [hv.1 k hk, mk_lt hk, e4k_eH hv2]
theorem e4_eU {V s c V2 s2 c2 V3 s3 c3 : Int32} (hv : Rv V s c) (hv2 : Rv V2 s2 c2) (hv3 : Rv V3 s3 c3) (m : Int32) : e4 V V2 V3 m = eU s c s2 c2 s3 c3 m := by
  unfold e4 eU
  rw [sm_last, mk_24, BitVec.add_comm]
  refine add_eq ?_ ?_
  · by_cases hc : c = 1
    · rw [if_pos hc, if_pos (hv.2.mpr hc), e4j_eW hv2 hv3]
    · rw [if_neg hc, if_neg (fun q => hc (hv.2.mp q))]
  · refine sm_congr 24 (fun k hk => ?_)
    rw [hv.1 k hk, mk_lt hk, e4j_eW hv2 hv3]
theorem bt_one : ∀ i, i < 32 → bt 16777216 i = decide (i = 24) := by decide +kernel
theorem e4k_one (fa m : Int32) : e4k 16777216 fa m = ct fa 4 m := by
  unfold e4k
  rw [sm_last, mk_24, or0, sm_zero 24 (fun k hk => by rw [bt_one k (by omega)]; rw [if_neg]; simp; omega), zb, bt_one 24 (by omega)]
  rfl
theorem e4j_one {V s c : Int32} (hv : Rv V s c) (fa m : Int32) : e4j V 16777216 fa m = eH s c fa m := by
  rw [← e4k_eH hv]
  show sm (fun j => if bt V j then e4k 16777216 (fa ||| mk j) m else 0) 25 = sm (fun k => if bt V k then ct (fa ||| mk k) 4 m else 0) 25
  refine sm_congr 25 (fun k hk => ?_)
  rw [e4k_one]
theorem e4_eW {V s c V2 s2 c2 : Int32} (hv : Rv V s c) (hv2 : Rv V2 s2 c2) (m : Int32) : e4 V V2 16777216 m = eW s c s2 c2 0 m := by
  unfold e4 eW
  rw [sm_last, mk_24, BitVec.add_comm]
  refine add_eq ?_ ?_
  · by_cases hc : c = 1
    · rw [if_pos hc, if_pos (hv.2.mpr hc), e4j_one hv2]
    · rw [if_neg hc, if_neg (fun q => hc (hv.2.mp q))]
  · refine sm_congr 24 (fun k hk => ?_)
    rw [hv.1 k hk, mk_lt hk, e4j_one hv2, zor]
theorem sm_one {f : Nat → BitVec 3} {j : Nat} : ∀ n, j < n → (∀ i, i < n → i ≠ j → f i = 0) → sm f n = f j
  | 0, h, _ => absurd h (Nat.not_lt_zero _)
  | n + 1, h, h2 => by
    rw [sm_last]
    by_cases e : j = n
    · subst e
      rw [sm_zero j (fun i hi => h2 i (by omega) (by omega)), zb]
    · rw [sm_one n (by omega) (fun i hi hn => h2 i (by omega) hn), h2 n (by omega) (fun q => e q.symm), bz]
theorem e4_bit {n : Nat} (hn : n < 24) {V s c : Int32} (hv : Rv V s c) (m : Int32) : e4 (sb n) V 16777216 m = eH s c (sb n) m := by
  unfold e4
  rw [sm_one (j := n) 25 (by omega) (fun i hi hne => by rw [bt_sb (by omega) (by omega), if_neg]; simp; omega), bt_sb (by omega) (by omega), mk_lt hn, e4j_one hv]
  simp
end
section
/-! what is added is linear in the number; sums over the masks with one bit -/
theorem sm_mul (a : BitVec 3) (f : Nat → BitVec 3) : ∀ n, sm (fun i => a * f i) n = a * sm f n
  | 0 => by show (0 : BitVec 3) = a * 0; exact (BitVec.mul_zero).symm
  | n + 1 => by rw [sm_last, sm_last, sm_mul a f n, BitVec.mul_add]
theorem ct_mul (x k n m : Int32) : ct x (k * n) m = pi3 n * ct x k m := by
  unfold ct
  by_cases h : m = x
  · rw [if_pos h, if_pos h, pi3_mul, BitVec.mul_comm]
  · rw [if_neg h, if_neg h]; exact (BitVec.mul_zero).symm
theorem i32_one_mul (n : Int32) : 1 * n = n := by
  apply Int32.toBitVec_inj.mp
  rw [Int32.toBitVec_mul]
  show 1#32 * n.toBitVec = n.toBitVec
  rw [BitVec.one_mul]
theorem i32_neg_mul (n : Int32) : (-1) * n = -n := by
  apply Int32.toBitVec_inj.mp
  rw [Int32.toBitVec_mul]
  show (-1#32) * n.toBitVec = -n.toBitVec
  rw [BitVec.neg_mul, BitVec.one_mul]
theorem ite_mul (a : BitVec 3) (b : Bool) (x : BitVec 3) : (if b = true then a * x else 0) = a * (if b = true then x else 0) := by
  cases b
  · exact (BitVec.mul_zero).symm
  · rfl
theorem rK_mul (x k n fa m : Int32) (j : Nat) : rK x (k * n) fa j m = pi3 n * rK x k fa j m := by
  unfold rK
  rw [← sm_mul]
  refine sm_congr j (fun i _ => ?_)
  rw [← ite_mul]
  have : 4 * (k * n) = (4 * k) * n := by
    apply Int32.toBitVec_inj.mp
    simp only [Int32.toBitVec_mul]
    rw [BitVec.mul_assoc]
  rw [this, ct_mul]
theorem rJ_mul (x k n fa m : Int32) (j : Nat) : rJ x (k * n) fa j m = pi3 n * rJ x k fa j m := by
  unfold rJ
  rw [← sm_mul]
  refine sm_congr j (fun i _ => ?_)
  rw [← ite_mul]
  have : -2 * (k * n) = (-2 * k) * n := by
    apply Int32.toBitVec_inj.mp
    simp only [Int32.toBitVec_mul]
    rw [BitVec.mul_assoc]
  rw [this, ct_mul, rK_mul, BitVec.mul_add]
theorem rI_mul (x k n fa m : Int32) : rI x (k * n) fa m = pi3 n * rI x k fa m := by
  unfold rI
  rw [← sm_mul]
  refine sm_congr 24 (fun i _ => ?_)
  rw [← ite_mul, ct_mul, rJ_mul, BitVec.mul_add]
theorem eOr_mul (x c n fa m : Int32) : eOr x c n fa m = pi3 n * eOr x c 1 fa m := by
  unfold eOr
  by_cases hc : c = 1
  · rw [if_pos hc, if_pos hc, BitVec.mul_add]
    refine add_eq ?_ ?_
    · rw [← ct_mul, i32_one_mul]
    · rw [← rI_mul, i32_neg_mul]
  · rw [if_neg hc, if_neg hc, ← rI_mul, i32_one_mul]
theorem pi3_toI (b : BitVec 3) : pi3 (toI b) = b := by
  unfold pi3 toI
  apply BitVec.eq_of_toNat_eq
  have := b.isLt
  rw [BitVec.toNat_setWidth]
  show (BitVec.ofNat 32 b.toNat).toNat % 2 ^ 3 = b.toNat
  rw [BitVec.toNat_ofNat]
  omega
/-- nothing comes to a mask with a bit that none of the parts has -/
theorem ct_no {x n m : Int32} {z : Nat} (hm : bt m z = true) (hx : bt x z = false) : ct x n m = 0 := by
  unfold ct
  rw [if_neg]
  intro q
  rw [q, hx] at hm
  cases hm
theorem or_no {x y : Int32} {z : Nat} (hx : bt x z = false) (hy : bt y z = false) : bt (x ||| y) z = false := by rw [b_or, hx, hy]; rfl
theorem sb_no {i z : Nat} (hi : i < 24) (hz : z < 24) {x : Int32} (hx : bt x i = true) (hxz : bt x z = false) : bt (sb i) z = false := by
  rw [bt_sb (by omega) (by omega)]
  simp only [decide_eq_false_iff_not]
  intro q
  subst q
  rw [hx] at hxz
  cases hxz
theorem rK_no {x k fa m : Int32} {z : Nat} (hz : z < 24) (hm : bt m z = true) (hx : bt x z = false) (hf : bt fa z = false) {j : Nat} (hj : j ≤ 24) : rK x k fa j m = 0 := by
  unfold rK
  refine sm_zero j (fun i hi => ?_)
  cases hb : bt x i
  · rfl
  · exact ct_no hm (or_no hf (sb_no (by omega) hz hb hx))
theorem rJ_no {x k fa m : Int32} {z : Nat} (hz : z < 24) (hm : bt m z = true) (hx : bt x z = false) (hf : bt fa z = false) {j : Nat} (hj : j ≤ 24) : rJ x k fa j m = 0 := by
  unfold rJ
  refine sm_zero j (fun i hi => ?_)
  cases hb : bt x i
  · rfl
  · have h := or_no hf (sb_no (i := i) (by omega) hz hb hx)
    simp only [if_true]
    rw [ct_no hm h, rK_no hz hm hx h (by omega), bz]
theorem rI_no {x k fa m : Int32} {z : Nat} (hz : z < 24) (hm : bt m z = true) (hx : bt x z = false) (hf : bt fa z = false) : rI x k fa m = 0 := by
  unfold rI
  refine sm_zero 24 (fun i hi => ?_)
  cases hb : bt x i
  · rfl
  · have h := or_no hf (sb_no (i := i) (by omega) hz hb hx)
    simp only [if_true]
    rw [ct_no hm h, rJ_no hz hm hx h (by omega), bz]
theorem eOr_no {x c n fa m : Int32} {z : Nat} (hz : z < 24) (hm : bt m z = true) (hx : bt x z = false) (hf : bt fa z = false) : eOr x c n fa m = 0 := by
  unfold eOr
  rw [ct_no hm hf, rI_no hz hm hx hf, rI_no hz hm hx hf]
  split <;> rfl
/-- the mask of z, a, b -/
def Sz (z a b : Nat) : Int32 := sb z ||| sb a ||| sb b
theorem bt_Sz {z a b k : Nat} (hz : z < 24) (ha : a < 24) (hb : b < 24) (hk : k < 32) : bt (Sz z a b) k = true ↔ k = z ∨ k = a ∨ k = b := by
  unfold Sz
  rw [b_or, b_or, bt_sb (by omega) hk, bt_sb (by omega) hk, bt_sb (by omega) hk]
  simp only [Bool.or_eq_true, decide_eq_true_eq]
  omega
theorem lo24_Sz {z a b : Nat} (hz : z < 24) (ha : a < 24) (hb : b < 24) : lo24 (Sz z a b) := lo24_or (lo24_or (lo24_sb hz) (lo24_sb ha)) (lo24_sb hb)
theorem Sz_all {z a b : Nat} (hz : z < 24) (ha : a < 24) (hb : b < 24) : Sz z a b ∈ ALLC := by
  refine all_of_few (lo24_Sz hz ha hb) ?_
  apply Classical.byContradiction
  intro h
  obtain ⟨p, q, r, s, h1, h2, h3, h4, b1, b2, b3, b4⟩ := four_of_many h
  have c1 := (bt_Sz hz ha hb (by omega)).mp b1
  have c2 := (bt_Sz hz ha hb (by omega)).mp b2
  have c3 := (bt_Sz hz ha hb (by omega)).mp b3
  have c4 := (bt_Sz hz ha hb (by omega)).mp b4
  omega
theorem Sz_eq {z a b a' b' : Nat} (hz : z < 24) (ha : a < 24) (hb : b < 24) (ha' : a' < 24) (hb' : b' < 24) (h : Sz z a b = Sz z a' b') : (a = z ∨ a = a' ∨ a = b') ∧ (b = z ∨ b = a' ∨ b = b') ∧ (a' = z ∨ a' = a ∨ a' = b) ∧ (b' = z ∨ b' = a ∨ b' = b) := by
  refine ⟨?_, ?_, ?_, ?_⟩
  · exact (bt_Sz hz ha' hb' (by omega)).mp (by rw [← h]; exact (bt_Sz hz ha hb (by omega)).mpr (by omega))
  · exact (bt_Sz hz ha' hb' (by omega)).mp (by rw [← h]; exact (bt_Sz hz ha hb (by omega)).mpr (by omega))
  · exact (bt_Sz hz ha hb (by omega)).mp (by rw [h]; exact (bt_Sz hz ha' hb' (by omega)).mpr (by omega))
  · exact (bt_Sz hz ha hb (by omega)).mp (by rw [h]; exact (bt_Sz hz ha' hb' (by omega)).mpr (by omega))
theorem Sz_ext {z a b a' b' : Nat} (hz : z < 24) (ha : a < 24) (hb : b < 24) (ha' : a' < 24) (hb' : b' < 24) (h : ∀ k, (k = z ∨ k = a ∨ k = b) ↔ (k = z ∨ k = a' ∨ k = b')) : Sz z a b = Sz z a' b' := by
  apply b_ext
  intro k hk
  have h1 := bt_Sz hz ha hb hk
  have h2 := bt_Sz hz ha' hb' hk
  have h3 := h k
  cases e1 : bt (Sz z a b) k <;> cases e2 : bt (Sz z a' b') k <;> simp_all
/-- each mask with the bit z once -/
def isR (z b c : Nat) : Bool := if b = z then decide (c = z) else decide (c ≠ z)
/-- the sum over the masks with the bit z -/
def RS (z : Nat) (g : Int32 → BitVec 3) : BitVec 3 := sm (fun b => sm (fun c => if isR z b c = true then g (Sz z b c) else 0) (b + 1)) 24
theorem sm_upd {f f' : Nat → BitVec 3} {j : Nat} {d : BitVec 3} : ∀ n, j < n → (∀ i, i < n → i ≠ j → f' i = f i) → f' j = f j + d → sm f' n = sm f n + d
  | 0, h, _, _ => absurd h (Nat.not_lt_zero _)
  | n + 1, h, h1, h2 => by
    rw [sm_last, sm_last]
    by_cases e : j = n
    · subst e
      rw [sm_congr j (fun i hi => h1 i (by omega) (by omega)), h2, BitVec.add_assoc]
    · rw [sm_upd n (by omega) (fun i hi hn => h1 i (by omega) hn) h2, h1 n (by omega) (fun q => e q.symm), BitVec.add_assoc, BitVec.add_assoc, BitVec.add_comm d]
theorem RS_congr {z : Nat} {g g' : Int32 → BitVec 3} (h : ∀ b c, b < 24 → c ≤ b → g (Sz z b c) = g' (Sz z b c)) : RS z g = RS z g' := by
  unfold RS
  refine sm_congr 24 (fun b hb => sm_congr (b + 1) (fun c hc => ?_))
  rw [h b c hb (by omega)]
/-- the one place of a mask -/
theorem rep_of {z a b : Nat} (hz : z < 24) (ha : a < 24) (hb : b ≤ a) : ∃ p q, p < 24 ∧ q ≤ p ∧ isR z p q = true ∧ Sz z p q = Sz z a b := by
  by_cases e1 : a = z
  · by_cases e2 : b = z
    · exact ⟨z, z, hz, Nat.le_refl _, by simp [isR], by rw [e1, e2]⟩
    · exact ⟨b, b, by omega, Nat.le_refl _, by simp [isR, e2], Sz_ext hz (by omega) (by omega) ha (by omega) (fun k => by omega)⟩
  · by_cases e2 : b = z
    · exact ⟨a, a, ha, Nat.le_refl _, by simp [isR, e1], Sz_ext hz ha ha ha (by omega) (fun k => by omega)⟩
    · exact ⟨a, b, ha, hb, by simp [isR, e1, e2], rfl⟩
theorem rep_one {z p q p' q' : Nat} (hz : z < 24) (hp : p < 24) (hq : q ≤ p) (hi : isR z p q = true) (hp' : p' < 24) (hq' : q' ≤ p') (hi' : isR z p' q' = true) (h : Sz z p q = Sz z p' q') : p = p' ∧ q = q' := by
  have h1 := Sz_eq hz hp (by omega) hp' (by omega) h
  unfold isR at hi hi'
  by_cases e1 : p = z <;> by_cases e2 : p' = z <;> simp [e1, e2] at hi hi' <;> omega
theorem RS_upd {z a b : Nat} (hz : z < 24) (ha : a < 24) (hb : b ≤ a) {g g' : Int32 → BitVec 3} {d : BitVec 3} (h1 : ∀ p q, p < 24 → q ≤ p → Sz z p q ≠ Sz z a b → g' (Sz z p q) = g (Sz z p q)) (h2 : g' (Sz z a b) = g (Sz z a b) + d) : RS z g' = RS z g + d := by
  obtain ⟨p, q, hp, hq, hi, he⟩ := rep_of hz ha hb
  unfold RS
  refine sm_upd (j := p) 24 hp (fun b' hb' hne => sm_congr (b' + 1) (fun c hc => ?_)) ?_
  · cases hr : isR z b' c
    · rfl
    · simp only [if_true]
      refine h1 b' c hb' (by omega) (fun w => ?_)
      exact hne (rep_one hz hb' (by omega) hr hp hq hi (w.trans he.symm)).1
  · refine sm_upd (j := q) (p + 1) (by omega) (fun c hc hne => ?_) ?_
    · cases hr : isR z p c
      · rfl
      · simp only [if_true]
        refine h1 p c hp (by omega) (fun w => ?_)
        exact hne (rep_one hz hp (by omega) hr hp hq hi (w.trans he.symm)).2
    · rw [hi, he]
      exact h2
theorem RS_zero {z : Nat} {g : Int32 → BitVec 3} (h : ∀ b c, b < 24 → c ≤ b → g (Sz z b c) = 0) : RS z g = 0 := by
  unfold RS
  refine sm_zero 24 (fun b hb => sm_zero (b + 1) (fun c hc => ?_))
  rw [h b c hb (by omega)]
  split <;> rfl
/-- a mask of few bits with the bit z is one of those -/
theorem Sz_of {m : Int32} (hm : m ∈ ALLC) {z : Nat} (hz : z < 24) (hlo : lo24 m) (hb : bt m z = true) : ∃ a b, a < 24 ∧ b ≤ a ∧ m = Sz z a b := by
  have hlen := few_of_all m hm
  have hmem : ∀ i, i < 24 → (bt m i = true ↔ i ∈ bl m) := fun i hi => by rw [mem_bl]; simp [hi]
  have hlt : ∀ i ∈ bl m, i < 24 := fun i hi => (mem_bl.mp hi).1
  have hzl : z ∈ bl m := (hmem z hz).mp hb
  have key : ∀ a b, a < 24 → b ≤ a → (∀ k, k ∈ bl m ↔ k = z ∨ k = a ∨ k = b) → m = Sz z a b := by
    intro a b ha hba h
    apply b_ext
    intro k hk
    by_cases h24 : k < 24
    · have h1 := bt_Sz hz ha (show b < 24 by omega) hk
      have h2 := hmem k h24
      have h3 := h k
      cases e1 : bt m k <;> cases e2 : bt (Sz z a b) k <;> simp_all
    · rw [hlo k hk (by omega), lo24_Sz hz ha (by omega) k hk (by omega)]
  match hl : bl m with
  | [] => rw [hl] at hzl; cases hzl
  | [x] =>
    have hx := hlt x (by rw [hl]; simp)
    exact ⟨z, z, hz, Nat.le_refl _, key z z hz (Nat.le_refl _) (fun k => by rw [hl] at hzl ⊢; simp at hzl ⊢; omega)⟩
  | [x, y] =>
    have hx := hlt x (by rw [hl]; simp)
    have hy := hlt y (by rw [hl]; simp)
    rw [hl] at hzl
    simp at hzl
    rcases hzl with e | e
    · exact ⟨y, y, hy, Nat.le_refl _, key y y hy (Nat.le_refl _) (fun k => by rw [hl]; simp; omega)⟩
    · exact ⟨x, x, hx, Nat.le_refl _, key x x hx (Nat.le_refl _) (fun k => by rw [hl]; simp; omega)⟩
  | [x, y, w] =>
    have hs := bl_sorted m
    rw [hl] at hs
    simp at hs
    have hw := hlt w (by rw [hl]; simp)
    rw [hl] at hzl
    simp at hzl
    rcases hzl with e | e | e
    · exact ⟨w, y, hw, by omega, key w y hw (by omega) (fun k => by rw [hl]; simp; omega)⟩
    · exact ⟨w, x, hw, by omega, key w x hw (by omega) (fun k => by rw [hl]; simp; omega)⟩
    · exact ⟨y, x, by omega, by omega, key y x (by omega) (by omega) (fun k => by rw [hl]; simp; omega)⟩
  | x :: y :: w :: v :: r => rw [hl] at hlen; simp at hlen
end
section
/-! a bit is replaced: the class -/
theorem lo24_of_all {m : Int32} (h : m ∈ ALLC) : lo24 m := by
  have ht : ALLC.all (fun m => (List.range 8).all (fun i => !bt m (24 + i))) = true := by decide +kernel
  intro i hi h24
  have h1 := List.all_eq_true.mp (List.all_eq_true.mp ht m h) (i - 24) (List.mem_range.mpr (by omega))
  rw [show 24 + (i - 24) = i by omega] at h1
  simpa using h1
/-- a mask without the bit z -/
def wo (R : Int32) (z : Nat) : Int32 := R &&& (sb z ^^^ (-1))
theorem bt_wo (R : Int32) {z k : Nat} (hz : z < 24) (hk : k < 32) : bt (wo R z) k = (bt R k && decide (k ≠ z)) := by
  unfold wo
  rw [b_and, bt_not _ hk, bt_sb (by omega) hk]
  by_cases e : z = k
  · subst e; simp
  · simp [e, Ne.symm e]
theorem lo24_wo {R : Int32} (h : lo24 R) (z : Nat) : lo24 (wo R z) := lo24_and h _
theorem wo_no (R : Int32) {z : Nat} (hz : z < 24) : bt (wo R z) z = false := by rw [bt_wo R hz (by omega)]; simp
/-- the number of masks with the bit z, spread out -/
def LZ (z : Nat) (s c : Int32) (P : Int32 → BitVec 3) (m : Int32) : BitVec 3 := RS z (fun R => P R * eOr s c 1 (wo R z) m)
/-- the polynomial with the exclusive or of s and c in the place of z -/
def repP (P : Int32 → BitVec 3) (z : Nat) (s c : Int32) : Int32 → BitVec 3 := fun m => if bt m z = true then 0 else P m + LZ z s c P m
def qstep (z : Nat) (s c : Int32) (P : Int32 → BitVec 3) (S : Int32) : Int32 → BitVec 3 := fun m => (P m + ct S (-(toI (P S))) m) + eOr s c (toI (P S)) (wo S z) m
theorem pi3_neg (n : Int32) : pi3 (-n) = -(pi3 n) := by
  rw [← i32_neg_mul, pi3_mul]
  generalize pi3 n = b
  revert b
  decide
theorem qstep_S {z : Nat} (hz : z < 24) {s c : Int32} (hs : bt s z = false) (P : Int32 → BitVec 3) {S : Int32} (hS : bt S z = true) : qstep z s c P S S = 0 := by
  unfold qstep
  rw [eOr_no hz hS hs (wo_no S hz), bz]
  unfold ct
  rw [if_pos rfl, pi3_neg, pi3_toI]
  exact BitVec.add_right_neg _
theorem qstep_z {z : Nat} (hz : z < 24) {s c : Int32} (hs : bt s z = false) (P : Int32 → BitVec 3) (S : Int32) {m : Int32} (hm : bt m z = true) (hne : m ≠ S) : qstep z s c P S m = P m := by
  unfold qstep
  rw [eOr_no hz hm hs (wo_no S hz), bz]
  unfold ct
  rw [if_neg hne, bz]
/-- what stays the same: the polynomial and what would come of the masks with z -/
theorem qstep_T {z a b : Nat} (hz : z < 24) (ha : a < 24) (hb : b ≤ a) {s c : Int32} (hs : bt s z = false) (P : Int32 → BitVec 3) {m : Int32} (hm : bt m z = false) : qstep z s c P (Sz z a b) m + LZ z s c (qstep z s c P (Sz z a b)) m = P m + LZ z s c P m := by
  have hSz : ∀ p q, p < 24 → q ≤ p → bt (Sz z p q) z = true := fun p q hp hq => (bt_Sz hz hp (by omega) (by omega)).mpr (Or.inl rfl)
  have h1 : LZ z s c (qstep z s c P (Sz z a b)) m = LZ z s c P m + (-(P (Sz z a b) * eOr s c 1 (wo (Sz z a b) z) m)) := by
    unfold LZ
    refine RS_upd hz ha hb (fun p q hp hq hne => ?_) ?_
    · rw [qstep_z hz hs P _ (hSz p q hp hq) hne]
    · rw [qstep_S hz hs P (hSz a b ha hb)]
      rw [BitVec.add_right_neg]
      exact BitVec.zero_mul
  rw [h1]
  unfold qstep
  have h2 : ct (Sz z a b) (-(toI (P (Sz z a b)))) m = 0 := by
    unfold ct
    rw [if_neg]
    intro q
    rw [q, hSz a b ha hb] at hm
    cases hm
  rw [h2, bz, eOr_mul, pi3_toI]
  generalize P (Sz z a b) * eOr s c 1 (wo (Sz z a b) z) m = t
  rw [BitVec.add_assoc, ← BitVec.add_assoc t, BitVec.add_comm t, BitVec.add_assoc, BitVec.add_right_neg]
  show P m + (LZ z s c P m + 0) = _
  rw [bz]
theorem ltI {a b : Nat} (h : a ≤ b) (hb : b < 2 ^ 31) : ¬ nI b < nI a := nI_nlt h hb
theorem gtI {a b : Nat} (h : a < b) (hb : b < 2 ^ 31) : nI a < nI b := nI_lt h hb
/-- what holds between two steps of replaceBit: what is visited is 0, the whole is the same -/
def RI (P0 : Int32 → BitVec 3) (z : Nat) (s c : Int32) (vis : Nat → Nat → Prop) (P : Int32 → BitVec 3) : Prop := (∀ a b, a < 24 → b ≤ a → vis a b → P (Sz z a b) = 0) ∧ (∀ m, bt m z = false → P m + LZ z s c P m = P0 m + LZ z s c P0 m)
theorem RI_step {P0 P : Int32 → BitVec 3} {z i j : Nat} (hz : z < 24) (hi : i < 24) (hj : j ≤ i) {s c : Int32} (hs : bt s z = false) {vis vis' : Nat → Nat → Prop} (h : RI P0 z s c vis P) (hv : ∀ a b, vis' a b → vis a b ∨ (a = i ∧ b = j)) : RI P0 z s c vis' (qstep z s c P (Sz z i j)) := by
  refine ⟨fun a b ha hb hvis => ?_, fun m hm => ?_⟩
  · have hSz : ∀ p q, p < 24 → q ≤ p → bt (Sz z p q) z = true := fun p q hp hq => (bt_Sz hz hp (by omega) (by omega)).mpr (Or.inl rfl)
    by_cases e : Sz z a b = Sz z i j
    · rw [e]
      exact qstep_S hz hs P (hSz i j hi hj)
    · rw [qstep_z hz hs P _ (hSz a b ha hb) e]
      rcases hv a b hvis with h1 | ⟨rfl, rfl⟩
      · exact h.1 a b ha hb h1
      · exact absurd rfl e
  · rw [qstep_T hz hi hj hs P hm]
    exact h.2 m hm
theorem wo_sb (S : Int32) (z : Nat) : S &&& (((1 : Int32) <<< (nI z &&& 31)) ^^^ (-1)) = wo S z := rfl
/-- one step of replaceBit -/
theorem repl1 {P : Int32 → BitVec 3} {mono : Int32} {num : Nat → Int32} (hp : PC P mono num) {z i j : Nat} (hz : z < 24) (hi : i < 24) (hj : j ≤ i) {v s c : Int32} (hv : Rv v s c) (hs : bt s z = false) :
    ∃ mono' num', f_Po_replaceBit_l11 (nI z) v (nI i) (nI j) mono num = some (.inl (nI (j + 1), mono', num')) ∧ PC (qstep z s c P (Sz z i j)) mono' num' := by
  unfold f_Po_replaceBit_l11
  rw [if_neg (ltI hj (by omega))]
  simp only [zlet]
  have hS : Sz z i j ∈ ALLC := Sz_all hz hi (by omega)
  have hn := numC hp hS
  have e : ((1 : Int32) <<< (nI z &&& 31)) ||| ((1 : Int32) <<< (nI i &&& 31)) ||| ((1 : Int32) <<< (nI j &&& 31)) = Sz z i j := rfl
  rw [e, hn]
  simp only [zb1]
  have hlo := lo24_Sz hz hi (show j < 24 by omega)
  by_cases h0 : toI (P (Sz z i j)) = 0
  · rw [if_pos h0]
    refine ⟨mono, num, by rw [nI_1], PC_ext (fun m _ => ?_) hp⟩
    unfold qstep
    rw [h0, eOr_mul]
    have e1 : pi3 (0 : Int32) = 0 := by decide
    have e2 : pi3 (-(0 : Int32)) = 0 := by decide
    rw [ct_0 e2, e1, bz]
    show P m = P m + 0 * _
    rw [show (0 : BitVec 3) * eOr s c 1 (wo (Sz z i j) z) m = 0 from BitVec.zero_mul, bz]
  · rw [if_neg h0]
    obtain ⟨mo, nu, h1, h2⟩ := effC_add hlo (-(toI (P (Sz z i j)))) P mono num hp
    rw [h1]
    simp only [zb2]
    rw [wo_sb]
    obtain ⟨mo2, nu2, h3, h4⟩ := xorC (lo24_wo hlo z) (toI (P (Sz z i j))) v _ mo nu h2
    rw [h3]
    refine ⟨mo2, nu2, by rw [nI_1], PC_ext (fun m _ => ?_) h4⟩
    unfold qstep
    rw [eXo_eOr hv]
theorem repl2 {P0 P : Int32 → BitVec 3} {mono : Int32} {num : Nat → Int32} (hp : PC P mono num) {z i : Nat} (hz : z < 24) (hi : i < 24) {v s c : Int32} (hv : Rv v s c) (hs : bt s z = false) (h0 : RI P0 z s c (fun a _ => a < i) P) :
    ∃ mono' num' P', f_Po_replaceBit_l2 (nI z) v (nI i) mono num = some (.inl (nI (i + 1), mono', num')) ∧ PC P' mono' num' ∧ RI P0 z s c (fun a _ => a < i + 1) P' := by
  unfold f_Po_replaceBit_l2
  rw [if_neg (lt24 hi)]
  obtain ⟨r, h1, P', h2, h3⟩ := zloop_rel (step := fun q : Int32 × Int32 × (Nat → Int32) => f_Po_replaceBit_l11 (nI z) v (nI i) q.1 q.2.1 q.2.2)
    (I := fun j q => ∃ mo nu P, q = (nI j, mo, nu) ∧ PC P mo nu ∧ RI P0 z s c (fun a b => a < i ∨ (a = i ∧ b < j)) P)
    (K := fun r => ∃ P', PC P' r.1 r.2 ∧ RI P0 z s c (fun a b => a < i ∨ (a = i ∧ b < i + 1)) P') (i + 1) 0 (s0 := (0, mono, num)) (by omega) (by omega)
    ⟨mono, num, P, by rw [nI_0], hp, ⟨fun a b ha hb hv => h0.1 a b ha hb (by omega), h0.2⟩⟩
    (fun j q hj hI => by
      obtain ⟨mo, nu, P, rfl, hp, hr⟩ := hI
      obtain ⟨mo', nu', h1, h2⟩ := repl1 hp hz hi (show j ≤ i by omega) hv hs
      exact ⟨_, h1, mo', nu', _, rfl, h2, RI_step hz hi (by omega) hs hr (fun a b hab => by omega)⟩)
    (fun q hI => by
      obtain ⟨mo, nu, P, rfl, hp, hr⟩ := hI
      refine ⟨(mo, nu), ?_, P, hp, hr⟩
      show f_Po_replaceBit_l11 (nI z) v (nI i) (nI (i + 1)) mo nu = _
      unfold f_Po_replaceBit_l11
      rw [if_pos (gtI (by omega) (by omega))])
  have h1 : zloop (fun q => f_Po_replaceBit_l11 (nI z) v (nI i) q.1 q.2.1 q.2.2) zF ((0 : Int32), mono, num) = some r := h1
  rw [h1]
  exact ⟨r.1, r.2, P', by simp only [zb2, zlet, nI_1], h2, ⟨fun a b ha hb hv => h3.1 a b ha hb (by omega), h3.2⟩⟩
theorem replC {P : Int32 → BitVec 3} {mono : Int32} {num : Nat → Int32} (hp : PC P mono num) {z : Nat} (hz : z < 24) {v s c : Int32} (hv : Rv v s c) (hs : bt s z = false) :
    ∃ mono' num', f_Po_replaceBit (nI z) v mono num = some (mono', num') ∧ PC (repP P z s c) mono' num' := by
  unfold f_Po_replaceBit
  obtain ⟨r, h1, P', h2, h3⟩ := zloop_rel (step := fun q : Int32 × Int32 × (Nat → Int32) => f_Po_replaceBit_l2 (nI z) v q.1 q.2.1 q.2.2)
    (I := fun i q => ∃ mo nu P', q = (nI i, mo, nu) ∧ PC P' mo nu ∧ RI P z s c (fun a _ => a < i) P')
    (K := fun r => ∃ P', PC P' r.1 r.2 ∧ RI P z s c (fun a _ => a < 24) P') 24 0 (s0 := (0, mono, num)) (by omega) (by omega)
    ⟨mono, num, P, by rw [nI_0], hp, ⟨fun a b ha hb hv => absurd hv (Nat.not_lt_zero _), fun _ _ => rfl⟩⟩
    (fun i q hi hI => by
      obtain ⟨mo, nu, P', rfl, hp, hr⟩ := hI
      obtain ⟨mo', nu', P2, h1, h2, h3⟩ := repl2 hp hz hi hv hs hr
      exact ⟨_, h1, mo', nu', P2, rfl, h2, h3⟩)
    (fun q hI => by
      obtain ⟨mo, nu, P', rfl, hp, hr⟩ := hI
      refine ⟨(mo, nu), ?_, P', hp, hr⟩
      show f_Po_replaceBit_l2 (nI z) v (nI 24) mo nu = _
      unfold f_Po_replaceBit_l2
      rw [if_pos ge24])
  have h1 : zloop (fun q => f_Po_replaceBit_l2 (nI z) v q.1 q.2.1 q.2.2) zF ((0 : Int32), mono, num) = some r := h1
  rw [h1]
  refine ⟨r.1, r.2, rfl, PC_ext (fun m hm => ?_) h2⟩
  unfold repP
  by_cases hb : bt m z = true
  · rw [if_pos hb]
    obtain ⟨a, b, ha, hba, rfl⟩ := Sz_of hm hz (lo24_of_all hm) hb
    exact h3.1 a b ha hba ha
  · rw [if_neg hb]
    have hb : bt m z = false := by simpa using hb
    have h4 := h3.2 m hb
    have h5 : LZ z s c P' m = 0 := by
      unfold LZ
      refine RS_zero (fun a b ha hba => ?_)
      rw [h3.1 a b ha hba ha]
      exact BitVec.zero_mul
    rw [h5, bz] at h4
    exact h4
/-- replacing by 0: the masks with the bit go -/
def dropP (P : Int32 → BitVec 3) (z : Nat) : Int32 → BitVec 3 := fun m => if bt m z = true then 0 else P m
theorem Rv_0 : Rv 0 0 0 := ⟨fun _ _ => rfl, by decide⟩
theorem rI_zero (k fa m : Int32) : rI 0 k fa m = 0 := by
  unfold rI
  refine sm_zero 24 (fun i _ => ?_)
  rw [b_0]
  rfl
theorem dropC {P : Int32 → BitVec 3} {mono : Int32} {num : Nat → Int32} (hp : PC P mono num) {z : Nat} (hz : z < 24) :
    ∃ mono' num', f_Po_replaceBit (nI z) 0 mono num = some (mono', num') ∧ PC (dropP P z) mono' num' := by
  obtain ⟨mo, nu, h1, h2⟩ := replC hp hz Rv_0 (b_0 z)
  refine ⟨mo, nu, h1, PC_ext (fun m _ => ?_) h2⟩
  unfold repP dropP
  by_cases hb : bt m z = true
  · rw [if_pos hb, if_pos hb]
  · rw [if_neg hb, if_neg hb]
    have : LZ z 0 0 P m = 0 := by
      unfold LZ
      refine RS_zero (fun a b _ _ => ?_)
      have : eOr 0 0 1 (wo (Sz z a b) z) m = 0 := by
        unfold eOr
        rw [if_neg (by decide), rI_zero]
      rw [this]
      exact BitVec.mul_zero
    rw [this, bz]
end
section
/-! a bit is replaced: the reference -/
theorem zeroR {P : Int32 → BitVec 3} {num : Nat → Int32} (hp : PR P num) {x : Int32} (hm : x ∈ ALLC) {c : Nat} (hc : c < 15625) (h1 : f_Md_placeOf x = some (nI c)) (h2 : unR c = x) : PR (fun m => if m = x then 0 else P m) (upd num c 0) := by
  refine ⟨fun m r hmm hr hq => ?_, fun k hk hne => ?_⟩
  · by_cases e : r = c
    · subst e
      obtain ⟨c', _, h3, h4⟩ := plR_mem hmm
      have : m = x := by
        rw [hq] at h3
        have := nI_inj (by omega) (by omega) (Option.some.inj h3)
        subst this
        rw [← h4, h2]
      subst this
      show upd num r 0 r = toI (if m = m then 0 else P m)
      rw [pk_us, if_pos rfl, toI_0]
    · have hne : m ≠ x := by
        intro q
        subst q
        rw [h1] at hq
        exact e (nI_inj (by omega) (by omega) (Option.some.inj hq)).symm
      show upd num c 0 r = toI (if m = x then 0 else P m)
      rw [pk_un e, if_neg hne]
      exact hp.1 m r hmm hr hq
  · by_cases e : k = c
    · subst e
      rw [h2]
      exact ⟨hm, h1⟩
    · rw [pk_un e] at hne
      exact hp.2 k hk hne
/-- between two steps of dropBit -/
def DI (P0 : Int32 → BitVec 3) (z : Nat) (vis : Nat → Nat → Prop) (P : Int32 → BitVec 3) : Prop := (∀ a b, a < 24 → b ≤ a → vis a b → P (Sz z a b) = 0) ∧ (∀ m, bt m z = false → P m = P0 m)
theorem drop1 {P0 P : Int32 → BitVec 3} {num : Nat → Int32} (hp : PR P num) {z i j : Nat} (hz : z < 24) (hi : i < 24) (hj : j ≤ i) (th : Int32) {vis vis' : Nat → Nat → Prop} (h : DI P0 z vis P) (hv : ∀ a b, vis' a b → vis a b ∨ (a = i ∧ b = j)) :
    ∃ num' P', f_Md_dropBit_l24 (nI z) (nI i) th (nI j) num = some (.inl (nI (j + 1), num')) ∧ PR P' num' ∧ DI P0 z vis' P' := by
  unfold f_Md_dropBit_l24
  rw [if_neg (ltI hj (by omega))]
  have e : ((1 : Int32) <<< (nI z &&& 31)) ||| ((1 : Int32) <<< (nI i &&& 31)) ||| ((1 : Int32) <<< (nI j &&& 31)) = Sz z i j := rfl
  have hS := Sz_all hz hi (show j < 24 by omega)
  obtain ⟨c, hc, h1, h2⟩ := plR_mem hS
  rw [e, h1]
  simp only [zb1, zlet]
  rw [if_neg (in_nI hc (by omega)), clampI (by omega)]
  refine ⟨_, _, by rw [nI_1], zeroR hp hS hc h1 h2, fun a b ha hb hvis => ?_, fun m hm => ?_⟩
  · show (if Sz z a b = Sz z i j then 0 else P (Sz z a b)) = 0
    by_cases e : Sz z a b = Sz z i j
    · rw [if_pos e]
    · rw [if_neg e]
      rcases hv a b hvis with h1 | ⟨rfl, rfl⟩
      · exact h.1 a b ha hb h1
      · exact absurd rfl e
  · show (if m = Sz z i j then 0 else P m) = P0 m
    rw [if_neg]
    · exact h.2 m hm
    · intro q
      rw [q, (bt_Sz hz hi (show j < 24 by omega) (show z < 32 by omega)).mpr (Or.inl rfl)] at hm
      cases hm
theorem drop2 {P0 P : Int32 → BitVec 3} {num : Nat → Int32} (hp : PR P num) {z i : Nat} (hz : z < 24) (hi : i < 24) (th : Int32) (h0 : DI P0 z (fun a _ => a < i) P) :
    ∃ num' P', f_Md_dropBit_l16 (nI z) th (nI i) num = some (.inl (nI (i + 1), num')) ∧ PR P' num' ∧ DI P0 z (fun a _ => a < i + 1) P' := by
  unfold f_Md_dropBit_l16
  rw [if_neg (lt24 hi)]
  obtain ⟨r, h1, P', h2, h3⟩ := zloop_rel (step := fun q : Int32 × (Nat → Int32) => f_Md_dropBit_l24 (nI z) (nI i) th q.1 q.2)
    (I := fun j q => ∃ nu P, q = (nI j, nu) ∧ PR P nu ∧ DI P0 z (fun a b => a < i ∨ (a = i ∧ b < j)) P)
    (K := fun r => ∃ P', PR P' r ∧ DI P0 z (fun a b => a < i ∨ (a = i ∧ b < i + 1)) P') (i + 1) 0 (s0 := (0, num)) (by omega) (by omega)
    ⟨num, P, by rw [nI_0], hp, ⟨fun a b ha hb hv => h0.1 a b ha hb (by omega), h0.2⟩⟩
    (fun j q hj hI => by
      obtain ⟨nu, P, rfl, hp, hr⟩ := hI
      obtain ⟨nu', P', h1, h2, h3⟩ := drop1 (vis' := fun a b => a < i ∨ (a = i ∧ b < j + 1)) hp hz hi (show j ≤ i by omega) th hr (fun a b hab => by omega)
      exact ⟨_, h1, nu', P', rfl, h2, h3⟩)
    (fun q hI => by
      obtain ⟨nu, P, rfl, hp, hr⟩ := hI
      refine ⟨nu, ?_, P, hp, hr⟩
      show f_Md_dropBit_l24 (nI z) (nI i) th (nI (i + 1)) nu = _
      unfold f_Md_dropBit_l24
      rw [if_pos (gtI (by omega) (by omega))])
  have h1 : zloop (fun q => f_Md_dropBit_l24 (nI z) (nI i) th q.1 q.2) zF ((0 : Int32), num) = some r := h1
  rw [h1]
  exact ⟨r, P', by simp only [zb1, zlet, nI_1], h2, ⟨fun a b ha hb hv => h3.1 a b ha hb (by omega), h3.2⟩⟩
theorem dropR {P : Int32 → BitVec 3} {num : Nat → Int32} (hp : PR P num) {z : Nat} (hz : z < 24) (th : Int32) :
    ∃ num', f_Md_dropBit (nI z) th num = some (wo th z, num') ∧ PR (dropP P z) num' := by
  unfold f_Md_dropBit
  simp only [zlet]
  rw [wo_sb]
  obtain ⟨r, h1, P', h2, h3⟩ := zloop_rel (step := fun q : Int32 × (Nat → Int32) => f_Md_dropBit_l16 (nI z) (wo th z) q.1 q.2)
    (I := fun i q => ∃ nu P', q = (nI i, nu) ∧ PR P' nu ∧ DI P z (fun a _ => a < i) P')
    (K := fun r => ∃ P', PR P' r ∧ DI P z (fun a _ => a < 24) P') 24 0 (s0 := (0, num)) (by omega) (by omega)
    ⟨num, P, by rw [nI_0], hp, ⟨fun a b ha hb hv => absurd hv (Nat.not_lt_zero _), fun _ _ => rfl⟩⟩
    (fun i q hi hI => by
      obtain ⟨nu, P', rfl, hp, hr⟩ := hI
      obtain ⟨nu', P2, h1, h2, h3⟩ := drop2 hp hz hi (wo th z) hr
      exact ⟨_, h1, nu', P2, rfl, h2, h3⟩)
    (fun q hI => by
      obtain ⟨nu, P', rfl, hp, hr⟩ := hI
      refine ⟨nu, ?_, P', hp, hr⟩
      show f_Md_dropBit_l16 (nI z) (wo th z) (nI 24) nu = _
      unfold f_Md_dropBit_l16
      rw [if_pos ge24])
  have h1 : zloop (fun q => f_Md_dropBit_l16 (nI z) (wo th z) q.1 q.2) zF ((0 : Int32), num) = some r := h1
  rw [h1]
  refine ⟨r, rfl, PR_ext (fun m hm => ?_) h2⟩
  unfold dropP
  by_cases hb : bt m z = true
  · rw [if_pos hb]
    obtain ⟨a, b, ha, hba, rfl⟩ := Sz_of hm hz (lo24_of_all hm) hb
    exact h3.1 a b ha hba ha
  · rw [if_neg hb]
    exact h3.2 m (by simpa using hb)
/-- the pairs ahead of row b -/
def tr : Nat → Nat
  | 0 => 0
  | n + 1 => tr n + n + 1
theorem tr_lt : ∀ b, b < 24 → tr b + b < 300 := by decide
/-- the part of RS ahead of (b, c) -/
def RSp (z : Nat) (g : Int32 → BitVec 3) (b c : Nat) : BitVec 3 := sm (fun b => sm (fun c => if isR z b c = true then g (Sz z b c) else 0) (b + 1)) b + sm (fun c => if isR z b c = true then g (Sz z b c) else 0) c
theorem RSp_c (z : Nat) (g : Int32 → BitVec 3) (b c : Nat) : RSp z g b (c + 1) = RSp z g b c + (if isR z b c = true then g (Sz z b c) else 0) := by
  unfold RSp
  rw [sm_last, BitVec.add_assoc]
theorem RSp_b (z : Nat) (g : Int32 → BitVec 3) (b : Nat) : RSp z g (b + 1) 0 = RSp z g b (b + 1) := by
  unfold RSp
  rw [sm_last]
  show _ + 0 = _
  rw [bz]
theorem RSp_end (z : Nat) (g : Int32 → BitVec 3) : RSp z g 24 0 = RS z g := by
  unfold RSp RS
  show _ + 0 = _
  rw [bz]
theorem upd_lt {f : Nat → Int32} {k n : Nat} {x : Int32} (h : k < n) : upd f n x k = f k := pk_un (by omega)
/-- what is collected ahead of (b, c) -/
def CI (P : Int32 → BitVec 3) (z : Nat) (s c : Int32) (b cc many : Nat) (oS oN : Nat → Int32) : Prop := many ≤ tr b + cc ∧ (∀ k, k < many → lo24 (oS k) ∧ bt (oS k) z = false) ∧ ∀ m, sm (fun k => eOr s c (oN k) (oS k) m) many = RSp z (fun R => P R * eOr s c 1 (wo R z) m) b cc
theorem CI_skip {P : Int32 → BitVec 3} {z : Nat} {s c : Int32} {b cc many : Nat} {oS oN : Nat → Int32} (h : CI P z s c b cc many oS oN) (hs : isR z b cc = false ∨ P (Sz z b cc) = 0) : CI P z s c b (cc + 1) many oS oN := by
  refine ⟨by have := h.1; omega, h.2.1, fun m => ?_⟩
  rw [RSp_c, h.2.2 m]
  rcases hs with q | q
  · rw [q]
    simp
  · rw [q]
    have : (0 : BitVec 3) * eOr s c 1 (wo (Sz z b cc) z) m = 0 := BitVec.zero_mul
    rw [this]
    simp
theorem CI_take {P : Int32 → BitVec 3} {z : Nat} (hz : z < 24) {s c : Int32} {b cc many : Nat} (hb : b < 24) (hcc : cc ≤ b) {oS oN : Nat → Int32} (h : CI P z s c b cc many oS oN) (hi : isR z b cc = true) : CI P z s c b (cc + 1) (many + 1) (upd oS many (wo (Sz z b cc) z)) (upd oN many (toI (P (Sz z b cc)))) := by
  refine ⟨by have := h.1; omega, fun k hk => ?_, fun m => ?_⟩
  · by_cases e : k = many
    · subst e
      rw [pk_us]
      exact ⟨lo24_wo (lo24_Sz hz hb (by omega)) z, wo_no _ hz⟩
    · rw [pk_un e]
      exact h.2.1 k (by omega)
  · rw [sm_last, RSp_c, ← h.2.2 m, pk_us, pk_us, hi]
    refine add_eq ?_ ?_
    · refine sm_congr many (fun k hk => ?_)
      rw [upd_lt hk, upd_lt hk]
    · rw [eOr_mul, pi3_toI]
      rfl
theorem wo_pair {z b c : Nat} (hz : z < 24) (hb : b < 24) (hc : c < 24) : (sb b ||| sb c) &&& (sb z ^^^ (-1)) = wo (Sz z b c) z := by
  apply b_ext
  intro k hk
  rw [bt_wo _ hz hk, b_and, bt_not _ hk, b_or, bt_sb (by omega) hk, bt_sb (by omega) hk, bt_sb (by omega) hk]
  have h := bt_Sz hz hb hc hk
  cases e : bt (Sz z b c) k
  · have : ¬ (k = z ∨ k = b ∨ k = c) := fun q => by rw [h.mpr q] at e; cases e
    simp
    omega
  · have := h.mp e
    by_cases ez : k = z
    · subst ez; simp
    · have e1 : ¬ z = k := fun q => ez q.symm
      simp [e1, ez]
      omega
theorem wo_back {S : Int32} {z : Nat} (hz : z < 24) (h : bt S z = true) : wo S z ||| sb z = S := by
  apply b_ext
  intro k hk
  rw [b_or, bt_wo _ hz hk, bt_sb (by omega) hk]
  by_cases e : k = z
  · subst e; simp [h]
  · have e1 : ¬ z = k := fun q => e q.symm
    simp [e, e1]
theorem coll1 {P : Int32 → BitVec 3} {num : Nat → Int32} (hp : PR P num) {z b cc many : Nat} (hz : z < 24) (hb : b < 24) (hcc : cc ≤ b) (s c wi th : Int32) (st cs : Nat → Int32) {oS oN : Nat → Int32} (h : CI P z s c b cc many oS oN) :
    ∃ many' oS' oN', f_Md_become_l16 (nI z) s c (nI b) wi th num st cs (nI many) (nI cc) oS oN = some (.inl (nI many', nI (cc + 1), oS', oN')) ∧ CI P z s c b (cc + 1) many' oS' oN' := by
  have hS := Sz_all hz hb (show cc < 24 by omega)
  have hbS : bt (Sz z b cc) z = true := (bt_Sz hz hb (show cc < 24 by omega) (show z < 32 by omega)).mpr (Or.inl rfl)
  have hn := numR hp hS
  have hm := h.1
  have htr := tr_lt b hb
  have hin : ¬ (nI many < 0 ∨ 300 ≤ (nI many).toNatClampNeg) := in_nI (by omega) (by omega)
  unfold f_Md_become_l16
  rw [if_neg (ltI hcc (by omega))]
  simp only [zlet]
  rw [sbe b, sbe cc, sbe z, wo_pair hz hb (by omega), wo_back hz hbS, hn]
  simp only [zb1]
  have eqz : ∀ a, a < 24 → (nI a = nI z ↔ a = z) := fun a ha => nI_eq (by omega) (by omega)
  by_cases e1 : b = z
  · rw [if_pos ((eqz b hb).mpr e1)]
    by_cases e2 : cc = z
    · rw [if_pos ((eqz cc (by omega)).mpr e2)]
      have hi : isR z b cc = true := by simp [isR, e1, e2]
      by_cases h0 : toI (P (Sz z b cc)) = 0
      · rw [if_pos h0]
        exact ⟨many, oS, oN, by rw [nI_1], CI_skip h (Or.inr (toI_ne.mp h0))⟩
      · rw [if_neg h0, if_neg hin, if_neg hin, clampI (by omega)]
        exact ⟨many + 1, _, _, by rw [nI_1, nI_1], CI_take hz hb hcc h hi⟩
    · rw [if_neg (fun q => e2 ((eqz cc (by omega)).mp q))]
      exact ⟨many, oS, oN, by rw [nI_1], CI_skip h (Or.inl (by simp [isR, e1, e2]))⟩
  · rw [if_neg (fun q => e1 ((eqz b hb).mp q))]
    by_cases e2 : cc = z
    · rw [if_pos ((eqz cc (by omega)).mpr e2)]
      exact ⟨many, oS, oN, by rw [nI_1], CI_skip h (Or.inl (by simp [isR, e1, e2]))⟩
    · rw [if_neg (fun q => e2 ((eqz cc (by omega)).mp q))]
      have hi : isR z b cc = true := by simp [isR, e1, e2]
      by_cases h0 : toI (P (Sz z b cc)) = 0
      · rw [if_pos h0]
        exact ⟨many, oS, oN, by rw [nI_1], CI_skip h (Or.inr (toI_ne.mp h0))⟩
      · rw [if_neg h0, if_neg hin, if_neg hin, clampI (by omega)]
        exact ⟨many + 1, _, _, by rw [nI_1, nI_1], CI_take hz hb hcc h hi⟩
theorem coll2 {P : Int32 → BitVec 3} {num : Nat → Int32} (hp : PR P num) {z b many : Nat} (hz : z < 24) (hb : b < 24) (s c wi th : Int32) (st cs : Nat → Int32) {oS oN : Nat → Int32} (h : CI P z s c b 0 many oS oN) :
    ∃ many' oS' oN', f_Md_become_l6 (nI z) s c wi th num st cs (nI many) (nI b) oS oN = some (.inl (nI many', nI (b + 1), oS', oN')) ∧ CI P z s c (b + 1) 0 many' oS' oN' := by
  unfold f_Md_become_l6
  rw [if_neg (lt24 hb)]
  obtain ⟨r, h1, many', oS', oN', h2, h3⟩ := zloop_rel (step := fun q : Int32 × Int32 × (Nat → Int32) × (Nat → Int32) => f_Md_become_l16 (nI z) s c (nI b) wi th num st cs q.1 q.2.1 q.2.2.1 q.2.2.2)
    (I := fun j q => ∃ many oS oN, q = (nI many, nI j, oS, oN) ∧ CI P z s c b j many oS oN)
    (K := fun r => ∃ many' oS' oN', r = (nI many', oS', oN') ∧ CI P z s c (b + 1) 0 many' oS' oN') (b + 1) 0 (s0 := (nI many, 0, oS, oN)) (by omega) (by omega)
    ⟨many, oS, oN, by rw [nI_0], h⟩
    (fun j q hj hI => by
      obtain ⟨many, oS, oN, rfl, hc⟩ := hI
      obtain ⟨many', oS', oN', h1, h2⟩ := coll1 hp hz hb (show j ≤ b by omega) s c wi th st cs hc
      exact ⟨_, h1, many', oS', oN', rfl, h2⟩)
    (fun q hI => by
      obtain ⟨many, oS, oN, rfl, hc⟩ := hI
      refine ⟨(nI many, oS, oN), ?_, many, oS, oN, rfl, ⟨?_, hc.2.1, fun m => by rw [RSp_b]; exact hc.2.2 m⟩⟩
      · show f_Md_become_l16 (nI z) s c (nI b) wi th num st cs (nI many) (nI (b + 1)) oS oN = _
        unfold f_Md_become_l16
        rw [if_pos (gtI (by omega) (by omega))]
      · have := hc.1
        show many ≤ tr b + b + 1 + 0
        omega)
  have h1 : zloop (fun q => f_Md_become_l16 (nI z) s c (nI b) wi th num st cs q.1 q.2.1 q.2.2.1 q.2.2.2) zF (nI many, (0 : Int32), oS, oN) = some r := h1
  rw [h1]
  subst h2
  exact ⟨many', oS', oN', by simp only [zb3, zlet, nI_1], h3⟩
/-- the wires' sets and constants with z replaced, the first n of them -/
def stB (st : Nat → Int32) (z : Nat) (s : Int32) (n : Nat) : Nat → Int32 := fun w => if w < n ∧ bt (st w) z = true then wo (st w) z ^^^ s else st w
def csB (cs st : Nat → Int32) (z : Nat) (c : Int32) (n : Nat) : Nat → Int32 := fun w => if w < n ∧ bt (st w) z = true then cs w ^^^ c else cs w
theorem becomeR {P : Int32 → BitVec 3} {num : Nat → Int32} (hp : PR P num) {z N : Nat} (hz : z < 24) (hN : N ≤ 6) {s : Int32} (hs : bt s z = false) (c th : Int32) (oS oN st cs : Nat → Int32) :
    ∃ num' oS' oN', f_Md_become (nI z) s c (nI N) th num oS oN st cs = some (wo th z, num', oS', oN', stB st z s N, csB cs st z c N) ∧ PR (repP P z s c) num' := by
  unfold f_Md_become
  obtain ⟨r, h1, many, oS', oN', h2, h3⟩ := zloop_rel (step := fun q : Int32 × Int32 × (Nat → Int32) × (Nat → Int32) => f_Md_become_l6 (nI z) s c (nI N) th num st cs q.1 q.2.1 q.2.2.1 q.2.2.2)
    (I := fun b q => ∃ many oS oN, q = (nI many, nI b, oS, oN) ∧ CI P z s c b 0 many oS oN)
    (K := fun r => ∃ many oS oN, r = (nI many, oS, oN) ∧ CI P z s c 24 0 many oS oN) 24 0 (s0 := (0, 0, oS, oN)) (by omega) (by omega)
    ⟨0, oS, oN, by rw [nI_0], ⟨Nat.le_refl _, fun k hk => absurd hk (Nat.not_lt_zero _), fun m => by unfold RSp; rfl⟩⟩
    (fun b q hb hI => by
      obtain ⟨many, oS, oN, rfl, hc⟩ := hI
      obtain ⟨many', oS', oN', h1, h2⟩ := coll2 hp hz hb s c (nI N) th st cs hc
      exact ⟨_, h1, many', oS', oN', rfl, h2⟩)
    (fun q hI => by
      obtain ⟨many, oS, oN, rfl, hc⟩ := hI
      refine ⟨(nI many, oS, oN), ?_, many, oS, oN, rfl, hc⟩
      show f_Md_become_l6 (nI z) s c (nI N) th num st cs (nI many) (nI 24) oS oN = _
      unfold f_Md_become_l6
      rw [if_pos ge24])
  have h1 : zloop (fun q => f_Md_become_l6 (nI z) s c (nI N) th num st cs q.1 q.2.1 q.2.2.1 q.2.2.2) zF ((0 : Int32), (0 : Int32), oS, oN) = some r := h1
  rw [h1]
  subst h2
  have hmany : many ≤ 300 := by have := h3.1; exact Nat.le_trans this (by decide)
  simp only [zb3]
  obtain ⟨nu, d1, d2⟩ := dropR hp hz th
  rw [d1]
  simp only [zb2]
  obtain ⟨nu2, g1, g2⟩ := effR_loop (step := fun q : Int32 × (Nat → Int32) => f_Md_become_l139 (nI z) s c (nI many) (nI N) (wo th z) oS' oN' st cs q.1 q.2) many (by omega) (fun k m => eOr s c (oN' k) (oS' k) m)
    (fun k hk P num hp => by
      show ∃ num', f_Md_become_l139 (nI z) s c (nI many) (nI N) (wo th z) oS' oN' st cs (nI k) num = _ ∧ _
      unfold f_Md_become_l139
      rw [if_neg (nI_ge hk (by omega)), if_neg (in_nI (show k < 300 by omega) (by omega)), if_neg (in_nI (show k < 300 by omega) (by omega)), clampI (by omega)]
      obtain ⟨nu, a1, a2⟩ := orR (h3.2.1 k hk).1 s c (oN' k) P num hp
      rw [a1]
      exact ⟨nu, by simp only [zb1, zlet, nI_1], a2⟩)
    (fun num => by
      show f_Md_become_l139 (nI z) s c (nI many) (nI N) (wo th z) oS' oN' st cs (nI many) num = _
      unfold f_Md_become_l139
      rw [if_pos (nI_le (Nat.le_refl many) (by omega))]) _ nu d2
  have g1 : zloop (fun q => f_Md_become_l139 (nI z) s c (nI many) (nI N) (wo th z) oS' oN' st cs q.1 q.2) zF ((0 : Int32), nu) = some nu2 := g1
  rw [g1]
  simp only [zb1]
  obtain ⟨r3, k1, k2⟩ := zloop_rel (step := fun q : Int32 × (Nat → Int32) × (Nat → Int32) => f_Md_become_l175 (nI z) s c (nI N) (wo th z) nu2 oS' oN' q.1 q.2.1 q.2.2)
    (I := fun w q => q = (nI w, stB st z s w, csB cs st z c w)) (K := fun r => r = (stB st z s N, csB cs st z c N)) N 0 (s0 := (0, st, cs)) (by omega) (by omega)
    (by
      have e1 : stB st z s 0 = st := by funext w; simp [stB]
      have e2 : csB cs st z c 0 = cs := by funext w; simp [csB]
      rw [nI_0, e1, e2])
    (fun w q hw hq => by
      subst hq
      refine ⟨_, ?_, rfl⟩
      show f_Md_become_l175 (nI z) s c (nI N) (wo th z) nu2 oS' oN' (nI w) (stB st z s w) (csB cs st z c w) = _
      unfold f_Md_become_l175
      have ew : stB st z s w w = st w := by unfold stB; rw [if_neg (by omega)]
      have ec : csB cs st z c w w = cs w := by unfold csB; rw [if_neg (by omega)]
      have hin := in_nI (show w < 6 by omega) (show 6 < 2 ^ 31 by omega)
      have hin2 : ¬ (nI w < 0 ∨ 6 ≤ w) := by
        have h := hin
        rw [clampI (by omega)] at h
        exact h
      rw [if_neg (nI_ge hw (by omega)), if_neg hin, clampI (by omega), ew]
      cases hb : bt (st w) z
      · rw [sh_f (by omega) hb, if_pos rfl]
        simp only [zlet]
        rw [nI_1]
        congr 4
        · funext v
          unfold stB
          by_cases e : v = w
          · subst e; simp [hb]
          · have : (v < w ∧ bt (st v) z = true) ↔ (v < w + 1 ∧ bt (st v) z = true) := ⟨fun q => ⟨by omega, q.2⟩, fun q => ⟨by omega, q.2⟩⟩
            simp only [this]
        · funext v
          unfold csB
          by_cases e : v = w
          · subst e; simp [hb]
          · have : (v < w ∧ bt (st v) z = true) ↔ (v < w + 1 ∧ bt (st v) z = true) := ⟨fun q => ⟨by omega, q.2⟩, fun q => ⟨by omega, q.2⟩⟩
            simp only [this]
      · rw [sh_t (by omega) hb, if_neg (by decide), if_neg hin2, if_neg hin2]
        simp only [zlet]
        rw [if_neg hin2, if_neg hin2, wo_sb, ec, nI_1]
        congr 4
        · funext v
          unfold stB upd
          by_cases e : v = w
          · subst e; simp [hb]
          · have : (v < w ∧ bt (st v) z = true) ↔ (v < w + 1 ∧ bt (st v) z = true) := ⟨fun q => ⟨by omega, q.2⟩, fun q => ⟨by omega, q.2⟩⟩
            simp only [this, if_neg e]
        · funext v
          unfold csB upd
          by_cases e : v = w
          · subst e; simp [hb]
          · have : (v < w ∧ bt (st v) z = true) ↔ (v < w + 1 ∧ bt (st v) z = true) := ⟨fun q => ⟨by omega, q.2⟩, fun q => ⟨by omega, q.2⟩⟩
            simp only [this, if_neg e])
    (fun q hq => by
      subst hq
      refine ⟨_, ?_, rfl⟩
      show f_Md_become_l175 (nI z) s c (nI N) (wo th z) nu2 oS' oN' (nI N) _ _ = _
      unfold f_Md_become_l175
      rw [if_pos (nI_le (Nat.le_refl N) (by omega))])
  have k1 : zloop (fun q => f_Md_become_l175 (nI z) s c (nI N) (wo th z) nu2 oS' oN' q.1 q.2.1 q.2.2) zF ((0 : Int32), st, cs) = some r3 := k1
  rw [k1, k2]
  refine ⟨nu2, oS', oN', rfl, PR_ext (fun m hm => ?_) g2⟩
  show dropP P z m + sm (fun k => eOr s c (oN' k) (oS' k) m) many = repP P z s c m
  unfold dropP repP
  by_cases hb : bt m z = true
  · rw [if_pos hb, if_pos hb, sm_zero many (fun k hk => eOr_no hz hb hs (h3.2.1 k hk).2), bz]
  · rw [if_neg hb, if_neg hb, h3.2.2 m, RSp_end]
    rfl
end
section
/-! bits counted, decided -/
theorem bc_tab : (List.range 24).all (fun y => (List.range 24).all (fun i => (List.range 24).all (fun j => decide ((f_Jint_bitCount (Sz y i j) ≤ 2) ↔ (i = y ∨ j = y ∨ i = j))))) = true := by decide +kernel
theorem bc_Sz {y i j : Nat} (hy : y < 24) (hi : i < 24) (hj : j < 24) : f_Jint_bitCount (Sz y i j) ≤ 2 ↔ (i = y ∨ j = y ∨ i = j) := by
  have h1 := List.all_eq_true.mp bc_tab y (List.mem_range.mpr hy)
  have h2 := List.all_eq_true.mp h1 i (List.mem_range.mpr hi)
  have h3 := List.all_eq_true.mp h2 j (List.mem_range.mpr hj)
  exact of_decide_eq_true h3
end
section
/-! what a bit is multiplied with -/
def orN (f : Nat → Int32) : Nat → Int32
  | 0 => 0
  | n + 1 => orN f n ||| f n
theorem bt_orN {f : Nat → Int32} {k : Nat} : ∀ n, bt (orN f n) k = true ↔ ∃ i, i < n ∧ bt (f i) k = true
  | 0 => by
    unfold orN
    rw [b_0]
    constructor
    · intro h; cases h
    · rintro ⟨i, hi, _⟩; omega
  | n + 1 => by
    unfold orN
    rw [b_or, Bool.or_eq_true, bt_orN n]
    constructor
    · rintro (⟨i, hi, h⟩ | h)
      · exact ⟨i, by omega, h⟩
      · exact ⟨n, by omega, h⟩
    · rintro ⟨i, hi, h⟩
      by_cases e : i = n
      · subst e; exact Or.inr h
      · exact Or.inl ⟨i, by omega, h⟩
theorem Sz_one (y : Nat) : Sz y y y = sb y := by
  unfold Sz
  apply b_ext
  intro k _
  rw [b_or, b_or]
  cases bt (sb y) k <;> rfl
theorem Sz_two (y b : Nat) : sb y ||| sb b = Sz y b b := by
  unfold Sz
  apply b_ext
  intro k _
  rw [b_or, b_or, b_or]
  cases bt (sb y) k <;> cases bt (sb b) k <;> rfl
theorem Sz_sym {y a b : Nat} : Sz y a b = Sz y b a := by
  unfold Sz
  apply b_ext
  intro k _
  rw [b_or, b_or, b_or, b_or]
  cases bt (sb y) k <;> cases bt (sb a) k <;> cases bt (sb b) k <;> rfl
/-- the bits with 4 * b * y -/
def hbP (P : Int32 → BitVec 3) (y : Nat) : Int32 := orN (fun b => if b ≠ y ∧ P (Sz y b b) = 4 then sb b else 0) 24
theorem bt_hbP {P : Int32 → BitVec 3} {y k : Nat} (hk : k < 32) : bt (hbP P y) k = true ↔ k < 24 ∧ k ≠ y ∧ P (Sz y k k) = 4 := by
  unfold hbP
  rw [bt_orN]
  constructor
  · rintro ⟨i, hi, h⟩
    by_cases hc : i ≠ y ∧ P (Sz y i i) = 4
    · rw [if_pos hc, bt_sb (by omega) hk] at h
      have : i = k := by simpa using h
      subst this
      exact ⟨hi, hc⟩
    · rw [if_neg hc, b_0] at h
      cases h
  · rintro ⟨h1, h2⟩
    exact ⟨k, h1, by rw [if_pos h2, bt_sb (by omega) hk]; simp⟩
theorem lo24_hbP (P : Int32 → BitVec 3) (y : Nat) : lo24 (hbP P y) := fun k hk h24 => by
  cases h : bt (hbP P y) k
  · rfl
  · have := (bt_hbP hk).mp h
    omega
theorem hbP_ne (P : Int32 → BitVec 3) (y : Nat) : hbP P y ≠ -1 := by
  intro q
  have h1 := lo24_hbP P y 31 (by omega) (by omega)
  rw [q, b_m1 31 (by omega)] at h1
  cases h1
/-- y is multiplied with nothing but numbers and 4 times bits -/
def goodP (P : Int32 → BitVec 3) (y : Nat) : Prop := ∀ b, b < 24 → b ≠ y → (P (Sz y b b) = 0 ∨ P (Sz y b b) = 4) ∧ ∀ c, c < b → c ≠ y → P (Sz y b c) = 0
theorem toI_4 : toI 4 = 4 := by decide
theorem toI_eq4 {b : BitVec 3} : toI b = 4 ↔ b = 4 := ⟨fun h => toI_inj (h.trans toI_4.symm), fun h => by rw [h, toI_4]⟩
/-- a product that no rule allows -/
def badP (P : Int32 → BitVec 3) (y i j : Nat) : Prop := Sz y i j ≠ sb y ∧ P (Sz y i j) ≠ 0 ∧ ¬ (P (Sz y i j) = 4 ∧ (i = y ∨ j = y ∨ i = j))
/-- what a pair comes to the partners with -/
def conP (P : Int32 → BitVec 3) (y i j : Nat) : Int32 := if Sz y i j ≠ sb y ∧ P (Sz y i j) ≠ 0 then wo (Sz y i j) y else 0
theorem part1 {P : Int32 → BitVec 3} {mono : Int32} {num : Nat → Int32} (hp : PC P mono num) {y i j : Nat} (hy : y < 24) (hi : i < 24) (hj : j ≤ i) (x : Int32) :
    (badP P y i j ∧ f_Po_partnersOf_l13 (nI y) (nI i) num x (nI j) = some (.inr (.inr (-1)))) ∨ (¬ badP P y i j ∧ f_Po_partnersOf_l13 (nI y) (nI i) num x (nI j) = some (.inl (x ||| conP P y i j, nI (j + 1)))) := by
  have e : ((1 : Int32) <<< (nI y &&& 31)) ||| ((1 : Int32) <<< (nI i &&& 31)) ||| ((1 : Int32) <<< (nI j &&& 31)) = Sz y i j := rfl
  have hS := Sz_all hy hi (show j < 24 by omega)
  have hn := numC hp hS
  have hbc := bc_Sz hy hi (show j < 24 by omega)
  unfold f_Po_partnersOf_l13
  rw [if_neg (ltI hj (by omega))]
  simp only [zlet]
  rw [e, sbe y, hn]
  simp only [zb1]
  by_cases h1 : Sz y i j = sb y
  · rw [if_pos h1]
    exact Or.inr ⟨fun q => q.1 h1, by rw [nI_1]; unfold conP; rw [if_neg (fun q => q.1 h1)]⟩
  · rw [if_neg h1]
    by_cases h2 : toI (P (Sz y i j)) = 0
    · rw [if_pos h2, if_pos h2]
      have h2' := toI_ne.mp h2
      exact Or.inr ⟨fun q => q.2.1 h2', by rw [nI_1]; unfold conP; rw [if_neg (fun q => q.2 h2')]⟩
    · rw [if_neg h2]
      have h2' : P (Sz y i j) ≠ 0 := fun q => h2 (toI_ne.mpr q)
      by_cases h3 : toI (P (Sz y i j)) = 4
      · rw [if_pos h3]
        have h3' := toI_eq4.mp h3
        by_cases h4 : f_Jint_bitCount (Sz y i j) ≤ 2
        · rw [if_pos h4, if_neg h2]
          exact Or.inr ⟨fun q => q.2.2 ⟨h3', hbc.mp h4⟩, by rw [nI_1]; unfold conP; rw [if_pos ⟨h1, h2'⟩]; rfl⟩
        · rw [if_neg h4]
          exact Or.inl ⟨⟨h1, h2', fun q => h4 (hbc.mpr q.2)⟩, rfl⟩
      · rw [if_neg h3]
        exact Or.inl ⟨⟨h1, h2', fun q => h3 (toI_eq4.mpr q.1)⟩, rfl⟩
/-- the partners of the pairs ahead of (i, j) -/
def parP (P : Int32 → BitVec 3) (y i j : Nat) : Int32 := orN (fun a => orN (conP P y a) (a + 1)) i ||| orN (conP P y i) j
theorem parP_j (P : Int32 → BitVec 3) (y i j : Nat) : parP P y i (j + 1) = parP P y i j ||| conP P y i j := by
  unfold parP
  show orN (fun a => orN (conP P y a) (a + 1)) i ||| (orN (conP P y i) j ||| conP P y i j) = _
  apply b_ext
  intro k _
  rw [b_or, b_or, b_or, b_or, Bool.or_assoc]
theorem parP_i (P : Int32 → BitVec 3) (y i : Nat) : parP P y i (i + 1) = parP P y (i + 1) 0 := by
  unfold parP
  show _ = (orN (fun a => orN (conP P y a) (a + 1)) i ||| orN (conP P y i) (i + 1)) ||| 0
  rw [or0]
theorem part2 {P : Int32 → BitVec 3} {mono : Int32} {num : Nat → Int32} (hp : PC P mono num) {y i : Nat} (hy : y < 24) (hi : i < 24) :
    (∃ j, j ≤ i ∧ badP P y i j) ∧ f_Po_partnersOf_l4 (nI y) num (parP P y i 0) (nI i) = some (.inr (.inr (-1))) ∨ (∀ j, j ≤ i → ¬ badP P y i j) ∧ f_Po_partnersOf_l4 (nI y) num (parP P y i 0) (nI i) = some (.inl (parP P y (i + 1) 0, nI (i + 1))) := by
  unfold f_Po_partnersOf_l4
  rw [if_neg (lt24 hi)]
  obtain ⟨r, h1, h2⟩ := zloop_rel2 (step := fun q : Int32 × Int32 => f_Po_partnersOf_l13 (nI y) (nI i) num q.1 q.2)
    (I := fun j q => q = (parP P y i j, nI j) ∧ ∀ j', j' < j → ¬ badP P y i j')
    (K := fun r => (r = .inl (parP P y (i + 1) 0) ∧ ∀ j, j ≤ i → ¬ badP P y i j) ∨ (r = .inr (-1) ∧ ∃ j, j ≤ i ∧ badP P y i j)) (i + 1) 0 (s0 := (parP P y i 0, 0)) (by omega) (by omega)
    ⟨by rw [nI_0], fun j' h => absurd h (Nat.not_lt_zero _)⟩
    (fun j q hj hI => by
      obtain ⟨rfl, hg⟩ := hI
      rcases part1 hp hy hi (show j ≤ i by omega) (parP P y i j) with ⟨hb, h⟩ | ⟨hb, h⟩
      · exact Or.inr ⟨_, h, Or.inr ⟨rfl, j, by omega, hb⟩⟩
      · refine Or.inl ⟨_, h, by rw [parP_j], fun j' hj' => ?_⟩
        by_cases e : j' = j
        · subst e; exact hb
        · exact hg j' (by omega))
    (fun q hI => by
      obtain ⟨rfl, hg⟩ := hI
      refine ⟨.inl (parP P y i (i + 1)), ?_, Or.inl ⟨by rw [parP_i], fun j hj => hg j (by omega)⟩⟩
      show f_Po_partnersOf_l13 (nI y) (nI i) num (parP P y i (i + 1)) (nI (i + 1)) = _
      unfold f_Po_partnersOf_l13
      rw [if_pos (gtI (by omega) (by omega))])
  have h1 : zloop (fun q => f_Po_partnersOf_l13 (nI y) (nI i) num q.1 q.2) zF (parP P y i 0, (0 : Int32)) = some r := h1
  rw [h1]
  rcases h2 with ⟨rfl, hg⟩ | ⟨rfl, hb⟩
  · exact Or.inr ⟨hg, by simp only [zs1, zlet, nI_1]⟩
  · exact Or.inl ⟨hb, by simp only [zs1]⟩
theorem good_of {P : Int32 → BitVec 3} {y : Nat} (hy : y < 24) (h : ∀ i j, i < 24 → j ≤ i → ¬ badP P y i j) : goodP P y := by
  have hne : ∀ i j, i < 24 → j ≤ i → (i ≠ y ∨ j ≠ y) → Sz y i j ≠ sb y := by
    intro i j hi hj hd q
    have h1 := (bt_Sz hy hi (show j < 24 by omega) (show i < 32 by omega)).mpr (Or.inr (Or.inl rfl))
    have h2 := (bt_Sz hy hi (show j < 24 by omega) (show j < 32 by omega)).mpr (Or.inr (Or.inr rfl))
    rw [q, bt_sb (by omega) (by omega)] at h1 h2
    simp at h1 h2
    omega
  intro b hb hby
  refine ⟨?_, fun c hc hcy => ?_⟩
  · apply Classical.byContradiction
    intro q
    exact h b b hb (Nat.le_refl _) ⟨hne b b hb (Nat.le_refl _) (Or.inl hby), fun w => q (Or.inl w), fun w => q (Or.inr w.1)⟩
  · apply Classical.byContradiction
    intro q
    exact h b c hb (by omega) ⟨hne b c hb (by omega) (Or.inl hby), q, fun w => by omega⟩
theorem bad_of {P : Int32 → BitVec 3} {y i j : Nat} (hi : i < 24) (hj : j ≤ i) (h : badP P y i j) : ¬ goodP P y := by
  intro g
  obtain ⟨h1, h2, h3⟩ := h
  by_cases e1 : i = y
  · by_cases e2 : j = y
    · exact h1 (by rw [e1, e2, Sz_one])
    · have e : Sz y i j = Sz y j j := by rw [e1]; exact Sz_sym.trans (by
        unfold Sz
        apply b_ext
        intro k _
        rw [b_or, b_or, b_or, b_or]
        cases bt (sb y) k <;> cases bt (sb j) k <;> rfl)
      rw [e] at h2 h3
      rcases (g j (by omega) e2).1 with q | q
      · exact h2 q
      · exact h3 ⟨q, Or.inl e1⟩
  · by_cases e2 : j = y
    · have e : Sz y i j = Sz y i i := by
        rw [e2]
        unfold Sz
        apply b_ext
        intro k _
        rw [b_or, b_or, b_or, b_or]
        cases bt (sb y) k <;> cases bt (sb i) k <;> rfl
      rw [e] at h2 h3
      rcases (g i hi e1).1 with q | q
      · exact h2 q
      · exact h3 ⟨q, Or.inr (Or.inl e2)⟩
    · by_cases e3 : i = j
      · subst e3
        rcases (g i hi e1).1 with q | q
        · exact h2 q
        · exact h3 ⟨q, Or.inr (Or.inr rfl)⟩
      · exact h2 ((g i hi e1).2 j (by omega) e2)
theorem par_hb {P : Int32 → BitVec 3} {y : Nat} (hy : y < 24) (g : goodP P y) : parP P y 24 0 = hbP P y := by
  have hb : ∀ a b, a < 24 → b ≤ a → ¬ badP P y a b := fun a b ha hba q => bad_of ha hba q g
  apply b_ext
  intro k hk
  have h1 : bt (parP P y 24 0) k = true ↔ ∃ a, a < 24 ∧ ∃ b, b < a + 1 ∧ bt (conP P y a b) k = true := by
    unfold parP
    show bt (orN (fun a => orN (conP P y a) (a + 1)) 24 ||| 0) k = true ↔ _
    rw [or0, bt_orN]
    constructor
    · rintro ⟨a, ha, h⟩
      exact ⟨a, ha, (bt_orN (a + 1)).mp h⟩
    · rintro ⟨a, ha, h⟩
      exact ⟨a, ha, (bt_orN (a + 1)).mpr h⟩
  have h2 := bt_hbP (P := P) (y := y) hk
  have key : (∃ a, a < 24 ∧ ∃ b, b < a + 1 ∧ bt (conP P y a b) k = true) ↔ (k < 24 ∧ k ≠ y ∧ P (Sz y k k) = 4) := by
    constructor
    · rintro ⟨a, ha, b, hba, h⟩
      unfold conP at h
      by_cases hc : Sz y a b ≠ sb y ∧ P (Sz y a b) ≠ 0
      · rw [if_pos hc, bt_wo _ hy hk] at h
        simp only [Bool.and_eq_true, decide_eq_true_eq] at h
        obtain ⟨h3, h4⟩ := h
        have h5 := (bt_Sz hy ha (show b < 24 by omega) hk).mp h3
        have h6 : P (Sz y a b) = 4 ∧ (a = y ∨ b = y ∨ a = b) := by
          apply Classical.byContradiction
          intro q
          exact hb a b ha (by omega) ⟨hc.1, hc.2, q⟩
        refine ⟨by omega, h4, ?_⟩
        have e : Sz y a b = Sz y k k := Sz_ext hy ha (by omega) (by omega) (by omega) (fun n => by omega)
        rw [← e]
        exact h6.1
      · rw [if_neg hc, b_0] at h
        cases h
    · rintro ⟨h3, h4, h5⟩
      refine ⟨k, h3, k, by omega, ?_⟩
      unfold conP
      have hne : Sz y k k ≠ sb y := by
        intro q
        have h1 := (bt_Sz hy h3 h3 hk).mpr (Or.inr (Or.inl rfl))
        rw [q, bt_sb (by omega) hk] at h1
        simp at h1
        omega
      rw [if_pos ⟨hne, by rw [h5]; decide⟩, bt_wo _ hy hk, (bt_Sz hy h3 h3 hk).mpr (Or.inr (Or.inl rfl))]
      simp [h4]
  have h3 := h1.trans (key.trans h2.symm)
  cases e1 : bt (parP P y 24 0) k <;> cases e2 : bt (hbP P y) k <;> simp_all
theorem partC {P : Int32 → BitVec 3} {mono : Int32} {num : Nat → Int32} (hp : PC P mono num) {y : Nat} (hy : y < 24) : (goodP P y ∧ f_Po_partnersOf (nI y) num = some (hbP P y)) ∨ (¬ goodP P y ∧ f_Po_partnersOf (nI y) num = some (-1)) := by
  unfold f_Po_partnersOf
  obtain ⟨r, h1, h2⟩ := zloop_rel2 (step := fun q : Int32 × Int32 => f_Po_partnersOf_l4 (nI y) num q.1 q.2)
    (I := fun i q => q = (parP P y i 0, nI i) ∧ ∀ i' j, i' < i → j ≤ i' → ¬ badP P y i' j)
    (K := fun r => (r = .inl (hbP P y) ∧ goodP P y) ∨ (r = .inr (-1) ∧ ¬ goodP P y)) 24 0 (s0 := (0, 0)) (by omega) (by omega)
    ⟨by rw [nI_0]; show ((0 : Int32), (0 : Int32)) = ((0 : Int32) ||| 0, 0); rw [or0], fun i' j h => absurd h (Nat.not_lt_zero _)⟩
    (fun i q hi hI => by
      obtain ⟨rfl, hg⟩ := hI
      rcases part2 hp hy hi with ⟨⟨j, hj, hb⟩, h⟩ | ⟨hb, h⟩
      · exact Or.inr ⟨_, h, Or.inr ⟨rfl, bad_of hi hj hb⟩⟩
      · refine Or.inl ⟨_, h, rfl, fun i' j hi' hj => ?_⟩
        by_cases e : i' = i
        · subst e; exact hb j hj
        · exact hg i' j (by omega) hj)
    (fun q hI => by
      obtain ⟨rfl, hg⟩ := hI
      have g := good_of hy (fun i j hi hj => hg i j hi hj)
      refine ⟨.inl (parP P y 24 0), ?_, Or.inl ⟨by rw [par_hb hy g], g⟩⟩
      show f_Po_partnersOf_l4 (nI y) num (parP P y 24 0) (nI 24) = _
      unfold f_Po_partnersOf_l4
      rw [if_pos ge24])
  have h1 : zloop (fun q => f_Po_partnersOf_l4 (nI y) num q.1 q.2) zF ((0 : Int32), (0 : Int32)) = some r := h1
  rw [h1]
  rcases h2 with ⟨rfl, g⟩ | ⟨rfl, g⟩
  · exact Or.inl ⟨g, rfl⟩
  · exact Or.inr ⟨g, rfl⟩
end
section
/-! which rule can be done for a bit: the class and the reference -/
theorem b3_cases : ∀ b : BitVec 3, b = 0 ∨ b = 1 ∨ b = 2 ∨ b = 3 ∨ b = 4 ∨ b = 5 ∨ b = 6 ∨ b = 7 := by decide
/-- the rule k can be done for y, as far as the polynomial says -/
def KD (P : Int32 → BitVec 3) (inp : Int32) (y k : Nat) : Prop := goodP P y ∧ ((k = 1 ∧ hbP P y = 0 ∧ P (sb y) = 0) ∨ (k = 2 ∧ hbP P y = 0 ∧ P (sb y) = 4) ∨ (k = 4 ∧ (P (sb y) = 2 ∨ P (sb y) = 6)) ∨ (k = 3 ∧ (P (sb y) = 0 ∨ P (sb y) = 4) ∧ hbP P y &&& (inp ^^^ (-1)) ≠ 0))
theorem ruleC {P : Int32 → BitVec 3} {mono : Int32} {num : Nat → Int32} (hp : PC P mono num) {y : Nat} (hy : y < 24) (inp : Int32) : (∃ k, 1 ≤ k ∧ k ≤ 4 ∧ KD P inp y k ∧ f_Ps_ruleFor (nI y) inp num = some (nI k)) ∨ ((∀ k, ¬ KD P inp y k) ∧ f_Ps_ruleFor (nI y) inp num = some (-1)) := by
  unfold f_Ps_ruleFor
  rw [sbe y, numC hp (all_1 hy)]
  simp only [zb1]
  have e0 : ∀ x, f_Ps_has x 0 = f_Ps_has x (nI 0) := fun x => by rw [nI_0]
  have odd : ∀ (v : BitVec 3), P (sb y) = v → (v ≠ 0 ∧ v ≠ 2 ∧ v ≠ 4 ∧ v ≠ 6) → ∀ k, ¬ KD P inp y k := by
    rintro v hv ⟨n0, n2, n4, n6⟩ k ⟨_, h | h | h | h⟩
    · exact n0 (hv ▸ h.2.2)
    · exact n4 (hv ▸ h.2.2)
    · rcases h.2 with q | q
      · exact n2 (hv ▸ q)
      · exact n6 (hv ▸ q)
    · rcases h.2.1 with q | q
      · exact n0 (hv ▸ q)
      · exact n4 (hv ▸ q)
  rcases partC hp hy with ⟨g, hpa⟩ | ⟨g, hpa⟩
  · rw [hpa]
    simp only [zb1]
    rw [if_neg (hbP_ne P y)]
    rcases b3_cases (P (sb y)) with h | h | h | h | h | h | h | h <;> rw [h]
    · rw [if_pos (show f_Ps_has (toI 0) 0 = 0 by decide), if_pos (show f_Ps_has (toI 0) 1 = 0 by decide)]
      by_cases hb : hbP P y = 0
      · rw [if_pos hb, if_pos (show toI 0 = 0 by decide)]
        exact Or.inl ⟨1, by omega, by omega, ⟨g, Or.inl ⟨rfl, hb, h⟩⟩, rfl⟩
      · rw [if_neg hb]
        by_cases hi : hbP P y &&& (inp ^^^ (-1)) = 0
        · rw [if_pos hi]
          refine Or.inr ⟨?_, rfl⟩
          rintro k ⟨_, q | q | q | q⟩
          · exact hb q.2.1
          · exact hb q.2.1
          · rcases q.2 with w | w <;> rw [h] at w <;> exact absurd w (by decide)
          · exact q.2.2 hi
        · rw [if_neg hi]
          exact Or.inl ⟨3, by omega, by omega, ⟨g, Or.inr (Or.inr (Or.inr ⟨rfl, Or.inl h, hi⟩))⟩, rfl⟩
    · rw [if_neg (show ¬ f_Ps_has (toI 1) 0 = 0 by decide)]
      exact Or.inr ⟨odd 1 h (by decide), rfl⟩
    · rw [if_pos (show f_Ps_has (toI 2) 0 = 0 by decide), if_neg (show ¬ f_Ps_has (toI 2) 1 = 0 by decide)]
      exact Or.inl ⟨4, by omega, by omega, ⟨g, Or.inr (Or.inr (Or.inl ⟨rfl, Or.inl h⟩))⟩, rfl⟩
    · rw [if_neg (show ¬ f_Ps_has (toI 3) 0 = 0 by decide)]
      exact Or.inr ⟨odd 3 h (by decide), rfl⟩
    · rw [if_pos (show f_Ps_has (toI 4) 0 = 0 by decide), if_pos (show f_Ps_has (toI 4) 1 = 0 by decide)]
      by_cases hb : hbP P y = 0
      · rw [if_pos hb, if_neg (show ¬ toI 4 = 0 by decide)]
        exact Or.inl ⟨2, by omega, by omega, ⟨g, Or.inr (Or.inl ⟨rfl, hb, h⟩)⟩, rfl⟩
      · rw [if_neg hb]
        by_cases hi : hbP P y &&& (inp ^^^ (-1)) = 0
        · rw [if_pos hi]
          refine Or.inr ⟨?_, rfl⟩
          rintro k ⟨_, q | q | q | q⟩
          · exact hb q.2.1
          · exact hb q.2.1
          · rcases q.2 with w | w <;> rw [h] at w <;> exact absurd w (by decide)
          · exact q.2.2 hi
        · rw [if_neg hi]
          exact Or.inl ⟨3, by omega, by omega, ⟨g, Or.inr (Or.inr (Or.inr ⟨rfl, Or.inr h, hi⟩))⟩, rfl⟩
    · rw [if_neg (show ¬ f_Ps_has (toI 5) 0 = 0 by decide)]
      exact Or.inr ⟨odd 5 h (by decide), rfl⟩
    · rw [if_pos (show f_Ps_has (toI 6) 0 = 0 by decide), if_neg (show ¬ f_Ps_has (toI 6) 1 = 0 by decide)]
      exact Or.inl ⟨4, by omega, by omega, ⟨g, Or.inr (Or.inr (Or.inl ⟨rfl, Or.inr h⟩))⟩, rfl⟩
    · rw [if_neg (show ¬ f_Ps_has (toI 7) 0 = 0 by decide)]
      exact Or.inr ⟨odd 7 h (by decide), rfl⟩
  · rw [hpa]
    simp only [zb1, if_true]
    refine Or.inr ⟨fun k q => g q.1, ?_⟩
    split <;> rfl
/-- the reference's search for products with y, b fixed -/
theorem fac1 {P : Int32 → BitVec 3} {num : Nat → Int32} (hp : PR P num) {y b : Nat} (hy : y < 24) (hb : b < 24) (al h : Int32) :
    ((∀ c, c < b → c ≠ y → P (Sz y b c) = 0) ∧ zloop (fun q => f_Md_findFactor_l75 (nI y) (nI b) al h num q) zF 0 = some (.inl ())) ∨ ((∃ c, c < b ∧ c ≠ y ∧ P (Sz y b c) ≠ 0) ∧ zloop (fun q => f_Md_findFactor_l75 (nI y) (nI b) al h num q) zF 0 = some (.inr (0, al, h))) := by
  obtain ⟨r, h1, h2⟩ := zloop_rel2 (step := fun q : Int32 => f_Md_findFactor_l75 (nI y) (nI b) al h num q)
    (I := fun j q => q = nI j ∧ ∀ c, c < j → c ≠ y → P (Sz y b c) = 0)
    (K := fun r => (r = .inl () ∧ ∀ c, c < b → c ≠ y → P (Sz y b c) = 0) ∨ (r = .inr (0, al, h) ∧ ∃ c, c < b ∧ c ≠ y ∧ P (Sz y b c) ≠ 0)) b 0 (s0 := 0) (by omega) (by omega)
    ⟨by rw [nI_0], fun c hc => absurd hc (Nat.not_lt_zero _)⟩
    (fun j q hj hI => by
      obtain ⟨rfl, hg⟩ := hI
      have eqz : nI j = nI y ↔ j = y := nI_eq (by omega) (by omega)
      show (∃ s', f_Md_findFactor_l75 (nI y) (nI b) al h num (nI j) = _ ∧ _) ∨ (∃ r, f_Md_findFactor_l75 (nI y) (nI b) al h num (nI j) = _ ∧ _)
      unfold f_Md_findFactor_l75
      rw [if_neg (nI_ge hj (by omega))]
      simp only [zlet, nI_1]
      by_cases e : j = y
      · rw [if_pos (eqz.mpr e)]
        refine Or.inl ⟨_, rfl, rfl, fun c hc hcy => ?_⟩
        by_cases e2 : c = j
        · exact absurd (e2.trans e) hcy
        · exact hg c (by omega) hcy
      · rw [if_neg (fun q => e (eqz.mp q))]
        have e3 : ((1 : Int32) <<< (nI y &&& 31)) ||| ((1 : Int32) <<< (nI b &&& 31)) ||| ((1 : Int32) <<< (nI j &&& 31)) = Sz y b j := rfl
        rw [e3, numR hp (Sz_all hy hb (by omega))]
        simp only [zb1]
        by_cases h0 : toI (P (Sz y b j)) = 0
        · rw [if_pos h0]
          refine Or.inl ⟨_, rfl, rfl, fun c hc hcy => ?_⟩
          by_cases e2 : c = j
          · subst e2; exact toI_ne.mp h0
          · exact hg c (by omega) hcy
        · rw [if_neg h0]
          exact Or.inr ⟨_, rfl, Or.inr ⟨rfl, j, hj, e, fun q => h0 (toI_ne.mpr q)⟩⟩)
    (fun q hI => by
      obtain ⟨rfl, hg⟩ := hI
      refine ⟨.inl (), ?_, Or.inl ⟨rfl, hg⟩⟩
      show f_Md_findFactor_l75 (nI y) (nI b) al h num (nI b) = _
      unfold f_Md_findFactor_l75
      rw [if_pos (nI_le (Nat.le_refl b) (by omega))])
  rcases h2 with ⟨rfl, hg⟩ | ⟨rfl, hg⟩
  · exact Or.inl ⟨hg, h1⟩
  · exact Or.inr ⟨hg, h1⟩
/-- the bits with 4 * b * y, below n -/
def hbN (P : Int32 → BitVec 3) (y n : Nat) : Int32 := orN (fun b => if b ≠ y ∧ P (Sz y b b) = 4 then sb b else 0) n
def goodN (P : Int32 → BitVec 3) (y n : Nat) : Prop := ∀ b, b < n → b ≠ y → (P (Sz y b b) = 0 ∨ P (Sz y b b) = 4) ∧ ∀ c, c < b → c ≠ y → P (Sz y b c) = 0
theorem fac2 {P : Int32 → BitVec 3} {num : Nat → Int32} (hp : PR P num) {y b : Nat} (hy : y < 24) (hb : b < 24) (al : Int32) (hg : goodN P y b) :
    (goodN P y (b + 1) ∧ f_Md_findFactor_l18 (nI y) al num (nI b) (hbN P y b) = some (.inl (nI (b + 1), hbN P y (b + 1)))) ∨ (¬ goodP P y ∧ ∃ h', f_Md_findFactor_l18 (nI y) al num (nI b) (hbN P y b) = some (.inr (.inr (0, al, h')))) := by
  have eqz : nI b = nI y ↔ b = y := nI_eq (by omega) (by omega)
  have hlast : hbN P y (b + 1) = hbN P y b ||| (if b ≠ y ∧ P (Sz y b b) = 4 then sb b else 0) := rfl
  unfold f_Md_findFactor_l18
  rw [if_neg (lt24 hb)]
  simp only [zlet, nI_1]
  by_cases e : b = y
  · rw [if_pos (eqz.mpr e)]
    refine Or.inl ⟨fun b' hb' hne => ?_, ?_⟩
    · by_cases e2 : b' = b
      · exact absurd (e2.trans e) hne
      · exact hg b' (by omega) hne
    · rw [hlast, if_neg (fun q => q.1 e), or0]
  · rw [if_neg (fun q => e (eqz.mp q)), sbe y, sbe b, Sz_two, numR hp (Sz_all hy hb hb)]
    simp only [zb1]
    have ext : (P (Sz y b b) = 0 ∨ P (Sz y b b) = 4) → (∀ c, c < b → c ≠ y → P (Sz y b c) = 0) → goodN P y (b + 1) := by
      intro q1 q2 b' hb' hne
      by_cases e2 : b' = b
      · subst e2; exact ⟨q1, q2⟩
      · exact hg b' (by omega) hne
    by_cases h0 : toI (P (Sz y b b)) = 0
    · rw [if_pos h0, if_neg (by rw [h0]; decide)]
      have h0' := toI_ne.mp h0
      rcases fac1 hp hy hb al (hbN P y b) with ⟨hz, hl⟩ | ⟨⟨c, hc, hcy, hcn⟩, hl⟩
      · have hl : zloop (fun q => f_Md_findFactor_l75 (nI y) (nI b) al (hbN P y b) num q) zF (0 : Int32) = some (.inl ()) := hl
        rw [hl]
        refine Or.inl ⟨ext (Or.inl h0') hz, ?_⟩
        rw [hlast, if_neg (fun q => by rw [h0'] at q; exact absurd q.2 (by decide)), or0]
        simp only [zs0]
      · have hl : zloop (fun q => f_Md_findFactor_l75 (nI y) (nI b) al (hbN P y b) num q) zF (0 : Int32) = some (.inr (0, al, hbN P y b)) := hl
        rw [hl]
        exact Or.inr ⟨fun g => hcn ((g b hb e).2 c hc hcy), _, rfl⟩
    · rw [if_neg h0]
      by_cases h4 : toI (P (Sz y b b)) = 4
      · rw [if_pos h4, if_pos h4]
        have h4' := toI_eq4.mp h4
        rcases fac1 hp hy hb al (hbN P y b ||| sb b) with ⟨hz, hl⟩ | ⟨⟨c, hc, hcy, hcn⟩, hl⟩
        · have hl : zloop (fun q => f_Md_findFactor_l75 (nI y) (nI b) al (hbN P y b ||| sb b) num q) zF (0 : Int32) = some (.inl ()) := hl
          rw [hl]
          refine Or.inl ⟨ext (Or.inr h4') hz, ?_⟩
          rw [hlast, if_pos ⟨e, h4'⟩]
          simp only [zs0]
        · have hl : zloop (fun q => f_Md_findFactor_l75 (nI y) (nI b) al (hbN P y b ||| sb b) num q) zF (0 : Int32) = some (.inr (0, al, hbN P y b ||| sb b)) := hl
          rw [hl]
          exact Or.inr ⟨fun g => hcn ((g b hb e).2 c hc hcy), _, rfl⟩
      · rw [if_neg h4]
        refine Or.inr ⟨fun g => ?_, _, rfl⟩
        rcases (g b hb e).1 with q | q
        · exact h0 (toI_ne.mpr q)
        · exact h4 (toI_eq4.mpr q)
theorem facR {P : Int32 → BitVec 3} {num : Nat → Int32} (hp : PR P num) {y : Nat} (hy : y < 24) (al0 h0 : Int32) :
    (goodP P y ∧ f_Md_findFactor (nI y) al0 h0 num = some (1, toI (P (sb y)), hbP P y)) ∨ (¬ goodP P y ∧ ∃ h', f_Md_findFactor (nI y) al0 h0 num = some (0, toI (P (sb y)), h')) := by
  unfold f_Md_findFactor
  rw [sbe y, numR hp (all_1 hy)]
  simp only [zb1]
  obtain ⟨r, h1, h2⟩ := zloop_rel2 (step := fun q : Int32 × Int32 => f_Md_findFactor_l18 (nI y) (toI (P (sb y))) num q.1 q.2)
    (I := fun b q => q = (nI b, hbN P y b) ∧ goodN P y b)
    (K := fun r => (r = .inl (hbP P y) ∧ goodP P y) ∨ (¬ goodP P y ∧ ∃ h', r = .inr (0, toI (P (sb y)), h'))) 24 0 (s0 := (0, 0)) (by omega) (by omega)
    ⟨by rw [nI_0]; rfl, fun b hb => absurd hb (Nat.not_lt_zero _)⟩
    (fun b q hb hI => by
      obtain ⟨rfl, hg⟩ := hI
      rcases fac2 hp hy hb (toI (P (sb y))) hg with ⟨hg', h⟩ | ⟨hg', h', h⟩
      · exact Or.inl ⟨_, h, rfl, hg'⟩
      · exact Or.inr ⟨_, h, Or.inr ⟨hg', h', rfl⟩⟩)
    (fun q hI => by
      obtain ⟨rfl, hg⟩ := hI
      refine ⟨.inl (hbN P y 24), ?_, Or.inl ⟨rfl, hg⟩⟩
      show f_Md_findFactor_l18 (nI y) (toI (P (sb y))) num (nI 24) (hbN P y 24) = _
      unfold f_Md_findFactor_l18
      rw [if_pos ge24])
  have h1 : zloop (fun q => f_Md_findFactor_l18 (nI y) (toI (P (sb y))) num q.1 q.2) zF ((0 : Int32), (0 : Int32)) = some r := h1
  rw [h1]
  rcases h2 with ⟨rfl, g⟩ | ⟨g, h', rfl⟩
  · exact Or.inl ⟨g, rfl⟩
  · exact Or.inr ⟨g, h', rfl⟩
/-- a bit that is there, no input, in no value -/
def Hid (N : Nat) (inp th : Int32) (st : Nat → Int32) (y : Nat) : Prop := bt th y = true ∧ bt inp y = false ∧ ∀ w, w < N → bt (st w) y = false
theorem hidR {N : Nat} (hN : N ≤ 6) (op th : Int32) (st : Nat → Int32) {y : Nat} (hy : y < 24) :
    (Hid N (f_Md_inputs (nI N) op) th st y ∧ f_Md_isHidden (nI y) (nI N) op th st = some 1) ∨ (¬ Hid N (f_Md_inputs (nI N) op) th st y ∧ f_Md_isHidden (nI y) (nI N) op th st = some 0) := by
  unfold f_Md_isHidden
  cases h1 : bt th y
  · rw [sh_f (by omega) h1, if_pos rfl]
    exact Or.inr ⟨fun q => (by rw [q.1] at h1; cases h1), rfl⟩
  rw [sh_t (by omega) h1, if_neg (by decide)]
  cases h2 : bt (f_Md_inputs (nI N) op) y
  · rw [sh_f (by omega) h2, if_neg (by decide)]
    obtain ⟨r, h3, h4⟩ := zloop_rel2 (step := fun q : Int32 => f_Md_isHidden_l27 (nI y) (nI N) op th st q)
      (I := fun j q => q = nI j ∧ ∀ w, w < j → bt (st w) y = false)
      (K := fun r => (r = .inl () ∧ ∀ w, w < N → bt (st w) y = false) ∨ (r = .inr 0 ∧ ∃ w, w < N ∧ bt (st w) y = true)) N 0 (s0 := 0) (by omega) (by omega)
      ⟨by rw [nI_0], fun w hw => absurd hw (Nat.not_lt_zero _)⟩
      (fun w q hw hI => by
        obtain ⟨rfl, hg⟩ := hI
        show (∃ s', f_Md_isHidden_l27 (nI y) (nI N) op th st (nI w) = _ ∧ _) ∨ (∃ r, f_Md_isHidden_l27 (nI y) (nI N) op th st (nI w) = _ ∧ _)
        unfold f_Md_isHidden_l27
        rw [if_neg (nI_ge hw (by omega)), if_neg (in_nI (show w < 6 by omega) (by omega)), clampI (by omega)]
        cases hb : bt (st w) y
        · rw [sh_f (by omega) hb, if_neg (by decide)]
          refine Or.inl ⟨nI (w + 1), by simp only [zlet, nI_1], rfl, fun w' hw' => ?_⟩
          by_cases e : w' = w
          · subst e; exact hb
          · exact hg w' (by omega)
        · rw [sh_t (by omega) hb, if_pos rfl]
          exact Or.inr ⟨_, rfl, Or.inr ⟨rfl, w, hw, hb⟩⟩)
      (fun q hI => by
        obtain ⟨rfl, hg⟩ := hI
        refine ⟨.inl (), ?_, Or.inl ⟨rfl, hg⟩⟩
        show f_Md_isHidden_l27 (nI y) (nI N) op th st (nI N) = _
        unfold f_Md_isHidden_l27
        rw [if_pos (nI_le (Nat.le_refl N) (by omega))])
    have h3 : zloop (fun q => f_Md_isHidden_l27 (nI y) (nI N) op th st q) zF (0 : Int32) = some r := h3
    rw [h3]
    rcases h4 with ⟨rfl, hg⟩ | ⟨rfl, w, hw, hb⟩
    · exact Or.inl ⟨⟨h1, h2, hg⟩, rfl⟩
    · exact Or.inr ⟨fun q => (by rw [q.2.2 w hw] at hb; cases hb), rfl⟩
  · rw [sh_t (by omega) h2, if_pos rfl]
    exact Or.inr ⟨fun q => (by rw [q.2.1] at h2; cases h2), rfl⟩
/-- the reference's rule for y -/
theorem ruleR {P : Int32 → BitVec 3} {num : Nat → Int32} (hp : PR P num) {N : Nat} (hN : N ≤ 6) (op th : Int32) (st : Nat → Int32) {y : Nat} (hy : y < 24) (al0 h0 : Int32) :
    (∃ k, 1 ≤ k ∧ k ≤ 4 ∧ Hid N (f_Md_inputs (nI N) op) th st y ∧ KD P (f_Md_inputs (nI N) op) y k ∧ f_Md_ruleFor (nI y) (nI N) op th al0 h0 st num = some (nI k, toI (P (sb y)), hbP P y)) ∨ ((¬ Hid N (f_Md_inputs (nI N) op) th st y ∨ ∀ k, ¬ KD P (f_Md_inputs (nI N) op) y k) ∧ ∃ al h, f_Md_ruleFor (nI y) (nI N) op th al0 h0 st num = some (0, al, h)) := by
  unfold f_Md_ruleFor
  rcases hidR hN op th st hy with ⟨hh, e⟩ | ⟨hh, e⟩
  · rw [e]
    simp only [zb1]
    rw [if_neg (by decide)]
    rcases facR hp hy al0 h0 with ⟨g, e2⟩ | ⟨g, h', e2⟩
    · rw [e2]
      simp only [zb3]
      rw [if_neg (by decide)]
      generalize hinp : f_Md_inputs (nI N) op = inp
      have odd : ∀ (v : BitVec 3), P (sb y) = v → (v ≠ 0 ∧ v ≠ 2 ∧ v ≠ 4 ∧ v ≠ 6) → ∀ k, ¬ KD P inp y k := by
        rintro v hv ⟨n0, n2, n4, n6⟩ k ⟨_, h | h | h | h⟩
        · exact n0 (hv ▸ h.2.2)
        · exact n4 (hv ▸ h.2.2)
        · rcases h.2 with q | q
          · exact n2 (hv ▸ q)
          · exact n6 (hv ▸ q)
        · rcases h.2.1 with q | q
          · exact n0 (hv ▸ q)
          · exact n4 (hv ▸ q)
      have tail : ∀ (v : BitVec 3), (v = 0 ∨ v = 4) → P (sb y) = v → hbP P y ≠ 0 → (∃ k, 1 ≤ k ∧ k ≤ 4 ∧ Hid N inp th st y ∧ KD P inp y k ∧ f_Md_ruleFor_j34 (nI N) op th (toI v) (hbP P y) st num = some (nI k, toI v, hbP P y)) ∨ ((¬ Hid N inp th st y ∨ ∀ k, ¬ KD P inp y k) ∧ ∃ al h, f_Md_ruleFor_j34 (nI N) op th (toI v) (hbP P y) st num = some (0, al, h)) := by
        intro v hv hP hb
        unfold f_Md_ruleFor_j34 f_Md_ruleFor_j51 f_Md_ruleFor_j85 f_Md_ruleFor_j90
        rw [if_neg hb, hinp]
        have a2 : ¬ toI v = 2 := by rcases hv with rfl | rfl <;> decide
        have a6 : ¬ toI v = 6 := by rcases hv with rfl | rfl <;> decide
        rw [if_neg a2, if_neg a6, if_neg (show ¬ (1 : Int32) = 0 by decide)]
        by_cases hi : hbP P y &&& (inp ^^^ (-1)) = 0
        · refine Or.inr ⟨Or.inr ?_, ?_⟩
          · rintro k ⟨_, q | q | q | q⟩
            · exact hb q.2.1
            · exact hb q.2.1
            · rcases q.2 with w | w <;> rw [hP] at w <;> rcases hv with rfl | rfl <;> exact absurd w (by decide)
            · exact q.2.2 hi
          · rw [if_pos hi]
            rcases hv with rfl | rfl
            · exact ⟨_, _, by rw [if_pos (by decide)]⟩
            · exact ⟨_, _, by rw [if_neg (by decide), if_pos (by decide)]⟩
        · refine Or.inl ⟨3, by omega, by omega, hinp ▸ hh, ⟨g, Or.inr (Or.inr (Or.inr ⟨rfl, by rw [hP]; exact hv, hi⟩))⟩, ?_⟩
          rw [if_neg hi]
          rcases hv with rfl | rfl
          · rw [if_pos (by decide)]; rfl
          · rw [if_neg (by decide), if_pos (by decide)]; rfl
      have tail2 : ∀ (v : BitVec 3), (v = 2 ∨ v = 6) → P (sb y) = v → f_Md_ruleFor_j34 (nI N) op th (toI v) (hbP P y) st num = some (nI 4, toI v, hbP P y) := by
        intro v hv hP
        unfold f_Md_ruleFor_j34 f_Md_ruleFor_j51
        rcases hv with rfl | rfl
        · rw [if_neg (show ¬ toI 2 = 4 by decide), if_pos (show toI 2 = 2 by decide)]
          split <;> rfl
        · rw [if_neg (show ¬ toI 6 = 4 by decide), if_neg (show ¬ toI 6 = 2 by decide), if_pos (show toI 6 = 6 by decide)]
          split <;> rfl
      have tail3 : ∀ (v : BitVec 3), (v ≠ 0 ∧ v ≠ 2 ∧ v ≠ 4 ∧ v ≠ 6) → f_Md_ruleFor_j34 (nI N) op th (toI v) (hbP P y) st num = some (0, toI v, hbP P y) := by
        rintro v ⟨n0, n2, n4, n6⟩
        have i0 : ¬ toI v = 0 := fun q => n0 (toI_ne.mp q)
        have i2 : ¬ toI v = 2 := fun q => n2 (toI_inj (q.trans (by decide)))
        have i4 : ¬ toI v = 4 := fun q => n4 (toI_eq4.mp q)
        have i6 : ¬ toI v = 6 := fun q => n6 (toI_inj (q.trans (by decide)))
        unfold f_Md_ruleFor_j34 f_Md_ruleFor_j51 f_Md_ruleFor_j90
        rw [if_neg i4, if_neg i2, if_neg i6, if_neg i0, if_neg i4, if_pos rfl]
        split <;> rfl
      by_cases h0 : P (sb y) = 0
      · rw [h0]
        by_cases hb : hbP P y = 0
        · rw [if_pos hb, if_pos (show toI 0 = 0 by decide)]
          exact Or.inl ⟨1, by omega, by omega, hinp ▸ hh, ⟨g, Or.inl ⟨rfl, hb, h0⟩⟩, rfl⟩
        · rw [if_neg hb]
          exact tail 0 (Or.inl rfl) h0 hb
      · have i0 : ¬ toI (P (sb y)) = 0 := fun q => h0 (toI_ne.mp q)
        rw [if_neg i0, ite_self]
        by_cases h4 : P (sb y) = 4
        · rw [h4]
          by_cases hb : hbP P y = 0
          · refine Or.inl ⟨2, by omega, by omega, hinp ▸ hh, ⟨g, Or.inr (Or.inl ⟨rfl, hb, h4⟩)⟩, ?_⟩
            unfold f_Md_ruleFor_j34
            rw [if_pos hb, if_pos (show toI 4 = 4 by decide)]
            rfl
          · exact tail 4 (Or.inr rfl) h4 hb
        · by_cases h26 : P (sb y) = 2 ∨ P (sb y) = 6
          · refine Or.inl ⟨4, by omega, by omega, hinp ▸ hh, ⟨g, Or.inr (Or.inr (Or.inl ⟨rfl, h26⟩))⟩, ?_⟩
            exact tail2 _ h26 rfl
          · have hn : P (sb y) ≠ 0 ∧ P (sb y) ≠ 2 ∧ P (sb y) ≠ 4 ∧ P (sb y) ≠ 6 := ⟨h0, fun q => h26 (Or.inl q), h4, fun q => h26 (Or.inr q)⟩
            exact Or.inr ⟨Or.inr (odd _ rfl hn), _, _, tail3 _ hn⟩
    · rw [e2]
      simp only [zb3, if_true]
      exact Or.inr ⟨Or.inr (fun k q => g q.1), _, _, rfl⟩
  · rw [e]
    simp only [zb1, if_true]
    exact Or.inr ⟨Or.inl hh, _, _, rfl⟩
end
section
/-! the greatest bit of a mask; the least bit with a rule -/
/-- z is the greatest bit of x -/
def gtB (x : Int32) (z : Nat) : Prop := z < 24 ∧ bt x z = true ∧ ∀ k, z < k → k < 24 → bt x k = false
theorem gtB_of {x : Int32} (hx : lo24 x) (hne : x ≠ 0) : ∃ z, gtB x z := by
  have h1 : ∃ k, k < 24 ∧ bt x k = true := by
    apply Classical.byContradiction
    intro q
    apply hne
    apply b_ext
    intro i hi
    rw [b_0]
    by_cases h24 : i < 24
    · cases hb : bt x i
      · rfl
      · exact absurd ⟨i, h24, hb⟩ q
    · exact hx i hi (by omega)
  have key : ∀ n, n ≤ 24 → (∃ k, k < n ∧ bt x k = true) → (∀ k, n ≤ k → k < 24 → bt x k = false) → ∃ z, gtB x z := by
    intro n
    induction n with
    | zero => rintro _ ⟨k, hk, _⟩ _; omega
    | succ n ih =>
      rintro hn ⟨k, hk, hb⟩ hz
      cases hbn : bt x n
      · refine ih (by omega) ⟨k, ?_, hb⟩ (fun k' h1 h2 => ?_)
        · by_cases e : k = n
          · subst e; rw [hb] at hbn; cases hbn
          · omega
        · by_cases e : k' = n
          · subst e; exact hbn
          · exact hz k' (by omega) h2
      · exact ⟨n, by omega, hbn, fun k' h1 h2 => hz k' (by omega) h2⟩
  exact key 24 (by omega) h1 (fun k h1 h2 => by omega)
theorem gtB_one {x : Int32} {z z' : Nat} (h : gtB x z) (h' : gtB x z') : z = z' := by
  rcases Nat.lt_trichotomy z z' with q | q | q
  · have := h.2.2 z' q h'.1
    rw [h'.2.1] at this
    cases this
  · exact q
  · have := h'.2.2 z q h.1
    rw [h.2.1] at this
    cases this
theorem m1_nI {i : Nat} (h : i < 23) : nI (23 - i) + (-1) = nI (23 - (i + 1)) := by
  have e : 23 - i = (23 - (i + 1)) + 1 := by omega
  rw [e]
  exact pk_m1 _
theorem greatC {x : Int32} {z : Nat} (h : gtB x z) : f_Ps_greatestOf x = some (nI z) := by
  unfold f_Ps_greatestOf
  have hz := h.1
  obtain ⟨r, h1, h2⟩ := zloop_rel (step := fun q : Int32 => f_Ps_greatestOf_l3 x q) (I := fun i q => q = nI (23 - i)) (K := fun r => r = .inr (nI z)) (23 - z) 0 (s0 := 23) (by omega) (by omega) rfl
    (fun i q hi hq => by
      subst hq
      refine ⟨_, ?_, rfl⟩
      show f_Ps_greatestOf_l3 x (nI (23 - i)) = _
      unfold f_Ps_greatestOf_l3
      rw [if_neg (nI_pos (by omega)), has_f (by omega) (h.2.2 (23 - i) (by omega) (by omega)), if_pos rfl]
      simp only [zlet]
      rw [m1_nI (by omega)])
    (fun q hq => by
      subst hq
      refine ⟨_, ?_, rfl⟩
      show f_Ps_greatestOf_l3 x (nI (23 - (23 - z))) = _
      rw [show 23 - (23 - z) = z by omega]
      unfold f_Ps_greatestOf_l3
      rw [if_neg (nI_pos (by omega)), has_t (by omega) h.2.1, if_neg (by decide)])
  have h1 : zloop (fun q => f_Ps_greatestOf_l3 x q) zF (23 : Int32) = some r := h1
  rw [h1, h2]
  rfl
theorem greatR {x : Int32} {z : Nat} (h : gtB x z) : f_Md_greatest x = some (nI z) := by
  unfold f_Md_greatest
  have hz := h.1
  obtain ⟨r, h1, h2⟩ := zloop_rel (step := fun q : Int32 => f_Md_greatest_l3 x q) (I := fun i q => q = nI (23 - i)) (K := fun r => r = nI z) (23 - z) 0 (s0 := 23) (by omega) (by omega) rfl
    (fun i q hi hq => by
      subst hq
      refine ⟨_, ?_, rfl⟩
      show f_Md_greatest_l3 x (nI (23 - i)) = _
      unfold f_Md_greatest_l3
      rw [sh_f (by omega) (h.2.2 (23 - i) (by omega) (by omega)), if_pos rfl]
      simp only [zlet]
      rw [m1_nI (by omega)])
    (fun q hq => by
      subst hq
      refine ⟨_, ?_, rfl⟩
      show f_Md_greatest_l3 x (nI (23 - (23 - z))) = _
      rw [show 23 - (23 - z) = z by omega]
      unfold f_Md_greatest_l3
      rw [sh_t (by omega) h.2.1, if_neg (by decide)])
  have h1 : zloop (fun q => f_Md_greatest_l3 x q) zF (23 : Int32) = some r := h1
  rw [h1, h2]
  rfl
/-- the class's values and the reference's sets and constants -/
def RelW (N : Nat) (vals st cs : Nat → Int32) : Prop := (∀ w, w < 6 → Rv (vals w) (st w) (cs w) ∧ (∀ k, 25 ≤ k → k < 32 → bt (vals w) k = false) ∧ lo24 (st w) ∧ (cs w = 0 ∨ cs w = 1)) ∧ ∀ w, N ≤ w → w < 6 → vals w = 0 ∧ st w = 0 ∧ cs w = 0
theorem lt6 {i : Nat} (h : i < 6) : ¬ (6 : Int32) ≤ nI i := show ¬ nI 6 ≤ nI i from nI_ge h (by omega)
theorem ge6 : (6 : Int32) ≤ nI 6 := show nI 6 ≤ nI 6 from nI_le (Nat.le_refl 6) (by omega)
/-- y has a rule -/
def Can (P : Int32 → BitVec 3) (N : Nat) (inp th : Int32) (st : Nat → Int32) (y : Nat) : Prop := Hid N inp th st y ∧ ∃ k, KD P inp y k
theorem leastC {P : Int32 → BitVec 3} {mono : Int32} {num : Nat → Int32} (hp : PC P mono num) {N : Nat} (hN : N ≤ 6) {vals st cs : Nat → Int32} (hw : RelW N vals st cs) (inp th : Int32) :
    (∃ y k, y < 24 ∧ 1 ≤ k ∧ k ≤ 4 ∧ Hid N inp th st y ∧ KD P inp y k ∧ (∀ y', y' < y → ¬ Can P N inp th st y') ∧ f_Ps_leastBitWithRule th inp vals num = some (nI y) ∧ f_Ps_ruleFor (nI y) inp num = some (nI k)) ∨ ((∀ y, y < 24 → ¬ Can P N inp th st y) ∧ f_Ps_leastBitWithRule th inp vals num = some (-1)) := by
  unfold f_Ps_leastBitWithRule
  simp only [zlet]
  obtain ⟨cand, h1, h2⟩ := zloop_rel (step := fun q : Int32 × Int32 => f_Ps_leastBitWithRule_l14 th inp vals num q.1 q.2)
    (I := fun i q => q.2 = nI i ∧ ∀ y, y < 24 → (bt q.1 y = true ↔ (bt th y = true ∧ bt inp y = false ∧ ∀ w, w < i → bt (vals w) y = false)))
    (K := fun r => ∀ y, y < 24 → (bt r y = true ↔ (bt th y = true ∧ bt inp y = false ∧ ∀ w, w < 6 → bt (vals w) y = false))) 6 0 (s0 := (th &&& (inp ^^^ (-1)), 0)) (by omega) (by omega)
    ⟨by rw [nI_0], fun y hy => by
      rw [b_and, bt_not _ (by omega)]
      simp only [Bool.and_eq_true, Bool.not_eq_true']
      constructor
      · rintro ⟨a, b⟩; exact ⟨a, b, fun w hw => absurd hw (Nat.not_lt_zero _)⟩
      · rintro ⟨a, b, _⟩; exact ⟨a, b⟩⟩
    (fun i q hi hI => by
      obtain ⟨x, q2⟩ := q
      obtain ⟨e, hq⟩ := hI
      simp only at e hq
      subst e
      refine ⟨(x &&& (vals i ^^^ (-1)), nI (i + 1)), ?_, rfl, fun y hy => ?_⟩
      · show f_Ps_leastBitWithRule_l14 th inp vals num x (nI i) = _
        unfold f_Ps_leastBitWithRule_l14
        rw [if_neg (lt6 hi), if_neg (in_nI hi (by omega)), clampI (by omega)]
        simp only [zlet, nI_1]
      · show bt (x &&& (vals i ^^^ (-1))) y = true ↔ _
        rw [b_and, bt_not _ (by omega)]
        simp only [Bool.and_eq_true, Bool.not_eq_true']
        rw [hq y hy]
        constructor
        · rintro ⟨⟨a, b, c⟩, d⟩
          refine ⟨a, b, fun w hw => ?_⟩
          by_cases e : w = i
          · subst e; exact d
          · exact c w (by omega)
        · rintro ⟨a, b, c⟩
          exact ⟨⟨a, b, fun w hw => c w (by omega)⟩, c i (by omega)⟩)
    (fun q hI => by
      obtain ⟨x, q2⟩ := q
      obtain ⟨e, hq⟩ := hI
      simp only at e hq
      subst e
      refine ⟨x, ?_, hq⟩
      show f_Ps_leastBitWithRule_l14 th inp vals num x (nI 6) = _
      unfold f_Ps_leastBitWithRule_l14
      rw [if_pos ge6])
  have h1 : zloop (fun q => f_Ps_leastBitWithRule_l14 th inp vals num q.1 q.2) zF (th &&& (inp ^^^ (-1)), (0 : Int32)) = some cand := h1
  rw [h1]
  simp only [zb1]
  have hH : ∀ y, y < 24 → (bt cand y = true ↔ Hid N inp th st y) := by
    intro y hy
    rw [h2 y hy]
    constructor
    · rintro ⟨a, b, c⟩
      exact ⟨a, b, fun w hw' => by rw [← (hw.1 w (by omega)).1.1 y hy]; exact c w (by omega)⟩
    · rintro ⟨a, b, c⟩
      refine ⟨a, b, fun w hw6 => ?_⟩
      by_cases hwN : w < N
      · rw [(hw.1 w hw6).1.1 y hy]; exact c w hwN
      · rw [(hw.2 w (by omega) hw6).1, b_0]
  obtain ⟨r, h3, h4⟩ := zloop_rel2 (step := fun q : Int32 => f_Ps_leastBitWithRule_l39 cand th inp vals num q)
    (I := fun y q => q = nI y ∧ ∀ y', y' < y → ¬ Can P N inp th st y')
    (K := fun r => (∃ y k, y < 24 ∧ 1 ≤ k ∧ k ≤ 4 ∧ Hid N inp th st y ∧ KD P inp y k ∧ (∀ y', y' < y → ¬ Can P N inp th st y') ∧ r = .inr (nI y) ∧ f_Ps_ruleFor (nI y) inp num = some (nI k)) ∨ ((∀ y, y < 24 → ¬ Can P N inp th st y) ∧ r = .inl ())) 24 0 (s0 := 0) (by omega) (by omega)
    ⟨by rw [nI_0], fun y' h => absurd h (Nat.not_lt_zero _)⟩
    (fun y q hy hI => by
      obtain ⟨rfl, hg⟩ := hI
      have ext : ¬ Can P N inp th st y → ∀ y', y' < y + 1 → ¬ Can P N inp th st y' := by
        intro hn y' hy'
        by_cases e : y' = y
        · subst e; exact hn
        · exact hg y' (by omega)
      show (∃ s', f_Ps_leastBitWithRule_l39 cand th inp vals num (nI y) = _ ∧ _) ∨ (∃ r, f_Ps_leastBitWithRule_l39 cand th inp vals num (nI y) = _ ∧ _)
      unfold f_Ps_leastBitWithRule_l39
      rw [if_neg (lt24 hy)]
      simp only [zlet, nI_1]
      cases hb : bt cand y
      · rw [has_f (by omega) hb, if_pos rfl]
        refine Or.inl ⟨_, rfl, rfl, ext (fun q => ?_)⟩
        rw [(hH y hy).mpr q.1] at hb
        cases hb
      · rw [has_t (by omega) hb, if_neg (by decide)]
        rcases ruleC hp hy inp with ⟨k, k1, k2, hk, e⟩ | ⟨hk, e⟩
        · rw [e]
          simp only [zb1]
          rw [if_neg (by
            intro q
            have : nI k = -1 := q
            have h9 := nI_pos (n := k) (by omega)
            rw [this] at h9
            exact h9 (by decide))]
          exact Or.inr ⟨_, rfl, Or.inl ⟨y, k, hy, k1, k2, (hH y hy).mp hb, hk, hg, rfl, e⟩⟩
        · rw [e]
          simp only [zb1, if_true]
          refine Or.inl ⟨_, rfl, rfl, ext (fun q => ?_)⟩
          obtain ⟨_, k, q⟩ := q
          exact hk k q)
    (fun q hI => by
      obtain ⟨rfl, hg⟩ := hI
      refine ⟨.inl (), ?_, Or.inr ⟨hg, rfl⟩⟩
      show f_Ps_leastBitWithRule_l39 cand th inp vals num (nI 24) = _
      unfold f_Ps_leastBitWithRule_l39
      rw [if_pos ge24])
  have h3 : zloop (fun q => f_Ps_leastBitWithRule_l39 cand th inp vals num q) zF (0 : Int32) = some r := h3
  rw [h3]
  rcases h4 with ⟨y, k, a1, a2, a3, a4, a5, a6, rfl, a8⟩ | ⟨hn, rfl⟩
  · exact Or.inl ⟨y, k, a1, a2, a3, a4, a5, a6, rfl, a8⟩
  · exact Or.inr ⟨hn, rfl⟩
end
section
/-! rows filled, sums emptied, a bit replaced in the values -/
theorem fill_eq {n : Nat} (hn : n < 100000) (v : Int32) (f : Nat → Int32) : f_Jarr_fill n v f = some (fun j => if j < n then v else f j) := by
  unfold f_Jarr_fill
  simp only [zlet]
  obtain ⟨r, h1, h2⟩ := zloop_rel (step := fun q : Int32 × (Nat → Int32) => f_Jarr_fill_l5 n v (Int32.ofNat n) q.1 q.2) (I := fun i q => q = (nI i, fun j => if j < i then v else f j)) (K := fun r => r = fun j => if j < n then v else f j) n 0 (s0 := (0, f)) hn (by omega)
    (by rw [nI_0]; simp)
    (fun i q hi hq => by
      subst hq
      refine ⟨_, ?_, rfl⟩
      show f_Jarr_fill_l5 n v (nI n) (nI i) _ = _
      unfold f_Jarr_fill_l5
      rw [if_neg (nI_ge hi (by omega)), if_neg (in_nI hi (by omega)), clampI (by omega)]
      simp only [zlet, nI_1]
      have e : (upd (fun j => if j < i then v else f j) i v) = (fun j => if j < i + 1 then v else f j) := by
        funext j
        unfold upd
        by_cases e : j = i
        · subst e; simp
        · have : (j < i) ↔ (j < i + 1) := by omega
          simp [e, this]
      rw [e])
    (fun q hq => by
      subst hq
      refine ⟨_, ?_, rfl⟩
      show f_Jarr_fill_l5 n v (nI n) (nI n) _ = _
      unfold f_Jarr_fill_l5
      rw [if_pos (nI_le (Nat.le_refl n) (by omega))])
  have h1 : zloop (fun q => f_Jarr_fill_l5 n v (Int32.ofNat n) q.1 q.2) zF ((0 : Int32), f) = some r := h1
  rw [h1, h2]
  rfl
theorem cntN_zero {f : Nat → Int32} : ∀ n, (∀ k, k < n → f k = 0) → cntN f n = 0
  | 0, _ => rfl
  | n + 1, h => by
    unfold cntN
    rw [cntN_zero n (fun k hk => h k (by omega)), if_pos (h n (by omega))]
/-- the polynomial without monomials -/
def P0 : Int32 → BitVec 3 := fun _ => 0
theorem PC_zero (num : Nat → Int32) : PC P0 0 (fun j => if j < 2325 then 0 else num j) := by
  refine ⟨fun m c hc => ?_, ?_⟩
  · have := (plC_at hc).1
    show (if c < 2325 then 0 else num c) = toI 0
    rw [if_pos this, toI_0]
  · rw [cntN_zero 2325 (fun k hk => by show (if k < 2325 then 0 else num k) = 0; rw [if_pos hk]), nI_0]
theorem clearC (mono : Int32) (num : Nat → Int32) : ∃ num', f_Po_clear mono num = some (0, num') ∧ PC P0 0 num' := by
  unfold f_Po_clear
  rw [fill_eq (by omega)]
  exact ⟨_, rfl, PC_zero num⟩
theorem PR_zero (num : Nat → Int32) : PR P0 (fun j => if j < 15625 then 0 else num j) := by
  refine ⟨fun m r _ hr _ => ?_, fun k hk hne => ?_⟩
  · show (if r < 15625 then 0 else num r) = toI 0
    rw [if_pos hr, toI_0]
  · exfalso
    apply hne
    show (if k < 15625 then 0 else num k) = 0
    rw [if_pos hk]
theorem lt15 {i : Nat} (h : i < 15625) : ¬ (15625 : Int32) ≤ nI i := show ¬ nI 15625 ≤ nI i from nI_ge h (by omega)
theorem ge15 : (15625 : Int32) ≤ nI 15625 := show nI 15625 ≤ nI 15625 from nI_le (Nat.le_refl _) (by omega)
theorem upd_fill (f : Nat → Int32) (i : Nat) (v : Int32) : upd (fun j => if j < i then v else f j) i v = fun j => if j < i + 1 then v else f j := by
  funext j
  unfold upd
  by_cases e : j = i
  · subst e; simp
  · have : (j < i) ↔ (j < i + 1) := by omega
    simp [e, this]
/-- the inputs of the reference -/
theorem emptyR {N : Nat} (hN : N ≤ 6) (op em th ha : Int32) (num st : Nat → Int32) : ∃ num', f_Md_empty (nI N) op em th ha num st = some (1, th &&& f_Md_inputs (nI N) op, 0, num', fun w => if w < N then st w &&& f_Md_inputs (nI N) op else st w) ∧ PR P0 num' := by
  unfold f_Md_empty
  simp only [zlet]
  obtain ⟨r, h1, h2⟩ := zloop_rel (step := fun q : Int32 × (Nat → Int32) => f_Md_empty_l25 (nI N) op 1 (th &&& f_Md_inputs (nI N) op) 0 st q.1 q.2) (I := fun i q => q = (nI i, fun j => if j < i then 0 else num j)) (K := fun r => r = fun j => if j < 15625 then 0 else num j) 15625 0 (s0 := (0, num)) (by omega) (by omega)
    (by rw [nI_0]; simp)
    (fun i q hi hq => by
      subst hq
      refine ⟨_, ?_, rfl⟩
      show f_Md_empty_l25 (nI N) op 1 (th &&& f_Md_inputs (nI N) op) 0 st (nI i) _ = _
      unfold f_Md_empty_l25
      rw [if_neg (lt15 hi), if_neg (in_nI hi (by omega)), clampI (by omega)]
      simp only [zlet, nI_1]
      rw [upd_fill])
    (fun q hq => by
      subst hq
      refine ⟨_, ?_, rfl⟩
      show f_Md_empty_l25 (nI N) op 1 (th &&& f_Md_inputs (nI N) op) 0 st (nI 15625) _ = _
      unfold f_Md_empty_l25
      rw [if_pos ge15])
  have h1 : zloop (fun q => f_Md_empty_l25 (nI N) op 1 (th &&& f_Md_inputs (nI N) op) 0 st q.1 q.2) zF ((0 : Int32), num) = some r := h1
  rw [h1, h2]
  simp only [zb1]
  obtain ⟨r3, h3, h4⟩ := zloop_rel (step := fun q : Int32 × (Nat → Int32) => f_Md_empty_l47 (nI N) op 1 (th &&& f_Md_inputs (nI N) op) 0 (fun j => if j < 15625 then 0 else num j) q.1 q.2) (I := fun i q => q = (nI i, fun w => if w < i then st w &&& f_Md_inputs (nI N) op else st w)) (K := fun r => r = fun w => if w < N then st w &&& f_Md_inputs (nI N) op else st w) N 0 (s0 := (0, st)) (by omega) (by omega)
    (by rw [nI_0]; simp)
    (fun i q hi hq => by
      subst hq
      refine ⟨_, ?_, rfl⟩
      show f_Md_empty_l47 (nI N) op 1 (th &&& f_Md_inputs (nI N) op) 0 _ (nI i) _ = _
      unfold f_Md_empty_l47
      have hin := in_nI (show i < 6 by omega) (show 6 < 2 ^ 31 by omega)
      rw [if_neg (nI_ge hi (by omega)), if_neg hin, if_neg hin, clampI (by omega)]
      simp only [zlet, nI_1]
      have e : upd (fun w => if w < i then st w &&& f_Md_inputs (nI N) op else st w) i ((if i < i then st i &&& f_Md_inputs (nI N) op else st i) &&& f_Md_inputs (nI N) op) = fun w => if w < i + 1 then st w &&& f_Md_inputs (nI N) op else st w := by
        funext w
        unfold upd
        by_cases e : w = i
        · subst e; simp
        · have : (w < i) ↔ (w < i + 1) := by omega
          simp [e, this]
      rw [e])
    (fun q hq => by
      subst hq
      refine ⟨_, ?_, rfl⟩
      show f_Md_empty_l47 (nI N) op 1 (th &&& f_Md_inputs (nI N) op) 0 _ (nI N) _ = _
      unfold f_Md_empty_l47
      rw [if_pos (nI_le (Nat.le_refl N) (by omega))])
  have h3 : zloop (fun q => f_Md_empty_l47 (nI N) op 1 (th &&& f_Md_inputs (nI N) op) 0 (fun j => if j < 15625 then 0 else num j) q.1 q.2) zF ((0 : Int32), st) = some r3 := h3
  rw [h3, h4]
  exact ⟨_, rfl, PR_zero num⟩
theorem emptyC (th inp rb em mono : Int32) (vals num : Nat → Int32) : ∃ num', f_Ps_becomeEmpty th inp rb em vals mono num = some (inp, 0, 1, (fun w => if w < 6 then vals w &&& (inp ||| 16777216) else vals w), 0, num') ∧ PC P0 0 num' := by
  unfold f_Ps_becomeEmpty
  obtain ⟨r3, h3, h4⟩ := zloop_rel (step := fun q : Int32 × (Nat → Int32) => f_Ps_becomeEmpty_l2 th inp rb em mono num q.1 q.2) (I := fun i q => q = (nI i, fun w => if w < i then vals w &&& (inp ||| 16777216) else vals w)) (K := fun r => r = fun w => if w < 6 then vals w &&& (inp ||| 16777216) else vals w) 6 0 (s0 := (0, vals)) (by omega) (by omega)
    (by rw [nI_0]; simp)
    (fun i q hi hq => by
      subst hq
      refine ⟨_, ?_, rfl⟩
      show f_Ps_becomeEmpty_l2 th inp rb em mono num (nI i) _ = _
      unfold f_Ps_becomeEmpty_l2
      have hin := in_nI (show i < 6 by omega) (show 6 < 2 ^ 31 by omega)
      rw [if_neg (lt6 hi), if_neg hin, if_neg hin, clampI (by omega)]
      simp only [zlet, nI_1]
      have e : upd (fun w => if w < i then vals w &&& (inp ||| 16777216) else vals w) i ((if i < i then vals i &&& (inp ||| 16777216) else vals i) &&& (inp ||| 16777216)) = fun w => if w < i + 1 then vals w &&& (inp ||| 16777216) else vals w := by
        funext w
        unfold upd
        by_cases e : w = i
        · subst e; simp
        · have : (w < i) ↔ (w < i + 1) := by omega
          simp [e, this]
      rw [e])
    (fun q hq => by
      subst hq
      refine ⟨_, ?_, rfl⟩
      show f_Ps_becomeEmpty_l2 th inp rb em mono num (nI 6) _ = _
      unfold f_Ps_becomeEmpty_l2
      rw [if_pos ge6])
  have h3 : zloop (fun q => f_Ps_becomeEmpty_l2 th inp rb em mono num q.1 q.2) zF ((0 : Int32), vals) = some r3 := h3
  rw [h3, h4]
  simp only [zb1]
  obtain ⟨nu, c1, c2⟩ := clearC mono num
  rw [c1]
  exact ⟨nu, rfl, c2⟩
/-- a bit replaced in the values, the first n of them -/
def vaB (vals : Nat → Int32) (z : Nat) (v : Int32) (n : Nat) : Nat → Int32 := fun w => if w < n ∧ bt (vals w) z = true then vals w ^^^ (sb z ^^^ v) else vals w
theorem valsC {z : Nat} (hz : z < 24) (v : Int32) (vals : Nat → Int32) : f_Ps_replaceInValues (nI z) v vals = some (vaB vals z v 6) := by
  unfold f_Ps_replaceInValues
  obtain ⟨r, h1, h2⟩ := zloop_rel (step := fun q : Int32 × (Nat → Int32) => f_Ps_replaceInValues_l2 (nI z) v q.1 q.2) (I := fun i q => q = (nI i, vaB vals z v i)) (K := fun r => r = vaB vals z v 6) 6 0 (s0 := (0, vals)) (by omega) (by omega)
    (by
      have e : vaB vals z v 0 = vals := by funext w; simp [vaB]
      rw [nI_0, e])
    (fun i q hi hq => by
      subst hq
      refine ⟨_, ?_, rfl⟩
      show f_Ps_replaceInValues_l2 (nI z) v (nI i) (vaB vals z v i) = _
      unfold f_Ps_replaceInValues_l2
      have ew : vaB vals z v i i = vals i := by unfold vaB; rw [if_neg (by omega)]
      have hin := in_nI (show i < 6 by omega) (show 6 < 2 ^ 31 by omega)
      have hin2 : ¬ (nI i < 0 ∨ 6 ≤ i) := by
        have h := hin
        rw [clampI (by omega)] at h
        exact h
      rw [if_neg (lt6 hi), if_neg hin, clampI (by omega), ew, sbe z]
      simp only [zlet, nI_1]
      cases hb : bt (vals i) z
      · rw [has_f (by omega) hb, if_pos rfl]
        have e : vaB vals z v i = vaB vals z v (i + 1) := by
          funext w
          unfold vaB
          by_cases e : w = i
          · subst e; simp [hb]
          · have : (w < i ∧ bt (vals w) z = true) ↔ (w < i + 1 ∧ bt (vals w) z = true) := ⟨fun q => ⟨by omega, q.2⟩, fun q => ⟨by omega, q.2⟩⟩
            simp only [this]
        rw [e]
      · rw [has_t (by omega) hb, if_neg (by decide), if_neg hin2, if_neg hin2]
        have e : upd (vaB vals z v i) i (vals i ^^^ (sb z ^^^ v)) = vaB vals z v (i + 1) := by
          funext w
          unfold vaB upd
          by_cases e : w = i
          · subst e; simp [hb]
          · have : (w < i ∧ bt (vals w) z = true) ↔ (w < i + 1 ∧ bt (vals w) z = true) := ⟨fun q => ⟨by omega, q.2⟩, fun q => ⟨by omega, q.2⟩⟩
            simp only [this, if_neg e]
        rw [e])
    (fun q hq => by
      subst hq
      refine ⟨_, ?_, rfl⟩
      show f_Ps_replaceInValues_l2 (nI z) v (nI 6) (vaB vals z v 6) = _
      unfold f_Ps_replaceInValues_l2
      rw [if_pos ge6])
  have h1 : zloop (fun q => f_Ps_replaceInValues_l2 (nI z) v q.1 q.2) zF ((0 : Int32), vals) = some r := h1
  rw [h1, h2]
  rfl
theorem bit1_eq {c : Int32} (h : c = 0 ∨ c = 1) {d : Int32} (h' : d = 0 ∨ d = 1) : (c ^^^ d = 0 ∨ c ^^^ d = 1) ∧ (c ^^^ d = 1 ↔ ((c = 1) ↔ ¬ (d = 1))) := by
  rcases h with rfl | rfl <;> rcases h' with rfl | rfl <;> decide
/-- the values after a bit is replaced -/
theorem RelW_rep {N : Nat} (hN : N ≤ 6) {vals st cs : Nat → Int32} (h : RelW N vals st cs) {z : Nat} (hz : z < 24) {v s c : Int32} (hv : Rv v s c) (hvl : ∀ k, 25 ≤ k → k < 32 → bt v k = false) (hs : lo24 s) (hsz : bt s z = false) (hc : c = 0 ∨ c = 1) : RelW N (vaB vals z v 6) (stB st z s N) (csB cs st z c N) := by
  refine ⟨fun w hw => ?_, fun w hw hw6 => ?_⟩
  · obtain ⟨⟨h1, h2⟩, h3, h4, h5⟩ := h.1 w hw
    by_cases hb : bt (st w) z = true
    · have hwN : w < N := by
        apply Classical.byContradiction
        intro q
        rw [(h.2 w (by omega) hw).2.1, b_0] at hb
        cases hb
      have hbv : bt (vals w) z = true := by rw [h1 z hz]; exact hb
      have e1 : vaB vals z v 6 w = vals w ^^^ (sb z ^^^ v) := if_pos ⟨hw, hbv⟩
      have e2 : stB st z s N w = wo (st w) z ^^^ s := if_pos ⟨hwN, hb⟩
      have e3 : csB cs st z c N w = cs w ^^^ c := if_pos ⟨hwN, hb⟩
      rw [e1, e2, e3]
      have hx := bit1_eq h5 hc
      refine ⟨⟨fun k hk => ?_, ?_⟩, fun k hk hk2 => ?_, lo24_xor (lo24_wo h4 z) hs, hx.1⟩
      · rw [b_xor, b_xor, b_xor, bt_sb (by omega) (by omega), bt_wo _ hz (by omega), h1 k hk, hv.1 k hk]
        by_cases e : z = k
        · subst e; simp [hb]
        · have e' : k ≠ z := fun q => e q.symm
          simp [e, e']
      · rw [b_xor, b_xor, bt_sb (by omega) (by omega), hx.2, ← h2, ← hv.2]
        have : decide (z = 24) = false := by simp; omega
        rw [this]
        cases bt (vals w) 24 <;> cases bt v 24 <;> simp
      · rw [b_xor, b_xor, bt_sb (by omega) (by omega), h3 k hk hk2, hvl k hk hk2]
        simp
        omega
    · have hbv : ¬ bt (vals w) z = true := by rw [h1 z hz]; exact hb
      have e1 : vaB vals z v 6 w = vals w := if_neg (fun q => hbv q.2)
      have e2 : stB st z s N w = st w := if_neg (fun q => hb q.2)
      have e3 : csB cs st z c N w = cs w := if_neg (fun q => hb q.2)
      rw [e1, e2, e3]
      exact h.1 w hw
  · obtain ⟨a, b, d⟩ := h.2 w hw hw6
    have e1 : vaB vals z v 6 w = vals w := if_neg (fun q => by rw [a, b_0] at q; cases q.2)
    have e2 : stB st z s N w = st w := if_neg (fun q => by omega)
    have e3 : csB cs st z c N w = cs w := if_neg (fun q => by omega)
    rw [e1, e2, e3]
    exact ⟨a, b, d⟩
/-- the values of an emptied sum -/
theorem RelW_empty {N : Nat} (hN : N ≤ 6) {vals st cs : Nat → Int32} (h : RelW N vals st cs) {inp : Int32} (hi : lo24 inp) : RelW N (fun w => if w < 6 then vals w &&& (inp ||| 16777216) else vals w) (fun w => if w < N then st w &&& inp else st w) cs := by
  refine ⟨fun w hw => ?_, fun w hw hw6 => ?_⟩
  · obtain ⟨⟨h1, h2⟩, h3, h4, h5⟩ := h.1 w hw
    show Rv (if w < 6 then vals w &&& (inp ||| 16777216) else vals w) (if w < N then st w &&& inp else st w) (cs w) ∧ (∀ k, 25 ≤ k → k < 32 → bt (if w < 6 then vals w &&& (inp ||| 16777216) else vals w) k = false) ∧ lo24 (if w < N then st w &&& inp else st w) ∧ _
    rw [if_pos hw]
    have hst : (if w < N then st w &&& inp else st w) = st w &&& inp := by
      by_cases hwN : w < N
      · rw [if_pos hwN]
      · rw [if_neg hwN, (h.2 w (by omega) hw).2.1]
        apply b_ext
        intro i _
        rw [b_and, b_0]
        rfl
    rw [hst]
    refine ⟨⟨fun k hk => ?_, ?_⟩, fun k hk hk2 => ?_, lo24_and h4 _, h5⟩
    · rw [b_and, b_and, b_or, h1 k hk, bt_one k (by omega)]
      have : decide (k = 24) = false := by simp; omega
      rw [this, Bool.or_false]
    · rw [b_and, b_or, bt_one 24 (by omega), hi 24 (by omega) (by omega)]
      simpa using h2
    · rw [b_and, h3 k hk hk2]
      rfl
  · obtain ⟨a, b, d⟩ := h.2 w hw hw6
    show (if w < 6 then vals w &&& (inp ||| 16777216) else vals w) = 0 ∧ (if w < N then st w &&& inp else st w) = 0 ∧ cs w = 0
    rw [if_pos hw6, if_neg (by omega), a]
    refine ⟨?_, b, d⟩
    apply b_ext
    intro i _
    rw [b_and, b_0]
    rfl
end
section
/-! a rule is done: class and reference side by side -/
/-- the rules done so far are the same -/
def RelD (r : Nat) (cnt : Int32) (kd ys zs : Nat → Int32) (rules : Int32) (rk rb ro : Nat → Int32) : Prop := cnt = nI r ∧ rules = nI r ∧ ∀ i, i < r → kd i = rk i ∧ ys i = rb i ∧ zs i = ro i
/-- the bits that are there, the inputs, how many rules there may have been -/
def RelT (N c r : Nat) (op th inp : Int32) : Prop := N ≤ 6 ∧ 1 ≤ N ∧ c ≤ 24 ∧ lo24 th ∧ (∀ k, k < 24 → bt th k = true → k < c) ∧ (op = 0 ∨ op = 1) ∧ inp = f_Md_inputs (nI N) op ∧ lo24 inp ∧ (∀ k, k < 24 → bt inp k = true → bt th k = true) ∧ r + (bl (th &&& (inp ^^^ (-1)))).length ≤ c
theorem bl_wo (x : Int32) {y : Nat} (hy : y < 24) : bl (wo x y) = (bl x).filter (fun k => decide (k ≠ y)) := by
  unfold bl
  rw [List.filter_filter]
  apply List.filter_congr
  intro k hk
  have := List.mem_range.mp hk
  rw [bt_wo x hy (by omega), Bool.and_comm]
theorem filter_lt {l : List Nat} {y : Nat} (h : y ∈ l) : (l.filter (fun k => decide (k ≠ y))).length < l.length := by
  induction l with
  | nil => cases h
  | cons a l ih =>
    by_cases e : a = y
    · subst e
      have := List.length_filter_le (fun k => decide (k ≠ a)) l
      simp
      exact Nat.lt_succ_of_le (by simpa using this)
    · have h1 : y ∈ l := by
        rcases List.mem_cons.mp h with q | q
        · exact absurd q.symm e
        · exact q
      have h2 := ih h1
      simp [e]
      simpa using h2
theorem bl_wo_lt {x : Int32} {y : Nat} (hy : y < 24) (h : bt x y = true) : (bl (wo x y)).length < (bl x).length := by
  rw [bl_wo x hy]
  exact filter_lt (mem_bl.mpr ⟨hy, h⟩)
theorem bl_wo_le (x : Int32) {y : Nat} (hy : y < 24) : (bl (wo x y)).length ≤ (bl x).length := by
  rw [bl_wo x hy]
  exact List.length_filter_le _ _
theorem wo_and (x y : Int32) (z : Nat) : wo x z &&& y = wo (x &&& y) z := by
  unfold wo
  apply b_ext
  intro k _
  simp only [b_and]
  cases bt x k <;> cases bt y k <;> cases bt (sb z ^^^ (-1)) k <;> rfl
theorem bl_zero : bl 0 = [] := by decide
theorem and_self_not (x : Int32) : x &&& (x ^^^ (-1)) = 0 := by
  apply b_ext
  intro k hk
  rw [b_and, bt_not _ hk, b_0]
  cases bt x k <;> rfl
theorem keepC {r : Nat} (hr : r < 24) (k y z : Int32) (kd ys zs : Nat → Int32) : f_Dr_keep k y z (nI r) kd ys zs = some (nI (r + 1), upd kd r k, upd ys r y, upd zs r z) := by
  unfold f_Dr_keep
  have hin := in_nI hr (show 24 < 2 ^ 31 by omega)
  rw [if_neg (nI_pos (by omega)), if_pos (show nI r < 24 from (show nI r < nI 24 from nI_lt hr (by omega))), if_neg hin]
  simp only [zlet]
  rw [if_neg hin, if_neg hin, clampI (by omega)]
  show some (nI r + 1, _, _, _) = _
  rw [nI_1]
theorem RelD_next {r : Nat} {cnt : Int32} {kd ys zs : Nat → Int32} {rules : Int32} {rk rb ro : Nat → Int32} (h : RelD r cnt kd ys zs rules rk rb ro) (k y z : Int32) : RelD (r + 1) (nI (r + 1)) (upd kd r k) (upd ys r y) (upd zs r z) (nI (r + 1)) (upd rk r k) (upd rb r y) (upd ro r z) := by
  refine ⟨rfl, rfl, fun i hi => ?_⟩
  by_cases e : i = r
  · subst e
    simp only [pk_us]
    exact ⟨trivial, trivial, trivial⟩
  · rw [pk_un e, pk_un e, pk_un e, pk_un e, pk_un e, pk_un e]
    exact h.2.2 i (by omega)
/-- the reference's record of a rule -/
theorem recR {r : Nat} (hr : r < 24) (x1 x2 x3 wi op em th ha al hb : Int32) (num st rk rb ro oS oN cs : Nat → Int32) : f_Md_doRule_j134 x1 x2 x3 wi op em th ha (nI r) al hb num st rk rb ro oS oN cs = some (em, th, ha, nI (r + 1), num, st, upd rk r x1, upd rb r x2, upd ro r x3, oS, oN, cs) := by
  unfold f_Md_doRule_j134
  have hin := in_nI hr (show 24 < 2 ^ 31 by omega)
  rw [if_neg hin]
  simp only [zlet]
  rw [if_neg hin, if_neg hin, clampI (by omega)]
  show some (_, _, _, nI r + 1, _) = _
  rw [nI_1]
theorem RelT_less {N c r : Nat} {op th inp th' : Int32} (h : RelT N c r op th inp) (h1 : lo24 th') (h2 : ∀ k, k < 24 → bt th' k = true → bt th k = true) (h3 : ∀ k, k < 24 → bt inp k = true → bt th' k = true) (h4 : (bl (th' &&& (inp ^^^ (-1)))).length < (bl (th &&& (inp ^^^ (-1)))).length) : RelT N c (r + 1) op th' inp := by
  obtain ⟨a1, a2, a3, a4, a5, a6, a7, a8, a9, a10⟩ := h
  exact ⟨a1, a2, a3, h1, fun k hk hb => a5 k hk (h2 k hk hb), a6, a7, a8, h3, by omega⟩
theorem Rv_self {x : Int32} (hx : lo24 x) : Rv x x 0 := ⟨fun _ _ => rfl, by rw [hx 24 (by omega) (by omega)]; decide⟩
theorem Rv_one {x : Int32} (hx : lo24 x) : Rv (x ||| 16777216) x 1 := by
  refine ⟨fun k hk => ?_, ?_⟩
  · rw [b_or, bt_one k (by omega)]
    have : decide (k = 24) = false := by simp; omega
    rw [this, Bool.or_false]
  · rw [b_or, bt_one 24 (by omega)]
    simp
/-- how many roots lie below: bounded by the bits that came and the rules that were done -/
def HB (c r : Nat) (ha : Int32) : Prop := ∃ h : Int, ha = Int32.ofInt h ∧ -(2 * (r : Int)) ≤ h ∧ h ≤ 2 * (c : Int)
theorem HB_sub {c r : Nat} {ha ha' : Int32} (h : HB c r ha) (e : ha' = ha - 2 ∨ ha' = ha - 1 ∨ ha' = 0) : HB c (r + 1) ha' := by
  obtain ⟨h, rfl, h1, h2⟩ := h
  rcases e with rfl | rfl | rfl
  · exact ⟨h - 2, by rw [Int32.ofInt_sub]; rfl, by omega, by omega⟩
  · exact ⟨h - 1, by rw [Int32.ofInt_sub]; rfl, by omega, by omega⟩
  · exact ⟨0, rfl, by omega, by omega⟩
theorem HB_add {c r : Nat} {ha : Int32} (h : HB c r ha) : HB (c + 1) r (ha + 1) ∧ HB (c + 1) r (ha + 2) := by
  obtain ⟨h, rfl, h1, h2⟩ := h
  exact ⟨⟨h + 1, by rw [Int32.ofInt_add]; rfl, by omega, by omega⟩, ⟨h + 2, by rw [Int32.ofInt_add]; rfl, by omega, by omega⟩⟩
theorem HB_0 (c r : Nat) : HB c r 0 := ⟨0, rfl, by omega, by omega⟩
theorem doRule_sim {P : Int32 → BitVec 3} {mono : Int32} {num number : Nat → Int32} (hpc : PC P mono num) (hpr : PR P number) {N c r : Nat} {op th inp : Int32} (ht : RelT N c r op th inp) {vals st cs : Nat → Int32} (hw : RelW N vals st cs)
    {cnt rules : Int32} {kd ys zs rk rb ro : Nat → Int32} (hd : RelD r cnt kd ys zs rules rk rb ro) {y k : Nat} (hy : y < 24) (hid : Hid N inp th st y) (hk : KD P inp y k) (ha em : Int32) (oS oN : Nat → Int32) (k1 : 1 ≤ k) (k4 : k ≤ 4) :
    ∃ P' th' ha' em' mono' num' number' vals' st' cs' oS' oN' kd' ys' zs' rk' rb' ro',
      f_Ps_doRule (nI k) (nI y) th inp ha em mono num cnt kd ys zs vals = some (th', ha', em', mono', num', nI (r + 1), kd', ys', zs', vals') ∧
      f_Md_doRule (nI k) (nI y) (nI N) op em th ha rules (toI (P (sb y))) (hbP P y) number st rk rb ro oS oN cs = some (em', th', ha', nI (r + 1), number', st', rk', rb', ro', oS', oN', cs') ∧
      PC P' mono' num' ∧ PR P' number' ∧ RelT N c (r + 1) op th' inp ∧ RelW N vals' st' cs' ∧ RelD (r + 1) (nI (r + 1)) kd' ys' zs' (nI (r + 1)) rk' rb' ro' ∧ (bl (th' &&& (inp ^^^ (-1)))).length < (bl (th &&& (inp ^^^ (-1)))).length ∧ (em' = em ∨ em' = 1) ∧ (ha' = ha - 2 ∨ ha' = ha - 1 ∨ ha' = 0) := by
  have hT := ht
  obtain ⟨a1, a2, a3, a4, a5, a6, a7, a8, a9, a10⟩ := ht
  obtain ⟨hd1, hd2, hd3⟩ := id hd
  subst hd1
  subst hd2
  have hby : bt (th &&& (inp ^^^ (-1))) y = true := by
    rw [b_and, bt_not _ (by omega), hid.1, hid.2.1]
    rfl
  have hpos : 0 < (bl (th &&& (inp ^^^ (-1)))).length := List.length_pos_of_mem (mem_bl.mpr ⟨hy, hby⟩)
  have hr : r < 24 := by omega
  have g := hk.1
  have hpa : f_Po_partnersOf (nI y) num = some (hbP P y) := by
    rcases partC hpc hy with ⟨_, e⟩ | ⟨q, _⟩
    · exact e
    · exact absurd g q
  have hlt1 : (bl (wo th y &&& (inp ^^^ (-1)))).length < (bl (th &&& (inp ^^^ (-1)))).length := by
    rw [wo_and]
    exact bl_wo_lt hy hby
  have hsub : ∀ k, k < 24 → bt (wo th y) k = true → bt th k = true := fun k hk h => by
    rw [bt_wo _ hy (by omega)] at h
    simp at h
    exact h.1
  have hinp1 : ∀ k, k < 24 → bt inp k = true → bt (wo th y) k = true := fun k hk h => by
    rw [bt_wo _ hy (by omega), a9 k hk h]
    have : k ≠ y := fun q => by subst q; rw [hid.2.1] at h; cases h
    simp [this]
  obtain ⟨mo1, nu1, c1, c2⟩ := dropC hpc hy
  obtain ⟨nr1, d1, d2⟩ := dropR hpr hy th
  unfold f_Ps_doRule
  rw [sbe y, numC hpc (all_1 hy), hpa]
  simp only [zb1]
  rcases hk.2 with ⟨rfl, hb, hP⟩ | ⟨rfl, hb, hP⟩ | ⟨rfl, hP⟩ | ⟨rfl, hP, hb⟩
  · -- 1
    rw [if_neg (show ¬ nI 1 = 3 by decide)]
    unfold f_Ps_doRule_j42
    rw [keepC hr]
    simp only [zb4]
    rw [if_neg (show ¬ nI 1 = 2 by decide), c1]
    simp only [zb2, zlet]
    rw [if_neg (show ¬ nI 1 = 4 by decide)]
    unfold f_Ps_doRule_j103
    simp only [zlet]
    rw [if_neg (show ¬ nI 1 = 3 by decide), if_neg (show ¬ nI 1 = 4 by decide), wo_sb]
    refine ⟨dropP P y, wo th y, ha - 2, em, mo1, nu1, nr1, vals, st, cs, oS, oN, _, _, _, _, _, _, rfl, ?_, c2, d2, RelT_less hT (lo24_wo a4 y) hsub hinp1 hlt1, hw, RelD_next hd (nI 1) (nI y) (-1), hlt1, Or.inl rfl, Or.inl rfl⟩
    unfold f_Md_doRule
    rw [if_neg (show ¬ nI 1 = 2 by decide), d1]
    simp only [zb2]
    rw [if_neg (show ¬ nI 1 = 4 by decide)]
    unfold f_Md_doRule_j46 f_Md_doRule_j50 f_Md_doRule_j92
    simp only [zlet]
    rw [if_neg (show ¬ nI 1 = 3 by decide), if_neg (show ¬ nI 1 = 4 by decide), recR hr]
  · -- 2
    rw [if_neg (show ¬ nI 2 = 3 by decide)]
    unfold f_Ps_doRule_j42
    rw [keepC hr]
    simp only [zb4]
    rw [if_pos (show nI 2 = 2 by decide)]
    obtain ⟨nu2, e1, e2⟩ := emptyC th inp ha em mono vals num
    rw [e1]
    simp only [zb6]
    obtain ⟨nr2, f1, f2⟩ := emptyR a1 op em th ha number st
    have hth : th &&& inp = inp := by
      apply b_ext
      intro k hk
      rw [b_and]
      by_cases h24 : k < 24
      · cases hbi : bt inp k
        · simp
        · rw [a9 k h24 hbi]; rfl
      · rw [a8 k hk (by omega)]; simp
    have hz0 : (bl (inp &&& (inp ^^^ (-1)))).length = 0 := by rw [and_self_not, bl_zero]; rfl
    refine ⟨P0, inp, 0, 1, 0, nu2, nr2, _, _, cs, oS, oN, _, _, _, _, _, _, rfl, ?_, e2, f2, RelT_less hT a8 (fun k hk h => a9 k hk h) (fun k hk h => h) (by omega), RelW_empty a1 hw a8, RelD_next hd (nI 2) (nI y) (-1), by omega, Or.inr rfl, Or.inr (Or.inr rfl)⟩
    unfold f_Md_doRule
    rw [if_pos (show nI 2 = 2 by decide), f1]
    simp only [zb5]
    unfold f_Md_doRule_j50 f_Md_doRule_j92
    rw [if_neg (show ¬ nI 2 = 3 by decide), if_neg (show ¬ nI 2 = 4 by decide), recR hr, ← a7, hth]
  · -- 4
    rw [if_neg (show ¬ nI 4 = 3 by decide)]
    unfold f_Ps_doRule_j42
    rw [keepC hr]
    simp only [zb4]
    rw [if_neg (show ¬ nI 4 = 2 by decide), c1]
    simp only [zb2, zlet]
    rw [if_pos (show nI 4 = 4 by decide)]
    unfold f_Ps_doRule_j103
    simp only [zlet]
    rw [if_neg (show ¬ nI 4 = 3 by decide), if_pos (show nI 4 = 4 by decide), wo_sb]
    have hlo := lo24_hbP P y
    unfold f_Md_doRule
    rw [if_neg (show ¬ nI 4 = 2 by decide), d1]
    simp only [zb2]
    rw [if_pos (show nI 4 = 4 by decide)]
    unfold f_Md_doRule_j46 f_Md_doRule_j50 f_Md_doRule_j92
    simp only [zlet]
    rw [if_neg (show ¬ nI 4 = 3 by decide), if_pos (show nI 4 = 4 by decide)]
    have fin : ∀ (n1 n2 : Int32), ∃ P' mono' num' number', (∃ m2 u2, f_Po_add 0 n1 mo1 nu1 = some (m2, u2) ∧ f_Po_addXor n2 (hbP P y) 0 m2 u2 = some (mono', num')) ∧ (∃ u2, f_Md_add 0 n1 nr1 = some u2 ∧ f_Md_addOr (hbP P y) 0 n2 0 u2 = some number') ∧ PC P' mono' num' ∧ PR P' number' := by
      intro n1 n2
      obtain ⟨m2, u2, g1, g2⟩ := effC_add lo24_0 n1 _ mo1 nu1 c2
      obtain ⟨m3, u3, g3, g4⟩ := xorC lo24_0 n2 (hbP P y) _ m2 u2 g2
      obtain ⟨v2, g5, g6⟩ := effR_add lo24_0 n1 _ nr1 d2
      obtain ⟨v3, g7, g8⟩ := orR lo24_0 (hbP P y) 0 n2 _ v2 g6
      exact ⟨_, m3, u3, v3, ⟨m2, u2, g1, g3⟩, ⟨v2, g5, g7⟩, g4, PR_ext (fun m _ => by rw [eXo_eOr (Rv_self hlo)]) g8⟩
    rcases hP with hP | hP
    · rw [hP, if_pos (show toI 2 = 2 by decide), if_pos (show toI 2 = 2 by decide)]
      obtain ⟨P', m3, u3, v3, ⟨m2, u2, g1, g3⟩, ⟨v2, g5, g7⟩, q1, q2⟩ := fin 1 6
      unfold f_Ps_doRule_j193 f_Md_doRule_j111 f_Md_doRule_j130
      rw [g1, g5]
      simp only [zb2, zb1]
      rw [if_pos (show toI 2 = 2 by decide), if_pos (show toI 2 = 2 by decide), g3, g7]
      simp only [zb2, zb1]
      rw [recR hr]
      exact ⟨P', wo th y, ha - 1, em, m3, u3, v3, vals, st, cs, oS, oN, _, _, _, _, _, _, rfl, rfl, q1, q2, RelT_less hT (lo24_wo a4 y) hsub hinp1 hlt1, hw, RelD_next hd (nI 4) (nI y) (-1), hlt1, Or.inl rfl, Or.inr (Or.inl rfl)⟩
    · rw [hP, if_neg (show ¬ toI 6 = 2 by decide), if_neg (show ¬ toI 6 = 2 by decide)]
      obtain ⟨P', m3, u3, v3, ⟨m2, u2, g1, g3⟩, ⟨v2, g5, g7⟩, q1, q2⟩ := fin 7 2
      unfold f_Ps_doRule_j193 f_Md_doRule_j111 f_Md_doRule_j130
      rw [g1, g5]
      simp only [zb2, zb1]
      rw [if_neg (show ¬ toI 6 = 2 by decide), if_neg (show ¬ toI 6 = 2 by decide), g3, g7]
      simp only [zb2, zb1]
      rw [recR hr]
      exact ⟨P', wo th y, ha - 1, em, m3, u3, v3, vals, st, cs, oS, oN, _, _, _, _, _, _, rfl, rfl, q1, q2, RelT_less hT (lo24_wo a4 y) hsub hinp1 hlt1, hw, RelD_next hd (nI 4) (nI y) (-1), hlt1, Or.inl rfl, Or.inr (Or.inl rfl)⟩
  · -- 3
    have hlo := lo24_hbP P y
    obtain ⟨z, hz⟩ := gtB_of (lo24_and hlo (inp ^^^ (-1))) hb
    have hz24 := hz.1
    have hzb : bt (hbP P y) z = true ∧ bt inp z = false := by
      have := hz.2.1
      rw [b_and, bt_not _ (by omega)] at this
      simpa using this
    have hzy : z ≠ y := ((bt_hbP (by omega)).mp hzb.1).2.1
    rw [if_pos (show nI 3 = 3 by decide), greatC hz]
    simp only [zb1]
    unfold f_Ps_doRule_j42
    rw [keepC hr]
    simp only [zb4]
    rw [if_neg (show ¬ nI 3 = 2 by decide), c1]
    simp only [zb2, zlet]
    rw [if_neg (show ¬ nI 3 = 4 by decide)]
    unfold f_Ps_doRule_j103
    simp only [zlet]
    rw [if_pos (show nI 3 = 3 by decide), wo_sb, wo_sb]
    unfold f_Md_doRule
    rw [if_neg (show ¬ nI 3 = 2 by decide), d1]
    simp only [zb2]
    rw [if_neg (show ¬ nI 3 = 4 by decide)]
    unfold f_Md_doRule_j46 f_Md_doRule_j50
    simp only [zlet]
    rw [if_pos (show nI 3 = 3 by decide), ← a7, greatR hz]
    simp only [zb1]
    rw [wo_sb]
    have hloz : lo24 (wo (hbP P y) z) := lo24_wo hlo z
    have hszz : bt (wo (hbP P y) z) z = false := wo_no _ hz24
    have hlt2 : (bl (wo (wo th y) z &&& (inp ^^^ (-1)))).length < (bl (th &&& (inp ^^^ (-1)))).length := by
      rw [wo_and]
      exact Nat.lt_of_le_of_lt (bl_wo_le _ hz24) hlt1
    have hsub2 : ∀ k, k < 24 → bt (wo (wo th y) z) k = true → bt th k = true := fun k hk h => by
      rw [bt_wo _ hz24 (by omega)] at h
      simp at h
      exact hsub k hk h.1
    have hinp2 : ∀ k, k < 24 → bt inp k = true → bt (wo (wo th y) z) k = true := fun k hk h => by
      rw [bt_wo _ hz24 (by omega), hinp1 k hk h]
      have : k ≠ z := fun q => by subst q; rw [hzb.2] at h; cases h
      simp [this]
    have hT2 := RelT_less hT (lo24_wo (lo24_wo a4 y) z) hsub2 hinp2 hlt2
    have fin : ∀ (v cc : Int32), Rv v (wo (hbP P y) z) cc → (∀ k, 25 ≤ k → k < 32 → bt v k = false) → (cc = 0 ∨ cc = 1) → ∃ P' mono' num' number' oS' oN', f_Po_replaceBit (nI z) v mo1 nu1 = some (mono', num') ∧ f_Md_become (nI z) (wo (hbP P y) z) cc (nI N) (wo th y) nr1 oS oN st cs = some (wo (wo th y) z, number', oS', oN', stB st z (wo (hbP P y) z) N, csB cs st z cc N) ∧ PC P' mono' num' ∧ PR P' number' ∧ RelW N (vaB vals z v 6) (stB st z (wo (hbP P y) z) N) (csB cs st z cc N) := by
      intro v cc hv hvl hcc
      obtain ⟨m2, u2, g1, g2⟩ := replC c2 hz24 hv hszz
      obtain ⟨v2, oS', oN', g3, g4⟩ := becomeR d2 hz24 a1 hszz cc (wo th y) oS oN st cs
      exact ⟨_, m2, u2, v2, oS', oN', g1, g3, g2, g4, RelW_rep a1 hw hz24 hv hvl hloz hszz hcc⟩
    rcases hP with hP | hP
    · rw [hP, if_neg (show ¬ toI 0 = 4 by decide), if_neg (show ¬ toI 0 = 4 by decide)]
      obtain ⟨P', m3, u3, v3, oS', oN', g1, g3, q1, q2, q3⟩ := fin (wo (hbP P y) z) 0 (Rv_self hloz) (fun k hk hk2 => hloz k hk2 (by omega)) (Or.inl rfl)
      unfold f_Ps_doRule_j132 f_Md_doRule_j89 f_Md_doRule_j92
      simp only [zlet]
      rw [or0, g1, g3]
      simp only [zb2, zb6]
      rw [if_neg (show ¬ nI 3 = 4 by decide), recR hr, valsC hz24]
      simp only [zb1]
      rw [wo_sb]
      exact ⟨P', wo (wo th y) z, ha - 2, em, m3, u3, v3, _, _, _, oS', oN', _, _, _, _, _, _, rfl, rfl, q1, q2, hT2, q3, RelD_next hd (nI 3) (nI y) (nI z), hlt2, Or.inl rfl, Or.inl rfl⟩
    · rw [hP, if_pos (show toI 4 = 4 by decide), if_pos (show toI 4 = 4 by decide)]
      obtain ⟨P', m3, u3, v3, oS', oN', g1, g3, q1, q2, q3⟩ := fin (wo (hbP P y) z ||| 16777216) 1 (Rv_one hloz) (fun k hk hk2 => by
        rw [b_or, hloz k hk2 (by omega), bt_one k hk2]
        simp
        omega) (Or.inr rfl)
      unfold f_Ps_doRule_j132 f_Md_doRule_j89 f_Md_doRule_j92
      simp only [zlet]
      rw [g1, g3]
      simp only [zb2, zb6]
      rw [if_neg (show ¬ nI 3 = 4 by decide), recR hr, valsC hz24]
      simp only [zb1]
      rw [wo_sb]
      exact ⟨P', wo (wo th y) z, ha - 2, em, m3, u3, v3, _, _, _, oS', oN', _, _, _, _, _, _, rfl, rfl, q1, q2, hT2, q3, RelD_next hd (nI 3) (nI y) (nI z), hlt2, Or.inl rfl, Or.inl rfl⟩
end
section
/-! reduce: class and reference side by side -/
theorem zl_one {σ ρ : Type} {step : σ → Option (σ ⊕ ρ)} {s s' : σ} {r : ρ} {n : Nat} (h : step s = some (.inl s')) (h2 : zloop step n s' = some r) : zloop step (n + 1) s = some r := by
  unfold zloop
  rw [h]
  exact h2
theorem zl_end {σ ρ : Type} {step : σ → Option (σ ⊕ ρ)} {s : σ} {r : ρ} {n : Nat} (h : step s = some (.inr r)) : zloop step (n + 1) s = some r := by
  unfold zloop
  rw [h]
theorem zl_mono {σ ρ : Type} {step : σ → Option (σ ⊕ ρ)} : ∀ (n : Nat) (s : σ) (r : ρ), zloop step n s = some r → ∀ m, n ≤ m → zloop step m s = some r
  | 0, s, r, h, m, _ => by cases h
  | n + 1, s, r, h, m, hm => by
    obtain ⟨m, rfl⟩ : ∃ k, m = k + 1 := ⟨m - 1, by omega⟩
    unfold zloop at h ⊢
    cases hs : step s with
    | none => rw [hs] at h; cases h
    | some x =>
      rw [hs] at h
      cases x with
      | inl s' => exact zl_mono n s' r h m (by omega)
      | inr r' => exact h
abbrev F9 : Type := Nat → Int32
def stepC (inp : Int32) (q : Int32 × Int32 × Int32 × Int32 × Int32 × F9 × Int32 × F9 × Int32 × F9 × F9 × F9) : Option ((Int32 × Int32 × Int32 × Int32 × Int32 × F9 × Int32 × F9 × Int32 × F9 × F9 × F9) ⊕ (Int32 × Int32 × Int32 × Int32 × F9 × Int32 × F9 × Int32 × F9 × F9 × F9)) :=
  f_Ps_reduce_l7 inp q.1 q.2.1 q.2.2.1 q.2.2.2.1 q.2.2.2.2.1 q.2.2.2.2.2.1 q.2.2.2.2.2.2.1 q.2.2.2.2.2.2.2.1 q.2.2.2.2.2.2.2.2.1 q.2.2.2.2.2.2.2.2.2.1 q.2.2.2.2.2.2.2.2.2.2.1 q.2.2.2.2.2.2.2.2.2.2.2
def stepR (r0 wi op : Int32) (q : Int32 × Int32 × Int32 × Int32 × Int32 × Int32 × Int32 × F9 × F9 × F9 × F9 × F9 × F9 × F9 × F9) : Option ((Int32 × Int32 × Int32 × Int32 × Int32 × Int32 × Int32 × F9 × F9 × F9 × F9 × F9 × F9 × F9 × F9) ⊕ (Int32 × Int32 × Int32 × Int32 × Int32 × Int32 × F9 × F9 × F9 × F9 × F9 × F9 × F9 × F9)) :=
  f_Md_reduce_l12 r0 0 wi op q.1 q.2.1 q.2.2.1 q.2.2.2.1 q.2.2.2.2.1 q.2.2.2.2.2.1 q.2.2.2.2.2.2.1 q.2.2.2.2.2.2.2.1 q.2.2.2.2.2.2.2.2.1 q.2.2.2.2.2.2.2.2.2.1 q.2.2.2.2.2.2.2.2.2.2.1 q.2.2.2.2.2.2.2.2.2.2.2.1 q.2.2.2.2.2.2.2.2.2.2.2.2.1 q.2.2.2.2.2.2.2.2.2.2.2.2.2.1 q.2.2.2.2.2.2.2.2.2.2.2.2.2.2
theorem kpos {k : Nat} (k1 : 1 ≤ k) (k4 : k ≤ 4) : ¬ nI k ≤ 0 := nI_nle (by omega) (by omega)
/-- the reference goes on to the first bit that has a rule -/
theorem skipR {P : Int32 → BitVec 3} {number : F9} (hpr : PR P number) {N : Nat} (hN : N ≤ 6) (r0 op em th ha rules : Int32) (st rk rb ro oS oN cs : F9) {y0 : Nat} (hy0 : y0 ≤ 24) (hn : ∀ y, y < y0 → ¬ Can P N (f_Md_inputs (nI N) op) th st y) :
    ∀ (d j : Nat), j + d = y0 → ∀ (al hb : Int32), ∃ al' hb', ∀ n r, zloop (stepR r0 (nI N) op) n (nI y0, em, th, ha, rules, al', hb', st, number, rk, rb, ro, oS, oN, cs) = some r → zloop (stepR r0 (nI N) op) (n + d) (nI j, em, th, ha, rules, al, hb, st, number, rk, rb, ro, oS, oN, cs) = some r
  | 0, j, hj, al, hb => by
    have : j = y0 := by omega
    subst this
    exact ⟨al, hb, fun n r h => h⟩
  | d + 1, j, hj, al, hb => by
    have hjy : j < 24 := by omega
    obtain ⟨al1, hb1, e⟩ : ∃ al1 hb1, f_Md_ruleFor (nI j) (nI N) op th al hb st number = some (0, al1, hb1) := by
      rcases ruleR hpr hN op th st hjy al hb with ⟨k, _, _, h1, h2, _⟩ | ⟨_, al1, hb1, e⟩
      · exact absurd ⟨h1, k, h2⟩ (hn j (by omega))
      · exact ⟨al1, hb1, e⟩
    obtain ⟨al', hb', ih⟩ := skipR hpr hN r0 op em th ha rules st rk rb ro oS oN cs hy0 hn d (j + 1) (by omega) al1 hb1
    refine ⟨al', hb', fun n r h => ?_⟩
    refine zl_one (s' := (nI (j + 1), em, th, ha, rules, al1, hb1, st, number, rk, rb, ro, oS, oN, cs)) ?_ (ih n r h)
    show f_Md_reduce_l12 r0 0 (nI N) op (nI j) em th ha rules al hb st number rk rb ro oS oN cs = _
    unfold f_Md_reduce_l12
    rw [if_neg (lt24 hjy), e]
    simp only [zb3, zlet]
    rw [if_pos (by decide), if_pos (by decide)]
    show some (Sum.inl (nI j + 1, _)) = _
    rw [nI_1]
theorem nI_m1 {k : Nat} (h : k < 100) : ¬ nI k = -1 := by
  intro q
  have h9 := nI_pos (n := k) (by omega)
  rw [q] at h9
  exact h9 (by decide)
theorem least_some {P : Int32 → BitVec 3} {mono : Int32} {num : F9} (hp : PC P mono num) {N : Nat} (hN : N ≤ 6) {vals st cs : F9} (hw : RelW N vals st cs) (inp th : Int32) : ∃ y, f_Ps_leastBitWithRule th inp vals num = some y := by
  rcases leastC hp hN hw inp th with ⟨y, _, _, _, _, _, _, _, h, _⟩ | ⟨_, h⟩
  · exact ⟨_, h⟩
  · exact ⟨_, h⟩
set_option maxHeartbeats 4000000 in
theorem reduce_sim {N c : Nat} {op inp : Int32} (r0 : Int32) : ∀ (m r d : Nat) (P : Int32 → BitVec 3) (mono : Int32) (num number : F9) (th : Int32) (vals st cs : F9) (cnt rules : Int32) (kd ys zs rk rb ro : F9) (ha em al hb : Int32) (oS oN : F9) (yC : Int32),
    PC P mono num → PR P number → RelT N c r op th inp → RelW N vals st cs → RelD r cnt kd ys zs rules rk rb ro → (bl (th &&& (inp ^^^ (-1)))).length ≤ m → d + m ≤ 24 → f_Ps_leastBitWithRule th inp vals num = some yC →
    ∃ d' r' P' th' ha' em' mono' num' number' vals' st' cs' kd' ys' zs' rk' rb' ro' al' hb' oS' oN',
      zloop (stepC inp) (m + 1) (nI d, yC, th, ha, em, vals, mono, num, cnt, kd, ys, zs) = some (nI d', th', ha', em', vals', mono', num', nI r', kd', ys', zs') ∧
      zloop (stepR r0 (nI N) op) (25 * (m + 1)) (0, em, th, ha, rules, al, hb, st, number, rk, rb, ro, oS, oN, cs) = some (em', th', ha', nI r', al', hb', st', number', rk', rb', ro', oS', oN', cs') ∧
      d' + r = d + r' ∧ r ≤ r' ∧ d' ≤ 24 ∧ PC P' mono' num' ∧ PR P' number' ∧ RelT N c r' op th' inp ∧ RelW N vals' st' cs' ∧ RelD r' (nI r') kd' ys' zs' (nI r') rk' rb' ro' ∧ (em' = em ∨ em' = 1) ∧ (HB c r ha → HB c r' ha') := by
  intro m
  induction m with
  | zero =>
    intro r d P mono num number th vals st cs cnt rules kd ys zs rk rb ro ha em al hb oS oN yC hpc hpr ht hw hd hlen hdm hy
    have hN := ht.1
    have hinp := ht.2.2.2.2.2.2.1
    rcases leastC hpc hN hw inp th with ⟨y, k, hy24, k1, k4, hid, hk, hn, e, e2⟩ | ⟨hn, e⟩
    · exfalso
      have hby : bt (th &&& (inp ^^^ (-1))) y = true := by
        rw [b_and, bt_not _ (by omega), hid.1, hid.2.1]
        rfl
      have := List.length_pos_of_mem (mem_bl.mpr ⟨hy24, hby⟩)
      omega
    · rw [e] at hy
      cases hy
      obtain ⟨al', hb', sk⟩ := skipR hpr hN r0 op em th ha rules st rk rb ro oS oN cs (Nat.le_refl 24) (by rw [← hinp]; exact hn) 24 0 (by omega) al hb
      obtain ⟨hd1, hd2, hd3⟩ := id hd
      subst hd1
      subst hd2
      refine ⟨d, r, P, th, ha, em, mono, num, number, vals, st, cs, kd, ys, zs, rk, rb, ro, al', hb', oS, oN, ?_, ?_, by omega, Nat.le_refl _, by omega, hpc, hpr, ht, hw, hd, Or.inl rfl, fun h => h⟩
      · refine zl_end ?_
        show f_Ps_reduce_l7 inp (nI d) (-1) th ha em vals mono num (nI r) kd ys zs = _
        unfold f_Ps_reduce_l7
        rw [if_pos rfl]
      · have h0 : (0 : Int32) = nI 0 := by rw [nI_0]
        rw [h0]
        refine sk 1 _ (zl_end ?_)
        show f_Md_reduce_l12 r0 0 (nI N) op (nI 24) em th ha (nI r) al' hb' st number rk rb ro oS oN cs = _
        unfold f_Md_reduce_l12
        rw [if_pos ge24]
  | succ m ih =>
    intro r d P mono num number th vals st cs cnt rules kd ys zs rk rb ro ha em al hb oS oN yC hpc hpr ht hw hd hlen hdm hy
    have hN := ht.1
    have hinp := ht.2.2.2.2.2.2.1
    have h0 : (0 : Int32) = nI 0 := by rw [nI_0]
    rcases leastC hpc hN hw inp th with ⟨y, k, hy24, k1, k4, hid, hk, hn, e, e2⟩ | ⟨hn, e⟩
    · rw [e] at hy
      cases hy
      obtain ⟨P1, th1, ha1, em1, mono1, num1, number1, vals1, st1, cs1, oS1, oN1, kd1, ys1, zs1, rk1, rb1, ro1, s1, s2, p1, p2, p3, p4, p5, p6, p7, p8⟩ := doRule_sim hpc hpr ht hw hd hy24 hid hk ha em oS oN k1 k4
      obtain ⟨yC1, hy1⟩ := least_some p1 hN p4 inp th1
      obtain ⟨al', hb', sk⟩ := skipR hpr hN r0 op em th ha rules st rk rb ro oS oN cs (show y ≤ 24 by omega) (by rw [← hinp]; exact hn) y 0 (by omega) al hb
      obtain ⟨d', r', P', th', ha', em', mono', num', number', vals', st', cs', kd', ys', zs', rk', rb', ro', al2, hb2, oS', oN', i1, i2, i3, i4, i5, i6, i7, i8, i9, i10, i11, i12⟩ := ih (r + 1) (d + 1) P1 mono1 num1 number1 th1 vals1 st1 cs1 (nI (r + 1)) (nI (r + 1)) kd1 ys1 zs1 rk1 rb1 ro1 ha1 em1 (toI (P (sb y))) (hbP P y) oS1 oN1 yC1 p1 p2 p3 p4 p5 (by omega) (by omega) hy1
      refine ⟨d', r', P', th', ha', em', mono', num', number', vals', st', cs', kd', ys', zs', rk', rb', ro', al2, hb2, oS', oN', ?_, ?_, by omega, by omega, i5, i6, i7, i8, i9, i10, ?_, fun h => i12 (HB_sub h p8)⟩
      · refine zl_one (s' := (nI (d + 1), yC1, th1, ha1, em1, vals1, mono1, num1, nI (r + 1), kd1, ys1, zs1)) ?_ i1
        show f_Ps_reduce_l7 inp (nI d) (nI y) th ha em vals mono num cnt kd ys zs = _
        unfold f_Ps_reduce_l7
        rw [if_neg (nI_m1 (by omega)), if_neg (lt24 (by omega)), e2]
        simp only [zb1]
        rw [s1]
        simp only [zb10, zlet]
        rw [hy1]
        simp only [zb1]
        rw [nI_1]
      · rw [h0]
        have hstep : stepR r0 (nI N) op (nI y, em, th, ha, rules, al', hb', st, number, rk, rb, ro, oS, oN, cs) = some (.inl (0, em1, th1, ha1, nI (r + 1), toI (P (sb y)), hbP P y, st1, number1, rk1, rb1, ro1, oS1, oN1, cs1)) := by
          show f_Md_reduce_l12 r0 0 (nI N) op (nI y) em th ha rules al' hb' st number rk rb ro oS oN cs = _
          unfold f_Md_reduce_l12
          rw [if_neg (lt24 hy24)]
          have e3 : f_Md_ruleFor (nI y) (nI N) op th al' hb' st number = some (nI k, toI (P (sb y)), hbP P y) := by
            rcases ruleR hpr hN op th st hy24 al' hb' with ⟨k', k1', k4', _, hk', e3⟩ | ⟨q, _⟩
            · have : k' = k := by
                rw [← hinp] at hk'
                rcases ruleC hpc hy24 inp with ⟨k2, _, _, _, e4⟩ | ⟨q, _⟩
                · have u : ∀ a b, KD P inp y a → KD P inp y b → a = b := by
                    rintro a b ⟨_, qa⟩ ⟨_, qb⟩
                    have n1 : hbP P y = 0 → ¬ (hbP P y &&& (inp ^^^ (-1)) ≠ 0) := by
                      intro w w2
                      apply w2
                      rw [w]
                      apply b_ext
                      intro i _
                      rw [b_and, b_0]
                      rfl
                    rcases qa with ⟨rfl, w1, w2⟩ | ⟨rfl, w1, w2⟩ | ⟨rfl, w1⟩ | ⟨rfl, w1, w2⟩ <;> rcases qb with ⟨rfl, v1, v2⟩ | ⟨rfl, v1, v2⟩ | ⟨rfl, v1⟩ | ⟨rfl, v1, v2⟩ <;> first | rfl | (exfalso; first | (rw [w2] at v2; exact absurd v2 (by decide)) | (rcases v1 with v1 | v1 <;> rw [w2] at v1 <;> exact absurd v1 (by decide)) | (rcases w1 with w1 | w1 <;> rw [v2] at w1 <;> exact absurd w1 (by decide)) | exact n1 w1 v2 | exact n1 v1 w2 | (rcases w1 with w1 | w1 <;> rcases v1 with v1 | v1 <;> rw [w1] at v1 <;> exact absurd v1 (by decide)))
                  exact u k' k hk' hk
                · exact absurd hk (q k)
              rw [← this]
              exact e3
            · rcases q with q | q
              · exact absurd (hinp ▸ hid) q
              · exact absurd (hinp ▸ hk) (q k)
          rw [e3]
          simp only [zb3]
          rw [if_neg (kpos k1 k4), s2]
          simp only [zb12]
          rw [if_neg (kpos k1 k4)]
        refine zl_mono _ _ _ (sk (25 * (m + 1) + 1) _ (zl_one hstep i2)) _ (by omega)
      · rcases i11 with q | q
        · rcases p7 with w | w
          · exact Or.inl (q.trans w)
          · exact Or.inr (q.trans w)
        · exact Or.inr q
    · rw [e] at hy
      cases hy
      obtain ⟨al', hb', sk⟩ := skipR hpr hN r0 op em th ha rules st rk rb ro oS oN cs (Nat.le_refl 24) (by rw [← hinp]; exact hn) 24 0 (by omega) al hb
      obtain ⟨hd1, hd2, hd3⟩ := id hd
      subst hd1
      subst hd2
      refine ⟨d, r, P, th, ha, em, mono, num, number, vals, st, cs, kd, ys, zs, rk, rb, ro, al', hb', oS, oN, ?_, ?_, by omega, Nat.le_refl _, by omega, hpc, hpr, ht, hw, hd, Or.inl rfl, fun h => h⟩
      · refine zl_end ?_
        show f_Ps_reduce_l7 inp (nI d) (-1) th ha em vals mono num (nI r) kd ys zs = _
        unfold f_Ps_reduce_l7
        rw [if_pos rfl]
      · rw [h0]
        refine zl_mono _ _ _ (sk 1 _ (zl_end ?_)) _ (by omega)
        show f_Md_reduce_l12 r0 0 (nI N) op (nI 24) em th ha (nI r) al' hb' st number rk rb ro oS oN cs = _
        unfold f_Md_reduce_l12
        rw [if_pos ge24]
end
section
/-! Integer.bitCount counts bits -/
/-- the bits below n, counted -/
def cb (x : Int32) : Nat → Nat
  | 0 => 0
  | n + 1 => cb x n + if bt x n then 1 else 0
theorem cb_len (x : Int32) : ∀ n, ((List.range n).filter (fun i => bt x i)).length = cb x n
  | 0 => rfl
  | n + 1 => by
    rw [List.range_succ, List.filter_append, List.length_append, cb_len x n]
    unfold cb
    cases h : bt x n <;> simp [h]
theorem land_split (k : Nat) {a c : Nat} (ha : a < 2 ^ k) (hc : c < 2 ^ k) (b d : Nat) : (a + 2 ^ k * b) &&& (c + 2 ^ k * d) = (a &&& c) + 2 ^ k * (b &&& d) := by
  apply Nat.eq_of_testBit_eq
  intro i
  rw [Nat.add_comm a, Nat.add_comm c, Nat.add_comm (a &&& c), Nat.testBit_and, Nat.testBit_two_pow_mul_add _ ha, Nat.testBit_two_pow_mul_add _ hc, Nat.testBit_two_pow_mul_add _ (Nat.lt_of_le_of_lt Nat.and_le_left ha)]
  split <;> simp
/-- four bytes -/
def N4 (a b c d : Nat) : Nat := a + 2 ^ 8 * (b + 2 ^ 8 * (c + 2 ^ 8 * d))
theorem land4 {a b c d : Nat} (ha : a < 256) (hb : b < 256) (hc : c < 256) (m : Nat) (hm : m < 256) : N4 a b c d &&& N4 m m m m = N4 (a &&& m) (b &&& m) (c &&& m) (d &&& m) := by
  unfold N4
  rw [land_split 8 ha hm, land_split 8 hb hm, land_split 8 hc hm]
theorem half_low : ∀ r, r < 256 → ∀ e, e < 2 → (r / 2 + 128 * e) &&& 85 = (r / 2) &&& 85 := by decide +kernel
theorem quart_low : ∀ r, r < 256 → ∀ e, e < 4 → (r / 4 + 64 * e) &&& 51 = (r / 4) &&& 51 := by decide +kernel
def t1 (r : Nat) : Nat := r - ((r / 2) &&& 85)
def t2 (r : Nat) : Nat := (r &&& 51) + ((r / 4) &&& 51)
def t3 (r : Nat) : Nat := (r + r / 16) % 16
theorem t1_le : ∀ r, r < 256 → ((r / 2) &&& 85) ≤ r ∧ t1 r < 256 := by decide +kernel
theorem t2_le : ∀ r, r < 256 → t2 (t1 r) < 256 ∧ t2 (t1 r) / 16 ≤ 4 ∧ t2 (t1 r) % 16 ≤ 4 ∧ (t1 r &&& 51) < 256 ∧ ((t1 r / 4) &&& 51) < 256 := by decide +kernel
def bitN (b i : Nat) : Nat := b / 2 ^ i % 2
theorem t3_eq : ∀ r, r < 256 → t3 (t2 (t1 r)) = bitN r 0 + bitN r 1 + bitN r 2 + bitN r 3 + bitN r 4 + bitN r 5 + bitN r 6 + bitN r 7 := by decide +kernel
theorem st1 {a b c d : Nat} (ha : a < 256) (hb : b < 256) (hc : c < 256) (hd : d < 256) : N4 a b c d - ((N4 a b c d / 2) &&& N4 85 85 85 85) = N4 (t1 a) (t1 b) (t1 c) (t1 d) := by
  have e : N4 a b c d / 2 = N4 (a / 2 + 128 * (b % 2)) (b / 2 + 128 * (c % 2)) (c / 2 + 128 * (d % 2)) (d / 2) := by
    unfold N4
    omega
  rw [e, land4 (by omega) (by omega) (by omega) 85 (by omega), half_low a ha (b % 2) (by omega), half_low b hb (c % 2) (by omega), half_low c hc (d % 2) (by omega)]
  have h1 := (t1_le a ha).1
  have h2 := (t1_le b hb).1
  have h3 := (t1_le c hc).1
  have h4 := (t1_le d hd).1
  unfold t1 N4
  omega
theorem st2 {a b c d : Nat} (ha : a < 256) (hb : b < 256) (hc : c < 256) : (N4 a b c d &&& N4 51 51 51 51) + ((N4 a b c d / 4) &&& N4 51 51 51 51) = N4 (t2 a) (t2 b) (t2 c) (t2 d) := by
  have e : N4 a b c d / 4 = N4 (a / 4 + 64 * (b % 4)) (b / 4 + 64 * (c % 4)) (c / 4 + 64 * (d % 4)) (d / 4) := by
    unfold N4
    omega
  rw [e, land4 ha hb hc 51 (by omega), land4 (by omega) (by omega) (by omega) 51 (by omega), quart_low a ha (b % 4) (by omega), quart_low b hb (c % 4) (by omega), quart_low c hc (d % 4) (by omega)]
  unfold t2 N4
  omega
theorem and15 (x : Nat) : x &&& 15 = x % 16 := Nat.and_two_pow_sub_one_eq_mod x 4
theorem st3 {a b c d : Nat} (ha : a < 256 ∧ a / 16 ≤ 4 ∧ a % 16 ≤ 4) (hb : b < 256 ∧ b / 16 ≤ 4 ∧ b % 16 ≤ 4) (hc : c < 256 ∧ c / 16 ≤ 4 ∧ c % 16 ≤ 4) (hd : d < 256 ∧ d / 16 ≤ 4 ∧ d % 16 ≤ 4) : (N4 a b c d + N4 a b c d / 16) &&& N4 15 15 15 15 = N4 (t3 a) (t3 b) (t3 c) (t3 d) := by
  have e : N4 a b c d + N4 a b c d / 16 = N4 (a + a / 16 + 16 * (b % 16)) (b + b / 16 + 16 * (c % 16)) (c + c / 16 + 16 * (d % 16)) (d + d / 16) := by
    unfold N4
    omega
  rw [e, land4 (by omega) (by omega) (by omega) 15 (by omega), and15, and15, and15, and15]
  unfold t3
  have e1 : (a + a / 16 + 16 * (b % 16)) % 16 = (a + a / 16) % 16 := by omega
  have e2 : (b + b / 16 + 16 * (c % 16)) % 16 = (b + b / 16) % 16 := by omega
  have e3 : (c + c / 16 + 16 * (d % 16)) % 16 = (c + c / 16) % 16 := by omega
  rw [e1, e2, e3]
theorem st4 {a b c d : Nat} (ha : a ≤ 8) (hb : b ≤ 8) (hc : c ≤ 8) (hd : d ≤ 8) : (N4 a b c d + N4 a b c d / 256 + (N4 a b c d + N4 a b c d / 256) / 65536) % 64 = a + b + c + d := by
  unfold N4
  omega
/-- numbers under Int32's operations -/
theorem of32 (x : Int32) : x = nI x.toBitVec.toNat := by
  apply Int32.toBitVec_inj.mp
  show x.toBitVec = BitVec.ofNat 32 x.toBitVec.toNat
  simp
theorem nI_and (a b : Nat) : nI a &&& nI b = nI (a &&& b) := by
  apply Int32.toBitVec_inj.1
  show BitVec.ofNat 32 a &&& BitVec.ofNat 32 b = BitVec.ofNat 32 (a &&& b)
  apply BitVec.eq_of_getLsbD_eq
  intro i hi
  simp [hi]
theorem nI_sub {a b : Nat} (h : b ≤ a) : nI a - nI b = nI (a - b) := pk_sub h
theorem nI_ushr {n k : Nat} (hn : n < 2 ^ 32) (hk : k < 32) : zushr (nI n) (nI k) = nI (n / 2 ^ k) := pk_ushrN hn (nI k) k (s_u k hk)
theorem nI_bits {n i : Nat} (hi : i < 32) : bt (nI n) i = decide (n / 2 ^ i % 2 = 1) := by
  show (BitVec.ofNat 32 n).getLsbD i = _
  rw [BitVec.getLsbD_ofNat]
  simp [hi, Nat.testBit_eq_decide_div_mod_eq]
theorem bitc (n i : Nat) (hi : i < 32) : (if bt (nI n) i = true then 1 else 0) = n / 2 ^ i % 2 := by
  rw [nI_bits hi]
  have : n / 2 ^ i % 2 < 2 := Nat.mod_lt _ (by decide)
  by_cases h : n / 2 ^ i % 2 = 1
  · simp [h]
  · simp [h]; omega
theorem popc (x : Int32) : f_Jint_bitCount x = nI (cb x 32) := by
  have hx := of32 x
  generalize hn : x.toBitVec.toNat = n at hx
  have hlt : n < 2 ^ 32 := by rw [← hn]; exact x.toBitVec.isLt
  subst hx
  obtain ⟨a, b, c, d, ha, hb, hc, hd, e⟩ : ∃ a b c d, a < 256 ∧ b < 256 ∧ c < 256 ∧ d < 256 ∧ n = N4 a b c d := ⟨n % 256, n / 256 % 256, n / 65536 % 256, n / 16777216, by omega, by omega, by omega, by omega, by unfold N4; omega⟩
  have A := t2_le a ha
  have B := t2_le b hb
  have Cc := t2_le c hc
  have Dd := t2_le d hd
  have A1 := t1_le a ha
  have B1 := t1_le b hb
  have C1 := t1_le c hc
  have D1 := t1_le d hd
  unfold f_Jint_bitCount
  simp only [zlet]
  have l55 : (1431655765 : Int32) = nI (N4 85 85 85 85) := by decide
  have l33 : (858993459 : Int32) = nI (N4 51 51 51 51) := by decide
  have l0f : (252645135 : Int32) = nI (N4 15 15 15 15) := by decide
  have h1 : zushr (nI n) 1 = nI (n / 2) := nI_ushr hlt (k := 1) (by omega)
  have hle : (n / 2 &&& N4 85 85 85 85) ≤ n := Nat.le_trans Nat.and_le_left (by omega)
  have bnd : ∀ p q r s, p < 256 → q < 256 → r < 256 → s < 256 → N4 p q r s < 2 ^ 32 := by intro p q r s _ _ _ _; unfold N4; omega
  have e1 : nI n - (zushr (nI n) 1 &&& 1431655765) = nI (N4 (t1 a) (t1 b) (t1 c) (t1 d)) := by
    rw [h1, l55, nI_and, nI_sub hle, e, st1 ha hb hc hd]
  rw [e1]
  have b1 := bnd (t1 a) (t1 b) (t1 c) (t1 d) A1.2 B1.2 C1.2 D1.2
  have h2 : zushr (nI (N4 (t1 a) (t1 b) (t1 c) (t1 d))) 2 = nI (N4 (t1 a) (t1 b) (t1 c) (t1 d) / 4) := nI_ushr b1 (k := 2) (by omega)
  have e2 : (nI (N4 (t1 a) (t1 b) (t1 c) (t1 d)) &&& 858993459) + (zushr (nI (N4 (t1 a) (t1 b) (t1 c) (t1 d))) 2 &&& 858993459) = nI (N4 (t2 (t1 a)) (t2 (t1 b)) (t2 (t1 c)) (t2 (t1 d))) := by
    rw [h2, l33, nI_and, nI_and, nI_add, st2 A1.2 B1.2 C1.2]
  rw [e2]
  have b2 := bnd _ _ _ _ A.1 B.1 Cc.1 Dd.1
  have h3 : zushr (nI (N4 (t2 (t1 a)) (t2 (t1 b)) (t2 (t1 c)) (t2 (t1 d)))) 4 = nI (N4 (t2 (t1 a)) (t2 (t1 b)) (t2 (t1 c)) (t2 (t1 d)) / 16) := nI_ushr b2 (k := 4) (by omega)
  have e3 : (nI (N4 (t2 (t1 a)) (t2 (t1 b)) (t2 (t1 c)) (t2 (t1 d))) + zushr (nI (N4 (t2 (t1 a)) (t2 (t1 b)) (t2 (t1 c)) (t2 (t1 d)))) 4) &&& 252645135 = nI (N4 (t3 (t2 (t1 a))) (t3 (t2 (t1 b))) (t3 (t2 (t1 c))) (t3 (t2 (t1 d)))) := by
    rw [h3, l0f, nI_add, nI_and, st3 ⟨A.1, A.2.1, A.2.2.1⟩ ⟨B.1, B.2.1, B.2.2.1⟩ ⟨Cc.1, Cc.2.1, Cc.2.2.1⟩ ⟨Dd.1, Dd.2.1, Dd.2.2.1⟩]
  rw [e3]
  have ta := t3_eq a ha
  have tb := t3_eq b hb
  have tc := t3_eq c hc
  have td := t3_eq d hd
  have bz2 : ∀ r i, bitN r i ≤ 1 := fun r i => by unfold bitN; omega
  have la : t3 (t2 (t1 a)) ≤ 8 := by rw [ta]; have := bz2 a 0; have := bz2 a 1; have := bz2 a 2; have := bz2 a 3; have := bz2 a 4; have := bz2 a 5; have := bz2 a 6; have := bz2 a 7; omega
  have lb : t3 (t2 (t1 b)) ≤ 8 := by rw [tb]; have := bz2 b 0; have := bz2 b 1; have := bz2 b 2; have := bz2 b 3; have := bz2 b 4; have := bz2 b 5; have := bz2 b 6; have := bz2 b 7; omega
  have lc : t3 (t2 (t1 c)) ≤ 8 := by rw [tc]; have := bz2 c 0; have := bz2 c 1; have := bz2 c 2; have := bz2 c 3; have := bz2 c 4; have := bz2 c 5; have := bz2 c 6; have := bz2 c 7; omega
  have ld : t3 (t2 (t1 d)) ≤ 8 := by rw [td]; have := bz2 d 0; have := bz2 d 1; have := bz2 d 2; have := bz2 d 3; have := bz2 d 4; have := bz2 d 5; have := bz2 d 6; have := bz2 d 7; omega
  generalize hq : N4 (t3 (t2 (t1 a))) (t3 (t2 (t1 b))) (t3 (t2 (t1 c))) (t3 (t2 (t1 d))) = q
  have hq32 : q < 2 ^ 31 := by rw [← hq]; unfold N4; omega
  have h4 : zushr (nI q) 8 = nI (q / 256) := nI_ushr (by omega) (k := 8) (by omega)
  rw [h4, nI_add]
  have h5 : zushr (nI (q + q / 256)) 16 = nI ((q + q / 256) / 65536) := nI_ushr (by omega) (k := 16) (by omega)
  rw [h5, nI_add]
  have h6 : nI (q + q / 256 + (q + q / 256) / 65536) &&& 63 = nI ((q + q / 256 + (q + q / 256) / 65536) % 64) := pk_andN (by omega) 6 (by decide)
  rw [h6, ← hq, st4 la lb lc ld, ta, tb, tc, td]
  congr 1
  have bb : ∀ i, i < 32 → (if bt (nI n) i = true then 1 else 0) = N4 a b c d / 2 ^ i % 2 := fun i hi => by rw [bitc n i hi, e]
  simp only [cb]
  rw [bb 0 (by omega), bb 1 (by omega), bb 2 (by omega), bb 3 (by omega), bb 4 (by omega), bb 5 (by omega), bb 6 (by omega), bb 7 (by omega), bb 8 (by omega), bb 9 (by omega), bb 10 (by omega), bb 11 (by omega), bb 12 (by omega), bb 13 (by omega), bb 14 (by omega), bb 15 (by omega), bb 16 (by omega), bb 17 (by omega), bb 18 (by omega), bb 19 (by omega), bb 20 (by omega), bb 21 (by omega), bb 22 (by omega), bb 23 (by omega), bb 24 (by omega), bb 25 (by omega), bb 26 (by omega), bb 27 (by omega), bb 28 (by omega), bb 29 (by omega), bb 30 (by omega), bb 31 (by omega)]
  have f0 : ∀ i, i < 8 → N4 a b c d / 2 ^ i % 2 = bitN a i ∧ N4 a b c d / 2 ^ (8 + i) % 2 = bitN b i ∧ N4 a b c d / 2 ^ (16 + i) % 2 = bitN c i ∧ N4 a b c d / 2 ^ (24 + i) % 2 = bitN d i := by
    intro i hi
    unfold bitN N4
    have : i = 0 ∨ i = 1 ∨ i = 2 ∨ i = 3 ∨ i = 4 ∨ i = 5 ∨ i = 6 ∨ i = 7 := by omega
    rcases this with rfl | rfl | rfl | rfl | rfl | rfl | rfl | rfl <;> (refine ⟨?_, ?_, ?_, ?_⟩ <;> omega)
  have g0 := f0 0 (by omega)
  have g1 := f0 1 (by omega)
  have g2 := f0 2 (by omega)
  have g3 := f0 3 (by omega)
  have g4 := f0 4 (by omega)
  have g5 := f0 5 (by omega)
  have g6 := f0 6 (by omega)
  have g7 := f0 7 (by omega)
  simp only [Nat.reduceAdd] at g0 g1 g2 g3 g4 g5 g6 g7
  rw [g0.1, g1.1, g2.1, g3.1, g4.1, g5.1, g6.1, g7.1, g0.2.1, g1.2.1, g2.2.1, g3.2.1, g4.2.1, g5.2.1, g6.2.1, g7.2.1, g0.2.2.1, g1.2.2.1, g2.2.2.1, g3.2.2.1, g4.2.2.1, g5.2.2.1, g6.2.2.1, g7.2.2.1, g0.2.2.2, g1.2.2.2, g2.2.2.2, g3.2.2.2, g4.2.2.2, g5.2.2.2, g6.2.2.2, g7.2.2.2]
  omega
theorem cb_hi {x : Int32} {n : Nat} (h : ∀ k, n ≤ k → k < 32 → bt x k = false) : ∀ m, n ≤ m → m ≤ 32 → cb x m = cb x n
  | 0, h1, _ => by
    have : n = 0 := by omega
    subst this
    rfl
  | m + 1, h1, h2 => by
    by_cases e : n = m + 1
    · rw [e]
    · unfold cb
      rw [cb_hi h m (by omega) (by omega), h m (by omega) (by omega)]
      rfl
theorem popc24 {x : Int32} (hx : lo24 x) : f_Jint_bitCount x = nI (bl x).length := by
  rw [popc, cb_hi (n := 24) (fun k h1 h2 => hx k h2 h1) 32 (by omega) (by omega)]
  unfold bl
  rw [cb_len]
end
