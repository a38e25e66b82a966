section
-- ===== PART A: goes FIRST, ahead of the names: the tables' words, and 'selects' of the private methods out of them =====
/-- a private method of a class that the tables say can be made, by its rows of tables_1 -/
def lw_okq (q : MethodName × Nat) : Prop := (q.1.cls ≠ "java/lang/invoke/MethodHandle" ∧ q.1.cls ≠ "java/lang/invoke/VarHandle") ∧ Cond.instantiable q.1.cls q.2 ∈ tables_1 ∧ Cond.privateMethod q.1 ∈ tables_1 ∧ Cond.instanceMethod q.1 ∈ tables_1
theorem lw_p0 : lw_okq (⟨"PathSums", "startAnew", "(IZ)V"⟩, 12) := ⟨⟨by decide +kernel, by decide +kernel⟩, List.mem_of_getElem? (i := 16) (by decide +kernel), List.mem_of_getElem? (i := 104) (by decide +kernel), List.mem_of_getElem? (i := 105) (by decide +kernel)⟩
theorem lw_p1 : lw_okq (⟨"PathSums", "fits", "(IIII)Z"⟩, 12) := ⟨⟨by decide +kernel, by decide +kernel⟩, List.mem_of_getElem? (i := 16) (by decide +kernel), List.mem_of_getElem? (i := 172) (by decide +kernel), List.mem_of_getElem? (i := 173) (by decide +kernel)⟩
theorem lw_p2 : lw_okq (⟨"PathSums", "isWire", "(I)Z"⟩, 12) := ⟨⟨by decide +kernel, by decide +kernel⟩, List.mem_of_getElem? (i := 16) (by decide +kernel), List.mem_of_getElem? (i := 176) (by decide +kernel), List.mem_of_getElem? (i := 177) (by decide +kernel)⟩
theorem lw_p3 : lw_okq (⟨"PathSums$Polynomial", "addPairsBelow", "(IIII)V"⟩, 2) := ⟨⟨by decide +kernel, by decide +kernel⟩, List.mem_of_getElem? (i := 24) (by decide +kernel), List.mem_of_getElem? (i := 201) (by decide +kernel), List.mem_of_getElem? (i := 202) (by decide +kernel)⟩
theorem lw_p4 : lw_okq (⟨"PathSums$Polynomial", "addTriplesBelow", "(III)V"⟩, 2) := ⟨⟨by decide +kernel, by decide +kernel⟩, List.mem_of_getElem? (i := 24) (by decide +kernel), List.mem_of_getElem? (i := 205) (by decide +kernel), List.mem_of_getElem? (i := 206) (by decide +kernel)⟩
theorem lw_p5 : lw_okq (⟨"PathSums", "bringBit", "(II)V"⟩, 12) := ⟨⟨by decide +kernel, by decide +kernel⟩, List.mem_of_getElem? (i := 16) (by decide +kernel), List.mem_of_getElem? (i := 213) (by decide +kernel), List.mem_of_getElem? (i := 214) (by decide +kernel)⟩
theorem lw_p6 : lw_okq (⟨"PathSums", "leastBitWithRule", "()I"⟩, 12) := ⟨⟨by decide +kernel, by decide +kernel⟩, List.mem_of_getElem? (i := 16) (by decide +kernel), List.mem_of_getElem? (i := 222) (by decide +kernel), List.mem_of_getElem? (i := 223) (by decide +kernel)⟩
theorem lw_p7 : lw_okq (⟨"PathSums", "ruleFor", "(I)I"⟩, 12) := ⟨⟨by decide +kernel, by decide +kernel⟩, List.mem_of_getElem? (i := 16) (by decide +kernel), List.mem_of_getElem? (i := 226) (by decide +kernel), List.mem_of_getElem? (i := 227) (by decide +kernel)⟩
theorem lw_p8 : lw_okq (⟨"PathSums", "doRule", "(II)V"⟩, 12) := ⟨⟨by decide +kernel, by decide +kernel⟩, List.mem_of_getElem? (i := 16) (by decide +kernel), List.mem_of_getElem? (i := 239) (by decide +kernel), List.mem_of_getElem? (i := 240) (by decide +kernel)⟩
theorem lw_p9 : lw_okq (⟨"PathSums", "becomeEmpty", "()V"⟩, 12) := ⟨⟨by decide +kernel, by decide +kernel⟩, List.mem_of_getElem? (i := 16) (by decide +kernel), List.mem_of_getElem? (i := 250) (by decide +kernel), List.mem_of_getElem? (i := 251) (by decide +kernel)⟩
theorem lw_p10 : lw_okq (⟨"PathSums", "replaceInValues", "(II)V"⟩, 12) := ⟨⟨by decide +kernel, by decide +kernel⟩, List.mem_of_getElem? (i := 16) (by decide +kernel), List.mem_of_getElem? (i := 259) (by decide +kernel), List.mem_of_getElem? (i := 260) (by decide +kernel)⟩
theorem lw_p11 : lw_okq (⟨"PathSums", "isChoice", "(I)Z"⟩, 12) := ⟨⟨by decide +kernel, by decide +kernel⟩, List.mem_of_getElem? (i := 16) (by decide +kernel), List.mem_of_getElem? (i := 298) (by decide +kernel), List.mem_of_getElem? (i := 299) (by decide +kernel)⟩
theorem lw_p12 : lw_okq (⟨"java/lang/Throwable", "fillInStackTrace", "(I)Ljava/lang/Throwable;"⟩, 6) := ⟨⟨by decide +kernel, by decide +kernel⟩, List.mem_of_getElem? (i := 339) (by decide +kernel), List.mem_of_getElem? (i := 337) (by decide +kernel), List.mem_of_getElem? (i := 338) (by decide +kernel)⟩
theorem lw_p13 : lw_okq (⟨"PathSums", "findAmplitude", "(III)V"⟩, 12) := ⟨⟨by decide +kernel, by decide +kernel⟩, List.mem_of_getElem? (i := 16) (by decide +kernel), List.mem_of_getElem? (i := 385) (by decide +kernel), List.mem_of_getElem? (i := 386) (by decide +kernel)⟩
theorem lw_p14 : lw_okq (⟨"PathSums$Ways", "addNumber", "(II)V"⟩, 5) := ⟨⟨by decide +kernel, by decide +kernel⟩, List.mem_of_getElem? (i := 59) (by decide +kernel), List.mem_of_getElem? (i := 403) (by decide +kernel), List.mem_of_getElem? (i := 404) (by decide +kernel)⟩
theorem lw_p15 : lw_okq (⟨"PathSums$Ways", "layProductsBelow", "(ILPathSums$Polynomial;I)V"⟩, 5) := ⟨⟨by decide +kernel, by decide +kernel⟩, List.mem_of_getElem? (i := 59) (by decide +kernel), List.mem_of_getElem? (i := 407) (by decide +kernel), List.mem_of_getElem? (i := 408) (by decide +kernel)⟩
def lw_privs_1 : List (MethodName × Nat) := [(⟨"PathSums", "startAnew", "(IZ)V"⟩, 12), (⟨"PathSums", "fits", "(IIII)Z"⟩, 12), (⟨"PathSums", "isWire", "(I)Z"⟩, 12), (⟨"PathSums$Polynomial", "addPairsBelow", "(IIII)V"⟩, 2), (⟨"PathSums$Polynomial", "addTriplesBelow", "(III)V"⟩, 2), (⟨"PathSums", "bringBit", "(II)V"⟩, 12), (⟨"PathSums", "leastBitWithRule", "()I"⟩, 12), (⟨"PathSums", "ruleFor", "(I)I"⟩, 12), (⟨"PathSums", "doRule", "(II)V"⟩, 12), (⟨"PathSums", "becomeEmpty", "()V"⟩, 12), (⟨"PathSums", "replaceInValues", "(II)V"⟩, 12), (⟨"PathSums", "isChoice", "(I)Z"⟩, 12), (⟨"java/lang/Throwable", "fillInStackTrace", "(I)Ljava/lang/Throwable;"⟩, 6), (⟨"PathSums", "findAmplitude", "(III)V"⟩, 12), (⟨"PathSums$Ways", "addNumber", "(II)V"⟩, 5), (⟨"PathSums$Ways", "layProductsBelow", "(ILPathSums$Polynomial;I)V"⟩, 5)]
theorem lw_r1 : ∀ q ∈ lw_privs_1, lw_okq q := List.forall_mem_cons.mpr ⟨lw_p0, List.forall_mem_cons.mpr ⟨lw_p1, List.forall_mem_cons.mpr ⟨lw_p2, List.forall_mem_cons.mpr ⟨lw_p3, List.forall_mem_cons.mpr ⟨lw_p4, List.forall_mem_cons.mpr ⟨lw_p5, List.forall_mem_cons.mpr ⟨lw_p6, List.forall_mem_cons.mpr ⟨lw_p7, List.forall_mem_cons.mpr ⟨lw_p8, List.forall_mem_cons.mpr ⟨lw_p9, List.forall_mem_cons.mpr ⟨lw_p10, List.forall_mem_cons.mpr ⟨lw_p11, List.forall_mem_cons.mpr ⟨lw_p12, List.forall_mem_cons.mpr ⟨lw_p13, List.forall_mem_cons.mpr ⟨lw_p14, List.forall_mem_cons.mpr ⟨lw_p15, fun _ h => absurd h List.not_mem_nil⟩⟩⟩⟩⟩⟩⟩⟩⟩⟩⟩⟩⟩⟩⟩⟩
theorem lw_p16 : lw_okq (⟨"PathSums$Ways", "sumOverParts", "()V"⟩, 5) := ⟨⟨by decide +kernel, by decide +kernel⟩, List.mem_of_getElem? (i := 59) (by decide +kernel), List.mem_of_getElem? (i := 411) (by decide +kernel), List.mem_of_getElem? (i := 412) (by decide +kernel)⟩
theorem lw_p17 : lw_okq (⟨"PathSums$Root", "multiplyByR", "()V"⟩, 5) := ⟨⟨by decide +kernel, by decide +kernel⟩, List.mem_of_getElem? (i := 82) (by decide +kernel), List.mem_of_getElem? (i := 424) (by decide +kernel), List.mem_of_getElem? (i := 425) (by decide +kernel)⟩
theorem lw_p18 : lw_okq (⟨"PathSums$Root", "isMultipleOfR", "()Z"⟩, 5) := ⟨⟨by decide +kernel, by decide +kernel⟩, List.mem_of_getElem? (i := 82) (by decide +kernel), List.mem_of_getElem? (i := 431) (by decide +kernel), List.mem_of_getElem? (i := 432) (by decide +kernel)⟩
theorem lw_p19 : lw_okq (⟨"PathSums$Root", "halve", "()V"⟩, 5) := ⟨⟨by decide +kernel, by decide +kernel⟩, List.mem_of_getElem? (i := 82) (by decide +kernel), List.mem_of_getElem? (i := 436) (by decide +kernel), List.mem_of_getElem? (i := 437) (by decide +kernel)⟩
theorem lw_p20 : lw_okq (⟨"PathSumsModel", "start", "(I)V"⟩, 22) := ⟨⟨by decide +kernel, by decide +kernel⟩, List.mem_of_getElem? (i := 444) (by decide +kernel), List.mem_of_getElem? (i := 450) (by decide +kernel), List.mem_of_getElem? (i := 451) (by decide +kernel)⟩
theorem lw_p21 : lw_okq (⟨"PathSumsModel", "isWire", "(I)Z"⟩, 22) := ⟨⟨by decide +kernel, by decide +kernel⟩, List.mem_of_getElem? (i := 444) (by decide +kernel), List.mem_of_getElem? (i := 541) (by decide +kernel), List.mem_of_getElem? (i := 542) (by decide +kernel)⟩
theorem lw_p22 : lw_okq (⟨"PathSumsModel", "exchange", "(II)V"⟩, 22) := ⟨⟨by decide +kernel, by decide +kernel⟩, List.mem_of_getElem? (i := 444) (by decide +kernel), List.mem_of_getElem? (i := 545) (by decide +kernel), List.mem_of_getElem? (i := 546) (by decide +kernel)⟩
theorem lw_p23 : lw_okq (⟨"PathSumsModel", "addTwo", "(III)V"⟩, 22) := ⟨⟨by decide +kernel, by decide +kernel⟩, List.mem_of_getElem? (i := 444) (by decide +kernel), List.mem_of_getElem? (i := 549) (by decide +kernel), List.mem_of_getElem? (i := 550) (by decide +kernel)⟩
theorem lw_p24 : lw_okq (⟨"PathSumsModel", "addHalf", "(II)V"⟩, 22) := ⟨⟨by decide +kernel, by decide +kernel⟩, List.mem_of_getElem? (i := 444) (by decide +kernel), List.mem_of_getElem? (i := 553) (by decide +kernel), List.mem_of_getElem? (i := 554) (by decide +kernel)⟩
theorem lw_p25 : lw_okq (⟨"PathSumsModel", "add", "(II)V"⟩, 22) := ⟨⟨by decide +kernel, by decide +kernel⟩, List.mem_of_getElem? (i := 444) (by decide +kernel), List.mem_of_getElem? (i := 557) (by decide +kernel), List.mem_of_getElem? (i := 558) (by decide +kernel)⟩
theorem lw_p26 : lw_okq (⟨"PathSumsModel", "addThree", "(III)V"⟩, 22) := ⟨⟨by decide +kernel, by decide +kernel⟩, List.mem_of_getElem? (i := 444) (by decide +kernel), List.mem_of_getElem? (i := 567) (by decide +kernel), List.mem_of_getElem? (i := 568) (by decide +kernel)⟩
theorem lw_p27 : lw_okq (⟨"PathSumsModel", "newBit", "(II)V"⟩, 22) := ⟨⟨by decide +kernel, by decide +kernel⟩, List.mem_of_getElem? (i := 444) (by decide +kernel), List.mem_of_getElem? (i := 571) (by decide +kernel), List.mem_of_getElem? (i := 572) (by decide +kernel)⟩
theorem lw_p28 : lw_okq (⟨"PathSumsModel", "addOr", "(IIII)V"⟩, 22) := ⟨⟨by decide +kernel, by decide +kernel⟩, List.mem_of_getElem? (i := 444) (by decide +kernel), List.mem_of_getElem? (i := 578) (by decide +kernel), List.mem_of_getElem? (i := 579) (by decide +kernel)⟩
theorem lw_p29 : lw_okq (⟨"PathSumsModel", "ruleFor", "(I)I"⟩, 22) := ⟨⟨by decide +kernel, by decide +kernel⟩, List.mem_of_getElem? (i := 444) (by decide +kernel), List.mem_of_getElem? (i := 586) (by decide +kernel), List.mem_of_getElem? (i := 587) (by decide +kernel)⟩
theorem lw_p30 : lw_okq (⟨"PathSumsModel", "isHidden", "(I)Z"⟩, 22) := ⟨⟨by decide +kernel, by decide +kernel⟩, List.mem_of_getElem? (i := 444) (by decide +kernel), List.mem_of_getElem? (i := 590) (by decide +kernel), List.mem_of_getElem? (i := 591) (by decide +kernel)⟩
theorem lw_p31 : lw_okq (⟨"PathSumsModel", "inputs", "()I"⟩, 22) := ⟨⟨by decide +kernel, by decide +kernel⟩, List.mem_of_getElem? (i := 444) (by decide +kernel), List.mem_of_getElem? (i := 594) (by decide +kernel), List.mem_of_getElem? (i := 595) (by decide +kernel)⟩
def lw_privs_2 : List (MethodName × Nat) := [(⟨"PathSums$Ways", "sumOverParts", "()V"⟩, 5), (⟨"PathSums$Root", "multiplyByR", "()V"⟩, 5), (⟨"PathSums$Root", "isMultipleOfR", "()Z"⟩, 5), (⟨"PathSums$Root", "halve", "()V"⟩, 5), (⟨"PathSumsModel", "start", "(I)V"⟩, 22), (⟨"PathSumsModel", "isWire", "(I)Z"⟩, 22), (⟨"PathSumsModel", "exchange", "(II)V"⟩, 22), (⟨"PathSumsModel", "addTwo", "(III)V"⟩, 22), (⟨"PathSumsModel", "addHalf", "(II)V"⟩, 22), (⟨"PathSumsModel", "add", "(II)V"⟩, 22), (⟨"PathSumsModel", "addThree", "(III)V"⟩, 22), (⟨"PathSumsModel", "newBit", "(II)V"⟩, 22), (⟨"PathSumsModel", "addOr", "(IIII)V"⟩, 22), (⟨"PathSumsModel", "ruleFor", "(I)I"⟩, 22), (⟨"PathSumsModel", "isHidden", "(I)Z"⟩, 22), (⟨"PathSumsModel", "inputs", "()I"⟩, 22)]
theorem lw_r2 : ∀ q ∈ lw_privs_2, lw_okq q := List.forall_mem_cons.mpr ⟨lw_p16, List.forall_mem_cons.mpr ⟨lw_p17, List.forall_mem_cons.mpr ⟨lw_p18, List.forall_mem_cons.mpr ⟨lw_p19, List.forall_mem_cons.mpr ⟨lw_p20, List.forall_mem_cons.mpr ⟨lw_p21, List.forall_mem_cons.mpr ⟨lw_p22, List.forall_mem_cons.mpr ⟨lw_p23, List.forall_mem_cons.mpr ⟨lw_p24, List.forall_mem_cons.mpr ⟨lw_p25, List.forall_mem_cons.mpr ⟨lw_p26, List.forall_mem_cons.mpr ⟨lw_p27, List.forall_mem_cons.mpr ⟨lw_p28, List.forall_mem_cons.mpr ⟨lw_p29, List.forall_mem_cons.mpr ⟨lw_p30, List.forall_mem_cons.mpr ⟨lw_p31, fun _ h => absurd h List.not_mem_nil⟩⟩⟩⟩⟩⟩⟩⟩⟩⟩⟩⟩⟩⟩⟩⟩
theorem lw_p32 : lw_okq (⟨"PathSumsModel", "findFactor", "(I)Z"⟩, 22) := ⟨⟨by decide +kernel, by decide +kernel⟩, List.mem_of_getElem? (i := 444) (by decide +kernel), List.mem_of_getElem? (i := 598) (by decide +kernel), List.mem_of_getElem? (i := 599) (by decide +kernel)⟩
theorem lw_p33 : lw_okq (⟨"PathSumsModel", "numberOf", "(I)I"⟩, 22) := ⟨⟨by decide +kernel, by decide +kernel⟩, List.mem_of_getElem? (i := 444) (by decide +kernel), List.mem_of_getElem? (i := 602) (by decide +kernel), List.mem_of_getElem? (i := 603) (by decide +kernel)⟩
theorem lw_p34 : lw_okq (⟨"PathSumsModel", "doRule", "(II)V"⟩, 22) := ⟨⟨by decide +kernel, by decide +kernel⟩, List.mem_of_getElem? (i := 444) (by decide +kernel), List.mem_of_getElem? (i := 606) (by decide +kernel), List.mem_of_getElem? (i := 607) (by decide +kernel)⟩
theorem lw_p35 : lw_okq (⟨"PathSumsModel", "empty", "()V"⟩, 22) := ⟨⟨by decide +kernel, by decide +kernel⟩, List.mem_of_getElem? (i := 444) (by decide +kernel), List.mem_of_getElem? (i := 610) (by decide +kernel), List.mem_of_getElem? (i := 611) (by decide +kernel)⟩
theorem lw_p36 : lw_okq (⟨"PathSumsModel", "dropBit", "(I)V"⟩, 22) := ⟨⟨by decide +kernel, by decide +kernel⟩, List.mem_of_getElem? (i := 444) (by decide +kernel), List.mem_of_getElem? (i := 614) (by decide +kernel), List.mem_of_getElem? (i := 615) (by decide +kernel)⟩
theorem lw_p37 : lw_okq (⟨"PathSumsModel", "become", "(III)V"⟩, 22) := ⟨⟨by decide +kernel, by decide +kernel⟩, List.mem_of_getElem? (i := 444) (by decide +kernel), List.mem_of_getElem? (i := 621) (by decide +kernel), List.mem_of_getElem? (i := 622) (by decide +kernel)⟩
theorem lw_p38 : lw_okq (⟨"PathSumsModel", "raise", "(I)J"⟩, 22) := ⟨⟨by decide +kernel, by decide +kernel⟩, List.mem_of_getElem? (i := 444) (by decide +kernel), List.mem_of_getElem? (i := 641) (by decide +kernel), List.mem_of_getElem? (i := 642) (by decide +kernel)⟩
theorem lw_p39 : lw_okq (⟨"PathSumsModel", "listAll", "()V"⟩, 22) := ⟨⟨by decide +kernel, by decide +kernel⟩, List.mem_of_getElem? (i := 444) (by decide +kernel), List.mem_of_getElem? (i := 645) (by decide +kernel), List.mem_of_getElem? (i := 646) (by decide +kernel)⟩
theorem lw_p40 : lw_okq (⟨"PathSumsModel", "isOutput", "(II)Z"⟩, 22) := ⟨⟨by decide +kernel, by decide +kernel⟩, List.mem_of_getElem? (i := 444) (by decide +kernel), List.mem_of_getElem? (i := 652) (by decide +kernel), List.mem_of_getElem? (i := 653) (by decide +kernel)⟩
theorem lw_p41 : lw_okq (⟨"PathSumsModel", "phaseOf", "(I)I"⟩, 22) := ⟨⟨by decide +kernel, by decide +kernel⟩, List.mem_of_getElem? (i := 444) (by decide +kernel), List.mem_of_getElem? (i := 659) (by decide +kernel), List.mem_of_getElem? (i := 660) (by decide +kernel)⟩
theorem lw_p42 : lw_okq (⟨"PathSumsModel", "settle", "()V"⟩, 22) := ⟨⟨by decide +kernel, by decide +kernel⟩, List.mem_of_getElem? (i := 444) (by decide +kernel), List.mem_of_getElem? (i := 664) (by decide +kernel), List.mem_of_getElem? (i := 665) (by decide +kernel)⟩
theorem lw_p43 : lw_okq (⟨"PathSumsModel", "timesRoot", "()V"⟩, 22) := ⟨⟨by decide +kernel, by decide +kernel⟩, List.mem_of_getElem? (i := 444) (by decide +kernel), List.mem_of_getElem? (i := 668) (by decide +kernel), List.mem_of_getElem? (i := 669) (by decide +kernel)⟩
theorem lw_p44 : lw_okq (⟨"PathSumsModel", "byRoot", "()Z"⟩, 22) := ⟨⟨by decide +kernel, by decide +kernel⟩, List.mem_of_getElem? (i := 444) (by decide +kernel), List.mem_of_getElem? (i := 672) (by decide +kernel), List.mem_of_getElem? (i := 673) (by decide +kernel)⟩
def lw_privs_3 : List (MethodName × Nat) := [(⟨"PathSumsModel", "findFactor", "(I)Z"⟩, 22), (⟨"PathSumsModel", "numberOf", "(I)I"⟩, 22), (⟨"PathSumsModel", "doRule", "(II)V"⟩, 22), (⟨"PathSumsModel", "empty", "()V"⟩, 22), (⟨"PathSumsModel", "dropBit", "(I)V"⟩, 22), (⟨"PathSumsModel", "become", "(III)V"⟩, 22), (⟨"PathSumsModel", "raise", "(I)J"⟩, 22), (⟨"PathSumsModel", "listAll", "()V"⟩, 22), (⟨"PathSumsModel", "isOutput", "(II)Z"⟩, 22), (⟨"PathSumsModel", "phaseOf", "(I)I"⟩, 22), (⟨"PathSumsModel", "settle", "()V"⟩, 22), (⟨"PathSumsModel", "timesRoot", "()V"⟩, 22), (⟨"PathSumsModel", "byRoot", "()Z"⟩, 22)]
theorem lw_r3 : ∀ q ∈ lw_privs_3, lw_okq q := List.forall_mem_cons.mpr ⟨lw_p32, List.forall_mem_cons.mpr ⟨lw_p33, List.forall_mem_cons.mpr ⟨lw_p34, List.forall_mem_cons.mpr ⟨lw_p35, List.forall_mem_cons.mpr ⟨lw_p36, List.forall_mem_cons.mpr ⟨lw_p37, List.forall_mem_cons.mpr ⟨lw_p38, List.forall_mem_cons.mpr ⟨lw_p39, List.forall_mem_cons.mpr ⟨lw_p40, List.forall_mem_cons.mpr ⟨lw_p41, List.forall_mem_cons.mpr ⟨lw_p42, List.forall_mem_cons.mpr ⟨lw_p43, List.forall_mem_cons.mpr ⟨lw_p44, fun _ h => absurd h List.not_mem_nil⟩⟩⟩⟩⟩⟩⟩⟩⟩⟩⟩⟩⟩
def lw_privs : List (MethodName × Nat) := lw_privs_1 ++ (lw_privs_2 ++ (lw_privs_3))
def lw_tbl : List Cond := k2_sels lw_privs ++ tables_1
theorem lw_privs_ok : ∀ q ∈ lw_privs, lw_okq q := by
  show ∀ q ∈ lw_privs_1 ++ (lw_privs_2 ++ (lw_privs_3)), lw_okq q
  exact List.forall_mem_append.mpr ⟨lw_r1, List.forall_mem_append.mpr ⟨lw_r2, lw_r3⟩⟩
end
section
def R_Dr : String := "PathSums$DoneRules"
def R_Po : String := "PathSums$Polynomial"
def R_Ro : String := "PathSums$Root"
def R_Wa : String := "PathSums$Ways"
def R_Ps : String := "PathSums"
def R_Md : String := "PathSumsModel"
def R_Lw : String := "PathSumsLaw"
def R_Jint : String := "java/lang/Integer"
def R_Jmath : String := "java/lang/Math"
def R_Jarr : String := "java/util/Arrays"
def R_Jthr : String := "java/lang/Throwable"
def R_Jexc : String := "java/lang/Exception"
def R_Jrun : String := "java/lang/RuntimeException"
def R_Jnse : String := "java/util/NoSuchElementException"
def R_Jari : String := "java/lang/ArithmeticException"
def F_Dr : u_T := fun k => match k with
  | 0 => ("PathSums$DoneRules", "kinds", "[I", true)
  | 1 => ("PathSums$DoneRules", "ys", "[I", true)
  | 2 => ("PathSums$DoneRules", "zs", "[I", true)
  | _ => ("PathSums$DoneRules", "count", "I", false)
def t_Dr : Nat → FieldType := fun k => match k with
  | 0 => .array .int
  | 1 => .array .int
  | 2 => .array .int
  | _ => .int
theorem n_Dr : ∀ a, a < 4 → ∀ b, b < 4 → a ≠ b → (F_Dr a).2.1 ≠ (F_Dr b).2.1 := by decide +kernel
theorem t_Dr_ok : ∀ k, k < 4 → parseFieldDescriptor (F_Dr k).2.2.1 = some (t_Dr k) := by decide +kernel
def F_Po : u_T := fun k => match k with
  | 0 => ("PathSums$Polynomial", "numbers", "[I", true)
  | _ => ("PathSums$Polynomial", "monomials", "I", false)
def t_Po : Nat → FieldType := fun k => match k with
  | 0 => .array .int
  | _ => .int
theorem n_Po : ∀ a, a < 2 → ∀ b, b < 2 → a ≠ b → (F_Po a).2.1 ≠ (F_Po b).2.1 := by decide +kernel
theorem t_Po_ok : ∀ k, k < 2 → parseFieldDescriptor (F_Po k).2.2.1 = some (t_Po k) := by decide +kernel
def F_Ro : u_T := fun k => match k with
  | 0 => ("PathSums$Root", "a", "J", false)
  | 1 => ("PathSums$Root", "b", "J", false)
  | 2 => ("PathSums$Root", "c", "J", false)
  | 3 => ("PathSums$Root", "d", "J", false)
  | _ => ("PathSums$Root", "k", "I", false)
def t_Ro : Nat → FieldType := fun k => match k with
  | 0 => .long
  | 1 => .long
  | 2 => .long
  | 3 => .long
  | _ => .int
theorem n_Ro : ∀ a, a < 5 → ∀ b, b < 5 → a ≠ b → (F_Ro a).2.1 ≠ (F_Ro b).2.1 := by decide +kernel
theorem t_Ro_ok : ∀ k, k < 5 → parseFieldDescriptor (F_Ro k).2.2.1 = some (t_Ro k) := by decide +kernel
def F_Wa : u_T := fun k => match k with
  | 0 => ("PathSums$Ways", "phases", "[I", true)
  | 1 => ("PathSums$Ways", "wayOf", "[I", true)
  | 2 => ("PathSums$Ways", "wiresOf", "[I", true)
  | 3 => ("PathSums$Ways", "tallies", "[I", true)
  | _ => ("PathSums$Ways", "chosen", "I", false)
def t_Wa : Nat → FieldType := fun k => match k with
  | 0 => .array .int
  | 1 => .array .int
  | 2 => .array .int
  | 3 => .array .int
  | _ => .int
theorem n_Wa : ∀ a, a < 5 → ∀ b, b < 5 → a ≠ b → (F_Wa a).2.1 ≠ (F_Wa b).2.1 := by decide +kernel
theorem t_Wa_ok : ∀ k, k < 5 → parseFieldDescriptor (F_Wa k).2.2.1 = some (t_Wa k) := by decide +kernel
def F_Ps : u_T := fun k => match k with
  | 0 => ("PathSums", "values", "[I", true)
  | 1 => ("PathSums", "polynomial", "LPathSums$Polynomial;", true)
  | 2 => ("PathSums", "doneRules", "LPathSums$DoneRules;", true)
  | 3 => ("PathSums", "ways", "LPathSums$Ways;", true)
  | 4 => ("PathSums", "root", "LPathSums$Root;", true)
  | 5 => ("PathSums", "wireCount", "I", false)
  | 6 => ("PathSums", "bitsCame", "I", false)
  | 7 => ("PathSums", "bitsThere", "I", false)
  | 8 => ("PathSums", "inputBits", "I", false)
  | 9 => ("PathSums", "rootsBelow", "I", false)
  | 10 => ("PathSums", "begunOpen", "Z", false)
  | _ => ("PathSums", "empty", "Z", false)
def t_Ps : Nat → FieldType := fun k => match k with
  | 0 => .array .int
  | 1 => .object "PathSums$Polynomial"
  | 2 => .object "PathSums$DoneRules"
  | 3 => .object "PathSums$Ways"
  | 4 => .object "PathSums$Root"
  | 5 => .int
  | 6 => .int
  | 7 => .int
  | 8 => .int
  | 9 => .int
  | 10 => .boolean
  | _ => .boolean
theorem n_Ps : ∀ a, a < 12 → ∀ b, b < 12 → a ≠ b → (F_Ps a).2.1 ≠ (F_Ps b).2.1 := by decide +kernel
theorem t_Ps_ok : ∀ k, k < 12 → parseFieldDescriptor (F_Ps k).2.2.1 = some (t_Ps k) := by decide +kernel
def F_Md : u_T := fun k => match k with
  | 0 => ("PathSumsModel", "thrown", "I", false)
  | 1 => ("PathSumsModel", "wires", "I", false)
  | 2 => ("PathSumsModel", "isOpen", "Z", false)
  | 3 => ("PathSumsModel", "isEmpty", "Z", false)
  | 4 => ("PathSumsModel", "came", "I", false)
  | 5 => ("PathSumsModel", "there", "I", false)
  | 6 => ("PathSumsModel", "halves", "I", false)
  | 7 => ("PathSumsModel", "number", "[I", true)
  | 8 => ("PathSumsModel", "set", "[I", true)
  | 9 => ("PathSumsModel", "constant", "[I", true)
  | 10 => ("PathSumsModel", "rules", "I", false)
  | 11 => ("PathSumsModel", "ruleKind", "[I", true)
  | 12 => ("PathSumsModel", "ruleBit", "[I", true)
  | 13 => ("PathSumsModel", "ruleOther", "[I", true)
  | 14 => ("PathSumsModel", "alone", "I", false)
  | 15 => ("PathSumsModel", "halfBits", "I", false)
  | 16 => ("PathSumsModel", "oldSet", "[I", true)
  | 17 => ("PathSumsModel", "oldNumber", "[I", true)
  | 18 => ("PathSumsModel", "allSets", "[I", true)
  | 19 => ("PathSumsModel", "allNumbers", "[I", true)
  | 20 => ("PathSumsModel", "allMany", "I", false)
  | _ => ("PathSumsModel", "root", "[J", true)
def t_Md : Nat → FieldType := fun k => match k with
  | 0 => .int
  | 1 => .int
  | 2 => .boolean
  | 3 => .boolean
  | 4 => .int
  | 5 => .int
  | 6 => .int
  | 7 => .array .int
  | 8 => .array .int
  | 9 => .array .int
  | 10 => .int
  | 11 => .array .int
  | 12 => .array .int
  | 13 => .array .int
  | 14 => .int
  | 15 => .int
  | 16 => .array .int
  | 17 => .array .int
  | 18 => .array .int
  | 19 => .array .int
  | 20 => .int
  | _ => .array .long
theorem n_Md : ∀ a, a < 22 → ∀ b, b < 22 → a ≠ b → (F_Md a).2.1 ≠ (F_Md b).2.1 := by decide +kernel
theorem t_Md_ok : ∀ k, k < 22 → parseFieldDescriptor (F_Md k).2.2.1 = some (t_Md k) := by decide +kernel
abbrev vwCl : List vw_C := [(R_Dr, F_Dr, 4), (R_Po, F_Po, 2), (R_Ro, F_Ro, 5), (R_Wa, F_Wa, 5), (R_Ps, F_Ps, 12), (R_Md, F_Md, 22)]
/-- all words of the tables that stay -/
def zT : List Cond := lw_tbl.filter goodWord
theorem zT_good : ∀ w ∈ zT, (w.onTables && w.keeps) = true ∨ ∃ ty, w = .arrayClass ty := fun w h => good_of_word (List.mem_filter.mp h).2
theorem zmem0 {w : Cond} (i : Nat) (h : (k2_sels lw_privs)[i]? = some w) (hg : goodWord w = true) : w ∈ zT := List.mem_filter.mpr ⟨List.mem_append_left _ (List.mem_of_getElem? h), hg⟩
theorem zmem1 {w : Cond} (i : Nat) (h : tables_1_1[i]? = some w) (hg : goodWord w = true) : w ∈ zT := List.mem_filter.mpr ⟨List.mem_append_right _ (List.mem_append_left _ (List.mem_of_getElem? h)), hg⟩
theorem zmem2 {w : Cond} (i : Nat) (h : tables_1_2[i]? = some w) (hg : goodWord w = true) : w ∈ zT := List.mem_filter.mpr ⟨List.mem_append_right _ (List.mem_append_right _ (List.mem_append_left _ (List.mem_of_getElem? h))), hg⟩
theorem zmem3 {w : Cond} (i : Nat) (h : tables_1_3[i]? = some w) (hg : goodWord w = true) : w ∈ zT := List.mem_filter.mpr ⟨List.mem_append_right _ (List.mem_append_right _ (List.mem_append_right _ (List.mem_of_getElem? h))), hg⟩
theorem iw_Dr : ∀ w ∈ u_ws R_Dr F_Dr 4, w ∈ zT := by
  intro w h
  obtain ⟨k, hk, rfl⟩ := List.mem_map.mp h
  have hk := List.mem_range.mp hk
  match k, hk with
  | 0, _ => exact zmem1 49 rfl rfl
  | 1, _ => exact zmem1 51 rfl rfl
  | 2, _ => exact zmem1 53 rfl rfl
  | 3, _ => exact zmem1 55 rfl rfl
  | k + 4, hk => exact absurd hk (by omega)
theorem iw_Po : ∀ w ∈ u_ws R_Po F_Po 2, w ∈ zT := by
  intro w h
  obtain ⟨k, hk, rfl⟩ := List.mem_map.mp h
  have hk := List.mem_range.mp hk
  match k, hk with
  | 0, _ => exact zmem1 32 rfl rfl
  | 1, _ => exact zmem1 34 rfl rfl
  | k + 2, hk => exact absurd hk (by omega)
theorem iw_Ro : ∀ w ∈ u_ws R_Ro F_Ro 5, w ∈ zT := by
  intro w h
  obtain ⟨k, hk, rfl⟩ := List.mem_map.mp h
  have hk := List.mem_range.mp hk
  match k, hk with
  | 0, _ => exact zmem1 92 rfl rfl
  | 1, _ => exact zmem1 94 rfl rfl
  | 2, _ => exact zmem1 96 rfl rfl
  | 3, _ => exact zmem1 98 rfl rfl
  | 4, _ => exact zmem1 100 rfl rfl
  | k + 5, hk => exact absurd hk (by omega)
theorem iw_Wa : ∀ w ∈ u_ws R_Wa F_Wa 5, w ∈ zT := by
  intro w h
  obtain ⟨k, hk, rfl⟩ := List.mem_map.mp h
  have hk := List.mem_range.mp hk
  match k, hk with
  | 0, _ => exact zmem1 70 rfl rfl
  | 1, _ => exact zmem1 72 rfl rfl
  | 2, _ => exact zmem1 74 rfl rfl
  | 3, _ => exact zmem1 76 rfl rfl
  | 4, _ => exact zmem1 78 rfl rfl
  | k + 5, hk => exact absurd hk (by omega)
theorem iw_Ps : ∀ w ∈ u_ws R_Ps F_Ps 12, w ∈ zT := by
  intro w h
  obtain ⟨k, hk, rfl⟩ := List.mem_map.mp h
  have hk := List.mem_range.mp hk
  match k, hk with
  | 0, _ => exact zmem1 127 rfl rfl
  | 1, _ => exact zmem1 129 rfl rfl
  | 2, _ => exact zmem1 131 rfl rfl
  | 3, _ => exact zmem1 133 rfl rfl
  | 4, _ => exact zmem1 135 rfl rfl
  | 5, _ => exact zmem1 137 rfl rfl
  | 6, _ => exact zmem1 139 rfl rfl
  | 7, _ => exact zmem1 141 rfl rfl
  | 8, _ => exact zmem1 143 rfl rfl
  | 9, _ => exact zmem1 145 rfl rfl
  | 10, _ => exact zmem1 147 rfl rfl
  | 11, _ => exact zmem1 149 rfl rfl
  | k + 12, hk => exact absurd hk (by omega)
theorem iw_Md : ∀ w ∈ u_ws R_Md F_Md 22, w ∈ zT := by
  intro w h
  obtain ⟨k, hk, rfl⟩ := List.mem_map.mp h
  have hk := List.mem_range.mp hk
  match k, hk with
  | 0, _ => exact zmem2 235 rfl rfl
  | 1, _ => exact zmem2 237 rfl rfl
  | 2, _ => exact zmem2 239 rfl rfl
  | 3, _ => exact zmem3 1 rfl rfl
  | 4, _ => exact zmem3 3 rfl rfl
  | 5, _ => exact zmem3 5 rfl rfl
  | 6, _ => exact zmem3 7 rfl rfl
  | 7, _ => exact zmem3 9 rfl rfl
  | 8, _ => exact zmem3 11 rfl rfl
  | 9, _ => exact zmem3 13 rfl rfl
  | 10, _ => exact zmem3 15 rfl rfl
  | 11, _ => exact zmem3 17 rfl rfl
  | 12, _ => exact zmem3 19 rfl rfl
  | 13, _ => exact zmem3 21 rfl rfl
  | 14, _ => exact zmem3 23 rfl rfl
  | 15, _ => exact zmem3 25 rfl rfl
  | 16, _ => exact zmem3 27 rfl rfl
  | 17, _ => exact zmem3 29 rfl rfl
  | 18, _ => exact zmem3 31 rfl rfl
  | 19, _ => exact zmem3 33 rfl rfl
  | 20, _ => exact zmem3 35 rfl rfl
  | 21, _ => exact zmem3 37 rfl rfl
  | k + 22, hk => exact absurd hk (by omega)
abbrev b_Ps_init : ByteArray := prog_1_method_1_code
def y_Ps_init : MethodName := ⟨R_Ps, "<init>", "()V"⟩
abbrev b_Ps_begin : ByteArray := prog_1_method_2_code
def y_Ps_begin : MethodName := ⟨R_Ps, "begin", "(II)Z"⟩
abbrev b_Ps_open : ByteArray := prog_1_method_3_code
def y_Ps_open : MethodName := ⟨R_Ps, "open", "(I)Z"⟩
abbrev b_Ps_gate : ByteArray := prog_1_method_4_code
def y_Ps_gate : MethodName := ⟨R_Ps, "gate", "(IIII)Z"⟩
abbrev b_Ps_reduce : ByteArray := prog_1_method_5_code
def y_Ps_reduce : MethodName := ⟨R_Ps, "reduce", "()I"⟩
abbrev b_Ps_rule : ByteArray := prog_1_method_6_code
def y_Ps_rule : MethodName := ⟨R_Ps, "rule", "(II)I"⟩
abbrev b_Ps_term : ByteArray := prog_1_method_7_code
def y_Ps_term : MethodName := ⟨R_Ps, "term", "(I)I"⟩
abbrev b_Ps_wire : ByteArray := prog_1_method_8_code
def y_Ps_wire : MethodName := ⟨R_Ps, "wire", "(II)I"⟩
abbrev b_Ps_value : ByteArray := prog_1_method_9_code
def y_Ps_value : MethodName := ⟨R_Ps, "value", "(III)J"⟩
abbrev b_Ps_total : ByteArray := prog_1_method_10_code
def y_Ps_total : MethodName := ⟨R_Ps, "total", "(I)I"⟩
abbrev b_Ps_halves : ByteArray := prog_1_method_11_code
def y_Ps_halves : MethodName := ⟨R_Ps, "halves", "()I"⟩
abbrev b_Ps_has : ByteArray := prog_1_method_12_code
def y_Ps_has : MethodName := ⟨R_Ps, "has", "(II)Z"⟩
abbrev b_Ps_isWireCount : ByteArray := prog_1_method_13_code
def y_Ps_isWireCount : MethodName := ⟨R_Ps, "isWireCount", "(I)Z"⟩
abbrev b_Ps_isWire : ByteArray := prog_1_method_14_code
def y_Ps_isWire : MethodName := ⟨R_Ps, "isWire", "(I)Z"⟩
abbrev b_Ps_isChoice : ByteArray := prog_1_method_15_code
def y_Ps_isChoice : MethodName := ⟨R_Ps, "isChoice", "(I)Z"⟩
abbrev b_Ps_startAnew : ByteArray := prog_1_method_16_code
def y_Ps_startAnew : MethodName := ⟨R_Ps, "startAnew", "(IZ)V"⟩
abbrev b_Ps_fits : ByteArray := prog_1_method_17_code
def y_Ps_fits : MethodName := ⟨R_Ps, "fits", "(IIII)Z"⟩
abbrev b_Ps_bringBit : ByteArray := prog_1_method_18_code
def y_Ps_bringBit : MethodName := ⟨R_Ps, "bringBit", "(II)V"⟩
abbrev b_Ps_leastBitWithRule : ByteArray := prog_1_method_19_code
def y_Ps_leastBitWithRule : MethodName := ⟨R_Ps, "leastBitWithRule", "()I"⟩
abbrev b_Ps_ruleFor : ByteArray := prog_1_method_20_code
def y_Ps_ruleFor : MethodName := ⟨R_Ps, "ruleFor", "(I)I"⟩
abbrev b_Ps_doRule : ByteArray := prog_1_method_21_code
def y_Ps_doRule : MethodName := ⟨R_Ps, "doRule", "(II)V"⟩
abbrev b_Ps_greatestOf : ByteArray := prog_1_method_22_code
def y_Ps_greatestOf : MethodName := ⟨R_Ps, "greatestOf", "(I)I"⟩
abbrev b_Ps_becomeEmpty : ByteArray := prog_1_method_23_code
def y_Ps_becomeEmpty : MethodName := ⟨R_Ps, "becomeEmpty", "()V"⟩
abbrev b_Ps_replaceInValues : ByteArray := prog_1_method_24_code
def y_Ps_replaceInValues : MethodName := ⟨R_Ps, "replaceInValues", "(II)V"⟩
abbrev b_Ps_findAmplitude : ByteArray := prog_1_method_25_code
def y_Ps_findAmplitude : MethodName := ⟨R_Ps, "findAmplitude", "(III)V"⟩
abbrev b_Md_init : ByteArray := prog_7_method_1_code
def y_Md_init : MethodName := ⟨R_Md, "<init>", "()V"⟩
abbrev b_Md_thrown : ByteArray := prog_7_method_2_code
def y_Md_thrown : MethodName := ⟨R_Md, "thrown", "()I"⟩
abbrev b_Md_count : ByteArray := prog_7_method_3_code
def y_Md_count : MethodName := ⟨R_Md, "count", "(I)I"⟩
abbrev b_Md_placeOf : ByteArray := prog_7_method_4_code
def y_Md_placeOf : MethodName := ⟨R_Md, "placeOf", "(I)I"⟩
abbrev b_Md_numberOf : ByteArray := prog_7_method_5_code
def y_Md_numberOf : MethodName := ⟨R_Md, "numberOf", "(I)I"⟩
abbrev b_Md_add : ByteArray := prog_7_method_6_code
def y_Md_add : MethodName := ⟨R_Md, "add", "(II)V"⟩
abbrev b_Md_addOr : ByteArray := prog_7_method_7_code
def y_Md_addOr : MethodName := ⟨R_Md, "addOr", "(IIII)V"⟩
abbrev b_Md_addHalf : ByteArray := prog_7_method_8_code
def y_Md_addHalf : MethodName := ⟨R_Md, "addHalf", "(II)V"⟩
abbrev b_Md_addTwo : ByteArray := prog_7_method_9_code
def y_Md_addTwo : MethodName := ⟨R_Md, "addTwo", "(III)V"⟩
abbrev b_Md_addThree : ByteArray := prog_7_method_10_code
def y_Md_addThree : MethodName := ⟨R_Md, "addThree", "(III)V"⟩
abbrev b_Md_start : ByteArray := prog_7_method_11_code
def y_Md_start : MethodName := ⟨R_Md, "start", "(I)V"⟩
abbrev b_Md_begin : ByteArray := prog_7_method_12_code
def y_Md_begin : MethodName := ⟨R_Md, "begin", "(II)Z"⟩
abbrev b_Md_open : ByteArray := prog_7_method_13_code
def y_Md_open : MethodName := ⟨R_Md, "open", "(I)Z"⟩
abbrev b_Md_isWire : ByteArray := prog_7_method_14_code
def y_Md_isWire : MethodName := ⟨R_Md, "isWire", "(I)Z"⟩
abbrev b_Md_wiresOf : ByteArray := prog_7_method_15_code
def y_Md_wiresOf : MethodName := ⟨R_Md, "wiresOf", "(I)I"⟩
abbrev b_Md_eighthsOf : ByteArray := prog_7_method_16_code
def y_Md_eighthsOf : MethodName := ⟨R_Md, "eighthsOf", "(I)I"⟩
abbrev b_Md_exchange : ByteArray := prog_7_method_17_code
def y_Md_exchange : MethodName := ⟨R_Md, "exchange", "(II)V"⟩
abbrev b_Md_gate : ByteArray := prog_7_method_18_code
def y_Md_gate : MethodName := ⟨R_Md, "gate", "(IIII)Z"⟩
abbrev b_Md_newBit : ByteArray := prog_7_method_19_code
def y_Md_newBit : MethodName := ⟨R_Md, "newBit", "(II)V"⟩
abbrev b_Md_inputs : ByteArray := prog_7_method_20_code
def y_Md_inputs : MethodName := ⟨R_Md, "inputs", "()I"⟩
abbrev b_Md_isHidden : ByteArray := prog_7_method_21_code
def y_Md_isHidden : MethodName := ⟨R_Md, "isHidden", "(I)Z"⟩
abbrev b_Md_findFactor : ByteArray := prog_7_method_22_code
def y_Md_findFactor : MethodName := ⟨R_Md, "findFactor", "(I)Z"⟩
abbrev b_Md_ruleFor : ByteArray := prog_7_method_23_code
def y_Md_ruleFor : MethodName := ⟨R_Md, "ruleFor", "(I)I"⟩
abbrev b_Md_empty : ByteArray := prog_7_method_24_code
def y_Md_empty : MethodName := ⟨R_Md, "empty", "()V"⟩
abbrev b_Md_dropBit : ByteArray := prog_7_method_25_code
def y_Md_dropBit : MethodName := ⟨R_Md, "dropBit", "(I)V"⟩
abbrev b_Md_greatest : ByteArray := prog_7_method_26_code
def y_Md_greatest : MethodName := ⟨R_Md, "greatest", "(I)I"⟩
abbrev b_Md_become : ByteArray := prog_7_method_27_code
def y_Md_become : MethodName := ⟨R_Md, "become", "(III)V"⟩
abbrev b_Md_doRule : ByteArray := prog_7_method_28_code
def y_Md_doRule : MethodName := ⟨R_Md, "doRule", "(II)V"⟩
abbrev b_Md_reduce : ByteArray := prog_7_method_29_code
def y_Md_reduce : MethodName := ⟨R_Md, "reduce", "()I"⟩
abbrev b_Md_rule : ByteArray := prog_7_method_30_code
def y_Md_rule : MethodName := ⟨R_Md, "rule", "(II)I"⟩
abbrev b_Md_term : ByteArray := prog_7_method_31_code
def y_Md_term : MethodName := ⟨R_Md, "term", "(I)I"⟩
abbrev b_Md_wire : ByteArray := prog_7_method_32_code
def y_Md_wire : MethodName := ⟨R_Md, "wire", "(II)I"⟩
abbrev b_Md_listAll : ByteArray := prog_7_method_33_code
def y_Md_listAll : MethodName := ⟨R_Md, "listAll", "()V"⟩
abbrev b_Md_parity : ByteArray := prog_7_method_34_code
def y_Md_parity : MethodName := ⟨R_Md, "parity", "(I)I"⟩
abbrev b_Md_isOutput : ByteArray := prog_7_method_35_code
def y_Md_isOutput : MethodName := ⟨R_Md, "isOutput", "(II)Z"⟩
abbrev b_Md_phaseOf : ByteArray := prog_7_method_36_code
def y_Md_phaseOf : MethodName := ⟨R_Md, "phaseOf", "(I)I"⟩
abbrev b_Md_spread : ByteArray := prog_7_method_37_code
def y_Md_spread : MethodName := ⟨R_Md, "spread", "(II)I"⟩
abbrev b_Md_timesRoot : ByteArray := prog_7_method_38_code
def y_Md_timesRoot : MethodName := ⟨R_Md, "timesRoot", "()V"⟩
abbrev b_Md_byRoot : ByteArray := prog_7_method_39_code
def y_Md_byRoot : MethodName := ⟨R_Md, "byRoot", "()Z"⟩
abbrev b_Md_settle : ByteArray := prog_7_method_40_code
def y_Md_settle : MethodName := ⟨R_Md, "settle", "()V"⟩
abbrev b_Md_raise : ByteArray := prog_7_method_41_code
def y_Md_raise : MethodName := ⟨R_Md, "raise", "(I)J"⟩
abbrev b_Md_value : ByteArray := prog_7_method_42_code
def y_Md_value : MethodName := ⟨R_Md, "value", "(III)J"⟩
abbrev b_Md_total : ByteArray := prog_7_method_43_code
def y_Md_total : MethodName := ⟨R_Md, "total", "(I)I"⟩
abbrev b_Md_halves : ByteArray := prog_7_method_44_code
def y_Md_halves : MethodName := ⟨R_Md, "halves", "()I"⟩
abbrev b_Dr_init : ByteArray := prog_2_method_1_code
def y_Dr_init : MethodName := ⟨R_Dr, "<init>", "()V"⟩
abbrev b_Dr_keep : ByteArray := prog_2_method_2_code
def y_Dr_keep : MethodName := ⟨R_Dr, "keep", "(III)V"⟩
abbrev b_Dr_look : ByteArray := prog_2_method_3_code
def y_Dr_look : MethodName := ⟨R_Dr, "look", "(II)I"⟩
abbrev b_Po_init : ByteArray := prog_3_method_1_code
def y_Po_init : MethodName := ⟨R_Po, "<init>", "()V"⟩
abbrev b_Po_clear : ByteArray := prog_3_method_2_code
def y_Po_clear : MethodName := ⟨R_Po, "clear", "()V"⟩
abbrev b_Po_numberOf : ByteArray := prog_3_method_3_code
def y_Po_numberOf : MethodName := ⟨R_Po, "numberOf", "(I)I"⟩
abbrev b_Po_add : ByteArray := prog_3_method_4_code
def y_Po_add : MethodName := ⟨R_Po, "add", "(II)V"⟩
abbrev b_Po_addXor : ByteArray := prog_3_method_5_code
def y_Po_addXor : MethodName := ⟨R_Po, "addXor", "(III)V"⟩
abbrev b_Po_addPairsBelow : ByteArray := prog_3_method_6_code
def y_Po_addPairsBelow : MethodName := ⟨R_Po, "addPairsBelow", "(IIII)V"⟩
abbrev b_Po_addTriplesBelow : ByteArray := prog_3_method_7_code
def y_Po_addTriplesBelow : MethodName := ⟨R_Po, "addTriplesBelow", "(III)V"⟩
abbrev b_Po_addFourTimes : ByteArray := prog_3_method_8_code
def y_Po_addFourTimes : MethodName := ⟨R_Po, "addFourTimes", "(III)V"⟩
abbrev b_Po_replaceBit : ByteArray := prog_3_method_9_code
def y_Po_replaceBit : MethodName := ⟨R_Po, "replaceBit", "(II)V"⟩
abbrev b_Po_partnersOf : ByteArray := prog_3_method_10_code
def y_Po_partnersOf : MethodName := ⟨R_Po, "partnersOf", "(I)I"⟩
abbrev b_Po_placeOf : ByteArray := prog_3_method_11_code
def y_Po_placeOf : MethodName := ⟨R_Po, "placeOf", "(I)I"⟩
abbrev b_Ro_init : ByteArray := prog_4_method_1_code
def y_Ro_init : MethodName := ⟨R_Ro, "<init>", "()V"⟩
abbrev b_Ro_take : ByteArray := prog_4_method_2_code
def y_Ro_take : MethodName := ⟨R_Ro, "take", "([II)V"⟩
abbrev b_Ro_multiplyByR : ByteArray := prog_4_method_3_code
def y_Ro_multiplyByR : MethodName := ⟨R_Ro, "multiplyByR", "()V"⟩
abbrev b_Ro_isMultipleOfR : ByteArray := prog_4_method_4_code
def y_Ro_isMultipleOfR : MethodName := ⟨R_Ro, "isMultipleOfR", "()Z"⟩
abbrev b_Ro_halve : ByteArray := prog_4_method_5_code
def y_Ro_halve : MethodName := ⟨R_Ro, "halve", "()V"⟩
abbrev b_Ro_look : ByteArray := prog_4_method_6_code
def y_Ro_look : MethodName := ⟨R_Ro, "look", "(I)J"⟩
abbrev b_Wa_init : ByteArray := prog_5_method_1_code
def y_Wa_init : MethodName := ⟨R_Wa, "<init>", "()V"⟩
abbrev b_Wa_choose : ByteArray := prog_5_method_2_code
def y_Wa_choose : MethodName := ⟨R_Wa, "choose", "(I[I)V"⟩
abbrev b_Wa_wiresWith : ByteArray := prog_5_method_3_code
def y_Wa_wiresWith : MethodName := ⟨R_Wa, "wiresWith", "(I[I)I"⟩
abbrev b_Wa_findPhases : ByteArray := prog_5_method_4_code
def y_Wa_findPhases : MethodName := ⟨R_Wa, "findPhases", "(LPathSums$Polynomial;I)V"⟩
abbrev b_Wa_layProductsBelow : ByteArray := prog_5_method_5_code
def y_Wa_layProductsBelow : MethodName := ⟨R_Wa, "layProductsBelow", "(ILPathSums$Polynomial;I)V"⟩
abbrev b_Wa_addNumber : ByteArray := prog_5_method_6_code
def y_Wa_addNumber : MethodName := ⟨R_Wa, "addNumber", "(II)V"⟩
abbrev b_Wa_sumOverParts : ByteArray := prog_5_method_7_code
def y_Wa_sumOverParts : MethodName := ⟨R_Wa, "sumOverParts", "()V"⟩
abbrev b_Wa_tally : ByteArray := prog_5_method_8_code
def y_Wa_tally : MethodName := ⟨R_Wa, "tally", "(II)V"⟩
abbrev b_Jint_bitCount : ByteArray := prog_10_method_49_code
def y_Jint_bitCount : MethodName := ⟨R_Jint, "bitCount", "(I)I"⟩
abbrev b_Jmath_max : ByteArray := prog_11_method_65_code
def y_Jmath_max : MethodName := ⟨R_Jmath, "max", "(II)I"⟩
abbrev b_Jarr_fill : ByteArray := prog_15_method_103_code
def y_Jarr_fill : MethodName := ⟨R_Jarr, "fill", "([II)V"⟩
end
section
/-! what is the same wherever the machine stands -/
def zN : List Cond := [(Jvm.Cond.methodLinkNest "PathSums" (15 : Nat) ({ cls := "PathSums$Polynomial", name := "<init>", desc := "()V" } : Jvm.MethodName) "PathSums"), (Jvm.Cond.fieldLinkNest "PathSums" (140 : Nat) "PathSums$Polynomial" "monomials" "I" "PathSums"), (Jvm.Cond.methodLinkNest "PathSums" (22 : Nat) ({ cls := "PathSums$DoneRules", name := "<init>", desc := "()V" } : Jvm.MethodName) "PathSums"), (Jvm.Cond.fieldLinkNest "PathSums" (143 : Nat) "PathSums$DoneRules" "count" "I" "PathSums"), (Jvm.Cond.methodLinkNest "PathSums" (29 : Nat) ({ cls := "PathSums$Ways", name := "<init>", desc := "()V" } : Jvm.MethodName) "PathSums"), (Jvm.Cond.fieldLinkNest "PathSums" (190 : Nat) "PathSums$Ways" "tallies" "[I" "PathSums"), (Jvm.Cond.methodLinkNest "PathSums" (36 : Nat) ({ cls := "PathSums$Root", name := "<init>", desc := "()V" } : Jvm.MethodName) "PathSums"), (Jvm.Cond.methodLinkNest "PathSums$Polynomial" (29 : Nat) ({ cls := "PathSums", name := "has", desc := "(II)Z" } : Jvm.MethodName) "PathSums"), (Jvm.Cond.methodLinkNest "PathSums$Ways" (28 : Nat) ({ cls := "PathSums", name := "has", desc := "(II)Z" } : Jvm.MethodName) "PathSums")]
def tb_TURNS : Nat → Int32 := fun k => match k with
  | 0 => 4
  | 1 => 2
  | 2 => 1
  | 3 => 6
  | _ => 7
def zE (A : Nat → Prop) (U : State) (H : Heap) : Prop := (∀ w ∈ zN, va_Nw w U) ∧ (∃ t : Nat, va_Z "PathSums" "TURNS" "[I" (.ref t) A U H ∧ va_T .int t 5 (fun k => .int (tb_TURNS k)) A U H)
theorem zN_kind : ∀ w ∈ zN, (∃ a i b n d h, w = .fieldLinkNest a i b n d h) ∨ (∃ a i x h, w = .methodLinkNest a i x h) := by
  intro w h
  simp only [zN, List.mem_cons, List.not_mem_nil, or_false] at h
  rcases h with rfl | rfl | rfl | rfl | rfl | rfl | rfl | rfl | rfl <;> first | exact Or.inl ⟨_, _, _, _, _, _, rfl⟩ | exact Or.inr ⟨_, _, _, _, rfl⟩
theorem zN_warm {s U : State} (hW : s.WarmedH U.vm) {w : Cond} (hw : w ∈ zN) (h : va_Nw w s) : va_Nw w U := by
  rcases zN_kind w hw with ⟨a, i, b, n, d, h1, rfl⟩ | ⟨a, i, x, h1, rfl⟩
  · exact va_Nw.warmF hW h
  · exact va_Nw.warmM hW h
theorem zN_same {u U : State} (hv : u.vm = U.vm) {w : Cond} (hw : w ∈ zN) (h : va_Nw w u) : va_Nw w U := by
  rcases zN_kind w hw with ⟨a, i, b, n, d, h1, rfl⟩ | ⟨a, i, x, h1, rfl⟩
  · exact va_Nw.same rfl hv h
  · exact va_Nw.same rfl hv h
theorem zE.warm {A : Nat → Prop} {s U : State} {H : Heap} (hW : s.WarmedH U.vm) (h : zE A s H) : zE A U H := by
  obtain ⟨h1, t, h2, h3⟩ := h
  exact ⟨fun w hw => zN_warm hW hw (h1 w hw), t, va_Z.moved hW.alike h2, va_T.moved hW.alike h3⟩
theorem zE.same {A : Nat → Prop} {u U : State} {H : Heap} (hv : u.vm = U.vm) (h : zE A u H) : zE A U H := by
  obtain ⟨h1, t, h2, h3⟩ := h
  have hal : u.vm.Alike U.vm := by rw [hv]; exact Vm.Alike.refl _
  exact ⟨fun w hw => zN_same hv hw (h1 w hw), t, va_Z.moved hal h2, va_T.moved hal h3⟩
theorem zE.kept {A : Nat → Prop} {U : State} {H H1 : Heap} (h : zE A U H) (hq : ∀ a : Nat, a < H.size → ¬ A a → H1[a]? = H[a]?) : zE A U H1 := by
  obtain ⟨h1, t, h2, h3⟩ := h
  exact ⟨h1, t, va_Z.kept h2 hq, va_T.kept h3 hq⟩
theorem zE.narrow {A B : Nat → Prop} {U : State} {H : Heap} (h : zE A U H) (hAB : ∀ q, B q → A q) : zE B U H := by
  obtain ⟨h1, t, h2, h3⟩ := h
  exact ⟨h1, t, va_Z.narrow h2 hAB, va_T.narrow h3 hAB⟩

/-! The Z layer: a frame with its world, its locals and its stack as lists -/
section ZL
variable {p : Program} {l : Launch} {e : Env} {R : Room} {s : State} {m : MethodId} {args : Array Value} {below : List Frame} {meth : Method} {c : Code} {cells slots : Nat} {Q : State → Prop}
variable {cc : ByteArray} {pc nL : Nat} {D : va_G} {cl : List vw_C} {A : Nat → Prop} {tys : List (ClassId × FieldType)} {ws ws' : va_W} {lv lv' : List (Nat × Value)} {st rest : List Value} {own : String} {as0 : List Nat}
/-- what stays the same all over a method -/
def zC (p : Program) (s : State) (m : MethodId) (args : Array Value) (meth : Method) (c : Code) (cc : ByteArray) (nL : Nat) (own : String) (D : va_G) (cl : List vw_C) (tys : List (ClassId × FieldType)) (A : Nat → Prop) : Prop :=
  p.tables.exec = Jvm.exec ∧ c.code = cc ∧ c.maxLocals = nL ∧ s.vm.findClass own = some m.cls ∧ (∀ w ∈ zT, w.before args s = true) ∧ va_K D cl tys s ∧ (∀ q, s.heap.size ≤ q → A q) ∧ meth.locks = false ∧ zE A s s.heap
/-- the machine at pc, with these locals, this stack, this world, comes to Q -/
def ZW (p : Program) (l : Launch) (e : Env) (R : Room) (s : State) (m : MethodId) (args : Array Value) (below : List Frame) (meth : Method) (c : Code) (nL : Nat) (D : va_G) (cl : List vw_C) (A : Nat → Prop) (cells slots : Nat) (Q : State → Prop) (ws : va_W) (pc : Nat) (lv : List (Nat × Value)) (st : List Value) : Prop :=
  ∀ (H : Heap) (locs : List Loc) (ls : Array Slot), lv_has ls nL lv → va_P D cl ws H → va_D A ws → va_S A s.heap H locs → W p l e R s m args below meth c H locs cells slots Q (F0 m pc ls st)

theorem z_iconst (C : zC p s m args meth c cc nL own D cl tys A) {n : Int} {v : Int32} (hdg : decode cc pc = .ok (.iconst n, 1)) (hv : Int32.ofInt n = v) (k : ZW p l e R s m args below meth c nL D cl A cells slots Q ws (pc + 1) lv (.int v :: st)) : ZW p l e R s m args below meth c nL D cl A cells slots Q ws pc lv st :=
  fun H locs ls h1 h2 h3 h4 => lv_iconst C.1 C.2.1 hdg hv (k H locs ls h1 h2 h3 h4)
theorem z_bipush (C : zC p s m args meth c cc nL own D cl tys A) {n : Int} {v : Int32} (hdg : decode cc pc = .ok (.bipush n, 2)) (hv : (Int8.ofInt n).toInt32 = v) (k : ZW p l e R s m args below meth c nL D cl A cells slots Q ws (pc + 2) lv (.int v :: st)) : ZW p l e R s m args below meth c nL D cl A cells slots Q ws pc lv st :=
  fun H locs ls h1 h2 h3 h4 => lv_bipush C.1 C.2.1 hdg hv (k H locs ls h1 h2 h3 h4)
theorem z_sipush (C : zC p s m args meth c cc nL own D cl tys A) {n : Int} {v : Int32} (hdg : decode cc pc = .ok (.sipush n, 3)) (hv : (Int16.ofInt n).toInt32 = v) (k : ZW p l e R s m args below meth c nL D cl A cells slots Q ws (pc + 3) lv (.int v :: st)) : ZW p l e R s m args below meth c nL D cl A cells slots Q ws pc lv st :=
  fun H locs ls h1 h2 h3 h4 => lv_sipush C.1 C.2.1 hdg hv (k H locs ls h1 h2 h3 h4)
theorem z_lconst (C : zC p s m args meth c cc nL own D cl tys A) {n : Fin 2} {v : Int64} (hdg : decode cc pc = .ok (.lconst n, 1)) (hv : Int64.ofNat (n : Nat) = v) (k : ZW p l e R s m args below meth c nL D cl A cells slots Q ws (pc + 1) lv (.long v :: st)) : ZW p l e R s m args below meth c nL D cl A cells slots Q ws pc lv st :=
  fun H locs ls h1 h2 h3 h4 => lv_lconst C.1 C.2.1 hdg hv (k H locs ls h1 h2 h3 h4)
theorem z_ldc (C : zC p s m args meth c cc nL own D cl tys A) {index : Nat} {v : Int32} (hc : Jvm.Cond.constant own index v ∈ zT) (hdg : decode cc pc = .ok (.ldc index, 2)) (k : ZW p l e R s m args below meth c nL D cl A cells slots Q ws (pc + 2) lv (.int v :: st)) : ZW p l e R s m args below meth c nL D cl A cells slots Q ws pc lv st :=
  fun H locs ls h1 h2 h3 h4 => lv_ldc C.1 C.2.1 C.2.2.2.1 (C.2.2.2.2.1 _ hc) hdg (k H locs ls h1 h2 h3 h4)
theorem z_ldc2 (C : zC p s m args meth c cc nL own D cl tys A) {index : Nat} {v : Int64} (hc : Jvm.Cond.constantLong own index v ∈ zT) (hdg : decode cc pc = .ok (.ldc2_w index, 3)) (k : ZW p l e R s m args below meth c nL D cl A cells slots Q ws (pc + 3) lv (.long v :: st)) : ZW p l e R s m args below meth c nL D cl A cells slots Q ws pc lv st :=
  fun H locs ls h1 h2 h3 h4 => lv_ldc2 C.1 C.2.1 C.2.2.2.1 (C.2.2.2.2.1 _ hc) hdg (k H locs ls h1 h2 h3 h4)
theorem z_iload_n (C : zC p s m args meth c cc nL own D cl tys A) {k : Fin 4} {i : Nat} {x : Int32} (hdg : decode cc pc = .ok (.iload_n k, 1)) (hi : (k : Nat) = i) (q : Nat) (hl : lv[q]? = some (i, .int x)) (kk : ZW p l e R s m args below meth c nL D cl A cells slots Q ws (pc + 1) lv (.int x :: st)) : ZW p l e R s m args below meth c nL D cl A cells slots Q ws pc lv st :=
  fun H locs ls h1 h2 h3 h4 => lv_iload_n C.1 C.2.1 hdg hi (lv_at h1 q hl) (kk H locs ls h1 h2 h3 h4)
theorem z_iload (C : zC p s m args meth c cc nL own D cl tys A) {i : Nat} {x : Int32} (hdg : decode cc pc = .ok (.iload i, 2)) (q : Nat) (hl : lv[q]? = some (i, .int x)) (kk : ZW p l e R s m args below meth c nL D cl A cells slots Q ws (pc + 2) lv (.int x :: st)) : ZW p l e R s m args below meth c nL D cl A cells slots Q ws pc lv st :=
  fun H locs ls h1 h2 h3 h4 => lv_iload C.1 C.2.1 hdg (lv_at h1 q hl) (kk H locs ls h1 h2 h3 h4)
theorem z_istore_n (C : zC p s m args meth c cc nL own D cl tys A) {k : Fin 4} {i : Nat} {x : Int32} (hdg : decode cc pc = .ok (.istore_n k, 1)) (hi : (k : Nat) = i) (hn : i < nL) (hl : (i, Value.int x) :: lv.filter (fun q => !(q.1 == i) && !(q.1 + 1 == i && q.2.category == 2)) = lv') (kk : ZW p l e R s m args below meth c nL D cl A cells slots Q ws (pc + 1) lv' st) : ZW p l e R s m args below meth c nL D cl A cells slots Q ws pc lv (.int x :: st) :=
  fun H locs ls h1 h2 h3 h4 => lv_istore_n C.1 C.2.1 hdg hi h1 hn hl (fun ls' h1' => kk H locs ls' h1' h2 h3 h4)
theorem z_istore (C : zC p s m args meth c cc nL own D cl tys A) {i : Nat} {x : Int32} (hdg : decode cc pc = .ok (.istore i, 2)) (hn : i < nL) (hl : (i, Value.int x) :: lv.filter (fun q => !(q.1 == i) && !(q.1 + 1 == i && q.2.category == 2)) = lv') (kk : ZW p l e R s m args below meth c nL D cl A cells slots Q ws (pc + 2) lv' st) : ZW p l e R s m args below meth c nL D cl A cells slots Q ws pc lv (.int x :: st) :=
  fun H locs ls h1 h2 h3 h4 => lv_istore C.1 C.2.1 hdg h1 hn hl (fun ls' h1' => kk H locs ls' h1' h2 h3 h4)
theorem z_lload_n (C : zC p s m args meth c cc nL own D cl tys A) {k : Fin 4} {i : Nat} {x : Int64} (hdg : decode cc pc = .ok (.lload_n k, 1)) (hi : (k : Nat) = i) (q : Nat) (hl : lv[q]? = some (i, .long x)) (kk : ZW p l e R s m args below meth c nL D cl A cells slots Q ws (pc + 1) lv (.long x :: st)) : ZW p l e R s m args below meth c nL D cl A cells slots Q ws pc lv st :=
  fun H locs ls h1 h2 h3 h4 => lv_lload_n C.1 C.2.1 hdg hi (lv_at h1 q hl) (kk H locs ls h1 h2 h3 h4)
theorem z_lload (C : zC p s m args meth c cc nL own D cl tys A) {i : Nat} {x : Int64} (hdg : decode cc pc = .ok (.lload i, 2)) (q : Nat) (hl : lv[q]? = some (i, .long x)) (kk : ZW p l e R s m args below meth c nL D cl A cells slots Q ws (pc + 2) lv (.long x :: st)) : ZW p l e R s m args below meth c nL D cl A cells slots Q ws pc lv st :=
  fun H locs ls h1 h2 h3 h4 => lv_lload C.1 C.2.1 hdg (lv_at h1 q hl) (kk H locs ls h1 h2 h3 h4)
theorem z_lstore_n (C : zC p s m args meth c cc nL own D cl tys A) {k : Fin 4} {i : Nat} {x : Int64} (hdg : decode cc pc = .ok (.lstore_n k, 1)) (hi : (k : Nat) = i) (hn : i + 1 < nL) (hl : (i, Value.long x) :: lv.filter (fun q => !(q.1 == i) && (!(q.1 == i + 1) && !(q.1 + 1 == i && q.2.category == 2))) = lv') (kk : ZW p l e R s m args below meth c nL D cl A cells slots Q ws (pc + 1) lv' st) : ZW p l e R s m args below meth c nL D cl A cells slots Q ws pc lv (.long x :: st) :=
  fun H locs ls h1 h2 h3 h4 => lv_lstore_n C.1 C.2.1 hdg hi h1 hn hl (fun ls' h1' => kk H locs ls' h1' h2 h3 h4)
theorem z_lstore (C : zC p s m args meth c cc nL own D cl tys A) {i : Nat} {x : Int64} (hdg : decode cc pc = .ok (.lstore i, 2)) (hn : i + 1 < nL) (hl : (i, Value.long x) :: lv.filter (fun q => !(q.1 == i) && (!(q.1 == i + 1) && !(q.1 + 1 == i && q.2.category == 2))) = lv') (kk : ZW p l e R s m args below meth c nL D cl A cells slots Q ws (pc + 2) lv' st) : ZW p l e R s m args below meth c nL D cl A cells slots Q ws pc lv (.long x :: st) :=
  fun H locs ls h1 h2 h3 h4 => lv_lstore C.1 C.2.1 hdg h1 hn hl (fun ls' h1' => kk H locs ls' h1' h2 h3 h4)
theorem z_aload_n (C : zC p s m args meth c cc nL own D cl tys A) {k : Fin 4} {i : Nat} {x : Nat} (hdg : decode cc pc = .ok (.aload_n k, 1)) (hi : (k : Nat) = i) (q : Nat) (hl : lv[q]? = some (i, .ref x)) (kk : ZW p l e R s m args below meth c nL D cl A cells slots Q ws (pc + 1) lv (.ref x :: st)) : ZW p l e R s m args below meth c nL D cl A cells slots Q ws pc lv st :=
  fun H locs ls h1 h2 h3 h4 => lv_aload_n C.1 C.2.1 hdg hi (lv_at h1 q hl) (kk H locs ls h1 h2 h3 h4)
theorem z_aload (C : zC p s m args meth c cc nL own D cl tys A) {i : Nat} {x : Nat} (hdg : decode cc pc = .ok (.aload i, 2)) (q : Nat) (hl : lv[q]? = some (i, .ref x)) (kk : ZW p l e R s m args below meth c nL D cl A cells slots Q ws (pc + 2) lv (.ref x :: st)) : ZW p l e R s m args below meth c nL D cl A cells slots Q ws pc lv st :=
  fun H locs ls h1 h2 h3 h4 => lv_aload C.1 C.2.1 hdg (lv_at h1 q hl) (kk H locs ls h1 h2 h3 h4)
theorem z_astore_n (C : zC p s m args meth c cc nL own D cl tys A) {k : Fin 4} {i : Nat} {x : Nat} (hdg : decode cc pc = .ok (.astore_n k, 1)) (hi : (k : Nat) = i) (hn : i < nL) (hl : (i, Value.ref x) :: lv.filter (fun q => !(q.1 == i) && !(q.1 + 1 == i && q.2.category == 2)) = lv') (kk : ZW p l e R s m args below meth c nL D cl A cells slots Q ws (pc + 1) lv' st) : ZW p l e R s m args below meth c nL D cl A cells slots Q ws pc lv (.ref x :: st) :=
  fun H locs ls h1 h2 h3 h4 => lv_astore_n C.1 C.2.1 hdg hi h1 hn hl (fun ls' h1' => kk H locs ls' h1' h2 h3 h4)
theorem z_astore (C : zC p s m args meth c cc nL own D cl tys A) {i : Nat} {x : Nat} (hdg : decode cc pc = .ok (.astore i, 2)) (hn : i < nL) (hl : (i, Value.ref x) :: lv.filter (fun q => !(q.1 == i) && !(q.1 + 1 == i && q.2.category == 2)) = lv') (kk : ZW p l e R s m args below meth c nL D cl A cells slots Q ws (pc + 2) lv' st) : ZW p l e R s m args below meth c nL D cl A cells slots Q ws pc lv (.ref x :: st) :=
  fun H locs ls h1 h2 h3 h4 => lv_astore C.1 C.2.1 hdg h1 hn hl (fun ls' h1' => kk H locs ls' h1' h2 h3 h4)
theorem z_iinc (C : zC p s m args meth c cc nL own D cl tys A) {i k : Nat} {n : Int} {x v : Int32} (hdg : decode cc pc = .ok (.iinc i n, 3)) (hk : lv[k]? = some (i, .int x)) (hv : x + Int32.ofInt n = v) (hn : i < nL) (hl : (i, Value.int v) :: lv.filter (fun q => !(q.1 == i) && !(q.1 + 1 == i && q.2.category == 2)) = lv') (kk : ZW p l e R s m args below meth c nL D cl A cells slots Q ws (pc + 3) lv' st) : ZW p l e R s m args below meth c nL D cl A cells slots Q ws pc lv st :=
  fun H locs ls h1 h2 h3 h4 => lv_iinc C.1 C.2.1 hdg h1 hk hv hn hl (fun ls' h1' => kk H locs ls' h1' h2 h3 h4)
theorem z_iadd (C : zC p s m args meth c cc nL own D cl tys A) {x y : Int32} (hdg : decode cc pc = .ok (.iadd, 1)) (k : ZW p l e R s m args below meth c nL D cl A cells slots Q ws (pc + 1) lv (.int (x + y) :: st)) : ZW p l e R s m args below meth c nL D cl A cells slots Q ws pc lv (.int y :: .int x :: st) :=
  fun H locs ls h1 h2 h3 h4 => lv_iadd C.1 C.2.1 hdg (k H locs ls h1 h2 h3 h4)
theorem z_isub (C : zC p s m args meth c cc nL own D cl tys A) {x y : Int32} (hdg : decode cc pc = .ok (.isub, 1)) (k : ZW p l e R s m args below meth c nL D cl A cells slots Q ws (pc + 1) lv (.int (x - y) :: st)) : ZW p l e R s m args below meth c nL D cl A cells slots Q ws pc lv (.int y :: .int x :: st) :=
  fun H locs ls h1 h2 h3 h4 => lv_isub C.1 C.2.1 hdg (k H locs ls h1 h2 h3 h4)
theorem z_imul (C : zC p s m args meth c cc nL own D cl tys A) {x y : Int32} (hdg : decode cc pc = .ok (.imul, 1)) (k : ZW p l e R s m args below meth c nL D cl A cells slots Q ws (pc + 1) lv (.int (x * y) :: st)) : ZW p l e R s m args below meth c nL D cl A cells slots Q ws pc lv (.int y :: .int x :: st) :=
  fun H locs ls h1 h2 h3 h4 => lv_imul C.1 C.2.1 hdg (k H locs ls h1 h2 h3 h4)
theorem z_iand (C : zC p s m args meth c cc nL own D cl tys A) {x y : Int32} (hdg : decode cc pc = .ok (.iand, 1)) (k : ZW p l e R s m args below meth c nL D cl A cells slots Q ws (pc + 1) lv (.int (x &&& y) :: st)) : ZW p l e R s m args below meth c nL D cl A cells slots Q ws pc lv (.int y :: .int x :: st) :=
  fun H locs ls h1 h2 h3 h4 => lv_iand C.1 C.2.1 hdg (k H locs ls h1 h2 h3 h4)
theorem z_ior (C : zC p s m args meth c cc nL own D cl tys A) {x y : Int32} (hdg : decode cc pc = .ok (.ior, 1)) (k : ZW p l e R s m args below meth c nL D cl A cells slots Q ws (pc + 1) lv (.int (x ||| y) :: st)) : ZW p l e R s m args below meth c nL D cl A cells slots Q ws pc lv (.int y :: .int x :: st) :=
  fun H locs ls h1 h2 h3 h4 => lv_ior C.1 C.2.1 hdg (k H locs ls h1 h2 h3 h4)
theorem z_ixor (C : zC p s m args meth c cc nL own D cl tys A) {x y : Int32} (hdg : decode cc pc = .ok (.ixor, 1)) (k : ZW p l e R s m args below meth c nL D cl A cells slots Q ws (pc + 1) lv (.int (x ^^^ y) :: st)) : ZW p l e R s m args below meth c nL D cl A cells slots Q ws pc lv (.int y :: .int x :: st) :=
  fun H locs ls h1 h2 h3 h4 => lv_ixor C.1 C.2.1 hdg (k H locs ls h1 h2 h3 h4)
theorem z_idiv (C : zC p s m args meth c cc nL own D cl tys A) {x y : Int32} (hdg : decode cc pc = .ok (.idiv, 1)) (hne : ¬ y = 0) (k : ZW p l e R s m args below meth c nL D cl A cells slots Q ws (pc + 1) lv (.int (x / y) :: st)) : ZW p l e R s m args below meth c nL D cl A cells slots Q ws pc lv (.int y :: .int x :: st) :=
  fun H locs ls h1 h2 h3 h4 => lv_idiv C.1 C.2.1 hdg hne (k H locs ls h1 h2 h3 h4)
theorem z_irem (C : zC p s m args meth c cc nL own D cl tys A) {x y : Int32} (hdg : decode cc pc = .ok (.irem, 1)) (hne : ¬ y = 0) (k : ZW p l e R s m args below meth c nL D cl A cells slots Q ws (pc + 1) lv (.int (x - x / y * y) :: st)) : ZW p l e R s m args below meth c nL D cl A cells slots Q ws pc lv (.int y :: .int x :: st) :=
  fun H locs ls h1 h2 h3 h4 => lv_irem C.1 C.2.1 hdg hne (k H locs ls h1 h2 h3 h4)
theorem z_ineg (C : zC p s m args meth c cc nL own D cl tys A) {x : Int32} (hdg : decode cc pc = .ok (.ineg, 1)) (k : ZW p l e R s m args below meth c nL D cl A cells slots Q ws (pc + 1) lv (.int (-x) :: st)) : ZW p l e R s m args below meth c nL D cl A cells slots Q ws pc lv (.int x :: st) :=
  fun H locs ls h1 h2 h3 h4 => lv_ineg C.1 C.2.1 hdg (k H locs ls h1 h2 h3 h4)
theorem z_ladd (C : zC p s m args meth c cc nL own D cl tys A) {x y : Int64} (hdg : decode cc pc = .ok (.ladd, 1)) (k : ZW p l e R s m args below meth c nL D cl A cells slots Q ws (pc + 1) lv (.long (x + y) :: st)) : ZW p l e R s m args below meth c nL D cl A cells slots Q ws pc lv (.long y :: .long x :: st) :=
  fun H locs ls h1 h2 h3 h4 => lv_ladd C.1 C.2.1 hdg (k H locs ls h1 h2 h3 h4)
theorem z_lsub (C : zC p s m args meth c cc nL own D cl tys A) {x y : Int64} (hdg : decode cc pc = .ok (.lsub, 1)) (k : ZW p l e R s m args below meth c nL D cl A cells slots Q ws (pc + 1) lv (.long (x - y) :: st)) : ZW p l e R s m args below meth c nL D cl A cells slots Q ws pc lv (.long y :: .long x :: st) :=
  fun H locs ls h1 h2 h3 h4 => lv_lsub C.1 C.2.1 hdg (k H locs ls h1 h2 h3 h4)
theorem z_lmul (C : zC p s m args meth c cc nL own D cl tys A) {x y : Int64} (hdg : decode cc pc = .ok (.lmul, 1)) (k : ZW p l e R s m args below meth c nL D cl A cells slots Q ws (pc + 1) lv (.long (x * y) :: st)) : ZW p l e R s m args below meth c nL D cl A cells slots Q ws pc lv (.long y :: .long x :: st) :=
  fun H locs ls h1 h2 h3 h4 => lv_lmul C.1 C.2.1 hdg (k H locs ls h1 h2 h3 h4)
theorem z_land (C : zC p s m args meth c cc nL own D cl tys A) {x y : Int64} (hdg : decode cc pc = .ok (.land, 1)) (k : ZW p l e R s m args below meth c nL D cl A cells slots Q ws (pc + 1) lv (.long (x &&& y) :: st)) : ZW p l e R s m args below meth c nL D cl A cells slots Q ws pc lv (.long y :: .long x :: st) :=
  fun H locs ls h1 h2 h3 h4 => lv_land C.1 C.2.1 hdg (k H locs ls h1 h2 h3 h4)
theorem z_lor (C : zC p s m args meth c cc nL own D cl tys A) {x y : Int64} (hdg : decode cc pc = .ok (.lor, 1)) (k : ZW p l e R s m args below meth c nL D cl A cells slots Q ws (pc + 1) lv (.long (x ||| y) :: st)) : ZW p l e R s m args below meth c nL D cl A cells slots Q ws pc lv (.long y :: .long x :: st) :=
  fun H locs ls h1 h2 h3 h4 => lv_lor C.1 C.2.1 hdg (k H locs ls h1 h2 h3 h4)
theorem z_lxor (C : zC p s m args meth c cc nL own D cl tys A) {x y : Int64} (hdg : decode cc pc = .ok (.lxor, 1)) (k : ZW p l e R s m args below meth c nL D cl A cells slots Q ws (pc + 1) lv (.long (x ^^^ y) :: st)) : ZW p l e R s m args below meth c nL D cl A cells slots Q ws pc lv (.long y :: .long x :: st) :=
  fun H locs ls h1 h2 h3 h4 => lv_lxor C.1 C.2.1 hdg (k H locs ls h1 h2 h3 h4)
theorem z_ldiv (C : zC p s m args meth c cc nL own D cl tys A) {x y : Int64} (hdg : decode cc pc = .ok (.ldiv, 1)) (hne : ¬ y = 0) (k : ZW p l e R s m args below meth c nL D cl A cells slots Q ws (pc + 1) lv (.long (x / y) :: st)) : ZW p l e R s m args below meth c nL D cl A cells slots Q ws pc lv (.long y :: .long x :: st) :=
  fun H locs ls h1 h2 h3 h4 => lv_ldiv C.1 C.2.1 hdg hne (k H locs ls h1 h2 h3 h4)
theorem z_lrem (C : zC p s m args meth c cc nL own D cl tys A) {x y : Int64} (hdg : decode cc pc = .ok (.lrem, 1)) (hne : ¬ y = 0) (k : ZW p l e R s m args below meth c nL D cl A cells slots Q ws (pc + 1) lv (.long (x - x / y * y) :: st)) : ZW p l e R s m args below meth c nL D cl A cells slots Q ws pc lv (.long y :: .long x :: st) :=
  fun H locs ls h1 h2 h3 h4 => lv_lrem C.1 C.2.1 hdg hne (k H locs ls h1 h2 h3 h4)
theorem z_lneg (C : zC p s m args meth c cc nL own D cl tys A) {x : Int64} (hdg : decode cc pc = .ok (.lneg, 1)) (k : ZW p l e R s m args below meth c nL D cl A cells slots Q ws (pc + 1) lv (.long (-x) :: st)) : ZW p l e R s m args below meth c nL D cl A cells slots Q ws pc lv (.long x :: st) :=
  fun H locs ls h1 h2 h3 h4 => lv_lneg C.1 C.2.1 hdg (k H locs ls h1 h2 h3 h4)
theorem z_ishl (C : zC p s m args meth c cc nL own D cl tys A) {x y : Int32} (hdg : decode cc pc = .ok (.ishl, 1)) (k : ZW p l e R s m args below meth c nL D cl A cells slots Q ws (pc + 1) lv (.int (x <<< (y &&& 31)) :: st)) : ZW p l e R s m args below meth c nL D cl A cells slots Q ws pc lv (.int y :: .int x :: st) :=
  fun H locs ls h1 h2 h3 h4 => lv_ishl C.1 C.2.1 hdg (k H locs ls h1 h2 h3 h4)
theorem z_ishr (C : zC p s m args meth c cc nL own D cl tys A) {x y : Int32} (hdg : decode cc pc = .ok (.ishr, 1)) (k : ZW p l e R s m args below meth c nL D cl A cells slots Q ws (pc + 1) lv (.int (x >>> (y &&& 31)) :: st)) : ZW p l e R s m args below meth c nL D cl A cells slots Q ws pc lv (.int y :: .int x :: st) :=
  fun H locs ls h1 h2 h3 h4 => lv_ishr C.1 C.2.1 hdg (k H locs ls h1 h2 h3 h4)
/-- the unsigned shift, as a name -/
def zushr (x y : Int32) : Int32 := (x.toUInt32 >>> (y.toUInt32 &&& Int32.toUInt32 31)).toInt32
theorem z_iushr (C : zC p s m args meth c cc nL own D cl tys A) {x y : Int32} (hdg : decode cc pc = .ok (.iushr, 1)) (k : ZW p l e R s m args below meth c nL D cl A cells slots Q ws (pc + 1) lv (.int (zushr x y) :: st)) : ZW p l e R s m args below meth c nL D cl A cells slots Q ws pc lv (.int y :: .int x :: st) :=
  fun H locs ls h1 h2 h3 h4 => lv_iushr C.1 C.2.1 hdg rfl (k H locs ls h1 h2 h3 h4)
theorem z_i2l (C : zC p s m args meth c cc nL own D cl tys A) {x : Int32} (hdg : decode cc pc = .ok (.i2l, 1)) (k : ZW p l e R s m args below meth c nL D cl A cells slots Q ws (pc + 1) lv (.long x.toInt64 :: st)) : ZW p l e R s m args below meth c nL D cl A cells slots Q ws pc lv (.int x :: st) :=
  fun H locs ls h1 h2 h3 h4 => lv_i2l C.1 C.2.1 hdg rfl (k H locs ls h1 h2 h3 h4)
theorem z_l2i (C : zC p s m args meth c cc nL own D cl tys A) {x : Int64} (hdg : decode cc pc = .ok (.l2i, 1)) (k : ZW p l e R s m args below meth c nL D cl A cells slots Q ws (pc + 1) lv (.int x.toInt32 :: st)) : ZW p l e R s m args below meth c nL D cl A cells slots Q ws pc lv (.long x :: st) :=
  fun H locs ls h1 h2 h3 h4 => lv_l2i C.1 C.2.1 hdg rfl (k H locs ls h1 h2 h3 h4)
theorem z_lcmp (C : zC p s m args meth c cc nL own D cl tys A) {x y : Int64} (hdg : decode cc pc = .ok (.lcmp, 1)) (k : ZW p l e R s m args below meth c nL D cl A cells slots Q ws (pc + 1) lv (.int (lg_cmp x y) :: st)) : ZW p l e R s m args below meth c nL D cl A cells slots Q ws pc lv (.long y :: .long x :: st) :=
  fun H locs ls h1 h2 h3 h4 => W.lcmp C.1 C.2.1 hdg (k H locs ls h1 h2 h3 h4)
theorem z_dup (C : zC p s m args meth c cc nL own D cl tys A) {v : Value} (hdg : decode cc pc = .ok (.dup, 1)) (hv : v.category = 1) (k : ZW p l e R s m args below meth c nL D cl A cells slots Q ws (pc + 1) lv (v :: v :: st)) : ZW p l e R s m args below meth c nL D cl A cells slots Q ws pc lv (v :: st) :=
  fun H locs ls h1 h2 h3 h4 => lv_dup C.1 C.2.1 hdg hv (k H locs ls h1 h2 h3 h4)
theorem z_pop (C : zC p s m args meth c cc nL own D cl tys A) {v : Value} (hdg : decode cc pc = .ok (.pop, 1)) (hv : v.category = 1) (k : ZW p l e R s m args below meth c nL D cl A cells slots Q ws (pc + 1) lv (st)) : ZW p l e R s m args below meth c nL D cl A cells slots Q ws pc lv (v :: st) :=
  fun H locs ls h1 h2 h3 h4 => lv_pop C.1 C.2.1 hdg hv (k H locs ls h1 h2 h3 h4)
theorem z_dup_x1 (C : zC p s m args meth c cc nL own D cl tys A) {v u : Value} (hdg : decode cc pc = .ok (.dup_x1, 1)) (hv : v.category = 1) (hu : u.category = 1) (k : ZW p l e R s m args below meth c nL D cl A cells slots Q ws (pc + 1) lv (v :: u :: v :: st)) : ZW p l e R s m args below meth c nL D cl A cells slots Q ws pc lv (v :: u :: st) :=
  fun H locs ls h1 h2 h3 h4 => lv_dup_x1 C.1 C.2.1 hdg hv hu (k H locs ls h1 h2 h3 h4)
theorem z_dup_x2 (C : zC p s m args meth c cc nL own D cl tys A) {v u t : Value} (hdg : decode cc pc = .ok (.dup_x2, 1)) (hv : v.category = 1) (hu : u.category = 1) (ht : t.category = 1) (k : ZW p l e R s m args below meth c nL D cl A cells slots Q ws (pc + 1) lv (v :: u :: t :: v :: st)) : ZW p l e R s m args below meth c nL D cl A cells slots Q ws pc lv (v :: u :: t :: st) :=
  fun H locs ls h1 h2 h3 h4 => lv_dup_x2 C.1 C.2.1 hdg hv hu ht (k H locs ls h1 h2 h3 h4)
theorem z_dup2_11 (C : zC p s m args meth c cc nL own D cl tys A) {v u : Value} (hdg : decode cc pc = .ok (.dup2, 1)) (hv : v.category = 1) (hu : u.category = 1) (k : ZW p l e R s m args below meth c nL D cl A cells slots Q ws (pc + 1) lv (v :: u :: v :: u :: st)) : ZW p l e R s m args below meth c nL D cl A cells slots Q ws pc lv (v :: u :: st) :=
  fun H locs ls h1 h2 h3 h4 => lv_dup2_11 C.1 C.2.1 hdg hv hu (k H locs ls h1 h2 h3 h4)
theorem z_dup2_2 (C : zC p s m args meth c cc nL own D cl tys A) {v : Value} (hdg : decode cc pc = .ok (.dup2, 1)) (hv : v.category = 2) (k : ZW p l e R s m args below meth c nL D cl A cells slots Q ws (pc + 1) lv (v :: v :: st)) : ZW p l e R s m args below meth c nL D cl A cells slots Q ws pc lv (v :: st) :=
  fun H locs ls h1 h2 h3 h4 => lv_dup2_2 C.1 C.2.1 hdg hv (k H locs ls h1 h2 h3 h4)
theorem z_goto (C : zC p s m args meth c cc nL own D cl tys A) {off : Int} {tgt : Nat} (hdg : decode cc pc = .ok (.goto off, 3)) (ht : (pc : Int) + off = (tgt : Int)) (k : ZW p l e R s m args below meth c nL D cl A cells slots Q ws tgt lv st) : ZW p l e R s m args below meth c nL D cl A cells slots Q ws pc lv st :=
  fun H locs ls h1 h2 h3 h4 => lv_goto C.1 C.2.1 hdg ht (k H locs ls h1 h2 h3 h4)
theorem z_if_eq (C : zC p s m args meth c cc nL own D cl tys A) {x : Int32} {off : Int} {tgt : Nat} (hdg : decode cc pc = .ok (.ifCond .eq off, 3)) (ht : (pc : Int) + off = (tgt : Int)) (kt : x = 0 → ZW p l e R s m args below meth c nL D cl A cells slots Q ws tgt lv st) (kf : ¬ x = 0 → ZW p l e R s m args below meth c nL D cl A cells slots Q ws (pc + 3) lv st) : ZW p l e R s m args below meth c nL D cl A cells slots Q ws pc lv (.int x :: st) :=
  fun H locs ls h1 h2 h3 h4 => lv_if_eq C.1 C.2.1 hdg ht (fun q => kt q H locs ls h1 h2 h3 h4) (fun q => kf q H locs ls h1 h2 h3 h4)
theorem z_icmp_eq (C : zC p s m args meth c cc nL own D cl tys A) {x y : Int32} {off : Int} {tgt : Nat} (hdg : decode cc pc = .ok (.if_icmp .eq off, 3)) (ht : (pc : Int) + off = (tgt : Int)) (kt : x = y → ZW p l e R s m args below meth c nL D cl A cells slots Q ws tgt lv st) (kf : ¬ x = y → ZW p l e R s m args below meth c nL D cl A cells slots Q ws (pc + 3) lv st) : ZW p l e R s m args below meth c nL D cl A cells slots Q ws pc lv (.int y :: .int x :: st) :=
  fun H locs ls h1 h2 h3 h4 => lv_icmp_eq C.1 C.2.1 hdg ht (fun q => kt q H locs ls h1 h2 h3 h4) (fun q => kf q H locs ls h1 h2 h3 h4)
theorem z_if_ne (C : zC p s m args meth c cc nL own D cl tys A) {x : Int32} {off : Int} {tgt : Nat} (hdg : decode cc pc = .ok (.ifCond .ne off, 3)) (ht : (pc : Int) + off = (tgt : Int)) (kt : ¬ x = 0 → ZW p l e R s m args below meth c nL D cl A cells slots Q ws tgt lv st) (kf : x = 0 → ZW p l e R s m args below meth c nL D cl A cells slots Q ws (pc + 3) lv st) : ZW p l e R s m args below meth c nL D cl A cells slots Q ws pc lv (.int x :: st) :=
  fun H locs ls h1 h2 h3 h4 => lv_if_ne C.1 C.2.1 hdg ht (fun q => kt q H locs ls h1 h2 h3 h4) (fun q => kf q H locs ls h1 h2 h3 h4)
theorem z_icmp_ne (C : zC p s m args meth c cc nL own D cl tys A) {x y : Int32} {off : Int} {tgt : Nat} (hdg : decode cc pc = .ok (.if_icmp .ne off, 3)) (ht : (pc : Int) + off = (tgt : Int)) (kt : ¬ x = y → ZW p l e R s m args below meth c nL D cl A cells slots Q ws tgt lv st) (kf : x = y → ZW p l e R s m args below meth c nL D cl A cells slots Q ws (pc + 3) lv st) : ZW p l e R s m args below meth c nL D cl A cells slots Q ws pc lv (.int y :: .int x :: st) :=
  fun H locs ls h1 h2 h3 h4 => lv_icmp_ne C.1 C.2.1 hdg ht (fun q => kt q H locs ls h1 h2 h3 h4) (fun q => kf q H locs ls h1 h2 h3 h4)
theorem z_if_lt (C : zC p s m args meth c cc nL own D cl tys A) {x : Int32} {off : Int} {tgt : Nat} (hdg : decode cc pc = .ok (.ifCond .lt off, 3)) (ht : (pc : Int) + off = (tgt : Int)) (kt : x < 0 → ZW p l e R s m args below meth c nL D cl A cells slots Q ws tgt lv st) (kf : ¬ x < 0 → ZW p l e R s m args below meth c nL D cl A cells slots Q ws (pc + 3) lv st) : ZW p l e R s m args below meth c nL D cl A cells slots Q ws pc lv (.int x :: st) :=
  fun H locs ls h1 h2 h3 h4 => lv_if_lt C.1 C.2.1 hdg ht (fun q => kt q H locs ls h1 h2 h3 h4) (fun q => kf q H locs ls h1 h2 h3 h4)
theorem z_icmp_lt (C : zC p s m args meth c cc nL own D cl tys A) {x y : Int32} {off : Int} {tgt : Nat} (hdg : decode cc pc = .ok (.if_icmp .lt off, 3)) (ht : (pc : Int) + off = (tgt : Int)) (kt : x < y → ZW p l e R s m args below meth c nL D cl A cells slots Q ws tgt lv st) (kf : ¬ x < y → ZW p l e R s m args below meth c nL D cl A cells slots Q ws (pc + 3) lv st) : ZW p l e R s m args below meth c nL D cl A cells slots Q ws pc lv (.int y :: .int x :: st) :=
  fun H locs ls h1 h2 h3 h4 => lv_icmp_lt C.1 C.2.1 hdg ht (fun q => kt q H locs ls h1 h2 h3 h4) (fun q => kf q H locs ls h1 h2 h3 h4)
theorem z_if_ge (C : zC p s m args meth c cc nL own D cl tys A) {x : Int32} {off : Int} {tgt : Nat} (hdg : decode cc pc = .ok (.ifCond .ge off, 3)) (ht : (pc : Int) + off = (tgt : Int)) (kt : 0 ≤ x → ZW p l e R s m args below meth c nL D cl A cells slots Q ws tgt lv st) (kf : ¬ 0 ≤ x → ZW p l e R s m args below meth c nL D cl A cells slots Q ws (pc + 3) lv st) : ZW p l e R s m args below meth c nL D cl A cells slots Q ws pc lv (.int x :: st) :=
  fun H locs ls h1 h2 h3 h4 => lv_if_ge C.1 C.2.1 hdg ht (fun q => kt q H locs ls h1 h2 h3 h4) (fun q => kf q H locs ls h1 h2 h3 h4)
theorem z_icmp_ge (C : zC p s m args meth c cc nL own D cl tys A) {x y : Int32} {off : Int} {tgt : Nat} (hdg : decode cc pc = .ok (.if_icmp .ge off, 3)) (ht : (pc : Int) + off = (tgt : Int)) (kt : y ≤ x → ZW p l e R s m args below meth c nL D cl A cells slots Q ws tgt lv st) (kf : ¬ y ≤ x → ZW p l e R s m args below meth c nL D cl A cells slots Q ws (pc + 3) lv st) : ZW p l e R s m args below meth c nL D cl A cells slots Q ws pc lv (.int y :: .int x :: st) :=
  fun H locs ls h1 h2 h3 h4 => lv_icmp_ge C.1 C.2.1 hdg ht (fun q => kt q H locs ls h1 h2 h3 h4) (fun q => kf q H locs ls h1 h2 h3 h4)
theorem z_if_gt (C : zC p s m args meth c cc nL own D cl tys A) {x : Int32} {off : Int} {tgt : Nat} (hdg : decode cc pc = .ok (.ifCond .gt off, 3)) (ht : (pc : Int) + off = (tgt : Int)) (kt : 0 < x → ZW p l e R s m args below meth c nL D cl A cells slots Q ws tgt lv st) (kf : ¬ 0 < x → ZW p l e R s m args below meth c nL D cl A cells slots Q ws (pc + 3) lv st) : ZW p l e R s m args below meth c nL D cl A cells slots Q ws pc lv (.int x :: st) :=
  fun H locs ls h1 h2 h3 h4 => lv_if_gt C.1 C.2.1 hdg ht (fun q => kt q H locs ls h1 h2 h3 h4) (fun q => kf q H locs ls h1 h2 h3 h4)
theorem z_icmp_gt (C : zC p s m args meth c cc nL own D cl tys A) {x y : Int32} {off : Int} {tgt : Nat} (hdg : decode cc pc = .ok (.if_icmp .gt off, 3)) (ht : (pc : Int) + off = (tgt : Int)) (kt : y < x → ZW p l e R s m args below meth c nL D cl A cells slots Q ws tgt lv st) (kf : ¬ y < x → ZW p l e R s m args below meth c nL D cl A cells slots Q ws (pc + 3) lv st) : ZW p l e R s m args below meth c nL D cl A cells slots Q ws pc lv (.int y :: .int x :: st) :=
  fun H locs ls h1 h2 h3 h4 => lv_icmp_gt C.1 C.2.1 hdg ht (fun q => kt q H locs ls h1 h2 h3 h4) (fun q => kf q H locs ls h1 h2 h3 h4)
theorem z_if_le (C : zC p s m args meth c cc nL own D cl tys A) {x : Int32} {off : Int} {tgt : Nat} (hdg : decode cc pc = .ok (.ifCond .le off, 3)) (ht : (pc : Int) + off = (tgt : Int)) (kt : x ≤ 0 → ZW p l e R s m args below meth c nL D cl A cells slots Q ws tgt lv st) (kf : ¬ x ≤ 0 → ZW p l e R s m args below meth c nL D cl A cells slots Q ws (pc + 3) lv st) : ZW p l e R s m args below meth c nL D cl A cells slots Q ws pc lv (.int x :: st) :=
  fun H locs ls h1 h2 h3 h4 => lv_if_le C.1 C.2.1 hdg ht (fun q => kt q H locs ls h1 h2 h3 h4) (fun q => kf q H locs ls h1 h2 h3 h4)
theorem z_icmp_le (C : zC p s m args meth c cc nL own D cl tys A) {x y : Int32} {off : Int} {tgt : Nat} (hdg : decode cc pc = .ok (.if_icmp .le off, 3)) (ht : (pc : Int) + off = (tgt : Int)) (kt : x ≤ y → ZW p l e R s m args below meth c nL D cl A cells slots Q ws tgt lv st) (kf : ¬ x ≤ y → ZW p l e R s m args below meth c nL D cl A cells slots Q ws (pc + 3) lv st) : ZW p l e R s m args below meth c nL D cl A cells slots Q ws pc lv (.int y :: .int x :: st) :=
  fun H locs ls h1 h2 h3 h4 => lv_icmp_le C.1 C.2.1 hdg ht (fun q => kt q H locs ls h1 h2 h3 h4) (fun q => kf q H locs ls h1 h2 h3 h4)
theorem z_topi {x : Int32} (k : ∀ y : Int32, y = x → ZW p l e R s m args below meth c nL D cl A cells slots Q ws pc lv (.int y :: st)) : ZW p l e R s m args below meth c nL D cl A cells slots Q ws pc lv (.int x :: st) := k x rfl
theorem z_topl {x : Int64} (k : ∀ y : Int64, y = x → ZW p l e R s m args below meth c nL D cl A cells slots Q ws pc lv (.long y :: st)) : ZW p l e R s m args below meth c nL D cl A cells slots Q ws pc lv (.long x :: st) := k x rfl
/-- fewer locals, or in another order -/
theorem z_lv (ks : List Nat) (hl : lv_pick lv ks = lv') (k : ZW p l e R s m args below meth c nL D cl A cells slots Q ws pc lv' st) : ZW p l e R s m args below meth c nL D cl A cells slots Q ws pc lv st :=
  fun H locs ls h1 h2 h3 h4 => k H locs ls (lv_sub h1 ks hl) h2 h3 h4
theorem z_get (C : zC p s m args meth c cc nL own D cl tys A) {Cn : String} {T : u_T} {N ci index a : Nat} {fs : List Value} (hin : ∀ w ∈ u_ws Cn T N, w ∈ zT) (q0 : Nat) (he : ws[q0]? = some (a, .inr (ci, fs))) (hc : cl[ci]? = some (Cn, T, N)) (k : Nat) (hk : k < N) (hlink : Cond.fieldLink own index (T k).1 (T k).2.1 (T k).2.2.1 ∈ zT) {v : Value} (hv : fs[k]? = some v) (hdg : decode cc pc = .ok (.getfield index, 3))
    (kk : ZW p l e R s m args below meth c nL D cl A cells slots Q ws (pc + 3) lv (v :: st)) : ZW p l e R s m args below meth c nL D cl A cells slots Q ws pc lv (.ref a :: st) :=
  fun H locs ls h1 h2 h3 h4 => va_get C.1 C.2.1 C.2.2.2.2.1 hin C.2.2.2.1 C.2.2.2.2.2.1 h2 q0 he hc k hk (C.2.2.2.2.1 _ hlink) (fun _ h => h) hv hdg (kk H locs ls h1 h2 h3 h4)
theorem z_getN (C : zC p s m args meth c cc nL own D cl tys A) {Cn host : String} {T : u_T} {N ci index a : Nat} {fs : List Value} (hin : ∀ w ∈ u_ws Cn T N, w ∈ zT) (q0 : Nat) (he : ws[q0]? = some (a, .inr (ci, fs))) (hc : cl[ci]? = some (Cn, T, N)) (k : Nat) (hk : k < N) (hlink : va_Nw (Cond.fieldLinkNest own index (T k).1 (T k).2.1 (T k).2.2.1 host) s) {v : Value} (hv : fs[k]? = some v) (hdg : decode cc pc = .ok (.getfield index, 3))
    (kk : ZW p l e R s m args below meth c nL D cl A cells slots Q ws (pc + 3) lv (v :: st)) : ZW p l e R s m args below meth c nL D cl A cells slots Q ws pc lv (.ref a :: st) :=
  fun H locs ls h1 h2 h3 h4 => va_getN C.1 C.2.1 C.2.2.2.2.1 hin C.2.2.2.1 C.2.2.2.2.2.1 h2 q0 he hc k hk (va_Nw.use rfl hlink) (fun _ h => h) hv hdg (kk H locs ls h1 h2 h3 h4)
theorem z_put (C : zC p s m args meth c cc nL own D cl tys A) {Cn : String} {T : u_T} {N ci index a : Nat} {fs : List Value} (hin : ∀ w ∈ u_ws Cn T N, w ∈ zT) (ty0 : Nat → FieldType) (hty : ∀ k, k < N → parseFieldDescriptor (T k).2.2.1 = some (ty0 k)) (hnm : ∀ a, a < N → ∀ b, b < N → a ≠ b → (T a).2.1 ≠ (T b).2.1) (q0 : Nat) (he : ws[q0]? = some (a, .inr (ci, fs))) (hc : cl[ci]? = some (Cn, T, N)) (k : Nat) (hk : k < N) (hlink : Cond.fieldLink own index (T k).1 (T k).2.1 (T k).2.2.1 ∈ zT) (hfin : (T k).2.2.2 = false) {ty : FieldType} {v : Value} (hd : ty0 k = ty) (hn : narrow ty v = v) (hfit : fits ty v = true) (hl : k < fs.length) (hdg : decode cc pc = .ok (.putfield index, 3)) (hw : ws.set q0 (a, .inr (ci, fs.set k v)) = ws')
    (kk : ZW p l e R s m args below meth c nL D cl A cells slots Q ws' (pc + 3) lv st) : ZW p l e R s m args below meth c nL D cl A cells slots Q ws pc lv (v :: .ref a :: st) :=
  fun H locs ls h1 h2 h3 h4 => va_put C.1 C.2.1 C.2.2.2.2.1 hin ty0 hty hnm C.2.2.2.1 C.2.2.2.2.2.1 h2 h3 h4 q0 he hc k hk (C.2.2.2.2.1 _ hlink) (fun _ h => h) hfin (by rw [← hd]; exact hty k hk) hn hfit hl hdg (fun H1 locs1 g2 g3 g4 => kk H1 locs1 ls h1 (hw ▸ g2) (hw ▸ g3) g4)
theorem z_putN (C : zC p s m args meth c cc nL own D cl tys A) {Cn host : String} {T : u_T} {N ci index a : Nat} {fs : List Value} (hin : ∀ w ∈ u_ws Cn T N, w ∈ zT) (ty0 : Nat → FieldType) (hty : ∀ k, k < N → parseFieldDescriptor (T k).2.2.1 = some (ty0 k)) (hnm : ∀ a, a < N → ∀ b, b < N → a ≠ b → (T a).2.1 ≠ (T b).2.1) (q0 : Nat) (he : ws[q0]? = some (a, .inr (ci, fs))) (hc : cl[ci]? = some (Cn, T, N)) (k : Nat) (hk : k < N) (hlink : va_Nw (Cond.fieldLinkNest own index (T k).1 (T k).2.1 (T k).2.2.1 host) s) (hfin : (T k).2.2.2 = false) {ty : FieldType} {v : Value} (hd : ty0 k = ty) (hn : narrow ty v = v) (hfit : fits ty v = true) (hl : k < fs.length) (hdg : decode cc pc = .ok (.putfield index, 3)) (hw : ws.set q0 (a, .inr (ci, fs.set k v)) = ws')
    (kk : ZW p l e R s m args below meth c nL D cl A cells slots Q ws' (pc + 3) lv st) : ZW p l e R s m args below meth c nL D cl A cells slots Q ws pc lv (v :: .ref a :: st) :=
  fun H locs ls h1 h2 h3 h4 => va_putN C.1 C.2.1 C.2.2.2.2.1 hin ty0 hty hnm C.2.2.2.1 C.2.2.2.2.2.1 h2 h3 h4 q0 he hc k hk (va_Nw.use rfl hlink) (fun _ h => h) hfin (by rw [← hd]; exact hty k hk) hn hfit hl hdg (fun H1 locs1 g2 g3 g4 => kk H1 locs1 ls h1 (hw ▸ g2) (hw ▸ g3) g4)
theorem z_iald (C : zC p s m args meth c cc nL own D cl tys A) (q0 t0 : Nat) {cA : ClassId} {n a : Nat} {f : Nat → Int32} (ha : ws[q0]? = some (a, .inl (cA, n, .inl f))) (ht : tys[t0]? = some (cA, .int)) {i : Int32} (hin : ¬ (i < 0 ∨ n ≤ i.toNatClampNeg)) (hdg : decode cc pc = .ok (.iaload, 1))
    (kk : ZW p l e R s m args below meth c nL D cl A cells slots Q ws (pc + 1) lv (.int (f i.toNatClampNeg) :: st)) : ZW p l e R s m args below meth c nL D cl A cells slots Q ws pc lv (.int i :: .ref a :: st) :=
  fun H locs ls h1 h2 h3 h4 => va_iald C.1 C.2.1 C.2.2.2.2.2.1 h2 q0 t0 ha ht hin hdg (kk H locs ls h1 h2 h3 h4)
theorem z_lald (C : zC p s m args meth c cc nL own D cl tys A) (q0 t0 : Nat) {cA : ClassId} {n a : Nat} {f : Nat → Int64} (ha : ws[q0]? = some (a, .inl (cA, n, .inr (.inl f)))) (ht : tys[t0]? = some (cA, .long)) {i : Int32} (hin : ¬ (i < 0 ∨ n ≤ i.toNatClampNeg)) (hdg : decode cc pc = .ok (.laload, 1))
    (kk : ZW p l e R s m args below meth c nL D cl A cells slots Q ws (pc + 1) lv (.long (f i.toNatClampNeg) :: st)) : ZW p l e R s m args below meth c nL D cl A cells slots Q ws pc lv (.int i :: .ref a :: st) :=
  fun H locs ls h1 h2 h3 h4 => va_lald C.1 C.2.1 C.2.2.2.2.2.1 h2 q0 t0 ha ht hin hdg (kk H locs ls h1 h2 h3 h4)
theorem z_iast (C : zC p s m args meth c cc nL own D cl tys A) (q0 t0 : Nat) {cA : ClassId} {n a : Nat} {f : Nat → Int32} (ha : ws[q0]? = some (a, .inl (cA, n, .inl f))) (ht : tys[t0]? = some (cA, .int)) {i x : Int32} (hin : ¬ (i < 0 ∨ n ≤ i.toNatClampNeg)) (hdg : decode cc pc = .ok (.iastore, 1)) (hw : ws.set q0 (a, .inl (cA, n, .inl (upd f i.toNatClampNeg x))) = ws')
    (kk : ZW p l e R s m args below meth c nL D cl A cells slots Q ws' (pc + 1) lv st) : ZW p l e R s m args below meth c nL D cl A cells slots Q ws pc lv (.int x :: .int i :: .ref a :: st) :=
  fun H locs ls h1 h2 h3 h4 => va_iast C.1 C.2.1 C.2.2.2.2.2.1 h2 h3 h4 q0 t0 ha ht hin hdg (fun H1 locs1 g2 g3 g4 => kk H1 locs1 ls h1 (hw ▸ g2) (hw ▸ g3) g4)
theorem z_last (C : zC p s m args meth c cc nL own D cl tys A) (q0 t0 : Nat) {cA : ClassId} {n a : Nat} {f : Nat → Int64} (ha : ws[q0]? = some (a, .inl (cA, n, .inr (.inl f)))) (ht : tys[t0]? = some (cA, .long)) {i : Int32} {x : Int64} (hin : ¬ (i < 0 ∨ n ≤ i.toNatClampNeg)) (hdg : decode cc pc = .ok (.lastore, 1)) (hw : ws.set q0 (a, .inl (cA, n, .inr (.inl (vp_updL f i.toNatClampNeg x)))) = ws')
    (kk : ZW p l e R s m args below meth c nL D cl A cells slots Q ws' (pc + 1) lv st) : ZW p l e R s m args below meth c nL D cl A cells slots Q ws pc lv (.long x :: .int i :: .ref a :: st) :=
  fun H locs ls h1 h2 h3 h4 => va_last C.1 C.2.1 C.2.2.2.2.2.1 h2 h3 h4 q0 t0 ha ht hin hdg (fun H1 locs1 g2 g3 g4 => kk H1 locs1 ls h1 (hw ▸ g2) (hw ▸ g3) g4)
theorem z_alen (C : zC p s m args meth c cc nL own D cl tys A) (q0 t0 : Nat) {cA : ClassId} {a : Nat} {x : vp_A} (ha : ws[q0]? = some (a, .inl (cA, x))) {ty : FieldType} (ht : tys[t0]? = some (cA, ty)) {v : Int32} (hv : Int32.ofNat x.1 = v) (hdg : decode cc pc = .ok (.arraylength, 1))
    (kk : ZW p l e R s m args below meth c nL D cl A cells slots Q ws (pc + 1) lv (.int v :: st)) : ZW p l e R s m args below meth c nL D cl A cells slots Q ws pc lv (.ref a :: st) :=
  fun H locs ls h1 h2 h3 h4 => va_alen C.1 C.2.1 C.2.2.2.2.2.1 h2 q0 t0 ha ht hv hdg (kk H locs ls h1 h2 h3 h4)
theorem z_ldcw (C : zC p s m args meth c cc nL own D cl tys A) {index : Nat} {v : Int32} (hc : Jvm.Cond.constant own index v ∈ zT) (hdg : decode cc pc = .ok (.ldc_w index, 3)) (k : ZW p l e R s m args below meth c nL D cl A cells slots Q ws (pc + 3) lv (.int v :: st)) : ZW p l e R s m args below meth c nL D cl A cells slots Q ws pc lv st :=
  fun H locs ls h1 h2 h3 h4 => lv_ldcw C.1 C.2.1 C.2.2.2.1 (C.2.2.2.2.1 _ hc) hdg (k H locs ls h1 h2 h3 h4)
theorem z_mmax (C : zC p s m args meth c cc nL own D cl tys A) {index : Nat} (hl : Cond.methodLink own index Lib.Math.max.name ∈ zT) (hs : Cond.static Lib.Math.max.name ∈ zT) (hi : Cond.initialized "java/lang/Math" ∈ zT) (hc : Cond.code Lib.Math.max.name Lib.Math.max.code 2 (some .int) ∈ zT) (hR : 1 ≤ R.frames ∧ (st.map fun v => v.category).sum + 13 ≤ R.locals ∧ cells ≤ R.cells ∧ slots ≤ R.slots) {x y : Int32} (hdg : decode cc pc = .ok (.invokestatic index, 3)) (k : ZW p l e R s m args below meth c nL D cl A cells slots Q ws (pc + 3) lv (.int (if x < y then y else x) :: st)) : ZW p l e R s m args below meth c nL D cl A cells slots Q ws pc lv (.int y :: .int x :: st) :=
  fun H locs ls h1 h2 h3 h4 => va_mmax C.1 C.2.1 (C.2.2.1.trans h1.1.symm) C.2.2.2.1 (C.2.2.2.2.1 _ hl) (C.2.2.2.2.1 _ hs) (C.2.2.2.2.1 _ hi) (C.2.2.2.2.1 _ hc) hR.1 hR.2.1 hR.2.2.1 hR.2.2.2 hdg (k H locs ls h1 h2 h3 h4)
theorem z_gets (C : zC p s m args meth c cc nL own D cl tys A) {Cn n d : String} {v : Value} {index : Nat} (hZ : va_Z Cn n d v A s s.heap) (hlink : Cond.fieldLink own index Cn n d ∈ zT) (hdg : decode cc pc = .ok (.getstatic index, 3))
    (kk : ZW p l e R s m args below meth c nL D cl A cells slots Q ws (pc + 3) lv (v :: st)) : ZW p l e R s m args below meth c nL D cl A cells slots Q ws pc lv st :=
  fun H locs ls h1 h2 h3 h4 => va_gets C.1 C.2.1 hZ h4 C.2.2.2.1 (C.2.2.2.2.1 _ hlink) (fun _ h => h) hdg (kk H locs ls h1 h2 h3 h4)
theorem z_ti (C : zC p s m args meth c cc nL own D cl tys A) {t N : Nat} {f : Nat → Value} (hT : va_T .int t N f A s s.heap) {i : Int32} (hin : ¬ (i < 0 ∨ N ≤ i.toNatClampNeg)) {v : Value} (hv : f i.toNatClampNeg = v) (hdg : decode cc pc = .ok (.iaload, 1))
    (kk : ZW p l e R s m args below meth c nL D cl A cells slots Q ws (pc + 1) lv (v :: st)) : ZW p l e R s m args below meth c nL D cl A cells slots Q ws pc lv (.int i :: .ref t :: st) :=
  fun H locs ls h1 h2 h3 h4 => va_ti C.1 C.2.1 hT h4 hin hv hdg (kk H locs ls h1 h2 h3 h4)
theorem z_tableIn (C : zC p s m args meth c cc nL own D cl tys A) {dflt lo hi : Int} {offs : Array Int} {len : Nat} {x : Int32} {off : Int} {tgt : Nat} (hdg : decode cc pc = .ok (.tableswitch dflt lo hi offs, len)) (x0 : Int32) (hx0 : x = x0) (h1 : ¬ x0.toInt < lo) (h2 : ¬ hi < x0.toInt) (ho : offs[(x0.toInt - lo).toNat]? = some off) (ht : (pc : Int) + off = (tgt : Int))
    (k : ZW p l e R s m args below meth c nL D cl A cells slots Q ws tgt lv st) : ZW p l e R s m args below meth c nL D cl A cells slots Q ws pc lv (.int x :: st) :=
  fun H locs ls g1 g2 g3 g4 => lv_tableIn C.1 C.2.1 hdg (by rw [hx0]; exact h1) (by rw [hx0]; exact h2) (by rw [hx0]; exact ho) ht (k H locs ls g1 g2 g3 g4)
theorem z_tableOut (C : zC p s m args meth c cc nL own D cl tys A) {dflt lo hi : Int} {offs : Array Int} {len : Nat} {x : Int32} {tgt : Nat} (hdg : decode cc pc = .ok (.tableswitch dflt lo hi offs, len)) (h : x.toInt < lo ∨ hi < x.toInt) (ht : (pc : Int) + dflt = (tgt : Int))
    (k : ZW p l e R s m args below meth c nL D cl A cells slots Q ws tgt lv st) : ZW p l e R s m args below meth c nL D cl A cells slots Q ws pc lv (.int x :: st) :=
  fun H locs ls g1 g2 g3 g4 => lv_tableOut C.1 C.2.1 hdg h ht (k H locs ls g1 g2 g3 g4)
theorem z_lookup (C : zC p s m args meth c cc nL own D cl tys A) {dflt : Int} {ps : Array (Int × Int)} {len : Nat} {x : Int32} {off : Int} {tgt : Nat} (hdg : decode cc pc = .ok (.lookupswitch dflt ps, len)) (hp : (ps.toList.zip (ps.toList.drop 1)).all (fun (a, next) => a.1 < next.1) = true) (ho : Op.lookupswitch.offset ps.toList dflt x.toInt = off) (ht : (pc : Int) + off = (tgt : Int))
    (k : ZW p l e R s m args below meth c nL D cl A cells slots Q ws tgt lv st) : ZW p l e R s m args below meth c nL D cl A cells slots Q ws pc lv (.int x :: st) :=
  fun H locs ls g1 g2 g3 g4 => lv_lookup C.1 C.2.1 hdg hp ho ht (k H locs ls g1 g2 g3 g4)

end ZL
/-! contracts of methods that make nothing -/
def z_rep : va_W → List Nat → va_W → va_W
  | ws, i :: is, w :: wc => z_rep (ws.set i w) is wc
  | ws, _, _ => ws
theorem z_rep_get : ∀ (is : List Nat) (wc ws : va_W) (k : Nat) (q : Nat × va_E), is.length ≤ wc.length → (z_rep ws is wc)[k]? = some q → (∃ j : Nat, wc[j]? = some q) ∨ (ws[k]? = some q ∧ k ∉ is)
  | [], wc, ws, k, q, _, h => Or.inr ⟨by cases wc <;> exact h, List.not_mem_nil⟩
  | i :: is, [], ws, k, q, hl, h => absurd hl (by simp)
  | i :: is, w :: wc, ws, k, q, hl, h => by
    rcases z_rep_get is wc (ws.set i w) k q (by simpa using hl) h with ⟨j, hj⟩ | ⟨h1, h2⟩
    · exact Or.inl ⟨j + 1, by simpa using hj⟩
    · by_cases e : i = k
      · subst e
        rw [List.getElem?_set] at h1
        split at h1
        · rename_i hh
          split at h1
          · exact Or.inl ⟨0, by simpa using h1⟩
          · cases h1
        · rename_i hh; exact absurd rfl hh
      · rw [List.getElem?_set_ne e] at h1
        exact Or.inr ⟨h1, fun hm => by rcases List.mem_cons.mp hm with r | r; exact e r.symm; exact h2 r⟩
theorem z_rep_fst : ∀ (is : List Nat) (wc ws : va_W), is.map (fun i => (ws.map Prod.fst)[i]?) = wc.map (fun w => some w.1) → (z_rep ws is wc).map Prod.fst = ws.map Prod.fst
  | [], wc, ws, _ => by cases wc <;> rfl
  | i :: is, [], ws, h => rfl
  | i :: is, w :: wc, ws, h => by
    have h1 : (ws.map Prod.fst)[i]? = some w.1 := by have := congrArg List.head? h; simpa using this
    have h2 : is.map (fun i => (ws.map Prod.fst)[i]?) = wc.map (fun w => some w.1) := by have := congrArg List.tail h; simpa using this
    have h3 : (ws.set i w).map Prod.fst = ws.map Prod.fst := by
      rw [List.map_set]
      apply List.ext_getElem?
      intro k
      rw [List.getElem?_set]
      by_cases e : i = k
      · subst e
        rw [h1]
        have : i < (ws.map Prod.fst).length := (List.getElem?_eq_some_iff.mp h1).1
        have h9 : i < ws.length := by simpa using this
        simp [h9]
      · simp [e]
    show (z_rep (ws.set i w) is wc).map Prod.fst = _
    rw [z_rep_fst is wc (ws.set i w) (by rw [h3]; exact h2), h3]
theorem z_D_fst {A : Nat → Prop} {ws ws' : va_W} (h : ws'.map Prod.fst = ws.map Prod.fst) (hD : va_D A ws) : va_D A ws' := by
  have key : ∀ (k : Nat) (q : Nat × va_E), ws'[k]? = some q → ∃ q2, ws[k]? = some q2 ∧ q2.1 = q.1 := by
    intro k q hq
    have h1 : (ws.map Prod.fst)[k]? = some q.1 := by rw [← h, List.getElem?_map, hq]; rfl
    rw [List.getElem?_map] at h1
    cases hk : ws[k]? with
    | none => rw [hk] at h1; cases h1
    | some q2 => rw [hk] at h1; exact ⟨q2, rfl, Option.some.inj h1⟩
  refine ⟨fun i j p q h1 h2 e => ?_, fun k q hk => ?_⟩
  · obtain ⟨p2, a1, a2⟩ := key i p h1
    obtain ⟨q2, b1, b2⟩ := key j q h2
    exact hD.1 i j p2 q2 a1 b1 (by rw [a2, b2, e])
  · obtain ⟨q2, b1, b2⟩ := key k q hk
    rw [← b2]
    exact hD.2 k q2 b1
theorem z_map_sub {ws wc : va_W} {is : List Nat} (h : is.map (fun i => ws[i]?) = wc.map some) : is.filterMap (fun i => ws[i]?) = wc := by
  have : is.filterMap (fun i => ws[i]?) = (is.map (fun i => ws[i]?)).filterMap id := by rw [List.filterMap_map]; rfl
  rw [this, h, List.filterMap_map]
  simp
/-- the addresses that a method may write: those of its cells, and new ones -/
def zA (as : List Nat) (sz : Nat) : Nat → Prop := fun q => q ∈ as ∨ sz ≤ q
theorem zA_of {wc : va_W} {sz q : Nat} (h : zA (wc.map Prod.fst) sz q) : va_A wc sz q := by
  rcases h with h | h
  · obtain ⟨w, hw, rfl⟩ := List.mem_map.mp h
    obtain ⟨k, hk⟩ := List.mem_iff_getElem?.mp hw
    exact Or.inl ⟨k, w.2, hk⟩
  · exact Or.inr h
theorem zA_self {A : Nat → Prop} {wc : va_W} {sz : Nat} (h : va_D A wc) : va_D (zA (wc.map Prod.fst) sz) wc := ⟨h.1, fun _ q hk => Or.inl (List.mem_map.mpr ⟨q, List.mem_of_getElem? hk, rfl⟩)⟩
/-- a contract's end: this answer, these cells, nothing else -/
def zQ (r : Option Value) (D : va_G) (cl : List vw_C) (wc' : va_W) (as : List Nat) : Array Value → State → Outcome → State → Prop := fun _ st oc t => oc = .returned r ∧ va_P D cl wc' t.heap ∧ va_F (zA as st.heap.size) st t
/-- a contract's start -/
def zPre (av : List Value) (D : va_G) (cl : List vw_C) (tys : List (ClassId × FieldType)) (wc : va_W) (sz : Nat) : Array Value → State → Prop := fun v U => v = av.toArray ∧ U.heap.size = sz ∧ va_P D cl wc U.heap ∧ va_K D cl tys U ∧ va_D (fun _ => True) wc ∧ zE (zA (wc.map Prod.fst) sz) U U.heap
/-- the contract of a method that makes nothing: from the cells wc it comes to the cells wc' and answers r -/
def zM (l : Launch) (y : MethodName) (wy : List Cond) (rm : Room) (D : va_G) (cl : List vw_C) (tys : List (ClassId × FieldType)) (av : List Value) (wc wc' : va_W) (r : Option Value) : Prop := ∀ sz : Nat, Met l y wy rm (zPre av D cl tys wc sz) (zQ r D cl wc' (wc.map Prod.fst)) 0 0 (zA (wc.map Prod.fst) sz)
theorem zPre.blind {av : List Value} {D : va_G} {cl : List vw_C} {tys : List (ClassId × FieldType)} {wc : va_W} {sz : Nat} : FrameBlind (zPre av D cl tys wc sz) := by
  intro a U g mk h
  obtain ⟨h1, h2, h3, h4, h5, h6⟩ := h
  exact ⟨h1, h2, h3, va_K.moved (u := U) (U := U.calling g mk a) (Vm.Alike.refl U.vm) h4, h5, zE.same (u := U) (U := U.calling g mk a) rfl h6⟩
section ZK
variable {p : Program} {l : Launch} {e : Env} {R : Room} {s : State} {m : MethodId} {args : Array Value} {below : List Frame} {meth : Method} {c : Code} {cells slots : Nat} {Q : State → Prop}
variable {cc : ByteArray} {pc nL : Nat} {D : va_G} {cl : List vw_C} {A : Nat → Prop} {tys : List (ClassId × FieldType)} {ws ws' : va_W} {lv lv' : List (Nat × Value)} {st rest : List Value} {own : String} {as0 : List Nat}
/-- a method from its walk -/
theorem zM.intro {y : MethodName} {wy wy' : List Cond} {rm : Room} {wc wc' : va_W} {r : Option Value} {maxL : Nat} {ret : Option FieldType} {av : List Value}
    (hy : plainName y.cls = true) (hw : wy = Cond.code y cc maxL ret :: wy') (hT : ∀ w ∈ zT, w ∈ wy) (hlen : (lg_sl av).length ≤ maxL)
    (body : ∀ (p : Program) (e : Env) (s : State) (m : MethodId) (below : List Frame) (meth : Method) (c : Code), zC p s m av.toArray meth c cc maxL y.cls D cl tys (zA (wc.map Prod.fst) s.heap.size) → meth.sig.returnType = ret → (y.name = "<init>" → meth.name = "<init>") →
      ZW p l e rm s m av.toArray below meth c maxL D cl (zA (wc.map Prod.fst) s.heap.size) 0 0 (MQ below (zQ r D cl wc' (wc.map Prod.fst)) av.toArray s 0 0 (zA (wc.map Prod.fst) s.heap.size)) wc 0 (lv_args 0 av) []) : zM l y wy rm D cl tys av wc wc' r := by
  intro sz
  refine Met.ofW (cc := cc) (maxL := maxL) (ret := ret) hy hw ?_
  intro p e s m args below meth c s₁ B hml hv
  obtain ⟨rfl, hsz, hP, hK, hD0, hE⟩ := hv
  subst hsz
  have hts := atoms_spec (ws := wy) B.pre
  rw [lg_entry_eq]
  exact body p e s m below meth c ⟨B.exec, B.bytes, hml, findClass_of_methodNamed B.named, fun w h => hts w (hT w h), hK, fun q h => Or.inr h, B.notSynchronized, hE⟩ B.returns
    (fun hn => by rw [← hn]; exact (name_of_methodNamed B.named B.method).1) s.heap [] _ (lv_entry av hlen) hP (zA_self hD0) va_S.rf
theorem z_iret (C : zC p s m args meth c cc nL own D cl tys (zA as0 s.heap.size)) (hr : meth.sig.returnType = some .int) {v : Int32} (hdg : decode cc pc = .ok (.ireturn, 1)) :
    ZW p l e R s m args below meth c nL D cl (zA as0 s.heap.size) cells slots (MQ below (zQ (some (.int v)) D cl ws as0) args s cells slots (zA as0 s.heap.size)) ws pc lv [.int v] :=
  fun H locs ls h1 h2 h3 h4 => W.iret C.1 C.2.1 hr (fun t ht hW => ⟨rfl, by rw [ht]; exact h2, h4.F ht⟩) h4.2.2 hdg C.2.2.2.2.2.2.2.1
theorem z_zret (C : zC p s m args meth c cc nL own D cl tys (zA as0 s.heap.size)) {ty : FieldType} (hr : meth.sig.returnType = some ty) {v : Int32} (hn : narrow ty (.int v) = .int v) (hdg : decode cc pc = .ok (.ireturn, 1)) :
    ZW p l e R s m args below meth c nL D cl (zA as0 s.heap.size) cells slots (MQ below (zQ (some (.int v)) D cl ws as0) args s cells slots (zA as0 s.heap.size)) ws pc lv [.int v] :=
  fun H locs ls h1 h2 h3 h4 => W.zret C.1 C.2.1 hr hn (fun t ht hW => ⟨rfl, by rw [ht]; exact h2, h4.F ht⟩) h4.2.2 hdg C.2.2.2.2.2.2.2.1
theorem z_lret (C : zC p s m args meth c cc nL own D cl tys (zA as0 s.heap.size)) (hr : meth.sig.returnType = some .long) {v : Int64} (hdg : decode cc pc = .ok (.lreturn, 1)) :
    ZW p l e R s m args below meth c nL D cl (zA as0 s.heap.size) cells slots (MQ below (zQ (some (.long v)) D cl ws as0) args s cells slots (zA as0 s.heap.size)) ws pc lv [.long v] :=
  fun H locs ls h1 h2 h3 h4 => W.lret C.1 C.2.1 hr (fun t ht hW => ⟨rfl, by rw [ht]; exact h2, h4.F ht⟩) h4.2.2 hdg C.2.2.2.2.2.2.2.1
theorem z_vret (C : zC p s m args meth c cc nL own D cl tys (zA as0 s.heap.size)) (hr : meth.sig.returnType = none) (hdg : decode cc pc = .ok (.return_, 1)) :
    ZW p l e R s m args below meth c nL D cl (zA as0 s.heap.size) cells slots (MQ below (zQ none D cl ws as0) args s cells slots (zA as0 s.heap.size)) ws pc lv [] :=
  fun H locs ls h1 h2 h3 h4 => W.vret C.1 C.2.1 hr (fun t ht hW => ⟨rfl, by rw [ht]; exact h2, h4.F ht⟩) h4.2.2 hdg C.2.2.2.2.2.2.2.1
/-- behind a call: the callee's cells are changed in their places -/
theorem z_call (C : zC p s m args meth c cc nL own D cl tys A) {wc wc' : va_W} {r : Option Value} {aa : Array Value} (isC : List Nat) (hnd : va_nd isC = true)
    (hC : isC.map (fun i => ws[i]?) = wc.map some) (hf : wc'.map Prod.fst = wc.map Prod.fst) (hw : z_rep ws isC wc' = ws')
    (run : ∀ (H : Heap) (locs : List Loc) (ls : Array Slot), lv_has ls nL lv → va_P D cl wc H → va_D (fun _ => True) wc → zE (zA (wc.map Prod.fst) H.size) s H → va_Run p l e R s m args below meth c H locs cells slots 0 0 (F0 m pc ls st) rest (zQ r D cl wc' (wc.map Prod.fst) aa) (zA (wc.map Prod.fst) H.size))
    (kk : ZW p l e R s m args below meth c nL D cl A cells slots Q ws' (pc + 3) lv (r.toList ++ rest)) : ZW p l e R s m args below meth c nL D cl A cells slots Q ws pc lv st := by
  intro H locs ls h1 h2 h3 h4
  have hFc : ∀ q, zA (wc.map Prod.fst) H.size q → A q := fun q h => va_free h3 h4 C.2.2.2.2.2.2.1 isC hC q (zA_of h)
  have hPc : va_P D cl wc H := h2.sub isC (z_map_sub hC)
  have hDc : va_D (fun _ => True) wc := (h3.sub isC hnd hC).weaken (fun _ _ _ _ => trivial)
  have hE : zE (zA (wc.map Prod.fst) H.size) s H := zE.narrow (zE.kept C.2.2.2.2.2.2.2.2 h4.2.1) hFc
  intro T hT X
  obtain ⟨v, st₀, t, T', L, h0, X', hL, e1, e2, ⟨hv, hP1, hF1⟩, hgo⟩ := run H locs ls h1 hPc hDc hE T hT X
  cases hv
  have hk : ∀ q : Nat, q < H.size → ¬ zA (wc.map Prod.fst) H.size q → t.heap[q]? = H[q]? := fun q a b => by
    have := hF1.2 q (by rw [h0]; exact a) (by rw [h0]; exact b)
    rw [h0] at this
    exact this
  have hz : H.size ≤ t.heap.size := by have := hF1.1; rw [h0] at this; exact this
  have hlen : isC.length ≤ wc'.length := by
    have a1 := congrArg List.length hC
    have a2 := congrArg List.length hf
    simp only [List.length_map] at a1 a2
    omega
  have P2 : va_P D cl ws' T'.heap := by
    rw [e1, ← hw]
    intro k q hq
    rcases z_rep_get isC wc' ws k q hlen hq with ⟨j, hj⟩ | ⟨hq1, hq2⟩
    · exact hP1 j q hj
    · have hat := h2 k q hq1
      refine hat.kept (hk q.1 hat.lt ?_)
      intro hz9
      rcases zA_of hz9 with ⟨k', e', hk'⟩ | hk'
      · have a1 : (isC.map (fun i => ws[i]?))[k']? = some (some (q.1, e')) := by rw [hC, List.getElem?_map, hk']; rfl
        rw [List.getElem?_map] at a1
        cases hi : isC[k']? with
        | none => rw [hi] at a1; cases a1
        | some i =>
          rw [hi] at a1
          have a2 : ws[i]? = some (q.1, e') := Option.some.inj a1
          have a3 := h3.1 i k _ _ a2 hq1 rfl
          subst a3
          exact hq2 (List.mem_of_getElem? hi)
      · exact absurd hat.lt (Nat.not_lt.mpr hk')
  have D2 : va_D A ws' := by
    rw [← hw]
    refine z_D_fst (z_rep_fst isC wc' ws ?_) h3
    have a1 : isC.map (fun i => (ws.map Prod.fst)[i]?) = (isC.map (fun i => ws[i]?)).map (fun o => o.map Prod.fst) := by simp [Function.comp_def]
    have a2 : wc'.map (fun w => some w.1) = (wc'.map Prod.fst).map some := by simp [Function.comp_def]
    rw [a1, hC, a2, hf]
    simp [Function.comp_def]
  have S2 : va_S A s.heap T'.heap (locs ++ L) := ⟨Nat.le_trans h4.1 (by rw [e1]; exact hz), fun q a b => by rw [e1, hk q (Nat.lt_of_lt_of_le a h4.1) (fun z => b (hFc q z))]; exact h4.2.1 q a b, fun q hq => by
    rcases List.mem_append.mp hq with h | h
    · exact h4.2.2 q h
    · exact hFc _ (hL q h)⟩
  obtain ⟨t2, a1, b1⟩ := kk T'.heap (locs ++ L) ls h1 P2 D2 S2 T' rfl X'
  exact ⟨t2, hgo t2 a1, b1⟩
/-- what the tables say of an instance method, of a static one -/
def zMi (y : MethodName) (bytes : ByteArray) (maxL : Nat) (ret : Option FieldType) (n : Nat) : Prop := Cond.code y bytes maxL ret ∈ zT ∧ Cond.initialized y.cls ∈ zT ∧ Cond.instanceMethod y ∈ zT ∧ Cond.selects y.cls y y ∈ zT ∧ y.cls ≠ "java/lang/invoke/MethodHandle" ∧ y.cls ≠ "java/lang/invoke/VarHandle" ∧ (parseMethodDescriptor y.desc).map (fun d => d.parameters.length) = some n
def zMs (y : MethodName) (bytes : ByteArray) (maxL : Nat) (ret : Option FieldType) (n : Nat) : Prop := Cond.code y bytes maxL ret ∈ zT ∧ Cond.initialized y.cls ∈ zT ∧ Cond.static y ∈ zT ∧ y.cls ≠ "java/lang/invoke/MethodHandle" ∧ y.cls ≠ "java/lang/invoke/VarHandle" ∧ (parseMethodDescriptor y.desc).map (fun d => d.parameters.length) = some n
theorem zGood {y : MethodName} {bytes : ByteArray} {maxL : Nat} {ret : Option FieldType} (h : Cond.code y bytes maxL ret ∈ zT) : GoodIn zT (Cond.code y bytes maxL ret :: zT) := fun w hw => by
  rcases List.mem_cons.mp hw with rfl | hw
  · exact ⟨h, zT_good _ h⟩
  · exact ⟨hw, zT_good w hw⟩
abbrev zRoom (R rm : Room) (maxL : Nat) : Prop := rm.cells = 0 ∧ rm.slots = 0 ∧ rm.frames + 1 ≤ R.frames ∧ 8 + (maxL + 11) + rm.locals ≤ R.locals
theorem z_callV (C : zC p s m args meth c cc nL own D cl tys A) {y : MethodName} {rm : Room} {bytes : ByteArray} {maxL n index b ci N : Nat} {ret : Option FieldType} {As : List Value} {wc wc' : va_W} {r : Option Value} {T : u_T} {fs : List Value}
    (hM : zM l y (Cond.code y bytes maxL ret :: zT) rm D cl tys (.ref b :: As) wc wc' r) (my : zMi y bytes maxL ret n) (hl : Cond.methodLink own index y ∈ zT) (hR : zRoom R rm maxL)
    (q0 : Nat) (he : wc[q0]? = some (b, .inr (ci, fs))) (hc : cl[ci]? = some (y.cls, T, N)) (isC : List Nat) (hnd : va_nd isC = true) (hC : isC.map (fun i => ws[i]?) = wc.map some) (hf : wc'.map Prod.fst = wc.map Prod.fst) (hw : z_rep ws isC wc' = ws')
    (hn : As.length = n) (hst : st = As.reverse ++ .ref b :: rest) (hrm : (rest.map fun v => v.category).sum ≤ 8) (hcs : cells ≤ R.cells ∧ slots ≤ R.slots) (hdg : decode cc pc = .ok (.invokevirtual index, 3))
    (kk : ZW p l e R s m args below meth c nL D cl A cells slots Q ws' (pc + 3) lv (r.toList ++ rest)) : ZW p l e R s m args below meth c nL D cl A cells slots Q ws pc lv st := by
  refine z_call C isC hnd hC hf hw (aa := (Value.ref b :: As).toArray) (fun H locs ls h1 hP hD hE => ?_) kk
  obtain ⟨m1, m2, m3, m4, m5, m6, m7⟩ := my
  have hts := C.2.2.2.2.1
  exact va_runV (Ts := zT) ⟨C.1, C.2.1, C.2.2.1, C.2.2.2.1, hts⟩ (hM H.size) ⟨callB_of n hts (zGood m1) rfl hR.1 hR.2.1 (hts _ m2) (hts _ hl) ⟨m5, m6, m7⟩ hR.2.2, hts _ m3, hts _ m4⟩
    ⟨zPre.blind, va_recv C.2.2.2.2.2.1 hP hc he, fun U hU hW => ⟨rfl, by rw [hU], by rw [hU]; exact hP, va_K.moved hW.alike C.2.2.2.2.2.1, hD, by rw [hU]; exact zE.warm hW hE⟩⟩ rfl hn h1.1 hst (lv_room hrm) hdg hcs
theorem z_callVN (C : zC p s m args meth c cc nL own D cl tys A) {y : MethodName} {host : String} {rm : Room} {bytes : ByteArray} {maxL n index b ci N : Nat} {ret : Option FieldType} {As : List Value} {wc wc' : va_W} {r : Option Value} {T : u_T} {fs : List Value}
    (hM : zM l y (Cond.code y bytes maxL ret :: zT) rm D cl tys (.ref b :: As) wc wc' r) (my : zMi y bytes maxL ret n) (hl : va_Nw (Cond.methodLinkNest own index y host) s) (hR : zRoom R rm maxL)
    (q0 : Nat) (he : wc[q0]? = some (b, .inr (ci, fs))) (hc : cl[ci]? = some (y.cls, T, N)) (isC : List Nat) (hnd : va_nd isC = true) (hC : isC.map (fun i => ws[i]?) = wc.map some) (hf : wc'.map Prod.fst = wc.map Prod.fst) (hw : z_rep ws isC wc' = ws')
    (hn : As.length = n) (hst : st = As.reverse ++ .ref b :: rest) (hrm : (rest.map fun v => v.category).sum ≤ 8) (hcs : cells ≤ R.cells ∧ slots ≤ R.slots) (hdg : decode cc pc = .ok (.invokevirtual index, 3))
    (kk : ZW p l e R s m args below meth c nL D cl A cells slots Q ws' (pc + 3) lv (r.toList ++ rest)) : ZW p l e R s m args below meth c nL D cl A cells slots Q ws pc lv st := by
  refine z_call C isC hnd hC hf hw (aa := (Value.ref b :: As).toArray) (fun H locs ls h1 hP hD hE => ?_) kk
  obtain ⟨m1, m2, m3, m4, m5, m6, m7⟩ := my
  have hts := C.2.2.2.2.1
  exact va_runVN (Ts := zT) ⟨C.1, C.2.1, C.2.2.1, C.2.2.2.1, hts⟩ (hM H.size) ⟨va_cnB n hts (zGood m1) rfl hR.1 hR.2.1 hl (hts _ m2) ⟨m5, m6, m7⟩ hR.2.2, hts _ m3, hts _ m4⟩
    ⟨zPre.blind, va_recv C.2.2.2.2.2.1 hP hc he, fun U hU hW => ⟨rfl, by rw [hU], by rw [hU]; exact hP, va_K.moved hW.alike C.2.2.2.2.2.1, hD, by rw [hU]; exact zE.warm hW hE⟩⟩ rfl hn h1.1 hst (lv_room hrm) hdg hcs
theorem z_callS (C : zC p s m args meth c cc nL own D cl tys A) {y : MethodName} {rm : Room} {bytes : ByteArray} {maxL n index : Nat} {ret : Option FieldType} {As : List Value} {wc wc' : va_W} {r : Option Value}
    (hM : zM l y (Cond.code y bytes maxL ret :: zT) rm D cl tys As wc wc' r) (my : zMs y bytes maxL ret n) (hl : Cond.methodLink own index y ∈ zT) (hR : zRoom R rm maxL)
    (isC : List Nat) (hnd : va_nd isC = true) (hC : isC.map (fun i => ws[i]?) = wc.map some) (hf : wc'.map Prod.fst = wc.map Prod.fst) (hw : z_rep ws isC wc' = ws')
    (hn : As.length = n) (hst : st = As.reverse ++ rest) (hrm : (rest.map fun v => v.category).sum ≤ 8) (hcs : cells ≤ R.cells ∧ slots ≤ R.slots) (hdg : decode cc pc = .ok (.invokestatic index, 3))
    (kk : ZW p l e R s m args below meth c nL D cl A cells slots Q ws' (pc + 3) lv (r.toList ++ rest)) : ZW p l e R s m args below meth c nL D cl A cells slots Q ws pc lv st := by
  refine z_call C isC hnd hC hf hw (aa := As.toArray) (fun H locs ls h1 hP hD hE => ?_) kk
  obtain ⟨m1, m2, m3, m5, m6, m7⟩ := my
  have hts := C.2.2.2.2.1
  exact va_runS (Ts := zT) ⟨C.1, C.2.1, C.2.2.1, C.2.2.2.1, hts⟩ (hM H.size) ⟨callB_of n hts (zGood m1) rfl hR.1 hR.2.1 (hts _ m2) (hts _ hl) ⟨m5, m6, m7⟩ hR.2.2, hts _ m3⟩
    ⟨zPre.blind, fun U hU hW => ⟨rfl, by rw [hU], by rw [hU]; exact hP, va_K.moved hW.alike C.2.2.2.2.2.1, hD, by rw [hU]; exact zE.warm hW hE⟩⟩ rfl hn h1.1 hst (lv_room hrm) hdg hcs
theorem z_callSN (C : zC p s m args meth c cc nL own D cl tys A) {y : MethodName} {host : String} {rm : Room} {bytes : ByteArray} {maxL n index : Nat} {ret : Option FieldType} {As : List Value} {wc wc' : va_W} {r : Option Value}
    (hM : zM l y (Cond.code y bytes maxL ret :: zT) rm D cl tys As wc wc' r) (my : zMs y bytes maxL ret n) (hl : va_Nw (Cond.methodLinkNest own index y host) s) (hR : zRoom R rm maxL)
    (isC : List Nat) (hnd : va_nd isC = true) (hC : isC.map (fun i => ws[i]?) = wc.map some) (hf : wc'.map Prod.fst = wc.map Prod.fst) (hw : z_rep ws isC wc' = ws')
    (hn : As.length = n) (hst : st = As.reverse ++ rest) (hrm : (rest.map fun v => v.category).sum ≤ 8) (hcs : cells ≤ R.cells ∧ slots ≤ R.slots) (hdg : decode cc pc = .ok (.invokestatic index, 3))
    (kk : ZW p l e R s m args below meth c nL D cl A cells slots Q ws' (pc + 3) lv (r.toList ++ rest)) : ZW p l e R s m args below meth c nL D cl A cells slots Q ws pc lv st := by
  refine z_call C isC hnd hC hf hw (aa := As.toArray) (fun H locs ls h1 hP hD hE => ?_) kk
  obtain ⟨m1, m2, m3, m5, m6, m7⟩ := my
  have hts := C.2.2.2.2.1
  exact va_runSN (Ts := zT) ⟨C.1, C.2.1, C.2.2.1, C.2.2.2.1, hts⟩ (hM H.size) ⟨va_cnB n hts (zGood m1) rfl hR.1 hR.2.1 hl (hts _ m2) ⟨m5, m6, m7⟩ hR.2.2, hts _ m3, trivial⟩
    ⟨zPre.blind, fun U hU hW => ⟨rfl, by rw [hU], by rw [hU]; exact hP, va_K.moved hW.alike C.2.2.2.2.2.1, hD, by rw [hU]; exact zE.warm hW hE⟩⟩ rfl hn h1.1 hst (lv_room hrm) hdg hcs
end ZK


section ZT
variable {p : Program} {s : State} {m : MethodId} {args : Array Value} {meth : Method} {c : Code} {cc : ByteArray} {nL : Nat} {own : String} {D : va_G} {cl : List vw_C} {tys : List (ClassId × FieldType)} {A : Nat → Prop}
theorem znest (C : zC p s m args meth c cc nL own D cl tys A) {w : Cond} (i : Nat) (h : zN[i]? = some w) : va_Nw w s := C.2.2.2.2.2.2.2.2.1 w (List.mem_of_getElem? h)
theorem zturns (C : zC p s m args meth c cc nL own D cl tys A) : ∃ t : Nat, va_Z "PathSums" "TURNS" "[I" (.ref t) A s s.heap ∧ va_T .int t 5 (fun k => .int (tb_TURNS k)) A s s.heap := C.2.2.2.2.2.2.2.2.2
end ZT
abbrev ZV (p : Program) (l : Launch) (e : Env) (R : Room) (s : State) (m : MethodId) (args : Array Value) (below : List Frame) (meth : Method) (c : Code) (nL : Nat) (D : va_G) (r : Option Value) (wc' : va_W) (as : List Nat) (ws : va_W) (pc : Nat) (lv : List (Nat × Value)) (st : List Value) : Prop :=
  ZW p l e R s m args below meth c nL D vwCl (zA as s.heap.size) 0 0 (MQ below (zQ r D vwCl wc' as) args s 0 0 (zA as s.heap.size)) ws pc lv st
end
section
/-! the words of the functions -/
def zlet {α β : Type} (a : α) (f : α → β) : β := f a
theorem zlet_at {α β : Type} {a x : α} {f : α → β} {r : β} (ex : x = a) (h : zlet a f = r) : f x = r := by rw [ex]; exact h
theorem zguard {α : Type} {c : Prop} [Decidable c] {k : Option α} {r : α} (h : (if c then none else k) = some r) : ¬ c ∧ k = some r := by
  by_cases hc : c
  · rw [if_pos hc] at h; cases h
  · rw [if_neg hc] at h; exact ⟨hc, h⟩
theorem zif_pos {α : Type} {c : Prop} [Decidable c] {a b r : α} (hc : c) (h : (if c then a else b) = r) : a = r := by rw [if_pos hc] at h; exact h
theorem zif_neg {α : Type} {c : Prop} [Decidable c] {a b r : α} (hc : ¬ c) (h : (if c then a else b) = r) : b = r := by rw [if_neg hc] at h; exact h
theorem zne {x y : Int32} (h : ¬ x = y) : ¬ x.toInt = y.toInt := fun q => h (Int32.toInt_inj.mp q)
theorem zbool_n {x : Int32} (h : ¬ ¬ (x = 0 ∨ x = 1)) : narrow .boolean (.int x) = .int x := by
  rcases Classical.not_not.mp h with rfl | rfl <;> rfl
theorem zbool_f {x : Int32} (h : ¬ ¬ (x = 0 ∨ x = 1)) : fits .boolean (.int x) = true := by
  rcases Classical.not_not.mp h with rfl | rfl <;> rfl
def zcase {α β : Type} (P : α → Prop) (K : β → Prop) : α ⊕ β → Prop
  | .inl a => P a
  | .inr b => K b
def zloop {σ ρ : Type} (step : σ → Option (σ ⊕ ρ)) : Nat → σ → Option ρ
  | 0, _ => none
  | n + 1, s => match step s with
    | none => none
    | some (.inl s') => zloop step n s'
    | some (.inr r) => some r
theorem zloop_run {σ ρ : Type} {step : σ → Option (σ ⊕ ρ)} {P : σ → Prop} {K : ρ → Prop} (h : ∀ (s : σ) (x : σ ⊕ ρ), step s = some x → zcase P K x → P s) : ∀ (n : Nat) (s : σ) (r : ρ), zloop step n s = some r → K r → P s
  | 0, s, r, hr, hk => by cases hr
  | n + 1, s, r, hr, hk => by
    unfold zloop at hr
    cases hs : step s with
    | none => rw [hs] at hr; cases hr
    | some x =>
      rw [hs] at hr
      cases x with
      | inl s' => exact h s _ hs (zloop_run h n s' r hr hk)
      | inr r' =>
        cases hr
        exact h s _ hs hk
/-- how often a loop may go round, at most -/
def zF : Nat := 100000
def zb0 {β : Type} (o : Option Unit) (k : Option β) : Option β := o.bind fun _ => k
theorem zb0_elim {β : Type} {o : Option Unit} {k : Option β} {r : β} (h : zb0 o k = some r) : o = some () ∧ k = some r := by
  cases o with
  | none => cases h
  | some u => exact ⟨rfl, h⟩
def zb1 {α0 β : Type} (o : Option (α0)) (k : α0 → Option β) : Option β := match o with | none => none | some p => k p
theorem zb1_elim {α0 β : Type} {o : Option (α0)} {k : α0 → Option β} {r : β} (h : zb1 o k = some r) : ∃ a0, o = some a0 ∧ k a0 = some r := by
  cases o with
  | none => cases h
  | some p => exact ⟨p, rfl, h⟩
def zl1 {α0 β : Type} (p : α0) (k : α0 → β) : β := k p
theorem zl1_elim {α0 β : Type} {p : α0} {k : α0 → β} {r : β} (h : zl1 p k = r) : ∃ a0, p = a0 ∧ k a0 = r := ⟨p, rfl, h⟩
def zb2 {α0 α1 β : Type} (o : Option (α0 × α1)) (k : α0 → α1 → Option β) : Option β := match o with | none => none | some p => k p.1 p.2
theorem zb2_elim {α0 α1 β : Type} {o : Option (α0 × α1)} {k : α0 → α1 → Option β} {r : β} (h : zb2 o k = some r) : ∃ a0 a1, o = some (a0, a1) ∧ k a0 a1 = some r := by
  cases o with
  | none => cases h
  | some p => exact ⟨p.1, p.2, rfl, h⟩
def zl2 {α0 α1 β : Type} (p : α0 × α1) (k : α0 → α1 → β) : β := k p.1 p.2
theorem zl2_elim {α0 α1 β : Type} {p : α0 × α1} {k : α0 → α1 → β} {r : β} (h : zl2 p k = r) : ∃ a0 a1, p = (a0, a1) ∧ k a0 a1 = r := ⟨p.1, p.2, rfl, h⟩
def zb3 {α0 α1 α2 β : Type} (o : Option (α0 × α1 × α2)) (k : α0 → α1 → α2 → Option β) : Option β := match o with | none => none | some p => k p.1 p.2.1 p.2.2
theorem zb3_elim {α0 α1 α2 β : Type} {o : Option (α0 × α1 × α2)} {k : α0 → α1 → α2 → Option β} {r : β} (h : zb3 o k = some r) : ∃ a0 a1 a2, o = some (a0, a1, a2) ∧ k a0 a1 a2 = some r := by
  cases o with
  | none => cases h
  | some p => exact ⟨p.1, p.2.1, p.2.2, rfl, h⟩
def zl3 {α0 α1 α2 β : Type} (p : α0 × α1 × α2) (k : α0 → α1 → α2 → β) : β := k p.1 p.2.1 p.2.2
theorem zl3_elim {α0 α1 α2 β : Type} {p : α0 × α1 × α2} {k : α0 → α1 → α2 → β} {r : β} (h : zl3 p k = r) : ∃ a0 a1 a2, p = (a0, a1, a2) ∧ k a0 a1 a2 = r := ⟨p.1, p.2.1, p.2.2, rfl, h⟩
def zb4 {α0 α1 α2 α3 β : Type} (o : Option (α0 × α1 × α2 × α3)) (k : α0 → α1 → α2 → α3 → Option β) : Option β := match o with | none => none | some p => k p.1 p.2.1 p.2.2.1 p.2.2.2
theorem zb4_elim {α0 α1 α2 α3 β : Type} {o : Option (α0 × α1 × α2 × α3)} {k : α0 → α1 → α2 → α3 → Option β} {r : β} (h : zb4 o k = some r) : ∃ a0 a1 a2 a3, o = some (a0, a1, a2, a3) ∧ k a0 a1 a2 a3 = some r := by
  cases o with
  | none => cases h
  | some p => exact ⟨p.1, p.2.1, p.2.2.1, p.2.2.2, rfl, h⟩
def zl4 {α0 α1 α2 α3 β : Type} (p : α0 × α1 × α2 × α3) (k : α0 → α1 → α2 → α3 → β) : β := k p.1 p.2.1 p.2.2.1 p.2.2.2
theorem zl4_elim {α0 α1 α2 α3 β : Type} {p : α0 × α1 × α2 × α3} {k : α0 → α1 → α2 → α3 → β} {r : β} (h : zl4 p k = r) : ∃ a0 a1 a2 a3, p = (a0, a1, a2, a3) ∧ k a0 a1 a2 a3 = r := ⟨p.1, p.2.1, p.2.2.1, p.2.2.2, rfl, h⟩
def zb5 {α0 α1 α2 α3 α4 β : Type} (o : Option (α0 × α1 × α2 × α3 × α4)) (k : α0 → α1 → α2 → α3 → α4 → Option β) : Option β := match o with | none => none | some p => k p.1 p.2.1 p.2.2.1 p.2.2.2.1 p.2.2.2.2
theorem zb5_elim {α0 α1 α2 α3 α4 β : Type} {o : Option (α0 × α1 × α2 × α3 × α4)} {k : α0 → α1 → α2 → α3 → α4 → Option β} {r : β} (h : zb5 o k = some r) : ∃ a0 a1 a2 a3 a4, o = some (a0, a1, a2, a3, a4) ∧ k a0 a1 a2 a3 a4 = some r := by
  cases o with
  | none => cases h
  | some p => exact ⟨p.1, p.2.1, p.2.2.1, p.2.2.2.1, p.2.2.2.2, rfl, h⟩
def zl5 {α0 α1 α2 α3 α4 β : Type} (p : α0 × α1 × α2 × α3 × α4) (k : α0 → α1 → α2 → α3 → α4 → β) : β := k p.1 p.2.1 p.2.2.1 p.2.2.2.1 p.2.2.2.2
theorem zl5_elim {α0 α1 α2 α3 α4 β : Type} {p : α0 × α1 × α2 × α3 × α4} {k : α0 → α1 → α2 → α3 → α4 → β} {r : β} (h : zl5 p k = r) : ∃ a0 a1 a2 a3 a4, p = (a0, a1, a2, a3, a4) ∧ k a0 a1 a2 a3 a4 = r := ⟨p.1, p.2.1, p.2.2.1, p.2.2.2.1, p.2.2.2.2, rfl, h⟩
def zb6 {α0 α1 α2 α3 α4 α5 β : Type} (o : Option (α0 × α1 × α2 × α3 × α4 × α5)) (k : α0 → α1 → α2 → α3 → α4 → α5 → Option β) : Option β := match o with | none => none | some p => k p.1 p.2.1 p.2.2.1 p.2.2.2.1 p.2.2.2.2.1 p.2.2.2.2.2
theorem zb6_elim {α0 α1 α2 α3 α4 α5 β : Type} {o : Option (α0 × α1 × α2 × α3 × α4 × α5)} {k : α0 → α1 → α2 → α3 → α4 → α5 → Option β} {r : β} (h : zb6 o k = some r) : ∃ a0 a1 a2 a3 a4 a5, o = some (a0, a1, a2, a3, a4, a5) ∧ k a0 a1 a2 a3 a4 a5 = some r := by
  cases o with
  | none => cases h
  | some p => exact ⟨p.1, p.2.1, p.2.2.1, p.2.2.2.1, p.2.2.2.2.1, p.2.2.2.2.2, rfl, h⟩
def zl6 {α0 α1 α2 α3 α4 α5 β : Type} (p : α0 × α1 × α2 × α3 × α4 × α5) (k : α0 → α1 → α2 → α3 → α4 → α5 → β) : β := k p.1 p.2.1 p.2.2.1 p.2.2.2.1 p.2.2.2.2.1 p.2.2.2.2.2
theorem zl6_elim {α0 α1 α2 α3 α4 α5 β : Type} {p : α0 × α1 × α2 × α3 × α4 × α5} {k : α0 → α1 → α2 → α3 → α4 → α5 → β} {r : β} (h : zl6 p k = r) : ∃ a0 a1 a2 a3 a4 a5, p = (a0, a1, a2, a3, a4, a5) ∧ k a0 a1 a2 a3 a4 a5 = r := ⟨p.1, p.2.1, p.2.2.1, p.2.2.2.1, p.2.2.2.2.1, p.2.2.2.2.2, rfl, h⟩
def zb7 {α0 α1 α2 α3 α4 α5 α6 β : Type} (o : Option (α0 × α1 × α2 × α3 × α4 × α5 × α6)) (k : α0 → α1 → α2 → α3 → α4 → α5 → α6 → Option β) : Option β := match o with | none => none | some p => k p.1 p.2.1 p.2.2.1 p.2.2.2.1 p.2.2.2.2.1 p.2.2.2.2.2.1 p.2.2.2.2.2.2
theorem zb7_elim {α0 α1 α2 α3 α4 α5 α6 β : Type} {o : Option (α0 × α1 × α2 × α3 × α4 × α5 × α6)} {k : α0 → α1 → α2 → α3 → α4 → α5 → α6 → Option β} {r : β} (h : zb7 o k = some r) : ∃ a0 a1 a2 a3 a4 a5 a6, o = some (a0, a1, a2, a3, a4, a5, a6) ∧ k a0 a1 a2 a3 a4 a5 a6 = some r := by
  cases o with
  | none => cases h
  | some p => exact ⟨p.1, p.2.1, p.2.2.1, p.2.2.2.1, p.2.2.2.2.1, p.2.2.2.2.2.1, p.2.2.2.2.2.2, rfl, h⟩
def zl7 {α0 α1 α2 α3 α4 α5 α6 β : Type} (p : α0 × α1 × α2 × α3 × α4 × α5 × α6) (k : α0 → α1 → α2 → α3 → α4 → α5 → α6 → β) : β := k p.1 p.2.1 p.2.2.1 p.2.2.2.1 p.2.2.2.2.1 p.2.2.2.2.2.1 p.2.2.2.2.2.2
theorem zl7_elim {α0 α1 α2 α3 α4 α5 α6 β : Type} {p : α0 × α1 × α2 × α3 × α4 × α5 × α6} {k : α0 → α1 → α2 → α3 → α4 → α5 → α6 → β} {r : β} (h : zl7 p k = r) : ∃ a0 a1 a2 a3 a4 a5 a6, p = (a0, a1, a2, a3, a4, a5, a6) ∧ k a0 a1 a2 a3 a4 a5 a6 = r := ⟨p.1, p.2.1, p.2.2.1, p.2.2.2.1, p.2.2.2.2.1, p.2.2.2.2.2.1, p.2.2.2.2.2.2, rfl, h⟩
def zb8 {α0 α1 α2 α3 α4 α5 α6 α7 β : Type} (o : Option (α0 × α1 × α2 × α3 × α4 × α5 × α6 × α7)) (k : α0 → α1 → α2 → α3 → α4 → α5 → α6 → α7 → Option β) : Option β := match o with | none => none | some p => k p.1 p.2.1 p.2.2.1 p.2.2.2.1 p.2.2.2.2.1 p.2.2.2.2.2.1 p.2.2.2.2.2.2.1 p.2.2.2.2.2.2.2
theorem zb8_elim {α0 α1 α2 α3 α4 α5 α6 α7 β : Type} {o : Option (α0 × α1 × α2 × α3 × α4 × α5 × α6 × α7)} {k : α0 → α1 → α2 → α3 → α4 → α5 → α6 → α7 → Option β} {r : β} (h : zb8 o k = some r) : ∃ a0 a1 a2 a3 a4 a5 a6 a7, o = some (a0, a1, a2, a3, a4, a5, a6, a7) ∧ k a0 a1 a2 a3 a4 a5 a6 a7 = some r := by
  cases o with
  | none => cases h
  | some p => exact ⟨p.1, p.2.1, p.2.2.1, p.2.2.2.1, p.2.2.2.2.1, p.2.2.2.2.2.1, p.2.2.2.2.2.2.1, p.2.2.2.2.2.2.2, rfl, h⟩
def zl8 {α0 α1 α2 α3 α4 α5 α6 α7 β : Type} (p : α0 × α1 × α2 × α3 × α4 × α5 × α6 × α7) (k : α0 → α1 → α2 → α3 → α4 → α5 → α6 → α7 → β) : β := k p.1 p.2.1 p.2.2.1 p.2.2.2.1 p.2.2.2.2.1 p.2.2.2.2.2.1 p.2.2.2.2.2.2.1 p.2.2.2.2.2.2.2
theorem zl8_elim {α0 α1 α2 α3 α4 α5 α6 α7 β : Type} {p : α0 × α1 × α2 × α3 × α4 × α5 × α6 × α7} {k : α0 → α1 → α2 → α3 → α4 → α5 → α6 → α7 → β} {r : β} (h : zl8 p k = r) : ∃ a0 a1 a2 a3 a4 a5 a6 a7, p = (a0, a1, a2, a3, a4, a5, a6, a7) ∧ k a0 a1 a2 a3 a4 a5 a6 a7 = r := ⟨p.1, p.2.1, p.2.2.1, p.2.2.2.1, p.2.2.2.2.1, p.2.2.2.2.2.1, p.2.2.2.2.2.2.1, p.2.2.2.2.2.2.2, rfl, h⟩
def zb9 {α0 α1 α2 α3 α4 α5 α6 α7 α8 β : Type} (o : Option (α0 × α1 × α2 × α3 × α4 × α5 × α6 × α7 × α8)) (k : α0 → α1 → α2 → α3 → α4 → α5 → α6 → α7 → α8 → Option β) : Option β := match o with | none => none | some p => k p.1 p.2.1 p.2.2.1 p.2.2.2.1 p.2.2.2.2.1 p.2.2.2.2.2.1 p.2.2.2.2.2.2.1 p.2.2.2.2.2.2.2.1 p.2.2.2.2.2.2.2.2
theorem zb9_elim {α0 α1 α2 α3 α4 α5 α6 α7 α8 β : Type} {o : Option (α0 × α1 × α2 × α3 × α4 × α5 × α6 × α7 × α8)} {k : α0 → α1 → α2 → α3 → α4 → α5 → α6 → α7 → α8 → Option β} {r : β} (h : zb9 o k = some r) : ∃ a0 a1 a2 a3 a4 a5 a6 a7 a8, o = some (a0, a1, a2, a3, a4, a5, a6, a7, a8) ∧ k a0 a1 a2 a3 a4 a5 a6 a7 a8 = some r := by
  cases o with
  | none => cases h
  | some p => exact ⟨p.1, p.2.1, p.2.2.1, p.2.2.2.1, p.2.2.2.2.1, p.2.2.2.2.2.1, p.2.2.2.2.2.2.1, p.2.2.2.2.2.2.2.1, p.2.2.2.2.2.2.2.2, rfl, h⟩
def zl9 {α0 α1 α2 α3 α4 α5 α6 α7 α8 β : Type} (p : α0 × α1 × α2 × α3 × α4 × α5 × α6 × α7 × α8) (k : α0 → α1 → α2 → α3 → α4 → α5 → α6 → α7 → α8 → β) : β := k p.1 p.2.1 p.2.2.1 p.2.2.2.1 p.2.2.2.2.1 p.2.2.2.2.2.1 p.2.2.2.2.2.2.1 p.2.2.2.2.2.2.2.1 p.2.2.2.2.2.2.2.2
theorem zl9_elim {α0 α1 α2 α3 α4 α5 α6 α7 α8 β : Type} {p : α0 × α1 × α2 × α3 × α4 × α5 × α6 × α7 × α8} {k : α0 → α1 → α2 → α3 → α4 → α5 → α6 → α7 → α8 → β} {r : β} (h : zl9 p k = r) : ∃ a0 a1 a2 a3 a4 a5 a6 a7 a8, p = (a0, a1, a2, a3, a4, a5, a6, a7, a8) ∧ k a0 a1 a2 a3 a4 a5 a6 a7 a8 = r := ⟨p.1, p.2.1, p.2.2.1, p.2.2.2.1, p.2.2.2.2.1, p.2.2.2.2.2.1, p.2.2.2.2.2.2.1, p.2.2.2.2.2.2.2.1, p.2.2.2.2.2.2.2.2, rfl, h⟩
def zb10 {α0 α1 α2 α3 α4 α5 α6 α7 α8 α9 β : Type} (o : Option (α0 × α1 × α2 × α3 × α4 × α5 × α6 × α7 × α8 × α9)) (k : α0 → α1 → α2 → α3 → α4 → α5 → α6 → α7 → α8 → α9 → Option β) : Option β := match o with | none => none | some p => k p.1 p.2.1 p.2.2.1 p.2.2.2.1 p.2.2.2.2.1 p.2.2.2.2.2.1 p.2.2.2.2.2.2.1 p.2.2.2.2.2.2.2.1 p.2.2.2.2.2.2.2.2.1 p.2.2.2.2.2.2.2.2.2
theorem zb10_elim {α0 α1 α2 α3 α4 α5 α6 α7 α8 α9 β : Type} {o : Option (α0 × α1 × α2 × α3 × α4 × α5 × α6 × α7 × α8 × α9)} {k : α0 → α1 → α2 → α3 → α4 → α5 → α6 → α7 → α8 → α9 → Option β} {r : β} (h : zb10 o k = some r) : ∃ a0 a1 a2 a3 a4 a5 a6 a7 a8 a9, o = some (a0, a1, a2, a3, a4, a5, a6, a7, a8, a9) ∧ k a0 a1 a2 a3 a4 a5 a6 a7 a8 a9 = some r := by
  cases o with
  | none => cases h
  | some p => exact ⟨p.1, p.2.1, p.2.2.1, p.2.2.2.1, p.2.2.2.2.1, p.2.2.2.2.2.1, p.2.2.2.2.2.2.1, p.2.2.2.2.2.2.2.1, p.2.2.2.2.2.2.2.2.1, p.2.2.2.2.2.2.2.2.2, rfl, h⟩
def zl10 {α0 α1 α2 α3 α4 α5 α6 α7 α8 α9 β : Type} (p : α0 × α1 × α2 × α3 × α4 × α5 × α6 × α7 × α8 × α9) (k : α0 → α1 → α2 → α3 → α4 → α5 → α6 → α7 → α8 → α9 → β) : β := k p.1 p.2.1 p.2.2.1 p.2.2.2.1 p.2.2.2.2.1 p.2.2.2.2.2.1 p.2.2.2.2.2.2.1 p.2.2.2.2.2.2.2.1 p.2.2.2.2.2.2.2.2.1 p.2.2.2.2.2.2.2.2.2
theorem zl10_elim {α0 α1 α2 α3 α4 α5 α6 α7 α8 α9 β : Type} {p : α0 × α1 × α2 × α3 × α4 × α5 × α6 × α7 × α8 × α9} {k : α0 → α1 → α2 → α3 → α4 → α5 → α6 → α7 → α8 → α9 → β} {r : β} (h : zl10 p k = r) : ∃ a0 a1 a2 a3 a4 a5 a6 a7 a8 a9, p = (a0, a1, a2, a3, a4, a5, a6, a7, a8, a9) ∧ k a0 a1 a2 a3 a4 a5 a6 a7 a8 a9 = r := ⟨p.1, p.2.1, p.2.2.1, p.2.2.2.1, p.2.2.2.2.1, p.2.2.2.2.2.1, p.2.2.2.2.2.2.1, p.2.2.2.2.2.2.2.1, p.2.2.2.2.2.2.2.2.1, p.2.2.2.2.2.2.2.2.2, rfl, h⟩
def zb11 {α0 α1 α2 α3 α4 α5 α6 α7 α8 α9 α10 β : Type} (o : Option (α0 × α1 × α2 × α3 × α4 × α5 × α6 × α7 × α8 × α9 × α10)) (k : α0 → α1 → α2 → α3 → α4 → α5 → α6 → α7 → α8 → α9 → α10 → Option β) : Option β := match o with | none => none | some p => k p.1 p.2.1 p.2.2.1 p.2.2.2.1 p.2.2.2.2.1 p.2.2.2.2.2.1 p.2.2.2.2.2.2.1 p.2.2.2.2.2.2.2.1 p.2.2.2.2.2.2.2.2.1 p.2.2.2.2.2.2.2.2.2.1 p.2.2.2.2.2.2.2.2.2.2
theorem zb11_elim {α0 α1 α2 α3 α4 α5 α6 α7 α8 α9 α10 β : Type} {o : Option (α0 × α1 × α2 × α3 × α4 × α5 × α6 × α7 × α8 × α9 × α10)} {k : α0 → α1 → α2 → α3 → α4 → α5 → α6 → α7 → α8 → α9 → α10 → Option β} {r : β} (h : zb11 o k = some r) : ∃ a0 a1 a2 a3 a4 a5 a6 a7 a8 a9 a10, o = some (a0, a1, a2, a3, a4, a5, a6, a7, a8, a9, a10) ∧ k a0 a1 a2 a3 a4 a5 a6 a7 a8 a9 a10 = some r := by
  cases o with
  | none => cases h
  | some p => exact ⟨p.1, p.2.1, p.2.2.1, p.2.2.2.1, p.2.2.2.2.1, p.2.2.2.2.2.1, p.2.2.2.2.2.2.1, p.2.2.2.2.2.2.2.1, p.2.2.2.2.2.2.2.2.1, p.2.2.2.2.2.2.2.2.2.1, p.2.2.2.2.2.2.2.2.2.2, rfl, h⟩
def zl11 {α0 α1 α2 α3 α4 α5 α6 α7 α8 α9 α10 β : Type} (p : α0 × α1 × α2 × α3 × α4 × α5 × α6 × α7 × α8 × α9 × α10) (k : α0 → α1 → α2 → α3 → α4 → α5 → α6 → α7 → α8 → α9 → α10 → β) : β := k p.1 p.2.1 p.2.2.1 p.2.2.2.1 p.2.2.2.2.1 p.2.2.2.2.2.1 p.2.2.2.2.2.2.1 p.2.2.2.2.2.2.2.1 p.2.2.2.2.2.2.2.2.1 p.2.2.2.2.2.2.2.2.2.1 p.2.2.2.2.2.2.2.2.2.2
theorem zl11_elim {α0 α1 α2 α3 α4 α5 α6 α7 α8 α9 α10 β : Type} {p : α0 × α1 × α2 × α3 × α4 × α5 × α6 × α7 × α8 × α9 × α10} {k : α0 → α1 → α2 → α3 → α4 → α5 → α6 → α7 → α8 → α9 → α10 → β} {r : β} (h : zl11 p k = r) : ∃ a0 a1 a2 a3 a4 a5 a6 a7 a8 a9 a10, p = (a0, a1, a2, a3, a4, a5, a6, a7, a8, a9, a10) ∧ k a0 a1 a2 a3 a4 a5 a6 a7 a8 a9 a10 = r := ⟨p.1, p.2.1, p.2.2.1, p.2.2.2.1, p.2.2.2.2.1, p.2.2.2.2.2.1, p.2.2.2.2.2.2.1, p.2.2.2.2.2.2.2.1, p.2.2.2.2.2.2.2.2.1, p.2.2.2.2.2.2.2.2.2.1, p.2.2.2.2.2.2.2.2.2.2, rfl, h⟩
def zb12 {α0 α1 α2 α3 α4 α5 α6 α7 α8 α9 α10 α11 β : Type} (o : Option (α0 × α1 × α2 × α3 × α4 × α5 × α6 × α7 × α8 × α9 × α10 × α11)) (k : α0 → α1 → α2 → α3 → α4 → α5 → α6 → α7 → α8 → α9 → α10 → α11 → Option β) : Option β := match o with | none => none | some p => k p.1 p.2.1 p.2.2.1 p.2.2.2.1 p.2.2.2.2.1 p.2.2.2.2.2.1 p.2.2.2.2.2.2.1 p.2.2.2.2.2.2.2.1 p.2.2.2.2.2.2.2.2.1 p.2.2.2.2.2.2.2.2.2.1 p.2.2.2.2.2.2.2.2.2.2.1 p.2.2.2.2.2.2.2.2.2.2.2
theorem zb12_elim {α0 α1 α2 α3 α4 α5 α6 α7 α8 α9 α10 α11 β : Type} {o : Option (α0 × α1 × α2 × α3 × α4 × α5 × α6 × α7 × α8 × α9 × α10 × α11)} {k : α0 → α1 → α2 → α3 → α4 → α5 → α6 → α7 → α8 → α9 → α10 → α11 → Option β} {r : β} (h : zb12 o k = some r) : ∃ a0 a1 a2 a3 a4 a5 a6 a7 a8 a9 a10 a11, o = some (a0, a1, a2, a3, a4, a5, a6, a7, a8, a9, a10, a11) ∧ k a0 a1 a2 a3 a4 a5 a6 a7 a8 a9 a10 a11 = some r := by
  cases o with
  | none => cases h
  | some p => exact ⟨p.1, p.2.1, p.2.2.1, p.2.2.2.1, p.2.2.2.2.1, p.2.2.2.2.2.1, p.2.2.2.2.2.2.1, p.2.2.2.2.2.2.2.1, p.2.2.2.2.2.2.2.2.1, p.2.2.2.2.2.2.2.2.2.1, p.2.2.2.2.2.2.2.2.2.2.1, p.2.2.2.2.2.2.2.2.2.2.2, rfl, h⟩
def zl12 {α0 α1 α2 α3 α4 α5 α6 α7 α8 α9 α10 α11 β : Type} (p : α0 × α1 × α2 × α3 × α4 × α5 × α6 × α7 × α8 × α9 × α10 × α11) (k : α0 → α1 → α2 → α3 → α4 → α5 → α6 → α7 → α8 → α9 → α10 → α11 → β) : β := k p.1 p.2.1 p.2.2.1 p.2.2.2.1 p.2.2.2.2.1 p.2.2.2.2.2.1 p.2.2.2.2.2.2.1 p.2.2.2.2.2.2.2.1 p.2.2.2.2.2.2.2.2.1 p.2.2.2.2.2.2.2.2.2.1 p.2.2.2.2.2.2.2.2.2.2.1 p.2.2.2.2.2.2.2.2.2.2.2
theorem zl12_elim {α0 α1 α2 α3 α4 α5 α6 α7 α8 α9 α10 α11 β : Type} {p : α0 × α1 × α2 × α3 × α4 × α5 × α6 × α7 × α8 × α9 × α10 × α11} {k : α0 → α1 → α2 → α3 → α4 → α5 → α6 → α7 → α8 → α9 → α10 → α11 → β} {r : β} (h : zl12 p k = r) : ∃ a0 a1 a2 a3 a4 a5 a6 a7 a8 a9 a10 a11, p = (a0, a1, a2, a3, a4, a5, a6, a7, a8, a9, a10, a11) ∧ k a0 a1 a2 a3 a4 a5 a6 a7 a8 a9 a10 a11 = r := ⟨p.1, p.2.1, p.2.2.1, p.2.2.2.1, p.2.2.2.2.1, p.2.2.2.2.2.1, p.2.2.2.2.2.2.1, p.2.2.2.2.2.2.2.1, p.2.2.2.2.2.2.2.2.1, p.2.2.2.2.2.2.2.2.2.1, p.2.2.2.2.2.2.2.2.2.2.1, p.2.2.2.2.2.2.2.2.2.2.2, rfl, h⟩
def zb13 {α0 α1 α2 α3 α4 α5 α6 α7 α8 α9 α10 α11 α12 β : Type} (o : Option (α0 × α1 × α2 × α3 × α4 × α5 × α6 × α7 × α8 × α9 × α10 × α11 × α12)) (k : α0 → α1 → α2 → α3 → α4 → α5 → α6 → α7 → α8 → α9 → α10 → α11 → α12 → Option β) : Option β := match o with | none => none | some p => k p.1 p.2.1 p.2.2.1 p.2.2.2.1 p.2.2.2.2.1 p.2.2.2.2.2.1 p.2.2.2.2.2.2.1 p.2.2.2.2.2.2.2.1 p.2.2.2.2.2.2.2.2.1 p.2.2.2.2.2.2.2.2.2.1 p.2.2.2.2.2.2.2.2.2.2.1 p.2.2.2.2.2.2.2.2.2.2.2.1 p.2.2.2.2.2.2.2.2.2.2.2.2
theorem zb13_elim {α0 α1 α2 α3 α4 α5 α6 α7 α8 α9 α10 α11 α12 β : Type} {o : Option (α0 × α1 × α2 × α3 × α4 × α5 × α6 × α7 × α8 × α9 × α10 × α11 × α12)} {k : α0 → α1 → α2 → α3 → α4 → α5 → α6 → α7 → α8 → α9 → α10 → α11 → α12 → Option β} {r : β} (h : zb13 o k = some r) : ∃ a0 a1 a2 a3 a4 a5 a6 a7 a8 a9 a10 a11 a12, o = some (a0, a1, a2, a3, a4, a5, a6, a7, a8, a9, a10, a11, a12) ∧ k a0 a1 a2 a3 a4 a5 a6 a7 a8 a9 a10 a11 a12 = some r := by
  cases o with
  | none => cases h
  | some p => exact ⟨p.1, p.2.1, p.2.2.1, p.2.2.2.1, p.2.2.2.2.1, p.2.2.2.2.2.1, p.2.2.2.2.2.2.1, p.2.2.2.2.2.2.2.1, p.2.2.2.2.2.2.2.2.1, p.2.2.2.2.2.2.2.2.2.1, p.2.2.2.2.2.2.2.2.2.2.1, p.2.2.2.2.2.2.2.2.2.2.2.1, p.2.2.2.2.2.2.2.2.2.2.2.2, rfl, h⟩
def zl13 {α0 α1 α2 α3 α4 α5 α6 α7 α8 α9 α10 α11 α12 β : Type} (p : α0 × α1 × α2 × α3 × α4 × α5 × α6 × α7 × α8 × α9 × α10 × α11 × α12) (k : α0 → α1 → α2 → α3 → α4 → α5 → α6 → α7 → α8 → α9 → α10 → α11 → α12 → β) : β := k p.1 p.2.1 p.2.2.1 p.2.2.2.1 p.2.2.2.2.1 p.2.2.2.2.2.1 p.2.2.2.2.2.2.1 p.2.2.2.2.2.2.2.1 p.2.2.2.2.2.2.2.2.1 p.2.2.2.2.2.2.2.2.2.1 p.2.2.2.2.2.2.2.2.2.2.1 p.2.2.2.2.2.2.2.2.2.2.2.1 p.2.2.2.2.2.2.2.2.2.2.2.2
theorem zl13_elim {α0 α1 α2 α3 α4 α5 α6 α7 α8 α9 α10 α11 α12 β : Type} {p : α0 × α1 × α2 × α3 × α4 × α5 × α6 × α7 × α8 × α9 × α10 × α11 × α12} {k : α0 → α1 → α2 → α3 → α4 → α5 → α6 → α7 → α8 → α9 → α10 → α11 → α12 → β} {r : β} (h : zl13 p k = r) : ∃ a0 a1 a2 a3 a4 a5 a6 a7 a8 a9 a10 a11 a12, p = (a0, a1, a2, a3, a4, a5, a6, a7, a8, a9, a10, a11, a12) ∧ k a0 a1 a2 a3 a4 a5 a6 a7 a8 a9 a10 a11 a12 = r := ⟨p.1, p.2.1, p.2.2.1, p.2.2.2.1, p.2.2.2.2.1, p.2.2.2.2.2.1, p.2.2.2.2.2.2.1, p.2.2.2.2.2.2.2.1, p.2.2.2.2.2.2.2.2.1, p.2.2.2.2.2.2.2.2.2.1, p.2.2.2.2.2.2.2.2.2.2.1, p.2.2.2.2.2.2.2.2.2.2.2.1, p.2.2.2.2.2.2.2.2.2.2.2.2, rfl, h⟩
def zb14 {α0 α1 α2 α3 α4 α5 α6 α7 α8 α9 α10 α11 α12 α13 β : Type} (o : Option (α0 × α1 × α2 × α3 × α4 × α5 × α6 × α7 × α8 × α9 × α10 × α11 × α12 × α13)) (k : α0 → α1 → α2 → α3 → α4 → α5 → α6 → α7 → α8 → α9 → α10 → α11 → α12 → α13 → Option β) : Option β := match o with | none => none | some p => k p.1 p.2.1 p.2.2.1 p.2.2.2.1 p.2.2.2.2.1 p.2.2.2.2.2.1 p.2.2.2.2.2.2.1 p.2.2.2.2.2.2.2.1 p.2.2.2.2.2.2.2.2.1 p.2.2.2.2.2.2.2.2.2.1 p.2.2.2.2.2.2.2.2.2.2.1 p.2.2.2.2.2.2.2.2.2.2.2.1 p.2.2.2.2.2.2.2.2.2.2.2.2.1 p.2.2.2.2.2.2.2.2.2.2.2.2.2
theorem zb14_elim {α0 α1 α2 α3 α4 α5 α6 α7 α8 α9 α10 α11 α12 α13 β : Type} {o : Option (α0 × α1 × α2 × α3 × α4 × α5 × α6 × α7 × α8 × α9 × α10 × α11 × α12 × α13)} {k : α0 → α1 → α2 → α3 → α4 → α5 → α6 → α7 → α8 → α9 → α10 → α11 → α12 → α13 → Option β} {r : β} (h : zb14 o k = some r) : ∃ a0 a1 a2 a3 a4 a5 a6 a7 a8 a9 a10 a11 a12 a13, o = some (a0, a1, a2, a3, a4, a5, a6, a7, a8, a9, a10, a11, a12, a13) ∧ k a0 a1 a2 a3 a4 a5 a6 a7 a8 a9 a10 a11 a12 a13 = some r := by
  cases o with
  | none => cases h
  | some p => exact ⟨p.1, p.2.1, p.2.2.1, p.2.2.2.1, p.2.2.2.2.1, p.2.2.2.2.2.1, p.2.2.2.2.2.2.1, p.2.2.2.2.2.2.2.1, p.2.2.2.2.2.2.2.2.1, p.2.2.2.2.2.2.2.2.2.1, p.2.2.2.2.2.2.2.2.2.2.1, p.2.2.2.2.2.2.2.2.2.2.2.1, p.2.2.2.2.2.2.2.2.2.2.2.2.1, p.2.2.2.2.2.2.2.2.2.2.2.2.2, rfl, h⟩
def zl14 {α0 α1 α2 α3 α4 α5 α6 α7 α8 α9 α10 α11 α12 α13 β : Type} (p : α0 × α1 × α2 × α3 × α4 × α5 × α6 × α7 × α8 × α9 × α10 × α11 × α12 × α13) (k : α0 → α1 → α2 → α3 → α4 → α5 → α6 → α7 → α8 → α9 → α10 → α11 → α12 → α13 → β) : β := k p.1 p.2.1 p.2.2.1 p.2.2.2.1 p.2.2.2.2.1 p.2.2.2.2.2.1 p.2.2.2.2.2.2.1 p.2.2.2.2.2.2.2.1 p.2.2.2.2.2.2.2.2.1 p.2.2.2.2.2.2.2.2.2.1 p.2.2.2.2.2.2.2.2.2.2.1 p.2.2.2.2.2.2.2.2.2.2.2.1 p.2.2.2.2.2.2.2.2.2.2.2.2.1 p.2.2.2.2.2.2.2.2.2.2.2.2.2
theorem zl14_elim {α0 α1 α2 α3 α4 α5 α6 α7 α8 α9 α10 α11 α12 α13 β : Type} {p : α0 × α1 × α2 × α3 × α4 × α5 × α6 × α7 × α8 × α9 × α10 × α11 × α12 × α13} {k : α0 → α1 → α2 → α3 → α4 → α5 → α6 → α7 → α8 → α9 → α10 → α11 → α12 → α13 → β} {r : β} (h : zl14 p k = r) : ∃ a0 a1 a2 a3 a4 a5 a6 a7 a8 a9 a10 a11 a12 a13, p = (a0, a1, a2, a3, a4, a5, a6, a7, a8, a9, a10, a11, a12, a13) ∧ k a0 a1 a2 a3 a4 a5 a6 a7 a8 a9 a10 a11 a12 a13 = r := ⟨p.1, p.2.1, p.2.2.1, p.2.2.2.1, p.2.2.2.2.1, p.2.2.2.2.2.1, p.2.2.2.2.2.2.1, p.2.2.2.2.2.2.2.1, p.2.2.2.2.2.2.2.2.1, p.2.2.2.2.2.2.2.2.2.1, p.2.2.2.2.2.2.2.2.2.2.1, p.2.2.2.2.2.2.2.2.2.2.2.1, p.2.2.2.2.2.2.2.2.2.2.2.2.1, p.2.2.2.2.2.2.2.2.2.2.2.2.2, rfl, h⟩
def zb15 {α0 α1 α2 α3 α4 α5 α6 α7 α8 α9 α10 α11 α12 α13 α14 β : Type} (o : Option (α0 × α1 × α2 × α3 × α4 × α5 × α6 × α7 × α8 × α9 × α10 × α11 × α12 × α13 × α14)) (k : α0 → α1 → α2 → α3 → α4 → α5 → α6 → α7 → α8 → α9 → α10 → α11 → α12 → α13 → α14 → Option β) : Option β := match o with | none => none | some p => k p.1 p.2.1 p.2.2.1 p.2.2.2.1 p.2.2.2.2.1 p.2.2.2.2.2.1 p.2.2.2.2.2.2.1 p.2.2.2.2.2.2.2.1 p.2.2.2.2.2.2.2.2.1 p.2.2.2.2.2.2.2.2.2.1 p.2.2.2.2.2.2.2.2.2.2.1 p.2.2.2.2.2.2.2.2.2.2.2.1 p.2.2.2.2.2.2.2.2.2.2.2.2.1 p.2.2.2.2.2.2.2.2.2.2.2.2.2.1 p.2.2.2.2.2.2.2.2.2.2.2.2.2.2
theorem zb15_elim {α0 α1 α2 α3 α4 α5 α6 α7 α8 α9 α10 α11 α12 α13 α14 β : Type} {o : Option (α0 × α1 × α2 × α3 × α4 × α5 × α6 × α7 × α8 × α9 × α10 × α11 × α12 × α13 × α14)} {k : α0 → α1 → α2 → α3 → α4 → α5 → α6 → α7 → α8 → α9 → α10 → α11 → α12 → α13 → α14 → Option β} {r : β} (h : zb15 o k = some r) : ∃ a0 a1 a2 a3 a4 a5 a6 a7 a8 a9 a10 a11 a12 a13 a14, o = some (a0, a1, a2, a3, a4, a5, a6, a7, a8, a9, a10, a11, a12, a13, a14) ∧ k a0 a1 a2 a3 a4 a5 a6 a7 a8 a9 a10 a11 a12 a13 a14 = some r := by
  cases o with
  | none => cases h
  | some p => exact ⟨p.1, p.2.1, p.2.2.1, p.2.2.2.1, p.2.2.2.2.1, p.2.2.2.2.2.1, p.2.2.2.2.2.2.1, p.2.2.2.2.2.2.2.1, p.2.2.2.2.2.2.2.2.1, p.2.2.2.2.2.2.2.2.2.1, p.2.2.2.2.2.2.2.2.2.2.1, p.2.2.2.2.2.2.2.2.2.2.2.1, p.2.2.2.2.2.2.2.2.2.2.2.2.1, p.2.2.2.2.2.2.2.2.2.2.2.2.2.1, p.2.2.2.2.2.2.2.2.2.2.2.2.2.2, rfl, h⟩
def zl15 {α0 α1 α2 α3 α4 α5 α6 α7 α8 α9 α10 α11 α12 α13 α14 β : Type} (p : α0 × α1 × α2 × α3 × α4 × α5 × α6 × α7 × α8 × α9 × α10 × α11 × α12 × α13 × α14) (k : α0 → α1 → α2 → α3 → α4 → α5 → α6 → α7 → α8 → α9 → α10 → α11 → α12 → α13 → α14 → β) : β := k p.1 p.2.1 p.2.2.1 p.2.2.2.1 p.2.2.2.2.1 p.2.2.2.2.2.1 p.2.2.2.2.2.2.1 p.2.2.2.2.2.2.2.1 p.2.2.2.2.2.2.2.2.1 p.2.2.2.2.2.2.2.2.2.1 p.2.2.2.2.2.2.2.2.2.2.1 p.2.2.2.2.2.2.2.2.2.2.2.1 p.2.2.2.2.2.2.2.2.2.2.2.2.1 p.2.2.2.2.2.2.2.2.2.2.2.2.2.1 p.2.2.2.2.2.2.2.2.2.2.2.2.2.2
theorem zl15_elim {α0 α1 α2 α3 α4 α5 α6 α7 α8 α9 α10 α11 α12 α13 α14 β : Type} {p : α0 × α1 × α2 × α3 × α4 × α5 × α6 × α7 × α8 × α9 × α10 × α11 × α12 × α13 × α14} {k : α0 → α1 → α2 → α3 → α4 → α5 → α6 → α7 → α8 → α9 → α10 → α11 → α12 → α13 → α14 → β} {r : β} (h : zl15 p k = r) : ∃ a0 a1 a2 a3 a4 a5 a6 a7 a8 a9 a10 a11 a12 a13 a14, p = (a0, a1, a2, a3, a4, a5, a6, a7, a8, a9, a10, a11, a12, a13, a14) ∧ k a0 a1 a2 a3 a4 a5 a6 a7 a8 a9 a10 a11 a12 a13 a14 = r := ⟨p.1, p.2.1, p.2.2.1, p.2.2.2.1, p.2.2.2.2.1, p.2.2.2.2.2.1, p.2.2.2.2.2.2.1, p.2.2.2.2.2.2.2.1, p.2.2.2.2.2.2.2.2.1, p.2.2.2.2.2.2.2.2.2.1, p.2.2.2.2.2.2.2.2.2.2.1, p.2.2.2.2.2.2.2.2.2.2.2.1, p.2.2.2.2.2.2.2.2.2.2.2.2.1, p.2.2.2.2.2.2.2.2.2.2.2.2.2.1, p.2.2.2.2.2.2.2.2.2.2.2.2.2.2, rfl, h⟩
def zb16 {α0 α1 α2 α3 α4 α5 α6 α7 α8 α9 α10 α11 α12 α13 α14 α15 β : Type} (o : Option (α0 × α1 × α2 × α3 × α4 × α5 × α6 × α7 × α8 × α9 × α10 × α11 × α12 × α13 × α14 × α15)) (k : α0 → α1 → α2 → α3 → α4 → α5 → α6 → α7 → α8 → α9 → α10 → α11 → α12 → α13 → α14 → α15 → Option β) : Option β := match o with | none => none | some p => k p.1 p.2.1 p.2.2.1 p.2.2.2.1 p.2.2.2.2.1 p.2.2.2.2.2.1 p.2.2.2.2.2.2.1 p.2.2.2.2.2.2.2.1 p.2.2.2.2.2.2.2.2.1 p.2.2.2.2.2.2.2.2.2.1 p.2.2.2.2.2.2.2.2.2.2.1 p.2.2.2.2.2.2.2.2.2.2.2.1 p.2.2.2.2.2.2.2.2.2.2.2.2.1 p.2.2.2.2.2.2.2.2.2.2.2.2.2.1 p.2.2.2.2.2.2.2.2.2.2.2.2.2.2.1 p.2.2.2.2.2.2.2.2.2.2.2.2.2.2.2
theorem zb16_elim {α0 α1 α2 α3 α4 α5 α6 α7 α8 α9 α10 α11 α12 α13 α14 α15 β : Type} {o : Option (α0 × α1 × α2 × α3 × α4 × α5 × α6 × α7 × α8 × α9 × α10 × α11 × α12 × α13 × α14 × α15)} {k : α0 → α1 → α2 → α3 → α4 → α5 → α6 → α7 → α8 → α9 → α10 → α11 → α12 → α13 → α14 → α15 → Option β} {r : β} (h : zb16 o k = some r) : ∃ a0 a1 a2 a3 a4 a5 a6 a7 a8 a9 a10 a11 a12 a13 a14 a15, o = some (a0, a1, a2, a3, a4, a5, a6, a7, a8, a9, a10, a11, a12, a13, a14, a15) ∧ k a0 a1 a2 a3 a4 a5 a6 a7 a8 a9 a10 a11 a12 a13 a14 a15 = some r := by
  cases o with
  | none => cases h
  | some p => exact ⟨p.1, p.2.1, p.2.2.1, p.2.2.2.1, p.2.2.2.2.1, p.2.2.2.2.2.1, p.2.2.2.2.2.2.1, p.2.2.2.2.2.2.2.1, p.2.2.2.2.2.2.2.2.1, p.2.2.2.2.2.2.2.2.2.1, p.2.2.2.2.2.2.2.2.2.2.1, p.2.2.2.2.2.2.2.2.2.2.2.1, p.2.2.2.2.2.2.2.2.2.2.2.2.1, p.2.2.2.2.2.2.2.2.2.2.2.2.2.1, p.2.2.2.2.2.2.2.2.2.2.2.2.2.2.1, p.2.2.2.2.2.2.2.2.2.2.2.2.2.2.2, rfl, h⟩
def zl16 {α0 α1 α2 α3 α4 α5 α6 α7 α8 α9 α10 α11 α12 α13 α14 α15 β : Type} (p : α0 × α1 × α2 × α3 × α4 × α5 × α6 × α7 × α8 × α9 × α10 × α11 × α12 × α13 × α14 × α15) (k : α0 → α1 → α2 → α3 → α4 → α5 → α6 → α7 → α8 → α9 → α10 → α11 → α12 → α13 → α14 → α15 → β) : β := k p.1 p.2.1 p.2.2.1 p.2.2.2.1 p.2.2.2.2.1 p.2.2.2.2.2.1 p.2.2.2.2.2.2.1 p.2.2.2.2.2.2.2.1 p.2.2.2.2.2.2.2.2.1 p.2.2.2.2.2.2.2.2.2.1 p.2.2.2.2.2.2.2.2.2.2.1 p.2.2.2.2.2.2.2.2.2.2.2.1 p.2.2.2.2.2.2.2.2.2.2.2.2.1 p.2.2.2.2.2.2.2.2.2.2.2.2.2.1 p.2.2.2.2.2.2.2.2.2.2.2.2.2.2.1 p.2.2.2.2.2.2.2.2.2.2.2.2.2.2.2
theorem zl16_elim {α0 α1 α2 α3 α4 α5 α6 α7 α8 α9 α10 α11 α12 α13 α14 α15 β : Type} {p : α0 × α1 × α2 × α3 × α4 × α5 × α6 × α7 × α8 × α9 × α10 × α11 × α12 × α13 × α14 × α15} {k : α0 → α1 → α2 → α3 → α4 → α5 → α6 → α7 → α8 → α9 → α10 → α11 → α12 → α13 → α14 → α15 → β} {r : β} (h : zl16 p k = r) : ∃ a0 a1 a2 a3 a4 a5 a6 a7 a8 a9 a10 a11 a12 a13 a14 a15, p = (a0, a1, a2, a3, a4, a5, a6, a7, a8, a9, a10, a11, a12, a13, a14, a15) ∧ k a0 a1 a2 a3 a4 a5 a6 a7 a8 a9 a10 a11 a12 a13 a14 a15 = r := ⟨p.1, p.2.1, p.2.2.1, p.2.2.2.1, p.2.2.2.2.1, p.2.2.2.2.2.1, p.2.2.2.2.2.2.1, p.2.2.2.2.2.2.2.1, p.2.2.2.2.2.2.2.2.1, p.2.2.2.2.2.2.2.2.2.1, p.2.2.2.2.2.2.2.2.2.2.1, p.2.2.2.2.2.2.2.2.2.2.2.1, p.2.2.2.2.2.2.2.2.2.2.2.2.1, p.2.2.2.2.2.2.2.2.2.2.2.2.2.1, p.2.2.2.2.2.2.2.2.2.2.2.2.2.2.1, p.2.2.2.2.2.2.2.2.2.2.2.2.2.2.2, rfl, h⟩
def zb17 {α0 α1 α2 α3 α4 α5 α6 α7 α8 α9 α10 α11 α12 α13 α14 α15 α16 β : Type} (o : Option (α0 × α1 × α2 × α3 × α4 × α5 × α6 × α7 × α8 × α9 × α10 × α11 × α12 × α13 × α14 × α15 × α16)) (k : α0 → α1 → α2 → α3 → α4 → α5 → α6 → α7 → α8 → α9 → α10 → α11 → α12 → α13 → α14 → α15 → α16 → Option β) : Option β := match o with | none => none | some p => k p.1 p.2.1 p.2.2.1 p.2.2.2.1 p.2.2.2.2.1 p.2.2.2.2.2.1 p.2.2.2.2.2.2.1 p.2.2.2.2.2.2.2.1 p.2.2.2.2.2.2.2.2.1 p.2.2.2.2.2.2.2.2.2.1 p.2.2.2.2.2.2.2.2.2.2.1 p.2.2.2.2.2.2.2.2.2.2.2.1 p.2.2.2.2.2.2.2.2.2.2.2.2.1 p.2.2.2.2.2.2.2.2.2.2.2.2.2.1 p.2.2.2.2.2.2.2.2.2.2.2.2.2.2.1 p.2.2.2.2.2.2.2.2.2.2.2.2.2.2.2.1 p.2.2.2.2.2.2.2.2.2.2.2.2.2.2.2.2
theorem zb17_elim {α0 α1 α2 α3 α4 α5 α6 α7 α8 α9 α10 α11 α12 α13 α14 α15 α16 β : Type} {o : Option (α0 × α1 × α2 × α3 × α4 × α5 × α6 × α7 × α8 × α9 × α10 × α11 × α12 × α13 × α14 × α15 × α16)} {k : α0 → α1 → α2 → α3 → α4 → α5 → α6 → α7 → α8 → α9 → α10 → α11 → α12 → α13 → α14 → α15 → α16 → Option β} {r : β} (h : zb17 o k = some r) : ∃ a0 a1 a2 a3 a4 a5 a6 a7 a8 a9 a10 a11 a12 a13 a14 a15 a16, o = some (a0, a1, a2, a3, a4, a5, a6, a7, a8, a9, a10, a11, a12, a13, a14, a15, a16) ∧ k a0 a1 a2 a3 a4 a5 a6 a7 a8 a9 a10 a11 a12 a13 a14 a15 a16 = some r := by
  cases o with
  | none => cases h
  | some p => exact ⟨p.1, p.2.1, p.2.2.1, p.2.2.2.1, p.2.2.2.2.1, p.2.2.2.2.2.1, p.2.2.2.2.2.2.1, p.2.2.2.2.2.2.2.1, p.2.2.2.2.2.2.2.2.1, p.2.2.2.2.2.2.2.2.2.1, p.2.2.2.2.2.2.2.2.2.2.1, p.2.2.2.2.2.2.2.2.2.2.2.1, p.2.2.2.2.2.2.2.2.2.2.2.2.1, p.2.2.2.2.2.2.2.2.2.2.2.2.2.1, p.2.2.2.2.2.2.2.2.2.2.2.2.2.2.1, p.2.2.2.2.2.2.2.2.2.2.2.2.2.2.2.1, p.2.2.2.2.2.2.2.2.2.2.2.2.2.2.2.2, rfl, h⟩
def zl17 {α0 α1 α2 α3 α4 α5 α6 α7 α8 α9 α10 α11 α12 α13 α14 α15 α16 β : Type} (p : α0 × α1 × α2 × α3 × α4 × α5 × α6 × α7 × α8 × α9 × α10 × α11 × α12 × α13 × α14 × α15 × α16) (k : α0 → α1 → α2 → α3 → α4 → α5 → α6 → α7 → α8 → α9 → α10 → α11 → α12 → α13 → α14 → α15 → α16 → β) : β := k p.1 p.2.1 p.2.2.1 p.2.2.2.1 p.2.2.2.2.1 p.2.2.2.2.2.1 p.2.2.2.2.2.2.1 p.2.2.2.2.2.2.2.1 p.2.2.2.2.2.2.2.2.1 p.2.2.2.2.2.2.2.2.2.1 p.2.2.2.2.2.2.2.2.2.2.1 p.2.2.2.2.2.2.2.2.2.2.2.1 p.2.2.2.2.2.2.2.2.2.2.2.2.1 p.2.2.2.2.2.2.2.2.2.2.2.2.2.1 p.2.2.2.2.2.2.2.2.2.2.2.2.2.2.1 p.2.2.2.2.2.2.2.2.2.2.2.2.2.2.2.1 p.2.2.2.2.2.2.2.2.2.2.2.2.2.2.2.2
theorem zl17_elim {α0 α1 α2 α3 α4 α5 α6 α7 α8 α9 α10 α11 α12 α13 α14 α15 α16 β : Type} {p : α0 × α1 × α2 × α3 × α4 × α5 × α6 × α7 × α8 × α9 × α10 × α11 × α12 × α13 × α14 × α15 × α16} {k : α0 → α1 → α2 → α3 → α4 → α5 → α6 → α7 → α8 → α9 → α10 → α11 → α12 → α13 → α14 → α15 → α16 → β} {r : β} (h : zl17 p k = r) : ∃ a0 a1 a2 a3 a4 a5 a6 a7 a8 a9 a10 a11 a12 a13 a14 a15 a16, p = (a0, a1, a2, a3, a4, a5, a6, a7, a8, a9, a10, a11, a12, a13, a14, a15, a16) ∧ k a0 a1 a2 a3 a4 a5 a6 a7 a8 a9 a10 a11 a12 a13 a14 a15 a16 = r := ⟨p.1, p.2.1, p.2.2.1, p.2.2.2.1, p.2.2.2.2.1, p.2.2.2.2.2.1, p.2.2.2.2.2.2.1, p.2.2.2.2.2.2.2.1, p.2.2.2.2.2.2.2.2.1, p.2.2.2.2.2.2.2.2.2.1, p.2.2.2.2.2.2.2.2.2.2.1, p.2.2.2.2.2.2.2.2.2.2.2.1, p.2.2.2.2.2.2.2.2.2.2.2.2.1, p.2.2.2.2.2.2.2.2.2.2.2.2.2.1, p.2.2.2.2.2.2.2.2.2.2.2.2.2.2.1, p.2.2.2.2.2.2.2.2.2.2.2.2.2.2.2.1, p.2.2.2.2.2.2.2.2.2.2.2.2.2.2.2.2, rfl, h⟩
def zb18 {α0 α1 α2 α3 α4 α5 α6 α7 α8 α9 α10 α11 α12 α13 α14 α15 α16 α17 β : Type} (o : Option (α0 × α1 × α2 × α3 × α4 × α5 × α6 × α7 × α8 × α9 × α10 × α11 × α12 × α13 × α14 × α15 × α16 × α17)) (k : α0 → α1 → α2 → α3 → α4 → α5 → α6 → α7 → α8 → α9 → α10 → α11 → α12 → α13 → α14 → α15 → α16 → α17 → Option β) : Option β := match o with | none => none | some p => k p.1 p.2.1 p.2.2.1 p.2.2.2.1 p.2.2.2.2.1 p.2.2.2.2.2.1 p.2.2.2.2.2.2.1 p.2.2.2.2.2.2.2.1 p.2.2.2.2.2.2.2.2.1 p.2.2.2.2.2.2.2.2.2.1 p.2.2.2.2.2.2.2.2.2.2.1 p.2.2.2.2.2.2.2.2.2.2.2.1 p.2.2.2.2.2.2.2.2.2.2.2.2.1 p.2.2.2.2.2.2.2.2.2.2.2.2.2.1 p.2.2.2.2.2.2.2.2.2.2.2.2.2.2.1 p.2.2.2.2.2.2.2.2.2.2.2.2.2.2.2.1 p.2.2.2.2.2.2.2.2.2.2.2.2.2.2.2.2.1 p.2.2.2.2.2.2.2.2.2.2.2.2.2.2.2.2.2
theorem zb18_elim {α0 α1 α2 α3 α4 α5 α6 α7 α8 α9 α10 α11 α12 α13 α14 α15 α16 α17 β : Type} {o : Option (α0 × α1 × α2 × α3 × α4 × α5 × α6 × α7 × α8 × α9 × α10 × α11 × α12 × α13 × α14 × α15 × α16 × α17)} {k : α0 → α1 → α2 → α3 → α4 → α5 → α6 → α7 → α8 → α9 → α10 → α11 → α12 → α13 → α14 → α15 → α16 → α17 → Option β} {r : β} (h : zb18 o k = some r) : ∃ a0 a1 a2 a3 a4 a5 a6 a7 a8 a9 a10 a11 a12 a13 a14 a15 a16 a17, o = some (a0, a1, a2, a3, a4, a5, a6, a7, a8, a9, a10, a11, a12, a13, a14, a15, a16, a17) ∧ k a0 a1 a2 a3 a4 a5 a6 a7 a8 a9 a10 a11 a12 a13 a14 a15 a16 a17 = some r := by
  cases o with
  | none => cases h
  | some p => exact ⟨p.1, p.2.1, p.2.2.1, p.2.2.2.1, p.2.2.2.2.1, p.2.2.2.2.2.1, p.2.2.2.2.2.2.1, p.2.2.2.2.2.2.2.1, p.2.2.2.2.2.2.2.2.1, p.2.2.2.2.2.2.2.2.2.1, p.2.2.2.2.2.2.2.2.2.2.1, p.2.2.2.2.2.2.2.2.2.2.2.1, p.2.2.2.2.2.2.2.2.2.2.2.2.1, p.2.2.2.2.2.2.2.2.2.2.2.2.2.1, p.2.2.2.2.2.2.2.2.2.2.2.2.2.2.1, p.2.2.2.2.2.2.2.2.2.2.2.2.2.2.2.1, p.2.2.2.2.2.2.2.2.2.2.2.2.2.2.2.2.1, p.2.2.2.2.2.2.2.2.2.2.2.2.2.2.2.2.2, rfl, h⟩
def zl18 {α0 α1 α2 α3 α4 α5 α6 α7 α8 α9 α10 α11 α12 α13 α14 α15 α16 α17 β : Type} (p : α0 × α1 × α2 × α3 × α4 × α5 × α6 × α7 × α8 × α9 × α10 × α11 × α12 × α13 × α14 × α15 × α16 × α17) (k : α0 → α1 → α2 → α3 → α4 → α5 → α6 → α7 → α8 → α9 → α10 → α11 → α12 → α13 → α14 → α15 → α16 → α17 → β) : β := k p.1 p.2.1 p.2.2.1 p.2.2.2.1 p.2.2.2.2.1 p.2.2.2.2.2.1 p.2.2.2.2.2.2.1 p.2.2.2.2.2.2.2.1 p.2.2.2.2.2.2.2.2.1 p.2.2.2.2.2.2.2.2.2.1 p.2.2.2.2.2.2.2.2.2.2.1 p.2.2.2.2.2.2.2.2.2.2.2.1 p.2.2.2.2.2.2.2.2.2.2.2.2.1 p.2.2.2.2.2.2.2.2.2.2.2.2.2.1 p.2.2.2.2.2.2.2.2.2.2.2.2.2.2.1 p.2.2.2.2.2.2.2.2.2.2.2.2.2.2.2.1 p.2.2.2.2.2.2.2.2.2.2.2.2.2.2.2.2.1 p.2.2.2.2.2.2.2.2.2.2.2.2.2.2.2.2.2
theorem zl18_elim {α0 α1 α2 α3 α4 α5 α6 α7 α8 α9 α10 α11 α12 α13 α14 α15 α16 α17 β : Type} {p : α0 × α1 × α2 × α3 × α4 × α5 × α6 × α7 × α8 × α9 × α10 × α11 × α12 × α13 × α14 × α15 × α16 × α17} {k : α0 → α1 → α2 → α3 → α4 → α5 → α6 → α7 → α8 → α9 → α10 → α11 → α12 → α13 → α14 → α15 → α16 → α17 → β} {r : β} (h : zl18 p k = r) : ∃ a0 a1 a2 a3 a4 a5 a6 a7 a8 a9 a10 a11 a12 a13 a14 a15 a16 a17, p = (a0, a1, a2, a3, a4, a5, a6, a7, a8, a9, a10, a11, a12, a13, a14, a15, a16, a17) ∧ k a0 a1 a2 a3 a4 a5 a6 a7 a8 a9 a10 a11 a12 a13 a14 a15 a16 a17 = r := ⟨p.1, p.2.1, p.2.2.1, p.2.2.2.1, p.2.2.2.2.1, p.2.2.2.2.2.1, p.2.2.2.2.2.2.1, p.2.2.2.2.2.2.2.1, p.2.2.2.2.2.2.2.2.1, p.2.2.2.2.2.2.2.2.2.1, p.2.2.2.2.2.2.2.2.2.2.1, p.2.2.2.2.2.2.2.2.2.2.2.1, p.2.2.2.2.2.2.2.2.2.2.2.2.1, p.2.2.2.2.2.2.2.2.2.2.2.2.2.1, p.2.2.2.2.2.2.2.2.2.2.2.2.2.2.1, p.2.2.2.2.2.2.2.2.2.2.2.2.2.2.2.1, p.2.2.2.2.2.2.2.2.2.2.2.2.2.2.2.2.1, p.2.2.2.2.2.2.2.2.2.2.2.2.2.2.2.2.2, rfl, h⟩
def zb19 {α0 α1 α2 α3 α4 α5 α6 α7 α8 α9 α10 α11 α12 α13 α14 α15 α16 α17 α18 β : Type} (o : Option (α0 × α1 × α2 × α3 × α4 × α5 × α6 × α7 × α8 × α9 × α10 × α11 × α12 × α13 × α14 × α15 × α16 × α17 × α18)) (k : α0 → α1 → α2 → α3 → α4 → α5 → α6 → α7 → α8 → α9 → α10 → α11 → α12 → α13 → α14 → α15 → α16 → α17 → α18 → Option β) : Option β := match o with | none => none | some p => k p.1 p.2.1 p.2.2.1 p.2.2.2.1 p.2.2.2.2.1 p.2.2.2.2.2.1 p.2.2.2.2.2.2.1 p.2.2.2.2.2.2.2.1 p.2.2.2.2.2.2.2.2.1 p.2.2.2.2.2.2.2.2.2.1 p.2.2.2.2.2.2.2.2.2.2.1 p.2.2.2.2.2.2.2.2.2.2.2.1 p.2.2.2.2.2.2.2.2.2.2.2.2.1 p.2.2.2.2.2.2.2.2.2.2.2.2.2.1 p.2.2.2.2.2.2.2.2.2.2.2.2.2.2.1 p.2.2.2.2.2.2.2.2.2.2.2.2.2.2.2.1 p.2.2.2.2.2.2.2.2.2.2.2.2.2.2.2.2.1 p.2.2.2.2.2.2.2.2.2.2.2.2.2.2.2.2.2.1 p.2.2.2.2.2.2.2.2.2.2.2.2.2.2.2.2.2.2
theorem zb19_elim {α0 α1 α2 α3 α4 α5 α6 α7 α8 α9 α10 α11 α12 α13 α14 α15 α16 α17 α18 β : Type} {o : Option (α0 × α1 × α2 × α3 × α4 × α5 × α6 × α7 × α8 × α9 × α10 × α11 × α12 × α13 × α14 × α15 × α16 × α17 × α18)} {k : α0 → α1 → α2 → α3 → α4 → α5 → α6 → α7 → α8 → α9 → α10 → α11 → α12 → α13 → α14 → α15 → α16 → α17 → α18 → Option β} {r : β} (h : zb19 o k = some r) : ∃ a0 a1 a2 a3 a4 a5 a6 a7 a8 a9 a10 a11 a12 a13 a14 a15 a16 a17 a18, o = some (a0, a1, a2, a3, a4, a5, a6, a7, a8, a9, a10, a11, a12, a13, a14, a15, a16, a17, a18) ∧ k a0 a1 a2 a3 a4 a5 a6 a7 a8 a9 a10 a11 a12 a13 a14 a15 a16 a17 a18 = some r := by
  cases o with
  | none => cases h
  | some p => exact ⟨p.1, p.2.1, p.2.2.1, p.2.2.2.1, p.2.2.2.2.1, p.2.2.2.2.2.1, p.2.2.2.2.2.2.1, p.2.2.2.2.2.2.2.1, p.2.2.2.2.2.2.2.2.1, p.2.2.2.2.2.2.2.2.2.1, p.2.2.2.2.2.2.2.2.2.2.1, p.2.2.2.2.2.2.2.2.2.2.2.1, p.2.2.2.2.2.2.2.2.2.2.2.2.1, p.2.2.2.2.2.2.2.2.2.2.2.2.2.1, p.2.2.2.2.2.2.2.2.2.2.2.2.2.2.1, p.2.2.2.2.2.2.2.2.2.2.2.2.2.2.2.1, p.2.2.2.2.2.2.2.2.2.2.2.2.2.2.2.2.1, p.2.2.2.2.2.2.2.2.2.2.2.2.2.2.2.2.2.1, p.2.2.2.2.2.2.2.2.2.2.2.2.2.2.2.2.2.2, rfl, h⟩
def zl19 {α0 α1 α2 α3 α4 α5 α6 α7 α8 α9 α10 α11 α12 α13 α14 α15 α16 α17 α18 β : Type} (p : α0 × α1 × α2 × α3 × α4 × α5 × α6 × α7 × α8 × α9 × α10 × α11 × α12 × α13 × α14 × α15 × α16 × α17 × α18) (k : α0 → α1 → α2 → α3 → α4 → α5 → α6 → α7 → α8 → α9 → α10 → α11 → α12 → α13 → α14 → α15 → α16 → α17 → α18 → β) : β := k p.1 p.2.1 p.2.2.1 p.2.2.2.1 p.2.2.2.2.1 p.2.2.2.2.2.1 p.2.2.2.2.2.2.1 p.2.2.2.2.2.2.2.1 p.2.2.2.2.2.2.2.2.1 p.2.2.2.2.2.2.2.2.2.1 p.2.2.2.2.2.2.2.2.2.2.1 p.2.2.2.2.2.2.2.2.2.2.2.1 p.2.2.2.2.2.2.2.2.2.2.2.2.1 p.2.2.2.2.2.2.2.2.2.2.2.2.2.1 p.2.2.2.2.2.2.2.2.2.2.2.2.2.2.1 p.2.2.2.2.2.2.2.2.2.2.2.2.2.2.2.1 p.2.2.2.2.2.2.2.2.2.2.2.2.2.2.2.2.1 p.2.2.2.2.2.2.2.2.2.2.2.2.2.2.2.2.2.1 p.2.2.2.2.2.2.2.2.2.2.2.2.2.2.2.2.2.2
theorem zl19_elim {α0 α1 α2 α3 α4 α5 α6 α7 α8 α9 α10 α11 α12 α13 α14 α15 α16 α17 α18 β : Type} {p : α0 × α1 × α2 × α3 × α4 × α5 × α6 × α7 × α8 × α9 × α10 × α11 × α12 × α13 × α14 × α15 × α16 × α17 × α18} {k : α0 → α1 → α2 → α3 → α4 → α5 → α6 → α7 → α8 → α9 → α10 → α11 → α12 → α13 → α14 → α15 → α16 → α17 → α18 → β} {r : β} (h : zl19 p k = r) : ∃ a0 a1 a2 a3 a4 a5 a6 a7 a8 a9 a10 a11 a12 a13 a14 a15 a16 a17 a18, p = (a0, a1, a2, a3, a4, a5, a6, a7, a8, a9, a10, a11, a12, a13, a14, a15, a16, a17, a18) ∧ k a0 a1 a2 a3 a4 a5 a6 a7 a8 a9 a10 a11 a12 a13 a14 a15 a16 a17 a18 = r := ⟨p.1, p.2.1, p.2.2.1, p.2.2.2.1, p.2.2.2.2.1, p.2.2.2.2.2.1, p.2.2.2.2.2.2.1, p.2.2.2.2.2.2.2.1, p.2.2.2.2.2.2.2.2.1, p.2.2.2.2.2.2.2.2.2.1, p.2.2.2.2.2.2.2.2.2.2.1, p.2.2.2.2.2.2.2.2.2.2.2.1, p.2.2.2.2.2.2.2.2.2.2.2.2.1, p.2.2.2.2.2.2.2.2.2.2.2.2.2.1, p.2.2.2.2.2.2.2.2.2.2.2.2.2.2.1, p.2.2.2.2.2.2.2.2.2.2.2.2.2.2.2.1, p.2.2.2.2.2.2.2.2.2.2.2.2.2.2.2.2.1, p.2.2.2.2.2.2.2.2.2.2.2.2.2.2.2.2.2.1, p.2.2.2.2.2.2.2.2.2.2.2.2.2.2.2.2.2.2, rfl, h⟩
def zb20 {α0 α1 α2 α3 α4 α5 α6 α7 α8 α9 α10 α11 α12 α13 α14 α15 α16 α17 α18 α19 β : Type} (o : Option (α0 × α1 × α2 × α3 × α4 × α5 × α6 × α7 × α8 × α9 × α10 × α11 × α12 × α13 × α14 × α15 × α16 × α17 × α18 × α19)) (k : α0 → α1 → α2 → α3 → α4 → α5 → α6 → α7 → α8 → α9 → α10 → α11 → α12 → α13 → α14 → α15 → α16 → α17 → α18 → α19 → Option β) : Option β := match o with | none => none | some p => k p.1 p.2.1 p.2.2.1 p.2.2.2.1 p.2.2.2.2.1 p.2.2.2.2.2.1 p.2.2.2.2.2.2.1 p.2.2.2.2.2.2.2.1 p.2.2.2.2.2.2.2.2.1 p.2.2.2.2.2.2.2.2.2.1 p.2.2.2.2.2.2.2.2.2.2.1 p.2.2.2.2.2.2.2.2.2.2.2.1 p.2.2.2.2.2.2.2.2.2.2.2.2.1 p.2.2.2.2.2.2.2.2.2.2.2.2.2.1 p.2.2.2.2.2.2.2.2.2.2.2.2.2.2.1 p.2.2.2.2.2.2.2.2.2.2.2.2.2.2.2.1 p.2.2.2.2.2.2.2.2.2.2.2.2.2.2.2.2.1 p.2.2.2.2.2.2.2.2.2.2.2.2.2.2.2.2.2.1 p.2.2.2.2.2.2.2.2.2.2.2.2.2.2.2.2.2.2.1 p.2.2.2.2.2.2.2.2.2.2.2.2.2.2.2.2.2.2.2
theorem zb20_elim {α0 α1 α2 α3 α4 α5 α6 α7 α8 α9 α10 α11 α12 α13 α14 α15 α16 α17 α18 α19 β : Type} {o : Option (α0 × α1 × α2 × α3 × α4 × α5 × α6 × α7 × α8 × α9 × α10 × α11 × α12 × α13 × α14 × α15 × α16 × α17 × α18 × α19)} {k : α0 → α1 → α2 → α3 → α4 → α5 → α6 → α7 → α8 → α9 → α10 → α11 → α12 → α13 → α14 → α15 → α16 → α17 → α18 → α19 → Option β} {r : β} (h : zb20 o k = some r) : ∃ a0 a1 a2 a3 a4 a5 a6 a7 a8 a9 a10 a11 a12 a13 a14 a15 a16 a17 a18 a19, o = some (a0, a1, a2, a3, a4, a5, a6, a7, a8, a9, a10, a11, a12, a13, a14, a15, a16, a17, a18, a19) ∧ k a0 a1 a2 a3 a4 a5 a6 a7 a8 a9 a10 a11 a12 a13 a14 a15 a16 a17 a18 a19 = some r := by
  cases o with
  | none => cases h
  | some p => exact ⟨p.1, p.2.1, p.2.2.1, p.2.2.2.1, p.2.2.2.2.1, p.2.2.2.2.2.1, p.2.2.2.2.2.2.1, p.2.2.2.2.2.2.2.1, p.2.2.2.2.2.2.2.2.1, p.2.2.2.2.2.2.2.2.2.1, p.2.2.2.2.2.2.2.2.2.2.1, p.2.2.2.2.2.2.2.2.2.2.2.1, p.2.2.2.2.2.2.2.2.2.2.2.2.1, p.2.2.2.2.2.2.2.2.2.2.2.2.2.1, p.2.2.2.2.2.2.2.2.2.2.2.2.2.2.1, p.2.2.2.2.2.2.2.2.2.2.2.2.2.2.2.1, p.2.2.2.2.2.2.2.2.2.2.2.2.2.2.2.2.1, p.2.2.2.2.2.2.2.2.2.2.2.2.2.2.2.2.2.1, p.2.2.2.2.2.2.2.2.2.2.2.2.2.2.2.2.2.2.1, p.2.2.2.2.2.2.2.2.2.2.2.2.2.2.2.2.2.2.2, rfl, h⟩
def zl20 {α0 α1 α2 α3 α4 α5 α6 α7 α8 α9 α10 α11 α12 α13 α14 α15 α16 α17 α18 α19 β : Type} (p : α0 × α1 × α2 × α3 × α4 × α5 × α6 × α7 × α8 × α9 × α10 × α11 × α12 × α13 × α14 × α15 × α16 × α17 × α18 × α19) (k : α0 → α1 → α2 → α3 → α4 → α5 → α6 → α7 → α8 → α9 → α10 → α11 → α12 → α13 → α14 → α15 → α16 → α17 → α18 → α19 → β) : β := k p.1 p.2.1 p.2.2.1 p.2.2.2.1 p.2.2.2.2.1 p.2.2.2.2.2.1 p.2.2.2.2.2.2.1 p.2.2.2.2.2.2.2.1 p.2.2.2.2.2.2.2.2.1 p.2.2.2.2.2.2.2.2.2.1 p.2.2.2.2.2.2.2.2.2.2.1 p.2.2.2.2.2.2.2.2.2.2.2.1 p.2.2.2.2.2.2.2.2.2.2.2.2.1 p.2.2.2.2.2.2.2.2.2.2.2.2.2.1 p.2.2.2.2.2.2.2.2.2.2.2.2.2.2.1 p.2.2.2.2.2.2.2.2.2.2.2.2.2.2.2.1 p.2.2.2.2.2.2.2.2.2.2.2.2.2.2.2.2.1 p.2.2.2.2.2.2.2.2.2.2.2.2.2.2.2.2.2.1 p.2.2.2.2.2.2.2.2.2.2.2.2.2.2.2.2.2.2.1 p.2.2.2.2.2.2.2.2.2.2.2.2.2.2.2.2.2.2.2
theorem zl20_elim {α0 α1 α2 α3 α4 α5 α6 α7 α8 α9 α10 α11 α12 α13 α14 α15 α16 α17 α18 α19 β : Type} {p : α0 × α1 × α2 × α3 × α4 × α5 × α6 × α7 × α8 × α9 × α10 × α11 × α12 × α13 × α14 × α15 × α16 × α17 × α18 × α19} {k : α0 → α1 → α2 → α3 → α4 → α5 → α6 → α7 → α8 → α9 → α10 → α11 → α12 → α13 → α14 → α15 → α16 → α17 → α18 → α19 → β} {r : β} (h : zl20 p k = r) : ∃ a0 a1 a2 a3 a4 a5 a6 a7 a8 a9 a10 a11 a12 a13 a14 a15 a16 a17 a18 a19, p = (a0, a1, a2, a3, a4, a5, a6, a7, a8, a9, a10, a11, a12, a13, a14, a15, a16, a17, a18, a19) ∧ k a0 a1 a2 a3 a4 a5 a6 a7 a8 a9 a10 a11 a12 a13 a14 a15 a16 a17 a18 a19 = r := ⟨p.1, p.2.1, p.2.2.1, p.2.2.2.1, p.2.2.2.2.1, p.2.2.2.2.2.1, p.2.2.2.2.2.2.1, p.2.2.2.2.2.2.2.1, p.2.2.2.2.2.2.2.2.1, p.2.2.2.2.2.2.2.2.2.1, p.2.2.2.2.2.2.2.2.2.2.1, p.2.2.2.2.2.2.2.2.2.2.2.1, p.2.2.2.2.2.2.2.2.2.2.2.2.1, p.2.2.2.2.2.2.2.2.2.2.2.2.2.1, p.2.2.2.2.2.2.2.2.2.2.2.2.2.2.1, p.2.2.2.2.2.2.2.2.2.2.2.2.2.2.2.1, p.2.2.2.2.2.2.2.2.2.2.2.2.2.2.2.2.1, p.2.2.2.2.2.2.2.2.2.2.2.2.2.2.2.2.2.1, p.2.2.2.2.2.2.2.2.2.2.2.2.2.2.2.2.2.2.1, p.2.2.2.2.2.2.2.2.2.2.2.2.2.2.2.2.2.2.2, rfl, h⟩
def zb21 {α0 α1 α2 α3 α4 α5 α6 α7 α8 α9 α10 α11 α12 α13 α14 α15 α16 α17 α18 α19 α20 β : Type} (o : Option (α0 × α1 × α2 × α3 × α4 × α5 × α6 × α7 × α8 × α9 × α10 × α11 × α12 × α13 × α14 × α15 × α16 × α17 × α18 × α19 × α20)) (k : α0 → α1 → α2 → α3 → α4 → α5 → α6 → α7 → α8 → α9 → α10 → α11 → α12 → α13 → α14 → α15 → α16 → α17 → α18 → α19 → α20 → Option β) : Option β := match o with | none => none | some p => k p.1 p.2.1 p.2.2.1 p.2.2.2.1 p.2.2.2.2.1 p.2.2.2.2.2.1 p.2.2.2.2.2.2.1 p.2.2.2.2.2.2.2.1 p.2.2.2.2.2.2.2.2.1 p.2.2.2.2.2.2.2.2.2.1 p.2.2.2.2.2.2.2.2.2.2.1 p.2.2.2.2.2.2.2.2.2.2.2.1 p.2.2.2.2.2.2.2.2.2.2.2.2.1 p.2.2.2.2.2.2.2.2.2.2.2.2.2.1 p.2.2.2.2.2.2.2.2.2.2.2.2.2.2.1 p.2.2.2.2.2.2.2.2.2.2.2.2.2.2.2.1 p.2.2.2.2.2.2.2.2.2.2.2.2.2.2.2.2.1 p.2.2.2.2.2.2.2.2.2.2.2.2.2.2.2.2.2.1 p.2.2.2.2.2.2.2.2.2.2.2.2.2.2.2.2.2.2.1 p.2.2.2.2.2.2.2.2.2.2.2.2.2.2.2.2.2.2.2.1 p.2.2.2.2.2.2.2.2.2.2.2.2.2.2.2.2.2.2.2.2
theorem zb21_elim {α0 α1 α2 α3 α4 α5 α6 α7 α8 α9 α10 α11 α12 α13 α14 α15 α16 α17 α18 α19 α20 β : Type} {o : Option (α0 × α1 × α2 × α3 × α4 × α5 × α6 × α7 × α8 × α9 × α10 × α11 × α12 × α13 × α14 × α15 × α16 × α17 × α18 × α19 × α20)} {k : α0 → α1 → α2 → α3 → α4 → α5 → α6 → α7 → α8 → α9 → α10 → α11 → α12 → α13 → α14 → α15 → α16 → α17 → α18 → α19 → α20 → Option β} {r : β} (h : zb21 o k = some r) : ∃ a0 a1 a2 a3 a4 a5 a6 a7 a8 a9 a10 a11 a12 a13 a14 a15 a16 a17 a18 a19 a20, o = some (a0, a1, a2, a3, a4, a5, a6, a7, a8, a9, a10, a11, a12, a13, a14, a15, a16, a17, a18, a19, a20) ∧ k a0 a1 a2 a3 a4 a5 a6 a7 a8 a9 a10 a11 a12 a13 a14 a15 a16 a17 a18 a19 a20 = some r := by
  cases o with
  | none => cases h
  | some p => exact ⟨p.1, p.2.1, p.2.2.1, p.2.2.2.1, p.2.2.2.2.1, p.2.2.2.2.2.1, p.2.2.2.2.2.2.1, p.2.2.2.2.2.2.2.1, p.2.2.2.2.2.2.2.2.1, p.2.2.2.2.2.2.2.2.2.1, p.2.2.2.2.2.2.2.2.2.2.1, p.2.2.2.2.2.2.2.2.2.2.2.1, p.2.2.2.2.2.2.2.2.2.2.2.2.1, p.2.2.2.2.2.2.2.2.2.2.2.2.2.1, p.2.2.2.2.2.2.2.2.2.2.2.2.2.2.1, p.2.2.2.2.2.2.2.2.2.2.2.2.2.2.2.1, p.2.2.2.2.2.2.2.2.2.2.2.2.2.2.2.2.1, p.2.2.2.2.2.2.2.2.2.2.2.2.2.2.2.2.2.1, p.2.2.2.2.2.2.2.2.2.2.2.2.2.2.2.2.2.2.1, p.2.2.2.2.2.2.2.2.2.2.2.2.2.2.2.2.2.2.2.1, p.2.2.2.2.2.2.2.2.2.2.2.2.2.2.2.2.2.2.2.2, rfl, h⟩
def zl21 {α0 α1 α2 α3 α4 α5 α6 α7 α8 α9 α10 α11 α12 α13 α14 α15 α16 α17 α18 α19 α20 β : Type} (p : α0 × α1 × α2 × α3 × α4 × α5 × α6 × α7 × α8 × α9 × α10 × α11 × α12 × α13 × α14 × α15 × α16 × α17 × α18 × α19 × α20) (k : α0 → α1 → α2 → α3 → α4 → α5 → α6 → α7 → α8 → α9 → α10 → α11 → α12 → α13 → α14 → α15 → α16 → α17 → α18 → α19 → α20 → β) : β := k p.1 p.2.1 p.2.2.1 p.2.2.2.1 p.2.2.2.2.1 p.2.2.2.2.2.1 p.2.2.2.2.2.2.1 p.2.2.2.2.2.2.2.1 p.2.2.2.2.2.2.2.2.1 p.2.2.2.2.2.2.2.2.2.1 p.2.2.2.2.2.2.2.2.2.2.1 p.2.2.2.2.2.2.2.2.2.2.2.1 p.2.2.2.2.2.2.2.2.2.2.2.2.1 p.2.2.2.2.2.2.2.2.2.2.2.2.2.1 p.2.2.2.2.2.2.2.2.2.2.2.2.2.2.1 p.2.2.2.2.2.2.2.2.2.2.2.2.2.2.2.1 p.2.2.2.2.2.2.2.2.2.2.2.2.2.2.2.2.1 p.2.2.2.2.2.2.2.2.2.2.2.2.2.2.2.2.2.1 p.2.2.2.2.2.2.2.2.2.2.2.2.2.2.2.2.2.2.1 p.2.2.2.2.2.2.2.2.2.2.2.2.2.2.2.2.2.2.2.1 p.2.2.2.2.2.2.2.2.2.2.2.2.2.2.2.2.2.2.2.2
theorem zl21_elim {α0 α1 α2 α3 α4 α5 α6 α7 α8 α9 α10 α11 α12 α13 α14 α15 α16 α17 α18 α19 α20 β : Type} {p : α0 × α1 × α2 × α3 × α4 × α5 × α6 × α7 × α8 × α9 × α10 × α11 × α12 × α13 × α14 × α15 × α16 × α17 × α18 × α19 × α20} {k : α0 → α1 → α2 → α3 → α4 → α5 → α6 → α7 → α8 → α9 → α10 → α11 → α12 → α13 → α14 → α15 → α16 → α17 → α18 → α19 → α20 → β} {r : β} (h : zl21 p k = r) : ∃ a0 a1 a2 a3 a4 a5 a6 a7 a8 a9 a10 a11 a12 a13 a14 a15 a16 a17 a18 a19 a20, p = (a0, a1, a2, a3, a4, a5, a6, a7, a8, a9, a10, a11, a12, a13, a14, a15, a16, a17, a18, a19, a20) ∧ k a0 a1 a2 a3 a4 a5 a6 a7 a8 a9 a10 a11 a12 a13 a14 a15 a16 a17 a18 a19 a20 = r := ⟨p.1, p.2.1, p.2.2.1, p.2.2.2.1, p.2.2.2.2.1, p.2.2.2.2.2.1, p.2.2.2.2.2.2.1, p.2.2.2.2.2.2.2.1, p.2.2.2.2.2.2.2.2.1, p.2.2.2.2.2.2.2.2.2.1, p.2.2.2.2.2.2.2.2.2.2.1, p.2.2.2.2.2.2.2.2.2.2.2.1, p.2.2.2.2.2.2.2.2.2.2.2.2.1, p.2.2.2.2.2.2.2.2.2.2.2.2.2.1, p.2.2.2.2.2.2.2.2.2.2.2.2.2.2.1, p.2.2.2.2.2.2.2.2.2.2.2.2.2.2.2.1, p.2.2.2.2.2.2.2.2.2.2.2.2.2.2.2.2.1, p.2.2.2.2.2.2.2.2.2.2.2.2.2.2.2.2.2.1, p.2.2.2.2.2.2.2.2.2.2.2.2.2.2.2.2.2.2.1, p.2.2.2.2.2.2.2.2.2.2.2.2.2.2.2.2.2.2.2.1, p.2.2.2.2.2.2.2.2.2.2.2.2.2.2.2.2.2.2.2.2, rfl, h⟩
def zb22 {α0 α1 α2 α3 α4 α5 α6 α7 α8 α9 α10 α11 α12 α13 α14 α15 α16 α17 α18 α19 α20 α21 β : Type} (o : Option (α0 × α1 × α2 × α3 × α4 × α5 × α6 × α7 × α8 × α9 × α10 × α11 × α12 × α13 × α14 × α15 × α16 × α17 × α18 × α19 × α20 × α21)) (k : α0 → α1 → α2 → α3 → α4 → α5 → α6 → α7 → α8 → α9 → α10 → α11 → α12 → α13 → α14 → α15 → α16 → α17 → α18 → α19 → α20 → α21 → Option β) : Option β := match o with | none => none | some p => k p.1 p.2.1 p.2.2.1 p.2.2.2.1 p.2.2.2.2.1 p.2.2.2.2.2.1 p.2.2.2.2.2.2.1 p.2.2.2.2.2.2.2.1 p.2.2.2.2.2.2.2.2.1 p.2.2.2.2.2.2.2.2.2.1 p.2.2.2.2.2.2.2.2.2.2.1 p.2.2.2.2.2.2.2.2.2.2.2.1 p.2.2.2.2.2.2.2.2.2.2.2.2.1 p.2.2.2.2.2.2.2.2.2.2.2.2.2.1 p.2.2.2.2.2.2.2.2.2.2.2.2.2.2.1 p.2.2.2.2.2.2.2.2.2.2.2.2.2.2.2.1 p.2.2.2.2.2.2.2.2.2.2.2.2.2.2.2.2.1 p.2.2.2.2.2.2.2.2.2.2.2.2.2.2.2.2.2.1 p.2.2.2.2.2.2.2.2.2.2.2.2.2.2.2.2.2.2.1 p.2.2.2.2.2.2.2.2.2.2.2.2.2.2.2.2.2.2.2.1 p.2.2.2.2.2.2.2.2.2.2.2.2.2.2.2.2.2.2.2.2.1 p.2.2.2.2.2.2.2.2.2.2.2.2.2.2.2.2.2.2.2.2.2
theorem zb22_elim {α0 α1 α2 α3 α4 α5 α6 α7 α8 α9 α10 α11 α12 α13 α14 α15 α16 α17 α18 α19 α20 α21 β : Type} {o : Option (α0 × α1 × α2 × α3 × α4 × α5 × α6 × α7 × α8 × α9 × α10 × α11 × α12 × α13 × α14 × α15 × α16 × α17 × α18 × α19 × α20 × α21)} {k : α0 → α1 → α2 → α3 → α4 → α5 → α6 → α7 → α8 → α9 → α10 → α11 → α12 → α13 → α14 → α15 → α16 → α17 → α18 → α19 → α20 → α21 → Option β} {r : β} (h : zb22 o k = some r) : ∃ a0 a1 a2 a3 a4 a5 a6 a7 a8 a9 a10 a11 a12 a13 a14 a15 a16 a17 a18 a19 a20 a21, o = some (a0, a1, a2, a3, a4, a5, a6, a7, a8, a9, a10, a11, a12, a13, a14, a15, a16, a17, a18, a19, a20, a21) ∧ k a0 a1 a2 a3 a4 a5 a6 a7 a8 a9 a10 a11 a12 a13 a14 a15 a16 a17 a18 a19 a20 a21 = some r := by
  cases o with
  | none => cases h
  | some p => exact ⟨p.1, p.2.1, p.2.2.1, p.2.2.2.1, p.2.2.2.2.1, p.2.2.2.2.2.1, p.2.2.2.2.2.2.1, p.2.2.2.2.2.2.2.1, p.2.2.2.2.2.2.2.2.1, p.2.2.2.2.2.2.2.2.2.1, p.2.2.2.2.2.2.2.2.2.2.1, p.2.2.2.2.2.2.2.2.2.2.2.1, p.2.2.2.2.2.2.2.2.2.2.2.2.1, p.2.2.2.2.2.2.2.2.2.2.2.2.2.1, p.2.2.2.2.2.2.2.2.2.2.2.2.2.2.1, p.2.2.2.2.2.2.2.2.2.2.2.2.2.2.2.1, p.2.2.2.2.2.2.2.2.2.2.2.2.2.2.2.2.1, p.2.2.2.2.2.2.2.2.2.2.2.2.2.2.2.2.2.1, p.2.2.2.2.2.2.2.2.2.2.2.2.2.2.2.2.2.2.1, p.2.2.2.2.2.2.2.2.2.2.2.2.2.2.2.2.2.2.2.1, p.2.2.2.2.2.2.2.2.2.2.2.2.2.2.2.2.2.2.2.2.1, p.2.2.2.2.2.2.2.2.2.2.2.2.2.2.2.2.2.2.2.2.2, rfl, h⟩
def zl22 {α0 α1 α2 α3 α4 α5 α6 α7 α8 α9 α10 α11 α12 α13 α14 α15 α16 α17 α18 α19 α20 α21 β : Type} (p : α0 × α1 × α2 × α3 × α4 × α5 × α6 × α7 × α8 × α9 × α10 × α11 × α12 × α13 × α14 × α15 × α16 × α17 × α18 × α19 × α20 × α21) (k : α0 → α1 → α2 → α3 → α4 → α5 → α6 → α7 → α8 → α9 → α10 → α11 → α12 → α13 → α14 → α15 → α16 → α17 → α18 → α19 → α20 → α21 → β) : β := k p.1 p.2.1 p.2.2.1 p.2.2.2.1 p.2.2.2.2.1 p.2.2.2.2.2.1 p.2.2.2.2.2.2.1 p.2.2.2.2.2.2.2.1 p.2.2.2.2.2.2.2.2.1 p.2.2.2.2.2.2.2.2.2.1 p.2.2.2.2.2.2.2.2.2.2.1 p.2.2.2.2.2.2.2.2.2.2.2.1 p.2.2.2.2.2.2.2.2.2.2.2.2.1 p.2.2.2.2.2.2.2.2.2.2.2.2.2.1 p.2.2.2.2.2.2.2.2.2.2.2.2.2.2.1 p.2.2.2.2.2.2.2.2.2.2.2.2.2.2.2.1 p.2.2.2.2.2.2.2.2.2.2.2.2.2.2.2.2.1 p.2.2.2.2.2.2.2.2.2.2.2.2.2.2.2.2.2.1 p.2.2.2.2.2.2.2.2.2.2.2.2.2.2.2.2.2.2.1 p.2.2.2.2.2.2.2.2.2.2.2.2.2.2.2.2.2.2.2.1 p.2.2.2.2.2.2.2.2.2.2.2.2.2.2.2.2.2.2.2.2.1 p.2.2.2.2.2.2.2.2.2.2.2.2.2.2.2.2.2.2.2.2.2
theorem zl22_elim {α0 α1 α2 α3 α4 α5 α6 α7 α8 α9 α10 α11 α12 α13 α14 α15 α16 α17 α18 α19 α20 α21 β : Type} {p : α0 × α1 × α2 × α3 × α4 × α5 × α6 × α7 × α8 × α9 × α10 × α11 × α12 × α13 × α14 × α15 × α16 × α17 × α18 × α19 × α20 × α21} {k : α0 → α1 → α2 → α3 → α4 → α5 → α6 → α7 → α8 → α9 → α10 → α11 → α12 → α13 → α14 → α15 → α16 → α17 → α18 → α19 → α20 → α21 → β} {r : β} (h : zl22 p k = r) : ∃ a0 a1 a2 a3 a4 a5 a6 a7 a8 a9 a10 a11 a12 a13 a14 a15 a16 a17 a18 a19 a20 a21, p = (a0, a1, a2, a3, a4, a5, a6, a7, a8, a9, a10, a11, a12, a13, a14, a15, a16, a17, a18, a19, a20, a21) ∧ k a0 a1 a2 a3 a4 a5 a6 a7 a8 a9 a10 a11 a12 a13 a14 a15 a16 a17 a18 a19 a20 a21 = r := ⟨p.1, p.2.1, p.2.2.1, p.2.2.2.1, p.2.2.2.2.1, p.2.2.2.2.2.1, p.2.2.2.2.2.2.1, p.2.2.2.2.2.2.2.1, p.2.2.2.2.2.2.2.2.1, p.2.2.2.2.2.2.2.2.2.1, p.2.2.2.2.2.2.2.2.2.2.1, p.2.2.2.2.2.2.2.2.2.2.2.1, p.2.2.2.2.2.2.2.2.2.2.2.2.1, p.2.2.2.2.2.2.2.2.2.2.2.2.2.1, p.2.2.2.2.2.2.2.2.2.2.2.2.2.2.1, p.2.2.2.2.2.2.2.2.2.2.2.2.2.2.2.1, p.2.2.2.2.2.2.2.2.2.2.2.2.2.2.2.2.1, p.2.2.2.2.2.2.2.2.2.2.2.2.2.2.2.2.2.1, p.2.2.2.2.2.2.2.2.2.2.2.2.2.2.2.2.2.2.1, p.2.2.2.2.2.2.2.2.2.2.2.2.2.2.2.2.2.2.2.1, p.2.2.2.2.2.2.2.2.2.2.2.2.2.2.2.2.2.2.2.2.1, p.2.2.2.2.2.2.2.2.2.2.2.2.2.2.2.2.2.2.2.2.2, rfl, h⟩
def zb23 {α0 α1 α2 α3 α4 α5 α6 α7 α8 α9 α10 α11 α12 α13 α14 α15 α16 α17 α18 α19 α20 α21 α22 β : Type} (o : Option (α0 × α1 × α2 × α3 × α4 × α5 × α6 × α7 × α8 × α9 × α10 × α11 × α12 × α13 × α14 × α15 × α16 × α17 × α18 × α19 × α20 × α21 × α22)) (k : α0 → α1 → α2 → α3 → α4 → α5 → α6 → α7 → α8 → α9 → α10 → α11 → α12 → α13 → α14 → α15 → α16 → α17 → α18 → α19 → α20 → α21 → α22 → Option β) : Option β := match o with | none => none | some p => k p.1 p.2.1 p.2.2.1 p.2.2.2.1 p.2.2.2.2.1 p.2.2.2.2.2.1 p.2.2.2.2.2.2.1 p.2.2.2.2.2.2.2.1 p.2.2.2.2.2.2.2.2.1 p.2.2.2.2.2.2.2.2.2.1 p.2.2.2.2.2.2.2.2.2.2.1 p.2.2.2.2.2.2.2.2.2.2.2.1 p.2.2.2.2.2.2.2.2.2.2.2.2.1 p.2.2.2.2.2.2.2.2.2.2.2.2.2.1 p.2.2.2.2.2.2.2.2.2.2.2.2.2.2.1 p.2.2.2.2.2.2.2.2.2.2.2.2.2.2.2.1 p.2.2.2.2.2.2.2.2.2.2.2.2.2.2.2.2.1 p.2.2.2.2.2.2.2.2.2.2.2.2.2.2.2.2.2.1 p.2.2.2.2.2.2.2.2.2.2.2.2.2.2.2.2.2.2.1 p.2.2.2.2.2.2.2.2.2.2.2.2.2.2.2.2.2.2.2.1 p.2.2.2.2.2.2.2.2.2.2.2.2.2.2.2.2.2.2.2.2.1 p.2.2.2.2.2.2.2.2.2.2.2.2.2.2.2.2.2.2.2.2.2.1 p.2.2.2.2.2.2.2.2.2.2.2.2.2.2.2.2.2.2.2.2.2.2
theorem zb23_elim {α0 α1 α2 α3 α4 α5 α6 α7 α8 α9 α10 α11 α12 α13 α14 α15 α16 α17 α18 α19 α20 α21 α22 β : Type} {o : Option (α0 × α1 × α2 × α3 × α4 × α5 × α6 × α7 × α8 × α9 × α10 × α11 × α12 × α13 × α14 × α15 × α16 × α17 × α18 × α19 × α20 × α21 × α22)} {k : α0 → α1 → α2 → α3 → α4 → α5 → α6 → α7 → α8 → α9 → α10 → α11 → α12 → α13 → α14 → α15 → α16 → α17 → α18 → α19 → α20 → α21 → α22 → Option β} {r : β} (h : zb23 o k = some r) : ∃ a0 a1 a2 a3 a4 a5 a6 a7 a8 a9 a10 a11 a12 a13 a14 a15 a16 a17 a18 a19 a20 a21 a22, o = some (a0, a1, a2, a3, a4, a5, a6, a7, a8, a9, a10, a11, a12, a13, a14, a15, a16, a17, a18, a19, a20, a21, a22) ∧ k a0 a1 a2 a3 a4 a5 a6 a7 a8 a9 a10 a11 a12 a13 a14 a15 a16 a17 a18 a19 a20 a21 a22 = some r := by
  cases o with
  | none => cases h
  | some p => exact ⟨p.1, p.2.1, p.2.2.1, p.2.2.2.1, p.2.2.2.2.1, p.2.2.2.2.2.1, p.2.2.2.2.2.2.1, p.2.2.2.2.2.2.2.1, p.2.2.2.2.2.2.2.2.1, p.2.2.2.2.2.2.2.2.2.1, p.2.2.2.2.2.2.2.2.2.2.1, p.2.2.2.2.2.2.2.2.2.2.2.1, p.2.2.2.2.2.2.2.2.2.2.2.2.1, p.2.2.2.2.2.2.2.2.2.2.2.2.2.1, p.2.2.2.2.2.2.2.2.2.2.2.2.2.2.1, p.2.2.2.2.2.2.2.2.2.2.2.2.2.2.2.1, p.2.2.2.2.2.2.2.2.2.2.2.2.2.2.2.2.1, p.2.2.2.2.2.2.2.2.2.2.2.2.2.2.2.2.2.1, p.2.2.2.2.2.2.2.2.2.2.2.2.2.2.2.2.2.2.1, p.2.2.2.2.2.2.2.2.2.2.2.2.2.2.2.2.2.2.2.1, p.2.2.2.2.2.2.2.2.2.2.2.2.2.2.2.2.2.2.2.2.1, p.2.2.2.2.2.2.2.2.2.2.2.2.2.2.2.2.2.2.2.2.2.1, p.2.2.2.2.2.2.2.2.2.2.2.2.2.2.2.2.2.2.2.2.2.2, rfl, h⟩
def zl23 {α0 α1 α2 α3 α4 α5 α6 α7 α8 α9 α10 α11 α12 α13 α14 α15 α16 α17 α18 α19 α20 α21 α22 β : Type} (p : α0 × α1 × α2 × α3 × α4 × α5 × α6 × α7 × α8 × α9 × α10 × α11 × α12 × α13 × α14 × α15 × α16 × α17 × α18 × α19 × α20 × α21 × α22) (k : α0 → α1 → α2 → α3 → α4 → α5 → α6 → α7 → α8 → α9 → α10 → α11 → α12 → α13 → α14 → α15 → α16 → α17 → α18 → α19 → α20 → α21 → α22 → β) : β := k p.1 p.2.1 p.2.2.1 p.2.2.2.1 p.2.2.2.2.1 p.2.2.2.2.2.1 p.2.2.2.2.2.2.1 p.2.2.2.2.2.2.2.1 p.2.2.2.2.2.2.2.2.1 p.2.2.2.2.2.2.2.2.2.1 p.2.2.2.2.2.2.2.2.2.2.1 p.2.2.2.2.2.2.2.2.2.2.2.1 p.2.2.2.2.2.2.2.2.2.2.2.2.1 p.2.2.2.2.2.2.2.2.2.2.2.2.2.1 p.2.2.2.2.2.2.2.2.2.2.2.2.2.2.1 p.2.2.2.2.2.2.2.2.2.2.2.2.2.2.2.1 p.2.2.2.2.2.2.2.2.2.2.2.2.2.2.2.2.1 p.2.2.2.2.2.2.2.2.2.2.2.2.2.2.2.2.2.1 p.2.2.2.2.2.2.2.2.2.2.2.2.2.2.2.2.2.2.1 p.2.2.2.2.2.2.2.2.2.2.2.2.2.2.2.2.2.2.2.1 p.2.2.2.2.2.2.2.2.2.2.2.2.2.2.2.2.2.2.2.2.1 p.2.2.2.2.2.2.2.2.2.2.2.2.2.2.2.2.2.2.2.2.2.1 p.2.2.2.2.2.2.2.2.2.2.2.2.2.2.2.2.2.2.2.2.2.2
theorem zl23_elim {α0 α1 α2 α3 α4 α5 α6 α7 α8 α9 α10 α11 α12 α13 α14 α15 α16 α17 α18 α19 α20 α21 α22 β : Type} {p : α0 × α1 × α2 × α3 × α4 × α5 × α6 × α7 × α8 × α9 × α10 × α11 × α12 × α13 × α14 × α15 × α16 × α17 × α18 × α19 × α20 × α21 × α22} {k : α0 → α1 → α2 → α3 → α4 → α5 → α6 → α7 → α8 → α9 → α10 → α11 → α12 → α13 → α14 → α15 → α16 → α17 → α18 → α19 → α20 → α21 → α22 → β} {r : β} (h : zl23 p k = r) : ∃ a0 a1 a2 a3 a4 a5 a6 a7 a8 a9 a10 a11 a12 a13 a14 a15 a16 a17 a18 a19 a20 a21 a22, p = (a0, a1, a2, a3, a4, a5, a6, a7, a8, a9, a10, a11, a12, a13, a14, a15, a16, a17, a18, a19, a20, a21, a22) ∧ k a0 a1 a2 a3 a4 a5 a6 a7 a8 a9 a10 a11 a12 a13 a14 a15 a16 a17 a18 a19 a20 a21 a22 = r := ⟨p.1, p.2.1, p.2.2.1, p.2.2.2.1, p.2.2.2.2.1, p.2.2.2.2.2.1, p.2.2.2.2.2.2.1, p.2.2.2.2.2.2.2.1, p.2.2.2.2.2.2.2.2.1, p.2.2.2.2.2.2.2.2.2.1, p.2.2.2.2.2.2.2.2.2.2.1, p.2.2.2.2.2.2.2.2.2.2.2.1, p.2.2.2.2.2.2.2.2.2.2.2.2.1, p.2.2.2.2.2.2.2.2.2.2.2.2.2.1, p.2.2.2.2.2.2.2.2.2.2.2.2.2.2.1, p.2.2.2.2.2.2.2.2.2.2.2.2.2.2.2.1, p.2.2.2.2.2.2.2.2.2.2.2.2.2.2.2.2.1, p.2.2.2.2.2.2.2.2.2.2.2.2.2.2.2.2.2.1, p.2.2.2.2.2.2.2.2.2.2.2.2.2.2.2.2.2.2.1, p.2.2.2.2.2.2.2.2.2.2.2.2.2.2.2.2.2.2.2.1, p.2.2.2.2.2.2.2.2.2.2.2.2.2.2.2.2.2.2.2.2.1, p.2.2.2.2.2.2.2.2.2.2.2.2.2.2.2.2.2.2.2.2.2.1, p.2.2.2.2.2.2.2.2.2.2.2.2.2.2.2.2.2.2.2.2.2.2, rfl, h⟩
def zb24 {α0 α1 α2 α3 α4 α5 α6 α7 α8 α9 α10 α11 α12 α13 α14 α15 α16 α17 α18 α19 α20 α21 α22 α23 β : Type} (o : Option (α0 × α1 × α2 × α3 × α4 × α5 × α6 × α7 × α8 × α9 × α10 × α11 × α12 × α13 × α14 × α15 × α16 × α17 × α18 × α19 × α20 × α21 × α22 × α23)) (k : α0 → α1 → α2 → α3 → α4 → α5 → α6 → α7 → α8 → α9 → α10 → α11 → α12 → α13 → α14 → α15 → α16 → α17 → α18 → α19 → α20 → α21 → α22 → α23 → Option β) : Option β := match o with | none => none | some p => k p.1 p.2.1 p.2.2.1 p.2.2.2.1 p.2.2.2.2.1 p.2.2.2.2.2.1 p.2.2.2.2.2.2.1 p.2.2.2.2.2.2.2.1 p.2.2.2.2.2.2.2.2.1 p.2.2.2.2.2.2.2.2.2.1 p.2.2.2.2.2.2.2.2.2.2.1 p.2.2.2.2.2.2.2.2.2.2.2.1 p.2.2.2.2.2.2.2.2.2.2.2.2.1 p.2.2.2.2.2.2.2.2.2.2.2.2.2.1 p.2.2.2.2.2.2.2.2.2.2.2.2.2.2.1 p.2.2.2.2.2.2.2.2.2.2.2.2.2.2.2.1 p.2.2.2.2.2.2.2.2.2.2.2.2.2.2.2.2.1 p.2.2.2.2.2.2.2.2.2.2.2.2.2.2.2.2.2.1 p.2.2.2.2.2.2.2.2.2.2.2.2.2.2.2.2.2.2.1 p.2.2.2.2.2.2.2.2.2.2.2.2.2.2.2.2.2.2.2.1 p.2.2.2.2.2.2.2.2.2.2.2.2.2.2.2.2.2.2.2.2.1 p.2.2.2.2.2.2.2.2.2.2.2.2.2.2.2.2.2.2.2.2.2.1 p.2.2.2.2.2.2.2.2.2.2.2.2.2.2.2.2.2.2.2.2.2.2.1 p.2.2.2.2.2.2.2.2.2.2.2.2.2.2.2.2.2.2.2.2.2.2.2
theorem zb24_elim {α0 α1 α2 α3 α4 α5 α6 α7 α8 α9 α10 α11 α12 α13 α14 α15 α16 α17 α18 α19 α20 α21 α22 α23 β : Type} {o : Option (α0 × α1 × α2 × α3 × α4 × α5 × α6 × α7 × α8 × α9 × α10 × α11 × α12 × α13 × α14 × α15 × α16 × α17 × α18 × α19 × α20 × α21 × α22 × α23)} {k : α0 → α1 → α2 → α3 → α4 → α5 → α6 → α7 → α8 → α9 → α10 → α11 → α12 → α13 → α14 → α15 → α16 → α17 → α18 → α19 → α20 → α21 → α22 → α23 → Option β} {r : β} (h : zb24 o k = some r) : ∃ a0 a1 a2 a3 a4 a5 a6 a7 a8 a9 a10 a11 a12 a13 a14 a15 a16 a17 a18 a19 a20 a21 a22 a23, o = some (a0, a1, a2, a3, a4, a5, a6, a7, a8, a9, a10, a11, a12, a13, a14, a15, a16, a17, a18, a19, a20, a21, a22, a23) ∧ k a0 a1 a2 a3 a4 a5 a6 a7 a8 a9 a10 a11 a12 a13 a14 a15 a16 a17 a18 a19 a20 a21 a22 a23 = some r := by
  cases o with
  | none => cases h
  | some p => exact ⟨p.1, p.2.1, p.2.2.1, p.2.2.2.1, p.2.2.2.2.1, p.2.2.2.2.2.1, p.2.2.2.2.2.2.1, p.2.2.2.2.2.2.2.1, p.2.2.2.2.2.2.2.2.1, p.2.2.2.2.2.2.2.2.2.1, p.2.2.2.2.2.2.2.2.2.2.1, p.2.2.2.2.2.2.2.2.2.2.2.1, p.2.2.2.2.2.2.2.2.2.2.2.2.1, p.2.2.2.2.2.2.2.2.2.2.2.2.2.1, p.2.2.2.2.2.2.2.2.2.2.2.2.2.2.1, p.2.2.2.2.2.2.2.2.2.2.2.2.2.2.2.1, p.2.2.2.2.2.2.2.2.2.2.2.2.2.2.2.2.1, p.2.2.2.2.2.2.2.2.2.2.2.2.2.2.2.2.2.1, p.2.2.2.2.2.2.2.2.2.2.2.2.2.2.2.2.2.2.1, p.2.2.2.2.2.2.2.2.2.2.2.2.2.2.2.2.2.2.2.1, p.2.2.2.2.2.2.2.2.2.2.2.2.2.2.2.2.2.2.2.2.1, p.2.2.2.2.2.2.2.2.2.2.2.2.2.2.2.2.2.2.2.2.2.1, p.2.2.2.2.2.2.2.2.2.2.2.2.2.2.2.2.2.2.2.2.2.2.1, p.2.2.2.2.2.2.2.2.2.2.2.2.2.2.2.2.2.2.2.2.2.2.2, rfl, h⟩
def zl24 {α0 α1 α2 α3 α4 α5 α6 α7 α8 α9 α10 α11 α12 α13 α14 α15 α16 α17 α18 α19 α20 α21 α22 α23 β : Type} (p : α0 × α1 × α2 × α3 × α4 × α5 × α6 × α7 × α8 × α9 × α10 × α11 × α12 × α13 × α14 × α15 × α16 × α17 × α18 × α19 × α20 × α21 × α22 × α23) (k : α0 → α1 → α2 → α3 → α4 → α5 → α6 → α7 → α8 → α9 → α10 → α11 → α12 → α13 → α14 → α15 → α16 → α17 → α18 → α19 → α20 → α21 → α22 → α23 → β) : β := k p.1 p.2.1 p.2.2.1 p.2.2.2.1 p.2.2.2.2.1 p.2.2.2.2.2.1 p.2.2.2.2.2.2.1 p.2.2.2.2.2.2.2.1 p.2.2.2.2.2.2.2.2.1 p.2.2.2.2.2.2.2.2.2.1 p.2.2.2.2.2.2.2.2.2.2.1 p.2.2.2.2.2.2.2.2.2.2.2.1 p.2.2.2.2.2.2.2.2.2.2.2.2.1 p.2.2.2.2.2.2.2.2.2.2.2.2.2.1 p.2.2.2.2.2.2.2.2.2.2.2.2.2.2.1 p.2.2.2.2.2.2.2.2.2.2.2.2.2.2.2.1 p.2.2.2.2.2.2.2.2.2.2.2.2.2.2.2.2.1 p.2.2.2.2.2.2.2.2.2.2.2.2.2.2.2.2.2.1 p.2.2.2.2.2.2.2.2.2.2.2.2.2.2.2.2.2.2.1 p.2.2.2.2.2.2.2.2.2.2.2.2.2.2.2.2.2.2.2.1 p.2.2.2.2.2.2.2.2.2.2.2.2.2.2.2.2.2.2.2.2.1 p.2.2.2.2.2.2.2.2.2.2.2.2.2.2.2.2.2.2.2.2.2.1 p.2.2.2.2.2.2.2.2.2.2.2.2.2.2.2.2.2.2.2.2.2.2.1 p.2.2.2.2.2.2.2.2.2.2.2.2.2.2.2.2.2.2.2.2.2.2.2
theorem zl24_elim {α0 α1 α2 α3 α4 α5 α6 α7 α8 α9 α10 α11 α12 α13 α14 α15 α16 α17 α18 α19 α20 α21 α22 α23 β : Type} {p : α0 × α1 × α2 × α3 × α4 × α5 × α6 × α7 × α8 × α9 × α10 × α11 × α12 × α13 × α14 × α15 × α16 × α17 × α18 × α19 × α20 × α21 × α22 × α23} {k : α0 → α1 → α2 → α3 → α4 → α5 → α6 → α7 → α8 → α9 → α10 → α11 → α12 → α13 → α14 → α15 → α16 → α17 → α18 → α19 → α20 → α21 → α22 → α23 → β} {r : β} (h : zl24 p k = r) : ∃ a0 a1 a2 a3 a4 a5 a6 a7 a8 a9 a10 a11 a12 a13 a14 a15 a16 a17 a18 a19 a20 a21 a22 a23, p = (a0, a1, a2, a3, a4, a5, a6, a7, a8, a9, a10, a11, a12, a13, a14, a15, a16, a17, a18, a19, a20, a21, a22, a23) ∧ k a0 a1 a2 a3 a4 a5 a6 a7 a8 a9 a10 a11 a12 a13 a14 a15 a16 a17 a18 a19 a20 a21 a22 a23 = r := ⟨p.1, p.2.1, p.2.2.1, p.2.2.2.1, p.2.2.2.2.1, p.2.2.2.2.2.1, p.2.2.2.2.2.2.1, p.2.2.2.2.2.2.2.1, p.2.2.2.2.2.2.2.2.1, p.2.2.2.2.2.2.2.2.2.1, p.2.2.2.2.2.2.2.2.2.2.1, p.2.2.2.2.2.2.2.2.2.2.2.1, p.2.2.2.2.2.2.2.2.2.2.2.2.1, p.2.2.2.2.2.2.2.2.2.2.2.2.2.1, p.2.2.2.2.2.2.2.2.2.2.2.2.2.2.1, p.2.2.2.2.2.2.2.2.2.2.2.2.2.2.2.1, p.2.2.2.2.2.2.2.2.2.2.2.2.2.2.2.2.1, p.2.2.2.2.2.2.2.2.2.2.2.2.2.2.2.2.2.1, p.2.2.2.2.2.2.2.2.2.2.2.2.2.2.2.2.2.2.1, p.2.2.2.2.2.2.2.2.2.2.2.2.2.2.2.2.2.2.2.1, p.2.2.2.2.2.2.2.2.2.2.2.2.2.2.2.2.2.2.2.2.1, p.2.2.2.2.2.2.2.2.2.2.2.2.2.2.2.2.2.2.2.2.2.1, p.2.2.2.2.2.2.2.2.2.2.2.2.2.2.2.2.2.2.2.2.2.2.1, p.2.2.2.2.2.2.2.2.2.2.2.2.2.2.2.2.2.2.2.2.2.2.2, rfl, h⟩
def zr0 { ρ : Type} (o : Option ((Unit) ⊕ ρ)) (k : Option ρ) : Option ρ := match o with | none => none | some (.inl _) => k  | some (.inr w) => some w
theorem zr0_elim { ρ : Type} {o : Option ((Unit) ⊕ ρ)} {k : Option ρ} {r : ρ} (h : zr0 o k = some r) : (o = some (.inl ()) ∧ k  = some r) ∨ o = some (.inr r) := by
  cases o with
  | none => cases h
  | some q =>
    cases q with
    | inl p => exact Or.inl ⟨rfl, h⟩
    | inr w => cases h; exact Or.inr rfl
def zs0 { τ ξ ρ : Type} (o : Option ((Unit) ⊕ ρ)) (k : Option (τ ⊕ (ξ ⊕ ρ))) : Option (τ ⊕ (ξ ⊕ ρ)) := match o with | none => none | some (.inl _) => k  | some (.inr w) => some (.inr (.inr w))
theorem zs0_elim { τ ξ ρ : Type} {o : Option ((Unit) ⊕ ρ)} {k : Option (τ ⊕ (ξ ⊕ ρ))} {r : τ ⊕ (ξ ⊕ ρ)} (h : zs0 o k = some r) : (o = some (.inl ()) ∧ k  = some r) ∨ ∃ w, o = some (.inr w) ∧ r = .inr (.inr w) := by
  cases o with
  | none => cases h
  | some q =>
    cases q with
    | inl p => exact Or.inl ⟨rfl, h⟩
    | inr w => cases h; exact Or.inr ⟨w, rfl, rfl⟩
def zr1 {α0 ρ : Type} (o : Option ((α0) ⊕ ρ)) (k : α0 → Option ρ) : Option ρ := match o with | none => none | some (.inl p) => k p | some (.inr w) => some w
theorem zr1_elim {α0 ρ : Type} {o : Option ((α0) ⊕ ρ)} {k : α0 → Option ρ} {r : ρ} (h : zr1 o k = some r) : (∃ a0, o = some (.inl a0) ∧ k a0 = some r) ∨ o = some (.inr r) := by
  cases o with
  | none => cases h
  | some q =>
    cases q with
    | inl p => exact Or.inl ⟨p, rfl, h⟩
    | inr w => cases h; exact Or.inr rfl
def zs1 {α0 τ ξ ρ : Type} (o : Option ((α0) ⊕ ρ)) (k : α0 → Option (τ ⊕ (ξ ⊕ ρ))) : Option (τ ⊕ (ξ ⊕ ρ)) := match o with | none => none | some (.inl p) => k p | some (.inr w) => some (.inr (.inr w))
theorem zs1_elim {α0 τ ξ ρ : Type} {o : Option ((α0) ⊕ ρ)} {k : α0 → Option (τ ⊕ (ξ ⊕ ρ))} {r : τ ⊕ (ξ ⊕ ρ)} (h : zs1 o k = some r) : (∃ a0, o = some (.inl a0) ∧ k a0 = some r) ∨ ∃ w, o = some (.inr w) ∧ r = .inr (.inr w) := by
  cases o with
  | none => cases h
  | some q =>
    cases q with
    | inl p => exact Or.inl ⟨p, rfl, h⟩
    | inr w => cases h; exact Or.inr ⟨w, rfl, rfl⟩
def zr2 {α0 α1 ρ : Type} (o : Option ((α0 × α1) ⊕ ρ)) (k : α0 → α1 → Option ρ) : Option ρ := match o with | none => none | some (.inl p) => k p.1 p.2 | some (.inr w) => some w
theorem zr2_elim {α0 α1 ρ : Type} {o : Option ((α0 × α1) ⊕ ρ)} {k : α0 → α1 → Option ρ} {r : ρ} (h : zr2 o k = some r) : (∃ a0 a1, o = some (.inl (a0, a1)) ∧ k a0 a1 = some r) ∨ o = some (.inr r) := by
  cases o with
  | none => cases h
  | some q =>
    cases q with
    | inl p => exact Or.inl ⟨p.1, p.2, rfl, h⟩
    | inr w => cases h; exact Or.inr rfl
def zs2 {α0 α1 τ ξ ρ : Type} (o : Option ((α0 × α1) ⊕ ρ)) (k : α0 → α1 → Option (τ ⊕ (ξ ⊕ ρ))) : Option (τ ⊕ (ξ ⊕ ρ)) := match o with | none => none | some (.inl p) => k p.1 p.2 | some (.inr w) => some (.inr (.inr w))
theorem zs2_elim {α0 α1 τ ξ ρ : Type} {o : Option ((α0 × α1) ⊕ ρ)} {k : α0 → α1 → Option (τ ⊕ (ξ ⊕ ρ))} {r : τ ⊕ (ξ ⊕ ρ)} (h : zs2 o k = some r) : (∃ a0 a1, o = some (.inl (a0, a1)) ∧ k a0 a1 = some r) ∨ ∃ w, o = some (.inr w) ∧ r = .inr (.inr w) := by
  cases o with
  | none => cases h
  | some q =>
    cases q with
    | inl p => exact Or.inl ⟨p.1, p.2, rfl, h⟩
    | inr w => cases h; exact Or.inr ⟨w, rfl, rfl⟩
def zr3 {α0 α1 α2 ρ : Type} (o : Option ((α0 × α1 × α2) ⊕ ρ)) (k : α0 → α1 → α2 → Option ρ) : Option ρ := match o with | none => none | some (.inl p) => k p.1 p.2.1 p.2.2 | some (.inr w) => some w
theorem zr3_elim {α0 α1 α2 ρ : Type} {o : Option ((α0 × α1 × α2) ⊕ ρ)} {k : α0 → α1 → α2 → Option ρ} {r : ρ} (h : zr3 o k = some r) : (∃ a0 a1 a2, o = some (.inl (a0, a1, a2)) ∧ k a0 a1 a2 = some r) ∨ o = some (.inr r) := by
  cases o with
  | none => cases h
  | some q =>
    cases q with
    | inl p => exact Or.inl ⟨p.1, p.2.1, p.2.2, rfl, h⟩
    | inr w => cases h; exact Or.inr rfl
def zs3 {α0 α1 α2 τ ξ ρ : Type} (o : Option ((α0 × α1 × α2) ⊕ ρ)) (k : α0 → α1 → α2 → Option (τ ⊕ (ξ ⊕ ρ))) : Option (τ ⊕ (ξ ⊕ ρ)) := match o with | none => none | some (.inl p) => k p.1 p.2.1 p.2.2 | some (.inr w) => some (.inr (.inr w))
theorem zs3_elim {α0 α1 α2 τ ξ ρ : Type} {o : Option ((α0 × α1 × α2) ⊕ ρ)} {k : α0 → α1 → α2 → Option (τ ⊕ (ξ ⊕ ρ))} {r : τ ⊕ (ξ ⊕ ρ)} (h : zs3 o k = some r) : (∃ a0 a1 a2, o = some (.inl (a0, a1, a2)) ∧ k a0 a1 a2 = some r) ∨ ∃ w, o = some (.inr w) ∧ r = .inr (.inr w) := by
  cases o with
  | none => cases h
  | some q =>
    cases q with
    | inl p => exact Or.inl ⟨p.1, p.2.1, p.2.2, rfl, h⟩
    | inr w => cases h; exact Or.inr ⟨w, rfl, rfl⟩
def zr4 {α0 α1 α2 α3 ρ : Type} (o : Option ((α0 × α1 × α2 × α3) ⊕ ρ)) (k : α0 → α1 → α2 → α3 → Option ρ) : Option ρ := match o with | none => none | some (.inl p) => k p.1 p.2.1 p.2.2.1 p.2.2.2 | some (.inr w) => some w
theorem zr4_elim {α0 α1 α2 α3 ρ : Type} {o : Option ((α0 × α1 × α2 × α3) ⊕ ρ)} {k : α0 → α1 → α2 → α3 → Option ρ} {r : ρ} (h : zr4 o k = some r) : (∃ a0 a1 a2 a3, o = some (.inl (a0, a1, a2, a3)) ∧ k a0 a1 a2 a3 = some r) ∨ o = some (.inr r) := by
  cases o with
  | none => cases h
  | some q =>
    cases q with
    | inl p => exact Or.inl ⟨p.1, p.2.1, p.2.2.1, p.2.2.2, rfl, h⟩
    | inr w => cases h; exact Or.inr rfl
def zs4 {α0 α1 α2 α3 τ ξ ρ : Type} (o : Option ((α0 × α1 × α2 × α3) ⊕ ρ)) (k : α0 → α1 → α2 → α3 → Option (τ ⊕ (ξ ⊕ ρ))) : Option (τ ⊕ (ξ ⊕ ρ)) := match o with | none => none | some (.inl p) => k p.1 p.2.1 p.2.2.1 p.2.2.2 | some (.inr w) => some (.inr (.inr w))
theorem zs4_elim {α0 α1 α2 α3 τ ξ ρ : Type} {o : Option ((α0 × α1 × α2 × α3) ⊕ ρ)} {k : α0 → α1 → α2 → α3 → Option (τ ⊕ (ξ ⊕ ρ))} {r : τ ⊕ (ξ ⊕ ρ)} (h : zs4 o k = some r) : (∃ a0 a1 a2 a3, o = some (.inl (a0, a1, a2, a3)) ∧ k a0 a1 a2 a3 = some r) ∨ ∃ w, o = some (.inr w) ∧ r = .inr (.inr w) := by
  cases o with
  | none => cases h
  | some q =>
    cases q with
    | inl p => exact Or.inl ⟨p.1, p.2.1, p.2.2.1, p.2.2.2, rfl, h⟩
    | inr w => cases h; exact Or.inr ⟨w, rfl, rfl⟩
def zr5 {α0 α1 α2 α3 α4 ρ : Type} (o : Option ((α0 × α1 × α2 × α3 × α4) ⊕ ρ)) (k : α0 → α1 → α2 → α3 → α4 → Option ρ) : Option ρ := match o with | none => none | some (.inl p) => k p.1 p.2.1 p.2.2.1 p.2.2.2.1 p.2.2.2.2 | some (.inr w) => some w
theorem zr5_elim {α0 α1 α2 α3 α4 ρ : Type} {o : Option ((α0 × α1 × α2 × α3 × α4) ⊕ ρ)} {k : α0 → α1 → α2 → α3 → α4 → Option ρ} {r : ρ} (h : zr5 o k = some r) : (∃ a0 a1 a2 a3 a4, o = some (.inl (a0, a1, a2, a3, a4)) ∧ k a0 a1 a2 a3 a4 = some r) ∨ o = some (.inr r) := by
  cases o with
  | none => cases h
  | some q =>
    cases q with
    | inl p => exact Or.inl ⟨p.1, p.2.1, p.2.2.1, p.2.2.2.1, p.2.2.2.2, rfl, h⟩
    | inr w => cases h; exact Or.inr rfl
def zs5 {α0 α1 α2 α3 α4 τ ξ ρ : Type} (o : Option ((α0 × α1 × α2 × α3 × α4) ⊕ ρ)) (k : α0 → α1 → α2 → α3 → α4 → Option (τ ⊕ (ξ ⊕ ρ))) : Option (τ ⊕ (ξ ⊕ ρ)) := match o with | none => none | some (.inl p) => k p.1 p.2.1 p.2.2.1 p.2.2.2.1 p.2.2.2.2 | some (.inr w) => some (.inr (.inr w))
theorem zs5_elim {α0 α1 α2 α3 α4 τ ξ ρ : Type} {o : Option ((α0 × α1 × α2 × α3 × α4) ⊕ ρ)} {k : α0 → α1 → α2 → α3 → α4 → Option (τ ⊕ (ξ ⊕ ρ))} {r : τ ⊕ (ξ ⊕ ρ)} (h : zs5 o k = some r) : (∃ a0 a1 a2 a3 a4, o = some (.inl (a0, a1, a2, a3, a4)) ∧ k a0 a1 a2 a3 a4 = some r) ∨ ∃ w, o = some (.inr w) ∧ r = .inr (.inr w) := by
  cases o with
  | none => cases h
  | some q =>
    cases q with
    | inl p => exact Or.inl ⟨p.1, p.2.1, p.2.2.1, p.2.2.2.1, p.2.2.2.2, rfl, h⟩
    | inr w => cases h; exact Or.inr ⟨w, rfl, rfl⟩
def zr6 {α0 α1 α2 α3 α4 α5 ρ : Type} (o : Option ((α0 × α1 × α2 × α3 × α4 × α5) ⊕ ρ)) (k : α0 → α1 → α2 → α3 → α4 → α5 → Option ρ) : Option ρ := match o with | none => none | some (.inl p) => k p.1 p.2.1 p.2.2.1 p.2.2.2.1 p.2.2.2.2.1 p.2.2.2.2.2 | some (.inr w) => some w
theorem zr6_elim {α0 α1 α2 α3 α4 α5 ρ : Type} {o : Option ((α0 × α1 × α2 × α3 × α4 × α5) ⊕ ρ)} {k : α0 → α1 → α2 → α3 → α4 → α5 → Option ρ} {r : ρ} (h : zr6 o k = some r) : (∃ a0 a1 a2 a3 a4 a5, o = some (.inl (a0, a1, a2, a3, a4, a5)) ∧ k a0 a1 a2 a3 a4 a5 = some r) ∨ o = some (.inr r) := by
  cases o with
  | none => cases h
  | some q =>
    cases q with
    | inl p => exact Or.inl ⟨p.1, p.2.1, p.2.2.1, p.2.2.2.1, p.2.2.2.2.1, p.2.2.2.2.2, rfl, h⟩
    | inr w => cases h; exact Or.inr rfl
def zs6 {α0 α1 α2 α3 α4 α5 τ ξ ρ : Type} (o : Option ((α0 × α1 × α2 × α3 × α4 × α5) ⊕ ρ)) (k : α0 → α1 → α2 → α3 → α4 → α5 → Option (τ ⊕ (ξ ⊕ ρ))) : Option (τ ⊕ (ξ ⊕ ρ)) := match o with | none => none | some (.inl p) => k p.1 p.2.1 p.2.2.1 p.2.2.2.1 p.2.2.2.2.1 p.2.2.2.2.2 | some (.inr w) => some (.inr (.inr w))
theorem zs6_elim {α0 α1 α2 α3 α4 α5 τ ξ ρ : Type} {o : Option ((α0 × α1 × α2 × α3 × α4 × α5) ⊕ ρ)} {k : α0 → α1 → α2 → α3 → α4 → α5 → Option (τ ⊕ (ξ ⊕ ρ))} {r : τ ⊕ (ξ ⊕ ρ)} (h : zs6 o k = some r) : (∃ a0 a1 a2 a3 a4 a5, o = some (.inl (a0, a1, a2, a3, a4, a5)) ∧ k a0 a1 a2 a3 a4 a5 = some r) ∨ ∃ w, o = some (.inr w) ∧ r = .inr (.inr w) := by
  cases o with
  | none => cases h
  | some q =>
    cases q with
    | inl p => exact Or.inl ⟨p.1, p.2.1, p.2.2.1, p.2.2.2.1, p.2.2.2.2.1, p.2.2.2.2.2, rfl, h⟩
    | inr w => cases h; exact Or.inr ⟨w, rfl, rfl⟩
def zr7 {α0 α1 α2 α3 α4 α5 α6 ρ : Type} (o : Option ((α0 × α1 × α2 × α3 × α4 × α5 × α6) ⊕ ρ)) (k : α0 → α1 → α2 → α3 → α4 → α5 → α6 → Option ρ) : Option ρ := match o with | none => none | some (.inl p) => k p.1 p.2.1 p.2.2.1 p.2.2.2.1 p.2.2.2.2.1 p.2.2.2.2.2.1 p.2.2.2.2.2.2 | some (.inr w) => some w
theorem zr7_elim {α0 α1 α2 α3 α4 α5 α6 ρ : Type} {o : Option ((α0 × α1 × α2 × α3 × α4 × α5 × α6) ⊕ ρ)} {k : α0 → α1 → α2 → α3 → α4 → α5 → α6 → Option ρ} {r : ρ} (h : zr7 o k = some r) : (∃ a0 a1 a2 a3 a4 a5 a6, o = some (.inl (a0, a1, a2, a3, a4, a5, a6)) ∧ k a0 a1 a2 a3 a4 a5 a6 = some r) ∨ o = some (.inr r) := by
  cases o with
  | none => cases h
  | some q =>
    cases q with
    | inl p => exact Or.inl ⟨p.1, p.2.1, p.2.2.1, p.2.2.2.1, p.2.2.2.2.1, p.2.2.2.2.2.1, p.2.2.2.2.2.2, rfl, h⟩
    | inr w => cases h; exact Or.inr rfl
def zs7 {α0 α1 α2 α3 α4 α5 α6 τ ξ ρ : Type} (o : Option ((α0 × α1 × α2 × α3 × α4 × α5 × α6) ⊕ ρ)) (k : α0 → α1 → α2 → α3 → α4 → α5 → α6 → Option (τ ⊕ (ξ ⊕ ρ))) : Option (τ ⊕ (ξ ⊕ ρ)) := match o with | none => none | some (.inl p) => k p.1 p.2.1 p.2.2.1 p.2.2.2.1 p.2.2.2.2.1 p.2.2.2.2.2.1 p.2.2.2.2.2.2 | some (.inr w) => some (.inr (.inr w))
theorem zs7_elim {α0 α1 α2 α3 α4 α5 α6 τ ξ ρ : Type} {o : Option ((α0 × α1 × α2 × α3 × α4 × α5 × α6) ⊕ ρ)} {k : α0 → α1 → α2 → α3 → α4 → α5 → α6 → Option (τ ⊕ (ξ ⊕ ρ))} {r : τ ⊕ (ξ ⊕ ρ)} (h : zs7 o k = some r) : (∃ a0 a1 a2 a3 a4 a5 a6, o = some (.inl (a0, a1, a2, a3, a4, a5, a6)) ∧ k a0 a1 a2 a3 a4 a5 a6 = some r) ∨ ∃ w, o = some (.inr w) ∧ r = .inr (.inr w) := by
  cases o with
  | none => cases h
  | some q =>
    cases q with
    | inl p => exact Or.inl ⟨p.1, p.2.1, p.2.2.1, p.2.2.2.1, p.2.2.2.2.1, p.2.2.2.2.2.1, p.2.2.2.2.2.2, rfl, h⟩
    | inr w => cases h; exact Or.inr ⟨w, rfl, rfl⟩
end
section
theorem zw_59 : Cond.initialized "java/lang/Math" ∈ zT := zmem1 14 rfl rfl
theorem zw_74 : Cond.fieldLink R_Po 11 (F_Po 0).1 (F_Po 0).2.1 (F_Po 0).2.2.1 ∈ zT := zmem1 29 rfl rfl
theorem zw_75 : Cond.fieldLink R_Po 21 (F_Po 1).1 (F_Po 1).2.1 (F_Po 1).2.2.1 ∈ zT := zmem1 30 rfl rfl
theorem zw_89 : Cond.fieldLink R_Dr 9 (F_Dr 0).1 (F_Dr 0).2.1 (F_Dr 0).2.2.1 ∈ zT := zmem1 44 rfl rfl
theorem zw_90 : Cond.fieldLink R_Dr 15 (F_Dr 1).1 (F_Dr 1).2.1 (F_Dr 1).2.2.1 ∈ zT := zmem1 45 rfl rfl
theorem zw_91 : Cond.fieldLink R_Dr 18 (F_Dr 2).1 (F_Dr 2).2.1 (F_Dr 2).2.2.1 ∈ zT := zmem1 46 rfl rfl
theorem zw_92 : Cond.fieldLink R_Dr 21 (F_Dr 3).1 (F_Dr 3).2.1 (F_Dr 3).2.2.1 ∈ zT := zmem1 47 rfl rfl
theorem zw_109 : Cond.fieldLink R_Wa 11 (F_Wa 0).1 (F_Wa 0).2.1 (F_Wa 0).2.2.1 ∈ zT := zmem1 64 rfl rfl
theorem zw_110 : Cond.fieldLink R_Wa 15 (F_Wa 1).1 (F_Wa 1).2.1 (F_Wa 1).2.2.1 ∈ zT := zmem1 65 rfl rfl
theorem zw_111 : Cond.fieldLink R_Wa 18 (F_Wa 2).1 (F_Wa 2).2.1 (F_Wa 2).2.2.1 ∈ zT := zmem1 66 rfl rfl
theorem zw_112 : Cond.fieldLink R_Wa 21 (F_Wa 3).1 (F_Wa 3).2.1 (F_Wa 3).2.2.1 ∈ zT := zmem1 67 rfl rfl
theorem zw_114 : Cond.fieldLink R_Wa 24 (F_Wa 4).1 (F_Wa 4).2.1 (F_Wa 4).2.2.1 ∈ zT := zmem1 69 rfl rfl
theorem zw_132 : Cond.fieldLink R_Ro 7 (F_Ro 0).1 (F_Ro 0).2.1 (F_Ro 0).2.2.1 ∈ zT := zmem1 87 rfl rfl
theorem zw_133 : Cond.fieldLink R_Ro 13 (F_Ro 1).1 (F_Ro 1).2.1 (F_Ro 1).2.2.1 ∈ zT := zmem1 88 rfl rfl
theorem zw_134 : Cond.fieldLink R_Ro 16 (F_Ro 2).1 (F_Ro 2).2.1 (F_Ro 2).2.2.1 ∈ zT := zmem1 89 rfl rfl
theorem zw_135 : Cond.fieldLink R_Ro 19 (F_Ro 3).1 (F_Ro 3).2.1 (F_Ro 3).2.2.1 ∈ zT := zmem1 90 rfl rfl
theorem zw_136 : Cond.fieldLink R_Ro 31 (F_Ro 4).1 (F_Ro 4).2.1 (F_Ro 4).2.2.1 ∈ zT := zmem1 91 rfl rfl
theorem zw_148 : Cond.methodLink R_Ps 41 y_Ps_startAnew ∈ zT := zmem1 103 rfl rfl
theorem zw_152 : Cond.methodLink R_Ps 149 y_Jarr_fill ∈ zT := zmem1 107 rfl rfl
theorem zw_155 : Cond.methodLink R_Ps 155 y_Po_clear ∈ zT := zmem1 110 rfl rfl
theorem zw_159 : Cond.methodLink R_Po 15 y_Jarr_fill ∈ zT := zmem1 114 rfl rfl
theorem zw_160 : Cond.fieldLink R_Ps 9 (F_Ps 0).1 (F_Ps 0).2.1 (F_Ps 0).2.2.1 ∈ zT := zmem1 115 rfl rfl
theorem zw_161 : Cond.fieldLink R_Ps 16 (F_Ps 1).1 (F_Ps 1).2.1 (F_Ps 1).2.2.1 ∈ zT := zmem1 116 rfl rfl
theorem zw_162 : Cond.fieldLink R_Ps 23 (F_Ps 2).1 (F_Ps 2).2.1 (F_Ps 2).2.2.1 ∈ zT := zmem1 117 rfl rfl
theorem zw_163 : Cond.fieldLink R_Ps 30 (F_Ps 3).1 (F_Ps 3).2.1 (F_Ps 3).2.2.1 ∈ zT := zmem1 118 rfl rfl
theorem zw_164 : Cond.fieldLink R_Ps 37 (F_Ps 4).1 (F_Ps 4).2.1 (F_Ps 4).2.2.1 ∈ zT := zmem1 119 rfl rfl
theorem zw_165 : Cond.fieldLink R_Ps 137 (F_Ps 5).1 (F_Ps 5).2.1 (F_Ps 5).2.2.1 ∈ zT := zmem1 120 rfl rfl
theorem zw_166 : Cond.fieldLink R_Ps 54 (F_Ps 6).1 (F_Ps 6).2.1 (F_Ps 6).2.2.1 ∈ zT := zmem1 121 rfl rfl
theorem zw_167 : Cond.fieldLink R_Ps 61 (F_Ps 7).1 (F_Ps 7).2.1 (F_Ps 7).2.2.1 ∈ zT := zmem1 122 rfl rfl
theorem zw_168 : Cond.fieldLink R_Ps 58 (F_Ps 8).1 (F_Ps 8).2.1 (F_Ps 8).2.2.1 ∈ zT := zmem1 123 rfl rfl
theorem zw_169 : Cond.fieldLink R_Ps 146 (F_Ps 9).1 (F_Ps 9).2.1 (F_Ps 9).2.2.1 ∈ zT := zmem1 124 rfl rfl
theorem zw_170 : Cond.fieldLink R_Ps 113 (F_Ps 10).1 (F_Ps 10).2.1 (F_Ps 10).2.2.1 ∈ zT := zmem1 125 rfl rfl
theorem zw_171 : Cond.fieldLink R_Ps 64 (F_Ps 11).1 (F_Ps 11).2.1 (F_Ps 11).2.2.1 ∈ zT := zmem1 126 rfl rfl
theorem zw_201 : Cond.methodLink R_Ps 45 y_Ps_isWireCount ∈ zT := zmem1 156 rfl rfl
theorem zw_204 : Cond.methodLink R_Ps 49 y_Ps_has ∈ zT := zmem1 159 rfl rfl
theorem zw_207 : Jvm.Cond.constant R_Ps 53 (16777216) ∈ zT := zmem1 162 rfl rfl
theorem zw_216 : Cond.methodLink R_Ps 68 y_Ps_fits ∈ zT := zmem1 171 rfl rfl
theorem zw_220 : Cond.methodLink R_Ps 109 y_Ps_isWire ∈ zT := zmem1 175 rfl rfl
theorem zw_224 : Cond.fieldLink R_Ps 72 "PathSums" "TURNS" "[I" ∈ zT := zmem1 179 rfl rfl
theorem zw_226 : Cond.methodLink R_Ps 75 y_Po_addXor ∈ zT := zmem1 181 rfl rfl
theorem zw_231 : Cond.methodLink R_Po 33 y_Po_add ∈ zT := zmem1 186 rfl rfl
theorem zw_235 : Cond.methodLink R_Po 25 y_Po_placeOf ∈ zT := zmem1 190 rfl rfl
theorem zw_238 : Jvm.Cond.constant R_Po 45 (16777215) ∈ zT := zmem1 193 rfl rfl
theorem zw_239 : Cond.methodLink R_Po 52 y_Jint_bitCount ∈ zT := zmem1 194 rfl rfl
theorem zw_242 : Jvm.Cond.constant R_Jint 265 (1431655765) ∈ zT := zmem1 197 rfl rfl
theorem zw_243 : Jvm.Cond.constant R_Jint 266 (858993459) ∈ zT := zmem1 198 rfl rfl
theorem zw_244 : Jvm.Cond.constant R_Jint 267 (252645135) ∈ zT := zmem1 199 rfl rfl
theorem zw_245 : Cond.methodLink R_Po 37 y_Po_addPairsBelow ∈ zT := zmem1 200 rfl rfl
theorem zw_249 : Cond.methodLink R_Po 41 y_Po_addTriplesBelow ∈ zT := zmem1 204 rfl rfl
theorem zw_253 : Cond.methodLink R_Ps 79 y_Po_addFourTimes ∈ zT := zmem1 208 rfl rfl
theorem zw_257 : Cond.methodLink R_Ps 82 y_Ps_bringBit ∈ zT := zmem1 212 rfl rfl
theorem zw_261 : Cond.methodLink R_Ps 158 y_Po_add ∈ zT := zmem1 216 rfl rfl
theorem zw_266 : Cond.methodLink R_Ps 86 y_Ps_leastBitWithRule ∈ zT := zmem1 221 rfl rfl
theorem zw_270 : Cond.methodLink R_Ps 90 y_Ps_ruleFor ∈ zT := zmem1 225 rfl rfl
theorem zw_274 : Cond.methodLink R_Ps 106 y_Po_numberOf ∈ zT := zmem1 229 rfl rfl
theorem zw_278 : Cond.methodLink R_Ps 161 y_Po_partnersOf ∈ zT := zmem1 233 rfl rfl
theorem zw_282 : Cond.methodLink R_Po 46 y_Po_numberOf ∈ zT := zmem1 237 rfl rfl
theorem zw_283 : Cond.methodLink R_Ps 94 y_Ps_doRule ∈ zT := zmem1 238 rfl rfl
theorem zw_287 : Cond.methodLink R_Ps 164 y_Ps_greatestOf ∈ zT := zmem2 2 rfl rfl
theorem zw_290 : Cond.methodLink R_Ps 167 y_Dr_keep ∈ zT := zmem2 5 rfl rfl
theorem zw_294 : Cond.methodLink R_Ps 170 y_Ps_becomeEmpty ∈ zT := zmem2 9 rfl rfl
theorem zw_298 : Cond.methodLink R_Ps 173 y_Po_replaceBit ∈ zT := zmem2 13 rfl rfl
theorem zw_302 : Cond.methodLink R_Po 49 y_Po_addXor ∈ zT := zmem2 17 rfl rfl
theorem zw_303 : Cond.methodLink R_Ps 176 y_Ps_replaceInValues ∈ zT := zmem2 18 rfl rfl
theorem zw_311 : Cond.methodLink R_Ps 97 y_Dr_look ∈ zT := zmem2 26 rfl rfl
theorem zw_319 : Cond.methodLink R_Ps 101 y_Jint_bitCount ∈ zT := zmem2 34 rfl rfl
theorem zw_324 : Jvm.Cond.constant R_Ps 112 (16777215) ∈ zT := zmem2 39 rfl rfl
theorem zw_433 : Cond.methodLink R_Ps 179 y_Wa_choose ∈ zT := zmem2 148 rfl rfl
theorem zw_438 : Cond.methodLink R_Wa 32 y_Wa_wiresWith ∈ zT := zmem2 153 rfl rfl
theorem zw_441 : Cond.methodLink R_Ps 183 y_Wa_findPhases ∈ zT := zmem2 156 rfl rfl
theorem zw_445 : Cond.methodLink R_Wa 36 y_Jarr_fill ∈ zT := zmem2 160 rfl rfl
theorem zw_446 : Cond.methodLink R_Wa 42 y_Po_numberOf ∈ zT := zmem2 161 rfl rfl
theorem zw_447 : Cond.methodLink R_Wa 48 y_Wa_addNumber ∈ zT := zmem2 162 rfl rfl
theorem zw_451 : Cond.methodLink R_Wa 52 y_Wa_layProductsBelow ∈ zT := zmem2 166 rfl rfl
theorem zw_455 : Cond.methodLink R_Wa 56 y_Wa_sumOverParts ∈ zT := zmem2 170 rfl rfl
theorem zw_459 : Cond.methodLink R_Ps 187 y_Wa_tally ∈ zT := zmem2 174 rfl rfl
theorem zw_463 : Cond.methodLink R_Wa 59 y_Jint_bitCount ∈ zT := zmem2 178 rfl rfl
theorem zw_464 : Cond.methodLink R_Ps 193 y_Ro_take ∈ zT := zmem2 179 rfl rfl
theorem zw_468 : Cond.methodLink R_Ro 22 y_Ro_multiplyByR ∈ zT := zmem2 183 rfl rfl
theorem zw_472 : Cond.methodLink R_Ro 25 Lib.Math.max.name ∈ zT := zmem2 187 rfl rfl
theorem zw_473 : Cond.static Lib.Math.max.name ∈ zT := zmem2 188 rfl rfl
theorem zw_474 : Cond.code Lib.Math.max.name Lib.Math.max.code 2 (some .int) ∈ zT := zmem2 189 rfl rfl
theorem zw_475 : Cond.methodLink R_Ro 35 y_Ro_isMultipleOfR ∈ zT := zmem2 190 rfl rfl
theorem zw_479 : Jvm.Cond.constantLong R_Ro 42 (2) ∈ zT := zmem2 194 rfl rfl
theorem zw_480 : Cond.methodLink R_Ro 39 y_Ro_halve ∈ zT := zmem2 195 rfl rfl
theorem zw_494 : Cond.methodLink R_Md 44 y_Md_start ∈ zT := zmem2 209 rfl rfl
theorem zw_498 : Cond.fieldLink R_Md 48 (F_Md 0).1 (F_Md 0).2.1 (F_Md 0).2.2.1 ∈ zT := zmem2 213 rfl rfl
theorem zw_499 : Cond.fieldLink R_Md 70 (F_Md 1).1 (F_Md 1).2.1 (F_Md 1).2.2.1 ∈ zT := zmem2 214 rfl rfl
theorem zw_500 : Cond.fieldLink R_Md 73 (F_Md 2).1 (F_Md 2).2.1 (F_Md 2).2.2.1 ∈ zT := zmem2 215 rfl rfl
theorem zw_501 : Cond.fieldLink R_Md 77 (F_Md 3).1 (F_Md 3).2.1 (F_Md 3).2.2.1 ∈ zT := zmem2 216 rfl rfl
theorem zw_502 : Cond.fieldLink R_Md 80 (F_Md 4).1 (F_Md 4).2.1 (F_Md 4).2.2.1 ∈ zT := zmem2 217 rfl rfl
theorem zw_503 : Cond.fieldLink R_Md 83 (F_Md 5).1 (F_Md 5).2.1 (F_Md 5).2.2.1 ∈ zT := zmem2 218 rfl rfl
theorem zw_504 : Cond.fieldLink R_Md 86 (F_Md 6).1 (F_Md 6).2.1 (F_Md 6).2.2.1 ∈ zT := zmem2 219 rfl rfl
theorem zw_505 : Cond.fieldLink R_Md 7 (F_Md 7).1 (F_Md 7).2.1 (F_Md 7).2.2.1 ∈ zT := zmem2 220 rfl rfl
theorem zw_506 : Cond.fieldLink R_Md 13 (F_Md 8).1 (F_Md 8).2.1 (F_Md 8).2.2.1 ∈ zT := zmem2 221 rfl rfl
theorem zw_507 : Cond.fieldLink R_Md 16 (F_Md 9).1 (F_Md 9).2.1 (F_Md 9).2.2.1 ∈ zT := zmem2 222 rfl rfl
theorem zw_508 : Cond.fieldLink R_Md 89 (F_Md 10).1 (F_Md 10).2.1 (F_Md 10).2.2.1 ∈ zT := zmem2 223 rfl rfl
theorem zw_509 : Cond.fieldLink R_Md 19 (F_Md 11).1 (F_Md 11).2.1 (F_Md 11).2.2.1 ∈ zT := zmem2 224 rfl rfl
theorem zw_510 : Cond.fieldLink R_Md 22 (F_Md 12).1 (F_Md 12).2.1 (F_Md 12).2.2.1 ∈ zT := zmem2 225 rfl rfl
theorem zw_511 : Cond.fieldLink R_Md 25 (F_Md 13).1 (F_Md 13).2.1 (F_Md 13).2.2.1 ∈ zT := zmem2 226 rfl rfl
theorem zw_512 : Cond.fieldLink R_Md 122 (F_Md 14).1 (F_Md 14).2.1 (F_Md 14).2.2.1 ∈ zT := zmem2 227 rfl rfl
theorem zw_513 : Cond.fieldLink R_Md 125 (F_Md 15).1 (F_Md 15).2.1 (F_Md 15).2.2.1 ∈ zT := zmem2 228 rfl rfl
theorem zw_514 : Cond.fieldLink R_Md 28 (F_Md 16).1 (F_Md 16).2.1 (F_Md 16).2.2.1 ∈ zT := zmem2 229 rfl rfl
theorem zw_515 : Cond.fieldLink R_Md 31 (F_Md 17).1 (F_Md 17).2.1 (F_Md 17).2.2.1 ∈ zT := zmem2 230 rfl rfl
theorem zw_516 : Cond.fieldLink R_Md 34 (F_Md 18).1 (F_Md 18).2.1 (F_Md 18).2.2.1 ∈ zT := zmem2 231 rfl rfl
theorem zw_517 : Cond.fieldLink R_Md 37 (F_Md 19).1 (F_Md 19).2.1 (F_Md 19).2.2.1 ∈ zT := zmem2 232 rfl rfl
theorem zw_518 : Cond.fieldLink R_Md 152 (F_Md 20).1 (F_Md 20).2.1 (F_Md 20).2.2.1 ∈ zT := zmem2 233 rfl rfl
theorem zw_519 : Cond.fieldLink R_Md 40 (F_Md 21).1 (F_Md 21).2.1 (F_Md 21).2.2.1 ∈ zT := zmem2 234 rfl rfl
theorem zw_582 : Cond.methodLink R_Md 92 y_Md_wiresOf ∈ zT := zmem3 57 rfl rfl
theorem zw_585 : Cond.methodLink R_Md 95 y_Md_isWire ∈ zT := zmem3 60 rfl rfl
theorem zw_589 : Cond.methodLink R_Md 99 y_Md_exchange ∈ zT := zmem3 64 rfl rfl
theorem zw_593 : Cond.methodLink R_Md 66 y_Md_addTwo ∈ zT := zmem3 68 rfl rfl
theorem zw_597 : Cond.methodLink R_Md 63 y_Md_addHalf ∈ zT := zmem3 72 rfl rfl
theorem zw_601 : Cond.methodLink R_Md 59 y_Md_add ∈ zT := zmem3 76 rfl rfl
theorem zw_605 : Cond.methodLink R_Md 56 y_Md_count ∈ zT := zmem3 80 rfl rfl
theorem zw_608 : Cond.methodLink R_Md 52 y_Md_placeOf ∈ zT := zmem3 83 rfl rfl
theorem zw_611 : Cond.methodLink R_Md 102 y_Md_addThree ∈ zT := zmem3 86 rfl rfl
theorem zw_615 : Cond.methodLink R_Md 105 y_Md_newBit ∈ zT := zmem3 90 rfl rfl
theorem zw_619 : Cond.methodLink R_Md 108 y_Md_eighthsOf ∈ zT := zmem3 94 rfl rfl
theorem zw_622 : Cond.methodLink R_Md 111 y_Md_addOr ∈ zT := zmem3 97 rfl rfl
theorem zw_630 : Cond.methodLink R_Md 146 y_Md_ruleFor ∈ zT := zmem3 105 rfl rfl
theorem zw_634 : Cond.methodLink R_Md 128 y_Md_isHidden ∈ zT := zmem3 109 rfl rfl
theorem zw_638 : Cond.methodLink R_Md 115 y_Md_inputs ∈ zT := zmem3 113 rfl rfl
theorem zw_642 : Cond.methodLink R_Md 131 y_Md_findFactor ∈ zT := zmem3 117 rfl rfl
theorem zw_646 : Cond.methodLink R_Md 119 y_Md_numberOf ∈ zT := zmem3 121 rfl rfl
theorem zw_650 : Cond.methodLink R_Md 149 y_Md_doRule ∈ zT := zmem3 125 rfl rfl
theorem zw_654 : Cond.methodLink R_Md 137 y_Md_empty ∈ zT := zmem3 129 rfl rfl
theorem zw_658 : Cond.methodLink R_Md 134 y_Md_dropBit ∈ zT := zmem3 133 rfl rfl
theorem zw_662 : Cond.methodLink R_Md 140 y_Md_greatest ∈ zT := zmem3 137 rfl rfl
theorem zw_665 : Cond.methodLink R_Md 143 y_Md_become ∈ zT := zmem3 140 rfl rfl
theorem zw_685 : Cond.methodLink R_Md 167 y_Md_raise ∈ zT := zmem3 160 rfl rfl
theorem zw_689 : Cond.methodLink R_Md 171 y_Md_listAll ∈ zT := zmem3 164 rfl rfl
theorem zw_693 : Cond.methodLink R_Md 174 y_Md_spread ∈ zT := zmem3 168 rfl rfl
theorem zw_696 : Cond.methodLink R_Md 178 y_Md_isOutput ∈ zT := zmem3 171 rfl rfl
theorem zw_700 : Cond.methodLink R_Md 155 y_Md_parity ∈ zT := zmem3 175 rfl rfl
theorem zw_703 : Cond.methodLink R_Md 182 y_Md_phaseOf ∈ zT := zmem3 178 rfl rfl
theorem zw_707 : Jvm.Cond.constantLong R_Md 185 (-1) ∈ zT := zmem3 182 rfl rfl
theorem zw_708 : Cond.methodLink R_Md 187 y_Md_settle ∈ zT := zmem3 183 rfl rfl
theorem zw_712 : Cond.methodLink R_Md 160 y_Md_timesRoot ∈ zT := zmem3 187 rfl rfl
theorem zw_716 : Cond.methodLink R_Md 163 y_Md_byRoot ∈ zT := zmem3 191 rfl rfl
theorem zw_720 : Jvm.Cond.constantLong R_Md 158 (2) ∈ zT := zmem3 195 rfl rfl
theorem mi_Jint_bitCount : zMs y_Jint_bitCount b_Jint_bitCount 1 (some .int) 1 := ⟨zmem1 196 rfl rfl, zmem1 8 rfl rfl, zmem1 195 rfl rfl, by decide, by decide, by decide +kernel⟩
theorem mi_Po_placeOf : zMs y_Po_placeOf b_Po_placeOf 8 (some .int) 1 := ⟨zmem1 192 rfl rfl, zmem1 2 rfl rfl, zmem1 191 rfl rfl, by decide, by decide, by decide +kernel⟩
theorem mi_Jarr_fill : zMs y_Jarr_fill b_Jarr_fill 4 none 2 := ⟨zmem1 109 rfl rfl, zmem1 6 rfl rfl, zmem1 108 rfl rfl, by decide, by decide, by decide +kernel⟩
theorem mi_Ps_has : zMs y_Ps_has b_Ps_has 2 (some .boolean) 2 := ⟨zmem1 161 rfl rfl, zmem1 1 rfl rfl, zmem1 160 rfl rfl, by decide, by decide, by decide +kernel⟩
theorem mi_Po_add : zMi y_Po_add b_Po_add 6 none 2 := ⟨zmem1 189 rfl rfl, zmem1 2 rfl rfl, zmem1 187 rfl rfl, zmem1 188 rfl rfl, by decide, by decide, by decide +kernel⟩
theorem mi_Po_addTriplesBelow : zMi y_Po_addTriplesBelow b_Po_addTriplesBelow 5 none 3 := ⟨zmem1 207 rfl rfl, zmem1 2 rfl rfl, zmem1 206 rfl rfl, zmem0 4 rfl rfl, by decide, by decide, by decide +kernel⟩
theorem mi_Po_addPairsBelow : zMi y_Po_addPairsBelow b_Po_addPairsBelow 6 none 4 := ⟨zmem1 203 rfl rfl, zmem1 2 rfl rfl, zmem1 202 rfl rfl, zmem0 3 rfl rfl, by decide, by decide, by decide +kernel⟩
theorem mi_Po_numberOf : zMi y_Po_numberOf b_Po_numberOf 3 (some .int) 1 := ⟨zmem1 232 rfl rfl, zmem1 2 rfl rfl, zmem1 230 rfl rfl, zmem1 231 rfl rfl, by decide, by decide, by decide +kernel⟩
theorem mi_Po_addXor : zMi y_Po_addXor b_Po_addXor 6 none 3 := ⟨zmem1 184 rfl rfl, zmem1 2 rfl rfl, zmem1 182 rfl rfl, zmem1 183 rfl rfl, by decide, by decide, by decide +kernel⟩
theorem mi_Wa_wiresWith : zMs y_Wa_wiresWith b_Wa_wiresWith 4 (some .int) 2 := ⟨zmem2 155 rfl rfl, zmem1 4 rfl rfl, zmem2 154 rfl rfl, by decide, by decide, by decide +kernel⟩
theorem mi_Wa_addNumber : zMi y_Wa_addNumber b_Wa_addNumber 3 none 2 := ⟨zmem2 165 rfl rfl, zmem1 4 rfl rfl, zmem2 164 rfl rfl, zmem0 14 rfl rfl, by decide, by decide, by decide +kernel⟩
theorem mi_Wa_layProductsBelow : zMi y_Wa_layProductsBelow b_Wa_layProductsBelow 8 none 3 := ⟨zmem2 169 rfl rfl, zmem1 4 rfl rfl, zmem2 168 rfl rfl, zmem0 15 rfl rfl, by decide, by decide, by decide +kernel⟩
theorem mi_Wa_sumOverParts : zMi y_Wa_sumOverParts b_Wa_sumOverParts 4 none 0 := ⟨zmem2 173 rfl rfl, zmem1 4 rfl rfl, zmem2 172 rfl rfl, zmem0 16 rfl rfl, by decide, by decide, by decide +kernel⟩
theorem mi_Ro_multiplyByR : zMi y_Ro_multiplyByR b_Ro_multiplyByR 9 none 0 := ⟨zmem2 186 rfl rfl, zmem1 5 rfl rfl, zmem2 185 rfl rfl, zmem0 17 rfl rfl, by decide, by decide, by decide +kernel⟩
theorem mi_Ro_isMultipleOfR : zMi y_Ro_isMultipleOfR b_Ro_isMultipleOfR 1 (some .boolean) 0 := ⟨zmem2 193 rfl rfl, zmem1 5 rfl rfl, zmem2 192 rfl rfl, zmem0 18 rfl rfl, by decide, by decide, by decide +kernel⟩
theorem mi_Ro_halve : zMi y_Ro_halve b_Ro_halve 1 none 0 := ⟨zmem2 198 rfl rfl, zmem1 5 rfl rfl, zmem2 197 rfl rfl, zmem0 19 rfl rfl, by decide, by decide, by decide +kernel⟩
theorem mi_Po_clear : zMi y_Po_clear b_Po_clear 1 none 0 := ⟨zmem1 113 rfl rfl, zmem1 2 rfl rfl, zmem1 111 rfl rfl, zmem1 112 rfl rfl, by decide, by decide, by decide +kernel⟩
theorem mi_Ps_isWireCount : zMs y_Ps_isWireCount b_Ps_isWireCount 1 (some .boolean) 1 := ⟨zmem1 158 rfl rfl, zmem1 1 rfl rfl, zmem1 157 rfl rfl, by decide, by decide, by decide +kernel⟩
theorem mi_Ps_startAnew : zMi y_Ps_startAnew b_Ps_startAnew 3 none 2 := ⟨zmem1 106 rfl rfl, zmem1 1 rfl rfl, zmem1 105 rfl rfl, zmem0 0 rfl rfl, by decide, by decide, by decide +kernel⟩
theorem mi_Ps_isWire : zMi y_Ps_isWire b_Ps_isWire 2 (some .boolean) 1 := ⟨zmem1 178 rfl rfl, zmem1 1 rfl rfl, zmem1 177 rfl rfl, zmem0 2 rfl rfl, by decide, by decide, by decide +kernel⟩
theorem mi_Po_addFourTimes : zMi y_Po_addFourTimes b_Po_addFourTimes 7 none 3 := ⟨zmem1 211 rfl rfl, zmem1 2 rfl rfl, zmem1 209 rfl rfl, zmem1 210 rfl rfl, by decide, by decide, by decide +kernel⟩
theorem mi_Po_partnersOf : zMi y_Po_partnersOf b_Po_partnersOf 7 (some .int) 1 := ⟨zmem1 236 rfl rfl, zmem1 2 rfl rfl, zmem1 234 rfl rfl, zmem1 235 rfl rfl, by decide, by decide, by decide +kernel⟩
theorem mi_Ps_ruleFor : zMi y_Ps_ruleFor b_Ps_ruleFor 4 (some .int) 1 := ⟨zmem1 228 rfl rfl, zmem1 1 rfl rfl, zmem1 227 rfl rfl, zmem0 7 rfl rfl, by decide, by decide, by decide +kernel⟩
theorem mi_Ps_greatestOf : zMs y_Ps_greatestOf b_Ps_greatestOf 2 (some .int) 1 := ⟨zmem2 4 rfl rfl, zmem1 1 rfl rfl, zmem2 3 rfl rfl, by decide, by decide, by decide +kernel⟩
theorem mi_Dr_keep : zMi y_Dr_keep b_Dr_keep 4 none 3 := ⟨zmem2 8 rfl rfl, zmem1 3 rfl rfl, zmem2 6 rfl rfl, zmem2 7 rfl rfl, by decide, by decide, by decide +kernel⟩
theorem mi_Ps_becomeEmpty : zMi y_Ps_becomeEmpty b_Ps_becomeEmpty 2 none 0 := ⟨zmem2 12 rfl rfl, zmem1 1 rfl rfl, zmem2 11 rfl rfl, zmem0 9 rfl rfl, by decide, by decide, by decide +kernel⟩
theorem mi_Po_replaceBit : zMi y_Po_replaceBit b_Po_replaceBit 7 none 2 := ⟨zmem2 16 rfl rfl, zmem1 2 rfl rfl, zmem2 14 rfl rfl, zmem2 15 rfl rfl, by decide, by decide, by decide +kernel⟩
theorem mi_Ps_replaceInValues : zMi y_Ps_replaceInValues b_Ps_replaceInValues 4 none 2 := ⟨zmem2 21 rfl rfl, zmem1 1 rfl rfl, zmem2 20 rfl rfl, zmem0 10 rfl rfl, by decide, by decide, by decide +kernel⟩
theorem mi_Wa_choose : zMi y_Wa_choose b_Wa_choose 4 none 2 := ⟨zmem2 151 rfl rfl, zmem1 4 rfl rfl, zmem2 149 rfl rfl, zmem2 150 rfl rfl, by decide, by decide, by decide +kernel⟩
theorem mi_Wa_findPhases : zMi y_Wa_findPhases b_Wa_findPhases 4 none 2 := ⟨zmem2 159 rfl rfl, zmem1 4 rfl rfl, zmem2 157 rfl rfl, zmem2 158 rfl rfl, by decide, by decide, by decide +kernel⟩
theorem mi_Wa_tally : zMi y_Wa_tally b_Wa_tally 7 none 2 := ⟨zmem2 177 rfl rfl, zmem1 4 rfl rfl, zmem2 175 rfl rfl, zmem2 176 rfl rfl, by decide, by decide, by decide +kernel⟩
theorem mi_Ro_take : zMi y_Ro_take b_Ro_take 4 none 2 := ⟨zmem2 182 rfl rfl, zmem1 5 rfl rfl, zmem2 180 rfl rfl, zmem2 181 rfl rfl, by decide, by decide, by decide +kernel⟩
theorem mi_Ps_fits : zMi y_Ps_fits b_Ps_fits 6 (some .boolean) 4 := ⟨zmem1 174 rfl rfl, zmem1 1 rfl rfl, zmem1 173 rfl rfl, zmem0 1 rfl rfl, by decide, by decide, by decide +kernel⟩
theorem mi_Ps_bringBit : zMi y_Ps_bringBit b_Ps_bringBit 4 none 2 := ⟨zmem1 215 rfl rfl, zmem1 1 rfl rfl, zmem1 214 rfl rfl, zmem0 5 rfl rfl, by decide, by decide, by decide +kernel⟩
theorem mi_Ps_leastBitWithRule : zMi y_Ps_leastBitWithRule b_Ps_leastBitWithRule 3 (some .int) 0 := ⟨zmem1 224 rfl rfl, zmem1 1 rfl rfl, zmem1 223 rfl rfl, zmem0 6 rfl rfl, by decide, by decide, by decide +kernel⟩
theorem mi_Ps_doRule : zMi y_Ps_doRule b_Ps_doRule 7 none 2 := ⟨zmem2 1 rfl rfl, zmem1 1 rfl rfl, zmem2 0 rfl rfl, zmem0 8 rfl rfl, by decide, by decide, by decide +kernel⟩
theorem mi_Dr_look : zMi y_Dr_look b_Dr_look 3 (some .int) 2 := ⟨zmem2 29 rfl rfl, zmem1 3 rfl rfl, zmem2 27 rfl rfl, zmem2 28 rfl rfl, by decide, by decide, by decide +kernel⟩
theorem mi_Md_placeOf : zMs y_Md_placeOf b_Md_placeOf 4 (some .int) 1 := ⟨zmem3 85 rfl rfl, zmem1 7 rfl rfl, zmem3 84 rfl rfl, by decide, by decide, by decide +kernel⟩
theorem mi_Md_count : zMs y_Md_count b_Md_count 3 (some .int) 1 := ⟨zmem3 82 rfl rfl, zmem1 7 rfl rfl, zmem3 81 rfl rfl, by decide, by decide, by decide +kernel⟩
theorem mi_Md_add : zMi y_Md_add b_Md_add 4 none 2 := ⟨zmem3 79 rfl rfl, zmem1 7 rfl rfl, zmem3 78 rfl rfl, zmem0 25 rfl rfl, by decide, by decide, by decide +kernel⟩
theorem mi_Md_addHalf : zMi y_Md_addHalf b_Md_addHalf 4 none 2 := ⟨zmem3 75 rfl rfl, zmem1 7 rfl rfl, zmem3 74 rfl rfl, zmem0 24 rfl rfl, by decide, by decide, by decide +kernel⟩
theorem mi_Md_addTwo : zMi y_Md_addTwo b_Md_addTwo 5 none 3 := ⟨zmem3 71 rfl rfl, zmem1 7 rfl rfl, zmem3 70 rfl rfl, zmem0 23 rfl rfl, by decide, by decide, by decide +kernel⟩
theorem mi_Md_start : zMi y_Md_start b_Md_start 3 none 1 := ⟨zmem2 212 rfl rfl, zmem1 7 rfl rfl, zmem2 211 rfl rfl, zmem0 20 rfl rfl, by decide, by decide, by decide +kernel⟩
theorem mi_Md_wiresOf : zMs y_Md_wiresOf b_Md_wiresOf 1 (some .int) 1 := ⟨zmem3 59 rfl rfl, zmem1 7 rfl rfl, zmem3 58 rfl rfl, by decide, by decide, by decide +kernel⟩
theorem mi_Md_isWire : zMi y_Md_isWire b_Md_isWire 2 (some .boolean) 1 := ⟨zmem3 63 rfl rfl, zmem1 7 rfl rfl, zmem3 62 rfl rfl, zmem0 21 rfl rfl, by decide, by decide, by decide +kernel⟩
theorem mi_Md_exchange : zMi y_Md_exchange b_Md_exchange 5 none 2 := ⟨zmem3 67 rfl rfl, zmem1 7 rfl rfl, zmem3 66 rfl rfl, zmem0 22 rfl rfl, by decide, by decide, by decide +kernel⟩
theorem mi_Md_eighthsOf : zMs y_Md_eighthsOf b_Md_eighthsOf 1 (some .int) 1 := ⟨zmem3 96 rfl rfl, zmem1 7 rfl rfl, zmem3 95 rfl rfl, by decide, by decide, by decide +kernel⟩
theorem mi_Md_addOr : zMi y_Md_addOr b_Md_addOr 9 none 4 := ⟨zmem3 100 rfl rfl, zmem1 7 rfl rfl, zmem3 99 rfl rfl, zmem0 28 rfl rfl, by decide, by decide, by decide +kernel⟩
theorem mi_Md_addThree : zMi y_Md_addThree b_Md_addThree 5 none 3 := ⟨zmem3 89 rfl rfl, zmem1 7 rfl rfl, zmem3 88 rfl rfl, zmem0 26 rfl rfl, by decide, by decide, by decide +kernel⟩
theorem mi_Md_newBit : zMi y_Md_newBit b_Md_newBit 3 none 2 := ⟨zmem3 93 rfl rfl, zmem1 7 rfl rfl, zmem3 92 rfl rfl, zmem0 27 rfl rfl, by decide, by decide, by decide +kernel⟩
theorem mi_Md_inputs : zMi y_Md_inputs b_Md_inputs 1 (some .int) 0 := ⟨zmem3 116 rfl rfl, zmem1 7 rfl rfl, zmem3 115 rfl rfl, zmem0 31 rfl rfl, by decide, by decide, by decide +kernel⟩
theorem mi_Md_numberOf : zMi y_Md_numberOf b_Md_numberOf 2 (some .int) 1 := ⟨zmem3 124 rfl rfl, zmem1 7 rfl rfl, zmem3 123 rfl rfl, zmem0 33 rfl rfl, by decide, by decide, by decide +kernel⟩
theorem mi_Md_isHidden : zMi y_Md_isHidden b_Md_isHidden 3 (some .boolean) 1 := ⟨zmem3 112 rfl rfl, zmem1 7 rfl rfl, zmem3 111 rfl rfl, zmem0 30 rfl rfl, by decide, by decide, by decide +kernel⟩
theorem mi_Md_findFactor : zMi y_Md_findFactor b_Md_findFactor 5 (some .boolean) 1 := ⟨zmem3 120 rfl rfl, zmem1 7 rfl rfl, zmem3 119 rfl rfl, zmem0 32 rfl rfl, by decide, by decide, by decide +kernel⟩
theorem mi_Md_dropBit : zMi y_Md_dropBit b_Md_dropBit 4 none 1 := ⟨zmem3 136 rfl rfl, zmem1 7 rfl rfl, zmem3 135 rfl rfl, zmem0 36 rfl rfl, by decide, by decide, by decide +kernel⟩
theorem mi_Md_empty : zMi y_Md_empty b_Md_empty 2 none 0 := ⟨zmem3 132 rfl rfl, zmem1 7 rfl rfl, zmem3 131 rfl rfl, zmem0 35 rfl rfl, by decide, by decide, by decide +kernel⟩
theorem mi_Md_greatest : zMs y_Md_greatest b_Md_greatest 2 (some .int) 1 := ⟨zmem3 139 rfl rfl, zmem1 7 rfl rfl, zmem3 138 rfl rfl, by decide, by decide, by decide +kernel⟩
theorem mi_Md_become : zMi y_Md_become b_Md_become 10 none 3 := ⟨zmem3 143 rfl rfl, zmem1 7 rfl rfl, zmem3 142 rfl rfl, zmem0 37 rfl rfl, by decide, by decide, by decide +kernel⟩
theorem mi_Md_ruleFor : zMi y_Md_ruleFor b_Md_ruleFor 3 (some .int) 1 := ⟨zmem3 108 rfl rfl, zmem1 7 rfl rfl, zmem3 107 rfl rfl, zmem0 29 rfl rfl, by decide, by decide, by decide +kernel⟩
theorem mi_Md_doRule : zMi y_Md_doRule b_Md_doRule 6 none 2 := ⟨zmem3 128 rfl rfl, zmem1 7 rfl rfl, zmem3 127 rfl rfl, zmem0 34 rfl rfl, by decide, by decide, by decide +kernel⟩
theorem mi_Md_parity : zMs y_Md_parity b_Md_parity 1 (some .int) 1 := ⟨zmem3 177 rfl rfl, zmem1 7 rfl rfl, zmem3 176 rfl rfl, by decide, by decide, by decide +kernel⟩
theorem mi_Md_timesRoot : zMi y_Md_timesRoot b_Md_timesRoot 9 none 0 := ⟨zmem3 190 rfl rfl, zmem1 7 rfl rfl, zmem3 189 rfl rfl, zmem0 43 rfl rfl, by decide, by decide, by decide +kernel⟩
theorem mi_Md_byRoot : zMi y_Md_byRoot b_Md_byRoot 2 (some .boolean) 0 := ⟨zmem3 194 rfl rfl, zmem1 7 rfl rfl, zmem3 193 rfl rfl, zmem0 44 rfl rfl, by decide, by decide, by decide +kernel⟩
theorem mi_Md_raise : zMi y_Md_raise b_Md_raise 2 (some .long) 1 := ⟨zmem3 163 rfl rfl, zmem1 7 rfl rfl, zmem3 162 rfl rfl, zmem0 38 rfl rfl, by decide, by decide, by decide +kernel⟩
theorem mi_Md_listAll : zMi y_Md_listAll b_Md_listAll 5 none 0 := ⟨zmem3 167 rfl rfl, zmem1 7 rfl rfl, zmem3 166 rfl rfl, zmem0 39 rfl rfl, by decide, by decide, by decide +kernel⟩
theorem mi_Md_spread : zMs y_Md_spread b_Md_spread 5 (some .int) 2 := ⟨zmem3 170 rfl rfl, zmem1 7 rfl rfl, zmem3 169 rfl rfl, by decide, by decide, by decide +kernel⟩
theorem mi_Md_isOutput : zMi y_Md_isOutput b_Md_isOutput 4 (some .boolean) 2 := ⟨zmem3 174 rfl rfl, zmem1 7 rfl rfl, zmem3 173 rfl rfl, zmem0 40 rfl rfl, by decide, by decide, by decide +kernel⟩
theorem mi_Md_phaseOf : zMi y_Md_phaseOf b_Md_phaseOf 4 (some .int) 1 := ⟨zmem3 181 rfl rfl, zmem1 7 rfl rfl, zmem3 180 rfl rfl, zmem0 41 rfl rfl, by decide, by decide, by decide +kernel⟩
theorem mi_Md_settle : zMi y_Md_settle b_Md_settle 2 none 0 := ⟨zmem3 186 rfl rfl, zmem1 7 rfl rfl, zmem3 185 rfl rfl, zmem0 42 rfl rfl, by decide, by decide, by decide +kernel⟩
end
section
theorem d_Ps_has_0 : decode b_Ps_has 0 = .ok (.iload_n 0, 1) := by decide +kernel
theorem d_Ps_has_1 : decode b_Ps_has 1 = .ok (.iload_n 1, 1) := by decide +kernel
theorem d_Ps_has_2 : decode b_Ps_has 2 = .ok (.iushr, 1) := by decide +kernel
theorem d_Ps_has_3 : decode b_Ps_has 3 = .ok (.iconst 1, 1) := by decide +kernel
theorem d_Ps_has_4 : decode b_Ps_has 4 = .ok (.iand, 1) := by decide +kernel
theorem d_Ps_has_5 : decode b_Ps_has 5 = .ok (.ifCond .eq 7, 3) := by decide +kernel
theorem d_Ps_has_8 : decode b_Ps_has 8 = .ok (.iconst 1, 1) := by decide +kernel
theorem d_Ps_has_9 : decode b_Ps_has 9 = .ok (.goto 4, 3) := by decide +kernel
theorem d_Ps_has_12 : decode b_Ps_has 12 = .ok (.iconst 0, 1) := by decide +kernel
theorem d_Ps_has_13 : decode b_Ps_has 13 = .ok (.ireturn, 1) := by decide +kernel
theorem d_Jint_bitCount_0 : decode b_Jint_bitCount 0 = .ok (.iload_n 0, 1) := by decide +kernel
theorem d_Jint_bitCount_1 : decode b_Jint_bitCount 1 = .ok (.iload_n 0, 1) := by decide +kernel
theorem d_Jint_bitCount_2 : decode b_Jint_bitCount 2 = .ok (.iconst 1, 1) := by decide +kernel
theorem d_Jint_bitCount_3 : decode b_Jint_bitCount 3 = .ok (.iushr, 1) := by decide +kernel
theorem d_Jint_bitCount_4 : decode b_Jint_bitCount 4 = .ok (.ldc_w 265, 3) := by decide +kernel
theorem d_Jint_bitCount_7 : decode b_Jint_bitCount 7 = .ok (.iand, 1) := by decide +kernel
theorem d_Jint_bitCount_8 : decode b_Jint_bitCount 8 = .ok (.isub, 1) := by decide +kernel
theorem d_Jint_bitCount_9 : decode b_Jint_bitCount 9 = .ok (.istore_n 0, 1) := by decide +kernel
theorem d_Jint_bitCount_10 : decode b_Jint_bitCount 10 = .ok (.iload_n 0, 1) := by decide +kernel
theorem d_Jint_bitCount_11 : decode b_Jint_bitCount 11 = .ok (.ldc_w 266, 3) := by decide +kernel
theorem d_Jint_bitCount_14 : decode b_Jint_bitCount 14 = .ok (.iand, 1) := by decide +kernel
theorem d_Jint_bitCount_15 : decode b_Jint_bitCount 15 = .ok (.iload_n 0, 1) := by decide +kernel
theorem d_Jint_bitCount_16 : decode b_Jint_bitCount 16 = .ok (.iconst 2, 1) := by decide +kernel
theorem d_Jint_bitCount_17 : decode b_Jint_bitCount 17 = .ok (.iushr, 1) := by decide +kernel
theorem d_Jint_bitCount_18 : decode b_Jint_bitCount 18 = .ok (.ldc_w 266, 3) := by decide +kernel
theorem d_Jint_bitCount_21 : decode b_Jint_bitCount 21 = .ok (.iand, 1) := by decide +kernel
theorem d_Jint_bitCount_22 : decode b_Jint_bitCount 22 = .ok (.iadd, 1) := by decide +kernel
theorem d_Jint_bitCount_23 : decode b_Jint_bitCount 23 = .ok (.istore_n 0, 1) := by decide +kernel
theorem d_Jint_bitCount_24 : decode b_Jint_bitCount 24 = .ok (.iload_n 0, 1) := by decide +kernel
theorem d_Jint_bitCount_25 : decode b_Jint_bitCount 25 = .ok (.iload_n 0, 1) := by decide +kernel
theorem d_Jint_bitCount_26 : decode b_Jint_bitCount 26 = .ok (.iconst 4, 1) := by decide +kernel
theorem d_Jint_bitCount_27 : decode b_Jint_bitCount 27 = .ok (.iushr, 1) := by decide +kernel
theorem d_Jint_bitCount_28 : decode b_Jint_bitCount 28 = .ok (.iadd, 1) := by decide +kernel
theorem d_Jint_bitCount_29 : decode b_Jint_bitCount 29 = .ok (.ldc_w 267, 3) := by decide +kernel
theorem d_Jint_bitCount_32 : decode b_Jint_bitCount 32 = .ok (.iand, 1) := by decide +kernel
theorem d_Jint_bitCount_33 : decode b_Jint_bitCount 33 = .ok (.istore_n 0, 1) := by decide +kernel
theorem d_Jint_bitCount_34 : decode b_Jint_bitCount 34 = .ok (.iload_n 0, 1) := by decide +kernel
theorem d_Jint_bitCount_35 : decode b_Jint_bitCount 35 = .ok (.iload_n 0, 1) := by decide +kernel
theorem d_Jint_bitCount_36 : decode b_Jint_bitCount 36 = .ok (.bipush 8, 2) := by decide +kernel
theorem d_Jint_bitCount_38 : decode b_Jint_bitCount 38 = .ok (.iushr, 1) := by decide +kernel
theorem d_Jint_bitCount_39 : decode b_Jint_bitCount 39 = .ok (.iadd, 1) := by decide +kernel
theorem d_Jint_bitCount_40 : decode b_Jint_bitCount 40 = .ok (.istore_n 0, 1) := by decide +kernel
theorem d_Jint_bitCount_41 : decode b_Jint_bitCount 41 = .ok (.iload_n 0, 1) := by decide +kernel
theorem d_Jint_bitCount_42 : decode b_Jint_bitCount 42 = .ok (.iload_n 0, 1) := by decide +kernel
theorem d_Jint_bitCount_43 : decode b_Jint_bitCount 43 = .ok (.bipush 16, 2) := by decide +kernel
theorem d_Jint_bitCount_45 : decode b_Jint_bitCount 45 = .ok (.iushr, 1) := by decide +kernel
theorem d_Jint_bitCount_46 : decode b_Jint_bitCount 46 = .ok (.iadd, 1) := by decide +kernel
theorem d_Jint_bitCount_47 : decode b_Jint_bitCount 47 = .ok (.istore_n 0, 1) := by decide +kernel
theorem d_Jint_bitCount_48 : decode b_Jint_bitCount 48 = .ok (.iload_n 0, 1) := by decide +kernel
theorem d_Jint_bitCount_49 : decode b_Jint_bitCount 49 = .ok (.bipush 63, 2) := by decide +kernel
theorem d_Jint_bitCount_51 : decode b_Jint_bitCount 51 = .ok (.iand, 1) := by decide +kernel
theorem d_Jint_bitCount_52 : decode b_Jint_bitCount 52 = .ok (.ireturn, 1) := by decide +kernel
theorem d_Jmath_max_0 : decode b_Jmath_max 0 = .ok (.iload_n 0, 1) := by decide +kernel
theorem d_Jmath_max_1 : decode b_Jmath_max 1 = .ok (.iload_n 1, 1) := by decide +kernel
theorem d_Jmath_max_2 : decode b_Jmath_max 2 = .ok (.if_icmp .lt 7, 3) := by decide +kernel
theorem d_Jmath_max_5 : decode b_Jmath_max 5 = .ok (.iload_n 0, 1) := by decide +kernel
theorem d_Jmath_max_6 : decode b_Jmath_max 6 = .ok (.goto 4, 3) := by decide +kernel
theorem d_Jmath_max_9 : decode b_Jmath_max 9 = .ok (.iload_n 1, 1) := by decide +kernel
theorem d_Jmath_max_10 : decode b_Jmath_max 10 = .ok (.ireturn, 1) := by decide +kernel
theorem d_Jarr_fill_0 : decode b_Jarr_fill 0 = .ok (.iconst 0, 1) := by decide +kernel
theorem d_Jarr_fill_1 : decode b_Jarr_fill 1 = .ok (.istore_n 2, 1) := by decide +kernel
theorem d_Jarr_fill_2 : decode b_Jarr_fill 2 = .ok (.aload_n 0, 1) := by decide +kernel
theorem d_Jarr_fill_3 : decode b_Jarr_fill 3 = .ok (.arraylength, 1) := by decide +kernel
theorem d_Jarr_fill_4 : decode b_Jarr_fill 4 = .ok (.istore_n 3, 1) := by decide +kernel
theorem d_Jarr_fill_5 : decode b_Jarr_fill 5 = .ok (.iload_n 2, 1) := by decide +kernel
theorem d_Jarr_fill_6 : decode b_Jarr_fill 6 = .ok (.iload_n 3, 1) := by decide +kernel
theorem d_Jarr_fill_7 : decode b_Jarr_fill 7 = .ok (.if_icmp .ge 13, 3) := by decide +kernel
theorem d_Jarr_fill_10 : decode b_Jarr_fill 10 = .ok (.aload_n 0, 1) := by decide +kernel
theorem d_Jarr_fill_11 : decode b_Jarr_fill 11 = .ok (.iload_n 2, 1) := by decide +kernel
theorem d_Jarr_fill_12 : decode b_Jarr_fill 12 = .ok (.iload_n 1, 1) := by decide +kernel
theorem d_Jarr_fill_13 : decode b_Jarr_fill 13 = .ok (.iastore, 1) := by decide +kernel
theorem d_Jarr_fill_14 : decode b_Jarr_fill 14 = .ok (.iinc 2 1, 3) := by decide +kernel
theorem d_Jarr_fill_17 : decode b_Jarr_fill 17 = .ok (.goto (-12), 3) := by decide +kernel
theorem d_Jarr_fill_20 : decode b_Jarr_fill 20 = .ok (.return_, 1) := by decide +kernel
theorem d_Po_init_0 : decode b_Po_init 0 = .ok (.aload_n 0, 1) := by decide +kernel
theorem d_Po_init_1 : decode b_Po_init 1 = .ok (.invokespecial 5, 3) := by decide +kernel
theorem d_Po_init_4 : decode b_Po_init 4 = .ok (.aload_n 0, 1) := by decide +kernel
theorem d_Po_init_5 : decode b_Po_init 5 = .ok (.sipush 2325, 3) := by decide +kernel
theorem d_Po_init_8 : decode b_Po_init 8 = .ok (.newarray .int, 2) := by decide +kernel
theorem d_Po_init_10 : decode b_Po_init 10 = .ok (.putfield 11, 3) := by decide +kernel
theorem d_Po_init_13 : decode b_Po_init 13 = .ok (.return_, 1) := by decide +kernel
theorem d_Po_clear_0 : decode b_Po_clear 0 = .ok (.aload_n 0, 1) := by decide +kernel
theorem d_Po_clear_1 : decode b_Po_clear 1 = .ok (.getfield 11, 3) := by decide +kernel
theorem d_Po_clear_4 : decode b_Po_clear 4 = .ok (.iconst 0, 1) := by decide +kernel
theorem d_Po_clear_5 : decode b_Po_clear 5 = .ok (.invokestatic 15, 3) := by decide +kernel
theorem d_Po_clear_8 : decode b_Po_clear 8 = .ok (.aload_n 0, 1) := by decide +kernel
theorem d_Po_clear_9 : decode b_Po_clear 9 = .ok (.iconst 0, 1) := by decide +kernel
theorem d_Po_clear_10 : decode b_Po_clear 10 = .ok (.putfield 21, 3) := by decide +kernel
theorem d_Po_clear_13 : decode b_Po_clear 13 = .ok (.return_, 1) := by decide +kernel
theorem d_Po_numberOf_0 : decode b_Po_numberOf 0 = .ok (.iload_n 1, 1) := by decide +kernel
theorem d_Po_numberOf_1 : decode b_Po_numberOf 1 = .ok (.invokestatic 25, 3) := by decide +kernel
theorem d_Po_numberOf_4 : decode b_Po_numberOf 4 = .ok (.istore_n 2, 1) := by decide +kernel
theorem d_Po_numberOf_5 : decode b_Po_numberOf 5 = .ok (.iload_n 2, 1) := by decide +kernel
theorem d_Po_numberOf_6 : decode b_Po_numberOf 6 = .ok (.ifCond .lt 19, 3) := by decide +kernel
theorem d_Po_numberOf_9 : decode b_Po_numberOf 9 = .ok (.iload_n 2, 1) := by decide +kernel
theorem d_Po_numberOf_10 : decode b_Po_numberOf 10 = .ok (.sipush 2325, 3) := by decide +kernel
theorem d_Po_numberOf_13 : decode b_Po_numberOf 13 = .ok (.if_icmp .ge 12, 3) := by decide +kernel
theorem d_Po_numberOf_16 : decode b_Po_numberOf 16 = .ok (.aload_n 0, 1) := by decide +kernel
theorem d_Po_numberOf_17 : decode b_Po_numberOf 17 = .ok (.getfield 11, 3) := by decide +kernel
theorem d_Po_numberOf_20 : decode b_Po_numberOf 20 = .ok (.iload_n 2, 1) := by decide +kernel
theorem d_Po_numberOf_21 : decode b_Po_numberOf 21 = .ok (.iaload, 1) := by decide +kernel
theorem d_Po_numberOf_22 : decode b_Po_numberOf 22 = .ok (.goto 4, 3) := by decide +kernel
theorem d_Po_numberOf_25 : decode b_Po_numberOf 25 = .ok (.iconst 0, 1) := by decide +kernel
theorem d_Po_numberOf_26 : decode b_Po_numberOf 26 = .ok (.ireturn, 1) := by decide +kernel
theorem d_Po_add_0 : decode b_Po_add 0 = .ok (.iload_n 1, 1) := by decide +kernel
theorem d_Po_add_1 : decode b_Po_add 1 = .ok (.invokestatic 25, 3) := by decide +kernel
theorem d_Po_add_4 : decode b_Po_add 4 = .ok (.istore_n 3, 1) := by decide +kernel
theorem d_Po_add_5 : decode b_Po_add 5 = .ok (.iload_n 3, 1) := by decide +kernel
theorem d_Po_add_6 : decode b_Po_add 6 = .ok (.ifCond .lt 10, 3) := by decide +kernel
theorem d_Po_add_9 : decode b_Po_add 9 = .ok (.iload_n 3, 1) := by decide +kernel
theorem d_Po_add_10 : decode b_Po_add 10 = .ok (.sipush 2325, 3) := by decide +kernel
theorem d_Po_add_13 : decode b_Po_add 13 = .ok (.if_icmp .lt 4, 3) := by decide +kernel
theorem d_Po_add_16 : decode b_Po_add 16 = .ok (.return_, 1) := by decide +kernel
theorem d_Po_add_17 : decode b_Po_add 17 = .ok (.aload_n 0, 1) := by decide +kernel
theorem d_Po_add_18 : decode b_Po_add 18 = .ok (.getfield 11, 3) := by decide +kernel
theorem d_Po_add_21 : decode b_Po_add 21 = .ok (.iload_n 3, 1) := by decide +kernel
theorem d_Po_add_22 : decode b_Po_add 22 = .ok (.iaload, 1) := by decide +kernel
theorem d_Po_add_23 : decode b_Po_add 23 = .ok (.istore 4, 2) := by decide +kernel
theorem d_Po_add_25 : decode b_Po_add 25 = .ok (.iload 4, 2) := by decide +kernel
theorem d_Po_add_27 : decode b_Po_add 27 = .ok (.iload_n 2, 1) := by decide +kernel
theorem d_Po_add_28 : decode b_Po_add 28 = .ok (.iadd, 1) := by decide +kernel
theorem d_Po_add_29 : decode b_Po_add 29 = .ok (.bipush 7, 2) := by decide +kernel
theorem d_Po_add_31 : decode b_Po_add 31 = .ok (.iand, 1) := by decide +kernel
theorem d_Po_add_32 : decode b_Po_add 32 = .ok (.istore 5, 2) := by decide +kernel
theorem d_Po_add_34 : decode b_Po_add 34 = .ok (.aload_n 0, 1) := by decide +kernel
theorem d_Po_add_35 : decode b_Po_add 35 = .ok (.getfield 11, 3) := by decide +kernel
theorem d_Po_add_38 : decode b_Po_add 38 = .ok (.iload_n 3, 1) := by decide +kernel
theorem d_Po_add_39 : decode b_Po_add 39 = .ok (.iload 5, 2) := by decide +kernel
theorem d_Po_add_41 : decode b_Po_add 41 = .ok (.iastore, 1) := by decide +kernel
theorem d_Po_add_42 : decode b_Po_add 42 = .ok (.aload_n 0, 1) := by decide +kernel
theorem d_Po_add_43 : decode b_Po_add 43 = .ok (.dup, 1) := by decide +kernel
theorem d_Po_add_44 : decode b_Po_add 44 = .ok (.getfield 21, 3) := by decide +kernel
theorem d_Po_add_47 : decode b_Po_add 47 = .ok (.iload 5, 2) := by decide +kernel
theorem d_Po_add_49 : decode b_Po_add 49 = .ok (.ifCond .ne 7, 3) := by decide +kernel
theorem d_Po_add_52 : decode b_Po_add 52 = .ok (.iconst 0, 1) := by decide +kernel
theorem d_Po_add_53 : decode b_Po_add 53 = .ok (.goto 4, 3) := by decide +kernel
theorem d_Po_add_56 : decode b_Po_add 56 = .ok (.iconst 1, 1) := by decide +kernel
theorem d_Po_add_57 : decode b_Po_add 57 = .ok (.iload 4, 2) := by decide +kernel
theorem d_Po_add_59 : decode b_Po_add 59 = .ok (.ifCond .ne 7, 3) := by decide +kernel
theorem d_Po_add_62 : decode b_Po_add 62 = .ok (.iconst 0, 1) := by decide +kernel
theorem d_Po_add_63 : decode b_Po_add 63 = .ok (.goto 4, 3) := by decide +kernel
theorem d_Po_add_66 : decode b_Po_add 66 = .ok (.iconst 1, 1) := by decide +kernel
theorem d_Po_add_67 : decode b_Po_add 67 = .ok (.isub, 1) := by decide +kernel
theorem d_Po_add_68 : decode b_Po_add 68 = .ok (.iadd, 1) := by decide +kernel
theorem d_Po_add_69 : decode b_Po_add 69 = .ok (.putfield 21, 3) := by decide +kernel
theorem d_Po_add_72 : decode b_Po_add 72 = .ok (.return_, 1) := by decide +kernel
theorem d_Po_addXor_0 : decode b_Po_addXor 0 = .ok (.iload_n 1, 1) := by decide +kernel
theorem d_Po_addXor_1 : decode b_Po_addXor 1 = .ok (.istore 4, 2) := by decide +kernel
theorem d_Po_addXor_3 : decode b_Po_addXor 3 = .ok (.iload_n 2, 1) := by decide +kernel
theorem d_Po_addXor_4 : decode b_Po_addXor 4 = .ok (.bipush 24, 2) := by decide +kernel
theorem d_Po_addXor_6 : decode b_Po_addXor 6 = .ok (.invokestatic 29, 3) := by decide +kernel
theorem d_Po_addXor_9 : decode b_Po_addXor 9 = .ok (.ifCond .eq 13, 3) := by decide +kernel
theorem d_Po_addXor_12 : decode b_Po_addXor 12 = .ok (.aload_n 0, 1) := by decide +kernel
theorem d_Po_addXor_13 : decode b_Po_addXor 13 = .ok (.iload_n 3, 1) := by decide +kernel
theorem d_Po_addXor_14 : decode b_Po_addXor 14 = .ok (.iload_n 1, 1) := by decide +kernel
theorem d_Po_addXor_15 : decode b_Po_addXor 15 = .ok (.invokevirtual 33, 3) := by decide +kernel
theorem d_Po_addXor_18 : decode b_Po_addXor 18 = .ok (.iload_n 1, 1) := by decide +kernel
theorem d_Po_addXor_19 : decode b_Po_addXor 19 = .ok (.ineg, 1) := by decide +kernel
theorem d_Po_addXor_20 : decode b_Po_addXor 20 = .ok (.istore 4, 2) := by decide +kernel
theorem d_Po_addXor_22 : decode b_Po_addXor 22 = .ok (.iconst 0, 1) := by decide +kernel
theorem d_Po_addXor_23 : decode b_Po_addXor 23 = .ok (.istore 5, 2) := by decide +kernel
theorem d_Po_addXor_25 : decode b_Po_addXor 25 = .ok (.iload 5, 2) := by decide +kernel
theorem d_Po_addXor_27 : decode b_Po_addXor 27 = .ok (.bipush 24, 2) := by decide +kernel
theorem d_Po_addXor_29 : decode b_Po_addXor 29 = .ok (.if_icmp .ge 52, 3) := by decide +kernel
theorem d_Po_addXor_32 : decode b_Po_addXor 32 = .ok (.iload_n 2, 1) := by decide +kernel
theorem d_Po_addXor_33 : decode b_Po_addXor 33 = .ok (.iload 5, 2) := by decide +kernel
theorem d_Po_addXor_35 : decode b_Po_addXor 35 = .ok (.invokestatic 29, 3) := by decide +kernel
theorem d_Po_addXor_38 : decode b_Po_addXor 38 = .ok (.ifCond .eq 37, 3) := by decide +kernel
theorem d_Po_addXor_41 : decode b_Po_addXor 41 = .ok (.aload_n 0, 1) := by decide +kernel
theorem d_Po_addXor_42 : decode b_Po_addXor 42 = .ok (.iload_n 3, 1) := by decide +kernel
theorem d_Po_addXor_43 : decode b_Po_addXor 43 = .ok (.iconst 1, 1) := by decide +kernel
theorem d_Po_addXor_44 : decode b_Po_addXor 44 = .ok (.iload 5, 2) := by decide +kernel
theorem d_Po_addXor_46 : decode b_Po_addXor 46 = .ok (.ishl, 1) := by decide +kernel
theorem d_Po_addXor_47 : decode b_Po_addXor 47 = .ok (.ior, 1) := by decide +kernel
theorem d_Po_addXor_48 : decode b_Po_addXor 48 = .ok (.iload 4, 2) := by decide +kernel
theorem d_Po_addXor_50 : decode b_Po_addXor 50 = .ok (.invokevirtual 33, 3) := by decide +kernel
theorem d_Po_addXor_53 : decode b_Po_addXor 53 = .ok (.iload 4, 2) := by decide +kernel
theorem d_Po_addXor_55 : decode b_Po_addXor 55 = .ok (.iconst 3, 1) := by decide +kernel
theorem d_Po_addXor_56 : decode b_Po_addXor 56 = .ok (.iand, 1) := by decide +kernel
theorem d_Po_addXor_57 : decode b_Po_addXor 57 = .ok (.ifCond .eq 18, 3) := by decide +kernel
theorem d_Po_addXor_60 : decode b_Po_addXor 60 = .ok (.aload_n 0, 1) := by decide +kernel
theorem d_Po_addXor_61 : decode b_Po_addXor 61 = .ok (.iload 5, 2) := by decide +kernel
theorem d_Po_addXor_63 : decode b_Po_addXor 63 = .ok (.iload 4, 2) := by decide +kernel
theorem d_Po_addXor_65 : decode b_Po_addXor 65 = .ok (.iload_n 2, 1) := by decide +kernel
theorem d_Po_addXor_66 : decode b_Po_addXor 66 = .ok (.iload_n 3, 1) := by decide +kernel
theorem d_Po_addXor_67 : decode b_Po_addXor 67 = .ok (.iconst 1, 1) := by decide +kernel
theorem d_Po_addXor_68 : decode b_Po_addXor 68 = .ok (.iload 5, 2) := by decide +kernel
theorem d_Po_addXor_70 : decode b_Po_addXor 70 = .ok (.ishl, 1) := by decide +kernel
theorem d_Po_addXor_71 : decode b_Po_addXor 71 = .ok (.ior, 1) := by decide +kernel
theorem d_Po_addXor_72 : decode b_Po_addXor 72 = .ok (.invokevirtual 37, 3) := by decide +kernel
theorem d_Po_addXor_75 : decode b_Po_addXor 75 = .ok (.iinc 5 1, 3) := by decide +kernel
theorem d_Po_addXor_78 : decode b_Po_addXor 78 = .ok (.goto (-53), 3) := by decide +kernel
theorem d_Po_addXor_81 : decode b_Po_addXor 81 = .ok (.return_, 1) := by decide +kernel
theorem d_Po_addPairsBelow_0 : decode b_Po_addPairsBelow 0 = .ok (.iconst 0, 1) := by decide +kernel
theorem d_Po_addPairsBelow_1 : decode b_Po_addPairsBelow 1 = .ok (.istore 5, 2) := by decide +kernel
theorem d_Po_addPairsBelow_3 : decode b_Po_addPairsBelow 3 = .ok (.iload 5, 2) := by decide +kernel
theorem d_Po_addPairsBelow_5 : decode b_Po_addPairsBelow 5 = .ok (.iload_n 1, 1) := by decide +kernel
theorem d_Po_addPairsBelow_6 : decode b_Po_addPairsBelow 6 = .ok (.if_icmp .ge 55, 3) := by decide +kernel
theorem d_Po_addPairsBelow_9 : decode b_Po_addPairsBelow 9 = .ok (.iload_n 3, 1) := by decide +kernel
theorem d_Po_addPairsBelow_10 : decode b_Po_addPairsBelow 10 = .ok (.iload 5, 2) := by decide +kernel
theorem d_Po_addPairsBelow_12 : decode b_Po_addPairsBelow 12 = .ok (.invokestatic 29, 3) := by decide +kernel
theorem d_Po_addPairsBelow_15 : decode b_Po_addPairsBelow 15 = .ok (.ifCond .eq 40, 3) := by decide +kernel
theorem d_Po_addPairsBelow_18 : decode b_Po_addPairsBelow 18 = .ok (.aload_n 0, 1) := by decide +kernel
theorem d_Po_addPairsBelow_19 : decode b_Po_addPairsBelow 19 = .ok (.iload 4, 2) := by decide +kernel
theorem d_Po_addPairsBelow_21 : decode b_Po_addPairsBelow 21 = .ok (.iconst 1, 1) := by decide +kernel
theorem d_Po_addPairsBelow_22 : decode b_Po_addPairsBelow 22 = .ok (.iload 5, 2) := by decide +kernel
theorem d_Po_addPairsBelow_24 : decode b_Po_addPairsBelow 24 = .ok (.ishl, 1) := by decide +kernel
theorem d_Po_addPairsBelow_25 : decode b_Po_addPairsBelow 25 = .ok (.ior, 1) := by decide +kernel
theorem d_Po_addPairsBelow_26 : decode b_Po_addPairsBelow 26 = .ok (.bipush (-2), 2) := by decide +kernel
theorem d_Po_addPairsBelow_28 : decode b_Po_addPairsBelow 28 = .ok (.iload_n 2, 1) := by decide +kernel
theorem d_Po_addPairsBelow_29 : decode b_Po_addPairsBelow 29 = .ok (.imul, 1) := by decide +kernel
theorem d_Po_addPairsBelow_30 : decode b_Po_addPairsBelow 30 = .ok (.invokevirtual 33, 3) := by decide +kernel
theorem d_Po_addPairsBelow_33 : decode b_Po_addPairsBelow 33 = .ok (.iload_n 2, 1) := by decide +kernel
theorem d_Po_addPairsBelow_34 : decode b_Po_addPairsBelow 34 = .ok (.iconst 0, 1) := by decide +kernel
theorem d_Po_addPairsBelow_35 : decode b_Po_addPairsBelow 35 = .ok (.invokestatic 29, 3) := by decide +kernel
theorem d_Po_addPairsBelow_38 : decode b_Po_addPairsBelow 38 = .ok (.ifCond .eq 17, 3) := by decide +kernel
theorem d_Po_addPairsBelow_41 : decode b_Po_addPairsBelow 41 = .ok (.aload_n 0, 1) := by decide +kernel
theorem d_Po_addPairsBelow_42 : decode b_Po_addPairsBelow 42 = .ok (.iload 5, 2) := by decide +kernel
theorem d_Po_addPairsBelow_44 : decode b_Po_addPairsBelow 44 = .ok (.iload_n 3, 1) := by decide +kernel
theorem d_Po_addPairsBelow_45 : decode b_Po_addPairsBelow 45 = .ok (.iload 4, 2) := by decide +kernel
theorem d_Po_addPairsBelow_47 : decode b_Po_addPairsBelow 47 = .ok (.iconst 1, 1) := by decide +kernel
theorem d_Po_addPairsBelow_48 : decode b_Po_addPairsBelow 48 = .ok (.iload 5, 2) := by decide +kernel
theorem d_Po_addPairsBelow_50 : decode b_Po_addPairsBelow 50 = .ok (.ishl, 1) := by decide +kernel
theorem d_Po_addPairsBelow_51 : decode b_Po_addPairsBelow 51 = .ok (.ior, 1) := by decide +kernel
theorem d_Po_addPairsBelow_52 : decode b_Po_addPairsBelow 52 = .ok (.invokevirtual 41, 3) := by decide +kernel
theorem d_Po_addPairsBelow_55 : decode b_Po_addPairsBelow 55 = .ok (.iinc 5 1, 3) := by decide +kernel
theorem d_Po_addPairsBelow_58 : decode b_Po_addPairsBelow 58 = .ok (.goto (-55), 3) := by decide +kernel
theorem d_Po_addPairsBelow_61 : decode b_Po_addPairsBelow 61 = .ok (.return_, 1) := by decide +kernel
theorem d_Po_addTriplesBelow_0 : decode b_Po_addTriplesBelow 0 = .ok (.iconst 0, 1) := by decide +kernel
theorem d_Po_addTriplesBelow_1 : decode b_Po_addTriplesBelow 1 = .ok (.istore 4, 2) := by decide +kernel
theorem d_Po_addTriplesBelow_3 : decode b_Po_addTriplesBelow 3 = .ok (.iload 4, 2) := by decide +kernel
theorem d_Po_addTriplesBelow_5 : decode b_Po_addTriplesBelow 5 = .ok (.iload_n 1, 1) := by decide +kernel
theorem d_Po_addTriplesBelow_6 : decode b_Po_addTriplesBelow 6 = .ok (.if_icmp .ge 29, 3) := by decide +kernel
theorem d_Po_addTriplesBelow_9 : decode b_Po_addTriplesBelow 9 = .ok (.iload_n 2, 1) := by decide +kernel
theorem d_Po_addTriplesBelow_10 : decode b_Po_addTriplesBelow 10 = .ok (.iload 4, 2) := by decide +kernel
theorem d_Po_addTriplesBelow_12 : decode b_Po_addTriplesBelow 12 = .ok (.invokestatic 29, 3) := by decide +kernel
theorem d_Po_addTriplesBelow_15 : decode b_Po_addTriplesBelow 15 = .ok (.ifCond .eq 14, 3) := by decide +kernel
theorem d_Po_addTriplesBelow_18 : decode b_Po_addTriplesBelow 18 = .ok (.aload_n 0, 1) := by decide +kernel
theorem d_Po_addTriplesBelow_19 : decode b_Po_addTriplesBelow 19 = .ok (.iload_n 3, 1) := by decide +kernel
theorem d_Po_addTriplesBelow_20 : decode b_Po_addTriplesBelow 20 = .ok (.iconst 1, 1) := by decide +kernel
theorem d_Po_addTriplesBelow_21 : decode b_Po_addTriplesBelow 21 = .ok (.iload 4, 2) := by decide +kernel
theorem d_Po_addTriplesBelow_23 : decode b_Po_addTriplesBelow 23 = .ok (.ishl, 1) := by decide +kernel
theorem d_Po_addTriplesBelow_24 : decode b_Po_addTriplesBelow 24 = .ok (.ior, 1) := by decide +kernel
theorem d_Po_addTriplesBelow_25 : decode b_Po_addTriplesBelow 25 = .ok (.iconst 4, 1) := by decide +kernel
theorem d_Po_addTriplesBelow_26 : decode b_Po_addTriplesBelow 26 = .ok (.invokevirtual 33, 3) := by decide +kernel
theorem d_Po_addTriplesBelow_29 : decode b_Po_addTriplesBelow 29 = .ok (.iinc 4 1, 3) := by decide +kernel
theorem d_Po_addTriplesBelow_32 : decode b_Po_addTriplesBelow 32 = .ok (.goto (-29), 3) := by decide +kernel
theorem d_Po_addTriplesBelow_35 : decode b_Po_addTriplesBelow 35 = .ok (.return_, 1) := by decide +kernel
theorem d_Po_addFourTimes_0 : decode b_Po_addFourTimes 0 = .ok (.iconst 0, 1) := by decide +kernel
theorem d_Po_addFourTimes_1 : decode b_Po_addFourTimes 1 = .ok (.istore 4, 2) := by decide +kernel
theorem d_Po_addFourTimes_3 : decode b_Po_addFourTimes 3 = .ok (.iload 4, 2) := by decide +kernel
theorem d_Po_addFourTimes_5 : decode b_Po_addFourTimes 5 = .ok (.bipush 24, 2) := by decide +kernel
theorem d_Po_addFourTimes_7 : decode b_Po_addFourTimes 7 = .ok (.if_icmp .gt 96, 3) := by decide +kernel
theorem d_Po_addFourTimes_10 : decode b_Po_addFourTimes 10 = .ok (.iload_n 1, 1) := by decide +kernel
theorem d_Po_addFourTimes_11 : decode b_Po_addFourTimes 11 = .ok (.iload 4, 2) := by decide +kernel
theorem d_Po_addFourTimes_13 : decode b_Po_addFourTimes 13 = .ok (.invokestatic 29, 3) := by decide +kernel
theorem d_Po_addFourTimes_16 : decode b_Po_addFourTimes 16 = .ok (.ifCond .ne 6, 3) := by decide +kernel
theorem d_Po_addFourTimes_19 : decode b_Po_addFourTimes 19 = .ok (.goto 78, 3) := by decide +kernel
theorem d_Po_addFourTimes_22 : decode b_Po_addFourTimes 22 = .ok (.iconst 0, 1) := by decide +kernel
theorem d_Po_addFourTimes_23 : decode b_Po_addFourTimes 23 = .ok (.istore 5, 2) := by decide +kernel
theorem d_Po_addFourTimes_25 : decode b_Po_addFourTimes 25 = .ok (.iload 5, 2) := by decide +kernel
theorem d_Po_addFourTimes_27 : decode b_Po_addFourTimes 27 = .ok (.bipush 24, 2) := by decide +kernel
theorem d_Po_addFourTimes_29 : decode b_Po_addFourTimes 29 = .ok (.if_icmp .gt 68, 3) := by decide +kernel
theorem d_Po_addFourTimes_32 : decode b_Po_addFourTimes 32 = .ok (.iload_n 2, 1) := by decide +kernel
theorem d_Po_addFourTimes_33 : decode b_Po_addFourTimes 33 = .ok (.iload 5, 2) := by decide +kernel
theorem d_Po_addFourTimes_35 : decode b_Po_addFourTimes 35 = .ok (.invokestatic 29, 3) := by decide +kernel
theorem d_Po_addFourTimes_38 : decode b_Po_addFourTimes 38 = .ok (.ifCond .ne 6, 3) := by decide +kernel
theorem d_Po_addFourTimes_41 : decode b_Po_addFourTimes 41 = .ok (.goto 50, 3) := by decide +kernel
theorem d_Po_addFourTimes_44 : decode b_Po_addFourTimes 44 = .ok (.iconst 0, 1) := by decide +kernel
theorem d_Po_addFourTimes_45 : decode b_Po_addFourTimes 45 = .ok (.istore 6, 2) := by decide +kernel
theorem d_Po_addFourTimes_47 : decode b_Po_addFourTimes 47 = .ok (.iload 6, 2) := by decide +kernel
theorem d_Po_addFourTimes_49 : decode b_Po_addFourTimes 49 = .ok (.bipush 24, 2) := by decide +kernel
theorem d_Po_addFourTimes_51 : decode b_Po_addFourTimes 51 = .ok (.if_icmp .gt 40, 3) := by decide +kernel
theorem d_Po_addFourTimes_54 : decode b_Po_addFourTimes 54 = .ok (.iload_n 3, 1) := by decide +kernel
theorem d_Po_addFourTimes_55 : decode b_Po_addFourTimes 55 = .ok (.iload 6, 2) := by decide +kernel
theorem d_Po_addFourTimes_57 : decode b_Po_addFourTimes 57 = .ok (.invokestatic 29, 3) := by decide +kernel
theorem d_Po_addFourTimes_60 : decode b_Po_addFourTimes 60 = .ok (.ifCond .eq 25, 3) := by decide +kernel
theorem d_Po_addFourTimes_63 : decode b_Po_addFourTimes 63 = .ok (.aload_n 0, 1) := by decide +kernel
theorem d_Po_addFourTimes_64 : decode b_Po_addFourTimes 64 = .ok (.iconst 1, 1) := by decide +kernel
theorem d_Po_addFourTimes_65 : decode b_Po_addFourTimes 65 = .ok (.iload 4, 2) := by decide +kernel
theorem d_Po_addFourTimes_67 : decode b_Po_addFourTimes 67 = .ok (.ishl, 1) := by decide +kernel
theorem d_Po_addFourTimes_68 : decode b_Po_addFourTimes 68 = .ok (.iconst 1, 1) := by decide +kernel
theorem d_Po_addFourTimes_69 : decode b_Po_addFourTimes 69 = .ok (.iload 5, 2) := by decide +kernel
theorem d_Po_addFourTimes_71 : decode b_Po_addFourTimes 71 = .ok (.ishl, 1) := by decide +kernel
theorem d_Po_addFourTimes_72 : decode b_Po_addFourTimes 72 = .ok (.ior, 1) := by decide +kernel
theorem d_Po_addFourTimes_73 : decode b_Po_addFourTimes 73 = .ok (.iconst 1, 1) := by decide +kernel
theorem d_Po_addFourTimes_74 : decode b_Po_addFourTimes 74 = .ok (.iload 6, 2) := by decide +kernel
theorem d_Po_addFourTimes_76 : decode b_Po_addFourTimes 76 = .ok (.ishl, 1) := by decide +kernel
theorem d_Po_addFourTimes_77 : decode b_Po_addFourTimes 77 = .ok (.ior, 1) := by decide +kernel
theorem d_Po_addFourTimes_78 : decode b_Po_addFourTimes 78 = .ok (.ldc 45, 2) := by decide +kernel
theorem d_Po_addFourTimes_80 : decode b_Po_addFourTimes 80 = .ok (.iand, 1) := by decide +kernel
theorem d_Po_addFourTimes_81 : decode b_Po_addFourTimes 81 = .ok (.iconst 4, 1) := by decide +kernel
theorem d_Po_addFourTimes_82 : decode b_Po_addFourTimes 82 = .ok (.invokevirtual 33, 3) := by decide +kernel
theorem d_Po_addFourTimes_85 : decode b_Po_addFourTimes 85 = .ok (.iinc 6 1, 3) := by decide +kernel
theorem d_Po_addFourTimes_88 : decode b_Po_addFourTimes 88 = .ok (.goto (-41), 3) := by decide +kernel
theorem d_Po_addFourTimes_91 : decode b_Po_addFourTimes 91 = .ok (.iinc 5 1, 3) := by decide +kernel
theorem d_Po_addFourTimes_94 : decode b_Po_addFourTimes 94 = .ok (.goto (-69), 3) := by decide +kernel
theorem d_Po_addFourTimes_97 : decode b_Po_addFourTimes 97 = .ok (.iinc 4 1, 3) := by decide +kernel
theorem d_Po_addFourTimes_100 : decode b_Po_addFourTimes 100 = .ok (.goto (-97), 3) := by decide +kernel
theorem d_Po_addFourTimes_103 : decode b_Po_addFourTimes 103 = .ok (.return_, 1) := by decide +kernel
theorem d_Po_replaceBit_0 : decode b_Po_replaceBit 0 = .ok (.iconst 0, 1) := by decide +kernel
theorem d_Po_replaceBit_1 : decode b_Po_replaceBit 1 = .ok (.istore_n 3, 1) := by decide +kernel
theorem d_Po_replaceBit_2 : decode b_Po_replaceBit 2 = .ok (.iload_n 3, 1) := by decide +kernel
theorem d_Po_replaceBit_3 : decode b_Po_replaceBit 3 = .ok (.bipush 24, 2) := by decide +kernel
theorem d_Po_replaceBit_5 : decode b_Po_replaceBit 5 = .ok (.if_icmp .ge 75, 3) := by decide +kernel
theorem d_Po_replaceBit_8 : decode b_Po_replaceBit 8 = .ok (.iconst 0, 1) := by decide +kernel
theorem d_Po_replaceBit_9 : decode b_Po_replaceBit 9 = .ok (.istore 4, 2) := by decide +kernel
theorem d_Po_replaceBit_11 : decode b_Po_replaceBit 11 = .ok (.iload 4, 2) := by decide +kernel
theorem d_Po_replaceBit_13 : decode b_Po_replaceBit 13 = .ok (.iload_n 3, 1) := by decide +kernel
theorem d_Po_replaceBit_14 : decode b_Po_replaceBit 14 = .ok (.if_icmp .gt 60, 3) := by decide +kernel
theorem d_Po_replaceBit_17 : decode b_Po_replaceBit 17 = .ok (.iconst 1, 1) := by decide +kernel
theorem d_Po_replaceBit_18 : decode b_Po_replaceBit 18 = .ok (.iload_n 1, 1) := by decide +kernel
theorem d_Po_replaceBit_19 : decode b_Po_replaceBit 19 = .ok (.ishl, 1) := by decide +kernel
theorem d_Po_replaceBit_20 : decode b_Po_replaceBit 20 = .ok (.iconst 1, 1) := by decide +kernel
theorem d_Po_replaceBit_21 : decode b_Po_replaceBit 21 = .ok (.iload_n 3, 1) := by decide +kernel
theorem d_Po_replaceBit_22 : decode b_Po_replaceBit 22 = .ok (.ishl, 1) := by decide +kernel
theorem d_Po_replaceBit_23 : decode b_Po_replaceBit 23 = .ok (.ior, 1) := by decide +kernel
theorem d_Po_replaceBit_24 : decode b_Po_replaceBit 24 = .ok (.iconst 1, 1) := by decide +kernel
theorem d_Po_replaceBit_25 : decode b_Po_replaceBit 25 = .ok (.iload 4, 2) := by decide +kernel
theorem d_Po_replaceBit_27 : decode b_Po_replaceBit 27 = .ok (.ishl, 1) := by decide +kernel
theorem d_Po_replaceBit_28 : decode b_Po_replaceBit 28 = .ok (.ior, 1) := by decide +kernel
theorem d_Po_replaceBit_29 : decode b_Po_replaceBit 29 = .ok (.istore 5, 2) := by decide +kernel
theorem d_Po_replaceBit_31 : decode b_Po_replaceBit 31 = .ok (.aload_n 0, 1) := by decide +kernel
theorem d_Po_replaceBit_32 : decode b_Po_replaceBit 32 = .ok (.iload 5, 2) := by decide +kernel
theorem d_Po_replaceBit_34 : decode b_Po_replaceBit 34 = .ok (.invokevirtual 46, 3) := by decide +kernel
theorem d_Po_replaceBit_37 : decode b_Po_replaceBit 37 = .ok (.istore 6, 2) := by decide +kernel
theorem d_Po_replaceBit_39 : decode b_Po_replaceBit 39 = .ok (.iload 6, 2) := by decide +kernel
theorem d_Po_replaceBit_41 : decode b_Po_replaceBit 41 = .ok (.ifCond .eq 27, 3) := by decide +kernel
theorem d_Po_replaceBit_44 : decode b_Po_replaceBit 44 = .ok (.aload_n 0, 1) := by decide +kernel
theorem d_Po_replaceBit_45 : decode b_Po_replaceBit 45 = .ok (.iload 5, 2) := by decide +kernel
theorem d_Po_replaceBit_47 : decode b_Po_replaceBit 47 = .ok (.iload 6, 2) := by decide +kernel
theorem d_Po_replaceBit_49 : decode b_Po_replaceBit 49 = .ok (.ineg, 1) := by decide +kernel
theorem d_Po_replaceBit_50 : decode b_Po_replaceBit 50 = .ok (.invokevirtual 33, 3) := by decide +kernel
theorem d_Po_replaceBit_53 : decode b_Po_replaceBit 53 = .ok (.aload_n 0, 1) := by decide +kernel
theorem d_Po_replaceBit_54 : decode b_Po_replaceBit 54 = .ok (.iload 6, 2) := by decide +kernel
theorem d_Po_replaceBit_56 : decode b_Po_replaceBit 56 = .ok (.iload_n 2, 1) := by decide +kernel
theorem d_Po_replaceBit_57 : decode b_Po_replaceBit 57 = .ok (.iload 5, 2) := by decide +kernel
theorem d_Po_replaceBit_59 : decode b_Po_replaceBit 59 = .ok (.iconst 1, 1) := by decide +kernel
theorem d_Po_replaceBit_60 : decode b_Po_replaceBit 60 = .ok (.iload_n 1, 1) := by decide +kernel
theorem d_Po_replaceBit_61 : decode b_Po_replaceBit 61 = .ok (.ishl, 1) := by decide +kernel
theorem d_Po_replaceBit_62 : decode b_Po_replaceBit 62 = .ok (.iconst (-1), 1) := by decide +kernel
theorem d_Po_replaceBit_63 : decode b_Po_replaceBit 63 = .ok (.ixor, 1) := by decide +kernel
theorem d_Po_replaceBit_64 : decode b_Po_replaceBit 64 = .ok (.iand, 1) := by decide +kernel
theorem d_Po_replaceBit_65 : decode b_Po_replaceBit 65 = .ok (.invokevirtual 49, 3) := by decide +kernel
theorem d_Po_replaceBit_68 : decode b_Po_replaceBit 68 = .ok (.iinc 4 1, 3) := by decide +kernel
theorem d_Po_replaceBit_71 : decode b_Po_replaceBit 71 = .ok (.goto (-60), 3) := by decide +kernel
theorem d_Po_replaceBit_74 : decode b_Po_replaceBit 74 = .ok (.iinc 3 1, 3) := by decide +kernel
theorem d_Po_replaceBit_77 : decode b_Po_replaceBit 77 = .ok (.goto (-75), 3) := by decide +kernel
theorem d_Po_replaceBit_80 : decode b_Po_replaceBit 80 = .ok (.return_, 1) := by decide +kernel
theorem d_Po_partnersOf_0 : decode b_Po_partnersOf 0 = .ok (.iconst 0, 1) := by decide +kernel
theorem d_Po_partnersOf_1 : decode b_Po_partnersOf 1 = .ok (.istore_n 2, 1) := by decide +kernel
theorem d_Po_partnersOf_2 : decode b_Po_partnersOf 2 = .ok (.iconst 0, 1) := by decide +kernel
theorem d_Po_partnersOf_3 : decode b_Po_partnersOf 3 = .ok (.istore_n 3, 1) := by decide +kernel
theorem d_Po_partnersOf_4 : decode b_Po_partnersOf 4 = .ok (.iload_n 3, 1) := by decide +kernel
theorem d_Po_partnersOf_5 : decode b_Po_partnersOf 5 = .ok (.bipush 24, 2) := by decide +kernel
theorem d_Po_partnersOf_7 : decode b_Po_partnersOf 7 = .ok (.if_icmp .ge 100, 3) := by decide +kernel
theorem d_Po_partnersOf_10 : decode b_Po_partnersOf 10 = .ok (.iconst 0, 1) := by decide +kernel
theorem d_Po_partnersOf_11 : decode b_Po_partnersOf 11 = .ok (.istore 4, 2) := by decide +kernel
theorem d_Po_partnersOf_13 : decode b_Po_partnersOf 13 = .ok (.iload 4, 2) := by decide +kernel
theorem d_Po_partnersOf_15 : decode b_Po_partnersOf 15 = .ok (.iload_n 3, 1) := by decide +kernel
theorem d_Po_partnersOf_16 : decode b_Po_partnersOf 16 = .ok (.if_icmp .gt 85, 3) := by decide +kernel
theorem d_Po_partnersOf_19 : decode b_Po_partnersOf 19 = .ok (.iconst 1, 1) := by decide +kernel
theorem d_Po_partnersOf_20 : decode b_Po_partnersOf 20 = .ok (.iload_n 1, 1) := by decide +kernel
theorem d_Po_partnersOf_21 : decode b_Po_partnersOf 21 = .ok (.ishl, 1) := by decide +kernel
theorem d_Po_partnersOf_22 : decode b_Po_partnersOf 22 = .ok (.iconst 1, 1) := by decide +kernel
theorem d_Po_partnersOf_23 : decode b_Po_partnersOf 23 = .ok (.iload_n 3, 1) := by decide +kernel
theorem d_Po_partnersOf_24 : decode b_Po_partnersOf 24 = .ok (.ishl, 1) := by decide +kernel
theorem d_Po_partnersOf_25 : decode b_Po_partnersOf 25 = .ok (.ior, 1) := by decide +kernel
theorem d_Po_partnersOf_26 : decode b_Po_partnersOf 26 = .ok (.iconst 1, 1) := by decide +kernel
theorem d_Po_partnersOf_27 : decode b_Po_partnersOf 27 = .ok (.iload 4, 2) := by decide +kernel
theorem d_Po_partnersOf_29 : decode b_Po_partnersOf 29 = .ok (.ishl, 1) := by decide +kernel
theorem d_Po_partnersOf_30 : decode b_Po_partnersOf 30 = .ok (.ior, 1) := by decide +kernel
theorem d_Po_partnersOf_31 : decode b_Po_partnersOf 31 = .ok (.istore 5, 2) := by decide +kernel
theorem d_Po_partnersOf_33 : decode b_Po_partnersOf 33 = .ok (.iload 5, 2) := by decide +kernel
theorem d_Po_partnersOf_35 : decode b_Po_partnersOf 35 = .ok (.iconst 1, 1) := by decide +kernel
theorem d_Po_partnersOf_36 : decode b_Po_partnersOf 36 = .ok (.iload_n 1, 1) := by decide +kernel
theorem d_Po_partnersOf_37 : decode b_Po_partnersOf 37 = .ok (.ishl, 1) := by decide +kernel
theorem d_Po_partnersOf_38 : decode b_Po_partnersOf 38 = .ok (.if_icmp .ne 7, 3) := by decide +kernel
theorem d_Po_partnersOf_41 : decode b_Po_partnersOf 41 = .ok (.iconst 0, 1) := by decide +kernel
theorem d_Po_partnersOf_42 : decode b_Po_partnersOf 42 = .ok (.goto 9, 3) := by decide +kernel
theorem d_Po_partnersOf_45 : decode b_Po_partnersOf 45 = .ok (.aload_n 0, 1) := by decide +kernel
theorem d_Po_partnersOf_46 : decode b_Po_partnersOf 46 = .ok (.iload 5, 2) := by decide +kernel
theorem d_Po_partnersOf_48 : decode b_Po_partnersOf 48 = .ok (.invokevirtual 46, 3) := by decide +kernel
theorem d_Po_partnersOf_51 : decode b_Po_partnersOf 51 = .ok (.istore 6, 2) := by decide +kernel
theorem d_Po_partnersOf_53 : decode b_Po_partnersOf 53 = .ok (.iload 6, 2) := by decide +kernel
theorem d_Po_partnersOf_55 : decode b_Po_partnersOf 55 = .ok (.ifCond .eq 20, 3) := by decide +kernel
theorem d_Po_partnersOf_58 : decode b_Po_partnersOf 58 = .ok (.iload 6, 2) := by decide +kernel
theorem d_Po_partnersOf_60 : decode b_Po_partnersOf 60 = .ok (.iconst 4, 1) := by decide +kernel
theorem d_Po_partnersOf_61 : decode b_Po_partnersOf 61 = .ok (.if_icmp .ne 12, 3) := by decide +kernel
theorem d_Po_partnersOf_64 : decode b_Po_partnersOf 64 = .ok (.iload 5, 2) := by decide +kernel
theorem d_Po_partnersOf_66 : decode b_Po_partnersOf 66 = .ok (.invokestatic 52, 3) := by decide +kernel
theorem d_Po_partnersOf_69 : decode b_Po_partnersOf 69 = .ok (.iconst 2, 1) := by decide +kernel
theorem d_Po_partnersOf_70 : decode b_Po_partnersOf 70 = .ok (.if_icmp .le 5, 3) := by decide +kernel
theorem d_Po_partnersOf_73 : decode b_Po_partnersOf 73 = .ok (.iconst (-1), 1) := by decide +kernel
theorem d_Po_partnersOf_74 : decode b_Po_partnersOf 74 = .ok (.ireturn, 1) := by decide +kernel
theorem d_Po_partnersOf_75 : decode b_Po_partnersOf 75 = .ok (.iload_n 2, 1) := by decide +kernel
theorem d_Po_partnersOf_76 : decode b_Po_partnersOf 76 = .ok (.iload 6, 2) := by decide +kernel
theorem d_Po_partnersOf_78 : decode b_Po_partnersOf 78 = .ok (.ifCond .ne 7, 3) := by decide +kernel
theorem d_Po_partnersOf_81 : decode b_Po_partnersOf 81 = .ok (.iconst 0, 1) := by decide +kernel
theorem d_Po_partnersOf_82 : decode b_Po_partnersOf 82 = .ok (.goto 11, 3) := by decide +kernel
theorem d_Po_partnersOf_85 : decode b_Po_partnersOf 85 = .ok (.iload 5, 2) := by decide +kernel
theorem d_Po_partnersOf_87 : decode b_Po_partnersOf 87 = .ok (.iconst 1, 1) := by decide +kernel
theorem d_Po_partnersOf_88 : decode b_Po_partnersOf 88 = .ok (.iload_n 1, 1) := by decide +kernel
theorem d_Po_partnersOf_89 : decode b_Po_partnersOf 89 = .ok (.ishl, 1) := by decide +kernel
theorem d_Po_partnersOf_90 : decode b_Po_partnersOf 90 = .ok (.iconst (-1), 1) := by decide +kernel
theorem d_Po_partnersOf_91 : decode b_Po_partnersOf 91 = .ok (.ixor, 1) := by decide +kernel
theorem d_Po_partnersOf_92 : decode b_Po_partnersOf 92 = .ok (.iand, 1) := by decide +kernel
theorem d_Po_partnersOf_93 : decode b_Po_partnersOf 93 = .ok (.ior, 1) := by decide +kernel
theorem d_Po_partnersOf_94 : decode b_Po_partnersOf 94 = .ok (.istore_n 2, 1) := by decide +kernel
theorem d_Po_partnersOf_95 : decode b_Po_partnersOf 95 = .ok (.iinc 4 1, 3) := by decide +kernel
theorem d_Po_partnersOf_98 : decode b_Po_partnersOf 98 = .ok (.goto (-85), 3) := by decide +kernel
theorem d_Po_partnersOf_101 : decode b_Po_partnersOf 101 = .ok (.iinc 3 1, 3) := by decide +kernel
theorem d_Po_partnersOf_104 : decode b_Po_partnersOf 104 = .ok (.goto (-100), 3) := by decide +kernel
theorem d_Po_partnersOf_107 : decode b_Po_partnersOf 107 = .ok (.iload_n 2, 1) := by decide +kernel
theorem d_Po_partnersOf_108 : decode b_Po_partnersOf 108 = .ok (.ireturn, 1) := by decide +kernel
theorem d_Po_placeOf_0 : decode b_Po_placeOf 0 = .ok (.iload_n 0, 1) := by decide +kernel
theorem d_Po_placeOf_1 : decode b_Po_placeOf 1 = .ok (.iload_n 0, 1) := by decide +kernel
theorem d_Po_placeOf_2 : decode b_Po_placeOf 2 = .ok (.ineg, 1) := by decide +kernel
theorem d_Po_placeOf_3 : decode b_Po_placeOf 3 = .ok (.iand, 1) := by decide +kernel
theorem d_Po_placeOf_4 : decode b_Po_placeOf 4 = .ok (.istore_n 1, 1) := by decide +kernel
theorem d_Po_placeOf_5 : decode b_Po_placeOf 5 = .ok (.iload_n 0, 1) := by decide +kernel
theorem d_Po_placeOf_6 : decode b_Po_placeOf 6 = .ok (.iload_n 1, 1) := by decide +kernel
theorem d_Po_placeOf_7 : decode b_Po_placeOf 7 = .ok (.iconst (-1), 1) := by decide +kernel
theorem d_Po_placeOf_8 : decode b_Po_placeOf 8 = .ok (.ixor, 1) := by decide +kernel
theorem d_Po_placeOf_9 : decode b_Po_placeOf 9 = .ok (.iand, 1) := by decide +kernel
theorem d_Po_placeOf_10 : decode b_Po_placeOf 10 = .ok (.iload_n 0, 1) := by decide +kernel
theorem d_Po_placeOf_11 : decode b_Po_placeOf 11 = .ok (.iload_n 1, 1) := by decide +kernel
theorem d_Po_placeOf_12 : decode b_Po_placeOf 12 = .ok (.iconst (-1), 1) := by decide +kernel
theorem d_Po_placeOf_13 : decode b_Po_placeOf 13 = .ok (.ixor, 1) := by decide +kernel
theorem d_Po_placeOf_14 : decode b_Po_placeOf 14 = .ok (.iand, 1) := by decide +kernel
theorem d_Po_placeOf_15 : decode b_Po_placeOf 15 = .ok (.ineg, 1) := by decide +kernel
theorem d_Po_placeOf_16 : decode b_Po_placeOf 16 = .ok (.iand, 1) := by decide +kernel
theorem d_Po_placeOf_17 : decode b_Po_placeOf 17 = .ok (.istore_n 2, 1) := by decide +kernel
theorem d_Po_placeOf_18 : decode b_Po_placeOf 18 = .ok (.iload_n 0, 1) := by decide +kernel
theorem d_Po_placeOf_19 : decode b_Po_placeOf 19 = .ok (.iload_n 1, 1) := by decide +kernel
theorem d_Po_placeOf_20 : decode b_Po_placeOf 20 = .ok (.iconst (-1), 1) := by decide +kernel
theorem d_Po_placeOf_21 : decode b_Po_placeOf 21 = .ok (.ixor, 1) := by decide +kernel
theorem d_Po_placeOf_22 : decode b_Po_placeOf 22 = .ok (.iand, 1) := by decide +kernel
theorem d_Po_placeOf_23 : decode b_Po_placeOf 23 = .ok (.iload_n 2, 1) := by decide +kernel
theorem d_Po_placeOf_24 : decode b_Po_placeOf 24 = .ok (.iconst (-1), 1) := by decide +kernel
theorem d_Po_placeOf_25 : decode b_Po_placeOf 25 = .ok (.ixor, 1) := by decide +kernel
theorem d_Po_placeOf_26 : decode b_Po_placeOf 26 = .ok (.iand, 1) := by decide +kernel
theorem d_Po_placeOf_27 : decode b_Po_placeOf 27 = .ok (.istore_n 3, 1) := by decide +kernel
theorem d_Po_placeOf_28 : decode b_Po_placeOf 28 = .ok (.iload_n 0, 1) := by decide +kernel
theorem d_Po_placeOf_29 : decode b_Po_placeOf 29 = .ok (.ifCond .lt 17, 3) := by decide +kernel
theorem d_Po_placeOf_32 : decode b_Po_placeOf 32 = .ok (.iload_n 0, 1) := by decide +kernel
theorem d_Po_placeOf_33 : decode b_Po_placeOf 33 = .ok (.ldc 45, 2) := by decide +kernel
theorem d_Po_placeOf_35 : decode b_Po_placeOf 35 = .ok (.if_icmp .gt 11, 3) := by decide +kernel
theorem d_Po_placeOf_38 : decode b_Po_placeOf 38 = .ok (.iload_n 3, 1) := by decide +kernel
theorem d_Po_placeOf_39 : decode b_Po_placeOf 39 = .ok (.iload_n 3, 1) := by decide +kernel
theorem d_Po_placeOf_40 : decode b_Po_placeOf 40 = .ok (.iconst 1, 1) := by decide +kernel
theorem d_Po_placeOf_41 : decode b_Po_placeOf 41 = .ok (.isub, 1) := by decide +kernel
theorem d_Po_placeOf_42 : decode b_Po_placeOf 42 = .ok (.iand, 1) := by decide +kernel
theorem d_Po_placeOf_43 : decode b_Po_placeOf 43 = .ok (.ifCond .eq 5, 3) := by decide +kernel
theorem d_Po_placeOf_46 : decode b_Po_placeOf 46 = .ok (.iconst (-1), 1) := by decide +kernel
theorem d_Po_placeOf_47 : decode b_Po_placeOf 47 = .ok (.ireturn, 1) := by decide +kernel
theorem d_Po_placeOf_48 : decode b_Po_placeOf 48 = .ok (.iload_n 0, 1) := by decide +kernel
theorem d_Po_placeOf_49 : decode b_Po_placeOf 49 = .ok (.ifCond .ne 5, 3) := by decide +kernel
theorem d_Po_placeOf_52 : decode b_Po_placeOf 52 = .ok (.iconst 0, 1) := by decide +kernel
theorem d_Po_placeOf_53 : decode b_Po_placeOf 53 = .ok (.ireturn, 1) := by decide +kernel
theorem d_Po_placeOf_54 : decode b_Po_placeOf 54 = .ok (.iload_n 1, 1) := by decide +kernel
theorem d_Po_placeOf_55 : decode b_Po_placeOf 55 = .ok (.iconst 1, 1) := by decide +kernel
theorem d_Po_placeOf_56 : decode b_Po_placeOf 56 = .ok (.isub, 1) := by decide +kernel
theorem d_Po_placeOf_57 : decode b_Po_placeOf 57 = .ok (.invokestatic 52, 3) := by decide +kernel
theorem d_Po_placeOf_60 : decode b_Po_placeOf 60 = .ok (.istore 4, 2) := by decide +kernel
theorem d_Po_placeOf_62 : decode b_Po_placeOf 62 = .ok (.iload_n 2, 1) := by decide +kernel
theorem d_Po_placeOf_63 : decode b_Po_placeOf 63 = .ok (.ifCond .ne 8, 3) := by decide +kernel
theorem d_Po_placeOf_66 : decode b_Po_placeOf 66 = .ok (.iconst 1, 1) := by decide +kernel
theorem d_Po_placeOf_67 : decode b_Po_placeOf 67 = .ok (.iload 4, 2) := by decide +kernel
theorem d_Po_placeOf_69 : decode b_Po_placeOf 69 = .ok (.iadd, 1) := by decide +kernel
theorem d_Po_placeOf_70 : decode b_Po_placeOf 70 = .ok (.ireturn, 1) := by decide +kernel
theorem d_Po_placeOf_71 : decode b_Po_placeOf 71 = .ok (.iload_n 2, 1) := by decide +kernel
theorem d_Po_placeOf_72 : decode b_Po_placeOf 72 = .ok (.iconst 1, 1) := by decide +kernel
theorem d_Po_placeOf_73 : decode b_Po_placeOf 73 = .ok (.isub, 1) := by decide +kernel
theorem d_Po_placeOf_74 : decode b_Po_placeOf 74 = .ok (.invokestatic 52, 3) := by decide +kernel
theorem d_Po_placeOf_77 : decode b_Po_placeOf 77 = .ok (.istore 5, 2) := by decide +kernel
theorem d_Po_placeOf_79 : decode b_Po_placeOf 79 = .ok (.iload 5, 2) := by decide +kernel
theorem d_Po_placeOf_81 : decode b_Po_placeOf 81 = .ok (.iload 5, 2) := by decide +kernel
theorem d_Po_placeOf_83 : decode b_Po_placeOf 83 = .ok (.iconst 1, 1) := by decide +kernel
theorem d_Po_placeOf_84 : decode b_Po_placeOf 84 = .ok (.isub, 1) := by decide +kernel
theorem d_Po_placeOf_85 : decode b_Po_placeOf 85 = .ok (.imul, 1) := by decide +kernel
theorem d_Po_placeOf_86 : decode b_Po_placeOf 86 = .ok (.iconst 2, 1) := by decide +kernel
theorem d_Po_placeOf_87 : decode b_Po_placeOf 87 = .ok (.idiv, 1) := by decide +kernel
theorem d_Po_placeOf_88 : decode b_Po_placeOf 88 = .ok (.iload 4, 2) := by decide +kernel
theorem d_Po_placeOf_90 : decode b_Po_placeOf 90 = .ok (.iadd, 1) := by decide +kernel
theorem d_Po_placeOf_91 : decode b_Po_placeOf 91 = .ok (.istore 6, 2) := by decide +kernel
theorem d_Po_placeOf_93 : decode b_Po_placeOf 93 = .ok (.iload_n 3, 1) := by decide +kernel
theorem d_Po_placeOf_94 : decode b_Po_placeOf 94 = .ok (.ifCond .ne 9, 3) := by decide +kernel
theorem d_Po_placeOf_97 : decode b_Po_placeOf 97 = .ok (.bipush 25, 2) := by decide +kernel
theorem d_Po_placeOf_99 : decode b_Po_placeOf 99 = .ok (.iload 6, 2) := by decide +kernel
theorem d_Po_placeOf_101 : decode b_Po_placeOf 101 = .ok (.iadd, 1) := by decide +kernel
theorem d_Po_placeOf_102 : decode b_Po_placeOf 102 = .ok (.ireturn, 1) := by decide +kernel
theorem d_Po_placeOf_103 : decode b_Po_placeOf 103 = .ok (.iload_n 3, 1) := by decide +kernel
theorem d_Po_placeOf_104 : decode b_Po_placeOf 104 = .ok (.iconst 1, 1) := by decide +kernel
theorem d_Po_placeOf_105 : decode b_Po_placeOf 105 = .ok (.isub, 1) := by decide +kernel
theorem d_Po_placeOf_106 : decode b_Po_placeOf 106 = .ok (.invokestatic 52, 3) := by decide +kernel
theorem d_Po_placeOf_109 : decode b_Po_placeOf 109 = .ok (.istore 7, 2) := by decide +kernel
theorem d_Po_placeOf_111 : decode b_Po_placeOf 111 = .ok (.sipush 301, 3) := by decide +kernel
theorem d_Po_placeOf_114 : decode b_Po_placeOf 114 = .ok (.iload 7, 2) := by decide +kernel
theorem d_Po_placeOf_116 : decode b_Po_placeOf 116 = .ok (.iload 7, 2) := by decide +kernel
theorem d_Po_placeOf_118 : decode b_Po_placeOf 118 = .ok (.iconst 1, 1) := by decide +kernel
theorem d_Po_placeOf_119 : decode b_Po_placeOf 119 = .ok (.isub, 1) := by decide +kernel
theorem d_Po_placeOf_120 : decode b_Po_placeOf 120 = .ok (.imul, 1) := by decide +kernel
theorem d_Po_placeOf_121 : decode b_Po_placeOf 121 = .ok (.iload 7, 2) := by decide +kernel
theorem d_Po_placeOf_123 : decode b_Po_placeOf 123 = .ok (.iconst 2, 1) := by decide +kernel
theorem d_Po_placeOf_124 : decode b_Po_placeOf 124 = .ok (.isub, 1) := by decide +kernel
theorem d_Po_placeOf_125 : decode b_Po_placeOf 125 = .ok (.imul, 1) := by decide +kernel
theorem d_Po_placeOf_126 : decode b_Po_placeOf 126 = .ok (.bipush 6, 2) := by decide +kernel
theorem d_Po_placeOf_128 : decode b_Po_placeOf 128 = .ok (.idiv, 1) := by decide +kernel
theorem d_Po_placeOf_129 : decode b_Po_placeOf 129 = .ok (.iadd, 1) := by decide +kernel
theorem d_Po_placeOf_130 : decode b_Po_placeOf 130 = .ok (.iload 6, 2) := by decide +kernel
theorem d_Po_placeOf_132 : decode b_Po_placeOf 132 = .ok (.iadd, 1) := by decide +kernel
theorem d_Po_placeOf_133 : decode b_Po_placeOf 133 = .ok (.ireturn, 1) := by decide +kernel
theorem d_Dr_init_0 : decode b_Dr_init 0 = .ok (.aload_n 0, 1) := by decide +kernel
theorem d_Dr_init_1 : decode b_Dr_init 1 = .ok (.invokespecial 3, 3) := by decide +kernel
theorem d_Dr_init_4 : decode b_Dr_init 4 = .ok (.aload_n 0, 1) := by decide +kernel
theorem d_Dr_init_5 : decode b_Dr_init 5 = .ok (.bipush 24, 2) := by decide +kernel
theorem d_Dr_init_7 : decode b_Dr_init 7 = .ok (.newarray .int, 2) := by decide +kernel
theorem d_Dr_init_9 : decode b_Dr_init 9 = .ok (.putfield 9, 3) := by decide +kernel
theorem d_Dr_init_12 : decode b_Dr_init 12 = .ok (.aload_n 0, 1) := by decide +kernel
theorem d_Dr_init_13 : decode b_Dr_init 13 = .ok (.bipush 24, 2) := by decide +kernel
theorem d_Dr_init_15 : decode b_Dr_init 15 = .ok (.newarray .int, 2) := by decide +kernel
theorem d_Dr_init_17 : decode b_Dr_init 17 = .ok (.putfield 15, 3) := by decide +kernel
theorem d_Dr_init_20 : decode b_Dr_init 20 = .ok (.aload_n 0, 1) := by decide +kernel
theorem d_Dr_init_21 : decode b_Dr_init 21 = .ok (.bipush 24, 2) := by decide +kernel
theorem d_Dr_init_23 : decode b_Dr_init 23 = .ok (.newarray .int, 2) := by decide +kernel
theorem d_Dr_init_25 : decode b_Dr_init 25 = .ok (.putfield 18, 3) := by decide +kernel
theorem d_Dr_init_28 : decode b_Dr_init 28 = .ok (.return_, 1) := by decide +kernel
theorem d_Dr_keep_0 : decode b_Dr_keep 0 = .ok (.aload_n 0, 1) := by decide +kernel
theorem d_Dr_keep_1 : decode b_Dr_keep 1 = .ok (.getfield 21, 3) := by decide +kernel
theorem d_Dr_keep_4 : decode b_Dr_keep 4 = .ok (.ifCond .lt 12, 3) := by decide +kernel
theorem d_Dr_keep_7 : decode b_Dr_keep 7 = .ok (.aload_n 0, 1) := by decide +kernel
theorem d_Dr_keep_8 : decode b_Dr_keep 8 = .ok (.getfield 21, 3) := by decide +kernel
theorem d_Dr_keep_11 : decode b_Dr_keep 11 = .ok (.bipush 24, 2) := by decide +kernel
theorem d_Dr_keep_13 : decode b_Dr_keep 13 = .ok (.if_icmp .lt 4, 3) := by decide +kernel
theorem d_Dr_keep_16 : decode b_Dr_keep 16 = .ok (.return_, 1) := by decide +kernel
theorem d_Dr_keep_17 : decode b_Dr_keep 17 = .ok (.aload_n 0, 1) := by decide +kernel
theorem d_Dr_keep_18 : decode b_Dr_keep 18 = .ok (.getfield 9, 3) := by decide +kernel
theorem d_Dr_keep_21 : decode b_Dr_keep 21 = .ok (.aload_n 0, 1) := by decide +kernel
theorem d_Dr_keep_22 : decode b_Dr_keep 22 = .ok (.getfield 21, 3) := by decide +kernel
theorem d_Dr_keep_25 : decode b_Dr_keep 25 = .ok (.iload_n 1, 1) := by decide +kernel
theorem d_Dr_keep_26 : decode b_Dr_keep 26 = .ok (.iastore, 1) := by decide +kernel
theorem d_Dr_keep_27 : decode b_Dr_keep 27 = .ok (.aload_n 0, 1) := by decide +kernel
theorem d_Dr_keep_28 : decode b_Dr_keep 28 = .ok (.getfield 15, 3) := by decide +kernel
theorem d_Dr_keep_31 : decode b_Dr_keep 31 = .ok (.aload_n 0, 1) := by decide +kernel
theorem d_Dr_keep_32 : decode b_Dr_keep 32 = .ok (.getfield 21, 3) := by decide +kernel
theorem d_Dr_keep_35 : decode b_Dr_keep 35 = .ok (.iload_n 2, 1) := by decide +kernel
theorem d_Dr_keep_36 : decode b_Dr_keep 36 = .ok (.iastore, 1) := by decide +kernel
theorem d_Dr_keep_37 : decode b_Dr_keep 37 = .ok (.aload_n 0, 1) := by decide +kernel
theorem d_Dr_keep_38 : decode b_Dr_keep 38 = .ok (.getfield 18, 3) := by decide +kernel
theorem d_Dr_keep_41 : decode b_Dr_keep 41 = .ok (.aload_n 0, 1) := by decide +kernel
theorem d_Dr_keep_42 : decode b_Dr_keep 42 = .ok (.getfield 21, 3) := by decide +kernel
theorem d_Dr_keep_45 : decode b_Dr_keep 45 = .ok (.iload_n 3, 1) := by decide +kernel
theorem d_Dr_keep_46 : decode b_Dr_keep 46 = .ok (.iastore, 1) := by decide +kernel
theorem d_Dr_keep_47 : decode b_Dr_keep 47 = .ok (.aload_n 0, 1) := by decide +kernel
theorem d_Dr_keep_48 : decode b_Dr_keep 48 = .ok (.dup, 1) := by decide +kernel
theorem d_Dr_keep_49 : decode b_Dr_keep 49 = .ok (.getfield 21, 3) := by decide +kernel
theorem d_Dr_keep_52 : decode b_Dr_keep 52 = .ok (.iconst 1, 1) := by decide +kernel
theorem d_Dr_keep_53 : decode b_Dr_keep 53 = .ok (.iadd, 1) := by decide +kernel
theorem d_Dr_keep_54 : decode b_Dr_keep 54 = .ok (.putfield 21, 3) := by decide +kernel
theorem d_Dr_keep_57 : decode b_Dr_keep 57 = .ok (.return_, 1) := by decide +kernel
theorem d_Dr_look_0 : decode b_Dr_look 0 = .ok (.iload_n 1, 1) := by decide +kernel
theorem d_Dr_look_1 : decode b_Dr_look 1 = .ok (.ifCond .lt 17, 3) := by decide +kernel
theorem d_Dr_look_4 : decode b_Dr_look 4 = .ok (.iload_n 1, 1) := by decide +kernel
theorem d_Dr_look_5 : decode b_Dr_look 5 = .ok (.aload_n 0, 1) := by decide +kernel
theorem d_Dr_look_6 : decode b_Dr_look 6 = .ok (.getfield 21, 3) := by decide +kernel
theorem d_Dr_look_9 : decode b_Dr_look 9 = .ok (.if_icmp .ge 9, 3) := by decide +kernel
theorem d_Dr_look_12 : decode b_Dr_look 12 = .ok (.iload_n 1, 1) := by decide +kernel
theorem d_Dr_look_13 : decode b_Dr_look 13 = .ok (.bipush 24, 2) := by decide +kernel
theorem d_Dr_look_15 : decode b_Dr_look 15 = .ok (.if_icmp .lt 5, 3) := by decide +kernel
theorem d_Dr_look_18 : decode b_Dr_look 18 = .ok (.iconst (-1), 1) := by decide +kernel
theorem d_Dr_look_19 : decode b_Dr_look 19 = .ok (.ireturn, 1) := by decide +kernel
theorem d_Dr_look_20 : decode b_Dr_look 20 = .ok (.iload_n 2, 1) := by decide +kernel
theorem d_Dr_look_21 : decode b_Dr_look 21 = .ok (.tableswitch 48 0 2 #[27, 34, 41], 27) := by decide +kernel
theorem d_Dr_look_48 : decode b_Dr_look 48 = .ok (.aload_n 0, 1) := by decide +kernel
theorem d_Dr_look_49 : decode b_Dr_look 49 = .ok (.getfield 9, 3) := by decide +kernel
theorem d_Dr_look_52 : decode b_Dr_look 52 = .ok (.iload_n 1, 1) := by decide +kernel
theorem d_Dr_look_53 : decode b_Dr_look 53 = .ok (.iaload, 1) := by decide +kernel
theorem d_Dr_look_54 : decode b_Dr_look 54 = .ok (.ireturn, 1) := by decide +kernel
theorem d_Dr_look_55 : decode b_Dr_look 55 = .ok (.aload_n 0, 1) := by decide +kernel
theorem d_Dr_look_56 : decode b_Dr_look 56 = .ok (.getfield 15, 3) := by decide +kernel
theorem d_Dr_look_59 : decode b_Dr_look 59 = .ok (.iload_n 1, 1) := by decide +kernel
theorem d_Dr_look_60 : decode b_Dr_look 60 = .ok (.iaload, 1) := by decide +kernel
theorem d_Dr_look_61 : decode b_Dr_look 61 = .ok (.ireturn, 1) := by decide +kernel
theorem d_Dr_look_62 : decode b_Dr_look 62 = .ok (.aload_n 0, 1) := by decide +kernel
theorem d_Dr_look_63 : decode b_Dr_look 63 = .ok (.getfield 18, 3) := by decide +kernel
theorem d_Dr_look_66 : decode b_Dr_look 66 = .ok (.iload_n 1, 1) := by decide +kernel
theorem d_Dr_look_67 : decode b_Dr_look 67 = .ok (.iaload, 1) := by decide +kernel
theorem d_Dr_look_68 : decode b_Dr_look 68 = .ok (.ireturn, 1) := by decide +kernel
theorem d_Dr_look_69 : decode b_Dr_look 69 = .ok (.iconst (-1), 1) := by decide +kernel
theorem d_Dr_look_70 : decode b_Dr_look 70 = .ok (.ireturn, 1) := by decide +kernel
theorem d_Wa_init_0 : decode b_Wa_init 0 = .ok (.aload_n 0, 1) := by decide +kernel
theorem d_Wa_init_1 : decode b_Wa_init 1 = .ok (.invokespecial 3, 3) := by decide +kernel
theorem d_Wa_init_4 : decode b_Wa_init 4 = .ok (.aload_n 0, 1) := by decide +kernel
theorem d_Wa_init_5 : decode b_Wa_init 5 = .ok (.sipush 4096, 3) := by decide +kernel
theorem d_Wa_init_8 : decode b_Wa_init 8 = .ok (.newarray .int, 2) := by decide +kernel
theorem d_Wa_init_10 : decode b_Wa_init 10 = .ok (.putfield 11, 3) := by decide +kernel
theorem d_Wa_init_13 : decode b_Wa_init 13 = .ok (.aload_n 0, 1) := by decide +kernel
theorem d_Wa_init_14 : decode b_Wa_init 14 = .ok (.bipush 24, 2) := by decide +kernel
theorem d_Wa_init_16 : decode b_Wa_init 16 = .ok (.newarray .int, 2) := by decide +kernel
theorem d_Wa_init_18 : decode b_Wa_init 18 = .ok (.putfield 15, 3) := by decide +kernel
theorem d_Wa_init_21 : decode b_Wa_init 21 = .ok (.aload_n 0, 1) := by decide +kernel
theorem d_Wa_init_22 : decode b_Wa_init 22 = .ok (.bipush 12, 2) := by decide +kernel
theorem d_Wa_init_24 : decode b_Wa_init 24 = .ok (.newarray .int, 2) := by decide +kernel
theorem d_Wa_init_26 : decode b_Wa_init 26 = .ok (.putfield 18, 3) := by decide +kernel
theorem d_Wa_init_29 : decode b_Wa_init 29 = .ok (.aload_n 0, 1) := by decide +kernel
theorem d_Wa_init_30 : decode b_Wa_init 30 = .ok (.bipush 8, 2) := by decide +kernel
theorem d_Wa_init_32 : decode b_Wa_init 32 = .ok (.newarray .int, 2) := by decide +kernel
theorem d_Wa_init_34 : decode b_Wa_init 34 = .ok (.putfield 21, 3) := by decide +kernel
theorem d_Wa_init_37 : decode b_Wa_init 37 = .ok (.return_, 1) := by decide +kernel
theorem d_Wa_choose_0 : decode b_Wa_choose 0 = .ok (.aload_n 0, 1) := by decide +kernel
theorem d_Wa_choose_1 : decode b_Wa_choose 1 = .ok (.iconst 0, 1) := by decide +kernel
theorem d_Wa_choose_2 : decode b_Wa_choose 2 = .ok (.putfield 24, 3) := by decide +kernel
theorem d_Wa_choose_5 : decode b_Wa_choose 5 = .ok (.iconst 0, 1) := by decide +kernel
theorem d_Wa_choose_6 : decode b_Wa_choose 6 = .ok (.istore_n 3, 1) := by decide +kernel
theorem d_Wa_choose_7 : decode b_Wa_choose 7 = .ok (.iload_n 3, 1) := by decide +kernel
theorem d_Wa_choose_8 : decode b_Wa_choose 8 = .ok (.bipush 24, 2) := by decide +kernel
theorem d_Wa_choose_10 : decode b_Wa_choose 10 = .ok (.if_icmp .ge 69, 3) := by decide +kernel
theorem d_Wa_choose_13 : decode b_Wa_choose 13 = .ok (.aload_n 0, 1) := by decide +kernel
theorem d_Wa_choose_14 : decode b_Wa_choose 14 = .ok (.getfield 15, 3) := by decide +kernel
theorem d_Wa_choose_17 : decode b_Wa_choose 17 = .ok (.iload_n 3, 1) := by decide +kernel
theorem d_Wa_choose_18 : decode b_Wa_choose 18 = .ok (.iconst 0, 1) := by decide +kernel
theorem d_Wa_choose_19 : decode b_Wa_choose 19 = .ok (.iastore, 1) := by decide +kernel
theorem d_Wa_choose_20 : decode b_Wa_choose 20 = .ok (.iload_n 1, 1) := by decide +kernel
theorem d_Wa_choose_21 : decode b_Wa_choose 21 = .ok (.iload_n 3, 1) := by decide +kernel
theorem d_Wa_choose_22 : decode b_Wa_choose 22 = .ok (.invokestatic 28, 3) := by decide +kernel
theorem d_Wa_choose_25 : decode b_Wa_choose 25 = .ok (.ifCond .eq 48, 3) := by decide +kernel
theorem d_Wa_choose_28 : decode b_Wa_choose 28 = .ok (.aload_n 0, 1) := by decide +kernel
theorem d_Wa_choose_29 : decode b_Wa_choose 29 = .ok (.getfield 24, 3) := by decide +kernel
theorem d_Wa_choose_32 : decode b_Wa_choose 32 = .ok (.bipush 12, 2) := by decide +kernel
theorem d_Wa_choose_34 : decode b_Wa_choose 34 = .ok (.if_icmp .ge 39, 3) := by decide +kernel
theorem d_Wa_choose_37 : decode b_Wa_choose 37 = .ok (.aload_n 0, 1) := by decide +kernel
theorem d_Wa_choose_38 : decode b_Wa_choose 38 = .ok (.getfield 15, 3) := by decide +kernel
theorem d_Wa_choose_41 : decode b_Wa_choose 41 = .ok (.iload_n 3, 1) := by decide +kernel
theorem d_Wa_choose_42 : decode b_Wa_choose 42 = .ok (.iconst 1, 1) := by decide +kernel
theorem d_Wa_choose_43 : decode b_Wa_choose 43 = .ok (.aload_n 0, 1) := by decide +kernel
theorem d_Wa_choose_44 : decode b_Wa_choose 44 = .ok (.getfield 24, 3) := by decide +kernel
theorem d_Wa_choose_47 : decode b_Wa_choose 47 = .ok (.ishl, 1) := by decide +kernel
theorem d_Wa_choose_48 : decode b_Wa_choose 48 = .ok (.iastore, 1) := by decide +kernel
theorem d_Wa_choose_49 : decode b_Wa_choose 49 = .ok (.aload_n 0, 1) := by decide +kernel
theorem d_Wa_choose_50 : decode b_Wa_choose 50 = .ok (.getfield 18, 3) := by decide +kernel
theorem d_Wa_choose_53 : decode b_Wa_choose 53 = .ok (.aload_n 0, 1) := by decide +kernel
theorem d_Wa_choose_54 : decode b_Wa_choose 54 = .ok (.getfield 24, 3) := by decide +kernel
theorem d_Wa_choose_57 : decode b_Wa_choose 57 = .ok (.iload_n 3, 1) := by decide +kernel
theorem d_Wa_choose_58 : decode b_Wa_choose 58 = .ok (.aload_n 2, 1) := by decide +kernel
theorem d_Wa_choose_59 : decode b_Wa_choose 59 = .ok (.invokestatic 32, 3) := by decide +kernel
theorem d_Wa_choose_62 : decode b_Wa_choose 62 = .ok (.iastore, 1) := by decide +kernel
theorem d_Wa_choose_63 : decode b_Wa_choose 63 = .ok (.aload_n 0, 1) := by decide +kernel
theorem d_Wa_choose_64 : decode b_Wa_choose 64 = .ok (.dup, 1) := by decide +kernel
theorem d_Wa_choose_65 : decode b_Wa_choose 65 = .ok (.getfield 24, 3) := by decide +kernel
theorem d_Wa_choose_68 : decode b_Wa_choose 68 = .ok (.iconst 1, 1) := by decide +kernel
theorem d_Wa_choose_69 : decode b_Wa_choose 69 = .ok (.iadd, 1) := by decide +kernel
theorem d_Wa_choose_70 : decode b_Wa_choose 70 = .ok (.putfield 24, 3) := by decide +kernel
theorem d_Wa_choose_73 : decode b_Wa_choose 73 = .ok (.iinc 3 1, 3) := by decide +kernel
theorem d_Wa_choose_76 : decode b_Wa_choose 76 = .ok (.goto (-69), 3) := by decide +kernel
theorem d_Wa_choose_79 : decode b_Wa_choose 79 = .ok (.return_, 1) := by decide +kernel
theorem d_Wa_wiresWith_0 : decode b_Wa_wiresWith 0 = .ok (.iconst 0, 1) := by decide +kernel
theorem d_Wa_wiresWith_1 : decode b_Wa_wiresWith 1 = .ok (.istore_n 2, 1) := by decide +kernel
theorem d_Wa_wiresWith_2 : decode b_Wa_wiresWith 2 = .ok (.iconst 0, 1) := by decide +kernel
theorem d_Wa_wiresWith_3 : decode b_Wa_wiresWith 3 = .ok (.istore_n 3, 1) := by decide +kernel
theorem d_Wa_wiresWith_4 : decode b_Wa_wiresWith 4 = .ok (.iload_n 3, 1) := by decide +kernel
theorem d_Wa_wiresWith_5 : decode b_Wa_wiresWith 5 = .ok (.aload_n 1, 1) := by decide +kernel
theorem d_Wa_wiresWith_6 : decode b_Wa_wiresWith 6 = .ok (.arraylength, 1) := by decide +kernel
theorem d_Wa_wiresWith_7 : decode b_Wa_wiresWith 7 = .ok (.if_icmp .ge 27, 3) := by decide +kernel
theorem d_Wa_wiresWith_10 : decode b_Wa_wiresWith 10 = .ok (.iload_n 3, 1) := by decide +kernel
theorem d_Wa_wiresWith_11 : decode b_Wa_wiresWith 11 = .ok (.bipush 6, 2) := by decide +kernel
theorem d_Wa_wiresWith_13 : decode b_Wa_wiresWith 13 = .ok (.if_icmp .ge 21, 3) := by decide +kernel
theorem d_Wa_wiresWith_16 : decode b_Wa_wiresWith 16 = .ok (.iload_n 2, 1) := by decide +kernel
theorem d_Wa_wiresWith_17 : decode b_Wa_wiresWith 17 = .ok (.aload_n 1, 1) := by decide +kernel
theorem d_Wa_wiresWith_18 : decode b_Wa_wiresWith 18 = .ok (.iload_n 3, 1) := by decide +kernel
theorem d_Wa_wiresWith_19 : decode b_Wa_wiresWith 19 = .ok (.iaload, 1) := by decide +kernel
theorem d_Wa_wiresWith_20 : decode b_Wa_wiresWith 20 = .ok (.iload_n 0, 1) := by decide +kernel
theorem d_Wa_wiresWith_21 : decode b_Wa_wiresWith 21 = .ok (.iushr, 1) := by decide +kernel
theorem d_Wa_wiresWith_22 : decode b_Wa_wiresWith 22 = .ok (.iconst 1, 1) := by decide +kernel
theorem d_Wa_wiresWith_23 : decode b_Wa_wiresWith 23 = .ok (.iand, 1) := by decide +kernel
theorem d_Wa_wiresWith_24 : decode b_Wa_wiresWith 24 = .ok (.iload_n 3, 1) := by decide +kernel
theorem d_Wa_wiresWith_25 : decode b_Wa_wiresWith 25 = .ok (.ishl, 1) := by decide +kernel
theorem d_Wa_wiresWith_26 : decode b_Wa_wiresWith 26 = .ok (.ior, 1) := by decide +kernel
theorem d_Wa_wiresWith_27 : decode b_Wa_wiresWith 27 = .ok (.istore_n 2, 1) := by decide +kernel
theorem d_Wa_wiresWith_28 : decode b_Wa_wiresWith 28 = .ok (.iinc 3 1, 3) := by decide +kernel
theorem d_Wa_wiresWith_31 : decode b_Wa_wiresWith 31 = .ok (.goto (-27), 3) := by decide +kernel
theorem d_Wa_wiresWith_34 : decode b_Wa_wiresWith 34 = .ok (.iload_n 2, 1) := by decide +kernel
theorem d_Wa_wiresWith_35 : decode b_Wa_wiresWith 35 = .ok (.ireturn, 1) := by decide +kernel
theorem d_Wa_findPhases_0 : decode b_Wa_findPhases 0 = .ok (.aload_n 0, 1) := by decide +kernel
theorem d_Wa_findPhases_1 : decode b_Wa_findPhases 1 = .ok (.getfield 11, 3) := by decide +kernel
theorem d_Wa_findPhases_4 : decode b_Wa_findPhases 4 = .ok (.iconst 0, 1) := by decide +kernel
theorem d_Wa_findPhases_5 : decode b_Wa_findPhases 5 = .ok (.invokestatic 36, 3) := by decide +kernel
theorem d_Wa_findPhases_8 : decode b_Wa_findPhases 8 = .ok (.aload_n 0, 1) := by decide +kernel
theorem d_Wa_findPhases_9 : decode b_Wa_findPhases 9 = .ok (.getfield 11, 3) := by decide +kernel
theorem d_Wa_findPhases_12 : decode b_Wa_findPhases 12 = .ok (.iconst 0, 1) := by decide +kernel
theorem d_Wa_findPhases_13 : decode b_Wa_findPhases 13 = .ok (.aload_n 1, 1) := by decide +kernel
theorem d_Wa_findPhases_14 : decode b_Wa_findPhases 14 = .ok (.iconst 0, 1) := by decide +kernel
theorem d_Wa_findPhases_15 : decode b_Wa_findPhases 15 = .ok (.invokevirtual 42, 3) := by decide +kernel
theorem d_Wa_findPhases_18 : decode b_Wa_findPhases 18 = .ok (.iastore, 1) := by decide +kernel
theorem d_Wa_findPhases_19 : decode b_Wa_findPhases 19 = .ok (.iconst 0, 1) := by decide +kernel
theorem d_Wa_findPhases_20 : decode b_Wa_findPhases 20 = .ok (.istore_n 3, 1) := by decide +kernel
theorem d_Wa_findPhases_21 : decode b_Wa_findPhases 21 = .ok (.iload_n 3, 1) := by decide +kernel
theorem d_Wa_findPhases_22 : decode b_Wa_findPhases 22 = .ok (.bipush 24, 2) := by decide +kernel
theorem d_Wa_findPhases_24 : decode b_Wa_findPhases 24 = .ok (.if_icmp .ge 41, 3) := by decide +kernel
theorem d_Wa_findPhases_27 : decode b_Wa_findPhases 27 = .ok (.iload_n 2, 1) := by decide +kernel
theorem d_Wa_findPhases_28 : decode b_Wa_findPhases 28 = .ok (.iload_n 3, 1) := by decide +kernel
theorem d_Wa_findPhases_29 : decode b_Wa_findPhases 29 = .ok (.invokestatic 28, 3) := by decide +kernel
theorem d_Wa_findPhases_32 : decode b_Wa_findPhases 32 = .ok (.ifCond .eq 27, 3) := by decide +kernel
theorem d_Wa_findPhases_35 : decode b_Wa_findPhases 35 = .ok (.aload_n 0, 1) := by decide +kernel
theorem d_Wa_findPhases_36 : decode b_Wa_findPhases 36 = .ok (.aload_n 0, 1) := by decide +kernel
theorem d_Wa_findPhases_37 : decode b_Wa_findPhases 37 = .ok (.getfield 15, 3) := by decide +kernel
theorem d_Wa_findPhases_40 : decode b_Wa_findPhases 40 = .ok (.iload_n 3, 1) := by decide +kernel
theorem d_Wa_findPhases_41 : decode b_Wa_findPhases 41 = .ok (.iaload, 1) := by decide +kernel
theorem d_Wa_findPhases_42 : decode b_Wa_findPhases 42 = .ok (.aload_n 1, 1) := by decide +kernel
theorem d_Wa_findPhases_43 : decode b_Wa_findPhases 43 = .ok (.iconst 1, 1) := by decide +kernel
theorem d_Wa_findPhases_44 : decode b_Wa_findPhases 44 = .ok (.iload_n 3, 1) := by decide +kernel
theorem d_Wa_findPhases_45 : decode b_Wa_findPhases 45 = .ok (.ishl, 1) := by decide +kernel
theorem d_Wa_findPhases_46 : decode b_Wa_findPhases 46 = .ok (.invokevirtual 42, 3) := by decide +kernel
theorem d_Wa_findPhases_49 : decode b_Wa_findPhases 49 = .ok (.invokevirtual 48, 3) := by decide +kernel
theorem d_Wa_findPhases_52 : decode b_Wa_findPhases 52 = .ok (.aload_n 0, 1) := by decide +kernel
theorem d_Wa_findPhases_53 : decode b_Wa_findPhases 53 = .ok (.iload_n 3, 1) := by decide +kernel
theorem d_Wa_findPhases_54 : decode b_Wa_findPhases 54 = .ok (.aload_n 1, 1) := by decide +kernel
theorem d_Wa_findPhases_55 : decode b_Wa_findPhases 55 = .ok (.iload_n 2, 1) := by decide +kernel
theorem d_Wa_findPhases_56 : decode b_Wa_findPhases 56 = .ok (.invokevirtual 52, 3) := by decide +kernel
theorem d_Wa_findPhases_59 : decode b_Wa_findPhases 59 = .ok (.iinc 3 1, 3) := by decide +kernel
theorem d_Wa_findPhases_62 : decode b_Wa_findPhases 62 = .ok (.goto (-41), 3) := by decide +kernel
theorem d_Wa_findPhases_65 : decode b_Wa_findPhases 65 = .ok (.aload_n 0, 1) := by decide +kernel
theorem d_Wa_findPhases_66 : decode b_Wa_findPhases 66 = .ok (.invokevirtual 56, 3) := by decide +kernel
theorem d_Wa_findPhases_69 : decode b_Wa_findPhases 69 = .ok (.return_, 1) := by decide +kernel
theorem d_Wa_layProductsBelow_0 : decode b_Wa_layProductsBelow 0 = .ok (.iconst 0, 1) := by decide +kernel
theorem d_Wa_layProductsBelow_1 : decode b_Wa_layProductsBelow 1 = .ok (.istore 4, 2) := by decide +kernel
theorem d_Wa_layProductsBelow_3 : decode b_Wa_layProductsBelow 3 = .ok (.iload 4, 2) := by decide +kernel
theorem d_Wa_layProductsBelow_5 : decode b_Wa_layProductsBelow 5 = .ok (.iload_n 1, 1) := by decide +kernel
theorem d_Wa_layProductsBelow_6 : decode b_Wa_layProductsBelow 6 = .ok (.if_icmp .ge 106, 3) := by decide +kernel
theorem d_Wa_layProductsBelow_9 : decode b_Wa_layProductsBelow 9 = .ok (.iload_n 3, 1) := by decide +kernel
theorem d_Wa_layProductsBelow_10 : decode b_Wa_layProductsBelow 10 = .ok (.iload 4, 2) := by decide +kernel
theorem d_Wa_layProductsBelow_12 : decode b_Wa_layProductsBelow 12 = .ok (.invokestatic 28, 3) := by decide +kernel
theorem d_Wa_layProductsBelow_15 : decode b_Wa_layProductsBelow 15 = .ok (.ifCond .eq 91, 3) := by decide +kernel
theorem d_Wa_layProductsBelow_18 : decode b_Wa_layProductsBelow 18 = .ok (.iconst 1, 1) := by decide +kernel
theorem d_Wa_layProductsBelow_19 : decode b_Wa_layProductsBelow 19 = .ok (.iload_n 1, 1) := by decide +kernel
theorem d_Wa_layProductsBelow_20 : decode b_Wa_layProductsBelow 20 = .ok (.ishl, 1) := by decide +kernel
theorem d_Wa_layProductsBelow_21 : decode b_Wa_layProductsBelow 21 = .ok (.iconst 1, 1) := by decide +kernel
theorem d_Wa_layProductsBelow_22 : decode b_Wa_layProductsBelow 22 = .ok (.iload 4, 2) := by decide +kernel
theorem d_Wa_layProductsBelow_24 : decode b_Wa_layProductsBelow 24 = .ok (.ishl, 1) := by decide +kernel
theorem d_Wa_layProductsBelow_25 : decode b_Wa_layProductsBelow 25 = .ok (.ior, 1) := by decide +kernel
theorem d_Wa_layProductsBelow_26 : decode b_Wa_layProductsBelow 26 = .ok (.istore 5, 2) := by decide +kernel
theorem d_Wa_layProductsBelow_28 : decode b_Wa_layProductsBelow 28 = .ok (.aload_n 0, 1) := by decide +kernel
theorem d_Wa_layProductsBelow_29 : decode b_Wa_layProductsBelow 29 = .ok (.getfield 15, 3) := by decide +kernel
theorem d_Wa_layProductsBelow_32 : decode b_Wa_layProductsBelow 32 = .ok (.iload_n 1, 1) := by decide +kernel
theorem d_Wa_layProductsBelow_33 : decode b_Wa_layProductsBelow 33 = .ok (.iaload, 1) := by decide +kernel
theorem d_Wa_layProductsBelow_34 : decode b_Wa_layProductsBelow 34 = .ok (.aload_n 0, 1) := by decide +kernel
theorem d_Wa_layProductsBelow_35 : decode b_Wa_layProductsBelow 35 = .ok (.getfield 15, 3) := by decide +kernel
theorem d_Wa_layProductsBelow_38 : decode b_Wa_layProductsBelow 38 = .ok (.iload 4, 2) := by decide +kernel
theorem d_Wa_layProductsBelow_40 : decode b_Wa_layProductsBelow 40 = .ok (.iaload, 1) := by decide +kernel
theorem d_Wa_layProductsBelow_41 : decode b_Wa_layProductsBelow 41 = .ok (.ior, 1) := by decide +kernel
theorem d_Wa_layProductsBelow_42 : decode b_Wa_layProductsBelow 42 = .ok (.istore 6, 2) := by decide +kernel
theorem d_Wa_layProductsBelow_44 : decode b_Wa_layProductsBelow 44 = .ok (.aload_n 0, 1) := by decide +kernel
theorem d_Wa_layProductsBelow_45 : decode b_Wa_layProductsBelow 45 = .ok (.iload 6, 2) := by decide +kernel
theorem d_Wa_layProductsBelow_47 : decode b_Wa_layProductsBelow 47 = .ok (.aload_n 2, 1) := by decide +kernel
theorem d_Wa_layProductsBelow_48 : decode b_Wa_layProductsBelow 48 = .ok (.iload 5, 2) := by decide +kernel
theorem d_Wa_layProductsBelow_50 : decode b_Wa_layProductsBelow 50 = .ok (.invokevirtual 42, 3) := by decide +kernel
theorem d_Wa_layProductsBelow_53 : decode b_Wa_layProductsBelow 53 = .ok (.invokevirtual 48, 3) := by decide +kernel
theorem d_Wa_layProductsBelow_56 : decode b_Wa_layProductsBelow 56 = .ok (.iconst 0, 1) := by decide +kernel
theorem d_Wa_layProductsBelow_57 : decode b_Wa_layProductsBelow 57 = .ok (.istore 7, 2) := by decide +kernel
theorem d_Wa_layProductsBelow_59 : decode b_Wa_layProductsBelow 59 = .ok (.iload 7, 2) := by decide +kernel
theorem d_Wa_layProductsBelow_61 : decode b_Wa_layProductsBelow 61 = .ok (.iload 4, 2) := by decide +kernel
theorem d_Wa_layProductsBelow_63 : decode b_Wa_layProductsBelow 63 = .ok (.if_icmp .ge 43, 3) := by decide +kernel
theorem d_Wa_layProductsBelow_66 : decode b_Wa_layProductsBelow 66 = .ok (.iload_n 3, 1) := by decide +kernel
theorem d_Wa_layProductsBelow_67 : decode b_Wa_layProductsBelow 67 = .ok (.iload 7, 2) := by decide +kernel
theorem d_Wa_layProductsBelow_69 : decode b_Wa_layProductsBelow 69 = .ok (.invokestatic 28, 3) := by decide +kernel
theorem d_Wa_layProductsBelow_72 : decode b_Wa_layProductsBelow 72 = .ok (.ifCond .eq 28, 3) := by decide +kernel
theorem d_Wa_layProductsBelow_75 : decode b_Wa_layProductsBelow 75 = .ok (.aload_n 0, 1) := by decide +kernel
theorem d_Wa_layProductsBelow_76 : decode b_Wa_layProductsBelow 76 = .ok (.iload 6, 2) := by decide +kernel
theorem d_Wa_layProductsBelow_78 : decode b_Wa_layProductsBelow 78 = .ok (.aload_n 0, 1) := by decide +kernel
theorem d_Wa_layProductsBelow_79 : decode b_Wa_layProductsBelow 79 = .ok (.getfield 15, 3) := by decide +kernel
theorem d_Wa_layProductsBelow_82 : decode b_Wa_layProductsBelow 82 = .ok (.iload 7, 2) := by decide +kernel
theorem d_Wa_layProductsBelow_84 : decode b_Wa_layProductsBelow 84 = .ok (.iaload, 1) := by decide +kernel
theorem d_Wa_layProductsBelow_85 : decode b_Wa_layProductsBelow 85 = .ok (.ior, 1) := by decide +kernel
theorem d_Wa_layProductsBelow_86 : decode b_Wa_layProductsBelow 86 = .ok (.aload_n 2, 1) := by decide +kernel
theorem d_Wa_layProductsBelow_87 : decode b_Wa_layProductsBelow 87 = .ok (.iload 5, 2) := by decide +kernel
theorem d_Wa_layProductsBelow_89 : decode b_Wa_layProductsBelow 89 = .ok (.iconst 1, 1) := by decide +kernel
theorem d_Wa_layProductsBelow_90 : decode b_Wa_layProductsBelow 90 = .ok (.iload 7, 2) := by decide +kernel
theorem d_Wa_layProductsBelow_92 : decode b_Wa_layProductsBelow 92 = .ok (.ishl, 1) := by decide +kernel
theorem d_Wa_layProductsBelow_93 : decode b_Wa_layProductsBelow 93 = .ok (.ior, 1) := by decide +kernel
theorem d_Wa_layProductsBelow_94 : decode b_Wa_layProductsBelow 94 = .ok (.invokevirtual 42, 3) := by decide +kernel
theorem d_Wa_layProductsBelow_97 : decode b_Wa_layProductsBelow 97 = .ok (.invokevirtual 48, 3) := by decide +kernel
theorem d_Wa_layProductsBelow_100 : decode b_Wa_layProductsBelow 100 = .ok (.iinc 7 1, 3) := by decide +kernel
theorem d_Wa_layProductsBelow_103 : decode b_Wa_layProductsBelow 103 = .ok (.goto (-44), 3) := by decide +kernel
theorem d_Wa_layProductsBelow_106 : decode b_Wa_layProductsBelow 106 = .ok (.iinc 4 1, 3) := by decide +kernel
theorem d_Wa_layProductsBelow_109 : decode b_Wa_layProductsBelow 109 = .ok (.goto (-106), 3) := by decide +kernel
theorem d_Wa_layProductsBelow_112 : decode b_Wa_layProductsBelow 112 = .ok (.return_, 1) := by decide +kernel
theorem d_Wa_addNumber_0 : decode b_Wa_addNumber 0 = .ok (.iload_n 1, 1) := by decide +kernel
theorem d_Wa_addNumber_1 : decode b_Wa_addNumber 1 = .ok (.ifCond .lt 20, 3) := by decide +kernel
theorem d_Wa_addNumber_4 : decode b_Wa_addNumber 4 = .ok (.iload_n 1, 1) := by decide +kernel
theorem d_Wa_addNumber_5 : decode b_Wa_addNumber 5 = .ok (.sipush 4096, 3) := by decide +kernel
theorem d_Wa_addNumber_8 : decode b_Wa_addNumber 8 = .ok (.if_icmp .ge 13, 3) := by decide +kernel
theorem d_Wa_addNumber_11 : decode b_Wa_addNumber 11 = .ok (.aload_n 0, 1) := by decide +kernel
theorem d_Wa_addNumber_12 : decode b_Wa_addNumber 12 = .ok (.getfield 11, 3) := by decide +kernel
theorem d_Wa_addNumber_15 : decode b_Wa_addNumber 15 = .ok (.iload_n 1, 1) := by decide +kernel
theorem d_Wa_addNumber_16 : decode b_Wa_addNumber 16 = .ok (.dup2, 1) := by decide +kernel
theorem d_Wa_addNumber_17 : decode b_Wa_addNumber 17 = .ok (.iaload, 1) := by decide +kernel
theorem d_Wa_addNumber_18 : decode b_Wa_addNumber 18 = .ok (.iload_n 2, 1) := by decide +kernel
theorem d_Wa_addNumber_19 : decode b_Wa_addNumber 19 = .ok (.iadd, 1) := by decide +kernel
theorem d_Wa_addNumber_20 : decode b_Wa_addNumber 20 = .ok (.iastore, 1) := by decide +kernel
theorem d_Wa_addNumber_21 : decode b_Wa_addNumber 21 = .ok (.return_, 1) := by decide +kernel
theorem d_Wa_sumOverParts_0 : decode b_Wa_sumOverParts 0 = .ok (.iconst 0, 1) := by decide +kernel
theorem d_Wa_sumOverParts_1 : decode b_Wa_sumOverParts 1 = .ok (.istore_n 1, 1) := by decide +kernel
theorem d_Wa_sumOverParts_2 : decode b_Wa_sumOverParts 2 = .ok (.iload_n 1, 1) := by decide +kernel
theorem d_Wa_sumOverParts_3 : decode b_Wa_sumOverParts 3 = .ok (.aload_n 0, 1) := by decide +kernel
theorem d_Wa_sumOverParts_4 : decode b_Wa_sumOverParts 4 = .ok (.getfield 24, 3) := by decide +kernel
theorem d_Wa_sumOverParts_7 : decode b_Wa_sumOverParts 7 = .ok (.if_icmp .ge 61, 3) := by decide +kernel
theorem d_Wa_sumOverParts_10 : decode b_Wa_sumOverParts 10 = .ok (.iconst 1, 1) := by decide +kernel
theorem d_Wa_sumOverParts_11 : decode b_Wa_sumOverParts 11 = .ok (.iload_n 1, 1) := by decide +kernel
theorem d_Wa_sumOverParts_12 : decode b_Wa_sumOverParts 12 = .ok (.ishl, 1) := by decide +kernel
theorem d_Wa_sumOverParts_13 : decode b_Wa_sumOverParts 13 = .ok (.istore_n 2, 1) := by decide +kernel
theorem d_Wa_sumOverParts_14 : decode b_Wa_sumOverParts 14 = .ok (.iconst 0, 1) := by decide +kernel
theorem d_Wa_sumOverParts_15 : decode b_Wa_sumOverParts 15 = .ok (.istore_n 3, 1) := by decide +kernel
theorem d_Wa_sumOverParts_16 : decode b_Wa_sumOverParts 16 = .ok (.iload_n 3, 1) := by decide +kernel
theorem d_Wa_sumOverParts_17 : decode b_Wa_sumOverParts 17 = .ok (.iconst 1, 1) := by decide +kernel
theorem d_Wa_sumOverParts_18 : decode b_Wa_sumOverParts 18 = .ok (.aload_n 0, 1) := by decide +kernel
theorem d_Wa_sumOverParts_19 : decode b_Wa_sumOverParts 19 = .ok (.getfield 24, 3) := by decide +kernel
theorem d_Wa_sumOverParts_22 : decode b_Wa_sumOverParts 22 = .ok (.ishl, 1) := by decide +kernel
theorem d_Wa_sumOverParts_23 : decode b_Wa_sumOverParts 23 = .ok (.if_icmp .ge 39, 3) := by decide +kernel
theorem d_Wa_sumOverParts_26 : decode b_Wa_sumOverParts 26 = .ok (.iload_n 3, 1) := by decide +kernel
theorem d_Wa_sumOverParts_27 : decode b_Wa_sumOverParts 27 = .ok (.sipush 4096, 3) := by decide +kernel
theorem d_Wa_sumOverParts_30 : decode b_Wa_sumOverParts 30 = .ok (.if_icmp .ge 32, 3) := by decide +kernel
theorem d_Wa_sumOverParts_33 : decode b_Wa_sumOverParts 33 = .ok (.iload_n 3, 1) := by decide +kernel
theorem d_Wa_sumOverParts_34 : decode b_Wa_sumOverParts 34 = .ok (.iload_n 2, 1) := by decide +kernel
theorem d_Wa_sumOverParts_35 : decode b_Wa_sumOverParts 35 = .ok (.iand, 1) := by decide +kernel
theorem d_Wa_sumOverParts_36 : decode b_Wa_sumOverParts 36 = .ok (.ifCond .eq 20, 3) := by decide +kernel
theorem d_Wa_sumOverParts_39 : decode b_Wa_sumOverParts 39 = .ok (.aload_n 0, 1) := by decide +kernel
theorem d_Wa_sumOverParts_40 : decode b_Wa_sumOverParts 40 = .ok (.getfield 11, 3) := by decide +kernel
theorem d_Wa_sumOverParts_43 : decode b_Wa_sumOverParts 43 = .ok (.iload_n 3, 1) := by decide +kernel
theorem d_Wa_sumOverParts_44 : decode b_Wa_sumOverParts 44 = .ok (.dup2, 1) := by decide +kernel
theorem d_Wa_sumOverParts_45 : decode b_Wa_sumOverParts 45 = .ok (.iaload, 1) := by decide +kernel
theorem d_Wa_sumOverParts_46 : decode b_Wa_sumOverParts 46 = .ok (.aload_n 0, 1) := by decide +kernel
theorem d_Wa_sumOverParts_47 : decode b_Wa_sumOverParts 47 = .ok (.getfield 11, 3) := by decide +kernel
theorem d_Wa_sumOverParts_50 : decode b_Wa_sumOverParts 50 = .ok (.iload_n 3, 1) := by decide +kernel
theorem d_Wa_sumOverParts_51 : decode b_Wa_sumOverParts 51 = .ok (.iload_n 2, 1) := by decide +kernel
theorem d_Wa_sumOverParts_52 : decode b_Wa_sumOverParts 52 = .ok (.ixor, 1) := by decide +kernel
theorem d_Wa_sumOverParts_53 : decode b_Wa_sumOverParts 53 = .ok (.iaload, 1) := by decide +kernel
theorem d_Wa_sumOverParts_54 : decode b_Wa_sumOverParts 54 = .ok (.iadd, 1) := by decide +kernel
theorem d_Wa_sumOverParts_55 : decode b_Wa_sumOverParts 55 = .ok (.iastore, 1) := by decide +kernel
theorem d_Wa_sumOverParts_56 : decode b_Wa_sumOverParts 56 = .ok (.iinc 3 1, 3) := by decide +kernel
theorem d_Wa_sumOverParts_59 : decode b_Wa_sumOverParts 59 = .ok (.goto (-43), 3) := by decide +kernel
theorem d_Wa_sumOverParts_62 : decode b_Wa_sumOverParts 62 = .ok (.iinc 1 1, 3) := by decide +kernel
theorem d_Wa_sumOverParts_65 : decode b_Wa_sumOverParts 65 = .ok (.goto (-63), 3) := by decide +kernel
theorem d_Wa_sumOverParts_68 : decode b_Wa_sumOverParts 68 = .ok (.return_, 1) := by decide +kernel
theorem d_Wa_tally_0 : decode b_Wa_tally 0 = .ok (.aload_n 0, 1) := by decide +kernel
theorem d_Wa_tally_1 : decode b_Wa_tally 1 = .ok (.getfield 21, 3) := by decide +kernel
theorem d_Wa_tally_4 : decode b_Wa_tally 4 = .ok (.iconst 0, 1) := by decide +kernel
theorem d_Wa_tally_5 : decode b_Wa_tally 5 = .ok (.invokestatic 36, 3) := by decide +kernel
theorem d_Wa_tally_8 : decode b_Wa_tally 8 = .ok (.iconst 0, 1) := by decide +kernel
theorem d_Wa_tally_9 : decode b_Wa_tally 9 = .ok (.istore_n 3, 1) := by decide +kernel
theorem d_Wa_tally_10 : decode b_Wa_tally 10 = .ok (.iload_n 1, 1) := by decide +kernel
theorem d_Wa_tally_11 : decode b_Wa_tally 11 = .ok (.istore 4, 2) := by decide +kernel
theorem d_Wa_tally_13 : decode b_Wa_tally 13 = .ok (.iconst 1, 1) := by decide +kernel
theorem d_Wa_tally_14 : decode b_Wa_tally 14 = .ok (.istore 5, 2) := by decide +kernel
theorem d_Wa_tally_16 : decode b_Wa_tally 16 = .ok (.iload 5, 2) := by decide +kernel
theorem d_Wa_tally_18 : decode b_Wa_tally 18 = .ok (.iconst 1, 1) := by decide +kernel
theorem d_Wa_tally_19 : decode b_Wa_tally 19 = .ok (.aload_n 0, 1) := by decide +kernel
theorem d_Wa_tally_20 : decode b_Wa_tally 20 = .ok (.getfield 24, 3) := by decide +kernel
theorem d_Wa_tally_23 : decode b_Wa_tally 23 = .ok (.ishl, 1) := by decide +kernel
theorem d_Wa_tally_24 : decode b_Wa_tally 24 = .ok (.if_icmp .gt 92, 3) := by decide +kernel
theorem d_Wa_tally_27 : decode b_Wa_tally 27 = .ok (.iload 4, 2) := by decide +kernel
theorem d_Wa_tally_29 : decode b_Wa_tally 29 = .ok (.iload_n 2, 1) := by decide +kernel
theorem d_Wa_tally_30 : decode b_Wa_tally 30 = .ok (.if_icmp .ne 32, 3) := by decide +kernel
theorem d_Wa_tally_33 : decode b_Wa_tally 33 = .ok (.iload_n 3, 1) := by decide +kernel
theorem d_Wa_tally_34 : decode b_Wa_tally 34 = .ok (.ifCond .lt 28, 3) := by decide +kernel
theorem d_Wa_tally_37 : decode b_Wa_tally 37 = .ok (.iload_n 3, 1) := by decide +kernel
theorem d_Wa_tally_38 : decode b_Wa_tally 38 = .ok (.sipush 4096, 3) := by decide +kernel
theorem d_Wa_tally_41 : decode b_Wa_tally 41 = .ok (.if_icmp .ge 21, 3) := by decide +kernel
theorem d_Wa_tally_44 : decode b_Wa_tally 44 = .ok (.aload_n 0, 1) := by decide +kernel
theorem d_Wa_tally_45 : decode b_Wa_tally 45 = .ok (.getfield 21, 3) := by decide +kernel
theorem d_Wa_tally_48 : decode b_Wa_tally 48 = .ok (.aload_n 0, 1) := by decide +kernel
theorem d_Wa_tally_49 : decode b_Wa_tally 49 = .ok (.getfield 11, 3) := by decide +kernel
theorem d_Wa_tally_52 : decode b_Wa_tally 52 = .ok (.iload_n 3, 1) := by decide +kernel
theorem d_Wa_tally_53 : decode b_Wa_tally 53 = .ok (.iaload, 1) := by decide +kernel
theorem d_Wa_tally_54 : decode b_Wa_tally 54 = .ok (.bipush 7, 2) := by decide +kernel
theorem d_Wa_tally_56 : decode b_Wa_tally 56 = .ok (.iand, 1) := by decide +kernel
theorem d_Wa_tally_57 : decode b_Wa_tally 57 = .ok (.dup2, 1) := by decide +kernel
theorem d_Wa_tally_58 : decode b_Wa_tally 58 = .ok (.iaload, 1) := by decide +kernel
theorem d_Wa_tally_59 : decode b_Wa_tally 59 = .ok (.iconst 1, 1) := by decide +kernel
theorem d_Wa_tally_60 : decode b_Wa_tally 60 = .ok (.iadd, 1) := by decide +kernel
theorem d_Wa_tally_61 : decode b_Wa_tally 61 = .ok (.iastore, 1) := by decide +kernel
theorem d_Wa_tally_62 : decode b_Wa_tally 62 = .ok (.iload 5, 2) := by decide +kernel
theorem d_Wa_tally_64 : decode b_Wa_tally 64 = .ok (.iload 5, 2) := by decide +kernel
theorem d_Wa_tally_66 : decode b_Wa_tally 66 = .ok (.ineg, 1) := by decide +kernel
theorem d_Wa_tally_67 : decode b_Wa_tally 67 = .ok (.iand, 1) := by decide +kernel
theorem d_Wa_tally_68 : decode b_Wa_tally 68 = .ok (.iconst 1, 1) := by decide +kernel
theorem d_Wa_tally_69 : decode b_Wa_tally 69 = .ok (.isub, 1) := by decide +kernel
theorem d_Wa_tally_70 : decode b_Wa_tally 70 = .ok (.invokestatic 59, 3) := by decide +kernel
theorem d_Wa_tally_73 : decode b_Wa_tally 73 = .ok (.istore 6, 2) := by decide +kernel
theorem d_Wa_tally_75 : decode b_Wa_tally 75 = .ok (.iload 6, 2) := by decide +kernel
theorem d_Wa_tally_77 : decode b_Wa_tally 77 = .ok (.aload_n 0, 1) := by decide +kernel
theorem d_Wa_tally_78 : decode b_Wa_tally 78 = .ok (.getfield 24, 3) := by decide +kernel
theorem d_Wa_tally_81 : decode b_Wa_tally 81 = .ok (.if_icmp .ge 29, 3) := by decide +kernel
theorem d_Wa_tally_84 : decode b_Wa_tally 84 = .ok (.iload 6, 2) := by decide +kernel
theorem d_Wa_tally_86 : decode b_Wa_tally 86 = .ok (.bipush 12, 2) := by decide +kernel
theorem d_Wa_tally_88 : decode b_Wa_tally 88 = .ok (.if_icmp .ge 22, 3) := by decide +kernel
theorem d_Wa_tally_91 : decode b_Wa_tally 91 = .ok (.iload_n 3, 1) := by decide +kernel
theorem d_Wa_tally_92 : decode b_Wa_tally 92 = .ok (.iconst 1, 1) := by decide +kernel
theorem d_Wa_tally_93 : decode b_Wa_tally 93 = .ok (.iload 6, 2) := by decide +kernel
theorem d_Wa_tally_95 : decode b_Wa_tally 95 = .ok (.ishl, 1) := by decide +kernel
theorem d_Wa_tally_96 : decode b_Wa_tally 96 = .ok (.ixor, 1) := by decide +kernel
theorem d_Wa_tally_97 : decode b_Wa_tally 97 = .ok (.istore_n 3, 1) := by decide +kernel
theorem d_Wa_tally_98 : decode b_Wa_tally 98 = .ok (.iload 4, 2) := by decide +kernel
theorem d_Wa_tally_100 : decode b_Wa_tally 100 = .ok (.aload_n 0, 1) := by decide +kernel
theorem d_Wa_tally_101 : decode b_Wa_tally 101 = .ok (.getfield 18, 3) := by decide +kernel
theorem d_Wa_tally_104 : decode b_Wa_tally 104 = .ok (.iload 6, 2) := by decide +kernel
theorem d_Wa_tally_106 : decode b_Wa_tally 106 = .ok (.iaload, 1) := by decide +kernel
theorem d_Wa_tally_107 : decode b_Wa_tally 107 = .ok (.ixor, 1) := by decide +kernel
theorem d_Wa_tally_108 : decode b_Wa_tally 108 = .ok (.istore 4, 2) := by decide +kernel
theorem d_Wa_tally_110 : decode b_Wa_tally 110 = .ok (.iinc 5 1, 3) := by decide +kernel
theorem d_Wa_tally_113 : decode b_Wa_tally 113 = .ok (.goto (-97), 3) := by decide +kernel
theorem d_Wa_tally_116 : decode b_Wa_tally 116 = .ok (.return_, 1) := by decide +kernel
theorem d_Ro_init_0 : decode b_Ro_init 0 = .ok (.aload_n 0, 1) := by decide +kernel
theorem d_Ro_init_1 : decode b_Ro_init 1 = .ok (.invokespecial 1, 3) := by decide +kernel
theorem d_Ro_init_4 : decode b_Ro_init 4 = .ok (.return_, 1) := by decide +kernel
theorem d_Ro_take_0 : decode b_Ro_take 0 = .ok (.aload_n 1, 1) := by decide +kernel
theorem d_Ro_take_1 : decode b_Ro_take 1 = .ok (.arraylength, 1) := by decide +kernel
theorem d_Ro_take_2 : decode b_Ro_take 2 = .ok (.bipush 8, 2) := by decide +kernel
theorem d_Ro_take_4 : decode b_Ro_take 4 = .ok (.if_icmp .ge 4, 3) := by decide +kernel
theorem d_Ro_take_7 : decode b_Ro_take 7 = .ok (.return_, 1) := by decide +kernel
theorem d_Ro_take_8 : decode b_Ro_take 8 = .ok (.aload_n 0, 1) := by decide +kernel
theorem d_Ro_take_9 : decode b_Ro_take 9 = .ok (.aload_n 1, 1) := by decide +kernel
theorem d_Ro_take_10 : decode b_Ro_take 10 = .ok (.iconst 0, 1) := by decide +kernel
theorem d_Ro_take_11 : decode b_Ro_take 11 = .ok (.iaload, 1) := by decide +kernel
theorem d_Ro_take_12 : decode b_Ro_take 12 = .ok (.aload_n 1, 1) := by decide +kernel
theorem d_Ro_take_13 : decode b_Ro_take 13 = .ok (.iconst 4, 1) := by decide +kernel
theorem d_Ro_take_14 : decode b_Ro_take 14 = .ok (.iaload, 1) := by decide +kernel
theorem d_Ro_take_15 : decode b_Ro_take 15 = .ok (.isub, 1) := by decide +kernel
theorem d_Ro_take_16 : decode b_Ro_take 16 = .ok (.i2l, 1) := by decide +kernel
theorem d_Ro_take_17 : decode b_Ro_take 17 = .ok (.putfield 7, 3) := by decide +kernel
theorem d_Ro_take_20 : decode b_Ro_take 20 = .ok (.aload_n 0, 1) := by decide +kernel
theorem d_Ro_take_21 : decode b_Ro_take 21 = .ok (.aload_n 1, 1) := by decide +kernel
theorem d_Ro_take_22 : decode b_Ro_take 22 = .ok (.iconst 1, 1) := by decide +kernel
theorem d_Ro_take_23 : decode b_Ro_take 23 = .ok (.iaload, 1) := by decide +kernel
theorem d_Ro_take_24 : decode b_Ro_take 24 = .ok (.aload_n 1, 1) := by decide +kernel
theorem d_Ro_take_25 : decode b_Ro_take 25 = .ok (.iconst 5, 1) := by decide +kernel
theorem d_Ro_take_26 : decode b_Ro_take 26 = .ok (.iaload, 1) := by decide +kernel
theorem d_Ro_take_27 : decode b_Ro_take 27 = .ok (.isub, 1) := by decide +kernel
theorem d_Ro_take_28 : decode b_Ro_take 28 = .ok (.i2l, 1) := by decide +kernel
theorem d_Ro_take_29 : decode b_Ro_take 29 = .ok (.putfield 13, 3) := by decide +kernel
theorem d_Ro_take_32 : decode b_Ro_take 32 = .ok (.aload_n 0, 1) := by decide +kernel
theorem d_Ro_take_33 : decode b_Ro_take 33 = .ok (.aload_n 1, 1) := by decide +kernel
theorem d_Ro_take_34 : decode b_Ro_take 34 = .ok (.iconst 2, 1) := by decide +kernel
theorem d_Ro_take_35 : decode b_Ro_take 35 = .ok (.iaload, 1) := by decide +kernel
theorem d_Ro_take_36 : decode b_Ro_take 36 = .ok (.aload_n 1, 1) := by decide +kernel
theorem d_Ro_take_37 : decode b_Ro_take 37 = .ok (.bipush 6, 2) := by decide +kernel
theorem d_Ro_take_39 : decode b_Ro_take 39 = .ok (.iaload, 1) := by decide +kernel
theorem d_Ro_take_40 : decode b_Ro_take 40 = .ok (.isub, 1) := by decide +kernel
theorem d_Ro_take_41 : decode b_Ro_take 41 = .ok (.i2l, 1) := by decide +kernel
theorem d_Ro_take_42 : decode b_Ro_take 42 = .ok (.putfield 16, 3) := by decide +kernel
theorem d_Ro_take_45 : decode b_Ro_take 45 = .ok (.aload_n 0, 1) := by decide +kernel
theorem d_Ro_take_46 : decode b_Ro_take 46 = .ok (.aload_n 1, 1) := by decide +kernel
theorem d_Ro_take_47 : decode b_Ro_take 47 = .ok (.iconst 3, 1) := by decide +kernel
theorem d_Ro_take_48 : decode b_Ro_take 48 = .ok (.iaload, 1) := by decide +kernel
theorem d_Ro_take_49 : decode b_Ro_take 49 = .ok (.aload_n 1, 1) := by decide +kernel
theorem d_Ro_take_50 : decode b_Ro_take 50 = .ok (.bipush 7, 2) := by decide +kernel
theorem d_Ro_take_52 : decode b_Ro_take 52 = .ok (.iaload, 1) := by decide +kernel
theorem d_Ro_take_53 : decode b_Ro_take 53 = .ok (.isub, 1) := by decide +kernel
theorem d_Ro_take_54 : decode b_Ro_take 54 = .ok (.i2l, 1) := by decide +kernel
theorem d_Ro_take_55 : decode b_Ro_take 55 = .ok (.putfield 19, 3) := by decide +kernel
theorem d_Ro_take_58 : decode b_Ro_take 58 = .ok (.iload_n 2, 1) := by decide +kernel
theorem d_Ro_take_59 : decode b_Ro_take 59 = .ok (.istore_n 3, 1) := by decide +kernel
theorem d_Ro_take_60 : decode b_Ro_take 60 = .ok (.iload_n 3, 1) := by decide +kernel
theorem d_Ro_take_61 : decode b_Ro_take 61 = .ok (.ifCond .ge 13, 3) := by decide +kernel
theorem d_Ro_take_64 : decode b_Ro_take 64 = .ok (.aload_n 0, 1) := by decide +kernel
theorem d_Ro_take_65 : decode b_Ro_take 65 = .ok (.invokevirtual 22, 3) := by decide +kernel
theorem d_Ro_take_68 : decode b_Ro_take 68 = .ok (.iinc 3 1, 3) := by decide +kernel
theorem d_Ro_take_71 : decode b_Ro_take 71 = .ok (.goto (-11), 3) := by decide +kernel
theorem d_Ro_take_74 : decode b_Ro_take 74 = .ok (.aload_n 0, 1) := by decide +kernel
theorem d_Ro_take_75 : decode b_Ro_take 75 = .ok (.iload_n 2, 1) := by decide +kernel
theorem d_Ro_take_76 : decode b_Ro_take 76 = .ok (.iconst 0, 1) := by decide +kernel
theorem d_Ro_take_77 : decode b_Ro_take 77 = .ok (.invokestatic 25, 3) := by decide +kernel
theorem d_Ro_take_80 : decode b_Ro_take 80 = .ok (.putfield 31, 3) := by decide +kernel
theorem d_Ro_take_83 : decode b_Ro_take 83 = .ok (.aload_n 0, 1) := by decide +kernel
theorem d_Ro_take_84 : decode b_Ro_take 84 = .ok (.getfield 31, 3) := by decide +kernel
theorem d_Ro_take_87 : decode b_Ro_take 87 = .ok (.ifCond .le 31, 3) := by decide +kernel
theorem d_Ro_take_90 : decode b_Ro_take 90 = .ok (.aload_n 0, 1) := by decide +kernel
theorem d_Ro_take_91 : decode b_Ro_take 91 = .ok (.invokevirtual 35, 3) := by decide +kernel
theorem d_Ro_take_94 : decode b_Ro_take 94 = .ok (.ifCond .eq 24, 3) := by decide +kernel
theorem d_Ro_take_97 : decode b_Ro_take 97 = .ok (.aload_n 0, 1) := by decide +kernel
theorem d_Ro_take_98 : decode b_Ro_take 98 = .ok (.invokevirtual 22, 3) := by decide +kernel
theorem d_Ro_take_101 : decode b_Ro_take 101 = .ok (.aload_n 0, 1) := by decide +kernel
theorem d_Ro_take_102 : decode b_Ro_take 102 = .ok (.invokevirtual 39, 3) := by decide +kernel
theorem d_Ro_take_105 : decode b_Ro_take 105 = .ok (.aload_n 0, 1) := by decide +kernel
theorem d_Ro_take_106 : decode b_Ro_take 106 = .ok (.dup, 1) := by decide +kernel
theorem d_Ro_take_107 : decode b_Ro_take 107 = .ok (.getfield 31, 3) := by decide +kernel
theorem d_Ro_take_110 : decode b_Ro_take 110 = .ok (.iconst 1, 1) := by decide +kernel
theorem d_Ro_take_111 : decode b_Ro_take 111 = .ok (.isub, 1) := by decide +kernel
theorem d_Ro_take_112 : decode b_Ro_take 112 = .ok (.putfield 31, 3) := by decide +kernel
theorem d_Ro_take_115 : decode b_Ro_take 115 = .ok (.goto (-32), 3) := by decide +kernel
theorem d_Ro_take_118 : decode b_Ro_take 118 = .ok (.return_, 1) := by decide +kernel
theorem d_Ro_multiplyByR_0 : decode b_Ro_multiplyByR 0 = .ok (.aload_n 0, 1) := by decide +kernel
theorem d_Ro_multiplyByR_1 : decode b_Ro_multiplyByR 1 = .ok (.getfield 13, 3) := by decide +kernel
theorem d_Ro_multiplyByR_4 : decode b_Ro_multiplyByR 4 = .ok (.aload_n 0, 1) := by decide +kernel
theorem d_Ro_multiplyByR_5 : decode b_Ro_multiplyByR 5 = .ok (.getfield 19, 3) := by decide +kernel
theorem d_Ro_multiplyByR_8 : decode b_Ro_multiplyByR 8 = .ok (.lsub, 1) := by decide +kernel
theorem d_Ro_multiplyByR_9 : decode b_Ro_multiplyByR 9 = .ok (.lstore_n 1, 1) := by decide +kernel
theorem d_Ro_multiplyByR_10 : decode b_Ro_multiplyByR 10 = .ok (.aload_n 0, 1) := by decide +kernel
theorem d_Ro_multiplyByR_11 : decode b_Ro_multiplyByR 11 = .ok (.getfield 7, 3) := by decide +kernel
theorem d_Ro_multiplyByR_14 : decode b_Ro_multiplyByR 14 = .ok (.aload_n 0, 1) := by decide +kernel
theorem d_Ro_multiplyByR_15 : decode b_Ro_multiplyByR 15 = .ok (.getfield 16, 3) := by decide +kernel
theorem d_Ro_multiplyByR_18 : decode b_Ro_multiplyByR 18 = .ok (.ladd, 1) := by decide +kernel
theorem d_Ro_multiplyByR_19 : decode b_Ro_multiplyByR 19 = .ok (.lstore_n 3, 1) := by decide +kernel
theorem d_Ro_multiplyByR_20 : decode b_Ro_multiplyByR 20 = .ok (.aload_n 0, 1) := by decide +kernel
theorem d_Ro_multiplyByR_21 : decode b_Ro_multiplyByR 21 = .ok (.getfield 13, 3) := by decide +kernel
theorem d_Ro_multiplyByR_24 : decode b_Ro_multiplyByR 24 = .ok (.aload_n 0, 1) := by decide +kernel
theorem d_Ro_multiplyByR_25 : decode b_Ro_multiplyByR 25 = .ok (.getfield 19, 3) := by decide +kernel
theorem d_Ro_multiplyByR_28 : decode b_Ro_multiplyByR 28 = .ok (.ladd, 1) := by decide +kernel
theorem d_Ro_multiplyByR_29 : decode b_Ro_multiplyByR 29 = .ok (.lstore 5, 2) := by decide +kernel
theorem d_Ro_multiplyByR_31 : decode b_Ro_multiplyByR 31 = .ok (.aload_n 0, 1) := by decide +kernel
theorem d_Ro_multiplyByR_32 : decode b_Ro_multiplyByR 32 = .ok (.getfield 16, 3) := by decide +kernel
theorem d_Ro_multiplyByR_35 : decode b_Ro_multiplyByR 35 = .ok (.aload_n 0, 1) := by decide +kernel
theorem d_Ro_multiplyByR_36 : decode b_Ro_multiplyByR 36 = .ok (.getfield 7, 3) := by decide +kernel
theorem d_Ro_multiplyByR_39 : decode b_Ro_multiplyByR 39 = .ok (.lsub, 1) := by decide +kernel
theorem d_Ro_multiplyByR_40 : decode b_Ro_multiplyByR 40 = .ok (.lstore 7, 2) := by decide +kernel
theorem d_Ro_multiplyByR_42 : decode b_Ro_multiplyByR 42 = .ok (.aload_n 0, 1) := by decide +kernel
theorem d_Ro_multiplyByR_43 : decode b_Ro_multiplyByR 43 = .ok (.lload_n 1, 1) := by decide +kernel
theorem d_Ro_multiplyByR_44 : decode b_Ro_multiplyByR 44 = .ok (.putfield 7, 3) := by decide +kernel
theorem d_Ro_multiplyByR_47 : decode b_Ro_multiplyByR 47 = .ok (.aload_n 0, 1) := by decide +kernel
theorem d_Ro_multiplyByR_48 : decode b_Ro_multiplyByR 48 = .ok (.lload_n 3, 1) := by decide +kernel
theorem d_Ro_multiplyByR_49 : decode b_Ro_multiplyByR 49 = .ok (.putfield 13, 3) := by decide +kernel
theorem d_Ro_multiplyByR_52 : decode b_Ro_multiplyByR 52 = .ok (.aload_n 0, 1) := by decide +kernel
theorem d_Ro_multiplyByR_53 : decode b_Ro_multiplyByR 53 = .ok (.lload 5, 2) := by decide +kernel
theorem d_Ro_multiplyByR_55 : decode b_Ro_multiplyByR 55 = .ok (.putfield 16, 3) := by decide +kernel
theorem d_Ro_multiplyByR_58 : decode b_Ro_multiplyByR 58 = .ok (.aload_n 0, 1) := by decide +kernel
theorem d_Ro_multiplyByR_59 : decode b_Ro_multiplyByR 59 = .ok (.lload 7, 2) := by decide +kernel
theorem d_Ro_multiplyByR_61 : decode b_Ro_multiplyByR 61 = .ok (.putfield 19, 3) := by decide +kernel
theorem d_Ro_multiplyByR_64 : decode b_Ro_multiplyByR 64 = .ok (.return_, 1) := by decide +kernel
theorem d_Ro_isMultipleOfR_0 : decode b_Ro_isMultipleOfR 0 = .ok (.aload_n 0, 1) := by decide +kernel
theorem d_Ro_isMultipleOfR_1 : decode b_Ro_isMultipleOfR 1 = .ok (.getfield 7, 3) := by decide +kernel
theorem d_Ro_isMultipleOfR_4 : decode b_Ro_isMultipleOfR 4 = .ok (.aload_n 0, 1) := by decide +kernel
theorem d_Ro_isMultipleOfR_5 : decode b_Ro_isMultipleOfR 5 = .ok (.getfield 16, 3) := by decide +kernel
theorem d_Ro_isMultipleOfR_8 : decode b_Ro_isMultipleOfR 8 = .ok (.lsub, 1) := by decide +kernel
theorem d_Ro_isMultipleOfR_9 : decode b_Ro_isMultipleOfR 9 = .ok (.ldc2_w 42, 3) := by decide +kernel
theorem d_Ro_isMultipleOfR_12 : decode b_Ro_isMultipleOfR 12 = .ok (.lrem, 1) := by decide +kernel
theorem d_Ro_isMultipleOfR_13 : decode b_Ro_isMultipleOfR 13 = .ok (.lconst 0, 1) := by decide +kernel
theorem d_Ro_isMultipleOfR_14 : decode b_Ro_isMultipleOfR 14 = .ok (.lcmp, 1) := by decide +kernel
theorem d_Ro_isMultipleOfR_15 : decode b_Ro_isMultipleOfR 15 = .ok (.ifCond .ne 25, 3) := by decide +kernel
theorem d_Ro_isMultipleOfR_18 : decode b_Ro_isMultipleOfR 18 = .ok (.aload_n 0, 1) := by decide +kernel
theorem d_Ro_isMultipleOfR_19 : decode b_Ro_isMultipleOfR 19 = .ok (.getfield 13, 3) := by decide +kernel
theorem d_Ro_isMultipleOfR_22 : decode b_Ro_isMultipleOfR 22 = .ok (.aload_n 0, 1) := by decide +kernel
theorem d_Ro_isMultipleOfR_23 : decode b_Ro_isMultipleOfR 23 = .ok (.getfield 19, 3) := by decide +kernel
theorem d_Ro_isMultipleOfR_26 : decode b_Ro_isMultipleOfR 26 = .ok (.lsub, 1) := by decide +kernel
theorem d_Ro_isMultipleOfR_27 : decode b_Ro_isMultipleOfR 27 = .ok (.ldc2_w 42, 3) := by decide +kernel
theorem d_Ro_isMultipleOfR_30 : decode b_Ro_isMultipleOfR 30 = .ok (.lrem, 1) := by decide +kernel
theorem d_Ro_isMultipleOfR_31 : decode b_Ro_isMultipleOfR 31 = .ok (.lconst 0, 1) := by decide +kernel
theorem d_Ro_isMultipleOfR_32 : decode b_Ro_isMultipleOfR 32 = .ok (.lcmp, 1) := by decide +kernel
theorem d_Ro_isMultipleOfR_33 : decode b_Ro_isMultipleOfR 33 = .ok (.ifCond .ne 7, 3) := by decide +kernel
theorem d_Ro_isMultipleOfR_36 : decode b_Ro_isMultipleOfR 36 = .ok (.iconst 1, 1) := by decide +kernel
theorem d_Ro_isMultipleOfR_37 : decode b_Ro_isMultipleOfR 37 = .ok (.goto 4, 3) := by decide +kernel
theorem d_Ro_isMultipleOfR_40 : decode b_Ro_isMultipleOfR 40 = .ok (.iconst 0, 1) := by decide +kernel
theorem d_Ro_isMultipleOfR_41 : decode b_Ro_isMultipleOfR 41 = .ok (.ireturn, 1) := by decide +kernel
theorem d_Ro_halve_0 : decode b_Ro_halve 0 = .ok (.aload_n 0, 1) := by decide +kernel
theorem d_Ro_halve_1 : decode b_Ro_halve 1 = .ok (.dup, 1) := by decide +kernel
theorem d_Ro_halve_2 : decode b_Ro_halve 2 = .ok (.getfield 7, 3) := by decide +kernel
theorem d_Ro_halve_5 : decode b_Ro_halve 5 = .ok (.ldc2_w 42, 3) := by decide +kernel
theorem d_Ro_halve_8 : decode b_Ro_halve 8 = .ok (.ldiv, 1) := by decide +kernel
theorem d_Ro_halve_9 : decode b_Ro_halve 9 = .ok (.putfield 7, 3) := by decide +kernel
theorem d_Ro_halve_12 : decode b_Ro_halve 12 = .ok (.aload_n 0, 1) := by decide +kernel
theorem d_Ro_halve_13 : decode b_Ro_halve 13 = .ok (.dup, 1) := by decide +kernel
theorem d_Ro_halve_14 : decode b_Ro_halve 14 = .ok (.getfield 13, 3) := by decide +kernel
theorem d_Ro_halve_17 : decode b_Ro_halve 17 = .ok (.ldc2_w 42, 3) := by decide +kernel
theorem d_Ro_halve_20 : decode b_Ro_halve 20 = .ok (.ldiv, 1) := by decide +kernel
theorem d_Ro_halve_21 : decode b_Ro_halve 21 = .ok (.putfield 13, 3) := by decide +kernel
theorem d_Ro_halve_24 : decode b_Ro_halve 24 = .ok (.aload_n 0, 1) := by decide +kernel
theorem d_Ro_halve_25 : decode b_Ro_halve 25 = .ok (.dup, 1) := by decide +kernel
theorem d_Ro_halve_26 : decode b_Ro_halve 26 = .ok (.getfield 16, 3) := by decide +kernel
theorem d_Ro_halve_29 : decode b_Ro_halve 29 = .ok (.ldc2_w 42, 3) := by decide +kernel
theorem d_Ro_halve_32 : decode b_Ro_halve 32 = .ok (.ldiv, 1) := by decide +kernel
theorem d_Ro_halve_33 : decode b_Ro_halve 33 = .ok (.putfield 16, 3) := by decide +kernel
theorem d_Ro_halve_36 : decode b_Ro_halve 36 = .ok (.aload_n 0, 1) := by decide +kernel
theorem d_Ro_halve_37 : decode b_Ro_halve 37 = .ok (.dup, 1) := by decide +kernel
theorem d_Ro_halve_38 : decode b_Ro_halve 38 = .ok (.getfield 19, 3) := by decide +kernel
theorem d_Ro_halve_41 : decode b_Ro_halve 41 = .ok (.ldc2_w 42, 3) := by decide +kernel
theorem d_Ro_halve_44 : decode b_Ro_halve 44 = .ok (.ldiv, 1) := by decide +kernel
theorem d_Ro_halve_45 : decode b_Ro_halve 45 = .ok (.putfield 19, 3) := by decide +kernel
theorem d_Ro_halve_48 : decode b_Ro_halve 48 = .ok (.return_, 1) := by decide +kernel
theorem d_Ro_look_0 : decode b_Ro_look 0 = .ok (.iload_n 1, 1) := by decide +kernel
theorem d_Ro_look_1 : decode b_Ro_look 1 = .ok (.tableswitch 51 0 3 #[31, 36, 41, 46], 31) := by decide +kernel
theorem d_Ro_look_32 : decode b_Ro_look 32 = .ok (.aload_n 0, 1) := by decide +kernel
theorem d_Ro_look_33 : decode b_Ro_look 33 = .ok (.getfield 7, 3) := by decide +kernel
theorem d_Ro_look_36 : decode b_Ro_look 36 = .ok (.lreturn, 1) := by decide +kernel
theorem d_Ro_look_37 : decode b_Ro_look 37 = .ok (.aload_n 0, 1) := by decide +kernel
theorem d_Ro_look_38 : decode b_Ro_look 38 = .ok (.getfield 13, 3) := by decide +kernel
theorem d_Ro_look_41 : decode b_Ro_look 41 = .ok (.lreturn, 1) := by decide +kernel
theorem d_Ro_look_42 : decode b_Ro_look 42 = .ok (.aload_n 0, 1) := by decide +kernel
theorem d_Ro_look_43 : decode b_Ro_look 43 = .ok (.getfield 16, 3) := by decide +kernel
theorem d_Ro_look_46 : decode b_Ro_look 46 = .ok (.lreturn, 1) := by decide +kernel
theorem d_Ro_look_47 : decode b_Ro_look 47 = .ok (.aload_n 0, 1) := by decide +kernel
theorem d_Ro_look_48 : decode b_Ro_look 48 = .ok (.getfield 19, 3) := by decide +kernel
theorem d_Ro_look_51 : decode b_Ro_look 51 = .ok (.lreturn, 1) := by decide +kernel
theorem d_Ro_look_52 : decode b_Ro_look 52 = .ok (.aload_n 0, 1) := by decide +kernel
theorem d_Ro_look_53 : decode b_Ro_look 53 = .ok (.getfield 31, 3) := by decide +kernel
theorem d_Ro_look_56 : decode b_Ro_look 56 = .ok (.i2l, 1) := by decide +kernel
theorem d_Ro_look_57 : decode b_Ro_look 57 = .ok (.lreturn, 1) := by decide +kernel
end
section
def rm_Jint_bitCount : Room := { frames := 0, cells := 0, slots := 0, locals := 0 }
/-- java/lang/Integer.bitCount(I)I -/
def f_Jint_bitCount (x0 : Int32) : Int32 :=
  zlet (x0 - ((zushr x0 (1 : Int32)) &&& (1431655765 : Int32))) fun y_1 =>
  zlet ((y_1 &&& (858993459 : Int32)) + ((zushr y_1 (2 : Int32)) &&& (858993459 : Int32))) fun y_2 =>
  zlet ((y_2 + (zushr y_2 (4 : Int32))) &&& (252645135 : Int32)) fun y_3 =>
  zlet (y_3 + (zushr y_3 (8 : Int32))) fun y_4 =>
  zlet (y_4 + (zushr y_4 (16 : Int32))) fun y_5 =>
  y_5 &&& (63 : Int32)
set_option maxRecDepth 100000 in
set_option maxHeartbeats 4000000 in
theorem k_Jint_bitCount {p : Program} {l : Launch} {e : Env} {s : State} {m : MethodId} {args : Array Value} {below : List Frame} {meth : Method} {c : Code} {D : va_G} {cI cL : ClassId} {rr x0 : Int32} (C : zC p s m args meth c b_Jint_bitCount 1 R_Jint D vwCl [(cI, .int), (cL, .long)] (zA [] s.heap.size)) (hr : meth.sig.returnType = some .int) (hf : f_Jint_bitCount x0 = rr) : ZV p l e rm_Jint_bitCount s m args below meth c 1 D (some (.int rr)) [] [] [] 0 [(0, .int x0)] [] := by
  unfold f_Jint_bitCount at hf
  refine z_iload_n C d_Jint_bitCount_0 rfl 0 rfl ?_
  refine z_iload_n C d_Jint_bitCount_1 rfl 0 rfl ?_
  refine z_iconst (v := 1) C d_Jint_bitCount_2 (by decide) ?_
  refine z_iushr C d_Jint_bitCount_3 ?_
  refine z_ldcw (v := 1431655765) C zw_242 d_Jint_bitCount_4 ?_
  refine z_iand C d_Jint_bitCount_7 ?_
  refine z_isub C d_Jint_bitCount_8 ?_
  refine z_topi (fun y_1 ey_1 => ?_)
  have hf := zlet_at ey_1 hf
  refine z_istore_n (lv' := [(0, .int y_1)]) C d_Jint_bitCount_9 rfl (by decide) rfl ?_
  refine z_iload_n C d_Jint_bitCount_10 rfl 0 rfl ?_
  refine z_ldcw (v := 858993459) C zw_243 d_Jint_bitCount_11 ?_
  refine z_iand C d_Jint_bitCount_14 ?_
  refine z_iload_n C d_Jint_bitCount_15 rfl 0 rfl ?_
  refine z_iconst (v := 2) C d_Jint_bitCount_16 (by decide) ?_
  refine z_iushr C d_Jint_bitCount_17 ?_
  refine z_ldcw (v := 858993459) C zw_243 d_Jint_bitCount_18 ?_
  refine z_iand C d_Jint_bitCount_21 ?_
  refine z_iadd C d_Jint_bitCount_22 ?_
  refine z_topi (fun y_2 ey_2 => ?_)
  have hf := zlet_at ey_2 hf
  refine z_istore_n (lv' := [(0, .int y_2)]) C d_Jint_bitCount_23 rfl (by decide) rfl ?_
  refine z_iload_n C d_Jint_bitCount_24 rfl 0 rfl ?_
  refine z_iload_n C d_Jint_bitCount_25 rfl 0 rfl ?_
  refine z_iconst (v := 4) C d_Jint_bitCount_26 (by decide) ?_
  refine z_iushr C d_Jint_bitCount_27 ?_
  refine z_iadd C d_Jint_bitCount_28 ?_
  refine z_ldcw (v := 252645135) C zw_244 d_Jint_bitCount_29 ?_
  refine z_iand C d_Jint_bitCount_32 ?_
  refine z_topi (fun y_3 ey_3 => ?_)
  have hf := zlet_at ey_3 hf
  refine z_istore_n (lv' := [(0, .int y_3)]) C d_Jint_bitCount_33 rfl (by decide) rfl ?_
  refine z_iload_n C d_Jint_bitCount_34 rfl 0 rfl ?_
  refine z_iload_n C d_Jint_bitCount_35 rfl 0 rfl ?_
  refine z_bipush (v := 8) C d_Jint_bitCount_36 (by decide) ?_
  refine z_iushr C d_Jint_bitCount_38 ?_
  refine z_iadd C d_Jint_bitCount_39 ?_
  refine z_topi (fun y_4 ey_4 => ?_)
  have hf := zlet_at ey_4 hf
  refine z_istore_n (lv' := [(0, .int y_4)]) C d_Jint_bitCount_40 rfl (by decide) rfl ?_
  refine z_iload_n C d_Jint_bitCount_41 rfl 0 rfl ?_
  refine z_iload_n C d_Jint_bitCount_42 rfl 0 rfl ?_
  refine z_bipush (v := 16) C d_Jint_bitCount_43 (by decide) ?_
  refine z_iushr C d_Jint_bitCount_45 ?_
  refine z_iadd C d_Jint_bitCount_46 ?_
  refine z_topi (fun y_5 ey_5 => ?_)
  have hf := zlet_at ey_5 hf
  refine z_istore_n (lv' := [(0, .int y_5)]) C d_Jint_bitCount_47 rfl (by decide) rfl ?_
  refine z_iload_n C d_Jint_bitCount_48 rfl 0 rfl ?_
  refine z_bipush (v := 63) C d_Jint_bitCount_49 (by decide) ?_
  refine z_iand C d_Jint_bitCount_51 ?_
  subst hf
  exact z_iret C hr d_Jint_bitCount_52
theorem c_Jint_bitCount {l : Launch} {D : va_G} {cI cL : ClassId} {rr x0 : Int32} (hf : f_Jint_bitCount x0 = rr) : zM l y_Jint_bitCount (Cond.code y_Jint_bitCount b_Jint_bitCount 1 (some .int) :: zT) rm_Jint_bitCount D vwCl [(cI, .int), (cL, .long)] [.int x0] [] [] (some (.int rr)) :=
  zM.intro (by decide) rfl (fun _ h => List.mem_cons_of_mem _ h) (Nat.le_of_ble_eq_true rfl) (fun _ _ _ _ _ _ _ C hr _ => k_Jint_bitCount C hr hf)
def rm_Jarr_fill : Room := { frames := 0, cells := 0, slots := 0, locals := 0 }
def f_Jarr_fill_l5 (n_arg0 : Nat) (x1 : Int32) (x3 : Int32) (x2 : Int32) (v_arg0 : Nat → Int32) : Option ((Int32 × (Nat → Int32)) ⊕ ((Nat → Int32))) :=
  if x3 ≤ x2 then (
    some (.inr (v_arg0)))
  else (
    if x2 < 0 ∨ n_arg0 ≤ x2.toNatClampNeg then none else
    zlet (upd v_arg0 x2.toNatClampNeg x1) fun u_3 =>
    zlet (x2 + 1) fun y_4 =>
    some (.inl (y_4, u_3)))
set_option maxRecDepth 100000 in
set_option maxHeartbeats 4000000 in
theorem k_Jarr_fill_l5 {p : Program} {l : Launch} {e : Env} {s : State} {m : MethodId} {args : Array Value} {below : List Frame} {meth : Method} {c : Code} {D : va_G} {cI cL : ClassId} {h_arg0 n_arg0 : Nat} {v_arg0 o_arg0 : Nat → Int32} {x1 x2 x3 : Int32} (C : zC p s m args meth c b_Jarr_fill 4 R_Jarr D vwCl [(cI, .int), (cL, .long)] (zA [h_arg0] s.heap.size)) (hr : meth.sig.returnType = none) {z : (Int32 × (Nat → Int32)) ⊕ ((Nat → Int32))} (hf : f_Jarr_fill_l5 n_arg0 x1 x3 x2 v_arg0 = some z) (hK : zcase (fun q => ZV p l e rm_Jarr_fill s m args below meth c 4 D (none) [(h_arg0, .inl (cI, n_arg0, .inl o_arg0))] [h_arg0] [(h_arg0, .inl (cI, n_arg0, .inl q.2))] 5 [(0, .ref h_arg0), (1, .int x1), (2, .int q.1), (3, .int x3)] []) (fun q => ZV p l e rm_Jarr_fill s m args below meth c 4 D (none) [(h_arg0, .inl (cI, n_arg0, .inl o_arg0))] [h_arg0] [(h_arg0, .inl (cI, n_arg0, .inl q))] 20 [] []) z) : ZV p l e rm_Jarr_fill s m args below meth c 4 D (none) [(h_arg0, .inl (cI, n_arg0, .inl o_arg0))] [h_arg0] [(h_arg0, .inl (cI, n_arg0, .inl v_arg0))] 5 [(0, .ref h_arg0), (1, .int x1), (2, .int x2), (3, .int x3)] [] := by
  unfold f_Jarr_fill_l5 at hf
  refine z_iload_n C d_Jarr_fill_5 rfl 2 rfl ?_
  refine z_iload_n C d_Jarr_fill_6 rfl 3 rfl ?_
  refine z_icmp_ge (tgt := 20) C d_Jarr_fill_7 (by decide) (fun c_1 => ?_) (fun c_1 => ?_)
  · have hf := zif_pos c_1 hf
    refine z_lv [] rfl ?_
    cases hf
    exact hK
  · have hf := zif_neg c_1 hf
    refine z_aload_n C d_Jarr_fill_10 rfl 0 rfl ?_
    refine z_iload_n C d_Jarr_fill_11 rfl 2 rfl ?_
    refine z_iload_n C d_Jarr_fill_12 rfl 1 rfl ?_
    obtain ⟨g_2, hf⟩ := zguard hf
    obtain ⟨u_3, eu_3⟩ : ∃ u : Nat → Int32, u = upd v_arg0 x2.toNatClampNeg x1 := ⟨_, rfl⟩
    have hf := zlet_at eu_3 hf
    refine z_iast (ws' := [(h_arg0, .inl (cI, n_arg0, .inl u_3))]) C 0 0 rfl rfl g_2 d_Jarr_fill_13 (by rw [eu_3]; rfl) ?_
    obtain ⟨y_4, ey_4⟩ : ∃ y : Int32, y = x2 + 1 := ⟨_, rfl⟩
    have hf := zlet_at ey_4 hf
    refine z_iinc (v := y_4) (lv' := [(2, .int y_4), (0, .ref h_arg0), (1, .int x1), (3, .int x3)]) C d_Jarr_fill_14 (k := 2) rfl (by rw [ey_4]; rfl) (by decide) rfl ?_
    refine z_goto (tgt := 5) C d_Jarr_fill_17 (by decide) ?_
    refine z_lv [1, 2, 0, 3] rfl ?_
    cases hf
    exact hK
theorem k_Jarr_fill_l5_run {p : Program} {l : Launch} {e : Env} {s : State} {m : MethodId} {args : Array Value} {below : List Frame} {meth : Method} {c : Code} {D : va_G} {cI cL : ClassId} {h_arg0 n_arg0 : Nat} {v_arg0 o_arg0 : Nat → Int32} {x1 x2 x3 : Int32} (C : zC p s m args meth c b_Jarr_fill 4 R_Jarr D vwCl [(cI, .int), (cL, .long)] (zA [h_arg0] s.heap.size)) (hr : meth.sig.returnType = none) {o0 : Nat → Int32} (hf : zloop (fun q => f_Jarr_fill_l5 n_arg0 x1 x3 q.1 q.2) zF (x2, v_arg0) = some o0) (hK : ZV p l e rm_Jarr_fill s m args below meth c 4 D (none) [(h_arg0, .inl (cI, n_arg0, .inl o_arg0))] [h_arg0] [(h_arg0, .inl (cI, n_arg0, .inl o0))] 20 [] []) : ZV p l e rm_Jarr_fill s m args below meth c 4 D (none) [(h_arg0, .inl (cI, n_arg0, .inl o_arg0))] [h_arg0] [(h_arg0, .inl (cI, n_arg0, .inl v_arg0))] 5 [(0, .ref h_arg0), (1, .int x1), (2, .int x2), (3, .int x3)] [] :=
  zloop_run (P := fun q => ZV p l e rm_Jarr_fill s m args below meth c 4 D (none) [(h_arg0, .inl (cI, n_arg0, .inl o_arg0))] [h_arg0] [(h_arg0, .inl (cI, n_arg0, .inl q.2))] 5 [(0, .ref h_arg0), (1, .int x1), (2, .int q.1), (3, .int x3)] []) (K := (fun q => ZV p l e rm_Jarr_fill s m args below meth c 4 D (none) [(h_arg0, .inl (cI, n_arg0, .inl o_arg0))] [h_arg0] [(h_arg0, .inl (cI, n_arg0, .inl q))] 20 [] [])) (fun q z hz hK => k_Jarr_fill_l5 C hr hz hK) zF _ (o0) hf hK
/-- java/util/Arrays.fill([II)V -/
def f_Jarr_fill (n_arg0 : Nat) (x1 : Int32) (v_arg0 : Nat → Int32) : Option ((Nat → Int32)) :=
  zlet (Int32.ofNat n_arg0) fun y_1 =>
  zb1 (zloop (fun q => f_Jarr_fill_l5 n_arg0 x1 y_1 q.1 q.2) zF ((0 : Int32), v_arg0)) fun q_2 =>
  some (q_2)
set_option maxRecDepth 100000 in
set_option maxHeartbeats 4000000 in
theorem k_Jarr_fill {p : Program} {l : Launch} {e : Env} {s : State} {m : MethodId} {args : Array Value} {below : List Frame} {meth : Method} {c : Code} {D : va_G} {cI cL : ClassId} {h_arg0 n_arg0 : Nat} {v_arg0 o_arg0 : Nat → Int32} {x1 : Int32} (C : zC p s m args meth c b_Jarr_fill 4 R_Jarr D vwCl [(cI, .int), (cL, .long)] (zA [h_arg0] s.heap.size)) (hr : meth.sig.returnType = none) (hf : f_Jarr_fill n_arg0 x1 v_arg0 = some o_arg0) : ZV p l e rm_Jarr_fill s m args below meth c 4 D (none) [(h_arg0, .inl (cI, n_arg0, .inl o_arg0))] [h_arg0] [(h_arg0, .inl (cI, n_arg0, .inl v_arg0))] 0 [(0, .ref h_arg0), (1, .int x1)] [] := by
  unfold f_Jarr_fill at hf
  refine z_iconst (v := 0) C d_Jarr_fill_0 (by decide) ?_
  refine z_istore_n (lv' := [(2, .int (0 : Int32)), (0, .ref h_arg0), (1, .int x1)]) C d_Jarr_fill_1 rfl (by decide) rfl ?_
  refine z_aload_n C d_Jarr_fill_2 rfl 1 rfl ?_
  refine z_alen C 0 0 rfl rfl rfl d_Jarr_fill_3 ?_
  refine z_topi (fun y_1 ey_1 => ?_)
  have hf := zlet_at ey_1 hf
  refine z_istore_n (lv' := [(3, .int y_1), (2, .int (0 : Int32)), (0, .ref h_arg0), (1, .int x1)]) C d_Jarr_fill_4 rfl (by decide) rfl ?_
  refine z_lv [2, 3, 1, 0] rfl ?_
  obtain ⟨q_2, h_3, hf⟩ := zb1_elim hf
  refine k_Jarr_fill_l5_run C hr h_3 ?_
  cases hf
  exact z_vret C hr d_Jarr_fill_20
theorem c_Jarr_fill {l : Launch} {D : va_G} {cI cL : ClassId} {h_arg0 n_arg0 : Nat} {v_arg0 o_arg0 : Nat → Int32} {x1 : Int32} (hf : f_Jarr_fill n_arg0 x1 v_arg0 = some o_arg0) : zM l y_Jarr_fill (Cond.code y_Jarr_fill b_Jarr_fill 4 none :: zT) rm_Jarr_fill D vwCl [(cI, .int), (cL, .long)] [.ref h_arg0, .int x1] [(h_arg0, .inl (cI, n_arg0, .inl v_arg0))] [(h_arg0, .inl (cI, n_arg0, .inl o_arg0))] (none) :=
  zM.intro (by decide) rfl (fun _ h => List.mem_cons_of_mem _ h) (Nat.le_of_ble_eq_true rfl) (fun _ _ _ _ _ _ _ C hr _ => k_Jarr_fill C hr hf)
end
section
def rm_Ps_has : Room := { frames := 0, cells := 0, slots := 0, locals := 0 }
/-- PathSums.has(II)Z -/
def f_Ps_has (x0 : Int32) (x1 : Int32) : Int32 :=
  if ((zushr x0 x1) &&& (1 : Int32)) = 0 then (
    (0 : Int32))
  else (
    (1 : Int32))
set_option maxRecDepth 100000 in
set_option maxHeartbeats 4000000 in
theorem k_Ps_has {p : Program} {l : Launch} {e : Env} {s : State} {m : MethodId} {args : Array Value} {below : List Frame} {meth : Method} {c : Code} {D : va_G} {cI cL : ClassId} {rr x0 x1 : Int32} (C : zC p s m args meth c b_Ps_has 2 R_Ps D vwCl [(cI, .int), (cL, .long)] (zA [] s.heap.size)) (hr : meth.sig.returnType = some .boolean) (hf : f_Ps_has x0 x1 = rr) : ZV p l e rm_Ps_has s m args below meth c 2 D (some (.int rr)) [] [] [] 0 [(0, .int x0), (1, .int x1)] [] := by
  unfold f_Ps_has at hf
  refine z_iload_n C d_Ps_has_0 rfl 0 rfl ?_
  refine z_iload_n C d_Ps_has_1 rfl 1 rfl ?_
  refine z_iushr C d_Ps_has_2 ?_
  refine z_iconst (v := 1) C d_Ps_has_3 (by decide) ?_
  refine z_iand C d_Ps_has_4 ?_
  refine z_if_eq (tgt := 12) C d_Ps_has_5 (by decide) (fun c_1 => ?_) (fun c_1 => ?_)
  · have hf := zif_pos c_1 hf
    refine z_iconst (v := 0) C d_Ps_has_12 (by decide) ?_
    subst hf
    exact z_zret C hr rfl d_Ps_has_13
  · have hf := zif_neg c_1 hf
    refine z_iconst (v := 1) C d_Ps_has_8 (by decide) ?_
    refine z_goto (tgt := 13) C d_Ps_has_9 (by decide) ?_
    subst hf
    exact z_zret C hr rfl d_Ps_has_13
theorem c_Ps_has {l : Launch} {D : va_G} {cI cL : ClassId} {rr x0 x1 : Int32} (hf : f_Ps_has x0 x1 = rr) : zM l y_Ps_has (Cond.code y_Ps_has b_Ps_has 2 (some .boolean) :: zT) rm_Ps_has D vwCl [(cI, .int), (cL, .long)] [.int x0, .int x1] [] [] (some (.int rr)) :=
  zM.intro (by decide) rfl (fun _ h => List.mem_cons_of_mem _ h) (Nat.le_of_ble_eq_true rfl) (fun _ _ _ _ _ _ _ C hr _ => k_Ps_has C hr hf)
def rm_Po_placeOf : Room := { frames := 1, cells := 0, slots := 0, locals := 20 }
/-- PathSums$Polynomial.placeOf(I)I -/
def f_Po_placeOf (x0 : Int32) : Int32 :=
  zlet (x0 &&& (-x0)) fun y_1 =>
  zlet ((x0 &&& (y_1 ^^^ (-1 : Int32))) &&& (-(x0 &&& (y_1 ^^^ (-1 : Int32))))) fun y_2 =>
  zlet ((x0 &&& (y_1 ^^^ (-1 : Int32))) &&& (y_2 ^^^ (-1 : Int32))) fun y_3 =>
  if x0 < 0 then (
    (-1 : Int32))
  else (
    if (16777215 : Int32) < x0 then (
      (-1 : Int32))
    else (
      if (y_3 &&& (y_3 - (1 : Int32))) = 0 then (
        if x0 = 0 then (
          (0 : Int32))
        else (
          zlet (f_Jint_bitCount (y_1 - (1 : Int32))) fun y_9 =>
          if y_2 = 0 then (
            (1 : Int32) + y_9)
          else (
            zlet (f_Jint_bitCount (y_2 - (1 : Int32))) fun y_12 =>
            zlet (((y_12 * (y_12 - (1 : Int32))) / (2 : Int32)) + y_9) fun y_13 =>
            if y_3 = 0 then (
              (25 : Int32) + y_13)
            else (
              zlet (f_Jint_bitCount (y_3 - (1 : Int32))) fun y_16 =>
              ((301 : Int32) + (((y_16 * (y_16 - (1 : Int32))) * (y_16 - (2 : Int32))) / (6 : Int32))) + y_13))))
      else (
        (-1 : Int32))))
set_option maxRecDepth 100000 in
set_option maxHeartbeats 4000000 in
theorem k_Po_placeOf {p : Program} {l : Launch} {e : Env} {s : State} {m : MethodId} {args : Array Value} {below : List Frame} {meth : Method} {c : Code} {D : va_G} {cI cL : ClassId} {rr x0 : Int32} (C : zC p s m args meth c b_Po_placeOf 8 R_Po D vwCl [(cI, .int), (cL, .long)] (zA [] s.heap.size)) (hr : meth.sig.returnType = some .int) (hf : f_Po_placeOf x0 = rr) : ZV p l e rm_Po_placeOf s m args below meth c 8 D (some (.int rr)) [] [] [] 0 [(0, .int x0)] [] := by
  unfold f_Po_placeOf at hf
  refine z_iload_n C d_Po_placeOf_0 rfl 0 rfl ?_
  refine z_iload_n C d_Po_placeOf_1 rfl 0 rfl ?_
  refine z_ineg C d_Po_placeOf_2 ?_
  refine z_iand C d_Po_placeOf_3 ?_
  refine z_topi (fun y_1 ey_1 => ?_)
  have hf := zlet_at ey_1 hf
  refine z_istore_n (lv' := [(1, .int y_1), (0, .int x0)]) C d_Po_placeOf_4 rfl (by decide) rfl ?_
  refine z_iload_n C d_Po_placeOf_5 rfl 1 rfl ?_
  refine z_iload_n C d_Po_placeOf_6 rfl 0 rfl ?_
  refine z_iconst (v := -1) C d_Po_placeOf_7 (by decide) ?_
  refine z_ixor C d_Po_placeOf_8 ?_
  refine z_iand C d_Po_placeOf_9 ?_
  refine z_iload_n C d_Po_placeOf_10 rfl 1 rfl ?_
  refine z_iload_n C d_Po_placeOf_11 rfl 0 rfl ?_
  refine z_iconst (v := -1) C d_Po_placeOf_12 (by decide) ?_
  refine z_ixor C d_Po_placeOf_13 ?_
  refine z_iand C d_Po_placeOf_14 ?_
  refine z_ineg C d_Po_placeOf_15 ?_
  refine z_iand C d_Po_placeOf_16 ?_
  refine z_topi (fun y_2 ey_2 => ?_)
  have hf := zlet_at ey_2 hf
  refine z_istore_n (lv' := [(2, .int y_2), (1, .int y_1), (0, .int x0)]) C d_Po_placeOf_17 rfl (by decide) rfl ?_
  refine z_iload_n C d_Po_placeOf_18 rfl 2 rfl ?_
  refine z_iload_n C d_Po_placeOf_19 rfl 1 rfl ?_
  refine z_iconst (v := -1) C d_Po_placeOf_20 (by decide) ?_
  refine z_ixor C d_Po_placeOf_21 ?_
  refine z_iand C d_Po_placeOf_22 ?_
  refine z_iload_n C d_Po_placeOf_23 rfl 0 rfl ?_
  refine z_iconst (v := -1) C d_Po_placeOf_24 (by decide) ?_
  refine z_ixor C d_Po_placeOf_25 ?_
  refine z_iand C d_Po_placeOf_26 ?_
  refine z_topi (fun y_3 ey_3 => ?_)
  have hf := zlet_at ey_3 hf
  refine z_istore_n (lv' := [(3, .int y_3), (2, .int y_2), (1, .int y_1), (0, .int x0)]) C d_Po_placeOf_27 rfl (by decide) rfl ?_
  refine z_iload_n C d_Po_placeOf_28 rfl 3 rfl ?_
  refine z_if_lt (tgt := 46) C d_Po_placeOf_29 (by decide) (fun c_4 => ?_) (fun c_4 => ?_)
  · have hf := zif_pos c_4 hf
    refine z_iconst (v := -1) C d_Po_placeOf_46 (by decide) ?_
    subst hf
    exact z_iret C hr d_Po_placeOf_47
  · have hf := zif_neg c_4 hf
    refine z_iload_n C d_Po_placeOf_32 rfl 3 rfl ?_
    refine z_ldc (v := 16777215) C zw_238 d_Po_placeOf_33 ?_
    refine z_icmp_gt (tgt := 46) C d_Po_placeOf_35 (by decide) (fun c_5 => ?_) (fun c_5 => ?_)
    · have hf := zif_pos c_5 hf
      refine z_iconst (v := -1) C d_Po_placeOf_46 (by decide) ?_
      subst hf
      exact z_iret C hr d_Po_placeOf_47
    · have hf := zif_neg c_5 hf
      refine z_iload_n C d_Po_placeOf_38 rfl 0 rfl ?_
      refine z_iload_n C d_Po_placeOf_39 rfl 0 rfl ?_
      refine z_iconst (v := 1) C d_Po_placeOf_40 (by decide) ?_
      refine z_isub C d_Po_placeOf_41 ?_
      refine z_iand C d_Po_placeOf_42 ?_
      refine z_if_eq (tgt := 48) C d_Po_placeOf_43 (by decide) (fun c_6 => ?_) (fun c_6 => ?_)
      · have hf := zif_pos c_6 hf
        refine z_iload_n C d_Po_placeOf_48 rfl 3 rfl ?_
        refine z_if_ne (tgt := 54) C d_Po_placeOf_49 (by decide) (fun c_7 => ?_) (fun c_7 => ?_)
        · have hf := zif_neg c_7 hf
          refine z_iload_n C d_Po_placeOf_54 rfl 2 rfl ?_
          refine z_iconst (v := 1) C d_Po_placeOf_55 (by decide) ?_
          refine z_isub C d_Po_placeOf_56 ?_
          refine z_callS (As := [.int (y_1 - (1 : Int32))]) (rest := []) (ws' := []) C (c_Jint_bitCount rfl) mi_Jint_bitCount zw_239 (by decide) [] (by decide) rfl rfl rfl rfl rfl (by decide) ⟨Nat.zero_le _, Nat.zero_le _⟩ d_Po_placeOf_57 ?_
          refine z_topi (fun y_9 ey_9 => ?_)
          have hf := zlet_at ey_9 hf
          refine z_istore (lv' := [(4, .int y_9), (3, .int y_3), (2, .int y_2), (1, .int y_1), (0, .int x0)]) C d_Po_placeOf_60 (by decide) rfl ?_
          refine z_iload_n C d_Po_placeOf_62 rfl 2 rfl ?_
          refine z_if_ne (tgt := 71) C d_Po_placeOf_63 (by decide) (fun c_10 => ?_) (fun c_10 => ?_)
          · have hf := zif_neg c_10 hf
            refine z_iload_n C d_Po_placeOf_71 rfl 2 rfl ?_
            refine z_iconst (v := 1) C d_Po_placeOf_72 (by decide) ?_
            refine z_isub C d_Po_placeOf_73 ?_
            refine z_callS (As := [.int (y_2 - (1 : Int32))]) (rest := []) (ws' := []) C (c_Jint_bitCount rfl) mi_Jint_bitCount zw_239 (by decide) [] (by decide) rfl rfl rfl rfl rfl (by decide) ⟨Nat.zero_le _, Nat.zero_le _⟩ d_Po_placeOf_74 ?_
            refine z_topi (fun y_12 ey_12 => ?_)
            have hf := zlet_at ey_12 hf
            refine z_istore (lv' := [(5, .int y_12), (4, .int y_9), (3, .int y_3), (2, .int y_2), (1, .int y_1), (0, .int x0)]) C d_Po_placeOf_77 (by decide) rfl ?_
            refine z_iload C d_Po_placeOf_79 0 rfl ?_
            refine z_iload C d_Po_placeOf_81 0 rfl ?_
            refine z_iconst (v := 1) C d_Po_placeOf_83 (by decide) ?_
            refine z_isub C d_Po_placeOf_84 ?_
            refine z_imul C d_Po_placeOf_85 ?_
            refine z_iconst (v := 2) C d_Po_placeOf_86 (by decide) ?_
            refine z_idiv C d_Po_placeOf_87 (by decide) ?_
            refine z_iload C d_Po_placeOf_88 1 rfl ?_
            refine z_iadd C d_Po_placeOf_90 ?_
            refine z_topi (fun y_13 ey_13 => ?_)
            have hf := zlet_at ey_13 hf
            refine z_istore (lv' := [(6, .int y_13), (5, .int y_12), (4, .int y_9), (3, .int y_3), (2, .int y_2), (1, .int y_1), (0, .int x0)]) C d_Po_placeOf_91 (by decide) rfl ?_
            refine z_iload_n C d_Po_placeOf_93 rfl 3 rfl ?_
            refine z_if_ne (tgt := 103) C d_Po_placeOf_94 (by decide) (fun c_14 => ?_) (fun c_14 => ?_)
            · have hf := zif_neg c_14 hf
              refine z_iload_n C d_Po_placeOf_103 rfl 3 rfl ?_
              refine z_iconst (v := 1) C d_Po_placeOf_104 (by decide) ?_
              refine z_isub C d_Po_placeOf_105 ?_
              refine z_callS (As := [.int (y_3 - (1 : Int32))]) (rest := []) (ws' := []) C (c_Jint_bitCount rfl) mi_Jint_bitCount zw_239 (by decide) [] (by decide) rfl rfl rfl rfl rfl (by decide) ⟨Nat.zero_le _, Nat.zero_le _⟩ d_Po_placeOf_106 ?_
              refine z_topi (fun y_16 ey_16 => ?_)
              have hf := zlet_at ey_16 hf
              refine z_istore (lv' := [(7, .int y_16), (6, .int y_13), (5, .int y_12), (4, .int y_9), (3, .int y_3), (2, .int y_2), (1, .int y_1), (0, .int x0)]) C d_Po_placeOf_109 (by decide) rfl ?_
              refine z_sipush (v := 301) C d_Po_placeOf_111 (by decide) ?_
              refine z_iload C d_Po_placeOf_114 0 rfl ?_
              refine z_iload C d_Po_placeOf_116 0 rfl ?_
              refine z_iconst (v := 1) C d_Po_placeOf_118 (by decide) ?_
              refine z_isub C d_Po_placeOf_119 ?_
              refine z_imul C d_Po_placeOf_120 ?_
              refine z_iload C d_Po_placeOf_121 0 rfl ?_
              refine z_iconst (v := 2) C d_Po_placeOf_123 (by decide) ?_
              refine z_isub C d_Po_placeOf_124 ?_
              refine z_imul C d_Po_placeOf_125 ?_
              refine z_bipush (v := 6) C d_Po_placeOf_126 (by decide) ?_
              refine z_idiv C d_Po_placeOf_128 (by decide) ?_
              refine z_iadd C d_Po_placeOf_129 ?_
              refine z_iload C d_Po_placeOf_130 1 rfl ?_
              refine z_iadd C d_Po_placeOf_132 ?_
              subst hf
              exact z_iret C hr d_Po_placeOf_133
            · have hf := zif_pos c_14 hf
              refine z_bipush (v := 25) C d_Po_placeOf_97 (by decide) ?_
              refine z_iload C d_Po_placeOf_99 0 rfl ?_
              refine z_iadd C d_Po_placeOf_101 ?_
              subst hf
              exact z_iret C hr d_Po_placeOf_102
          · have hf := zif_pos c_10 hf
            refine z_iconst (v := 1) C d_Po_placeOf_66 (by decide) ?_
            refine z_iload C d_Po_placeOf_67 0 rfl ?_
            refine z_iadd C d_Po_placeOf_69 ?_
            subst hf
            exact z_iret C hr d_Po_placeOf_70
        · have hf := zif_pos c_7 hf
          refine z_iconst (v := 0) C d_Po_placeOf_52 (by decide) ?_
          subst hf
          exact z_iret C hr d_Po_placeOf_53
      · have hf := zif_neg c_6 hf
        refine z_iconst (v := -1) C d_Po_placeOf_46 (by decide) ?_
        subst hf
        exact z_iret C hr d_Po_placeOf_47
theorem c_Po_placeOf {l : Launch} {D : va_G} {cI cL : ClassId} {rr x0 : Int32} (hf : f_Po_placeOf x0 = rr) : zM l y_Po_placeOf (Cond.code y_Po_placeOf b_Po_placeOf 8 (some .int) :: zT) rm_Po_placeOf D vwCl [(cI, .int), (cL, .long)] [.int x0] [] [] (some (.int rr)) :=
  zM.intro (by decide) rfl (fun _ h => List.mem_cons_of_mem _ h) (Nat.le_of_ble_eq_true rfl) (fun _ _ _ _ _ _ _ C hr _ => k_Po_placeOf C hr hf)
def rm_Po_numberOf : Room := { frames := 2, cells := 0, slots := 0, locals := 47 }
/-- PathSums$Polynomial.numberOf(I)I -/
def f_Po_numberOf (x1 : Int32) (v_numbers : Nat → Int32) : Option (Int32) :=
  zlet (f_Po_placeOf x1) fun y_2 =>
  if y_2 < 0 then (
    some (0 : Int32))
  else (
    if (2325 : Int32) ≤ y_2 then (
      some (0 : Int32))
    else (
      if y_2 < 0 ∨ 2325 ≤ y_2.toNatClampNeg then none else
      some (v_numbers y_2.toNatClampNeg)))
set_option maxRecDepth 100000 in
set_option maxHeartbeats 4000000 in
theorem k_Po_numberOf {p : Program} {l : Launch} {e : Env} {s : State} {m : MethodId} {args : Array Value} {below : List Frame} {meth : Method} {c : Code} {D : va_G} {cI cL : ClassId} {h_this h_this_numbers : Nat} {v_monomials rr x1 : Int32} {v_numbers : Nat → Int32} (C : zC p s m args meth c b_Po_numberOf 3 R_Po D vwCl [(cI, .int), (cL, .long)] (zA [h_this, h_this_numbers] s.heap.size)) (hr : meth.sig.returnType = some .int) (hf : f_Po_numberOf x1 v_numbers = some rr) : ZV p l e rm_Po_numberOf s m args below meth c 3 D (some (.int rr)) [(h_this, .inr (1, [.ref h_this_numbers, .int v_monomials])), (h_this_numbers, .inl (cI, 2325, .inl v_numbers))] [h_this, h_this_numbers] [(h_this, .inr (1, [.ref h_this_numbers, .int v_monomials])), (h_this_numbers, .inl (cI, 2325, .inl v_numbers))] 0 [(0, .ref h_this), (1, .int x1)] [] := by
  unfold f_Po_numberOf at hf
  refine z_iload_n C d_Po_numberOf_0 rfl 1 rfl ?_
  refine z_callS (As := [.int x1]) (rest := []) (ws' := [(h_this, .inr (1, [.ref h_this_numbers, .int v_monomials])), (h_this_numbers, .inl (cI, 2325, .inl v_numbers))]) C (c_Po_placeOf rfl) mi_Po_placeOf zw_235 (by decide) [] (by decide) rfl rfl rfl rfl rfl (by decide) ⟨Nat.zero_le _, Nat.zero_le _⟩ d_Po_numberOf_1 ?_
  refine z_topi (fun y_2 ey_2 => ?_)
  have hf := zlet_at ey_2 hf
  refine z_istore_n (lv' := [(2, .int y_2), (0, .ref h_this), (1, .int x1)]) C d_Po_numberOf_4 rfl (by decide) rfl ?_
  refine z_iload_n C d_Po_numberOf_5 rfl 0 rfl ?_
  refine z_if_lt (tgt := 25) C d_Po_numberOf_6 (by decide) (fun c_3 => ?_) (fun c_3 => ?_)
  · have hf := zif_pos c_3 hf
    refine z_iconst (v := 0) C d_Po_numberOf_25 (by decide) ?_
    cases hf
    exact z_iret C hr d_Po_numberOf_26
  · have hf := zif_neg c_3 hf
    refine z_iload_n C d_Po_numberOf_9 rfl 0 rfl ?_
    refine z_sipush (v := 2325) C d_Po_numberOf_10 (by decide) ?_
    refine z_icmp_ge (tgt := 25) C d_Po_numberOf_13 (by decide) (fun c_4 => ?_) (fun c_4 => ?_)
    · have hf := zif_pos c_4 hf
      refine z_iconst (v := 0) C d_Po_numberOf_25 (by decide) ?_
      cases hf
      exact z_iret C hr d_Po_numberOf_26
    · have hf := zif_neg c_4 hf
      refine z_aload_n C d_Po_numberOf_16 rfl 1 rfl ?_
      refine z_get C iw_Po 0 rfl rfl 0 (by decide) zw_74 rfl d_Po_numberOf_17 ?_
      refine z_iload_n C d_Po_numberOf_20 rfl 0 rfl ?_
      obtain ⟨g_5, hf⟩ := zguard hf
      refine z_iald C 1 0 rfl rfl g_5 d_Po_numberOf_21 ?_
      refine z_goto (tgt := 26) C d_Po_numberOf_22 (by decide) ?_
      cases hf
      exact z_iret C hr d_Po_numberOf_26
theorem c_Po_numberOf {l : Launch} {D : va_G} {cI cL : ClassId} {h_this h_this_numbers : Nat} {v_monomials rr x1 : Int32} {v_numbers : Nat → Int32} (hf : f_Po_numberOf x1 v_numbers = some rr) : zM l y_Po_numberOf (Cond.code y_Po_numberOf b_Po_numberOf 3 (some .int) :: zT) rm_Po_numberOf D vwCl [(cI, .int), (cL, .long)] [.ref h_this, .int x1] [(h_this, .inr (1, [.ref h_this_numbers, .int v_monomials])), (h_this_numbers, .inl (cI, 2325, .inl v_numbers))] [(h_this, .inr (1, [.ref h_this_numbers, .int v_monomials])), (h_this_numbers, .inl (cI, 2325, .inl v_numbers))] (some (.int rr)) :=
  zM.intro (by decide) rfl (fun _ h => List.mem_cons_of_mem _ h) (Nat.le_of_ble_eq_true rfl) (fun _ _ _ _ _ _ _ C hr _ => k_Po_numberOf C hr hf)
def rm_Po_add : Room := { frames := 2, cells := 0, slots := 0, locals := 47 }
/-- PathSums$Polynomial.add(II)V -/
def f_Po_add (x1 : Int32) (x2 : Int32) (v_monomials : Int32) (v_numbers : Nat → Int32) : Option (Int32 × (Nat → Int32)) :=
  zlet (f_Po_placeOf x1) fun y_2 =>
  if y_2 < 0 then (
    some (v_monomials, v_numbers))
  else (
    if y_2 < (2325 : Int32) then (
      if y_2 < 0 ∨ 2325 ≤ y_2.toNatClampNeg then none else
      zlet (v_numbers y_2.toNatClampNeg) fun y_6 =>
      zlet ((y_6 + x2) &&& (7 : Int32)) fun y_7 =>
      if y_2 < 0 ∨ 2325 ≤ y_2.toNatClampNeg then none else
      zlet (upd v_numbers y_2.toNatClampNeg y_7) fun u_9 =>
      if y_7 = 0 then (
        if y_6 = 0 then (
          zlet (v_monomials + ((0 : Int32) - (0 : Int32))) fun y_12 =>
          some (y_12, u_9))
        else (
          zlet (v_monomials + ((0 : Int32) - (1 : Int32))) fun y_13 =>
          some (y_13, u_9)))
      else (
        if y_6 = 0 then (
          zlet (v_monomials + ((1 : Int32) - (0 : Int32))) fun y_15 =>
          some (y_15, u_9))
        else (
          zlet (v_monomials + ((1 : Int32) - (1 : Int32))) fun y_16 =>
          some (y_16, u_9))))
    else (
      some (v_monomials, v_numbers)))
set_option maxRecDepth 100000 in
set_option maxHeartbeats 4000000 in
theorem k_Po_add {p : Program} {l : Launch} {e : Env} {s : State} {m : MethodId} {args : Array Value} {below : List Frame} {meth : Method} {c : Code} {D : va_G} {cI cL : ClassId} {h_this h_this_numbers : Nat} {v_monomials o_monomials x1 x2 : Int32} {v_numbers o_numbers : Nat → Int32} (C : zC p s m args meth c b_Po_add 6 R_Po D vwCl [(cI, .int), (cL, .long)] (zA [h_this, h_this_numbers] s.heap.size)) (hr : meth.sig.returnType = none) (hf : f_Po_add x1 x2 v_monomials v_numbers = some (o_monomials, o_numbers)) : ZV p l e rm_Po_add s m args below meth c 6 D (none) [(h_this, .inr (1, [.ref h_this_numbers, .int o_monomials])), (h_this_numbers, .inl (cI, 2325, .inl o_numbers))] [h_this, h_this_numbers] [(h_this, .inr (1, [.ref h_this_numbers, .int v_monomials])), (h_this_numbers, .inl (cI, 2325, .inl v_numbers))] 0 [(0, .ref h_this), (1, .int x1), (2, .int x2)] [] := by
  unfold f_Po_add at hf
  refine z_iload_n C d_Po_add_0 rfl 1 rfl ?_
  refine z_callS (As := [.int x1]) (rest := []) (ws' := [(h_this, .inr (1, [.ref h_this_numbers, .int v_monomials])), (h_this_numbers, .inl (cI, 2325, .inl v_numbers))]) C (c_Po_placeOf rfl) mi_Po_placeOf zw_235 (by decide) [] (by decide) rfl rfl rfl rfl rfl (by decide) ⟨Nat.zero_le _, Nat.zero_le _⟩ d_Po_add_1 ?_
  refine z_topi (fun y_2 ey_2 => ?_)
  have hf := zlet_at ey_2 hf
  refine z_istore_n (lv' := [(3, .int y_2), (0, .ref h_this), (1, .int x1), (2, .int x2)]) C d_Po_add_4 rfl (by decide) rfl ?_
  refine z_iload_n C d_Po_add_5 rfl 0 rfl ?_
  refine z_if_lt (tgt := 16) C d_Po_add_6 (by decide) (fun c_3 => ?_) (fun c_3 => ?_)
  · have hf := zif_pos c_3 hf
    cases hf
    exact z_vret C hr d_Po_add_16
  · have hf := zif_neg c_3 hf
    refine z_iload_n C d_Po_add_9 rfl 0 rfl ?_
    refine z_sipush (v := 2325) C d_Po_add_10 (by decide) ?_
    refine z_icmp_lt (tgt := 17) C d_Po_add_13 (by decide) (fun c_4 => ?_) (fun c_4 => ?_)
    · have hf := zif_pos c_4 hf
      refine z_aload_n C d_Po_add_17 rfl 1 rfl ?_
      refine z_get C iw_Po 0 rfl rfl 0 (by decide) zw_74 rfl d_Po_add_18 ?_
      refine z_iload_n C d_Po_add_21 rfl 0 rfl ?_
      obtain ⟨g_5, hf⟩ := zguard hf
      refine z_iald C 1 0 rfl rfl g_5 d_Po_add_22 ?_
      refine z_topi (fun y_6 ey_6 => ?_)
      have hf := zlet_at ey_6 hf
      refine z_istore (lv' := [(4, .int y_6), (3, .int y_2), (0, .ref h_this), (1, .int x1), (2, .int x2)]) C d_Po_add_23 (by decide) rfl ?_
      refine z_iload C d_Po_add_25 0 rfl ?_
      refine z_iload_n C d_Po_add_27 rfl 4 rfl ?_
      refine z_iadd C d_Po_add_28 ?_
      refine z_bipush (v := 7) C d_Po_add_29 (by decide) ?_
      refine z_iand C d_Po_add_31 ?_
      refine z_topi (fun y_7 ey_7 => ?_)
      have hf := zlet_at ey_7 hf
      refine z_istore (lv' := [(5, .int y_7), (4, .int y_6), (3, .int y_2), (0, .ref h_this), (1, .int x1), (2, .int x2)]) C d_Po_add_32 (by decide) rfl ?_
      refine z_aload_n C d_Po_add_34 rfl 3 rfl ?_
      refine z_get C iw_Po 0 rfl rfl 0 (by decide) zw_74 rfl d_Po_add_35 ?_
      refine z_iload_n C d_Po_add_38 rfl 2 rfl ?_
      refine z_iload C d_Po_add_39 0 rfl ?_
      obtain ⟨g_8, hf⟩ := zguard hf
      obtain ⟨u_9, eu_9⟩ : ∃ u : Nat → Int32, u = upd v_numbers y_2.toNatClampNeg y_7 := ⟨_, rfl⟩
      have hf := zlet_at eu_9 hf
      refine z_iast (ws' := [(h_this, .inr (1, [.ref h_this_numbers, .int v_monomials])), (h_this_numbers, .inl (cI, 2325, .inl u_9))]) C 1 0 rfl rfl g_8 d_Po_add_41 (by rw [eu_9]; rfl) ?_
      refine z_aload_n C d_Po_add_42 rfl 3 rfl ?_
      refine z_dup C d_Po_add_43 rfl ?_
      refine z_get C iw_Po 0 rfl rfl 1 (by decide) zw_75 rfl d_Po_add_44 ?_
      refine z_iload C d_Po_add_47 0 rfl ?_
      refine z_if_ne (tgt := 56) C d_Po_add_49 (by decide) (fun c_10 => ?_) (fun c_10 => ?_)
      · have hf := zif_neg c_10 hf
        refine z_iconst (v := 1) C d_Po_add_56 (by decide) ?_
        refine z_iload C d_Po_add_57 1 rfl ?_
        refine z_if_ne (tgt := 66) C d_Po_add_59 (by decide) (fun c_14 => ?_) (fun c_14 => ?_)
        · have hf := zif_neg c_14 hf
          refine z_iconst (v := 1) C d_Po_add_66 (by decide) ?_
          refine z_isub C d_Po_add_67 ?_
          refine z_iadd C d_Po_add_68 ?_
          refine z_topi (fun y_16 ey_16 => ?_)
          have hf := zlet_at ey_16 hf
          refine z_put (ws' := [(h_this, .inr (1, [.ref h_this_numbers, .int y_16])), (h_this_numbers, .inl (cI, 2325, .inl u_9))]) C iw_Po t_Po t_Po_ok n_Po 0 rfl rfl 1 (by decide) zw_75 rfl (ty := .int) rfl rfl rfl (by simp) d_Po_add_69 rfl ?_
          cases hf
          exact z_vret C hr d_Po_add_72
        · have hf := zif_pos c_14 hf
          refine z_iconst (v := 0) C d_Po_add_62 (by decide) ?_
          refine z_goto (tgt := 67) C d_Po_add_63 (by decide) ?_
          refine z_isub C d_Po_add_67 ?_
          refine z_iadd C d_Po_add_68 ?_
          refine z_topi (fun y_15 ey_15 => ?_)
          have hf := zlet_at ey_15 hf
          refine z_put (ws' := [(h_this, .inr (1, [.ref h_this_numbers, .int y_15])), (h_this_numbers, .inl (cI, 2325, .inl u_9))]) C iw_Po t_Po t_Po_ok n_Po 0 rfl rfl 1 (by decide) zw_75 rfl (ty := .int) rfl rfl rfl (by simp) d_Po_add_69 rfl ?_
          cases hf
          exact z_vret C hr d_Po_add_72
      · have hf := zif_pos c_10 hf
        refine z_iconst (v := 0) C d_Po_add_52 (by decide) ?_
        refine z_goto (tgt := 57) C d_Po_add_53 (by decide) ?_
        refine z_iload C d_Po_add_57 1 rfl ?_
        refine z_if_ne (tgt := 66) C d_Po_add_59 (by decide) (fun c_11 => ?_) (fun c_11 => ?_)
        · have hf := zif_neg c_11 hf
          refine z_iconst (v := 1) C d_Po_add_66 (by decide) ?_
          refine z_isub C d_Po_add_67 ?_
          refine z_iadd C d_Po_add_68 ?_
          refine z_topi (fun y_13 ey_13 => ?_)
          have hf := zlet_at ey_13 hf
          refine z_put (ws' := [(h_this, .inr (1, [.ref h_this_numbers, .int y_13])), (h_this_numbers, .inl (cI, 2325, .inl u_9))]) C iw_Po t_Po t_Po_ok n_Po 0 rfl rfl 1 (by decide) zw_75 rfl (ty := .int) rfl rfl rfl (by simp) d_Po_add_69 rfl ?_
          cases hf
          exact z_vret C hr d_Po_add_72
        · have hf := zif_pos c_11 hf
          refine z_iconst (v := 0) C d_Po_add_62 (by decide) ?_
          refine z_goto (tgt := 67) C d_Po_add_63 (by decide) ?_
          refine z_isub C d_Po_add_67 ?_
          refine z_iadd C d_Po_add_68 ?_
          refine z_topi (fun y_12 ey_12 => ?_)
          have hf := zlet_at ey_12 hf
          refine z_put (ws' := [(h_this, .inr (1, [.ref h_this_numbers, .int y_12])), (h_this_numbers, .inl (cI, 2325, .inl u_9))]) C iw_Po t_Po t_Po_ok n_Po 0 rfl rfl 1 (by decide) zw_75 rfl (ty := .int) rfl rfl rfl (by simp) d_Po_add_69 rfl ?_
          cases hf
          exact z_vret C hr d_Po_add_72
    · have hf := zif_neg c_4 hf
      cases hf
      exact z_vret C hr d_Po_add_16
theorem c_Po_add {l : Launch} {D : va_G} {cI cL : ClassId} {h_this h_this_numbers : Nat} {v_monomials o_monomials x1 x2 : Int32} {v_numbers o_numbers : Nat → Int32} (hf : f_Po_add x1 x2 v_monomials v_numbers = some (o_monomials, o_numbers)) : zM l y_Po_add (Cond.code y_Po_add b_Po_add 6 none :: zT) rm_Po_add D vwCl [(cI, .int), (cL, .long)] [.ref h_this, .int x1, .int x2] [(h_this, .inr (1, [.ref h_this_numbers, .int v_monomials])), (h_this_numbers, .inl (cI, 2325, .inl v_numbers))] [(h_this, .inr (1, [.ref h_this_numbers, .int o_monomials])), (h_this_numbers, .inl (cI, 2325, .inl o_numbers))] (none) :=
  zM.intro (by decide) rfl (fun _ h => List.mem_cons_of_mem _ h) (Nat.le_of_ble_eq_true rfl) (fun _ _ _ _ _ _ _ C hr _ => k_Po_add C hr hf)
def rm_Po_clear : Room := { frames := 1, cells := 0, slots := 0, locals := 23 }
/-- PathSums$Polynomial.clear()V -/
def f_Po_clear (v_monomials : Int32) (v_numbers : Nat → Int32) : Option (Int32 × (Nat → Int32)) :=
  zb1 (f_Jarr_fill 2325 (0 : Int32) v_numbers) fun q_2 =>
  some ((0 : Int32), q_2)
set_option maxRecDepth 100000 in
set_option maxHeartbeats 4000000 in
theorem k_Po_clear {p : Program} {l : Launch} {e : Env} {s : State} {m : MethodId} {args : Array Value} {below : List Frame} {meth : Method} {c : Code} {D : va_G} {cI cL : ClassId} {h_this h_this_numbers : Nat} {v_monomials o_monomials : Int32} {v_numbers o_numbers : Nat → Int32} (C : zC p s m args meth c b_Po_clear 1 R_Po D vwCl [(cI, .int), (cL, .long)] (zA [h_this, h_this_numbers] s.heap.size)) (hr : meth.sig.returnType = none) (hf : f_Po_clear v_monomials v_numbers = some (o_monomials, o_numbers)) : ZV p l e rm_Po_clear s m args below meth c 1 D (none) [(h_this, .inr (1, [.ref h_this_numbers, .int o_monomials])), (h_this_numbers, .inl (cI, 2325, .inl o_numbers))] [h_this, h_this_numbers] [(h_this, .inr (1, [.ref h_this_numbers, .int v_monomials])), (h_this_numbers, .inl (cI, 2325, .inl v_numbers))] 0 [(0, .ref h_this)] [] := by
  unfold f_Po_clear at hf
  refine z_aload_n C d_Po_clear_0 rfl 0 rfl ?_
  refine z_get C iw_Po 0 rfl rfl 0 (by decide) zw_74 rfl d_Po_clear_1 ?_
  refine z_iconst (v := 0) C d_Po_clear_4 (by decide) ?_
  obtain ⟨q_2, h_1, hf⟩ := zb1_elim hf
  refine z_callS (As := [.ref h_this_numbers, .int (0 : Int32)]) (rest := []) (ws' := [(h_this, .inr (1, [.ref h_this_numbers, .int v_monomials])), (h_this_numbers, .inl (cI, 2325, .inl q_2))]) C (c_Jarr_fill h_1) mi_Jarr_fill zw_159 (by decide) [1] (by decide) rfl rfl rfl rfl rfl (by decide) ⟨Nat.zero_le _, Nat.zero_le _⟩ d_Po_clear_5 ?_
  refine z_aload_n C d_Po_clear_8 rfl 0 rfl ?_
  refine z_iconst (v := 0) C d_Po_clear_9 (by decide) ?_
  refine z_put (ws' := [(h_this, .inr (1, [.ref h_this_numbers, .int (0 : Int32)])), (h_this_numbers, .inl (cI, 2325, .inl q_2))]) C iw_Po t_Po t_Po_ok n_Po 0 rfl rfl 1 (by decide) zw_75 rfl (ty := .int) rfl rfl rfl (by simp) d_Po_clear_10 rfl ?_
  cases hf
  exact z_vret C hr d_Po_clear_13
theorem c_Po_clear {l : Launch} {D : va_G} {cI cL : ClassId} {h_this h_this_numbers : Nat} {v_monomials o_monomials : Int32} {v_numbers o_numbers : Nat → Int32} (hf : f_Po_clear v_monomials v_numbers = some (o_monomials, o_numbers)) : zM l y_Po_clear (Cond.code y_Po_clear b_Po_clear 1 none :: zT) rm_Po_clear D vwCl [(cI, .int), (cL, .long)] [.ref h_this] [(h_this, .inr (1, [.ref h_this_numbers, .int v_monomials])), (h_this_numbers, .inl (cI, 2325, .inl v_numbers))] [(h_this, .inr (1, [.ref h_this_numbers, .int o_monomials])), (h_this_numbers, .inl (cI, 2325, .inl o_numbers))] (none) :=
  zM.intro (by decide) rfl (fun _ h => List.mem_cons_of_mem _ h) (Nat.le_of_ble_eq_true rfl) (fun _ _ _ _ _ _ _ C hr _ => k_Po_clear C hr hf)
def rm_Po_addTriplesBelow : Room := { frames := 3, cells := 0, slots := 0, locals := 72 }
def f_Po_addTriplesBelow_l3 (x1 : Int32) (x2 : Int32) (x3 : Int32) (x4 : Int32) (v_monomials : Int32) (v_numbers : Nat → Int32) : Option ((Int32 × Int32 × (Nat → Int32)) ⊕ (Int32 × (Nat → Int32))) :=
  if x1 ≤ x4 then (
    some (.inr (v_monomials, v_numbers)))
  else (
    if (f_Ps_has x2 x4) = 0 then (
      zlet (x4 + 1) fun y_4 =>
      some (.inl (y_4, v_monomials, v_numbers)))
    else (
      zb2 (f_Po_add (x3 ||| ((1 : Int32) <<< (x4 &&& 31))) (4 : Int32) v_monomials v_numbers) fun q_6 q_7 =>
      zlet (x4 + 1) fun y_8 =>
      some (.inl (y_8, q_6, q_7))))
set_option maxRecDepth 100000 in
set_option maxHeartbeats 4000000 in
theorem k_Po_addTriplesBelow_l3 {p : Program} {l : Launch} {e : Env} {s : State} {m : MethodId} {args : Array Value} {below : List Frame} {meth : Method} {c : Code} {D : va_G} {cI cL : ClassId} {h_this h_this_numbers : Nat} {v_monomials o_monomials x1 x2 x3 x4 : Int32} {v_numbers o_numbers : Nat → Int32} (C : zC p s m args meth c b_Po_addTriplesBelow 5 R_Po D vwCl [(cI, .int), (cL, .long)] (zA [h_this, h_this_numbers] s.heap.size)) (hr : meth.sig.returnType = none) {z : (Int32 × Int32 × (Nat → Int32)) ⊕ (Int32 × (Nat → Int32))} (hf : f_Po_addTriplesBelow_l3 x1 x2 x3 x4 v_monomials v_numbers = some z) (hK : zcase (fun q => ZV p l e rm_Po_addTriplesBelow s m args below meth c 5 D (none) [(h_this, .inr (1, [.ref h_this_numbers, .int o_monomials])), (h_this_numbers, .inl (cI, 2325, .inl o_numbers))] [h_this, h_this_numbers] [(h_this, .inr (1, [.ref h_this_numbers, .int q.2.1])), (h_this_numbers, .inl (cI, 2325, .inl q.2.2))] 3 [(0, .ref h_this), (1, .int x1), (2, .int x2), (3, .int x3), (4, .int q.1)] []) (fun q => ZV p l e rm_Po_addTriplesBelow s m args below meth c 5 D (none) [(h_this, .inr (1, [.ref h_this_numbers, .int o_monomials])), (h_this_numbers, .inl (cI, 2325, .inl o_numbers))] [h_this, h_this_numbers] [(h_this, .inr (1, [.ref h_this_numbers, .int q.1])), (h_this_numbers, .inl (cI, 2325, .inl q.2))] 35 [] []) z) : ZV p l e rm_Po_addTriplesBelow s m args below meth c 5 D (none) [(h_this, .inr (1, [.ref h_this_numbers, .int o_monomials])), (h_this_numbers, .inl (cI, 2325, .inl o_numbers))] [h_this, h_this_numbers] [(h_this, .inr (1, [.ref h_this_numbers, .int v_monomials])), (h_this_numbers, .inl (cI, 2325, .inl v_numbers))] 3 [(0, .ref h_this), (1, .int x1), (2, .int x2), (3, .int x3), (4, .int x4)] [] := by
  unfold f_Po_addTriplesBelow_l3 at hf
  refine z_iload C d_Po_addTriplesBelow_3 4 rfl ?_
  refine z_iload_n C d_Po_addTriplesBelow_5 rfl 1 rfl ?_
  refine z_icmp_ge (tgt := 35) C d_Po_addTriplesBelow_6 (by decide) (fun c_1 => ?_) (fun c_1 => ?_)
  · have hf := zif_pos c_1 hf
    refine z_lv [] rfl ?_
    cases hf
    exact hK
  · have hf := zif_neg c_1 hf
    refine z_iload_n C d_Po_addTriplesBelow_9 rfl 2 rfl ?_
    refine z_iload C d_Po_addTriplesBelow_10 4 rfl ?_
    refine z_callSN (As := [.int x2, .int x4]) (rest := []) (ws' := [(h_this, .inr (1, [.ref h_this_numbers, .int v_monomials])), (h_this_numbers, .inl (cI, 2325, .inl v_numbers))]) C (c_Ps_has rfl) mi_Ps_has (znest C 7 rfl) (by decide) [] (by decide) rfl rfl rfl rfl rfl (by decide) ⟨Nat.zero_le _, Nat.zero_le _⟩ d_Po_addTriplesBelow_12 ?_
    refine z_if_eq (tgt := 29) C d_Po_addTriplesBelow_15 (by decide) (fun c_3 => ?_) (fun c_3 => ?_)
    · have hf := zif_pos c_3 hf
      obtain ⟨y_4, ey_4⟩ : ∃ y : Int32, y = x4 + 1 := ⟨_, rfl⟩
      have hf := zlet_at ey_4 hf
      refine z_iinc (v := y_4) (lv' := [(4, .int y_4), (0, .ref h_this), (1, .int x1), (2, .int x2), (3, .int x3)]) C d_Po_addTriplesBelow_29 (k := 4) rfl (by rw [ey_4]; rfl) (by decide) rfl ?_
      refine z_goto (tgt := 3) C d_Po_addTriplesBelow_32 (by decide) ?_
      refine z_lv [1, 2, 3, 4, 0] rfl ?_
      cases hf
      exact hK
    · have hf := zif_neg c_3 hf
      refine z_aload_n C d_Po_addTriplesBelow_18 rfl 0 rfl ?_
      refine z_iload_n C d_Po_addTriplesBelow_19 rfl 3 rfl ?_
      refine z_iconst (v := 1) C d_Po_addTriplesBelow_20 (by decide) ?_
      refine z_iload C d_Po_addTriplesBelow_21 4 rfl ?_
      refine z_ishl C d_Po_addTriplesBelow_23 ?_
      refine z_ior C d_Po_addTriplesBelow_24 ?_
      refine z_iconst (v := 4) C d_Po_addTriplesBelow_25 (by decide) ?_
      obtain ⟨q_6, q_7, h_5, hf⟩ := zb2_elim hf
      refine z_callV (As := [.int (x3 ||| ((1 : Int32) <<< (x4 &&& 31))), .int (4 : Int32)]) (rest := []) (ws' := [(h_this, .inr (1, [.ref h_this_numbers, .int q_6])), (h_this_numbers, .inl (cI, 2325, .inl q_7))]) C (c_Po_add h_5) mi_Po_add zw_231 (by decide) 0 rfl rfl [0, 1] (by decide) rfl rfl rfl rfl rfl (by decide) ⟨Nat.zero_le _, Nat.zero_le _⟩ d_Po_addTriplesBelow_26 ?_
      obtain ⟨y_8, ey_8⟩ : ∃ y : Int32, y = x4 + 1 := ⟨_, rfl⟩
      have hf := zlet_at ey_8 hf
      refine z_iinc (v := y_8) (lv' := [(4, .int y_8), (0, .ref h_this), (1, .int x1), (2, .int x2), (3, .int x3)]) C d_Po_addTriplesBelow_29 (k := 4) rfl (by rw [ey_8]; rfl) (by decide) rfl ?_
      refine z_goto (tgt := 3) C d_Po_addTriplesBelow_32 (by decide) ?_
      refine z_lv [1, 2, 3, 4, 0] rfl ?_
      cases hf
      exact hK
theorem k_Po_addTriplesBelow_l3_run {p : Program} {l : Launch} {e : Env} {s : State} {m : MethodId} {args : Array Value} {below : List Frame} {meth : Method} {c : Code} {D : va_G} {cI cL : ClassId} {h_this h_this_numbers : Nat} {v_monomials o_monomials x1 x2 x3 x4 : Int32} {v_numbers o_numbers : Nat → Int32} (C : zC p s m args meth c b_Po_addTriplesBelow 5 R_Po D vwCl [(cI, .int), (cL, .long)] (zA [h_this, h_this_numbers] s.heap.size)) (hr : meth.sig.returnType = none) {o0 : Int32} {o1 : Nat → Int32} (hf : zloop (fun q => f_Po_addTriplesBelow_l3 x1 x2 x3 q.1 q.2.1 q.2.2) zF (x4, v_monomials, v_numbers) = some (o0, o1)) (hK : ZV p l e rm_Po_addTriplesBelow s m args below meth c 5 D (none) [(h_this, .inr (1, [.ref h_this_numbers, .int o_monomials])), (h_this_numbers, .inl (cI, 2325, .inl o_numbers))] [h_this, h_this_numbers] [(h_this, .inr (1, [.ref h_this_numbers, .int o0])), (h_this_numbers, .inl (cI, 2325, .inl o1))] 35 [] []) : ZV p l e rm_Po_addTriplesBelow s m args below meth c 5 D (none) [(h_this, .inr (1, [.ref h_this_numbers, .int o_monomials])), (h_this_numbers, .inl (cI, 2325, .inl o_numbers))] [h_this, h_this_numbers] [(h_this, .inr (1, [.ref h_this_numbers, .int v_monomials])), (h_this_numbers, .inl (cI, 2325, .inl v_numbers))] 3 [(0, .ref h_this), (1, .int x1), (2, .int x2), (3, .int x3), (4, .int x4)] [] :=
  zloop_run (P := fun q => ZV p l e rm_Po_addTriplesBelow s m args below meth c 5 D (none) [(h_this, .inr (1, [.ref h_this_numbers, .int o_monomials])), (h_this_numbers, .inl (cI, 2325, .inl o_numbers))] [h_this, h_this_numbers] [(h_this, .inr (1, [.ref h_this_numbers, .int q.2.1])), (h_this_numbers, .inl (cI, 2325, .inl q.2.2))] 3 [(0, .ref h_this), (1, .int x1), (2, .int x2), (3, .int x3), (4, .int q.1)] []) (K := (fun q => ZV p l e rm_Po_addTriplesBelow s m args below meth c 5 D (none) [(h_this, .inr (1, [.ref h_this_numbers, .int o_monomials])), (h_this_numbers, .inl (cI, 2325, .inl o_numbers))] [h_this, h_this_numbers] [(h_this, .inr (1, [.ref h_this_numbers, .int q.1])), (h_this_numbers, .inl (cI, 2325, .inl q.2))] 35 [] [])) (fun q z hz hK => k_Po_addTriplesBelow_l3 C hr hz hK) zF _ ((o0, o1)) hf hK
/-- PathSums$Polynomial.addTriplesBelow(III)V -/
def f_Po_addTriplesBelow (x1 : Int32) (x2 : Int32) (x3 : Int32) (v_monomials : Int32) (v_numbers : Nat → Int32) : Option (Int32 × (Nat → Int32)) :=
  zb2 (zloop (fun q => f_Po_addTriplesBelow_l3 x1 x2 x3 q.1 q.2.1 q.2.2) zF ((0 : Int32), v_monomials, v_numbers)) fun q_1 q_2 =>
  some (q_1, q_2)
set_option maxRecDepth 100000 in
set_option maxHeartbeats 4000000 in
theorem k_Po_addTriplesBelow {p : Program} {l : Launch} {e : Env} {s : State} {m : MethodId} {args : Array Value} {below : List Frame} {meth : Method} {c : Code} {D : va_G} {cI cL : ClassId} {h_this h_this_numbers : Nat} {v_monomials o_monomials x1 x2 x3 : Int32} {v_numbers o_numbers : Nat → Int32} (C : zC p s m args meth c b_Po_addTriplesBelow 5 R_Po D vwCl [(cI, .int), (cL, .long)] (zA [h_this, h_this_numbers] s.heap.size)) (hr : meth.sig.returnType = none) (hf : f_Po_addTriplesBelow x1 x2 x3 v_monomials v_numbers = some (o_monomials, o_numbers)) : ZV p l e rm_Po_addTriplesBelow s m args below meth c 5 D (none) [(h_this, .inr (1, [.ref h_this_numbers, .int o_monomials])), (h_this_numbers, .inl (cI, 2325, .inl o_numbers))] [h_this, h_this_numbers] [(h_this, .inr (1, [.ref h_this_numbers, .int v_monomials])), (h_this_numbers, .inl (cI, 2325, .inl v_numbers))] 0 [(0, .ref h_this), (1, .int x1), (2, .int x2), (3, .int x3)] [] := by
  unfold f_Po_addTriplesBelow at hf
  refine z_iconst (v := 0) C d_Po_addTriplesBelow_0 (by decide) ?_
  refine z_istore (lv' := [(4, .int (0 : Int32)), (0, .ref h_this), (1, .int x1), (2, .int x2), (3, .int x3)]) C d_Po_addTriplesBelow_1 (by decide) rfl ?_
  refine z_lv [1, 2, 3, 4, 0] rfl ?_
  obtain ⟨q_1, q_2, h_3, hf⟩ := zb2_elim hf
  refine k_Po_addTriplesBelow_l3_run C hr h_3 ?_
  cases hf
  exact z_vret C hr d_Po_addTriplesBelow_35
theorem c_Po_addTriplesBelow {l : Launch} {D : va_G} {cI cL : ClassId} {h_this h_this_numbers : Nat} {v_monomials o_monomials x1 x2 x3 : Int32} {v_numbers o_numbers : Nat → Int32} (hf : f_Po_addTriplesBelow x1 x2 x3 v_monomials v_numbers = some (o_monomials, o_numbers)) : zM l y_Po_addTriplesBelow (Cond.code y_Po_addTriplesBelow b_Po_addTriplesBelow 5 none :: zT) rm_Po_addTriplesBelow D vwCl [(cI, .int), (cL, .long)] [.ref h_this, .int x1, .int x2, .int x3] [(h_this, .inr (1, [.ref h_this_numbers, .int v_monomials])), (h_this_numbers, .inl (cI, 2325, .inl v_numbers))] [(h_this, .inr (1, [.ref h_this_numbers, .int o_monomials])), (h_this_numbers, .inl (cI, 2325, .inl o_numbers))] (none) :=
  zM.intro (by decide) rfl (fun _ h => List.mem_cons_of_mem _ h) (Nat.le_of_ble_eq_true rfl) (fun _ _ _ _ _ _ _ C hr _ => k_Po_addTriplesBelow C hr hf)
def rm_Po_addPairsBelow : Room := { frames := 4, cells := 0, slots := 0, locals := 96 }
def f_Po_addPairsBelow_l3 (x1 : Int32) (x2 : Int32) (x3 : Int32) (x4 : Int32) (x5 : Int32) (v_monomials : Int32) (v_numbers : Nat → Int32) : Option ((Int32 × Int32 × (Nat → Int32)) ⊕ (Int32 × (Nat → Int32))) :=
  if x1 ≤ x5 then (
    some (.inr (v_monomials, v_numbers)))
  else (
    if (f_Ps_has x3 x5) = 0 then (
      zlet (x5 + 1) fun y_4 =>
      some (.inl (y_4, v_monomials, v_numbers)))
    else (
      zb2 (f_Po_add (x4 ||| ((1 : Int32) <<< (x5 &&& 31))) ((-2 : Int32) * x2) v_monomials v_numbers) fun q_6 q_7 =>
      if (f_Ps_has x2 (0 : Int32)) = 0 then (
        zlet (x5 + 1) fun y_10 =>
        some (.inl (y_10, q_6, q_7)))
      else (
        zb2 (f_Po_addTriplesBelow x5 x3 (x4 ||| ((1 : Int32) <<< (x5 &&& 31))) q_6 q_7) fun q_12 q_13 =>
        zlet (x5 + 1) fun y_14 =>
        some (.inl (y_14, q_12, q_13)))))
set_option maxRecDepth 100000 in
set_option maxHeartbeats 4000000 in
theorem k_Po_addPairsBelow_l3 {p : Program} {l : Launch} {e : Env} {s : State} {m : MethodId} {args : Array Value} {below : List Frame} {meth : Method} {c : Code} {D : va_G} {cI cL : ClassId} {h_this h_this_numbers : Nat} {v_monomials o_monomials x1 x2 x3 x4 x5 : Int32} {v_numbers o_numbers : Nat → Int32} (C : zC p s m args meth c b_Po_addPairsBelow 6 R_Po D vwCl [(cI, .int), (cL, .long)] (zA [h_this, h_this_numbers] s.heap.size)) (hr : meth.sig.returnType = none) {z : (Int32 × Int32 × (Nat → Int32)) ⊕ (Int32 × (Nat → Int32))} (hf : f_Po_addPairsBelow_l3 x1 x2 x3 x4 x5 v_monomials v_numbers = some z) (hK : zcase (fun q => ZV p l e rm_Po_addPairsBelow s m args below meth c 6 D (none) [(h_this, .inr (1, [.ref h_this_numbers, .int o_monomials])), (h_this_numbers, .inl (cI, 2325, .inl o_numbers))] [h_this, h_this_numbers] [(h_this, .inr (1, [.ref h_this_numbers, .int q.2.1])), (h_this_numbers, .inl (cI, 2325, .inl q.2.2))] 3 [(0, .ref h_this), (1, .int x1), (2, .int x2), (3, .int x3), (4, .int x4), (5, .int q.1)] []) (fun q => ZV p l e rm_Po_addPairsBelow s m args below meth c 6 D (none) [(h_this, .inr (1, [.ref h_this_numbers, .int o_monomials])), (h_this_numbers, .inl (cI, 2325, .inl o_numbers))] [h_this, h_this_numbers] [(h_this, .inr (1, [.ref h_this_numbers, .int q.1])), (h_this_numbers, .inl (cI, 2325, .inl q.2))] 61 [] []) z) : ZV p l e rm_Po_addPairsBelow s m args below meth c 6 D (none) [(h_this, .inr (1, [.ref h_this_numbers, .int o_monomials])), (h_this_numbers, .inl (cI, 2325, .inl o_numbers))] [h_this, h_this_numbers] [(h_this, .inr (1, [.ref h_this_numbers, .int v_monomials])), (h_this_numbers, .inl (cI, 2325, .inl v_numbers))] 3 [(0, .ref h_this), (1, .int x1), (2, .int x2), (3, .int x3), (4, .int x4), (5, .int x5)] [] := by
  unfold f_Po_addPairsBelow_l3 at hf
  refine z_iload C d_Po_addPairsBelow_3 5 rfl ?_
  refine z_iload_n C d_Po_addPairsBelow_5 rfl 1 rfl ?_
  refine z_icmp_ge (tgt := 61) C d_Po_addPairsBelow_6 (by decide) (fun c_1 => ?_) (fun c_1 => ?_)
  · have hf := zif_pos c_1 hf
    refine z_lv [] rfl ?_
    cases hf
    exact hK
  · have hf := zif_neg c_1 hf
    refine z_iload_n C d_Po_addPairsBelow_9 rfl 3 rfl ?_
    refine z_iload C d_Po_addPairsBelow_10 5 rfl ?_
    refine z_callSN (As := [.int x3, .int x5]) (rest := []) (ws' := [(h_this, .inr (1, [.ref h_this_numbers, .int v_monomials])), (h_this_numbers, .inl (cI, 2325, .inl v_numbers))]) C (c_Ps_has rfl) mi_Ps_has (znest C 7 rfl) (by decide) [] (by decide) rfl rfl rfl rfl rfl (by decide) ⟨Nat.zero_le _, Nat.zero_le _⟩ d_Po_addPairsBelow_12 ?_
    refine z_if_eq (tgt := 55) C d_Po_addPairsBelow_15 (by decide) (fun c_3 => ?_) (fun c_3 => ?_)
    · have hf := zif_pos c_3 hf
      obtain ⟨y_4, ey_4⟩ : ∃ y : Int32, y = x5 + 1 := ⟨_, rfl⟩
      have hf := zlet_at ey_4 hf
      refine z_iinc (v := y_4) (lv' := [(5, .int y_4), (0, .ref h_this), (1, .int x1), (2, .int x2), (3, .int x3), (4, .int x4)]) C d_Po_addPairsBelow_55 (k := 5) rfl (by rw [ey_4]; rfl) (by decide) rfl ?_
      refine z_goto (tgt := 3) C d_Po_addPairsBelow_58 (by decide) ?_
      refine z_lv [1, 2, 3, 4, 5, 0] rfl ?_
      cases hf
      exact hK
    · have hf := zif_neg c_3 hf
      refine z_aload_n C d_Po_addPairsBelow_18 rfl 0 rfl ?_
      refine z_iload C d_Po_addPairsBelow_19 4 rfl ?_
      refine z_iconst (v := 1) C d_Po_addPairsBelow_21 (by decide) ?_
      refine z_iload C d_Po_addPairsBelow_22 5 rfl ?_
      refine z_ishl C d_Po_addPairsBelow_24 ?_
      refine z_ior C d_Po_addPairsBelow_25 ?_
      refine z_bipush (v := -2) C d_Po_addPairsBelow_26 (by decide) ?_
      refine z_iload_n C d_Po_addPairsBelow_28 rfl 2 rfl ?_
      refine z_imul C d_Po_addPairsBelow_29 ?_
      obtain ⟨q_6, q_7, h_5, hf⟩ := zb2_elim hf
      refine z_callV (As := [.int (x4 ||| ((1 : Int32) <<< (x5 &&& 31))), .int ((-2 : Int32) * x2)]) (rest := []) (ws' := [(h_this, .inr (1, [.ref h_this_numbers, .int q_6])), (h_this_numbers, .inl (cI, 2325, .inl q_7))]) C (c_Po_add h_5) mi_Po_add zw_231 (by decide) 0 rfl rfl [0, 1] (by decide) rfl rfl rfl rfl rfl (by decide) ⟨Nat.zero_le _, Nat.zero_le _⟩ d_Po_addPairsBelow_30 ?_
      refine z_iload_n C d_Po_addPairsBelow_33 rfl 2 rfl ?_
      refine z_iconst (v := 0) C d_Po_addPairsBelow_34 (by decide) ?_
      refine z_callSN (As := [.int x2, .int (0 : Int32)]) (rest := []) (ws' := [(h_this, .inr (1, [.ref h_this_numbers, .int q_6])), (h_this_numbers, .inl (cI, 2325, .inl q_7))]) C (c_Ps_has rfl) mi_Ps_has (znest C 7 rfl) (by decide) [] (by decide) rfl rfl rfl rfl rfl (by decide) ⟨Nat.zero_le _, Nat.zero_le _⟩ d_Po_addPairsBelow_35 ?_
      refine z_if_eq (tgt := 55) C d_Po_addPairsBelow_38 (by decide) (fun c_9 => ?_) (fun c_9 => ?_)
      · have hf := zif_pos c_9 hf
        obtain ⟨y_10, ey_10⟩ : ∃ y : Int32, y = x5 + 1 := ⟨_, rfl⟩
        have hf := zlet_at ey_10 hf
        refine z_iinc (v := y_10) (lv' := [(5, .int y_10), (0, .ref h_this), (1, .int x1), (2, .int x2), (3, .int x3), (4, .int x4)]) C d_Po_addPairsBelow_55 (k := 5) rfl (by rw [ey_10]; rfl) (by decide) rfl ?_
        refine z_goto (tgt := 3) C d_Po_addPairsBelow_58 (by decide) ?_
        refine z_lv [1, 2, 3, 4, 5, 0] rfl ?_
        cases hf
        exact hK
      · have hf := zif_neg c_9 hf
        refine z_aload_n C d_Po_addPairsBelow_41 rfl 0 rfl ?_
        refine z_iload C d_Po_addPairsBelow_42 5 rfl ?_
        refine z_iload_n C d_Po_addPairsBelow_44 rfl 3 rfl ?_
        refine z_iload C d_Po_addPairsBelow_45 4 rfl ?_
        refine z_iconst (v := 1) C d_Po_addPairsBelow_47 (by decide) ?_
        refine z_iload C d_Po_addPairsBelow_48 5 rfl ?_
        refine z_ishl C d_Po_addPairsBelow_50 ?_
        refine z_ior C d_Po_addPairsBelow_51 ?_
        obtain ⟨q_12, q_13, h_11, hf⟩ := zb2_elim hf
        refine z_callV (As := [.int x5, .int x3, .int (x4 ||| ((1 : Int32) <<< (x5 &&& 31)))]) (rest := []) (ws' := [(h_this, .inr (1, [.ref h_this_numbers, .int q_12])), (h_this_numbers, .inl (cI, 2325, .inl q_13))]) C (c_Po_addTriplesBelow h_11) mi_Po_addTriplesBelow zw_249 (by decide) 0 rfl rfl [0, 1] (by decide) rfl rfl rfl rfl rfl (by decide) ⟨Nat.zero_le _, Nat.zero_le _⟩ d_Po_addPairsBelow_52 ?_
        obtain ⟨y_14, ey_14⟩ : ∃ y : Int32, y = x5 + 1 := ⟨_, rfl⟩
        have hf := zlet_at ey_14 hf
        refine z_iinc (v := y_14) (lv' := [(5, .int y_14), (0, .ref h_this), (1, .int x1), (2, .int x2), (3, .int x3), (4, .int x4)]) C d_Po_addPairsBelow_55 (k := 5) rfl (by rw [ey_14]; rfl) (by decide) rfl ?_
        refine z_goto (tgt := 3) C d_Po_addPairsBelow_58 (by decide) ?_
        refine z_lv [1, 2, 3, 4, 5, 0] rfl ?_
        cases hf
        exact hK
theorem k_Po_addPairsBelow_l3_run {p : Program} {l : Launch} {e : Env} {s : State} {m : MethodId} {args : Array Value} {below : List Frame} {meth : Method} {c : Code} {D : va_G} {cI cL : ClassId} {h_this h_this_numbers : Nat} {v_monomials o_monomials x1 x2 x3 x4 x5 : Int32} {v_numbers o_numbers : Nat → Int32} (C : zC p s m args meth c b_Po_addPairsBelow 6 R_Po D vwCl [(cI, .int), (cL, .long)] (zA [h_this, h_this_numbers] s.heap.size)) (hr : meth.sig.returnType = none) {o0 : Int32} {o1 : Nat → Int32} (hf : zloop (fun q => f_Po_addPairsBelow_l3 x1 x2 x3 x4 q.1 q.2.1 q.2.2) zF (x5, v_monomials, v_numbers) = some (o0, o1)) (hK : ZV p l e rm_Po_addPairsBelow s m args below meth c 6 D (none) [(h_this, .inr (1, [.ref h_this_numbers, .int o_monomials])), (h_this_numbers, .inl (cI, 2325, .inl o_numbers))] [h_this, h_this_numbers] [(h_this, .inr (1, [.ref h_this_numbers, .int o0])), (h_this_numbers, .inl (cI, 2325, .inl o1))] 61 [] []) : ZV p l e rm_Po_addPairsBelow s m args below meth c 6 D (none) [(h_this, .inr (1, [.ref h_this_numbers, .int o_monomials])), (h_this_numbers, .inl (cI, 2325, .inl o_numbers))] [h_this, h_this_numbers] [(h_this, .inr (1, [.ref h_this_numbers, .int v_monomials])), (h_this_numbers, .inl (cI, 2325, .inl v_numbers))] 3 [(0, .ref h_this), (1, .int x1), (2, .int x2), (3, .int x3), (4, .int x4), (5, .int x5)] [] :=
  zloop_run (P := fun q => ZV p l e rm_Po_addPairsBelow s m args below meth c 6 D (none) [(h_this, .inr (1, [.ref h_this_numbers, .int o_monomials])), (h_this_numbers, .inl (cI, 2325, .inl o_numbers))] [h_this, h_this_numbers] [(h_this, .inr (1, [.ref h_this_numbers, .int q.2.1])), (h_this_numbers, .inl (cI, 2325, .inl q.2.2))] 3 [(0, .ref h_this), (1, .int x1), (2, .int x2), (3, .int x3), (4, .int x4), (5, .int q.1)] []) (K := (fun q => ZV p l e rm_Po_addPairsBelow s m args below meth c 6 D (none) [(h_this, .inr (1, [.ref h_this_numbers, .int o_monomials])), (h_this_numbers, .inl (cI, 2325, .inl o_numbers))] [h_this, h_this_numbers] [(h_this, .inr (1, [.ref h_this_numbers, .int q.1])), (h_this_numbers, .inl (cI, 2325, .inl q.2))] 61 [] [])) (fun q z hz hK => k_Po_addPairsBelow_l3 C hr hz hK) zF _ ((o0, o1)) hf hK
/-- PathSums$Polynomial.addPairsBelow(IIII)V -/
def f_Po_addPairsBelow (x1 : Int32) (x2 : Int32) (x3 : Int32) (x4 : Int32) (v_monomials : Int32) (v_numbers : Nat → Int32) : Option (Int32 × (Nat → Int32)) :=
  zb2 (zloop (fun q => f_Po_addPairsBelow_l3 x1 x2 x3 x4 q.1 q.2.1 q.2.2) zF ((0 : Int32), v_monomials, v_numbers)) fun q_1 q_2 =>
  some (q_1, q_2)
set_option maxRecDepth 100000 in
set_option maxHeartbeats 4000000 in
theorem k_Po_addPairsBelow {p : Program} {l : Launch} {e : Env} {s : State} {m : MethodId} {args : Array Value} {below : List Frame} {meth : Method} {c : Code} {D : va_G} {cI cL : ClassId} {h_this h_this_numbers : Nat} {v_monomials o_monomials x1 x2 x3 x4 : Int32} {v_numbers o_numbers : Nat → Int32} (C : zC p s m args meth c b_Po_addPairsBelow 6 R_Po D vwCl [(cI, .int), (cL, .long)] (zA [h_this, h_this_numbers] s.heap.size)) (hr : meth.sig.returnType = none) (hf : f_Po_addPairsBelow x1 x2 x3 x4 v_monomials v_numbers = some (o_monomials, o_numbers)) : ZV p l e rm_Po_addPairsBelow s m args below meth c 6 D (none) [(h_this, .inr (1, [.ref h_this_numbers, .int o_monomials])), (h_this_numbers, .inl (cI, 2325, .inl o_numbers))] [h_this, h_this_numbers] [(h_this, .inr (1, [.ref h_this_numbers, .int v_monomials])), (h_this_numbers, .inl (cI, 2325, .inl v_numbers))] 0 [(0, .ref h_this), (1, .int x1), (2, .int x2), (3, .int x3), (4, .int x4)] [] := by
  unfold f_Po_addPairsBelow at hf
  refine z_iconst (v := 0) C d_Po_addPairsBelow_0 (by decide) ?_
  refine z_istore (lv' := [(5, .int (0 : Int32)), (0, .ref h_this), (1, .int x1), (2, .int x2), (3, .int x3), (4, .int x4)]) C d_Po_addPairsBelow_1 (by decide) rfl ?_
  refine z_lv [1, 2, 3, 4, 5, 0] rfl ?_
  obtain ⟨q_1, q_2, h_3, hf⟩ := zb2_elim hf
  refine k_Po_addPairsBelow_l3_run C hr h_3 ?_
  cases hf
  exact z_vret C hr d_Po_addPairsBelow_61
theorem c_Po_addPairsBelow {l : Launch} {D : va_G} {cI cL : ClassId} {h_this h_this_numbers : Nat} {v_monomials o_monomials x1 x2 x3 x4 : Int32} {v_numbers o_numbers : Nat → Int32} (hf : f_Po_addPairsBelow x1 x2 x3 x4 v_monomials v_numbers = some (o_monomials, o_numbers)) : zM l y_Po_addPairsBelow (Cond.code y_Po_addPairsBelow b_Po_addPairsBelow 6 none :: zT) rm_Po_addPairsBelow D vwCl [(cI, .int), (cL, .long)] [.ref h_this, .int x1, .int x2, .int x3, .int x4] [(h_this, .inr (1, [.ref h_this_numbers, .int v_monomials])), (h_this_numbers, .inl (cI, 2325, .inl v_numbers))] [(h_this, .inr (1, [.ref h_this_numbers, .int o_monomials])), (h_this_numbers, .inl (cI, 2325, .inl o_numbers))] (none) :=
  zM.intro (by decide) rfl (fun _ h => List.mem_cons_of_mem _ h) (Nat.le_of_ble_eq_true rfl) (fun _ _ _ _ _ _ _ C hr _ => k_Po_addPairsBelow C hr hf)
def rm_Po_addXor : Room := { frames := 5, cells := 0, slots := 0, locals := 121 }
def f_Po_addXor_l25 (x2 : Int32) (x3 : Int32) (x4 : Int32) (x5 : Int32) (v_monomials : Int32) (v_numbers : Nat → Int32) : Option ((Int32 × Int32 × (Nat → Int32)) ⊕ (Int32 × (Nat → Int32))) :=
  if (24 : Int32) ≤ x5 then (
    some (.inr (v_monomials, v_numbers)))
  else (
    if (f_Ps_has x2 x5) = 0 then (
      zlet (x5 + 1) fun y_4 =>
      some (.inl (y_4, v_monomials, v_numbers)))
    else (
      zb2 (f_Po_add (x3 ||| ((1 : Int32) <<< (x5 &&& 31))) x4 v_monomials v_numbers) fun q_6 q_7 =>
      if (x4 &&& (3 : Int32)) = 0 then (
        zlet (x5 + 1) fun y_9 =>
        some (.inl (y_9, q_6, q_7)))
      else (
        zb2 (f_Po_addPairsBelow x5 x4 x2 (x3 ||| ((1 : Int32) <<< (x5 &&& 31))) q_6 q_7) fun q_11 q_12 =>
        zlet (x5 + 1) fun y_13 =>
        some (.inl (y_13, q_11, q_12)))))
set_option maxRecDepth 100000 in
set_option maxHeartbeats 4000000 in
theorem k_Po_addXor_l25 {p : Program} {l : Launch} {e : Env} {s : State} {m : MethodId} {args : Array Value} {below : List Frame} {meth : Method} {c : Code} {D : va_G} {cI cL : ClassId} {h_this h_this_numbers : Nat} {v_monomials o_monomials x2 x3 x4 x5 : Int32} {v_numbers o_numbers : Nat → Int32} (C : zC p s m args meth c b_Po_addXor 6 R_Po D vwCl [(cI, .int), (cL, .long)] (zA [h_this, h_this_numbers] s.heap.size)) (hr : meth.sig.returnType = none) {z : (Int32 × Int32 × (Nat → Int32)) ⊕ (Int32 × (Nat → Int32))} (hf : f_Po_addXor_l25 x2 x3 x4 x5 v_monomials v_numbers = some z) (hK : zcase (fun q => ZV p l e rm_Po_addXor s m args below meth c 6 D (none) [(h_this, .inr (1, [.ref h_this_numbers, .int o_monomials])), (h_this_numbers, .inl (cI, 2325, .inl o_numbers))] [h_this, h_this_numbers] [(h_this, .inr (1, [.ref h_this_numbers, .int q.2.1])), (h_this_numbers, .inl (cI, 2325, .inl q.2.2))] 25 [(0, .ref h_this), (2, .int x2), (3, .int x3), (4, .int x4), (5, .int q.1)] []) (fun q => ZV p l e rm_Po_addXor s m args below meth c 6 D (none) [(h_this, .inr (1, [.ref h_this_numbers, .int o_monomials])), (h_this_numbers, .inl (cI, 2325, .inl o_numbers))] [h_this, h_this_numbers] [(h_this, .inr (1, [.ref h_this_numbers, .int q.1])), (h_this_numbers, .inl (cI, 2325, .inl q.2))] 81 [] []) z) : ZV p l e rm_Po_addXor s m args below meth c 6 D (none) [(h_this, .inr (1, [.ref h_this_numbers, .int o_monomials])), (h_this_numbers, .inl (cI, 2325, .inl o_numbers))] [h_this, h_this_numbers] [(h_this, .inr (1, [.ref h_this_numbers, .int v_monomials])), (h_this_numbers, .inl (cI, 2325, .inl v_numbers))] 25 [(0, .ref h_this), (2, .int x2), (3, .int x3), (4, .int x4), (5, .int x5)] [] := by
  unfold f_Po_addXor_l25 at hf
  refine z_iload C d_Po_addXor_25 4 rfl ?_
  refine z_bipush (v := 24) C d_Po_addXor_27 (by decide) ?_
  refine z_icmp_ge (tgt := 81) C d_Po_addXor_29 (by decide) (fun c_1 => ?_) (fun c_1 => ?_)
  · have hf := zif_pos c_1 hf
    refine z_lv [] rfl ?_
    cases hf
    exact hK
  · have hf := zif_neg c_1 hf
    refine z_iload_n C d_Po_addXor_32 rfl 1 rfl ?_
    refine z_iload C d_Po_addXor_33 4 rfl ?_
    refine z_callSN (As := [.int x2, .int x5]) (rest := []) (ws' := [(h_this, .inr (1, [.ref h_this_numbers, .int v_monomials])), (h_this_numbers, .inl (cI, 2325, .inl v_numbers))]) C (c_Ps_has rfl) mi_Ps_has (znest C 7 rfl) (by decide) [] (by decide) rfl rfl rfl rfl rfl (by decide) ⟨Nat.zero_le _, Nat.zero_le _⟩ d_Po_addXor_35 ?_
    refine z_if_eq (tgt := 75) C d_Po_addXor_38 (by decide) (fun c_3 => ?_) (fun c_3 => ?_)
    · have hf := zif_pos c_3 hf
      obtain ⟨y_4, ey_4⟩ : ∃ y : Int32, y = x5 + 1 := ⟨_, rfl⟩
      have hf := zlet_at ey_4 hf
      refine z_iinc (v := y_4) (lv' := [(5, .int y_4), (0, .ref h_this), (2, .int x2), (3, .int x3), (4, .int x4)]) C d_Po_addXor_75 (k := 4) rfl (by rw [ey_4]; rfl) (by decide) rfl ?_
      refine z_goto (tgt := 25) C d_Po_addXor_78 (by decide) ?_
      refine z_lv [1, 2, 3, 4, 0] rfl ?_
      cases hf
      exact hK
    · have hf := zif_neg c_3 hf
      refine z_aload_n C d_Po_addXor_41 rfl 0 rfl ?_
      refine z_iload_n C d_Po_addXor_42 rfl 2 rfl ?_
      refine z_iconst (v := 1) C d_Po_addXor_43 (by decide) ?_
      refine z_iload C d_Po_addXor_44 4 rfl ?_
      refine z_ishl C d_Po_addXor_46 ?_
      refine z_ior C d_Po_addXor_47 ?_
      refine z_iload C d_Po_addXor_48 3 rfl ?_
      obtain ⟨q_6, q_7, h_5, hf⟩ := zb2_elim hf
      refine z_callV (As := [.int (x3 ||| ((1 : Int32) <<< (x5 &&& 31))), .int x4]) (rest := []) (ws' := [(h_this, .inr (1, [.ref h_this_numbers, .int q_6])), (h_this_numbers, .inl (cI, 2325, .inl q_7))]) C (c_Po_add h_5) mi_Po_add zw_231 (by decide) 0 rfl rfl [0, 1] (by decide) rfl rfl rfl rfl rfl (by decide) ⟨Nat.zero_le _, Nat.zero_le _⟩ d_Po_addXor_50 ?_
      refine z_iload C d_Po_addXor_53 3 rfl ?_
      refine z_iconst (v := 3) C d_Po_addXor_55 (by decide) ?_
      refine z_iand C d_Po_addXor_56 ?_
      refine z_if_eq (tgt := 75) C d_Po_addXor_57 (by decide) (fun c_8 => ?_) (fun c_8 => ?_)
      · have hf := zif_pos c_8 hf
        obtain ⟨y_9, ey_9⟩ : ∃ y : Int32, y = x5 + 1 := ⟨_, rfl⟩
        have hf := zlet_at ey_9 hf
        refine z_iinc (v := y_9) (lv' := [(5, .int y_9), (0, .ref h_this), (2, .int x2), (3, .int x3), (4, .int x4)]) C d_Po_addXor_75 (k := 4) rfl (by rw [ey_9]; rfl) (by decide) rfl ?_
        refine z_goto (tgt := 25) C d_Po_addXor_78 (by decide) ?_
        refine z_lv [1, 2, 3, 4, 0] rfl ?_
        cases hf
        exact hK
      · have hf := zif_neg c_8 hf
        refine z_aload_n C d_Po_addXor_60 rfl 0 rfl ?_
        refine z_iload C d_Po_addXor_61 4 rfl ?_
        refine z_iload C d_Po_addXor_63 3 rfl ?_
        refine z_iload_n C d_Po_addXor_65 rfl 1 rfl ?_
        refine z_iload_n C d_Po_addXor_66 rfl 2 rfl ?_
        refine z_iconst (v := 1) C d_Po_addXor_67 (by decide) ?_
        refine z_iload C d_Po_addXor_68 4 rfl ?_
        refine z_ishl C d_Po_addXor_70 ?_
        refine z_ior C d_Po_addXor_71 ?_
        obtain ⟨q_11, q_12, h_10, hf⟩ := zb2_elim hf
        refine z_callV (As := [.int x5, .int x4, .int x2, .int (x3 ||| ((1 : Int32) <<< (x5 &&& 31)))]) (rest := []) (ws' := [(h_this, .inr (1, [.ref h_this_numbers, .int q_11])), (h_this_numbers, .inl (cI, 2325, .inl q_12))]) C (c_Po_addPairsBelow h_10) mi_Po_addPairsBelow zw_245 (by decide) 0 rfl rfl [0, 1] (by decide) rfl rfl rfl rfl rfl (by decide) ⟨Nat.zero_le _, Nat.zero_le _⟩ d_Po_addXor_72 ?_
        obtain ⟨y_13, ey_13⟩ : ∃ y : Int32, y = x5 + 1 := ⟨_, rfl⟩
        have hf := zlet_at ey_13 hf
        refine z_iinc (v := y_13) (lv' := [(5, .int y_13), (0, .ref h_this), (2, .int x2), (3, .int x3), (4, .int x4)]) C d_Po_addXor_75 (k := 4) rfl (by rw [ey_13]; rfl) (by decide) rfl ?_
        refine z_goto (tgt := 25) C d_Po_addXor_78 (by decide) ?_
        refine z_lv [1, 2, 3, 4, 0] rfl ?_
        cases hf
        exact hK
theorem k_Po_addXor_l25_run {p : Program} {l : Launch} {e : Env} {s : State} {m : MethodId} {args : Array Value} {below : List Frame} {meth : Method} {c : Code} {D : va_G} {cI cL : ClassId} {h_this h_this_numbers : Nat} {v_monomials o_monomials x2 x3 x4 x5 : Int32} {v_numbers o_numbers : Nat → Int32} (C : zC p s m args meth c b_Po_addXor 6 R_Po D vwCl [(cI, .int), (cL, .long)] (zA [h_this, h_this_numbers] s.heap.size)) (hr : meth.sig.returnType = none) {o0 : Int32} {o1 : Nat → Int32} (hf : zloop (fun q => f_Po_addXor_l25 x2 x3 x4 q.1 q.2.1 q.2.2) zF (x5, v_monomials, v_numbers) = some (o0, o1)) (hK : ZV p l e rm_Po_addXor s m args below meth c 6 D (none) [(h_this, .inr (1, [.ref h_this_numbers, .int o_monomials])), (h_this_numbers, .inl (cI, 2325, .inl o_numbers))] [h_this, h_this_numbers] [(h_this, .inr (1, [.ref h_this_numbers, .int o0])), (h_this_numbers, .inl (cI, 2325, .inl o1))] 81 [] []) : ZV p l e rm_Po_addXor s m args below meth c 6 D (none) [(h_this, .inr (1, [.ref h_this_numbers, .int o_monomials])), (h_this_numbers, .inl (cI, 2325, .inl o_numbers))] [h_this, h_this_numbers] [(h_this, .inr (1, [.ref h_this_numbers, .int v_monomials])), (h_this_numbers, .inl (cI, 2325, .inl v_numbers))] 25 [(0, .ref h_this), (2, .int x2), (3, .int x3), (4, .int x4), (5, .int x5)] [] :=
  zloop_run (P := fun q => ZV p l e rm_Po_addXor s m args below meth c 6 D (none) [(h_this, .inr (1, [.ref h_this_numbers, .int o_monomials])), (h_this_numbers, .inl (cI, 2325, .inl o_numbers))] [h_this, h_this_numbers] [(h_this, .inr (1, [.ref h_this_numbers, .int q.2.1])), (h_this_numbers, .inl (cI, 2325, .inl q.2.2))] 25 [(0, .ref h_this), (2, .int x2), (3, .int x3), (4, .int x4), (5, .int q.1)] []) (K := (fun q => ZV p l e rm_Po_addXor s m args below meth c 6 D (none) [(h_this, .inr (1, [.ref h_this_numbers, .int o_monomials])), (h_this_numbers, .inl (cI, 2325, .inl o_numbers))] [h_this, h_this_numbers] [(h_this, .inr (1, [.ref h_this_numbers, .int q.1])), (h_this_numbers, .inl (cI, 2325, .inl q.2))] 81 [] [])) (fun q z hz hK => k_Po_addXor_l25 C hr hz hK) zF _ ((o0, o1)) hf hK
def f_Po_addXor_j22 (x2 : Int32) (x3 : Int32) (x4 : Int32) (v_monomials : Int32) (v_numbers : Nat → Int32) : Option (Int32 × (Nat → Int32)) :=
  zb2 (zloop (fun q => f_Po_addXor_l25 x2 x3 x4 q.1 q.2.1 q.2.2) zF ((0 : Int32), v_monomials, v_numbers)) fun q_1 q_2 =>
  some (q_1, q_2)
set_option maxRecDepth 100000 in
set_option maxHeartbeats 4000000 in
theorem k_Po_addXor_j22 {p : Program} {l : Launch} {e : Env} {s : State} {m : MethodId} {args : Array Value} {below : List Frame} {meth : Method} {c : Code} {D : va_G} {cI cL : ClassId} {h_this h_this_numbers : Nat} {v_monomials o_monomials x2 x3 x4 : Int32} {v_numbers o_numbers : Nat → Int32}  (C : zC p s m args meth c b_Po_addXor 6 R_Po D vwCl [(cI, .int), (cL, .long)] (zA [h_this, h_this_numbers] s.heap.size)) (hr : meth.sig.returnType = none) (hf : f_Po_addXor_j22 x2 x3 x4 v_monomials v_numbers = some (o_monomials, o_numbers)) : ZV p l e rm_Po_addXor s m args below meth c 6 D (none) [(h_this, .inr (1, [.ref h_this_numbers, .int o_monomials])), (h_this_numbers, .inl (cI, 2325, .inl o_numbers))] [h_this, h_this_numbers] [(h_this, .inr (1, [.ref h_this_numbers, .int v_monomials])), (h_this_numbers, .inl (cI, 2325, .inl v_numbers))] 22 [(0, .ref h_this), (2, .int x2), (3, .int x3), (4, .int x4)] [] := by
  unfold f_Po_addXor_j22 at hf
  refine z_iconst (v := 0) C d_Po_addXor_22 (by decide) ?_
  refine z_istore (lv' := [(5, .int (0 : Int32)), (0, .ref h_this), (2, .int x2), (3, .int x3), (4, .int x4)]) C d_Po_addXor_23 (by decide) rfl ?_
  refine z_lv [1, 2, 3, 4, 0] rfl ?_
  obtain ⟨q_1, q_2, h_3, hf⟩ := zb2_elim hf
  refine k_Po_addXor_l25_run C hr h_3 ?_
  cases hf
  exact z_vret C hr d_Po_addXor_81
/-- PathSums$Polynomial.addXor(III)V -/
def f_Po_addXor (x1 : Int32) (x2 : Int32) (x3 : Int32) (v_monomials : Int32) (v_numbers : Nat → Int32) : Option (Int32 × (Nat → Int32)) :=
  if (f_Ps_has x2 (24 : Int32)) = 0 then (
    f_Po_addXor_j22 x2 x3 x1 v_monomials v_numbers)
  else (
    zb2 (f_Po_add x3 x1 v_monomials v_numbers) fun q_4 q_5 =>
    zlet (-x1) fun y_6 =>
    f_Po_addXor_j22 x2 x3 y_6 q_4 q_5)
set_option maxRecDepth 100000 in
set_option maxHeartbeats 4000000 in
theorem k_Po_addXor {p : Program} {l : Launch} {e : Env} {s : State} {m : MethodId} {args : Array Value} {below : List Frame} {meth : Method} {c : Code} {D : va_G} {cI cL : ClassId} {h_this h_this_numbers : Nat} {v_monomials o_monomials x1 x2 x3 : Int32} {v_numbers o_numbers : Nat → Int32} (C : zC p s m args meth c b_Po_addXor 6 R_Po D vwCl [(cI, .int), (cL, .long)] (zA [h_this, h_this_numbers] s.heap.size)) (hr : meth.sig.returnType = none) (hf : f_Po_addXor x1 x2 x3 v_monomials v_numbers = some (o_monomials, o_numbers)) : ZV p l e rm_Po_addXor s m args below meth c 6 D (none) [(h_this, .inr (1, [.ref h_this_numbers, .int o_monomials])), (h_this_numbers, .inl (cI, 2325, .inl o_numbers))] [h_this, h_this_numbers] [(h_this, .inr (1, [.ref h_this_numbers, .int v_monomials])), (h_this_numbers, .inl (cI, 2325, .inl v_numbers))] 0 [(0, .ref h_this), (1, .int x1), (2, .int x2), (3, .int x3)] [] := by
  unfold f_Po_addXor at hf
  refine z_iload_n C d_Po_addXor_0 rfl 1 rfl ?_
  refine z_istore (lv' := [(4, .int x1), (0, .ref h_this), (1, .int x1), (2, .int x2), (3, .int x3)]) C d_Po_addXor_1 (by decide) rfl ?_
  refine z_iload_n C d_Po_addXor_3 rfl 3 rfl ?_
  refine z_bipush (v := 24) C d_Po_addXor_4 (by decide) ?_
  refine z_callSN (As := [.int x2, .int (24 : Int32)]) (rest := []) (ws' := [(h_this, .inr (1, [.ref h_this_numbers, .int v_monomials])), (h_this_numbers, .inl (cI, 2325, .inl v_numbers))]) C (c_Ps_has rfl) mi_Ps_has (znest C 7 rfl) (by decide) [] (by decide) rfl rfl rfl rfl rfl (by decide) ⟨Nat.zero_le _, Nat.zero_le _⟩ d_Po_addXor_6 ?_
  refine z_if_eq (tgt := 22) C d_Po_addXor_9 (by decide) (fun c_2 => ?_) (fun c_2 => ?_)
  · have hf := zif_pos c_2 hf
    refine z_lv [1, 3, 4, 0] rfl ?_
    exact k_Po_addXor_j22 C hr hf
  · have hf := zif_neg c_2 hf
    refine z_aload_n C d_Po_addXor_12 rfl 1 rfl ?_
    refine z_iload_n C d_Po_addXor_13 rfl 4 rfl ?_
    refine z_iload_n C d_Po_addXor_14 rfl 2 rfl ?_
    obtain ⟨q_4, q_5, h_3, hf⟩ := zb2_elim hf
    refine z_callV (As := [.int x3, .int x1]) (rest := []) (ws' := [(h_this, .inr (1, [.ref h_this_numbers, .int q_4])), (h_this_numbers, .inl (cI, 2325, .inl q_5))]) C (c_Po_add h_3) mi_Po_add zw_231 (by decide) 0 rfl rfl [0, 1] (by decide) rfl rfl rfl rfl rfl (by decide) ⟨Nat.zero_le _, Nat.zero_le _⟩ d_Po_addXor_15 ?_
    refine z_iload_n C d_Po_addXor_18 rfl 2 rfl ?_
    refine z_ineg C d_Po_addXor_19 ?_
    refine z_topi (fun y_6 ey_6 => ?_)
    have hf := zlet_at ey_6 hf
    refine z_istore (lv' := [(4, .int y_6), (0, .ref h_this), (1, .int x1), (2, .int x2), (3, .int x3)]) C d_Po_addXor_20 (by decide) rfl ?_
    refine z_lv [1, 3, 4, 0] rfl ?_
    exact k_Po_addXor_j22 C hr hf
theorem c_Po_addXor {l : Launch} {D : va_G} {cI cL : ClassId} {h_this h_this_numbers : Nat} {v_monomials o_monomials x1 x2 x3 : Int32} {v_numbers o_numbers : Nat → Int32} (hf : f_Po_addXor x1 x2 x3 v_monomials v_numbers = some (o_monomials, o_numbers)) : zM l y_Po_addXor (Cond.code y_Po_addXor b_Po_addXor 6 none :: zT) rm_Po_addXor D vwCl [(cI, .int), (cL, .long)] [.ref h_this, .int x1, .int x2, .int x3] [(h_this, .inr (1, [.ref h_this_numbers, .int v_monomials])), (h_this_numbers, .inl (cI, 2325, .inl v_numbers))] [(h_this, .inr (1, [.ref h_this_numbers, .int o_monomials])), (h_this_numbers, .inl (cI, 2325, .inl o_numbers))] (none) :=
  zM.intro (by decide) rfl (fun _ h => List.mem_cons_of_mem _ h) (Nat.le_of_ble_eq_true rfl) (fun _ _ _ _ _ _ _ C hr _ => k_Po_addXor C hr hf)
def rm_Po_addFourTimes : Room := { frames := 3, cells := 0, slots := 0, locals := 72 }
def f_Po_addFourTimes_l47 (x1 : Int32) (x2 : Int32) (x3 : Int32) (x4 : Int32) (x5 : Int32) (x6 : Int32) (v_monomials : Int32) (v_numbers : Nat → Int32) : Option ((Int32 × Int32 × (Nat → Int32)) ⊕ (Int32 × (Nat → Int32))) :=
  if (24 : Int32) < x6 then (
    some (.inr (v_monomials, v_numbers)))
  else (
    if (f_Ps_has x3 x6) = 0 then (
      zlet (x6 + 1) fun y_4 =>
      some (.inl (y_4, v_monomials, v_numbers)))
    else (
      zb2 (f_Po_add (((((1 : Int32) <<< (x4 &&& 31)) ||| ((1 : Int32) <<< (x5 &&& 31))) ||| ((1 : Int32) <<< (x6 &&& 31))) &&& (16777215 : Int32)) (4 : Int32) v_monomials v_numbers) fun q_6 q_7 =>
      zlet (x6 + 1) fun y_8 =>
      some (.inl (y_8, q_6, q_7))))
set_option maxRecDepth 100000 in
set_option maxHeartbeats 4000000 in
theorem k_Po_addFourTimes_l47 {p : Program} {l : Launch} {e : Env} {s : State} {m : MethodId} {args : Array Value} {below : List Frame} {meth : Method} {c : Code} {D : va_G} {cI cL : ClassId} {h_this h_this_numbers : Nat} {v_monomials o_monomials x1 x2 x3 x4 x5 x6 : Int32} {v_numbers o_numbers : Nat → Int32} (C : zC p s m args meth c b_Po_addFourTimes 7 R_Po D vwCl [(cI, .int), (cL, .long)] (zA [h_this, h_this_numbers] s.heap.size)) (hr : meth.sig.returnType = none) {z : (Int32 × Int32 × (Nat → Int32)) ⊕ (Int32 × (Nat → Int32))} (hf : f_Po_addFourTimes_l47 x1 x2 x3 x4 x5 x6 v_monomials v_numbers = some z) (hK : zcase (fun q => ZV p l e rm_Po_addFourTimes s m args below meth c 7 D (none) [(h_this, .inr (1, [.ref h_this_numbers, .int o_monomials])), (h_this_numbers, .inl (cI, 2325, .inl o_numbers))] [h_this, h_this_numbers] [(h_this, .inr (1, [.ref h_this_numbers, .int q.2.1])), (h_this_numbers, .inl (cI, 2325, .inl q.2.2))] 47 [(0, .ref h_this), (1, .int x1), (2, .int x2), (3, .int x3), (4, .int x4), (5, .int x5), (6, .int q.1)] []) (fun q => ZV p l e rm_Po_addFourTimes s m args below meth c 7 D (none) [(h_this, .inr (1, [.ref h_this_numbers, .int o_monomials])), (h_this_numbers, .inl (cI, 2325, .inl o_numbers))] [h_this, h_this_numbers] [(h_this, .inr (1, [.ref h_this_numbers, .int q.1])), (h_this_numbers, .inl (cI, 2325, .inl q.2))] 91 [(0, .ref h_this), (1, .int x1), (2, .int x2), (3, .int x3), (4, .int x4), (5, .int x5)] []) z) : ZV p l e rm_Po_addFourTimes s m args below meth c 7 D (none) [(h_this, .inr (1, [.ref h_this_numbers, .int o_monomials])), (h_this_numbers, .inl (cI, 2325, .inl o_numbers))] [h_this, h_this_numbers] [(h_this, .inr (1, [.ref h_this_numbers, .int v_monomials])), (h_this_numbers, .inl (cI, 2325, .inl v_numbers))] 47 [(0, .ref h_this), (1, .int x1), (2, .int x2), (3, .int x3), (4, .int x4), (5, .int x5), (6, .int x6)] [] := by
  unfold f_Po_addFourTimes_l47 at hf
  refine z_iload C d_Po_addFourTimes_47 6 rfl ?_
  refine z_bipush (v := 24) C d_Po_addFourTimes_49 (by decide) ?_
  refine z_icmp_gt (tgt := 91) C d_Po_addFourTimes_51 (by decide) (fun c_1 => ?_) (fun c_1 => ?_)
  · have hf := zif_pos c_1 hf
    refine z_lv [0, 1, 2, 3, 4, 5] rfl ?_
    cases hf
    exact hK
  · have hf := zif_neg c_1 hf
    refine z_iload_n C d_Po_addFourTimes_54 rfl 3 rfl ?_
    refine z_iload C d_Po_addFourTimes_55 6 rfl ?_
    refine z_callSN (As := [.int x3, .int x6]) (rest := []) (ws' := [(h_this, .inr (1, [.ref h_this_numbers, .int v_monomials])), (h_this_numbers, .inl (cI, 2325, .inl v_numbers))]) C (c_Ps_has rfl) mi_Ps_has (znest C 7 rfl) (by decide) [] (by decide) rfl rfl rfl rfl rfl (by decide) ⟨Nat.zero_le _, Nat.zero_le _⟩ d_Po_addFourTimes_57 ?_
    refine z_if_eq (tgt := 85) C d_Po_addFourTimes_60 (by decide) (fun c_3 => ?_) (fun c_3 => ?_)
    · have hf := zif_pos c_3 hf
      obtain ⟨y_4, ey_4⟩ : ∃ y : Int32, y = x6 + 1 := ⟨_, rfl⟩
      have hf := zlet_at ey_4 hf
      refine z_iinc (v := y_4) (lv' := [(6, .int y_4), (0, .ref h_this), (1, .int x1), (2, .int x2), (3, .int x3), (4, .int x4), (5, .int x5)]) C d_Po_addFourTimes_85 (k := 6) rfl (by rw [ey_4]; rfl) (by decide) rfl ?_
      refine z_goto (tgt := 47) C d_Po_addFourTimes_88 (by decide) ?_
      refine z_lv [1, 2, 3, 4, 5, 6, 0] rfl ?_
      cases hf
      exact hK
    · have hf := zif_neg c_3 hf
      refine z_aload_n C d_Po_addFourTimes_63 rfl 0 rfl ?_
      refine z_iconst (v := 1) C d_Po_addFourTimes_64 (by decide) ?_
      refine z_iload C d_Po_addFourTimes_65 4 rfl ?_
      refine z_ishl C d_Po_addFourTimes_67 ?_
      refine z_iconst (v := 1) C d_Po_addFourTimes_68 (by decide) ?_
      refine z_iload C d_Po_addFourTimes_69 5 rfl ?_
      refine z_ishl C d_Po_addFourTimes_71 ?_
      refine z_ior C d_Po_addFourTimes_72 ?_
      refine z_iconst (v := 1) C d_Po_addFourTimes_73 (by decide) ?_
      refine z_iload C d_Po_addFourTimes_74 6 rfl ?_
      refine z_ishl C d_Po_addFourTimes_76 ?_
      refine z_ior C d_Po_addFourTimes_77 ?_
      refine z_ldc (v := 16777215) C zw_238 d_Po_addFourTimes_78 ?_
      refine z_iand C d_Po_addFourTimes_80 ?_
      refine z_iconst (v := 4) C d_Po_addFourTimes_81 (by decide) ?_
      obtain ⟨q_6, q_7, h_5, hf⟩ := zb2_elim hf
      refine z_callV (As := [.int (((((1 : Int32) <<< (x4 &&& 31)) ||| ((1 : Int32) <<< (x5 &&& 31))) ||| ((1 : Int32) <<< (x6 &&& 31))) &&& (16777215 : Int32)), .int (4 : Int32)]) (rest := []) (ws' := [(h_this, .inr (1, [.ref h_this_numbers, .int q_6])), (h_this_numbers, .inl (cI, 2325, .inl q_7))]) C (c_Po_add h_5) mi_Po_add zw_231 (by decide) 0 rfl rfl [0, 1] (by decide) rfl rfl rfl rfl rfl (by decide) ⟨Nat.zero_le _, Nat.zero_le _⟩ d_Po_addFourTimes_82 ?_
      obtain ⟨y_8, ey_8⟩ : ∃ y : Int32, y = x6 + 1 := ⟨_, rfl⟩
      have hf := zlet_at ey_8 hf
      refine z_iinc (v := y_8) (lv' := [(6, .int y_8), (0, .ref h_this), (1, .int x1), (2, .int x2), (3, .int x3), (4, .int x4), (5, .int x5)]) C d_Po_addFourTimes_85 (k := 6) rfl (by rw [ey_8]; rfl) (by decide) rfl ?_
      refine z_goto (tgt := 47) C d_Po_addFourTimes_88 (by decide) ?_
      refine z_lv [1, 2, 3, 4, 5, 6, 0] rfl ?_
      cases hf
      exact hK
theorem k_Po_addFourTimes_l47_run {p : Program} {l : Launch} {e : Env} {s : State} {m : MethodId} {args : Array Value} {below : List Frame} {meth : Method} {c : Code} {D : va_G} {cI cL : ClassId} {h_this h_this_numbers : Nat} {v_monomials o_monomials x1 x2 x3 x4 x5 x6 : Int32} {v_numbers o_numbers : Nat → Int32} (C : zC p s m args meth c b_Po_addFourTimes 7 R_Po D vwCl [(cI, .int), (cL, .long)] (zA [h_this, h_this_numbers] s.heap.size)) (hr : meth.sig.returnType = none) {o0 : Int32} {o1 : Nat → Int32} (hf : zloop (fun q => f_Po_addFourTimes_l47 x1 x2 x3 x4 x5 q.1 q.2.1 q.2.2) zF (x6, v_monomials, v_numbers) = some (o0, o1)) (hK : ZV p l e rm_Po_addFourTimes s m args below meth c 7 D (none) [(h_this, .inr (1, [.ref h_this_numbers, .int o_monomials])), (h_this_numbers, .inl (cI, 2325, .inl o_numbers))] [h_this, h_this_numbers] [(h_this, .inr (1, [.ref h_this_numbers, .int o0])), (h_this_numbers, .inl (cI, 2325, .inl o1))] 91 [(0, .ref h_this), (1, .int x1), (2, .int x2), (3, .int x3), (4, .int x4), (5, .int x5)] []) : ZV p l e rm_Po_addFourTimes s m args below meth c 7 D (none) [(h_this, .inr (1, [.ref h_this_numbers, .int o_monomials])), (h_this_numbers, .inl (cI, 2325, .inl o_numbers))] [h_this, h_this_numbers] [(h_this, .inr (1, [.ref h_this_numbers, .int v_monomials])), (h_this_numbers, .inl (cI, 2325, .inl v_numbers))] 47 [(0, .ref h_this), (1, .int x1), (2, .int x2), (3, .int x3), (4, .int x4), (5, .int x5), (6, .int x6)] [] :=
  zloop_run (P := fun q => ZV p l e rm_Po_addFourTimes s m args below meth c 7 D (none) [(h_this, .inr (1, [.ref h_this_numbers, .int o_monomials])), (h_this_numbers, .inl (cI, 2325, .inl o_numbers))] [h_this, h_this_numbers] [(h_this, .inr (1, [.ref h_this_numbers, .int q.2.1])), (h_this_numbers, .inl (cI, 2325, .inl q.2.2))] 47 [(0, .ref h_this), (1, .int x1), (2, .int x2), (3, .int x3), (4, .int x4), (5, .int x5), (6, .int q.1)] []) (K := (fun q => ZV p l e rm_Po_addFourTimes s m args below meth c 7 D (none) [(h_this, .inr (1, [.ref h_this_numbers, .int o_monomials])), (h_this_numbers, .inl (cI, 2325, .inl o_numbers))] [h_this, h_this_numbers] [(h_this, .inr (1, [.ref h_this_numbers, .int q.1])), (h_this_numbers, .inl (cI, 2325, .inl q.2))] 91 [(0, .ref h_this), (1, .int x1), (2, .int x2), (3, .int x3), (4, .int x4), (5, .int x5)] [])) (fun q z hz hK => k_Po_addFourTimes_l47 C hr hz hK) zF _ ((o0, o1)) hf hK
def f_Po_addFourTimes_l25 (x1 : Int32) (x2 : Int32) (x3 : Int32) (x4 : Int32) (x5 : Int32) (v_monomials : Int32) (v_numbers : Nat → Int32) : Option ((Int32 × Int32 × (Nat → Int32)) ⊕ (Int32 × (Nat → Int32))) :=
  if (24 : Int32) < x5 then (
    some (.inr (v_monomials, v_numbers)))
  else (
    if (f_Ps_has x2 x5) = 0 then (
      zlet (x5 + 1) fun y_4 =>
      some (.inl (y_4, v_monomials, v_numbers)))
    else (
      zb2 (zloop (fun q => f_Po_addFourTimes_l47 x1 x2 x3 x4 x5 q.1 q.2.1 q.2.2) zF ((0 : Int32), v_monomials, v_numbers)) fun q_5 q_6 =>
      zlet (x5 + 1) fun y_8 =>
      some (.inl (y_8, q_5, q_6))))
set_option maxRecDepth 100000 in
set_option maxHeartbeats 4000000 in
theorem k_Po_addFourTimes_l25 {p : Program} {l : Launch} {e : Env} {s : State} {m : MethodId} {args : Array Value} {below : List Frame} {meth : Method} {c : Code} {D : va_G} {cI cL : ClassId} {h_this h_this_numbers : Nat} {v_monomials o_monomials x1 x2 x3 x4 x5 : Int32} {v_numbers o_numbers : Nat → Int32} (C : zC p s m args meth c b_Po_addFourTimes 7 R_Po D vwCl [(cI, .int), (cL, .long)] (zA [h_this, h_this_numbers] s.heap.size)) (hr : meth.sig.returnType = none) {z : (Int32 × Int32 × (Nat → Int32)) ⊕ (Int32 × (Nat → Int32))} (hf : f_Po_addFourTimes_l25 x1 x2 x3 x4 x5 v_monomials v_numbers = some z) (hK : zcase (fun q => ZV p l e rm_Po_addFourTimes s m args below meth c 7 D (none) [(h_this, .inr (1, [.ref h_this_numbers, .int o_monomials])), (h_this_numbers, .inl (cI, 2325, .inl o_numbers))] [h_this, h_this_numbers] [(h_this, .inr (1, [.ref h_this_numbers, .int q.2.1])), (h_this_numbers, .inl (cI, 2325, .inl q.2.2))] 25 [(0, .ref h_this), (1, .int x1), (2, .int x2), (3, .int x3), (4, .int x4), (5, .int q.1)] []) (fun q => ZV p l e rm_Po_addFourTimes s m args below meth c 7 D (none) [(h_this, .inr (1, [.ref h_this_numbers, .int o_monomials])), (h_this_numbers, .inl (cI, 2325, .inl o_numbers))] [h_this, h_this_numbers] [(h_this, .inr (1, [.ref h_this_numbers, .int q.1])), (h_this_numbers, .inl (cI, 2325, .inl q.2))] 97 [(0, .ref h_this), (1, .int x1), (2, .int x2), (3, .int x3), (4, .int x4)] []) z) : ZV p l e rm_Po_addFourTimes s m args below meth c 7 D (none) [(h_this, .inr (1, [.ref h_this_numbers, .int o_monomials])), (h_this_numbers, .inl (cI, 2325, .inl o_numbers))] [h_this, h_this_numbers] [(h_this, .inr (1, [.ref h_this_numbers, .int v_monomials])), (h_this_numbers, .inl (cI, 2325, .inl v_numbers))] 25 [(0, .ref h_this), (1, .int x1), (2, .int x2), (3, .int x3), (4, .int x4), (5, .int x5)] [] := by
  unfold f_Po_addFourTimes_l25 at hf
  refine z_iload C d_Po_addFourTimes_25 5 rfl ?_
  refine z_bipush (v := 24) C d_Po_addFourTimes_27 (by decide) ?_
  refine z_icmp_gt (tgt := 97) C d_Po_addFourTimes_29 (by decide) (fun c_1 => ?_) (fun c_1 => ?_)
  · have hf := zif_pos c_1 hf
    refine z_lv [0, 1, 2, 3, 4] rfl ?_
    cases hf
    exact hK
  · have hf := zif_neg c_1 hf
    refine z_iload_n C d_Po_addFourTimes_32 rfl 2 rfl ?_
    refine z_iload C d_Po_addFourTimes_33 5 rfl ?_
    refine z_callSN (As := [.int x2, .int x5]) (rest := []) (ws' := [(h_this, .inr (1, [.ref h_this_numbers, .int v_monomials])), (h_this_numbers, .inl (cI, 2325, .inl v_numbers))]) C (c_Ps_has rfl) mi_Ps_has (znest C 7 rfl) (by decide) [] (by decide) rfl rfl rfl rfl rfl (by decide) ⟨Nat.zero_le _, Nat.zero_le _⟩ d_Po_addFourTimes_35 ?_
    refine z_if_ne (tgt := 44) C d_Po_addFourTimes_38 (by decide) (fun c_3 => ?_) (fun c_3 => ?_)
    · have hf := zif_neg c_3 hf
      refine z_iconst (v := 0) C d_Po_addFourTimes_44 (by decide) ?_
      refine z_istore (lv' := [(6, .int (0 : Int32)), (0, .ref h_this), (1, .int x1), (2, .int x2), (3, .int x3), (4, .int x4), (5, .int x5)]) C d_Po_addFourTimes_45 (by decide) rfl ?_
      refine z_lv [1, 2, 3, 4, 5, 6, 0] rfl ?_
      obtain ⟨q_5, q_6, h_7, hf⟩ := zb2_elim hf
      refine k_Po_addFourTimes_l47_run C hr h_7 ?_
      obtain ⟨y_8, ey_8⟩ : ∃ y : Int32, y = x5 + 1 := ⟨_, rfl⟩
      have hf := zlet_at ey_8 hf
      refine z_iinc (v := y_8) (lv' := [(5, .int y_8), (0, .ref h_this), (1, .int x1), (2, .int x2), (3, .int x3), (4, .int x4)]) C d_Po_addFourTimes_91 (k := 5) rfl (by rw [ey_8]; rfl) (by decide) rfl ?_
      refine z_goto (tgt := 25) C d_Po_addFourTimes_94 (by decide) ?_
      refine z_lv [1, 2, 3, 4, 5, 0] rfl ?_
      cases hf
      exact hK
    · have hf := zif_pos c_3 hf
      refine z_goto (tgt := 91) C d_Po_addFourTimes_41 (by decide) ?_
      obtain ⟨y_4, ey_4⟩ : ∃ y : Int32, y = x5 + 1 := ⟨_, rfl⟩
      have hf := zlet_at ey_4 hf
      refine z_iinc (v := y_4) (lv' := [(5, .int y_4), (0, .ref h_this), (1, .int x1), (2, .int x2), (3, .int x3), (4, .int x4)]) C d_Po_addFourTimes_91 (k := 5) rfl (by rw [ey_4]; rfl) (by decide) rfl ?_
      refine z_goto (tgt := 25) C d_Po_addFourTimes_94 (by decide) ?_
      refine z_lv [1, 2, 3, 4, 5, 0] rfl ?_
      cases hf
      exact hK
theorem k_Po_addFourTimes_l25_run {p : Program} {l : Launch} {e : Env} {s : State} {m : MethodId} {args : Array Value} {below : List Frame} {meth : Method} {c : Code} {D : va_G} {cI cL : ClassId} {h_this h_this_numbers : Nat} {v_monomials o_monomials x1 x2 x3 x4 x5 : Int32} {v_numbers o_numbers : Nat → Int32} (C : zC p s m args meth c b_Po_addFourTimes 7 R_Po D vwCl [(cI, .int), (cL, .long)] (zA [h_this, h_this_numbers] s.heap.size)) (hr : meth.sig.returnType = none) {o0 : Int32} {o1 : Nat → Int32} (hf : zloop (fun q => f_Po_addFourTimes_l25 x1 x2 x3 x4 q.1 q.2.1 q.2.2) zF (x5, v_monomials, v_numbers) = some (o0, o1)) (hK : ZV p l e rm_Po_addFourTimes s m args below meth c 7 D (none) [(h_this, .inr (1, [.ref h_this_numbers, .int o_monomials])), (h_this_numbers, .inl (cI, 2325, .inl o_numbers))] [h_this, h_this_numbers] [(h_this, .inr (1, [.ref h_this_numbers, .int o0])), (h_this_numbers, .inl (cI, 2325, .inl o1))] 97 [(0, .ref h_this), (1, .int x1), (2, .int x2), (3, .int x3), (4, .int x4)] []) : ZV p l e rm_Po_addFourTimes s m args below meth c 7 D (none) [(h_this, .inr (1, [.ref h_this_numbers, .int o_monomials])), (h_this_numbers, .inl (cI, 2325, .inl o_numbers))] [h_this, h_this_numbers] [(h_this, .inr (1, [.ref h_this_numbers, .int v_monomials])), (h_this_numbers, .inl (cI, 2325, .inl v_numbers))] 25 [(0, .ref h_this), (1, .int x1), (2, .int x2), (3, .int x3), (4, .int x4), (5, .int x5)] [] :=
  zloop_run (P := fun q => ZV p l e rm_Po_addFourTimes s m args below meth c 7 D (none) [(h_this, .inr (1, [.ref h_this_numbers, .int o_monomials])), (h_this_numbers, .inl (cI, 2325, .inl o_numbers))] [h_this, h_this_numbers] [(h_this, .inr (1, [.ref h_this_numbers, .int q.2.1])), (h_this_numbers, .inl (cI, 2325, .inl q.2.2))] 25 [(0, .ref h_this), (1, .int x1), (2, .int x2), (3, .int x3), (4, .int x4), (5, .int q.1)] []) (K := (fun q => ZV p l e rm_Po_addFourTimes s m args below meth c 7 D (none) [(h_this, .inr (1, [.ref h_this_numbers, .int o_monomials])), (h_this_numbers, .inl (cI, 2325, .inl o_numbers))] [h_this, h_this_numbers] [(h_this, .inr (1, [.ref h_this_numbers, .int q.1])), (h_this_numbers, .inl (cI, 2325, .inl q.2))] 97 [(0, .ref h_this), (1, .int x1), (2, .int x2), (3, .int x3), (4, .int x4)] [])) (fun q z hz hK => k_Po_addFourTimes_l25 C hr hz hK) zF _ ((o0, o1)) hf hK
def f_Po_addFourTimes_l3 (x1 : Int32) (x2 : Int32) (x3 : Int32) (x4 : Int32) (v_monomials : Int32) (v_numbers : Nat → Int32) : Option ((Int32 × Int32 × (Nat → Int32)) ⊕ (Int32 × (Nat → Int32))) :=
  if (24 : Int32) < x4 then (
    some (.inr (v_monomials, v_numbers)))
  else (
    if (f_Ps_has x1 x4) = 0 then (
      zlet (x4 + 1) fun y_4 =>
      some (.inl (y_4, v_monomials, v_numbers)))
    else (
      zb2 (zloop (fun q => f_Po_addFourTimes_l25 x1 x2 x3 x4 q.1 q.2.1 q.2.2) zF ((0 : Int32), v_monomials, v_numbers)) fun q_5 q_6 =>
      zlet (x4 + 1) fun y_8 =>
      some (.inl (y_8, q_5, q_6))))
set_option maxRecDepth 100000 in
set_option maxHeartbeats 4000000 in
theorem k_Po_addFourTimes_l3 {p : Program} {l : Launch} {e : Env} {s : State} {m : MethodId} {args : Array Value} {below : List Frame} {meth : Method} {c : Code} {D : va_G} {cI cL : ClassId} {h_this h_this_numbers : Nat} {v_monomials o_monomials x1 x2 x3 x4 : Int32} {v_numbers o_numbers : Nat → Int32} (C : zC p s m args meth c b_Po_addFourTimes 7 R_Po D vwCl [(cI, .int), (cL, .long)] (zA [h_this, h_this_numbers] s.heap.size)) (hr : meth.sig.returnType = none) {z : (Int32 × Int32 × (Nat → Int32)) ⊕ (Int32 × (Nat → Int32))} (hf : f_Po_addFourTimes_l3 x1 x2 x3 x4 v_monomials v_numbers = some z) (hK : zcase (fun q => ZV p l e rm_Po_addFourTimes s m args below meth c 7 D (none) [(h_this, .inr (1, [.ref h_this_numbers, .int o_monomials])), (h_this_numbers, .inl (cI, 2325, .inl o_numbers))] [h_this, h_this_numbers] [(h_this, .inr (1, [.ref h_this_numbers, .int q.2.1])), (h_this_numbers, .inl (cI, 2325, .inl q.2.2))] 3 [(0, .ref h_this), (1, .int x1), (2, .int x2), (3, .int x3), (4, .int q.1)] []) (fun q => ZV p l e rm_Po_addFourTimes s m args below meth c 7 D (none) [(h_this, .inr (1, [.ref h_this_numbers, .int o_monomials])), (h_this_numbers, .inl (cI, 2325, .inl o_numbers))] [h_this, h_this_numbers] [(h_this, .inr (1, [.ref h_this_numbers, .int q.1])), (h_this_numbers, .inl (cI, 2325, .inl q.2))] 103 [] []) z) : ZV p l e rm_Po_addFourTimes s m args below meth c 7 D (none) [(h_this, .inr (1, [.ref h_this_numbers, .int o_monomials])), (h_this_numbers, .inl (cI, 2325, .inl o_numbers))] [h_this, h_this_numbers] [(h_this, .inr (1, [.ref h_this_numbers, .int v_monomials])), (h_this_numbers, .inl (cI, 2325, .inl v_numbers))] 3 [(0, .ref h_this), (1, .int x1), (2, .int x2), (3, .int x3), (4, .int x4)] [] := by
  unfold f_Po_addFourTimes_l3 at hf
  refine z_iload C d_Po_addFourTimes_3 4 rfl ?_
  refine z_bipush (v := 24) C d_Po_addFourTimes_5 (by decide) ?_
  refine z_icmp_gt (tgt := 103) C d_Po_addFourTimes_7 (by decide) (fun c_1 => ?_) (fun c_1 => ?_)
  · have hf := zif_pos c_1 hf
    refine z_lv [] rfl ?_
    cases hf
    exact hK
  · have hf := zif_neg c_1 hf
    refine z_iload_n C d_Po_addFourTimes_10 rfl 1 rfl ?_
    refine z_iload C d_Po_addFourTimes_11 4 rfl ?_
    refine z_callSN (As := [.int x1, .int x4]) (rest := []) (ws' := [(h_this, .inr (1, [.ref h_this_numbers, .int v_monomials])), (h_this_numbers, .inl (cI, 2325, .inl v_numbers))]) C (c_Ps_has rfl) mi_Ps_has (znest C 7 rfl) (by decide) [] (by decide) rfl rfl rfl rfl rfl (by decide) ⟨Nat.zero_le _, Nat.zero_le _⟩ d_Po_addFourTimes_13 ?_
    refine z_if_ne (tgt := 22) C d_Po_addFourTimes_16 (by decide) (fun c_3 => ?_) (fun c_3 => ?_)
    · have hf := zif_neg c_3 hf
      refine z_iconst (v := 0) C d_Po_addFourTimes_22 (by decide) ?_
      refine z_istore (lv' := [(5, .int (0 : Int32)), (0, .ref h_this), (1, .int x1), (2, .int x2), (3, .int x3), (4, .int x4)]) C d_Po_addFourTimes_23 (by decide) rfl ?_
      refine z_lv [1, 2, 3, 4, 5, 0] rfl ?_
      obtain ⟨q_5, q_6, h_7, hf⟩ := zb2_elim hf
      refine k_Po_addFourTimes_l25_run C hr h_7 ?_
      obtain ⟨y_8, ey_8⟩ : ∃ y : Int32, y = x4 + 1 := ⟨_, rfl⟩
      have hf := zlet_at ey_8 hf
      refine z_iinc (v := y_8) (lv' := [(4, .int y_8), (0, .ref h_this), (1, .int x1), (2, .int x2), (3, .int x3)]) C d_Po_addFourTimes_97 (k := 4) rfl (by rw [ey_8]; rfl) (by decide) rfl ?_
      refine z_goto (tgt := 3) C d_Po_addFourTimes_100 (by decide) ?_
      refine z_lv [1, 2, 3, 4, 0] rfl ?_
      cases hf
      exact hK
    · have hf := zif_pos c_3 hf
      refine z_goto (tgt := 97) C d_Po_addFourTimes_19 (by decide) ?_
      obtain ⟨y_4, ey_4⟩ : ∃ y : Int32, y = x4 + 1 := ⟨_, rfl⟩
      have hf := zlet_at ey_4 hf
      refine z_iinc (v := y_4) (lv' := [(4, .int y_4), (0, .ref h_this), (1, .int x1), (2, .int x2), (3, .int x3)]) C d_Po_addFourTimes_97 (k := 4) rfl (by rw [ey_4]; rfl) (by decide) rfl ?_
      refine z_goto (tgt := 3) C d_Po_addFourTimes_100 (by decide) ?_
      refine z_lv [1, 2, 3, 4, 0] rfl ?_
      cases hf
      exact hK
theorem k_Po_addFourTimes_l3_run {p : Program} {l : Launch} {e : Env} {s : State} {m : MethodId} {args : Array Value} {below : List Frame} {meth : Method} {c : Code} {D : va_G} {cI cL : ClassId} {h_this h_this_numbers : Nat} {v_monomials o_monomials x1 x2 x3 x4 : Int32} {v_numbers o_numbers : Nat → Int32} (C : zC p s m args meth c b_Po_addFourTimes 7 R_Po D vwCl [(cI, .int), (cL, .long)] (zA [h_this, h_this_numbers] s.heap.size)) (hr : meth.sig.returnType = none) {o0 : Int32} {o1 : Nat → Int32} (hf : zloop (fun q => f_Po_addFourTimes_l3 x1 x2 x3 q.1 q.2.1 q.2.2) zF (x4, v_monomials, v_numbers) = some (o0, o1)) (hK : ZV p l e rm_Po_addFourTimes s m args below meth c 7 D (none) [(h_this, .inr (1, [.ref h_this_numbers, .int o_monomials])), (h_this_numbers, .inl (cI, 2325, .inl o_numbers))] [h_this, h_this_numbers] [(h_this, .inr (1, [.ref h_this_numbers, .int o0])), (h_this_numbers, .inl (cI, 2325, .inl o1))] 103 [] []) : ZV p l e rm_Po_addFourTimes s m args below meth c 7 D (none) [(h_this, .inr (1, [.ref h_this_numbers, .int o_monomials])), (h_this_numbers, .inl (cI, 2325, .inl o_numbers))] [h_this, h_this_numbers] [(h_this, .inr (1, [.ref h_this_numbers, .int v_monomials])), (h_this_numbers, .inl (cI, 2325, .inl v_numbers))] 3 [(0, .ref h_this), (1, .int x1), (2, .int x2), (3, .int x3), (4, .int x4)] [] :=
  zloop_run (P := fun q => ZV p l e rm_Po_addFourTimes s m args below meth c 7 D (none) [(h_this, .inr (1, [.ref h_this_numbers, .int o_monomials])), (h_this_numbers, .inl (cI, 2325, .inl o_numbers))] [h_this, h_this_numbers] [(h_this, .inr (1, [.ref h_this_numbers, .int q.2.1])), (h_this_numbers, .inl (cI, 2325, .inl q.2.2))] 3 [(0, .ref h_this), (1, .int x1), (2, .int x2), (3, .int x3), (4, .int q.1)] []) (K := (fun q => ZV p l e rm_Po_addFourTimes s m args below meth c 7 D (none) [(h_this, .inr (1, [.ref h_this_numbers, .int o_monomials])), (h_this_numbers, .inl (cI, 2325, .inl o_numbers))] [h_this, h_this_numbers] [(h_this, .inr (1, [.ref h_this_numbers, .int q.1])), (h_this_numbers, .inl (cI, 2325, .inl q.2))] 103 [] [])) (fun q z hz hK => k_Po_addFourTimes_l3 C hr hz hK) zF _ ((o0, o1)) hf hK
/-- PathSums$Polynomial.addFourTimes(III)V -/
def f_Po_addFourTimes (x1 : Int32) (x2 : Int32) (x3 : Int32) (v_monomials : Int32) (v_numbers : Nat → Int32) : Option (Int32 × (Nat → Int32)) :=
  zb2 (zloop (fun q => f_Po_addFourTimes_l3 x1 x2 x3 q.1 q.2.1 q.2.2) zF ((0 : Int32), v_monomials, v_numbers)) fun q_1 q_2 =>
  some (q_1, q_2)
set_option maxRecDepth 100000 in
set_option maxHeartbeats 4000000 in
theorem k_Po_addFourTimes {p : Program} {l : Launch} {e : Env} {s : State} {m : MethodId} {args : Array Value} {below : List Frame} {meth : Method} {c : Code} {D : va_G} {cI cL : ClassId} {h_this h_this_numbers : Nat} {v_monomials o_monomials x1 x2 x3 : Int32} {v_numbers o_numbers : Nat → Int32} (C : zC p s m args meth c b_Po_addFourTimes 7 R_Po D vwCl [(cI, .int), (cL, .long)] (zA [h_this, h_this_numbers] s.heap.size)) (hr : meth.sig.returnType = none) (hf : f_Po_addFourTimes x1 x2 x3 v_monomials v_numbers = some (o_monomials, o_numbers)) : ZV p l e rm_Po_addFourTimes s m args below meth c 7 D (none) [(h_this, .inr (1, [.ref h_this_numbers, .int o_monomials])), (h_this_numbers, .inl (cI, 2325, .inl o_numbers))] [h_this, h_this_numbers] [(h_this, .inr (1, [.ref h_this_numbers, .int v_monomials])), (h_this_numbers, .inl (cI, 2325, .inl v_numbers))] 0 [(0, .ref h_this), (1, .int x1), (2, .int x2), (3, .int x3)] [] := by
  unfold f_Po_addFourTimes at hf
  refine z_iconst (v := 0) C d_Po_addFourTimes_0 (by decide) ?_
  refine z_istore (lv' := [(4, .int (0 : Int32)), (0, .ref h_this), (1, .int x1), (2, .int x2), (3, .int x3)]) C d_Po_addFourTimes_1 (by decide) rfl ?_
  refine z_lv [1, 2, 3, 4, 0] rfl ?_
  obtain ⟨q_1, q_2, h_3, hf⟩ := zb2_elim hf
  refine k_Po_addFourTimes_l3_run C hr h_3 ?_
  cases hf
  exact z_vret C hr d_Po_addFourTimes_103
theorem c_Po_addFourTimes {l : Launch} {D : va_G} {cI cL : ClassId} {h_this h_this_numbers : Nat} {v_monomials o_monomials x1 x2 x3 : Int32} {v_numbers o_numbers : Nat → Int32} (hf : f_Po_addFourTimes x1 x2 x3 v_monomials v_numbers = some (o_monomials, o_numbers)) : zM l y_Po_addFourTimes (Cond.code y_Po_addFourTimes b_Po_addFourTimes 7 none :: zT) rm_Po_addFourTimes D vwCl [(cI, .int), (cL, .long)] [.ref h_this, .int x1, .int x2, .int x3] [(h_this, .inr (1, [.ref h_this_numbers, .int v_monomials])), (h_this_numbers, .inl (cI, 2325, .inl v_numbers))] [(h_this, .inr (1, [.ref h_this_numbers, .int o_monomials])), (h_this_numbers, .inl (cI, 2325, .inl o_numbers))] (none) :=
  zM.intro (by decide) rfl (fun _ h => List.mem_cons_of_mem _ h) (Nat.le_of_ble_eq_true rfl) (fun _ _ _ _ _ _ _ C hr _ => k_Po_addFourTimes C hr hf)
def rm_Po_replaceBit : Room := { frames := 6, cells := 0, slots := 0, locals := 146 }
def f_Po_replaceBit_l11 (x1 : Int32) (x2 : Int32) (x3 : Int32) (x4 : Int32) (v_monomials : Int32) (v_numbers : Nat → Int32) : Option ((Int32 × Int32 × (Nat → Int32)) ⊕ (Int32 × (Nat → Int32))) :=
  if x3 < x4 then (
    some (.inr (v_monomials, v_numbers)))
  else (
    zlet ((((1 : Int32) <<< (x1 &&& 31)) ||| ((1 : Int32) <<< (x3 &&& 31))) ||| ((1 : Int32) <<< (x4 &&& 31))) fun y_2 =>
    zb1 (f_Po_numberOf y_2 v_numbers) fun r_4 =>
    if r_4 = 0 then (
      zlet (x4 + 1) fun y_6 =>
      some (.inl (y_6, v_monomials, v_numbers)))
    else (
      zb2 (f_Po_add y_2 (-r_4) v_monomials v_numbers) fun q_8 q_9 =>
      zb2 (f_Po_addXor r_4 x2 (y_2 &&& (((1 : Int32) <<< (x1 &&& 31)) ^^^ (-1 : Int32))) q_8 q_9) fun q_11 q_12 =>
      zlet (x4 + 1) fun y_13 =>
      some (.inl (y_13, q_11, q_12))))
set_option maxRecDepth 100000 in
set_option maxHeartbeats 4000000 in
theorem k_Po_replaceBit_l11 {p : Program} {l : Launch} {e : Env} {s : State} {m : MethodId} {args : Array Value} {below : List Frame} {meth : Method} {c : Code} {D : va_G} {cI cL : ClassId} {h_this h_this_numbers : Nat} {v_monomials o_monomials x1 x2 x3 x4 : Int32} {v_numbers o_numbers : Nat → Int32} (C : zC p s m args meth c b_Po_replaceBit 7 R_Po D vwCl [(cI, .int), (cL, .long)] (zA [h_this, h_this_numbers] s.heap.size)) (hr : meth.sig.returnType = none) {z : (Int32 × Int32 × (Nat → Int32)) ⊕ (Int32 × (Nat → Int32))} (hf : f_Po_replaceBit_l11 x1 x2 x3 x4 v_monomials v_numbers = some z) (hK : zcase (fun q => ZV p l e rm_Po_replaceBit s m args below meth c 7 D (none) [(h_this, .inr (1, [.ref h_this_numbers, .int o_monomials])), (h_this_numbers, .inl (cI, 2325, .inl o_numbers))] [h_this, h_this_numbers] [(h_this, .inr (1, [.ref h_this_numbers, .int q.2.1])), (h_this_numbers, .inl (cI, 2325, .inl q.2.2))] 11 [(0, .ref h_this), (1, .int x1), (2, .int x2), (3, .int x3), (4, .int q.1)] []) (fun q => ZV p l e rm_Po_replaceBit s m args below meth c 7 D (none) [(h_this, .inr (1, [.ref h_this_numbers, .int o_monomials])), (h_this_numbers, .inl (cI, 2325, .inl o_numbers))] [h_this, h_this_numbers] [(h_this, .inr (1, [.ref h_this_numbers, .int q.1])), (h_this_numbers, .inl (cI, 2325, .inl q.2))] 74 [(0, .ref h_this), (1, .int x1), (2, .int x2), (3, .int x3)] []) z) : ZV p l e rm_Po_replaceBit s m args below meth c 7 D (none) [(h_this, .inr (1, [.ref h_this_numbers, .int o_monomials])), (h_this_numbers, .inl (cI, 2325, .inl o_numbers))] [h_this, h_this_numbers] [(h_this, .inr (1, [.ref h_this_numbers, .int v_monomials])), (h_this_numbers, .inl (cI, 2325, .inl v_numbers))] 11 [(0, .ref h_this), (1, .int x1), (2, .int x2), (3, .int x3), (4, .int x4)] [] := by
  unfold f_Po_replaceBit_l11 at hf
  refine z_iload C d_Po_replaceBit_11 4 rfl ?_
  refine z_iload_n C d_Po_replaceBit_13 rfl 3 rfl ?_
  refine z_icmp_gt (tgt := 74) C d_Po_replaceBit_14 (by decide) (fun c_1 => ?_) (fun c_1 => ?_)
  · have hf := zif_pos c_1 hf
    refine z_lv [0, 1, 2, 3] rfl ?_
    cases hf
    exact hK
  · have hf := zif_neg c_1 hf
    refine z_iconst (v := 1) C d_Po_replaceBit_17 (by decide) ?_
    refine z_iload_n C d_Po_replaceBit_18 rfl 1 rfl ?_
    refine z_ishl C d_Po_replaceBit_19 ?_
    refine z_iconst (v := 1) C d_Po_replaceBit_20 (by decide) ?_
    refine z_iload_n C d_Po_replaceBit_21 rfl 3 rfl ?_
    refine z_ishl C d_Po_replaceBit_22 ?_
    refine z_ior C d_Po_replaceBit_23 ?_
    refine z_iconst (v := 1) C d_Po_replaceBit_24 (by decide) ?_
    refine z_iload C d_Po_replaceBit_25 4 rfl ?_
    refine z_ishl C d_Po_replaceBit_27 ?_
    refine z_ior C d_Po_replaceBit_28 ?_
    refine z_topi (fun y_2 ey_2 => ?_)
    have hf := zlet_at ey_2 hf
    refine z_istore (lv' := [(5, .int y_2), (0, .ref h_this), (1, .int x1), (2, .int x2), (3, .int x3), (4, .int x4)]) C d_Po_replaceBit_29 (by decide) rfl ?_
    refine z_aload_n C d_Po_replaceBit_31 rfl 1 rfl ?_
    refine z_iload C d_Po_replaceBit_32 0 rfl ?_
    obtain ⟨r_4, h_3, hf⟩ := zb1_elim hf
    refine z_callV (As := [.int y_2]) (rest := []) (ws' := [(h_this, .inr (1, [.ref h_this_numbers, .int v_monomials])), (h_this_numbers, .inl (cI, 2325, .inl v_numbers))]) C (c_Po_numberOf h_3) mi_Po_numberOf zw_282 (by decide) 0 rfl rfl [0, 1] (by decide) rfl rfl rfl rfl rfl (by decide) ⟨Nat.zero_le _, Nat.zero_le _⟩ d_Po_replaceBit_34 ?_
    refine z_istore (lv' := [(6, .int r_4), (5, .int y_2), (0, .ref h_this), (1, .int x1), (2, .int x2), (3, .int x3), (4, .int x4)]) C d_Po_replaceBit_37 (by decide) rfl ?_
    refine z_iload C d_Po_replaceBit_39 0 rfl ?_
    refine z_if_eq (tgt := 68) C d_Po_replaceBit_41 (by decide) (fun c_5 => ?_) (fun c_5 => ?_)
    · have hf := zif_pos c_5 hf
      obtain ⟨y_6, ey_6⟩ : ∃ y : Int32, y = x4 + 1 := ⟨_, rfl⟩
      have hf := zlet_at ey_6 hf
      refine z_iinc (v := y_6) (lv' := [(4, .int y_6), (6, .int r_4), (5, .int y_2), (0, .ref h_this), (1, .int x1), (2, .int x2), (3, .int x3)]) C d_Po_replaceBit_68 (k := 6) rfl (by rw [ey_6]; rfl) (by decide) rfl ?_
      refine z_goto (tgt := 11) C d_Po_replaceBit_71 (by decide) ?_
      refine z_lv [3, 4, 5, 6, 0] rfl ?_
      cases hf
      exact hK
    · have hf := zif_neg c_5 hf
      refine z_aload_n C d_Po_replaceBit_44 rfl 2 rfl ?_
      refine z_iload C d_Po_replaceBit_45 1 rfl ?_
      refine z_iload C d_Po_replaceBit_47 0 rfl ?_
      refine z_ineg C d_Po_replaceBit_49 ?_
      obtain ⟨q_8, q_9, h_7, hf⟩ := zb2_elim hf
      refine z_callV (As := [.int y_2, .int (-r_4)]) (rest := []) (ws' := [(h_this, .inr (1, [.ref h_this_numbers, .int q_8])), (h_this_numbers, .inl (cI, 2325, .inl q_9))]) C (c_Po_add h_7) mi_Po_add zw_231 (by decide) 0 rfl rfl [0, 1] (by decide) rfl rfl rfl rfl rfl (by decide) ⟨Nat.zero_le _, Nat.zero_le _⟩ d_Po_replaceBit_50 ?_
      refine z_aload_n C d_Po_replaceBit_53 rfl 2 rfl ?_
      refine z_iload C d_Po_replaceBit_54 0 rfl ?_
      refine z_iload_n C d_Po_replaceBit_56 rfl 4 rfl ?_
      refine z_iload C d_Po_replaceBit_57 1 rfl ?_
      refine z_iconst (v := 1) C d_Po_replaceBit_59 (by decide) ?_
      refine z_iload_n C d_Po_replaceBit_60 rfl 3 rfl ?_
      refine z_ishl C d_Po_replaceBit_61 ?_
      refine z_iconst (v := -1) C d_Po_replaceBit_62 (by decide) ?_
      refine z_ixor C d_Po_replaceBit_63 ?_
      refine z_iand C d_Po_replaceBit_64 ?_
      obtain ⟨q_11, q_12, h_10, hf⟩ := zb2_elim hf
      refine z_callV (As := [.int r_4, .int x2, .int (y_2 &&& (((1 : Int32) <<< (x1 &&& 31)) ^^^ (-1 : Int32)))]) (rest := []) (ws' := [(h_this, .inr (1, [.ref h_this_numbers, .int q_11])), (h_this_numbers, .inl (cI, 2325, .inl q_12))]) C (c_Po_addXor h_10) mi_Po_addXor zw_302 (by decide) 0 rfl rfl [0, 1] (by decide) rfl rfl rfl rfl rfl (by decide) ⟨Nat.zero_le _, Nat.zero_le _⟩ d_Po_replaceBit_65 ?_
      obtain ⟨y_13, ey_13⟩ : ∃ y : Int32, y = x4 + 1 := ⟨_, rfl⟩
      have hf := zlet_at ey_13 hf
      refine z_iinc (v := y_13) (lv' := [(4, .int y_13), (6, .int r_4), (5, .int y_2), (0, .ref h_this), (1, .int x1), (2, .int x2), (3, .int x3)]) C d_Po_replaceBit_68 (k := 6) rfl (by rw [ey_13]; rfl) (by decide) rfl ?_
      refine z_goto (tgt := 11) C d_Po_replaceBit_71 (by decide) ?_
      refine z_lv [3, 4, 5, 6, 0] rfl ?_
      cases hf
      exact hK
theorem k_Po_replaceBit_l11_run {p : Program} {l : Launch} {e : Env} {s : State} {m : MethodId} {args : Array Value} {below : List Frame} {meth : Method} {c : Code} {D : va_G} {cI cL : ClassId} {h_this h_this_numbers : Nat} {v_monomials o_monomials x1 x2 x3 x4 : Int32} {v_numbers o_numbers : Nat → Int32} (C : zC p s m args meth c b_Po_replaceBit 7 R_Po D vwCl [(cI, .int), (cL, .long)] (zA [h_this, h_this_numbers] s.heap.size)) (hr : meth.sig.returnType = none) {o0 : Int32} {o1 : Nat → Int32} (hf : zloop (fun q => f_Po_replaceBit_l11 x1 x2 x3 q.1 q.2.1 q.2.2) zF (x4, v_monomials, v_numbers) = some (o0, o1)) (hK : ZV p l e rm_Po_replaceBit s m args below meth c 7 D (none) [(h_this, .inr (1, [.ref h_this_numbers, .int o_monomials])), (h_this_numbers, .inl (cI, 2325, .inl o_numbers))] [h_this, h_this_numbers] [(h_this, .inr (1, [.ref h_this_numbers, .int o0])), (h_this_numbers, .inl (cI, 2325, .inl o1))] 74 [(0, .ref h_this), (1, .int x1), (2, .int x2), (3, .int x3)] []) : ZV p l e rm_Po_replaceBit s m args below meth c 7 D (none) [(h_this, .inr (1, [.ref h_this_numbers, .int o_monomials])), (h_this_numbers, .inl (cI, 2325, .inl o_numbers))] [h_this, h_this_numbers] [(h_this, .inr (1, [.ref h_this_numbers, .int v_monomials])), (h_this_numbers, .inl (cI, 2325, .inl v_numbers))] 11 [(0, .ref h_this), (1, .int x1), (2, .int x2), (3, .int x3), (4, .int x4)] [] :=
  zloop_run (P := fun q => ZV p l e rm_Po_replaceBit s m args below meth c 7 D (none) [(h_this, .inr (1, [.ref h_this_numbers, .int o_monomials])), (h_this_numbers, .inl (cI, 2325, .inl o_numbers))] [h_this, h_this_numbers] [(h_this, .inr (1, [.ref h_this_numbers, .int q.2.1])), (h_this_numbers, .inl (cI, 2325, .inl q.2.2))] 11 [(0, .ref h_this), (1, .int x1), (2, .int x2), (3, .int x3), (4, .int q.1)] []) (K := (fun q => ZV p l e rm_Po_replaceBit s m args below meth c 7 D (none) [(h_this, .inr (1, [.ref h_this_numbers, .int o_monomials])), (h_this_numbers, .inl (cI, 2325, .inl o_numbers))] [h_this, h_this_numbers] [(h_this, .inr (1, [.ref h_this_numbers, .int q.1])), (h_this_numbers, .inl (cI, 2325, .inl q.2))] 74 [(0, .ref h_this), (1, .int x1), (2, .int x2), (3, .int x3)] [])) (fun q z hz hK => k_Po_replaceBit_l11 C hr hz hK) zF _ ((o0, o1)) hf hK
def f_Po_replaceBit_l2 (x1 : Int32) (x2 : Int32) (x3 : Int32) (v_monomials : Int32) (v_numbers : Nat → Int32) : Option ((Int32 × Int32 × (Nat → Int32)) ⊕ (Int32 × (Nat → Int32))) :=
  if (24 : Int32) ≤ x3 then (
    some (.inr (v_monomials, v_numbers)))
  else (
    zb2 (zloop (fun q => f_Po_replaceBit_l11 x1 x2 x3 q.1 q.2.1 q.2.2) zF ((0 : Int32), v_monomials, v_numbers)) fun q_2 q_3 =>
    zlet (x3 + 1) fun y_5 =>
    some (.inl (y_5, q_2, q_3)))
set_option maxRecDepth 100000 in
set_option maxHeartbeats 4000000 in
theorem k_Po_replaceBit_l2 {p : Program} {l : Launch} {e : Env} {s : State} {m : MethodId} {args : Array Value} {below : List Frame} {meth : Method} {c : Code} {D : va_G} {cI cL : ClassId} {h_this h_this_numbers : Nat} {v_monomials o_monomials x1 x2 x3 : Int32} {v_numbers o_numbers : Nat → Int32} (C : zC p s m args meth c b_Po_replaceBit 7 R_Po D vwCl [(cI, .int), (cL, .long)] (zA [h_this, h_this_numbers] s.heap.size)) (hr : meth.sig.returnType = none) {z : (Int32 × Int32 × (Nat → Int32)) ⊕ (Int32 × (Nat → Int32))} (hf : f_Po_replaceBit_l2 x1 x2 x3 v_monomials v_numbers = some z) (hK : zcase (fun q => ZV p l e rm_Po_replaceBit s m args below meth c 7 D (none) [(h_this, .inr (1, [.ref h_this_numbers, .int o_monomials])), (h_this_numbers, .inl (cI, 2325, .inl o_numbers))] [h_this, h_this_numbers] [(h_this, .inr (1, [.ref h_this_numbers, .int q.2.1])), (h_this_numbers, .inl (cI, 2325, .inl q.2.2))] 2 [(0, .ref h_this), (1, .int x1), (2, .int x2), (3, .int q.1)] []) (fun q => ZV p l e rm_Po_replaceBit s m args below meth c 7 D (none) [(h_this, .inr (1, [.ref h_this_numbers, .int o_monomials])), (h_this_numbers, .inl (cI, 2325, .inl o_numbers))] [h_this, h_this_numbers] [(h_this, .inr (1, [.ref h_this_numbers, .int q.1])), (h_this_numbers, .inl (cI, 2325, .inl q.2))] 80 [] []) z) : ZV p l e rm_Po_replaceBit s m args below meth c 7 D (none) [(h_this, .inr (1, [.ref h_this_numbers, .int o_monomials])), (h_this_numbers, .inl (cI, 2325, .inl o_numbers))] [h_this, h_this_numbers] [(h_this, .inr (1, [.ref h_this_numbers, .int v_monomials])), (h_this_numbers, .inl (cI, 2325, .inl v_numbers))] 2 [(0, .ref h_this), (1, .int x1), (2, .int x2), (3, .int x3)] [] := by
  unfold f_Po_replaceBit_l2 at hf
  refine z_iload_n C d_Po_replaceBit_2 rfl 3 rfl ?_
  refine z_bipush (v := 24) C d_Po_replaceBit_3 (by decide) ?_
  refine z_icmp_ge (tgt := 80) C d_Po_replaceBit_5 (by decide) (fun c_1 => ?_) (fun c_1 => ?_)
  · have hf := zif_pos c_1 hf
    refine z_lv [] rfl ?_
    cases hf
    exact hK
  · have hf := zif_neg c_1 hf
    refine z_iconst (v := 0) C d_Po_replaceBit_8 (by decide) ?_
    refine z_istore (lv' := [(4, .int (0 : Int32)), (0, .ref h_this), (1, .int x1), (2, .int x2), (3, .int x3)]) C d_Po_replaceBit_9 (by decide) rfl ?_
    refine z_lv [1, 2, 3, 4, 0] rfl ?_
    obtain ⟨q_2, q_3, h_4, hf⟩ := zb2_elim hf
    refine k_Po_replaceBit_l11_run C hr h_4 ?_
    obtain ⟨y_5, ey_5⟩ : ∃ y : Int32, y = x3 + 1 := ⟨_, rfl⟩
    have hf := zlet_at ey_5 hf
    refine z_iinc (v := y_5) (lv' := [(3, .int y_5), (0, .ref h_this), (1, .int x1), (2, .int x2)]) C d_Po_replaceBit_74 (k := 3) rfl (by rw [ey_5]; rfl) (by decide) rfl ?_
    refine z_goto (tgt := 2) C d_Po_replaceBit_77 (by decide) ?_
    refine z_lv [1, 2, 3, 0] rfl ?_
    cases hf
    exact hK
theorem k_Po_replaceBit_l2_run {p : Program} {l : Launch} {e : Env} {s : State} {m : MethodId} {args : Array Value} {below : List Frame} {meth : Method} {c : Code} {D : va_G} {cI cL : ClassId} {h_this h_this_numbers : Nat} {v_monomials o_monomials x1 x2 x3 : Int32} {v_numbers o_numbers : Nat → Int32} (C : zC p s m args meth c b_Po_replaceBit 7 R_Po D vwCl [(cI, .int), (cL, .long)] (zA [h_this, h_this_numbers] s.heap.size)) (hr : meth.sig.returnType = none) {o0 : Int32} {o1 : Nat → Int32} (hf : zloop (fun q => f_Po_replaceBit_l2 x1 x2 q.1 q.2.1 q.2.2) zF (x3, v_monomials, v_numbers) = some (o0, o1)) (hK : ZV p l e rm_Po_replaceBit s m args below meth c 7 D (none) [(h_this, .inr (1, [.ref h_this_numbers, .int o_monomials])), (h_this_numbers, .inl (cI, 2325, .inl o_numbers))] [h_this, h_this_numbers] [(h_this, .inr (1, [.ref h_this_numbers, .int o0])), (h_this_numbers, .inl (cI, 2325, .inl o1))] 80 [] []) : ZV p l e rm_Po_replaceBit s m args below meth c 7 D (none) [(h_this, .inr (1, [.ref h_this_numbers, .int o_monomials])), (h_this_numbers, .inl (cI, 2325, .inl o_numbers))] [h_this, h_this_numbers] [(h_this, .inr (1, [.ref h_this_numbers, .int v_monomials])), (h_this_numbers, .inl (cI, 2325, .inl v_numbers))] 2 [(0, .ref h_this), (1, .int x1), (2, .int x2), (3, .int x3)] [] :=
  zloop_run (P := fun q => ZV p l e rm_Po_replaceBit s m args below meth c 7 D (none) [(h_this, .inr (1, [.ref h_this_numbers, .int o_monomials])), (h_this_numbers, .inl (cI, 2325, .inl o_numbers))] [h_this, h_this_numbers] [(h_this, .inr (1, [.ref h_this_numbers, .int q.2.1])), (h_this_numbers, .inl (cI, 2325, .inl q.2.2))] 2 [(0, .ref h_this), (1, .int x1), (2, .int x2), (3, .int q.1)] []) (K := (fun q => ZV p l e rm_Po_replaceBit s m args below meth c 7 D (none) [(h_this, .inr (1, [.ref h_this_numbers, .int o_monomials])), (h_this_numbers, .inl (cI, 2325, .inl o_numbers))] [h_this, h_this_numbers] [(h_this, .inr (1, [.ref h_this_numbers, .int q.1])), (h_this_numbers, .inl (cI, 2325, .inl q.2))] 80 [] [])) (fun q z hz hK => k_Po_replaceBit_l2 C hr hz hK) zF _ ((o0, o1)) hf hK
/-- PathSums$Polynomial.replaceBit(II)V -/
def f_Po_replaceBit (x1 : Int32) (x2 : Int32) (v_monomials : Int32) (v_numbers : Nat → Int32) : Option (Int32 × (Nat → Int32)) :=
  zb2 (zloop (fun q => f_Po_replaceBit_l2 x1 x2 q.1 q.2.1 q.2.2) zF ((0 : Int32), v_monomials, v_numbers)) fun q_1 q_2 =>
  some (q_1, q_2)
set_option maxRecDepth 100000 in
set_option maxHeartbeats 4000000 in
theorem k_Po_replaceBit {p : Program} {l : Launch} {e : Env} {s : State} {m : MethodId} {args : Array Value} {below : List Frame} {meth : Method} {c : Code} {D : va_G} {cI cL : ClassId} {h_this h_this_numbers : Nat} {v_monomials o_monomials x1 x2 : Int32} {v_numbers o_numbers : Nat → Int32} (C : zC p s m args meth c b_Po_replaceBit 7 R_Po D vwCl [(cI, .int), (cL, .long)] (zA [h_this, h_this_numbers] s.heap.size)) (hr : meth.sig.returnType = none) (hf : f_Po_replaceBit x1 x2 v_monomials v_numbers = some (o_monomials, o_numbers)) : ZV p l e rm_Po_replaceBit s m args below meth c 7 D (none) [(h_this, .inr (1, [.ref h_this_numbers, .int o_monomials])), (h_this_numbers, .inl (cI, 2325, .inl o_numbers))] [h_this, h_this_numbers] [(h_this, .inr (1, [.ref h_this_numbers, .int v_monomials])), (h_this_numbers, .inl (cI, 2325, .inl v_numbers))] 0 [(0, .ref h_this), (1, .int x1), (2, .int x2)] [] := by
  unfold f_Po_replaceBit at hf
  refine z_iconst (v := 0) C d_Po_replaceBit_0 (by decide) ?_
  refine z_istore_n (lv' := [(3, .int (0 : Int32)), (0, .ref h_this), (1, .int x1), (2, .int x2)]) C d_Po_replaceBit_1 rfl (by decide) rfl ?_
  refine z_lv [1, 2, 3, 0] rfl ?_
  obtain ⟨q_1, q_2, h_3, hf⟩ := zb2_elim hf
  refine k_Po_replaceBit_l2_run C hr h_3 ?_
  cases hf
  exact z_vret C hr d_Po_replaceBit_80
theorem c_Po_replaceBit {l : Launch} {D : va_G} {cI cL : ClassId} {h_this h_this_numbers : Nat} {v_monomials o_monomials x1 x2 : Int32} {v_numbers o_numbers : Nat → Int32} (hf : f_Po_replaceBit x1 x2 v_monomials v_numbers = some (o_monomials, o_numbers)) : zM l y_Po_replaceBit (Cond.code y_Po_replaceBit b_Po_replaceBit 7 none :: zT) rm_Po_replaceBit D vwCl [(cI, .int), (cL, .long)] [.ref h_this, .int x1, .int x2] [(h_this, .inr (1, [.ref h_this_numbers, .int v_monomials])), (h_this_numbers, .inl (cI, 2325, .inl v_numbers))] [(h_this, .inr (1, [.ref h_this_numbers, .int o_monomials])), (h_this_numbers, .inl (cI, 2325, .inl o_numbers))] (none) :=
  zM.intro (by decide) rfl (fun _ h => List.mem_cons_of_mem _ h) (Nat.le_of_ble_eq_true rfl) (fun _ _ _ _ _ _ _ C hr _ => k_Po_replaceBit C hr hf)
def rm_Po_partnersOf : Room := { frames := 3, cells := 0, slots := 0, locals := 69 }
def f_Po_partnersOf_l13 (x1 : Int32) (x3 : Int32) (v_numbers : Nat → Int32) (x2 : Int32) (x4 : Int32) : Option ((Int32 × Int32) ⊕ ((Int32) ⊕ (Int32))) :=
  if x3 < x4 then (
    some (.inr (.inl (x2))))
  else (
    zlet ((((1 : Int32) <<< (x1 &&& 31)) ||| ((1 : Int32) <<< (x3 &&& 31))) ||| ((1 : Int32) <<< (x4 &&& 31))) fun y_2 =>
    if y_2 = ((1 : Int32) <<< (x1 &&& 31)) then (
      zlet (x2 ||| (0 : Int32)) fun y_4 =>
      zlet (x4 + 1) fun y_5 =>
      some (.inl (y_4, y_5)))
    else (
      zb1 (f_Po_numberOf y_2 v_numbers) fun r_7 =>
      if r_7 = 0 then (
        if r_7 = 0 then (
          zlet (x2 ||| (0 : Int32)) fun y_10 =>
          zlet (x4 + 1) fun y_11 =>
          some (.inl (y_10, y_11)))
        else (
          zlet (x2 ||| (y_2 &&& (((1 : Int32) <<< (x1 &&& 31)) ^^^ (-1 : Int32)))) fun y_12 =>
          zlet (x4 + 1) fun y_13 =>
          some (.inl (y_12, y_13))))
      else (
        if r_7 = (4 : Int32) then (
          if (f_Jint_bitCount y_2) ≤ (2 : Int32) then (
            if r_7 = 0 then (
              zlet (x2 ||| (0 : Int32)) fun y_18 =>
              zlet (x4 + 1) fun y_19 =>
              some (.inl (y_18, y_19)))
            else (
              zlet (x2 ||| (y_2 &&& (((1 : Int32) <<< (x1 &&& 31)) ^^^ (-1 : Int32)))) fun y_20 =>
              zlet (x4 + 1) fun y_21 =>
              some (.inl (y_20, y_21))))
          else (
            some (.inr (.inr (-1 : Int32)))))
        else (
          some (.inr (.inr (-1 : Int32)))))))
set_option maxRecDepth 100000 in
set_option maxHeartbeats 4000000 in
theorem k_Po_partnersOf_l13 {p : Program} {l : Launch} {e : Env} {s : State} {m : MethodId} {args : Array Value} {below : List Frame} {meth : Method} {c : Code} {D : va_G} {cI cL : ClassId} {h_this h_this_numbers : Nat} {v_monomials rr x1 x2 x3 x4 : Int32} {v_numbers : Nat → Int32} (C : zC p s m args meth c b_Po_partnersOf 7 R_Po D vwCl [(cI, .int), (cL, .long)] (zA [h_this, h_this_numbers] s.heap.size)) (hr : meth.sig.returnType = some .int) {z : (Int32 × Int32) ⊕ ((Int32) ⊕ (Int32))} (hf : f_Po_partnersOf_l13 x1 x3 v_numbers x2 x4 = some z) (hK : zcase (fun q => ZV p l e rm_Po_partnersOf s m args below meth c 7 D (some (.int rr)) [(h_this, .inr (1, [.ref h_this_numbers, .int v_monomials])), (h_this_numbers, .inl (cI, 2325, .inl v_numbers))] [h_this, h_this_numbers] [(h_this, .inr (1, [.ref h_this_numbers, .int v_monomials])), (h_this_numbers, .inl (cI, 2325, .inl v_numbers))] 13 [(0, .ref h_this), (1, .int x1), (2, .int q.1), (3, .int x3), (4, .int q.2)] []) (zcase (fun q => ZV p l e rm_Po_partnersOf s m args below meth c 7 D (some (.int rr)) [(h_this, .inr (1, [.ref h_this_numbers, .int v_monomials])), (h_this_numbers, .inl (cI, 2325, .inl v_numbers))] [h_this, h_this_numbers] [(h_this, .inr (1, [.ref h_this_numbers, .int v_monomials])), (h_this_numbers, .inl (cI, 2325, .inl v_numbers))] 101 [(0, .ref h_this), (1, .int x1), (2, .int q), (3, .int x3)] []) (fun w => w = rr)) z) : ZV p l e rm_Po_partnersOf s m args below meth c 7 D (some (.int rr)) [(h_this, .inr (1, [.ref h_this_numbers, .int v_monomials])), (h_this_numbers, .inl (cI, 2325, .inl v_numbers))] [h_this, h_this_numbers] [(h_this, .inr (1, [.ref h_this_numbers, .int v_monomials])), (h_this_numbers, .inl (cI, 2325, .inl v_numbers))] 13 [(0, .ref h_this), (1, .int x1), (2, .int x2), (3, .int x3), (4, .int x4)] [] := by
  unfold f_Po_partnersOf_l13 at hf
  refine z_iload C d_Po_partnersOf_13 4 rfl ?_
  refine z_iload_n C d_Po_partnersOf_15 rfl 3 rfl ?_
  refine z_icmp_gt (tgt := 101) C d_Po_partnersOf_16 (by decide) (fun c_1 => ?_) (fun c_1 => ?_)
  · have hf := zif_pos c_1 hf
    refine z_lv [0, 1, 2, 3] rfl ?_
    cases hf
    exact hK
  · have hf := zif_neg c_1 hf
    refine z_iconst (v := 1) C d_Po_partnersOf_19 (by decide) ?_
    refine z_iload_n C d_Po_partnersOf_20 rfl 1 rfl ?_
    refine z_ishl C d_Po_partnersOf_21 ?_
    refine z_iconst (v := 1) C d_Po_partnersOf_22 (by decide) ?_
    refine z_iload_n C d_Po_partnersOf_23 rfl 3 rfl ?_
    refine z_ishl C d_Po_partnersOf_24 ?_
    refine z_ior C d_Po_partnersOf_25 ?_
    refine z_iconst (v := 1) C d_Po_partnersOf_26 (by decide) ?_
    refine z_iload C d_Po_partnersOf_27 4 rfl ?_
    refine z_ishl C d_Po_partnersOf_29 ?_
    refine z_ior C d_Po_partnersOf_30 ?_
    refine z_topi (fun y_2 ey_2 => ?_)
    have hf := zlet_at ey_2 hf
    refine z_istore (lv' := [(5, .int y_2), (0, .ref h_this), (1, .int x1), (2, .int x2), (3, .int x3), (4, .int x4)]) C d_Po_partnersOf_31 (by decide) rfl ?_
    refine z_iload C d_Po_partnersOf_33 0 rfl ?_
    refine z_iconst (v := 1) C d_Po_partnersOf_35 (by decide) ?_
    refine z_iload_n C d_Po_partnersOf_36 rfl 2 rfl ?_
    refine z_ishl C d_Po_partnersOf_37 ?_
    refine z_icmp_ne (tgt := 45) C d_Po_partnersOf_38 (by decide) (fun c_3 => ?_) (fun c_3 => ?_)
    · have hf := zif_neg c_3 hf
      refine z_aload_n C d_Po_partnersOf_45 rfl 1 rfl ?_
      refine z_iload C d_Po_partnersOf_46 0 rfl ?_
      obtain ⟨r_7, h_6, hf⟩ := zb1_elim hf
      refine z_callV (As := [.int y_2]) (rest := []) (ws' := [(h_this, .inr (1, [.ref h_this_numbers, .int v_monomials])), (h_this_numbers, .inl (cI, 2325, .inl v_numbers))]) C (c_Po_numberOf h_6) mi_Po_numberOf zw_282 (by decide) 0 rfl rfl [0, 1] (by decide) rfl rfl rfl rfl rfl (by decide) ⟨Nat.zero_le _, Nat.zero_le _⟩ d_Po_partnersOf_48 ?_
      refine z_istore (lv' := [(6, .int r_7), (5, .int y_2), (0, .ref h_this), (1, .int x1), (2, .int x2), (3, .int x3), (4, .int x4)]) C d_Po_partnersOf_51 (by decide) rfl ?_
      refine z_iload C d_Po_partnersOf_53 0 rfl ?_
      refine z_if_eq (tgt := 75) C d_Po_partnersOf_55 (by decide) (fun c_8 => ?_) (fun c_8 => ?_)
      · have hf := zif_pos c_8 hf
        refine z_iload_n C d_Po_partnersOf_75 rfl 4 rfl ?_
        refine z_iload C d_Po_partnersOf_76 0 rfl ?_
        refine z_if_ne (tgt := 85) C d_Po_partnersOf_78 (by decide) (fun c_9 => ?_) (fun c_9 => ?_)
        · have hf := zif_neg c_9 hf
          refine z_iload C d_Po_partnersOf_85 1 rfl ?_
          refine z_iconst (v := 1) C d_Po_partnersOf_87 (by decide) ?_
          refine z_iload_n C d_Po_partnersOf_88 rfl 3 rfl ?_
          refine z_ishl C d_Po_partnersOf_89 ?_
          refine z_iconst (v := -1) C d_Po_partnersOf_90 (by decide) ?_
          refine z_ixor C d_Po_partnersOf_91 ?_
          refine z_iand C d_Po_partnersOf_92 ?_
          refine z_ior C d_Po_partnersOf_93 ?_
          refine z_topi (fun y_12 ey_12 => ?_)
          have hf := zlet_at ey_12 hf
          refine z_istore_n (lv' := [(2, .int y_12), (6, .int r_7), (5, .int y_2), (0, .ref h_this), (1, .int x1), (3, .int x3), (4, .int x4)]) C d_Po_partnersOf_94 rfl (by decide) rfl ?_
          obtain ⟨y_13, ey_13⟩ : ∃ y : Int32, y = x4 + 1 := ⟨_, rfl⟩
          have hf := zlet_at ey_13 hf
          refine z_iinc (v := y_13) (lv' := [(4, .int y_13), (2, .int y_12), (6, .int r_7), (5, .int y_2), (0, .ref h_this), (1, .int x1), (3, .int x3)]) C d_Po_partnersOf_95 (k := 6) rfl (by rw [ey_13]; rfl) (by decide) rfl ?_
          refine z_goto (tgt := 13) C d_Po_partnersOf_98 (by decide) ?_
          refine z_lv [4, 5, 1, 6, 0] rfl ?_
          cases hf
          exact hK
        · have hf := zif_pos c_9 hf
          refine z_iconst (v := 0) C d_Po_partnersOf_81 (by decide) ?_
          refine z_goto (tgt := 93) C d_Po_partnersOf_82 (by decide) ?_
          refine z_ior C d_Po_partnersOf_93 ?_
          refine z_topi (fun y_10 ey_10 => ?_)
          have hf := zlet_at ey_10 hf
          refine z_istore_n (lv' := [(2, .int y_10), (6, .int r_7), (5, .int y_2), (0, .ref h_this), (1, .int x1), (3, .int x3), (4, .int x4)]) C d_Po_partnersOf_94 rfl (by decide) rfl ?_
          obtain ⟨y_11, ey_11⟩ : ∃ y : Int32, y = x4 + 1 := ⟨_, rfl⟩
          have hf := zlet_at ey_11 hf
          refine z_iinc (v := y_11) (lv' := [(4, .int y_11), (2, .int y_10), (6, .int r_7), (5, .int y_2), (0, .ref h_this), (1, .int x1), (3, .int x3)]) C d_Po_partnersOf_95 (k := 6) rfl (by rw [ey_11]; rfl) (by decide) rfl ?_
          refine z_goto (tgt := 13) C d_Po_partnersOf_98 (by decide) ?_
          refine z_lv [4, 5, 1, 6, 0] rfl ?_
          cases hf
          exact hK
      · have hf := zif_neg c_8 hf
        refine z_iload C d_Po_partnersOf_58 0 rfl ?_
        refine z_iconst (v := 4) C d_Po_partnersOf_60 (by decide) ?_
        refine z_icmp_ne (tgt := 73) C d_Po_partnersOf_61 (by decide) (fun c_14 => ?_) (fun c_14 => ?_)
        · have hf := zif_neg c_14 hf
          refine z_iconst (v := -1) C d_Po_partnersOf_73 (by decide) ?_
          cases hf
          have hK : (-1 : Int32) = rr := hK
          cases hK
          exact z_iret C hr d_Po_partnersOf_74
        · have hf := zif_pos c_14 hf
          refine z_iload C d_Po_partnersOf_64 1 rfl ?_
          refine z_callS (As := [.int y_2]) (rest := []) (ws' := [(h_this, .inr (1, [.ref h_this_numbers, .int v_monomials])), (h_this_numbers, .inl (cI, 2325, .inl v_numbers))]) C (c_Jint_bitCount rfl) mi_Jint_bitCount zw_239 (by decide) [] (by decide) rfl rfl rfl rfl rfl (by decide) ⟨Nat.zero_le _, Nat.zero_le _⟩ d_Po_partnersOf_66 ?_
          refine z_iconst (v := 2) C d_Po_partnersOf_69 (by decide) ?_
          refine z_icmp_le (tgt := 75) C d_Po_partnersOf_70 (by decide) (fun c_16 => ?_) (fun c_16 => ?_)
          · have hf := zif_pos c_16 hf
            refine z_iload_n C d_Po_partnersOf_75 rfl 4 rfl ?_
            refine z_iload C d_Po_partnersOf_76 0 rfl ?_
            refine z_if_ne (tgt := 85) C d_Po_partnersOf_78 (by decide) (fun c_17 => ?_) (fun c_17 => ?_)
            · have hf := zif_neg c_17 hf
              refine z_iload C d_Po_partnersOf_85 1 rfl ?_
              refine z_iconst (v := 1) C d_Po_partnersOf_87 (by decide) ?_
              refine z_iload_n C d_Po_partnersOf_88 rfl 3 rfl ?_
              refine z_ishl C d_Po_partnersOf_89 ?_
              refine z_iconst (v := -1) C d_Po_partnersOf_90 (by decide) ?_
              refine z_ixor C d_Po_partnersOf_91 ?_
              refine z_iand C d_Po_partnersOf_92 ?_
              refine z_ior C d_Po_partnersOf_93 ?_
              refine z_topi (fun y_20 ey_20 => ?_)
              have hf := zlet_at ey_20 hf
              refine z_istore_n (lv' := [(2, .int y_20), (6, .int r_7), (5, .int y_2), (0, .ref h_this), (1, .int x1), (3, .int x3), (4, .int x4)]) C d_Po_partnersOf_94 rfl (by decide) rfl ?_
              obtain ⟨y_21, ey_21⟩ : ∃ y : Int32, y = x4 + 1 := ⟨_, rfl⟩
              have hf := zlet_at ey_21 hf
              refine z_iinc (v := y_21) (lv' := [(4, .int y_21), (2, .int y_20), (6, .int r_7), (5, .int y_2), (0, .ref h_this), (1, .int x1), (3, .int x3)]) C d_Po_partnersOf_95 (k := 6) rfl (by rw [ey_21]; rfl) (by decide) rfl ?_
              refine z_goto (tgt := 13) C d_Po_partnersOf_98 (by decide) ?_
              refine z_lv [4, 5, 1, 6, 0] rfl ?_
              cases hf
              exact hK
            · have hf := zif_pos c_17 hf
              refine z_iconst (v := 0) C d_Po_partnersOf_81 (by decide) ?_
              refine z_goto (tgt := 93) C d_Po_partnersOf_82 (by decide) ?_
              refine z_ior C d_Po_partnersOf_93 ?_
              refine z_topi (fun y_18 ey_18 => ?_)
              have hf := zlet_at ey_18 hf
              refine z_istore_n (lv' := [(2, .int y_18), (6, .int r_7), (5, .int y_2), (0, .ref h_this), (1, .int x1), (3, .int x3), (4, .int x4)]) C d_Po_partnersOf_94 rfl (by decide) rfl ?_
              obtain ⟨y_19, ey_19⟩ : ∃ y : Int32, y = x4 + 1 := ⟨_, rfl⟩
              have hf := zlet_at ey_19 hf
              refine z_iinc (v := y_19) (lv' := [(4, .int y_19), (2, .int y_18), (6, .int r_7), (5, .int y_2), (0, .ref h_this), (1, .int x1), (3, .int x3)]) C d_Po_partnersOf_95 (k := 6) rfl (by rw [ey_19]; rfl) (by decide) rfl ?_
              refine z_goto (tgt := 13) C d_Po_partnersOf_98 (by decide) ?_
              refine z_lv [4, 5, 1, 6, 0] rfl ?_
              cases hf
              exact hK
          · have hf := zif_neg c_16 hf
            refine z_iconst (v := -1) C d_Po_partnersOf_73 (by decide) ?_
            cases hf
            have hK : (-1 : Int32) = rr := hK
            cases hK
            exact z_iret C hr d_Po_partnersOf_74
    · have hf := zif_pos c_3 hf
      refine z_iconst (v := 0) C d_Po_partnersOf_41 (by decide) ?_
      refine z_goto (tgt := 51) C d_Po_partnersOf_42 (by decide) ?_
      refine z_istore (lv' := [(6, .int (0 : Int32)), (5, .int y_2), (0, .ref h_this), (1, .int x1), (2, .int x2), (3, .int x3), (4, .int x4)]) C d_Po_partnersOf_51 (by decide) rfl ?_
      refine z_iload C d_Po_partnersOf_53 0 rfl ?_
      refine z_if_eq (tgt := 75) C d_Po_partnersOf_55 (by decide) (fun _ => ?_) (fun c => absurd c (by decide))
      refine z_iload_n C d_Po_partnersOf_75 rfl 4 rfl ?_
      refine z_iload C d_Po_partnersOf_76 0 rfl ?_
      refine z_if_ne (tgt := 85) C d_Po_partnersOf_78 (by decide) (fun c => absurd c (by decide)) (fun _ => ?_)
      refine z_iconst (v := 0) C d_Po_partnersOf_81 (by decide) ?_
      refine z_goto (tgt := 93) C d_Po_partnersOf_82 (by decide) ?_
      refine z_ior C d_Po_partnersOf_93 ?_
      refine z_topi (fun y_4 ey_4 => ?_)
      have hf := zlet_at ey_4 hf
      refine z_istore_n (lv' := [(2, .int y_4), (6, .int (0 : Int32)), (5, .int y_2), (0, .ref h_this), (1, .int x1), (3, .int x3), (4, .int x4)]) C d_Po_partnersOf_94 rfl (by decide) rfl ?_
      obtain ⟨y_5, ey_5⟩ : ∃ y : Int32, y = x4 + 1 := ⟨_, rfl⟩
      have hf := zlet_at ey_5 hf
      refine z_iinc (v := y_5) (lv' := [(4, .int y_5), (2, .int y_4), (6, .int (0 : Int32)), (5, .int y_2), (0, .ref h_this), (1, .int x1), (3, .int x3)]) C d_Po_partnersOf_95 (k := 6) rfl (by rw [ey_5]; rfl) (by decide) rfl ?_
      refine z_goto (tgt := 13) C d_Po_partnersOf_98 (by decide) ?_
      refine z_lv [4, 5, 1, 6, 0] rfl ?_
      cases hf
      exact hK
theorem k_Po_partnersOf_l13_run {p : Program} {l : Launch} {e : Env} {s : State} {m : MethodId} {args : Array Value} {below : List Frame} {meth : Method} {c : Code} {D : va_G} {cI cL : ClassId} {h_this h_this_numbers : Nat} {v_monomials rr x1 x2 x3 x4 : Int32} {v_numbers : Nat → Int32} (C : zC p s m args meth c b_Po_partnersOf 7 R_Po D vwCl [(cI, .int), (cL, .long)] (zA [h_this, h_this_numbers] s.heap.size)) (hr : meth.sig.returnType = some .int) {o0 : Int32} (hf : zloop (fun q => f_Po_partnersOf_l13 x1 x3 v_numbers q.1 q.2) zF (x2, x4) = some (.inl o0)) (hK : ZV p l e rm_Po_partnersOf s m args below meth c 7 D (some (.int rr)) [(h_this, .inr (1, [.ref h_this_numbers, .int v_monomials])), (h_this_numbers, .inl (cI, 2325, .inl v_numbers))] [h_this, h_this_numbers] [(h_this, .inr (1, [.ref h_this_numbers, .int v_monomials])), (h_this_numbers, .inl (cI, 2325, .inl v_numbers))] 101 [(0, .ref h_this), (1, .int x1), (2, .int o0), (3, .int x3)] []) : ZV p l e rm_Po_partnersOf s m args below meth c 7 D (some (.int rr)) [(h_this, .inr (1, [.ref h_this_numbers, .int v_monomials])), (h_this_numbers, .inl (cI, 2325, .inl v_numbers))] [h_this, h_this_numbers] [(h_this, .inr (1, [.ref h_this_numbers, .int v_monomials])), (h_this_numbers, .inl (cI, 2325, .inl v_numbers))] 13 [(0, .ref h_this), (1, .int x1), (2, .int x2), (3, .int x3), (4, .int x4)] [] :=
  zloop_run (P := fun q => ZV p l e rm_Po_partnersOf s m args below meth c 7 D (some (.int rr)) [(h_this, .inr (1, [.ref h_this_numbers, .int v_monomials])), (h_this_numbers, .inl (cI, 2325, .inl v_numbers))] [h_this, h_this_numbers] [(h_this, .inr (1, [.ref h_this_numbers, .int v_monomials])), (h_this_numbers, .inl (cI, 2325, .inl v_numbers))] 13 [(0, .ref h_this), (1, .int x1), (2, .int q.1), (3, .int x3), (4, .int q.2)] []) (K := (zcase (fun q => ZV p l e rm_Po_partnersOf s m args below meth c 7 D (some (.int rr)) [(h_this, .inr (1, [.ref h_this_numbers, .int v_monomials])), (h_this_numbers, .inl (cI, 2325, .inl v_numbers))] [h_this, h_this_numbers] [(h_this, .inr (1, [.ref h_this_numbers, .int v_monomials])), (h_this_numbers, .inl (cI, 2325, .inl v_numbers))] 101 [(0, .ref h_this), (1, .int x1), (2, .int q), (3, .int x3)] []) (fun w => w = rr))) (fun q z hz hK => k_Po_partnersOf_l13 C hr hz hK) zF _ ((.inl o0)) hf hK
theorem k_Po_partnersOf_l13_runR {p : Program} {l : Launch} {e : Env} {s : State} {m : MethodId} {args : Array Value} {below : List Frame} {meth : Method} {c : Code} {D : va_G} {cI cL : ClassId} {h_this h_this_numbers : Nat} {v_monomials rr x1 x2 x3 x4 : Int32} {v_numbers : Nat → Int32} (C : zC p s m args meth c b_Po_partnersOf 7 R_Po D vwCl [(cI, .int), (cL, .long)] (zA [h_this, h_this_numbers] s.heap.size)) (hr : meth.sig.returnType = some .int) (hf : zloop (fun q => f_Po_partnersOf_l13 x1 x3 v_numbers q.1 q.2) zF (x2, x4) = some (.inr rr)) : ZV p l e rm_Po_partnersOf s m args below meth c 7 D (some (.int rr)) [(h_this, .inr (1, [.ref h_this_numbers, .int v_monomials])), (h_this_numbers, .inl (cI, 2325, .inl v_numbers))] [h_this, h_this_numbers] [(h_this, .inr (1, [.ref h_this_numbers, .int v_monomials])), (h_this_numbers, .inl (cI, 2325, .inl v_numbers))] 13 [(0, .ref h_this), (1, .int x1), (2, .int x2), (3, .int x3), (4, .int x4)] [] :=
  zloop_run (P := fun q => ZV p l e rm_Po_partnersOf s m args below meth c 7 D (some (.int rr)) [(h_this, .inr (1, [.ref h_this_numbers, .int v_monomials])), (h_this_numbers, .inl (cI, 2325, .inl v_numbers))] [h_this, h_this_numbers] [(h_this, .inr (1, [.ref h_this_numbers, .int v_monomials])), (h_this_numbers, .inl (cI, 2325, .inl v_numbers))] 13 [(0, .ref h_this), (1, .int x1), (2, .int q.1), (3, .int x3), (4, .int q.2)] []) (K := (zcase (fun q => ZV p l e rm_Po_partnersOf s m args below meth c 7 D (some (.int rr)) [(h_this, .inr (1, [.ref h_this_numbers, .int v_monomials])), (h_this_numbers, .inl (cI, 2325, .inl v_numbers))] [h_this, h_this_numbers] [(h_this, .inr (1, [.ref h_this_numbers, .int v_monomials])), (h_this_numbers, .inl (cI, 2325, .inl v_numbers))] 101 [(0, .ref h_this), (1, .int x1), (2, .int q), (3, .int x3)] []) (fun w => w = rr))) (fun q z hz hK => k_Po_partnersOf_l13 C hr hz hK) zF _ (.inr rr) hf rfl
def f_Po_partnersOf_l4 (x1 : Int32) (v_numbers : Nat → Int32) (x2 : Int32) (x3 : Int32) : Option ((Int32 × Int32) ⊕ ((Int32) ⊕ (Int32))) :=
  if (24 : Int32) ≤ x3 then (
    some (.inr (.inl (x2))))
  else (
    zs1 (zloop (fun q => f_Po_partnersOf_l13 x1 x3 v_numbers q.1 q.2) zF (x2, (0 : Int32))) fun y_2 =>
    zlet (x3 + 1) fun y_4 =>
    some (.inl (y_2, y_4)))
set_option maxRecDepth 100000 in
set_option maxHeartbeats 4000000 in
theorem k_Po_partnersOf_l4 {p : Program} {l : Launch} {e : Env} {s : State} {m : MethodId} {args : Array Value} {below : List Frame} {meth : Method} {c : Code} {D : va_G} {cI cL : ClassId} {h_this h_this_numbers : Nat} {v_monomials rr x1 x2 x3 : Int32} {v_numbers : Nat → Int32} (C : zC p s m args meth c b_Po_partnersOf 7 R_Po D vwCl [(cI, .int), (cL, .long)] (zA [h_this, h_this_numbers] s.heap.size)) (hr : meth.sig.returnType = some .int) {z : (Int32 × Int32) ⊕ ((Int32) ⊕ (Int32))} (hf : f_Po_partnersOf_l4 x1 v_numbers x2 x3 = some z) (hK : zcase (fun q => ZV p l e rm_Po_partnersOf s m args below meth c 7 D (some (.int rr)) [(h_this, .inr (1, [.ref h_this_numbers, .int v_monomials])), (h_this_numbers, .inl (cI, 2325, .inl v_numbers))] [h_this, h_this_numbers] [(h_this, .inr (1, [.ref h_this_numbers, .int v_monomials])), (h_this_numbers, .inl (cI, 2325, .inl v_numbers))] 4 [(0, .ref h_this), (1, .int x1), (2, .int q.1), (3, .int q.2)] []) (zcase (fun q => ZV p l e rm_Po_partnersOf s m args below meth c 7 D (some (.int rr)) [(h_this, .inr (1, [.ref h_this_numbers, .int v_monomials])), (h_this_numbers, .inl (cI, 2325, .inl v_numbers))] [h_this, h_this_numbers] [(h_this, .inr (1, [.ref h_this_numbers, .int v_monomials])), (h_this_numbers, .inl (cI, 2325, .inl v_numbers))] 107 [(2, .int q)] []) (fun w => w = rr)) z) : ZV p l e rm_Po_partnersOf s m args below meth c 7 D (some (.int rr)) [(h_this, .inr (1, [.ref h_this_numbers, .int v_monomials])), (h_this_numbers, .inl (cI, 2325, .inl v_numbers))] [h_this, h_this_numbers] [(h_this, .inr (1, [.ref h_this_numbers, .int v_monomials])), (h_this_numbers, .inl (cI, 2325, .inl v_numbers))] 4 [(0, .ref h_this), (1, .int x1), (2, .int x2), (3, .int x3)] [] := by
  unfold f_Po_partnersOf_l4 at hf
  refine z_iload_n C d_Po_partnersOf_4 rfl 3 rfl ?_
  refine z_bipush (v := 24) C d_Po_partnersOf_5 (by decide) ?_
  refine z_icmp_ge (tgt := 107) C d_Po_partnersOf_7 (by decide) (fun c_1 => ?_) (fun c_1 => ?_)
  · have hf := zif_pos c_1 hf
    refine z_lv [2] rfl ?_
    cases hf
    exact hK
  · have hf := zif_neg c_1 hf
    refine z_iconst (v := 0) C d_Po_partnersOf_10 (by decide) ?_
    refine z_istore (lv' := [(4, .int (0 : Int32)), (0, .ref h_this), (1, .int x1), (2, .int x2), (3, .int x3)]) C d_Po_partnersOf_11 (by decide) rfl ?_
    refine z_lv [1, 2, 3, 4, 0] rfl ?_
    rcases zs1_elim hf with ⟨y_2, h_3, hf⟩ | ⟨w9, h_3, rfl⟩
    rotate_left
    · have hK : w9 = rr := hK
      subst hK
      exact k_Po_partnersOf_l13_runR C hr h_3
    refine k_Po_partnersOf_l13_run C hr h_3 ?_
    obtain ⟨y_4, ey_4⟩ : ∃ y : Int32, y = x3 + 1 := ⟨_, rfl⟩
    have hf := zlet_at ey_4 hf
    refine z_iinc (v := y_4) (lv' := [(3, .int y_4), (0, .ref h_this), (1, .int x1), (2, .int y_2)]) C d_Po_partnersOf_101 (k := 3) rfl (by rw [ey_4]; rfl) (by decide) rfl ?_
    refine z_goto (tgt := 4) C d_Po_partnersOf_104 (by decide) ?_
    refine z_lv [1, 2, 3, 0] rfl ?_
    cases hf
    exact hK
theorem k_Po_partnersOf_l4_run {p : Program} {l : Launch} {e : Env} {s : State} {m : MethodId} {args : Array Value} {below : List Frame} {meth : Method} {c : Code} {D : va_G} {cI cL : ClassId} {h_this h_this_numbers : Nat} {v_monomials rr x1 x2 x3 : Int32} {v_numbers : Nat → Int32} (C : zC p s m args meth c b_Po_partnersOf 7 R_Po D vwCl [(cI, .int), (cL, .long)] (zA [h_this, h_this_numbers] s.heap.size)) (hr : meth.sig.returnType = some .int) {o0 : Int32} (hf : zloop (fun q => f_Po_partnersOf_l4 x1 v_numbers q.1 q.2) zF (x2, x3) = some (.inl o0)) (hK : ZV p l e rm_Po_partnersOf s m args below meth c 7 D (some (.int rr)) [(h_this, .inr (1, [.ref h_this_numbers, .int v_monomials])), (h_this_numbers, .inl (cI, 2325, .inl v_numbers))] [h_this, h_this_numbers] [(h_this, .inr (1, [.ref h_this_numbers, .int v_monomials])), (h_this_numbers, .inl (cI, 2325, .inl v_numbers))] 107 [(2, .int o0)] []) : ZV p l e rm_Po_partnersOf s m args below meth c 7 D (some (.int rr)) [(h_this, .inr (1, [.ref h_this_numbers, .int v_monomials])), (h_this_numbers, .inl (cI, 2325, .inl v_numbers))] [h_this, h_this_numbers] [(h_this, .inr (1, [.ref h_this_numbers, .int v_monomials])), (h_this_numbers, .inl (cI, 2325, .inl v_numbers))] 4 [(0, .ref h_this), (1, .int x1), (2, .int x2), (3, .int x3)] [] :=
  zloop_run (P := fun q => ZV p l e rm_Po_partnersOf s m args below meth c 7 D (some (.int rr)) [(h_this, .inr (1, [.ref h_this_numbers, .int v_monomials])), (h_this_numbers, .inl (cI, 2325, .inl v_numbers))] [h_this, h_this_numbers] [(h_this, .inr (1, [.ref h_this_numbers, .int v_monomials])), (h_this_numbers, .inl (cI, 2325, .inl v_numbers))] 4 [(0, .ref h_this), (1, .int x1), (2, .int q.1), (3, .int q.2)] []) (K := (zcase (fun q => ZV p l e rm_Po_partnersOf s m args below meth c 7 D (some (.int rr)) [(h_this, .inr (1, [.ref h_this_numbers, .int v_monomials])), (h_this_numbers, .inl (cI, 2325, .inl v_numbers))] [h_this, h_this_numbers] [(h_this, .inr (1, [.ref h_this_numbers, .int v_monomials])), (h_this_numbers, .inl (cI, 2325, .inl v_numbers))] 107 [(2, .int q)] []) (fun w => w = rr))) (fun q z hz hK => k_Po_partnersOf_l4 C hr hz hK) zF _ ((.inl o0)) hf hK
theorem k_Po_partnersOf_l4_runR {p : Program} {l : Launch} {e : Env} {s : State} {m : MethodId} {args : Array Value} {below : List Frame} {meth : Method} {c : Code} {D : va_G} {cI cL : ClassId} {h_this h_this_numbers : Nat} {v_monomials rr x1 x2 x3 : Int32} {v_numbers : Nat → Int32} (C : zC p s m args meth c b_Po_partnersOf 7 R_Po D vwCl [(cI, .int), (cL, .long)] (zA [h_this, h_this_numbers] s.heap.size)) (hr : meth.sig.returnType = some .int) (hf : zloop (fun q => f_Po_partnersOf_l4 x1 v_numbers q.1 q.2) zF (x2, x3) = some (.inr rr)) : ZV p l e rm_Po_partnersOf s m args below meth c 7 D (some (.int rr)) [(h_this, .inr (1, [.ref h_this_numbers, .int v_monomials])), (h_this_numbers, .inl (cI, 2325, .inl v_numbers))] [h_this, h_this_numbers] [(h_this, .inr (1, [.ref h_this_numbers, .int v_monomials])), (h_this_numbers, .inl (cI, 2325, .inl v_numbers))] 4 [(0, .ref h_this), (1, .int x1), (2, .int x2), (3, .int x3)] [] :=
  zloop_run (P := fun q => ZV p l e rm_Po_partnersOf s m args below meth c 7 D (some (.int rr)) [(h_this, .inr (1, [.ref h_this_numbers, .int v_monomials])), (h_this_numbers, .inl (cI, 2325, .inl v_numbers))] [h_this, h_this_numbers] [(h_this, .inr (1, [.ref h_this_numbers, .int v_monomials])), (h_this_numbers, .inl (cI, 2325, .inl v_numbers))] 4 [(0, .ref h_this), (1, .int x1), (2, .int q.1), (3, .int q.2)] []) (K := (zcase (fun q => ZV p l e rm_Po_partnersOf s m args below meth c 7 D (some (.int rr)) [(h_this, .inr (1, [.ref h_this_numbers, .int v_monomials])), (h_this_numbers, .inl (cI, 2325, .inl v_numbers))] [h_this, h_this_numbers] [(h_this, .inr (1, [.ref h_this_numbers, .int v_monomials])), (h_this_numbers, .inl (cI, 2325, .inl v_numbers))] 107 [(2, .int q)] []) (fun w => w = rr))) (fun q z hz hK => k_Po_partnersOf_l4 C hr hz hK) zF _ (.inr rr) hf rfl
/-- PathSums$Polynomial.partnersOf(I)I -/
def f_Po_partnersOf (x1 : Int32) (v_numbers : Nat → Int32) : Option (Int32) :=
  zr1 (zloop (fun q => f_Po_partnersOf_l4 x1 v_numbers q.1 q.2) zF ((0 : Int32), (0 : Int32))) fun y_1 =>
  some (y_1)
set_option maxRecDepth 100000 in
set_option maxHeartbeats 4000000 in
theorem k_Po_partnersOf {p : Program} {l : Launch} {e : Env} {s : State} {m : MethodId} {args : Array Value} {below : List Frame} {meth : Method} {c : Code} {D : va_G} {cI cL : ClassId} {h_this h_this_numbers : Nat} {v_monomials rr x1 : Int32} {v_numbers : Nat → Int32} (C : zC p s m args meth c b_Po_partnersOf 7 R_Po D vwCl [(cI, .int), (cL, .long)] (zA [h_this, h_this_numbers] s.heap.size)) (hr : meth.sig.returnType = some .int) (hf : f_Po_partnersOf x1 v_numbers = some rr) : ZV p l e rm_Po_partnersOf s m args below meth c 7 D (some (.int rr)) [(h_this, .inr (1, [.ref h_this_numbers, .int v_monomials])), (h_this_numbers, .inl (cI, 2325, .inl v_numbers))] [h_this, h_this_numbers] [(h_this, .inr (1, [.ref h_this_numbers, .int v_monomials])), (h_this_numbers, .inl (cI, 2325, .inl v_numbers))] 0 [(0, .ref h_this), (1, .int x1)] [] := by
  unfold f_Po_partnersOf at hf
  refine z_iconst (v := 0) C d_Po_partnersOf_0 (by decide) ?_
  refine z_istore_n (lv' := [(2, .int (0 : Int32)), (0, .ref h_this), (1, .int x1)]) C d_Po_partnersOf_1 rfl (by decide) rfl ?_
  refine z_iconst (v := 0) C d_Po_partnersOf_2 (by decide) ?_
  refine z_istore_n (lv' := [(3, .int (0 : Int32)), (2, .int (0 : Int32)), (0, .ref h_this), (1, .int x1)]) C d_Po_partnersOf_3 rfl (by decide) rfl ?_
  refine z_lv [2, 3, 1, 0] rfl ?_
  rcases zr1_elim hf with ⟨y_1, h_2, hf⟩ | h_2
  rotate_left
  · exact k_Po_partnersOf_l4_runR C hr h_2
  refine k_Po_partnersOf_l4_run C hr h_2 ?_
  refine z_iload_n C d_Po_partnersOf_107 rfl 0 rfl ?_
  cases hf
  exact z_iret C hr d_Po_partnersOf_108
theorem c_Po_partnersOf {l : Launch} {D : va_G} {cI cL : ClassId} {h_this h_this_numbers : Nat} {v_monomials rr x1 : Int32} {v_numbers : Nat → Int32} (hf : f_Po_partnersOf x1 v_numbers = some rr) : zM l y_Po_partnersOf (Cond.code y_Po_partnersOf b_Po_partnersOf 7 (some .int) :: zT) rm_Po_partnersOf D vwCl [(cI, .int), (cL, .long)] [.ref h_this, .int x1] [(h_this, .inr (1, [.ref h_this_numbers, .int v_monomials])), (h_this_numbers, .inl (cI, 2325, .inl v_numbers))] [(h_this, .inr (1, [.ref h_this_numbers, .int v_monomials])), (h_this_numbers, .inl (cI, 2325, .inl v_numbers))] (some (.int rr)) :=
  zM.intro (by decide) rfl (fun _ h => List.mem_cons_of_mem _ h) (Nat.le_of_ble_eq_true rfl) (fun _ _ _ _ _ _ _ C hr _ => k_Po_partnersOf C hr hf)
end
