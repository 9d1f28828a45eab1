section
-- ===== PART A: goes FIRST, ahead of the names: the tables' words, and 'selects' of the private methods out of them =====
/-- a private method of a class that the tables say can be made, by its rows of tables_1 -/
def lw_okq (q : MethodName × Nat) : Prop := (q.1.cls ≠ "java/lang/invoke/MethodHandle" ∧ q.1.cls ≠ "java/lang/invoke/VarHandle") ∧ Cond.instantiable q.1.cls q.2 ∈ tables_1 ∧ Cond.privateMethod q.1 ∈ tables_1 ∧ Cond.instanceMethod q.1 ∈ tables_1
theorem lw_p0 : lw_okq (⟨"PrimeCertificates", "keepAnswer", "(I)I"⟩, 8) := ⟨⟨by decide +kernel, by decide +kernel⟩, List.mem_of_getElem? (i := 14) (by decide +kernel), List.mem_of_getElem? (i := 303) (by decide +kernel), List.mem_of_getElem? (i := 304) (by decide +kernel)⟩
theorem lw_p1 : lw_okq (⟨"PrimeCertificates$Sums", "setWideToProduct", "([I[I)V"⟩, 9) := ⟨⟨by decide +kernel, by decide +kernel⟩, List.mem_of_getElem? (i := 24) (by decide +kernel), List.mem_of_getElem? (i := 328) (by decide +kernel), List.mem_of_getElem? (i := 329) (by decide +kernel)⟩
theorem lw_p2 : lw_okq (⟨"PrimeCertificates$Sums", "setDivisor", "([I)V"⟩, 9) := ⟨⟨by decide +kernel, by decide +kernel⟩, List.mem_of_getElem? (i := 24) (by decide +kernel), List.mem_of_getElem? (i := 350) (by decide +kernel), List.mem_of_getElem? (i := 351) (by decide +kernel)⟩
theorem lw_p3 : lw_okq (⟨"PrimeCertificates$Sums", "shiftUp", "([II[I)V"⟩, 9) := ⟨⟨by decide +kernel, by decide +kernel⟩, List.mem_of_getElem? (i := 24) (by decide +kernel), List.mem_of_getElem? (i := 357) (by decide +kernel), List.mem_of_getElem? (i := 358) (by decide +kernel)⟩
theorem lw_p4 : lw_okq (⟨"PrimeCertificates$Sums", "setWide", "([I)V"⟩, 9) := ⟨⟨by decide +kernel, by decide +kernel⟩, List.mem_of_getElem? (i := 24) (by decide +kernel), List.mem_of_getElem? (i := 361) (by decide +kernel), List.mem_of_getElem? (i := 362) (by decide +kernel)⟩
theorem lw_p5 : lw_okq (⟨"PrimeCertificates$Sums", "reduceWide", "()V"⟩, 9) := ⟨⟨by decide +kernel, by decide +kernel⟩, List.mem_of_getElem? (i := 24) (by decide +kernel), List.mem_of_getElem? (i := 365) (by decide +kernel), List.mem_of_getElem? (i := 366) (by decide +kernel)⟩
theorem lw_p6 : lw_okq (⟨"PrimeCertificates$Sums", "guessTimes", "(I)J"⟩, 9) := ⟨⟨by decide +kernel, by decide +kernel⟩, List.mem_of_getElem? (i := 24) (by decide +kernel), List.mem_of_getElem? (i := 369) (by decide +kernel), List.mem_of_getElem? (i := 370) (by decide +kernel)⟩
theorem lw_p7 : lw_okq (⟨"PrimeCertificates$Sums", "takeAway", "(JI)Z"⟩, 9) := ⟨⟨by decide +kernel, by decide +kernel⟩, List.mem_of_getElem? (i := 24) (by decide +kernel), List.mem_of_getElem? (i := 377) (by decide +kernel), List.mem_of_getElem? (i := 378) (by decide +kernel)⟩
theorem lw_p8 : lw_okq (⟨"PrimeCertificates$Sums", "giveBack", "(I)V"⟩, 9) := ⟨⟨by decide +kernel, by decide +kernel⟩, List.mem_of_getElem? (i := 24) (by decide +kernel), List.mem_of_getElem? (i := 381) (by decide +kernel), List.mem_of_getElem? (i := 382) (by decide +kernel)⟩
theorem lw_p9 : lw_okq (⟨"PrimeCertificates$Sums", "shiftWideDown", "()V"⟩, 9) := ⟨⟨by decide +kernel, by decide +kernel⟩, List.mem_of_getElem? (i := 24) (by decide +kernel), List.mem_of_getElem? (i := 385) (by decide +kernel), List.mem_of_getElem? (i := 386) (by decide +kernel)⟩
theorem lw_p10 : lw_okq (⟨"PrimeCertificates$Checker", "readLine", "(I)Z"⟩, 13) := ⟨⟨by decide +kernel, by decide +kernel⟩, List.mem_of_getElem? (i := 137) (by decide +kernel), List.mem_of_getElem? (i := 456) (by decide +kernel), List.mem_of_getElem? (i := 457) (by decide +kernel)⟩
theorem lw_p11 : lw_okq (⟨"PrimeCertificates$Checker", "take", "()Z"⟩, 13) := ⟨⟨by decide +kernel, by decide +kernel⟩, List.mem_of_getElem? (i := 137) (by decide +kernel), List.mem_of_getElem? (i := 460) (by decide +kernel), List.mem_of_getElem? (i := 461) (by decide +kernel)⟩
theorem lw_p12 : lw_okq (⟨"PrimeCertificates$Checker", "refuse", "(II)Z"⟩, 13) := ⟨⟨by decide +kernel, by decide +kernel⟩, List.mem_of_getElem? (i := 137) (by decide +kernel), List.mem_of_getElem? (i := 464) (by decide +kernel), List.mem_of_getElem? (i := 465) (by decide +kernel)⟩
theorem lw_p13 : lw_okq (⟨"PrimeCertificates$Checker", "readSmallPrime", "([I)Z"⟩, 13) := ⟨⟨by decide +kernel, by decide +kernel⟩, List.mem_of_getElem? (i := 137) (by decide +kernel), List.mem_of_getElem? (i := 468) (by decide +kernel), List.mem_of_getElem? (i := 469) (by decide +kernel)⟩
theorem lw_p14 : lw_okq (⟨"PrimeCertificates$Checker", "refuseTaken", "(I)Z"⟩, 13) := ⟨⟨by decide +kernel, by decide +kernel⟩, List.mem_of_getElem? (i := 137) (by decide +kernel), List.mem_of_getElem? (i := 476) (by decide +kernel), List.mem_of_getElem? (i := 477) (by decide +kernel)⟩
theorem lw_p15 : lw_okq (⟨"PrimeCertificates$Checker", "readNumber", "([I)Z"⟩, 13) := ⟨⟨by decide +kernel, by decide +kernel⟩, List.mem_of_getElem? (i := 137) (by decide +kernel), List.mem_of_getElem? (i := 481) (by decide +kernel), List.mem_of_getElem? (i := 482) (by decide +kernel)⟩
def lw_privs_1 : List (MethodName × Nat) := [(⟨"PrimeCertificates", "keepAnswer", "(I)I"⟩, 8), (⟨"PrimeCertificates$Sums", "setWideToProduct", "([I[I)V"⟩, 9), (⟨"PrimeCertificates$Sums", "setDivisor", "([I)V"⟩, 9), (⟨"PrimeCertificates$Sums", "shiftUp", "([II[I)V"⟩, 9), (⟨"PrimeCertificates$Sums", "setWide", "([I)V"⟩, 9), (⟨"PrimeCertificates$Sums", "reduceWide", "()V"⟩, 9), (⟨"PrimeCertificates$Sums", "guessTimes", "(I)J"⟩, 9), (⟨"PrimeCertificates$Sums", "takeAway", "(JI)Z"⟩, 9), (⟨"PrimeCertificates$Sums", "giveBack", "(I)V"⟩, 9), (⟨"PrimeCertificates$Sums", "shiftWideDown", "()V"⟩, 9), (⟨"PrimeCertificates$Checker", "readLine", "(I)Z"⟩, 13), (⟨"PrimeCertificates$Checker", "take", "()Z"⟩, 13), (⟨"PrimeCertificates$Checker", "refuse", "(II)Z"⟩, 13), (⟨"PrimeCertificates$Checker", "readSmallPrime", "([I)Z"⟩, 13), (⟨"PrimeCertificates$Checker", "refuseTaken", "(I)Z"⟩, 13), (⟨"PrimeCertificates$Checker", "readNumber", "([I)Z"⟩, 13)]
theorem lw_r1 : ∀ q ∈ lw_privs_1, lw_okq q := List.forall_mem_cons.mpr ⟨lw_p0, List.forall_mem_cons.mpr ⟨lw_p1, List.forall_mem_cons.mpr ⟨lw_p2, List.forall_mem_cons.mpr ⟨lw_p3, List.forall_mem_cons.mpr ⟨lw_p4, List.forall_mem_cons.mpr ⟨lw_p5, List.forall_mem_cons.mpr ⟨lw_p6, List.forall_mem_cons.mpr ⟨lw_p7, List.forall_mem_cons.mpr ⟨lw_p8, List.forall_mem_cons.mpr ⟨lw_p9, List.forall_mem_cons.mpr ⟨lw_p10, List.forall_mem_cons.mpr ⟨lw_p11, List.forall_mem_cons.mpr ⟨lw_p12, List.forall_mem_cons.mpr ⟨lw_p13, List.forall_mem_cons.mpr ⟨lw_p14, List.forall_mem_cons.mpr ⟨lw_p15, fun _ h => absurd h List.not_mem_nil⟩⟩⟩⟩⟩⟩⟩⟩⟩⟩⟩⟩⟩⟩⟩⟩
theorem lw_p16 : lw_okq (⟨"PrimeCertificates$Checker", "readRoot", "([I)Z"⟩, 13) := ⟨⟨by decide +kernel, by decide +kernel⟩, List.mem_of_getElem? (i := 137) (by decide +kernel), List.mem_of_getElem? (i := 489) (by decide +kernel), List.mem_of_getElem? (i := 490) (by decide +kernel)⟩
theorem lw_p17 : lw_okq (⟨"PrimeCertificates$Checker", "readFactors", "(I)Z"⟩, 13) := ⟨⟨by decide +kernel, by decide +kernel⟩, List.mem_of_getElem? (i := 137) (by decide +kernel), List.mem_of_getElem? (i := 496) (by decide +kernel), List.mem_of_getElem? (i := 497) (by decide +kernel)⟩
theorem lw_p18 : lw_okq (⟨"PrimeCertificates$Checker", "readFactorLine", "(II)Z"⟩, 13) := ⟨⟨by decide +kernel, by decide +kernel⟩, List.mem_of_getElem? (i := 137) (by decide +kernel), List.mem_of_getElem? (i := 500) (by decide +kernel), List.mem_of_getElem? (i := 501) (by decide +kernel)⟩
theorem lw_p19 : lw_okq (⟨"PrimeCertificates$Checker", "factorNumber", "(I)[I"⟩, 13) := ⟨⟨by decide +kernel, by decide +kernel⟩, List.mem_of_getElem? (i := 137) (by decide +kernel), List.mem_of_getElem? (i := 504) (by decide +kernel), List.mem_of_getElem? (i := 505) (by decide +kernel)⟩
theorem lw_p20 : lw_okq (⟨"PrimeCertificates$Checker", "readExponent", "(I)Z"⟩, 13) := ⟨⟨by decide +kernel, by decide +kernel⟩, List.mem_of_getElem? (i := 137) (by decide +kernel), List.mem_of_getElem? (i := 509) (by decide +kernel), List.mem_of_getElem? (i := 510) (by decide +kernel)⟩
theorem lw_p21 : lw_okq (⟨"PrimeCertificates$Checker", "productHolds", "()Z"⟩, 13) := ⟨⟨by decide +kernel, by decide +kernel⟩, List.mem_of_getElem? (i := 137) (by decide +kernel), List.mem_of_getElem? (i := 519) (by decide +kernel), List.mem_of_getElem? (i := 520) (by decide +kernel)⟩
theorem lw_p22 : lw_okq (⟨"PrimeCertificates$Checker", "multiplyFactors", "()Z"⟩, 13) := ⟨⟨by decide +kernel, by decide +kernel⟩, List.mem_of_getElem? (i := 137) (by decide +kernel), List.mem_of_getElem? (i := 523) (by decide +kernel), List.mem_of_getElem? (i := 524) (by decide +kernel)⟩
theorem lw_p23 : lw_okq (⟨"PrimeCertificates$Checker", "rootHolds", "()Z"⟩, 13) := ⟨⟨by decide +kernel, by decide +kernel⟩, List.mem_of_getElem? (i := 137) (by decide +kernel), List.mem_of_getElem? (i := 537) (by decide +kernel), List.mem_of_getElem? (i := 538) (by decide +kernel)⟩
theorem lw_p24 : lw_okq (⟨"PrimeCertificates$Checker", "factorPlace", "(I)I"⟩, 13) := ⟨⟨by decide +kernel, by decide +kernel⟩, List.mem_of_getElem? (i := 137) (by decide +kernel), List.mem_of_getElem? (i := 554) (by decide +kernel), List.mem_of_getElem? (i := 555) (by decide +kernel)⟩
theorem lw_p25 : lw_okq (⟨"PrimeCertificates$Checker", "witnessesHold", "()Z"⟩, 13) := ⟨⟨by decide +kernel, by decide +kernel⟩, List.mem_of_getElem? (i := 137) (by decide +kernel), List.mem_of_getElem? (i := 558) (by decide +kernel), List.mem_of_getElem? (i := 559) (by decide +kernel)⟩
theorem lw_p26 : lw_okq (⟨"PrimeCertificates$Maker", "planSmallLine", "([I)Z"⟩, 11) := ⟨⟨by decide +kernel, by decide +kernel⟩, List.mem_of_getElem? (i := 211) (by decide +kernel), List.mem_of_getElem? (i := 595) (by decide +kernel), List.mem_of_getElem? (i := 596) (by decide +kernel)⟩
theorem lw_p27 : lw_okq (⟨"PrimeCertificates$Maker", "hasRoom", "(I)Z"⟩, 11) := ⟨⟨by decide +kernel, by decide +kernel⟩, List.mem_of_getElem? (i := 211) (by decide +kernel), List.mem_of_getElem? (i := 600) (by decide +kernel), List.mem_of_getElem? (i := 601) (by decide +kernel)⟩
theorem lw_p28 : lw_okq (⟨"PrimeCertificates$Maker", "writeSmallLines", "()I"⟩, 11) := ⟨⟨by decide +kernel, by decide +kernel⟩, List.mem_of_getElem? (i := 211) (by decide +kernel), List.mem_of_getElem? (i := 605) (by decide +kernel), List.mem_of_getElem? (i := 606) (by decide +kernel)⟩
theorem lw_p29 : lw_okq (⟨"PrimeCertificates$Maker", "findFactors", "()Z"⟩, 11) := ⟨⟨by decide +kernel, by decide +kernel⟩, List.mem_of_getElem? (i := 211) (by decide +kernel), List.mem_of_getElem? (i := 612) (by decide +kernel), List.mem_of_getElem? (i := 613) (by decide +kernel)⟩
theorem lw_p30 : lw_okq (⟨"PrimeCertificates$Maker", "divideOut", "([I)I"⟩, 11) := ⟨⟨by decide +kernel, by decide +kernel⟩, List.mem_of_getElem? (i := 211) (by decide +kernel), List.mem_of_getElem? (i := 617) (by decide +kernel), List.mem_of_getElem? (i := 618) (by decide +kernel)⟩
theorem lw_p31 : lw_okq (⟨"PrimeCertificates$Maker", "insertPrime", "(I)Z"⟩, 11) := ⟨⟨by decide +kernel, by decide +kernel⟩, List.mem_of_getElem? (i := 211) (by decide +kernel), List.mem_of_getElem? (i := 623) (by decide +kernel), List.mem_of_getElem? (i := 624) (by decide +kernel)⟩
def lw_privs_2 : List (MethodName × Nat) := [(⟨"PrimeCertificates$Checker", "readRoot", "([I)Z"⟩, 13), (⟨"PrimeCertificates$Checker", "readFactors", "(I)Z"⟩, 13), (⟨"PrimeCertificates$Checker", "readFactorLine", "(II)Z"⟩, 13), (⟨"PrimeCertificates$Checker", "factorNumber", "(I)[I"⟩, 13), (⟨"PrimeCertificates$Checker", "readExponent", "(I)Z"⟩, 13), (⟨"PrimeCertificates$Checker", "productHolds", "()Z"⟩, 13), (⟨"PrimeCertificates$Checker", "multiplyFactors", "()Z"⟩, 13), (⟨"PrimeCertificates$Checker", "rootHolds", "()Z"⟩, 13), (⟨"PrimeCertificates$Checker", "factorPlace", "(I)I"⟩, 13), (⟨"PrimeCertificates$Checker", "witnessesHold", "()Z"⟩, 13), (⟨"PrimeCertificates$Maker", "planSmallLine", "([I)Z"⟩, 11), (⟨"PrimeCertificates$Maker", "hasRoom", "(I)Z"⟩, 11), (⟨"PrimeCertificates$Maker", "writeSmallLines", "()I"⟩, 11), (⟨"PrimeCertificates$Maker", "findFactors", "()Z"⟩, 11), (⟨"PrimeCertificates$Maker", "divideOut", "([I)I"⟩, 11), (⟨"PrimeCertificates$Maker", "insertPrime", "(I)Z"⟩, 11)]
theorem lw_r2 : ∀ q ∈ lw_privs_2, lw_okq q := List.forall_mem_cons.mpr ⟨lw_p16, List.forall_mem_cons.mpr ⟨lw_p17, List.forall_mem_cons.mpr ⟨lw_p18, List.forall_mem_cons.mpr ⟨lw_p19, List.forall_mem_cons.mpr ⟨lw_p20, List.forall_mem_cons.mpr ⟨lw_p21, List.forall_mem_cons.mpr ⟨lw_p22, List.forall_mem_cons.mpr ⟨lw_p23, List.forall_mem_cons.mpr ⟨lw_p24, List.forall_mem_cons.mpr ⟨lw_p25, List.forall_mem_cons.mpr ⟨lw_p26, List.forall_mem_cons.mpr ⟨lw_p27, List.forall_mem_cons.mpr ⟨lw_p28, List.forall_mem_cons.mpr ⟨lw_p29, List.forall_mem_cons.mpr ⟨lw_p30, List.forall_mem_cons.mpr ⟨lw_p31, fun _ h => absurd h List.not_mem_nil⟩⟩⟩⟩⟩⟩⟩⟩⟩⟩⟩⟩⟩⟩⟩⟩
theorem lw_p32 : lw_okq (⟨"PrimeCertificates$Maker", "insertFactor", "(II)Z"⟩, 11) := ⟨⟨by decide +kernel, by decide +kernel⟩, List.mem_of_getElem? (i := 211) (by decide +kernel), List.mem_of_getElem? (i := 627) (by decide +kernel), List.mem_of_getElem? (i := 628) (by decide +kernel)⟩
theorem lw_p33 : lw_okq (⟨"PrimeCertificates$Maker", "factorNumber", "(I)[I"⟩, 11) := ⟨⟨by decide +kernel, by decide +kernel⟩, List.mem_of_getElem? (i := 211) (by decide +kernel), List.mem_of_getElem? (i := 631) (by decide +kernel), List.mem_of_getElem? (i := 632) (by decide +kernel)⟩
theorem lw_p34 : lw_okq (⟨"PrimeCertificates$Maker", "lastLineInts", "(Z)I"⟩, 11) := ⟨⟨by decide +kernel, by decide +kernel⟩, List.mem_of_getElem? (i := 211) (by decide +kernel), List.mem_of_getElem? (i := 637) (by decide +kernel), List.mem_of_getElem? (i := 638) (by decide +kernel)⟩
theorem lw_p35 : lw_okq (⟨"PrimeCertificates$Maker", "factorsSuffice", "()Z"⟩, 11) := ⟨⟨by decide +kernel, by decide +kernel⟩, List.mem_of_getElem? (i := 211) (by decide +kernel), List.mem_of_getElem? (i := 642) (by decide +kernel), List.mem_of_getElem? (i := 643) (by decide +kernel)⟩
theorem lw_p36 : lw_okq (⟨"PrimeCertificates$Maker", "findRoot", "()Z"⟩, 11) := ⟨⟨by decide +kernel, by decide +kernel⟩, List.mem_of_getElem? (i := 211) (by decide +kernel), List.mem_of_getElem? (i := 647) (by decide +kernel), List.mem_of_getElem? (i := 648) (by decide +kernel)⟩
theorem lw_p37 : lw_okq (⟨"PrimeCertificates$Maker", "findWitnesses", "()Z"⟩, 11) := ⟨⟨by decide +kernel, by decide +kernel⟩, List.mem_of_getElem? (i := 211) (by decide +kernel), List.mem_of_getElem? (i := 653) (by decide +kernel), List.mem_of_getElem? (i := 654) (by decide +kernel)⟩
theorem lw_p38 : lw_okq (⟨"PrimeCertificates$Maker", "writeLastLine", "(Z)I"⟩, 11) := ⟨⟨by decide +kernel, by decide +kernel⟩, List.mem_of_getElem? (i := 211) (by decide +kernel), List.mem_of_getElem? (i := 661) (by decide +kernel), List.mem_of_getElem? (i := 662) (by decide +kernel)⟩
theorem lw_p39 : lw_okq (⟨"PrimeCertificatesModel", "set", "(IJ)V"⟩, 12) := ⟨⟨by decide +kernel, by decide +kernel⟩, List.mem_of_getElem? (i := 665) (by decide +kernel), List.mem_of_getElem? (i := 671) (by decide +kernel), List.mem_of_getElem? (i := 672) (by decide +kernel)⟩
theorem lw_p40 : lw_okq (⟨"PrimeCertificatesModel", "copy", "(II)V"⟩, 12) := ⟨⟨by decide +kernel, by decide +kernel⟩, List.mem_of_getElem? (i := 665) (by decide +kernel), List.mem_of_getElem? (i := 732) (by decide +kernel), List.mem_of_getElem? (i := 733) (by decide +kernel)⟩
theorem lw_p41 : lw_okq (⟨"PrimeCertificatesModel", "raise", "(II)V"⟩, 12) := ⟨⟨by decide +kernel, by decide +kernel⟩, List.mem_of_getElem? (i := 665) (by decide +kernel), List.mem_of_getElem? (i := 736) (by decide +kernel), List.mem_of_getElem? (i := 737) (by decide +kernel)⟩
theorem lw_p42 : lw_okq (⟨"PrimeCertificatesModel", "give", "(II)I"⟩, 12) := ⟨⟨by decide +kernel, by decide +kernel⟩, List.mem_of_getElem? (i := 665) (by decide +kernel), List.mem_of_getElem? (i := 740) (by decide +kernel), List.mem_of_getElem? (i := 741) (by decide +kernel)⟩
theorem lw_p43 : lw_okq (⟨"PrimeCertificatesModel", "fits", "(I)Z"⟩, 12) := ⟨⟨by decide +kernel, by decide +kernel⟩, List.mem_of_getElem? (i := 665) (by decide +kernel), List.mem_of_getElem? (i := 744) (by decide +kernel), List.mem_of_getElem? (i := 745) (by decide +kernel)⟩
theorem lw_p44 : lw_okq (⟨"PrimeCertificatesModel", "lengthOf", "(I)I"⟩, 12) := ⟨⟨by decide +kernel, by decide +kernel⟩, List.mem_of_getElem? (i := 665) (by decide +kernel), List.mem_of_getElem? (i := 748) (by decide +kernel), List.mem_of_getElem? (i := 749) (by decide +kernel)⟩
theorem lw_p45 : lw_okq (⟨"PrimeCertificatesModel", "order", "(II)I"⟩, 12) := ⟨⟨by decide +kernel, by decide +kernel⟩, List.mem_of_getElem? (i := 665) (by decide +kernel), List.mem_of_getElem? (i := 756) (by decide +kernel), List.mem_of_getElem? (i := 757) (by decide +kernel)⟩
theorem lw_p46 : lw_okq (⟨"PrimeCertificatesModel", "lower", "(II)V"⟩, 12) := ⟨⟨by decide +kernel, by decide +kernel⟩, List.mem_of_getElem? (i := 665) (by decide +kernel), List.mem_of_getElem? (i := 760) (by decide +kernel), List.mem_of_getElem? (i := 761) (by decide +kernel)⟩
theorem lw_p47 : lw_okq (⟨"PrimeCertificatesModel", "times", "(III)V"⟩, 12) := ⟨⟨by decide +kernel, by decide +kernel⟩, List.mem_of_getElem? (i := 665) (by decide +kernel), List.mem_of_getElem? (i := 768) (by decide +kernel), List.mem_of_getElem? (i := 769) (by decide +kernel)⟩
def lw_privs_3 : List (MethodName × Nat) := [(⟨"PrimeCertificates$Maker", "insertFactor", "(II)Z"⟩, 11), (⟨"PrimeCertificates$Maker", "factorNumber", "(I)[I"⟩, 11), (⟨"PrimeCertificates$Maker", "lastLineInts", "(Z)I"⟩, 11), (⟨"PrimeCertificates$Maker", "factorsSuffice", "()Z"⟩, 11), (⟨"PrimeCertificates$Maker", "findRoot", "()Z"⟩, 11), (⟨"PrimeCertificates$Maker", "findWitnesses", "()Z"⟩, 11), (⟨"PrimeCertificates$Maker", "writeLastLine", "(Z)I"⟩, 11), (⟨"PrimeCertificatesModel", "set", "(IJ)V"⟩, 12), (⟨"PrimeCertificatesModel", "copy", "(II)V"⟩, 12), (⟨"PrimeCertificatesModel", "raise", "(II)V"⟩, 12), (⟨"PrimeCertificatesModel", "give", "(II)I"⟩, 12), (⟨"PrimeCertificatesModel", "fits", "(I)Z"⟩, 12), (⟨"PrimeCertificatesModel", "lengthOf", "(I)I"⟩, 12), (⟨"PrimeCertificatesModel", "order", "(II)I"⟩, 12), (⟨"PrimeCertificatesModel", "lower", "(II)V"⟩, 12), (⟨"PrimeCertificatesModel", "times", "(III)V"⟩, 12)]
theorem lw_r3 : ∀ q ∈ lw_privs_3, lw_okq q := List.forall_mem_cons.mpr ⟨lw_p32, List.forall_mem_cons.mpr ⟨lw_p33, List.forall_mem_cons.mpr ⟨lw_p34, List.forall_mem_cons.mpr ⟨lw_p35, List.forall_mem_cons.mpr ⟨lw_p36, List.forall_mem_cons.mpr ⟨lw_p37, List.forall_mem_cons.mpr ⟨lw_p38, List.forall_mem_cons.mpr ⟨lw_p39, List.forall_mem_cons.mpr ⟨lw_p40, List.forall_mem_cons.mpr ⟨lw_p41, List.forall_mem_cons.mpr ⟨lw_p42, List.forall_mem_cons.mpr ⟨lw_p43, List.forall_mem_cons.mpr ⟨lw_p44, List.forall_mem_cons.mpr ⟨lw_p45, List.forall_mem_cons.mpr ⟨lw_p46, List.forall_mem_cons.mpr ⟨lw_p47, fun _ h => absurd h List.not_mem_nil⟩⟩⟩⟩⟩⟩⟩⟩⟩⟩⟩⟩⟩⟩⟩⟩
theorem lw_p48 : lw_okq (⟨"PrimeCertificatesModel", "isZero", "(I)Z"⟩, 12) := ⟨⟨by decide +kernel, by decide +kernel⟩, List.mem_of_getElem? (i := 665) (by decide +kernel), List.mem_of_getElem? (i := 776) (by decide +kernel), List.mem_of_getElem? (i := 777) (by decide +kernel)⟩
theorem lw_p49 : lw_okq (⟨"PrimeCertificatesModel", "part", "(IIII)V"⟩, 12) := ⟨⟨by decide +kernel, by decide +kernel⟩, List.mem_of_getElem? (i := 665) (by decide +kernel), List.mem_of_getElem? (i := 780) (by decide +kernel), List.mem_of_getElem? (i := 781) (by decide +kernel)⟩
theorem lw_p50 : lw_okq (⟨"PrimeCertificatesModel", "guess", "(IIII)I"⟩, 12) := ⟨⟨by decide +kernel, by decide +kernel⟩, List.mem_of_getElem? (i := 665) (by decide +kernel), List.mem_of_getElem? (i := 784) (by decide +kernel), List.mem_of_getElem? (i := 785) (by decide +kernel)⟩
theorem lw_p51 : lw_okq (⟨"PrimeCertificatesModel", "away", "(IIIII)V"⟩, 12) := ⟨⟨by decide +kernel, by decide +kernel⟩, List.mem_of_getElem? (i := 665) (by decide +kernel), List.mem_of_getElem? (i := 788) (by decide +kernel), List.mem_of_getElem? (i := 789) (by decide +kernel)⟩
theorem lw_p52 : lw_okq (⟨"PrimeCertificatesModel", "isOver", "(IIII)Z"⟩, 12) := ⟨⟨by decide +kernel, by decide +kernel⟩, List.mem_of_getElem? (i := 665) (by decide +kernel), List.mem_of_getElem? (i := 792) (by decide +kernel), List.mem_of_getElem? (i := 793) (by decide +kernel)⟩
theorem lw_p53 : lw_okq (⟨"PrimeCertificatesModel", "raiseTo", "(IIII)V"⟩, 12) := ⟨⟨by decide +kernel, by decide +kernel⟩, List.mem_of_getElem? (i := 665) (by decide +kernel), List.mem_of_getElem? (i := 800) (by decide +kernel), List.mem_of_getElem? (i := 801) (by decide +kernel)⟩
theorem lw_p54 : lw_okq (⟨"PrimeCertificatesModel", "bit", "(II)I"⟩, 12) := ⟨⟨by decide +kernel, by decide +kernel⟩, List.mem_of_getElem? (i := 665) (by decide +kernel), List.mem_of_getElem? (i := 804) (by decide +kernel), List.mem_of_getElem? (i := 805) (by decide +kernel)⟩
theorem lw_p55 : lw_okq (⟨"PrimeCertificatesModel", "divisor", "(III)V"⟩, 12) := ⟨⟨by decide +kernel, by decide +kernel⟩, List.mem_of_getElem? (i := 665) (by decide +kernel), List.mem_of_getElem? (i := 812) (by decide +kernel), List.mem_of_getElem? (i := 813) (by decide +kernel)⟩
theorem lw_p56 : lw_okq (⟨"PrimeCertificatesModel", "isGood", "()Z"⟩, 12) := ⟨⟨by decide +kernel, by decide +kernel⟩, List.mem_of_getElem? (i := 665) (by decide +kernel), List.mem_of_getElem? (i := 840) (by decide +kernel), List.mem_of_getElem? (i := 841) (by decide +kernel)⟩
theorem lw_p57 : lw_okq (⟨"PrimeCertificatesModel", "fail", "(II)V"⟩, 12) := ⟨⟨by decide +kernel, by decide +kernel⟩, List.mem_of_getElem? (i := 665) (by decide +kernel), List.mem_of_getElem? (i := 844) (by decide +kernel), List.mem_of_getElem? (i := 845) (by decide +kernel)⟩
theorem lw_p58 : lw_okq (⟨"PrimeCertificatesModel", "nextIn", "(II)I"⟩, 12) := ⟨⟨by decide +kernel, by decide +kernel⟩, List.mem_of_getElem? (i := 665) (by decide +kernel), List.mem_of_getElem? (i := 848) (by decide +kernel), List.mem_of_getElem? (i := 849) (by decide +kernel)⟩
theorem lw_p59 : lw_okq (⟨"PrimeCertificatesModel", "next", "()I"⟩, 12) := ⟨⟨by decide +kernel, by decide +kernel⟩, List.mem_of_getElem? (i := 665) (by decide +kernel), List.mem_of_getElem? (i := 852) (by decide +kernel), List.mem_of_getElem? (i := 853) (by decide +kernel)⟩
theorem lw_p60 : lw_okq (⟨"PrimeCertificatesModel", "lineOne", "()V"⟩, 12) := ⟨⟨by decide +kernel, by decide +kernel⟩, List.mem_of_getElem? (i := 665) (by decide +kernel), List.mem_of_getElem? (i := 856) (by decide +kernel), List.mem_of_getElem? (i := 857) (by decide +kernel)⟩
theorem lw_p61 : lw_okq (⟨"PrimeCertificatesModel", "lineTwo", "()V"⟩, 12) := ⟨⟨by decide +kernel, by decide +kernel⟩, List.mem_of_getElem? (i := 665) (by decide +kernel), List.mem_of_getElem? (i := 863) (by decide +kernel), List.mem_of_getElem? (i := 864) (by decide +kernel)⟩
theorem lw_p62 : lw_okq (⟨"PrimeCertificatesModel", "number", "()V"⟩, 12) := ⟨⟨by decide +kernel, by decide +kernel⟩, List.mem_of_getElem? (i := 665) (by decide +kernel), List.mem_of_getElem? (i := 867) (by decide +kernel), List.mem_of_getElem? (i := 868) (by decide +kernel)⟩
theorem lw_p63 : lw_okq (⟨"PrimeCertificatesModel", "witness", "(I)V"⟩, 12) := ⟨⟨by decide +kernel, by decide +kernel⟩, List.mem_of_getElem? (i := 665) (by decide +kernel), List.mem_of_getElem? (i := 872) (by decide +kernel), List.mem_of_getElem? (i := 873) (by decide +kernel)⟩
def lw_privs_4 : List (MethodName × Nat) := [(⟨"PrimeCertificatesModel", "isZero", "(I)Z"⟩, 12), (⟨"PrimeCertificatesModel", "part", "(IIII)V"⟩, 12), (⟨"PrimeCertificatesModel", "guess", "(IIII)I"⟩, 12), (⟨"PrimeCertificatesModel", "away", "(IIIII)V"⟩, 12), (⟨"PrimeCertificatesModel", "isOver", "(IIII)Z"⟩, 12), (⟨"PrimeCertificatesModel", "raiseTo", "(IIII)V"⟩, 12), (⟨"PrimeCertificatesModel", "bit", "(II)I"⟩, 12), (⟨"PrimeCertificatesModel", "divisor", "(III)V"⟩, 12), (⟨"PrimeCertificatesModel", "isGood", "()Z"⟩, 12), (⟨"PrimeCertificatesModel", "fail", "(II)V"⟩, 12), (⟨"PrimeCertificatesModel", "nextIn", "(II)I"⟩, 12), (⟨"PrimeCertificatesModel", "next", "()I"⟩, 12), (⟨"PrimeCertificatesModel", "lineOne", "()V"⟩, 12), (⟨"PrimeCertificatesModel", "lineTwo", "()V"⟩, 12), (⟨"PrimeCertificatesModel", "number", "()V"⟩, 12), (⟨"PrimeCertificatesModel", "witness", "(I)V"⟩, 12)]
theorem lw_r4 : ∀ q ∈ lw_privs_4, lw_okq q := List.forall_mem_cons.mpr ⟨lw_p48, List.forall_mem_cons.mpr ⟨lw_p49, List.forall_mem_cons.mpr ⟨lw_p50, List.forall_mem_cons.mpr ⟨lw_p51, List.forall_mem_cons.mpr ⟨lw_p52, List.forall_mem_cons.mpr ⟨lw_p53, List.forall_mem_cons.mpr ⟨lw_p54, List.forall_mem_cons.mpr ⟨lw_p55, List.forall_mem_cons.mpr ⟨lw_p56, List.forall_mem_cons.mpr ⟨lw_p57, List.forall_mem_cons.mpr ⟨lw_p58, List.forall_mem_cons.mpr ⟨lw_p59, List.forall_mem_cons.mpr ⟨lw_p60, List.forall_mem_cons.mpr ⟨lw_p61, List.forall_mem_cons.mpr ⟨lw_p62, List.forall_mem_cons.mpr ⟨lw_p63, fun _ h => absurd h List.not_mem_nil⟩⟩⟩⟩⟩⟩⟩⟩⟩⟩⟩⟩⟩⟩⟩⟩
theorem lw_p64 : lw_okq (⟨"PrimeCertificatesModel", "factors", "(I)V"⟩, 12) := ⟨⟨by decide +kernel, by decide +kernel⟩, List.mem_of_getElem? (i := 665) (by decide +kernel), List.mem_of_getElem? (i := 876) (by decide +kernel), List.mem_of_getElem? (i := 877) (by decide +kernel)⟩
theorem lw_p65 : lw_okq (⟨"PrimeCertificatesModel", "product", "(II)Z"⟩, 12) := ⟨⟨by decide +kernel, by decide +kernel⟩, List.mem_of_getElem? (i := 665) (by decide +kernel), List.mem_of_getElem? (i := 880) (by decide +kernel), List.mem_of_getElem? (i := 881) (by decide +kernel)⟩
theorem lw_p66 : lw_okq (⟨"PrimeCertificatesModel", "isWhole", "()Z"⟩, 12) := ⟨⟨by decide +kernel, by decide +kernel⟩, List.mem_of_getElem? (i := 665) (by decide +kernel), List.mem_of_getElem? (i := 884) (by decide +kernel), List.mem_of_getElem? (i := 885) (by decide +kernel)⟩
theorem lw_p67 : lw_okq (⟨"PrimeCertificatesModel", "isOne", "(I)Z"⟩, 12) := ⟨⟨by decide +kernel, by decide +kernel⟩, List.mem_of_getElem? (i := 665) (by decide +kernel), List.mem_of_getElem? (i := 888) (by decide +kernel), List.mem_of_getElem? (i := 889) (by decide +kernel)⟩
theorem lw_p68 : lw_okq (⟨"PrimeCertificatesModel", "isRight", "(IZ)Z"⟩, 12) := ⟨⟨by decide +kernel, by decide +kernel⟩, List.mem_of_getElem? (i := 665) (by decide +kernel), List.mem_of_getElem? (i := 892) (by decide +kernel), List.mem_of_getElem? (i := 893) (by decide +kernel)⟩
theorem lw_p69 : lw_okq (⟨"PrimeCertificatesModel", "lineThree", "()V"⟩, 12) := ⟨⟨by decide +kernel, by decide +kernel⟩, List.mem_of_getElem? (i := 665) (by decide +kernel), List.mem_of_getElem? (i := 896) (by decide +kernel), List.mem_of_getElem? (i := 897) (by decide +kernel)⟩
theorem lw_p70 : lw_okq (⟨"PrimeCertificatesModel", "lineOf", "(I)I"⟩, 12) := ⟨⟨by decide +kernel, by decide +kernel⟩, List.mem_of_getElem? (i := 665) (by decide +kernel), List.mem_of_getElem? (i := 913) (by decide +kernel), List.mem_of_getElem? (i := 914) (by decide +kernel)⟩
theorem lw_p71 : lw_okq (⟨"PrimeCertificatesModel", "make", "()Z"⟩, 12) := ⟨⟨by decide +kernel, by decide +kernel⟩, List.mem_of_getElem? (i := 665) (by decide +kernel), List.mem_of_getElem? (i := 917) (by decide +kernel), List.mem_of_getElem? (i := 918) (by decide +kernel)⟩
theorem lw_p72 : lw_okq (⟨"PrimeCertificatesModel", "sayOne", "(I)Z"⟩, 12) := ⟨⟨by decide +kernel, by decide +kernel⟩, List.mem_of_getElem? (i := 665) (by decide +kernel), List.mem_of_getElem? (i := 921) (by decide +kernel), List.mem_of_getElem? (i := 922) (by decide +kernel)⟩
theorem lw_p73 : lw_okq (⟨"PrimeCertificatesModel", "find", "()Z"⟩, 12) := ⟨⟨by decide +kernel, by decide +kernel⟩, List.mem_of_getElem? (i := 665) (by decide +kernel), List.mem_of_getElem? (i := 926) (by decide +kernel), List.mem_of_getElem? (i := 927) (by decide +kernel)⟩
theorem lw_p74 : lw_okq (⟨"PrimeCertificatesModel", "often", "(I)I"⟩, 12) := ⟨⟨by decide +kernel, by decide +kernel⟩, List.mem_of_getElem? (i := 665) (by decide +kernel), List.mem_of_getElem? (i := 930) (by decide +kernel), List.mem_of_getElem? (i := 931) (by decide +kernel)⟩
theorem lw_p75 : lw_okq (⟨"PrimeCertificatesModel", "sort", "(I)V"⟩, 12) := ⟨⟨by decide +kernel, by decide +kernel⟩, List.mem_of_getElem? (i := 665) (by decide +kernel), List.mem_of_getElem? (i := 935) (by decide +kernel), List.mem_of_getElem? (i := 936) (by decide +kernel)⟩
theorem lw_p76 : lw_okq (⟨"PrimeCertificatesModel", "wholeWitness", "()I"⟩, 12) := ⟨⟨by decide +kernel, by decide +kernel⟩, List.mem_of_getElem? (i := 665) (by decide +kernel), List.mem_of_getElem? (i := 939) (by decide +kernel), List.mem_of_getElem? (i := 940) (by decide +kernel)⟩
theorem lw_p77 : lw_okq (⟨"PrimeCertificatesModel", "sayLine", "(II)Z"⟩, 12) := ⟨⟨by decide +kernel, by decide +kernel⟩, List.mem_of_getElem? (i := 665) (by decide +kernel), List.mem_of_getElem? (i := 943) (by decide +kernel), List.mem_of_getElem? (i := 944) (by decide +kernel)⟩
theorem lw_p78 : lw_okq (⟨"PrimeCertificatesModel", "partWitnesses", "()Z"⟩, 12) := ⟨⟨by decide +kernel, by decide +kernel⟩, List.mem_of_getElem? (i := 665) (by decide +kernel), List.mem_of_getElem? (i := 947) (by decide +kernel), List.mem_of_getElem? (i := 948) (by decide +kernel)⟩
def lw_privs_5 : List (MethodName × Nat) := [(⟨"PrimeCertificatesModel", "factors", "(I)V"⟩, 12), (⟨"PrimeCertificatesModel", "product", "(II)Z"⟩, 12), (⟨"PrimeCertificatesModel", "isWhole", "()Z"⟩, 12), (⟨"PrimeCertificatesModel", "isOne", "(I)Z"⟩, 12), (⟨"PrimeCertificatesModel", "isRight", "(IZ)Z"⟩, 12), (⟨"PrimeCertificatesModel", "lineThree", "()V"⟩, 12), (⟨"PrimeCertificatesModel", "lineOf", "(I)I"⟩, 12), (⟨"PrimeCertificatesModel", "make", "()Z"⟩, 12), (⟨"PrimeCertificatesModel", "sayOne", "(I)Z"⟩, 12), (⟨"PrimeCertificatesModel", "find", "()Z"⟩, 12), (⟨"PrimeCertificatesModel", "often", "(I)I"⟩, 12), (⟨"PrimeCertificatesModel", "sort", "(I)V"⟩, 12), (⟨"PrimeCertificatesModel", "wholeWitness", "()I"⟩, 12), (⟨"PrimeCertificatesModel", "sayLine", "(II)Z"⟩, 12), (⟨"PrimeCertificatesModel", "partWitnesses", "()Z"⟩, 12)]
theorem lw_r5 : ∀ q ∈ lw_privs_5, lw_okq q := List.forall_mem_cons.mpr ⟨lw_p64, List.forall_mem_cons.mpr ⟨lw_p65, List.forall_mem_cons.mpr ⟨lw_p66, List.forall_mem_cons.mpr ⟨lw_p67, List.forall_mem_cons.mpr ⟨lw_p68, List.forall_mem_cons.mpr ⟨lw_p69, List.forall_mem_cons.mpr ⟨lw_p70, List.forall_mem_cons.mpr ⟨lw_p71, List.forall_mem_cons.mpr ⟨lw_p72, List.forall_mem_cons.mpr ⟨lw_p73, List.forall_mem_cons.mpr ⟨lw_p74, List.forall_mem_cons.mpr ⟨lw_p75, List.forall_mem_cons.mpr ⟨lw_p76, List.forall_mem_cons.mpr ⟨lw_p77, List.forall_mem_cons.mpr ⟨lw_p78, fun _ h => absurd h List.not_mem_nil⟩⟩⟩⟩⟩⟩⟩⟩⟩⟩⟩⟩⟩⟩⟩
def lw_privs : List (MethodName × Nat) := lw_privs_1 ++ (lw_privs_2 ++ (lw_privs_3 ++ (lw_privs_4 ++ (lw_privs_5))))
def lw_tbl : List Cond := k2_sels lw_privs ++ tables_1
theorem lw_privs_ok : ∀ q ∈ lw_privs, lw_okq q := by
  show ∀ q ∈ lw_privs_1 ++ (lw_privs_2 ++ (lw_privs_3 ++ (lw_privs_4 ++ (lw_privs_5)))), lw_okq q
  exact List.forall_mem_append.mpr ⟨lw_r1, List.forall_mem_append.mpr ⟨lw_r2, List.forall_mem_append.mpr ⟨lw_r3, List.forall_mem_append.mpr ⟨lw_r4, lw_r5⟩⟩⟩⟩
end
section
/-! tables of the program: printed by wip/gen/tab.py from the listing -/
abbrev dzIns : Type := Jvm.ClassFile.Instr
abbrev dzOp : Type := dzIns × Value × List (Int32 × Nat) × List Nat
abbrev dzL : Type := List (Nat × Value)
def dzFnd {α : Type} : List (Nat × α) → Nat → Option α
  | [], _ => none
  | (k, a) :: r, i => match Nat.beq k i with
    | true => some a
    | false => dzFnd r i
def dzMem : List Nat → Nat → Bool
  | [], _ => false
  | k :: r, i => match Nat.beq k i with
    | true => true
    | false => dzMem r i
-- 0: PrimeCertificates$Sums.<init>:()V
def zo_0 : List (Nat × Nat × dzOp) := [
  (0, 1, .aload 0, .null, [], []),
  (1, 4, .invokespecial 0, .null, [], []),
  (4, 5, .aload 0, .null, [], []),
  (5, 7, .nop, .int (17 : Int32), [], []),
  (7, 9, .newarray .int, .null, [], []),
  (9, 12, .putfield 0, .null, [], [6, 0, 3]),
  (12, 13, .aload 0, .null, [], []),
  (13, 15, .nop, .int (17 : Int32), [], []),
  (15, 17, .newarray .int, .null, [], []),
  (17, 20, .putfield 0, .null, [], [6, 1, 3]),
  (20, 21, .aload 0, .null, [], []),
  (21, 23, .nop, .int (8 : Int32), [], []),
  (23, 25, .newarray .int, .null, [], []),
  (25, 28, .putfield 0, .null, [], [6, 2, 3]),
  (28, 29, .aload 0, .null, [], []),
  (29, 30, .nop, .int (0 : Int32), [], []),
  (30, 33, .putfield 0, .null, [], [6, 3, 1]),
  (33, 34, .aload 0, .null, [], []),
  (34, 35, .nop, .int (0 : Int32), [], []),
  (35, 38, .putfield 0, .null, [], [6, 4, 1]),
  (38, 39, .aload 0, .null, [], []),
  (39, 41, .nop, .int (8 : Int32), [], []),
  (41, 43, .newarray .int, .null, [], []),
  (43, 46, .putfield 0, .null, [], [6, 5, 3]),
  (46, 47, .aload 0, .null, [], []),
  (47, 49, .nop, .int (8 : Int32), [], []),
  (49, 51, .newarray .int, .null, [], []),
  (51, 54, .putfield 0, .null, [], [6, 6, 3]),
  (54, 55, .aload 0, .null, [], []),
  (55, 57, .nop, .int (8 : Int32), [], []),
  (57, 59, .newarray .int, .null, [], []),
  (59, 62, .putfield 0, .null, [], [6, 7, 3]),
  (62, 63, .aload 0, .null, [], []),
  (63, 65, .nop, .int (8 : Int32), [], []),
  (65, 67, .newarray .int, .null, [], []),
  (67, 70, .putfield 0, .null, [], [6, 8, 3]),
  (70, 71, .return_, .null, [], [])]
def zh_0 : List (Nat × List Nat) := []
-- 1: PrimeCertificates$Tape.<init>:()V
def zo_1 : List (Nat × Nat × dzOp) := [
  (0, 1, .aload 0, .null, [], []),
  (1, 4, .invokespecial 0, .null, [], []),
  (4, 5, .aload 0, .null, [], []),
  (5, 8, .nop, .int (4000 : Int32), [], []),
  (8, 10, .newarray .int, .null, [], []),
  (10, 13, .putfield 0, .null, [], [7, 0, 3]),
  (13, 14, .aload 0, .null, [], []),
  (14, 15, .nop, .int (0 : Int32), [], []),
  (15, 18, .putfield 0, .null, [], [7, 1, 1]),
  (18, 19, .return_, .null, [], [])]
def zh_1 : List (Nat × List Nat) := []
-- 2: PrimeCertificates$Lines.<init>:()V
def zo_2 : List (Nat × Nat × dzOp) := [
  (0, 1, .aload 0, .null, [], []),
  (1, 4, .invokespecial 0, .null, [], []),
  (4, 5, .aload 0, .null, [], []),
  (5, 8, .nop, .int (200 : Int32), [], []),
  (8, 10, .nop, .int (8 : Int32), [], []),
  (10, 14, .multianewarray 0 0, .null, [], []),
  (14, 17, .putfield 0, .null, [], [4, 0, 3]),
  (17, 18, .aload 0, .null, [], []),
  (18, 21, .nop, .int (200 : Int32), [], []),
  (21, 23, .newarray .int, .null, [], []),
  (23, 26, .putfield 0, .null, [], [4, 1, 3]),
  (26, 27, .aload 0, .null, [], []),
  (27, 28, .nop, .int (0 : Int32), [], []),
  (28, 31, .putfield 0, .null, [], [4, 2, 1]),
  (31, 32, .aload 0, .null, [], []),
  (32, 33, .nop, .int (0 : Int32), [], []),
  (33, 36, .putfield 0, .null, [], [4, 3, 1]),
  (36, 37, .return_, .null, [], [])]
def zh_2 : List (Nat × List Nat) := []
-- 3: PrimeCertificates$Trial.<init>:(LPrimeCertificates$Sums;)V
def zo_3 : List (Nat × Nat × dzOp) := [
  (0, 1, .aload 0, .null, [], []),
  (1, 4, .invokespecial 0, .null, [], []),
  (4, 5, .aload 0, .null, [], []),
  (5, 7, .nop, .int (8 : Int32), [], []),
  (7, 9, .newarray .int, .null, [], []),
  (9, 12, .putfield 0, .null, [], [8, 1, 3]),
  (12, 13, .aload 0, .null, [], []),
  (13, 15, .nop, .int (8 : Int32), [], []),
  (15, 17, .newarray .int, .null, [], []),
  (17, 20, .putfield 0, .null, [], [8, 2, 3]),
  (20, 21, .aload 0, .null, [], []),
  (21, 23, .nop, .int (8 : Int32), [], []),
  (23, 25, .newarray .int, .null, [], []),
  (25, 28, .putfield 0, .null, [], [8, 3, 3]),
  (28, 29, .aload 0, .null, [], []),
  (29, 31, .nop, .int (8 : Int32), [], []),
  (31, 33, .newarray .int, .null, [], []),
  (33, 36, .putfield 0, .null, [], [8, 4, 3]),
  (36, 37, .aload 0, .null, [], []),
  (37, 39, .nop, .int (8 : Int32), [], []),
  (39, 41, .newarray .int, .null, [], []),
  (41, 44, .putfield 0, .null, [], [8, 5, 3]),
  (44, 45, .aload 0, .null, [], []),
  (45, 47, .nop, .int (8 : Int32), [], []),
  (47, 49, .newarray .int, .null, [], []),
  (49, 52, .putfield 0, .null, [], [8, 6, 3]),
  (52, 53, .aload 0, .null, [], []),
  (53, 54, .aload 1, .null, [], []),
  (54, 57, .putfield 0, .null, [], [8, 0, 3]),
  (57, 58, .aload 0, .null, [], []),
  (58, 61, .getfield 0, .null, [], [8, 3, 3]),
  (61, 62, .nop, .int (0 : Int32), [], []),
  (62, 63, .nop, .int (1 : Int32), [], []),
  (63, 64, .iastore, .null, [], []),
  (64, 65, .return_, .null, [], [])]
def zh_3 : List (Nat × List Nat) := []
-- 4: PrimeCertificates$Factors.<init>:()V
def zo_4 : List (Nat × Nat × dzOp) := [
  (0, 1, .aload 0, .null, [], []),
  (1, 4, .invokespecial 0, .null, [], []),
  (4, 5, .aload 0, .null, [], []),
  (5, 7, .nop, .int (40 : Int32), [], []),
  (7, 9, .newarray .int, .null, [], []),
  (9, 12, .putfield 0, .null, [], [3, 0, 3]),
  (12, 13, .aload 0, .null, [], []),
  (13, 15, .nop, .int (40 : Int32), [], []),
  (15, 17, .newarray .int, .null, [], []),
  (17, 20, .putfield 0, .null, [], [3, 1, 3]),
  (20, 21, .aload 0, .null, [], []),
  (21, 23, .nop, .int (40 : Int32), [], []),
  (23, 25, .newarray .int, .null, [], []),
  (25, 28, .putfield 0, .null, [], [3, 2, 3]),
  (28, 29, .aload 0, .null, [], []),
  (29, 30, .nop, .int (0 : Int32), [], []),
  (30, 33, .putfield 0, .null, [], [3, 3, 1]),
  (33, 34, .return_, .null, [], [])]
def zh_4 : List (Nat × List Nat) := []
-- 5: PrimeCertificates$Checker.<init>:(LPrimeCertificates$Tape;LPrimeCertificates$Lines;LPrimeCertificates$Sums;LPrimeCertificates$Trial;)V
def zo_5 : List (Nat × Nat × dzOp) := [
  (0, 1, .aload 0, .null, [], []),
  (1, 4, .invokespecial 0, .null, [], []),
  (4, 5, .aload 0, .null, [], []),
  (5, 8, .new 0, .null, [], [3, 4]),
  (8, 9, .dup, .null, [], []),
  (9, 12, .invokestatic 0, .null, [], [4, 1, 0]),
  (12, 15, .putfield 0, .null, [], [2, 4, 3]),
  (15, 16, .aload 0, .null, [], []),
  (16, 18, .nop, .int (8 : Int32), [], []),
  (18, 20, .newarray .int, .null, [], []),
  (20, 23, .putfield 0, .null, [], [2, 5, 3]),
  (23, 24, .aload 0, .null, [], []),
  (24, 25, .nop, .int (0 : Int32), [], []),
  (25, 28, .putfield 0, .null, [], [2, 6, 1]),
  (28, 29, .aload 0, .null, [], []),
  (29, 30, .nop, .int (0 : Int32), [], []),
  (30, 33, .putfield 0, .null, [], [2, 7, 1]),
  (33, 34, .aload 0, .null, [], []),
  (34, 35, .nop, .int (0 : Int32), [], []),
  (35, 38, .putfield 0, .null, [], [2, 8, 1]),
  (38, 39, .aload 0, .null, [], []),
  (39, 40, .nop, .int (0 : Int32), [], []),
  (40, 43, .putfield 0, .null, [], [2, 9, 1]),
  (43, 44, .aload 0, .null, [], []),
  (44, 45, .nop, .int (0 : Int32), [], []),
  (45, 48, .putfield 0, .null, [], [2, 10, 1]),
  (48, 49, .aload 0, .null, [], []),
  (49, 50, .nop, .int (0 : Int32), [], []),
  (50, 53, .putfield 0, .null, [], [2, 11, 1]),
  (53, 54, .aload 0, .null, [], []),
  (54, 56, .nop, .int (-2 : Int32), [], []),
  (56, 59, .putfield 0, .null, [], [2, 12, 1]),
  (59, 60, .aload 0, .null, [], []),
  (60, 61, .aload 1, .null, [], []),
  (61, 64, .putfield 0, .null, [], [2, 0, 3]),
  (64, 65, .aload 0, .null, [], []),
  (65, 66, .aload 2, .null, [], []),
  (66, 69, .putfield 0, .null, [], [2, 1, 3]),
  (69, 70, .aload 0, .null, [], []),
  (70, 71, .aload 3, .null, [], []),
  (71, 74, .putfield 0, .null, [], [2, 2, 3]),
  (74, 75, .aload 0, .null, [], []),
  (75, 77, .aload 4, .null, [], []),
  (77, 80, .putfield 0, .null, [], [2, 3, 3]),
  (80, 81, .return_, .null, [], [])]
def zh_5 : List (Nat × List Nat) := []
-- 6: PrimeCertificates$Maker.<init>:(LPrimeCertificates$Tape;LPrimeCertificates$Lines;LPrimeCertificates$Sums;LPrimeCertificates$Trial;)V
def zo_6 : List (Nat × Nat × dzOp) := [
  (0, 1, .aload 0, .null, [], []),
  (1, 4, .invokespecial 0, .null, [], []),
  (4, 5, .aload 0, .null, [], []),
  (5, 8, .new 0, .null, [], [3, 4]),
  (8, 9, .dup, .null, [], []),
  (9, 12, .invokestatic 0, .null, [], [4, 1, 0]),
  (12, 15, .putfield 0, .null, [], [5, 4, 3]),
  (15, 16, .aload 0, .null, [], []),
  (16, 18, .nop, .int (8 : Int32), [], []),
  (18, 20, .newarray .int, .null, [], []),
  (20, 23, .putfield 0, .null, [], [5, 5, 3]),
  (23, 24, .aload 0, .null, [], []),
  (24, 26, .nop, .int (8 : Int32), [], []),
  (26, 28, .newarray .int, .null, [], []),
  (28, 31, .putfield 0, .null, [], [5, 6, 3]),
  (31, 32, .aload 0, .null, [], []),
  (32, 34, .nop, .int (8 : Int32), [], []),
  (34, 36, .newarray .int, .null, [], []),
  (36, 39, .putfield 0, .null, [], [5, 7, 3]),
  (39, 40, .aload 0, .null, [], []),
  (40, 42, .nop, .int (8 : Int32), [], []),
  (42, 44, .newarray .int, .null, [], []),
  (44, 47, .putfield 0, .null, [], [5, 8, 3]),
  (47, 48, .aload 0, .null, [], []),
  (48, 49, .nop, .int (0 : Int32), [], []),
  (49, 52, .putfield 0, .null, [], [5, 9, 1]),
  (52, 53, .aload 0, .null, [], []),
  (53, 54, .nop, .int (0 : Int32), [], []),
  (54, 57, .putfield 0, .null, [], [5, 10, 1]),
  (57, 58, .aload 0, .null, [], []),
  (58, 59, .aload 1, .null, [], []),
  (59, 62, .putfield 0, .null, [], [5, 0, 3]),
  (62, 63, .aload 0, .null, [], []),
  (63, 64, .aload 2, .null, [], []),
  (64, 67, .putfield 0, .null, [], [5, 1, 3]),
  (67, 68, .aload 0, .null, [], []),
  (68, 69, .aload 3, .null, [], []),
  (69, 72, .putfield 0, .null, [], [5, 2, 3]),
  (72, 73, .aload 0, .null, [], []),
  (73, 75, .aload 4, .null, [], []),
  (75, 78, .putfield 0, .null, [], [5, 3, 3]),
  (78, 79, .return_, .null, [], [])]
def zh_6 : List (Nat × List Nat) := []
-- 7: PrimeCertificates.<init>:()V
def zo_7 : List (Nat × Nat × dzOp) := [
  (0, 1, .aload 0, .null, [], []),
  (1, 4, .invokespecial 0, .null, [], []),
  (4, 5, .aload 0, .null, [], []),
  (5, 7, .nop, .int (8 : Int32), [], []),
  (7, 9, .nop, .int (8 : Int32), [], []),
  (9, 13, .multianewarray 0 0, .null, [], []),
  (13, 16, .putfield 0, .null, [], [0, 0, 3]),
  (16, 17, .aload 0, .null, [], []),
  (17, 19, .nop, .int (8 : Int32), [], []),
  (19, 21, .newarray .int, .null, [], []),
  (21, 24, .putfield 0, .null, [], [0, 1, 3]),
  (24, 25, .aload 0, .null, [], []),
  (25, 27, .nop, .int (8 : Int32), [], []),
  (27, 29, .newarray .int, .null, [], []),
  (29, 32, .putfield 0, .null, [], [0, 2, 3]),
  (32, 33, .aload 0, .null, [], []),
  (33, 36, .new 0, .null, [], [6, 9]),
  (36, 37, .dup, .null, [], []),
  (37, 40, .invokestatic 0, .null, [], [0, 1, 0]),
  (40, 43, .putfield 0, .null, [], [0, 3, 3]),
  (43, 44, .aload 0, .null, [], []),
  (44, 47, .new 0, .null, [], [7, 2]),
  (47, 48, .dup, .null, [], []),
  (48, 51, .invokestatic 0, .null, [], [1, 1, 0]),
  (51, 54, .putfield 0, .null, [], [0, 4, 3]),
  (54, 55, .aload 0, .null, [], []),
  (55, 58, .new 0, .null, [], [4, 4]),
  (58, 59, .dup, .null, [], []),
  (59, 62, .invokestatic 0, .null, [], [2, 1, 0]),
  (62, 65, .putfield 0, .null, [], [0, 5, 3]),
  (65, 68, .new 0, .null, [], [8, 7]),
  (68, 69, .dup, .null, [], []),
  (69, 70, .aload 0, .null, [], []),
  (70, 73, .getfield 0, .null, [], [0, 3, 3]),
  (73, 76, .invokestatic 0, .null, [], [3, 2, 0]),
  (76, 77, .astore 1, .null, [], []),
  (77, 78, .aload 0, .null, [], []),
  (78, 81, .new 0, .null, [], [2, 13]),
  (81, 82, .dup, .null, [], []),
  (82, 83, .aload 0, .null, [], []),
  (83, 86, .getfield 0, .null, [], [0, 4, 3]),
  (86, 87, .aload 0, .null, [], []),
  (87, 90, .getfield 0, .null, [], [0, 5, 3]),
  (90, 91, .aload 0, .null, [], []),
  (91, 94, .getfield 0, .null, [], [0, 3, 3]),
  (94, 95, .aload 1, .null, [], []),
  (95, 98, .invokestatic 0, .null, [], [5, 5, 0]),
  (98, 101, .putfield 0, .null, [], [0, 6, 3]),
  (101, 102, .aload 0, .null, [], []),
  (102, 105, .new 0, .null, [], [5, 11]),
  (105, 106, .dup, .null, [], []),
  (106, 107, .aload 0, .null, [], []),
  (107, 110, .getfield 0, .null, [], [0, 4, 3]),
  (110, 111, .aload 0, .null, [], []),
  (111, 114, .getfield 0, .null, [], [0, 5, 3]),
  (114, 115, .aload 0, .null, [], []),
  (115, 118, .getfield 0, .null, [], [0, 3, 3]),
  (118, 119, .aload 1, .null, [], []),
  (119, 122, .invokestatic 0, .null, [], [6, 5, 0]),
  (122, 125, .putfield 0, .null, [], [0, 7, 3]),
  (125, 126, .return_, .null, [], [])]
def zh_7 : List (Nat × List Nat) := []
-- 8: PrimeCertificates.isRegister:(I)Z
def zo_8 : List (Nat × Nat × dzOp) := [
  (0, 1, .iload 0, .null, [], []),
  (1, 4, .ifCond .lt 0, .null, [], [14]),
  (4, 5, .iload 0, .null, [], []),
  (5, 7, .nop, .int (8 : Int32), [], []),
  (7, 10, .if_icmp .ge 0, .null, [], [14]),
  (10, 11, .nop, .int (1 : Int32), [], []),
  (11, 14, .goto 0, .null, [], [15]),
  (14, 15, .nop, .int (0 : Int32), [], []),
  (15, 16, .ireturn, .null, [], [1])]
def zh_8 : List (Nat × List Nat) := []
-- 9: PrimeCertificates.isWord:(I)Z
def zo_9 : List (Nat × Nat × dzOp) := [
  (0, 1, .iload 0, .null, [], []),
  (1, 4, .ifCond .lt 0, .null, [], [14]),
  (4, 5, .iload 0, .null, [], []),
  (5, 7, .nop, .int (8 : Int32), [], []),
  (7, 10, .if_icmp .ge 0, .null, [], [14]),
  (10, 11, .nop, .int (1 : Int32), [], []),
  (11, 14, .goto 0, .null, [], [15]),
  (14, 15, .nop, .int (0 : Int32), [], []),
  (15, 16, .ireturn, .null, [], [1])]
def zh_9 : List (Nat × List Nat) := []
-- 10: PrimeCertificates.put:(III)Z
def zo_10 : List (Nat × Nat × dzOp) := [
  (0, 1, .iload 1, .null, [], []),
  (1, 4, .invokestatic 0, .null, [], [8, 1, 1]),
  (4, 7, .ifCond .eq 0, .null, [], [14]),
  (7, 8, .iload 2, .null, [], []),
  (8, 11, .invokestatic 0, .null, [], [9, 1, 1]),
  (11, 14, .ifCond .ne 0, .null, [], [16]),
  (14, 15, .nop, .int (0 : Int32), [], []),
  (15, 16, .ireturn, .null, [], [1]),
  (16, 17, .aload 0, .null, [], []),
  (17, 20, .getfield 0, .null, [], [0, 0, 3]),
  (20, 21, .iload 1, .null, [], []),
  (21, 22, .aaload, .null, [], []),
  (22, 23, .iload 2, .null, [], []),
  (23, 24, .iload 3, .null, [], []),
  (24, 25, .iastore, .null, [], []),
  (25, 26, .nop, .int (1 : Int32), [], []),
  (26, 27, .ireturn, .null, [], [1])]
def zh_10 : List (Nat × List Nat) := []
-- 11: PrimeCertificates.get:(II)I
def zo_11 : List (Nat × Nat × dzOp) := [
  (0, 1, .iload 1, .null, [], []),
  (1, 4, .invokestatic 0, .null, [], [8, 1, 1]),
  (4, 7, .ifCond .eq 0, .null, [], [25]),
  (7, 8, .iload 2, .null, [], []),
  (8, 11, .invokestatic 0, .null, [], [9, 1, 1]),
  (11, 14, .ifCond .eq 0, .null, [], [25]),
  (14, 15, .aload 0, .null, [], []),
  (15, 18, .getfield 0, .null, [], [0, 0, 3]),
  (18, 19, .iload 1, .null, [], []),
  (19, 20, .aaload, .null, [], []),
  (20, 21, .iload 2, .null, [], []),
  (21, 22, .iaload, .null, [], []),
  (22, 25, .goto 0, .null, [], [26]),
  (25, 26, .nop, .int (0 : Int32), [], []),
  (26, 27, .ireturn, .null, [], [0])]
def zh_11 : List (Nat × List Nat) := []
-- 12: PrimeCertificates.areRegisters:(III)Z
def zo_12 : List (Nat × Nat × dzOp) := [
  (0, 1, .iload 0, .null, [], []),
  (1, 4, .invokestatic 0, .null, [], [8, 1, 1]),
  (4, 7, .ifCond .eq 0, .null, [], [25]),
  (7, 8, .iload 1, .null, [], []),
  (8, 11, .invokestatic 0, .null, [], [8, 1, 1]),
  (11, 14, .ifCond .eq 0, .null, [], [25]),
  (14, 15, .iload 2, .null, [], []),
  (15, 18, .invokestatic 0, .null, [], [8, 1, 1]),
  (18, 21, .ifCond .eq 0, .null, [], [25]),
  (21, 22, .nop, .int (1 : Int32), [], []),
  (22, 25, .goto 0, .null, [], [26]),
  (25, 26, .nop, .int (0 : Int32), [], []),
  (26, 27, .ireturn, .null, [], [1])]
def zh_12 : List (Nat × List Nat) := []
-- 13: PrimeCertificates$Sums.sum:([I[I[I)Z
def zo_13 : List (Nat × Nat × dzOp) := [
  (0, 1, .nop, .long (0 : Int64), [], []),
  (1, 2, .lstore 3, .null, [], []),
  (2, 3, .nop, .int (0 : Int32), [], []),
  (3, 5, .istore 5, .null, [], []),
  (5, 7, .iload 5, .null, [], []),
  (7, 9, .nop, .int (8 : Int32), [], []),
  (9, 12, .if_icmp .ge 0, .null, [], [51]),
  (12, 13, .lload 3, .null, [], []),
  (13, 14, .aload 0, .null, [], []),
  (14, 16, .iload 5, .null, [], []),
  (16, 17, .iaload, .null, [], []),
  (17, 18, .i2l, .null, [], []),
  (18, 21, .nop, .long (4294967295 : Int64), [], []),
  (21, 22, .land, .null, [], []),
  (22, 23, .aload 1, .null, [], []),
  (23, 25, .iload 5, .null, [], []),
  (25, 26, .iaload, .null, [], []),
  (26, 27, .i2l, .null, [], []),
  (27, 30, .nop, .long (4294967295 : Int64), [], []),
  (30, 31, .land, .null, [], []),
  (31, 32, .ladd, .null, [], []),
  (32, 33, .ladd, .null, [], []),
  (33, 34, .lstore 3, .null, [], []),
  (34, 35, .aload 2, .null, [], []),
  (35, 37, .iload 5, .null, [], []),
  (37, 38, .lload 3, .null, [], []),
  (38, 39, .l2i, .null, [], []),
  (39, 40, .iastore, .null, [], []),
  (40, 41, .lload 3, .null, [], []),
  (41, 43, .nop, .int (32 : Int32), [], []),
  (43, 44, .lushr, .null, [], []),
  (44, 45, .lstore 3, .null, [], []),
  (45, 48, .iinc 5 0, .int (1 : Int32), [], []),
  (48, 51, .goto 0, .null, [], [5]),
  (51, 52, .lload 3, .null, [], []),
  (52, 53, .nop, .long (0 : Int64), [], []),
  (53, 54, .lcmp, .null, [], []),
  (54, 57, .ifCond .ne 0, .null, [], [61]),
  (57, 58, .nop, .int (1 : Int32), [], []),
  (58, 61, .goto 0, .null, [], [62]),
  (61, 62, .nop, .int (0 : Int32), [], []),
  (62, 63, .ireturn, .null, [], [1])]
def zh_13 : List (Nat × List Nat) := [(5, [0, 1, 2, 3, 5])]
-- 14: PrimeCertificates$Sums.copy:([I[I)V
def zo_14 : List (Nat × Nat × dzOp) := [
  (0, 1, .aload 0, .null, [], []),
  (1, 2, .nop, .int (0 : Int32), [], []),
  (2, 3, .aload 1, .null, [], []),
  (3, 4, .nop, .int (0 : Int32), [], []),
  (4, 6, .nop, .int (8 : Int32), [], []),
  (6, 9, .swap, .null, [], []),
  (9, 10, .return_, .null, [], [])]
def zh_14 : List (Nat × List Nat) := []
-- 15: PrimeCertificates.keepAnswer:(I)I
def zo_15 : List (Nat × Nat × dzOp) := [
  (0, 1, .aload 0, .null, [], []),
  (1, 4, .getfield 0, .null, [], [0, 1, 3]),
  (4, 5, .aload 0, .null, [], []),
  (5, 8, .getfield 0, .null, [], [0, 0, 3]),
  (8, 9, .iload 1, .null, [], []),
  (9, 10, .aaload, .null, [], []),
  (10, 13, .invokestatic 0, .null, [], [14, 2, 0]),
  (13, 14, .nop, .int (0 : Int32), [], []),
  (14, 15, .ireturn, .null, [], [0])]
def zh_15 : List (Nat × List Nat) := []
-- 16: PrimeCertificates.add:(III)I
def zo_16 : List (Nat × Nat × dzOp) := [
  (0, 1, .iload 1, .null, [], []),
  (1, 2, .iload 2, .null, [], []),
  (2, 3, .iload 3, .null, [], []),
  (3, 6, .invokestatic 0, .null, [], [12, 3, 1]),
  (6, 9, .ifCond .ne 0, .null, [], [11]),
  (9, 10, .nop, .int (-1 : Int32), [], []),
  (10, 11, .ireturn, .null, [], [0]),
  (11, 12, .aload 0, .null, [], []),
  (12, 15, .getfield 0, .null, [], [0, 0, 3]),
  (15, 16, .iload 1, .null, [], []),
  (16, 17, .aaload, .null, [], []),
  (17, 18, .aload 0, .null, [], []),
  (18, 21, .getfield 0, .null, [], [0, 0, 3]),
  (21, 22, .iload 2, .null, [], []),
  (22, 23, .aaload, .null, [], []),
  (23, 24, .aload 0, .null, [], []),
  (24, 27, .getfield 0, .null, [], [0, 1, 3]),
  (27, 30, .invokestatic 0, .null, [], [13, 3, 1]),
  (30, 33, .ifCond .eq 0, .null, [], [41]),
  (33, 34, .aload 0, .null, [], []),
  (34, 35, .iload 3, .null, [], []),
  (35, 38, .invokestatic 0, .null, [], [15, 2, 1]),
  (38, 41, .goto 0, .null, [], [43]),
  (41, 43, .nop, .int (-3 : Int32), [], []),
  (43, 44, .ireturn, .null, [], [0])]
def zh_16 : List (Nat × List Nat) := []
-- 17: PrimeCertificates$Sums.difference:([I[I[I)Z
def zo_17 : List (Nat × Nat × dzOp) := [
  (0, 1, .nop, .long (0 : Int64), [], []),
  (1, 2, .lstore 3, .null, [], []),
  (2, 3, .nop, .int (0 : Int32), [], []),
  (3, 5, .istore 5, .null, [], []),
  (5, 7, .iload 5, .null, [], []),
  (7, 9, .nop, .int (8 : Int32), [], []),
  (9, 12, .if_icmp .ge 0, .null, [], [51]),
  (12, 13, .lload 3, .null, [], []),
  (13, 14, .aload 0, .null, [], []),
  (14, 16, .iload 5, .null, [], []),
  (16, 17, .iaload, .null, [], []),
  (17, 18, .i2l, .null, [], []),
  (18, 21, .nop, .long (4294967295 : Int64), [], []),
  (21, 22, .land, .null, [], []),
  (22, 23, .aload 1, .null, [], []),
  (23, 25, .iload 5, .null, [], []),
  (25, 26, .iaload, .null, [], []),
  (26, 27, .i2l, .null, [], []),
  (27, 30, .nop, .long (4294967295 : Int64), [], []),
  (30, 31, .land, .null, [], []),
  (31, 32, .lsub, .null, [], []),
  (32, 33, .ladd, .null, [], []),
  (33, 34, .lstore 3, .null, [], []),
  (34, 35, .aload 2, .null, [], []),
  (35, 37, .iload 5, .null, [], []),
  (37, 38, .lload 3, .null, [], []),
  (38, 39, .l2i, .null, [], []),
  (39, 40, .iastore, .null, [], []),
  (40, 41, .lload 3, .null, [], []),
  (41, 43, .nop, .int (32 : Int32), [], []),
  (43, 44, .lshr, .null, [], []),
  (44, 45, .lstore 3, .null, [], []),
  (45, 48, .iinc 5 0, .int (1 : Int32), [], []),
  (48, 51, .goto 0, .null, [], [5]),
  (51, 52, .lload 3, .null, [], []),
  (52, 53, .nop, .long (0 : Int64), [], []),
  (53, 54, .lcmp, .null, [], []),
  (54, 57, .ifCond .ne 0, .null, [], [61]),
  (57, 58, .nop, .int (1 : Int32), [], []),
  (58, 61, .goto 0, .null, [], [62]),
  (61, 62, .nop, .int (0 : Int32), [], []),
  (62, 63, .ireturn, .null, [], [1])]
def zh_17 : List (Nat × List Nat) := [(5, [0, 1, 2, 3, 5])]
-- 18: PrimeCertificates.subtract:(III)I
def zo_18 : List (Nat × Nat × dzOp) := [
  (0, 1, .iload 1, .null, [], []),
  (1, 2, .iload 2, .null, [], []),
  (2, 3, .iload 3, .null, [], []),
  (3, 6, .invokestatic 0, .null, [], [12, 3, 1]),
  (6, 9, .ifCond .ne 0, .null, [], [11]),
  (9, 10, .nop, .int (-1 : Int32), [], []),
  (10, 11, .ireturn, .null, [], [0]),
  (11, 12, .aload 0, .null, [], []),
  (12, 15, .getfield 0, .null, [], [0, 0, 3]),
  (15, 16, .iload 1, .null, [], []),
  (16, 17, .aaload, .null, [], []),
  (17, 18, .aload 0, .null, [], []),
  (18, 21, .getfield 0, .null, [], [0, 0, 3]),
  (21, 22, .iload 2, .null, [], []),
  (22, 23, .aaload, .null, [], []),
  (23, 24, .aload 0, .null, [], []),
  (24, 27, .getfield 0, .null, [], [0, 1, 3]),
  (27, 30, .invokestatic 0, .null, [], [17, 3, 1]),
  (30, 33, .ifCond .eq 0, .null, [], [41]),
  (33, 34, .aload 0, .null, [], []),
  (34, 35, .iload 3, .null, [], []),
  (35, 38, .invokestatic 0, .null, [], [15, 2, 1]),
  (38, 41, .goto 0, .null, [], [43]),
  (41, 43, .nop, .int (-2 : Int32), [], []),
  (43, 44, .ireturn, .null, [], [0])]
def zh_18 : List (Nat × List Nat) := []
-- 19: PrimeCertificates$Sums.usedWords:([I)I
def zo_19 : List (Nat × Nat × dzOp) := [
  (0, 1, .aload 0, .null, [], []),
  (1, 2, .arraylength, .null, [], []),
  (2, 3, .istore 1, .null, [], []),
  (3, 4, .iload 1, .null, [], []),
  (4, 7, .ifCond .le 0, .null, [], [21]),
  (7, 8, .aload 0, .null, [], []),
  (8, 9, .iload 1, .null, [], []),
  (9, 10, .nop, .int (1 : Int32), [], []),
  (10, 11, .isub, .null, [], []),
  (11, 12, .iaload, .null, [], []),
  (12, 15, .ifCond .ne 0, .null, [], [21]),
  (15, 18, .iinc 1 0, .int (-1 : Int32), [], []),
  (18, 21, .goto 0, .null, [], [3]),
  (21, 22, .iload 1, .null, [], []),
  (22, 23, .ireturn, .null, [], [0])]
def zh_19 : List (Nat × List Nat) := [(3, [0, 1])]
-- 20: java/util/Arrays.fill:([II)V
def zo_20 : List (Nat × Nat × dzOp) := [
  (0, 1, .nop, .int (0 : Int32), [], []),
  (1, 2, .istore 2, .null, [], []),
  (2, 3, .aload 0, .null, [], []),
  (3, 4, .arraylength, .null, [], []),
  (4, 5, .istore 3, .null, [], []),
  (5, 6, .iload 2, .null, [], []),
  (6, 7, .iload 3, .null, [], []),
  (7, 10, .if_icmp .ge 0, .null, [], [20]),
  (10, 11, .aload 0, .null, [], []),
  (11, 12, .iload 2, .null, [], []),
  (12, 13, .iload 1, .null, [], []),
  (13, 14, .iastore, .null, [], []),
  (14, 17, .iinc 2 0, .int (1 : Int32), [], []),
  (17, 20, .goto 0, .null, [], [5]),
  (20, 21, .return_, .null, [], [])]
def zh_20 : List (Nat × List Nat) := [(5, [0, 1, 2, 3])]
-- 21: PrimeCertificates$Sums.setWideToProduct:([I[I)V
def zo_21 : List (Nat × Nat × dzOp) := [
  (0, 1, .aload 1, .null, [], []),
  (1, 4, .invokestatic 0, .null, [], [19, 1, 1]),
  (4, 5, .istore 3, .null, [], []),
  (5, 6, .aload 2, .null, [], []),
  (6, 9, .invokestatic 0, .null, [], [19, 1, 1]),
  (9, 11, .istore 4, .null, [], []),
  (11, 12, .aload 0, .null, [], []),
  (12, 15, .getfield 0, .null, [], [6, 0, 3]),
  (15, 16, .nop, .int (0 : Int32), [], []),
  (16, 19, .invokestatic 0, .null, [], [20, 2, 0]),
  (19, 20, .nop, .int (0 : Int32), [], []),
  (20, 22, .istore 5, .null, [], []),
  (22, 24, .iload 5, .null, [], []),
  (24, 25, .iload 3, .null, [], []),
  (25, 28, .if_icmp .ge 0, .null, [], [130]),
  (28, 29, .aload 1, .null, [], []),
  (29, 31, .iload 5, .null, [], []),
  (31, 32, .iaload, .null, [], []),
  (32, 33, .i2l, .null, [], []),
  (33, 36, .nop, .long (4294967295 : Int64), [], []),
  (36, 37, .land, .null, [], []),
  (37, 39, .lstore 6, .null, [], []),
  (39, 40, .nop, .long (0 : Int64), [], []),
  (40, 42, .lstore 8, .null, [], []),
  (42, 43, .nop, .int (0 : Int32), [], []),
  (43, 45, .istore 10, .null, [], []),
  (45, 47, .iload 10, .null, [], []),
  (47, 49, .iload 4, .null, [], []),
  (49, 52, .if_icmp .ge 0, .null, [], [111]),
  (52, 54, .lload 8, .null, [], []),
  (54, 56, .lload 6, .null, [], []),
  (56, 57, .aload 2, .null, [], []),
  (57, 59, .iload 10, .null, [], []),
  (59, 60, .iaload, .null, [], []),
  (60, 61, .i2l, .null, [], []),
  (61, 64, .nop, .long (4294967295 : Int64), [], []),
  (64, 65, .land, .null, [], []),
  (65, 66, .lmul, .null, [], []),
  (66, 67, .aload 0, .null, [], []),
  (67, 70, .getfield 0, .null, [], [6, 0, 3]),
  (70, 72, .iload 5, .null, [], []),
  (72, 74, .iload 10, .null, [], []),
  (74, 75, .iadd, .null, [], []),
  (75, 76, .iaload, .null, [], []),
  (76, 77, .i2l, .null, [], []),
  (77, 80, .nop, .long (4294967295 : Int64), [], []),
  (80, 81, .land, .null, [], []),
  (81, 82, .ladd, .null, [], []),
  (82, 83, .ladd, .null, [], []),
  (83, 85, .lstore 8, .null, [], []),
  (85, 86, .aload 0, .null, [], []),
  (86, 89, .getfield 0, .null, [], [6, 0, 3]),
  (89, 91, .iload 5, .null, [], []),
  (91, 93, .iload 10, .null, [], []),
  (93, 94, .iadd, .null, [], []),
  (94, 96, .lload 8, .null, [], []),
  (96, 97, .l2i, .null, [], []),
  (97, 98, .iastore, .null, [], []),
  (98, 100, .lload 8, .null, [], []),
  (100, 102, .nop, .int (32 : Int32), [], []),
  (102, 103, .lushr, .null, [], []),
  (103, 105, .lstore 8, .null, [], []),
  (105, 108, .iinc 10 0, .int (1 : Int32), [], []),
  (108, 111, .goto 0, .null, [], [45]),
  (111, 112, .aload 0, .null, [], []),
  (112, 115, .getfield 0, .null, [], [6, 0, 3]),
  (115, 117, .iload 5, .null, [], []),
  (117, 119, .iload 4, .null, [], []),
  (119, 120, .iadd, .null, [], []),
  (120, 122, .lload 8, .null, [], []),
  (122, 123, .l2i, .null, [], []),
  (123, 124, .iastore, .null, [], []),
  (124, 127, .iinc 5 0, .int (1 : Int32), [], []),
  (127, 130, .goto 0, .null, [], [22]),
  (130, 131, .return_, .null, [], [])]
def zh_21 : List (Nat × List Nat) := [(22, [0, 1, 2, 3, 4, 5]), (45, [0, 1, 2, 3, 4, 5, 6, 8, 10])]
-- 22: PrimeCertificates$Sums.product:([I[I[I)Z
def zo_22 : List (Nat × Nat × dzOp) := [
  (0, 1, .aload 0, .null, [], []),
  (1, 2, .aload 1, .null, [], []),
  (2, 3, .aload 2, .null, [], []),
  (3, 6, .invokestatic 0, .null, [], [21, 3, 0]),
  (6, 7, .aload 0, .null, [], []),
  (7, 10, .getfield 0, .null, [], [6, 0, 3]),
  (10, 13, .invokestatic 0, .null, [], [19, 1, 1]),
  (13, 15, .nop, .int (8 : Int32), [], []),
  (15, 18, .if_icmp .le 0, .null, [], [20]),
  (18, 19, .nop, .int (0 : Int32), [], []),
  (19, 20, .ireturn, .null, [], [1]),
  (20, 21, .aload 0, .null, [], []),
  (21, 24, .getfield 0, .null, [], [6, 0, 3]),
  (24, 25, .aload 3, .null, [], []),
  (25, 28, .invokestatic 0, .null, [], [14, 2, 0]),
  (28, 29, .nop, .int (1 : Int32), [], []),
  (29, 30, .ireturn, .null, [], [1])]
def zh_22 : List (Nat × List Nat) := []
-- 23: PrimeCertificates.multiply:(III)I
def zo_23 : List (Nat × Nat × dzOp) := [
  (0, 1, .iload 1, .null, [], []),
  (1, 2, .iload 2, .null, [], []),
  (2, 3, .iload 3, .null, [], []),
  (3, 6, .invokestatic 0, .null, [], [12, 3, 1]),
  (6, 9, .ifCond .ne 0, .null, [], [11]),
  (9, 10, .nop, .int (-1 : Int32), [], []),
  (10, 11, .ireturn, .null, [], [0]),
  (11, 12, .aload 0, .null, [], []),
  (12, 15, .getfield 0, .null, [], [0, 3, 3]),
  (15, 16, .aload 0, .null, [], []),
  (16, 19, .getfield 0, .null, [], [0, 0, 3]),
  (19, 20, .iload 1, .null, [], []),
  (20, 21, .aaload, .null, [], []),
  (21, 22, .aload 0, .null, [], []),
  (22, 25, .getfield 0, .null, [], [0, 0, 3]),
  (25, 26, .iload 2, .null, [], []),
  (26, 27, .aaload, .null, [], []),
  (27, 28, .aload 0, .null, [], []),
  (28, 31, .getfield 0, .null, [], [0, 1, 3]),
  (31, 34, .invokestatic 0, .null, [], [22, 4, 1]),
  (34, 37, .ifCond .eq 0, .null, [], [45]),
  (37, 38, .aload 0, .null, [], []),
  (38, 39, .iload 3, .null, [], []),
  (39, 42, .invokestatic 0, .null, [], [15, 2, 1]),
  (42, 45, .goto 0, .null, [], [47]),
  (45, 47, .nop, .int (-3 : Int32), [], []),
  (47, 48, .ireturn, .null, [], [0])]
def zh_23 : List (Nat × List Nat) := []
-- 24: PrimeCertificates$Sums.isZero:([I)Z
def zo_24 : List (Nat × Nat × dzOp) := [
  (0, 1, .aload 0, .null, [], []),
  (1, 4, .invokestatic 0, .null, [], [19, 1, 1]),
  (4, 7, .ifCond .ne 0, .null, [], [11]),
  (7, 8, .nop, .int (1 : Int32), [], []),
  (8, 11, .goto 0, .null, [], [12]),
  (11, 12, .nop, .int (0 : Int32), [], []),
  (12, 13, .ireturn, .null, [], [1])]
def zh_24 : List (Nat × List Nat) := []
-- 25: PrimeCertificates$Sums.leadingZeros:(I)I
def zo_25 : List (Nat × Nat × dzOp) := [
  (0, 1, .nop, .int (0 : Int32), [], []),
  (1, 2, .istore 1, .null, [], []),
  (2, 3, .iload 1, .null, [], []),
  (3, 5, .nop, .int (31 : Int32), [], []),
  (5, 8, .if_icmp .ge 0, .null, [], [20]),
  (8, 9, .iload 0, .null, [], []),
  (9, 10, .iload 1, .null, [], []),
  (10, 11, .ishl, .null, [], []),
  (11, 14, .ifCond .le 0, .null, [], [20]),
  (14, 17, .iinc 1 0, .int (1 : Int32), [], []),
  (17, 20, .goto 0, .null, [], [2]),
  (20, 21, .iload 1, .null, [], []),
  (21, 22, .ireturn, .null, [], [0])]
def zh_25 : List (Nat × List Nat) := [(2, [0, 1])]
-- 26: PrimeCertificates$Sums.shiftUp:([II[I)V
def zo_26 : List (Nat × Nat × dzOp) := [
  (0, 1, .nop, .long (0 : Int64), [], []),
  (1, 3, .lstore 4, .null, [], []),
  (3, 4, .nop, .int (0 : Int32), [], []),
  (4, 6, .istore 6, .null, [], []),
  (6, 8, .iload 6, .null, [], []),
  (8, 9, .iload 2, .null, [], []),
  (9, 12, .if_icmp .ge 0, .null, [], [51]),
  (12, 14, .lload 4, .null, [], []),
  (14, 15, .aload 1, .null, [], []),
  (15, 17, .iload 6, .null, [], []),
  (17, 18, .iaload, .null, [], []),
  (18, 19, .i2l, .null, [], []),
  (19, 22, .nop, .long (4294967295 : Int64), [], []),
  (22, 23, .land, .null, [], []),
  (23, 24, .aload 0, .null, [], []),
  (24, 27, .getfield 0, .null, [], [6, 4, 1]),
  (27, 28, .lshl, .null, [], []),
  (28, 29, .lor, .null, [], []),
  (29, 31, .lstore 4, .null, [], []),
  (31, 32, .aload 3, .null, [], []),
  (32, 34, .iload 6, .null, [], []),
  (34, 36, .lload 4, .null, [], []),
  (36, 37, .l2i, .null, [], []),
  (37, 38, .iastore, .null, [], []),
  (38, 40, .lload 4, .null, [], []),
  (40, 42, .nop, .int (32 : Int32), [], []),
  (42, 43, .lushr, .null, [], []),
  (43, 45, .lstore 4, .null, [], []),
  (45, 48, .iinc 6 0, .int (1 : Int32), [], []),
  (48, 51, .goto 0, .null, [], [6]),
  (51, 52, .iload 2, .null, [], []),
  (52, 53, .aload 3, .null, [], []),
  (53, 54, .arraylength, .null, [], []),
  (54, 57, .if_icmp .ge 0, .null, [], [63]),
  (57, 58, .aload 3, .null, [], []),
  (58, 59, .iload 2, .null, [], []),
  (59, 61, .lload 4, .null, [], []),
  (61, 62, .l2i, .null, [], []),
  (62, 63, .iastore, .null, [], []),
  (63, 64, .return_, .null, [], [])]
def zh_26 : List (Nat × List Nat) := [(6, [0, 1, 2, 3, 4, 6])]
-- 27: PrimeCertificates$Sums.setDivisor:([I)V
def zo_27 : List (Nat × Nat × dzOp) := [
  (0, 1, .aload 0, .null, [], []),
  (1, 2, .aload 1, .null, [], []),
  (2, 5, .invokestatic 0, .null, [], [19, 1, 1]),
  (5, 8, .putfield 0, .null, [], [6, 3, 1]),
  (8, 9, .aload 0, .null, [], []),
  (9, 10, .aload 0, .null, [], []),
  (10, 13, .getfield 0, .null, [], [6, 3, 1]),
  (13, 16, .ifCond .ne 0, .null, [], [20]),
  (16, 17, .nop, .int (0 : Int32), [], []),
  (17, 20, .goto 0, .null, [], [31]),
  (20, 21, .aload 1, .null, [], []),
  (21, 22, .aload 0, .null, [], []),
  (22, 25, .getfield 0, .null, [], [6, 3, 1]),
  (25, 26, .nop, .int (1 : Int32), [], []),
  (26, 27, .isub, .null, [], []),
  (27, 28, .iaload, .null, [], []),
  (28, 31, .invokestatic 0, .null, [], [25, 1, 1]),
  (31, 34, .putfield 0, .null, [], [6, 4, 1]),
  (34, 35, .aload 0, .null, [], []),
  (35, 36, .aload 1, .null, [], []),
  (36, 37, .aload 0, .null, [], []),
  (37, 40, .getfield 0, .null, [], [6, 3, 1]),
  (40, 41, .aload 0, .null, [], []),
  (41, 44, .getfield 0, .null, [], [6, 2, 3]),
  (44, 47, .invokestatic 0, .null, [], [26, 4, 0]),
  (47, 48, .return_, .null, [], [])]
def zh_27 : List (Nat × List Nat) := [(31, [0, 1])]
-- 28: PrimeCertificates$Sums.setWide:([I)V
def zo_28 : List (Nat × Nat × dzOp) := [
  (0, 1, .aload 0, .null, [], []),
  (1, 4, .getfield 0, .null, [], [6, 0, 3]),
  (4, 5, .nop, .int (0 : Int32), [], []),
  (5, 8, .invokestatic 0, .null, [], [20, 2, 0]),
  (8, 9, .aload 1, .null, [], []),
  (9, 10, .aload 0, .null, [], []),
  (10, 13, .getfield 0, .null, [], [6, 0, 3]),
  (13, 16, .invokestatic 0, .null, [], [14, 2, 0]),
  (16, 17, .return_, .null, [], [])]
def zh_28 : List (Nat × List Nat) := []
-- 29: PrimeCertificates$Sums.isAbove:(JJ)Z
def zo_29 : List (Nat × Nat × dzOp) := [
  (0, 1, .lload 0, .null, [], []),
  (1, 4, .nop, .long (-9223372036854775808 : Int64), [], []),
  (4, 5, .lxor, .null, [], []),
  (5, 6, .lload 2, .null, [], []),
  (6, 9, .nop, .long (-9223372036854775808 : Int64), [], []),
  (9, 10, .lxor, .null, [], []),
  (10, 11, .lcmp, .null, [], []),
  (11, 14, .ifCond .le 0, .null, [], [18]),
  (14, 15, .nop, .int (1 : Int32), [], []),
  (15, 18, .goto 0, .null, [], [19]),
  (18, 19, .nop, .int (0 : Int32), [], []),
  (19, 20, .ireturn, .null, [], [1])]
def zh_29 : List (Nat × List Nat) := []
-- 30: PrimeCertificates$Sums.guessTimes:(I)J
def zo_30 : List (Nat × Nat × dzOp) := [
  (0, 1, .iload 1, .null, [], []),
  (1, 2, .aload 0, .null, [], []),
  (2, 5, .getfield 0, .null, [], [6, 3, 1]),
  (5, 6, .iadd, .null, [], []),
  (6, 7, .istore 2, .null, [], []),
  (7, 8, .aload 0, .null, [], []),
  (8, 11, .getfield 0, .null, [], [6, 3, 1]),
  (11, 12, .nop, .int (1 : Int32), [], []),
  (12, 15, .if_icmp .le 0, .null, [], [19]),
  (15, 16, .nop, .int (1 : Int32), [], []),
  (16, 19, .goto 0, .null, [], [20]),
  (19, 20, .nop, .int (0 : Int32), [], []),
  (20, 21, .istore 3, .null, [], []),
  (21, 22, .aload 0, .null, [], []),
  (22, 25, .getfield 0, .null, [], [6, 2, 3]),
  (25, 26, .aload 0, .null, [], []),
  (26, 29, .getfield 0, .null, [], [6, 3, 1]),
  (29, 30, .nop, .int (1 : Int32), [], []),
  (30, 31, .isub, .null, [], []),
  (31, 32, .iaload, .null, [], []),
  (32, 33, .i2l, .null, [], []),
  (33, 36, .nop, .long (4294967295 : Int64), [], []),
  (36, 37, .land, .null, [], []),
  (37, 39, .lstore 4, .null, [], []),
  (39, 40, .iload 3, .null, [], []),
  (40, 43, .ifCond .eq 0, .null, [], [62]),
  (43, 44, .aload 0, .null, [], []),
  (44, 47, .getfield 0, .null, [], [6, 2, 3]),
  (47, 48, .aload 0, .null, [], []),
  (48, 51, .getfield 0, .null, [], [6, 3, 1]),
  (51, 52, .nop, .int (2 : Int32), [], []),
  (52, 53, .isub, .null, [], []),
  (53, 54, .iaload, .null, [], []),
  (54, 55, .i2l, .null, [], []),
  (55, 58, .nop, .long (4294967295 : Int64), [], []),
  (58, 59, .land, .null, [], []),
  (59, 62, .goto 0, .null, [], [63]),
  (62, 63, .nop, .long (0 : Int64), [], []),
  (63, 65, .lstore 6, .null, [], []),
  (65, 66, .iload 3, .null, [], []),
  (66, 69, .ifCond .eq 0, .null, [], [85]),
  (69, 70, .aload 0, .null, [], []),
  (70, 73, .getfield 0, .null, [], [6, 0, 3]),
  (73, 74, .iload 2, .null, [], []),
  (74, 75, .nop, .int (2 : Int32), [], []),
  (75, 76, .isub, .null, [], []),
  (76, 77, .iaload, .null, [], []),
  (77, 78, .i2l, .null, [], []),
  (78, 81, .nop, .long (4294967295 : Int64), [], []),
  (81, 82, .land, .null, [], []),
  (82, 85, .goto 0, .null, [], [86]),
  (85, 86, .nop, .long (0 : Int64), [], []),
  (86, 88, .lstore 8, .null, [], []),
  (88, 89, .aload 0, .null, [], []),
  (89, 92, .getfield 0, .null, [], [6, 0, 3]),
  (92, 93, .iload 2, .null, [], []),
  (93, 94, .iaload, .null, [], []),
  (94, 95, .i2l, .null, [], []),
  (95, 98, .nop, .long (4294967295 : Int64), [], []),
  (98, 99, .land, .null, [], []),
  (99, 101, .nop, .int (32 : Int32), [], []),
  (101, 102, .lshl, .null, [], []),
  (102, 103, .aload 0, .null, [], []),
  (103, 106, .getfield 0, .null, [], [6, 0, 3]),
  (106, 107, .iload 2, .null, [], []),
  (107, 108, .nop, .int (1 : Int32), [], []),
  (108, 109, .isub, .null, [], []),
  (109, 110, .iaload, .null, [], []),
  (110, 111, .i2l, .null, [], []),
  (111, 114, .nop, .long (4294967295 : Int64), [], []),
  (114, 115, .land, .null, [], []),
  (115, 116, .lor, .null, [], []),
  (116, 118, .lstore 10, .null, [], []),
  (118, 120, .lload 4, .null, [], []),
  (120, 121, .nop, .long (0 : Int64), [], []),
  (121, 122, .lcmp, .null, [], []),
  (122, 125, .ifCond .ne 0, .null, [], [127]),
  (125, 126, .nop, .long (0 : Int64), [], []),
  (126, 127, .lreturn, .null, [], []),
  (127, 129, .lload 10, .null, [], []),
  (129, 130, .nop, .int (1 : Int32), [], []),
  (130, 131, .lushr, .null, [], []),
  (131, 133, .lload 4, .null, [], []),
  (133, 134, .ldiv, .null, [], []),
  (134, 135, .nop, .int (1 : Int32), [], []),
  (135, 136, .lshl, .null, [], []),
  (136, 138, .lstore 12, .null, [], []),
  (138, 140, .lload 10, .null, [], []),
  (140, 142, .lload 12, .null, [], []),
  (142, 144, .lload 4, .null, [], []),
  (144, 145, .lmul, .null, [], []),
  (145, 146, .lsub, .null, [], []),
  (146, 148, .lstore 14, .null, [], []),
  (148, 150, .lload 14, .null, [], []),
  (150, 152, .lload 4, .null, [], []),
  (152, 153, .lcmp, .null, [], []),
  (153, 156, .ifCond .lt 0, .null, [], [169]),
  (156, 158, .lload 12, .null, [], []),
  (158, 159, .nop, .long (1 : Int64), [], []),
  (159, 160, .ladd, .null, [], []),
  (160, 162, .lstore 12, .null, [], []),
  (162, 164, .lload 14, .null, [], []),
  (164, 166, .lload 4, .null, [], []),
  (166, 167, .lsub, .null, [], []),
  (167, 169, .lstore 14, .null, [], []),
  (169, 170, .nop, .int (0 : Int32), [], []),
  (170, 172, .istore 16, .null, [], []),
  (172, 174, .iload 16, .null, [], []),
  (174, 175, .nop, .int (2 : Int32), [], []),
  (175, 178, .if_icmp .ge 0, .null, [], [237]),
  (178, 180, .lload 14, .null, [], []),
  (180, 183, .nop, .long (4294967295 : Int64), [], []),
  (183, 184, .lcmp, .null, [], []),
  (184, 187, .ifCond .gt 0, .null, [], [237]),
  (187, 189, .lload 12, .null, [], []),
  (189, 192, .nop, .long (4294967295 : Int64), [], []),
  (192, 193, .lcmp, .null, [], []),
  (193, 196, .ifCond .gt 0, .null, [], [218]),
  (196, 198, .lload 12, .null, [], []),
  (198, 200, .lload 6, .null, [], []),
  (200, 201, .lmul, .null, [], []),
  (201, 203, .lload 14, .null, [], []),
  (203, 205, .nop, .int (32 : Int32), [], []),
  (205, 206, .lshl, .null, [], []),
  (206, 208, .lload 8, .null, [], []),
  (208, 209, .lor, .null, [], []),
  (209, 212, .invokestatic 0, .null, [], [29, 2, 1]),
  (212, 215, .ifCond .ne 0, .null, [], [218]),
  (215, 218, .goto 0, .null, [], [237]),
  (218, 220, .lload 12, .null, [], []),
  (220, 221, .nop, .long (1 : Int64), [], []),
  (221, 222, .lsub, .null, [], []),
  (222, 224, .lstore 12, .null, [], []),
  (224, 226, .lload 14, .null, [], []),
  (226, 228, .lload 4, .null, [], []),
  (228, 229, .ladd, .null, [], []),
  (229, 231, .lstore 14, .null, [], []),
  (231, 234, .iinc 16 0, .int (1 : Int32), [], []),
  (234, 237, .goto 0, .null, [], [172]),
  (237, 239, .lload 12, .null, [], []),
  (239, 240, .lreturn, .null, [], [])]
def zh_30 : List (Nat × List Nat) := [(20, [0, 1, 2]), (63, [0, 1, 2, 3, 4]), (86, [0, 1, 2, 3, 4, 6]), (169, [0, 1, 2, 3, 4, 6, 8, 10, 12, 14]), (172, [0, 1, 2, 3, 4, 6, 8, 10, 12, 14, 16]), (218, [0, 1, 2, 3, 4, 6, 8, 10, 12, 14, 16])]
-- 31: PrimeCertificates$Sums.takeAway:(JI)Z
def zo_31 : List (Nat × Nat × dzOp) := [
  (0, 1, .nop, .long (0 : Int64), [], []),
  (1, 3, .lstore 4, .null, [], []),
  (3, 4, .nop, .int (0 : Int32), [], []),
  (4, 6, .istore 6, .null, [], []),
  (6, 8, .iload 6, .null, [], []),
  (8, 9, .aload 0, .null, [], []),
  (9, 12, .getfield 0, .null, [], [6, 3, 1]),
  (12, 15, .if_icmp .ge 0, .null, [], [96]),
  (15, 16, .lload 1, .null, [], []),
  (16, 17, .aload 0, .null, [], []),
  (17, 20, .getfield 0, .null, [], [6, 2, 3]),
  (20, 22, .iload 6, .null, [], []),
  (22, 23, .iaload, .null, [], []),
  (23, 24, .i2l, .null, [], []),
  (24, 27, .nop, .long (4294967295 : Int64), [], []),
  (27, 28, .land, .null, [], []),
  (28, 29, .lmul, .null, [], []),
  (29, 31, .lload 4, .null, [], []),
  (31, 32, .ladd, .null, [], []),
  (32, 34, .lstore 7, .null, [], []),
  (34, 35, .aload 0, .null, [], []),
  (35, 38, .getfield 0, .null, [], [6, 0, 3]),
  (38, 40, .iload 6, .null, [], []),
  (40, 41, .iload 3, .null, [], []),
  (41, 42, .iadd, .null, [], []),
  (42, 43, .iaload, .null, [], []),
  (43, 44, .i2l, .null, [], []),
  (44, 47, .nop, .long (4294967295 : Int64), [], []),
  (47, 48, .land, .null, [], []),
  (48, 50, .lload 7, .null, [], []),
  (50, 53, .nop, .long (4294967295 : Int64), [], []),
  (53, 54, .land, .null, [], []),
  (54, 55, .lsub, .null, [], []),
  (55, 57, .lstore 9, .null, [], []),
  (57, 58, .aload 0, .null, [], []),
  (58, 61, .getfield 0, .null, [], [6, 0, 3]),
  (61, 63, .iload 6, .null, [], []),
  (63, 64, .iload 3, .null, [], []),
  (64, 65, .iadd, .null, [], []),
  (65, 67, .lload 9, .null, [], []),
  (67, 68, .l2i, .null, [], []),
  (68, 69, .iastore, .null, [], []),
  (69, 71, .lload 7, .null, [], []),
  (71, 73, .nop, .int (32 : Int32), [], []),
  (73, 74, .lushr, .null, [], []),
  (74, 76, .lload 9, .null, [], []),
  (76, 77, .nop, .long (0 : Int64), [], []),
  (77, 78, .lcmp, .null, [], []),
  (78, 81, .ifCond .ge 0, .null, [], [85]),
  (81, 82, .nop, .int (1 : Int32), [], []),
  (82, 85, .goto 0, .null, [], [86]),
  (85, 86, .nop, .int (0 : Int32), [], []),
  (86, 87, .i2l, .null, [], []),
  (87, 88, .ladd, .null, [], []),
  (88, 90, .lstore 4, .null, [], []),
  (90, 93, .iinc 6 0, .int (1 : Int32), [], []),
  (93, 96, .goto 0, .null, [], [6]),
  (96, 97, .aload 0, .null, [], []),
  (97, 100, .getfield 0, .null, [], [6, 0, 3]),
  (100, 101, .iload 3, .null, [], []),
  (101, 102, .aload 0, .null, [], []),
  (102, 105, .getfield 0, .null, [], [6, 3, 1]),
  (105, 106, .iadd, .null, [], []),
  (106, 107, .iaload, .null, [], []),
  (107, 108, .i2l, .null, [], []),
  (108, 111, .nop, .long (4294967295 : Int64), [], []),
  (111, 112, .land, .null, [], []),
  (112, 114, .lload 4, .null, [], []),
  (114, 115, .lsub, .null, [], []),
  (115, 117, .lstore 6, .null, [], []),
  (117, 118, .aload 0, .null, [], []),
  (118, 121, .getfield 0, .null, [], [6, 0, 3]),
  (121, 122, .iload 3, .null, [], []),
  (122, 123, .aload 0, .null, [], []),
  (123, 126, .getfield 0, .null, [], [6, 3, 1]),
  (126, 127, .iadd, .null, [], []),
  (127, 129, .lload 6, .null, [], []),
  (129, 130, .l2i, .null, [], []),
  (130, 131, .iastore, .null, [], []),
  (131, 133, .lload 6, .null, [], []),
  (133, 134, .nop, .long (0 : Int64), [], []),
  (134, 135, .lcmp, .null, [], []),
  (135, 138, .ifCond .lt 0, .null, [], [142]),
  (138, 139, .nop, .int (1 : Int32), [], []),
  (139, 142, .goto 0, .null, [], [143]),
  (142, 143, .nop, .int (0 : Int32), [], []),
  (143, 144, .ireturn, .null, [], [1])]
def zh_31 : List (Nat × List Nat) := [(6, [0, 1, 3, 4, 6]), (86, [0, 1, 3, 4, 6, 7, 9])]
-- 32: PrimeCertificates$Sums.giveBack:(I)V
def zo_32 : List (Nat × Nat × dzOp) := [
  (0, 1, .nop, .long (0 : Int64), [], []),
  (1, 2, .lstore 2, .null, [], []),
  (2, 3, .nop, .int (0 : Int32), [], []),
  (3, 5, .istore 4, .null, [], []),
  (5, 7, .iload 4, .null, [], []),
  (7, 8, .aload 0, .null, [], []),
  (8, 11, .getfield 0, .null, [], [6, 3, 1]),
  (11, 14, .if_icmp .ge 0, .null, [], [66]),
  (14, 15, .lload 2, .null, [], []),
  (15, 16, .aload 0, .null, [], []),
  (16, 19, .getfield 0, .null, [], [6, 0, 3]),
  (19, 21, .iload 4, .null, [], []),
  (21, 22, .iload 1, .null, [], []),
  (22, 23, .iadd, .null, [], []),
  (23, 24, .iaload, .null, [], []),
  (24, 25, .i2l, .null, [], []),
  (25, 28, .nop, .long (4294967295 : Int64), [], []),
  (28, 29, .land, .null, [], []),
  (29, 30, .aload 0, .null, [], []),
  (30, 33, .getfield 0, .null, [], [6, 2, 3]),
  (33, 35, .iload 4, .null, [], []),
  (35, 36, .iaload, .null, [], []),
  (36, 37, .i2l, .null, [], []),
  (37, 40, .nop, .long (4294967295 : Int64), [], []),
  (40, 41, .land, .null, [], []),
  (41, 42, .ladd, .null, [], []),
  (42, 43, .ladd, .null, [], []),
  (43, 44, .lstore 2, .null, [], []),
  (44, 45, .aload 0, .null, [], []),
  (45, 48, .getfield 0, .null, [], [6, 0, 3]),
  (48, 50, .iload 4, .null, [], []),
  (50, 51, .iload 1, .null, [], []),
  (51, 52, .iadd, .null, [], []),
  (52, 53, .lload 2, .null, [], []),
  (53, 54, .l2i, .null, [], []),
  (54, 55, .iastore, .null, [], []),
  (55, 56, .lload 2, .null, [], []),
  (56, 58, .nop, .int (32 : Int32), [], []),
  (58, 59, .lushr, .null, [], []),
  (59, 60, .lstore 2, .null, [], []),
  (60, 63, .iinc 4 0, .int (1 : Int32), [], []),
  (63, 66, .goto 0, .null, [], [5]),
  (66, 67, .aload 0, .null, [], []),
  (67, 70, .getfield 0, .null, [], [6, 0, 3]),
  (70, 71, .iload 1, .null, [], []),
  (71, 72, .aload 0, .null, [], []),
  (72, 75, .getfield 0, .null, [], [6, 3, 1]),
  (75, 76, .iadd, .null, [], []),
  (76, 77, .dup2, .null, [], []),
  (77, 78, .iaload, .null, [], []),
  (78, 79, .lload 2, .null, [], []),
  (79, 80, .l2i, .null, [], []),
  (80, 81, .iadd, .null, [], []),
  (81, 82, .iastore, .null, [], []),
  (82, 83, .return_, .null, [], [])]
def zh_32 : List (Nat × List Nat) := [(5, [0, 1, 2, 4])]
-- 33: PrimeCertificates$Sums.shiftWideDown:()V
def zo_33 : List (Nat × Nat × dzOp) := [
  (0, 1, .nop, .long (0 : Int64), [], []),
  (1, 2, .lstore 1, .null, [], []),
  (2, 3, .aload 0, .null, [], []),
  (3, 6, .getfield 0, .null, [], [6, 3, 1]),
  (6, 7, .nop, .int (1 : Int32), [], []),
  (7, 8, .isub, .null, [], []),
  (8, 9, .istore 3, .null, [], []),
  (9, 10, .iload 3, .null, [], []),
  (10, 13, .ifCond .lt 0, .null, [], [54]),
  (13, 14, .aload 0, .null, [], []),
  (14, 17, .getfield 0, .null, [], [6, 0, 3]),
  (17, 18, .iload 3, .null, [], []),
  (18, 19, .iaload, .null, [], []),
  (19, 20, .i2l, .null, [], []),
  (20, 23, .nop, .long (4294967295 : Int64), [], []),
  (23, 24, .land, .null, [], []),
  (24, 26, .lstore 4, .null, [], []),
  (26, 27, .aload 0, .null, [], []),
  (27, 30, .getfield 0, .null, [], [6, 0, 3]),
  (30, 31, .iload 3, .null, [], []),
  (31, 32, .lload 1, .null, [], []),
  (32, 34, .nop, .int (32 : Int32), [], []),
  (34, 35, .lshl, .null, [], []),
  (35, 37, .lload 4, .null, [], []),
  (37, 38, .lor, .null, [], []),
  (38, 39, .aload 0, .null, [], []),
  (39, 42, .getfield 0, .null, [], [6, 4, 1]),
  (42, 43, .lushr, .null, [], []),
  (43, 44, .l2i, .null, [], []),
  (44, 45, .iastore, .null, [], []),
  (45, 47, .lload 4, .null, [], []),
  (47, 48, .lstore 1, .null, [], []),
  (48, 51, .iinc 3 0, .int (-1 : Int32), [], []),
  (51, 54, .goto 0, .null, [], [9]),
  (54, 55, .return_, .null, [], [])]
def zh_33 : List (Nat × List Nat) := [(9, [0, 1, 3])]
-- 34: PrimeCertificates$Sums.reduceWide:()V
def zo_34 : List (Nat × Nat × dzOp) := [
  (0, 1, .aload 0, .null, [], []),
  (1, 4, .getfield 0, .null, [], [6, 1, 3]),
  (4, 5, .nop, .int (0 : Int32), [], []),
  (5, 8, .invokestatic 0, .null, [], [20, 2, 0]),
  (8, 9, .aload 0, .null, [], []),
  (9, 12, .getfield 0, .null, [], [6, 0, 3]),
  (12, 15, .invokestatic 0, .null, [], [19, 1, 1]),
  (15, 16, .istore 1, .null, [], []),
  (16, 17, .aload 0, .null, [], []),
  (17, 20, .getfield 0, .null, [], [6, 3, 1]),
  (20, 23, .ifCond .eq 0, .null, [], [31]),
  (23, 24, .iload 1, .null, [], []),
  (24, 25, .aload 0, .null, [], []),
  (25, 28, .getfield 0, .null, [], [6, 3, 1]),
  (28, 31, .if_icmp .ge 0, .null, [], [32]),
  (31, 32, .return_, .null, [], []),
  (32, 33, .aload 0, .null, [], []),
  (33, 34, .aload 0, .null, [], []),
  (34, 37, .getfield 0, .null, [], [6, 0, 3]),
  (37, 38, .iload 1, .null, [], []),
  (38, 39, .aload 0, .null, [], []),
  (39, 42, .getfield 0, .null, [], [6, 0, 3]),
  (42, 45, .invokestatic 0, .null, [], [26, 4, 0]),
  (45, 46, .iload 1, .null, [], []),
  (46, 47, .aload 0, .null, [], []),
  (47, 50, .getfield 0, .null, [], [6, 3, 1]),
  (50, 51, .isub, .null, [], []),
  (51, 52, .istore 2, .null, [], []),
  (52, 53, .iload 2, .null, [], []),
  (53, 56, .ifCond .lt 0, .null, [], [94]),
  (56, 57, .aload 0, .null, [], []),
  (57, 58, .iload 2, .null, [], []),
  (58, 61, .invokestatic 0, .null, [], [30, 2, 2]),
  (61, 62, .lstore 3, .null, [], []),
  (62, 63, .aload 0, .null, [], []),
  (63, 64, .lload 3, .null, [], []),
  (64, 65, .iload 2, .null, [], []),
  (65, 68, .invokestatic 0, .null, [], [31, 3, 1]),
  (68, 71, .ifCond .ne 0, .null, [], [80]),
  (71, 72, .aload 0, .null, [], []),
  (72, 73, .iload 2, .null, [], []),
  (73, 76, .invokestatic 0, .null, [], [32, 2, 0]),
  (76, 77, .lload 3, .null, [], []),
  (77, 78, .nop, .long (1 : Int64), [], []),
  (78, 79, .lsub, .null, [], []),
  (79, 80, .lstore 3, .null, [], []),
  (80, 81, .aload 0, .null, [], []),
  (81, 84, .getfield 0, .null, [], [6, 1, 3]),
  (84, 85, .iload 2, .null, [], []),
  (85, 86, .lload 3, .null, [], []),
  (86, 87, .l2i, .null, [], []),
  (87, 88, .iastore, .null, [], []),
  (88, 91, .iinc 2 0, .int (-1 : Int32), [], []),
  (91, 94, .goto 0, .null, [], [52]),
  (94, 95, .aload 0, .null, [], []),
  (95, 98, .invokestatic 0, .null, [], [33, 1, 0]),
  (98, 99, .return_, .null, [], [])]
def zh_34 : List (Nat × List Nat) := [(52, [0, 1, 2]), (80, [0, 1, 2, 3])]
-- 35: PrimeCertificates$Sums.quotient:([I[I[I[I)V
def zo_35 : List (Nat × Nat × dzOp) := [
  (0, 1, .aload 0, .null, [], []),
  (1, 2, .aload 2, .null, [], []),
  (2, 5, .invokestatic 0, .null, [], [27, 2, 0]),
  (5, 6, .aload 0, .null, [], []),
  (6, 7, .aload 1, .null, [], []),
  (7, 10, .invokestatic 0, .null, [], [28, 2, 0]),
  (10, 11, .aload 0, .null, [], []),
  (11, 14, .invokestatic 0, .null, [], [34, 1, 0]),
  (14, 15, .aload 0, .null, [], []),
  (15, 18, .getfield 0, .null, [], [6, 1, 3]),
  (18, 19, .aload 3, .null, [], []),
  (19, 22, .invokestatic 0, .null, [], [14, 2, 0]),
  (22, 23, .aload 0, .null, [], []),
  (23, 26, .getfield 0, .null, [], [6, 0, 3]),
  (26, 28, .aload 4, .null, [], []),
  (28, 31, .invokestatic 0, .null, [], [14, 2, 0]),
  (31, 32, .return_, .null, [], [])]
def zh_35 : List (Nat × List Nat) := []
-- 36: PrimeCertificates.divide:(IIII)I
def zo_36 : List (Nat × Nat × dzOp) := [
  (0, 1, .iload 1, .null, [], []),
  (1, 2, .iload 2, .null, [], []),
  (2, 3, .iload 3, .null, [], []),
  (3, 6, .invokestatic 0, .null, [], [12, 3, 1]),
  (6, 9, .ifCond .eq 0, .null, [], [23]),
  (9, 11, .iload 4, .null, [], []),
  (11, 14, .invokestatic 0, .null, [], [8, 1, 1]),
  (14, 17, .ifCond .eq 0, .null, [], [23]),
  (17, 18, .iload 3, .null, [], []),
  (18, 20, .iload 4, .null, [], []),
  (20, 23, .if_icmp .ne 0, .null, [], [25]),
  (23, 24, .nop, .int (-1 : Int32), [], []),
  (24, 25, .ireturn, .null, [], [0]),
  (25, 26, .aload 0, .null, [], []),
  (26, 29, .getfield 0, .null, [], [0, 0, 3]),
  (29, 30, .iload 2, .null, [], []),
  (30, 31, .aaload, .null, [], []),
  (31, 34, .invokestatic 0, .null, [], [24, 1, 1]),
  (34, 37, .ifCond .eq 0, .null, [], [40]),
  (37, 39, .nop, .int (-2 : Int32), [], []),
  (39, 40, .ireturn, .null, [], [0]),
  (40, 41, .aload 0, .null, [], []),
  (41, 44, .getfield 0, .null, [], [0, 3, 3]),
  (44, 45, .aload 0, .null, [], []),
  (45, 48, .getfield 0, .null, [], [0, 0, 3]),
  (48, 49, .iload 1, .null, [], []),
  (49, 50, .aaload, .null, [], []),
  (50, 51, .aload 0, .null, [], []),
  (51, 54, .getfield 0, .null, [], [0, 0, 3]),
  (54, 55, .iload 2, .null, [], []),
  (55, 56, .aaload, .null, [], []),
  (56, 57, .aload 0, .null, [], []),
  (57, 60, .getfield 0, .null, [], [0, 1, 3]),
  (60, 61, .aload 0, .null, [], []),
  (61, 64, .getfield 0, .null, [], [0, 2, 3]),
  (64, 67, .invokestatic 0, .null, [], [35, 5, 0]),
  (67, 68, .aload 0, .null, [], []),
  (68, 71, .getfield 0, .null, [], [0, 2, 3]),
  (71, 72, .aload 0, .null, [], []),
  (72, 75, .getfield 0, .null, [], [0, 0, 3]),
  (75, 77, .iload 4, .null, [], []),
  (77, 78, .aaload, .null, [], []),
  (78, 81, .invokestatic 0, .null, [], [14, 2, 0]),
  (81, 82, .aload 0, .null, [], []),
  (82, 83, .iload 3, .null, [], []),
  (83, 86, .invokestatic 0, .null, [], [15, 2, 1]),
  (86, 87, .ireturn, .null, [], [0])]
def zh_36 : List (Nat × List Nat) := []
-- 37: PrimeCertificates$Sums.setSmall:([II)V
def zo_37 : List (Nat × Nat × dzOp) := [
  (0, 1, .aload 0, .null, [], []),
  (1, 2, .nop, .int (0 : Int32), [], []),
  (2, 5, .invokestatic 0, .null, [], [20, 2, 0]),
  (5, 6, .aload 0, .null, [], []),
  (6, 7, .nop, .int (0 : Int32), [], []),
  (7, 8, .iload 1, .null, [], []),
  (8, 9, .iastore, .null, [], []),
  (9, 10, .return_, .null, [], [])]
def zh_37 : List (Nat × List Nat) := []
-- 38: PrimeCertificates$Sums.powerModulo:([I[I[I[I)V
def zo_38 : List (Nat × Nat × dzOp) := [
  (0, 1, .aload 0, .null, [], []),
  (1, 2, .aload 3, .null, [], []),
  (2, 5, .invokestatic 0, .null, [], [27, 2, 0]),
  (5, 6, .aload 0, .null, [], []),
  (6, 7, .aload 1, .null, [], []),
  (7, 10, .invokestatic 0, .null, [], [28, 2, 0]),
  (10, 11, .aload 0, .null, [], []),
  (11, 14, .invokestatic 0, .null, [], [34, 1, 0]),
  (14, 15, .aload 0, .null, [], []),
  (15, 18, .getfield 0, .null, [], [6, 0, 3]),
  (18, 19, .aload 0, .null, [], []),
  (19, 22, .getfield 0, .null, [], [6, 5, 3]),
  (22, 25, .invokestatic 0, .null, [], [14, 2, 0]),
  (25, 26, .aload 0, .null, [], []),
  (26, 29, .getfield 0, .null, [], [6, 0, 3]),
  (29, 30, .nop, .int (1 : Int32), [], []),
  (30, 33, .invokestatic 0, .null, [], [37, 2, 0]),
  (33, 34, .aload 0, .null, [], []),
  (34, 37, .invokestatic 0, .null, [], [34, 1, 0]),
  (37, 38, .aload 0, .null, [], []),
  (38, 41, .getfield 0, .null, [], [6, 0, 3]),
  (41, 42, .aload 0, .null, [], []),
  (42, 45, .getfield 0, .null, [], [6, 6, 3]),
  (45, 48, .invokestatic 0, .null, [], [14, 2, 0]),
  (48, 50, .nop, .int (32 : Int32), [], []),
  (50, 51, .aload 2, .null, [], []),
  (51, 54, .invokestatic 0, .null, [], [19, 1, 1]),
  (54, 55, .imul, .null, [], []),
  (55, 56, .nop, .int (1 : Int32), [], []),
  (56, 57, .isub, .null, [], []),
  (57, 59, .istore 5, .null, [], []),
  (59, 61, .iload 5, .null, [], []),
  (61, 64, .ifCond .lt 0, .null, [], [142]),
  (64, 65, .aload 0, .null, [], []),
  (65, 66, .aload 0, .null, [], []),
  (66, 69, .getfield 0, .null, [], [6, 6, 3]),
  (69, 70, .aload 0, .null, [], []),
  (70, 73, .getfield 0, .null, [], [6, 6, 3]),
  (73, 76, .invokestatic 0, .null, [], [21, 3, 0]),
  (76, 77, .aload 0, .null, [], []),
  (77, 80, .invokestatic 0, .null, [], [34, 1, 0]),
  (80, 81, .aload 0, .null, [], []),
  (81, 84, .getfield 0, .null, [], [6, 0, 3]),
  (84, 85, .aload 0, .null, [], []),
  (85, 88, .getfield 0, .null, [], [6, 6, 3]),
  (88, 91, .invokestatic 0, .null, [], [14, 2, 0]),
  (91, 92, .aload 2, .null, [], []),
  (92, 94, .iload 5, .null, [], []),
  (94, 95, .nop, .int (5 : Int32), [], []),
  (95, 96, .ishr, .null, [], []),
  (96, 97, .iaload, .null, [], []),
  (97, 99, .iload 5, .null, [], []),
  (99, 101, .nop, .int (31 : Int32), [], []),
  (101, 102, .iand, .null, [], []),
  (102, 103, .iushr, .null, [], []),
  (103, 104, .nop, .int (1 : Int32), [], []),
  (104, 105, .iand, .null, [], []),
  (105, 106, .nop, .int (1 : Int32), [], []),
  (106, 109, .if_icmp .ne 0, .null, [], [136]),
  (109, 110, .aload 0, .null, [], []),
  (110, 111, .aload 0, .null, [], []),
  (111, 114, .getfield 0, .null, [], [6, 6, 3]),
  (114, 115, .aload 0, .null, [], []),
  (115, 118, .getfield 0, .null, [], [6, 5, 3]),
  (118, 121, .invokestatic 0, .null, [], [21, 3, 0]),
  (121, 122, .aload 0, .null, [], []),
  (122, 125, .invokestatic 0, .null, [], [34, 1, 0]),
  (125, 126, .aload 0, .null, [], []),
  (126, 129, .getfield 0, .null, [], [6, 0, 3]),
  (129, 130, .aload 0, .null, [], []),
  (130, 133, .getfield 0, .null, [], [6, 6, 3]),
  (133, 136, .invokestatic 0, .null, [], [14, 2, 0]),
  (136, 139, .iinc 5 0, .int (-1 : Int32), [], []),
  (139, 142, .goto 0, .null, [], [59]),
  (142, 143, .aload 0, .null, [], []),
  (143, 146, .getfield 0, .null, [], [6, 6, 3]),
  (146, 148, .aload 4, .null, [], []),
  (148, 151, .invokestatic 0, .null, [], [14, 2, 0]),
  (151, 152, .return_, .null, [], [])]
def zh_38 : List (Nat × List Nat) := [(59, [0, 1, 2, 3, 4, 5]), (136, [0, 1, 2, 3, 4, 5])]
-- 39: PrimeCertificates.power:(IIII)I
def zo_39 : List (Nat × Nat × dzOp) := [
  (0, 1, .iload 1, .null, [], []),
  (1, 2, .iload 2, .null, [], []),
  (2, 4, .iload 4, .null, [], []),
  (4, 7, .invokestatic 0, .null, [], [12, 3, 1]),
  (7, 10, .ifCond .eq 0, .null, [], [17]),
  (10, 11, .iload 3, .null, [], []),
  (11, 14, .invokestatic 0, .null, [], [8, 1, 1]),
  (14, 17, .ifCond .ne 0, .null, [], [19]),
  (17, 18, .nop, .int (-1 : Int32), [], []),
  (18, 19, .ireturn, .null, [], [0]),
  (19, 20, .aload 0, .null, [], []),
  (20, 23, .getfield 0, .null, [], [0, 0, 3]),
  (23, 24, .iload 3, .null, [], []),
  (24, 25, .aaload, .null, [], []),
  (25, 28, .invokestatic 0, .null, [], [24, 1, 1]),
  (28, 31, .ifCond .eq 0, .null, [], [34]),
  (31, 33, .nop, .int (-2 : Int32), [], []),
  (33, 34, .ireturn, .null, [], [0]),
  (34, 35, .aload 0, .null, [], []),
  (35, 38, .getfield 0, .null, [], [0, 3, 3]),
  (38, 39, .aload 0, .null, [], []),
  (39, 42, .getfield 0, .null, [], [0, 0, 3]),
  (42, 43, .iload 1, .null, [], []),
  (43, 44, .aaload, .null, [], []),
  (44, 45, .aload 0, .null, [], []),
  (45, 48, .getfield 0, .null, [], [0, 0, 3]),
  (48, 49, .iload 2, .null, [], []),
  (49, 50, .aaload, .null, [], []),
  (50, 51, .aload 0, .null, [], []),
  (51, 54, .getfield 0, .null, [], [0, 0, 3]),
  (54, 55, .iload 3, .null, [], []),
  (55, 56, .aaload, .null, [], []),
  (56, 57, .aload 0, .null, [], []),
  (57, 60, .getfield 0, .null, [], [0, 1, 3]),
  (60, 63, .invokestatic 0, .null, [], [38, 5, 0]),
  (63, 64, .aload 0, .null, [], []),
  (64, 66, .iload 4, .null, [], []),
  (66, 69, .invokestatic 0, .null, [], [15, 2, 1]),
  (69, 70, .ireturn, .null, [], [0])]
def zh_39 : List (Nat × List Nat) := []
-- 40: PrimeCertificates$Sums.greatestDivisor:([I[I[I)V
def zo_40 : List (Nat × Nat × dzOp) := [
  (0, 1, .aload 1, .null, [], []),
  (1, 2, .aload 0, .null, [], []),
  (2, 5, .getfield 0, .null, [], [6, 7, 3]),
  (5, 8, .invokestatic 0, .null, [], [14, 2, 0]),
  (8, 9, .aload 2, .null, [], []),
  (9, 10, .aload 0, .null, [], []),
  (10, 13, .getfield 0, .null, [], [6, 8, 3]),
  (13, 16, .invokestatic 0, .null, [], [14, 2, 0]),
  (16, 17, .nop, .int (0 : Int32), [], []),
  (17, 19, .istore 4, .null, [], []),
  (19, 21, .iload 4, .null, [], []),
  (21, 24, .nop, .int (1000 : Int32), [], []),
  (24, 27, .if_icmp .ge 0, .null, [], [85]),
  (27, 28, .aload 0, .null, [], []),
  (28, 31, .getfield 0, .null, [], [6, 8, 3]),
  (31, 34, .invokestatic 0, .null, [], [24, 1, 1]),
  (34, 37, .ifCond .ne 0, .null, [], [85]),
  (37, 38, .aload 0, .null, [], []),
  (38, 39, .aload 0, .null, [], []),
  (39, 42, .getfield 0, .null, [], [6, 8, 3]),
  (42, 45, .invokestatic 0, .null, [], [27, 2, 0]),
  (45, 46, .aload 0, .null, [], []),
  (46, 47, .aload 0, .null, [], []),
  (47, 50, .getfield 0, .null, [], [6, 7, 3]),
  (50, 53, .invokestatic 0, .null, [], [28, 2, 0]),
  (53, 54, .aload 0, .null, [], []),
  (54, 57, .invokestatic 0, .null, [], [34, 1, 0]),
  (57, 58, .aload 0, .null, [], []),
  (58, 61, .getfield 0, .null, [], [6, 8, 3]),
  (61, 62, .aload 0, .null, [], []),
  (62, 65, .getfield 0, .null, [], [6, 7, 3]),
  (65, 68, .invokestatic 0, .null, [], [14, 2, 0]),
  (68, 69, .aload 0, .null, [], []),
  (69, 72, .getfield 0, .null, [], [6, 0, 3]),
  (72, 73, .aload 0, .null, [], []),
  (73, 76, .getfield 0, .null, [], [6, 8, 3]),
  (76, 79, .invokestatic 0, .null, [], [14, 2, 0]),
  (79, 82, .iinc 4 0, .int (1 : Int32), [], []),
  (82, 85, .goto 0, .null, [], [19]),
  (85, 86, .aload 0, .null, [], []),
  (86, 89, .getfield 0, .null, [], [6, 7, 3]),
  (89, 90, .aload 3, .null, [], []),
  (90, 93, .invokestatic 0, .null, [], [14, 2, 0]),
  (93, 94, .return_, .null, [], [])]
def zh_40 : List (Nat × List Nat) := [(19, [0, 1, 2, 3, 4]), (85, [0, 1, 2, 3, 4])]
-- 41: PrimeCertificates.common:(III)I
def zo_41 : List (Nat × Nat × dzOp) := [
  (0, 1, .iload 1, .null, [], []),
  (1, 2, .iload 2, .null, [], []),
  (2, 3, .iload 3, .null, [], []),
  (3, 6, .invokestatic 0, .null, [], [12, 3, 1]),
  (6, 9, .ifCond .ne 0, .null, [], [11]),
  (9, 10, .nop, .int (-1 : Int32), [], []),
  (10, 11, .ireturn, .null, [], [0]),
  (11, 12, .aload 0, .null, [], []),
  (12, 15, .getfield 0, .null, [], [0, 3, 3]),
  (15, 16, .aload 0, .null, [], []),
  (16, 19, .getfield 0, .null, [], [0, 0, 3]),
  (19, 20, .iload 1, .null, [], []),
  (20, 21, .aaload, .null, [], []),
  (21, 22, .aload 0, .null, [], []),
  (22, 25, .getfield 0, .null, [], [0, 0, 3]),
  (25, 26, .iload 2, .null, [], []),
  (26, 27, .aaload, .null, [], []),
  (27, 28, .aload 0, .null, [], []),
  (28, 31, .getfield 0, .null, [], [0, 1, 3]),
  (31, 34, .invokestatic 0, .null, [], [40, 4, 0]),
  (34, 35, .aload 0, .null, [], []),
  (35, 36, .iload 3, .null, [], []),
  (36, 39, .invokestatic 0, .null, [], [15, 2, 1]),
  (39, 40, .ireturn, .null, [], [0])]
def zh_41 : List (Nat × List Nat) := []
-- 42: PrimeCertificates$Sums.order:([I[I)I
def zo_42 : List (Nat × Nat × dzOp) := [
  (0, 2, .nop, .int (7 : Int32), [], []),
  (2, 3, .istore 2, .null, [], []),
  (3, 4, .iload 2, .null, [], []),
  (4, 7, .ifCond .lt 0, .null, [], [48]),
  (7, 8, .aload 0, .null, [], []),
  (8, 9, .iload 2, .null, [], []),
  (9, 10, .iaload, .null, [], []),
  (10, 11, .aload 1, .null, [], []),
  (11, 12, .iload 2, .null, [], []),
  (12, 13, .iaload, .null, [], []),
  (13, 16, .if_icmp .eq 0, .null, [], [42]),
  (16, 17, .aload 0, .null, [], []),
  (17, 18, .iload 2, .null, [], []),
  (18, 19, .iaload, .null, [], []),
  (19, 20, .i2l, .null, [], []),
  (20, 23, .nop, .long (4294967295 : Int64), [], []),
  (23, 24, .land, .null, [], []),
  (24, 25, .aload 1, .null, [], []),
  (25, 26, .iload 2, .null, [], []),
  (26, 27, .iaload, .null, [], []),
  (27, 28, .i2l, .null, [], []),
  (28, 31, .nop, .long (4294967295 : Int64), [], []),
  (31, 32, .land, .null, [], []),
  (32, 33, .lcmp, .null, [], []),
  (33, 36, .ifCond .ge 0, .null, [], [40]),
  (36, 37, .nop, .int (-1 : Int32), [], []),
  (37, 40, .goto 0, .null, [], [41]),
  (40, 41, .nop, .int (1 : Int32), [], []),
  (41, 42, .ireturn, .null, [], [0]),
  (42, 45, .iinc 2 0, .int (-1 : Int32), [], []),
  (45, 48, .goto 0, .null, [], [3]),
  (48, 49, .nop, .int (0 : Int32), [], []),
  (49, 50, .ireturn, .null, [], [0])]
def zh_42 : List (Nat × List Nat) := [(3, [0, 1, 2])]
-- 43: PrimeCertificates.compare:(II)I
def zo_43 : List (Nat × Nat × dzOp) := [
  (0, 1, .iload 1, .null, [], []),
  (1, 4, .invokestatic 0, .null, [], [8, 1, 1]),
  (4, 7, .ifCond .eq 0, .null, [], [14]),
  (7, 8, .iload 2, .null, [], []),
  (8, 11, .invokestatic 0, .null, [], [8, 1, 1]),
  (11, 14, .ifCond .ne 0, .null, [], [16]),
  (14, 15, .nop, .int (2 : Int32), [], []),
  (15, 16, .ireturn, .null, [], [0]),
  (16, 17, .aload 0, .null, [], []),
  (17, 20, .getfield 0, .null, [], [0, 0, 3]),
  (20, 21, .iload 1, .null, [], []),
  (21, 22, .aaload, .null, [], []),
  (22, 23, .aload 0, .null, [], []),
  (23, 26, .getfield 0, .null, [], [0, 0, 3]),
  (26, 27, .iload 2, .null, [], []),
  (27, 28, .aaload, .null, [], []),
  (28, 31, .invokestatic 0, .null, [], [42, 2, 1]),
  (31, 32, .ireturn, .null, [], [0])]
def zh_43 : List (Nat × List Nat) := []
-- 44: PrimeCertificates$Tape.room:()I
def zo_44 : List (Nat × Nat × dzOp) := [
  (0, 3, .nop, .int (4000 : Int32), [], []),
  (3, 4, .aload 0, .null, [], []),
  (4, 7, .getfield 0, .null, [], [7, 1, 1]),
  (7, 8, .isub, .null, [], []),
  (8, 9, .ireturn, .null, [], [0])]
def zh_44 : List (Nat × List Nat) := []
-- 45: PrimeCertificates$Tape.append:(I)V
def zo_45 : List (Nat × Nat × dzOp) := [
  (0, 1, .aload 0, .null, [], []),
  (1, 4, .getfield 0, .null, [], [7, 1, 1]),
  (4, 7, .nop, .int (4000 : Int32), [], []),
  (7, 10, .if_icmp .ge 0, .null, [], [30]),
  (10, 11, .aload 0, .null, [], []),
  (11, 14, .getfield 0, .null, [], [7, 0, 3]),
  (14, 15, .aload 0, .null, [], []),
  (15, 18, .getfield 0, .null, [], [7, 1, 1]),
  (18, 19, .iload 1, .null, [], []),
  (19, 20, .iastore, .null, [], []),
  (20, 21, .aload 0, .null, [], []),
  (21, 22, .dup, .null, [], []),
  (22, 25, .getfield 0, .null, [], [7, 1, 1]),
  (25, 26, .nop, .int (1 : Int32), [], []),
  (26, 27, .iadd, .null, [], []),
  (27, 30, .putfield 0, .null, [], [7, 1, 1]),
  (30, 31, .return_, .null, [], [])]
def zh_45 : List (Nat × List Nat) := []
-- 46: PrimeCertificates.say:(I)I
def zo_46 : List (Nat × Nat × dzOp) := [
  (0, 1, .aload 0, .null, [], []),
  (1, 4, .getfield 0, .null, [], [0, 4, 3]),
  (4, 7, .invokestatic 0, .null, [], [44, 1, 1]),
  (7, 10, .ifCond .ne 0, .null, [], [13]),
  (10, 12, .nop, .int (-3 : Int32), [], []),
  (12, 13, .ireturn, .null, [], [0]),
  (13, 14, .aload 0, .null, [], []),
  (14, 17, .getfield 0, .null, [], [0, 4, 3]),
  (17, 18, .iload 1, .null, [], []),
  (18, 21, .invokestatic 0, .null, [], [45, 2, 0]),
  (21, 22, .aload 0, .null, [], []),
  (22, 25, .getfield 0, .null, [], [0, 4, 3]),
  (25, 28, .getfield 0, .null, [], [7, 1, 1]),
  (28, 29, .ireturn, .null, [], [0])]
def zh_46 : List (Nat × List Nat) := []
-- 47: PrimeCertificates$Lines.forgetBehind:(I)V
def zo_47 : List (Nat × Nat × dzOp) := [
  (0, 1, .aload 0, .null, [], []),
  (1, 4, .getfield 0, .null, [], [4, 2, 1]),
  (4, 7, .ifCond .le 0, .null, [], [35]),
  (7, 8, .aload 0, .null, [], []),
  (8, 11, .getfield 0, .null, [], [4, 1, 3]),
  (11, 12, .aload 0, .null, [], []),
  (12, 15, .getfield 0, .null, [], [4, 2, 1]),
  (15, 16, .nop, .int (1 : Int32), [], []),
  (16, 17, .isub, .null, [], []),
  (17, 18, .iaload, .null, [], []),
  (18, 19, .iload 1, .null, [], []),
  (19, 22, .if_icmp .le 0, .null, [], [35]),
  (22, 23, .aload 0, .null, [], []),
  (23, 24, .dup, .null, [], []),
  (24, 27, .getfield 0, .null, [], [4, 2, 1]),
  (27, 28, .nop, .int (1 : Int32), [], []),
  (28, 29, .isub, .null, [], []),
  (29, 32, .putfield 0, .null, [], [4, 2, 1]),
  (32, 35, .goto 0, .null, [], [0]),
  (35, 36, .return_, .null, [], [])]
def zh_47 : List (Nat × List Nat) := [(0, [0, 1])]
-- 48: PrimeCertificates.cut:(I)Z
def zo_48 : List (Nat × Nat × dzOp) := [
  (0, 1, .iload 1, .null, [], []),
  (1, 4, .ifCond .lt 0, .null, [], [15]),
  (4, 5, .iload 1, .null, [], []),
  (5, 6, .aload 0, .null, [], []),
  (6, 9, .getfield 0, .null, [], [0, 4, 3]),
  (9, 12, .getfield 0, .null, [], [7, 1, 1]),
  (12, 15, .if_icmp .le 0, .null, [], [17]),
  (15, 16, .nop, .int (0 : Int32), [], []),
  (16, 17, .ireturn, .null, [], [1]),
  (17, 18, .aload 0, .null, [], []),
  (18, 21, .getfield 0, .null, [], [0, 4, 3]),
  (21, 22, .iload 1, .null, [], []),
  (22, 25, .putfield 0, .null, [], [7, 1, 1]),
  (25, 26, .aload 0, .null, [], []),
  (26, 29, .getfield 0, .null, [], [0, 5, 3]),
  (29, 30, .iload 1, .null, [], []),
  (30, 33, .invokestatic 0, .null, [], [47, 2, 0]),
  (33, 34, .nop, .int (1 : Int32), [], []),
  (34, 35, .ireturn, .null, [], [1])]
def zh_48 : List (Nat × List Nat) := []
-- 49: PrimeCertificates.length:()I
def zo_49 : List (Nat × Nat × dzOp) := [
  (0, 1, .aload 0, .null, [], []),
  (1, 4, .getfield 0, .null, [], [0, 4, 3]),
  (4, 7, .getfield 0, .null, [], [7, 1, 1]),
  (7, 8, .ireturn, .null, [], [0])]
def zh_49 : List (Nat × List Nat) := []
-- 50: PrimeCertificates.at:(I)I
def zo_50 : List (Nat × Nat × dzOp) := [
  (0, 1, .iload 1, .null, [], []),
  (1, 4, .ifCond .lt 0, .null, [], [27]),
  (4, 5, .iload 1, .null, [], []),
  (5, 6, .aload 0, .null, [], []),
  (6, 9, .getfield 0, .null, [], [0, 4, 3]),
  (9, 12, .getfield 0, .null, [], [7, 1, 1]),
  (12, 15, .if_icmp .ge 0, .null, [], [27]),
  (15, 16, .aload 0, .null, [], []),
  (16, 19, .getfield 0, .null, [], [0, 4, 3]),
  (19, 22, .getfield 0, .null, [], [7, 0, 3]),
  (22, 23, .iload 1, .null, [], []),
  (23, 24, .iaload, .null, [], []),
  (24, 27, .goto 0, .null, [], [28]),
  (27, 28, .nop, .int (0 : Int32), [], []),
  (28, 29, .ireturn, .null, [], [0])]
def zh_50 : List (Nat × List Nat) := []
-- 51: PrimeCertificates$Lines.end:()I
def zo_51 : List (Nat × Nat × dzOp) := [
  (0, 1, .aload 0, .null, [], []),
  (1, 4, .getfield 0, .null, [], [4, 2, 1]),
  (4, 7, .ifCond .ne 0, .null, [], [11]),
  (7, 8, .nop, .int (0 : Int32), [], []),
  (8, 11, .goto 0, .null, [], [22]),
  (11, 12, .aload 0, .null, [], []),
  (12, 15, .getfield 0, .null, [], [4, 1, 3]),
  (15, 16, .aload 0, .null, [], []),
  (16, 19, .getfield 0, .null, [], [4, 2, 1]),
  (19, 20, .nop, .int (1 : Int32), [], []),
  (20, 21, .isub, .null, [], []),
  (21, 22, .iaload, .null, [], []),
  (22, 23, .ireturn, .null, [], [0])]
def zh_51 : List (Nat × List Nat) := []
-- 52: PrimeCertificates$Checker.refuse:(II)Z
def zo_52 : List (Nat × Nat × dzOp) := [
  (0, 1, .aload 0, .null, [], []),
  (1, 2, .iload 1, .null, [], []),
  (2, 5, .putfield 0, .null, [], [2, 11, 1]),
  (5, 6, .aload 0, .null, [], []),
  (6, 7, .iload 2, .null, [], []),
  (7, 10, .putfield 0, .null, [], [2, 12, 1]),
  (10, 11, .nop, .int (0 : Int32), [], []),
  (11, 12, .ireturn, .null, [], [1])]
def zh_52 : List (Nat × List Nat) := []
-- 53: PrimeCertificates$Checker.take:()Z
def zo_53 : List (Nat × Nat × dzOp) := [
  (0, 1, .aload 0, .null, [], []),
  (1, 4, .getfield 0, .null, [], [2, 6, 1]),
  (4, 5, .aload 0, .null, [], []),
  (5, 8, .getfield 0, .null, [], [2, 0, 3]),
  (8, 11, .getfield 0, .null, [], [7, 1, 1]),
  (11, 14, .if_icmp .lt 0, .null, [], [27]),
  (14, 15, .aload 0, .null, [], []),
  (15, 16, .nop, .int (1 : Int32), [], []),
  (16, 17, .aload 0, .null, [], []),
  (17, 20, .getfield 0, .null, [], [2, 0, 3]),
  (20, 23, .getfield 0, .null, [], [7, 1, 1]),
  (23, 26, .invokestatic 0, .null, [], [52, 3, 1]),
  (26, 27, .ireturn, .null, [], [1]),
  (27, 28, .aload 0, .null, [], []),
  (28, 29, .aload 0, .null, [], []),
  (29, 32, .getfield 0, .null, [], [2, 0, 3]),
  (32, 35, .getfield 0, .null, [], [7, 0, 3]),
  (35, 36, .aload 0, .null, [], []),
  (36, 39, .getfield 0, .null, [], [2, 6, 1]),
  (39, 40, .iaload, .null, [], []),
  (40, 43, .putfield 0, .null, [], [2, 7, 1]),
  (43, 44, .aload 0, .null, [], []),
  (44, 45, .dup, .null, [], []),
  (45, 48, .getfield 0, .null, [], [2, 6, 1]),
  (48, 49, .nop, .int (1 : Int32), [], []),
  (49, 50, .iadd, .null, [], []),
  (50, 53, .putfield 0, .null, [], [2, 6, 1]),
  (53, 54, .nop, .int (1 : Int32), [], []),
  (54, 55, .ireturn, .null, [], [1])]
def zh_53 : List (Nat × List Nat) := []
-- 54: PrimeCertificates.isSmallPrime:(I)Z
def zo_54 : List (Nat × Nat × dzOp) := [
  (0, 1, .nop, .int (2 : Int32), [], []),
  (1, 2, .istore 1, .null, [], []),
  (2, 3, .iload 1, .null, [], []),
  (3, 4, .iload 0, .null, [], []),
  (4, 7, .if_icmp .ge 0, .null, [], [28]),
  (7, 8, .iload 1, .null, [], []),
  (8, 9, .iload 1, .null, [], []),
  (9, 10, .imul, .null, [], []),
  (10, 11, .iload 0, .null, [], []),
  (11, 14, .if_icmp .gt 0, .null, [], [28]),
  (14, 15, .iload 0, .null, [], []),
  (15, 16, .iload 1, .null, [], []),
  (16, 17, .irem, .null, [], []),
  (17, 20, .ifCond .ne 0, .null, [], [22]),
  (20, 21, .nop, .int (0 : Int32), [], []),
  (21, 22, .ireturn, .null, [], [1]),
  (22, 25, .iinc 1 0, .int (1 : Int32), [], []),
  (25, 28, .goto 0, .null, [], [2]),
  (28, 29, .iload 0, .null, [], []),
  (29, 30, .nop, .int (2 : Int32), [], []),
  (30, 33, .if_icmp .lt 0, .null, [], [37]),
  (33, 34, .nop, .int (1 : Int32), [], []),
  (34, 37, .goto 0, .null, [], [38]),
  (37, 38, .nop, .int (0 : Int32), [], []),
  (38, 39, .ireturn, .null, [], [1])]
def zh_54 : List (Nat × List Nat) := [(2, [0, 1]), (28, [0, 1])]
-- 55: PrimeCertificates$Checker.refuseTaken:(I)Z
def zo_55 : List (Nat × Nat × dzOp) := [
  (0, 1, .aload 0, .null, [], []),
  (1, 2, .iload 1, .null, [], []),
  (2, 3, .aload 0, .null, [], []),
  (3, 6, .getfield 0, .null, [], [2, 6, 1]),
  (6, 7, .nop, .int (1 : Int32), [], []),
  (7, 8, .isub, .null, [], []),
  (8, 11, .invokestatic 0, .null, [], [52, 3, 1]),
  (11, 12, .ireturn, .null, [], [1])]
def zh_55 : List (Nat × List Nat) := []
-- 56: PrimeCertificates$Checker.readSmallPrime:([I)Z
def zo_56 : List (Nat × Nat × dzOp) := [
  (0, 1, .aload 0, .null, [], []),
  (1, 4, .invokestatic 0, .null, [], [53, 1, 1]),
  (4, 7, .ifCond .ne 0, .null, [], [9]),
  (7, 8, .nop, .int (0 : Int32), [], []),
  (8, 9, .ireturn, .null, [], [1]),
  (9, 10, .aload 0, .null, [], []),
  (10, 13, .getfield 0, .null, [], [2, 7, 1]),
  (13, 15, .nop, .int (65535 : Int32), [], []),
  (15, 18, .if_icmp .gt 0, .null, [], [28]),
  (18, 19, .aload 0, .null, [], []),
  (19, 22, .getfield 0, .null, [], [2, 7, 1]),
  (22, 25, .invokestatic 0, .null, [], [54, 1, 1]),
  (25, 28, .ifCond .ne 0, .null, [], [34]),
  (28, 29, .aload 0, .null, [], []),
  (29, 30, .nop, .int (3 : Int32), [], []),
  (30, 33, .invokestatic 0, .null, [], [55, 2, 1]),
  (33, 34, .ireturn, .null, [], [1]),
  (34, 35, .aload 1, .null, [], []),
  (35, 36, .aload 0, .null, [], []),
  (36, 39, .getfield 0, .null, [], [2, 7, 1]),
  (39, 42, .invokestatic 0, .null, [], [37, 2, 0]),
  (42, 43, .nop, .int (1 : Int32), [], []),
  (43, 44, .ireturn, .null, [], [1])]
def zh_56 : List (Nat × List Nat) := [(28, [0, 1])]
-- 57: PrimeCertificates$Sums.isAtMost:([II)Z
def zo_57 : List (Nat × Nat × dzOp) := [
  (0, 1, .aload 0, .null, [], []),
  (1, 4, .invokestatic 0, .null, [], [19, 1, 1]),
  (4, 5, .nop, .int (1 : Int32), [], []),
  (5, 8, .if_icmp .gt 0, .null, [], [26]),
  (8, 9, .aload 0, .null, [], []),
  (9, 10, .nop, .int (0 : Int32), [], []),
  (10, 11, .iaload, .null, [], []),
  (11, 12, .i2l, .null, [], []),
  (12, 15, .nop, .long (4294967295 : Int64), [], []),
  (15, 16, .land, .null, [], []),
  (16, 17, .iload 1, .null, [], []),
  (17, 18, .i2l, .null, [], []),
  (18, 19, .lcmp, .null, [], []),
  (19, 22, .ifCond .gt 0, .null, [], [26]),
  (22, 23, .nop, .int (1 : Int32), [], []),
  (23, 26, .goto 0, .null, [], [27]),
  (26, 27, .nop, .int (0 : Int32), [], []),
  (27, 28, .ireturn, .null, [], [1])]
def zh_57 : List (Nat × List Nat) := []
-- 58: PrimeCertificates$Checker.readNumber:([I)Z
def zo_58 : List (Nat × Nat × dzOp) := [
  (0, 1, .aload 0, .null, [], []),
  (1, 4, .invokestatic 0, .null, [], [53, 1, 1]),
  (4, 7, .ifCond .ne 0, .null, [], [9]),
  (7, 8, .nop, .int (0 : Int32), [], []),
  (8, 9, .ireturn, .null, [], [1]),
  (9, 10, .aload 0, .null, [], []),
  (10, 13, .getfield 0, .null, [], [2, 6, 1]),
  (13, 14, .nop, .int (1 : Int32), [], []),
  (14, 15, .isub, .null, [], []),
  (15, 16, .istore 2, .null, [], []),
  (16, 17, .aload 0, .null, [], []),
  (17, 20, .getfield 0, .null, [], [2, 7, 1]),
  (20, 21, .istore 3, .null, [], []),
  (21, 22, .iload 3, .null, [], []),
  (22, 23, .nop, .int (1 : Int32), [], []),
  (23, 26, .if_icmp .lt 0, .null, [], [32]),
  (26, 27, .iload 3, .null, [], []),
  (27, 29, .nop, .int (8 : Int32), [], []),
  (29, 32, .if_icmp .le 0, .null, [], [38]),
  (32, 33, .aload 0, .null, [], []),
  (33, 34, .nop, .int (2 : Int32), [], []),
  (34, 37, .invokestatic 0, .null, [], [55, 2, 1]),
  (37, 38, .ireturn, .null, [], [1]),
  (38, 39, .aload 1, .null, [], []),
  (39, 40, .nop, .int (0 : Int32), [], []),
  (40, 43, .invokestatic 0, .null, [], [20, 2, 0]),
  (43, 44, .nop, .int (0 : Int32), [], []),
  (44, 46, .istore 4, .null, [], []),
  (46, 48, .iload 4, .null, [], []),
  (48, 49, .iload 3, .null, [], []),
  (49, 52, .if_icmp .ge 0, .null, [], [75]),
  (52, 53, .aload 0, .null, [], []),
  (53, 56, .invokestatic 0, .null, [], [53, 1, 1]),
  (56, 59, .ifCond .ne 0, .null, [], [61]),
  (59, 60, .nop, .int (0 : Int32), [], []),
  (60, 61, .ireturn, .null, [], [1]),
  (61, 62, .aload 1, .null, [], []),
  (62, 64, .iload 4, .null, [], []),
  (64, 65, .aload 0, .null, [], []),
  (65, 68, .getfield 0, .null, [], [2, 7, 1]),
  (68, 69, .iastore, .null, [], []),
  (69, 72, .iinc 4 0, .int (1 : Int32), [], []),
  (72, 75, .goto 0, .null, [], [46]),
  (75, 76, .aload 0, .null, [], []),
  (76, 79, .getfield 0, .null, [], [2, 7, 1]),
  (79, 82, .ifCond .ne 0, .null, [], [88]),
  (82, 83, .aload 0, .null, [], []),
  (83, 84, .nop, .int (2 : Int32), [], []),
  (84, 87, .invokestatic 0, .null, [], [55, 2, 1]),
  (87, 88, .ireturn, .null, [], [1]),
  (88, 89, .aload 1, .null, [], []),
  (89, 90, .nop, .int (2 : Int32), [], []),
  (90, 93, .invokestatic 0, .null, [], [57, 2, 1]),
  (93, 96, .ifCond .eq 0, .null, [], [105]),
  (96, 97, .aload 0, .null, [], []),
  (97, 98, .nop, .int (4 : Int32), [], []),
  (98, 99, .iload 2, .null, [], []),
  (99, 102, .invokestatic 0, .null, [], [52, 3, 1]),
  (102, 105, .ifCond .eq 0, .null, [], [109]),
  (105, 106, .nop, .int (1 : Int32), [], []),
  (106, 109, .goto 0, .null, [], [110]),
  (109, 110, .nop, .int (0 : Int32), [], []),
  (110, 111, .ireturn, .null, [], [1])]
def zh_58 : List (Nat × List Nat) := [(32, [0, 1, 2, 3]), (46, [0, 1, 2, 3, 4]), (105, [0, 1, 2, 3, 4])]
-- 59: PrimeCertificates$Checker.isWitness:(I[I)Z
def zo_59 : List (Nat × Nat × dzOp) := [
  (0, 1, .iload 0, .null, [], []),
  (1, 2, .nop, .int (2 : Int32), [], []),
  (2, 5, .if_icmp .lt 0, .null, [], [17]),
  (5, 6, .aload 1, .null, [], []),
  (6, 7, .iload 0, .null, [], []),
  (7, 10, .invokestatic 0, .null, [], [57, 2, 1]),
  (10, 13, .ifCond .ne 0, .null, [], [17]),
  (13, 14, .nop, .int (1 : Int32), [], []),
  (14, 17, .goto 0, .null, [], [18]),
  (17, 18, .nop, .int (0 : Int32), [], []),
  (18, 19, .ireturn, .null, [], [1])]
def zh_59 : List (Nat × List Nat) := []
-- 60: PrimeCertificates$Checker.readRoot:([I)Z
def zo_60 : List (Nat × Nat × dzOp) := [
  (0, 1, .aload 0, .null, [], []),
  (1, 4, .invokestatic 0, .null, [], [53, 1, 1]),
  (4, 7, .ifCond .ne 0, .null, [], [9]),
  (7, 8, .nop, .int (0 : Int32), [], []),
  (8, 9, .ireturn, .null, [], [1]),
  (9, 10, .aload 0, .null, [], []),
  (10, 11, .aload 0, .null, [], []),
  (11, 14, .getfield 0, .null, [], [2, 7, 1]),
  (14, 17, .putfield 0, .null, [], [2, 9, 1]),
  (17, 18, .aload 0, .null, [], []),
  (18, 21, .getfield 0, .null, [], [2, 9, 1]),
  (21, 22, .aload 1, .null, [], []),
  (22, 25, .invokestatic 0, .null, [], [59, 2, 1]),
  (25, 28, .ifCond .ne 0, .null, [], [37]),
  (28, 29, .aload 0, .null, [], []),
  (29, 31, .nop, .int (8 : Int32), [], []),
  (31, 34, .invokestatic 0, .null, [], [55, 2, 1]),
  (34, 37, .ifCond .eq 0, .null, [], [41]),
  (37, 38, .nop, .int (1 : Int32), [], []),
  (38, 41, .goto 0, .null, [], [42]),
  (41, 42, .nop, .int (0 : Int32), [], []),
  (42, 43, .ireturn, .null, [], [1])]
def zh_60 : List (Nat × List Nat) := [(37, [0, 1])]
-- 61: PrimeCertificates$Checker.factorNumber:(I)[I
def zo_61 : List (Nat × Nat × dzOp) := [
  (0, 1, .aload 0, .null, [], []),
  (1, 4, .getfield 0, .null, [], [2, 1, 3]),
  (4, 7, .getfield 0, .null, [], [4, 0, 3]),
  (7, 8, .aload 0, .null, [], []),
  (8, 11, .getfield 0, .null, [], [2, 4, 3]),
  (11, 14, .getfield 0, .null, [], [3, 0, 3]),
  (14, 15, .iload 1, .null, [], []),
  (15, 16, .iaload, .null, [], []),
  (16, 17, .aaload, .null, [], []),
  (17, 18, .areturn, .null, [], [])]
def zh_61 : List (Nat × List Nat) := []
-- 62: PrimeCertificates$Checker.readFactorLine:(II)Z
def zo_62 : List (Nat × Nat × dzOp) := [
  (0, 1, .aload 0, .null, [], []),
  (1, 4, .invokestatic 0, .null, [], [53, 1, 1]),
  (4, 7, .ifCond .ne 0, .null, [], [9]),
  (7, 8, .nop, .int (0 : Int32), [], []),
  (8, 9, .ireturn, .null, [], [1]),
  (9, 10, .aload 0, .null, [], []),
  (10, 13, .getfield 0, .null, [], [2, 7, 1]),
  (13, 16, .ifCond .lt 0, .null, [], [24]),
  (16, 17, .aload 0, .null, [], []),
  (17, 20, .getfield 0, .null, [], [2, 7, 1]),
  (20, 21, .iload 2, .null, [], []),
  (21, 24, .if_icmp .lt 0, .null, [], [30]),
  (24, 25, .aload 0, .null, [], []),
  (25, 26, .nop, .int (2 : Int32), [], []),
  (26, 29, .invokestatic 0, .null, [], [55, 2, 1]),
  (29, 30, .ireturn, .null, [], [1]),
  (30, 31, .aload 0, .null, [], []),
  (31, 34, .getfield 0, .null, [], [2, 4, 3]),
  (34, 37, .getfield 0, .null, [], [3, 0, 3]),
  (37, 38, .iload 1, .null, [], []),
  (38, 39, .aload 0, .null, [], []),
  (39, 42, .getfield 0, .null, [], [2, 7, 1]),
  (42, 43, .iastore, .null, [], []),
  (43, 44, .iload 1, .null, [], []),
  (44, 47, .ifCond .eq 0, .null, [], [73]),
  (47, 48, .aload 0, .null, [], []),
  (48, 49, .iload 1, .null, [], []),
  (49, 50, .nop, .int (1 : Int32), [], []),
  (50, 51, .isub, .null, [], []),
  (51, 54, .invokestatic 0, .null, [], [61, 2, 3]),
  (54, 55, .aload 0, .null, [], []),
  (55, 56, .iload 1, .null, [], []),
  (56, 59, .invokestatic 0, .null, [], [61, 2, 3]),
  (59, 62, .invokestatic 0, .null, [], [42, 2, 1]),
  (62, 65, .ifCond .lt 0, .null, [], [73]),
  (65, 66, .aload 0, .null, [], []),
  (66, 67, .nop, .int (5 : Int32), [], []),
  (67, 70, .invokestatic 0, .null, [], [55, 2, 1]),
  (70, 73, .ifCond .eq 0, .null, [], [77]),
  (73, 74, .nop, .int (1 : Int32), [], []),
  (74, 77, .goto 0, .null, [], [78]),
  (77, 78, .nop, .int (0 : Int32), [], []),
  (78, 79, .ireturn, .null, [], [1])]
def zh_62 : List (Nat × List Nat) := [(24, [0, 1, 2]), (73, [0, 1, 2])]
-- 63: PrimeCertificates$Checker.readExponent:(I)Z
def zo_63 : List (Nat × Nat × dzOp) := [
  (0, 1, .aload 0, .null, [], []),
  (1, 4, .invokestatic 0, .null, [], [53, 1, 1]),
  (4, 7, .ifCond .ne 0, .null, [], [9]),
  (7, 8, .nop, .int (0 : Int32), [], []),
  (8, 9, .ireturn, .null, [], [1]),
  (9, 10, .aload 0, .null, [], []),
  (10, 13, .getfield 0, .null, [], [2, 4, 3]),
  (13, 16, .getfield 0, .null, [], [3, 1, 3]),
  (16, 17, .iload 1, .null, [], []),
  (17, 18, .aload 0, .null, [], []),
  (18, 21, .getfield 0, .null, [], [2, 7, 1]),
  (21, 22, .iastore, .null, [], []),
  (22, 23, .aload 0, .null, [], []),
  (23, 26, .getfield 0, .null, [], [2, 7, 1]),
  (26, 27, .nop, .int (1 : Int32), [], []),
  (27, 30, .if_icmp .lt 0, .null, [], [40]),
  (30, 31, .aload 0, .null, [], []),
  (31, 34, .getfield 0, .null, [], [2, 7, 1]),
  (34, 37, .nop, .int (255 : Int32), [], []),
  (37, 40, .if_icmp .le 0, .null, [], [48]),
  (40, 41, .aload 0, .null, [], []),
  (41, 42, .nop, .int (2 : Int32), [], []),
  (42, 45, .invokestatic 0, .null, [], [55, 2, 1]),
  (45, 48, .ifCond .eq 0, .null, [], [52]),
  (48, 49, .nop, .int (1 : Int32), [], []),
  (49, 52, .goto 0, .null, [], [53]),
  (52, 53, .nop, .int (0 : Int32), [], []),
  (53, 54, .ireturn, .null, [], [1])]
def zh_63 : List (Nat × List Nat) := [(40, [0, 1]), (48, [0, 1])]
-- 64: PrimeCertificates$Checker.readFactors:(I)Z
def zo_64 : List (Nat × Nat × dzOp) := [
  (0, 1, .aload 0, .null, [], []),
  (1, 4, .invokestatic 0, .null, [], [53, 1, 1]),
  (4, 7, .ifCond .ne 0, .null, [], [9]),
  (7, 8, .nop, .int (0 : Int32), [], []),
  (8, 9, .ireturn, .null, [], [1]),
  (9, 10, .aload 0, .null, [], []),
  (10, 13, .getfield 0, .null, [], [2, 7, 1]),
  (13, 14, .nop, .int (1 : Int32), [], []),
  (14, 17, .if_icmp .lt 0, .null, [], [26]),
  (17, 18, .aload 0, .null, [], []),
  (18, 21, .getfield 0, .null, [], [2, 7, 1]),
  (21, 23, .nop, .int (40 : Int32), [], []),
  (23, 26, .if_icmp .le 0, .null, [], [32]),
  (26, 27, .aload 0, .null, [], []),
  (27, 28, .nop, .int (2 : Int32), [], []),
  (28, 31, .invokestatic 0, .null, [], [55, 2, 1]),
  (31, 32, .ireturn, .null, [], [1]),
  (32, 33, .aload 0, .null, [], []),
  (33, 34, .aload 0, .null, [], []),
  (34, 37, .getfield 0, .null, [], [2, 6, 1]),
  (37, 38, .nop, .int (1 : Int32), [], []),
  (38, 39, .isub, .null, [], []),
  (39, 42, .putfield 0, .null, [], [2, 10, 1]),
  (42, 43, .aload 0, .null, [], []),
  (43, 46, .getfield 0, .null, [], [2, 4, 3]),
  (46, 47, .aload 0, .null, [], []),
  (47, 50, .getfield 0, .null, [], [2, 7, 1]),
  (50, 53, .putfield 0, .null, [], [3, 3, 1]),
  (53, 54, .nop, .int (0 : Int32), [], []),
  (54, 55, .istore 2, .null, [], []),
  (55, 56, .iload 2, .null, [], []),
  (56, 57, .aload 0, .null, [], []),
  (57, 60, .getfield 0, .null, [], [2, 4, 3]),
  (60, 63, .getfield 0, .null, [], [3, 3, 1]),
  (63, 66, .if_icmp .ge 0, .null, [], [121]),
  (66, 67, .aload 0, .null, [], []),
  (67, 68, .iload 2, .null, [], []),
  (68, 69, .iload 1, .null, [], []),
  (69, 72, .invokestatic 0, .null, [], [62, 3, 1]),
  (72, 75, .ifCond .eq 0, .null, [], [83]),
  (75, 76, .aload 0, .null, [], []),
  (76, 77, .iload 2, .null, [], []),
  (77, 80, .invokestatic 0, .null, [], [63, 2, 1]),
  (80, 83, .ifCond .ne 0, .null, [], [85]),
  (83, 84, .nop, .int (0 : Int32), [], []),
  (84, 85, .ireturn, .null, [], [1]),
  (85, 86, .aload 0, .null, [], []),
  (86, 89, .getfield 0, .null, [], [2, 8, 1]),
  (89, 90, .nop, .int (3 : Int32), [], []),
  (90, 93, .if_icmp .ne 0, .null, [], [115]),
  (93, 94, .aload 0, .null, [], []),
  (94, 97, .invokestatic 0, .null, [], [53, 1, 1]),
  (97, 100, .ifCond .ne 0, .null, [], [102]),
  (100, 101, .nop, .int (0 : Int32), [], []),
  (101, 102, .ireturn, .null, [], [1]),
  (102, 103, .aload 0, .null, [], []),
  (103, 106, .getfield 0, .null, [], [2, 4, 3]),
  (106, 109, .getfield 0, .null, [], [3, 2, 3]),
  (109, 110, .iload 2, .null, [], []),
  (110, 111, .aload 0, .null, [], []),
  (111, 114, .getfield 0, .null, [], [2, 7, 1]),
  (114, 115, .iastore, .null, [], []),
  (115, 118, .iinc 2 0, .int (1 : Int32), [], []),
  (118, 121, .goto 0, .null, [], [55]),
  (121, 122, .nop, .int (1 : Int32), [], []),
  (122, 123, .ireturn, .null, [], [1])]
def zh_64 : List (Nat × List Nat) := [(26, [0, 1]), (55, [0, 1, 2]), (115, [0, 1, 2])]
-- 65: PrimeCertificates$Checker.readLine:(I)Z
def zo_65 : List (Nat × Nat × dzOp) := [
  (0, 1, .aload 0, .null, [], []),
  (1, 4, .invokestatic 0, .null, [], [53, 1, 1]),
  (4, 7, .ifCond .ne 0, .null, [], [9]),
  (7, 8, .nop, .int (0 : Int32), [], []),
  (8, 9, .ireturn, .null, [], [1]),
  (9, 10, .aload 0, .null, [], []),
  (10, 11, .aload 0, .null, [], []),
  (11, 14, .getfield 0, .null, [], [2, 7, 1]),
  (14, 17, .putfield 0, .null, [], [2, 8, 1]),
  (17, 18, .aload 0, .null, [], []),
  (18, 21, .getfield 0, .null, [], [2, 1, 3]),
  (21, 24, .getfield 0, .null, [], [4, 0, 3]),
  (24, 25, .iload 1, .null, [], []),
  (25, 26, .aaload, .null, [], []),
  (26, 27, .astore 2, .null, [], []),
  (27, 28, .aload 0, .null, [], []),
  (28, 31, .getfield 0, .null, [], [2, 8, 1]),
  (31, 56, .lookupswitch 0 #[], .null, [(1, 56), (2, 62), (3, 92)], [114]),
  (56, 57, .aload 0, .null, [], []),
  (57, 58, .aload 2, .null, [], []),
  (58, 61, .invokestatic 0, .null, [], [56, 2, 1]),
  (61, 62, .ireturn, .null, [], [1]),
  (62, 63, .aload 0, .null, [], []),
  (63, 64, .aload 2, .null, [], []),
  (64, 67, .invokestatic 0, .null, [], [58, 2, 1]),
  (67, 70, .ifCond .eq 0, .null, [], [90]),
  (70, 71, .aload 0, .null, [], []),
  (71, 72, .aload 2, .null, [], []),
  (72, 75, .invokestatic 0, .null, [], [60, 2, 1]),
  (75, 78, .ifCond .eq 0, .null, [], [90]),
  (78, 79, .aload 0, .null, [], []),
  (79, 80, .iload 1, .null, [], []),
  (80, 83, .invokestatic 0, .null, [], [64, 2, 1]),
  (83, 86, .ifCond .eq 0, .null, [], [90]),
  (86, 87, .nop, .int (1 : Int32), [], []),
  (87, 90, .goto 0, .null, [], [91]),
  (90, 91, .nop, .int (0 : Int32), [], []),
  (91, 92, .ireturn, .null, [], [1]),
  (92, 93, .aload 0, .null, [], []),
  (93, 94, .aload 2, .null, [], []),
  (94, 97, .invokestatic 0, .null, [], [58, 2, 1]),
  (97, 100, .ifCond .eq 0, .null, [], [112]),
  (100, 101, .aload 0, .null, [], []),
  (101, 102, .iload 1, .null, [], []),
  (102, 105, .invokestatic 0, .null, [], [64, 2, 1]),
  (105, 108, .ifCond .eq 0, .null, [], [112]),
  (108, 109, .nop, .int (1 : Int32), [], []),
  (109, 112, .goto 0, .null, [], [113]),
  (112, 113, .nop, .int (0 : Int32), [], []),
  (113, 114, .ireturn, .null, [], [1]),
  (114, 115, .aload 0, .null, [], []),
  (115, 116, .nop, .int (2 : Int32), [], []),
  (116, 119, .invokestatic 0, .null, [], [55, 2, 1]),
  (119, 120, .ireturn, .null, [], [1])]
def zh_65 : List (Nat × List Nat) := []
-- 66: PrimeCertificates$Trial.begin:([I)V
def zo_66 : List (Nat × Nat × dzOp) := [
  (0, 1, .aload 1, .null, [], []),
  (1, 2, .aload 0, .null, [], []),
  (2, 5, .getfield 0, .null, [], [8, 1, 3]),
  (5, 8, .invokestatic 0, .null, [], [14, 2, 0]),
  (8, 9, .aload 0, .null, [], []),
  (9, 12, .getfield 0, .null, [], [8, 1, 3]),
  (12, 13, .aload 0, .null, [], []),
  (13, 16, .getfield 0, .null, [], [8, 3, 3]),
  (16, 17, .aload 0, .null, [], []),
  (17, 20, .getfield 0, .null, [], [8, 2, 3]),
  (20, 23, .invokestatic 0, .null, [], [17, 3, 1]),
  (23, 24, .pop, .null, [], []),
  (24, 25, .return_, .null, [], [])]
def zh_66 : List (Nat × List Nat) := []
-- 67: PrimeCertificates$Checker.multiplyFactors:()Z
def zo_67 : List (Nat × Nat × dzOp) := [
  (0, 1, .aload 0, .null, [], []),
  (1, 4, .getfield 0, .null, [], [2, 5, 3]),
  (4, 5, .nop, .int (1 : Int32), [], []),
  (5, 8, .invokestatic 0, .null, [], [37, 2, 0]),
  (8, 9, .nop, .int (0 : Int32), [], []),
  (9, 10, .istore 1, .null, [], []),
  (10, 11, .iload 1, .null, [], []),
  (11, 12, .aload 0, .null, [], []),
  (12, 15, .getfield 0, .null, [], [2, 4, 3]),
  (15, 18, .getfield 0, .null, [], [3, 3, 1]),
  (18, 21, .if_icmp .ge 0, .null, [], [73]),
  (21, 22, .nop, .int (0 : Int32), [], []),
  (22, 23, .istore 2, .null, [], []),
  (23, 24, .iload 2, .null, [], []),
  (24, 25, .aload 0, .null, [], []),
  (25, 28, .getfield 0, .null, [], [2, 4, 3]),
  (28, 31, .getfield 0, .null, [], [3, 1, 3]),
  (31, 32, .iload 1, .null, [], []),
  (32, 33, .iaload, .null, [], []),
  (33, 36, .if_icmp .ge 0, .null, [], [67]),
  (36, 37, .aload 0, .null, [], []),
  (37, 40, .getfield 0, .null, [], [2, 2, 3]),
  (40, 41, .aload 0, .null, [], []),
  (41, 44, .getfield 0, .null, [], [2, 5, 3]),
  (44, 45, .aload 0, .null, [], []),
  (45, 46, .iload 1, .null, [], []),
  (46, 49, .invokestatic 0, .null, [], [61, 2, 3]),
  (49, 50, .aload 0, .null, [], []),
  (50, 53, .getfield 0, .null, [], [2, 5, 3]),
  (53, 56, .invokestatic 0, .null, [], [22, 4, 1]),
  (56, 59, .ifCond .ne 0, .null, [], [61]),
  (59, 60, .nop, .int (0 : Int32), [], []),
  (60, 61, .ireturn, .null, [], [1]),
  (61, 64, .iinc 2 0, .int (1 : Int32), [], []),
  (64, 67, .goto 0, .null, [], [23]),
  (67, 70, .iinc 1 0, .int (1 : Int32), [], []),
  (70, 73, .goto 0, .null, [], [10]),
  (73, 74, .nop, .int (1 : Int32), [], []),
  (74, 75, .ireturn, .null, [], [1])]
def zh_67 : List (Nat × List Nat) := [(10, [0, 1]), (23, [0, 1, 2])]
-- 68: PrimeCertificates$Sums.divides:([I[I)Z
def zo_68 : List (Nat × Nat × dzOp) := [
  (0, 1, .aload 0, .null, [], []),
  (1, 2, .aload 1, .null, [], []),
  (2, 5, .invokestatic 0, .null, [], [27, 2, 0]),
  (5, 6, .aload 0, .null, [], []),
  (6, 7, .aload 2, .null, [], []),
  (7, 10, .invokestatic 0, .null, [], [28, 2, 0]),
  (10, 11, .aload 0, .null, [], []),
  (11, 14, .invokestatic 0, .null, [], [34, 1, 0]),
  (14, 15, .aload 0, .null, [], []),
  (15, 18, .getfield 0, .null, [], [6, 0, 3]),
  (18, 21, .invokestatic 0, .null, [], [24, 1, 1]),
  (21, 22, .ireturn, .null, [], [1])]
def zh_68 : List (Nat × List Nat) := []
-- 69: PrimeCertificates$Sums.squareIsAbove:([I[I)Z
def zo_69 : List (Nat × Nat × dzOp) := [
  (0, 1, .aload 0, .null, [], []),
  (1, 2, .aload 1, .null, [], []),
  (2, 3, .aload 1, .null, [], []),
  (3, 6, .invokestatic 0, .null, [], [21, 3, 0]),
  (6, 7, .aload 0, .null, [], []),
  (7, 10, .getfield 0, .null, [], [6, 0, 3]),
  (10, 13, .invokestatic 0, .null, [], [19, 1, 1]),
  (13, 15, .nop, .int (8 : Int32), [], []),
  (15, 18, .if_icmp .gt 0, .null, [], [29]),
  (18, 19, .aload 0, .null, [], []),
  (19, 22, .getfield 0, .null, [], [6, 0, 3]),
  (22, 23, .aload 2, .null, [], []),
  (23, 26, .invokestatic 0, .null, [], [42, 2, 1]),
  (26, 29, .ifCond .le 0, .null, [], [33]),
  (29, 30, .nop, .int (1 : Int32), [], []),
  (30, 33, .goto 0, .null, [], [34]),
  (33, 34, .nop, .int (0 : Int32), [], []),
  (34, 35, .ireturn, .null, [], [1])]
def zh_69 : List (Nat × List Nat) := [(29, [0, 1, 2])]
-- 70: PrimeCertificates$Checker.productHolds:()Z
def zo_70 : List (Nat × Nat × dzOp) := [
  (0, 1, .aload 0, .null, [], []),
  (1, 4, .invokestatic 0, .null, [], [67, 1, 1]),
  (4, 7, .ifCond .ne 0, .null, [], [18]),
  (7, 8, .aload 0, .null, [], []),
  (8, 10, .nop, .int (6 : Int32), [], []),
  (10, 11, .aload 0, .null, [], []),
  (11, 14, .getfield 0, .null, [], [2, 10, 1]),
  (14, 17, .invokestatic 0, .null, [], [52, 3, 1]),
  (17, 18, .ireturn, .null, [], [1]),
  (18, 19, .aload 0, .null, [], []),
  (19, 22, .getfield 0, .null, [], [2, 8, 1]),
  (22, 23, .nop, .int (2 : Int32), [], []),
  (23, 26, .if_icmp .ne 0, .null, [], [62]),
  (26, 27, .aload 0, .null, [], []),
  (27, 30, .getfield 0, .null, [], [2, 5, 3]),
  (30, 31, .aload 0, .null, [], []),
  (31, 34, .getfield 0, .null, [], [2, 3, 3]),
  (34, 37, .getfield 0, .null, [], [8, 2, 3]),
  (37, 40, .invokestatic 0, .null, [], [42, 2, 1]),
  (40, 43, .ifCond .eq 0, .null, [], [56]),
  (43, 44, .aload 0, .null, [], []),
  (44, 46, .nop, .int (6 : Int32), [], []),
  (46, 47, .aload 0, .null, [], []),
  (47, 50, .getfield 0, .null, [], [2, 10, 1]),
  (50, 53, .invokestatic 0, .null, [], [52, 3, 1]),
  (53, 56, .ifCond .eq 0, .null, [], [60]),
  (56, 57, .nop, .int (1 : Int32), [], []),
  (57, 60, .goto 0, .null, [], [61]),
  (60, 61, .nop, .int (0 : Int32), [], []),
  (61, 62, .ireturn, .null, [], [1]),
  (62, 63, .aload 0, .null, [], []),
  (63, 66, .getfield 0, .null, [], [2, 2, 3]),
  (66, 67, .aload 0, .null, [], []),
  (67, 70, .getfield 0, .null, [], [2, 5, 3]),
  (70, 71, .aload 0, .null, [], []),
  (71, 74, .getfield 0, .null, [], [2, 3, 3]),
  (74, 77, .getfield 0, .null, [], [8, 2, 3]),
  (77, 80, .invokestatic 0, .null, [], [68, 3, 1]),
  (80, 83, .ifCond .ne 0, .null, [], [94]),
  (83, 84, .aload 0, .null, [], []),
  (84, 86, .nop, .int (6 : Int32), [], []),
  (86, 87, .aload 0, .null, [], []),
  (87, 90, .getfield 0, .null, [], [2, 10, 1]),
  (90, 93, .invokestatic 0, .null, [], [52, 3, 1]),
  (93, 94, .ireturn, .null, [], [1]),
  (94, 95, .aload 0, .null, [], []),
  (95, 98, .getfield 0, .null, [], [2, 2, 3]),
  (98, 99, .aload 0, .null, [], []),
  (99, 102, .getfield 0, .null, [], [2, 5, 3]),
  (102, 103, .aload 0, .null, [], []),
  (103, 106, .getfield 0, .null, [], [2, 3, 3]),
  (106, 109, .getfield 0, .null, [], [8, 1, 3]),
  (109, 112, .invokestatic 0, .null, [], [69, 3, 1]),
  (112, 115, .ifCond .ne 0, .null, [], [128]),
  (115, 116, .aload 0, .null, [], []),
  (116, 118, .nop, .int (7 : Int32), [], []),
  (118, 119, .aload 0, .null, [], []),
  (119, 122, .getfield 0, .null, [], [2, 10, 1]),
  (122, 125, .invokestatic 0, .null, [], [52, 3, 1]),
  (125, 128, .ifCond .eq 0, .null, [], [132]),
  (128, 129, .nop, .int (1 : Int32), [], []),
  (129, 132, .goto 0, .null, [], [133]),
  (132, 133, .nop, .int (0 : Int32), [], []),
  (133, 134, .ireturn, .null, [], [1])]
def zh_70 : List (Nat × List Nat) := [(56, [0]), (128, [0])]
-- 71: PrimeCertificates$Sums.isOne:([I)Z
def zo_71 : List (Nat × Nat × dzOp) := [
  (0, 1, .aload 0, .null, [], []),
  (1, 2, .nop, .int (0 : Int32), [], []),
  (2, 3, .iaload, .null, [], []),
  (3, 4, .nop, .int (1 : Int32), [], []),
  (4, 7, .if_icmp .ne 0, .null, [], [19]),
  (7, 8, .aload 0, .null, [], []),
  (8, 11, .invokestatic 0, .null, [], [19, 1, 1]),
  (11, 12, .nop, .int (1 : Int32), [], []),
  (12, 15, .if_icmp .ne 0, .null, [], [19]),
  (15, 16, .nop, .int (1 : Int32), [], []),
  (16, 19, .goto 0, .null, [], [20]),
  (19, 20, .nop, .int (0 : Int32), [], []),
  (20, 21, .ireturn, .null, [], [1])]
def zh_71 : List (Nat × List Nat) := []
-- 72: PrimeCertificates$Trial.closes:(I)Z
def zo_72 : List (Nat × Nat × dzOp) := [
  (0, 1, .aload 0, .null, [], []),
  (1, 4, .getfield 0, .null, [], [8, 4, 3]),
  (4, 5, .nop, .int (0 : Int32), [], []),
  (5, 6, .iload 1, .null, [], []),
  (6, 7, .iastore, .null, [], []),
  (7, 8, .aload 0, .null, [], []),
  (8, 11, .getfield 0, .null, [], [8, 0, 3]),
  (11, 12, .aload 0, .null, [], []),
  (12, 15, .getfield 0, .null, [], [8, 4, 3]),
  (15, 16, .aload 0, .null, [], []),
  (16, 19, .getfield 0, .null, [], [8, 2, 3]),
  (19, 20, .aload 0, .null, [], []),
  (20, 23, .getfield 0, .null, [], [8, 1, 3]),
  (23, 24, .aload 0, .null, [], []),
  (24, 27, .getfield 0, .null, [], [8, 6, 3]),
  (27, 30, .invokestatic 0, .null, [], [38, 5, 0]),
  (30, 31, .aload 0, .null, [], []),
  (31, 34, .getfield 0, .null, [], [8, 6, 3]),
  (34, 37, .invokestatic 0, .null, [], [71, 1, 1]),
  (37, 38, .ireturn, .null, [], [1])]
def zh_72 : List (Nat × List Nat) := []
-- 73: PrimeCertificates$Trial.parts:(I[I)Z
def zo_73 : List (Nat × Nat × dzOp) := [
  (0, 1, .aload 0, .null, [], []),
  (1, 4, .getfield 0, .null, [], [8, 4, 3]),
  (4, 5, .nop, .int (0 : Int32), [], []),
  (5, 6, .iload 1, .null, [], []),
  (6, 7, .iastore, .null, [], []),
  (7, 8, .aload 0, .null, [], []),
  (8, 11, .getfield 0, .null, [], [8, 0, 3]),
  (11, 12, .aload 0, .null, [], []),
  (12, 15, .getfield 0, .null, [], [8, 2, 3]),
  (15, 16, .aload 2, .null, [], []),
  (16, 17, .aload 0, .null, [], []),
  (17, 20, .getfield 0, .null, [], [8, 5, 3]),
  (20, 21, .aload 0, .null, [], []),
  (21, 24, .getfield 0, .null, [], [8, 6, 3]),
  (24, 27, .invokestatic 0, .null, [], [35, 5, 0]),
  (27, 28, .aload 0, .null, [], []),
  (28, 31, .getfield 0, .null, [], [8, 0, 3]),
  (31, 32, .aload 0, .null, [], []),
  (32, 35, .getfield 0, .null, [], [8, 4, 3]),
  (35, 36, .aload 0, .null, [], []),
  (36, 39, .getfield 0, .null, [], [8, 5, 3]),
  (39, 40, .aload 0, .null, [], []),
  (40, 43, .getfield 0, .null, [], [8, 1, 3]),
  (43, 44, .aload 0, .null, [], []),
  (44, 47, .getfield 0, .null, [], [8, 6, 3]),
  (47, 50, .invokestatic 0, .null, [], [38, 5, 0]),
  (50, 51, .aload 0, .null, [], []),
  (51, 54, .getfield 0, .null, [], [8, 6, 3]),
  (54, 57, .invokestatic 0, .null, [], [71, 1, 1]),
  (57, 60, .ifCond .ne 0, .null, [], [64]),
  (60, 61, .nop, .int (1 : Int32), [], []),
  (61, 64, .goto 0, .null, [], [65]),
  (64, 65, .nop, .int (0 : Int32), [], []),
  (65, 66, .ireturn, .null, [], [1])]
def zh_73 : List (Nat × List Nat) := []
-- 74: PrimeCertificates$Checker.factorPlace:(I)I
def zo_74 : List (Nat × Nat × dzOp) := [
  (0, 1, .aload 0, .null, [], []),
  (1, 4, .getfield 0, .null, [], [2, 10, 1]),
  (4, 5, .nop, .int (1 : Int32), [], []),
  (5, 6, .iadd, .null, [], []),
  (6, 7, .iload 1, .null, [], []),
  (7, 8, .aload 0, .null, [], []),
  (8, 11, .getfield 0, .null, [], [2, 8, 1]),
  (11, 12, .nop, .int (3 : Int32), [], []),
  (12, 15, .if_icmp .ne 0, .null, [], [19]),
  (15, 16, .nop, .int (3 : Int32), [], []),
  (16, 19, .goto 0, .null, [], [20]),
  (19, 20, .nop, .int (2 : Int32), [], []),
  (20, 21, .imul, .null, [], []),
  (21, 22, .iadd, .null, [], []),
  (22, 23, .ireturn, .null, [], [0])]
def zh_74 : List (Nat × List Nat) := [(20, [0, 1])]
-- 75: PrimeCertificates$Checker.rootHolds:()Z
def zo_75 : List (Nat × Nat × dzOp) := [
  (0, 1, .aload 0, .null, [], []),
  (1, 4, .getfield 0, .null, [], [2, 3, 3]),
  (4, 5, .aload 0, .null, [], []),
  (5, 8, .getfield 0, .null, [], [2, 9, 1]),
  (8, 11, .invokestatic 0, .null, [], [72, 2, 1]),
  (11, 14, .ifCond .ne 0, .null, [], [27]),
  (14, 15, .aload 0, .null, [], []),
  (15, 17, .nop, .int (9 : Int32), [], []),
  (17, 18, .aload 0, .null, [], []),
  (18, 21, .getfield 0, .null, [], [2, 10, 1]),
  (21, 22, .nop, .int (1 : Int32), [], []),
  (22, 23, .isub, .null, [], []),
  (23, 26, .invokestatic 0, .null, [], [52, 3, 1]),
  (26, 27, .ireturn, .null, [], [1]),
  (27, 28, .nop, .int (0 : Int32), [], []),
  (28, 29, .istore 1, .null, [], []),
  (29, 30, .iload 1, .null, [], []),
  (30, 31, .aload 0, .null, [], []),
  (31, 34, .getfield 0, .null, [], [2, 4, 3]),
  (34, 37, .getfield 0, .null, [], [3, 3, 1]),
  (37, 40, .if_icmp .ge 0, .null, [], [77]),
  (40, 41, .aload 0, .null, [], []),
  (41, 44, .getfield 0, .null, [], [2, 3, 3]),
  (44, 45, .aload 0, .null, [], []),
  (45, 48, .getfield 0, .null, [], [2, 9, 1]),
  (48, 49, .aload 0, .null, [], []),
  (49, 50, .iload 1, .null, [], []),
  (50, 53, .invokestatic 0, .null, [], [61, 2, 3]),
  (53, 56, .invokestatic 0, .null, [], [73, 3, 1]),
  (56, 59, .ifCond .ne 0, .null, [], [71]),
  (59, 60, .aload 0, .null, [], []),
  (60, 62, .nop, .int (10 : Int32), [], []),
  (62, 63, .aload 0, .null, [], []),
  (63, 64, .iload 1, .null, [], []),
  (64, 67, .invokestatic 0, .null, [], [74, 2, 1]),
  (67, 70, .invokestatic 0, .null, [], [52, 3, 1]),
  (70, 71, .ireturn, .null, [], [1]),
  (71, 74, .iinc 1 0, .int (1 : Int32), [], []),
  (74, 77, .goto 0, .null, [], [29]),
  (77, 78, .nop, .int (1 : Int32), [], []),
  (78, 79, .ireturn, .null, [], [1])]
def zh_75 : List (Nat × List Nat) := [(29, [0, 1])]
-- 76: PrimeCertificates$Trial.partsEverywhere:(I[I)Z
def zo_76 : List (Nat × Nat × dzOp) := [
  (0, 1, .aload 0, .null, [], []),
  (1, 4, .getfield 0, .null, [], [8, 4, 3]),
  (4, 5, .nop, .int (0 : Int32), [], []),
  (5, 6, .iload 1, .null, [], []),
  (6, 7, .iastore, .null, [], []),
  (7, 8, .aload 0, .null, [], []),
  (8, 11, .getfield 0, .null, [], [8, 0, 3]),
  (11, 12, .aload 0, .null, [], []),
  (12, 15, .getfield 0, .null, [], [8, 2, 3]),
  (15, 16, .aload 2, .null, [], []),
  (16, 17, .aload 0, .null, [], []),
  (17, 20, .getfield 0, .null, [], [8, 5, 3]),
  (20, 21, .aload 0, .null, [], []),
  (21, 24, .getfield 0, .null, [], [8, 6, 3]),
  (24, 27, .invokestatic 0, .null, [], [35, 5, 0]),
  (27, 28, .aload 0, .null, [], []),
  (28, 31, .getfield 0, .null, [], [8, 0, 3]),
  (31, 32, .aload 0, .null, [], []),
  (32, 35, .getfield 0, .null, [], [8, 4, 3]),
  (35, 36, .aload 0, .null, [], []),
  (36, 39, .getfield 0, .null, [], [8, 5, 3]),
  (39, 40, .aload 0, .null, [], []),
  (40, 43, .getfield 0, .null, [], [8, 1, 3]),
  (43, 44, .aload 0, .null, [], []),
  (44, 47, .getfield 0, .null, [], [8, 6, 3]),
  (47, 50, .invokestatic 0, .null, [], [38, 5, 0]),
  (50, 51, .aload 0, .null, [], []),
  (51, 54, .getfield 0, .null, [], [8, 6, 3]),
  (54, 55, .aload 0, .null, [], []),
  (55, 58, .getfield 0, .null, [], [8, 3, 3]),
  (58, 59, .aload 0, .null, [], []),
  (59, 62, .getfield 0, .null, [], [8, 6, 3]),
  (62, 65, .invokestatic 0, .null, [], [17, 3, 1]),
  (65, 66, .pop, .null, [], []),
  (66, 67, .aload 0, .null, [], []),
  (67, 70, .getfield 0, .null, [], [8, 0, 3]),
  (70, 71, .aload 0, .null, [], []),
  (71, 74, .getfield 0, .null, [], [8, 6, 3]),
  (74, 75, .aload 0, .null, [], []),
  (75, 78, .getfield 0, .null, [], [8, 1, 3]),
  (78, 79, .aload 0, .null, [], []),
  (79, 82, .getfield 0, .null, [], [8, 6, 3]),
  (82, 85, .invokestatic 0, .null, [], [40, 4, 0]),
  (85, 86, .aload 0, .null, [], []),
  (86, 89, .getfield 0, .null, [], [8, 6, 3]),
  (89, 92, .invokestatic 0, .null, [], [71, 1, 1]),
  (92, 93, .ireturn, .null, [], [1])]
def zh_76 : List (Nat × List Nat) := []
-- 77: PrimeCertificates$Checker.witnessesHold:()Z
def zo_77 : List (Nat × Nat × dzOp) := [
  (0, 1, .nop, .int (0 : Int32), [], []),
  (1, 2, .istore 1, .null, [], []),
  (2, 3, .iload 1, .null, [], []),
  (3, 4, .aload 0, .null, [], []),
  (4, 7, .getfield 0, .null, [], [2, 4, 3]),
  (7, 10, .getfield 0, .null, [], [3, 3, 1]),
  (10, 13, .if_icmp .ge 0, .null, [], [55]),
  (13, 14, .aload 0, .null, [], []),
  (14, 17, .getfield 0, .null, [], [2, 4, 3]),
  (17, 20, .getfield 0, .null, [], [3, 2, 3]),
  (20, 21, .iload 1, .null, [], []),
  (21, 22, .iaload, .null, [], []),
  (22, 23, .aload 0, .null, [], []),
  (23, 26, .getfield 0, .null, [], [2, 3, 3]),
  (26, 29, .getfield 0, .null, [], [8, 1, 3]),
  (29, 32, .invokestatic 0, .null, [], [59, 2, 1]),
  (32, 35, .ifCond .ne 0, .null, [], [49]),
  (35, 36, .aload 0, .null, [], []),
  (36, 38, .nop, .int (8 : Int32), [], []),
  (38, 39, .aload 0, .null, [], []),
  (39, 40, .iload 1, .null, [], []),
  (40, 43, .invokestatic 0, .null, [], [74, 2, 1]),
  (43, 44, .nop, .int (2 : Int32), [], []),
  (44, 45, .iadd, .null, [], []),
  (45, 48, .invokestatic 0, .null, [], [52, 3, 1]),
  (48, 49, .ireturn, .null, [], [1]),
  (49, 52, .iinc 1 0, .int (1 : Int32), [], []),
  (52, 55, .goto 0, .null, [], [2]),
  (55, 56, .nop, .int (0 : Int32), [], []),
  (56, 57, .istore 1, .null, [], []),
  (57, 58, .iload 1, .null, [], []),
  (58, 59, .aload 0, .null, [], []),
  (59, 62, .getfield 0, .null, [], [2, 4, 3]),
  (62, 65, .getfield 0, .null, [], [3, 3, 1]),
  (65, 68, .if_icmp .ge 0, .null, [], [137]),
  (68, 69, .aload 0, .null, [], []),
  (69, 72, .getfield 0, .null, [], [2, 4, 3]),
  (72, 75, .getfield 0, .null, [], [3, 2, 3]),
  (75, 76, .iload 1, .null, [], []),
  (76, 77, .iaload, .null, [], []),
  (77, 78, .istore 2, .null, [], []),
  (78, 79, .aload 0, .null, [], []),
  (79, 82, .getfield 0, .null, [], [2, 3, 3]),
  (82, 83, .iload 2, .null, [], []),
  (83, 86, .invokestatic 0, .null, [], [72, 2, 1]),
  (86, 89, .ifCond .ne 0, .null, [], [103]),
  (89, 90, .aload 0, .null, [], []),
  (90, 92, .nop, .int (9 : Int32), [], []),
  (92, 93, .aload 0, .null, [], []),
  (93, 94, .iload 1, .null, [], []),
  (94, 97, .invokestatic 0, .null, [], [74, 2, 1]),
  (97, 98, .nop, .int (2 : Int32), [], []),
  (98, 99, .iadd, .null, [], []),
  (99, 102, .invokestatic 0, .null, [], [52, 3, 1]),
  (102, 103, .ireturn, .null, [], [1]),
  (103, 104, .aload 0, .null, [], []),
  (104, 107, .getfield 0, .null, [], [2, 3, 3]),
  (107, 108, .iload 2, .null, [], []),
  (108, 109, .aload 0, .null, [], []),
  (109, 110, .iload 1, .null, [], []),
  (110, 113, .invokestatic 0, .null, [], [61, 2, 3]),
  (113, 116, .invokestatic 0, .null, [], [76, 3, 1]),
  (116, 119, .ifCond .ne 0, .null, [], [131]),
  (119, 120, .aload 0, .null, [], []),
  (120, 122, .nop, .int (10 : Int32), [], []),
  (122, 123, .aload 0, .null, [], []),
  (123, 124, .iload 1, .null, [], []),
  (124, 127, .invokestatic 0, .null, [], [74, 2, 1]),
  (127, 130, .invokestatic 0, .null, [], [52, 3, 1]),
  (130, 131, .ireturn, .null, [], [1]),
  (131, 134, .iinc 1 0, .int (1 : Int32), [], []),
  (134, 137, .goto 0, .null, [], [57]),
  (137, 138, .nop, .int (1 : Int32), [], []),
  (138, 139, .ireturn, .null, [], [1])]
def zh_77 : List (Nat × List Nat) := [(2, [0, 1]), (57, [0, 1])]
-- 78: PrimeCertificates$Lines.keepNext:(I)V
def zo_78 : List (Nat × Nat × dzOp) := [
  (0, 1, .aload 0, .null, [], []),
  (1, 4, .getfield 0, .null, [], [4, 2, 1]),
  (4, 7, .nop, .int (200 : Int32), [], []),
  (7, 10, .if_icmp .ge 0, .null, [], [30]),
  (10, 11, .aload 0, .null, [], []),
  (11, 14, .getfield 0, .null, [], [4, 1, 3]),
  (14, 15, .aload 0, .null, [], []),
  (15, 18, .getfield 0, .null, [], [4, 2, 1]),
  (18, 19, .iload 1, .null, [], []),
  (19, 20, .iastore, .null, [], []),
  (20, 21, .aload 0, .null, [], []),
  (21, 22, .dup, .null, [], []),
  (22, 25, .getfield 0, .null, [], [4, 2, 1]),
  (25, 26, .nop, .int (1 : Int32), [], []),
  (26, 27, .iadd, .null, [], []),
  (27, 30, .putfield 0, .null, [], [4, 2, 1]),
  (30, 31, .return_, .null, [], [])]
def zh_78 : List (Nat × List Nat) := []
-- 79: PrimeCertificates$Checker.findFault:()I
def zo_79 : List (Nat × Nat × dzOp) := [
  (0, 1, .aload 0, .null, [], []),
  (1, 2, .nop, .int (0 : Int32), [], []),
  (2, 5, .putfield 0, .null, [], [2, 11, 1]),
  (5, 6, .aload 0, .null, [], []),
  (6, 8, .nop, .int (-2 : Int32), [], []),
  (8, 11, .putfield 0, .null, [], [2, 12, 1]),
  (11, 12, .aload 0, .null, [], []),
  (12, 13, .aload 0, .null, [], []),
  (13, 16, .getfield 0, .null, [], [2, 1, 3]),
  (16, 19, .invokestatic 0, .null, [], [51, 1, 1]),
  (19, 22, .putfield 0, .null, [], [2, 6, 1]),
  (22, 23, .aload 0, .null, [], []),
  (23, 26, .getfield 0, .null, [], [2, 1, 3]),
  (26, 29, .getfield 0, .null, [], [4, 2, 1]),
  (29, 30, .istore 1, .null, [], []),
  (30, 31, .iload 1, .null, [], []),
  (31, 34, .nop, .int (200 : Int32), [], []),
  (34, 37, .if_icmp .ge 0, .null, [], [151]),
  (37, 38, .aload 0, .null, [], []),
  (38, 41, .getfield 0, .null, [], [2, 11, 1]),
  (41, 44, .ifCond .ne 0, .null, [], [151]),
  (44, 45, .aload 0, .null, [], []),
  (45, 48, .getfield 0, .null, [], [2, 6, 1]),
  (48, 49, .aload 0, .null, [], []),
  (49, 52, .getfield 0, .null, [], [2, 0, 3]),
  (52, 55, .getfield 0, .null, [], [7, 1, 1]),
  (55, 58, .if_icmp .ge 0, .null, [], [151]),
  (58, 59, .aload 0, .null, [], []),
  (59, 60, .iload 1, .null, [], []),
  (60, 63, .invokestatic 0, .null, [], [65, 2, 1]),
  (63, 64, .istore 2, .null, [], []),
  (64, 65, .iload 2, .null, [], []),
  (65, 68, .ifCond .eq 0, .null, [], [130]),
  (68, 69, .aload 0, .null, [], []),
  (69, 72, .getfield 0, .null, [], [2, 8, 1]),
  (72, 73, .nop, .int (1 : Int32), [], []),
  (73, 76, .if_icmp .eq 0, .null, [], [130]),
  (76, 77, .aload 0, .null, [], []),
  (77, 80, .getfield 0, .null, [], [2, 3, 3]),
  (80, 81, .aload 0, .null, [], []),
  (81, 84, .getfield 0, .null, [], [2, 1, 3]),
  (84, 87, .getfield 0, .null, [], [4, 0, 3]),
  (87, 88, .iload 1, .null, [], []),
  (88, 89, .aaload, .null, [], []),
  (89, 92, .invokestatic 0, .null, [], [66, 2, 0]),
  (92, 93, .aload 0, .null, [], []),
  (93, 96, .invokestatic 0, .null, [], [70, 1, 1]),
  (96, 99, .ifCond .eq 0, .null, [], [128]),
  (99, 100, .aload 0, .null, [], []),
  (100, 103, .getfield 0, .null, [], [2, 8, 1]),
  (103, 104, .nop, .int (2 : Int32), [], []),
  (104, 107, .if_icmp .ne 0, .null, [], [117]),
  (107, 108, .aload 0, .null, [], []),
  (108, 111, .invokestatic 0, .null, [], [75, 1, 1]),
  (111, 114, .ifCond .eq 0, .null, [], [128]),
  (114, 117, .goto 0, .null, [], [124]),
  (117, 118, .aload 0, .null, [], []),
  (118, 121, .invokestatic 0, .null, [], [77, 1, 1]),
  (121, 124, .ifCond .eq 0, .null, [], [128]),
  (124, 125, .nop, .int (1 : Int32), [], []),
  (125, 128, .goto 0, .null, [], [129]),
  (128, 129, .nop, .int (0 : Int32), [], []),
  (129, 130, .istore 2, .null, [], []),
  (130, 131, .iload 2, .null, [], []),
  (131, 134, .ifCond .eq 0, .null, [], [145]),
  (134, 135, .aload 0, .null, [], []),
  (135, 138, .getfield 0, .null, [], [2, 1, 3]),
  (138, 139, .aload 0, .null, [], []),
  (139, 142, .getfield 0, .null, [], [2, 6, 1]),
  (142, 145, .invokestatic 0, .null, [], [78, 2, 0]),
  (145, 148, .iinc 1 0, .int (1 : Int32), [], []),
  (148, 151, .goto 0, .null, [], [30]),
  (151, 152, .aload 0, .null, [], []),
  (152, 155, .getfield 0, .null, [], [2, 11, 1]),
  (155, 158, .ifCond .ne 0, .null, [], [182]),
  (158, 159, .aload 0, .null, [], []),
  (159, 162, .getfield 0, .null, [], [2, 6, 1]),
  (162, 163, .aload 0, .null, [], []),
  (163, 166, .getfield 0, .null, [], [2, 0, 3]),
  (166, 169, .getfield 0, .null, [], [7, 1, 1]),
  (169, 172, .if_icmp .ge 0, .null, [], [182]),
  (172, 173, .aload 0, .null, [], []),
  (173, 174, .nop, .int (2 : Int32), [], []),
  (174, 175, .aload 0, .null, [], []),
  (175, 178, .getfield 0, .null, [], [2, 6, 1]),
  (178, 181, .invokestatic 0, .null, [], [52, 3, 1]),
  (181, 182, .pop, .null, [], []),
  (182, 183, .aload 0, .null, [], []),
  (183, 186, .getfield 0, .null, [], [2, 1, 3]),
  (186, 187, .aload 0, .null, [], []),
  (187, 190, .getfield 0, .null, [], [2, 11, 1]),
  (190, 193, .ifCond .ne 0, .null, [], [203]),
  (193, 194, .aload 0, .null, [], []),
  (194, 197, .getfield 0, .null, [], [2, 1, 3]),
  (197, 200, .getfield 0, .null, [], [4, 2, 1]),
  (200, 203, .goto 0, .null, [], [204]),
  (203, 204, .nop, .int (0 : Int32), [], []),
  (204, 207, .putfield 0, .null, [], [4, 3, 1]),
  (207, 208, .aload 0, .null, [], []),
  (208, 211, .getfield 0, .null, [], [2, 11, 1]),
  (211, 212, .ireturn, .null, [], [0])]
def zh_79 : List (Nat × List Nat) := [(30, [0, 1]), (124, [0, 1, 2]), (128, [0, 1, 2]), (129, [0, 1, 2]), (130, [0, 1, 2]), (145, [0, 1, 2]), (151, [0, 1]), (182, [0, 1]), (204, [0, 1])]
-- 80: PrimeCertificates.check:()I
def zo_80 : List (Nat × Nat × dzOp) := [
  (0, 1, .aload 0, .null, [], []),
  (1, 4, .getfield 0, .null, [], [0, 6, 3]),
  (4, 7, .invokestatic 0, .null, [], [79, 1, 1]),
  (7, 8, .istore 1, .null, [], []),
  (8, 9, .iload 1, .null, [], []),
  (9, 12, .ifCond .ne 0, .null, [], [22]),
  (12, 13, .aload 0, .null, [], []),
  (13, 16, .getfield 0, .null, [], [0, 5, 3]),
  (16, 19, .getfield 0, .null, [], [4, 2, 1]),
  (19, 22, .goto 0, .null, [], [26]),
  (22, 24, .nop, .int (-100 : Int32), [], []),
  (24, 25, .iload 1, .null, [], []),
  (25, 26, .isub, .null, [], []),
  (26, 27, .ireturn, .null, [], [0])]
def zh_80 : List (Nat × List Nat) := []
-- 81: PrimeCertificates.place:()I
def zo_81 : List (Nat × Nat × dzOp) := [
  (0, 1, .aload 0, .null, [], []),
  (1, 4, .getfield 0, .null, [], [0, 6, 3]),
  (4, 7, .getfield 0, .null, [], [2, 12, 1]),
  (7, 8, .ireturn, .null, [], [0])]
def zh_81 : List (Nat × List Nat) := []
-- 82: PrimeCertificates.tell:(II)Z
def zo_82 : List (Nat × Nat × dzOp) := [
  (0, 1, .iload 1, .null, [], []),
  (1, 4, .ifCond .lt 0, .null, [], [22]),
  (4, 5, .iload 1, .null, [], []),
  (5, 6, .aload 0, .null, [], []),
  (6, 9, .getfield 0, .null, [], [0, 5, 3]),
  (9, 12, .getfield 0, .null, [], [4, 3, 1]),
  (12, 15, .if_icmp .ge 0, .null, [], [22]),
  (15, 16, .iload 2, .null, [], []),
  (16, 19, .invokestatic 0, .null, [], [8, 1, 1]),
  (19, 22, .ifCond .ne 0, .null, [], [24]),
  (22, 23, .nop, .int (0 : Int32), [], []),
  (23, 24, .ireturn, .null, [], [1]),
  (24, 25, .aload 0, .null, [], []),
  (25, 28, .getfield 0, .null, [], [0, 5, 3]),
  (28, 31, .getfield 0, .null, [], [4, 0, 3]),
  (31, 32, .iload 1, .null, [], []),
  (32, 33, .aaload, .null, [], []),
  (33, 34, .aload 0, .null, [], []),
  (34, 37, .getfield 0, .null, [], [0, 0, 3]),
  (37, 38, .iload 2, .null, [], []),
  (38, 39, .aaload, .null, [], []),
  (39, 42, .invokestatic 0, .null, [], [14, 2, 0]),
  (42, 43, .nop, .int (1 : Int32), [], []),
  (43, 44, .ireturn, .null, [], [1])]
def zh_82 : List (Nat × List Nat) := []
-- 83: PrimeCertificates$Lines.lineOf:([I)I
def zo_83 : List (Nat × Nat × dzOp) := [
  (0, 1, .nop, .int (0 : Int32), [], []),
  (1, 2, .istore 2, .null, [], []),
  (2, 3, .iload 2, .null, [], []),
  (3, 4, .aload 0, .null, [], []),
  (4, 7, .getfield 0, .null, [], [4, 2, 1]),
  (7, 10, .if_icmp .ge 0, .null, [], [31]),
  (10, 11, .aload 0, .null, [], []),
  (11, 14, .getfield 0, .null, [], [4, 0, 3]),
  (14, 15, .iload 2, .null, [], []),
  (15, 16, .aaload, .null, [], []),
  (16, 17, .aload 1, .null, [], []),
  (17, 20, .invokestatic 0, .null, [], [42, 2, 1]),
  (20, 23, .ifCond .ne 0, .null, [], [25]),
  (23, 24, .iload 2, .null, [], []),
  (24, 25, .ireturn, .null, [], [0]),
  (25, 28, .iinc 2 0, .int (1 : Int32), [], []),
  (28, 31, .goto 0, .null, [], [2]),
  (31, 33, .nop, .int (-2 : Int32), [], []),
  (33, 34, .ireturn, .null, [], [0])]
def zh_83 : List (Nat × List Nat) := [(2, [0, 1, 2])]
-- 84: PrimeCertificates$Maker.planSmallLine:([I)Z
def zo_84 : List (Nat × Nat × dzOp) := [
  (0, 1, .aload 0, .null, [], []),
  (1, 4, .getfield 0, .null, [], [5, 1, 3]),
  (4, 7, .getfield 0, .null, [], [4, 2, 1]),
  (7, 8, .aload 0, .null, [], []),
  (8, 11, .getfield 0, .null, [], [5, 9, 1]),
  (11, 12, .iadd, .null, [], []),
  (12, 15, .nop, .int (200 : Int32), [], []),
  (15, 18, .if_icmp .lt 0, .null, [], [20]),
  (18, 19, .nop, .int (0 : Int32), [], []),
  (19, 20, .ireturn, .null, [], [1]),
  (20, 21, .aload 1, .null, [], []),
  (21, 22, .aload 0, .null, [], []),
  (22, 25, .getfield 0, .null, [], [5, 1, 3]),
  (25, 28, .getfield 0, .null, [], [4, 0, 3]),
  (28, 29, .aload 0, .null, [], []),
  (29, 32, .getfield 0, .null, [], [5, 1, 3]),
  (32, 35, .getfield 0, .null, [], [4, 2, 1]),
  (35, 36, .aload 0, .null, [], []),
  (36, 39, .getfield 0, .null, [], [5, 9, 1]),
  (39, 40, .iadd, .null, [], []),
  (40, 41, .aaload, .null, [], []),
  (41, 44, .invokestatic 0, .null, [], [14, 2, 0]),
  (44, 45, .aload 0, .null, [], []),
  (45, 46, .dup, .null, [], []),
  (46, 49, .getfield 0, .null, [], [5, 9, 1]),
  (49, 50, .nop, .int (1 : Int32), [], []),
  (50, 51, .iadd, .null, [], []),
  (51, 54, .putfield 0, .null, [], [5, 9, 1]),
  (54, 55, .nop, .int (1 : Int32), [], []),
  (55, 56, .ireturn, .null, [], [1])]
def zh_84 : List (Nat × List Nat) := []
-- 85: PrimeCertificates$Maker.hasRoom:(I)Z
def zo_85 : List (Nat × Nat × dzOp) := [
  (0, 1, .iload 1, .null, [], []),
  (1, 4, .ifCond .ne 0, .null, [], [8]),
  (4, 5, .nop, .int (0 : Int32), [], []),
  (5, 8, .goto 0, .null, [], [9]),
  (8, 9, .nop, .int (1 : Int32), [], []),
  (9, 10, .istore 2, .null, [], []),
  (10, 11, .aload 0, .null, [], []),
  (11, 14, .getfield 0, .null, [], [5, 1, 3]),
  (14, 17, .getfield 0, .null, [], [4, 2, 1]),
  (17, 18, .aload 0, .null, [], []),
  (18, 21, .getfield 0, .null, [], [5, 9, 1]),
  (21, 22, .iadd, .null, [], []),
  (22, 23, .iload 2, .null, [], []),
  (23, 24, .iadd, .null, [], []),
  (24, 27, .nop, .int (200 : Int32), [], []),
  (27, 30, .if_icmp .gt 0, .null, [], [52]),
  (30, 31, .nop, .int (2 : Int32), [], []),
  (31, 32, .aload 0, .null, [], []),
  (32, 35, .getfield 0, .null, [], [5, 9, 1]),
  (35, 36, .imul, .null, [], []),
  (36, 37, .iload 1, .null, [], []),
  (37, 38, .iadd, .null, [], []),
  (38, 39, .aload 0, .null, [], []),
  (39, 42, .getfield 0, .null, [], [5, 0, 3]),
  (42, 45, .invokestatic 0, .null, [], [44, 1, 1]),
  (45, 48, .if_icmp .gt 0, .null, [], [52]),
  (48, 49, .nop, .int (1 : Int32), [], []),
  (49, 52, .goto 0, .null, [], [53]),
  (52, 53, .nop, .int (0 : Int32), [], []),
  (53, 54, .ireturn, .null, [], [1])]
def zh_85 : List (Nat × List Nat) := [(9, [0, 1])]
-- 86: PrimeCertificates$Maker.writeSmallLines:()I
def zo_86 : List (Nat × Nat × dzOp) := [
  (0, 1, .nop, .int (0 : Int32), [], []),
  (1, 2, .istore 1, .null, [], []),
  (2, 3, .iload 1, .null, [], []),
  (3, 4, .aload 0, .null, [], []),
  (4, 7, .getfield 0, .null, [], [5, 9, 1]),
  (7, 10, .if_icmp .ge 0, .null, [], [62]),
  (10, 11, .aload 0, .null, [], []),
  (11, 14, .getfield 0, .null, [], [5, 0, 3]),
  (14, 15, .nop, .int (1 : Int32), [], []),
  (15, 18, .invokestatic 0, .null, [], [45, 2, 0]),
  (18, 19, .aload 0, .null, [], []),
  (19, 22, .getfield 0, .null, [], [5, 0, 3]),
  (22, 23, .aload 0, .null, [], []),
  (23, 26, .getfield 0, .null, [], [5, 1, 3]),
  (26, 29, .getfield 0, .null, [], [4, 0, 3]),
  (29, 30, .aload 0, .null, [], []),
  (30, 33, .getfield 0, .null, [], [5, 1, 3]),
  (33, 36, .getfield 0, .null, [], [4, 2, 1]),
  (36, 37, .aaload, .null, [], []),
  (37, 38, .nop, .int (0 : Int32), [], []),
  (38, 39, .iaload, .null, [], []),
  (39, 42, .invokestatic 0, .null, [], [45, 2, 0]),
  (42, 43, .aload 0, .null, [], []),
  (43, 46, .getfield 0, .null, [], [5, 1, 3]),
  (46, 47, .aload 0, .null, [], []),
  (47, 50, .getfield 0, .null, [], [5, 0, 3]),
  (50, 53, .getfield 0, .null, [], [7, 1, 1]),
  (53, 56, .invokestatic 0, .null, [], [78, 2, 0]),
  (56, 59, .iinc 1 0, .int (1 : Int32), [], []),
  (59, 62, .goto 0, .null, [], [2]),
  (62, 63, .aload 0, .null, [], []),
  (63, 66, .getfield 0, .null, [], [5, 1, 3]),
  (66, 69, .getfield 0, .null, [], [4, 2, 1]),
  (69, 70, .nop, .int (1 : Int32), [], []),
  (70, 71, .isub, .null, [], []),
  (71, 72, .ireturn, .null, [], [0])]
def zh_86 : List (Nat × List Nat) := [(2, [0, 1])]
-- 87: PrimeCertificates$Maker.divideOut:([I)I
def zo_87 : List (Nat × Nat × dzOp) := [
  (0, 1, .nop, .int (0 : Int32), [], []),
  (1, 2, .istore 2, .null, [], []),
  (2, 3, .nop, .int (1 : Int32), [], []),
  (3, 4, .istore 3, .null, [], []),
  (4, 5, .iload 3, .null, [], []),
  (5, 8, .ifCond .eq 0, .null, [], [64]),
  (8, 9, .iload 2, .null, [], []),
  (9, 12, .nop, .int (255 : Int32), [], []),
  (12, 15, .if_icmp .ge 0, .null, [], [64]),
  (15, 16, .aload 0, .null, [], []),
  (16, 19, .getfield 0, .null, [], [5, 2, 3]),
  (19, 20, .aload 0, .null, [], []),
  (20, 23, .getfield 0, .null, [], [5, 5, 3]),
  (23, 24, .aload 1, .null, [], []),
  (24, 25, .aload 0, .null, [], []),
  (25, 28, .getfield 0, .null, [], [5, 6, 3]),
  (28, 29, .aload 0, .null, [], []),
  (29, 32, .getfield 0, .null, [], [5, 7, 3]),
  (32, 35, .invokestatic 0, .null, [], [35, 5, 0]),
  (35, 36, .aload 0, .null, [], []),
  (36, 39, .getfield 0, .null, [], [5, 7, 3]),
  (39, 42, .invokestatic 0, .null, [], [24, 1, 1]),
  (42, 43, .istore 3, .null, [], []),
  (43, 44, .iload 3, .null, [], []),
  (44, 47, .ifCond .eq 0, .null, [], [4]),
  (47, 48, .aload 0, .null, [], []),
  (48, 51, .getfield 0, .null, [], [5, 6, 3]),
  (51, 52, .aload 0, .null, [], []),
  (52, 55, .getfield 0, .null, [], [5, 5, 3]),
  (55, 58, .invokestatic 0, .null, [], [14, 2, 0]),
  (58, 61, .iinc 2 0, .int (1 : Int32), [], []),
  (61, 64, .goto 0, .null, [], [4]),
  (64, 65, .iload 2, .null, [], []),
  (65, 66, .ireturn, .null, [], [0])]
def zh_87 : List (Nat × List Nat) := [(4, [0, 1, 2, 3])]
-- 88: PrimeCertificates$Maker.factorNumber:(I)[I
def zo_88 : List (Nat × Nat × dzOp) := [
  (0, 1, .aload 0, .null, [], []),
  (1, 4, .getfield 0, .null, [], [5, 1, 3]),
  (4, 7, .getfield 0, .null, [], [4, 0, 3]),
  (7, 8, .aload 0, .null, [], []),
  (8, 11, .getfield 0, .null, [], [5, 4, 3]),
  (11, 14, .getfield 0, .null, [], [3, 0, 3]),
  (14, 15, .iload 1, .null, [], []),
  (15, 16, .iaload, .null, [], []),
  (16, 17, .aaload, .null, [], []),
  (17, 18, .areturn, .null, [], [])]
def zh_88 : List (Nat × List Nat) := []
-- 89: PrimeCertificates$Maker.insertFactor:(II)Z
def zo_89 : List (Nat × Nat × dzOp) := [
  (0, 1, .aload 0, .null, [], []),
  (1, 4, .getfield 0, .null, [], [5, 4, 3]),
  (4, 7, .getfield 0, .null, [], [3, 3, 1]),
  (7, 9, .nop, .int (40 : Int32), [], []),
  (9, 12, .if_icmp .lt 0, .null, [], [14]),
  (12, 13, .nop, .int (0 : Int32), [], []),
  (13, 14, .ireturn, .null, [], [1]),
  (14, 15, .aload 0, .null, [], []),
  (15, 18, .getfield 0, .null, [], [5, 4, 3]),
  (18, 21, .getfield 0, .null, [], [3, 3, 1]),
  (21, 22, .istore 3, .null, [], []),
  (22, 23, .iload 3, .null, [], []),
  (23, 26, .ifCond .le 0, .null, [], [94]),
  (26, 27, .aload 0, .null, [], []),
  (27, 28, .iload 3, .null, [], []),
  (28, 29, .nop, .int (1 : Int32), [], []),
  (29, 30, .isub, .null, [], []),
  (30, 33, .invokestatic 0, .null, [], [88, 2, 3]),
  (33, 34, .aload 0, .null, [], []),
  (34, 37, .getfield 0, .null, [], [5, 1, 3]),
  (37, 40, .getfield 0, .null, [], [4, 0, 3]),
  (40, 41, .iload 1, .null, [], []),
  (41, 42, .aaload, .null, [], []),
  (42, 45, .invokestatic 0, .null, [], [42, 2, 1]),
  (45, 48, .ifCond .le 0, .null, [], [94]),
  (48, 49, .aload 0, .null, [], []),
  (49, 52, .getfield 0, .null, [], [5, 4, 3]),
  (52, 55, .getfield 0, .null, [], [3, 0, 3]),
  (55, 56, .iload 3, .null, [], []),
  (56, 57, .aload 0, .null, [], []),
  (57, 60, .getfield 0, .null, [], [5, 4, 3]),
  (60, 63, .getfield 0, .null, [], [3, 0, 3]),
  (63, 64, .iload 3, .null, [], []),
  (64, 65, .nop, .int (1 : Int32), [], []),
  (65, 66, .isub, .null, [], []),
  (66, 67, .iaload, .null, [], []),
  (67, 68, .iastore, .null, [], []),
  (68, 69, .aload 0, .null, [], []),
  (69, 72, .getfield 0, .null, [], [5, 4, 3]),
  (72, 75, .getfield 0, .null, [], [3, 1, 3]),
  (75, 76, .iload 3, .null, [], []),
  (76, 77, .aload 0, .null, [], []),
  (77, 80, .getfield 0, .null, [], [5, 4, 3]),
  (80, 83, .getfield 0, .null, [], [3, 1, 3]),
  (83, 84, .iload 3, .null, [], []),
  (84, 85, .nop, .int (1 : Int32), [], []),
  (85, 86, .isub, .null, [], []),
  (86, 87, .iaload, .null, [], []),
  (87, 88, .iastore, .null, [], []),
  (88, 91, .iinc 3 0, .int (-1 : Int32), [], []),
  (91, 94, .goto 0, .null, [], [22]),
  (94, 95, .aload 0, .null, [], []),
  (95, 98, .getfield 0, .null, [], [5, 4, 3]),
  (98, 101, .getfield 0, .null, [], [3, 0, 3]),
  (101, 102, .iload 3, .null, [], []),
  (102, 103, .iload 1, .null, [], []),
  (103, 104, .iastore, .null, [], []),
  (104, 105, .aload 0, .null, [], []),
  (105, 108, .getfield 0, .null, [], [5, 4, 3]),
  (108, 111, .getfield 0, .null, [], [3, 1, 3]),
  (111, 112, .iload 3, .null, [], []),
  (112, 113, .iload 2, .null, [], []),
  (113, 114, .iastore, .null, [], []),
  (114, 115, .aload 0, .null, [], []),
  (115, 118, .getfield 0, .null, [], [5, 4, 3]),
  (118, 119, .dup, .null, [], []),
  (119, 122, .getfield 0, .null, [], [3, 3, 1]),
  (122, 123, .nop, .int (1 : Int32), [], []),
  (123, 124, .iadd, .null, [], []),
  (124, 127, .putfield 0, .null, [], [3, 3, 1]),
  (127, 128, .nop, .int (1 : Int32), [], []),
  (128, 129, .ireturn, .null, [], [1])]
def zh_89 : List (Nat × List Nat) := [(22, [0, 1, 2, 3]), (94, [0, 1, 2, 3])]
-- 90: PrimeCertificates$Maker.insertPrime:(I)Z
def zo_90 : List (Nat × Nat × dzOp) := [
  (0, 1, .aload 0, .null, [], []),
  (1, 4, .getfield 0, .null, [], [5, 1, 3]),
  (4, 5, .aload 0, .null, [], []),
  (5, 8, .getfield 0, .null, [], [5, 8, 3]),
  (8, 11, .invokestatic 0, .null, [], [83, 2, 1]),
  (11, 12, .istore 2, .null, [], []),
  (12, 13, .iload 2, .null, [], []),
  (13, 15, .nop, .int (-2 : Int32), [], []),
  (15, 18, .if_icmp .eq 0, .null, [], [25]),
  (18, 19, .aload 0, .null, [], []),
  (19, 20, .iload 2, .null, [], []),
  (20, 21, .iload 1, .null, [], []),
  (21, 24, .invokestatic 0, .null, [], [89, 3, 1]),
  (24, 25, .ireturn, .null, [], [1]),
  (25, 26, .aload 0, .null, [], []),
  (26, 27, .aload 0, .null, [], []),
  (27, 30, .getfield 0, .null, [], [5, 8, 3]),
  (30, 33, .invokestatic 0, .null, [], [84, 2, 1]),
  (33, 36, .ifCond .eq 0, .null, [], [62]),
  (36, 37, .aload 0, .null, [], []),
  (37, 38, .aload 0, .null, [], []),
  (38, 41, .getfield 0, .null, [], [5, 1, 3]),
  (41, 44, .getfield 0, .null, [], [4, 2, 1]),
  (44, 45, .aload 0, .null, [], []),
  (45, 48, .getfield 0, .null, [], [5, 9, 1]),
  (48, 49, .iadd, .null, [], []),
  (49, 50, .nop, .int (1 : Int32), [], []),
  (50, 51, .isub, .null, [], []),
  (51, 52, .iload 1, .null, [], []),
  (52, 55, .invokestatic 0, .null, [], [89, 3, 1]),
  (55, 58, .ifCond .eq 0, .null, [], [62]),
  (58, 59, .nop, .int (1 : Int32), [], []),
  (59, 62, .goto 0, .null, [], [63]),
  (62, 63, .nop, .int (0 : Int32), [], []),
  (63, 64, .ireturn, .null, [], [1])]
def zh_90 : List (Nat × List Nat) := []
-- 91: PrimeCertificates$Maker.findFactors:()Z
def zo_91 : List (Nat × Nat × dzOp) := [
  (0, 1, .aload 0, .null, [], []),
  (1, 4, .getfield 0, .null, [], [5, 4, 3]),
  (4, 5, .nop, .int (0 : Int32), [], []),
  (5, 8, .putfield 0, .null, [], [3, 3, 1]),
  (8, 9, .aload 0, .null, [], []),
  (9, 12, .getfield 0, .null, [], [5, 3, 3]),
  (12, 15, .getfield 0, .null, [], [8, 2, 3]),
  (15, 16, .aload 0, .null, [], []),
  (16, 19, .getfield 0, .null, [], [5, 5, 3]),
  (19, 22, .invokestatic 0, .null, [], [14, 2, 0]),
  (22, 23, .nop, .int (2 : Int32), [], []),
  (23, 24, .istore 1, .null, [], []),
  (24, 25, .iload 1, .null, [], []),
  (25, 28, .nop, .int (1009 : Int32), [], []),
  (28, 31, .if_icmp .gt 0, .null, [], [75]),
  (31, 32, .iload 1, .null, [], []),
  (32, 35, .invokestatic 0, .null, [], [54, 1, 1]),
  (35, 38, .ifCond .eq 0, .null, [], [69]),
  (38, 39, .aload 0, .null, [], []),
  (39, 42, .getfield 0, .null, [], [5, 8, 3]),
  (42, 43, .iload 1, .null, [], []),
  (43, 46, .invokestatic 0, .null, [], [37, 2, 0]),
  (46, 47, .aload 0, .null, [], []),
  (47, 48, .aload 0, .null, [], []),
  (48, 51, .getfield 0, .null, [], [5, 8, 3]),
  (51, 54, .invokestatic 0, .null, [], [87, 2, 1]),
  (54, 55, .istore 2, .null, [], []),
  (55, 56, .iload 2, .null, [], []),
  (56, 59, .ifCond .le 0, .null, [], [69]),
  (59, 60, .aload 0, .null, [], []),
  (60, 61, .iload 2, .null, [], []),
  (61, 64, .invokestatic 0, .null, [], [90, 2, 1]),
  (64, 67, .ifCond .ne 0, .null, [], [69]),
  (67, 68, .nop, .int (0 : Int32), [], []),
  (68, 69, .ireturn, .null, [], [1]),
  (69, 72, .iinc 1 0, .int (1 : Int32), [], []),
  (72, 75, .goto 0, .null, [], [24]),
  (75, 76, .nop, .int (0 : Int32), [], []),
  (76, 77, .istore 1, .null, [], []),
  (77, 78, .iload 1, .null, [], []),
  (78, 79, .aload 0, .null, [], []),
  (79, 82, .getfield 0, .null, [], [5, 1, 3]),
  (82, 85, .getfield 0, .null, [], [4, 2, 1]),
  (85, 88, .if_icmp .ge 0, .null, [], [139]),
  (88, 89, .aload 0, .null, [], []),
  (89, 92, .getfield 0, .null, [], [5, 1, 3]),
  (92, 95, .getfield 0, .null, [], [4, 0, 3]),
  (95, 96, .iload 1, .null, [], []),
  (96, 97, .aaload, .null, [], []),
  (97, 98, .astore 2, .null, [], []),
  (98, 99, .aload 2, .null, [], []),
  (99, 102, .nop, .int (1009 : Int32), [], []),
  (102, 105, .invokestatic 0, .null, [], [57, 2, 1]),
  (105, 108, .ifCond .eq 0, .null, [], [112]),
  (108, 109, .nop, .int (0 : Int32), [], []),
  (109, 112, .goto 0, .null, [], [117]),
  (112, 113, .aload 0, .null, [], []),
  (113, 114, .aload 2, .null, [], []),
  (114, 117, .invokestatic 0, .null, [], [87, 2, 1]),
  (117, 118, .istore 3, .null, [], []),
  (118, 119, .iload 3, .null, [], []),
  (119, 122, .ifCond .le 0, .null, [], [133]),
  (122, 123, .aload 0, .null, [], []),
  (123, 124, .iload 1, .null, [], []),
  (124, 125, .iload 3, .null, [], []),
  (125, 128, .invokestatic 0, .null, [], [89, 3, 1]),
  (128, 131, .ifCond .ne 0, .null, [], [133]),
  (131, 132, .nop, .int (0 : Int32), [], []),
  (132, 133, .ireturn, .null, [], [1]),
  (133, 136, .iinc 1 0, .int (1 : Int32), [], []),
  (136, 139, .goto 0, .null, [], [77]),
  (139, 140, .nop, .int (1 : Int32), [], []),
  (140, 141, .ireturn, .null, [], [1])]
def zh_91 : List (Nat × List Nat) := [(24, [0, 1]), (69, [0, 1]), (77, [0, 1]), (117, [0, 1, 2]), (133, [0, 1, 2, 3])]
-- 92: PrimeCertificates$Maker.lastLineInts:(Z)I
def zo_92 : List (Nat × Nat × dzOp) := [
  (0, 1, .aload 0, .null, [], []),
  (1, 4, .getfield 0, .null, [], [5, 3, 3]),
  (4, 7, .getfield 0, .null, [], [8, 1, 3]),
  (7, 10, .invokestatic 0, .null, [], [19, 1, 1]),
  (10, 11, .istore 2, .null, [], []),
  (11, 12, .iload 1, .null, [], []),
  (12, 15, .ifCond .eq 0, .null, [], [31]),
  (15, 16, .nop, .int (4 : Int32), [], []),
  (16, 17, .iload 2, .null, [], []),
  (17, 18, .iadd, .null, [], []),
  (18, 19, .nop, .int (2 : Int32), [], []),
  (19, 20, .aload 0, .null, [], []),
  (20, 23, .getfield 0, .null, [], [5, 4, 3]),
  (23, 26, .getfield 0, .null, [], [3, 3, 1]),
  (26, 27, .imul, .null, [], []),
  (27, 28, .iadd, .null, [], []),
  (28, 31, .goto 0, .null, [], [44]),
  (31, 32, .nop, .int (3 : Int32), [], []),
  (32, 33, .iload 2, .null, [], []),
  (33, 34, .iadd, .null, [], []),
  (34, 35, .nop, .int (3 : Int32), [], []),
  (35, 36, .aload 0, .null, [], []),
  (36, 39, .getfield 0, .null, [], [5, 4, 3]),
  (39, 42, .getfield 0, .null, [], [3, 3, 1]),
  (42, 43, .imul, .null, [], []),
  (43, 44, .iadd, .null, [], []),
  (44, 45, .ireturn, .null, [], [0])]
def zh_92 : List (Nat × List Nat) := []
-- 93: PrimeCertificates$Maker.factorsSuffice:()Z
def zo_93 : List (Nat × Nat × dzOp) := [
  (0, 1, .aload 0, .null, [], []),
  (1, 4, .getfield 0, .null, [], [5, 2, 3]),
  (4, 5, .aload 0, .null, [], []),
  (5, 8, .getfield 0, .null, [], [5, 3, 3]),
  (8, 11, .getfield 0, .null, [], [8, 2, 3]),
  (11, 12, .aload 0, .null, [], []),
  (12, 15, .getfield 0, .null, [], [5, 5, 3]),
  (15, 16, .aload 0, .null, [], []),
  (16, 19, .getfield 0, .null, [], [5, 6, 3]),
  (19, 20, .aload 0, .null, [], []),
  (20, 23, .getfield 0, .null, [], [5, 7, 3]),
  (23, 26, .invokestatic 0, .null, [], [35, 5, 0]),
  (26, 27, .aload 0, .null, [], []),
  (27, 30, .getfield 0, .null, [], [5, 2, 3]),
  (30, 31, .aload 0, .null, [], []),
  (31, 34, .getfield 0, .null, [], [5, 6, 3]),
  (34, 35, .aload 0, .null, [], []),
  (35, 38, .getfield 0, .null, [], [5, 3, 3]),
  (38, 41, .getfield 0, .null, [], [8, 1, 3]),
  (41, 44, .invokestatic 0, .null, [], [69, 3, 1]),
  (44, 45, .ireturn, .null, [], [1])]
def zh_93 : List (Nat × List Nat) := []
-- 94: PrimeCertificates$Maker.findRoot:()Z
def zo_94 : List (Nat × Nat × dzOp) := [
  (0, 1, .nop, .int (2 : Int32), [], []),
  (1, 2, .istore 1, .null, [], []),
  (2, 3, .iload 1, .null, [], []),
  (3, 6, .nop, .int (200 : Int32), [], []),
  (6, 9, .if_icmp .gt 0, .null, [], [75]),
  (9, 10, .nop, .int (0 : Int32), [], []),
  (10, 11, .istore 2, .null, [], []),
  (11, 12, .iload 2, .null, [], []),
  (12, 13, .aload 0, .null, [], []),
  (13, 16, .getfield 0, .null, [], [5, 4, 3]),
  (16, 19, .getfield 0, .null, [], [3, 3, 1]),
  (19, 22, .if_icmp .ge 0, .null, [], [44]),
  (22, 23, .aload 0, .null, [], []),
  (23, 26, .getfield 0, .null, [], [5, 3, 3]),
  (26, 27, .iload 1, .null, [], []),
  (27, 28, .aload 0, .null, [], []),
  (28, 29, .iload 2, .null, [], []),
  (29, 32, .invokestatic 0, .null, [], [88, 2, 3]),
  (32, 35, .invokestatic 0, .null, [], [73, 3, 1]),
  (35, 38, .ifCond .eq 0, .null, [], [44]),
  (38, 41, .iinc 2 0, .int (1 : Int32), [], []),
  (41, 44, .goto 0, .null, [], [11]),
  (44, 45, .iload 2, .null, [], []),
  (45, 46, .aload 0, .null, [], []),
  (46, 49, .getfield 0, .null, [], [5, 4, 3]),
  (49, 52, .getfield 0, .null, [], [3, 3, 1]),
  (52, 55, .if_icmp .ne 0, .null, [], [69]),
  (55, 56, .aload 0, .null, [], []),
  (56, 57, .iload 1, .null, [], []),
  (57, 60, .putfield 0, .null, [], [5, 10, 1]),
  (60, 61, .aload 0, .null, [], []),
  (61, 64, .getfield 0, .null, [], [5, 3, 3]),
  (64, 65, .iload 1, .null, [], []),
  (65, 68, .invokestatic 0, .null, [], [72, 2, 1]),
  (68, 69, .ireturn, .null, [], [1]),
  (69, 72, .iinc 1 0, .int (1 : Int32), [], []),
  (72, 75, .goto 0, .null, [], [2]),
  (75, 76, .nop, .int (0 : Int32), [], []),
  (76, 77, .ireturn, .null, [], [1])]
def zh_94 : List (Nat × List Nat) := [(2, [0, 1]), (11, [0, 1, 2]), (44, [0, 1, 2])]
-- 95: PrimeCertificates$Maker.findWitnesses:()Z
def zo_95 : List (Nat × Nat × dzOp) := [
  (0, 1, .nop, .int (1 : Int32), [], []),
  (1, 2, .istore 1, .null, [], []),
  (2, 3, .nop, .int (0 : Int32), [], []),
  (3, 4, .istore 2, .null, [], []),
  (4, 5, .iload 2, .null, [], []),
  (5, 6, .aload 0, .null, [], []),
  (6, 9, .getfield 0, .null, [], [5, 4, 3]),
  (9, 12, .getfield 0, .null, [], [3, 3, 1]),
  (12, 15, .if_icmp .ge 0, .null, [], [122]),
  (15, 16, .aload 0, .null, [], []),
  (16, 19, .getfield 0, .null, [], [5, 4, 3]),
  (19, 22, .getfield 0, .null, [], [3, 2, 3]),
  (22, 23, .iload 2, .null, [], []),
  (23, 24, .nop, .int (0 : Int32), [], []),
  (24, 25, .iastore, .null, [], []),
  (25, 26, .nop, .int (2 : Int32), [], []),
  (26, 27, .istore 3, .null, [], []),
  (27, 28, .iload 3, .null, [], []),
  (28, 31, .nop, .int (200 : Int32), [], []),
  (31, 34, .if_icmp .gt 0, .null, [], [102]),
  (34, 35, .aload 0, .null, [], []),
  (35, 38, .getfield 0, .null, [], [5, 4, 3]),
  (38, 41, .getfield 0, .null, [], [3, 2, 3]),
  (41, 42, .iload 2, .null, [], []),
  (42, 43, .iaload, .null, [], []),
  (43, 46, .ifCond .ne 0, .null, [], [102]),
  (46, 47, .iload 3, .null, [], []),
  (47, 48, .iload 1, .null, [], []),
  (48, 51, .if_icmp .le 0, .null, [], [64]),
  (51, 52, .aload 0, .null, [], []),
  (52, 55, .getfield 0, .null, [], [5, 3, 3]),
  (55, 56, .iload 3, .null, [], []),
  (56, 59, .invokestatic 0, .null, [], [72, 2, 1]),
  (59, 62, .ifCond .ne 0, .null, [], [64]),
  (62, 63, .nop, .int (0 : Int32), [], []),
  (63, 64, .ireturn, .null, [], [1]),
  (64, 65, .iload 1, .null, [], []),
  (65, 66, .iload 3, .null, [], []),
  (66, 69, .fmul, .null, [], []),
  (69, 70, .istore 1, .null, [], []),
  (70, 71, .aload 0, .null, [], []),
  (71, 74, .getfield 0, .null, [], [5, 3, 3]),
  (74, 75, .iload 3, .null, [], []),
  (75, 76, .aload 0, .null, [], []),
  (76, 77, .iload 2, .null, [], []),
  (77, 80, .invokestatic 0, .null, [], [88, 2, 3]),
  (80, 83, .invokestatic 0, .null, [], [76, 3, 1]),
  (83, 86, .ifCond .eq 0, .null, [], [96]),
  (86, 87, .aload 0, .null, [], []),
  (87, 90, .getfield 0, .null, [], [5, 4, 3]),
  (90, 93, .getfield 0, .null, [], [3, 2, 3]),
  (93, 94, .iload 2, .null, [], []),
  (94, 95, .iload 3, .null, [], []),
  (95, 96, .iastore, .null, [], []),
  (96, 99, .iinc 3 0, .int (1 : Int32), [], []),
  (99, 102, .goto 0, .null, [], [27]),
  (102, 103, .aload 0, .null, [], []),
  (103, 106, .getfield 0, .null, [], [5, 4, 3]),
  (106, 109, .getfield 0, .null, [], [3, 2, 3]),
  (109, 110, .iload 2, .null, [], []),
  (110, 111, .iaload, .null, [], []),
  (111, 114, .ifCond .ne 0, .null, [], [116]),
  (114, 115, .nop, .int (0 : Int32), [], []),
  (115, 116, .ireturn, .null, [], [1]),
  (116, 119, .iinc 2 0, .int (1 : Int32), [], []),
  (119, 122, .goto 0, .null, [], [4]),
  (122, 123, .nop, .int (1 : Int32), [], []),
  (123, 124, .ireturn, .null, [], [1])]
def zh_95 : List (Nat × List Nat) := [(4, [0, 1, 2]), (27, [0, 1, 2, 3]), (64, [0, 1, 2, 3]), (96, [0, 1, 2, 3]), (102, [0, 1, 2, 3])]
-- 96: PrimeCertificates$Maker.writeLastLine:(Z)I
def zo_96 : List (Nat × Nat × dzOp) := [
  (0, 1, .aload 0, .null, [], []),
  (1, 4, .getfield 0, .null, [], [5, 3, 3]),
  (4, 7, .getfield 0, .null, [], [8, 1, 3]),
  (7, 8, .aload 0, .null, [], []),
  (8, 11, .getfield 0, .null, [], [5, 1, 3]),
  (11, 14, .getfield 0, .null, [], [4, 0, 3]),
  (14, 15, .aload 0, .null, [], []),
  (15, 18, .getfield 0, .null, [], [5, 1, 3]),
  (18, 21, .getfield 0, .null, [], [4, 2, 1]),
  (21, 22, .aaload, .null, [], []),
  (22, 25, .invokestatic 0, .null, [], [14, 2, 0]),
  (25, 26, .aload 0, .null, [], []),
  (26, 29, .getfield 0, .null, [], [5, 3, 3]),
  (29, 32, .getfield 0, .null, [], [8, 1, 3]),
  (32, 35, .invokestatic 0, .null, [], [19, 1, 1]),
  (35, 36, .istore 2, .null, [], []),
  (36, 37, .aload 0, .null, [], []),
  (37, 40, .getfield 0, .null, [], [5, 0, 3]),
  (40, 41, .iload 1, .null, [], []),
  (41, 44, .ifCond .eq 0, .null, [], [48]),
  (44, 45, .nop, .int (2 : Int32), [], []),
  (45, 48, .goto 0, .null, [], [49]),
  (48, 49, .nop, .int (3 : Int32), [], []),
  (49, 52, .invokestatic 0, .null, [], [45, 2, 0]),
  (52, 53, .aload 0, .null, [], []),
  (53, 56, .getfield 0, .null, [], [5, 0, 3]),
  (56, 57, .iload 2, .null, [], []),
  (57, 60, .invokestatic 0, .null, [], [45, 2, 0]),
  (60, 61, .nop, .int (0 : Int32), [], []),
  (61, 62, .istore 3, .null, [], []),
  (62, 63, .iload 3, .null, [], []),
  (63, 64, .iload 2, .null, [], []),
  (64, 67, .if_icmp .ge 0, .null, [], [89]),
  (67, 68, .aload 0, .null, [], []),
  (68, 71, .getfield 0, .null, [], [5, 0, 3]),
  (71, 72, .aload 0, .null, [], []),
  (72, 75, .getfield 0, .null, [], [5, 3, 3]),
  (75, 78, .getfield 0, .null, [], [8, 1, 3]),
  (78, 79, .iload 3, .null, [], []),
  (79, 80, .iaload, .null, [], []),
  (80, 83, .invokestatic 0, .null, [], [45, 2, 0]),
  (83, 86, .iinc 3 0, .int (1 : Int32), [], []),
  (86, 89, .goto 0, .null, [], [62]),
  (89, 90, .iload 1, .null, [], []),
  (90, 93, .ifCond .eq 0, .null, [], [104]),
  (93, 94, .aload 0, .null, [], []),
  (94, 97, .getfield 0, .null, [], [5, 0, 3]),
  (97, 98, .aload 0, .null, [], []),
  (98, 101, .getfield 0, .null, [], [5, 10, 1]),
  (101, 104, .invokestatic 0, .null, [], [45, 2, 0]),
  (104, 105, .aload 0, .null, [], []),
  (105, 108, .getfield 0, .null, [], [5, 0, 3]),
  (108, 109, .aload 0, .null, [], []),
  (109, 112, .getfield 0, .null, [], [5, 4, 3]),
  (112, 115, .getfield 0, .null, [], [3, 3, 1]),
  (115, 118, .invokestatic 0, .null, [], [45, 2, 0]),
  (118, 119, .nop, .int (0 : Int32), [], []),
  (119, 120, .istore 3, .null, [], []),
  (120, 121, .iload 3, .null, [], []),
  (121, 122, .aload 0, .null, [], []),
  (122, 125, .getfield 0, .null, [], [5, 4, 3]),
  (125, 128, .getfield 0, .null, [], [3, 3, 1]),
  (128, 131, .if_icmp .ge 0, .null, [], [189]),
  (131, 132, .aload 0, .null, [], []),
  (132, 135, .getfield 0, .null, [], [5, 0, 3]),
  (135, 136, .aload 0, .null, [], []),
  (136, 139, .getfield 0, .null, [], [5, 4, 3]),
  (139, 142, .getfield 0, .null, [], [3, 0, 3]),
  (142, 143, .iload 3, .null, [], []),
  (143, 144, .iaload, .null, [], []),
  (144, 147, .invokestatic 0, .null, [], [45, 2, 0]),
  (147, 148, .aload 0, .null, [], []),
  (148, 151, .getfield 0, .null, [], [5, 0, 3]),
  (151, 152, .aload 0, .null, [], []),
  (152, 155, .getfield 0, .null, [], [5, 4, 3]),
  (155, 158, .getfield 0, .null, [], [3, 1, 3]),
  (158, 159, .iload 3, .null, [], []),
  (159, 160, .iaload, .null, [], []),
  (160, 163, .invokestatic 0, .null, [], [45, 2, 0]),
  (163, 164, .iload 1, .null, [], []),
  (164, 167, .ifCond .ne 0, .null, [], [183]),
  (167, 168, .aload 0, .null, [], []),
  (168, 171, .getfield 0, .null, [], [5, 0, 3]),
  (171, 172, .aload 0, .null, [], []),
  (172, 175, .getfield 0, .null, [], [5, 4, 3]),
  (175, 178, .getfield 0, .null, [], [3, 2, 3]),
  (178, 179, .iload 3, .null, [], []),
  (179, 180, .iaload, .null, [], []),
  (180, 183, .invokestatic 0, .null, [], [45, 2, 0]),
  (183, 186, .iinc 3 0, .int (1 : Int32), [], []),
  (186, 189, .goto 0, .null, [], [120]),
  (189, 190, .aload 0, .null, [], []),
  (190, 193, .getfield 0, .null, [], [5, 1, 3]),
  (193, 194, .aload 0, .null, [], []),
  (194, 197, .getfield 0, .null, [], [5, 0, 3]),
  (197, 200, .getfield 0, .null, [], [7, 1, 1]),
  (200, 203, .invokestatic 0, .null, [], [78, 2, 0]),
  (203, 204, .aload 0, .null, [], []),
  (204, 207, .getfield 0, .null, [], [5, 1, 3]),
  (207, 210, .getfield 0, .null, [], [4, 2, 1]),
  (210, 211, .nop, .int (1 : Int32), [], []),
  (211, 212, .isub, .null, [], []),
  (212, 213, .ireturn, .null, [], [0])]
def zh_96 : List (Nat × List Nat) := [(49, [0, 1, 2]), (62, [0, 1, 2, 3]), (104, [0, 1, 2, 3]), (120, [0, 1, 2, 3]), (183, [0, 1, 2, 3])]
-- 97: PrimeCertificates$Maker.lineFor:([I)I
def zo_97 : List (Nat × Nat × dzOp) := [
  (0, 1, .aload 0, .null, [], []),
  (1, 4, .getfield 0, .null, [], [5, 1, 3]),
  (4, 5, .aload 1, .null, [], []),
  (5, 8, .invokestatic 0, .null, [], [83, 2, 1]),
  (8, 9, .istore 2, .null, [], []),
  (9, 10, .iload 2, .null, [], []),
  (10, 12, .nop, .int (-2 : Int32), [], []),
  (12, 15, .if_icmp .eq 0, .null, [], [17]),
  (15, 16, .iload 2, .null, [], []),
  (16, 17, .ireturn, .null, [], [0]),
  (17, 18, .aload 0, .null, [], []),
  (18, 19, .nop, .int (0 : Int32), [], []),
  (19, 22, .putfield 0, .null, [], [5, 9, 1]),
  (22, 23, .aload 1, .null, [], []),
  (23, 25, .nop, .int (65535 : Int32), [], []),
  (25, 28, .invokestatic 0, .null, [], [57, 2, 1]),
  (28, 31, .ifCond .eq 0, .null, [], [66]),
  (31, 32, .aload 1, .null, [], []),
  (32, 33, .nop, .int (0 : Int32), [], []),
  (33, 34, .iaload, .null, [], []),
  (34, 37, .invokestatic 0, .null, [], [54, 1, 1]),
  (37, 40, .ifCond .eq 0, .null, [], [63]),
  (40, 41, .aload 0, .null, [], []),
  (41, 42, .aload 1, .null, [], []),
  (42, 45, .invokestatic 0, .null, [], [84, 2, 1]),
  (45, 48, .ifCond .eq 0, .null, [], [63]),
  (48, 49, .aload 0, .null, [], []),
  (49, 50, .nop, .int (0 : Int32), [], []),
  (50, 53, .invokestatic 0, .null, [], [85, 2, 1]),
  (53, 56, .ifCond .eq 0, .null, [], [63]),
  (56, 57, .aload 0, .null, [], []),
  (57, 60, .invokestatic 0, .null, [], [86, 1, 1]),
  (60, 63, .goto 0, .null, [], [65]),
  (63, 65, .nop, .int (-2 : Int32), [], []),
  (65, 66, .ireturn, .null, [], [0]),
  (66, 67, .aload 0, .null, [], []),
  (67, 70, .getfield 0, .null, [], [5, 3, 3]),
  (70, 71, .aload 1, .null, [], []),
  (71, 74, .invokestatic 0, .null, [], [66, 2, 0]),
  (74, 75, .aload 0, .null, [], []),
  (75, 78, .invokestatic 0, .null, [], [91, 1, 1]),
  (78, 81, .ifCond .ne 0, .null, [], [84]),
  (81, 83, .nop, .int (-2 : Int32), [], []),
  (83, 84, .ireturn, .null, [], [0]),
  (84, 85, .aload 0, .null, [], []),
  (85, 88, .getfield 0, .null, [], [5, 5, 3]),
  (88, 91, .invokestatic 0, .null, [], [71, 1, 1]),
  (91, 92, .istore 3, .null, [], []),
  (92, 93, .aload 0, .null, [], []),
  (93, 94, .aload 0, .null, [], []),
  (94, 95, .iload 3, .null, [], []),
  (95, 98, .invokestatic 0, .null, [], [92, 2, 1]),
  (98, 101, .invokestatic 0, .null, [], [85, 2, 1]),
  (101, 104, .ifCond .eq 0, .null, [], [115]),
  (104, 105, .iload 3, .null, [], []),
  (105, 108, .ifCond .ne 0, .null, [], [118]),
  (108, 109, .aload 0, .null, [], []),
  (109, 112, .invokestatic 0, .null, [], [93, 1, 1]),
  (112, 115, .ifCond .ne 0, .null, [], [118]),
  (115, 117, .nop, .int (-2 : Int32), [], []),
  (117, 118, .ireturn, .null, [], [0]),
  (118, 119, .iload 3, .null, [], []),
  (119, 122, .ifCond .eq 0, .null, [], [132]),
  (122, 123, .aload 0, .null, [], []),
  (123, 126, .invokestatic 0, .null, [], [94, 1, 1]),
  (126, 129, .ifCond .eq 0, .null, [], [139]),
  (129, 132, .goto 0, .null, [], [142]),
  (132, 133, .aload 0, .null, [], []),
  (133, 136, .invokestatic 0, .null, [], [95, 1, 1]),
  (136, 139, .ifCond .ne 0, .null, [], [142]),
  (139, 141, .nop, .int (-2 : Int32), [], []),
  (141, 142, .ireturn, .null, [], [0]),
  (142, 143, .aload 0, .null, [], []),
  (143, 146, .invokestatic 0, .null, [], [86, 1, 1]),
  (146, 147, .pop, .null, [], []),
  (147, 148, .aload 0, .null, [], []),
  (148, 149, .iload 3, .null, [], []),
  (149, 152, .invokestatic 0, .null, [], [96, 2, 1]),
  (152, 153, .ireturn, .null, [], [0])]
def zh_97 : List (Nat × List Nat) := [(118, [0, 1, 2, 3]), (142, [0, 1, 2, 3])]
-- 98: PrimeCertificates.prove:(I)I
def zo_98 : List (Nat × Nat × dzOp) := [
  (0, 1, .iload 1, .null, [], []),
  (1, 4, .invokestatic 0, .null, [], [8, 1, 1]),
  (4, 7, .ifCond .ne 0, .null, [], [9]),
  (7, 8, .nop, .int (-1 : Int32), [], []),
  (8, 9, .ireturn, .null, [], [0]),
  (9, 10, .aload 0, .null, [], []),
  (10, 13, .getfield 0, .null, [], [0, 6, 3]),
  (13, 16, .invokestatic 0, .null, [], [79, 1, 1]),
  (16, 17, .istore 2, .null, [], []),
  (17, 18, .iload 2, .null, [], []),
  (18, 21, .ifCond .eq 0, .null, [], [26]),
  (21, 23, .nop, .int (-100 : Int32), [], []),
  (23, 24, .iload 2, .null, [], []),
  (24, 25, .isub, .null, [], []),
  (25, 26, .ireturn, .null, [], [0]),
  (26, 27, .aload 0, .null, [], []),
  (27, 30, .getfield 0, .null, [], [0, 7, 3]),
  (30, 31, .aload 0, .null, [], []),
  (31, 34, .getfield 0, .null, [], [0, 0, 3]),
  (34, 35, .iload 1, .null, [], []),
  (35, 36, .aaload, .null, [], []),
  (36, 39, .invokestatic 0, .null, [], [97, 2, 1]),
  (39, 40, .istore 3, .null, [], []),
  (40, 41, .aload 0, .null, [], []),
  (41, 44, .getfield 0, .null, [], [0, 5, 3]),
  (44, 45, .aload 0, .null, [], []),
  (45, 48, .getfield 0, .null, [], [0, 5, 3]),
  (48, 51, .getfield 0, .null, [], [4, 2, 1]),
  (51, 54, .putfield 0, .null, [], [4, 3, 1]),
  (54, 55, .iload 3, .null, [], []),
  (55, 56, .ireturn, .null, [], [0])]
def zh_98 : List (Nat × List Nat) := []
-- 99: PrimeCertificatesModel.set:(IJ)V
def zo_99 : List (Nat × Nat × dzOp) := [
  (0, 1, .nop, .int (0 : Int32), [], []),
  (1, 3, .istore 4, .null, [], []),
  (3, 5, .iload 4, .null, [], []),
  (5, 7, .nop, .int (40 : Int32), [], []),
  (7, 10, .if_icmp .ge 0, .null, [], [50]),
  (10, 11, .aload 0, .null, [], []),
  (11, 14, .getfield 0, .null, [], [1, 0, 3]),
  (14, 16, .nop, .int (40 : Int32), [], []),
  (16, 17, .iload 1, .null, [], []),
  (17, 18, .imul, .null, [], []),
  (18, 20, .iload 4, .null, [], []),
  (20, 21, .iadd, .null, [], []),
  (21, 23, .iload 4, .null, [], []),
  (23, 24, .nop, .int (4 : Int32), [], []),
  (24, 27, .if_icmp .ge 0, .null, [], [42]),
  (27, 28, .lload 2, .null, [], []),
  (28, 30, .nop, .int (16 : Int32), [], []),
  (30, 32, .iload 4, .null, [], []),
  (32, 33, .imul, .null, [], []),
  (33, 34, .lshr, .null, [], []),
  (34, 37, .nop, .long (65535 : Int64), [], []),
  (37, 38, .land, .null, [], []),
  (38, 39, .l2i, .null, [], []),
  (39, 42, .goto 0, .null, [], [43]),
  (42, 43, .nop, .int (0 : Int32), [], []),
  (43, 44, .iastore, .null, [], []),
  (44, 47, .iinc 4 0, .int (1 : Int32), [], []),
  (47, 50, .goto 0, .null, [], [3]),
  (50, 51, .return_, .null, [], [])]
def zh_99 : List (Nat × List Nat) := [(3, [0, 1, 2, 4]), (43, [0, 1, 2, 4])]
-- 100: PrimeCertificatesModel.<init>:()V
def zo_100 : List (Nat × Nat × dzOp) := [
  (0, 1, .aload 0, .null, [], []),
  (1, 4, .invokespecial 0, .null, [], []),
  (4, 5, .aload 0, .null, [], []),
  (5, 8, .nop, .int (9280 : Int32), [], []),
  (8, 10, .newarray .int, .null, [], []),
  (10, 13, .putfield 0, .null, [], [1, 0, 3]),
  (13, 14, .aload 0, .null, [], []),
  (14, 17, .nop, .int (4000 : Int32), [], []),
  (17, 19, .newarray .int, .null, [], []),
  (19, 22, .putfield 0, .null, [], [1, 1, 3]),
  (22, 23, .aload 0, .null, [], []),
  (23, 25, .nop, .int (-2 : Int32), [], []),
  (25, 28, .putfield 0, .null, [], [1, 3, 1]),
  (28, 29, .aload 0, .null, [], []),
  (29, 31, .nop, .int (40 : Int32), [], []),
  (31, 33, .newarray .int, .null, [], []),
  (33, 36, .putfield 0, .null, [], [1, 9, 3]),
  (36, 37, .aload 0, .null, [], []),
  (37, 39, .nop, .int (40 : Int32), [], []),
  (39, 41, .newarray .int, .null, [], []),
  (41, 44, .putfield 0, .null, [], [1, 10, 3]),
  (44, 45, .aload 0, .null, [], []),
  (45, 47, .nop, .int (40 : Int32), [], []),
  (47, 49, .newarray .int, .null, [], []),
  (49, 52, .putfield 0, .null, [], [1, 11, 3]),
  (52, 53, .aload 0, .null, [], []),
  (53, 55, .nop, .int (21 : Int32), [], []),
  (55, 56, .nop, .long (1 : Int64), [], []),
  (56, 59, .invokestatic 0, .null, [], [99, 3, 0]),
  (59, 60, .return_, .null, [], [])]
def zh_100 : List (Nat × List Nat) := []
-- 101: PrimeCertificatesModel.copy:(II)V
def zo_101 : List (Nat × Nat × dzOp) := [
  (0, 1, .nop, .int (0 : Int32), [], []),
  (1, 2, .istore 3, .null, [], []),
  (2, 3, .iload 3, .null, [], []),
  (3, 5, .nop, .int (40 : Int32), [], []),
  (5, 8, .if_icmp .ge 0, .null, [], [36]),
  (8, 9, .aload 0, .null, [], []),
  (9, 12, .getfield 0, .null, [], [1, 0, 3]),
  (12, 14, .nop, .int (40 : Int32), [], []),
  (14, 15, .iload 2, .null, [], []),
  (15, 16, .imul, .null, [], []),
  (16, 17, .iload 3, .null, [], []),
  (17, 18, .iadd, .null, [], []),
  (18, 19, .aload 0, .null, [], []),
  (19, 22, .getfield 0, .null, [], [1, 0, 3]),
  (22, 24, .nop, .int (40 : Int32), [], []),
  (24, 25, .iload 1, .null, [], []),
  (25, 26, .imul, .null, [], []),
  (26, 27, .iload 3, .null, [], []),
  (27, 28, .iadd, .null, [], []),
  (28, 29, .iaload, .null, [], []),
  (29, 30, .iastore, .null, [], []),
  (30, 33, .iinc 3 0, .int (1 : Int32), [], []),
  (33, 36, .goto 0, .null, [], [2]),
  (36, 37, .return_, .null, [], [])]
def zh_101 : List (Nat × List Nat) := [(2, [0, 1, 2, 3])]
-- 102: PrimeCertificatesModel.order:(II)I
def zo_102 : List (Nat × Nat × dzOp) := [
  (0, 2, .nop, .int (39 : Int32), [], []),
  (2, 3, .istore 3, .null, [], []),
  (3, 4, .iload 3, .null, [], []),
  (4, 7, .ifCond .lt 0, .null, [], [38]),
  (7, 8, .aload 0, .null, [], []),
  (8, 11, .getfield 0, .null, [], [1, 0, 3]),
  (11, 13, .nop, .int (40 : Int32), [], []),
  (13, 14, .iload 1, .null, [], []),
  (14, 15, .imul, .null, [], []),
  (15, 16, .iload 3, .null, [], []),
  (16, 17, .iadd, .null, [], []),
  (17, 18, .iaload, .null, [], []),
  (18, 19, .aload 0, .null, [], []),
  (19, 22, .getfield 0, .null, [], [1, 0, 3]),
  (22, 24, .nop, .int (40 : Int32), [], []),
  (24, 25, .iload 2, .null, [], []),
  (25, 26, .imul, .null, [], []),
  (26, 27, .iload 3, .null, [], []),
  (27, 28, .iadd, .null, [], []),
  (28, 29, .iaload, .null, [], []),
  (29, 32, .if_icmp .ne 0, .null, [], [38]),
  (32, 35, .iinc 3 0, .int (-1 : Int32), [], []),
  (35, 38, .goto 0, .null, [], [3]),
  (38, 39, .iload 3, .null, [], []),
  (39, 42, .ifCond .ge 0, .null, [], [46]),
  (42, 43, .nop, .int (0 : Int32), [], []),
  (43, 46, .goto 0, .null, [], [76]),
  (46, 47, .aload 0, .null, [], []),
  (47, 50, .getfield 0, .null, [], [1, 0, 3]),
  (50, 52, .nop, .int (40 : Int32), [], []),
  (52, 53, .iload 1, .null, [], []),
  (53, 54, .imul, .null, [], []),
  (54, 55, .iload 3, .null, [], []),
  (55, 56, .iadd, .null, [], []),
  (56, 57, .iaload, .null, [], []),
  (57, 58, .aload 0, .null, [], []),
  (58, 61, .getfield 0, .null, [], [1, 0, 3]),
  (61, 63, .nop, .int (40 : Int32), [], []),
  (63, 64, .iload 2, .null, [], []),
  (64, 65, .imul, .null, [], []),
  (65, 66, .iload 3, .null, [], []),
  (66, 67, .iadd, .null, [], []),
  (67, 68, .iaload, .null, [], []),
  (68, 71, .if_icmp .ge 0, .null, [], [75]),
  (71, 72, .nop, .int (-1 : Int32), [], []),
  (72, 75, .goto 0, .null, [], [76]),
  (75, 76, .nop, .int (1 : Int32), [], []),
  (76, 77, .ireturn, .null, [], [0])]
def zh_102 : List (Nat × List Nat) := [(3, [0, 1, 2, 3]), (38, [0, 1, 2, 3])]
-- 103: PrimeCertificatesModel.lengthOf:(I)I
def zo_103 : List (Nat × Nat × dzOp) := [
  (0, 2, .nop, .int (40 : Int32), [], []),
  (2, 3, .istore 2, .null, [], []),
  (3, 4, .iload 2, .null, [], []),
  (4, 7, .ifCond .le 0, .null, [], [29]),
  (7, 8, .aload 0, .null, [], []),
  (8, 11, .getfield 0, .null, [], [1, 0, 3]),
  (11, 13, .nop, .int (40 : Int32), [], []),
  (13, 14, .iload 1, .null, [], []),
  (14, 15, .imul, .null, [], []),
  (15, 16, .iload 2, .null, [], []),
  (16, 17, .iadd, .null, [], []),
  (17, 18, .nop, .int (1 : Int32), [], []),
  (18, 19, .isub, .null, [], []),
  (19, 20, .iaload, .null, [], []),
  (20, 23, .ifCond .ne 0, .null, [], [29]),
  (23, 26, .iinc 2 0, .int (-1 : Int32), [], []),
  (26, 29, .goto 0, .null, [], [3]),
  (29, 30, .iload 2, .null, [], []),
  (30, 31, .ireturn, .null, [], [0])]
def zh_103 : List (Nat × List Nat) := [(3, [0, 1, 2])]
-- 104: PrimeCertificatesModel.isZero:(I)Z
def zo_104 : List (Nat × Nat × dzOp) := [
  (0, 1, .aload 0, .null, [], []),
  (1, 2, .iload 1, .null, [], []),
  (2, 5, .invokestatic 0, .null, [], [103, 2, 1]),
  (5, 8, .ifCond .ne 0, .null, [], [12]),
  (8, 9, .nop, .int (1 : Int32), [], []),
  (9, 12, .goto 0, .null, [], [13]),
  (12, 13, .nop, .int (0 : Int32), [], []),
  (13, 14, .ireturn, .null, [], [1])]
def zh_104 : List (Nat × List Nat) := []
-- 105: PrimeCertificatesModel.raise:(II)V
def zo_105 : List (Nat × Nat × dzOp) := [
  (0, 1, .nop, .int (0 : Int32), [], []),
  (1, 2, .istore 3, .null, [], []),
  (2, 3, .nop, .int (0 : Int32), [], []),
  (3, 5, .istore 4, .null, [], []),
  (5, 7, .iload 4, .null, [], []),
  (7, 9, .nop, .int (40 : Int32), [], []),
  (9, 12, .if_icmp .ge 0, .null, [], [70]),
  (12, 13, .aload 0, .null, [], []),
  (13, 16, .getfield 0, .null, [], [1, 0, 3]),
  (16, 18, .nop, .int (40 : Int32), [], []),
  (18, 19, .iload 1, .null, [], []),
  (19, 20, .imul, .null, [], []),
  (20, 22, .iload 4, .null, [], []),
  (22, 23, .iadd, .null, [], []),
  (23, 24, .iaload, .null, [], []),
  (24, 25, .aload 0, .null, [], []),
  (25, 28, .getfield 0, .null, [], [1, 0, 3]),
  (28, 30, .nop, .int (40 : Int32), [], []),
  (30, 31, .iload 2, .null, [], []),
  (31, 32, .imul, .null, [], []),
  (32, 34, .iload 4, .null, [], []),
  (34, 35, .iadd, .null, [], []),
  (35, 36, .iaload, .null, [], []),
  (36, 37, .iadd, .null, [], []),
  (37, 38, .iload 3, .null, [], []),
  (38, 39, .iadd, .null, [], []),
  (39, 41, .istore 5, .null, [], []),
  (41, 42, .aload 0, .null, [], []),
  (42, 45, .getfield 0, .null, [], [1, 0, 3]),
  (45, 47, .nop, .int (40 : Int32), [], []),
  (47, 48, .iload 1, .null, [], []),
  (48, 49, .imul, .null, [], []),
  (49, 51, .iload 4, .null, [], []),
  (51, 52, .iadd, .null, [], []),
  (52, 54, .iload 5, .null, [], []),
  (54, 56, .nop, .int (65535 : Int32), [], []),
  (56, 57, .iand, .null, [], []),
  (57, 58, .iastore, .null, [], []),
  (58, 60, .iload 5, .null, [], []),
  (60, 62, .nop, .int (16 : Int32), [], []),
  (62, 63, .ishr, .null, [], []),
  (63, 64, .istore 3, .null, [], []),
  (64, 67, .iinc 4 0, .int (1 : Int32), [], []),
  (67, 70, .goto 0, .null, [], [5]),
  (70, 71, .return_, .null, [], [])]
def zh_105 : List (Nat × List Nat) := [(5, [0, 1, 2, 3, 4])]
-- 106: PrimeCertificatesModel.lower:(II)V
def zo_106 : List (Nat × Nat × dzOp) := [
  (0, 1, .nop, .int (0 : Int32), [], []),
  (1, 2, .istore 3, .null, [], []),
  (2, 3, .nop, .int (0 : Int32), [], []),
  (3, 5, .istore 4, .null, [], []),
  (5, 7, .iload 4, .null, [], []),
  (7, 9, .nop, .int (40 : Int32), [], []),
  (9, 12, .if_icmp .ge 0, .null, [], [75]),
  (12, 13, .aload 0, .null, [], []),
  (13, 16, .getfield 0, .null, [], [1, 0, 3]),
  (16, 18, .nop, .int (40 : Int32), [], []),
  (18, 19, .iload 1, .null, [], []),
  (19, 20, .imul, .null, [], []),
  (20, 22, .iload 4, .null, [], []),
  (22, 23, .iadd, .null, [], []),
  (23, 24, .iaload, .null, [], []),
  (24, 25, .aload 0, .null, [], []),
  (25, 28, .getfield 0, .null, [], [1, 0, 3]),
  (28, 30, .nop, .int (40 : Int32), [], []),
  (30, 31, .iload 2, .null, [], []),
  (31, 32, .imul, .null, [], []),
  (32, 34, .iload 4, .null, [], []),
  (34, 35, .iadd, .null, [], []),
  (35, 36, .iaload, .null, [], []),
  (36, 37, .isub, .null, [], []),
  (37, 38, .iload 3, .null, [], []),
  (38, 39, .isub, .null, [], []),
  (39, 41, .istore 5, .null, [], []),
  (41, 42, .aload 0, .null, [], []),
  (42, 45, .getfield 0, .null, [], [1, 0, 3]),
  (45, 47, .nop, .int (40 : Int32), [], []),
  (47, 48, .iload 1, .null, [], []),
  (48, 49, .imul, .null, [], []),
  (49, 51, .iload 4, .null, [], []),
  (51, 52, .iadd, .null, [], []),
  (52, 54, .iload 5, .null, [], []),
  (54, 56, .nop, .int (65535 : Int32), [], []),
  (56, 57, .iand, .null, [], []),
  (57, 58, .iastore, .null, [], []),
  (58, 60, .iload 5, .null, [], []),
  (60, 63, .ifCond .ge 0, .null, [], [67]),
  (63, 64, .nop, .int (1 : Int32), [], []),
  (64, 67, .goto 0, .null, [], [68]),
  (67, 68, .nop, .int (0 : Int32), [], []),
  (68, 69, .istore 3, .null, [], []),
  (69, 72, .iinc 4 0, .int (1 : Int32), [], []),
  (72, 75, .goto 0, .null, [], [5]),
  (75, 76, .return_, .null, [], [])]
def zh_106 : List (Nat × List Nat) := [(5, [0, 1, 2, 3, 4]), (68, [0, 1, 2, 3, 4, 5])]
-- 107: PrimeCertificatesModel.times:(III)V
def zo_107 : List (Nat × Nat × dzOp) := [
  (0, 1, .aload 0, .null, [], []),
  (1, 2, .iload 3, .null, [], []),
  (2, 3, .nop, .long (0 : Int64), [], []),
  (3, 6, .invokestatic 0, .null, [], [99, 3, 0]),
  (6, 7, .aload 0, .null, [], []),
  (7, 8, .iload 1, .null, [], []),
  (8, 11, .invokestatic 0, .null, [], [103, 2, 1]),
  (11, 13, .istore 4, .null, [], []),
  (13, 14, .aload 0, .null, [], []),
  (14, 15, .iload 2, .null, [], []),
  (15, 18, .invokestatic 0, .null, [], [103, 2, 1]),
  (18, 20, .istore 5, .null, [], []),
  (20, 21, .nop, .int (0 : Int32), [], []),
  (21, 23, .istore 6, .null, [], []),
  (23, 25, .iload 6, .null, [], []),
  (25, 27, .iload 4, .null, [], []),
  (27, 30, .if_icmp .ge 0, .null, [], [151]),
  (30, 31, .nop, .long (0 : Int64), [], []),
  (31, 33, .lstore 7, .null, [], []),
  (33, 34, .nop, .int (0 : Int32), [], []),
  (34, 36, .istore 9, .null, [], []),
  (36, 38, .iload 9, .null, [], []),
  (38, 40, .iload 5, .null, [], []),
  (40, 43, .if_icmp .lt 0, .null, [], [50]),
  (43, 45, .lload 7, .null, [], []),
  (45, 46, .nop, .long (0 : Int64), [], []),
  (46, 47, .lcmp, .null, [], []),
  (47, 50, .ifCond .le 0, .null, [], [145]),
  (50, 51, .aload 0, .null, [], []),
  (51, 54, .getfield 0, .null, [], [1, 0, 3]),
  (54, 56, .nop, .int (40 : Int32), [], []),
  (56, 57, .iload 3, .null, [], []),
  (57, 58, .imul, .null, [], []),
  (58, 60, .iload 6, .null, [], []),
  (60, 61, .iadd, .null, [], []),
  (61, 63, .iload 9, .null, [], []),
  (63, 64, .iadd, .null, [], []),
  (64, 65, .iaload, .null, [], []),
  (65, 66, .i2l, .null, [], []),
  (66, 68, .lload 7, .null, [], []),
  (68, 69, .ladd, .null, [], []),
  (69, 71, .iload 9, .null, [], []),
  (71, 73, .iload 5, .null, [], []),
  (73, 76, .if_icmp .ge 0, .null, [], [106]),
  (76, 77, .aload 0, .null, [], []),
  (77, 80, .getfield 0, .null, [], [1, 0, 3]),
  (80, 82, .nop, .int (40 : Int32), [], []),
  (82, 83, .iload 1, .null, [], []),
  (83, 84, .imul, .null, [], []),
  (84, 86, .iload 6, .null, [], []),
  (86, 87, .iadd, .null, [], []),
  (87, 88, .iaload, .null, [], []),
  (88, 89, .i2l, .null, [], []),
  (89, 90, .aload 0, .null, [], []),
  (90, 93, .getfield 0, .null, [], [1, 0, 3]),
  (93, 95, .nop, .int (40 : Int32), [], []),
  (95, 96, .iload 2, .null, [], []),
  (96, 97, .imul, .null, [], []),
  (97, 99, .iload 9, .null, [], []),
  (99, 100, .iadd, .null, [], []),
  (100, 101, .iaload, .null, [], []),
  (101, 102, .i2l, .null, [], []),
  (102, 103, .lmul, .null, [], []),
  (103, 106, .goto 0, .null, [], [107]),
  (106, 107, .nop, .long (0 : Int64), [], []),
  (107, 108, .ladd, .null, [], []),
  (108, 110, .lstore 10, .null, [], []),
  (110, 111, .aload 0, .null, [], []),
  (111, 114, .getfield 0, .null, [], [1, 0, 3]),
  (114, 116, .nop, .int (40 : Int32), [], []),
  (116, 117, .iload 3, .null, [], []),
  (117, 118, .imul, .null, [], []),
  (118, 120, .iload 6, .null, [], []),
  (120, 121, .iadd, .null, [], []),
  (121, 123, .iload 9, .null, [], []),
  (123, 124, .iadd, .null, [], []),
  (124, 126, .lload 10, .null, [], []),
  (126, 129, .nop, .long (65535 : Int64), [], []),
  (129, 130, .land, .null, [], []),
  (130, 131, .l2i, .null, [], []),
  (131, 132, .iastore, .null, [], []),
  (132, 134, .lload 10, .null, [], []),
  (134, 136, .nop, .int (16 : Int32), [], []),
  (136, 137, .lshr, .null, [], []),
  (137, 139, .lstore 7, .null, [], []),
  (139, 142, .iinc 9 0, .int (1 : Int32), [], []),
  (142, 145, .goto 0, .null, [], [36]),
  (145, 148, .iinc 6 0, .int (1 : Int32), [], []),
  (148, 151, .goto 0, .null, [], [23]),
  (151, 152, .return_, .null, [], [])]
def zh_107 : List (Nat × List Nat) := [(23, [0, 1, 2, 3, 4, 5, 6]), (36, [0, 1, 2, 3, 4, 5, 6, 7, 9]), (50, [0, 1, 2, 3, 4, 5, 6, 7, 9]), (107, [0, 1, 2, 3, 4, 5, 6, 7, 9])]
-- 108: PrimeCertificatesModel.guess:(IIII)I
def zo_108 : List (Nat × Nat × dzOp) := [
  (0, 1, .aload 0, .null, [], []),
  (1, 4, .getfield 0, .null, [], [1, 0, 3]),
  (4, 6, .nop, .int (40 : Int32), [], []),
  (6, 7, .iload 1, .null, [], []),
  (7, 8, .imul, .null, [], []),
  (8, 9, .iload 2, .null, [], []),
  (9, 10, .iadd, .null, [], []),
  (10, 11, .iaload, .null, [], []),
  (11, 12, .i2l, .null, [], []),
  (12, 14, .nop, .int (16 : Int32), [], []),
  (14, 15, .lshl, .null, [], []),
  (15, 16, .aload 0, .null, [], []),
  (16, 19, .getfield 0, .null, [], [1, 0, 3]),
  (19, 21, .nop, .int (40 : Int32), [], []),
  (21, 22, .iload 1, .null, [], []),
  (22, 23, .imul, .null, [], []),
  (23, 24, .iload 2, .null, [], []),
  (24, 25, .iadd, .null, [], []),
  (25, 26, .nop, .int (1 : Int32), [], []),
  (26, 27, .isub, .null, [], []),
  (27, 28, .iaload, .null, [], []),
  (28, 29, .i2l, .null, [], []),
  (29, 30, .lor, .null, [], []),
  (30, 32, .lstore 5, .null, [], []),
  (32, 34, .lload 5, .null, [], []),
  (34, 35, .iload 3, .null, [], []),
  (35, 36, .nop, .int (1 : Int32), [], []),
  (36, 37, .iadd, .null, [], []),
  (37, 38, .i2l, .null, [], []),
  (38, 39, .ldiv, .null, [], []),
  (39, 40, .l2i, .null, [], []),
  (40, 41, .ireturn, .null, [], [0])]
def zh_108 : List (Nat × List Nat) := []
-- 109: PrimeCertificatesModel.away:(IIIII)V
def zo_109 : List (Nat × Nat × dzOp) := [
  (0, 1, .nop, .long (0 : Int64), [], []),
  (1, 3, .lstore 6, .null, [], []),
  (3, 4, .nop, .int (0 : Int32), [], []),
  (4, 6, .istore 8, .null, [], []),
  (6, 8, .iload 8, .null, [], []),
  (8, 10, .iload 5, .null, [], []),
  (10, 13, .if_icmp .gt 0, .null, [], [97]),
  (13, 14, .aload 0, .null, [], []),
  (14, 17, .getfield 0, .null, [], [1, 0, 3]),
  (17, 19, .nop, .int (40 : Int32), [], []),
  (19, 20, .iload 1, .null, [], []),
  (20, 21, .imul, .null, [], []),
  (21, 22, .iload 3, .null, [], []),
  (22, 23, .iadd, .null, [], []),
  (23, 25, .iload 8, .null, [], []),
  (25, 26, .iadd, .null, [], []),
  (26, 27, .iaload, .null, [], []),
  (27, 28, .i2l, .null, [], []),
  (28, 30, .iload 8, .null, [], []),
  (30, 32, .iload 5, .null, [], []),
  (32, 35, .if_icmp .ge 0, .null, [], [55]),
  (35, 37, .iload 4, .null, [], []),
  (37, 38, .i2l, .null, [], []),
  (38, 39, .aload 0, .null, [], []),
  (39, 42, .getfield 0, .null, [], [1, 0, 3]),
  (42, 44, .nop, .int (40 : Int32), [], []),
  (44, 45, .iload 2, .null, [], []),
  (45, 46, .imul, .null, [], []),
  (46, 48, .iload 8, .null, [], []),
  (48, 49, .iadd, .null, [], []),
  (49, 50, .iaload, .null, [], []),
  (50, 51, .i2l, .null, [], []),
  (51, 52, .lmul, .null, [], []),
  (52, 55, .goto 0, .null, [], [56]),
  (55, 56, .nop, .long (0 : Int64), [], []),
  (56, 57, .lsub, .null, [], []),
  (57, 59, .lload 6, .null, [], []),
  (59, 60, .lsub, .null, [], []),
  (60, 62, .lstore 9, .null, [], []),
  (62, 63, .aload 0, .null, [], []),
  (63, 66, .getfield 0, .null, [], [1, 0, 3]),
  (66, 68, .nop, .int (40 : Int32), [], []),
  (68, 69, .iload 1, .null, [], []),
  (69, 70, .imul, .null, [], []),
  (70, 71, .iload 3, .null, [], []),
  (71, 72, .iadd, .null, [], []),
  (72, 74, .iload 8, .null, [], []),
  (74, 75, .iadd, .null, [], []),
  (75, 77, .lload 9, .null, [], []),
  (77, 80, .nop, .long (65535 : Int64), [], []),
  (80, 81, .land, .null, [], []),
  (81, 82, .l2i, .null, [], []),
  (82, 83, .iastore, .null, [], []),
  (83, 85, .lload 9, .null, [], []),
  (85, 87, .nop, .int (16 : Int32), [], []),
  (87, 88, .lshr, .null, [], []),
  (88, 89, .lneg, .null, [], []),
  (89, 91, .lstore 6, .null, [], []),
  (91, 94, .iinc 8 0, .int (1 : Int32), [], []),
  (94, 97, .goto 0, .null, [], [6]),
  (97, 98, .return_, .null, [], [])]
def zh_109 : List (Nat × List Nat) := [(6, [0, 1, 2, 3, 4, 5, 6, 8]), (56, [0, 1, 2, 3, 4, 5, 6, 8])]
-- 110: PrimeCertificatesModel.isOver:(IIII)Z
def zo_110 : List (Nat × Nat × dzOp) := [
  (0, 1, .aload 0, .null, [], []),
  (1, 4, .getfield 0, .null, [], [1, 0, 3]),
  (4, 6, .nop, .int (40 : Int32), [], []),
  (6, 7, .iload 1, .null, [], []),
  (7, 8, .imul, .null, [], []),
  (8, 9, .iload 3, .null, [], []),
  (9, 10, .iadd, .null, [], []),
  (10, 12, .iload 4, .null, [], []),
  (12, 13, .iadd, .null, [], []),
  (13, 14, .iaload, .null, [], []),
  (14, 17, .ifCond .le 0, .null, [], [19]),
  (17, 18, .nop, .int (1 : Int32), [], []),
  (18, 19, .ireturn, .null, [], [1]),
  (19, 21, .iload 4, .null, [], []),
  (21, 22, .nop, .int (1 : Int32), [], []),
  (22, 23, .isub, .null, [], []),
  (23, 25, .istore 5, .null, [], []),
  (25, 27, .iload 5, .null, [], []),
  (27, 30, .ifCond .lt 0, .null, [], [65]),
  (30, 31, .aload 0, .null, [], []),
  (31, 34, .getfield 0, .null, [], [1, 0, 3]),
  (34, 36, .nop, .int (40 : Int32), [], []),
  (36, 37, .iload 1, .null, [], []),
  (37, 38, .imul, .null, [], []),
  (38, 39, .iload 3, .null, [], []),
  (39, 40, .iadd, .null, [], []),
  (40, 42, .iload 5, .null, [], []),
  (42, 43, .iadd, .null, [], []),
  (43, 44, .iaload, .null, [], []),
  (44, 45, .aload 0, .null, [], []),
  (45, 48, .getfield 0, .null, [], [1, 0, 3]),
  (48, 50, .nop, .int (40 : Int32), [], []),
  (50, 51, .iload 2, .null, [], []),
  (51, 52, .imul, .null, [], []),
  (52, 54, .iload 5, .null, [], []),
  (54, 55, .iadd, .null, [], []),
  (55, 56, .iaload, .null, [], []),
  (56, 59, .if_icmp .ne 0, .null, [], [65]),
  (59, 62, .iinc 5 0, .int (-1 : Int32), [], []),
  (62, 65, .goto 0, .null, [], [25]),
  (65, 67, .iload 5, .null, [], []),
  (67, 70, .ifCond .lt 0, .null, [], [99]),
  (70, 71, .aload 0, .null, [], []),
  (71, 74, .getfield 0, .null, [], [1, 0, 3]),
  (74, 76, .nop, .int (40 : Int32), [], []),
  (76, 77, .iload 1, .null, [], []),
  (77, 78, .imul, .null, [], []),
  (78, 79, .iload 3, .null, [], []),
  (79, 80, .iadd, .null, [], []),
  (80, 82, .iload 5, .null, [], []),
  (82, 83, .iadd, .null, [], []),
  (83, 84, .iaload, .null, [], []),
  (84, 85, .aload 0, .null, [], []),
  (85, 88, .getfield 0, .null, [], [1, 0, 3]),
  (88, 90, .nop, .int (40 : Int32), [], []),
  (90, 91, .iload 2, .null, [], []),
  (91, 92, .imul, .null, [], []),
  (92, 94, .iload 5, .null, [], []),
  (94, 95, .iadd, .null, [], []),
  (95, 96, .iaload, .null, [], []),
  (96, 99, .if_icmp .le 0, .null, [], [103]),
  (99, 100, .nop, .int (1 : Int32), [], []),
  (100, 103, .goto 0, .null, [], [104]),
  (103, 104, .nop, .int (0 : Int32), [], []),
  (104, 105, .ireturn, .null, [], [1])]
def zh_110 : List (Nat × List Nat) := [(25, [0, 1, 2, 3, 4, 5]), (65, [0, 1, 2, 3, 4, 5]), (99, [0, 1, 2, 3, 4, 5])]
-- 111: PrimeCertificatesModel.part:(IIII)V
def zo_111 : List (Nat × Nat × dzOp) := [
  (0, 1, .aload 0, .null, [], []),
  (1, 2, .iload 3, .null, [], []),
  (2, 3, .nop, .long (0 : Int64), [], []),
  (3, 6, .invokestatic 0, .null, [], [99, 3, 0]),
  (6, 7, .aload 0, .null, [], []),
  (7, 8, .iload 1, .null, [], []),
  (8, 10, .iload 4, .null, [], []),
  (10, 13, .invokestatic 0, .null, [], [101, 3, 0]),
  (13, 14, .aload 0, .null, [], []),
  (14, 15, .iload 2, .null, [], []),
  (15, 18, .invokestatic 0, .null, [], [103, 2, 1]),
  (18, 20, .istore 5, .null, [], []),
  (20, 21, .aload 0, .null, [], []),
  (21, 24, .getfield 0, .null, [], [1, 0, 3]),
  (24, 26, .nop, .int (40 : Int32), [], []),
  (26, 27, .iload 2, .null, [], []),
  (27, 28, .imul, .null, [], []),
  (28, 30, .iload 5, .null, [], []),
  (30, 31, .iadd, .null, [], []),
  (31, 32, .nop, .int (1 : Int32), [], []),
  (32, 33, .isub, .null, [], []),
  (33, 34, .iaload, .null, [], []),
  (34, 36, .istore 6, .null, [], []),
  (36, 37, .aload 0, .null, [], []),
  (37, 38, .iload 1, .null, [], []),
  (38, 41, .invokestatic 0, .null, [], [103, 2, 1]),
  (41, 43, .iload 5, .null, [], []),
  (43, 44, .isub, .null, [], []),
  (44, 46, .istore 7, .null, [], []),
  (46, 48, .iload 7, .null, [], []),
  (48, 51, .ifCond .lt 0, .null, [], [165]),
  (51, 52, .nop, .int (0 : Int32), [], []),
  (52, 54, .istore 8, .null, [], []),
  (54, 55, .aload 0, .null, [], []),
  (55, 57, .iload 4, .null, [], []),
  (57, 59, .iload 7, .null, [], []),
  (59, 61, .iload 5, .null, [], []),
  (61, 62, .iadd, .null, [], []),
  (62, 64, .iload 6, .null, [], []),
  (64, 66, .iload 5, .null, [], []),
  (66, 69, .invokestatic 0, .null, [], [108, 5, 1]),
  (69, 71, .istore 9, .null, [], []),
  (71, 73, .iload 9, .null, [], []),
  (73, 76, .ifCond .le 0, .null, [], [116]),
  (76, 77, .aload 0, .null, [], []),
  (77, 79, .iload 4, .null, [], []),
  (79, 80, .iload 2, .null, [], []),
  (80, 82, .iload 7, .null, [], []),
  (82, 84, .iload 9, .null, [], []),
  (84, 86, .iload 5, .null, [], []),
  (86, 89, .invokestatic 0, .null, [], [109, 6, 0]),
  (89, 91, .iload 8, .null, [], []),
  (91, 93, .iload 9, .null, [], []),
  (93, 94, .iadd, .null, [], []),
  (94, 96, .istore 8, .null, [], []),
  (96, 97, .aload 0, .null, [], []),
  (97, 99, .iload 4, .null, [], []),
  (99, 101, .iload 7, .null, [], []),
  (101, 103, .iload 5, .null, [], []),
  (103, 104, .iadd, .null, [], []),
  (104, 106, .iload 6, .null, [], []),
  (106, 108, .iload 5, .null, [], []),
  (108, 111, .invokestatic 0, .null, [], [108, 5, 1]),
  (111, 113, .istore 9, .null, [], []),
  (113, 116, .goto 0, .null, [], [71]),
  (116, 117, .aload 0, .null, [], []),
  (117, 119, .iload 4, .null, [], []),
  (119, 120, .iload 2, .null, [], []),
  (120, 122, .iload 7, .null, [], []),
  (122, 124, .iload 5, .null, [], []),
  (124, 127, .invokestatic 0, .null, [], [110, 5, 1]),
  (127, 130, .ifCond .eq 0, .null, [], [145]),
  (130, 131, .aload 0, .null, [], []),
  (131, 133, .iload 4, .null, [], []),
  (133, 134, .iload 2, .null, [], []),
  (134, 136, .iload 7, .null, [], []),
  (136, 137, .nop, .int (1 : Int32), [], []),
  (137, 139, .iload 5, .null, [], []),
  (139, 142, .invokestatic 0, .null, [], [109, 6, 0]),
  (142, 145, .iinc 8 0, .int (1 : Int32), [], []),
  (145, 146, .aload 0, .null, [], []),
  (146, 149, .getfield 0, .null, [], [1, 0, 3]),
  (149, 151, .nop, .int (40 : Int32), [], []),
  (151, 152, .iload 3, .null, [], []),
  (152, 153, .imul, .null, [], []),
  (153, 155, .iload 7, .null, [], []),
  (155, 156, .iadd, .null, [], []),
  (156, 158, .iload 8, .null, [], []),
  (158, 159, .iastore, .null, [], []),
  (159, 162, .iinc 7 0, .int (-1 : Int32), [], []),
  (162, 165, .goto 0, .null, [], [46]),
  (165, 166, .return_, .null, [], [])]
def zh_111 : List (Nat × List Nat) := [(46, [0, 1, 2, 3, 4, 5, 6, 7]), (71, [0, 1, 2, 3, 4, 5, 6, 7, 8, 9]), (145, [0, 1, 2, 3, 4, 5, 6, 7, 8, 9])]
-- 112: PrimeCertificatesModel.bit:(II)I
def zo_112 : List (Nat × Nat × dzOp) := [
  (0, 1, .aload 0, .null, [], []),
  (1, 4, .getfield 0, .null, [], [1, 0, 3]),
  (4, 6, .nop, .int (40 : Int32), [], []),
  (6, 7, .iload 1, .null, [], []),
  (7, 8, .imul, .null, [], []),
  (8, 9, .iload 2, .null, [], []),
  (9, 11, .nop, .int (16 : Int32), [], []),
  (11, 12, .idiv, .null, [], []),
  (12, 13, .iadd, .null, [], []),
  (13, 14, .iaload, .null, [], []),
  (14, 15, .iload 2, .null, [], []),
  (15, 17, .nop, .int (16 : Int32), [], []),
  (17, 18, .irem, .null, [], []),
  (18, 19, .ishr, .null, [], []),
  (19, 20, .nop, .int (1 : Int32), [], []),
  (20, 21, .iand, .null, [], []),
  (21, 22, .ireturn, .null, [], [0])]
def zh_112 : List (Nat × List Nat) := []
-- 113: PrimeCertificatesModel.raiseTo:(IIII)V
def zo_113 : List (Nat × Nat × dzOp) := [
  (0, 1, .aload 0, .null, [], []),
  (1, 2, .iload 1, .null, [], []),
  (2, 3, .iload 3, .null, [], []),
  (3, 5, .nop, .int (17 : Int32), [], []),
  (5, 7, .nop, .int (18 : Int32), [], []),
  (7, 10, .invokestatic 0, .null, [], [111, 5, 0]),
  (10, 11, .aload 0, .null, [], []),
  (11, 13, .nop, .int (21 : Int32), [], []),
  (13, 14, .iload 3, .null, [], []),
  (14, 16, .nop, .int (17 : Int32), [], []),
  (16, 18, .iload 4, .null, [], []),
  (18, 21, .invokestatic 0, .null, [], [111, 5, 0]),
  (21, 23, .nop, .int (16 : Int32), [], []),
  (23, 24, .aload 0, .null, [], []),
  (24, 25, .iload 2, .null, [], []),
  (25, 28, .invokestatic 0, .null, [], [103, 2, 1]),
  (28, 29, .imul, .null, [], []),
  (29, 30, .nop, .int (1 : Int32), [], []),
  (30, 31, .isub, .null, [], []),
  (31, 33, .istore 5, .null, [], []),
  (33, 35, .iload 5, .null, [], []),
  (35, 38, .ifCond .lt 0, .null, [], [99]),
  (38, 39, .aload 0, .null, [], []),
  (39, 41, .iload 4, .null, [], []),
  (41, 43, .iload 4, .null, [], []),
  (43, 45, .nop, .int (19 : Int32), [], []),
  (45, 48, .invokestatic 0, .null, [], [107, 4, 0]),
  (48, 49, .aload 0, .null, [], []),
  (49, 51, .nop, .int (19 : Int32), [], []),
  (51, 52, .iload 3, .null, [], []),
  (52, 54, .nop, .int (17 : Int32), [], []),
  (54, 56, .iload 4, .null, [], []),
  (56, 59, .invokestatic 0, .null, [], [111, 5, 0]),
  (59, 60, .aload 0, .null, [], []),
  (60, 61, .iload 2, .null, [], []),
  (61, 63, .iload 5, .null, [], []),
  (63, 66, .invokestatic 0, .null, [], [112, 3, 1]),
  (66, 69, .ifCond .ne 0, .null, [], [72]),
  (69, 72, .goto 0, .null, [], [93]),
  (72, 73, .aload 0, .null, [], []),
  (73, 75, .iload 4, .null, [], []),
  (75, 77, .nop, .int (18 : Int32), [], []),
  (77, 79, .nop, .int (19 : Int32), [], []),
  (79, 82, .invokestatic 0, .null, [], [107, 4, 0]),
  (82, 83, .aload 0, .null, [], []),
  (83, 85, .nop, .int (19 : Int32), [], []),
  (85, 86, .iload 3, .null, [], []),
  (86, 88, .nop, .int (17 : Int32), [], []),
  (88, 90, .iload 4, .null, [], []),
  (90, 93, .invokestatic 0, .null, [], [111, 5, 0]),
  (93, 96, .iinc 5 0, .int (-1 : Int32), [], []),
  (96, 99, .goto 0, .null, [], [33]),
  (99, 100, .return_, .null, [], [])]
def zh_113 : List (Nat × List Nat) := [(33, [0, 1, 2, 3, 4, 5]), (93, [0, 1, 2, 3, 4, 5])]
-- 114: PrimeCertificatesModel.divisor:(III)V
def zo_114 : List (Nat × Nat × dzOp) := [
  (0, 1, .aload 0, .null, [], []),
  (1, 2, .iload 1, .null, [], []),
  (2, 3, .iload 3, .null, [], []),
  (3, 6, .invokestatic 0, .null, [], [101, 3, 0]),
  (6, 7, .aload 0, .null, [], []),
  (7, 8, .iload 2, .null, [], []),
  (8, 10, .nop, .int (18 : Int32), [], []),
  (10, 13, .invokestatic 0, .null, [], [101, 3, 0]),
  (13, 14, .aload 0, .null, [], []),
  (14, 16, .nop, .int (18 : Int32), [], []),
  (16, 19, .invokestatic 0, .null, [], [104, 2, 1]),
  (19, 22, .ifCond .ne 0, .null, [], [51]),
  (22, 23, .aload 0, .null, [], []),
  (23, 24, .iload 3, .null, [], []),
  (24, 26, .nop, .int (18 : Int32), [], []),
  (26, 28, .nop, .int (17 : Int32), [], []),
  (28, 30, .nop, .int (19 : Int32), [], []),
  (30, 33, .invokestatic 0, .null, [], [111, 5, 0]),
  (33, 34, .aload 0, .null, [], []),
  (34, 36, .nop, .int (18 : Int32), [], []),
  (36, 37, .iload 3, .null, [], []),
  (37, 40, .invokestatic 0, .null, [], [101, 3, 0]),
  (40, 41, .aload 0, .null, [], []),
  (41, 43, .nop, .int (19 : Int32), [], []),
  (43, 45, .nop, .int (18 : Int32), [], []),
  (45, 48, .invokestatic 0, .null, [], [101, 3, 0]),
  (48, 51, .goto 0, .null, [], [13]),
  (51, 52, .return_, .null, [], [])]
def zh_114 : List (Nat × List Nat) := [(13, [0, 1, 2, 3])]
-- 115: PrimeCertificatesModel.fits:(I)Z
def zo_115 : List (Nat × Nat × dzOp) := [
  (0, 1, .aload 0, .null, [], []),
  (1, 2, .iload 1, .null, [], []),
  (2, 5, .invokestatic 0, .null, [], [103, 2, 1]),
  (5, 7, .nop, .int (16 : Int32), [], []),
  (7, 10, .if_icmp .gt 0, .null, [], [14]),
  (10, 11, .nop, .int (1 : Int32), [], []),
  (11, 14, .goto 0, .null, [], [15]),
  (14, 15, .nop, .int (0 : Int32), [], []),
  (15, 16, .ireturn, .null, [], [1])]
def zh_115 : List (Nat × List Nat) := []
-- 116: PrimeCertificatesModel.isOne:(I)Z
def zo_116 : List (Nat × Nat × dzOp) := [
  (0, 1, .aload 0, .null, [], []),
  (1, 2, .iload 1, .null, [], []),
  (2, 4, .nop, .int (21 : Int32), [], []),
  (4, 7, .invokestatic 0, .null, [], [102, 3, 1]),
  (7, 10, .ifCond .ne 0, .null, [], [14]),
  (10, 11, .nop, .int (1 : Int32), [], []),
  (11, 14, .goto 0, .null, [], [15]),
  (14, 15, .nop, .int (0 : Int32), [], []),
  (15, 16, .ireturn, .null, [], [1])]
def zh_116 : List (Nat × List Nat) := []
-- 117: PrimeCertificatesModel.isRegister:(I)Z
def zo_117 : List (Nat × Nat × dzOp) := [
  (0, 1, .iload 0, .null, [], []),
  (1, 4, .ifCond .lt 0, .null, [], [14]),
  (4, 5, .iload 0, .null, [], []),
  (5, 7, .nop, .int (8 : Int32), [], []),
  (7, 10, .if_icmp .ge 0, .null, [], [14]),
  (10, 11, .nop, .int (1 : Int32), [], []),
  (11, 14, .goto 0, .null, [], [15]),
  (14, 15, .nop, .int (0 : Int32), [], []),
  (15, 16, .ireturn, .null, [], [1])]
def zh_117 : List (Nat × List Nat) := []
-- 118: PrimeCertificatesModel.put:(III)Z
def zo_118 : List (Nat × Nat × dzOp) := [
  (0, 1, .iload 1, .null, [], []),
  (1, 4, .invokestatic 0, .null, [], [117, 1, 1]),
  (4, 7, .ifCond .eq 0, .null, [], [17]),
  (7, 8, .iload 2, .null, [], []),
  (8, 11, .ifCond .lt 0, .null, [], [17]),
  (11, 12, .iload 2, .null, [], []),
  (12, 14, .nop, .int (7 : Int32), [], []),
  (14, 17, .if_icmp .le 0, .null, [], [19]),
  (17, 18, .nop, .int (0 : Int32), [], []),
  (18, 19, .ireturn, .null, [], [1]),
  (19, 20, .nop, .int (0 : Int32), [], []),
  (20, 22, .istore 4, .null, [], []),
  (22, 24, .iload 4, .null, [], []),
  (24, 25, .nop, .int (2 : Int32), [], []),
  (25, 28, .if_icmp .ge 0, .null, [], [60]),
  (28, 29, .aload 0, .null, [], []),
  (29, 32, .getfield 0, .null, [], [1, 0, 3]),
  (32, 34, .nop, .int (40 : Int32), [], []),
  (34, 35, .iload 1, .null, [], []),
  (35, 36, .imul, .null, [], []),
  (36, 37, .nop, .int (2 : Int32), [], []),
  (37, 38, .iload 2, .null, [], []),
  (38, 39, .imul, .null, [], []),
  (39, 40, .iadd, .null, [], []),
  (40, 42, .iload 4, .null, [], []),
  (42, 43, .iadd, .null, [], []),
  (43, 44, .iload 3, .null, [], []),
  (44, 46, .nop, .int (16 : Int32), [], []),
  (46, 48, .iload 4, .null, [], []),
  (48, 49, .imul, .null, [], []),
  (49, 50, .ishr, .null, [], []),
  (50, 52, .nop, .int (65535 : Int32), [], []),
  (52, 53, .iand, .null, [], []),
  (53, 54, .iastore, .null, [], []),
  (54, 57, .iinc 4 0, .int (1 : Int32), [], []),
  (57, 60, .goto 0, .null, [], [22]),
  (60, 61, .nop, .int (1 : Int32), [], []),
  (61, 62, .ireturn, .null, [], [1])]
def zh_118 : List (Nat × List Nat) := [(22, [0, 1, 2, 3, 4])]
-- 119: PrimeCertificatesModel.get:(II)I
def zo_119 : List (Nat × Nat × dzOp) := [
  (0, 1, .iload 1, .null, [], []),
  (1, 4, .invokestatic 0, .null, [], [117, 1, 1]),
  (4, 7, .ifCond .eq 0, .null, [], [17]),
  (7, 8, .iload 2, .null, [], []),
  (8, 11, .ifCond .lt 0, .null, [], [17]),
  (11, 12, .iload 2, .null, [], []),
  (12, 14, .nop, .int (7 : Int32), [], []),
  (14, 17, .if_icmp .le 0, .null, [], [19]),
  (17, 18, .nop, .int (0 : Int32), [], []),
  (18, 19, .ireturn, .null, [], [0]),
  (19, 20, .aload 0, .null, [], []),
  (20, 23, .getfield 0, .null, [], [1, 0, 3]),
  (23, 25, .nop, .int (40 : Int32), [], []),
  (25, 26, .iload 1, .null, [], []),
  (26, 27, .imul, .null, [], []),
  (27, 28, .nop, .int (2 : Int32), [], []),
  (28, 29, .iload 2, .null, [], []),
  (29, 30, .imul, .null, [], []),
  (30, 31, .iadd, .null, [], []),
  (31, 32, .nop, .int (1 : Int32), [], []),
  (32, 33, .iadd, .null, [], []),
  (33, 34, .iaload, .null, [], []),
  (34, 36, .nop, .int (16 : Int32), [], []),
  (36, 37, .ishl, .null, [], []),
  (37, 38, .aload 0, .null, [], []),
  (38, 41, .getfield 0, .null, [], [1, 0, 3]),
  (41, 43, .nop, .int (40 : Int32), [], []),
  (43, 44, .iload 1, .null, [], []),
  (44, 45, .imul, .null, [], []),
  (45, 46, .nop, .int (2 : Int32), [], []),
  (46, 47, .iload 2, .null, [], []),
  (47, 48, .imul, .null, [], []),
  (48, 49, .iadd, .null, [], []),
  (49, 50, .iaload, .null, [], []),
  (50, 51, .ior, .null, [], []),
  (51, 52, .ireturn, .null, [], [0])]
def zh_119 : List (Nat × List Nat) := []
-- 120: PrimeCertificatesModel.are:(III)Z
def zo_120 : List (Nat × Nat × dzOp) := [
  (0, 1, .iload 0, .null, [], []),
  (1, 4, .invokestatic 0, .null, [], [117, 1, 1]),
  (4, 7, .ifCond .eq 0, .null, [], [25]),
  (7, 8, .iload 1, .null, [], []),
  (8, 11, .invokestatic 0, .null, [], [117, 1, 1]),
  (11, 14, .ifCond .eq 0, .null, [], [25]),
  (14, 15, .iload 2, .null, [], []),
  (15, 18, .invokestatic 0, .null, [], [117, 1, 1]),
  (18, 21, .ifCond .eq 0, .null, [], [25]),
  (21, 22, .nop, .int (1 : Int32), [], []),
  (22, 25, .goto 0, .null, [], [26]),
  (25, 26, .nop, .int (0 : Int32), [], []),
  (26, 27, .ireturn, .null, [], [1])]
def zh_120 : List (Nat × List Nat) := []
-- 121: PrimeCertificatesModel.give:(II)I
def zo_121 : List (Nat × Nat × dzOp) := [
  (0, 1, .aload 0, .null, [], []),
  (1, 2, .iload 1, .null, [], []),
  (2, 5, .invokestatic 0, .null, [], [115, 2, 1]),
  (5, 8, .ifCond .ne 0, .null, [], [11]),
  (8, 10, .nop, .int (-3 : Int32), [], []),
  (10, 11, .ireturn, .null, [], [0]),
  (11, 12, .aload 0, .null, [], []),
  (12, 13, .iload 1, .null, [], []),
  (13, 14, .iload 2, .null, [], []),
  (14, 17, .invokestatic 0, .null, [], [101, 3, 0]),
  (17, 18, .nop, .int (0 : Int32), [], []),
  (18, 19, .ireturn, .null, [], [0])]
def zh_121 : List (Nat × List Nat) := []
-- 122: PrimeCertificatesModel.add:(III)I
def zo_122 : List (Nat × Nat × dzOp) := [
  (0, 1, .iload 1, .null, [], []),
  (1, 2, .iload 2, .null, [], []),
  (2, 3, .iload 3, .null, [], []),
  (3, 6, .invokestatic 0, .null, [], [120, 3, 1]),
  (6, 9, .ifCond .ne 0, .null, [], [11]),
  (9, 10, .nop, .int (-1 : Int32), [], []),
  (10, 11, .ireturn, .null, [], [0]),
  (11, 12, .aload 0, .null, [], []),
  (12, 13, .iload 1, .null, [], []),
  (13, 15, .nop, .int (8 : Int32), [], []),
  (15, 18, .invokestatic 0, .null, [], [101, 3, 0]),
  (18, 19, .aload 0, .null, [], []),
  (19, 21, .nop, .int (8 : Int32), [], []),
  (21, 22, .iload 2, .null, [], []),
  (22, 25, .invokestatic 0, .null, [], [105, 3, 0]),
  (25, 26, .aload 0, .null, [], []),
  (26, 28, .nop, .int (8 : Int32), [], []),
  (28, 29, .iload 3, .null, [], []),
  (29, 32, .invokestatic 0, .null, [], [121, 3, 1]),
  (32, 33, .ireturn, .null, [], [0])]
def zh_122 : List (Nat × List Nat) := []
-- 123: PrimeCertificatesModel.subtract:(III)I
def zo_123 : List (Nat × Nat × dzOp) := [
  (0, 1, .iload 1, .null, [], []),
  (1, 2, .iload 2, .null, [], []),
  (2, 3, .iload 3, .null, [], []),
  (3, 6, .invokestatic 0, .null, [], [120, 3, 1]),
  (6, 9, .ifCond .ne 0, .null, [], [11]),
  (9, 10, .nop, .int (-1 : Int32), [], []),
  (10, 11, .ireturn, .null, [], [0]),
  (11, 12, .aload 0, .null, [], []),
  (12, 13, .iload 1, .null, [], []),
  (13, 14, .iload 2, .null, [], []),
  (14, 17, .invokestatic 0, .null, [], [102, 3, 1]),
  (17, 20, .ifCond .ge 0, .null, [], [23]),
  (20, 22, .nop, .int (-2 : Int32), [], []),
  (22, 23, .ireturn, .null, [], [0]),
  (23, 24, .aload 0, .null, [], []),
  (24, 25, .iload 1, .null, [], []),
  (25, 27, .nop, .int (8 : Int32), [], []),
  (27, 30, .invokestatic 0, .null, [], [101, 3, 0]),
  (30, 31, .aload 0, .null, [], []),
  (31, 33, .nop, .int (8 : Int32), [], []),
  (33, 34, .iload 2, .null, [], []),
  (34, 37, .invokestatic 0, .null, [], [106, 3, 0]),
  (37, 38, .aload 0, .null, [], []),
  (38, 40, .nop, .int (8 : Int32), [], []),
  (40, 41, .iload 3, .null, [], []),
  (41, 44, .invokestatic 0, .null, [], [121, 3, 1]),
  (44, 45, .ireturn, .null, [], [0])]
def zh_123 : List (Nat × List Nat) := []
-- 124: PrimeCertificatesModel.multiply:(III)I
def zo_124 : List (Nat × Nat × dzOp) := [
  (0, 1, .iload 1, .null, [], []),
  (1, 2, .iload 2, .null, [], []),
  (2, 3, .iload 3, .null, [], []),
  (3, 6, .invokestatic 0, .null, [], [120, 3, 1]),
  (6, 9, .ifCond .ne 0, .null, [], [11]),
  (9, 10, .nop, .int (-1 : Int32), [], []),
  (10, 11, .ireturn, .null, [], [0]),
  (11, 12, .aload 0, .null, [], []),
  (12, 13, .iload 1, .null, [], []),
  (13, 14, .iload 2, .null, [], []),
  (14, 16, .nop, .int (8 : Int32), [], []),
  (16, 19, .invokestatic 0, .null, [], [107, 4, 0]),
  (19, 20, .aload 0, .null, [], []),
  (20, 22, .nop, .int (8 : Int32), [], []),
  (22, 23, .iload 3, .null, [], []),
  (23, 26, .invokestatic 0, .null, [], [121, 3, 1]),
  (26, 27, .ireturn, .null, [], [0])]
def zh_124 : List (Nat × List Nat) := []
-- 125: PrimeCertificatesModel.divide:(IIII)I
def zo_125 : List (Nat × Nat × dzOp) := [
  (0, 1, .iload 1, .null, [], []),
  (1, 2, .iload 2, .null, [], []),
  (2, 3, .iload 3, .null, [], []),
  (3, 6, .invokestatic 0, .null, [], [120, 3, 1]),
  (6, 9, .ifCond .eq 0, .null, [], [23]),
  (9, 11, .iload 4, .null, [], []),
  (11, 14, .invokestatic 0, .null, [], [117, 1, 1]),
  (14, 17, .ifCond .eq 0, .null, [], [23]),
  (17, 18, .iload 3, .null, [], []),
  (18, 20, .iload 4, .null, [], []),
  (20, 23, .if_icmp .ne 0, .null, [], [25]),
  (23, 24, .nop, .int (-1 : Int32), [], []),
  (24, 25, .ireturn, .null, [], [0]),
  (25, 26, .aload 0, .null, [], []),
  (26, 27, .iload 2, .null, [], []),
  (27, 30, .invokestatic 0, .null, [], [104, 2, 1]),
  (30, 33, .ifCond .eq 0, .null, [], [36]),
  (33, 35, .nop, .int (-2 : Int32), [], []),
  (35, 36, .ireturn, .null, [], [0]),
  (36, 37, .aload 0, .null, [], []),
  (37, 38, .iload 1, .null, [], []),
  (38, 39, .iload 2, .null, [], []),
  (39, 41, .nop, .int (8 : Int32), [], []),
  (41, 43, .nop, .int (9 : Int32), [], []),
  (43, 46, .invokestatic 0, .null, [], [111, 5, 0]),
  (46, 47, .aload 0, .null, [], []),
  (47, 49, .nop, .int (8 : Int32), [], []),
  (49, 50, .iload 3, .null, [], []),
  (50, 53, .invokestatic 0, .null, [], [101, 3, 0]),
  (53, 54, .aload 0, .null, [], []),
  (54, 56, .nop, .int (9 : Int32), [], []),
  (56, 58, .iload 4, .null, [], []),
  (58, 61, .invokestatic 0, .null, [], [101, 3, 0]),
  (61, 62, .nop, .int (0 : Int32), [], []),
  (62, 63, .ireturn, .null, [], [0])]
def zh_125 : List (Nat × List Nat) := []
-- 126: PrimeCertificatesModel.power:(IIII)I
def zo_126 : List (Nat × Nat × dzOp) := [
  (0, 1, .iload 1, .null, [], []),
  (1, 2, .iload 2, .null, [], []),
  (2, 3, .iload 3, .null, [], []),
  (3, 6, .invokestatic 0, .null, [], [120, 3, 1]),
  (6, 9, .ifCond .eq 0, .null, [], [17]),
  (9, 11, .iload 4, .null, [], []),
  (11, 14, .invokestatic 0, .null, [], [117, 1, 1]),
  (14, 17, .ifCond .ne 0, .null, [], [19]),
  (17, 18, .nop, .int (-1 : Int32), [], []),
  (18, 19, .ireturn, .null, [], [0]),
  (19, 20, .aload 0, .null, [], []),
  (20, 21, .iload 3, .null, [], []),
  (21, 24, .invokestatic 0, .null, [], [104, 2, 1]),
  (24, 27, .ifCond .eq 0, .null, [], [30]),
  (27, 29, .nop, .int (-2 : Int32), [], []),
  (29, 30, .ireturn, .null, [], [0]),
  (30, 31, .aload 0, .null, [], []),
  (31, 32, .iload 1, .null, [], []),
  (32, 33, .iload 2, .null, [], []),
  (33, 34, .iload 3, .null, [], []),
  (34, 36, .nop, .int (8 : Int32), [], []),
  (36, 39, .invokestatic 0, .null, [], [113, 5, 0]),
  (39, 40, .aload 0, .null, [], []),
  (40, 42, .nop, .int (8 : Int32), [], []),
  (42, 44, .iload 4, .null, [], []),
  (44, 47, .invokestatic 0, .null, [], [101, 3, 0]),
  (47, 48, .nop, .int (0 : Int32), [], []),
  (48, 49, .ireturn, .null, [], [0])]
def zh_126 : List (Nat × List Nat) := []
-- 127: PrimeCertificatesModel.common:(III)I
def zo_127 : List (Nat × Nat × dzOp) := [
  (0, 1, .iload 1, .null, [], []),
  (1, 2, .iload 2, .null, [], []),
  (2, 3, .iload 3, .null, [], []),
  (3, 6, .invokestatic 0, .null, [], [120, 3, 1]),
  (6, 9, .ifCond .ne 0, .null, [], [11]),
  (9, 10, .nop, .int (-1 : Int32), [], []),
  (10, 11, .ireturn, .null, [], [0]),
  (11, 12, .aload 0, .null, [], []),
  (12, 13, .iload 1, .null, [], []),
  (13, 14, .iload 2, .null, [], []),
  (14, 16, .nop, .int (8 : Int32), [], []),
  (16, 19, .invokestatic 0, .null, [], [114, 4, 0]),
  (19, 20, .aload 0, .null, [], []),
  (20, 22, .nop, .int (8 : Int32), [], []),
  (22, 23, .iload 3, .null, [], []),
  (23, 26, .invokestatic 0, .null, [], [101, 3, 0]),
  (26, 27, .nop, .int (0 : Int32), [], []),
  (27, 28, .ireturn, .null, [], [0])]
def zh_127 : List (Nat × List Nat) := []
-- 128: PrimeCertificatesModel.compare:(II)I
def zo_128 : List (Nat × Nat × dzOp) := [
  (0, 1, .iload 1, .null, [], []),
  (1, 4, .invokestatic 0, .null, [], [117, 1, 1]),
  (4, 7, .ifCond .eq 0, .null, [], [23]),
  (7, 8, .iload 2, .null, [], []),
  (8, 11, .invokestatic 0, .null, [], [117, 1, 1]),
  (11, 14, .ifCond .eq 0, .null, [], [23]),
  (14, 15, .aload 0, .null, [], []),
  (15, 16, .iload 1, .null, [], []),
  (16, 17, .iload 2, .null, [], []),
  (17, 20, .invokestatic 0, .null, [], [102, 3, 1]),
  (20, 23, .goto 0, .null, [], [24]),
  (23, 24, .nop, .int (2 : Int32), [], []),
  (24, 25, .ireturn, .null, [], [0])]
def zh_128 : List (Nat × List Nat) := []
-- 129: PrimeCertificatesModel.say:(I)I
def zo_129 : List (Nat × Nat × dzOp) := [
  (0, 1, .aload 0, .null, [], []),
  (1, 4, .getfield 0, .null, [], [1, 2, 1]),
  (4, 7, .nop, .int (4000 : Int32), [], []),
  (7, 10, .if_icmp .ne 0, .null, [], [13]),
  (10, 12, .nop, .int (-3 : Int32), [], []),
  (12, 13, .ireturn, .null, [], [0]),
  (13, 14, .aload 0, .null, [], []),
  (14, 17, .getfield 0, .null, [], [1, 1, 3]),
  (17, 18, .aload 0, .null, [], []),
  (18, 21, .getfield 0, .null, [], [1, 2, 1]),
  (21, 22, .iload 1, .null, [], []),
  (22, 23, .iastore, .null, [], []),
  (23, 24, .aload 0, .null, [], []),
  (24, 25, .dup, .null, [], []),
  (25, 28, .getfield 0, .null, [], [1, 2, 1]),
  (28, 29, .nop, .int (1 : Int32), [], []),
  (29, 30, .iadd, .null, [], []),
  (30, 33, .putfield 0, .null, [], [1, 2, 1]),
  (33, 34, .aload 0, .null, [], []),
  (34, 37, .getfield 0, .null, [], [1, 2, 1]),
  (37, 38, .ireturn, .null, [], [0])]
def zh_129 : List (Nat × List Nat) := []
-- 130: PrimeCertificatesModel.cut:(I)Z
def zo_130 : List (Nat × Nat × dzOp) := [
  (0, 1, .iload 1, .null, [], []),
  (1, 4, .ifCond .lt 0, .null, [], [12]),
  (4, 5, .iload 1, .null, [], []),
  (5, 6, .aload 0, .null, [], []),
  (6, 9, .getfield 0, .null, [], [1, 2, 1]),
  (9, 12, .if_icmp .le 0, .null, [], [14]),
  (12, 13, .nop, .int (0 : Int32), [], []),
  (13, 14, .ireturn, .null, [], [1]),
  (14, 15, .aload 0, .null, [], []),
  (15, 16, .iload 1, .null, [], []),
  (16, 19, .putfield 0, .null, [], [1, 2, 1]),
  (19, 20, .nop, .int (1 : Int32), [], []),
  (20, 21, .ireturn, .null, [], [1])]
def zh_130 : List (Nat × List Nat) := []
-- 131: PrimeCertificatesModel.length:()I
def zo_131 : List (Nat × Nat × dzOp) := [
  (0, 1, .aload 0, .null, [], []),
  (1, 4, .getfield 0, .null, [], [1, 2, 1]),
  (4, 5, .ireturn, .null, [], [0])]
def zh_131 : List (Nat × List Nat) := []
-- 132: PrimeCertificatesModel.at:(I)I
def zo_132 : List (Nat × Nat × dzOp) := [
  (0, 1, .iload 1, .null, [], []),
  (1, 4, .ifCond .lt 0, .null, [], [21]),
  (4, 5, .iload 1, .null, [], []),
  (5, 6, .aload 0, .null, [], []),
  (6, 9, .getfield 0, .null, [], [1, 2, 1]),
  (9, 12, .if_icmp .ge 0, .null, [], [21]),
  (12, 13, .aload 0, .null, [], []),
  (13, 16, .getfield 0, .null, [], [1, 1, 3]),
  (16, 17, .iload 1, .null, [], []),
  (17, 18, .iaload, .null, [], []),
  (18, 21, .goto 0, .null, [], [22]),
  (21, 22, .nop, .int (0 : Int32), [], []),
  (22, 23, .ireturn, .null, [], [0])]
def zh_132 : List (Nat × List Nat) := []
-- 133: PrimeCertificatesModel.fail:(II)V
def zo_133 : List (Nat × Nat × dzOp) := [
  (0, 1, .aload 0, .null, [], []),
  (1, 4, .getfield 0, .null, [], [1, 7, 1]),
  (4, 7, .ifCond .eq 0, .null, [], [8]),
  (7, 8, .return_, .null, [], []),
  (8, 9, .aload 0, .null, [], []),
  (9, 10, .iload 1, .null, [], []),
  (10, 13, .putfield 0, .null, [], [1, 7, 1]),
  (13, 14, .aload 0, .null, [], []),
  (14, 15, .iload 2, .null, [], []),
  (15, 18, .putfield 0, .null, [], [1, 3, 1]),
  (18, 19, .return_, .null, [], [])]
def zh_133 : List (Nat × List Nat) := []
-- 134: PrimeCertificatesModel.isGood:()Z
def zo_134 : List (Nat × Nat × dzOp) := [
  (0, 1, .aload 0, .null, [], []),
  (1, 4, .getfield 0, .null, [], [1, 7, 1]),
  (4, 7, .ifCond .ne 0, .null, [], [11]),
  (7, 8, .nop, .int (1 : Int32), [], []),
  (8, 11, .goto 0, .null, [], [12]),
  (11, 12, .nop, .int (0 : Int32), [], []),
  (12, 13, .ireturn, .null, [], [1])]
def zh_134 : List (Nat × List Nat) := []
-- 135: PrimeCertificatesModel.next:()I
def zo_135 : List (Nat × Nat × dzOp) := [
  (0, 1, .aload 0, .null, [], []),
  (1, 4, .invokestatic 0, .null, [], [134, 1, 1]),
  (4, 7, .ifCond .ne 0, .null, [], [9]),
  (7, 8, .nop, .int (0 : Int32), [], []),
  (8, 9, .ireturn, .null, [], [0]),
  (9, 10, .aload 0, .null, [], []),
  (10, 13, .getfield 0, .null, [], [1, 6, 1]),
  (13, 14, .aload 0, .null, [], []),
  (14, 17, .getfield 0, .null, [], [1, 2, 1]),
  (17, 20, .if_icmp .ne 0, .null, [], [31]),
  (20, 21, .aload 0, .null, [], []),
  (21, 22, .nop, .int (1 : Int32), [], []),
  (22, 23, .aload 0, .null, [], []),
  (23, 26, .getfield 0, .null, [], [1, 2, 1]),
  (26, 29, .invokestatic 0, .null, [], [133, 3, 0]),
  (29, 30, .nop, .int (0 : Int32), [], []),
  (30, 31, .ireturn, .null, [], [0]),
  (31, 32, .aload 0, .null, [], []),
  (32, 33, .dup, .null, [], []),
  (33, 36, .getfield 0, .null, [], [1, 6, 1]),
  (36, 37, .nop, .int (1 : Int32), [], []),
  (37, 38, .iadd, .null, [], []),
  (38, 41, .putfield 0, .null, [], [1, 6, 1]),
  (41, 42, .aload 0, .null, [], []),
  (42, 45, .getfield 0, .null, [], [1, 1, 3]),
  (45, 46, .aload 0, .null, [], []),
  (46, 49, .getfield 0, .null, [], [1, 6, 1]),
  (49, 50, .nop, .int (1 : Int32), [], []),
  (50, 51, .isub, .null, [], []),
  (51, 52, .iaload, .null, [], []),
  (52, 53, .ireturn, .null, [], [0])]
def zh_135 : List (Nat × List Nat) := []
-- 136: PrimeCertificatesModel.nextIn:(II)I
def zo_136 : List (Nat × Nat × dzOp) := [
  (0, 1, .aload 0, .null, [], []),
  (1, 4, .invokestatic 0, .null, [], [135, 1, 1]),
  (4, 5, .istore 3, .null, [], []),
  (5, 6, .aload 0, .null, [], []),
  (6, 9, .invokestatic 0, .null, [], [134, 1, 1]),
  (9, 12, .ifCond .eq 0, .null, [], [33]),
  (12, 13, .iload 3, .null, [], []),
  (13, 14, .iload 1, .null, [], []),
  (14, 17, .if_icmp .lt 0, .null, [], [22]),
  (17, 18, .iload 3, .null, [], []),
  (18, 19, .iload 2, .null, [], []),
  (19, 22, .if_icmp .le 0, .null, [], [33]),
  (22, 23, .aload 0, .null, [], []),
  (23, 24, .nop, .int (2 : Int32), [], []),
  (24, 25, .aload 0, .null, [], []),
  (25, 28, .getfield 0, .null, [], [1, 6, 1]),
  (28, 29, .nop, .int (1 : Int32), [], []),
  (29, 30, .isub, .null, [], []),
  (30, 33, .invokestatic 0, .null, [], [133, 3, 0]),
  (33, 34, .iload 3, .null, [], []),
  (34, 35, .ireturn, .null, [], [0])]
def zh_136 : List (Nat × List Nat) := [(22, [0, 1, 2, 3])]
-- 137: PrimeCertificatesModel.isSmallPrime:(I)Z
def zo_137 : List (Nat × Nat × dzOp) := [
  (0, 1, .iload 0, .null, [], []),
  (1, 2, .nop, .int (1 : Int32), [], []),
  (2, 5, .if_icmp .le 0, .null, [], [9]),
  (5, 6, .nop, .int (1 : Int32), [], []),
  (6, 9, .goto 0, .null, [], [10]),
  (9, 10, .nop, .int (0 : Int32), [], []),
  (10, 11, .istore 1, .null, [], []),
  (11, 12, .nop, .int (2 : Int32), [], []),
  (12, 13, .istore 2, .null, [], []),
  (13, 14, .iload 2, .null, [], []),
  (14, 15, .iload 2, .null, [], []),
  (15, 16, .imul, .null, [], []),
  (16, 17, .iload 0, .null, [], []),
  (17, 20, .if_icmp .gt 0, .null, [], [42]),
  (20, 21, .iload 1, .null, [], []),
  (21, 24, .ifCond .eq 0, .null, [], [42]),
  (24, 25, .iload 0, .null, [], []),
  (25, 26, .iload 2, .null, [], []),
  (26, 27, .irem, .null, [], []),
  (27, 30, .ifCond .eq 0, .null, [], [34]),
  (30, 31, .nop, .int (1 : Int32), [], []),
  (31, 34, .goto 0, .null, [], [35]),
  (34, 35, .nop, .int (0 : Int32), [], []),
  (35, 36, .istore 1, .null, [], []),
  (36, 39, .iinc 2 0, .int (1 : Int32), [], []),
  (39, 42, .goto 0, .null, [], [13]),
  (42, 43, .iload 1, .null, [], []),
  (43, 44, .ireturn, .null, [], [1])]
def zh_137 : List (Nat × List Nat) := [(10, [0]), (13, [0, 1, 2]), (35, [0, 1, 2])]
-- 138: PrimeCertificatesModel.lineOne:()V
def zo_138 : List (Nat × Nat × dzOp) := [
  (0, 1, .aload 0, .null, [], []),
  (1, 4, .invokestatic 0, .null, [], [135, 1, 1]),
  (4, 5, .istore 1, .null, [], []),
  (5, 6, .aload 0, .null, [], []),
  (6, 9, .invokestatic 0, .null, [], [134, 1, 1]),
  (9, 12, .ifCond .eq 0, .null, [], [41]),
  (12, 13, .iload 1, .null, [], []),
  (13, 14, .nop, .int (2 : Int32), [], []),
  (14, 17, .if_icmp .lt 0, .null, [], [30]),
  (17, 18, .iload 1, .null, [], []),
  (18, 20, .nop, .int (65535 : Int32), [], []),
  (20, 23, .if_icmp .gt 0, .null, [], [30]),
  (23, 24, .iload 1, .null, [], []),
  (24, 27, .invokestatic 0, .null, [], [137, 1, 1]),
  (27, 30, .ifCond .ne 0, .null, [], [41]),
  (30, 31, .aload 0, .null, [], []),
  (31, 32, .nop, .int (3 : Int32), [], []),
  (32, 33, .aload 0, .null, [], []),
  (33, 36, .getfield 0, .null, [], [1, 6, 1]),
  (36, 37, .nop, .int (1 : Int32), [], []),
  (37, 38, .isub, .null, [], []),
  (38, 41, .invokestatic 0, .null, [], [133, 3, 0]),
  (41, 42, .aload 0, .null, [], []),
  (42, 44, .nop, .int (32 : Int32), [], []),
  (44, 45, .aload 0, .null, [], []),
  (45, 48, .getfield 0, .null, [], [1, 4, 1]),
  (48, 49, .iadd, .null, [], []),
  (49, 50, .iload 1, .null, [], []),
  (50, 51, .i2l, .null, [], []),
  (51, 54, .invokestatic 0, .null, [], [99, 3, 0]),
  (54, 55, .return_, .null, [], [])]
def zh_138 : List (Nat × List Nat) := [(30, [0, 1]), (41, [0, 1])]
-- 139: PrimeCertificatesModel.number:()V
def zo_139 : List (Nat × Nat × dzOp) := [
  (0, 1, .aload 0, .null, [], []),
  (1, 4, .getfield 0, .null, [], [1, 6, 1]),
  (4, 5, .istore 1, .null, [], []),
  (5, 6, .aload 0, .null, [], []),
  (6, 7, .nop, .int (1 : Int32), [], []),
  (7, 9, .nop, .int (8 : Int32), [], []),
  (9, 12, .invokestatic 0, .null, [], [136, 3, 1]),
  (12, 13, .istore 2, .null, [], []),
  (13, 14, .nop, .int (1 : Int32), [], []),
  (14, 15, .istore 3, .null, [], []),
  (15, 16, .aload 0, .null, [], []),
  (16, 18, .nop, .int (10 : Int32), [], []),
  (18, 19, .nop, .long (0 : Int64), [], []),
  (19, 22, .invokestatic 0, .null, [], [99, 3, 0]),
  (22, 23, .nop, .int (0 : Int32), [], []),
  (23, 25, .istore 4, .null, [], []),
  (25, 27, .iload 4, .null, [], []),
  (27, 28, .iload 2, .null, [], []),
  (28, 31, .if_icmp .ge 0, .null, [], [85]),
  (31, 32, .aload 0, .null, [], []),
  (32, 35, .invokestatic 0, .null, [], [134, 1, 1]),
  (35, 38, .ifCond .eq 0, .null, [], [85]),
  (38, 39, .aload 0, .null, [], []),
  (39, 42, .invokestatic 0, .null, [], [135, 1, 1]),
  (42, 43, .istore 3, .null, [], []),
  (43, 44, .aload 0, .null, [], []),
  (44, 47, .getfield 0, .null, [], [1, 0, 3]),
  (47, 50, .nop, .int (400 : Int32), [], []),
  (50, 51, .nop, .int (2 : Int32), [], []),
  (51, 53, .iload 4, .null, [], []),
  (53, 54, .imul, .null, [], []),
  (54, 55, .iadd, .null, [], []),
  (55, 56, .iload 3, .null, [], []),
  (56, 58, .nop, .int (65535 : Int32), [], []),
  (58, 59, .iand, .null, [], []),
  (59, 60, .iastore, .null, [], []),
  (60, 61, .aload 0, .null, [], []),
  (61, 64, .getfield 0, .null, [], [1, 0, 3]),
  (64, 67, .nop, .int (400 : Int32), [], []),
  (67, 68, .nop, .int (2 : Int32), [], []),
  (68, 70, .iload 4, .null, [], []),
  (70, 71, .imul, .null, [], []),
  (71, 72, .iadd, .null, [], []),
  (72, 73, .nop, .int (1 : Int32), [], []),
  (73, 74, .iadd, .null, [], []),
  (74, 75, .iload 3, .null, [], []),
  (75, 77, .nop, .int (16 : Int32), [], []),
  (77, 78, .iushr, .null, [], []),
  (78, 79, .iastore, .null, [], []),
  (79, 82, .iinc 4 0, .int (1 : Int32), [], []),
  (82, 85, .goto 0, .null, [], [25]),
  (85, 86, .aload 0, .null, [], []),
  (86, 89, .invokestatic 0, .null, [], [134, 1, 1]),
  (89, 92, .ifCond .eq 0, .null, [], [107]),
  (92, 93, .iload 3, .null, [], []),
  (93, 96, .ifCond .ne 0, .null, [], [107]),
  (96, 97, .aload 0, .null, [], []),
  (97, 98, .nop, .int (2 : Int32), [], []),
  (98, 99, .aload 0, .null, [], []),
  (99, 102, .getfield 0, .null, [], [1, 6, 1]),
  (102, 103, .nop, .int (1 : Int32), [], []),
  (103, 104, .isub, .null, [], []),
  (104, 107, .invokestatic 0, .null, [], [133, 3, 0]),
  (107, 108, .aload 0, .null, [], []),
  (108, 110, .nop, .int (8 : Int32), [], []),
  (110, 113, .nop, .long (3 : Int64), [], []),
  (113, 116, .invokestatic 0, .null, [], [99, 3, 0]),
  (116, 117, .aload 0, .null, [], []),
  (117, 120, .invokestatic 0, .null, [], [134, 1, 1]),
  (120, 123, .ifCond .eq 0, .null, [], [140]),
  (123, 124, .aload 0, .null, [], []),
  (124, 126, .nop, .int (10 : Int32), [], []),
  (126, 128, .nop, .int (8 : Int32), [], []),
  (128, 131, .invokestatic 0, .null, [], [102, 3, 1]),
  (131, 134, .ifCond .ge 0, .null, [], [140]),
  (134, 135, .aload 0, .null, [], []),
  (135, 136, .nop, .int (4 : Int32), [], []),
  (136, 137, .iload 1, .null, [], []),
  (137, 140, .invokestatic 0, .null, [], [133, 3, 0]),
  (140, 141, .aload 0, .null, [], []),
  (141, 143, .nop, .int (10 : Int32), [], []),
  (143, 145, .nop, .int (11 : Int32), [], []),
  (145, 148, .invokestatic 0, .null, [], [101, 3, 0]),
  (148, 149, .aload 0, .null, [], []),
  (149, 152, .invokestatic 0, .null, [], [134, 1, 1]),
  (152, 155, .ifCond .eq 0, .null, [], [163]),
  (155, 156, .aload 0, .null, [], []),
  (156, 158, .nop, .int (11 : Int32), [], []),
  (158, 160, .nop, .int (21 : Int32), [], []),
  (160, 163, .invokestatic 0, .null, [], [106, 3, 0]),
  (163, 164, .return_, .null, [], [])]
def zh_139 : List (Nat × List Nat) := [(25, [0, 1, 2, 3, 4]), (85, [0, 1, 2, 3, 4]), (107, [0, 1, 2, 3, 4]), (140, [0, 1, 2, 3, 4])]
-- 140: PrimeCertificatesModel.witness:(I)V
def zo_140 : List (Nat × Nat × dzOp) := [
  (0, 1, .aload 0, .null, [], []),
  (1, 3, .nop, .int (14 : Int32), [], []),
  (3, 4, .aload 0, .null, [], []),
  (4, 7, .getfield 0, .null, [], [1, 1, 3]),
  (7, 8, .iload 1, .null, [], []),
  (8, 9, .iaload, .null, [], []),
  (9, 10, .i2l, .null, [], []),
  (10, 13, .invokestatic 0, .null, [], [99, 3, 0]),
  (13, 14, .aload 0, .null, [], []),
  (14, 17, .getfield 0, .null, [], [1, 1, 3]),
  (17, 18, .iload 1, .null, [], []),
  (18, 19, .iaload, .null, [], []),
  (19, 20, .nop, .int (2 : Int32), [], []),
  (20, 23, .if_icmp .lt 0, .null, [], [34]),
  (23, 24, .aload 0, .null, [], []),
  (24, 26, .nop, .int (14 : Int32), [], []),
  (26, 28, .nop, .int (10 : Int32), [], []),
  (28, 31, .invokestatic 0, .null, [], [102, 3, 1]),
  (31, 34, .ifCond .lt 0, .null, [], [41]),
  (34, 35, .aload 0, .null, [], []),
  (35, 37, .nop, .int (8 : Int32), [], []),
  (37, 38, .iload 1, .null, [], []),
  (38, 41, .invokestatic 0, .null, [], [133, 3, 0]),
  (41, 42, .return_, .null, [], [])]
def zh_140 : List (Nat × List Nat) := [(34, [0, 1])]
-- 141: PrimeCertificatesModel.factors:(I)V
def zo_141 : List (Nat × Nat × dzOp) := [
  (0, 1, .aload 0, .null, [], []),
  (1, 2, .nop, .int (1 : Int32), [], []),
  (2, 4, .nop, .int (40 : Int32), [], []),
  (4, 7, .invokestatic 0, .null, [], [136, 3, 1]),
  (7, 8, .istore 2, .null, [], []),
  (8, 9, .nop, .int (0 : Int32), [], []),
  (9, 10, .istore 3, .null, [], []),
  (10, 11, .iload 3, .null, [], []),
  (11, 12, .iload 2, .null, [], []),
  (12, 15, .if_icmp .ge 0, .null, [], [110]),
  (15, 16, .aload 0, .null, [], []),
  (16, 19, .invokestatic 0, .null, [], [134, 1, 1]),
  (19, 22, .ifCond .eq 0, .null, [], [110]),
  (22, 23, .aload 0, .null, [], []),
  (23, 24, .nop, .int (0 : Int32), [], []),
  (24, 25, .aload 0, .null, [], []),
  (25, 28, .getfield 0, .null, [], [1, 4, 1]),
  (28, 29, .nop, .int (1 : Int32), [], []),
  (29, 30, .isub, .null, [], []),
  (30, 33, .invokestatic 0, .null, [], [136, 3, 1]),
  (33, 35, .istore 4, .null, [], []),
  (35, 36, .aload 0, .null, [], []),
  (36, 39, .invokestatic 0, .null, [], [134, 1, 1]),
  (39, 42, .ifCond .eq 0, .null, [], [85]),
  (42, 43, .iload 3, .null, [], []),
  (43, 46, .ifCond .le 0, .null, [], [85]),
  (46, 47, .aload 0, .null, [], []),
  (47, 49, .nop, .int (32 : Int32), [], []),
  (49, 50, .aload 0, .null, [], []),
  (50, 53, .getfield 0, .null, [], [1, 1, 3]),
  (53, 54, .aload 0, .null, [], []),
  (54, 57, .getfield 0, .null, [], [1, 6, 1]),
  (57, 58, .nop, .int (1 : Int32), [], []),
  (58, 59, .isub, .null, [], []),
  (59, 60, .iload 1, .null, [], []),
  (60, 61, .isub, .null, [], []),
  (61, 62, .iaload, .null, [], []),
  (62, 63, .iadd, .null, [], []),
  (63, 65, .nop, .int (32 : Int32), [], []),
  (65, 67, .iload 4, .null, [], []),
  (67, 68, .iadd, .null, [], []),
  (68, 71, .invokestatic 0, .null, [], [102, 3, 1]),
  (71, 74, .ifCond .lt 0, .null, [], [85]),
  (74, 75, .aload 0, .null, [], []),
  (75, 76, .nop, .int (5 : Int32), [], []),
  (76, 77, .aload 0, .null, [], []),
  (77, 80, .getfield 0, .null, [], [1, 6, 1]),
  (80, 81, .nop, .int (1 : Int32), [], []),
  (81, 82, .isub, .null, [], []),
  (82, 85, .invokestatic 0, .null, [], [133, 3, 0]),
  (85, 86, .aload 0, .null, [], []),
  (86, 87, .nop, .int (1 : Int32), [], []),
  (87, 90, .nop, .int (255 : Int32), [], []),
  (90, 93, .invokestatic 0, .null, [], [136, 3, 1]),
  (93, 94, .pop, .null, [], []),
  (94, 95, .iload 1, .null, [], []),
  (95, 96, .nop, .int (3 : Int32), [], []),
  (96, 99, .if_icmp .ne 0, .null, [], [104]),
  (99, 100, .aload 0, .null, [], []),
  (100, 103, .invokestatic 0, .null, [], [135, 1, 1]),
  (103, 104, .pop, .null, [], []),
  (104, 107, .iinc 3 0, .int (1 : Int32), [], []),
  (107, 110, .goto 0, .null, [], [10]),
  (110, 111, .return_, .null, [], [])]
def zh_141 : List (Nat × List Nat) := [(10, [0, 1, 2, 3]), (85, [0, 1, 2, 3, 4]), (104, [0, 1, 2, 3, 4])]
-- 142: PrimeCertificatesModel.product:(II)Z
def zo_142 : List (Nat × Nat × dzOp) := [
  (0, 1, .aload 0, .null, [], []),
  (1, 3, .nop, .int (13 : Int32), [], []),
  (3, 4, .nop, .long (1 : Int64), [], []),
  (4, 7, .invokestatic 0, .null, [], [99, 3, 0]),
  (7, 8, .nop, .int (0 : Int32), [], []),
  (8, 9, .istore 3, .null, [], []),
  (9, 10, .iload 3, .null, [], []),
  (10, 11, .aload 0, .null, [], []),
  (11, 14, .getfield 0, .null, [], [1, 1, 3]),
  (14, 15, .iload 1, .null, [], []),
  (15, 16, .iaload, .null, [], []),
  (16, 19, .if_icmp .ge 0, .null, [], [96]),
  (19, 20, .aload 0, .null, [], []),
  (20, 23, .getfield 0, .null, [], [1, 1, 3]),
  (23, 24, .iload 1, .null, [], []),
  (24, 25, .nop, .int (1 : Int32), [], []),
  (25, 26, .iadd, .null, [], []),
  (26, 27, .iload 2, .null, [], []),
  (27, 28, .iload 3, .null, [], []),
  (28, 29, .imul, .null, [], []),
  (29, 30, .iadd, .null, [], []),
  (30, 31, .iaload, .null, [], []),
  (31, 33, .istore 4, .null, [], []),
  (33, 34, .aload 0, .null, [], []),
  (34, 37, .getfield 0, .null, [], [1, 1, 3]),
  (37, 38, .iload 1, .null, [], []),
  (38, 39, .nop, .int (2 : Int32), [], []),
  (39, 40, .iadd, .null, [], []),
  (40, 41, .iload 2, .null, [], []),
  (41, 42, .iload 3, .null, [], []),
  (42, 43, .imul, .null, [], []),
  (43, 44, .iadd, .null, [], []),
  (44, 45, .iaload, .null, [], []),
  (45, 47, .istore 5, .null, [], []),
  (47, 49, .iload 5, .null, [], []),
  (49, 52, .ifCond .le 0, .null, [], [90]),
  (52, 53, .aload 0, .null, [], []),
  (53, 55, .nop, .int (13 : Int32), [], []),
  (55, 57, .nop, .int (32 : Int32), [], []),
  (57, 59, .iload 4, .null, [], []),
  (59, 60, .iadd, .null, [], []),
  (60, 62, .nop, .int (8 : Int32), [], []),
  (62, 65, .invokestatic 0, .null, [], [107, 4, 0]),
  (65, 66, .aload 0, .null, [], []),
  (66, 68, .nop, .int (8 : Int32), [], []),
  (68, 71, .invokestatic 0, .null, [], [115, 2, 1]),
  (71, 74, .ifCond .ne 0, .null, [], [76]),
  (74, 75, .nop, .int (0 : Int32), [], []),
  (75, 76, .ireturn, .null, [], [1]),
  (76, 77, .aload 0, .null, [], []),
  (77, 79, .nop, .int (8 : Int32), [], []),
  (79, 81, .nop, .int (13 : Int32), [], []),
  (81, 84, .invokestatic 0, .null, [], [101, 3, 0]),
  (84, 87, .iinc 5 0, .int (-1 : Int32), [], []),
  (87, 90, .goto 0, .null, [], [47]),
  (90, 93, .iinc 3 0, .int (1 : Int32), [], []),
  (93, 96, .goto 0, .null, [], [9]),
  (96, 97, .nop, .int (1 : Int32), [], []),
  (97, 98, .ireturn, .null, [], [1])]
def zh_142 : List (Nat × List Nat) := [(9, [0, 1, 2, 3]), (47, [0, 1, 2, 3, 4, 5])]
-- 143: PrimeCertificatesModel.isWhole:()Z
def zo_143 : List (Nat × Nat × dzOp) := [
  (0, 1, .aload 0, .null, [], []),
  (1, 3, .nop, .int (14 : Int32), [], []),
  (3, 5, .nop, .int (11 : Int32), [], []),
  (5, 7, .nop, .int (10 : Int32), [], []),
  (7, 9, .nop, .int (16 : Int32), [], []),
  (9, 12, .invokestatic 0, .null, [], [113, 5, 0]),
  (12, 13, .aload 0, .null, [], []),
  (13, 15, .nop, .int (16 : Int32), [], []),
  (15, 18, .invokestatic 0, .null, [], [116, 2, 1]),
  (18, 19, .ireturn, .null, [], [1])]
def zh_143 : List (Nat × List Nat) := []
-- 144: PrimeCertificatesModel.isRight:(IZ)Z
def zo_144 : List (Nat × Nat × dzOp) := [
  (0, 1, .aload 0, .null, [], []),
  (1, 3, .nop, .int (11 : Int32), [], []),
  (3, 5, .nop, .int (32 : Int32), [], []),
  (5, 6, .iload 1, .null, [], []),
  (6, 7, .iadd, .null, [], []),
  (7, 9, .nop, .int (15 : Int32), [], []),
  (9, 11, .nop, .int (16 : Int32), [], []),
  (11, 14, .invokestatic 0, .null, [], [111, 5, 0]),
  (14, 15, .aload 0, .null, [], []),
  (15, 17, .nop, .int (14 : Int32), [], []),
  (17, 19, .nop, .int (15 : Int32), [], []),
  (19, 21, .nop, .int (10 : Int32), [], []),
  (21, 23, .nop, .int (16 : Int32), [], []),
  (23, 26, .invokestatic 0, .null, [], [113, 5, 0]),
  (26, 27, .iload 2, .null, [], []),
  (27, 30, .ifCond .ne 0, .null, [], [45]),
  (30, 31, .aload 0, .null, [], []),
  (31, 33, .nop, .int (16 : Int32), [], []),
  (33, 36, .invokestatic 0, .null, [], [116, 2, 1]),
  (36, 39, .ifCond .ne 0, .null, [], [43]),
  (39, 40, .nop, .int (1 : Int32), [], []),
  (40, 43, .goto 0, .null, [], [44]),
  (43, 44, .nop, .int (0 : Int32), [], []),
  (44, 45, .ireturn, .null, [], [1]),
  (45, 46, .aload 0, .null, [], []),
  (46, 48, .nop, .int (16 : Int32), [], []),
  (48, 51, .invokestatic 0, .null, [], [104, 2, 1]),
  (51, 54, .ifCond .eq 0, .null, [], [62]),
  (54, 55, .aload 0, .null, [], []),
  (55, 57, .nop, .int (10 : Int32), [], []),
  (57, 59, .nop, .int (16 : Int32), [], []),
  (59, 62, .invokestatic 0, .null, [], [101, 3, 0]),
  (62, 63, .aload 0, .null, [], []),
  (63, 65, .nop, .int (16 : Int32), [], []),
  (65, 67, .nop, .int (21 : Int32), [], []),
  (67, 70, .invokestatic 0, .null, [], [106, 3, 0]),
  (70, 71, .aload 0, .null, [], []),
  (71, 73, .nop, .int (16 : Int32), [], []),
  (73, 75, .nop, .int (10 : Int32), [], []),
  (75, 77, .nop, .int (22 : Int32), [], []),
  (77, 80, .invokestatic 0, .null, [], [114, 4, 0]),
  (80, 81, .aload 0, .null, [], []),
  (81, 83, .nop, .int (22 : Int32), [], []),
  (83, 86, .invokestatic 0, .null, [], [116, 2, 1]),
  (86, 87, .ireturn, .null, [], [1])]
def zh_144 : List (Nat × List Nat) := [(62, [0, 1, 2])]
-- 145: PrimeCertificatesModel.lineTwo:()V
def zo_145 : List (Nat × Nat × dzOp) := [
  (0, 1, .aload 0, .null, [], []),
  (1, 4, .invokestatic 0, .null, [], [139, 1, 0]),
  (4, 5, .aload 0, .null, [], []),
  (5, 8, .getfield 0, .null, [], [1, 6, 1]),
  (8, 9, .istore 1, .null, [], []),
  (9, 10, .aload 0, .null, [], []),
  (10, 13, .invokestatic 0, .null, [], [135, 1, 1]),
  (13, 14, .pop, .null, [], []),
  (14, 15, .aload 0, .null, [], []),
  (15, 18, .invokestatic 0, .null, [], [134, 1, 1]),
  (18, 21, .ifCond .eq 0, .null, [], [26]),
  (21, 22, .aload 0, .null, [], []),
  (22, 23, .iload 1, .null, [], []),
  (23, 26, .invokestatic 0, .null, [], [140, 2, 0]),
  (26, 27, .aload 0, .null, [], []),
  (27, 30, .getfield 0, .null, [], [1, 6, 1]),
  (30, 31, .istore 2, .null, [], []),
  (31, 32, .aload 0, .null, [], []),
  (32, 33, .nop, .int (2 : Int32), [], []),
  (33, 36, .invokestatic 0, .null, [], [141, 2, 0]),
  (36, 37, .aload 0, .null, [], []),
  (37, 40, .invokestatic 0, .null, [], [134, 1, 1]),
  (40, 43, .ifCond .ne 0, .null, [], [44]),
  (43, 44, .return_, .null, [], []),
  (44, 45, .aload 0, .null, [], []),
  (45, 46, .iload 2, .null, [], []),
  (46, 47, .nop, .int (2 : Int32), [], []),
  (47, 50, .invokestatic 0, .null, [], [142, 3, 1]),
  (50, 53, .ifCond .eq 0, .null, [], [64]),
  (53, 54, .aload 0, .null, [], []),
  (54, 56, .nop, .int (13 : Int32), [], []),
  (56, 58, .nop, .int (11 : Int32), [], []),
  (58, 61, .invokestatic 0, .null, [], [102, 3, 1]),
  (61, 64, .ifCond .eq 0, .null, [], [71]),
  (64, 65, .aload 0, .null, [], []),
  (65, 67, .nop, .int (6 : Int32), [], []),
  (67, 68, .iload 2, .null, [], []),
  (68, 71, .invokestatic 0, .null, [], [133, 3, 0]),
  (71, 72, .aload 0, .null, [], []),
  (72, 74, .nop, .int (14 : Int32), [], []),
  (74, 75, .aload 0, .null, [], []),
  (75, 78, .getfield 0, .null, [], [1, 1, 3]),
  (78, 79, .iload 1, .null, [], []),
  (79, 80, .iaload, .null, [], []),
  (80, 81, .i2l, .null, [], []),
  (81, 84, .invokestatic 0, .null, [], [99, 3, 0]),
  (84, 85, .aload 0, .null, [], []),
  (85, 88, .invokestatic 0, .null, [], [134, 1, 1]),
  (88, 91, .ifCond .eq 0, .null, [], [105]),
  (91, 92, .aload 0, .null, [], []),
  (92, 95, .invokestatic 0, .null, [], [143, 1, 1]),
  (95, 98, .ifCond .ne 0, .null, [], [105]),
  (98, 99, .aload 0, .null, [], []),
  (99, 101, .nop, .int (9 : Int32), [], []),
  (101, 102, .iload 1, .null, [], []),
  (102, 105, .invokestatic 0, .null, [], [133, 3, 0]),
  (105, 106, .nop, .int (0 : Int32), [], []),
  (106, 107, .istore 3, .null, [], []),
  (107, 108, .iload 3, .null, [], []),
  (108, 109, .aload 0, .null, [], []),
  (109, 112, .getfield 0, .null, [], [1, 1, 3]),
  (112, 113, .iload 2, .null, [], []),
  (113, 114, .iaload, .null, [], []),
  (114, 117, .if_icmp .ge 0, .null, [], [163]),
  (117, 118, .aload 0, .null, [], []),
  (118, 121, .invokestatic 0, .null, [], [134, 1, 1]),
  (121, 124, .ifCond .eq 0, .null, [], [163]),
  (124, 125, .aload 0, .null, [], []),
  (125, 126, .aload 0, .null, [], []),
  (126, 129, .getfield 0, .null, [], [1, 1, 3]),
  (129, 130, .iload 2, .null, [], []),
  (130, 131, .nop, .int (1 : Int32), [], []),
  (131, 132, .iadd, .null, [], []),
  (132, 133, .nop, .int (2 : Int32), [], []),
  (133, 134, .iload 3, .null, [], []),
  (134, 135, .imul, .null, [], []),
  (135, 136, .iadd, .null, [], []),
  (136, 137, .iaload, .null, [], []),
  (137, 138, .nop, .int (0 : Int32), [], []),
  (138, 141, .invokestatic 0, .null, [], [144, 3, 1]),
  (141, 144, .ifCond .ne 0, .null, [], [157]),
  (144, 145, .aload 0, .null, [], []),
  (145, 147, .nop, .int (10 : Int32), [], []),
  (147, 148, .iload 2, .null, [], []),
  (148, 149, .nop, .int (1 : Int32), [], []),
  (149, 150, .iadd, .null, [], []),
  (150, 151, .nop, .int (2 : Int32), [], []),
  (151, 152, .iload 3, .null, [], []),
  (152, 153, .imul, .null, [], []),
  (153, 154, .iadd, .null, [], []),
  (154, 157, .invokestatic 0, .null, [], [133, 3, 0]),
  (157, 160, .iinc 3 0, .int (1 : Int32), [], []),
  (160, 163, .goto 0, .null, [], [107]),
  (163, 164, .aload 0, .null, [], []),
  (164, 166, .nop, .int (10 : Int32), [], []),
  (166, 168, .nop, .int (32 : Int32), [], []),
  (168, 169, .aload 0, .null, [], []),
  (169, 172, .getfield 0, .null, [], [1, 4, 1]),
  (172, 173, .iadd, .null, [], []),
  (173, 176, .invokestatic 0, .null, [], [101, 3, 0]),
  (176, 177, .return_, .null, [], [])]
def zh_145 : List (Nat × List Nat) := [(26, [0, 1]), (64, [0, 1, 2]), (71, [0, 1, 2]), (105, [0, 1, 2]), (107, [0, 1, 2, 3]), (157, [0, 1, 2, 3]), (163, [0, 1, 2, 3])]
-- 146: PrimeCertificatesModel.lineThree:()V
def zo_146 : List (Nat × Nat × dzOp) := [
  (0, 1, .aload 0, .null, [], []),
  (1, 4, .invokestatic 0, .null, [], [139, 1, 0]),
  (4, 5, .aload 0, .null, [], []),
  (5, 8, .getfield 0, .null, [], [1, 6, 1]),
  (8, 9, .istore 1, .null, [], []),
  (9, 10, .aload 0, .null, [], []),
  (10, 11, .nop, .int (3 : Int32), [], []),
  (11, 14, .invokestatic 0, .null, [], [141, 2, 0]),
  (14, 15, .aload 0, .null, [], []),
  (15, 18, .invokestatic 0, .null, [], [134, 1, 1]),
  (18, 21, .ifCond .ne 0, .null, [], [22]),
  (21, 22, .return_, .null, [], []),
  (22, 23, .aload 0, .null, [], []),
  (23, 24, .iload 1, .null, [], []),
  (24, 25, .nop, .int (3 : Int32), [], []),
  (25, 28, .invokestatic 0, .null, [], [142, 3, 1]),
  (28, 31, .ifCond .eq 0, .null, [], [46]),
  (31, 32, .aload 0, .null, [], []),
  (32, 34, .nop, .int (11 : Int32), [], []),
  (34, 36, .nop, .int (13 : Int32), [], []),
  (36, 38, .nop, .int (15 : Int32), [], []),
  (38, 40, .nop, .int (16 : Int32), [], []),
  (40, 43, .invokestatic 0, .null, [], [111, 5, 0]),
  (43, 46, .goto 0, .null, [], [54]),
  (46, 47, .aload 0, .null, [], []),
  (47, 49, .nop, .int (21 : Int32), [], []),
  (49, 51, .nop, .int (16 : Int32), [], []),
  (51, 54, .invokestatic 0, .null, [], [101, 3, 0]),
  (54, 55, .aload 0, .null, [], []),
  (55, 57, .nop, .int (16 : Int32), [], []),
  (57, 60, .invokestatic 0, .null, [], [104, 2, 1]),
  (60, 63, .ifCond .ne 0, .null, [], [70]),
  (63, 64, .aload 0, .null, [], []),
  (64, 66, .nop, .int (6 : Int32), [], []),
  (66, 67, .iload 1, .null, [], []),
  (67, 70, .invokestatic 0, .null, [], [133, 3, 0]),
  (70, 71, .aload 0, .null, [], []),
  (71, 73, .nop, .int (13 : Int32), [], []),
  (73, 75, .nop, .int (13 : Int32), [], []),
  (75, 77, .nop, .int (8 : Int32), [], []),
  (77, 80, .invokestatic 0, .null, [], [107, 4, 0]),
  (80, 81, .aload 0, .null, [], []),
  (81, 83, .nop, .int (8 : Int32), [], []),
  (83, 85, .nop, .int (10 : Int32), [], []),
  (85, 88, .invokestatic 0, .null, [], [102, 3, 1]),
  (88, 91, .ifCond .gt 0, .null, [], [98]),
  (91, 92, .aload 0, .null, [], []),
  (92, 94, .nop, .int (7 : Int32), [], []),
  (94, 95, .iload 1, .null, [], []),
  (95, 98, .invokestatic 0, .null, [], [133, 3, 0]),
  (98, 99, .nop, .int (0 : Int32), [], []),
  (99, 100, .istore 2, .null, [], []),
  (100, 101, .iload 2, .null, [], []),
  (101, 102, .aload 0, .null, [], []),
  (102, 105, .getfield 0, .null, [], [1, 1, 3]),
  (105, 106, .iload 1, .null, [], []),
  (106, 107, .iaload, .null, [], []),
  (107, 110, .if_icmp .ge 0, .null, [], [134]),
  (110, 111, .aload 0, .null, [], []),
  (111, 114, .invokestatic 0, .null, [], [134, 1, 1]),
  (114, 117, .ifCond .eq 0, .null, [], [134]),
  (117, 118, .aload 0, .null, [], []),
  (118, 119, .iload 1, .null, [], []),
  (119, 120, .nop, .int (3 : Int32), [], []),
  (120, 121, .iadd, .null, [], []),
  (121, 122, .nop, .int (3 : Int32), [], []),
  (122, 123, .iload 2, .null, [], []),
  (123, 124, .imul, .null, [], []),
  (124, 125, .iadd, .null, [], []),
  (125, 128, .invokestatic 0, .null, [], [140, 2, 0]),
  (128, 131, .iinc 2 0, .int (1 : Int32), [], []),
  (131, 134, .goto 0, .null, [], [100]),
  (134, 135, .nop, .int (0 : Int32), [], []),
  (135, 136, .istore 2, .null, [], []),
  (136, 137, .iload 2, .null, [], []),
  (137, 138, .aload 0, .null, [], []),
  (138, 141, .getfield 0, .null, [], [1, 1, 3]),
  (141, 142, .iload 1, .null, [], []),
  (142, 143, .iaload, .null, [], []),
  (143, 146, .if_icmp .ge 0, .null, [], [234]),
  (146, 147, .aload 0, .null, [], []),
  (147, 150, .invokestatic 0, .null, [], [134, 1, 1]),
  (150, 153, .ifCond .eq 0, .null, [], [234]),
  (153, 154, .aload 0, .null, [], []),
  (154, 156, .nop, .int (14 : Int32), [], []),
  (156, 157, .aload 0, .null, [], []),
  (157, 160, .getfield 0, .null, [], [1, 1, 3]),
  (160, 161, .iload 1, .null, [], []),
  (161, 162, .nop, .int (3 : Int32), [], []),
  (162, 163, .iadd, .null, [], []),
  (163, 164, .nop, .int (3 : Int32), [], []),
  (164, 165, .iload 2, .null, [], []),
  (165, 166, .imul, .null, [], []),
  (166, 167, .iadd, .null, [], []),
  (167, 168, .iaload, .null, [], []),
  (168, 169, .i2l, .null, [], []),
  (169, 172, .invokestatic 0, .null, [], [99, 3, 0]),
  (172, 173, .aload 0, .null, [], []),
  (173, 176, .invokestatic 0, .null, [], [143, 1, 1]),
  (176, 179, .ifCond .ne 0, .null, [], [195]),
  (179, 180, .aload 0, .null, [], []),
  (180, 182, .nop, .int (9 : Int32), [], []),
  (182, 183, .iload 1, .null, [], []),
  (183, 184, .nop, .int (3 : Int32), [], []),
  (184, 185, .iadd, .null, [], []),
  (185, 186, .nop, .int (3 : Int32), [], []),
  (186, 187, .iload 2, .null, [], []),
  (187, 188, .imul, .null, [], []),
  (188, 189, .iadd, .null, [], []),
  (189, 192, .invokestatic 0, .null, [], [133, 3, 0]),
  (192, 195, .goto 0, .null, [], [228]),
  (195, 196, .aload 0, .null, [], []),
  (196, 197, .aload 0, .null, [], []),
  (197, 200, .getfield 0, .null, [], [1, 1, 3]),
  (200, 201, .iload 1, .null, [], []),
  (201, 202, .nop, .int (1 : Int32), [], []),
  (202, 203, .iadd, .null, [], []),
  (203, 204, .nop, .int (3 : Int32), [], []),
  (204, 205, .iload 2, .null, [], []),
  (205, 206, .imul, .null, [], []),
  (206, 207, .iadd, .null, [], []),
  (207, 208, .iaload, .null, [], []),
  (208, 209, .nop, .int (1 : Int32), [], []),
  (209, 212, .invokestatic 0, .null, [], [144, 3, 1]),
  (212, 215, .ifCond .ne 0, .null, [], [228]),
  (215, 216, .aload 0, .null, [], []),
  (216, 218, .nop, .int (10 : Int32), [], []),
  (218, 219, .iload 1, .null, [], []),
  (219, 220, .nop, .int (1 : Int32), [], []),
  (220, 221, .iadd, .null, [], []),
  (221, 222, .nop, .int (3 : Int32), [], []),
  (222, 223, .iload 2, .null, [], []),
  (223, 224, .imul, .null, [], []),
  (224, 225, .iadd, .null, [], []),
  (225, 228, .invokestatic 0, .null, [], [133, 3, 0]),
  (228, 231, .iinc 2 0, .int (1 : Int32), [], []),
  (231, 234, .goto 0, .null, [], [136]),
  (234, 235, .aload 0, .null, [], []),
  (235, 237, .nop, .int (10 : Int32), [], []),
  (237, 239, .nop, .int (32 : Int32), [], []),
  (239, 240, .aload 0, .null, [], []),
  (240, 243, .getfield 0, .null, [], [1, 4, 1]),
  (243, 244, .iadd, .null, [], []),
  (244, 247, .invokestatic 0, .null, [], [101, 3, 0]),
  (247, 248, .return_, .null, [], [])]
def zh_146 : List (Nat × List Nat) := [(54, [0, 1]), (70, [0, 1]), (98, [0, 1]), (100, [0, 1, 2]), (134, [0, 1, 2]), (136, [0, 1, 2]), (228, [0, 1, 2]), (234, [0, 1, 2])]
-- 147: PrimeCertificatesModel.check:()I
def zo_147 : List (Nat × Nat × dzOp) := [
  (0, 1, .aload 0, .null, [], []),
  (1, 2, .nop, .int (0 : Int32), [], []),
  (2, 5, .putfield 0, .null, [], [1, 5, 1]),
  (5, 6, .aload 0, .null, [], []),
  (6, 8, .nop, .int (-2 : Int32), [], []),
  (8, 11, .putfield 0, .null, [], [1, 3, 1]),
  (11, 12, .aload 0, .null, [], []),
  (12, 13, .nop, .int (0 : Int32), [], []),
  (13, 16, .putfield 0, .null, [], [1, 7, 1]),
  (16, 17, .aload 0, .null, [], []),
  (17, 18, .nop, .int (0 : Int32), [], []),
  (18, 21, .putfield 0, .null, [], [1, 6, 1]),
  (21, 22, .aload 0, .null, [], []),
  (22, 23, .nop, .int (0 : Int32), [], []),
  (23, 26, .putfield 0, .null, [], [1, 4, 1]),
  (26, 27, .aload 0, .null, [], []),
  (27, 30, .invokestatic 0, .null, [], [134, 1, 1]),
  (30, 33, .ifCond .eq 0, .null, [], [128]),
  (33, 34, .aload 0, .null, [], []),
  (34, 37, .getfield 0, .null, [], [1, 6, 1]),
  (37, 38, .aload 0, .null, [], []),
  (38, 41, .getfield 0, .null, [], [1, 2, 1]),
  (41, 44, .if_icmp .ge 0, .null, [], [128]),
  (44, 45, .aload 0, .null, [], []),
  (45, 48, .getfield 0, .null, [], [1, 4, 1]),
  (48, 51, .nop, .int (200 : Int32), [], []),
  (51, 54, .if_icmp .ne 0, .null, [], [63]),
  (54, 55, .aload 0, .null, [], []),
  (55, 56, .nop, .int (2 : Int32), [], []),
  (56, 57, .aload 0, .null, [], []),
  (57, 60, .getfield 0, .null, [], [1, 6, 1]),
  (60, 63, .invokestatic 0, .null, [], [133, 3, 0]),
  (63, 64, .aload 0, .null, [], []),
  (64, 65, .nop, .int (1 : Int32), [], []),
  (65, 66, .nop, .int (3 : Int32), [], []),
  (66, 69, .invokestatic 0, .null, [], [136, 3, 1]),
  (69, 70, .istore 1, .null, [], []),
  (70, 71, .aload 0, .null, [], []),
  (71, 74, .invokestatic 0, .null, [], [134, 1, 1]),
  (74, 77, .ifCond .ne 0, .null, [], [80]),
  (77, 80, .goto 0, .null, [], [26]),
  (80, 81, .iload 1, .null, [], []),
  (81, 82, .nop, .int (1 : Int32), [], []),
  (82, 85, .if_icmp .ne 0, .null, [], [92]),
  (85, 86, .aload 0, .null, [], []),
  (86, 89, .invokestatic 0, .null, [], [138, 1, 0]),
  (89, 92, .goto 0, .null, [], [108]),
  (92, 93, .iload 1, .null, [], []),
  (93, 94, .nop, .int (2 : Int32), [], []),
  (94, 97, .if_icmp .ne 0, .null, [], [104]),
  (97, 98, .aload 0, .null, [], []),
  (98, 101, .invokestatic 0, .null, [], [145, 1, 0]),
  (101, 104, .goto 0, .null, [], [108]),
  (104, 105, .aload 0, .null, [], []),
  (105, 108, .invokestatic 0, .null, [], [146, 1, 0]),
  (108, 109, .aload 0, .null, [], []),
  (109, 112, .invokestatic 0, .null, [], [134, 1, 1]),
  (112, 115, .ifCond .eq 0, .null, [], [125]),
  (115, 116, .aload 0, .null, [], []),
  (116, 117, .dup, .null, [], []),
  (117, 120, .getfield 0, .null, [], [1, 4, 1]),
  (120, 121, .nop, .int (1 : Int32), [], []),
  (121, 122, .iadd, .null, [], []),
  (122, 125, .putfield 0, .null, [], [1, 4, 1]),
  (125, 128, .goto 0, .null, [], [26]),
  (128, 129, .aload 0, .null, [], []),
  (129, 132, .invokestatic 0, .null, [], [134, 1, 1]),
  (132, 135, .ifCond .ne 0, .null, [], [143]),
  (135, 137, .nop, .int (-100 : Int32), [], []),
  (137, 138, .aload 0, .null, [], []),
  (138, 141, .getfield 0, .null, [], [1, 7, 1]),
  (141, 142, .isub, .null, [], []),
  (142, 143, .ireturn, .null, [], [0]),
  (143, 144, .aload 0, .null, [], []),
  (144, 145, .aload 0, .null, [], []),
  (145, 148, .getfield 0, .null, [], [1, 4, 1]),
  (148, 151, .putfield 0, .null, [], [1, 5, 1]),
  (151, 152, .aload 0, .null, [], []),
  (152, 155, .getfield 0, .null, [], [1, 4, 1]),
  (155, 156, .ireturn, .null, [], [0])]
def zh_147 : List (Nat × List Nat) := [(26, [0]), (63, [0]), (108, [0, 1]), (125, [0, 1]), (128, [0])]
-- 148: PrimeCertificatesModel.place:()I
def zo_148 : List (Nat × Nat × dzOp) := [
  (0, 1, .aload 0, .null, [], []),
  (1, 4, .getfield 0, .null, [], [1, 3, 1]),
  (4, 5, .ireturn, .null, [], [0])]
def zh_148 : List (Nat × List Nat) := []
-- 149: PrimeCertificatesModel.tell:(II)Z
def zo_149 : List (Nat × Nat × dzOp) := [
  (0, 1, .iload 1, .null, [], []),
  (1, 4, .ifCond .lt 0, .null, [], [19]),
  (4, 5, .iload 1, .null, [], []),
  (5, 6, .aload 0, .null, [], []),
  (6, 9, .getfield 0, .null, [], [1, 5, 1]),
  (9, 12, .if_icmp .ge 0, .null, [], [19]),
  (12, 13, .iload 2, .null, [], []),
  (13, 16, .invokestatic 0, .null, [], [117, 1, 1]),
  (16, 19, .ifCond .ne 0, .null, [], [21]),
  (19, 20, .nop, .int (0 : Int32), [], []),
  (20, 21, .ireturn, .null, [], [1]),
  (21, 22, .aload 0, .null, [], []),
  (22, 24, .nop, .int (32 : Int32), [], []),
  (24, 25, .iload 1, .null, [], []),
  (25, 26, .iadd, .null, [], []),
  (26, 27, .iload 2, .null, [], []),
  (27, 30, .invokestatic 0, .null, [], [101, 3, 0]),
  (30, 31, .nop, .int (1 : Int32), [], []),
  (31, 32, .ireturn, .null, [], [1])]
def zh_149 : List (Nat × List Nat) := []
-- 150: PrimeCertificatesModel.lineOf:(I)I
def zo_150 : List (Nat × Nat × dzOp) := [
  (0, 1, .nop, .int (0 : Int32), [], []),
  (1, 2, .istore 2, .null, [], []),
  (2, 3, .iload 2, .null, [], []),
  (3, 4, .aload 0, .null, [], []),
  (4, 7, .getfield 0, .null, [], [1, 4, 1]),
  (7, 10, .if_icmp .ge 0, .null, [], [28]),
  (10, 11, .aload 0, .null, [], []),
  (11, 13, .nop, .int (32 : Int32), [], []),
  (13, 14, .iload 2, .null, [], []),
  (14, 15, .iadd, .null, [], []),
  (15, 16, .iload 1, .null, [], []),
  (16, 19, .invokestatic 0, .null, [], [102, 3, 1]),
  (19, 22, .ifCond .eq 0, .null, [], [28]),
  (22, 25, .iinc 2 0, .int (1 : Int32), [], []),
  (25, 28, .goto 0, .null, [], [2]),
  (28, 29, .iload 2, .null, [], []),
  (29, 30, .aload 0, .null, [], []),
  (30, 33, .getfield 0, .null, [], [1, 4, 1]),
  (33, 36, .if_icmp .ge 0, .null, [], [40]),
  (36, 37, .iload 2, .null, [], []),
  (37, 40, .goto 0, .null, [], [41]),
  (40, 41, .nop, .int (-1 : Int32), [], []),
  (41, 42, .ireturn, .null, [], [0])]
def zh_150 : List (Nat × List Nat) := [(2, [0, 1, 2]), (28, [0, 1, 2])]
-- 151: PrimeCertificatesModel.sayOne:(I)Z
def zo_151 : List (Nat × Nat × dzOp) := [
  (0, 1, .aload 0, .null, [], []),
  (1, 4, .getfield 0, .null, [], [1, 4, 1]),
  (4, 7, .nop, .int (200 : Int32), [], []),
  (7, 10, .if_icmp .eq 0, .null, [], [22]),
  (10, 11, .aload 0, .null, [], []),
  (11, 14, .getfield 0, .null, [], [1, 2, 1]),
  (14, 15, .nop, .int (2 : Int32), [], []),
  (15, 16, .iadd, .null, [], []),
  (16, 19, .nop, .int (4000 : Int32), [], []),
  (19, 22, .if_icmp .le 0, .null, [], [24]),
  (22, 23, .nop, .int (0 : Int32), [], []),
  (23, 24, .ireturn, .null, [], [1]),
  (24, 25, .aload 0, .null, [], []),
  (25, 26, .nop, .int (1 : Int32), [], []),
  (26, 29, .invokestatic 0, .null, [], [129, 2, 1]),
  (29, 30, .pop, .null, [], []),
  (30, 31, .aload 0, .null, [], []),
  (31, 32, .iload 1, .null, [], []),
  (32, 35, .invokestatic 0, .null, [], [129, 2, 1]),
  (35, 36, .pop, .null, [], []),
  (36, 37, .aload 0, .null, [], []),
  (37, 39, .nop, .int (32 : Int32), [], []),
  (39, 40, .aload 0, .null, [], []),
  (40, 43, .getfield 0, .null, [], [1, 4, 1]),
  (43, 44, .iadd, .null, [], []),
  (44, 45, .iload 1, .null, [], []),
  (45, 46, .i2l, .null, [], []),
  (46, 49, .invokestatic 0, .null, [], [99, 3, 0]),
  (49, 50, .aload 0, .null, [], []),
  (50, 51, .dup, .null, [], []),
  (51, 54, .getfield 0, .null, [], [1, 4, 1]),
  (54, 55, .nop, .int (1 : Int32), [], []),
  (55, 56, .iadd, .null, [], []),
  (56, 59, .putfield 0, .null, [], [1, 4, 1]),
  (59, 60, .nop, .int (1 : Int32), [], []),
  (60, 61, .ireturn, .null, [], [1])]
def zh_151 : List (Nat × List Nat) := []
-- 152: PrimeCertificatesModel.often:(I)I
def zo_152 : List (Nat × Nat × dzOp) := [
  (0, 1, .nop, .int (0 : Int32), [], []),
  (1, 2, .istore 2, .null, [], []),
  (2, 3, .aload 0, .null, [], []),
  (3, 5, .nop, .int (12 : Int32), [], []),
  (5, 6, .iload 1, .null, [], []),
  (6, 8, .nop, .int (15 : Int32), [], []),
  (8, 10, .nop, .int (16 : Int32), [], []),
  (10, 13, .invokestatic 0, .null, [], [111, 5, 0]),
  (13, 14, .aload 0, .null, [], []),
  (14, 16, .nop, .int (16 : Int32), [], []),
  (16, 19, .invokestatic 0, .null, [], [104, 2, 1]),
  (19, 22, .ifCond .eq 0, .null, [], [47]),
  (22, 23, .aload 0, .null, [], []),
  (23, 25, .nop, .int (15 : Int32), [], []),
  (25, 27, .nop, .int (12 : Int32), [], []),
  (27, 30, .invokestatic 0, .null, [], [101, 3, 0]),
  (30, 33, .iinc 2 0, .int (1 : Int32), [], []),
  (33, 34, .aload 0, .null, [], []),
  (34, 36, .nop, .int (12 : Int32), [], []),
  (36, 37, .iload 1, .null, [], []),
  (37, 39, .nop, .int (15 : Int32), [], []),
  (39, 41, .nop, .int (16 : Int32), [], []),
  (41, 44, .invokestatic 0, .null, [], [111, 5, 0]),
  (44, 47, .goto 0, .null, [], [13]),
  (47, 48, .iload 2, .null, [], []),
  (48, 49, .ireturn, .null, [], [0])]
def zh_152 : List (Nat × List Nat) := [(13, [0, 1, 2])]
-- 153: PrimeCertificatesModel.sort:(I)V
def zo_153 : List (Nat × Nat × dzOp) := [
  (0, 1, .iload 1, .null, [], []),
  (1, 2, .istore 2, .null, [], []),
  (2, 3, .iload 2, .null, [], []),
  (3, 4, .aload 0, .null, [], []),
  (4, 7, .getfield 0, .null, [], [1, 8, 1]),
  (7, 10, .if_icmp .ge 0, .null, [], [128]),
  (10, 11, .iload 1, .null, [], []),
  (11, 12, .istore 3, .null, [], []),
  (12, 13, .iload 3, .null, [], []),
  (13, 14, .nop, .int (1 : Int32), [], []),
  (14, 15, .iadd, .null, [], []),
  (15, 16, .aload 0, .null, [], []),
  (16, 19, .getfield 0, .null, [], [1, 8, 1]),
  (19, 22, .if_icmp .ge 0, .null, [], [122]),
  (22, 23, .aload 0, .null, [], []),
  (23, 25, .nop, .int (32 : Int32), [], []),
  (25, 26, .aload 0, .null, [], []),
  (26, 29, .getfield 0, .null, [], [1, 9, 3]),
  (29, 30, .iload 3, .null, [], []),
  (30, 31, .iaload, .null, [], []),
  (31, 32, .iadd, .null, [], []),
  (32, 34, .nop, .int (32 : Int32), [], []),
  (34, 35, .aload 0, .null, [], []),
  (35, 38, .getfield 0, .null, [], [1, 9, 3]),
  (38, 39, .iload 3, .null, [], []),
  (39, 40, .nop, .int (1 : Int32), [], []),
  (40, 41, .iadd, .null, [], []),
  (41, 42, .iaload, .null, [], []),
  (42, 43, .iadd, .null, [], []),
  (43, 46, .invokestatic 0, .null, [], [102, 3, 1]),
  (46, 49, .ifCond .ge 0, .null, [], [52]),
  (49, 52, .goto 0, .null, [], [116]),
  (52, 53, .aload 0, .null, [], []),
  (53, 56, .getfield 0, .null, [], [1, 9, 3]),
  (56, 57, .iload 3, .null, [], []),
  (57, 58, .iaload, .null, [], []),
  (58, 60, .istore 4, .null, [], []),
  (60, 61, .aload 0, .null, [], []),
  (61, 64, .getfield 0, .null, [], [1, 9, 3]),
  (64, 65, .iload 3, .null, [], []),
  (65, 66, .aload 0, .null, [], []),
  (66, 69, .getfield 0, .null, [], [1, 9, 3]),
  (69, 70, .iload 3, .null, [], []),
  (70, 71, .nop, .int (1 : Int32), [], []),
  (71, 72, .iadd, .null, [], []),
  (72, 73, .iaload, .null, [], []),
  (73, 74, .iastore, .null, [], []),
  (74, 75, .aload 0, .null, [], []),
  (75, 78, .getfield 0, .null, [], [1, 9, 3]),
  (78, 79, .iload 3, .null, [], []),
  (79, 80, .nop, .int (1 : Int32), [], []),
  (80, 81, .iadd, .null, [], []),
  (81, 83, .iload 4, .null, [], []),
  (83, 84, .iastore, .null, [], []),
  (84, 85, .aload 0, .null, [], []),
  (85, 88, .getfield 0, .null, [], [1, 10, 3]),
  (88, 89, .iload 3, .null, [], []),
  (89, 90, .iaload, .null, [], []),
  (90, 92, .istore 5, .null, [], []),
  (92, 93, .aload 0, .null, [], []),
  (93, 96, .getfield 0, .null, [], [1, 10, 3]),
  (96, 97, .iload 3, .null, [], []),
  (97, 98, .aload 0, .null, [], []),
  (98, 101, .getfield 0, .null, [], [1, 10, 3]),
  (101, 102, .iload 3, .null, [], []),
  (102, 103, .nop, .int (1 : Int32), [], []),
  (103, 104, .iadd, .null, [], []),
  (104, 105, .iaload, .null, [], []),
  (105, 106, .iastore, .null, [], []),
  (106, 107, .aload 0, .null, [], []),
  (107, 110, .getfield 0, .null, [], [1, 10, 3]),
  (110, 111, .iload 3, .null, [], []),
  (111, 112, .nop, .int (1 : Int32), [], []),
  (112, 113, .iadd, .null, [], []),
  (113, 115, .iload 5, .null, [], []),
  (115, 116, .iastore, .null, [], []),
  (116, 119, .iinc 3 0, .int (1 : Int32), [], []),
  (119, 122, .goto 0, .null, [], [12]),
  (122, 125, .iinc 2 0, .int (1 : Int32), [], []),
  (125, 128, .goto 0, .null, [], [2]),
  (128, 129, .return_, .null, [], [])]
def zh_153 : List (Nat × List Nat) := [(2, [0, 1, 2]), (12, [0, 1, 2, 3]), (116, [0, 1, 2, 3])]
-- 154: PrimeCertificatesModel.find:()Z
def zo_154 : List (Nat × Nat × dzOp) := [
  (0, 1, .aload 0, .null, [], []),
  (1, 2, .nop, .int (0 : Int32), [], []),
  (2, 5, .putfield 0, .null, [], [1, 8, 1]),
  (5, 6, .nop, .int (2 : Int32), [], []),
  (6, 7, .istore 1, .null, [], []),
  (7, 8, .iload 1, .null, [], []),
  (8, 11, .nop, .int (1009 : Int32), [], []),
  (11, 14, .if_icmp .gt 0, .null, [], [126]),
  (14, 15, .aload 0, .null, [], []),
  (15, 17, .nop, .int (8 : Int32), [], []),
  (17, 18, .iload 1, .null, [], []),
  (18, 19, .i2l, .null, [], []),
  (19, 22, .invokestatic 0, .null, [], [99, 3, 0]),
  (22, 23, .iload 1, .null, [], []),
  (23, 26, .invokestatic 0, .null, [], [137, 1, 1]),
  (26, 29, .ifCond .eq 0, .null, [], [38]),
  (29, 30, .aload 0, .null, [], []),
  (30, 32, .nop, .int (8 : Int32), [], []),
  (32, 35, .invokestatic 0, .null, [], [152, 2, 1]),
  (35, 38, .goto 0, .null, [], [39]),
  (38, 39, .nop, .int (0 : Int32), [], []),
  (39, 40, .istore 2, .null, [], []),
  (40, 41, .iload 2, .null, [], []),
  (41, 44, .ifCond .ne 0, .null, [], [47]),
  (44, 47, .goto 0, .null, [], [120]),
  (47, 48, .aload 0, .null, [], []),
  (48, 50, .nop, .int (8 : Int32), [], []),
  (50, 53, .invokestatic 0, .null, [], [150, 2, 1]),
  (53, 54, .istore 3, .null, [], []),
  (54, 55, .iload 3, .null, [], []),
  (55, 58, .ifCond .ge 0, .null, [], [66]),
  (58, 59, .aload 0, .null, [], []),
  (59, 60, .iload 1, .null, [], []),
  (60, 63, .invokestatic 0, .null, [], [151, 2, 1]),
  (63, 66, .ifCond .eq 0, .null, [], [75]),
  (66, 67, .aload 0, .null, [], []),
  (67, 70, .getfield 0, .null, [], [1, 8, 1]),
  (70, 72, .nop, .int (40 : Int32), [], []),
  (72, 75, .if_icmp .ne 0, .null, [], [77]),
  (75, 76, .nop, .int (0 : Int32), [], []),
  (76, 77, .ireturn, .null, [], [1]),
  (77, 78, .aload 0, .null, [], []),
  (78, 81, .getfield 0, .null, [], [1, 9, 3]),
  (81, 82, .aload 0, .null, [], []),
  (82, 85, .getfield 0, .null, [], [1, 8, 1]),
  (85, 86, .iload 3, .null, [], []),
  (86, 89, .ifCond .ge 0, .null, [], [98]),
  (89, 90, .aload 0, .null, [], []),
  (90, 93, .getfield 0, .null, [], [1, 4, 1]),
  (93, 94, .nop, .int (1 : Int32), [], []),
  (94, 95, .isub, .null, [], []),
  (95, 98, .goto 0, .null, [], [99]),
  (98, 99, .iload 3, .null, [], []),
  (99, 100, .iastore, .null, [], []),
  (100, 101, .aload 0, .null, [], []),
  (101, 104, .getfield 0, .null, [], [1, 10, 3]),
  (104, 105, .aload 0, .null, [], []),
  (105, 108, .getfield 0, .null, [], [1, 8, 1]),
  (108, 109, .iload 2, .null, [], []),
  (109, 110, .iastore, .null, [], []),
  (110, 111, .aload 0, .null, [], []),
  (111, 112, .dup, .null, [], []),
  (112, 115, .getfield 0, .null, [], [1, 8, 1]),
  (115, 116, .nop, .int (1 : Int32), [], []),
  (116, 117, .iadd, .null, [], []),
  (117, 120, .putfield 0, .null, [], [1, 8, 1]),
  (120, 123, .iinc 1 0, .int (1 : Int32), [], []),
  (123, 126, .goto 0, .null, [], [7]),
  (126, 127, .aload 0, .null, [], []),
  (127, 130, .getfield 0, .null, [], [1, 8, 1]),
  (130, 131, .istore 1, .null, [], []),
  (131, 132, .aload 0, .null, [], []),
  (132, 134, .nop, .int (9 : Int32), [], []),
  (134, 137, .nop, .long (1009 : Int64), [], []),
  (137, 140, .invokestatic 0, .null, [], [99, 3, 0]),
  (140, 141, .nop, .int (0 : Int32), [], []),
  (141, 142, .istore 2, .null, [], []),
  (142, 143, .iload 2, .null, [], []),
  (143, 144, .aload 0, .null, [], []),
  (144, 147, .getfield 0, .null, [], [1, 4, 1]),
  (147, 150, .if_icmp .ge 0, .null, [], [230]),
  (150, 151, .aload 0, .null, [], []),
  (151, 153, .nop, .int (32 : Int32), [], []),
  (153, 154, .iload 2, .null, [], []),
  (154, 155, .iadd, .null, [], []),
  (155, 157, .nop, .int (9 : Int32), [], []),
  (157, 160, .invokestatic 0, .null, [], [102, 3, 1]),
  (160, 163, .ifCond .le 0, .null, [], [174]),
  (163, 164, .aload 0, .null, [], []),
  (164, 166, .nop, .int (32 : Int32), [], []),
  (166, 167, .iload 2, .null, [], []),
  (167, 168, .iadd, .null, [], []),
  (168, 171, .invokestatic 0, .null, [], [152, 2, 1]),
  (171, 174, .goto 0, .null, [], [175]),
  (174, 175, .nop, .int (0 : Int32), [], []),
  (175, 176, .istore 3, .null, [], []),
  (176, 177, .iload 3, .null, [], []),
  (177, 180, .ifCond .ne 0, .null, [], [183]),
  (180, 183, .goto 0, .null, [], [224]),
  (183, 184, .aload 0, .null, [], []),
  (184, 187, .getfield 0, .null, [], [1, 8, 1]),
  (187, 189, .nop, .int (40 : Int32), [], []),
  (189, 192, .if_icmp .ne 0, .null, [], [194]),
  (192, 193, .nop, .int (0 : Int32), [], []),
  (193, 194, .ireturn, .null, [], [1]),
  (194, 195, .aload 0, .null, [], []),
  (195, 198, .getfield 0, .null, [], [1, 9, 3]),
  (198, 199, .aload 0, .null, [], []),
  (199, 202, .getfield 0, .null, [], [1, 8, 1]),
  (202, 203, .iload 2, .null, [], []),
  (203, 204, .iastore, .null, [], []),
  (204, 205, .aload 0, .null, [], []),
  (205, 208, .getfield 0, .null, [], [1, 10, 3]),
  (208, 209, .aload 0, .null, [], []),
  (209, 212, .getfield 0, .null, [], [1, 8, 1]),
  (212, 213, .iload 3, .null, [], []),
  (213, 214, .iastore, .null, [], []),
  (214, 215, .aload 0, .null, [], []),
  (215, 216, .dup, .null, [], []),
  (216, 219, .getfield 0, .null, [], [1, 8, 1]),
  (219, 220, .nop, .int (1 : Int32), [], []),
  (220, 221, .iadd, .null, [], []),
  (221, 224, .putfield 0, .null, [], [1, 8, 1]),
  (224, 227, .iinc 2 0, .int (1 : Int32), [], []),
  (227, 230, .goto 0, .null, [], [142]),
  (230, 231, .aload 0, .null, [], []),
  (231, 232, .iload 1, .null, [], []),
  (232, 235, .invokestatic 0, .null, [], [153, 2, 0]),
  (235, 236, .nop, .int (1 : Int32), [], []),
  (236, 237, .ireturn, .null, [], [1])]
def zh_154 : List (Nat × List Nat) := [(7, [0, 1]), (39, [0, 1]), (66, [0, 1, 2, 3]), (99, [0, 1, 2, 3]), (120, [0, 1, 2]), (142, [0, 1, 2]), (175, [0, 1, 2]), (224, [0, 1, 2, 3])]
-- 155: PrimeCertificatesModel.wholeWitness:()I
def zo_155 : List (Nat × Nat × dzOp) := [
  (0, 1, .nop, .int (2 : Int32), [], []),
  (1, 2, .istore 1, .null, [], []),
  (2, 3, .iload 1, .null, [], []),
  (3, 6, .nop, .int (200 : Int32), [], []),
  (6, 9, .if_icmp .gt 0, .null, [], [66]),
  (9, 10, .aload 0, .null, [], []),
  (10, 12, .nop, .int (14 : Int32), [], []),
  (12, 13, .iload 1, .null, [], []),
  (13, 14, .i2l, .null, [], []),
  (14, 17, .invokestatic 0, .null, [], [99, 3, 0]),
  (17, 18, .aload 0, .null, [], []),
  (18, 21, .invokestatic 0, .null, [], [143, 1, 1]),
  (21, 22, .istore 2, .null, [], []),
  (22, 23, .nop, .int (0 : Int32), [], []),
  (23, 24, .istore 3, .null, [], []),
  (24, 25, .iload 3, .null, [], []),
  (25, 26, .aload 0, .null, [], []),
  (26, 29, .getfield 0, .null, [], [1, 8, 1]),
  (29, 32, .if_icmp .ge 0, .null, [], [54]),
  (32, 33, .iload 2, .null, [], []),
  (33, 36, .ifCond .eq 0, .null, [], [54]),
  (36, 37, .aload 0, .null, [], []),
  (37, 38, .aload 0, .null, [], []),
  (38, 41, .getfield 0, .null, [], [1, 9, 3]),
  (41, 42, .iload 3, .null, [], []),
  (42, 43, .iaload, .null, [], []),
  (43, 44, .nop, .int (0 : Int32), [], []),
  (44, 47, .invokestatic 0, .null, [], [144, 3, 1]),
  (47, 48, .istore 2, .null, [], []),
  (48, 51, .iinc 3 0, .int (1 : Int32), [], []),
  (51, 54, .goto 0, .null, [], [24]),
  (54, 55, .iload 2, .null, [], []),
  (55, 58, .ifCond .eq 0, .null, [], [60]),
  (58, 59, .iload 1, .null, [], []),
  (59, 60, .ireturn, .null, [], [0]),
  (60, 63, .iinc 1 0, .int (1 : Int32), [], []),
  (63, 66, .goto 0, .null, [], [2]),
  (66, 67, .nop, .int (0 : Int32), [], []),
  (67, 68, .ireturn, .null, [], [0])]
def zh_155 : List (Nat × List Nat) := [(2, [0, 1]), (24, [0, 1, 2, 3]), (54, [0, 1, 2, 3])]
-- 156: PrimeCertificatesModel.partWitnesses:()Z
def zo_156 : List (Nat × Nat × dzOp) := [
  (0, 1, .nop, .int (0 : Int32), [], []),
  (1, 2, .istore 1, .null, [], []),
  (2, 3, .iload 1, .null, [], []),
  (3, 4, .aload 0, .null, [], []),
  (4, 7, .getfield 0, .null, [], [1, 8, 1]),
  (7, 10, .if_icmp .ge 0, .null, [], [85]),
  (10, 11, .nop, .int (1 : Int32), [], []),
  (11, 12, .istore 2, .null, [], []),
  (12, 13, .nop, .int (0 : Int32), [], []),
  (13, 14, .istore 3, .null, [], []),
  (14, 15, .iload 3, .null, [], []),
  (15, 18, .ifCond .ne 0, .null, [], [66]),
  (18, 19, .iload 2, .null, [], []),
  (19, 22, .nop, .int (200 : Int32), [], []),
  (22, 25, .if_icmp .ge 0, .null, [], [66]),
  (25, 28, .iinc 2 0, .int (1 : Int32), [], []),
  (28, 29, .aload 0, .null, [], []),
  (29, 31, .nop, .int (14 : Int32), [], []),
  (31, 32, .iload 2, .null, [], []),
  (32, 33, .i2l, .null, [], []),
  (33, 36, .invokestatic 0, .null, [], [99, 3, 0]),
  (36, 37, .aload 0, .null, [], []),
  (37, 40, .invokestatic 0, .null, [], [143, 1, 1]),
  (40, 43, .ifCond .eq 0, .null, [], [61]),
  (43, 44, .aload 0, .null, [], []),
  (44, 45, .aload 0, .null, [], []),
  (45, 48, .getfield 0, .null, [], [1, 9, 3]),
  (48, 49, .iload 1, .null, [], []),
  (49, 50, .iaload, .null, [], []),
  (50, 51, .nop, .int (1 : Int32), [], []),
  (51, 54, .invokestatic 0, .null, [], [144, 3, 1]),
  (54, 57, .ifCond .eq 0, .null, [], [61]),
  (57, 58, .nop, .int (1 : Int32), [], []),
  (58, 61, .goto 0, .null, [], [62]),
  (61, 62, .nop, .int (0 : Int32), [], []),
  (62, 63, .istore 3, .null, [], []),
  (63, 66, .goto 0, .null, [], [14]),
  (66, 67, .iload 3, .null, [], []),
  (67, 70, .ifCond .ne 0, .null, [], [72]),
  (70, 71, .nop, .int (0 : Int32), [], []),
  (71, 72, .ireturn, .null, [], [1]),
  (72, 73, .aload 0, .null, [], []),
  (73, 76, .getfield 0, .null, [], [1, 11, 3]),
  (76, 77, .iload 1, .null, [], []),
  (77, 78, .iload 2, .null, [], []),
  (78, 79, .iastore, .null, [], []),
  (79, 82, .iinc 1 0, .int (1 : Int32), [], []),
  (82, 85, .goto 0, .null, [], [2]),
  (85, 86, .nop, .int (1 : Int32), [], []),
  (86, 87, .ireturn, .null, [], [1])]
def zh_156 : List (Nat × List Nat) := [(2, [0, 1]), (14, [0, 1, 2, 3]), (61, [0, 1, 2, 3]), (62, [0, 1, 2, 3]), (66, [0, 1, 2, 3])]
-- 157: PrimeCertificatesModel.sayLine:(II)Z
def zo_157 : List (Nat × Nat × dzOp) := [
  (0, 1, .aload 0, .null, [], []),
  (1, 3, .nop, .int (10 : Int32), [], []),
  (3, 6, .invokestatic 0, .null, [], [103, 2, 1]),
  (6, 7, .nop, .int (1 : Int32), [], []),
  (7, 8, .iadd, .null, [], []),
  (8, 9, .nop, .int (2 : Int32), [], []),
  (9, 10, .idiv, .null, [], []),
  (10, 11, .istore 3, .null, [], []),
  (11, 12, .nop, .int (3 : Int32), [], []),
  (12, 13, .iload 3, .null, [], []),
  (13, 14, .iadd, .null, [], []),
  (14, 15, .iload 1, .null, [], []),
  (15, 16, .nop, .int (2 : Int32), [], []),
  (16, 19, .if_icmp .ne 0, .null, [], [30]),
  (19, 20, .nop, .int (1 : Int32), [], []),
  (20, 21, .nop, .int (2 : Int32), [], []),
  (21, 22, .aload 0, .null, [], []),
  (22, 25, .getfield 0, .null, [], [1, 8, 1]),
  (25, 26, .imul, .null, [], []),
  (26, 27, .iadd, .null, [], []),
  (27, 30, .goto 0, .null, [], [36]),
  (30, 31, .nop, .int (3 : Int32), [], []),
  (31, 32, .aload 0, .null, [], []),
  (32, 35, .getfield 0, .null, [], [1, 8, 1]),
  (35, 36, .imul, .null, [], []),
  (36, 37, .iadd, .null, [], []),
  (37, 39, .istore 4, .null, [], []),
  (39, 40, .aload 0, .null, [], []),
  (40, 43, .getfield 0, .null, [], [1, 4, 1]),
  (43, 46, .nop, .int (200 : Int32), [], []),
  (46, 49, .if_icmp .eq 0, .null, [], [62]),
  (49, 50, .aload 0, .null, [], []),
  (50, 53, .getfield 0, .null, [], [1, 2, 1]),
  (53, 55, .iload 4, .null, [], []),
  (55, 56, .iadd, .null, [], []),
  (56, 59, .nop, .int (4000 : Int32), [], []),
  (59, 62, .if_icmp .le 0, .null, [], [64]),
  (62, 63, .nop, .int (0 : Int32), [], []),
  (63, 64, .ireturn, .null, [], [1]),
  (64, 65, .aload 0, .null, [], []),
  (65, 66, .iload 1, .null, [], []),
  (66, 69, .invokestatic 0, .null, [], [129, 2, 1]),
  (69, 70, .pop, .null, [], []),
  (70, 71, .aload 0, .null, [], []),
  (71, 72, .iload 3, .null, [], []),
  (72, 75, .invokestatic 0, .null, [], [129, 2, 1]),
  (75, 76, .pop, .null, [], []),
  (76, 77, .nop, .int (0 : Int32), [], []),
  (77, 79, .istore 5, .null, [], []),
  (79, 81, .iload 5, .null, [], []),
  (81, 82, .iload 3, .null, [], []),
  (82, 85, .if_icmp .ge 0, .null, [], [128]),
  (85, 86, .aload 0, .null, [], []),
  (86, 87, .aload 0, .null, [], []),
  (87, 90, .getfield 0, .null, [], [1, 0, 3]),
  (90, 93, .nop, .int (400 : Int32), [], []),
  (93, 94, .nop, .int (2 : Int32), [], []),
  (94, 96, .iload 5, .null, [], []),
  (96, 97, .imul, .null, [], []),
  (97, 98, .iadd, .null, [], []),
  (98, 99, .nop, .int (1 : Int32), [], []),
  (99, 100, .iadd, .null, [], []),
  (100, 101, .iaload, .null, [], []),
  (101, 103, .nop, .int (16 : Int32), [], []),
  (103, 104, .ishl, .null, [], []),
  (104, 105, .aload 0, .null, [], []),
  (105, 108, .getfield 0, .null, [], [1, 0, 3]),
  (108, 111, .nop, .int (400 : Int32), [], []),
  (111, 112, .nop, .int (2 : Int32), [], []),
  (112, 114, .iload 5, .null, [], []),
  (114, 115, .imul, .null, [], []),
  (115, 116, .iadd, .null, [], []),
  (116, 117, .iaload, .null, [], []),
  (117, 118, .ior, .null, [], []),
  (118, 121, .invokestatic 0, .null, [], [129, 2, 1]),
  (121, 122, .pop, .null, [], []),
  (122, 125, .iinc 5 0, .int (1 : Int32), [], []),
  (125, 128, .goto 0, .null, [], [79]),
  (128, 129, .iload 1, .null, [], []),
  (129, 130, .nop, .int (2 : Int32), [], []),
  (130, 133, .if_icmp .ne 0, .null, [], [139]),
  (133, 134, .aload 0, .null, [], []),
  (134, 135, .iload 2, .null, [], []),
  (135, 138, .invokestatic 0, .null, [], [129, 2, 1]),
  (138, 139, .pop, .null, [], []),
  (139, 140, .aload 0, .null, [], []),
  (140, 141, .aload 0, .null, [], []),
  (141, 144, .getfield 0, .null, [], [1, 8, 1]),
  (144, 147, .invokestatic 0, .null, [], [129, 2, 1]),
  (147, 148, .pop, .null, [], []),
  (148, 149, .nop, .int (0 : Int32), [], []),
  (149, 151, .istore 5, .null, [], []),
  (151, 153, .iload 5, .null, [], []),
  (153, 154, .aload 0, .null, [], []),
  (154, 157, .getfield 0, .null, [], [1, 8, 1]),
  (157, 160, .if_icmp .ge 0, .null, [], [207]),
  (160, 161, .aload 0, .null, [], []),
  (161, 162, .aload 0, .null, [], []),
  (162, 165, .getfield 0, .null, [], [1, 9, 3]),
  (165, 167, .iload 5, .null, [], []),
  (167, 168, .iaload, .null, [], []),
  (168, 171, .invokestatic 0, .null, [], [129, 2, 1]),
  (171, 172, .pop, .null, [], []),
  (172, 173, .aload 0, .null, [], []),
  (173, 174, .aload 0, .null, [], []),
  (174, 177, .getfield 0, .null, [], [1, 10, 3]),
  (177, 179, .iload 5, .null, [], []),
  (179, 180, .iaload, .null, [], []),
  (180, 183, .invokestatic 0, .null, [], [129, 2, 1]),
  (183, 184, .pop, .null, [], []),
  (184, 185, .iload 1, .null, [], []),
  (185, 186, .nop, .int (3 : Int32), [], []),
  (186, 189, .if_icmp .ne 0, .null, [], [201]),
  (189, 190, .aload 0, .null, [], []),
  (190, 191, .aload 0, .null, [], []),
  (191, 194, .getfield 0, .null, [], [1, 11, 3]),
  (194, 196, .iload 5, .null, [], []),
  (196, 197, .iaload, .null, [], []),
  (197, 200, .invokestatic 0, .null, [], [129, 2, 1]),
  (200, 201, .pop, .null, [], []),
  (201, 204, .iinc 5 0, .int (1 : Int32), [], []),
  (204, 207, .goto 0, .null, [], [151]),
  (207, 208, .aload 0, .null, [], []),
  (208, 210, .nop, .int (10 : Int32), [], []),
  (210, 212, .nop, .int (32 : Int32), [], []),
  (212, 213, .aload 0, .null, [], []),
  (213, 216, .getfield 0, .null, [], [1, 4, 1]),
  (216, 217, .iadd, .null, [], []),
  (217, 220, .invokestatic 0, .null, [], [101, 3, 0]),
  (220, 221, .aload 0, .null, [], []),
  (221, 222, .dup, .null, [], []),
  (222, 225, .getfield 0, .null, [], [1, 4, 1]),
  (225, 226, .nop, .int (1 : Int32), [], []),
  (226, 227, .iadd, .null, [], []),
  (227, 230, .putfield 0, .null, [], [1, 4, 1]),
  (230, 231, .nop, .int (1 : Int32), [], []),
  (231, 232, .ireturn, .null, [], [1])]
def zh_157 : List (Nat × List Nat) := [(36, [0, 1, 2, 3]), (79, [0, 1, 2, 3, 4, 5]), (139, [0, 1, 2, 3, 4, 5]), (151, [0, 1, 2, 3, 4, 5]), (201, [0, 1, 2, 3, 4, 5])]
-- 158: PrimeCertificatesModel.make:()Z
def zo_158 : List (Nat × Nat × dzOp) := [
  (0, 1, .aload 0, .null, [], []),
  (1, 3, .nop, .int (8 : Int32), [], []),
  (3, 6, .nop, .long (65535 : Int64), [], []),
  (6, 9, .invokestatic 0, .null, [], [99, 3, 0]),
  (9, 10, .aload 0, .null, [], []),
  (10, 12, .nop, .int (10 : Int32), [], []),
  (12, 14, .nop, .int (8 : Int32), [], []),
  (14, 17, .invokestatic 0, .null, [], [102, 3, 1]),
  (17, 20, .ifCond .gt 0, .null, [], [50]),
  (20, 21, .aload 0, .null, [], []),
  (21, 24, .getfield 0, .null, [], [1, 0, 3]),
  (24, 27, .nop, .int (400 : Int32), [], []),
  (27, 28, .iaload, .null, [], []),
  (28, 29, .istore 1, .null, [], []),
  (29, 30, .iload 1, .null, [], []),
  (30, 33, .invokestatic 0, .null, [], [137, 1, 1]),
  (33, 36, .ifCond .eq 0, .null, [], [48]),
  (36, 37, .aload 0, .null, [], []),
  (37, 38, .iload 1, .null, [], []),
  (38, 41, .invokestatic 0, .null, [], [151, 2, 1]),
  (41, 44, .ifCond .eq 0, .null, [], [48]),
  (44, 45, .nop, .int (1 : Int32), [], []),
  (45, 48, .goto 0, .null, [], [49]),
  (48, 49, .nop, .int (0 : Int32), [], []),
  (49, 50, .ireturn, .null, [], [1]),
  (50, 51, .aload 0, .null, [], []),
  (51, 53, .nop, .int (10 : Int32), [], []),
  (53, 55, .nop, .int (11 : Int32), [], []),
  (55, 58, .invokestatic 0, .null, [], [101, 3, 0]),
  (58, 59, .aload 0, .null, [], []),
  (59, 61, .nop, .int (11 : Int32), [], []),
  (61, 63, .nop, .int (21 : Int32), [], []),
  (63, 66, .invokestatic 0, .null, [], [106, 3, 0]),
  (66, 67, .aload 0, .null, [], []),
  (67, 69, .nop, .int (11 : Int32), [], []),
  (69, 71, .nop, .int (12 : Int32), [], []),
  (71, 74, .invokestatic 0, .null, [], [101, 3, 0]),
  (74, 75, .aload 0, .null, [], []),
  (75, 78, .invokestatic 0, .null, [], [154, 1, 1]),
  (78, 81, .ifCond .ne 0, .null, [], [83]),
  (81, 82, .nop, .int (0 : Int32), [], []),
  (82, 83, .ireturn, .null, [], [1]),
  (83, 84, .aload 0, .null, [], []),
  (84, 86, .nop, .int (12 : Int32), [], []),
  (86, 89, .invokestatic 0, .null, [], [116, 2, 1]),
  (89, 92, .ifCond .eq 0, .null, [], [116]),
  (92, 93, .aload 0, .null, [], []),
  (93, 96, .invokestatic 0, .null, [], [155, 1, 1]),
  (96, 97, .istore 1, .null, [], []),
  (97, 98, .iload 1, .null, [], []),
  (98, 101, .ifCond .le 0, .null, [], [114]),
  (101, 102, .aload 0, .null, [], []),
  (102, 103, .nop, .int (2 : Int32), [], []),
  (103, 104, .iload 1, .null, [], []),
  (104, 107, .invokestatic 0, .null, [], [157, 3, 1]),
  (107, 110, .ifCond .eq 0, .null, [], [114]),
  (110, 111, .nop, .int (1 : Int32), [], []),
  (111, 114, .goto 0, .null, [], [115]),
  (114, 115, .nop, .int (0 : Int32), [], []),
  (115, 116, .ireturn, .null, [], [1]),
  (116, 117, .aload 0, .null, [], []),
  (117, 119, .nop, .int (11 : Int32), [], []),
  (119, 121, .nop, .int (12 : Int32), [], []),
  (121, 123, .nop, .int (13 : Int32), [], []),
  (123, 125, .nop, .int (16 : Int32), [], []),
  (125, 128, .invokestatic 0, .null, [], [111, 5, 0]),
  (128, 129, .aload 0, .null, [], []),
  (129, 131, .nop, .int (13 : Int32), [], []),
  (131, 133, .nop, .int (13 : Int32), [], []),
  (133, 135, .nop, .int (8 : Int32), [], []),
  (135, 138, .invokestatic 0, .null, [], [107, 4, 0]),
  (138, 139, .aload 0, .null, [], []),
  (139, 141, .nop, .int (8 : Int32), [], []),
  (141, 143, .nop, .int (10 : Int32), [], []),
  (143, 146, .invokestatic 0, .null, [], [102, 3, 1]),
  (146, 149, .ifCond .le 0, .null, [], [169]),
  (149, 150, .aload 0, .null, [], []),
  (150, 153, .invokestatic 0, .null, [], [156, 1, 1]),
  (153, 156, .ifCond .eq 0, .null, [], [169]),
  (156, 157, .aload 0, .null, [], []),
  (157, 158, .nop, .int (3 : Int32), [], []),
  (158, 159, .nop, .int (0 : Int32), [], []),
  (159, 162, .invokestatic 0, .null, [], [157, 3, 1]),
  (162, 165, .ifCond .eq 0, .null, [], [169]),
  (165, 166, .nop, .int (1 : Int32), [], []),
  (166, 169, .goto 0, .null, [], [170]),
  (169, 170, .nop, .int (0 : Int32), [], []),
  (170, 171, .ireturn, .null, [], [1])]
def zh_158 : List (Nat × List Nat) := []
-- 159: PrimeCertificatesModel.prove:(I)I
def zo_159 : List (Nat × Nat × dzOp) := [
  (0, 1, .iload 1, .null, [], []),
  (1, 4, .invokestatic 0, .null, [], [117, 1, 1]),
  (4, 7, .ifCond .ne 0, .null, [], [9]),
  (7, 8, .nop, .int (-1 : Int32), [], []),
  (8, 9, .ireturn, .null, [], [0]),
  (9, 10, .aload 0, .null, [], []),
  (10, 13, .invokestatic 0, .null, [], [147, 1, 1]),
  (13, 14, .istore 2, .null, [], []),
  (14, 15, .iload 2, .null, [], []),
  (15, 18, .ifCond .ge 0, .null, [], [20]),
  (18, 19, .iload 2, .null, [], []),
  (19, 20, .ireturn, .null, [], [0]),
  (20, 21, .aload 0, .null, [], []),
  (21, 22, .iload 1, .null, [], []),
  (22, 24, .nop, .int (10 : Int32), [], []),
  (24, 27, .invokestatic 0, .null, [], [101, 3, 0]),
  (27, 28, .aload 0, .null, [], []),
  (28, 30, .nop, .int (10 : Int32), [], []),
  (30, 33, .invokestatic 0, .null, [], [150, 2, 1]),
  (33, 34, .istore 3, .null, [], []),
  (34, 35, .iload 3, .null, [], []),
  (35, 38, .ifCond .lt 0, .null, [], [40]),
  (38, 39, .iload 3, .null, [], []),
  (39, 40, .ireturn, .null, [], [0]),
  (40, 41, .aload 0, .null, [], []),
  (41, 44, .getfield 0, .null, [], [1, 2, 1]),
  (44, 46, .istore 4, .null, [], []),
  (46, 47, .aload 0, .null, [], []),
  (47, 50, .invokestatic 0, .null, [], [158, 1, 1]),
  (50, 52, .istore 5, .null, [], []),
  (52, 54, .iload 5, .null, [], []),
  (54, 57, .ifCond .ne 0, .null, [], [68]),
  (57, 58, .aload 0, .null, [], []),
  (58, 60, .iload 4, .null, [], []),
  (60, 63, .putfield 0, .null, [], [1, 2, 1]),
  (63, 64, .aload 0, .null, [], []),
  (64, 65, .iload 2, .null, [], []),
  (65, 68, .putfield 0, .null, [], [1, 4, 1]),
  (68, 69, .aload 0, .null, [], []),
  (69, 70, .aload 0, .null, [], []),
  (70, 73, .getfield 0, .null, [], [1, 4, 1]),
  (73, 76, .putfield 0, .null, [], [1, 5, 1]),
  (76, 78, .iload 5, .null, [], []),
  (78, 81, .ifCond .eq 0, .null, [], [90]),
  (81, 82, .aload 0, .null, [], []),
  (82, 85, .getfield 0, .null, [], [1, 4, 1]),
  (85, 86, .nop, .int (1 : Int32), [], []),
  (86, 87, .isub, .null, [], []),
  (87, 90, .goto 0, .null, [], [92]),
  (90, 92, .nop, .int (-2 : Int32), [], []),
  (92, 93, .ireturn, .null, [], [0])]
def zh_159 : List (Nat × List Nat) := [(68, [0, 1, 2, 3, 4, 5])]
-- 160: PrimeCertificatesLaw.law:([I)Z
def zo_160 : List (Nat × Nat × dzOp) := [
  (0, 3, .new 0, .null, [], [0, 8]),
  (3, 4, .dup, .null, [], []),
  (4, 7, .invokestatic 0, .null, [], [7, 1, 0]),
  (7, 8, .astore 1, .null, [], []),
  (8, 11, .new 0, .null, [], [1, 12]),
  (11, 12, .dup, .null, [], []),
  (12, 15, .invokestatic 0, .null, [], [100, 1, 0]),
  (15, 16, .astore 2, .null, [], []),
  (16, 17, .nop, .int (0 : Int32), [], []),
  (17, 18, .istore 3, .null, [], []),
  (18, 19, .iload 3, .null, [], []),
  (19, 20, .aload 0, .null, [], []),
  (20, 21, .arraylength, .null, [], []),
  (21, 22, .nop, .int (5 : Int32), [], []),
  (22, 23, .isub, .null, [], []),
  (23, 26, .if_icmp .gt 0, .null, [], [673]),
  (26, 27, .aload 0, .null, [], []),
  (27, 28, .iload 3, .null, [], []),
  (28, 29, .iaload, .null, [], []),
  (29, 31, .nop, .int (31 : Int32), [], []),
  (31, 32, .iand, .null, [], []),
  (32, 116, .lookupswitch 0 #[], .null, [(0, 116), (1, 159), (2, 192), (3, 235), (4, 278), (5, 321), (6, 374), (7, 427), (8, 470), (9, 503), (10, 526), (11, 549), (12, 562), (13, 585), (14, 598), (15, 611), (16, 644)], [667]),
  (116, 117, .aload 1, .null, [], []),
  (117, 118, .aload 0, .null, [], []),
  (118, 119, .iload 3, .null, [], []),
  (119, 120, .nop, .int (1 : Int32), [], []),
  (120, 121, .iadd, .null, [], []),
  (121, 122, .iaload, .null, [], []),
  (122, 123, .aload 0, .null, [], []),
  (123, 124, .iload 3, .null, [], []),
  (124, 125, .nop, .int (2 : Int32), [], []),
  (125, 126, .iadd, .null, [], []),
  (126, 127, .iaload, .null, [], []),
  (127, 128, .aload 0, .null, [], []),
  (128, 129, .iload 3, .null, [], []),
  (129, 130, .nop, .int (3 : Int32), [], []),
  (130, 131, .iadd, .null, [], []),
  (131, 132, .iaload, .null, [], []),
  (132, 135, .invokestatic 0, .null, [], [10, 4, 1]),
  (135, 136, .aload 2, .null, [], []),
  (136, 137, .aload 0, .null, [], []),
  (137, 138, .iload 3, .null, [], []),
  (138, 139, .nop, .int (1 : Int32), [], []),
  (139, 140, .iadd, .null, [], []),
  (140, 141, .iaload, .null, [], []),
  (141, 142, .aload 0, .null, [], []),
  (142, 143, .iload 3, .null, [], []),
  (143, 144, .nop, .int (2 : Int32), [], []),
  (144, 145, .iadd, .null, [], []),
  (145, 146, .iaload, .null, [], []),
  (146, 147, .aload 0, .null, [], []),
  (147, 148, .iload 3, .null, [], []),
  (148, 149, .nop, .int (3 : Int32), [], []),
  (149, 150, .iadd, .null, [], []),
  (150, 151, .iaload, .null, [], []),
  (151, 154, .invokestatic 0, .null, [], [118, 4, 1]),
  (154, 157, .if_icmp .eq 0, .null, [], [667]),
  (157, 158, .nop, .int (0 : Int32), [], []),
  (158, 159, .ireturn, .null, [], [1]),
  (159, 160, .aload 1, .null, [], []),
  (160, 161, .aload 0, .null, [], []),
  (161, 162, .iload 3, .null, [], []),
  (162, 163, .nop, .int (1 : Int32), [], []),
  (163, 164, .iadd, .null, [], []),
  (164, 165, .iaload, .null, [], []),
  (165, 166, .aload 0, .null, [], []),
  (166, 167, .iload 3, .null, [], []),
  (167, 168, .nop, .int (2 : Int32), [], []),
  (168, 169, .iadd, .null, [], []),
  (169, 170, .iaload, .null, [], []),
  (170, 173, .invokestatic 0, .null, [], [11, 3, 1]),
  (173, 174, .aload 2, .null, [], []),
  (174, 175, .aload 0, .null, [], []),
  (175, 176, .iload 3, .null, [], []),
  (176, 177, .nop, .int (1 : Int32), [], []),
  (177, 178, .iadd, .null, [], []),
  (178, 179, .iaload, .null, [], []),
  (179, 180, .aload 0, .null, [], []),
  (180, 181, .iload 3, .null, [], []),
  (181, 182, .nop, .int (2 : Int32), [], []),
  (182, 183, .iadd, .null, [], []),
  (183, 184, .iaload, .null, [], []),
  (184, 187, .invokestatic 0, .null, [], [119, 3, 1]),
  (187, 190, .if_icmp .eq 0, .null, [], [667]),
  (190, 191, .nop, .int (0 : Int32), [], []),
  (191, 192, .ireturn, .null, [], [1]),
  (192, 193, .aload 1, .null, [], []),
  (193, 194, .aload 0, .null, [], []),
  (194, 195, .iload 3, .null, [], []),
  (195, 196, .nop, .int (1 : Int32), [], []),
  (196, 197, .iadd, .null, [], []),
  (197, 198, .iaload, .null, [], []),
  (198, 199, .aload 0, .null, [], []),
  (199, 200, .iload 3, .null, [], []),
  (200, 201, .nop, .int (2 : Int32), [], []),
  (201, 202, .iadd, .null, [], []),
  (202, 203, .iaload, .null, [], []),
  (203, 204, .aload 0, .null, [], []),
  (204, 205, .iload 3, .null, [], []),
  (205, 206, .nop, .int (3 : Int32), [], []),
  (206, 207, .iadd, .null, [], []),
  (207, 208, .iaload, .null, [], []),
  (208, 211, .invokestatic 0, .null, [], [16, 4, 1]),
  (211, 212, .aload 2, .null, [], []),
  (212, 213, .aload 0, .null, [], []),
  (213, 214, .iload 3, .null, [], []),
  (214, 215, .nop, .int (1 : Int32), [], []),
  (215, 216, .iadd, .null, [], []),
  (216, 217, .iaload, .null, [], []),
  (217, 218, .aload 0, .null, [], []),
  (218, 219, .iload 3, .null, [], []),
  (219, 220, .nop, .int (2 : Int32), [], []),
  (220, 221, .iadd, .null, [], []),
  (221, 222, .iaload, .null, [], []),
  (222, 223, .aload 0, .null, [], []),
  (223, 224, .iload 3, .null, [], []),
  (224, 225, .nop, .int (3 : Int32), [], []),
  (225, 226, .iadd, .null, [], []),
  (226, 227, .iaload, .null, [], []),
  (227, 230, .invokestatic 0, .null, [], [122, 4, 1]),
  (230, 233, .if_icmp .eq 0, .null, [], [667]),
  (233, 234, .nop, .int (0 : Int32), [], []),
  (234, 235, .ireturn, .null, [], [1]),
  (235, 236, .aload 1, .null, [], []),
  (236, 237, .aload 0, .null, [], []),
  (237, 238, .iload 3, .null, [], []),
  (238, 239, .nop, .int (1 : Int32), [], []),
  (239, 240, .iadd, .null, [], []),
  (240, 241, .iaload, .null, [], []),
  (241, 242, .aload 0, .null, [], []),
  (242, 243, .iload 3, .null, [], []),
  (243, 244, .nop, .int (2 : Int32), [], []),
  (244, 245, .iadd, .null, [], []),
  (245, 246, .iaload, .null, [], []),
  (246, 247, .aload 0, .null, [], []),
  (247, 248, .iload 3, .null, [], []),
  (248, 249, .nop, .int (3 : Int32), [], []),
  (249, 250, .iadd, .null, [], []),
  (250, 251, .iaload, .null, [], []),
  (251, 254, .invokestatic 0, .null, [], [18, 4, 1]),
  (254, 255, .aload 2, .null, [], []),
  (255, 256, .aload 0, .null, [], []),
  (256, 257, .iload 3, .null, [], []),
  (257, 258, .nop, .int (1 : Int32), [], []),
  (258, 259, .iadd, .null, [], []),
  (259, 260, .iaload, .null, [], []),
  (260, 261, .aload 0, .null, [], []),
  (261, 262, .iload 3, .null, [], []),
  (262, 263, .nop, .int (2 : Int32), [], []),
  (263, 264, .iadd, .null, [], []),
  (264, 265, .iaload, .null, [], []),
  (265, 266, .aload 0, .null, [], []),
  (266, 267, .iload 3, .null, [], []),
  (267, 268, .nop, .int (3 : Int32), [], []),
  (268, 269, .iadd, .null, [], []),
  (269, 270, .iaload, .null, [], []),
  (270, 273, .invokestatic 0, .null, [], [123, 4, 1]),
  (273, 276, .if_icmp .eq 0, .null, [], [667]),
  (276, 277, .nop, .int (0 : Int32), [], []),
  (277, 278, .ireturn, .null, [], [1]),
  (278, 279, .aload 1, .null, [], []),
  (279, 280, .aload 0, .null, [], []),
  (280, 281, .iload 3, .null, [], []),
  (281, 282, .nop, .int (1 : Int32), [], []),
  (282, 283, .iadd, .null, [], []),
  (283, 284, .iaload, .null, [], []),
  (284, 285, .aload 0, .null, [], []),
  (285, 286, .iload 3, .null, [], []),
  (286, 287, .nop, .int (2 : Int32), [], []),
  (287, 288, .iadd, .null, [], []),
  (288, 289, .iaload, .null, [], []),
  (289, 290, .aload 0, .null, [], []),
  (290, 291, .iload 3, .null, [], []),
  (291, 292, .nop, .int (3 : Int32), [], []),
  (292, 293, .iadd, .null, [], []),
  (293, 294, .iaload, .null, [], []),
  (294, 297, .invokestatic 0, .null, [], [23, 4, 1]),
  (297, 298, .aload 2, .null, [], []),
  (298, 299, .aload 0, .null, [], []),
  (299, 300, .iload 3, .null, [], []),
  (300, 301, .nop, .int (1 : Int32), [], []),
  (301, 302, .iadd, .null, [], []),
  (302, 303, .iaload, .null, [], []),
  (303, 304, .aload 0, .null, [], []),
  (304, 305, .iload 3, .null, [], []),
  (305, 306, .nop, .int (2 : Int32), [], []),
  (306, 307, .iadd, .null, [], []),
  (307, 308, .iaload, .null, [], []),
  (308, 309, .aload 0, .null, [], []),
  (309, 310, .iload 3, .null, [], []),
  (310, 311, .nop, .int (3 : Int32), [], []),
  (311, 312, .iadd, .null, [], []),
  (312, 313, .iaload, .null, [], []),
  (313, 316, .invokestatic 0, .null, [], [124, 4, 1]),
  (316, 319, .if_icmp .eq 0, .null, [], [667]),
  (319, 320, .nop, .int (0 : Int32), [], []),
  (320, 321, .ireturn, .null, [], [1]),
  (321, 322, .aload 1, .null, [], []),
  (322, 323, .aload 0, .null, [], []),
  (323, 324, .iload 3, .null, [], []),
  (324, 325, .nop, .int (1 : Int32), [], []),
  (325, 326, .iadd, .null, [], []),
  (326, 327, .iaload, .null, [], []),
  (327, 328, .aload 0, .null, [], []),
  (328, 329, .iload 3, .null, [], []),
  (329, 330, .nop, .int (2 : Int32), [], []),
  (330, 331, .iadd, .null, [], []),
  (331, 332, .iaload, .null, [], []),
  (332, 333, .aload 0, .null, [], []),
  (333, 334, .iload 3, .null, [], []),
  (334, 335, .nop, .int (3 : Int32), [], []),
  (335, 336, .iadd, .null, [], []),
  (336, 337, .iaload, .null, [], []),
  (337, 338, .aload 0, .null, [], []),
  (338, 339, .iload 3, .null, [], []),
  (339, 340, .nop, .int (4 : Int32), [], []),
  (340, 341, .iadd, .null, [], []),
  (341, 342, .iaload, .null, [], []),
  (342, 345, .invokestatic 0, .null, [], [36, 5, 1]),
  (345, 346, .aload 2, .null, [], []),
  (346, 347, .aload 0, .null, [], []),
  (347, 348, .iload 3, .null, [], []),
  (348, 349, .nop, .int (1 : Int32), [], []),
  (349, 350, .iadd, .null, [], []),
  (350, 351, .iaload, .null, [], []),
  (351, 352, .aload 0, .null, [], []),
  (352, 353, .iload 3, .null, [], []),
  (353, 354, .nop, .int (2 : Int32), [], []),
  (354, 355, .iadd, .null, [], []),
  (355, 356, .iaload, .null, [], []),
  (356, 357, .aload 0, .null, [], []),
  (357, 358, .iload 3, .null, [], []),
  (358, 359, .nop, .int (3 : Int32), [], []),
  (359, 360, .iadd, .null, [], []),
  (360, 361, .iaload, .null, [], []),
  (361, 362, .aload 0, .null, [], []),
  (362, 363, .iload 3, .null, [], []),
  (363, 364, .nop, .int (4 : Int32), [], []),
  (364, 365, .iadd, .null, [], []),
  (365, 366, .iaload, .null, [], []),
  (366, 369, .invokestatic 0, .null, [], [125, 5, 1]),
  (369, 372, .if_icmp .eq 0, .null, [], [667]),
  (372, 373, .nop, .int (0 : Int32), [], []),
  (373, 374, .ireturn, .null, [], [1]),
  (374, 375, .aload 1, .null, [], []),
  (375, 376, .aload 0, .null, [], []),
  (376, 377, .iload 3, .null, [], []),
  (377, 378, .nop, .int (1 : Int32), [], []),
  (378, 379, .iadd, .null, [], []),
  (379, 380, .iaload, .null, [], []),
  (380, 381, .aload 0, .null, [], []),
  (381, 382, .iload 3, .null, [], []),
  (382, 383, .nop, .int (2 : Int32), [], []),
  (383, 384, .iadd, .null, [], []),
  (384, 385, .iaload, .null, [], []),
  (385, 386, .aload 0, .null, [], []),
  (386, 387, .iload 3, .null, [], []),
  (387, 388, .nop, .int (3 : Int32), [], []),
  (388, 389, .iadd, .null, [], []),
  (389, 390, .iaload, .null, [], []),
  (390, 391, .aload 0, .null, [], []),
  (391, 392, .iload 3, .null, [], []),
  (392, 393, .nop, .int (4 : Int32), [], []),
  (393, 394, .iadd, .null, [], []),
  (394, 395, .iaload, .null, [], []),
  (395, 398, .invokestatic 0, .null, [], [39, 5, 1]),
  (398, 399, .aload 2, .null, [], []),
  (399, 400, .aload 0, .null, [], []),
  (400, 401, .iload 3, .null, [], []),
  (401, 402, .nop, .int (1 : Int32), [], []),
  (402, 403, .iadd, .null, [], []),
  (403, 404, .iaload, .null, [], []),
  (404, 405, .aload 0, .null, [], []),
  (405, 406, .iload 3, .null, [], []),
  (406, 407, .nop, .int (2 : Int32), [], []),
  (407, 408, .iadd, .null, [], []),
  (408, 409, .iaload, .null, [], []),
  (409, 410, .aload 0, .null, [], []),
  (410, 411, .iload 3, .null, [], []),
  (411, 412, .nop, .int (3 : Int32), [], []),
  (412, 413, .iadd, .null, [], []),
  (413, 414, .iaload, .null, [], []),
  (414, 415, .aload 0, .null, [], []),
  (415, 416, .iload 3, .null, [], []),
  (416, 417, .nop, .int (4 : Int32), [], []),
  (417, 418, .iadd, .null, [], []),
  (418, 419, .iaload, .null, [], []),
  (419, 422, .invokestatic 0, .null, [], [126, 5, 1]),
  (422, 425, .if_icmp .eq 0, .null, [], [667]),
  (425, 426, .nop, .int (0 : Int32), [], []),
  (426, 427, .ireturn, .null, [], [1]),
  (427, 428, .aload 1, .null, [], []),
  (428, 429, .aload 0, .null, [], []),
  (429, 430, .iload 3, .null, [], []),
  (430, 431, .nop, .int (1 : Int32), [], []),
  (431, 432, .iadd, .null, [], []),
  (432, 433, .iaload, .null, [], []),
  (433, 434, .aload 0, .null, [], []),
  (434, 435, .iload 3, .null, [], []),
  (435, 436, .nop, .int (2 : Int32), [], []),
  (436, 437, .iadd, .null, [], []),
  (437, 438, .iaload, .null, [], []),
  (438, 439, .aload 0, .null, [], []),
  (439, 440, .iload 3, .null, [], []),
  (440, 441, .nop, .int (3 : Int32), [], []),
  (441, 442, .iadd, .null, [], []),
  (442, 443, .iaload, .null, [], []),
  (443, 446, .invokestatic 0, .null, [], [41, 4, 1]),
  (446, 447, .aload 2, .null, [], []),
  (447, 448, .aload 0, .null, [], []),
  (448, 449, .iload 3, .null, [], []),
  (449, 450, .nop, .int (1 : Int32), [], []),
  (450, 451, .iadd, .null, [], []),
  (451, 452, .iaload, .null, [], []),
  (452, 453, .aload 0, .null, [], []),
  (453, 454, .iload 3, .null, [], []),
  (454, 455, .nop, .int (2 : Int32), [], []),
  (455, 456, .iadd, .null, [], []),
  (456, 457, .iaload, .null, [], []),
  (457, 458, .aload 0, .null, [], []),
  (458, 459, .iload 3, .null, [], []),
  (459, 460, .nop, .int (3 : Int32), [], []),
  (460, 461, .iadd, .null, [], []),
  (461, 462, .iaload, .null, [], []),
  (462, 465, .invokestatic 0, .null, [], [127, 4, 1]),
  (465, 468, .if_icmp .eq 0, .null, [], [667]),
  (468, 469, .nop, .int (0 : Int32), [], []),
  (469, 470, .ireturn, .null, [], [1]),
  (470, 471, .aload 1, .null, [], []),
  (471, 472, .aload 0, .null, [], []),
  (472, 473, .iload 3, .null, [], []),
  (473, 474, .nop, .int (1 : Int32), [], []),
  (474, 475, .iadd, .null, [], []),
  (475, 476, .iaload, .null, [], []),
  (476, 477, .aload 0, .null, [], []),
  (477, 478, .iload 3, .null, [], []),
  (478, 479, .nop, .int (2 : Int32), [], []),
  (479, 480, .iadd, .null, [], []),
  (480, 481, .iaload, .null, [], []),
  (481, 484, .invokestatic 0, .null, [], [43, 3, 1]),
  (484, 485, .aload 2, .null, [], []),
  (485, 486, .aload 0, .null, [], []),
  (486, 487, .iload 3, .null, [], []),
  (487, 488, .nop, .int (1 : Int32), [], []),
  (488, 489, .iadd, .null, [], []),
  (489, 490, .iaload, .null, [], []),
  (490, 491, .aload 0, .null, [], []),
  (491, 492, .iload 3, .null, [], []),
  (492, 493, .nop, .int (2 : Int32), [], []),
  (493, 494, .iadd, .null, [], []),
  (494, 495, .iaload, .null, [], []),
  (495, 498, .invokestatic 0, .null, [], [128, 3, 1]),
  (498, 501, .if_icmp .eq 0, .null, [], [667]),
  (501, 502, .nop, .int (0 : Int32), [], []),
  (502, 503, .ireturn, .null, [], [1]),
  (503, 504, .aload 1, .null, [], []),
  (504, 505, .aload 0, .null, [], []),
  (505, 506, .iload 3, .null, [], []),
  (506, 507, .nop, .int (1 : Int32), [], []),
  (507, 508, .iadd, .null, [], []),
  (508, 509, .iaload, .null, [], []),
  (509, 512, .invokestatic 0, .null, [], [46, 2, 1]),
  (512, 513, .aload 2, .null, [], []),
  (513, 514, .aload 0, .null, [], []),
  (514, 515, .iload 3, .null, [], []),
  (515, 516, .nop, .int (1 : Int32), [], []),
  (516, 517, .iadd, .null, [], []),
  (517, 518, .iaload, .null, [], []),
  (518, 521, .invokestatic 0, .null, [], [129, 2, 1]),
  (521, 524, .if_icmp .eq 0, .null, [], [667]),
  (524, 525, .nop, .int (0 : Int32), [], []),
  (525, 526, .ireturn, .null, [], [1]),
  (526, 527, .aload 1, .null, [], []),
  (527, 528, .aload 0, .null, [], []),
  (528, 529, .iload 3, .null, [], []),
  (529, 530, .nop, .int (1 : Int32), [], []),
  (530, 531, .iadd, .null, [], []),
  (531, 532, .iaload, .null, [], []),
  (532, 535, .invokestatic 0, .null, [], [48, 2, 1]),
  (535, 536, .aload 2, .null, [], []),
  (536, 537, .aload 0, .null, [], []),
  (537, 538, .iload 3, .null, [], []),
  (538, 539, .nop, .int (1 : Int32), [], []),
  (539, 540, .iadd, .null, [], []),
  (540, 541, .iaload, .null, [], []),
  (541, 544, .invokestatic 0, .null, [], [130, 2, 1]),
  (544, 547, .if_icmp .eq 0, .null, [], [667]),
  (547, 548, .nop, .int (0 : Int32), [], []),
  (548, 549, .ireturn, .null, [], [1]),
  (549, 550, .aload 1, .null, [], []),
  (550, 553, .invokestatic 0, .null, [], [49, 1, 1]),
  (553, 554, .aload 2, .null, [], []),
  (554, 557, .invokestatic 0, .null, [], [131, 1, 1]),
  (557, 560, .if_icmp .eq 0, .null, [], [667]),
  (560, 561, .nop, .int (0 : Int32), [], []),
  (561, 562, .ireturn, .null, [], [1]),
  (562, 563, .aload 1, .null, [], []),
  (563, 564, .aload 0, .null, [], []),
  (564, 565, .iload 3, .null, [], []),
  (565, 566, .nop, .int (1 : Int32), [], []),
  (566, 567, .iadd, .null, [], []),
  (567, 568, .iaload, .null, [], []),
  (568, 571, .invokestatic 0, .null, [], [50, 2, 1]),
  (571, 572, .aload 2, .null, [], []),
  (572, 573, .aload 0, .null, [], []),
  (573, 574, .iload 3, .null, [], []),
  (574, 575, .nop, .int (1 : Int32), [], []),
  (575, 576, .iadd, .null, [], []),
  (576, 577, .iaload, .null, [], []),
  (577, 580, .invokestatic 0, .null, [], [132, 2, 1]),
  (580, 583, .if_icmp .eq 0, .null, [], [667]),
  (583, 584, .nop, .int (0 : Int32), [], []),
  (584, 585, .ireturn, .null, [], [1]),
  (585, 586, .aload 1, .null, [], []),
  (586, 589, .invokestatic 0, .null, [], [80, 1, 1]),
  (589, 590, .aload 2, .null, [], []),
  (590, 593, .invokestatic 0, .null, [], [147, 1, 1]),
  (593, 596, .if_icmp .eq 0, .null, [], [667]),
  (596, 597, .nop, .int (0 : Int32), [], []),
  (597, 598, .ireturn, .null, [], [1]),
  (598, 599, .aload 1, .null, [], []),
  (599, 602, .invokestatic 0, .null, [], [81, 1, 1]),
  (602, 603, .aload 2, .null, [], []),
  (603, 606, .invokestatic 0, .null, [], [148, 1, 1]),
  (606, 609, .if_icmp .eq 0, .null, [], [667]),
  (609, 610, .nop, .int (0 : Int32), [], []),
  (610, 611, .ireturn, .null, [], [1]),
  (611, 612, .aload 1, .null, [], []),
  (612, 613, .aload 0, .null, [], []),
  (613, 614, .iload 3, .null, [], []),
  (614, 615, .nop, .int (1 : Int32), [], []),
  (615, 616, .iadd, .null, [], []),
  (616, 617, .iaload, .null, [], []),
  (617, 618, .aload 0, .null, [], []),
  (618, 619, .iload 3, .null, [], []),
  (619, 620, .nop, .int (2 : Int32), [], []),
  (620, 621, .iadd, .null, [], []),
  (621, 622, .iaload, .null, [], []),
  (622, 625, .invokestatic 0, .null, [], [82, 3, 1]),
  (625, 626, .aload 2, .null, [], []),
  (626, 627, .aload 0, .null, [], []),
  (627, 628, .iload 3, .null, [], []),
  (628, 629, .nop, .int (1 : Int32), [], []),
  (629, 630, .iadd, .null, [], []),
  (630, 631, .iaload, .null, [], []),
  (631, 632, .aload 0, .null, [], []),
  (632, 633, .iload 3, .null, [], []),
  (633, 634, .nop, .int (2 : Int32), [], []),
  (634, 635, .iadd, .null, [], []),
  (635, 636, .iaload, .null, [], []),
  (636, 639, .invokestatic 0, .null, [], [149, 3, 1]),
  (639, 642, .if_icmp .eq 0, .null, [], [667]),
  (642, 643, .nop, .int (0 : Int32), [], []),
  (643, 644, .ireturn, .null, [], [1]),
  (644, 645, .aload 1, .null, [], []),
  (645, 646, .aload 0, .null, [], []),
  (646, 647, .iload 3, .null, [], []),
  (647, 648, .nop, .int (1 : Int32), [], []),
  (648, 649, .iadd, .null, [], []),
  (649, 650, .iaload, .null, [], []),
  (650, 653, .invokestatic 0, .null, [], [98, 2, 1]),
  (653, 654, .aload 2, .null, [], []),
  (654, 655, .aload 0, .null, [], []),
  (655, 656, .iload 3, .null, [], []),
  (656, 657, .nop, .int (1 : Int32), [], []),
  (657, 658, .iadd, .null, [], []),
  (658, 659, .iaload, .null, [], []),
  (659, 662, .invokestatic 0, .null, [], [159, 2, 1]),
  (662, 665, .if_icmp .eq 0, .null, [], [667]),
  (665, 666, .nop, .int (0 : Int32), [], []),
  (666, 667, .ireturn, .null, [], [1]),
  (667, 670, .iinc 3 0, .int (5 : Int32), [], []),
  (670, 673, .goto 0, .null, [], [18]),
  (673, 674, .nop, .int (1 : Int32), [], []),
  (674, 675, .ireturn, .null, [], [1])]
def zh_160 : List (Nat × List Nat) := [(18, [0, 1, 2, 3]), (667, [0, 1, 2, 3])]
def zo_all : List (List (Nat × Nat × dzOp)) := [zo_0, zo_1, zo_2, zo_3, zo_4, zo_5, zo_6, zo_7, zo_8, zo_9, zo_10, zo_11, zo_12, zo_13, zo_14, zo_15, zo_16, zo_17, zo_18, zo_19, zo_20, zo_21, zo_22, zo_23, zo_24, zo_25, zo_26, zo_27, zo_28, zo_29, zo_30, zo_31, zo_32, zo_33, zo_34, zo_35, zo_36, zo_37, zo_38, zo_39, zo_40, zo_41, zo_42, zo_43, zo_44, zo_45, zo_46, zo_47, zo_48, zo_49, zo_50, zo_51, zo_52, zo_53, zo_54, zo_55, zo_56, zo_57, zo_58, zo_59, zo_60, zo_61, zo_62, zo_63, zo_64, zo_65, zo_66, zo_67, zo_68, zo_69, zo_70, zo_71, zo_72, zo_73, zo_74, zo_75, zo_76, zo_77, zo_78, zo_79, zo_80, zo_81, zo_82, zo_83, zo_84, zo_85, zo_86, zo_87, zo_88, zo_89, zo_90, zo_91, zo_92, zo_93, zo_94, zo_95, zo_96, zo_97, zo_98, zo_99, zo_100, zo_101, zo_102, zo_103, zo_104, zo_105, zo_106, zo_107, zo_108, zo_109, zo_110, zo_111, zo_112, zo_113, zo_114, zo_115, zo_116, zo_117, zo_118, zo_119, zo_120, zo_121, zo_122, zo_123, zo_124, zo_125, zo_126, zo_127, zo_128, zo_129, zo_130, zo_131, zo_132, zo_133, zo_134, zo_135, zo_136, zo_137, zo_138, zo_139, zo_140, zo_141, zo_142, zo_143, zo_144, zo_145, zo_146, zo_147, zo_148, zo_149, zo_150, zo_151, zo_152, zo_153, zo_154, zo_155, zo_156, zo_157, zo_158, zo_159, zo_160]
def zh_all : List (List (Nat × List Nat)) := [zh_0, zh_1, zh_2, zh_3, zh_4, zh_5, zh_6, zh_7, zh_8, zh_9, zh_10, zh_11, zh_12, zh_13, zh_14, zh_15, zh_16, zh_17, zh_18, zh_19, zh_20, zh_21, zh_22, zh_23, zh_24, zh_25, zh_26, zh_27, zh_28, zh_29, zh_30, zh_31, zh_32, zh_33, zh_34, zh_35, zh_36, zh_37, zh_38, zh_39, zh_40, zh_41, zh_42, zh_43, zh_44, zh_45, zh_46, zh_47, zh_48, zh_49, zh_50, zh_51, zh_52, zh_53, zh_54, zh_55, zh_56, zh_57, zh_58, zh_59, zh_60, zh_61, zh_62, zh_63, zh_64, zh_65, zh_66, zh_67, zh_68, zh_69, zh_70, zh_71, zh_72, zh_73, zh_74, zh_75, zh_76, zh_77, zh_78, zh_79, zh_80, zh_81, zh_82, zh_83, zh_84, zh_85, zh_86, zh_87, zh_88, zh_89, zh_90, zh_91, zh_92, zh_93, zh_94, zh_95, zh_96, zh_97, zh_98, zh_99, zh_100, zh_101, zh_102, zh_103, zh_104, zh_105, zh_106, zh_107, zh_108, zh_109, zh_110, zh_111, zh_112, zh_113, zh_114, zh_115, zh_116, zh_117, zh_118, zh_119, zh_120, zh_121, zh_122, zh_123, zh_124, zh_125, zh_126, zh_127, zh_128, zh_129, zh_130, zh_131, zh_132, zh_133, zh_134, zh_135, zh_136, zh_137, zh_138, zh_139, zh_140, zh_141, zh_142, zh_143, zh_144, zh_145, zh_146, zh_147, zh_148, zh_149, zh_150, zh_151, zh_152, zh_153, zh_154, zh_155, zh_156, zh_157, zh_158, zh_159, zh_160]
def zt_rcv : List (Option Nat) := [some 6, some 7, some 4, some 8, some 3, some 2, some 5, some 0, none, none, some 0, some 0, none, none, none, some 0, some 0, none, some 0, none, none, some 6, some 6, some 0, none, none, some 6, some 6, some 6, none, some 6, some 6, some 6, some 6, some 6, some 6, some 0, none, some 6, some 0, some 6, some 0, none, some 0, some 7, some 7, some 0, some 4, some 0, some 0, some 0, some 4, some 2, some 2, none, some 2, some 2, none, some 2, none, some 2, some 2, some 2, some 2, some 2, some 2, some 8, some 2, some 6, some 6, some 2, none, some 8, some 8, some 2, some 2, some 8, some 2, some 4, some 2, some 0, some 0, some 0, some 4, some 5, some 5, some 5, some 5, some 5, some 5, some 5, some 5, some 5, some 5, some 5, some 5, some 5, some 5, some 0, some 1, some 1, some 1, some 1, some 1, some 1, some 1, some 1, some 1, some 1, some 1, some 1, some 1, some 1, some 1, some 1, some 1, some 1, none, some 1, some 1, none, some 1, some 1, some 1, some 1, some 1, some 1, some 1, some 1, some 1, some 1, some 1, some 1, some 1, some 1, some 1, some 1, none, some 1, some 1, some 1, some 1, some 1, some 1, some 1, some 1, some 1, some 1, some 1, some 1, some 1, some 1, some 1, some 1, some 1, some 1, some 1, some 1, some 1, some 1, none]
def zt_mc : List Nat := [7, 1, 202, 6, 3, 5, 8, 246, 0, 0, 0, 0, 0, 0, 0, 0, 0, 0, 0, 0, 0, 0, 0, 0, 0, 0, 0, 0, 0, 0, 0, 0, 0, 0, 0, 0, 0, 0, 0, 0, 0, 0, 0, 0, 0, 0, 0, 0, 0, 0, 0, 0, 0, 0, 0, 0, 0, 0, 0, 0, 0, 0, 0, 0, 0, 0, 0, 0, 0, 0, 0, 0, 0, 0, 0, 0, 0, 0, 0, 0, 0, 0, 0, 0, 0, 0, 0, 0, 0, 0, 0, 0, 0, 0, 0, 0, 0, 0, 0, 0, 5, 0, 0, 0, 0, 0, 0, 0, 0, 0, 0, 0, 0, 0, 0, 0, 0, 0, 0, 0, 0, 0, 0, 0, 0, 0, 0, 0, 0, 0, 0, 0, 0, 0, 0, 0, 0, 0, 0, 0, 0, 0, 0, 0, 0, 0, 0, 0, 0, 0, 0, 0, 0, 0, 0, 0, 0, 0, 0, 0, 600000]
def zt_ms : List Nat := [74, 4000, 2000, 48, 120, 132, 156, 6544, 0, 0, 0, 0, 0, 0, 0, 0, 0, 0, 0, 0, 0, 0, 0, 0, 0, 0, 0, 0, 0, 0, 0, 0, 0, 0, 0, 0, 0, 0, 0, 0, 0, 0, 0, 0, 0, 0, 0, 0, 0, 0, 0, 0, 0, 0, 0, 0, 0, 0, 0, 0, 0, 0, 0, 0, 0, 0, 0, 0, 0, 0, 0, 0, 0, 0, 0, 0, 0, 0, 0, 0, 0, 0, 0, 0, 0, 0, 0, 0, 0, 0, 0, 0, 0, 0, 0, 0, 0, 0, 0, 0, 13400, 0, 0, 0, 0, 0, 0, 0, 0, 0, 0, 0, 0, 0, 0, 0, 0, 0, 0, 0, 0, 0, 0, 0, 0, 0, 0, 0, 0, 0, 0, 0, 0, 0, 0, 0, 0, 0, 0, 0, 0, 0, 0, 0, 0, 0, 0, 0, 0, 0, 0, 0, 0, 0, 0, 0, 0, 0, 0, 0, 7302250]
def zt_fr : List Nat := [1, 1, 1, 1, 1, 2, 2, 3, 0, 0, 1, 1, 1, 0, 1, 2, 3, 0, 3, 0, 0, 1, 2, 3, 1, 0, 0, 1, 2, 0, 1, 0, 0, 0, 2, 3, 4, 1, 3, 4, 3, 4, 0, 1, 0, 0, 1, 0, 1, 0, 0, 0, 0, 1, 0, 1, 2, 1, 2, 2, 3, 0, 2, 2, 3, 4, 2, 3, 3, 2, 4, 1, 4, 4, 0, 5, 4, 5, 0, 6, 7, 0, 2, 1, 2, 1, 1, 4, 0, 1, 3, 5, 1, 4, 5, 5, 2, 6, 7, 0, 1, 0, 0, 0, 1, 0, 0, 1, 0, 0, 0, 1, 0, 2, 2, 1, 1, 0, 1, 1, 1, 2, 3, 3, 3, 2, 3, 3, 1, 0, 0, 0, 0, 0, 0, 1, 2, 0, 2, 3, 1, 3, 2, 3, 3, 4, 4, 5, 0, 1, 1, 1, 2, 1, 3, 4, 4, 1, 5, 6, 10]
def zt_lo : List Nat := [24, 24, 24, 24, 24, 44, 44, 68, 0, 0, 20, 20, 20, 0, 40, 61, 82, 0, 82, 0, 0, 23, 61, 84, 21, 0, 0, 26, 61, 0, 23, 0, 0, 0, 59, 83, 107, 23, 83, 108, 83, 107, 0, 22, 0, 0, 21, 0, 21, 0, 0, 0, 0, 22, 0, 22, 44, 21, 43, 42, 63, 0, 43, 43, 65, 87, 61, 84, 83, 53, 106, 21, 108, 108, 0, 130, 108, 130, 0, 152, 174, 0, 61, 22, 61, 20, 21, 107, 0, 22, 82, 130, 21, 107, 130, 130, 61, 153, 176, 0, 24, 0, 0, 0, 22, 0, 0, 24, 0, 0, 0, 30, 0, 59, 59, 22, 23, 0, 20, 20, 20, 43, 65, 65, 65, 59, 84, 82, 23, 0, 0, 0, 0, 0, 0, 22, 42, 0, 42, 65, 24, 65, 55, 84, 84, 106, 106, 129, 0, 23, 23, 24, 59, 23, 81, 106, 106, 23, 129, 150, 398]
def zt_mx : List Nat := [1, 1, 1, 2, 1, 5, 5, 2, 1, 1, 4, 3, 3, 6, 2, 2, 4, 6, 4, 2, 4, 11, 4, 4, 1, 2, 7, 2, 2, 4, 17, 11, 5, 6, 5, 5, 5, 2, 6, 5, 5, 4, 3, 3, 1, 2, 2, 2, 2, 1, 2, 1, 3, 1, 2, 2, 2, 2, 5, 2, 2, 2, 3, 2, 3, 3, 2, 3, 3, 3, 1, 1, 2, 3, 2, 2, 3, 3, 2, 3, 2, 1, 3, 3, 2, 3, 2, 4, 2, 4, 3, 4, 3, 1, 3, 4, 4, 4, 4, 5, 1, 4, 4, 3, 2, 6, 6, 12, 7, 11, 6, 10, 3, 6, 4, 2, 2, 1, 5, 3, 3, 3, 4, 4, 4, 5, 5, 4, 3, 2, 2, 1, 2, 3, 1, 1, 4, 3, 2, 5, 2, 5, 6, 1, 3, 4, 3, 2, 1, 3, 3, 2, 3, 6, 4, 4, 4, 6, 2, 6, 4]
def dzOps (mid : Nat) : List (Nat × Nat × dzOp) := zo_all.getD mid []
def dzHd (mid : Nat) : List (Nat × List Nat) := zh_all.getD mid []
def dzRcv (mid : Nat) : Option Nat := zt_rcv.getD mid none
def dzMc (mid : Nat) : Nat := zt_mc.getD mid 0
def dzMs (mid : Nat) : Nat := zt_ms.getD mid 0
def dzFr (mid : Nat) : Nat := zt_fr.getD mid 0
def dzLo (mid : Nat) : Nat := zt_lo.getD mid 0
def dzMx (mid : Nat) : Nat := zt_mx.getD mid 0
def dzFit (mid c : Nat) (u : Nat × Nat) : Bool := Nat.ble (dzFr c + 1) (dzFr mid) && Nat.ble (8 + (dzMx c + 11) + dzLo c) (dzLo mid) && Nat.ble (u.1 + dzMc c) (dzMc mid) && Nat.ble (u.2 + dzMs c) (dzMs mid)
def zt_def : List (List Value) := [[.null, .null, .null, .null, .null, .null, .null, .null], [.null, .null, .int 0, .int 0, .int 0, .int 0, .int 0, .int 0, .int 0, .null, .null, .null], [.null, .null, .null, .null, .null, .null, .int 0, .int 0, .int 0, .int 0, .int 0, .int 0, .int 0], [.null, .null, .null, .int 0], [.null, .null, .int 0, .int 0], [.null, .null, .null, .null, .null, .null, .null, .null, .null, .int 0, .int 0], [.null, .null, .null, .int 0, .int 0, .null, .null, .null, .null], [.null, .int 0], [.null, .null, .null, .null, .null, .null, .null]]
def dzDef (ci : Nat) : List Value := zt_def.getD ci []
end
section
/-! the deep interpreter: what a method's bytecode does, over an abstract heap (addresses to entries) -/
abbrev dzE : Type := (Nat × (Nat → Int32)) ⊕ ((Nat × (Nat → Option Nat)) ⊕ ((Nat × List Value) ⊕ (Nat × (Nat → Int32))))
abbrev dzH : Type := Nat × (Nat → Option dzE)
abbrev dzR : Type := Option Value × dzH
abbrev dzKt : Type := Nat → dzL → List Value → Nat × Nat → dzH → Option dzR
abbrev dzCt : Type := Nat → List Value → dzH → Option dzR
/-- an int row, a row of references, an object (its class's number, its fields), the script -/
abbrev eI (n : Nat) (f : Nat → Int32) : dzE := .inl (n, f)
abbrev eA (n : Nat) (f : Nat → Option Nat) : dzE := .inr (.inl (n, f))
abbrev eO (c : Nat) (fs : List Value) : dzE := .inr (.inr (.inl (c, fs)))
abbrev eX (n : Nat) (f : Nat → Int32) : dzE := .inr (.inr (.inr (n, f)))
-- operations that the machine has in its own way
def k_ishl (x y : Int32) : Int32 := x <<< (y &&& 31)
def k_ishr (x y : Int32) : Int32 := x >>> (y &&& 31)
def k_iushr (x y : Int32) : Int32 := (x.toUInt32 >>> (y.toUInt32 &&& Int32.toUInt32 31)).toInt32
def k_irem (x y : Int32) : Int32 := x - x / y * y
def k_lshl (x : Int64) (y : Int32) : Int64 := x <<< (y.toInt64 &&& 63)
def k_lshr (x : Int64) (y : Int32) : Int64 := x >>> (y.toInt64 &&& 63)
def k_lushr (x : Int64) (y : Int32) : Int64 := (x.toUInt64 >>> (y.toInt64.toUInt64 &&& Int64.toUInt64 63)).toInt64
def k_lrem (x y : Int64) : Int64 := x - x / y * y
def k_lcmp (x y : Int64) : Int32 := lg_cmp x y
def k_max (x y : Int32) : Int32 := if x < y then y else x
-- fields
def dgV (h : dzH) (a ci k : Nat) : Option Value := match h.2 a with
  | some (.inr (.inr (.inl (c, fs)))) => if c = ci then fs[k]? else none
  | _ => none
def dgI (h : dzH) (a ci k : Nat) : Option Int32 := match dgV h a ci k with
  | some (.int x) => some x
  | _ => none
def dgJ (h : dzH) (a ci k : Nat) : Option Int64 := match dgV h a ci k with
  | some (.long x) => some x
  | _ => none
def dgA (h : dzH) (a ci k : Nat) : Option Nat := match dgV h a ci k with
  | some (.ref x) => some x
  | _ => none
def dpF (h : dzH) (a ci k : Nat) (v : Value) : Option dzH := match h.2 a with
  | some (.inr (.inr (.inl (c, fs)))) => if c = ci ∧ k < fs.length then some (h.1, va_up h.2 a (some (eO c (fs.set k v)))) else none
  | _ => none
-- rows
def drI (h : dzH) (a : Nat) (i : Int32) : Option Int32 := match h.2 a with
  | some (.inl (n, f)) => if ¬ (i < 0 ∨ n ≤ i.toNatClampNeg) then some (f i.toNatClampNeg) else none
  | some (.inr (.inr (.inr (n, f)))) => if ¬ (i < 0 ∨ n ≤ i.toNatClampNeg) then some (f i.toNatClampNeg) else none
  | _ => none
def dwI (h : dzH) (a : Nat) (i x : Int32) : Option dzH := match h.2 a with
  | some (.inl (n, f)) => if ¬ (i < 0 ∨ n ≤ i.toNatClampNeg) then some (h.1, va_up h.2 a (some (eI n (upd f i.toNatClampNeg x)))) else none
  | _ => none
def drA (h : dzH) (a : Nat) (i : Int32) : Option Nat := match h.2 a with
  | some (.inr (.inl (n, f))) => if ¬ (i < 0 ∨ n ≤ i.toNatClampNeg) then f i.toNatClampNeg else none
  | _ => none
def dln (h : dzH) (a : Nat) : Option Int32 := match h.2 a with
  | some (.inl (n, _)) => some (Int32.ofNat n)
  | some (.inr (.inl (n, _))) => some (Int32.ofNat n)
  | some (.inr (.inr (.inr (n, _)))) => some (Int32.ofNat n)
  | _ => none
def dcp (h : dzH) (a : Nat) (sp : Int32) (b : Nat) (dp n : Int32) : Option dzH := match h.2 a, h.2 b with
  | some (.inl (n0, f)), some (.inl (n1, g)) =>
    if ¬ sp < 0 ∧ ¬ dp < 0 ∧ ¬ n < 0 ∧ sp.toNatClampNeg + n.toNatClampNeg ≤ n0 ∧ dp.toNatClampNeg + n.toNatClampNeg ≤ n1 then
      some (h.1, va_up h.2 b (some (eI n1 (va_cpy f g sp.toNatClampNeg dp.toNatClampNeg n.toNatClampNeg)))) else none
  | _, _ => none
-- new cells
def dnO (h : dzH) (ci : Nat) : dzH := (h.1 + 1, va_up h.2 h.1 (some (eO ci (dzDef ci))))
def dnI (h : dzH) (n : Int32) : Option dzH := if ¬ n < 0 ∧ n.toNatClampNeg ≤ 100000 then some (h.1 + 1, va_up h.2 h.1 (some (eI n.toNatClampNeg (fun _ => 0)))) else none
def dnM (h : dzH) (n m : Int32) : Option dzH :=
  if ¬ n < 0 ∧ ¬ m < 0 ∧ n.toNatClampNeg ≤ 1000 ∧ m.toNatClampNeg ≤ 1000 then
    some (h.1 + 1 + n.toNatClampNeg, fun q => if q = h.1 then some (eA n.toNatClampNeg (fun i => some (h.1 + 1 + i))) else if h.1 < q ∧ q ≤ h.1 + n.toNatClampNeg then some (eI m.toNatClampNeg (fun _ => 0)) else h.2 q)
  else none
-- locals
def dzLI (L : dzL) (i : Nat) : Option Int32 := match dzFnd L i with
  | some (.int x) => some x
  | _ => none
def dzLJ (L : dzL) (i : Nat) : Option Int64 := match dzFnd L i with
  | some (.long x) => some x
  | _ => none
def dzLA (L : dzL) (i : Nat) : Option Nat := match dzFnd L i with
  | some (.ref x) => some x
  | _ => none
def dzIn (i : Nat) (v : Value) : dzL → dzL
  | [] => [(i, v)]
  | (j, w) :: r => match Nat.ble i j with
    | true => (i, v) :: (j, w) :: r
    | false => (j, w) :: dzIn i v r
def dzP1 (L : dzL) (i : Nat) (v : Value) : dzL := dzIn i v (L.filter (fun q => !(q.1 == i) && !(q.1 + 1 == i && q.2.category == 2)))
def dzP2 (L : dzL) (i : Nat) (v : Value) : dzL := dzIn i v (L.filter (fun q => !(q.1 == i) && (!(q.1 == i + 1) && !(q.1 + 1 == i && q.2.category == 2))))
def dzRs (ks : List Nat) (L : dzL) : dzL := L.filter (fun q => dzMem ks q.1)
-- answers
def dzRI (o : Option dzR) : Option (Int32 × dzH) := match o with
  | some (some (.int x), h) => some (x, h)
  | _ => none
def dzRJ (o : Option dzR) : Option (Int64 × dzH) := match o with
  | some (some (.long x), h) => some (x, h)
  | _ => none
def dzRA (o : Option dzR) : Option (Nat × dzH) := match o with
  | some (some (.ref x), h) => some (x, h)
  | _ => none
def dzRV (o : Option dzR) : Option dzH := match o with
  | some (none, h) => some h
  | _ => none
def dzB01 (x : Int32) : Option Int32 := if x = 0 then some 0 else if x = 1 then some 1 else none
-- the operand stack
def dz1I (S : List Value) (k : Int32 → List Value → Option dzR) : Option dzR := match S with
  | .int x :: r => k x r
  | _ => none
def dz1J (S : List Value) (k : Int64 → List Value → Option dzR) : Option dzR := match S with
  | .long x :: r => k x r
  | _ => none
def dz1A (S : List Value) (k : Nat → List Value → Option dzR) : Option dzR := match S with
  | .ref x :: r => k x r
  | _ => none
def dz2I (S : List Value) (k : Int32 → Int32 → List Value → Option dzR) : Option dzR := match S with
  | .int y :: .int x :: r => k x y r
  | _ => none
def dz2J (S : List Value) (k : Int64 → Int64 → List Value → Option dzR) : Option dzR := match S with
  | .long y :: .long x :: r => k x y r
  | _ => none
def dzJI (S : List Value) (k : Int64 → Int32 → List Value → Option dzR) : Option dzR := match S with
  | .int y :: .long x :: r => k x y r
  | _ => none
def dzAI (S : List Value) (k : Nat → Int32 → List Value → Option dzR) : Option dzR := match S with
  | .int y :: .ref x :: r => k x y r
  | _ => none
def dzAII (S : List Value) (k : Nat → Int32 → Int32 → List Value → Option dzR) : Option dzR := match S with
  | .int z :: .int y :: .ref x :: r => k x y z r
  | _ => none
def dzAV (S : List Value) (k : Nat → Value → List Value → Option dzR) : Option dzR := match S with
  | v :: .ref x :: r => k x v r
  | _ => none
def dzTk : Nat → List Value → List Value → Option (List Value × List Value)
  | 0, acc, S => some (acc, S)
  | _ + 1, _, [] => none
  | n + 1, acc, v :: S => dzTk n (v :: acc) S
def dzSw (x : Int32) (k : Nat → Option dzR) : List (Int32 × Nat) → Nat → Option dzR
  | [], d => k d
  | (c, t) :: r, d => if x = c then k t else dzSw x k r d
def dzPl (pl : List Nat) (k : Nat) : Nat := pl.getD k 0
/-- the value's kind: 1 int, 2 long, 3 reference -/
def dzKd (v : Value) : Nat := match v with
  | .int _ => 1
  | .long _ => 2
  | .ref _ => 3
  | _ => 0
/-- one instruction; K: what comes behind it; C: a call -/
def dz1 (mid : Nat) (K : dzKt) (C : dzCt) (nx : Nat) (L : dzL) (S : List Value) (u : Nat × Nat) (h : dzH) (i : dzIns) (v : Value) (sw : List (Int32 × Nat)) (pl : List Nat) : Option dzR :=
  match i with
  | .nop => K nx L (v :: S) u h
  | .iload j => (dzLI L j).bind fun x => K nx L (.int x :: S) u h
  | .lload j => (dzLJ L j).bind fun x => K nx L (.long x :: S) u h
  | .aload j => (dzLA L j).bind fun x => K nx L (.ref x :: S) u h
  | .istore j => dz1I S fun x r => K nx (dzP1 L j (.int x)) r u h
  | .lstore j => dz1J S fun x r => K nx (dzP2 L j (.long x)) r u h
  | .astore j => dz1A S fun x r => K nx (dzP1 L j (.ref x)) r u h
  | .iinc j _ => (dzLI L j).bind fun x => match v with
    | .int c => K nx (dzP1 L j (.int (x + c))) S u h
    | _ => none
  | .iadd => dz2I S fun x y r => K nx L (.int (x + y) :: r) u h
  | .isub => dz2I S fun x y r => K nx L (.int (x - y) :: r) u h
  | .imul => dz2I S fun x y r => K nx L (.int (x * y) :: r) u h
  | .iand => dz2I S fun x y r => K nx L (.int (x &&& y) :: r) u h
  | .ior => dz2I S fun x y r => K nx L (.int (x ||| y) :: r) u h
  | .ixor => dz2I S fun x y r => K nx L (.int (x ^^^ y) :: r) u h
  | .ishl => dz2I S fun x y r => K nx L (.int (k_ishl x y) :: r) u h
  | .ishr => dz2I S fun x y r => K nx L (.int (k_ishr x y) :: r) u h
  | .iushr => dz2I S fun x y r => K nx L (.int (k_iushr x y) :: r) u h
  | .idiv => dz2I S fun x y r => if y = 0 then none else K nx L (.int (x / y) :: r) u h
  | .irem => dz2I S fun x y r => if y = 0 then none else K nx L (.int (k_irem x y) :: r) u h
  | .fmul => dz2I S fun x y r => match Nat.ble (r.map fun v => v.category).sum 8 with
    | true => K nx L (.int (k_max x y) :: r) u h
    | false => none
  | .ineg => dz1I S fun x r => K nx L (.int (-x) :: r) u h
  | .ladd => dz2J S fun x y r => K nx L (.long (x + y) :: r) u h
  | .lsub => dz2J S fun x y r => K nx L (.long (x - y) :: r) u h
  | .lmul => dz2J S fun x y r => K nx L (.long (x * y) :: r) u h
  | .land => dz2J S fun x y r => K nx L (.long (x &&& y) :: r) u h
  | .lor => dz2J S fun x y r => K nx L (.long (x ||| y) :: r) u h
  | .lxor => dz2J S fun x y r => K nx L (.long (x ^^^ y) :: r) u h
  | .ldiv => dz2J S fun x y r => if y = 0 then none else K nx L (.long (x / y) :: r) u h
  | .lrem => dz2J S fun x y r => if y = 0 then none else K nx L (.long (k_lrem x y) :: r) u h
  | .lneg => dz1J S fun x r => K nx L (.long (-x) :: r) u h
  | .lshl => dzJI S fun x y r => K nx L (.long (k_lshl x y) :: r) u h
  | .lshr => dzJI S fun x y r => K nx L (.long (k_lshr x y) :: r) u h
  | .lushr => dzJI S fun x y r => K nx L (.long (k_lushr x y) :: r) u h
  | .lcmp => dz2J S fun x y r => K nx L (.int (k_lcmp x y) :: r) u h
  | .i2l => dz1I S fun x r => K nx L (.long x.toInt64 :: r) u h
  | .l2i => dz1J S fun x r => K nx L (.int x.toInt32 :: r) u h
  | .dup => match S with
    | .int x :: r => K nx L (.int x :: .int x :: r) u h
    | .ref x :: r => K nx L (.ref x :: .ref x :: r) u h
    | _ => none
  | .dup2 => match S with
    | .long x :: r => K nx L (.long x :: .long x :: r) u h
    | .int y :: .ref x :: r => K nx L (.int y :: .ref x :: .int y :: .ref x :: r) u h
    | _ => none
  | .pop => match S with
    | .int _ :: r => K nx L r u h
    | .ref _ :: r => K nx L r u h
    | _ => none
  | .ifCond .eq _ => dz1I S fun x r => if x = 0 then K (dzPl pl 0) L r u h else K nx L r u h
  | .ifCond .ne _ => dz1I S fun x r => if x = 0 then K nx L r u h else K (dzPl pl 0) L r u h
  | .ifCond .lt _ => dz1I S fun x r => if x < 0 then K (dzPl pl 0) L r u h else K nx L r u h
  | .ifCond .ge _ => dz1I S fun x r => if x < 0 then K nx L r u h else K (dzPl pl 0) L r u h
  | .ifCond .le _ => dz1I S fun x r => if x ≤ 0 then K (dzPl pl 0) L r u h else K nx L r u h
  | .ifCond .gt _ => dz1I S fun x r => if x ≤ 0 then K nx L r u h else K (dzPl pl 0) L r u h
  | .if_icmp .eq _ => dz2I S fun x y r => if x = y then K (dzPl pl 0) L r u h else K nx L r u h
  | .if_icmp .ne _ => dz2I S fun x y r => if x = y then K nx L r u h else K (dzPl pl 0) L r u h
  | .if_icmp .lt _ => dz2I S fun x y r => if x < y then K (dzPl pl 0) L r u h else K nx L r u h
  | .if_icmp .ge _ => dz2I S fun x y r => if x < y then K nx L r u h else K (dzPl pl 0) L r u h
  | .if_icmp .le _ => dz2I S fun x y r => if x ≤ y then K (dzPl pl 0) L r u h else K nx L r u h
  | .if_icmp .gt _ => dz2I S fun x y r => if x ≤ y then K nx L r u h else K (dzPl pl 0) L r u h
  | .goto _ => K (dzPl pl 0) L S u h
  | .lookupswitch _ _ => dz1I S fun x r => dzSw x (fun t => K t L r u h) sw (dzPl pl 0)
  | .iaload => dzAI S fun a j r => (drI h a j).bind fun x => K nx L (.int x :: r) u h
  | .aaload => dzAI S fun a j r => (drA h a j).bind fun x => K nx L (.ref x :: r) u h
  | .iastore => dzAII S fun a j x r => (dwI h a j x).bind fun h => K nx L r u h
  | .arraylength => dz1A S fun a r => (dln h a).bind fun x => K nx L (.int x :: r) u h
  | .getfield _ => dz1A S fun a r => match dzPl pl 2 with
    | 1 => (dgI h a (dzPl pl 0) (dzPl pl 1)).bind fun x => K nx L (.int x :: r) u h
    | 2 => (dgJ h a (dzPl pl 0) (dzPl pl 1)).bind fun x => K nx L (.long x :: r) u h
    | 3 => (dgA h a (dzPl pl 0) (dzPl pl 1)).bind fun x => K nx L (.ref x :: r) u h
    | _ => none
  | .putfield _ => dzAV S fun a v r => match Nat.beq (dzKd v) (dzPl pl 2) with
    | true => (dpF h a (dzPl pl 0) (dzPl pl 1) v).bind fun h => K nx L r u h
    | false => none
  | .swap => match S with
    | .int n :: .int dp :: .ref b :: .int sp :: .ref a :: r => match Nat.ble (r.map fun v => v.category).sum 8 with
      | true => (dcp h a sp b dp n).bind fun h => K nx L r u h
      | false => none
    | _ => none
  | .invokespecial _ => dz1A S fun _ r => match Nat.ble (r.map fun v => v.category).sum 8 with
    | true => K nx L r u h
    | false => none
  | .invokestatic _ => match dzTk (dzPl pl 1) [] S with
    | some (av, r) => match dzFit mid (dzPl pl 0) u && Nat.ble (r.map fun v => v.category).sum 8 with
      | true => match dzPl pl 2 with
        | 0 => (dzRV (C (dzPl pl 0) av h)).bind fun h => K nx L r (u.1 + dzMc (dzPl pl 0), u.2 + dzMs (dzPl pl 0)) h
        | 1 => (dzRI (C (dzPl pl 0) av h)).bind fun q => K nx L (.int q.1 :: r) (u.1 + dzMc (dzPl pl 0), u.2 + dzMs (dzPl pl 0)) q.2
        | 2 => (dzRJ (C (dzPl pl 0) av h)).bind fun q => K nx L (.long q.1 :: r) (u.1 + dzMc (dzPl pl 0), u.2 + dzMs (dzPl pl 0)) q.2
        | 3 => (dzRA (C (dzPl pl 0) av h)).bind fun q => K nx L (.ref q.1 :: r) (u.1 + dzMc (dzPl pl 0), u.2 + dzMs (dzPl pl 0)) q.2
        | _ => none
      | false => none
    | none => none
  | .new _ => match Nat.ble (u.1 + 1) (dzMc mid) && Nat.ble (u.2 + dzPl pl 1) (dzMs mid) with
    | true => K nx L (.ref h.1 :: S) (u.1 + 1, u.2 + dzPl pl 1) (dnO h (dzPl pl 0))
    | false => none
  | .newarray _ => dz1I S fun n r => match Nat.ble (u.1 + 1) (dzMc mid) && Nat.ble (u.2 + n.toNatClampNeg) (dzMs mid) with
    | true => (dnI h n).bind fun h1 => K nx L (.ref h.1 :: r) (u.1 + 1, u.2 + n.toNatClampNeg) h1
    | false => none
  | .multianewarray _ _ => dz2I S fun n m r => match Nat.ble (u.1 + (1 + n.toNatClampNeg)) (dzMc mid) && Nat.ble (u.2 + (n.toNatClampNeg + n.toNatClampNeg * m.toNatClampNeg)) (dzMs mid) with
    | true => (dnM h n m).bind fun h1 => K nx L (.ref h.1 :: r) (u.1 + (1 + n.toNatClampNeg), u.2 + (n.toNatClampNeg + n.toNatClampNeg * m.toNatClampNeg)) h1
    | false => none
  | .ireturn => match S with
    | [.int x] => match dzPl pl 0 with
      | 0 => some (some (.int x), h)
      | _ => (dzB01 x).bind fun y => some (some (.int y), h)
    | _ => none
  | .lreturn => match S with
    | [.long x] => some (some (.long x), h)
    | _ => none
  | .areturn => match S with
    | [.ref x] => some (some (.ref x), h)
    | _ => none
  | .return_ => match S with
    | [] => some (none, h)
    | _ => none
  | _ => none
def dzS (mid : Nat) (K : dzKt) (C : dzCt) : dzKt := fun pc L S u h => match dzFnd (dzOps mid) pc with
  | some (nx, i, v, sw, pl) => dz1 mid K C nx L S u h i v sw pl
  | none => none
/-- a call's start: an instance method's receiver is an object of its class -/
def dzGo (k : dzKt) (c : Nat) (av : List Value) (h : dzH) : Option dzR := match Nat.ble (lg_sl av).length (dzMx c) with
  | true => match dzRcv c with
    | none => k 0 (lv_args 0 av) [] (0, 0) h
    | some ci => match av with
      | .ref a :: _ => match h.2 a with
        | some (.inr (.inr (.inl (c', _)))) => if c' = ci then k 0 (lv_args 0 av) [] (0, 0) h else none
        | _ => none
      | _ => none
  | false => none
/-- where a jump arrives only the locals that all roads set are kept -/
def dzJ (mid : Nat) (k : dzKt) : dzKt := fun pc L S u h => match dzFnd (dzHd mid) pc with
  | some ks => k pc (dzRs ks L) S u h
  | none => k pc L S u h
def dzRun : Nat → Nat → dzKt
  | 0, _ => fun _ _ _ _ _ => none
  | n + 1, mid => fun pc L S u h => dzS mid (dzJ mid (dzRun n mid)) (fun c => dzGo (dzRun n c) c) pc L S u h
end
section
/-! the limit of the runs: one equation an instruction, no fuel -/
def dzUse (Φ : dzKt → dzCt → Option dzR) : Prop := ∀ (K : dzKt) (C : dzCt) (r : dzR), Φ K C = some r →
  (∀ (K' : dzKt) (C' : dzCt), Φ K' C' = some r) ∨
  (∃ (pc : Nat) (L : dzL) (S : List Value) (u : Nat × Nat) (h : dzH), K pc L S u h = some r ∧ ∀ (K' : dzKt) (C' : dzCt), K' pc L S u h = some r → Φ K' C' = some r) ∨
  (∃ (c : Nat) (av : List Value) (h1 : dzH) (q : dzR) (pc : Nat) (L : dzL) (S : List Value) (u : Nat × Nat) (h : dzH), C c av h1 = some q ∧ K pc L S u h = some r ∧ ∀ (K' : dzKt) (C' : dzCt), C' c av h1 = some q → K' pc L S u h = some r → Φ K' C' = some r)
theorem dzUse_none : dzUse (fun _ _ => none) := fun _ _ _ h => by cases h
theorem dzUse_some (r : dzR) : dzUse (fun _ _ => some r) := fun _ _ _ h => Or.inl (fun _ _ => h)
theorem dzUse_K (pc : Nat) (L : dzL) (S : List Value) (u : Nat × Nat) (h : dzH) : dzUse (fun K _ => K pc L S u h) :=
  fun _ _ _ hd => Or.inr (Or.inl ⟨pc, L, S, u, h, hd, fun _ _ h' => h'⟩)
theorem dzUse_bind {α : Type} (o : Option α) {f : α → dzKt → dzCt → Option dzR} (hf : ∀ x, dzUse (f x)) : dzUse (fun K C => o.bind fun x => f x K C) := by
  cases o with
  | none => exact dzUse_none
  | some x => exact hf x
theorem dzUse_ite (p : Prop) [d : Decidable p] {f g : dzKt → dzCt → Option dzR} (hf : dzUse f) (hg : dzUse g) : dzUse (fun K C => if p then f K C else g K C) := by
  by_cases hp : p
  · have e : (fun K C => if p then f K C else g K C) = f := by funext K C; rw [if_pos hp]
    rw [e]; exact hf
  · have e : (fun K C => if p then f K C else g K C) = g := by funext K C; rw [if_neg hp]
    rw [e]; exact hg
theorem dzUse_1I (S : List Value) {f : Int32 → List Value → dzKt → dzCt → Option dzR} (hf : ∀ x r, dzUse (f x r)) : dzUse (fun K C => dz1I S fun x r => f x r K C) := by
  unfold dz1I
  split
  · exact hf _ _
  · exact dzUse_none
theorem dzUse_1J (S : List Value) {f : Int64 → List Value → dzKt → dzCt → Option dzR} (hf : ∀ x r, dzUse (f x r)) : dzUse (fun K C => dz1J S fun x r => f x r K C) := by
  unfold dz1J
  split
  · exact hf _ _
  · exact dzUse_none
theorem dzUse_1A (S : List Value) {f : Nat → List Value → dzKt → dzCt → Option dzR} (hf : ∀ x r, dzUse (f x r)) : dzUse (fun K C => dz1A S fun x r => f x r K C) := by
  unfold dz1A
  split
  · exact hf _ _
  · exact dzUse_none
theorem dzUse_2I (S : List Value) {f : Int32 → Int32 → List Value → dzKt → dzCt → Option dzR} (hf : ∀ x y r, dzUse (f x y r)) : dzUse (fun K C => dz2I S fun x y r => f x y r K C) := by
  unfold dz2I
  split
  · exact hf _ _ _
  · exact dzUse_none
theorem dzUse_2J (S : List Value) {f : Int64 → Int64 → List Value → dzKt → dzCt → Option dzR} (hf : ∀ x y r, dzUse (f x y r)) : dzUse (fun K C => dz2J S fun x y r => f x y r K C) := by
  unfold dz2J
  split
  · exact hf _ _ _
  · exact dzUse_none
theorem dzUse_JI (S : List Value) {f : Int64 → Int32 → List Value → dzKt → dzCt → Option dzR} (hf : ∀ x y r, dzUse (f x y r)) : dzUse (fun K C => dzJI S fun x y r => f x y r K C) := by
  unfold dzJI
  split
  · exact hf _ _ _
  · exact dzUse_none
theorem dzUse_AI (S : List Value) {f : Nat → Int32 → List Value → dzKt → dzCt → Option dzR} (hf : ∀ x y r, dzUse (f x y r)) : dzUse (fun K C => dzAI S fun x y r => f x y r K C) := by
  unfold dzAI
  split
  · exact hf _ _ _
  · exact dzUse_none
theorem dzUse_AII (S : List Value) {f : Nat → Int32 → Int32 → List Value → dzKt → dzCt → Option dzR} (hf : ∀ x y z r, dzUse (f x y z r)) : dzUse (fun K C => dzAII S fun x y z r => f x y z r K C) := by
  unfold dzAII
  split
  · exact hf _ _ _ _
  · exact dzUse_none
theorem dzUse_AV (S : List Value) {f : Nat → Value → List Value → dzKt → dzCt → Option dzR} (hf : ∀ x y r, dzUse (f x y r)) : dzUse (fun K C => dzAV S fun x y r => f x y r K C) := by
  unfold dzAV
  split
  · exact hf _ _ _
  · exact dzUse_none
theorem dzUse_Sw (x : Int32) {f : Nat → dzKt → dzCt → Option dzR} (hf : ∀ t, dzUse (f t)) (d : Nat) : ∀ sw : List (Int32 × Nat), dzUse (fun K C => dzSw x (fun t => f t K C) sw d)
  | [] => hf d
  | (c, t) :: r => dzUse_ite (x = c) (hf t) (dzUse_Sw x hf d r)
theorem dzUse_RV (c : Nat) (av : List Value) (h : dzH) (pc : Nat) (L : dzL) (S : List Value) (u : Nat × Nat) : dzUse (fun K C => (dzRV (C c av h)).bind fun h => K pc L S u h) := by
  intro K C r hd
  obtain ⟨h1, e1, hd⟩ := Option.bind_eq_some_iff.mp hd
  have e2 : C c av h = some (none, h1) := by
    unfold dzRV at e1
    split at e1
    · rename_i hc; rw [hc]; cases e1; rfl
    · cases e1
  exact Or.inr (Or.inr ⟨c, av, h, _, pc, L, S, u, h1, e2, hd, fun K' C' g1 g2 => by dsimp only; rw [g1]; exact g2⟩)
theorem dzUse_RI (c : Nat) (av : List Value) (h : dzH) (pc : Nat) (L : dzL) (S : List Value) (u : Nat × Nat) : dzUse (fun K C => (dzRI (C c av h)).bind fun q => K pc L (.int q.1 :: S) u q.2) := by
  intro K C r hd
  obtain ⟨q, e1, hd⟩ := Option.bind_eq_some_iff.mp hd
  have e2 : C c av h = some (some (.int q.1), q.2) := by
    unfold dzRI at e1
    split at e1
    · rename_i hc; rw [hc]; cases e1; rfl
    · cases e1
  exact Or.inr (Or.inr ⟨c, av, h, _, pc, L, .int q.1 :: S, u, q.2, e2, hd, fun K' C' g1 g2 => by dsimp only; rw [g1]; exact g2⟩)
theorem dzUse_RJ (c : Nat) (av : List Value) (h : dzH) (pc : Nat) (L : dzL) (S : List Value) (u : Nat × Nat) : dzUse (fun K C => (dzRJ (C c av h)).bind fun q => K pc L (.long q.1 :: S) u q.2) := by
  intro K C r hd
  obtain ⟨q, e1, hd⟩ := Option.bind_eq_some_iff.mp hd
  have e2 : C c av h = some (some (.long q.1), q.2) := by
    unfold dzRJ at e1
    split at e1
    · rename_i hc; rw [hc]; cases e1; rfl
    · cases e1
  exact Or.inr (Or.inr ⟨c, av, h, _, pc, L, .long q.1 :: S, u, q.2, e2, hd, fun K' C' g1 g2 => by dsimp only; rw [g1]; exact g2⟩)
theorem dzUse_RA (c : Nat) (av : List Value) (h : dzH) (pc : Nat) (L : dzL) (S : List Value) (u : Nat × Nat) : dzUse (fun K C => (dzRA (C c av h)).bind fun q => K pc L (.ref q.1 :: S) u q.2) := by
  intro K C r hd
  obtain ⟨q, e1, hd⟩ := Option.bind_eq_some_iff.mp hd
  have e2 : C c av h = some (some (.ref q.1), q.2) := by
    unfold dzRA at e1
    split at e1
    · rename_i hc; rw [hc]; cases e1; rfl
    · cases e1
  exact Or.inr (Or.inr ⟨c, av, h, _, pc, L, .ref q.1 :: S, u, q.2, e2, hd, fun K' C' g1 g2 => by dsimp only; rw [g1]; exact g2⟩)
set_option maxHeartbeats 4000000 in
theorem dz1_use (mid nx : Nat) (L : dzL) (S : List Value) (u : Nat × Nat) (h : dzH) (i : dzIns) (v : Value) (sw : List (Int32 × Nat)) (pl : List Nat) : dzUse (fun K C => dz1 mid K C nx L S u h i v sw pl) := by
  cases i
  case nop => exact dzUse_K _ _ _ _ _
  case iload j => exact dzUse_bind _ (fun x => dzUse_K _ _ _ _ _)
  case lload j => exact dzUse_bind _ (fun x => dzUse_K _ _ _ _ _)
  case aload j => exact dzUse_bind _ (fun x => dzUse_K _ _ _ _ _)
  case istore j => exact dzUse_1I S (fun x r => dzUse_K _ _ _ _ _)
  case lstore j => exact dzUse_1J S (fun x r => dzUse_K _ _ _ _ _)
  case astore j => exact dzUse_1A S (fun x r => dzUse_K _ _ _ _ _)
  case iinc j c =>
    refine dzUse_bind _ (fun x => ?_)
    cases v
    case int c => exact dzUse_K _ _ _ _ _
    all_goals exact dzUse_none
  case iadd => exact dzUse_2I S (fun x y r => dzUse_K _ _ _ _ _)
  case isub => exact dzUse_2I S (fun x y r => dzUse_K _ _ _ _ _)
  case imul => exact dzUse_2I S (fun x y r => dzUse_K _ _ _ _ _)
  case iand => exact dzUse_2I S (fun x y r => dzUse_K _ _ _ _ _)
  case ior => exact dzUse_2I S (fun x y r => dzUse_K _ _ _ _ _)
  case ixor => exact dzUse_2I S (fun x y r => dzUse_K _ _ _ _ _)
  case ishl => exact dzUse_2I S (fun x y r => dzUse_K _ _ _ _ _)
  case ishr => exact dzUse_2I S (fun x y r => dzUse_K _ _ _ _ _)
  case iushr => exact dzUse_2I S (fun x y r => dzUse_K _ _ _ _ _)
  case idiv => exact dzUse_2I S (fun x y r => dzUse_ite _ dzUse_none (dzUse_K _ _ _ _ _))
  case irem => exact dzUse_2I S (fun x y r => dzUse_ite _ dzUse_none (dzUse_K _ _ _ _ _))
  case fmul =>
    refine dzUse_2I S (fun x y r => ?_)
    split
    · exact dzUse_K _ _ _ _ _
    · exact dzUse_none
  case ineg => exact dzUse_1I S (fun x r => dzUse_K _ _ _ _ _)
  case ladd => exact dzUse_2J S (fun x y r => dzUse_K _ _ _ _ _)
  case lsub => exact dzUse_2J S (fun x y r => dzUse_K _ _ _ _ _)
  case lmul => exact dzUse_2J S (fun x y r => dzUse_K _ _ _ _ _)
  case land => exact dzUse_2J S (fun x y r => dzUse_K _ _ _ _ _)
  case lor => exact dzUse_2J S (fun x y r => dzUse_K _ _ _ _ _)
  case lxor => exact dzUse_2J S (fun x y r => dzUse_K _ _ _ _ _)
  case ldiv => exact dzUse_2J S (fun x y r => dzUse_ite _ dzUse_none (dzUse_K _ _ _ _ _))
  case lrem => exact dzUse_2J S (fun x y r => dzUse_ite _ dzUse_none (dzUse_K _ _ _ _ _))
  case lneg => exact dzUse_1J S (fun x r => dzUse_K _ _ _ _ _)
  case lshl => exact dzUse_JI S (fun x y r => dzUse_K _ _ _ _ _)
  case lshr => exact dzUse_JI S (fun x y r => dzUse_K _ _ _ _ _)
  case lushr => exact dzUse_JI S (fun x y r => dzUse_K _ _ _ _ _)
  case lcmp => exact dzUse_2J S (fun x y r => dzUse_K _ _ _ _ _)
  case i2l => exact dzUse_1I S (fun x r => dzUse_K _ _ _ _ _)
  case l2i => exact dzUse_1J S (fun x r => dzUse_K _ _ _ _ _)
  case dup =>
    unfold dz1
    dsimp only
    split
    · exact dzUse_K _ _ _ _ _
    · exact dzUse_K _ _ _ _ _
    · exact dzUse_none
  case dup2 =>
    unfold dz1
    dsimp only
    split
    · exact dzUse_K _ _ _ _ _
    · exact dzUse_K _ _ _ _ _
    · exact dzUse_none
  case pop =>
    unfold dz1
    dsimp only
    split
    · exact dzUse_K _ _ _ _ _
    · exact dzUse_K _ _ _ _ _
    · exact dzUse_none
  case ifCond o t =>
    cases o <;> exact dzUse_1I S (fun x r => dzUse_ite _ (dzUse_K _ _ _ _ _) (dzUse_K _ _ _ _ _))
  case if_icmp o t =>
    cases o <;> exact dzUse_2I S (fun x y r => dzUse_ite _ (dzUse_K _ _ _ _ _) (dzUse_K _ _ _ _ _))
  case goto t => exact dzUse_K _ _ _ _ _
  case lookupswitch d ps => exact dzUse_1I S (fun x r => dzUse_Sw x (f := fun t K _ => K t L r u h) (fun t => dzUse_K t L r u h) _ sw)
  case iaload => exact dzUse_AI S (fun a j r => dzUse_bind _ (fun x => dzUse_K _ _ _ _ _))
  case aaload => exact dzUse_AI S (fun a j r => dzUse_bind _ (fun x => dzUse_K _ _ _ _ _))
  case iastore => exact dzUse_AII S (fun a j x r => dzUse_bind _ (fun h => dzUse_K _ _ _ _ _))
  case arraylength => exact dzUse_1A S (fun a r => dzUse_bind _ (fun x => dzUse_K _ _ _ _ _))
  case getfield k =>
    refine dzUse_1A S (fun a r => ?_)
    split
    · exact dzUse_bind _ (fun x => dzUse_K _ _ _ _ _)
    · exact dzUse_bind _ (fun x => dzUse_K _ _ _ _ _)
    · exact dzUse_bind _ (fun x => dzUse_K _ _ _ _ _)
    · exact dzUse_none
  case putfield k =>
    refine dzUse_AV S (fun a v r => ?_)
    split
    · exact dzUse_bind _ (fun x => dzUse_K _ _ _ _ _)
    · exact dzUse_none
  case swap =>
    unfold dz1
    dsimp only
    split
    · split
      · exact dzUse_bind _ (fun x => dzUse_K _ _ _ _ _)
      · exact dzUse_none
    · exact dzUse_none
  case invokespecial k =>
    refine dzUse_1A S (fun a r => ?_)
    split
    · exact dzUse_K _ _ _ _ _
    · exact dzUse_none
  case invokestatic k =>
    unfold dz1
    dsimp only
    split
    · split
      · split
        · exact dzUse_RV _ _ _ _ _ _ _
        · exact dzUse_RI _ _ _ _ _ _ _
        · exact dzUse_RJ _ _ _ _ _ _ _
        · exact dzUse_RA _ _ _ _ _ _ _
        · exact dzUse_none
      · exact dzUse_none
    · exact dzUse_none
  case new k =>
    unfold dz1
    dsimp only
    split
    · exact dzUse_K _ _ _ _ _
    · exact dzUse_none
  case newarray k =>
    refine dzUse_1I S (fun n r => ?_)
    split
    · exact dzUse_bind _ (fun x => dzUse_K _ _ _ _ _)
    · exact dzUse_none
  case multianewarray k k2 =>
    refine dzUse_2I S (fun n m r => ?_)
    split
    · exact dzUse_bind _ (fun x => dzUse_K _ _ _ _ _)
    · exact dzUse_none
  case ireturn =>
    unfold dz1
    dsimp only
    split
    · split
      · exact dzUse_some _
      · exact dzUse_bind _ (fun y => dzUse_some _)
    · exact dzUse_none
  case lreturn =>
    unfold dz1
    dsimp only
    split
    · exact dzUse_some _
    · exact dzUse_none
  case areturn =>
    unfold dz1
    dsimp only
    split
    · exact dzUse_some _
    · exact dzUse_none
  case return_ =>
    unfold dz1
    dsimp only
    split
    · exact dzUse_some _
    · exact dzUse_none
  all_goals exact dzUse_none
theorem dzS_use (mid pc : Nat) (L : dzL) (S : List Value) (u : Nat × Nat) (h : dzH) : dzUse (fun K C => dzS mid K C pc L S u h) := by
  unfold dzS
  split
  · exact dz1_use _ _ _ _ _ _ _ _ _ _
  · exact dzUse_none
/-- what goes on with more goes on -/
def dzLe (K K' : dzKt) : Prop := ∀ (pc : Nat) (L : dzL) (S : List Value) (u : Nat × Nat) (h : dzH) (r : dzR), K pc L S u h = some r → K' pc L S u h = some r
theorem dzJ_le {mid : Nat} {K K' : dzKt} (hk : dzLe K K') : dzLe (dzJ mid K) (dzJ mid K') := by
  intro pc L S u h r hd
  unfold dzJ at hd ⊢
  split at hd
  · exact hk _ _ _ _ _ _ hd
  · exact hk _ _ _ _ _ _ hd
theorem dzGo_le {c : Nat} {K K' : dzKt} (hk : dzLe K K') (av : List Value) (h : dzH) (r : dzR) (hd : dzGo K c av h = some r) : dzGo K' c av h = some r := by
  unfold dzGo at hd ⊢
  split at hd
  · split at hd
    · exact hk _ _ _ _ _ _ hd
    · split at hd
      · split at hd
        · split at hd
          · rename_i e
            rw [if_pos e]
            exact hk _ _ _ _ _ _ hd
          · cases hd
        · cases hd
      · cases hd
  · cases hd
theorem dzS_le {mid : Nat} {K K' : dzKt} {C C' : dzCt} (hk : dzLe K K') (hc : ∀ c av h r, C c av h = some r → C' c av h = some r) : dzLe (dzS mid K C) (dzS mid K' C') := by
  intro pc L S u h r hd
  rcases dzS_use mid pc L S u h K C r hd with g | ⟨a, b, c, d, e, g1, g⟩ | ⟨c1, av, h1, q, a, b, c, d, e, g1, g2, g⟩
  · exact g _ _
  · exact g _ _ (hk _ _ _ _ _ _ g1)
  · exact g _ _ (hc _ _ _ _ g1) (hk _ _ _ _ _ _ g2)
theorem dzRun_S : ∀ (n mid : Nat), dzLe (dzRun n mid) (dzRun (n + 1) mid)
  | 0, _ => fun _ _ _ _ _ _ h => by cases h
  | n + 1, mid => dzS_le (dzJ_le (dzRun_S n mid)) (fun c av h r => dzGo_le (dzRun_S n c) av h r)
theorem dzRun_le {n m : Nat} (hnm : n ≤ m) (mid : Nat) : dzLe (dzRun n mid) (dzRun m mid) := by
  induction hnm with
  | refl => exact fun _ _ _ _ _ _ h => h
  | step _ ih => exact fun pc L S u h r hd => dzRun_S _ _ _ _ _ _ _ _ (ih pc L S u h r hd)
noncomputable def dzF (mid : Nat) : dzKt := fun pc L S u h => match Classical.propDecidable (∃ n, (dzRun n mid pc L S u h).isSome = true) with
  | .isTrue e => dzRun e.choose mid pc L S u h
  | .isFalse _ => none
theorem dzF_iff {mid pc : Nat} {L : dzL} {S : List Value} {u : Nat × Nat} {h : dzH} {r : dzR} : dzF mid pc L S u h = some r ↔ ∃ n, dzRun n mid pc L S u h = some r := by
  constructor
  · intro hd
    unfold dzF at hd
    split at hd
    · exact ⟨_, hd⟩
    · cases hd
  · rintro ⟨n, hn⟩
    have e : ∃ n, (dzRun n mid pc L S u h).isSome = true := ⟨n, by rw [hn]; rfl⟩
    unfold dzF
    split
    · rename_i e2 _
      obtain ⟨r2, h2⟩ := Option.isSome_iff_exists.mp e2.choose_spec
      rw [h2]
      have a1 := dzRun_le (Nat.le_max_left n e2.choose) mid _ _ _ _ _ _ hn
      have a2 := dzRun_le (Nat.le_max_right n e2.choose) mid _ _ _ _ _ _ h2
      exact a2.symm.trans a1
    · rename_i e2 _
      exact absurd e e2
theorem dzRun_F (n mid : Nat) : dzLe (dzRun n mid) (dzF mid) := fun _ _ _ _ _ _ h => dzF_iff.mpr ⟨n, h⟩
theorem dzJ_F {mid pc : Nat} {L : dzL} {S : List Value} {u : Nat × Nat} {h : dzH} {r : dzR} (hd : dzJ mid (dzF mid) pc L S u h = some r) : ∃ n, dzJ mid (dzRun n mid) pc L S u h = some r := by
  unfold dzJ at hd ⊢
  split at hd
  · exact dzF_iff.mp hd
  · exact dzF_iff.mp hd
theorem dzGo_F {c : Nat} {av : List Value} {h : dzH} {r : dzR} (hd : dzGo (dzF c) c av h = some r) : ∃ n, dzGo (dzRun n c) c av h = some r := by
  unfold dzGo at hd ⊢
  split at hd
  · split at hd
    · exact dzF_iff.mp hd
    · split at hd
      · split at hd
        · split at hd
          · rename_i e
            obtain ⟨n, hn⟩ := dzF_iff.mp hd
            exact ⟨n, by rw [if_pos e]; exact hn⟩
          · cases hd
        · cases hd
      · cases hd
  · cases hd
noncomputable def dzC : dzCt := fun c => dzGo (dzF c) c
theorem dzF_eq (mid pc : Nat) (L : dzL) (S : List Value) (u : Nat × Nat) (h : dzH) : dzF mid pc L S u h = dzS mid (dzJ mid (dzF mid)) dzC pc L S u h := by
  apply Option.ext
  intro r
  constructor
  · intro hd
    obtain ⟨n, hn⟩ := dzF_iff.mp hd
    cases n with
    | zero => cases hn
    | succ n => exact dzS_le (dzJ_le (dzRun_F n mid)) (fun c av h r => dzGo_le (dzRun_F n c) av h r) _ _ _ _ _ _ hn
  · intro hd
    rcases dzS_use mid pc L S u h _ _ r hd with g | ⟨a, b, c, d, e, g1, g⟩ | ⟨c1, av, h1, q, a, b, c, d, e, g1, g2, g⟩
    · exact dzF_iff.mpr ⟨1, g _ _⟩
    · obtain ⟨n, hn⟩ := dzJ_F g1
      exact dzF_iff.mpr ⟨n + 1, g _ _ hn⟩
    · obtain ⟨n, hn⟩ := dzGo_F g1
      obtain ⟨k, hk⟩ := dzJ_F g2
      exact dzF_iff.mpr ⟨max n k + 1, g _ _ (dzGo_le (dzRun_le (Nat.le_max_left n k) _) _ _ _ hn) (dzJ_le (dzRun_le (Nat.le_max_right n k) _) _ _ _ _ _ _ hk)⟩
/-- k instructions, as far as the next head -/
noncomputable def dzW : Nat → Nat → dzKt
  | 0, mid => dzF mid
  | k + 1, mid => dzS mid (fun pc L S u h => match dzFnd (dzHd mid) pc with
    | some ks => dzF mid pc (dzRs ks L) S u h
    | none => dzW k mid pc L S u h) dzC
theorem dzW_eq : ∀ (k mid : Nat), dzF mid = dzW k mid
  | 0, _ => rfl
  | k + 1, mid => by
    funext pc L S u h
    rw [dzF_eq]
    unfold dzW dzJ
    rw [← dzW_eq k mid]
    rfl
theorem dzW_at (k mid pc : Nat) (L : dzL) (S : List Value) (u : Nat × Nat) (h : dzH) : dzF mid pc L S u h = dzW k mid pc L S u h := by rw [dzW_eq k mid]
end
section
/-! number theory: Fermat, Lucas, Pocklington; nothing of the machine here -/
def npP (p : Nat) : Prop := 2 ≤ p ∧ ∀ d, d ∣ p → d = 1 ∨ d = p
theorem np_mod_of_dvd {p x y : Nat} (h : y ≤ x) (hd : p ∣ x - y) : x % p = y % p := by
  obtain ⟨k, hk⟩ := hd
  have e : x = y + p * k := by omega
  rw [e, Nat.add_mul_mod_self_left]
theorem np_dvd_of_mod {p x y : Nat} (hd : x % p = y % p) : p ∣ x - y := Nat.dvd_of_mod_eq_zero (Nat.sub_mod_eq_zero_of_mod_eq hd)
theorem np_cancel0 {p c x y : Nat} (hc : Nat.Coprime p c) (hyx : y ≤ x) (h : (c * x) % p = (c * y) % p) : x % p = y % p := by
  have h1 := np_dvd_of_mod h
  rw [← Nat.mul_sub] at h1
  exact np_mod_of_dvd hyx (hc.dvd_of_dvd_mul_left h1)
theorem np_cancel {p c x y : Nat} (hc : Nat.Coprime p c) (h : (c * x) % p = (c * y) % p) : x % p = y % p := by
  rcases Nat.le_total y x with hyx | hyx
  · exact np_cancel0 hc hyx h
  · exact (np_cancel0 hc hyx h.symm).symm
theorem np_factor : ∀ n : Nat, 2 ≤ n → ∃ p, npP p ∧ p ∣ n := by
  intro n
  induction n using Nat.strongRecOn with
  | ind n ih =>
    intro hn
    by_cases hp : npP n
    · exact ⟨n, hp, Nat.dvd_refl n⟩
    · have h1 : ∃ d, d ∣ n ∧ d ≠ 1 ∧ d ≠ n := by
        apply Classical.byContradiction
        intro h
        apply hp
        refine ⟨hn, fun d hd => ?_⟩
        by_cases a : d = 1
        · exact Or.inl a
        · by_cases b : d = n
          · exact Or.inr b
          · exact absurd ⟨d, hd, a, b⟩ h
      obtain ⟨d, hd, d1, d2⟩ := h1
      have d3 : d ≤ n := Nat.le_of_dvd (by omega) hd
      have d0 : d ≠ 0 := by
        intro e
        subst e
        have := Nat.eq_zero_of_zero_dvd hd
        omega
      obtain ⟨p, hp, hpd⟩ := ih d (by omega) (by omega)
      exact ⟨p, hp, Nat.dvd_trans hpd hd⟩
theorem np_cop {p a : Nat} (hp : npP p) (h : ¬ p ∣ a) : Nat.Coprime p a := by
  rcases hp.2 _ (Nat.gcd_dvd_left p a) with h1 | h1
  · exact h1
  · exact absurd (h1 ▸ Nat.gcd_dvd_right p a) h
theorem np_euclid {p a b : Nat} (hp : npP p) (h : p ∣ a * b) : p ∣ a ∨ p ∣ b := by
  by_cases ha : p ∣ a
  · exact Or.inl ha
  · exact Or.inr ((np_cop hp ha).dvd_of_dvd_mul_left h)
theorem np_euclid_pow {p a : Nat} (hp : npP p) : ∀ n, p ∣ a ^ n → p ∣ a
  | 0, h => by
    have := Nat.le_of_dvd (by decide) (Nat.pow_zero a ▸ h)
    have := hp.1
    omega
  | n + 1, h => by
    rw [Nat.pow_succ] at h
    rcases np_euclid hp h with h | h
    · exact np_euclid_pow hp n h
    · exact h
theorem np_eq {p q : Nat} (hp : npP p) (hq : npP q) (h : p ∣ q) : p = q := by
  rcases hq.2 p h with e | e
  · have := hp.1
    omega
  · exact e
-- powers modulo n
theorem np_pow_one {n a : Nat} (h : a % n = 1 % n) (k : Nat) : a ^ k % n = 1 % n := by
  rw [Nat.pow_mod, h, ← Nat.pow_mod, Nat.one_pow]
theorem np_mul_one {n a b : Nat} (h : a % n = 1 % n) : a * b % n = b % n := by
  rw [Nat.mul_mod, h, ← Nat.mul_mod, Nat.one_mul]
theorem np_gcd_pow {n a : Nat} (x y : Nat) : a ^ x % n = 1 % n → a ^ y % n = 1 % n → a ^ (Nat.gcd x y) % n = 1 % n := by
  induction x, y using Nat.gcd.induction with
  | H0 y => intro _ h; rw [Nat.gcd_zero_left]; exact h
  | H1 x y hx ih =>
    intro h1 h2
    rw [Nat.gcd_rec]
    refine ih ?_ h1
    have e : a ^ y = (a ^ x) ^ (y / x) * a ^ (y % x) := by
      rw [← Nat.pow_mul, ← Nat.pow_add, Nat.div_add_mod]
    rw [e] at h2
    rw [← np_mul_one (b := a ^ (y % x)) (np_pow_one h1 (y / x))]
    exact h2
-- lists without repetition
theorem np_perm {α : Type} [DecidableEq α] : ∀ (l1 l2 : List α), l1.Nodup → (∀ x, x ∈ l1 → x ∈ l2) → l2.length ≤ l1.length → List.Perm l1 l2
  | [], l2, _, _, hl => by
    have : l2 = [] := List.eq_nil_of_length_eq_zero (by simpa using hl)
    subst this
    exact List.Perm.refl _
  | x :: t, l2, hn, hs, hl => by
    have hx : x ∈ l2 := hs x List.mem_cons_self
    have hn' := List.nodup_cons.mp hn
    have hp := List.perm_cons_erase hx
    refine List.Perm.trans ?_ hp.symm
    refine List.Perm.cons x (np_perm t (l2.erase x) hn'.2 (fun y hy => ?_) ?_)
    · have hy2 : y ∈ l2 := hs y (List.mem_cons_of_mem _ hy)
      have hne : y ≠ x := fun e => hn'.1 (e ▸ hy)
      exact (List.mem_erase_of_ne hne).mpr hy2
    · rw [List.length_erase_of_mem hx]
      simp at hl
      omega
theorem np_nodup_map {f : Nat → Nat} : ∀ (l : List Nat), l.Nodup → (∀ x, x ∈ l → ∀ y, y ∈ l → f x = f y → x = y) → (l.map f).Nodup
  | [], _, _ => by simp
  | x :: t, hn, hf => by
    have hn' := List.nodup_cons.mp hn
    rw [List.map_cons, List.nodup_cons]
    refine ⟨fun h => ?_, np_nodup_map t hn'.2 (fun a ha b hb => hf a (List.mem_cons_of_mem _ ha) b (List.mem_cons_of_mem _ hb))⟩
    obtain ⟨y, hy, e⟩ := List.mem_map.mp h
    have := hf y (List.mem_cons_of_mem _ hy) x List.mem_cons_self e
    exact hn'.1 (this ▸ hy)
theorem np_prod_mod (p a : Nat) : ∀ l : List Nat, (l.map (fun x => a * x % p)).prod % p = (a ^ l.length * l.prod) % p
  | [] => by simp
  | x :: t => by
    have ih := np_prod_mod p a t
    have e1 : ((x :: t).map (fun x => a * x % p)).prod = (a * x % p) * (t.map (fun x => a * x % p)).prod := by simp
    have e2 : a ^ (x :: t).length * (x :: t).prod = (a * x) * (a ^ t.length * t.prod) := by
      simp only [List.length_cons, List.prod_cons, Nat.pow_succ]
      simp only [Nat.mul_comm, Nat.mul_left_comm, Nat.mul_assoc]
    rw [e1, e2, Nat.mul_mod, ih, Nat.mod_mod, ← Nat.mul_mod]
theorem np_prod_cop {p : Nat} (hp : npP p) : ∀ l : List Nat, (∀ x, x ∈ l → 0 < x ∧ x < p) → Nat.Coprime p l.prod
  | [], _ => by simp
  | x :: t, h => by
    rw [List.prod_cons]
    refine Nat.Coprime.mul_right (np_cop hp (fun hd => ?_)) (np_prod_cop hp t (fun y hy => h y (List.mem_cons_of_mem _ hy)))
    have h1 := h x List.mem_cons_self
    have := Nat.le_of_dvd h1.1 hd
    omega
theorem np_fermat {p a : Nat} (hp : npP p) (ha : ¬ p ∣ a) : a ^ (p - 1) % p = 1 % p := by
  have hp2 := hp.1
  have hca := np_cop hp ha
  have hin : ∀ x, x ∈ List.range' 1 (p - 1) ↔ (0 < x ∧ x < p) := by
    intro x
    rw [List.mem_range'_1]
    omega
  have hnd : ((List.range' 1 (p - 1)).map (fun x => a * x % p)).Nodup := by
    refine np_nodup_map _ List.nodup_range' (fun x hx y hy e => ?_)
    have h1 := (hin x).mp hx
    have h2 := (hin y).mp hy
    have h3 := np_cancel hca e
    rw [Nat.mod_eq_of_lt h1.2, Nat.mod_eq_of_lt h2.2] at h3
    exact h3
  have hperm : List.Perm ((List.range' 1 (p - 1)).map (fun x => a * x % p)) (List.range' 1 (p - 1)) := by
    refine np_perm _ _ hnd (fun z hz => ?_) (by simp)
    obtain ⟨x, hx, rfl⟩ := List.mem_map.mp hz
    have h1 := (hin x).mp hx
    refine (hin _).mpr ⟨?_, Nat.mod_lt _ (by omega)⟩
    apply Nat.pos_of_ne_zero
    intro e
    rcases np_euclid hp (Nat.dvd_of_mod_eq_zero e) with h | h
    · exact ha h
    · have := Nat.le_of_dvd h1.1 h
      omega
  have h1 := np_prod_mod p a (List.range' 1 (p - 1))
  rw [hperm.prod_nat] at h1
  have hlen : (List.range' 1 (p - 1)).length = p - 1 := by simp
  rw [hlen] at h1
  have hc := np_prod_cop hp (List.range' 1 (p - 1)) (fun x hx => (hin x).mp hx)
  refine np_cancel hc ?_
  rw [Nat.mul_one, Nat.mul_comm]
  exact h1.symm
-- a prime power that the powers of a show, in q - 1
theorem np_part {N q p e a : Nat} (hq : npP q) (hqN : q ∣ N) (hp : npP p) (he : p ^ e ∣ N - 1) (hpN : p ∣ N - 1)
    (h1 : a ^ (N - 1) % N = 1 % N) (h2 : ∀ d, d ∣ N → a ^ ((N - 1) / p) % d = 1 % d → d = 1) : p ^ e ∣ q - 1 := by
  have hq2 := hq.1
  have hp2 := hp.1
  have hmodq : ∀ x y : Nat, x % N = y % N → x % q = y % q := by
    intro x y h
    rw [← Nat.mod_mod_of_dvd x hqN, ← Nat.mod_mod_of_dvd y hqN, h]
  have h1q : a ^ (N - 1) % q = 1 % q := hmodq _ _ h1
  by_cases hN : N - 1 = 0
  · -- then the power is a ^ 0
    exfalso
    have hd := h2 q hqN (by rw [hN]; simp)
    omega
  have hqa : ¬ q ∣ a := by
    intro h
    have h3 : q ∣ a ^ (N - 1) := Nat.dvd_trans h (Nat.dvd_trans (by rw [Nat.pow_one]; exact Nat.dvd_refl a) (Nat.pow_dvd_pow a (show 1 ≤ N - 1 by omega)))
    rw [Nat.mod_eq_zero_of_dvd h3, Nat.mod_eq_of_lt (by omega)] at h1q
    omega
  have hf := np_fermat hq hqa
  have hg := np_gcd_pow (N - 1) (q - 1) h1q hf
  obtain ⟨t, ht⟩ := Nat.gcd_dvd_left (N - 1) (q - 1)
  have hgq := Nat.gcd_dvd_right (N - 1) (q - 1)
  generalize hG : Nat.gcd (N - 1) (q - 1) = g at hg ht hgq
  by_cases hpt : p ∣ t
  · exfalso
    obtain ⟨k, hk⟩ := hpt
    have e1 : (N - 1) / p = g * k := by
      rw [ht, hk, ← Nat.mul_assoc, Nat.mul_comm g p, Nat.mul_assoc, Nat.mul_div_cancel_left _ (by omega)]
    have h3 : a ^ ((N - 1) / p) % q = 1 % q := by
      rw [e1, Nat.pow_mul]
      exact np_pow_one hg k
    have := h2 q hqN h3
    omega
  · have hc : Nat.Coprime (p ^ e) t := Nat.Coprime.pow_left e (np_cop hp hpt)
    rw [ht] at he
    exact Nat.dvd_trans (hc.dvd_of_dvd_mul_right he) hgq
/-- the product of the powers p ^ e of a list -/
def npM : List (Nat × Nat) → Nat
  | [] => 1
  | (p, e) :: r => p ^ e * npM r
/-- primes that go up -/
def npUp : List (Nat × Nat) → Prop
  | [] => True
  | (p, _) :: r => npP p ∧ (∀ q, q ∈ r → p < q.1) ∧ npUp r
theorem npUp_prime : ∀ {l : List (Nat × Nat)}, npUp l → ∀ q, q ∈ l → npP q.1
  | [], _, q, hq => by cases hq
  | (p, e) :: r, h, q, hq => by
    rcases List.mem_cons.mp hq with rfl | hq
    · exact h.1
    · exact npUp_prime h.2.2 q hq
theorem npM_dvd : ∀ {l : List (Nat × Nat)} (q : Nat × Nat), q ∈ l → q.1 ^ q.2 ∣ npM l
  | [], q, hq => by cases hq
  | (p, e) :: r, q, hq => by
    rcases List.mem_cons.mp hq with rfl | hq
    · exact Nat.dvd_mul_right _ _
    · exact Nat.dvd_trans (npM_dvd q hq) (Nat.dvd_mul_left _ _)
theorem npM_prime {p : Nat} (hp : npP p) : ∀ {l : List (Nat × Nat)}, (∀ q, q ∈ l → npP q.1) → p ∣ npM l → ∃ q, q ∈ l ∧ q.1 = p
  | [], _, h => by
    have := Nat.le_of_dvd (by decide) h
    have := hp.1
    simp [npM] at *
    omega
  | (a, e) :: r, hl, h => by
    rcases np_euclid hp h with h | h
    · have h2 := np_euclid_pow hp e h
      exact ⟨(a, e), List.mem_cons_self, (np_eq hp (hl _ List.mem_cons_self) h2).symm⟩
    · obtain ⟨q, hq, e2⟩ := npM_prime hp (fun q hq => hl q (List.mem_cons_of_mem _ hq)) h
      exact ⟨q, List.mem_cons_of_mem _ hq, e2⟩
theorem npM_all {d : Nat} : ∀ {l : List (Nat × Nat)}, npUp l → (∀ q, q ∈ l → q.1 ^ q.2 ∣ d) → npM l ∣ d
  | [], _, _ => Nat.one_dvd d
  | (p, e) :: r, h, hd => by
    refine Nat.Coprime.mul_dvd_of_dvd_of_dvd ?_ (hd _ List.mem_cons_self) (npM_all h.2.2 (fun q hq => hd q (List.mem_cons_of_mem _ hq)))
    refine Nat.Coprime.pow_left e (np_cop h.1 (fun hx => ?_))
    obtain ⟨q, hq, e2⟩ := npM_prime h.1 (npUp_prime h.2.2) hx
    have := h.2.1 q hq
    omega
theorem np_least {N : Nat} (hN : 2 ≤ N) (hn : ¬ npP N) : ∃ q, npP q ∧ q ∣ N ∧ q * q ≤ N := by
  have h1 : ∃ d, d ∣ N ∧ d ≠ 1 ∧ d ≠ N := by
    apply Classical.byContradiction
    intro h
    apply hn
    refine ⟨hN, fun d hd => ?_⟩
    by_cases a : d = 1
    · exact Or.inl a
    · by_cases b : d = N
      · exact Or.inr b
      · exact absurd ⟨d, hd, a, b⟩ h
  obtain ⟨d, ⟨c, hc⟩, d1, d2⟩ := h1
  have hd0 : d ≠ 0 := by intro e; subst e; omega
  have hc0 : c ≠ 0 := by intro e; subst e; omega
  have hc1 : c ≠ 1 := by intro e; subst e; omega
  have key : ∀ x y : Nat, 2 ≤ x → x ≤ y → N = x * y → ∃ q, npP q ∧ q ∣ N ∧ q * q ≤ N := by
    intro x y hx hxy e
    obtain ⟨q, hq, hqx⟩ := np_factor x hx
    have hle := Nat.le_of_dvd (by omega) hqx
    refine ⟨q, hq, Nat.dvd_trans hqx ⟨y, e⟩, ?_⟩
    rw [e]
    exact Nat.mul_le_mul hle (Nat.le_trans hle hxy)
  rcases Nat.le_total d c with h | h
  · exact key d c (by omega) h hc
  · exact key c d (by omega) h (by rw [hc, Nat.mul_comm])
/-- Pocklington: F, the product of powers of primes, divides N - 1, F * F is above N, and each prime has a witness -/
theorem np_pock {N : Nat} (hN : 2 ≤ N) {l : List (Nat × Nat)} (hl : npUp l) (hpos : ∀ q, q ∈ l → 0 < q.2) (hF : npM l ∣ N - 1) (hF2 : N < npM l * npM l)
    (hw : ∀ q, q ∈ l → ∃ a, a ^ (N - 1) % N = 1 % N ∧ ∀ d, d ∣ N → a ^ ((N - 1) / q.1) % d = 1 % d → d = 1) : npP N := by
  apply Classical.byContradiction
  intro hn
  obtain ⟨q, hq, hqN, hqq⟩ := np_least hN hn
  have h1 : npM l ∣ q - 1 := by
    refine npM_all hl (fun x hx => ?_)
    obtain ⟨a, h1, h2⟩ := hw x hx
    have hx1 : x.1 ∣ x.1 ^ x.2 := by
      have := Nat.pow_dvd_pow x.1 (show 1 ≤ x.2 from hpos x hx)
      rwa [Nat.pow_one] at this
    exact np_part hq hqN (npUp_prime hl x hx) (Nat.dvd_trans (npM_dvd x hx) hF) (Nat.dvd_trans hx1 (Nat.dvd_trans (npM_dvd x hx) hF)) h1 h2
  have hq2 := hq.1
  have h2 := Nat.le_of_dvd (by omega) h1
  have h3 : npM l * npM l ≤ q * q := Nat.mul_le_mul (by omega) (by omega)
  omega
/-- Lucas: the powers of a come back to 1 at N - 1, and at no (N - 1) / p -/
theorem np_lucas {N a : Nat} (hN : 2 ≤ N) (h1 : a ^ (N - 1) % N = 1 % N) (h2 : ∀ p, npP p → p ∣ N - 1 → a ^ ((N - 1) / p) % N ≠ 1 % N) : npP N := by
  have hno : ∀ k, 0 < k → k < N - 1 → a ^ k % N ≠ 1 % N := by
    intro k hk hk2 hk3
    have hg := np_gcd_pow k (N - 1) hk3 h1
    obtain ⟨t, ht⟩ := Nat.gcd_dvd_right k (N - 1)
    have hgk := Nat.le_of_dvd hk (Nat.gcd_dvd_left k (N - 1))
    generalize Nat.gcd k (N - 1) = g at hg ht hgk
    have ht2 : 2 ≤ t := by
      rcases Nat.lt_or_ge t 2 with h | h
      · exfalso
        have : g * t ≤ g * 1 := Nat.mul_le_mul_left g (by omega)
        omega
      · exact h
    obtain ⟨p, hp, s, hs⟩ := np_factor t ht2
    have hp2 := hp.1
    have e1 : (N - 1) / p = g * s := by
      rw [ht, hs, ← Nat.mul_assoc, Nat.mul_comm g p, Nat.mul_assoc, Nat.mul_div_cancel_left _ (by omega)]
    refine h2 p hp ⟨g * s, ?_⟩ ?_
    · rw [ht, hs, ← Nat.mul_assoc, Nat.mul_comm g p, Nat.mul_assoc]
    · rw [e1, Nat.pow_mul]
      exact np_pow_one hg s
  have hca : ∀ k, Nat.Coprime N (a ^ k) := by
    intro k
    refine Nat.Coprime.pow_right k ?_
    rcases Nat.lt_or_ge (N - 1) 1 with h | h
    · omega
    · apply Classical.byContradiction
      intro hc
      have hd1 := Nat.gcd_dvd_left N a
      have hd2 := Nat.gcd_dvd_right N a
      have hg0 : Nat.gcd N a ≠ 1 := hc
      generalize Nat.gcd N a = g at hd1 hd2 hg0
      have h3 : g ∣ a ^ (N - 1) := Nat.dvd_trans hd2 (by have := Nat.pow_dvd_pow a h; rwa [Nat.pow_one] at this)
      have h4 : g ∣ a ^ (N - 1) % N := (Nat.dvd_mod_iff hd1).mpr h3
      rw [h1, Nat.mod_eq_of_lt (by omega)] at h4
      exact hg0 (Nat.dvd_one.mp h4)
  have hnd : ((List.range (N - 1)).map (fun k => a ^ k % N)).Nodup := by
    refine np_nodup_map _ List.nodup_range ?_
    have key : ∀ x y, x < y → y < N - 1 → a ^ x % N = a ^ y % N → False := by
      intro x y hxy hy e
      have e2 : a ^ y = a ^ x * a ^ (y - x) := by rw [← Nat.pow_add]; congr 1; omega
      rw [e2] at e
      have e3 : (a ^ x * 1) % N = (a ^ x * a ^ (y - x)) % N := by rw [Nat.mul_one]; exact e
      exact hno (y - x) (by omega) (by omega) (np_cancel (hca x) e3).symm
    intro x hx y hy e
    rw [List.mem_range] at hx hy
    rcases Nat.lt_trichotomy x y with h | h | h
    · exact (key x y h hy e).elim
    · exact h
    · exact (key y x h hx e.symm).elim
  have hperm : List.Perm ((List.range (N - 1)).map (fun k => a ^ k % N)) (List.range' 1 (N - 1)) := by
    refine np_perm _ _ hnd (fun z hz => ?_) (by simp)
    obtain ⟨k, hk, rfl⟩ := List.mem_map.mp hz
    rw [List.mem_range'_1]
    have hlt := Nat.mod_lt (a ^ k) (show 0 < N by omega)
    refine ⟨?_, by omega⟩
    apply Nat.pos_of_ne_zero
    intro e
    have h3 : N ∣ a ^ k := Nat.dvd_of_mod_eq_zero e
    have := (hca k).eq_one_of_dvd h3
    omega
  refine ⟨hN, fun d hd => ?_⟩
  by_cases hdN : d = N
  · exact Or.inr hdN
  · left
    have hd1 := Nat.le_of_dvd (by omega) hd
    have hd0 : d ≠ 0 := by
      intro e
      subst e
      have := Nat.eq_zero_of_zero_dvd hd
      omega
    have hm : d ∈ List.range' 1 (N - 1) := by rw [List.mem_range'_1]; omega
    obtain ⟨k, hk, e⟩ := List.mem_map.mp (hperm.mem_iff.mpr hm)
    have h3 : d ∣ a ^ k := by
      have h4 : d ∣ a ^ k % N := e ▸ Nat.dvd_refl _
      exact (Nat.dvd_mod_iff hd).mp h4
    have hc := hca k
    exact Nat.Coprime.eq_one_of_dvd (Nat.Coprime.coprime_dvd_left hd hc) h3
end
section
/-! numbers written with digits: pv B d n, the value of the n lowest digits d to the base B -/
def pv (B : Nat) (d : Nat → Nat) : Nat → Nat
  | 0 => 0
  | n + 1 => pv B d n + d n * B ^ n
theorem pv_0 (B : Nat) (d : Nat → Nat) : pv B d 0 = 0 := rfl
theorem pv_s (B : Nat) (d : Nat → Nat) (n : Nat) : pv B d (n + 1) = pv B d n + d n * B ^ n := rfl
theorem pv_congr {B : Nat} {d e : Nat → Nat} : ∀ {n : Nat}, (∀ i, i < n → d i = e i) → pv B d n = pv B e n
  | 0, _ => rfl
  | n + 1, h => by
    rw [pv_s, pv_s, pv_congr (fun i hi => h i (by omega)), h n (by omega)]
theorem pv_lt {B : Nat} {d : Nat → Nat} : ∀ {n : Nat}, (∀ i, i < n → d i < B) → pv B d n < B ^ n
  | 0, _ => by simp [pv]
  | n + 1, h => by
    have ih := pv_lt (n := n) (fun i hi => h i (by omega))
    have hn := h n (by omega)
    rw [pv_s, Nat.pow_succ]
    have h2 : (d n + 1) * B ^ n ≤ B * B ^ n := Nat.mul_le_mul_right _ hn
    rw [Nat.add_mul, Nat.one_mul] at h2
    rw [Nat.mul_comm (B ^ n) B]
    omega
theorem pv_add (B : Nat) (d : Nat → Nat) (m : Nat) : ∀ n : Nat, pv B d (m + n) = pv B d m + B ^ m * pv B (fun i => d (m + i)) n
  | 0 => by simp [pv]
  | n + 1 => by
    rw [← Nat.add_assoc, pv_s, pv_add B d m n, pv_s, Nat.mul_add, Nat.pow_add]
    simp only [Nat.mul_comm, Nat.mul_left_comm, Nat.mul_assoc, Nat.add_assoc]
theorem pv_zeros {B : Nat} {d : Nat → Nat} : ∀ {n : Nat}, (∀ i, i < n → d i = 0) → pv B d n = 0
  | 0, _ => rfl
  | n + 1, h => by rw [pv_s, pv_zeros (fun i hi => h i (by omega)), h n (by omega)]; simp
theorem pv_ext {B : Nat} {d : Nat → Nat} {m n : Nat} (hmn : m ≤ n) (h : ∀ i, m ≤ i → i < n → d i = 0) : pv B d n = pv B d m := by
  obtain ⟨k, rfl⟩ := Nat.exists_eq_add_of_le hmn
  rw [pv_add, pv_zeros (fun i hi => h (m + i) (by omega) (by omega))]
  simp
theorem pv_le {B : Nat} {d : Nat → Nat} {m n : Nat} (hmn : m ≤ n) : pv B d m ≤ pv B d n := by
  obtain ⟨k, rfl⟩ := Nat.exists_eq_add_of_le hmn
  rw [pv_add]
  omega
theorem pv_ge {B : Nat} {d : Nat → Nat} {k n : Nat} (hk : k < n) : d k * B ^ k ≤ pv B d n := by
  have h := pv_le (B := B) (d := d) (show k + 1 ≤ n from hk)
  rw [pv_s] at h
  omega
theorem pv_eq0 {B : Nat} (hB : 0 < B) {d : Nat → Nat} {n : Nat} (h : pv B d n = 0) : ∀ i, i < n → d i = 0 := by
  intro i hi
  have h1 := pv_ge (B := B) (d := d) hi
  rw [h] at h1
  have h2 : 0 < B ^ i := Nat.pow_pos hB
  rcases Nat.eq_zero_or_pos (d i) with h3 | h3
  · exact h3
  · have := Nat.mul_pos h3 h2
    omega
/-- the highest digit in which two numbers differ decides -/
theorem pv_lex {B : Nat} {d e : Nat → Nat} {k n : Nat} (hk : k < n) (hd : ∀ i, i < n → d i < B) (hs : ∀ i, k < i → i < n → d i = e i) (hlt : d k < e k) : pv B d n < pv B e n := by
  obtain ⟨m, rfl⟩ := Nat.exists_eq_add_of_le (show k + 1 ≤ n from hk)
  rw [pv_add, pv_add B e]
  have h1 : pv B (fun i => d (k + 1 + i)) m = pv B (fun i => e (k + 1 + i)) m := pv_congr (fun i hi => hs _ (by omega) (by omega))
  rw [h1]
  have h2 := pv_lt (B := B) (d := d) (n := k) (fun i hi => hd i (by omega))
  have h3 : (d k + 1) * B ^ k ≤ e k * B ^ k := Nat.mul_le_mul_right _ hlt
  rw [Nat.add_mul, Nat.one_mul] at h3
  rw [pv_s, pv_s]
  omega
theorem pv_inj {B : Nat} {d e : Nat → Nat} : ∀ {n : Nat}, (∀ i, i < n → d i < B) → (∀ i, i < n → e i < B) → pv B d n = pv B e n → ∀ i, i < n → d i = e i
  | 0, _, _, _, i, hi => by omega
  | n + 1, hd, he, h, i, hi => by
    have top : d n = e n := by
      rcases Nat.lt_trichotomy (d n) (e n) with h1 | h1 | h1
      · have := pv_lex (B := B) (k := n) (n := n + 1) (by omega) hd (fun i h2 h3 => by omega) h1
        omega
      · exact h1
      · have := pv_lex (B := B) (k := n) (n := n + 1) (by omega) he (fun i h2 h3 => by omega) h1
        omega
    rw [pv_s, pv_s, top] at h
    rcases Nat.lt_or_ge i n with h1 | h1
    · exact pv_inj (n := n) (fun i hi => hd i (by omega)) (fun i hi => he i (by omega)) (by omega) i h1
    · have : i = n := by omega
      rw [this]
      exact top
/-- one digit changed -/
theorem pv_up {B : Nat} {d : Nat → Nat} {k x : Nat} {n : Nat} (hk : n ≤ k) : pv B (fun i => if i = k then x else d i) n = pv B d n := pv_congr (fun i hi => if_neg (by omega))
/-- digits of a number -/
def dgt (B v i : Nat) : Nat := v / B ^ i % B
theorem pv_dgt {B : Nat} (v : Nat) : ∀ n : Nat, pv B (dgt B v) n = v % B ^ n
  | 0 => by simp [pv, Nat.mod_one]
  | n + 1 => by
    rw [pv_s, pv_dgt v n, Nat.mod_pow_succ, dgt, Nat.mul_comm]
end
section
/-! names, and the words of the tables that the code needs: printed by wip/gen/names.py -/
def dzGW : List Cond := lw_tbl.filter goodWord
theorem dzGW_in {w : Cond} {i : Nat} (h : tables_1[i]? = some w) (hg : goodWord w = true) : w ∈ dzGW := List.mem_filter.mpr ⟨List.mem_append_right _ (List.mem_of_getElem? h), hg⟩
theorem dzGW_sel {q : MethodName × Nat} (h : q ∈ lw_privs) : Cond.selects q.1.cls q.1 q.1 ∈ dzGW := List.mem_filter.mpr ⟨List.mem_append_left _ (List.mem_map.mpr ⟨q, h, rfl⟩), by rfl⟩
def zc_0 : u_T := fun k => match k with
  | 0 => ("PrimeCertificates", "registers", "[[I", true)
  | 1 => ("PrimeCertificates", "answer", "[I", true)
  | 2 => ("PrimeCertificates", "remainder", "[I", true)
  | 3 => ("PrimeCertificates", "sums", "LPrimeCertificates$Sums;", true)
  | 4 => ("PrimeCertificates", "tape", "LPrimeCertificates$Tape;", true)
  | 5 => ("PrimeCertificates", "lines", "LPrimeCertificates$Lines;", true)
  | 6 => ("PrimeCertificates", "checker", "LPrimeCertificates$Checker;", true)
  | _ => ("PrimeCertificates", "maker", "LPrimeCertificates$Maker;", true)
def zy_0 : Nat → FieldType := fun k => match k with
  | 0 => .array (.array .int)
  | 1 => .array .int
  | 2 => .array .int
  | 3 => .object "PrimeCertificates$Sums"
  | 4 => .object "PrimeCertificates$Tape"
  | 5 => .object "PrimeCertificates$Lines"
  | 6 => .object "PrimeCertificates$Checker"
  | _ => .object "PrimeCertificates$Maker"
theorem zn_0 : ∀ a, a < 8 → ∀ b, b < 8 → a ≠ b → (zc_0 a).2.1 ≠ (zc_0 b).2.1 := by decide +kernel
theorem zp_0 : ∀ k, k < 8 → parseFieldDescriptor (zc_0 k).2.2.1 = some (zy_0 k) := by decide +kernel
def zc_1 : u_T := fun k => match k with
  | 0 => ("PrimeCertificatesModel", "digits", "[I", true)
  | 1 => ("PrimeCertificatesModel", "tape", "[I", true)
  | 2 => ("PrimeCertificatesModel", "size", "I", false)
  | 3 => ("PrimeCertificatesModel", "place", "I", false)
  | 4 => ("PrimeCertificatesModel", "lines", "I", false)
  | 5 => ("PrimeCertificatesModel", "told", "I", false)
  | 6 => ("PrimeCertificatesModel", "cursor", "I", false)
  | 7 => ("PrimeCertificatesModel", "fault", "I", false)
  | 8 => ("PrimeCertificatesModel", "found", "I", false)
  | 9 => ("PrimeCertificatesModel", "foundLines", "[I", true)
  | 10 => ("PrimeCertificatesModel", "foundOften", "[I", true)
  | _ => ("PrimeCertificatesModel", "foundWitnesses", "[I", true)
def zy_1 : Nat → FieldType := fun k => match k with
  | 0 => .array .int
  | 1 => .array .int
  | 2 => .int
  | 3 => .int
  | 4 => .int
  | 5 => .int
  | 6 => .int
  | 7 => .int
  | 8 => .int
  | 9 => .array .int
  | 10 => .array .int
  | _ => .array .int
theorem zn_1 : ∀ a, a < 12 → ∀ b, b < 12 → a ≠ b → (zc_1 a).2.1 ≠ (zc_1 b).2.1 := by decide +kernel
theorem zp_1 : ∀ k, k < 12 → parseFieldDescriptor (zc_1 k).2.2.1 = some (zy_1 k) := by decide +kernel
def zc_2 : u_T := fun k => match k with
  | 0 => ("PrimeCertificates$Checker", "tape", "LPrimeCertificates$Tape;", true)
  | 1 => ("PrimeCertificates$Checker", "lines", "LPrimeCertificates$Lines;", true)
  | 2 => ("PrimeCertificates$Checker", "sums", "LPrimeCertificates$Sums;", true)
  | 3 => ("PrimeCertificates$Checker", "trial", "LPrimeCertificates$Trial;", true)
  | 4 => ("PrimeCertificates$Checker", "factors", "LPrimeCertificates$Factors;", true)
  | 5 => ("PrimeCertificates$Checker", "product", "[I", true)
  | 6 => ("PrimeCertificates$Checker", "next", "I", false)
  | 7 => ("PrimeCertificates$Checker", "taken", "I", false)
  | 8 => ("PrimeCertificates$Checker", "kind", "I", false)
  | 9 => ("PrimeCertificates$Checker", "root", "I", false)
  | 10 => ("PrimeCertificates$Checker", "countPlace", "I", false)
  | 11 => ("PrimeCertificates$Checker", "fault", "I", false)
  | _ => ("PrimeCertificates$Checker", "faultPlace", "I", false)
def zy_2 : Nat → FieldType := fun k => match k with
  | 0 => .object "PrimeCertificates$Tape"
  | 1 => .object "PrimeCertificates$Lines"
  | 2 => .object "PrimeCertificates$Sums"
  | 3 => .object "PrimeCertificates$Trial"
  | 4 => .object "PrimeCertificates$Factors"
  | 5 => .array .int
  | 6 => .int
  | 7 => .int
  | 8 => .int
  | 9 => .int
  | 10 => .int
  | 11 => .int
  | _ => .int
theorem zn_2 : ∀ a, a < 13 → ∀ b, b < 13 → a ≠ b → (zc_2 a).2.1 ≠ (zc_2 b).2.1 := by decide +kernel
theorem zp_2 : ∀ k, k < 13 → parseFieldDescriptor (zc_2 k).2.2.1 = some (zy_2 k) := by decide +kernel
def zc_3 : u_T := fun k => match k with
  | 0 => ("PrimeCertificates$Factors", "lines", "[I", true)
  | 1 => ("PrimeCertificates$Factors", "exponents", "[I", true)
  | 2 => ("PrimeCertificates$Factors", "witnesses", "[I", true)
  | _ => ("PrimeCertificates$Factors", "count", "I", false)
def zy_3 : Nat → FieldType := fun k => match k with
  | 0 => .array .int
  | 1 => .array .int
  | 2 => .array .int
  | _ => .int
theorem zn_3 : ∀ a, a < 4 → ∀ b, b < 4 → a ≠ b → (zc_3 a).2.1 ≠ (zc_3 b).2.1 := by decide +kernel
theorem zp_3 : ∀ k, k < 4 → parseFieldDescriptor (zc_3 k).2.2.1 = some (zy_3 k) := by decide +kernel
def zc_4 : u_T := fun k => match k with
  | 0 => ("PrimeCertificates$Lines", "numbers", "[[I", true)
  | 1 => ("PrimeCertificates$Lines", "ends", "[I", true)
  | 2 => ("PrimeCertificates$Lines", "count", "I", false)
  | _ => ("PrimeCertificates$Lines", "told", "I", false)
def zy_4 : Nat → FieldType := fun k => match k with
  | 0 => .array (.array .int)
  | 1 => .array .int
  | 2 => .int
  | _ => .int
theorem zn_4 : ∀ a, a < 4 → ∀ b, b < 4 → a ≠ b → (zc_4 a).2.1 ≠ (zc_4 b).2.1 := by decide +kernel
theorem zp_4 : ∀ k, k < 4 → parseFieldDescriptor (zc_4 k).2.2.1 = some (zy_4 k) := by decide +kernel
def zc_5 : u_T := fun k => match k with
  | 0 => ("PrimeCertificates$Maker", "tape", "LPrimeCertificates$Tape;", true)
  | 1 => ("PrimeCertificates$Maker", "lines", "LPrimeCertificates$Lines;", true)
  | 2 => ("PrimeCertificates$Maker", "sums", "LPrimeCertificates$Sums;", true)
  | 3 => ("PrimeCertificates$Maker", "trial", "LPrimeCertificates$Trial;", true)
  | 4 => ("PrimeCertificates$Maker", "factors", "LPrimeCertificates$Factors;", true)
  | 5 => ("PrimeCertificates$Maker", "left", "[I", true)
  | 6 => ("PrimeCertificates$Maker", "share", "[I", true)
  | 7 => ("PrimeCertificates$Maker", "rest", "[I", true)
  | 8 => ("PrimeCertificates$Maker", "small", "[I", true)
  | 9 => ("PrimeCertificates$Maker", "newLines", "I", false)
  | _ => ("PrimeCertificates$Maker", "root", "I", false)
def zy_5 : Nat → FieldType := fun k => match k with
  | 0 => .object "PrimeCertificates$Tape"
  | 1 => .object "PrimeCertificates$Lines"
  | 2 => .object "PrimeCertificates$Sums"
  | 3 => .object "PrimeCertificates$Trial"
  | 4 => .object "PrimeCertificates$Factors"
  | 5 => .array .int
  | 6 => .array .int
  | 7 => .array .int
  | 8 => .array .int
  | 9 => .int
  | _ => .int
theorem zn_5 : ∀ a, a < 11 → ∀ b, b < 11 → a ≠ b → (zc_5 a).2.1 ≠ (zc_5 b).2.1 := by decide +kernel
theorem zp_5 : ∀ k, k < 11 → parseFieldDescriptor (zc_5 k).2.2.1 = some (zy_5 k) := by decide +kernel
def zc_6 : u_T := fun k => match k with
  | 0 => ("PrimeCertificates$Sums", "wide", "[I", true)
  | 1 => ("PrimeCertificates$Sums", "goes", "[I", true)
  | 2 => ("PrimeCertificates$Sums", "divisor", "[I", true)
  | 3 => ("PrimeCertificates$Sums", "divisorWords", "I", false)
  | 4 => ("PrimeCertificates$Sums", "shift", "I", false)
  | 5 => ("PrimeCertificates$Sums", "residue", "[I", true)
  | 6 => ("PrimeCertificates$Sums", "power", "[I", true)
  | 7 => ("PrimeCertificates$Sums", "larger", "[I", true)
  | _ => ("PrimeCertificates$Sums", "smaller", "[I", true)
def zy_6 : Nat → FieldType := fun k => match k with
  | 0 => .array .int
  | 1 => .array .int
  | 2 => .array .int
  | 3 => .int
  | 4 => .int
  | 5 => .array .int
  | 6 => .array .int
  | 7 => .array .int
  | _ => .array .int
theorem zn_6 : ∀ a, a < 9 → ∀ b, b < 9 → a ≠ b → (zc_6 a).2.1 ≠ (zc_6 b).2.1 := by decide +kernel
theorem zp_6 : ∀ k, k < 9 → parseFieldDescriptor (zc_6 k).2.2.1 = some (zy_6 k) := by decide +kernel
def zc_7 : u_T := fun k => match k with
  | 0 => ("PrimeCertificates$Tape", "ints", "[I", true)
  | _ => ("PrimeCertificates$Tape", "size", "I", false)
def zy_7 : Nat → FieldType := fun k => match k with
  | 0 => .array .int
  | _ => .int
theorem zn_7 : ∀ a, a < 2 → ∀ b, b < 2 → a ≠ b → (zc_7 a).2.1 ≠ (zc_7 b).2.1 := by decide +kernel
theorem zp_7 : ∀ k, k < 2 → parseFieldDescriptor (zc_7 k).2.2.1 = some (zy_7 k) := by decide +kernel
def zc_8 : u_T := fun k => match k with
  | 0 => ("PrimeCertificates$Trial", "sums", "LPrimeCertificates$Sums;", true)
  | 1 => ("PrimeCertificates$Trial", "number", "[I", true)
  | 2 => ("PrimeCertificates$Trial", "oneLess", "[I", true)
  | 3 => ("PrimeCertificates$Trial", "one", "[I", true)
  | 4 => ("PrimeCertificates$Trial", "base", "[I", true)
  | 5 => ("PrimeCertificates$Trial", "exponent", "[I", true)
  | _ => ("PrimeCertificates$Trial", "power", "[I", true)
def zy_8 : Nat → FieldType := fun k => match k with
  | 0 => .object "PrimeCertificates$Sums"
  | 1 => .array .int
  | 2 => .array .int
  | 3 => .array .int
  | 4 => .array .int
  | 5 => .array .int
  | _ => .array .int
theorem zn_8 : ∀ a, a < 7 → ∀ b, b < 7 → a ≠ b → (zc_8 a).2.1 ≠ (zc_8 b).2.1 := by decide +kernel
theorem zp_8 : ∀ k, k < 7 → parseFieldDescriptor (zc_8 k).2.2.1 = some (zy_8 k) := by decide +kernel
abbrev zCl : List vw_C := [("PrimeCertificates", zc_0, 8), ("PrimeCertificatesModel", zc_1, 12), ("PrimeCertificates$Checker", zc_2, 13), ("PrimeCertificates$Factors", zc_3, 4), ("PrimeCertificates$Lines", zc_4, 4), ("PrimeCertificates$Maker", zc_5, 11), ("PrimeCertificates$Sums", zc_6, 9), ("PrimeCertificates$Tape", zc_7, 2), ("PrimeCertificates$Trial", zc_8, 7)]
def zTy (ci : Nat) : Nat → FieldType := [zy_0, zy_1, zy_2, zy_3, zy_4, zy_5, zy_6, zy_7, zy_8].getD ci (fun _ => .int)
def zt_y : List MethodName := [⟨"PrimeCertificates$Sums", "<init>", "()V"⟩, ⟨"PrimeCertificates$Tape", "<init>", "()V"⟩, ⟨"PrimeCertificates$Lines", "<init>", "()V"⟩, ⟨"PrimeCertificates$Trial", "<init>", "(LPrimeCertificates$Sums;)V"⟩, ⟨"PrimeCertificates$Factors", "<init>", "()V"⟩, ⟨"PrimeCertificates$Checker", "<init>", "(LPrimeCertificates$Tape;LPrimeCertificates$Lines;LPrimeCertificates$Sums;LPrimeCertificates$Trial;)V"⟩, ⟨"PrimeCertificates$Maker", "<init>", "(LPrimeCertificates$Tape;LPrimeCertificates$Lines;LPrimeCertificates$Sums;LPrimeCertificates$Trial;)V"⟩, ⟨"PrimeCertificates", "<init>", "()V"⟩, ⟨"PrimeCertificates", "isRegister", "(I)Z"⟩, ⟨"PrimeCertificates", "isWord", "(I)Z"⟩, ⟨"PrimeCertificates", "put", "(III)Z"⟩, ⟨"PrimeCertificates", "get", "(II)I"⟩, ⟨"PrimeCertificates", "areRegisters", "(III)Z"⟩, ⟨"PrimeCertificates$Sums", "sum", "([I[I[I)Z"⟩, ⟨"PrimeCertificates$Sums", "copy", "([I[I)V"⟩, ⟨"PrimeCertificates", "keepAnswer", "(I)I"⟩, ⟨"PrimeCertificates", "add", "(III)I"⟩, ⟨"PrimeCertificates$Sums", "difference", "([I[I[I)Z"⟩, ⟨"PrimeCertificates", "subtract", "(III)I"⟩, ⟨"PrimeCertificates$Sums", "usedWords", "([I)I"⟩, ⟨"java/util/Arrays", "fill", "([II)V"⟩, ⟨"PrimeCertificates$Sums", "setWideToProduct", "([I[I)V"⟩, ⟨"PrimeCertificates$Sums", "product", "([I[I[I)Z"⟩, ⟨"PrimeCertificates", "multiply", "(III)I"⟩, ⟨"PrimeCertificates$Sums", "isZero", "([I)Z"⟩, ⟨"PrimeCertificates$Sums", "leadingZeros", "(I)I"⟩, ⟨"PrimeCertificates$Sums", "shiftUp", "([II[I)V"⟩, ⟨"PrimeCertificates$Sums", "setDivisor", "([I)V"⟩, ⟨"PrimeCertificates$Sums", "setWide", "([I)V"⟩, ⟨"PrimeCertificates$Sums", "isAbove", "(JJ)Z"⟩, ⟨"PrimeCertificates$Sums", "guessTimes", "(I)J"⟩, ⟨"PrimeCertificates$Sums", "takeAway", "(JI)Z"⟩, ⟨"PrimeCertificates$Sums", "giveBack", "(I)V"⟩, ⟨"PrimeCertificates$Sums", "shiftWideDown", "()V"⟩, ⟨"PrimeCertificates$Sums", "reduceWide", "()V"⟩, ⟨"PrimeCertificates$Sums", "quotient", "([I[I[I[I)V"⟩, ⟨"PrimeCertificates", "divide", "(IIII)I"⟩, ⟨"PrimeCertificates$Sums", "setSmall", "([II)V"⟩, ⟨"PrimeCertificates$Sums", "powerModulo", "([I[I[I[I)V"⟩, ⟨"PrimeCertificates", "power", "(IIII)I"⟩, ⟨"PrimeCertificates$Sums", "greatestDivisor", "([I[I[I)V"⟩, ⟨"PrimeCertificates", "common", "(III)I"⟩, ⟨"PrimeCertificates$Sums", "order", "([I[I)I"⟩, ⟨"PrimeCertificates", "compare", "(II)I"⟩, ⟨"PrimeCertificates$Tape", "room", "()I"⟩, ⟨"PrimeCertificates$Tape", "append", "(I)V"⟩, ⟨"PrimeCertificates", "say", "(I)I"⟩, ⟨"PrimeCertificates$Lines", "forgetBehind", "(I)V"⟩, ⟨"PrimeCertificates", "cut", "(I)Z"⟩, ⟨"PrimeCertificates", "length", "()I"⟩, ⟨"PrimeCertificates", "at", "(I)I"⟩, ⟨"PrimeCertificates$Lines", "end", "()I"⟩, ⟨"PrimeCertificates$Checker", "refuse", "(II)Z"⟩, ⟨"PrimeCertificates$Checker", "take", "()Z"⟩, ⟨"PrimeCertificates", "isSmallPrime", "(I)Z"⟩, ⟨"PrimeCertificates$Checker", "refuseTaken", "(I)Z"⟩, ⟨"PrimeCertificates$Checker", "readSmallPrime", "([I)Z"⟩, ⟨"PrimeCertificates$Sums", "isAtMost", "([II)Z"⟩, ⟨"PrimeCertificates$Checker", "readNumber", "([I)Z"⟩, ⟨"PrimeCertificates$Checker", "isWitness", "(I[I)Z"⟩, ⟨"PrimeCertificates$Checker", "readRoot", "([I)Z"⟩, ⟨"PrimeCertificates$Checker", "factorNumber", "(I)[I"⟩, ⟨"PrimeCertificates$Checker", "readFactorLine", "(II)Z"⟩, ⟨"PrimeCertificates$Checker", "readExponent", "(I)Z"⟩, ⟨"PrimeCertificates$Checker", "readFactors", "(I)Z"⟩, ⟨"PrimeCertificates$Checker", "readLine", "(I)Z"⟩, ⟨"PrimeCertificates$Trial", "begin", "([I)V"⟩, ⟨"PrimeCertificates$Checker", "multiplyFactors", "()Z"⟩, ⟨"PrimeCertificates$Sums", "divides", "([I[I)Z"⟩, ⟨"PrimeCertificates$Sums", "squareIsAbove", "([I[I)Z"⟩, ⟨"PrimeCertificates$Checker", "productHolds", "()Z"⟩, ⟨"PrimeCertificates$Sums", "isOne", "([I)Z"⟩, ⟨"PrimeCertificates$Trial", "closes", "(I)Z"⟩, ⟨"PrimeCertificates$Trial", "parts", "(I[I)Z"⟩, ⟨"PrimeCertificates$Checker", "factorPlace", "(I)I"⟩, ⟨"PrimeCertificates$Checker", "rootHolds", "()Z"⟩, ⟨"PrimeCertificates$Trial", "partsEverywhere", "(I[I)Z"⟩, ⟨"PrimeCertificates$Checker", "witnessesHold", "()Z"⟩, ⟨"PrimeCertificates$Lines", "keepNext", "(I)V"⟩, ⟨"PrimeCertificates$Checker", "findFault", "()I"⟩, ⟨"PrimeCertificates", "check", "()I"⟩, ⟨"PrimeCertificates", "place", "()I"⟩, ⟨"PrimeCertificates", "tell", "(II)Z"⟩, ⟨"PrimeCertificates$Lines", "lineOf", "([I)I"⟩, ⟨"PrimeCertificates$Maker", "planSmallLine", "([I)Z"⟩, ⟨"PrimeCertificates$Maker", "hasRoom", "(I)Z"⟩, ⟨"PrimeCertificates$Maker", "writeSmallLines", "()I"⟩, ⟨"PrimeCertificates$Maker", "divideOut", "([I)I"⟩, ⟨"PrimeCertificates$Maker", "factorNumber", "(I)[I"⟩, ⟨"PrimeCertificates$Maker", "insertFactor", "(II)Z"⟩, ⟨"PrimeCertificates$Maker", "insertPrime", "(I)Z"⟩, ⟨"PrimeCertificates$Maker", "findFactors", "()Z"⟩, ⟨"PrimeCertificates$Maker", "lastLineInts", "(Z)I"⟩, ⟨"PrimeCertificates$Maker", "factorsSuffice", "()Z"⟩, ⟨"PrimeCertificates$Maker", "findRoot", "()Z"⟩, ⟨"PrimeCertificates$Maker", "findWitnesses", "()Z"⟩, ⟨"PrimeCertificates$Maker", "writeLastLine", "(Z)I"⟩, ⟨"PrimeCertificates$Maker", "lineFor", "([I)I"⟩, ⟨"PrimeCertificates", "prove", "(I)I"⟩, ⟨"PrimeCertificatesModel", "set", "(IJ)V"⟩, ⟨"PrimeCertificatesModel", "<init>", "()V"⟩, ⟨"PrimeCertificatesModel", "copy", "(II)V"⟩, ⟨"PrimeCertificatesModel", "order", "(II)I"⟩, ⟨"PrimeCertificatesModel", "lengthOf", "(I)I"⟩, ⟨"PrimeCertificatesModel", "isZero", "(I)Z"⟩, ⟨"PrimeCertificatesModel", "raise", "(II)V"⟩, ⟨"PrimeCertificatesModel", "lower", "(II)V"⟩, ⟨"PrimeCertificatesModel", "times", "(III)V"⟩, ⟨"PrimeCertificatesModel", "guess", "(IIII)I"⟩, ⟨"PrimeCertificatesModel", "away", "(IIIII)V"⟩, ⟨"PrimeCertificatesModel", "isOver", "(IIII)Z"⟩, ⟨"PrimeCertificatesModel", "part", "(IIII)V"⟩, ⟨"PrimeCertificatesModel", "bit", "(II)I"⟩, ⟨"PrimeCertificatesModel", "raiseTo", "(IIII)V"⟩, ⟨"PrimeCertificatesModel", "divisor", "(III)V"⟩, ⟨"PrimeCertificatesModel", "fits", "(I)Z"⟩, ⟨"PrimeCertificatesModel", "isOne", "(I)Z"⟩, ⟨"PrimeCertificatesModel", "isRegister", "(I)Z"⟩, ⟨"PrimeCertificatesModel", "put", "(III)Z"⟩, ⟨"PrimeCertificatesModel", "get", "(II)I"⟩, ⟨"PrimeCertificatesModel", "are", "(III)Z"⟩, ⟨"PrimeCertificatesModel", "give", "(II)I"⟩, ⟨"PrimeCertificatesModel", "add", "(III)I"⟩, ⟨"PrimeCertificatesModel", "subtract", "(III)I"⟩, ⟨"PrimeCertificatesModel", "multiply", "(III)I"⟩, ⟨"PrimeCertificatesModel", "divide", "(IIII)I"⟩, ⟨"PrimeCertificatesModel", "power", "(IIII)I"⟩, ⟨"PrimeCertificatesModel", "common", "(III)I"⟩, ⟨"PrimeCertificatesModel", "compare", "(II)I"⟩, ⟨"PrimeCertificatesModel", "say", "(I)I"⟩, ⟨"PrimeCertificatesModel", "cut", "(I)Z"⟩, ⟨"PrimeCertificatesModel", "length", "()I"⟩, ⟨"PrimeCertificatesModel", "at", "(I)I"⟩, ⟨"PrimeCertificatesModel", "fail", "(II)V"⟩, ⟨"PrimeCertificatesModel", "isGood", "()Z"⟩, ⟨"PrimeCertificatesModel", "next", "()I"⟩, ⟨"PrimeCertificatesModel", "nextIn", "(II)I"⟩, ⟨"PrimeCertificatesModel", "isSmallPrime", "(I)Z"⟩, ⟨"PrimeCertificatesModel", "lineOne", "()V"⟩, ⟨"PrimeCertificatesModel", "number", "()V"⟩, ⟨"PrimeCertificatesModel", "witness", "(I)V"⟩, ⟨"PrimeCertificatesModel", "factors", "(I)V"⟩, ⟨"PrimeCertificatesModel", "product", "(II)Z"⟩, ⟨"PrimeCertificatesModel", "isWhole", "()Z"⟩, ⟨"PrimeCertificatesModel", "isRight", "(IZ)Z"⟩, ⟨"PrimeCertificatesModel", "lineTwo", "()V"⟩, ⟨"PrimeCertificatesModel", "lineThree", "()V"⟩, ⟨"PrimeCertificatesModel", "check", "()I"⟩, ⟨"PrimeCertificatesModel", "place", "()I"⟩, ⟨"PrimeCertificatesModel", "tell", "(II)Z"⟩, ⟨"PrimeCertificatesModel", "lineOf", "(I)I"⟩, ⟨"PrimeCertificatesModel", "sayOne", "(I)Z"⟩, ⟨"PrimeCertificatesModel", "often", "(I)I"⟩, ⟨"PrimeCertificatesModel", "sort", "(I)V"⟩, ⟨"PrimeCertificatesModel", "find", "()Z"⟩, ⟨"PrimeCertificatesModel", "wholeWitness", "()I"⟩, ⟨"PrimeCertificatesModel", "partWitnesses", "()Z"⟩, ⟨"PrimeCertificatesModel", "sayLine", "(II)Z"⟩, ⟨"PrimeCertificatesModel", "make", "()Z"⟩, ⟨"PrimeCertificatesModel", "prove", "(I)I"⟩, ⟨"PrimeCertificatesLaw", "law", "([I)Z"⟩]
def zt_by : List ByteArray := [prog_6_method_1_code, prog_7_method_1_code, prog_4_method_1_code, prog_8_method_1_code, prog_3_method_1_code, prog_2_method_1_code, prog_5_method_1_code, prog_1_method_1_code, prog_1_method_19_code, prog_1_method_20_code, prog_1_method_2_code, prog_1_method_3_code, prog_1_method_21_code, prog_6_method_9_code, prog_6_method_6_code, prog_1_method_22_code, prog_1_method_4_code, prog_6_method_10_code, prog_1_method_5_code, prog_6_method_2_code, prog_13_method_103_code, prog_6_method_18_code, prog_6_method_11_code, prog_1_method_6_code, prog_6_method_3_code, prog_6_method_20_code, prog_6_method_22_code, prog_6_method_19_code, prog_6_method_17_code, prog_6_method_25_code, prog_6_method_24_code, prog_6_method_26_code, prog_6_method_27_code, prog_6_method_23_code, prog_6_method_21_code, prog_6_method_13_code, prog_1_method_7_code, prog_6_method_7_code, prog_6_method_15_code, prog_1_method_8_code, prog_6_method_16_code, prog_1_method_9_code, prog_6_method_8_code, prog_1_method_10_code, prog_7_method_2_code, prog_7_method_3_code, prog_1_method_11_code, prog_4_method_4_code, prog_1_method_12_code, prog_1_method_13_code, prog_1_method_14_code, prog_4_method_2_code, prog_2_method_3_code, prog_2_method_5_code, prog_1_method_23_code, prog_2_method_4_code, prog_2_method_7_code, prog_6_method_5_code, prog_2_method_8_code, prog_2_method_13_code, prog_2_method_9_code, prog_2_method_14_code, prog_2_method_11_code, prog_2_method_12_code, prog_2_method_10_code, prog_2_method_6_code, prog_8_method_2_code, prog_2_method_17_code, prog_6_method_14_code, prog_6_method_12_code, prog_2_method_16_code, prog_6_method_4_code, prog_8_method_3_code, prog_8_method_4_code, prog_2_method_15_code, prog_2_method_18_code, prog_8_method_5_code, prog_2_method_19_code, prog_4_method_3_code, prog_2_method_2_code, prog_1_method_15_code, prog_1_method_16_code, prog_1_method_17_code, prog_4_method_5_code, prog_5_method_8_code, prog_5_method_9_code, prog_5_method_14_code, prog_5_method_5_code, prog_5_method_7_code, prog_5_method_6_code, prog_5_method_4_code, prog_5_method_3_code, prog_5_method_10_code, prog_5_method_11_code, prog_5_method_12_code, prog_5_method_13_code, prog_5_method_15_code, prog_5_method_2_code, prog_1_method_18_code, prog_10_method_2_code, prog_10_method_1_code, prog_10_method_3_code, prog_10_method_4_code, prog_10_method_6_code, prog_10_method_5_code, prog_10_method_7_code, prog_10_method_8_code, prog_10_method_9_code, prog_10_method_11_code, prog_10_method_12_code, prog_10_method_13_code, prog_10_method_10_code, prog_10_method_14_code, prog_10_method_15_code, prog_10_method_16_code, prog_10_method_17_code, prog_10_method_18_code, prog_10_method_19_code, prog_10_method_20_code, prog_10_method_21_code, prog_10_method_22_code, prog_10_method_23_code, prog_10_method_24_code, prog_10_method_25_code, prog_10_method_26_code, prog_10_method_27_code, prog_10_method_28_code, prog_10_method_29_code, prog_10_method_30_code, prog_10_method_31_code, prog_10_method_32_code, prog_10_method_33_code, prog_10_method_34_code, prog_10_method_35_code, prog_10_method_36_code, prog_10_method_37_code, prog_10_method_38_code, prog_10_method_39_code, prog_10_method_40_code, prog_10_method_41_code, prog_10_method_42_code, prog_10_method_43_code, prog_10_method_44_code, prog_10_method_45_code, prog_10_method_46_code, prog_10_method_47_code, prog_10_method_48_code, prog_10_method_49_code, prog_10_method_50_code, prog_10_method_51_code, prog_10_method_52_code, prog_10_method_53_code, prog_10_method_54_code, prog_10_method_56_code, prog_10_method_55_code, prog_10_method_57_code, prog_10_method_58_code, prog_10_method_59_code, prog_10_method_60_code, prog_10_method_61_code, code]
def zt_rt : List (Option FieldType) := [none, none, none, none, none, none, none, none, some (.boolean), some (.boolean), some (.boolean), some (.int), some (.boolean), some (.boolean), none, some (.int), some (.int), some (.boolean), some (.int), some (.int), none, none, some (.boolean), some (.int), some (.boolean), some (.int), none, none, none, some (.boolean), some (.long), some (.boolean), none, none, none, none, some (.int), none, none, some (.int), none, some (.int), some (.int), some (.int), some (.int), none, some (.int), none, some (.boolean), some (.int), some (.int), some (.int), some (.boolean), some (.boolean), some (.boolean), some (.boolean), some (.boolean), some (.boolean), some (.boolean), some (.boolean), some (.boolean), some (.array .int), some (.boolean), some (.boolean), some (.boolean), some (.boolean), none, some (.boolean), some (.boolean), some (.boolean), some (.boolean), some (.boolean), some (.boolean), some (.boolean), some (.int), some (.boolean), some (.boolean), some (.boolean), none, some (.int), some (.int), some (.int), some (.boolean), some (.int), some (.boolean), some (.boolean), some (.int), some (.int), some (.array .int), some (.boolean), some (.boolean), some (.boolean), some (.int), some (.boolean), some (.boolean), some (.boolean), some (.int), some (.int), some (.int), none, none, none, some (.int), some (.int), some (.boolean), none, none, none, some (.int), none, some (.boolean), none, some (.int), none, none, some (.boolean), some (.boolean), some (.boolean), some (.boolean), some (.int), some (.boolean), some (.int), some (.int), some (.int), some (.int), some (.int), some (.int), some (.int), some (.int), some (.int), some (.boolean), some (.int), some (.int), none, some (.boolean), some (.int), some (.int), some (.boolean), none, none, none, none, some (.boolean), some (.boolean), some (.boolean), none, none, some (.int), some (.int), some (.boolean), some (.int), some (.boolean), some (.int), none, some (.boolean), some (.int), some (.boolean), some (.boolean), some (.boolean), some (.int), some (.boolean)]
def dzY (mid : Nat) : MethodName := zt_y.getD mid ⟨"", "", ""⟩
def dzBy (mid : Nat) : ByteArray := zt_by.getD mid code
def dzRt (mid : Nat) : Option FieldType := zt_rt.getD mid none
def dzN : Nat := 161
def zt_cn : List String := ["PrimeCertificates", "PrimeCertificatesModel", "PrimeCertificates$Checker", "PrimeCertificates$Factors", "PrimeCertificates$Lines", "PrimeCertificates$Maker", "PrimeCertificates$Sums", "PrimeCertificates$Tape", "PrimeCertificates$Trial", "PrimeCertificatesLaw", "java/util/Arrays"]
def dzCn (k : Nat) : String := zt_cn.getD k ""
def zt_oc : List Nat := [6, 7, 4, 8, 3, 2, 5, 0, 0, 0, 0, 0, 0, 6, 6, 0, 0, 6, 0, 6, 10, 6, 6, 0, 6, 6, 6, 6, 6, 6, 6, 6, 6, 6, 6, 6, 0, 6, 6, 0, 6, 0, 6, 0, 7, 7, 0, 4, 0, 0, 0, 4, 2, 2, 0, 2, 2, 6, 2, 2, 2, 2, 2, 2, 2, 2, 8, 2, 6, 6, 2, 6, 8, 8, 2, 2, 8, 2, 4, 2, 0, 0, 0, 4, 5, 5, 5, 5, 5, 5, 5, 5, 5, 5, 5, 5, 5, 5, 0, 1, 1, 1, 1, 1, 1, 1, 1, 1, 1, 1, 1, 1, 1, 1, 1, 1, 1, 1, 1, 1, 1, 1, 1, 1, 1, 1, 1, 1, 1, 1, 1, 1, 1, 1, 1, 1, 1, 1, 1, 1, 1, 1, 1, 1, 1, 1, 1, 1, 1, 1, 1, 1, 1, 1, 1, 1, 1, 1, 1, 1, 9]
/-- the number of the class that declares a method -/
def dzOc (mid : Nat) : Nat := zt_oc.getD mid 0
theorem zw_252 : Cond.fieldLink "PrimeCertificates" 11 "PrimeCertificates" "registers" "[[I" ∈ dzGW := dzGW_in (i := 252) (by decide +kernel) (by rfl)
theorem zw_253 : Cond.fieldLink "PrimeCertificates" 14 "PrimeCertificates" "answer" "[I" ∈ dzGW := dzGW_in (i := 253) (by decide +kernel) (by rfl)
theorem zw_254 : Cond.fieldLink "PrimeCertificates" 18 "PrimeCertificates" "remainder" "[I" ∈ dzGW := dzGW_in (i := 254) (by decide +kernel) (by rfl)
theorem zw_255 : Cond.fieldLink "PrimeCertificates" 24 "PrimeCertificates" "sums" "LPrimeCertificates$Sums;" ∈ dzGW := dzGW_in (i := 255) (by decide +kernel) (by rfl)
theorem zw_256 : Cond.fieldLink "PrimeCertificates" 31 "PrimeCertificates" "tape" "LPrimeCertificates$Tape;" ∈ dzGW := dzGW_in (i := 256) (by decide +kernel) (by rfl)
theorem zw_257 : Cond.fieldLink "PrimeCertificates" 38 "PrimeCertificates" "lines" "LPrimeCertificates$Lines;" ∈ dzGW := dzGW_in (i := 257) (by decide +kernel) (by rfl)
theorem zw_258 : Cond.fieldLink "PrimeCertificates" 52 "PrimeCertificates" "checker" "LPrimeCertificates$Checker;" ∈ dzGW := dzGW_in (i := 258) (by decide +kernel) (by rfl)
theorem zw_259 : Cond.fieldLink "PrimeCertificates" 59 "PrimeCertificates" "maker" "LPrimeCertificates$Maker;" ∈ dzGW := dzGW_in (i := 259) (by decide +kernel) (by rfl)
theorem zw_69 : Cond.fieldLink "PrimeCertificates" 119 "PrimeCertificates$Tape" "size" "I" ∈ dzGW := dzGW_in (i := 69) (by decide +kernel) (by rfl)
theorem zw_66 : Cond.fieldLink "PrimeCertificates" 126 "PrimeCertificates$Tape" "ints" "[I" ∈ dzGW := dzGW_in (i := 66) (by decide +kernel) (by rfl)
theorem zw_91 : Cond.fieldLink "PrimeCertificates" 132 "PrimeCertificates$Lines" "count" "I" ∈ dzGW := dzGW_in (i := 91) (by decide +kernel) (by rfl)
theorem zw_182 : Cond.fieldLink "PrimeCertificates" 135 "PrimeCertificates$Checker" "faultPlace" "I" ∈ dzGW := dzGW_in (i := 182) (by decide +kernel) (by rfl)
theorem zw_94 : Cond.fieldLink "PrimeCertificates" 138 "PrimeCertificates$Lines" "told" "I" ∈ dzGW := dzGW_in (i := 94) (by decide +kernel) (by rfl)
theorem zw_86 : Cond.fieldLink "PrimeCertificates" 141 "PrimeCertificates$Lines" "numbers" "[[I" ∈ dzGW := dzGW_in (i := 86) (by decide +kernel) (by rfl)
theorem zw_675 : Cond.fieldLink "PrimeCertificatesModel" 7 "PrimeCertificatesModel" "digits" "[I" ∈ dzGW := dzGW_in (i := 675) (by decide +kernel) (by rfl)
theorem zw_676 : Cond.fieldLink "PrimeCertificatesModel" 13 "PrimeCertificatesModel" "tape" "[I" ∈ dzGW := dzGW_in (i := 676) (by decide +kernel) (by rfl)
theorem zw_678 : Cond.fieldLink "PrimeCertificatesModel" 16 "PrimeCertificatesModel" "place" "I" ∈ dzGW := dzGW_in (i := 678) (by decide +kernel) (by rfl)
theorem zw_684 : Cond.fieldLink "PrimeCertificatesModel" 20 "PrimeCertificatesModel" "foundLines" "[I" ∈ dzGW := dzGW_in (i := 684) (by decide +kernel) (by rfl)
theorem zw_685 : Cond.fieldLink "PrimeCertificatesModel" 23 "PrimeCertificatesModel" "foundOften" "[I" ∈ dzGW := dzGW_in (i := 685) (by decide +kernel) (by rfl)
theorem zw_686 : Cond.fieldLink "PrimeCertificatesModel" 26 "PrimeCertificatesModel" "foundWitnesses" "[I" ∈ dzGW := dzGW_in (i := 686) (by decide +kernel) (by rfl)
theorem zw_677 : Cond.fieldLink "PrimeCertificatesModel" 100 "PrimeCertificatesModel" "size" "I" ∈ dzGW := dzGW_in (i := 677) (by decide +kernel) (by rfl)
theorem zw_682 : Cond.fieldLink "PrimeCertificatesModel" 103 "PrimeCertificatesModel" "fault" "I" ∈ dzGW := dzGW_in (i := 682) (by decide +kernel) (by rfl)
theorem zw_681 : Cond.fieldLink "PrimeCertificatesModel" 110 "PrimeCertificatesModel" "cursor" "I" ∈ dzGW := dzGW_in (i := 681) (by decide +kernel) (by rfl)
theorem zw_679 : Cond.fieldLink "PrimeCertificatesModel" 123 "PrimeCertificatesModel" "lines" "I" ∈ dzGW := dzGW_in (i := 679) (by decide +kernel) (by rfl)
theorem zw_680 : Cond.fieldLink "PrimeCertificatesModel" 155 "PrimeCertificatesModel" "told" "I" ∈ dzGW := dzGW_in (i := 680) (by decide +kernel) (by rfl)
theorem zw_683 : Cond.fieldLink "PrimeCertificatesModel" 170 "PrimeCertificatesModel" "found" "I" ∈ dzGW := dzGW_in (i := 683) (by decide +kernel) (by rfl)
theorem zw_173 : Cond.fieldLink "PrimeCertificates$Checker" 12 "PrimeCertificates$Checker" "factors" "LPrimeCertificates$Factors;" ∈ dzGW := dzGW_in (i := 173) (by decide +kernel) (by rfl)
theorem zw_174 : Cond.fieldLink "PrimeCertificates$Checker" 18 "PrimeCertificates$Checker" "product" "[I" ∈ dzGW := dzGW_in (i := 174) (by decide +kernel) (by rfl)
theorem zw_175 : Cond.fieldLink "PrimeCertificates$Checker" 22 "PrimeCertificates$Checker" "next" "I" ∈ dzGW := dzGW_in (i := 175) (by decide +kernel) (by rfl)
theorem zw_176 : Cond.fieldLink "PrimeCertificates$Checker" 26 "PrimeCertificates$Checker" "taken" "I" ∈ dzGW := dzGW_in (i := 176) (by decide +kernel) (by rfl)
theorem zw_177 : Cond.fieldLink "PrimeCertificates$Checker" 29 "PrimeCertificates$Checker" "kind" "I" ∈ dzGW := dzGW_in (i := 177) (by decide +kernel) (by rfl)
theorem zw_178 : Cond.fieldLink "PrimeCertificates$Checker" 32 "PrimeCertificates$Checker" "root" "I" ∈ dzGW := dzGW_in (i := 178) (by decide +kernel) (by rfl)
theorem zw_179 : Cond.fieldLink "PrimeCertificates$Checker" 35 "PrimeCertificates$Checker" "countPlace" "I" ∈ dzGW := dzGW_in (i := 179) (by decide +kernel) (by rfl)
theorem zw_180 : Cond.fieldLink "PrimeCertificates$Checker" 38 "PrimeCertificates$Checker" "fault" "I" ∈ dzGW := dzGW_in (i := 180) (by decide +kernel) (by rfl)
theorem zw_181 : Cond.fieldLink "PrimeCertificates$Checker" 41 "PrimeCertificates$Checker" "faultPlace" "I" ∈ dzGW := dzGW_in (i := 181) (by decide +kernel) (by rfl)
theorem zw_169 : Cond.fieldLink "PrimeCertificates$Checker" 44 "PrimeCertificates$Checker" "tape" "LPrimeCertificates$Tape;" ∈ dzGW := dzGW_in (i := 169) (by decide +kernel) (by rfl)
theorem zw_170 : Cond.fieldLink "PrimeCertificates$Checker" 48 "PrimeCertificates$Checker" "lines" "LPrimeCertificates$Lines;" ∈ dzGW := dzGW_in (i := 170) (by decide +kernel) (by rfl)
theorem zw_171 : Cond.fieldLink "PrimeCertificates$Checker" 52 "PrimeCertificates$Checker" "sums" "LPrimeCertificates$Sums;" ∈ dzGW := dzGW_in (i := 171) (by decide +kernel) (by rfl)
theorem zw_172 : Cond.fieldLink "PrimeCertificates$Checker" 56 "PrimeCertificates$Checker" "trial" "LPrimeCertificates$Trial;" ∈ dzGW := dzGW_in (i := 172) (by decide +kernel) (by rfl)
theorem zw_89 : Cond.fieldLink "PrimeCertificates$Checker" 66 "PrimeCertificates$Lines" "count" "I" ∈ dzGW := dzGW_in (i := 89) (by decide +kernel) (by rfl)
theorem zw_68 : Cond.fieldLink "PrimeCertificates$Checker" 69 "PrimeCertificates$Tape" "size" "I" ∈ dzGW := dzGW_in (i := 68) (by decide +kernel) (by rfl)
theorem zw_84 : Cond.fieldLink "PrimeCertificates$Checker" 78 "PrimeCertificates$Lines" "numbers" "[[I" ∈ dzGW := dzGW_in (i := 84) (by decide +kernel) (by rfl)
theorem zw_93 : Cond.fieldLink "PrimeCertificates$Checker" 106 "PrimeCertificates$Lines" "told" "I" ∈ dzGW := dzGW_in (i := 93) (by decide +kernel) (by rfl)
theorem zw_65 : Cond.fieldLink "PrimeCertificates$Checker" 109 "PrimeCertificates$Tape" "ints" "[I" ∈ dzGW := dzGW_in (i := 65) (by decide +kernel) (by rfl)
theorem zw_159 : Cond.fieldLink "PrimeCertificates$Checker" 154 "PrimeCertificates$Factors" "count" "I" ∈ dzGW := dzGW_in (i := 159) (by decide +kernel) (by rfl)
theorem zw_155 : Cond.fieldLink "PrimeCertificates$Checker" 161 "PrimeCertificates$Factors" "witnesses" "[I" ∈ dzGW := dzGW_in (i := 155) (by decide +kernel) (by rfl)
theorem zw_150 : Cond.fieldLink "PrimeCertificates$Checker" 164 "PrimeCertificates$Factors" "lines" "[I" ∈ dzGW := dzGW_in (i := 150) (by decide +kernel) (by rfl)
theorem zw_153 : Cond.fieldLink "PrimeCertificates$Checker" 174 "PrimeCertificates$Factors" "exponents" "[I" ∈ dzGW := dzGW_in (i := 153) (by decide +kernel) (by rfl)
theorem zw_116 : Cond.fieldLink "PrimeCertificates$Checker" 180 "PrimeCertificates$Trial" "oneLess" "[I" ∈ dzGW := dzGW_in (i := 116) (by decide +kernel) (by rfl)
theorem zw_113 : Cond.fieldLink "PrimeCertificates$Checker" 187 "PrimeCertificates$Trial" "number" "[I" ∈ dzGW := dzGW_in (i := 113) (by decide +kernel) (by rfl)
theorem zw_148 : Cond.fieldLink "PrimeCertificates$Factors" 9 "PrimeCertificates$Factors" "lines" "[I" ∈ dzGW := dzGW_in (i := 148) (by decide +kernel) (by rfl)
theorem zw_151 : Cond.fieldLink "PrimeCertificates$Factors" 15 "PrimeCertificates$Factors" "exponents" "[I" ∈ dzGW := dzGW_in (i := 151) (by decide +kernel) (by rfl)
theorem zw_154 : Cond.fieldLink "PrimeCertificates$Factors" 18 "PrimeCertificates$Factors" "witnesses" "[I" ∈ dzGW := dzGW_in (i := 154) (by decide +kernel) (by rfl)
theorem zw_157 : Cond.fieldLink "PrimeCertificates$Factors" 21 "PrimeCertificates$Factors" "count" "I" ∈ dzGW := dzGW_in (i := 157) (by decide +kernel) (by rfl)
theorem zw_83 : Cond.fieldLink "PrimeCertificates$Lines" 11 "PrimeCertificates$Lines" "numbers" "[[I" ∈ dzGW := dzGW_in (i := 83) (by decide +kernel) (by rfl)
theorem zw_87 : Cond.fieldLink "PrimeCertificates$Lines" 16 "PrimeCertificates$Lines" "ends" "[I" ∈ dzGW := dzGW_in (i := 87) (by decide +kernel) (by rfl)
theorem zw_88 : Cond.fieldLink "PrimeCertificates$Lines" 20 "PrimeCertificates$Lines" "count" "I" ∈ dzGW := dzGW_in (i := 88) (by decide +kernel) (by rfl)
theorem zw_92 : Cond.fieldLink "PrimeCertificates$Lines" 24 "PrimeCertificates$Lines" "told" "I" ∈ dzGW := dzGW_in (i := 92) (by decide +kernel) (by rfl)
theorem zw_222 : Cond.fieldLink "PrimeCertificates$Maker" 12 "PrimeCertificates$Maker" "factors" "LPrimeCertificates$Factors;" ∈ dzGW := dzGW_in (i := 222) (by decide +kernel) (by rfl)
theorem zw_223 : Cond.fieldLink "PrimeCertificates$Maker" 18 "PrimeCertificates$Maker" "left" "[I" ∈ dzGW := dzGW_in (i := 223) (by decide +kernel) (by rfl)
theorem zw_224 : Cond.fieldLink "PrimeCertificates$Maker" 22 "PrimeCertificates$Maker" "share" "[I" ∈ dzGW := dzGW_in (i := 224) (by decide +kernel) (by rfl)
theorem zw_225 : Cond.fieldLink "PrimeCertificates$Maker" 25 "PrimeCertificates$Maker" "rest" "[I" ∈ dzGW := dzGW_in (i := 225) (by decide +kernel) (by rfl)
theorem zw_226 : Cond.fieldLink "PrimeCertificates$Maker" 28 "PrimeCertificates$Maker" "small" "[I" ∈ dzGW := dzGW_in (i := 226) (by decide +kernel) (by rfl)
theorem zw_227 : Cond.fieldLink "PrimeCertificates$Maker" 31 "PrimeCertificates$Maker" "newLines" "I" ∈ dzGW := dzGW_in (i := 227) (by decide +kernel) (by rfl)
theorem zw_228 : Cond.fieldLink "PrimeCertificates$Maker" 35 "PrimeCertificates$Maker" "root" "I" ∈ dzGW := dzGW_in (i := 228) (by decide +kernel) (by rfl)
theorem zw_218 : Cond.fieldLink "PrimeCertificates$Maker" 38 "PrimeCertificates$Maker" "tape" "LPrimeCertificates$Tape;" ∈ dzGW := dzGW_in (i := 218) (by decide +kernel) (by rfl)
theorem zw_219 : Cond.fieldLink "PrimeCertificates$Maker" 42 "PrimeCertificates$Maker" "lines" "LPrimeCertificates$Lines;" ∈ dzGW := dzGW_in (i := 219) (by decide +kernel) (by rfl)
theorem zw_220 : Cond.fieldLink "PrimeCertificates$Maker" 46 "PrimeCertificates$Maker" "sums" "LPrimeCertificates$Sums;" ∈ dzGW := dzGW_in (i := 220) (by decide +kernel) (by rfl)
theorem zw_221 : Cond.fieldLink "PrimeCertificates$Maker" 50 "PrimeCertificates$Maker" "trial" "LPrimeCertificates$Trial;" ∈ dzGW := dzGW_in (i := 221) (by decide +kernel) (by rfl)
theorem zw_158 : Cond.fieldLink "PrimeCertificates$Maker" 111 "PrimeCertificates$Factors" "count" "I" ∈ dzGW := dzGW_in (i := 158) (by decide +kernel) (by rfl)
theorem zw_115 : Cond.fieldLink "PrimeCertificates$Maker" 114 "PrimeCertificates$Trial" "oneLess" "[I" ∈ dzGW := dzGW_in (i := 115) (by decide +kernel) (by rfl)
theorem zw_90 : Cond.fieldLink "PrimeCertificates$Maker" 131 "PrimeCertificates$Lines" "count" "I" ∈ dzGW := dzGW_in (i := 90) (by decide +kernel) (by rfl)
theorem zw_85 : Cond.fieldLink "PrimeCertificates$Maker" 132 "PrimeCertificates$Lines" "numbers" "[[I" ∈ dzGW := dzGW_in (i := 85) (by decide +kernel) (by rfl)
theorem zw_149 : Cond.fieldLink "PrimeCertificates$Maker" 155 "PrimeCertificates$Factors" "lines" "[I" ∈ dzGW := dzGW_in (i := 149) (by decide +kernel) (by rfl)
theorem zw_152 : Cond.fieldLink "PrimeCertificates$Maker" 157 "PrimeCertificates$Factors" "exponents" "[I" ∈ dzGW := dzGW_in (i := 152) (by decide +kernel) (by rfl)
theorem zw_112 : Cond.fieldLink "PrimeCertificates$Maker" 165 "PrimeCertificates$Trial" "number" "[I" ∈ dzGW := dzGW_in (i := 112) (by decide +kernel) (by rfl)
theorem zw_156 : Cond.fieldLink "PrimeCertificates$Maker" 182 "PrimeCertificates$Factors" "witnesses" "[I" ∈ dzGW := dzGW_in (i := 156) (by decide +kernel) (by rfl)
theorem zw_70 : Cond.fieldLink "PrimeCertificates$Maker" 198 "PrimeCertificates$Tape" "size" "I" ∈ dzGW := dzGW_in (i := 70) (by decide +kernel) (by rfl)
theorem zw_29 : Cond.fieldLink "PrimeCertificates$Sums" 9 "PrimeCertificates$Sums" "wide" "[I" ∈ dzGW := dzGW_in (i := 29) (by decide +kernel) (by rfl)
theorem zw_30 : Cond.fieldLink "PrimeCertificates$Sums" 15 "PrimeCertificates$Sums" "goes" "[I" ∈ dzGW := dzGW_in (i := 30) (by decide +kernel) (by rfl)
theorem zw_31 : Cond.fieldLink "PrimeCertificates$Sums" 18 "PrimeCertificates$Sums" "divisor" "[I" ∈ dzGW := dzGW_in (i := 31) (by decide +kernel) (by rfl)
theorem zw_32 : Cond.fieldLink "PrimeCertificates$Sums" 21 "PrimeCertificates$Sums" "divisorWords" "I" ∈ dzGW := dzGW_in (i := 32) (by decide +kernel) (by rfl)
theorem zw_33 : Cond.fieldLink "PrimeCertificates$Sums" 25 "PrimeCertificates$Sums" "shift" "I" ∈ dzGW := dzGW_in (i := 33) (by decide +kernel) (by rfl)
theorem zw_34 : Cond.fieldLink "PrimeCertificates$Sums" 28 "PrimeCertificates$Sums" "residue" "[I" ∈ dzGW := dzGW_in (i := 34) (by decide +kernel) (by rfl)
theorem zw_35 : Cond.fieldLink "PrimeCertificates$Sums" 31 "PrimeCertificates$Sums" "power" "[I" ∈ dzGW := dzGW_in (i := 35) (by decide +kernel) (by rfl)
theorem zw_36 : Cond.fieldLink "PrimeCertificates$Sums" 34 "PrimeCertificates$Sums" "larger" "[I" ∈ dzGW := dzGW_in (i := 36) (by decide +kernel) (by rfl)
theorem zw_37 : Cond.fieldLink "PrimeCertificates$Sums" 37 "PrimeCertificates$Sums" "smaller" "[I" ∈ dzGW := dzGW_in (i := 37) (by decide +kernel) (by rfl)
theorem zw_64 : Cond.fieldLink "PrimeCertificates$Tape" 9 "PrimeCertificates$Tape" "ints" "[I" ∈ dzGW := dzGW_in (i := 64) (by decide +kernel) (by rfl)
theorem zw_67 : Cond.fieldLink "PrimeCertificates$Tape" 15 "PrimeCertificates$Tape" "size" "I" ∈ dzGW := dzGW_in (i := 67) (by decide +kernel) (by rfl)
theorem zw_111 : Cond.fieldLink "PrimeCertificates$Trial" 9 "PrimeCertificates$Trial" "number" "[I" ∈ dzGW := dzGW_in (i := 111) (by decide +kernel) (by rfl)
theorem zw_114 : Cond.fieldLink "PrimeCertificates$Trial" 15 "PrimeCertificates$Trial" "oneLess" "[I" ∈ dzGW := dzGW_in (i := 114) (by decide +kernel) (by rfl)
theorem zw_117 : Cond.fieldLink "PrimeCertificates$Trial" 18 "PrimeCertificates$Trial" "one" "[I" ∈ dzGW := dzGW_in (i := 117) (by decide +kernel) (by rfl)
theorem zw_118 : Cond.fieldLink "PrimeCertificates$Trial" 21 "PrimeCertificates$Trial" "base" "[I" ∈ dzGW := dzGW_in (i := 118) (by decide +kernel) (by rfl)
theorem zw_119 : Cond.fieldLink "PrimeCertificates$Trial" 24 "PrimeCertificates$Trial" "exponent" "[I" ∈ dzGW := dzGW_in (i := 119) (by decide +kernel) (by rfl)
theorem zw_120 : Cond.fieldLink "PrimeCertificates$Trial" 27 "PrimeCertificates$Trial" "power" "[I" ∈ dzGW := dzGW_in (i := 120) (by decide +kernel) (by rfl)
theorem zw_110 : Cond.fieldLink "PrimeCertificates$Trial" 30 "PrimeCertificates$Trial" "sums" "LPrimeCertificates$Sums;" ∈ dzGW := dzGW_in (i := 110) (by decide +kernel) (by rfl)
def dzFw (q : Nat × Nat × Nat × Nat) : Cond := match zCl[q.2.2.1]? with
  | some (C, T, _) => Cond.fieldLink (dzCn q.1) q.2.1 (T q.2.2.2).1 (T q.2.2.2).2.1 (T q.2.2.2).2.2.1
  | none => Cond.tt
def zl_f : List (Nat × Nat × Nat × Nat) := [(0, 11, 0, 0), (0, 14, 0, 1), (0, 18, 0, 2), (0, 24, 0, 3), (0, 31, 0, 4), (0, 38, 0, 5), (0, 52, 0, 6), (0, 59, 0, 7), (0, 119, 7, 1), (0, 126, 7, 0), (0, 132, 4, 2), (0, 135, 2, 12), (0, 138, 4, 3), (0, 141, 4, 0), (1, 7, 1, 0), (1, 13, 1, 1), (1, 16, 1, 3), (1, 20, 1, 9), (1, 23, 1, 10), (1, 26, 1, 11), (1, 100, 1, 2), (1, 103, 1, 7), (1, 110, 1, 6), (1, 123, 1, 4), (1, 155, 1, 5), (1, 170, 1, 8), (2, 12, 2, 4), (2, 18, 2, 5), (2, 22, 2, 6), (2, 26, 2, 7), (2, 29, 2, 8), (2, 32, 2, 9), (2, 35, 2, 10), (2, 38, 2, 11), (2, 41, 2, 12), (2, 44, 2, 0), (2, 48, 2, 1), (2, 52, 2, 2), (2, 56, 2, 3), (2, 66, 4, 2), (2, 69, 7, 1), (2, 78, 4, 0), (2, 106, 4, 3), (2, 109, 7, 0), (2, 154, 3, 3), (2, 161, 3, 2), (2, 164, 3, 0), (2, 174, 3, 1), (2, 180, 8, 2), (2, 187, 8, 1), (3, 9, 3, 0), (3, 15, 3, 1), (3, 18, 3, 2), (3, 21, 3, 3), (4, 11, 4, 0), (4, 16, 4, 1), (4, 20, 4, 2), (4, 24, 4, 3), (5, 12, 5, 4), (5, 18, 5, 5), (5, 22, 5, 6), (5, 25, 5, 7), (5, 28, 5, 8), (5, 31, 5, 9), (5, 35, 5, 10), (5, 38, 5, 0), (5, 42, 5, 1), (5, 46, 5, 2), (5, 50, 5, 3), (5, 111, 3, 3), (5, 114, 8, 2), (5, 131, 4, 2), (5, 132, 4, 0), (5, 155, 3, 0), (5, 157, 3, 1), (5, 165, 8, 1), (5, 182, 3, 2), (5, 198, 7, 1), (6, 9, 6, 0), (6, 15, 6, 1), (6, 18, 6, 2), (6, 21, 6, 3), (6, 25, 6, 4), (6, 28, 6, 5), (6, 31, 6, 6), (6, 34, 6, 7), (6, 37, 6, 8), (7, 9, 7, 0), (7, 15, 7, 1), (8, 9, 8, 1), (8, 15, 8, 2), (8, 18, 8, 3), (8, 21, 8, 4), (8, 24, 8, 5), (8, 27, 8, 6), (8, 30, 8, 0)]
set_option maxRecDepth 100000 in
theorem zl_f_ok : ∀ q ∈ zl_f, dzFw q ∈ dzGW := List.forall_mem_cons.mpr ⟨zw_252, List.forall_mem_cons.mpr ⟨zw_253, List.forall_mem_cons.mpr ⟨zw_254, List.forall_mem_cons.mpr ⟨zw_255, List.forall_mem_cons.mpr ⟨zw_256, List.forall_mem_cons.mpr ⟨zw_257, List.forall_mem_cons.mpr ⟨zw_258, List.forall_mem_cons.mpr ⟨zw_259, List.forall_mem_cons.mpr ⟨zw_69, List.forall_mem_cons.mpr ⟨zw_66, List.forall_mem_cons.mpr ⟨zw_91, List.forall_mem_cons.mpr ⟨zw_182, List.forall_mem_cons.mpr ⟨zw_94, List.forall_mem_cons.mpr ⟨zw_86, List.forall_mem_cons.mpr ⟨zw_675, List.forall_mem_cons.mpr ⟨zw_676, List.forall_mem_cons.mpr ⟨zw_678, List.forall_mem_cons.mpr ⟨zw_684, List.forall_mem_cons.mpr ⟨zw_685, List.forall_mem_cons.mpr ⟨zw_686, List.forall_mem_cons.mpr ⟨zw_677, List.forall_mem_cons.mpr ⟨zw_682, List.forall_mem_cons.mpr ⟨zw_681, List.forall_mem_cons.mpr ⟨zw_679, List.forall_mem_cons.mpr ⟨zw_680, List.forall_mem_cons.mpr ⟨zw_683, List.forall_mem_cons.mpr ⟨zw_173, List.forall_mem_cons.mpr ⟨zw_174, List.forall_mem_cons.mpr ⟨zw_175, List.forall_mem_cons.mpr ⟨zw_176, List.forall_mem_cons.mpr ⟨zw_177, List.forall_mem_cons.mpr ⟨zw_178, List.forall_mem_cons.mpr ⟨zw_179, List.forall_mem_cons.mpr ⟨zw_180, List.forall_mem_cons.mpr ⟨zw_181, List.forall_mem_cons.mpr ⟨zw_169, List.forall_mem_cons.mpr ⟨zw_170, List.forall_mem_cons.mpr ⟨zw_171, List.forall_mem_cons.mpr ⟨zw_172, List.forall_mem_cons.mpr ⟨zw_89, List.forall_mem_cons.mpr ⟨zw_68, List.forall_mem_cons.mpr ⟨zw_84, List.forall_mem_cons.mpr ⟨zw_93, List.forall_mem_cons.mpr ⟨zw_65, List.forall_mem_cons.mpr ⟨zw_159, List.forall_mem_cons.mpr ⟨zw_155, List.forall_mem_cons.mpr ⟨zw_150, List.forall_mem_cons.mpr ⟨zw_153, List.forall_mem_cons.mpr ⟨zw_116, List.forall_mem_cons.mpr ⟨zw_113, List.forall_mem_cons.mpr ⟨zw_148, List.forall_mem_cons.mpr ⟨zw_151, List.forall_mem_cons.mpr ⟨zw_154, List.forall_mem_cons.mpr ⟨zw_157, List.forall_mem_cons.mpr ⟨zw_83, List.forall_mem_cons.mpr ⟨zw_87, List.forall_mem_cons.mpr ⟨zw_88, List.forall_mem_cons.mpr ⟨zw_92, List.forall_mem_cons.mpr ⟨zw_222, List.forall_mem_cons.mpr ⟨zw_223, List.forall_mem_cons.mpr ⟨zw_224, List.forall_mem_cons.mpr ⟨zw_225, List.forall_mem_cons.mpr ⟨zw_226, List.forall_mem_cons.mpr ⟨zw_227, List.forall_mem_cons.mpr ⟨zw_228, List.forall_mem_cons.mpr ⟨zw_218, List.forall_mem_cons.mpr ⟨zw_219, List.forall_mem_cons.mpr ⟨zw_220, List.forall_mem_cons.mpr ⟨zw_221, List.forall_mem_cons.mpr ⟨zw_158, List.forall_mem_cons.mpr ⟨zw_115, List.forall_mem_cons.mpr ⟨zw_90, List.forall_mem_cons.mpr ⟨zw_85, List.forall_mem_cons.mpr ⟨zw_149, List.forall_mem_cons.mpr ⟨zw_152, List.forall_mem_cons.mpr ⟨zw_112, List.forall_mem_cons.mpr ⟨zw_156, List.forall_mem_cons.mpr ⟨zw_70, List.forall_mem_cons.mpr ⟨zw_29, List.forall_mem_cons.mpr ⟨zw_30, List.forall_mem_cons.mpr ⟨zw_31, List.forall_mem_cons.mpr ⟨zw_32, List.forall_mem_cons.mpr ⟨zw_33, List.forall_mem_cons.mpr ⟨zw_34, List.forall_mem_cons.mpr ⟨zw_35, List.forall_mem_cons.mpr ⟨zw_36, List.forall_mem_cons.mpr ⟨zw_37, List.forall_mem_cons.mpr ⟨zw_64, List.forall_mem_cons.mpr ⟨zw_67, List.forall_mem_cons.mpr ⟨zw_111, List.forall_mem_cons.mpr ⟨zw_114, List.forall_mem_cons.mpr ⟨zw_117, List.forall_mem_cons.mpr ⟨zw_118, List.forall_mem_cons.mpr ⟨zw_119, List.forall_mem_cons.mpr ⟨zw_120, List.forall_mem_cons.mpr ⟨zw_110, fun _ h => absurd h List.not_mem_nil⟩⟩⟩⟩⟩⟩⟩⟩⟩⟩⟩⟩⟩⟩⟩⟩⟩⟩⟩⟩⟩⟩⟩⟩⟩⟩⟩⟩⟩⟩⟩⟩⟩⟩⟩⟩⟩⟩⟩⟩⟩⟩⟩⟩⟩⟩⟩⟩⟩⟩⟩⟩⟩⟩⟩⟩⟩⟩⟩⟩⟩⟩⟩⟩⟩⟩⟩⟩⟩⟩⟩⟩⟩⟩⟩⟩⟩⟩⟩⟩⟩⟩⟩⟩⟩⟩⟩⟩⟩⟩⟩⟩⟩⟩⟩⟩
theorem zw_106 : Cond.methodLink "PrimeCertificates" 44 ⟨"PrimeCertificates$Trial", "<init>", "(LPrimeCertificates$Sums;)V"⟩ ∈ dzGW := dzGW_in (i := 106) (by decide +kernel) (by rfl)
theorem zw_138 : Cond.methodLink "PrimeCertificates" 49 ⟨"PrimeCertificates$Checker", "<init>", "(LPrimeCertificates$Tape;LPrimeCertificates$Lines;LPrimeCertificates$Sums;LPrimeCertificates$Trial;)V"⟩ ∈ dzGW := dzGW_in (i := 138) (by decide +kernel) (by rfl)
theorem zw_212 : Cond.methodLink "PrimeCertificates" 58 ⟨"PrimeCertificates$Maker", "<init>", "(LPrimeCertificates$Tape;LPrimeCertificates$Lines;LPrimeCertificates$Sums;LPrimeCertificates$Trial;)V"⟩ ∈ dzGW := dzGW_in (i := 212) (by decide +kernel) (by rfl)
theorem zw_281 : Cond.methodLink "PrimeCertificates" 63 ⟨"PrimeCertificates", "isRegister", "(I)Z"⟩ ∈ dzGW := dzGW_in (i := 281) (by decide +kernel) (by rfl)
theorem zw_284 : Cond.methodLink "PrimeCertificates" 67 ⟨"PrimeCertificates", "isWord", "(I)Z"⟩ ∈ dzGW := dzGW_in (i := 284) (by decide +kernel) (by rfl)
theorem zw_295 : Cond.methodLink "PrimeCertificates" 70 ⟨"PrimeCertificates", "areRegisters", "(III)Z"⟩ ∈ dzGW := dzGW_in (i := 295) (by decide +kernel) (by rfl)
theorem zw_298 : Cond.methodLink "PrimeCertificates" 74 ⟨"PrimeCertificates$Sums", "sum", "([I[I[I)Z"⟩ ∈ dzGW := dzGW_in (i := 298) (by decide +kernel) (by rfl)
theorem zw_302 : Cond.methodLink "PrimeCertificates" 78 ⟨"PrimeCertificates", "keepAnswer", "(I)I"⟩ ∈ dzGW := dzGW_in (i := 302) (by decide +kernel) (by rfl)
theorem zw_316 : Cond.methodLink "PrimeCertificates" 82 ⟨"PrimeCertificates$Sums", "difference", "([I[I[I)Z"⟩ ∈ dzGW := dzGW_in (i := 316) (by decide +kernel) (by rfl)
theorem zw_323 : Cond.methodLink "PrimeCertificates" 85 ⟨"PrimeCertificates$Sums", "product", "([I[I[I)Z"⟩ ∈ dzGW := dzGW_in (i := 323) (by decide +kernel) (by rfl)
theorem zw_342 : Cond.methodLink "PrimeCertificates" 88 ⟨"PrimeCertificates$Sums", "isZero", "([I)Z"⟩ ∈ dzGW := dzGW_in (i := 342) (by decide +kernel) (by rfl)
theorem zw_345 : Cond.methodLink "PrimeCertificates" 92 ⟨"PrimeCertificates$Sums", "quotient", "([I[I[I[I)V"⟩ ∈ dzGW := dzGW_in (i := 345) (by decide +kernel) (by rfl)
theorem zw_306 : Cond.methodLink "PrimeCertificates" 96 ⟨"PrimeCertificates$Sums", "copy", "([I[I)V"⟩ ∈ dzGW := dzGW_in (i := 306) (by decide +kernel) (by rfl)
theorem zw_392 : Cond.methodLink "PrimeCertificates" 100 ⟨"PrimeCertificates$Sums", "powerModulo", "([I[I[I[I)V"⟩ ∈ dzGW := dzGW_in (i := 392) (by decide +kernel) (by rfl)
theorem zw_403 : Cond.methodLink "PrimeCertificates" 103 ⟨"PrimeCertificates$Sums", "greatestDivisor", "([I[I[I)V"⟩ ∈ dzGW := dzGW_in (i := 403) (by decide +kernel) (by rfl)
theorem zw_412 : Cond.methodLink "PrimeCertificates" 107 ⟨"PrimeCertificates$Sums", "order", "([I[I)I"⟩ ∈ dzGW := dzGW_in (i := 412) (by decide +kernel) (by rfl)
theorem zw_419 : Cond.methodLink "PrimeCertificates" 111 ⟨"PrimeCertificates$Tape", "room", "()I"⟩ ∈ dzGW := dzGW_in (i := 419) (by decide +kernel) (by rfl)
theorem zw_423 : Cond.methodLink "PrimeCertificates" 115 ⟨"PrimeCertificates$Tape", "append", "(I)V"⟩ ∈ dzGW := dzGW_in (i := 423) (by decide +kernel) (by rfl)
theorem zw_431 : Cond.methodLink "PrimeCertificates" 123 ⟨"PrimeCertificates$Lines", "forgetBehind", "(I)V"⟩ ∈ dzGW := dzGW_in (i := 431) (by decide +kernel) (by rfl)
theorem zw_447 : Cond.methodLink "PrimeCertificates" 129 ⟨"PrimeCertificates$Checker", "findFault", "()I"⟩ ∈ dzGW := dzGW_in (i := 447) (by decide +kernel) (by rfl)
theorem zw_582 : Cond.methodLink "PrimeCertificates" 144 ⟨"PrimeCertificates$Maker", "lineFor", "([I)I"⟩ ∈ dzGW := dzGW_in (i := 582) (by decide +kernel) (by rfl)
theorem zw_670 : Cond.methodLink "PrimeCertificatesModel" 29 ⟨"PrimeCertificatesModel", "set", "(IJ)V"⟩ ∈ dzGW := dzGW_in (i := 670) (by decide +kernel) (by rfl)
theorem zw_747 : Cond.methodLink "PrimeCertificatesModel" 35 ⟨"PrimeCertificatesModel", "lengthOf", "(I)I"⟩ ∈ dzGW := dzGW_in (i := 747) (by decide +kernel) (by rfl)
theorem zw_731 : Cond.methodLink "PrimeCertificatesModel" 40 ⟨"PrimeCertificatesModel", "copy", "(II)V"⟩ ∈ dzGW := dzGW_in (i := 731) (by decide +kernel) (by rfl)
theorem zw_783 : Cond.methodLink "PrimeCertificatesModel" 44 ⟨"PrimeCertificatesModel", "guess", "(IIII)I"⟩ ∈ dzGW := dzGW_in (i := 783) (by decide +kernel) (by rfl)
theorem zw_787 : Cond.methodLink "PrimeCertificatesModel" 48 ⟨"PrimeCertificatesModel", "away", "(IIIII)V"⟩ ∈ dzGW := dzGW_in (i := 787) (by decide +kernel) (by rfl)
theorem zw_791 : Cond.methodLink "PrimeCertificatesModel" 52 ⟨"PrimeCertificatesModel", "isOver", "(IIII)Z"⟩ ∈ dzGW := dzGW_in (i := 791) (by decide +kernel) (by rfl)
theorem zw_779 : Cond.methodLink "PrimeCertificatesModel" 56 ⟨"PrimeCertificatesModel", "part", "(IIII)V"⟩ ∈ dzGW := dzGW_in (i := 779) (by decide +kernel) (by rfl)
theorem zw_767 : Cond.methodLink "PrimeCertificatesModel" 60 ⟨"PrimeCertificatesModel", "times", "(III)V"⟩ ∈ dzGW := dzGW_in (i := 767) (by decide +kernel) (by rfl)
theorem zw_803 : Cond.methodLink "PrimeCertificatesModel" 64 ⟨"PrimeCertificatesModel", "bit", "(II)I"⟩ ∈ dzGW := dzGW_in (i := 803) (by decide +kernel) (by rfl)
theorem zw_775 : Cond.methodLink "PrimeCertificatesModel" 68 ⟨"PrimeCertificatesModel", "isZero", "(I)Z"⟩ ∈ dzGW := dzGW_in (i := 775) (by decide +kernel) (by rfl)
theorem zw_755 : Cond.methodLink "PrimeCertificatesModel" 72 ⟨"PrimeCertificatesModel", "order", "(II)I"⟩ ∈ dzGW := dzGW_in (i := 755) (by decide +kernel) (by rfl)
theorem zw_716 : Cond.methodLink "PrimeCertificatesModel" 75 ⟨"PrimeCertificatesModel", "isRegister", "(I)Z"⟩ ∈ dzGW := dzGW_in (i := 716) (by decide +kernel) (by rfl)
theorem zw_743 : Cond.methodLink "PrimeCertificatesModel" 78 ⟨"PrimeCertificatesModel", "fits", "(I)Z"⟩ ∈ dzGW := dzGW_in (i := 743) (by decide +kernel) (by rfl)
theorem zw_728 : Cond.methodLink "PrimeCertificatesModel" 81 ⟨"PrimeCertificatesModel", "are", "(III)Z"⟩ ∈ dzGW := dzGW_in (i := 728) (by decide +kernel) (by rfl)
theorem zw_735 : Cond.methodLink "PrimeCertificatesModel" 85 ⟨"PrimeCertificatesModel", "raise", "(II)V"⟩ ∈ dzGW := dzGW_in (i := 735) (by decide +kernel) (by rfl)
theorem zw_739 : Cond.methodLink "PrimeCertificatesModel" 88 ⟨"PrimeCertificatesModel", "give", "(II)I"⟩ ∈ dzGW := dzGW_in (i := 739) (by decide +kernel) (by rfl)
theorem zw_759 : Cond.methodLink "PrimeCertificatesModel" 91 ⟨"PrimeCertificatesModel", "lower", "(II)V"⟩ ∈ dzGW := dzGW_in (i := 759) (by decide +kernel) (by rfl)
theorem zw_799 : Cond.methodLink "PrimeCertificatesModel" 94 ⟨"PrimeCertificatesModel", "raiseTo", "(IIII)V"⟩ ∈ dzGW := dzGW_in (i := 799) (by decide +kernel) (by rfl)
theorem zw_811 : Cond.methodLink "PrimeCertificatesModel" 97 ⟨"PrimeCertificatesModel", "divisor", "(III)V"⟩ ∈ dzGW := dzGW_in (i := 811) (by decide +kernel) (by rfl)
theorem zw_839 : Cond.methodLink "PrimeCertificatesModel" 106 ⟨"PrimeCertificatesModel", "isGood", "()Z"⟩ ∈ dzGW := dzGW_in (i := 839) (by decide +kernel) (by rfl)
theorem zw_843 : Cond.methodLink "PrimeCertificatesModel" 113 ⟨"PrimeCertificatesModel", "fail", "(II)V"⟩ ∈ dzGW := dzGW_in (i := 843) (by decide +kernel) (by rfl)
theorem zw_851 : Cond.methodLink "PrimeCertificatesModel" 116 ⟨"PrimeCertificatesModel", "next", "()I"⟩ ∈ dzGW := dzGW_in (i := 851) (by decide +kernel) (by rfl)
theorem zw_859 : Cond.methodLink "PrimeCertificatesModel" 120 ⟨"PrimeCertificatesModel", "isSmallPrime", "(I)Z"⟩ ∈ dzGW := dzGW_in (i := 859) (by decide +kernel) (by rfl)
theorem zw_847 : Cond.methodLink "PrimeCertificatesModel" 126 ⟨"PrimeCertificatesModel", "nextIn", "(II)I"⟩ ∈ dzGW := dzGW_in (i := 847) (by decide +kernel) (by rfl)
theorem zw_887 : Cond.methodLink "PrimeCertificatesModel" 131 ⟨"PrimeCertificatesModel", "isOne", "(I)Z"⟩ ∈ dzGW := dzGW_in (i := 887) (by decide +kernel) (by rfl)
theorem zw_866 : Cond.methodLink "PrimeCertificatesModel" 134 ⟨"PrimeCertificatesModel", "number", "()V"⟩ ∈ dzGW := dzGW_in (i := 866) (by decide +kernel) (by rfl)
theorem zw_871 : Cond.methodLink "PrimeCertificatesModel" 137 ⟨"PrimeCertificatesModel", "witness", "(I)V"⟩ ∈ dzGW := dzGW_in (i := 871) (by decide +kernel) (by rfl)
theorem zw_875 : Cond.methodLink "PrimeCertificatesModel" 141 ⟨"PrimeCertificatesModel", "factors", "(I)V"⟩ ∈ dzGW := dzGW_in (i := 875) (by decide +kernel) (by rfl)
theorem zw_879 : Cond.methodLink "PrimeCertificatesModel" 144 ⟨"PrimeCertificatesModel", "product", "(II)Z"⟩ ∈ dzGW := dzGW_in (i := 879) (by decide +kernel) (by rfl)
theorem zw_883 : Cond.methodLink "PrimeCertificatesModel" 148 ⟨"PrimeCertificatesModel", "isWhole", "()Z"⟩ ∈ dzGW := dzGW_in (i := 883) (by decide +kernel) (by rfl)
theorem zw_891 : Cond.methodLink "PrimeCertificatesModel" 151 ⟨"PrimeCertificatesModel", "isRight", "(IZ)Z"⟩ ∈ dzGW := dzGW_in (i := 891) (by decide +kernel) (by rfl)
theorem zw_855 : Cond.methodLink "PrimeCertificatesModel" 158 ⟨"PrimeCertificatesModel", "lineOne", "()V"⟩ ∈ dzGW := dzGW_in (i := 855) (by decide +kernel) (by rfl)
theorem zw_862 : Cond.methodLink "PrimeCertificatesModel" 161 ⟨"PrimeCertificatesModel", "lineTwo", "()V"⟩ ∈ dzGW := dzGW_in (i := 862) (by decide +kernel) (by rfl)
theorem zw_895 : Cond.methodLink "PrimeCertificatesModel" 164 ⟨"PrimeCertificatesModel", "lineThree", "()V"⟩ ∈ dzGW := dzGW_in (i := 895) (by decide +kernel) (by rfl)
theorem zw_924 : Cond.methodLink "PrimeCertificatesModel" 167 ⟨"PrimeCertificatesModel", "say", "(I)I"⟩ ∈ dzGW := dzGW_in (i := 924) (by decide +kernel) (by rfl)
theorem zw_929 : Cond.methodLink "PrimeCertificatesModel" 173 ⟨"PrimeCertificatesModel", "often", "(I)I"⟩ ∈ dzGW := dzGW_in (i := 929) (by decide +kernel) (by rfl)
theorem zw_912 : Cond.methodLink "PrimeCertificatesModel" 176 ⟨"PrimeCertificatesModel", "lineOf", "(I)I"⟩ ∈ dzGW := dzGW_in (i := 912) (by decide +kernel) (by rfl)
theorem zw_920 : Cond.methodLink "PrimeCertificatesModel" 179 ⟨"PrimeCertificatesModel", "sayOne", "(I)Z"⟩ ∈ dzGW := dzGW_in (i := 920) (by decide +kernel) (by rfl)
theorem zw_934 : Cond.methodLink "PrimeCertificatesModel" 184 ⟨"PrimeCertificatesModel", "sort", "(I)V"⟩ ∈ dzGW := dzGW_in (i := 934) (by decide +kernel) (by rfl)
theorem zw_925 : Cond.methodLink "PrimeCertificatesModel" 187 ⟨"PrimeCertificatesModel", "find", "()Z"⟩ ∈ dzGW := dzGW_in (i := 925) (by decide +kernel) (by rfl)
theorem zw_938 : Cond.methodLink "PrimeCertificatesModel" 190 ⟨"PrimeCertificatesModel", "wholeWitness", "()I"⟩ ∈ dzGW := dzGW_in (i := 938) (by decide +kernel) (by rfl)
theorem zw_942 : Cond.methodLink "PrimeCertificatesModel" 193 ⟨"PrimeCertificatesModel", "sayLine", "(II)Z"⟩ ∈ dzGW := dzGW_in (i := 942) (by decide +kernel) (by rfl)
theorem zw_946 : Cond.methodLink "PrimeCertificatesModel" 196 ⟨"PrimeCertificatesModel", "partWitnesses", "()Z"⟩ ∈ dzGW := dzGW_in (i := 946) (by decide +kernel) (by rfl)
theorem zw_911 : Cond.methodLink "PrimeCertificatesModel" 199 ⟨"PrimeCertificatesModel", "check", "()I"⟩ ∈ dzGW := dzGW_in (i := 911) (by decide +kernel) (by rfl)
theorem zw_916 : Cond.methodLink "PrimeCertificatesModel" 202 ⟨"PrimeCertificatesModel", "make", "()Z"⟩ ∈ dzGW := dzGW_in (i := 916) (by decide +kernel) (by rfl)
theorem zw_451 : Cond.methodLink "PrimeCertificates$Checker" 60 ⟨"PrimeCertificates$Lines", "end", "()I"⟩ ∈ dzGW := dzGW_in (i := 451) (by decide +kernel) (by rfl)
theorem zw_455 : Cond.methodLink "PrimeCertificates$Checker" 74 ⟨"PrimeCertificates$Checker", "readLine", "(I)Z"⟩ ∈ dzGW := dzGW_in (i := 455) (by decide +kernel) (by rfl)
theorem zw_512 : Cond.methodLink "PrimeCertificates$Checker" 82 ⟨"PrimeCertificates$Trial", "begin", "([I)V"⟩ ∈ dzGW := dzGW_in (i := 512) (by decide +kernel) (by rfl)
theorem zw_518 : Cond.methodLink "PrimeCertificates$Checker" 88 ⟨"PrimeCertificates$Checker", "productHolds", "()Z"⟩ ∈ dzGW := dzGW_in (i := 518) (by decide +kernel) (by rfl)
theorem zw_536 : Cond.methodLink "PrimeCertificates$Checker" 92 ⟨"PrimeCertificates$Checker", "rootHolds", "()Z"⟩ ∈ dzGW := dzGW_in (i := 536) (by decide +kernel) (by rfl)
theorem zw_557 : Cond.methodLink "PrimeCertificates$Checker" 95 ⟨"PrimeCertificates$Checker", "witnessesHold", "()Z"⟩ ∈ dzGW := dzGW_in (i := 557) (by decide +kernel) (by rfl)
theorem zw_566 : Cond.methodLink "PrimeCertificates$Checker" 98 ⟨"PrimeCertificates$Lines", "keepNext", "(I)V"⟩ ∈ dzGW := dzGW_in (i := 566) (by decide +kernel) (by rfl)
theorem zw_463 : Cond.methodLink "PrimeCertificates$Checker" 102 ⟨"PrimeCertificates$Checker", "refuse", "(II)Z"⟩ ∈ dzGW := dzGW_in (i := 463) (by decide +kernel) (by rfl)
theorem zw_459 : Cond.methodLink "PrimeCertificates$Checker" 112 ⟨"PrimeCertificates$Checker", "take", "()Z"⟩ ∈ dzGW := dzGW_in (i := 459) (by decide +kernel) (by rfl)
theorem zw_467 : Cond.methodLink "PrimeCertificates$Checker" 115 ⟨"PrimeCertificates$Checker", "readSmallPrime", "([I)Z"⟩ ∈ dzGW := dzGW_in (i := 467) (by decide +kernel) (by rfl)
theorem zw_480 : Cond.methodLink "PrimeCertificates$Checker" 119 ⟨"PrimeCertificates$Checker", "readNumber", "([I)Z"⟩ ∈ dzGW := dzGW_in (i := 480) (by decide +kernel) (by rfl)
theorem zw_488 : Cond.methodLink "PrimeCertificates$Checker" 122 ⟨"PrimeCertificates$Checker", "readRoot", "([I)Z"⟩ ∈ dzGW := dzGW_in (i := 488) (by decide +kernel) (by rfl)
theorem zw_495 : Cond.methodLink "PrimeCertificates$Checker" 125 ⟨"PrimeCertificates$Checker", "readFactors", "(I)Z"⟩ ∈ dzGW := dzGW_in (i := 495) (by decide +kernel) (by rfl)
theorem zw_475 : Cond.methodLink "PrimeCertificates$Checker" 128 ⟨"PrimeCertificates$Checker", "refuseTaken", "(I)Z"⟩ ∈ dzGW := dzGW_in (i := 475) (by decide +kernel) (by rfl)
theorem zw_479 : Cond.methodLink "PrimeCertificates$Checker" 135 ⟨"PrimeCertificates$Sums", "setSmall", "([II)V"⟩ ∈ dzGW := dzGW_in (i := 479) (by decide +kernel) (by rfl)
theorem zw_484 : Cond.methodLink "PrimeCertificates$Checker" 141 ⟨"java/util/Arrays", "fill", "([II)V"⟩ ∈ dzGW := dzGW_in (i := 484) (by decide +kernel) (by rfl)
theorem zw_485 : Cond.methodLink "PrimeCertificates$Checker" 146 ⟨"PrimeCertificates$Sums", "isAtMost", "([II)Z"⟩ ∈ dzGW := dzGW_in (i := 485) (by decide +kernel) (by rfl)
theorem zw_492 : Cond.methodLink "PrimeCertificates$Checker" 150 ⟨"PrimeCertificates$Checker", "isWitness", "(I[I)Z"⟩ ∈ dzGW := dzGW_in (i := 492) (by decide +kernel) (by rfl)
theorem zw_499 : Cond.methodLink "PrimeCertificates$Checker" 155 ⟨"PrimeCertificates$Checker", "readFactorLine", "(II)Z"⟩ ∈ dzGW := dzGW_in (i := 499) (by decide +kernel) (by rfl)
theorem zw_508 : Cond.methodLink "PrimeCertificates$Checker" 158 ⟨"PrimeCertificates$Checker", "readExponent", "(I)Z"⟩ ∈ dzGW := dzGW_in (i := 508) (by decide +kernel) (by rfl)
theorem zw_503 : Cond.methodLink "PrimeCertificates$Checker" 166 ⟨"PrimeCertificates$Checker", "factorNumber", "(I)[I"⟩ ∈ dzGW := dzGW_in (i := 503) (by decide +kernel) (by rfl)
theorem zw_507 : Cond.methodLink "PrimeCertificates$Checker" 170 ⟨"PrimeCertificates$Sums", "order", "([I[I)I"⟩ ∈ dzGW := dzGW_in (i := 507) (by decide +kernel) (by rfl)
theorem zw_522 : Cond.methodLink "PrimeCertificates$Checker" 177 ⟨"PrimeCertificates$Checker", "multiplyFactors", "()Z"⟩ ∈ dzGW := dzGW_in (i := 522) (by decide +kernel) (by rfl)
theorem zw_527 : Cond.methodLink "PrimeCertificates$Checker" 183 ⟨"PrimeCertificates$Sums", "divides", "([I[I)Z"⟩ ∈ dzGW := dzGW_in (i := 527) (by decide +kernel) (by rfl)
theorem zw_531 : Cond.methodLink "PrimeCertificates$Checker" 190 ⟨"PrimeCertificates$Sums", "squareIsAbove", "([I[I)Z"⟩ ∈ dzGW := dzGW_in (i := 531) (by decide +kernel) (by rfl)
theorem zw_526 : Cond.methodLink "PrimeCertificates$Checker" 193 ⟨"PrimeCertificates$Sums", "product", "([I[I[I)Z"⟩ ∈ dzGW := dzGW_in (i := 526) (by decide +kernel) (by rfl)
theorem zw_540 : Cond.methodLink "PrimeCertificates$Checker" 196 ⟨"PrimeCertificates$Trial", "closes", "(I)Z"⟩ ∈ dzGW := dzGW_in (i := 540) (by decide +kernel) (by rfl)
theorem zw_548 : Cond.methodLink "PrimeCertificates$Checker" 199 ⟨"PrimeCertificates$Trial", "parts", "(I[I)Z"⟩ ∈ dzGW := dzGW_in (i := 548) (by decide +kernel) (by rfl)
theorem zw_553 : Cond.methodLink "PrimeCertificates$Checker" 202 ⟨"PrimeCertificates$Checker", "factorPlace", "(I)I"⟩ ∈ dzGW := dzGW_in (i := 553) (by decide +kernel) (by rfl)
theorem zw_561 : Cond.methodLink "PrimeCertificates$Checker" 206 ⟨"PrimeCertificates$Trial", "partsEverywhere", "(I[I)Z"⟩ ∈ dzGW := dzGW_in (i := 561) (by decide +kernel) (by rfl)
theorem zw_590 : Cond.methodLink "PrimeCertificates$Lines" 27 ⟨"PrimeCertificates$Sums", "order", "([I[I)I"⟩ ∈ dzGW := dzGW_in (i := 590) (by decide +kernel) (by rfl)
theorem zw_586 : Cond.methodLink "PrimeCertificates$Maker" 54 ⟨"PrimeCertificates$Lines", "lineOf", "([I)I"⟩ ∈ dzGW := dzGW_in (i := 586) (by decide +kernel) (by rfl)
theorem zw_592 : Cond.methodLink "PrimeCertificates$Maker" 61 ⟨"PrimeCertificates$Sums", "isAtMost", "([II)Z"⟩ ∈ dzGW := dzGW_in (i := 592) (by decide +kernel) (by rfl)
theorem zw_594 : Cond.methodLink "PrimeCertificates$Maker" 71 ⟨"PrimeCertificates$Maker", "planSmallLine", "([I)Z"⟩ ∈ dzGW := dzGW_in (i := 594) (by decide +kernel) (by rfl)
theorem zw_599 : Cond.methodLink "PrimeCertificates$Maker" 75 ⟨"PrimeCertificates$Maker", "hasRoom", "(I)Z"⟩ ∈ dzGW := dzGW_in (i := 599) (by decide +kernel) (by rfl)
theorem zw_604 : Cond.methodLink "PrimeCertificates$Maker" 78 ⟨"PrimeCertificates$Maker", "writeSmallLines", "()I"⟩ ∈ dzGW := dzGW_in (i := 604) (by decide +kernel) (by rfl)
theorem zw_610 : Cond.methodLink "PrimeCertificates$Maker" 82 ⟨"PrimeCertificates$Trial", "begin", "([I)V"⟩ ∈ dzGW := dzGW_in (i := 610) (by decide +kernel) (by rfl)
theorem zw_611 : Cond.methodLink "PrimeCertificates$Maker" 88 ⟨"PrimeCertificates$Maker", "findFactors", "()Z"⟩ ∈ dzGW := dzGW_in (i := 611) (by decide +kernel) (by rfl)
theorem zw_635 : Cond.methodLink "PrimeCertificates$Maker" 92 ⟨"PrimeCertificates$Sums", "isOne", "([I)Z"⟩ ∈ dzGW := dzGW_in (i := 635) (by decide +kernel) (by rfl)
theorem zw_636 : Cond.methodLink "PrimeCertificates$Maker" 95 ⟨"PrimeCertificates$Maker", "lastLineInts", "(Z)I"⟩ ∈ dzGW := dzGW_in (i := 636) (by decide +kernel) (by rfl)
theorem zw_641 : Cond.methodLink "PrimeCertificates$Maker" 99 ⟨"PrimeCertificates$Maker", "factorsSuffice", "()Z"⟩ ∈ dzGW := dzGW_in (i := 641) (by decide +kernel) (by rfl)
theorem zw_646 : Cond.methodLink "PrimeCertificates$Maker" 102 ⟨"PrimeCertificates$Maker", "findRoot", "()Z"⟩ ∈ dzGW := dzGW_in (i := 646) (by decide +kernel) (by rfl)
theorem zw_652 : Cond.methodLink "PrimeCertificates$Maker" 105 ⟨"PrimeCertificates$Maker", "findWitnesses", "()Z"⟩ ∈ dzGW := dzGW_in (i := 652) (by decide +kernel) (by rfl)
theorem zw_660 : Cond.methodLink "PrimeCertificates$Maker" 108 ⟨"PrimeCertificates$Maker", "writeLastLine", "(Z)I"⟩ ∈ dzGW := dzGW_in (i := 660) (by decide +kernel) (by rfl)
theorem zw_598 : Cond.methodLink "PrimeCertificates$Maker" 117 ⟨"PrimeCertificates$Sums", "copy", "([I[I)V"⟩ ∈ dzGW := dzGW_in (i := 598) (by decide +kernel) (by rfl)
theorem zw_615 : Cond.methodLink "PrimeCertificates$Maker" 121 ⟨"PrimeCertificates$Sums", "setSmall", "([II)V"⟩ ∈ dzGW := dzGW_in (i := 615) (by decide +kernel) (by rfl)
theorem zw_616 : Cond.methodLink "PrimeCertificates$Maker" 125 ⟨"PrimeCertificates$Maker", "divideOut", "([I)I"⟩ ∈ dzGW := dzGW_in (i := 616) (by decide +kernel) (by rfl)
theorem zw_622 : Cond.methodLink "PrimeCertificates$Maker" 128 ⟨"PrimeCertificates$Maker", "insertPrime", "(I)Z"⟩ ∈ dzGW := dzGW_in (i := 622) (by decide +kernel) (by rfl)
theorem zw_626 : Cond.methodLink "PrimeCertificates$Maker" 136 ⟨"PrimeCertificates$Maker", "insertFactor", "(II)Z"⟩ ∈ dzGW := dzGW_in (i := 626) (by decide +kernel) (by rfl)
theorem zw_620 : Cond.methodLink "PrimeCertificates$Maker" 140 ⟨"PrimeCertificates$Sums", "quotient", "([I[I[I[I)V"⟩ ∈ dzGW := dzGW_in (i := 620) (by decide +kernel) (by rfl)
theorem zw_621 : Cond.methodLink "PrimeCertificates$Maker" 144 ⟨"PrimeCertificates$Sums", "isZero", "([I)Z"⟩ ∈ dzGW := dzGW_in (i := 621) (by decide +kernel) (by rfl)
theorem zw_630 : Cond.methodLink "PrimeCertificates$Maker" 147 ⟨"PrimeCertificates$Maker", "factorNumber", "(I)[I"⟩ ∈ dzGW := dzGW_in (i := 630) (by decide +kernel) (by rfl)
theorem zw_634 : Cond.methodLink "PrimeCertificates$Maker" 151 ⟨"PrimeCertificates$Sums", "order", "([I[I)I"⟩ ∈ dzGW := dzGW_in (i := 634) (by decide +kernel) (by rfl)
theorem zw_603 : Cond.methodLink "PrimeCertificates$Maker" 160 ⟨"PrimeCertificates$Tape", "room", "()I"⟩ ∈ dzGW := dzGW_in (i := 603) (by decide +kernel) (by rfl)
theorem zw_640 : Cond.methodLink "PrimeCertificates$Maker" 168 ⟨"PrimeCertificates$Sums", "usedWords", "([I)I"⟩ ∈ dzGW := dzGW_in (i := 640) (by decide +kernel) (by rfl)
theorem zw_645 : Cond.methodLink "PrimeCertificates$Maker" 171 ⟨"PrimeCertificates$Sums", "squareIsAbove", "([I[I)Z"⟩ ∈ dzGW := dzGW_in (i := 645) (by decide +kernel) (by rfl)
theorem zw_650 : Cond.methodLink "PrimeCertificates$Maker" 175 ⟨"PrimeCertificates$Trial", "parts", "(I[I)Z"⟩ ∈ dzGW := dzGW_in (i := 650) (by decide +kernel) (by rfl)
theorem zw_651 : Cond.methodLink "PrimeCertificates$Maker" 179 ⟨"PrimeCertificates$Trial", "closes", "(I)Z"⟩ ∈ dzGW := dzGW_in (i := 651) (by decide +kernel) (by rfl)
theorem zw_659 : Cond.methodLink "PrimeCertificates$Maker" 191 ⟨"PrimeCertificates$Trial", "partsEverywhere", "(I[I)Z"⟩ ∈ dzGW := dzGW_in (i := 659) (by decide +kernel) (by rfl)
theorem zw_608 : Cond.methodLink "PrimeCertificates$Maker" 194 ⟨"PrimeCertificates$Tape", "append", "(I)V"⟩ ∈ dzGW := dzGW_in (i := 608) (by decide +kernel) (by rfl)
theorem zw_609 : Cond.methodLink "PrimeCertificates$Maker" 201 ⟨"PrimeCertificates$Lines", "keepNext", "(I)V"⟩ ∈ dzGW := dzGW_in (i := 609) (by decide +kernel) (by rfl)
theorem zw_331 : Cond.methodLink "PrimeCertificates$Sums" 40 ⟨"PrimeCertificates$Sums", "usedWords", "([I)I"⟩ ∈ dzGW := dzGW_in (i := 331) (by decide +kernel) (by rfl)
theorem zw_334 : Cond.methodLink "PrimeCertificates$Sums" 52 ⟨"java/util/Arrays", "fill", "([II)V"⟩ ∈ dzGW := dzGW_in (i := 334) (by decide +kernel) (by rfl)
theorem zw_327 : Cond.methodLink "PrimeCertificates$Sums" 58 ⟨"PrimeCertificates$Sums", "setWideToProduct", "([I[I)V"⟩ ∈ dzGW := dzGW_in (i := 327) (by decide +kernel) (by rfl)
theorem zw_337 : Cond.methodLink "PrimeCertificates$Sums" 62 ⟨"PrimeCertificates$Sums", "copy", "([I[I)V"⟩ ∈ dzGW := dzGW_in (i := 337) (by decide +kernel) (by rfl)
theorem zw_535 : Cond.methodLink "PrimeCertificates$Sums" 65 ⟨"PrimeCertificates$Sums", "order", "([I[I)I"⟩ ∈ dzGW := dzGW_in (i := 535) (by decide +kernel) (by rfl)
theorem zw_349 : Cond.methodLink "PrimeCertificates$Sums" 69 ⟨"PrimeCertificates$Sums", "setDivisor", "([I)V"⟩ ∈ dzGW := dzGW_in (i := 349) (by decide +kernel) (by rfl)
theorem zw_360 : Cond.methodLink "PrimeCertificates$Sums" 73 ⟨"PrimeCertificates$Sums", "setWide", "([I)V"⟩ ∈ dzGW := dzGW_in (i := 360) (by decide +kernel) (by rfl)
theorem zw_364 : Cond.methodLink "PrimeCertificates$Sums" 76 ⟨"PrimeCertificates$Sums", "reduceWide", "()V"⟩ ∈ dzGW := dzGW_in (i := 364) (by decide +kernel) (by rfl)
theorem zw_407 : Cond.methodLink "PrimeCertificates$Sums" 79 ⟨"PrimeCertificates$Sums", "isZero", "([I)Z"⟩ ∈ dzGW := dzGW_in (i := 407) (by decide +kernel) (by rfl)
theorem zw_396 : Cond.methodLink "PrimeCertificates$Sums" 83 ⟨"PrimeCertificates$Sums", "setSmall", "([II)V"⟩ ∈ dzGW := dzGW_in (i := 396) (by decide +kernel) (by rfl)
theorem zw_353 : Cond.methodLink "PrimeCertificates$Sums" 86 ⟨"PrimeCertificates$Sums", "leadingZeros", "(I)I"⟩ ∈ dzGW := dzGW_in (i := 353) (by decide +kernel) (by rfl)
theorem zw_356 : Cond.methodLink "PrimeCertificates$Sums" 90 ⟨"PrimeCertificates$Sums", "shiftUp", "([II[I)V"⟩ ∈ dzGW := dzGW_in (i := 356) (by decide +kernel) (by rfl)
theorem zw_368 : Cond.methodLink "PrimeCertificates$Sums" 94 ⟨"PrimeCertificates$Sums", "guessTimes", "(I)J"⟩ ∈ dzGW := dzGW_in (i := 368) (by decide +kernel) (by rfl)
theorem zw_376 : Cond.methodLink "PrimeCertificates$Sums" 98 ⟨"PrimeCertificates$Sums", "takeAway", "(JI)Z"⟩ ∈ dzGW := dzGW_in (i := 376) (by decide +kernel) (by rfl)
theorem zw_380 : Cond.methodLink "PrimeCertificates$Sums" 102 ⟨"PrimeCertificates$Sums", "giveBack", "(I)V"⟩ ∈ dzGW := dzGW_in (i := 380) (by decide +kernel) (by rfl)
theorem zw_384 : Cond.methodLink "PrimeCertificates$Sums" 106 ⟨"PrimeCertificates$Sums", "shiftWideDown", "()V"⟩ ∈ dzGW := dzGW_in (i := 384) (by decide +kernel) (by rfl)
theorem zw_372 : Cond.methodLink "PrimeCertificates$Sums" 109 ⟨"PrimeCertificates$Sums", "isAbove", "(JJ)Z"⟩ ∈ dzGW := dzGW_in (i := 372) (by decide +kernel) (by rfl)
theorem zw_516 : Cond.methodLink "PrimeCertificates$Trial" 34 ⟨"PrimeCertificates$Sums", "copy", "([I[I)V"⟩ ∈ dzGW := dzGW_in (i := 516) (by decide +kernel) (by rfl)
theorem zw_517 : Cond.methodLink "PrimeCertificates$Trial" 40 ⟨"PrimeCertificates$Sums", "difference", "([I[I[I)Z"⟩ ∈ dzGW := dzGW_in (i := 517) (by decide +kernel) (by rfl)
theorem zw_544 : Cond.methodLink "PrimeCertificates$Trial" 44 ⟨"PrimeCertificates$Sums", "powerModulo", "([I[I[I[I)V"⟩ ∈ dzGW := dzGW_in (i := 544) (by decide +kernel) (by rfl)
theorem zw_545 : Cond.methodLink "PrimeCertificates$Trial" 48 ⟨"PrimeCertificates$Sums", "isOne", "([I)Z"⟩ ∈ dzGW := dzGW_in (i := 545) (by decide +kernel) (by rfl)
theorem zw_552 : Cond.methodLink "PrimeCertificates$Trial" 52 ⟨"PrimeCertificates$Sums", "quotient", "([I[I[I[I)V"⟩ ∈ dzGW := dzGW_in (i := 552) (by decide +kernel) (by rfl)
theorem zw_565 : Cond.methodLink "PrimeCertificates$Trial" 55 ⟨"PrimeCertificates$Sums", "greatestDivisor", "([I[I[I)V"⟩ ∈ dzGW := dzGW_in (i := 565) (by decide +kernel) (by rfl)
theorem zw_15 : Cond.methodLink "PrimeCertificatesLaw" 9 ⟨"PrimeCertificates", "<init>", "()V"⟩ ∈ dzGW := dzGW_in (i := 15) (by decide +kernel) (by rfl)
theorem zw_666 : Cond.methodLink "PrimeCertificatesLaw" 12 ⟨"PrimeCertificatesModel", "<init>", "()V"⟩ ∈ dzGW := dzGW_in (i := 666) (by decide +kernel) (by rfl)
theorem zw_277 : Cond.methodLink "PrimeCertificatesLaw" 13 ⟨"PrimeCertificates", "put", "(III)Z"⟩ ∈ dzGW := dzGW_in (i := 277) (by decide +kernel) (by rfl)
theorem zw_712 : Cond.methodLink "PrimeCertificatesLaw" 17 ⟨"PrimeCertificatesModel", "put", "(III)Z"⟩ ∈ dzGW := dzGW_in (i := 712) (by decide +kernel) (by rfl)
theorem zw_287 : Cond.methodLink "PrimeCertificatesLaw" 18 ⟨"PrimeCertificates", "get", "(II)I"⟩ ∈ dzGW := dzGW_in (i := 287) (by decide +kernel) (by rfl)
theorem zw_720 : Cond.methodLink "PrimeCertificatesLaw" 22 ⟨"PrimeCertificatesModel", "get", "(II)I"⟩ ∈ dzGW := dzGW_in (i := 720) (by decide +kernel) (by rfl)
theorem zw_291 : Cond.methodLink "PrimeCertificatesLaw" 23 ⟨"PrimeCertificates", "add", "(III)I"⟩ ∈ dzGW := dzGW_in (i := 291) (by decide +kernel) (by rfl)
theorem zw_724 : Cond.methodLink "PrimeCertificatesLaw" 27 ⟨"PrimeCertificatesModel", "add", "(III)I"⟩ ∈ dzGW := dzGW_in (i := 724) (by decide +kernel) (by rfl)
theorem zw_312 : Cond.methodLink "PrimeCertificatesLaw" 28 ⟨"PrimeCertificates", "subtract", "(III)I"⟩ ∈ dzGW := dzGW_in (i := 312) (by decide +kernel) (by rfl)
theorem zw_751 : Cond.methodLink "PrimeCertificatesLaw" 31 ⟨"PrimeCertificatesModel", "subtract", "(III)I"⟩ ∈ dzGW := dzGW_in (i := 751) (by decide +kernel) (by rfl)
theorem zw_319 : Cond.methodLink "PrimeCertificatesLaw" 32 ⟨"PrimeCertificates", "multiply", "(III)I"⟩ ∈ dzGW := dzGW_in (i := 319) (by decide +kernel) (by rfl)
theorem zw_763 : Cond.methodLink "PrimeCertificatesLaw" 35 ⟨"PrimeCertificatesModel", "multiply", "(III)I"⟩ ∈ dzGW := dzGW_in (i := 763) (by decide +kernel) (by rfl)
theorem zw_338 : Cond.methodLink "PrimeCertificatesLaw" 36 ⟨"PrimeCertificates", "divide", "(IIII)I"⟩ ∈ dzGW := dzGW_in (i := 338) (by decide +kernel) (by rfl)
theorem zw_771 : Cond.methodLink "PrimeCertificatesLaw" 40 ⟨"PrimeCertificatesModel", "divide", "(IIII)I"⟩ ∈ dzGW := dzGW_in (i := 771) (by decide +kernel) (by rfl)
theorem zw_388 : Cond.methodLink "PrimeCertificatesLaw" 41 ⟨"PrimeCertificates", "power", "(IIII)I"⟩ ∈ dzGW := dzGW_in (i := 388) (by decide +kernel) (by rfl)
theorem zw_795 : Cond.methodLink "PrimeCertificatesLaw" 44 ⟨"PrimeCertificatesModel", "power", "(IIII)I"⟩ ∈ dzGW := dzGW_in (i := 795) (by decide +kernel) (by rfl)
theorem zw_399 : Cond.methodLink "PrimeCertificatesLaw" 45 ⟨"PrimeCertificates", "common", "(III)I"⟩ ∈ dzGW := dzGW_in (i := 399) (by decide +kernel) (by rfl)
theorem zw_807 : Cond.methodLink "PrimeCertificatesLaw" 48 ⟨"PrimeCertificatesModel", "common", "(III)I"⟩ ∈ dzGW := dzGW_in (i := 807) (by decide +kernel) (by rfl)
theorem zw_408 : Cond.methodLink "PrimeCertificatesLaw" 49 ⟨"PrimeCertificates", "compare", "(II)I"⟩ ∈ dzGW := dzGW_in (i := 408) (by decide +kernel) (by rfl)
theorem zw_815 : Cond.methodLink "PrimeCertificatesLaw" 52 ⟨"PrimeCertificatesModel", "compare", "(II)I"⟩ ∈ dzGW := dzGW_in (i := 815) (by decide +kernel) (by rfl)
theorem zw_415 : Cond.methodLink "PrimeCertificatesLaw" 53 ⟨"PrimeCertificates", "say", "(I)I"⟩ ∈ dzGW := dzGW_in (i := 415) (by decide +kernel) (by rfl)
theorem zw_819 : Cond.methodLink "PrimeCertificatesLaw" 57 ⟨"PrimeCertificatesModel", "say", "(I)I"⟩ ∈ dzGW := dzGW_in (i := 819) (by decide +kernel) (by rfl)
theorem zw_427 : Cond.methodLink "PrimeCertificatesLaw" 58 ⟨"PrimeCertificates", "cut", "(I)Z"⟩ ∈ dzGW := dzGW_in (i := 427) (by decide +kernel) (by rfl)
theorem zw_823 : Cond.methodLink "PrimeCertificatesLaw" 62 ⟨"PrimeCertificatesModel", "cut", "(I)Z"⟩ ∈ dzGW := dzGW_in (i := 823) (by decide +kernel) (by rfl)
theorem zw_435 : Cond.methodLink "PrimeCertificatesLaw" 63 ⟨"PrimeCertificates", "length", "()I"⟩ ∈ dzGW := dzGW_in (i := 435) (by decide +kernel) (by rfl)
theorem zw_827 : Cond.methodLink "PrimeCertificatesLaw" 67 ⟨"PrimeCertificatesModel", "length", "()I"⟩ ∈ dzGW := dzGW_in (i := 827) (by decide +kernel) (by rfl)
theorem zw_439 : Cond.methodLink "PrimeCertificatesLaw" 68 ⟨"PrimeCertificates", "at", "(I)I"⟩ ∈ dzGW := dzGW_in (i := 439) (by decide +kernel) (by rfl)
theorem zw_831 : Cond.methodLink "PrimeCertificatesLaw" 71 ⟨"PrimeCertificatesModel", "at", "(I)I"⟩ ∈ dzGW := dzGW_in (i := 831) (by decide +kernel) (by rfl)
theorem zw_443 : Cond.methodLink "PrimeCertificatesLaw" 72 ⟨"PrimeCertificates", "check", "()I"⟩ ∈ dzGW := dzGW_in (i := 443) (by decide +kernel) (by rfl)
theorem zw_835 : Cond.methodLink "PrimeCertificatesLaw" 75 ⟨"PrimeCertificatesModel", "check", "()I"⟩ ∈ dzGW := dzGW_in (i := 835) (by decide +kernel) (by rfl)
theorem zw_570 : Cond.methodLink "PrimeCertificatesLaw" 76 ⟨"PrimeCertificates", "place", "()I"⟩ ∈ dzGW := dzGW_in (i := 570) (by decide +kernel) (by rfl)
theorem zw_899 : Cond.methodLink "PrimeCertificatesLaw" 79 ⟨"PrimeCertificatesModel", "place", "()I"⟩ ∈ dzGW := dzGW_in (i := 899) (by decide +kernel) (by rfl)
theorem zw_574 : Cond.methodLink "PrimeCertificatesLaw" 80 ⟨"PrimeCertificates", "tell", "(II)Z"⟩ ∈ dzGW := dzGW_in (i := 574) (by decide +kernel) (by rfl)
theorem zw_903 : Cond.methodLink "PrimeCertificatesLaw" 84 ⟨"PrimeCertificatesModel", "tell", "(II)Z"⟩ ∈ dzGW := dzGW_in (i := 903) (by decide +kernel) (by rfl)
theorem zw_578 : Cond.methodLink "PrimeCertificatesLaw" 85 ⟨"PrimeCertificates", "prove", "(I)I"⟩ ∈ dzGW := dzGW_in (i := 578) (by decide +kernel) (by rfl)
theorem zw_907 : Cond.methodLink "PrimeCertificatesLaw" 88 ⟨"PrimeCertificatesModel", "prove", "(I)I"⟩ ∈ dzGW := dzGW_in (i := 907) (by decide +kernel) (by rfl)
def zl_c : List (Nat × Nat × Nat) := [(0, 44, 3), (0, 49, 5), (0, 58, 6), (0, 63, 8), (0, 67, 9), (0, 70, 12), (0, 74, 13), (0, 78, 15), (0, 82, 17), (0, 85, 22), (0, 88, 24), (0, 92, 35), (0, 96, 14), (0, 100, 38), (0, 103, 40), (0, 107, 42), (0, 111, 44), (0, 115, 45), (0, 123, 47), (0, 129, 79), (0, 144, 97), (1, 29, 99), (1, 35, 103), (1, 40, 101), (1, 44, 108), (1, 48, 109), (1, 52, 110), (1, 56, 111), (1, 60, 107), (1, 64, 112), (1, 68, 104), (1, 72, 102), (1, 75, 117), (1, 78, 115), (1, 81, 120), (1, 85, 105), (1, 88, 121), (1, 91, 106), (1, 94, 113), (1, 97, 114), (1, 106, 134), (1, 113, 133), (1, 116, 135), (1, 120, 137), (1, 126, 136), (1, 131, 116), (1, 134, 139), (1, 137, 140), (1, 141, 141), (1, 144, 142), (1, 148, 143), (1, 151, 144), (1, 158, 138), (1, 161, 145), (1, 164, 146), (1, 167, 129), (1, 173, 152), (1, 176, 150), (1, 179, 151), (1, 184, 153), (1, 187, 154), (1, 190, 155), (1, 193, 157), (1, 196, 156), (1, 199, 147), (1, 202, 158), (2, 60, 51), (2, 74, 65), (2, 82, 66), (2, 88, 70), (2, 92, 75), (2, 95, 77), (2, 98, 78), (2, 102, 52), (2, 112, 53), (2, 115, 56), (2, 119, 58), (2, 122, 60), (2, 125, 64), (2, 128, 55), (2, 135, 37), (2, 141, 20), (2, 146, 57), (2, 150, 59), (2, 155, 62), (2, 158, 63), (2, 166, 61), (2, 170, 42), (2, 177, 67), (2, 183, 68), (2, 190, 69), (2, 193, 22), (2, 196, 72), (2, 199, 73), (2, 202, 74), (2, 206, 76), (4, 27, 42), (5, 54, 83), (5, 61, 57), (5, 71, 84), (5, 75, 85), (5, 78, 86), (5, 82, 66), (5, 88, 91), (5, 92, 71), (5, 95, 92), (5, 99, 93), (5, 102, 94), (5, 105, 95), (5, 108, 96), (5, 117, 14), (5, 121, 37), (5, 125, 87), (5, 128, 90), (5, 136, 89), (5, 140, 35), (5, 144, 24), (5, 147, 88), (5, 151, 42), (5, 160, 44), (5, 168, 19), (5, 171, 69), (5, 175, 73), (5, 179, 72), (5, 191, 76), (5, 194, 45), (5, 201, 78), (6, 40, 19), (6, 52, 20), (6, 58, 21), (6, 62, 14), (6, 65, 42), (6, 69, 27), (6, 73, 28), (6, 76, 34), (6, 79, 24), (6, 83, 37), (6, 86, 25), (6, 90, 26), (6, 94, 30), (6, 98, 31), (6, 102, 32), (6, 106, 33), (6, 109, 29), (8, 34, 14), (8, 40, 17), (8, 44, 38), (8, 48, 71), (8, 52, 35), (8, 55, 40), (9, 9, 7), (9, 12, 100), (9, 13, 10), (9, 17, 118), (9, 18, 11), (9, 22, 119), (9, 23, 16), (9, 27, 122), (9, 28, 18), (9, 31, 123), (9, 32, 23), (9, 35, 124), (9, 36, 36), (9, 40, 125), (9, 41, 39), (9, 44, 126), (9, 45, 41), (9, 48, 127), (9, 49, 43), (9, 52, 128), (9, 53, 46), (9, 57, 129), (9, 58, 48), (9, 62, 130), (9, 63, 49), (9, 67, 131), (9, 68, 50), (9, 71, 132), (9, 72, 80), (9, 75, 147), (9, 76, 81), (9, 79, 148), (9, 80, 82), (9, 84, 149), (9, 85, 98), (9, 88, 159)]
set_option maxRecDepth 100000 in
theorem zl_c_ok : ∀ q ∈ zl_c, Cond.methodLink (dzCn q.1) q.2.1 (dzY q.2.2) ∈ dzGW := List.forall_mem_cons.mpr ⟨zw_106, List.forall_mem_cons.mpr ⟨zw_138, List.forall_mem_cons.mpr ⟨zw_212, List.forall_mem_cons.mpr ⟨zw_281, List.forall_mem_cons.mpr ⟨zw_284, List.forall_mem_cons.mpr ⟨zw_295, List.forall_mem_cons.mpr ⟨zw_298, List.forall_mem_cons.mpr ⟨zw_302, List.forall_mem_cons.mpr ⟨zw_316, List.forall_mem_cons.mpr ⟨zw_323, List.forall_mem_cons.mpr ⟨zw_342, List.forall_mem_cons.mpr ⟨zw_345, List.forall_mem_cons.mpr ⟨zw_306, List.forall_mem_cons.mpr ⟨zw_392, List.forall_mem_cons.mpr ⟨zw_403, List.forall_mem_cons.mpr ⟨zw_412, List.forall_mem_cons.mpr ⟨zw_419, List.forall_mem_cons.mpr ⟨zw_423, List.forall_mem_cons.mpr ⟨zw_431, List.forall_mem_cons.mpr ⟨zw_447, List.forall_mem_cons.mpr ⟨zw_582, List.forall_mem_cons.mpr ⟨zw_670, List.forall_mem_cons.mpr ⟨zw_747, List.forall_mem_cons.mpr ⟨zw_731, List.forall_mem_cons.mpr ⟨zw_783, List.forall_mem_cons.mpr ⟨zw_787, List.forall_mem_cons.mpr ⟨zw_791, List.forall_mem_cons.mpr ⟨zw_779, List.forall_mem_cons.mpr ⟨zw_767, List.forall_mem_cons.mpr ⟨zw_803, List.forall_mem_cons.mpr ⟨zw_775, List.forall_mem_cons.mpr ⟨zw_755, List.forall_mem_cons.mpr ⟨zw_716, List.forall_mem_cons.mpr ⟨zw_743, List.forall_mem_cons.mpr ⟨zw_728, List.forall_mem_cons.mpr ⟨zw_735, List.forall_mem_cons.mpr ⟨zw_739, List.forall_mem_cons.mpr ⟨zw_759, List.forall_mem_cons.mpr ⟨zw_799, List.forall_mem_cons.mpr ⟨zw_811, List.forall_mem_cons.mpr ⟨zw_839, List.forall_mem_cons.mpr ⟨zw_843, List.forall_mem_cons.mpr ⟨zw_851, List.forall_mem_cons.mpr ⟨zw_859, List.forall_mem_cons.mpr ⟨zw_847, List.forall_mem_cons.mpr ⟨zw_887, List.forall_mem_cons.mpr ⟨zw_866, List.forall_mem_cons.mpr ⟨zw_871, List.forall_mem_cons.mpr ⟨zw_875, List.forall_mem_cons.mpr ⟨zw_879, List.forall_mem_cons.mpr ⟨zw_883, List.forall_mem_cons.mpr ⟨zw_891, List.forall_mem_cons.mpr ⟨zw_855, List.forall_mem_cons.mpr ⟨zw_862, List.forall_mem_cons.mpr ⟨zw_895, List.forall_mem_cons.mpr ⟨zw_924, List.forall_mem_cons.mpr ⟨zw_929, List.forall_mem_cons.mpr ⟨zw_912, List.forall_mem_cons.mpr ⟨zw_920, List.forall_mem_cons.mpr ⟨zw_934, List.forall_mem_cons.mpr ⟨zw_925, List.forall_mem_cons.mpr ⟨zw_938, List.forall_mem_cons.mpr ⟨zw_942, List.forall_mem_cons.mpr ⟨zw_946, List.forall_mem_cons.mpr ⟨zw_911, List.forall_mem_cons.mpr ⟨zw_916, List.forall_mem_cons.mpr ⟨zw_451, List.forall_mem_cons.mpr ⟨zw_455, List.forall_mem_cons.mpr ⟨zw_512, List.forall_mem_cons.mpr ⟨zw_518, List.forall_mem_cons.mpr ⟨zw_536, List.forall_mem_cons.mpr ⟨zw_557, List.forall_mem_cons.mpr ⟨zw_566, List.forall_mem_cons.mpr ⟨zw_463, List.forall_mem_cons.mpr ⟨zw_459, List.forall_mem_cons.mpr ⟨zw_467, List.forall_mem_cons.mpr ⟨zw_480, List.forall_mem_cons.mpr ⟨zw_488, List.forall_mem_cons.mpr ⟨zw_495, List.forall_mem_cons.mpr ⟨zw_475, List.forall_mem_cons.mpr ⟨zw_479, List.forall_mem_cons.mpr ⟨zw_484, List.forall_mem_cons.mpr ⟨zw_485, List.forall_mem_cons.mpr ⟨zw_492, List.forall_mem_cons.mpr ⟨zw_499, List.forall_mem_cons.mpr ⟨zw_508, List.forall_mem_cons.mpr ⟨zw_503, List.forall_mem_cons.mpr ⟨zw_507, List.forall_mem_cons.mpr ⟨zw_522, List.forall_mem_cons.mpr ⟨zw_527, List.forall_mem_cons.mpr ⟨zw_531, List.forall_mem_cons.mpr ⟨zw_526, List.forall_mem_cons.mpr ⟨zw_540, List.forall_mem_cons.mpr ⟨zw_548, List.forall_mem_cons.mpr ⟨zw_553, List.forall_mem_cons.mpr ⟨zw_561, List.forall_mem_cons.mpr ⟨zw_590, List.forall_mem_cons.mpr ⟨zw_586, List.forall_mem_cons.mpr ⟨zw_592, List.forall_mem_cons.mpr ⟨zw_594, List.forall_mem_cons.mpr ⟨zw_599, List.forall_mem_cons.mpr ⟨zw_604, List.forall_mem_cons.mpr ⟨zw_610, List.forall_mem_cons.mpr ⟨zw_611, List.forall_mem_cons.mpr ⟨zw_635, List.forall_mem_cons.mpr ⟨zw_636, List.forall_mem_cons.mpr ⟨zw_641, List.forall_mem_cons.mpr ⟨zw_646, List.forall_mem_cons.mpr ⟨zw_652, List.forall_mem_cons.mpr ⟨zw_660, List.forall_mem_cons.mpr ⟨zw_598, List.forall_mem_cons.mpr ⟨zw_615, List.forall_mem_cons.mpr ⟨zw_616, List.forall_mem_cons.mpr ⟨zw_622, List.forall_mem_cons.mpr ⟨zw_626, List.forall_mem_cons.mpr ⟨zw_620, List.forall_mem_cons.mpr ⟨zw_621, List.forall_mem_cons.mpr ⟨zw_630, List.forall_mem_cons.mpr ⟨zw_634, List.forall_mem_cons.mpr ⟨zw_603, List.forall_mem_cons.mpr ⟨zw_640, List.forall_mem_cons.mpr ⟨zw_645, List.forall_mem_cons.mpr ⟨zw_650, List.forall_mem_cons.mpr ⟨zw_651, List.forall_mem_cons.mpr ⟨zw_659, List.forall_mem_cons.mpr ⟨zw_608, List.forall_mem_cons.mpr ⟨zw_609, List.forall_mem_cons.mpr ⟨zw_331, List.forall_mem_cons.mpr ⟨zw_334, List.forall_mem_cons.mpr ⟨zw_327, List.forall_mem_cons.mpr ⟨zw_337, List.forall_mem_cons.mpr ⟨zw_535, List.forall_mem_cons.mpr ⟨zw_349, List.forall_mem_cons.mpr ⟨zw_360, List.forall_mem_cons.mpr ⟨zw_364, List.forall_mem_cons.mpr ⟨zw_407, List.forall_mem_cons.mpr ⟨zw_396, List.forall_mem_cons.mpr ⟨zw_353, List.forall_mem_cons.mpr ⟨zw_356, List.forall_mem_cons.mpr ⟨zw_368, List.forall_mem_cons.mpr ⟨zw_376, List.forall_mem_cons.mpr ⟨zw_380, List.forall_mem_cons.mpr ⟨zw_384, List.forall_mem_cons.mpr ⟨zw_372, List.forall_mem_cons.mpr ⟨zw_516, List.forall_mem_cons.mpr ⟨zw_517, List.forall_mem_cons.mpr ⟨zw_544, List.forall_mem_cons.mpr ⟨zw_545, List.forall_mem_cons.mpr ⟨zw_552, List.forall_mem_cons.mpr ⟨zw_565, List.forall_mem_cons.mpr ⟨zw_15, List.forall_mem_cons.mpr ⟨zw_666, List.forall_mem_cons.mpr ⟨zw_277, List.forall_mem_cons.mpr ⟨zw_712, List.forall_mem_cons.mpr ⟨zw_287, List.forall_mem_cons.mpr ⟨zw_720, List.forall_mem_cons.mpr ⟨zw_291, List.forall_mem_cons.mpr ⟨zw_724, List.forall_mem_cons.mpr ⟨zw_312, List.forall_mem_cons.mpr ⟨zw_751, List.forall_mem_cons.mpr ⟨zw_319, List.forall_mem_cons.mpr ⟨zw_763, List.forall_mem_cons.mpr ⟨zw_338, List.forall_mem_cons.mpr ⟨zw_771, List.forall_mem_cons.mpr ⟨zw_388, List.forall_mem_cons.mpr ⟨zw_795, List.forall_mem_cons.mpr ⟨zw_399, List.forall_mem_cons.mpr ⟨zw_807, List.forall_mem_cons.mpr ⟨zw_408, List.forall_mem_cons.mpr ⟨zw_815, List.forall_mem_cons.mpr ⟨zw_415, List.forall_mem_cons.mpr ⟨zw_819, List.forall_mem_cons.mpr ⟨zw_427, List.forall_mem_cons.mpr ⟨zw_823, List.forall_mem_cons.mpr ⟨zw_435, List.forall_mem_cons.mpr ⟨zw_827, List.forall_mem_cons.mpr ⟨zw_439, List.forall_mem_cons.mpr ⟨zw_831, List.forall_mem_cons.mpr ⟨zw_443, List.forall_mem_cons.mpr ⟨zw_835, List.forall_mem_cons.mpr ⟨zw_570, List.forall_mem_cons.mpr ⟨zw_899, List.forall_mem_cons.mpr ⟨zw_574, List.forall_mem_cons.mpr ⟨zw_903, List.forall_mem_cons.mpr ⟨zw_578, List.forall_mem_cons.mpr ⟨zw_907, fun _ h => absurd h List.not_mem_nil⟩⟩⟩⟩⟩⟩⟩⟩⟩⟩⟩⟩⟩⟩⟩⟩⟩⟩⟩⟩⟩⟩⟩⟩⟩⟩⟩⟩⟩⟩⟩⟩⟩⟩⟩⟩⟩⟩⟩⟩⟩⟩⟩⟩⟩⟩⟩⟩⟩⟩⟩⟩⟩⟩⟩⟩⟩⟩⟩⟩⟩⟩⟩⟩⟩⟩⟩⟩⟩⟩⟩⟩⟩⟩⟩⟩⟩⟩⟩⟩⟩⟩⟩⟩⟩⟩⟩⟩⟩⟩⟩⟩⟩⟩⟩⟩⟩⟩⟩⟩⟩⟩⟩⟩⟩⟩⟩⟩⟩⟩⟩⟩⟩⟩⟩⟩⟩⟩⟩⟩⟩⟩⟩⟩⟩⟩⟩⟩⟩⟩⟩⟩⟩⟩⟩⟩⟩⟩⟩⟩⟩⟩⟩⟩⟩⟩⟩⟩⟩⟩⟩⟩⟩⟩⟩⟩⟩⟩⟩⟩⟩⟩⟩⟩⟩⟩⟩⟩⟩⟩⟩⟩⟩⟩⟩⟩⟩⟩⟩⟩⟩⟩⟩⟩⟩⟩
/-- calls of a nest mate's private method -/
def zl_n : List (Nat × Nat × Nat) := [(0, 23, 0), (0, 30, 1), (0, 37, 2), (2, 11, 4), (2, 132, 54), (5, 11, 4), (5, 67, 54)]
def dzNw (q : Nat × Nat × Nat) : Cond := Cond.methodLinkNest (dzCn q.1) q.2.1 (dzY q.2.2) "PrimeCertificates"
theorem zl_n_ok : ∀ q ∈ zl_n, dzNw q ∈ lw_tbl := List.forall_mem_cons.mpr ⟨List.mem_append_right _ (List.mem_of_getElem? (i := 25) (by decide +kernel)), List.forall_mem_cons.mpr ⟨List.mem_append_right _ (List.mem_of_getElem? (i := 60) (by decide +kernel)), List.forall_mem_cons.mpr ⟨List.mem_append_right _ (List.mem_of_getElem? (i := 78) (by decide +kernel)), List.forall_mem_cons.mpr ⟨List.mem_append_right _ (List.mem_of_getElem? (i := 144) (by decide +kernel)), List.forall_mem_cons.mpr ⟨List.mem_append_right _ (List.mem_of_getElem? (i := 472) (by decide +kernel)), List.forall_mem_cons.mpr ⟨List.mem_append_right _ (List.mem_of_getElem? (i := 217) (by decide +kernel)), List.forall_mem_cons.mpr ⟨List.mem_append_right _ (List.mem_of_getElem? (i := 593) (by decide +kernel)), fun _ h => absurd h List.not_mem_nil⟩⟩⟩⟩⟩⟩⟩
theorem zl_over : Cond.arrayOver (.array .int) ∈ lw_tbl := List.mem_append_right _ (List.mem_of_getElem? (i := 22) (by decide +kernel))
theorem zw_674 : Cond.constantLong "PrimeCertificatesModel" 33 (65535 : Int64) ∈ dzGW := dzGW_in (i := 674) (by decide +kernel) (by rfl)
theorem zw_719 : Cond.constant "PrimeCertificatesModel" 39 (65535 : Int32) ∈ dzGW := dzGW_in (i := 719) (by decide +kernel) (by rfl)
theorem zw_870 : Cond.constantLong "PrimeCertificatesModel" 129 (3 : Int64) ∈ dzGW := dzGW_in (i := 870) (by decide +kernel) (by rfl)
theorem zw_933 : Cond.constantLong "PrimeCertificatesModel" 182 (1009 : Int64) ∈ dzGW := dzGW_in (i := 933) (by decide +kernel) (by rfl)
theorem zw_471 : Cond.constant "PrimeCertificates$Checker" 131 (65535 : Int32) ∈ dzGW := dzGW_in (i := 471) (by decide +kernel) (by rfl)
theorem zw_591 : Cond.constant "PrimeCertificates$Maker" 60 (65535 : Int32) ∈ dzGW := dzGW_in (i := 591) (by decide +kernel) (by rfl)
theorem zw_301 : Cond.constantLong "PrimeCertificates$Sums" 44 (4294967295 : Int64) ∈ dzGW := dzGW_in (i := 301) (by decide +kernel) (by rfl)
theorem zw_375 : Cond.constantLong "PrimeCertificates$Sums" 113 (-9223372036854775808 : Int64) ∈ dzGW := dzGW_in (i := 375) (by decide +kernel) (by rfl)
def dzKw (q : Nat × Nat × Value) : Cond := match q.2.2 with
  | .int v => Cond.constant (dzCn q.1) q.2.1 v
  | .long v => Cond.constantLong (dzCn q.1) q.2.1 v
  | _ => Cond.tt
def zl_k : List (Nat × Nat × Value) := [(1, 33, .long (65535)), (1, 39, .int (65535)), (1, 129, .long (3)), (1, 182, .long (1009)), (2, 131, .int (65535)), (5, 60, .int (65535)), (6, 44, .long (4294967295)), (6, 113, .long (-9223372036854775808))]
theorem zl_k_ok : ∀ q ∈ zl_k, dzKw q ∈ dzGW := List.forall_mem_cons.mpr ⟨zw_674, List.forall_mem_cons.mpr ⟨zw_719, List.forall_mem_cons.mpr ⟨zw_870, List.forall_mem_cons.mpr ⟨zw_933, List.forall_mem_cons.mpr ⟨zw_471, List.forall_mem_cons.mpr ⟨zw_591, List.forall_mem_cons.mpr ⟨zw_301, List.forall_mem_cons.mpr ⟨zw_375, fun _ h => absurd h List.not_mem_nil⟩⟩⟩⟩⟩⟩⟩⟩
theorem zw_23 : Cond.classLink "PrimeCertificates" 21 "PrimeCertificates$Sums" ∈ dzGW := dzGW_in (i := 23) (by decide +kernel) (by rfl)
theorem zw_58 : Cond.classLink "PrimeCertificates" 28 "PrimeCertificates$Tape" ∈ dzGW := dzGW_in (i := 58) (by decide +kernel) (by rfl)
theorem zw_76 : Cond.classLink "PrimeCertificates" 35 "PrimeCertificates$Lines" ∈ dzGW := dzGW_in (i := 76) (by decide +kernel) (by rfl)
theorem zw_104 : Cond.classLink "PrimeCertificates" 42 "PrimeCertificates$Trial" ∈ dzGW := dzGW_in (i := 104) (by decide +kernel) (by rfl)
theorem zw_136 : Cond.classLink "PrimeCertificates" 47 "PrimeCertificates$Checker" ∈ dzGW := dzGW_in (i := 136) (by decide +kernel) (by rfl)
theorem zw_210 : Cond.classLink "PrimeCertificates" 56 "PrimeCertificates$Maker" ∈ dzGW := dzGW_in (i := 210) (by decide +kernel) (by rfl)
theorem zw_142 : Cond.classLink "PrimeCertificates$Checker" 9 "PrimeCertificates$Factors" ∈ dzGW := dzGW_in (i := 142) (by decide +kernel) (by rfl)
theorem zw_216 : Cond.classLink "PrimeCertificates$Maker" 9 "PrimeCertificates$Factors" ∈ dzGW := dzGW_in (i := 216) (by decide +kernel) (by rfl)
theorem zw_13 : Cond.classLink "PrimeCertificatesLaw" 7 "PrimeCertificates" ∈ dzGW := dzGW_in (i := 13) (by decide +kernel) (by rfl)
theorem zw_664 : Cond.classLink "PrimeCertificatesLaw" 10 "PrimeCertificatesModel" ∈ dzGW := dzGW_in (i := 664) (by decide +kernel) (by rfl)
def zl_o : List (Nat × Nat × Nat) := [(0, 21, 6), (0, 28, 7), (0, 35, 4), (0, 42, 8), (0, 47, 2), (0, 56, 5), (2, 9, 3), (5, 9, 3), (9, 7, 0), (9, 10, 1)]
theorem zl_o_ok : ∀ q ∈ zl_o, Cond.classLink (dzCn q.1) q.2.1 (dzCn q.2.2) ∈ dzGW := List.forall_mem_cons.mpr ⟨zw_23, List.forall_mem_cons.mpr ⟨zw_58, List.forall_mem_cons.mpr ⟨zw_76, List.forall_mem_cons.mpr ⟨zw_104, List.forall_mem_cons.mpr ⟨zw_136, List.forall_mem_cons.mpr ⟨zw_210, List.forall_mem_cons.mpr ⟨zw_142, List.forall_mem_cons.mpr ⟨zw_216, List.forall_mem_cons.mpr ⟨zw_13, List.forall_mem_cons.mpr ⟨zw_664, fun _ h => absurd h List.not_mem_nil⟩⟩⟩⟩⟩⟩⟩⟩⟩⟩
theorem zw_21 : Cond.classLink "PrimeCertificates" 9 "[[I" ∈ dzGW := dzGW_in (i := 21) (by decide +kernel) (by rfl)
theorem zw_82 : Cond.classLink "PrimeCertificates$Lines" 9 "[[I" ∈ dzGW := dzGW_in (i := 82) (by decide +kernel) (by rfl)
def zl_m : List (Nat × Nat) := [(0, 9), (4, 9)]
theorem zl_m_ok : ∀ q ∈ zl_m, Cond.classLink (dzCn q.1) q.2 "[[I" ∈ dzGW := List.forall_mem_cons.mpr ⟨zw_21, List.forall_mem_cons.mpr ⟨zw_82, fun _ h => absurd h List.not_mem_nil⟩⟩
theorem zw_309 : Cond.methodLink "PrimeCertificates$Sums" 46 ⟨"java/lang/System", "arraycopy", "(Ljava/lang/Object;ILjava/lang/Object;II)V"⟩ ∈ dzGW := dzGW_in (i := 309) (by decide +kernel) (by rfl)
def zl_a : List (Nat × Nat) := [(6, 46)]
theorem zl_a_ok : ∀ q ∈ zl_a, Cond.methodLink (dzCn q.1) q.2 ⟨"java/lang/System", "arraycopy", "(Ljava/lang/Object;ILjava/lang/Object;II)V"⟩ ∈ dzGW := List.forall_mem_cons.mpr ⟨zw_309, fun _ h => absurd h List.not_mem_nil⟩
theorem zw_18 : Cond.methodLink "PrimeCertificates" 1 ⟨"java/lang/Object", "<init>", "()V"⟩ ∈ dzGW := dzGW_in (i := 18) (by decide +kernel) (by rfl)
theorem zw_669 : Cond.methodLink "PrimeCertificatesModel" 1 ⟨"java/lang/Object", "<init>", "()V"⟩ ∈ dzGW := dzGW_in (i := 669) (by decide +kernel) (by rfl)
theorem zw_141 : Cond.methodLink "PrimeCertificates$Checker" 3 ⟨"java/lang/Object", "<init>", "()V"⟩ ∈ dzGW := dzGW_in (i := 141) (by decide +kernel) (by rfl)
theorem zw_147 : Cond.methodLink "PrimeCertificates$Factors" 3 ⟨"java/lang/Object", "<init>", "()V"⟩ ∈ dzGW := dzGW_in (i := 147) (by decide +kernel) (by rfl)
theorem zw_81 : Cond.methodLink "PrimeCertificates$Lines" 3 ⟨"java/lang/Object", "<init>", "()V"⟩ ∈ dzGW := dzGW_in (i := 81) (by decide +kernel) (by rfl)
theorem zw_215 : Cond.methodLink "PrimeCertificates$Maker" 3 ⟨"java/lang/Object", "<init>", "()V"⟩ ∈ dzGW := dzGW_in (i := 215) (by decide +kernel) (by rfl)
theorem zw_28 : Cond.methodLink "PrimeCertificates$Sums" 3 ⟨"java/lang/Object", "<init>", "()V"⟩ ∈ dzGW := dzGW_in (i := 28) (by decide +kernel) (by rfl)
theorem zw_63 : Cond.methodLink "PrimeCertificates$Tape" 3 ⟨"java/lang/Object", "<init>", "()V"⟩ ∈ dzGW := dzGW_in (i := 63) (by decide +kernel) (by rfl)
theorem zw_109 : Cond.methodLink "PrimeCertificates$Trial" 3 ⟨"java/lang/Object", "<init>", "()V"⟩ ∈ dzGW := dzGW_in (i := 109) (by decide +kernel) (by rfl)
def zl_i : List (Nat × Nat) := [(0, 1), (1, 1), (2, 3), (3, 3), (4, 3), (5, 3), (6, 3), (7, 3), (8, 3)]
theorem zl_i_ok : ∀ q ∈ zl_i, Cond.methodLink (dzCn q.1) q.2 ⟨"java/lang/Object", "<init>", "()V"⟩ ∈ dzGW := List.forall_mem_cons.mpr ⟨zw_18, List.forall_mem_cons.mpr ⟨zw_669, List.forall_mem_cons.mpr ⟨zw_141, List.forall_mem_cons.mpr ⟨zw_147, List.forall_mem_cons.mpr ⟨zw_81, List.forall_mem_cons.mpr ⟨zw_215, List.forall_mem_cons.mpr ⟨zw_28, List.forall_mem_cons.mpr ⟨zw_63, List.forall_mem_cons.mpr ⟨zw_109, fun _ h => absurd h List.not_mem_nil⟩⟩⟩⟩⟩⟩⟩⟩⟩
theorem zw_656 : Cond.methodLink "PrimeCertificates$Maker" 185 ⟨"java/lang/Math", "max", "(II)I"⟩ ∈ dzGW := dzGW_in (i := 656) (by decide +kernel) (by rfl)
def zl_x : List (Nat × Nat) := [(5, 185)]
theorem zl_x_ok : ∀ q ∈ zl_x, Cond.methodLink (dzCn q.1) q.2 ⟨"java/lang/Math", "max", "(II)I"⟩ ∈ dzGW := List.forall_mem_cons.mpr ⟨zw_656, fun _ h => absurd h List.not_mem_nil⟩
theorem zw_657 : Cond.static ⟨"java/lang/Math", "max", "(II)I"⟩ ∈ dzGW := dzGW_in (i := 657) (by decide +kernel) (by rfl)
theorem zw_12 : Cond.initialized "java/lang/Math" ∈ dzGW := dzGW_in (i := 12) (by decide +kernel) (by rfl)
set_option maxRecDepth 100000 in
theorem zs_mx : Cond.static Lib.Math.max.name ∈ dzGW ∧ Cond.initialized "java/lang/Math" ∈ dzGW ∧ Cond.code Lib.Math.max.name Lib.Math.max.code 2 (some .int) ∈ dzGW := ⟨zw_657, zw_12, dzGW_in (i := 658) (by rfl) (by rfl)⟩
theorem zw_311 : Cond.native ⟨"java/lang/System", "arraycopy", "(Ljava/lang/Object;ILjava/lang/Object;II)V"⟩ ∈ dzGW := dzGW_in (i := 311) (by decide +kernel) (by rfl)
theorem zw_310 : Cond.static ⟨"java/lang/System", "arraycopy", "(Ljava/lang/Object;ILjava/lang/Object;II)V"⟩ ∈ dzGW := dzGW_in (i := 310) (by decide +kernel) (by rfl)
theorem zw_10 : Cond.initialized "java/lang/System" ∈ dzGW := dzGW_in (i := 10) (by decide +kernel) (by rfl)
theorem zs_ac : Cond.native ⟨"java/lang/System", "arraycopy", "(Ljava/lang/Object;ILjava/lang/Object;II)V"⟩ ∈ dzGW ∧ Cond.static ⟨"java/lang/System", "arraycopy", "(Ljava/lang/Object;ILjava/lang/Object;II)V"⟩ ∈ dzGW ∧ Cond.initialized "java/lang/System" ∈ dzGW := ⟨zw_311, zw_310, zw_10⟩
theorem zw_19 : Cond.instanceMethod ⟨"java/lang/Object", "<init>", "()V"⟩ ∈ dzGW := dzGW_in (i := 19) (by decide +kernel) (by rfl)
theorem zs_oi : Cond.instanceMethod ⟨"java/lang/Object", "<init>", "()V"⟩ ∈ dzGW ∧ Cond.code ⟨"java/lang/Object", "<init>", "()V"⟩ ⟨#[0xb1]⟩ 1 none ∈ dzGW := ⟨zw_19, dzGW_in (i := 20) (by rfl) (by rfl)⟩
theorem zw_57 : Cond.arrayClass .int ∈ dzGW := dzGW_in (i := 57) (by decide +kernel) (by rfl)
theorem zs_ai : Cond.arrayClass .int ∈ dzGW := zw_57
theorem zw_14 : Cond.instantiable "PrimeCertificates" 8 ∈ dzGW := dzGW_in (i := 14) (by decide +kernel) (by rfl)
theorem zw_1 : Cond.initialized "PrimeCertificates" ∈ dzGW := dzGW_in (i := 1) (by decide +kernel) (by rfl)
theorem zw_260 : Cond.laysFinal "PrimeCertificates" "PrimeCertificates" "registers" "[[I" ∈ dzGW := dzGW_in (i := 260) (by decide +kernel) (by rfl)
theorem zw_262 : Cond.laysFinal "PrimeCertificates" "PrimeCertificates" "answer" "[I" ∈ dzGW := dzGW_in (i := 262) (by decide +kernel) (by rfl)
theorem zw_264 : Cond.laysFinal "PrimeCertificates" "PrimeCertificates" "remainder" "[I" ∈ dzGW := dzGW_in (i := 264) (by decide +kernel) (by rfl)
theorem zw_266 : Cond.laysFinal "PrimeCertificates" "PrimeCertificates" "sums" "LPrimeCertificates$Sums;" ∈ dzGW := dzGW_in (i := 266) (by decide +kernel) (by rfl)
theorem zw_268 : Cond.laysFinal "PrimeCertificates" "PrimeCertificates" "tape" "LPrimeCertificates$Tape;" ∈ dzGW := dzGW_in (i := 268) (by decide +kernel) (by rfl)
theorem zw_270 : Cond.laysFinal "PrimeCertificates" "PrimeCertificates" "lines" "LPrimeCertificates$Lines;" ∈ dzGW := dzGW_in (i := 270) (by decide +kernel) (by rfl)
theorem zw_272 : Cond.laysFinal "PrimeCertificates" "PrimeCertificates" "checker" "LPrimeCertificates$Checker;" ∈ dzGW := dzGW_in (i := 272) (by decide +kernel) (by rfl)
theorem zw_274 : Cond.laysFinal "PrimeCertificates" "PrimeCertificates" "maker" "LPrimeCertificates$Maker;" ∈ dzGW := dzGW_in (i := 274) (by decide +kernel) (by rfl)
theorem zu_0 : Cond.instantiable "PrimeCertificates" 8 ∈ dzGW ∧ Cond.initialized "PrimeCertificates" ∈ dzGW ∧ ∀ w ∈ u_ws "PrimeCertificates" zc_0 8, w ∈ dzGW := ⟨zw_14, zw_1, List.forall_mem_cons.mpr ⟨zw_260, List.forall_mem_cons.mpr ⟨zw_262, List.forall_mem_cons.mpr ⟨zw_264, List.forall_mem_cons.mpr ⟨zw_266, List.forall_mem_cons.mpr ⟨zw_268, List.forall_mem_cons.mpr ⟨zw_270, List.forall_mem_cons.mpr ⟨zw_272, List.forall_mem_cons.mpr ⟨zw_274, fun _ h => absurd h List.not_mem_nil⟩⟩⟩⟩⟩⟩⟩⟩⟩
theorem zw_665 : Cond.instantiable "PrimeCertificatesModel" 12 ∈ dzGW := dzGW_in (i := 665) (by decide +kernel) (by rfl)
theorem zw_9 : Cond.initialized "PrimeCertificatesModel" ∈ dzGW := dzGW_in (i := 9) (by decide +kernel) (by rfl)
theorem zw_687 : Cond.laysFinal "PrimeCertificatesModel" "PrimeCertificatesModel" "digits" "[I" ∈ dzGW := dzGW_in (i := 687) (by decide +kernel) (by rfl)
theorem zw_689 : Cond.laysFinal "PrimeCertificatesModel" "PrimeCertificatesModel" "tape" "[I" ∈ dzGW := dzGW_in (i := 689) (by decide +kernel) (by rfl)
theorem zw_691 : Cond.lays "PrimeCertificatesModel" "PrimeCertificatesModel" "size" "I" ∈ dzGW := dzGW_in (i := 691) (by decide +kernel) (by rfl)
theorem zw_693 : Cond.lays "PrimeCertificatesModel" "PrimeCertificatesModel" "place" "I" ∈ dzGW := dzGW_in (i := 693) (by decide +kernel) (by rfl)
theorem zw_695 : Cond.lays "PrimeCertificatesModel" "PrimeCertificatesModel" "lines" "I" ∈ dzGW := dzGW_in (i := 695) (by decide +kernel) (by rfl)
theorem zw_697 : Cond.lays "PrimeCertificatesModel" "PrimeCertificatesModel" "told" "I" ∈ dzGW := dzGW_in (i := 697) (by decide +kernel) (by rfl)
theorem zw_699 : Cond.lays "PrimeCertificatesModel" "PrimeCertificatesModel" "cursor" "I" ∈ dzGW := dzGW_in (i := 699) (by decide +kernel) (by rfl)
theorem zw_701 : Cond.lays "PrimeCertificatesModel" "PrimeCertificatesModel" "fault" "I" ∈ dzGW := dzGW_in (i := 701) (by decide +kernel) (by rfl)
theorem zw_703 : Cond.lays "PrimeCertificatesModel" "PrimeCertificatesModel" "found" "I" ∈ dzGW := dzGW_in (i := 703) (by decide +kernel) (by rfl)
theorem zw_705 : Cond.laysFinal "PrimeCertificatesModel" "PrimeCertificatesModel" "foundLines" "[I" ∈ dzGW := dzGW_in (i := 705) (by decide +kernel) (by rfl)
theorem zw_707 : Cond.laysFinal "PrimeCertificatesModel" "PrimeCertificatesModel" "foundOften" "[I" ∈ dzGW := dzGW_in (i := 707) (by decide +kernel) (by rfl)
theorem zw_709 : Cond.laysFinal "PrimeCertificatesModel" "PrimeCertificatesModel" "foundWitnesses" "[I" ∈ dzGW := dzGW_in (i := 709) (by decide +kernel) (by rfl)
theorem zu_1 : Cond.instantiable "PrimeCertificatesModel" 12 ∈ dzGW ∧ Cond.initialized "PrimeCertificatesModel" ∈ dzGW ∧ ∀ w ∈ u_ws "PrimeCertificatesModel" zc_1 12, w ∈ dzGW := ⟨zw_665, zw_9, List.forall_mem_cons.mpr ⟨zw_687, List.forall_mem_cons.mpr ⟨zw_689, List.forall_mem_cons.mpr ⟨zw_691, List.forall_mem_cons.mpr ⟨zw_693, List.forall_mem_cons.mpr ⟨zw_695, List.forall_mem_cons.mpr ⟨zw_697, List.forall_mem_cons.mpr ⟨zw_699, List.forall_mem_cons.mpr ⟨zw_701, List.forall_mem_cons.mpr ⟨zw_703, List.forall_mem_cons.mpr ⟨zw_705, List.forall_mem_cons.mpr ⟨zw_707, List.forall_mem_cons.mpr ⟨zw_709, fun _ h => absurd h List.not_mem_nil⟩⟩⟩⟩⟩⟩⟩⟩⟩⟩⟩⟩⟩
theorem zw_137 : Cond.instantiable "PrimeCertificates$Checker" 13 ∈ dzGW := dzGW_in (i := 137) (by decide +kernel) (by rfl)
theorem zw_6 : Cond.initialized "PrimeCertificates$Checker" ∈ dzGW := dzGW_in (i := 6) (by decide +kernel) (by rfl)
theorem zw_183 : Cond.laysFinal "PrimeCertificates$Checker" "PrimeCertificates$Checker" "tape" "LPrimeCertificates$Tape;" ∈ dzGW := dzGW_in (i := 183) (by decide +kernel) (by rfl)
theorem zw_185 : Cond.laysFinal "PrimeCertificates$Checker" "PrimeCertificates$Checker" "lines" "LPrimeCertificates$Lines;" ∈ dzGW := dzGW_in (i := 185) (by decide +kernel) (by rfl)
theorem zw_187 : Cond.laysFinal "PrimeCertificates$Checker" "PrimeCertificates$Checker" "sums" "LPrimeCertificates$Sums;" ∈ dzGW := dzGW_in (i := 187) (by decide +kernel) (by rfl)
theorem zw_189 : Cond.laysFinal "PrimeCertificates$Checker" "PrimeCertificates$Checker" "trial" "LPrimeCertificates$Trial;" ∈ dzGW := dzGW_in (i := 189) (by decide +kernel) (by rfl)
theorem zw_191 : Cond.laysFinal "PrimeCertificates$Checker" "PrimeCertificates$Checker" "factors" "LPrimeCertificates$Factors;" ∈ dzGW := dzGW_in (i := 191) (by decide +kernel) (by rfl)
theorem zw_193 : Cond.laysFinal "PrimeCertificates$Checker" "PrimeCertificates$Checker" "product" "[I" ∈ dzGW := dzGW_in (i := 193) (by decide +kernel) (by rfl)
theorem zw_195 : Cond.lays "PrimeCertificates$Checker" "PrimeCertificates$Checker" "next" "I" ∈ dzGW := dzGW_in (i := 195) (by decide +kernel) (by rfl)
theorem zw_197 : Cond.lays "PrimeCertificates$Checker" "PrimeCertificates$Checker" "taken" "I" ∈ dzGW := dzGW_in (i := 197) (by decide +kernel) (by rfl)
theorem zw_199 : Cond.lays "PrimeCertificates$Checker" "PrimeCertificates$Checker" "kind" "I" ∈ dzGW := dzGW_in (i := 199) (by decide +kernel) (by rfl)
theorem zw_201 : Cond.lays "PrimeCertificates$Checker" "PrimeCertificates$Checker" "root" "I" ∈ dzGW := dzGW_in (i := 201) (by decide +kernel) (by rfl)
theorem zw_203 : Cond.lays "PrimeCertificates$Checker" "PrimeCertificates$Checker" "countPlace" "I" ∈ dzGW := dzGW_in (i := 203) (by decide +kernel) (by rfl)
theorem zw_205 : Cond.lays "PrimeCertificates$Checker" "PrimeCertificates$Checker" "fault" "I" ∈ dzGW := dzGW_in (i := 205) (by decide +kernel) (by rfl)
theorem zw_207 : Cond.lays "PrimeCertificates$Checker" "PrimeCertificates$Checker" "faultPlace" "I" ∈ dzGW := dzGW_in (i := 207) (by decide +kernel) (by rfl)
theorem zu_2 : Cond.instantiable "PrimeCertificates$Checker" 13 ∈ dzGW ∧ Cond.initialized "PrimeCertificates$Checker" ∈ dzGW ∧ ∀ w ∈ u_ws "PrimeCertificates$Checker" zc_2 13, w ∈ dzGW := ⟨zw_137, zw_6, List.forall_mem_cons.mpr ⟨zw_183, List.forall_mem_cons.mpr ⟨zw_185, List.forall_mem_cons.mpr ⟨zw_187, List.forall_mem_cons.mpr ⟨zw_189, List.forall_mem_cons.mpr ⟨zw_191, List.forall_mem_cons.mpr ⟨zw_193, List.forall_mem_cons.mpr ⟨zw_195, List.forall_mem_cons.mpr ⟨zw_197, List.forall_mem_cons.mpr ⟨zw_199, List.forall_mem_cons.mpr ⟨zw_201, List.forall_mem_cons.mpr ⟨zw_203, List.forall_mem_cons.mpr ⟨zw_205, List.forall_mem_cons.mpr ⟨zw_207, fun _ h => absurd h List.not_mem_nil⟩⟩⟩⟩⟩⟩⟩⟩⟩⟩⟩⟩⟩⟩
theorem zw_143 : Cond.instantiable "PrimeCertificates$Factors" 4 ∈ dzGW := dzGW_in (i := 143) (by decide +kernel) (by rfl)
theorem zw_7 : Cond.initialized "PrimeCertificates$Factors" ∈ dzGW := dzGW_in (i := 7) (by decide +kernel) (by rfl)
theorem zw_160 : Cond.laysFinal "PrimeCertificates$Factors" "PrimeCertificates$Factors" "lines" "[I" ∈ dzGW := dzGW_in (i := 160) (by decide +kernel) (by rfl)
theorem zw_162 : Cond.laysFinal "PrimeCertificates$Factors" "PrimeCertificates$Factors" "exponents" "[I" ∈ dzGW := dzGW_in (i := 162) (by decide +kernel) (by rfl)
theorem zw_164 : Cond.laysFinal "PrimeCertificates$Factors" "PrimeCertificates$Factors" "witnesses" "[I" ∈ dzGW := dzGW_in (i := 164) (by decide +kernel) (by rfl)
theorem zw_166 : Cond.lays "PrimeCertificates$Factors" "PrimeCertificates$Factors" "count" "I" ∈ dzGW := dzGW_in (i := 166) (by decide +kernel) (by rfl)
theorem zu_3 : Cond.instantiable "PrimeCertificates$Factors" 4 ∈ dzGW ∧ Cond.initialized "PrimeCertificates$Factors" ∈ dzGW ∧ ∀ w ∈ u_ws "PrimeCertificates$Factors" zc_3 4, w ∈ dzGW := ⟨zw_143, zw_7, List.forall_mem_cons.mpr ⟨zw_160, List.forall_mem_cons.mpr ⟨zw_162, List.forall_mem_cons.mpr ⟨zw_164, List.forall_mem_cons.mpr ⟨zw_166, fun _ h => absurd h List.not_mem_nil⟩⟩⟩⟩⟩
theorem zw_77 : Cond.instantiable "PrimeCertificates$Lines" 4 ∈ dzGW := dzGW_in (i := 77) (by decide +kernel) (by rfl)
theorem zw_4 : Cond.initialized "PrimeCertificates$Lines" ∈ dzGW := dzGW_in (i := 4) (by decide +kernel) (by rfl)
theorem zw_95 : Cond.laysFinal "PrimeCertificates$Lines" "PrimeCertificates$Lines" "numbers" "[[I" ∈ dzGW := dzGW_in (i := 95) (by decide +kernel) (by rfl)
theorem zw_97 : Cond.laysFinal "PrimeCertificates$Lines" "PrimeCertificates$Lines" "ends" "[I" ∈ dzGW := dzGW_in (i := 97) (by decide +kernel) (by rfl)
theorem zw_99 : Cond.lays "PrimeCertificates$Lines" "PrimeCertificates$Lines" "count" "I" ∈ dzGW := dzGW_in (i := 99) (by decide +kernel) (by rfl)
theorem zw_101 : Cond.lays "PrimeCertificates$Lines" "PrimeCertificates$Lines" "told" "I" ∈ dzGW := dzGW_in (i := 101) (by decide +kernel) (by rfl)
theorem zu_4 : Cond.instantiable "PrimeCertificates$Lines" 4 ∈ dzGW ∧ Cond.initialized "PrimeCertificates$Lines" ∈ dzGW ∧ ∀ w ∈ u_ws "PrimeCertificates$Lines" zc_4 4, w ∈ dzGW := ⟨zw_77, zw_4, List.forall_mem_cons.mpr ⟨zw_95, List.forall_mem_cons.mpr ⟨zw_97, List.forall_mem_cons.mpr ⟨zw_99, List.forall_mem_cons.mpr ⟨zw_101, fun _ h => absurd h List.not_mem_nil⟩⟩⟩⟩⟩
theorem zw_211 : Cond.instantiable "PrimeCertificates$Maker" 11 ∈ dzGW := dzGW_in (i := 211) (by decide +kernel) (by rfl)
theorem zw_8 : Cond.initialized "PrimeCertificates$Maker" ∈ dzGW := dzGW_in (i := 8) (by decide +kernel) (by rfl)
theorem zw_229 : Cond.laysFinal "PrimeCertificates$Maker" "PrimeCertificates$Maker" "tape" "LPrimeCertificates$Tape;" ∈ dzGW := dzGW_in (i := 229) (by decide +kernel) (by rfl)
theorem zw_231 : Cond.laysFinal "PrimeCertificates$Maker" "PrimeCertificates$Maker" "lines" "LPrimeCertificates$Lines;" ∈ dzGW := dzGW_in (i := 231) (by decide +kernel) (by rfl)
theorem zw_233 : Cond.laysFinal "PrimeCertificates$Maker" "PrimeCertificates$Maker" "sums" "LPrimeCertificates$Sums;" ∈ dzGW := dzGW_in (i := 233) (by decide +kernel) (by rfl)
theorem zw_235 : Cond.laysFinal "PrimeCertificates$Maker" "PrimeCertificates$Maker" "trial" "LPrimeCertificates$Trial;" ∈ dzGW := dzGW_in (i := 235) (by decide +kernel) (by rfl)
theorem zw_237 : Cond.laysFinal "PrimeCertificates$Maker" "PrimeCertificates$Maker" "factors" "LPrimeCertificates$Factors;" ∈ dzGW := dzGW_in (i := 237) (by decide +kernel) (by rfl)
theorem zw_239 : Cond.laysFinal "PrimeCertificates$Maker" "PrimeCertificates$Maker" "left" "[I" ∈ dzGW := dzGW_in (i := 239) (by decide +kernel) (by rfl)
theorem zw_241 : Cond.laysFinal "PrimeCertificates$Maker" "PrimeCertificates$Maker" "share" "[I" ∈ dzGW := dzGW_in (i := 241) (by decide +kernel) (by rfl)
theorem zw_243 : Cond.laysFinal "PrimeCertificates$Maker" "PrimeCertificates$Maker" "rest" "[I" ∈ dzGW := dzGW_in (i := 243) (by decide +kernel) (by rfl)
theorem zw_245 : Cond.laysFinal "PrimeCertificates$Maker" "PrimeCertificates$Maker" "small" "[I" ∈ dzGW := dzGW_in (i := 245) (by decide +kernel) (by rfl)
theorem zw_247 : Cond.lays "PrimeCertificates$Maker" "PrimeCertificates$Maker" "newLines" "I" ∈ dzGW := dzGW_in (i := 247) (by decide +kernel) (by rfl)
theorem zw_249 : Cond.lays "PrimeCertificates$Maker" "PrimeCertificates$Maker" "root" "I" ∈ dzGW := dzGW_in (i := 249) (by decide +kernel) (by rfl)
theorem zu_5 : Cond.instantiable "PrimeCertificates$Maker" 11 ∈ dzGW ∧ Cond.initialized "PrimeCertificates$Maker" ∈ dzGW ∧ ∀ w ∈ u_ws "PrimeCertificates$Maker" zc_5 11, w ∈ dzGW := ⟨zw_211, zw_8, List.forall_mem_cons.mpr ⟨zw_229, List.forall_mem_cons.mpr ⟨zw_231, List.forall_mem_cons.mpr ⟨zw_233, List.forall_mem_cons.mpr ⟨zw_235, List.forall_mem_cons.mpr ⟨zw_237, List.forall_mem_cons.mpr ⟨zw_239, List.forall_mem_cons.mpr ⟨zw_241, List.forall_mem_cons.mpr ⟨zw_243, List.forall_mem_cons.mpr ⟨zw_245, List.forall_mem_cons.mpr ⟨zw_247, List.forall_mem_cons.mpr ⟨zw_249, fun _ h => absurd h List.not_mem_nil⟩⟩⟩⟩⟩⟩⟩⟩⟩⟩⟩⟩
theorem zw_24 : Cond.instantiable "PrimeCertificates$Sums" 9 ∈ dzGW := dzGW_in (i := 24) (by decide +kernel) (by rfl)
theorem zw_2 : Cond.initialized "PrimeCertificates$Sums" ∈ dzGW := dzGW_in (i := 2) (by decide +kernel) (by rfl)
theorem zw_38 : Cond.laysFinal "PrimeCertificates$Sums" "PrimeCertificates$Sums" "wide" "[I" ∈ dzGW := dzGW_in (i := 38) (by decide +kernel) (by rfl)
theorem zw_40 : Cond.laysFinal "PrimeCertificates$Sums" "PrimeCertificates$Sums" "goes" "[I" ∈ dzGW := dzGW_in (i := 40) (by decide +kernel) (by rfl)
theorem zw_42 : Cond.laysFinal "PrimeCertificates$Sums" "PrimeCertificates$Sums" "divisor" "[I" ∈ dzGW := dzGW_in (i := 42) (by decide +kernel) (by rfl)
theorem zw_44 : Cond.lays "PrimeCertificates$Sums" "PrimeCertificates$Sums" "divisorWords" "I" ∈ dzGW := dzGW_in (i := 44) (by decide +kernel) (by rfl)
theorem zw_46 : Cond.lays "PrimeCertificates$Sums" "PrimeCertificates$Sums" "shift" "I" ∈ dzGW := dzGW_in (i := 46) (by decide +kernel) (by rfl)
theorem zw_48 : Cond.laysFinal "PrimeCertificates$Sums" "PrimeCertificates$Sums" "residue" "[I" ∈ dzGW := dzGW_in (i := 48) (by decide +kernel) (by rfl)
theorem zw_50 : Cond.laysFinal "PrimeCertificates$Sums" "PrimeCertificates$Sums" "power" "[I" ∈ dzGW := dzGW_in (i := 50) (by decide +kernel) (by rfl)
theorem zw_52 : Cond.laysFinal "PrimeCertificates$Sums" "PrimeCertificates$Sums" "larger" "[I" ∈ dzGW := dzGW_in (i := 52) (by decide +kernel) (by rfl)
theorem zw_54 : Cond.laysFinal "PrimeCertificates$Sums" "PrimeCertificates$Sums" "smaller" "[I" ∈ dzGW := dzGW_in (i := 54) (by decide +kernel) (by rfl)
theorem zu_6 : Cond.instantiable "PrimeCertificates$Sums" 9 ∈ dzGW ∧ Cond.initialized "PrimeCertificates$Sums" ∈ dzGW ∧ ∀ w ∈ u_ws "PrimeCertificates$Sums" zc_6 9, w ∈ dzGW := ⟨zw_24, zw_2, List.forall_mem_cons.mpr ⟨zw_38, List.forall_mem_cons.mpr ⟨zw_40, List.forall_mem_cons.mpr ⟨zw_42, List.forall_mem_cons.mpr ⟨zw_44, List.forall_mem_cons.mpr ⟨zw_46, List.forall_mem_cons.mpr ⟨zw_48, List.forall_mem_cons.mpr ⟨zw_50, List.forall_mem_cons.mpr ⟨zw_52, List.forall_mem_cons.mpr ⟨zw_54, fun _ h => absurd h List.not_mem_nil⟩⟩⟩⟩⟩⟩⟩⟩⟩⟩
theorem zw_59 : Cond.instantiable "PrimeCertificates$Tape" 2 ∈ dzGW := dzGW_in (i := 59) (by decide +kernel) (by rfl)
theorem zw_3 : Cond.initialized "PrimeCertificates$Tape" ∈ dzGW := dzGW_in (i := 3) (by decide +kernel) (by rfl)
theorem zw_71 : Cond.laysFinal "PrimeCertificates$Tape" "PrimeCertificates$Tape" "ints" "[I" ∈ dzGW := dzGW_in (i := 71) (by decide +kernel) (by rfl)
theorem zw_73 : Cond.lays "PrimeCertificates$Tape" "PrimeCertificates$Tape" "size" "I" ∈ dzGW := dzGW_in (i := 73) (by decide +kernel) (by rfl)
theorem zu_7 : Cond.instantiable "PrimeCertificates$Tape" 2 ∈ dzGW ∧ Cond.initialized "PrimeCertificates$Tape" ∈ dzGW ∧ ∀ w ∈ u_ws "PrimeCertificates$Tape" zc_7 2, w ∈ dzGW := ⟨zw_59, zw_3, List.forall_mem_cons.mpr ⟨zw_71, List.forall_mem_cons.mpr ⟨zw_73, fun _ h => absurd h List.not_mem_nil⟩⟩⟩
theorem zw_105 : Cond.instantiable "PrimeCertificates$Trial" 7 ∈ dzGW := dzGW_in (i := 105) (by decide +kernel) (by rfl)
theorem zw_5 : Cond.initialized "PrimeCertificates$Trial" ∈ dzGW := dzGW_in (i := 5) (by decide +kernel) (by rfl)
theorem zw_121 : Cond.laysFinal "PrimeCertificates$Trial" "PrimeCertificates$Trial" "sums" "LPrimeCertificates$Sums;" ∈ dzGW := dzGW_in (i := 121) (by decide +kernel) (by rfl)
theorem zw_123 : Cond.laysFinal "PrimeCertificates$Trial" "PrimeCertificates$Trial" "number" "[I" ∈ dzGW := dzGW_in (i := 123) (by decide +kernel) (by rfl)
theorem zw_125 : Cond.laysFinal "PrimeCertificates$Trial" "PrimeCertificates$Trial" "oneLess" "[I" ∈ dzGW := dzGW_in (i := 125) (by decide +kernel) (by rfl)
theorem zw_127 : Cond.laysFinal "PrimeCertificates$Trial" "PrimeCertificates$Trial" "one" "[I" ∈ dzGW := dzGW_in (i := 127) (by decide +kernel) (by rfl)
theorem zw_129 : Cond.laysFinal "PrimeCertificates$Trial" "PrimeCertificates$Trial" "base" "[I" ∈ dzGW := dzGW_in (i := 129) (by decide +kernel) (by rfl)
theorem zw_131 : Cond.laysFinal "PrimeCertificates$Trial" "PrimeCertificates$Trial" "exponent" "[I" ∈ dzGW := dzGW_in (i := 131) (by decide +kernel) (by rfl)
theorem zw_133 : Cond.laysFinal "PrimeCertificates$Trial" "PrimeCertificates$Trial" "power" "[I" ∈ dzGW := dzGW_in (i := 133) (by decide +kernel) (by rfl)
theorem zu_8 : Cond.instantiable "PrimeCertificates$Trial" 7 ∈ dzGW ∧ Cond.initialized "PrimeCertificates$Trial" ∈ dzGW ∧ ∀ w ∈ u_ws "PrimeCertificates$Trial" zc_8 7, w ∈ dzGW := ⟨zw_105, zw_5, List.forall_mem_cons.mpr ⟨zw_121, List.forall_mem_cons.mpr ⟨zw_123, List.forall_mem_cons.mpr ⟨zw_125, List.forall_mem_cons.mpr ⟨zw_127, List.forall_mem_cons.mpr ⟨zw_129, List.forall_mem_cons.mpr ⟨zw_131, List.forall_mem_cons.mpr ⟨zw_133, fun _ h => absurd h List.not_mem_nil⟩⟩⟩⟩⟩⟩⟩⟩
def dzMw (mid : Nat) (k : Nat) : Prop := Cond.code (dzY mid) (dzBy mid) (dzMx mid) (dzRt mid) ∈ dzGW ∧ Cond.initialized (dzY mid).cls ∈ dzGW ∧ plainName (dzY mid).cls = true ∧ ((dzY mid).cls ≠ "java/lang/invoke/MethodHandle" ∧ (dzY mid).cls ≠ "java/lang/invoke/VarHandle") ∧ match k with
  | 0 => Cond.static (dzY mid) ∈ dzGW
  | 1 => Cond.instanceMethod (dzY mid) ∈ dzGW ∧ Cond.selects (dzY mid).cls (dzY mid) (dzY mid) ∈ dzGW
  | _ => Cond.instanceMethod (dzY mid) ∈ dzGW ∧ (dzY mid).name = "<init>"
theorem zw_26 : Cond.instanceMethod ⟨"PrimeCertificates$Sums", "<init>", "()V"⟩ ∈ dzGW := dzGW_in (i := 26) (by decide +kernel) (by rfl)
set_option maxRecDepth 100000 in
theorem zm_0 : dzMw 0 2 := ⟨dzGW_in (i := 27) (by rfl) (by rfl), zw_2, by decide +kernel, by decide +kernel, ⟨zw_26, by decide +kernel⟩⟩
theorem zw_61 : Cond.instanceMethod ⟨"PrimeCertificates$Tape", "<init>", "()V"⟩ ∈ dzGW := dzGW_in (i := 61) (by decide +kernel) (by rfl)
set_option maxRecDepth 100000 in
theorem zm_1 : dzMw 1 2 := ⟨dzGW_in (i := 62) (by rfl) (by rfl), zw_3, by decide +kernel, by decide +kernel, ⟨zw_61, by decide +kernel⟩⟩
theorem zw_79 : Cond.instanceMethod ⟨"PrimeCertificates$Lines", "<init>", "()V"⟩ ∈ dzGW := dzGW_in (i := 79) (by decide +kernel) (by rfl)
set_option maxRecDepth 100000 in
theorem zm_2 : dzMw 2 2 := ⟨dzGW_in (i := 80) (by rfl) (by rfl), zw_4, by decide +kernel, by decide +kernel, ⟨zw_79, by decide +kernel⟩⟩
theorem zw_107 : Cond.instanceMethod ⟨"PrimeCertificates$Trial", "<init>", "(LPrimeCertificates$Sums;)V"⟩ ∈ dzGW := dzGW_in (i := 107) (by decide +kernel) (by rfl)
set_option maxRecDepth 100000 in
theorem zm_3 : dzMw 3 2 := ⟨dzGW_in (i := 108) (by rfl) (by rfl), zw_5, by decide +kernel, by decide +kernel, ⟨zw_107, by decide +kernel⟩⟩
theorem zw_145 : Cond.instanceMethod ⟨"PrimeCertificates$Factors", "<init>", "()V"⟩ ∈ dzGW := dzGW_in (i := 145) (by decide +kernel) (by rfl)
set_option maxRecDepth 100000 in
theorem zm_4 : dzMw 4 2 := ⟨dzGW_in (i := 146) (by rfl) (by rfl), zw_7, by decide +kernel, by decide +kernel, ⟨zw_145, by decide +kernel⟩⟩
theorem zw_139 : Cond.instanceMethod ⟨"PrimeCertificates$Checker", "<init>", "(LPrimeCertificates$Tape;LPrimeCertificates$Lines;LPrimeCertificates$Sums;LPrimeCertificates$Trial;)V"⟩ ∈ dzGW := dzGW_in (i := 139) (by decide +kernel) (by rfl)
set_option maxRecDepth 100000 in
theorem zm_5 : dzMw 5 2 := ⟨dzGW_in (i := 140) (by rfl) (by rfl), zw_6, by decide +kernel, by decide +kernel, ⟨zw_139, by decide +kernel⟩⟩
theorem zw_213 : Cond.instanceMethod ⟨"PrimeCertificates$Maker", "<init>", "(LPrimeCertificates$Tape;LPrimeCertificates$Lines;LPrimeCertificates$Sums;LPrimeCertificates$Trial;)V"⟩ ∈ dzGW := dzGW_in (i := 213) (by decide +kernel) (by rfl)
set_option maxRecDepth 100000 in
theorem zm_6 : dzMw 6 2 := ⟨dzGW_in (i := 214) (by rfl) (by rfl), zw_8, by decide +kernel, by decide +kernel, ⟨zw_213, by decide +kernel⟩⟩
theorem zw_16 : Cond.instanceMethod ⟨"PrimeCertificates", "<init>", "()V"⟩ ∈ dzGW := dzGW_in (i := 16) (by decide +kernel) (by rfl)
set_option maxRecDepth 100000 in
theorem zm_7 : dzMw 7 2 := ⟨dzGW_in (i := 17) (by rfl) (by rfl), zw_1, by decide +kernel, by decide +kernel, ⟨zw_16, by decide +kernel⟩⟩
theorem zw_282 : Cond.static ⟨"PrimeCertificates", "isRegister", "(I)Z"⟩ ∈ dzGW := dzGW_in (i := 282) (by decide +kernel) (by rfl)
set_option maxRecDepth 100000 in
theorem zm_8 : dzMw 8 0 := ⟨dzGW_in (i := 283) (by rfl) (by rfl), zw_1, by decide +kernel, by decide +kernel, zw_282⟩
theorem zw_285 : Cond.static ⟨"PrimeCertificates", "isWord", "(I)Z"⟩ ∈ dzGW := dzGW_in (i := 285) (by decide +kernel) (by rfl)
set_option maxRecDepth 100000 in
theorem zm_9 : dzMw 9 0 := ⟨dzGW_in (i := 286) (by rfl) (by rfl), zw_1, by decide +kernel, by decide +kernel, zw_285⟩
theorem zw_278 : Cond.instanceMethod ⟨"PrimeCertificates", "put", "(III)Z"⟩ ∈ dzGW := dzGW_in (i := 278) (by decide +kernel) (by rfl)
theorem zw_279 : Cond.selects "PrimeCertificates" ⟨"PrimeCertificates", "put", "(III)Z"⟩ ⟨"PrimeCertificates", "put", "(III)Z"⟩ ∈ dzGW := dzGW_in (i := 279) (by decide +kernel) (by rfl)
set_option maxRecDepth 100000 in
theorem zm_10 : dzMw 10 1 := ⟨dzGW_in (i := 280) (by rfl) (by rfl), zw_1, by decide +kernel, by decide +kernel, ⟨zw_278, zw_279⟩⟩
theorem zw_288 : Cond.instanceMethod ⟨"PrimeCertificates", "get", "(II)I"⟩ ∈ dzGW := dzGW_in (i := 288) (by decide +kernel) (by rfl)
theorem zw_289 : Cond.selects "PrimeCertificates" ⟨"PrimeCertificates", "get", "(II)I"⟩ ⟨"PrimeCertificates", "get", "(II)I"⟩ ∈ dzGW := dzGW_in (i := 289) (by decide +kernel) (by rfl)
set_option maxRecDepth 100000 in
theorem zm_11 : dzMw 11 1 := ⟨dzGW_in (i := 290) (by rfl) (by rfl), zw_1, by decide +kernel, by decide +kernel, ⟨zw_288, zw_289⟩⟩
theorem zw_296 : Cond.static ⟨"PrimeCertificates", "areRegisters", "(III)Z"⟩ ∈ dzGW := dzGW_in (i := 296) (by decide +kernel) (by rfl)
set_option maxRecDepth 100000 in
theorem zm_12 : dzMw 12 0 := ⟨dzGW_in (i := 297) (by rfl) (by rfl), zw_1, by decide +kernel, by decide +kernel, zw_296⟩
theorem zw_299 : Cond.static ⟨"PrimeCertificates$Sums", "sum", "([I[I[I)Z"⟩ ∈ dzGW := dzGW_in (i := 299) (by decide +kernel) (by rfl)
set_option maxRecDepth 100000 in
theorem zm_13 : dzMw 13 0 := ⟨dzGW_in (i := 300) (by rfl) (by rfl), zw_2, by decide +kernel, by decide +kernel, zw_299⟩
theorem zw_307 : Cond.static ⟨"PrimeCertificates$Sums", "copy", "([I[I)V"⟩ ∈ dzGW := dzGW_in (i := 307) (by decide +kernel) (by rfl)
set_option maxRecDepth 100000 in
theorem zm_14 : dzMw 14 0 := ⟨dzGW_in (i := 308) (by rfl) (by rfl), zw_2, by decide +kernel, by decide +kernel, zw_307⟩
theorem zw_304 : Cond.instanceMethod ⟨"PrimeCertificates", "keepAnswer", "(I)I"⟩ ∈ dzGW := dzGW_in (i := 304) (by decide +kernel) (by rfl)
set_option maxRecDepth 100000 in
theorem zm_15 : dzMw 15 1 := ⟨dzGW_in (i := 305) (by rfl) (by rfl), zw_1, by decide +kernel, by decide +kernel, ⟨zw_304, dzGW_sel (q := (⟨"PrimeCertificates", "keepAnswer", "(I)I"⟩, 8)) (by decide +kernel)⟩⟩
theorem zw_292 : Cond.instanceMethod ⟨"PrimeCertificates", "add", "(III)I"⟩ ∈ dzGW := dzGW_in (i := 292) (by decide +kernel) (by rfl)
theorem zw_293 : Cond.selects "PrimeCertificates" ⟨"PrimeCertificates", "add", "(III)I"⟩ ⟨"PrimeCertificates", "add", "(III)I"⟩ ∈ dzGW := dzGW_in (i := 293) (by decide +kernel) (by rfl)
set_option maxRecDepth 100000 in
theorem zm_16 : dzMw 16 1 := ⟨dzGW_in (i := 294) (by rfl) (by rfl), zw_1, by decide +kernel, by decide +kernel, ⟨zw_292, zw_293⟩⟩
theorem zw_317 : Cond.static ⟨"PrimeCertificates$Sums", "difference", "([I[I[I)Z"⟩ ∈ dzGW := dzGW_in (i := 317) (by decide +kernel) (by rfl)
set_option maxRecDepth 100000 in
theorem zm_17 : dzMw 17 0 := ⟨dzGW_in (i := 318) (by rfl) (by rfl), zw_2, by decide +kernel, by decide +kernel, zw_317⟩
theorem zw_313 : Cond.instanceMethod ⟨"PrimeCertificates", "subtract", "(III)I"⟩ ∈ dzGW := dzGW_in (i := 313) (by decide +kernel) (by rfl)
theorem zw_314 : Cond.selects "PrimeCertificates" ⟨"PrimeCertificates", "subtract", "(III)I"⟩ ⟨"PrimeCertificates", "subtract", "(III)I"⟩ ∈ dzGW := dzGW_in (i := 314) (by decide +kernel) (by rfl)
set_option maxRecDepth 100000 in
theorem zm_18 : dzMw 18 1 := ⟨dzGW_in (i := 315) (by rfl) (by rfl), zw_1, by decide +kernel, by decide +kernel, ⟨zw_313, zw_314⟩⟩
theorem zw_332 : Cond.static ⟨"PrimeCertificates$Sums", "usedWords", "([I)I"⟩ ∈ dzGW := dzGW_in (i := 332) (by decide +kernel) (by rfl)
set_option maxRecDepth 100000 in
theorem zm_19 : dzMw 19 0 := ⟨dzGW_in (i := 333) (by rfl) (by rfl), zw_2, by decide +kernel, by decide +kernel, zw_332⟩
theorem zw_11 : Cond.initialized "java/util/Arrays" ∈ dzGW := dzGW_in (i := 11) (by decide +kernel) (by rfl)
theorem zw_335 : Cond.static ⟨"java/util/Arrays", "fill", "([II)V"⟩ ∈ dzGW := dzGW_in (i := 335) (by decide +kernel) (by rfl)
set_option maxRecDepth 100000 in
theorem zm_20 : dzMw 20 0 := ⟨dzGW_in (i := 336) (by rfl) (by rfl), zw_11, by decide +kernel, by decide +kernel, zw_335⟩
theorem zw_329 : Cond.instanceMethod ⟨"PrimeCertificates$Sums", "setWideToProduct", "([I[I)V"⟩ ∈ dzGW := dzGW_in (i := 329) (by decide +kernel) (by rfl)
set_option maxRecDepth 100000 in
theorem zm_21 : dzMw 21 1 := ⟨dzGW_in (i := 330) (by rfl) (by rfl), zw_2, by decide +kernel, by decide +kernel, ⟨zw_329, dzGW_sel (q := (⟨"PrimeCertificates$Sums", "setWideToProduct", "([I[I)V"⟩, 9)) (by decide +kernel)⟩⟩
theorem zw_324 : Cond.instanceMethod ⟨"PrimeCertificates$Sums", "product", "([I[I[I)Z"⟩ ∈ dzGW := dzGW_in (i := 324) (by decide +kernel) (by rfl)
theorem zw_325 : Cond.selects "PrimeCertificates$Sums" ⟨"PrimeCertificates$Sums", "product", "([I[I[I)Z"⟩ ⟨"PrimeCertificates$Sums", "product", "([I[I[I)Z"⟩ ∈ dzGW := dzGW_in (i := 325) (by decide +kernel) (by rfl)
set_option maxRecDepth 100000 in
theorem zm_22 : dzMw 22 1 := ⟨dzGW_in (i := 326) (by rfl) (by rfl), zw_2, by decide +kernel, by decide +kernel, ⟨zw_324, zw_325⟩⟩
theorem zw_320 : Cond.instanceMethod ⟨"PrimeCertificates", "multiply", "(III)I"⟩ ∈ dzGW := dzGW_in (i := 320) (by decide +kernel) (by rfl)
theorem zw_321 : Cond.selects "PrimeCertificates" ⟨"PrimeCertificates", "multiply", "(III)I"⟩ ⟨"PrimeCertificates", "multiply", "(III)I"⟩ ∈ dzGW := dzGW_in (i := 321) (by decide +kernel) (by rfl)
set_option maxRecDepth 100000 in
theorem zm_23 : dzMw 23 1 := ⟨dzGW_in (i := 322) (by rfl) (by rfl), zw_1, by decide +kernel, by decide +kernel, ⟨zw_320, zw_321⟩⟩
theorem zw_343 : Cond.static ⟨"PrimeCertificates$Sums", "isZero", "([I)Z"⟩ ∈ dzGW := dzGW_in (i := 343) (by decide +kernel) (by rfl)
set_option maxRecDepth 100000 in
theorem zm_24 : dzMw 24 0 := ⟨dzGW_in (i := 344) (by rfl) (by rfl), zw_2, by decide +kernel, by decide +kernel, zw_343⟩
theorem zw_354 : Cond.static ⟨"PrimeCertificates$Sums", "leadingZeros", "(I)I"⟩ ∈ dzGW := dzGW_in (i := 354) (by decide +kernel) (by rfl)
set_option maxRecDepth 100000 in
theorem zm_25 : dzMw 25 0 := ⟨dzGW_in (i := 355) (by rfl) (by rfl), zw_2, by decide +kernel, by decide +kernel, zw_354⟩
theorem zw_358 : Cond.instanceMethod ⟨"PrimeCertificates$Sums", "shiftUp", "([II[I)V"⟩ ∈ dzGW := dzGW_in (i := 358) (by decide +kernel) (by rfl)
set_option maxRecDepth 100000 in
theorem zm_26 : dzMw 26 1 := ⟨dzGW_in (i := 359) (by rfl) (by rfl), zw_2, by decide +kernel, by decide +kernel, ⟨zw_358, dzGW_sel (q := (⟨"PrimeCertificates$Sums", "shiftUp", "([II[I)V"⟩, 9)) (by decide +kernel)⟩⟩
theorem zw_351 : Cond.instanceMethod ⟨"PrimeCertificates$Sums", "setDivisor", "([I)V"⟩ ∈ dzGW := dzGW_in (i := 351) (by decide +kernel) (by rfl)
set_option maxRecDepth 100000 in
theorem zm_27 : dzMw 27 1 := ⟨dzGW_in (i := 352) (by rfl) (by rfl), zw_2, by decide +kernel, by decide +kernel, ⟨zw_351, dzGW_sel (q := (⟨"PrimeCertificates$Sums", "setDivisor", "([I)V"⟩, 9)) (by decide +kernel)⟩⟩
theorem zw_362 : Cond.instanceMethod ⟨"PrimeCertificates$Sums", "setWide", "([I)V"⟩ ∈ dzGW := dzGW_in (i := 362) (by decide +kernel) (by rfl)
set_option maxRecDepth 100000 in
theorem zm_28 : dzMw 28 1 := ⟨dzGW_in (i := 363) (by rfl) (by rfl), zw_2, by decide +kernel, by decide +kernel, ⟨zw_362, dzGW_sel (q := (⟨"PrimeCertificates$Sums", "setWide", "([I)V"⟩, 9)) (by decide +kernel)⟩⟩
theorem zw_373 : Cond.static ⟨"PrimeCertificates$Sums", "isAbove", "(JJ)Z"⟩ ∈ dzGW := dzGW_in (i := 373) (by decide +kernel) (by rfl)
set_option maxRecDepth 100000 in
theorem zm_29 : dzMw 29 0 := ⟨dzGW_in (i := 374) (by rfl) (by rfl), zw_2, by decide +kernel, by decide +kernel, zw_373⟩
theorem zw_370 : Cond.instanceMethod ⟨"PrimeCertificates$Sums", "guessTimes", "(I)J"⟩ ∈ dzGW := dzGW_in (i := 370) (by decide +kernel) (by rfl)
set_option maxRecDepth 100000 in
theorem zm_30 : dzMw 30 1 := ⟨dzGW_in (i := 371) (by rfl) (by rfl), zw_2, by decide +kernel, by decide +kernel, ⟨zw_370, dzGW_sel (q := (⟨"PrimeCertificates$Sums", "guessTimes", "(I)J"⟩, 9)) (by decide +kernel)⟩⟩
theorem zw_378 : Cond.instanceMethod ⟨"PrimeCertificates$Sums", "takeAway", "(JI)Z"⟩ ∈ dzGW := dzGW_in (i := 378) (by decide +kernel) (by rfl)
set_option maxRecDepth 100000 in
theorem zm_31 : dzMw 31 1 := ⟨dzGW_in (i := 379) (by rfl) (by rfl), zw_2, by decide +kernel, by decide +kernel, ⟨zw_378, dzGW_sel (q := (⟨"PrimeCertificates$Sums", "takeAway", "(JI)Z"⟩, 9)) (by decide +kernel)⟩⟩
theorem zw_382 : Cond.instanceMethod ⟨"PrimeCertificates$Sums", "giveBack", "(I)V"⟩ ∈ dzGW := dzGW_in (i := 382) (by decide +kernel) (by rfl)
set_option maxRecDepth 100000 in
theorem zm_32 : dzMw 32 1 := ⟨dzGW_in (i := 383) (by rfl) (by rfl), zw_2, by decide +kernel, by decide +kernel, ⟨zw_382, dzGW_sel (q := (⟨"PrimeCertificates$Sums", "giveBack", "(I)V"⟩, 9)) (by decide +kernel)⟩⟩
theorem zw_386 : Cond.instanceMethod ⟨"PrimeCertificates$Sums", "shiftWideDown", "()V"⟩ ∈ dzGW := dzGW_in (i := 386) (by decide +kernel) (by rfl)
set_option maxRecDepth 100000 in
theorem zm_33 : dzMw 33 1 := ⟨dzGW_in (i := 387) (by rfl) (by rfl), zw_2, by decide +kernel, by decide +kernel, ⟨zw_386, dzGW_sel (q := (⟨"PrimeCertificates$Sums", "shiftWideDown", "()V"⟩, 9)) (by decide +kernel)⟩⟩
theorem zw_366 : Cond.instanceMethod ⟨"PrimeCertificates$Sums", "reduceWide", "()V"⟩ ∈ dzGW := dzGW_in (i := 366) (by decide +kernel) (by rfl)
set_option maxRecDepth 100000 in
theorem zm_34 : dzMw 34 1 := ⟨dzGW_in (i := 367) (by rfl) (by rfl), zw_2, by decide +kernel, by decide +kernel, ⟨zw_366, dzGW_sel (q := (⟨"PrimeCertificates$Sums", "reduceWide", "()V"⟩, 9)) (by decide +kernel)⟩⟩
theorem zw_346 : Cond.instanceMethod ⟨"PrimeCertificates$Sums", "quotient", "([I[I[I[I)V"⟩ ∈ dzGW := dzGW_in (i := 346) (by decide +kernel) (by rfl)
theorem zw_347 : Cond.selects "PrimeCertificates$Sums" ⟨"PrimeCertificates$Sums", "quotient", "([I[I[I[I)V"⟩ ⟨"PrimeCertificates$Sums", "quotient", "([I[I[I[I)V"⟩ ∈ dzGW := dzGW_in (i := 347) (by decide +kernel) (by rfl)
set_option maxRecDepth 100000 in
theorem zm_35 : dzMw 35 1 := ⟨dzGW_in (i := 348) (by rfl) (by rfl), zw_2, by decide +kernel, by decide +kernel, ⟨zw_346, zw_347⟩⟩
theorem zw_339 : Cond.instanceMethod ⟨"PrimeCertificates", "divide", "(IIII)I"⟩ ∈ dzGW := dzGW_in (i := 339) (by decide +kernel) (by rfl)
theorem zw_340 : Cond.selects "PrimeCertificates" ⟨"PrimeCertificates", "divide", "(IIII)I"⟩ ⟨"PrimeCertificates", "divide", "(IIII)I"⟩ ∈ dzGW := dzGW_in (i := 340) (by decide +kernel) (by rfl)
set_option maxRecDepth 100000 in
theorem zm_36 : dzMw 36 1 := ⟨dzGW_in (i := 341) (by rfl) (by rfl), zw_1, by decide +kernel, by decide +kernel, ⟨zw_339, zw_340⟩⟩
theorem zw_397 : Cond.static ⟨"PrimeCertificates$Sums", "setSmall", "([II)V"⟩ ∈ dzGW := dzGW_in (i := 397) (by decide +kernel) (by rfl)
set_option maxRecDepth 100000 in
theorem zm_37 : dzMw 37 0 := ⟨dzGW_in (i := 398) (by rfl) (by rfl), zw_2, by decide +kernel, by decide +kernel, zw_397⟩
theorem zw_393 : Cond.instanceMethod ⟨"PrimeCertificates$Sums", "powerModulo", "([I[I[I[I)V"⟩ ∈ dzGW := dzGW_in (i := 393) (by decide +kernel) (by rfl)
theorem zw_394 : Cond.selects "PrimeCertificates$Sums" ⟨"PrimeCertificates$Sums", "powerModulo", "([I[I[I[I)V"⟩ ⟨"PrimeCertificates$Sums", "powerModulo", "([I[I[I[I)V"⟩ ∈ dzGW := dzGW_in (i := 394) (by decide +kernel) (by rfl)
set_option maxRecDepth 100000 in
theorem zm_38 : dzMw 38 1 := ⟨dzGW_in (i := 395) (by rfl) (by rfl), zw_2, by decide +kernel, by decide +kernel, ⟨zw_393, zw_394⟩⟩
theorem zw_389 : Cond.instanceMethod ⟨"PrimeCertificates", "power", "(IIII)I"⟩ ∈ dzGW := dzGW_in (i := 389) (by decide +kernel) (by rfl)
theorem zw_390 : Cond.selects "PrimeCertificates" ⟨"PrimeCertificates", "power", "(IIII)I"⟩ ⟨"PrimeCertificates", "power", "(IIII)I"⟩ ∈ dzGW := dzGW_in (i := 390) (by decide +kernel) (by rfl)
set_option maxRecDepth 100000 in
theorem zm_39 : dzMw 39 1 := ⟨dzGW_in (i := 391) (by rfl) (by rfl), zw_1, by decide +kernel, by decide +kernel, ⟨zw_389, zw_390⟩⟩
theorem zw_404 : Cond.instanceMethod ⟨"PrimeCertificates$Sums", "greatestDivisor", "([I[I[I)V"⟩ ∈ dzGW := dzGW_in (i := 404) (by decide +kernel) (by rfl)
theorem zw_405 : Cond.selects "PrimeCertificates$Sums" ⟨"PrimeCertificates$Sums", "greatestDivisor", "([I[I[I)V"⟩ ⟨"PrimeCertificates$Sums", "greatestDivisor", "([I[I[I)V"⟩ ∈ dzGW := dzGW_in (i := 405) (by decide +kernel) (by rfl)
set_option maxRecDepth 100000 in
theorem zm_40 : dzMw 40 1 := ⟨dzGW_in (i := 406) (by rfl) (by rfl), zw_2, by decide +kernel, by decide +kernel, ⟨zw_404, zw_405⟩⟩
theorem zw_400 : Cond.instanceMethod ⟨"PrimeCertificates", "common", "(III)I"⟩ ∈ dzGW := dzGW_in (i := 400) (by decide +kernel) (by rfl)
theorem zw_401 : Cond.selects "PrimeCertificates" ⟨"PrimeCertificates", "common", "(III)I"⟩ ⟨"PrimeCertificates", "common", "(III)I"⟩ ∈ dzGW := dzGW_in (i := 401) (by decide +kernel) (by rfl)
set_option maxRecDepth 100000 in
theorem zm_41 : dzMw 41 1 := ⟨dzGW_in (i := 402) (by rfl) (by rfl), zw_1, by decide +kernel, by decide +kernel, ⟨zw_400, zw_401⟩⟩
theorem zw_413 : Cond.static ⟨"PrimeCertificates$Sums", "order", "([I[I)I"⟩ ∈ dzGW := dzGW_in (i := 413) (by decide +kernel) (by rfl)
set_option maxRecDepth 100000 in
theorem zm_42 : dzMw 42 0 := ⟨dzGW_in (i := 414) (by rfl) (by rfl), zw_2, by decide +kernel, by decide +kernel, zw_413⟩
theorem zw_409 : Cond.instanceMethod ⟨"PrimeCertificates", "compare", "(II)I"⟩ ∈ dzGW := dzGW_in (i := 409) (by decide +kernel) (by rfl)
theorem zw_410 : Cond.selects "PrimeCertificates" ⟨"PrimeCertificates", "compare", "(II)I"⟩ ⟨"PrimeCertificates", "compare", "(II)I"⟩ ∈ dzGW := dzGW_in (i := 410) (by decide +kernel) (by rfl)
set_option maxRecDepth 100000 in
theorem zm_43 : dzMw 43 1 := ⟨dzGW_in (i := 411) (by rfl) (by rfl), zw_1, by decide +kernel, by decide +kernel, ⟨zw_409, zw_410⟩⟩
theorem zw_420 : Cond.instanceMethod ⟨"PrimeCertificates$Tape", "room", "()I"⟩ ∈ dzGW := dzGW_in (i := 420) (by decide +kernel) (by rfl)
theorem zw_421 : Cond.selects "PrimeCertificates$Tape" ⟨"PrimeCertificates$Tape", "room", "()I"⟩ ⟨"PrimeCertificates$Tape", "room", "()I"⟩ ∈ dzGW := dzGW_in (i := 421) (by decide +kernel) (by rfl)
set_option maxRecDepth 100000 in
theorem zm_44 : dzMw 44 1 := ⟨dzGW_in (i := 422) (by rfl) (by rfl), zw_3, by decide +kernel, by decide +kernel, ⟨zw_420, zw_421⟩⟩
theorem zw_424 : Cond.instanceMethod ⟨"PrimeCertificates$Tape", "append", "(I)V"⟩ ∈ dzGW := dzGW_in (i := 424) (by decide +kernel) (by rfl)
theorem zw_425 : Cond.selects "PrimeCertificates$Tape" ⟨"PrimeCertificates$Tape", "append", "(I)V"⟩ ⟨"PrimeCertificates$Tape", "append", "(I)V"⟩ ∈ dzGW := dzGW_in (i := 425) (by decide +kernel) (by rfl)
set_option maxRecDepth 100000 in
theorem zm_45 : dzMw 45 1 := ⟨dzGW_in (i := 426) (by rfl) (by rfl), zw_3, by decide +kernel, by decide +kernel, ⟨zw_424, zw_425⟩⟩
theorem zw_416 : Cond.instanceMethod ⟨"PrimeCertificates", "say", "(I)I"⟩ ∈ dzGW := dzGW_in (i := 416) (by decide +kernel) (by rfl)
theorem zw_417 : Cond.selects "PrimeCertificates" ⟨"PrimeCertificates", "say", "(I)I"⟩ ⟨"PrimeCertificates", "say", "(I)I"⟩ ∈ dzGW := dzGW_in (i := 417) (by decide +kernel) (by rfl)
set_option maxRecDepth 100000 in
theorem zm_46 : dzMw 46 1 := ⟨dzGW_in (i := 418) (by rfl) (by rfl), zw_1, by decide +kernel, by decide +kernel, ⟨zw_416, zw_417⟩⟩
theorem zw_432 : Cond.instanceMethod ⟨"PrimeCertificates$Lines", "forgetBehind", "(I)V"⟩ ∈ dzGW := dzGW_in (i := 432) (by decide +kernel) (by rfl)
theorem zw_433 : Cond.selects "PrimeCertificates$Lines" ⟨"PrimeCertificates$Lines", "forgetBehind", "(I)V"⟩ ⟨"PrimeCertificates$Lines", "forgetBehind", "(I)V"⟩ ∈ dzGW := dzGW_in (i := 433) (by decide +kernel) (by rfl)
set_option maxRecDepth 100000 in
theorem zm_47 : dzMw 47 1 := ⟨dzGW_in (i := 434) (by rfl) (by rfl), zw_4, by decide +kernel, by decide +kernel, ⟨zw_432, zw_433⟩⟩
theorem zw_428 : Cond.instanceMethod ⟨"PrimeCertificates", "cut", "(I)Z"⟩ ∈ dzGW := dzGW_in (i := 428) (by decide +kernel) (by rfl)
theorem zw_429 : Cond.selects "PrimeCertificates" ⟨"PrimeCertificates", "cut", "(I)Z"⟩ ⟨"PrimeCertificates", "cut", "(I)Z"⟩ ∈ dzGW := dzGW_in (i := 429) (by decide +kernel) (by rfl)
set_option maxRecDepth 100000 in
theorem zm_48 : dzMw 48 1 := ⟨dzGW_in (i := 430) (by rfl) (by rfl), zw_1, by decide +kernel, by decide +kernel, ⟨zw_428, zw_429⟩⟩
theorem zw_436 : Cond.instanceMethod ⟨"PrimeCertificates", "length", "()I"⟩ ∈ dzGW := dzGW_in (i := 436) (by decide +kernel) (by rfl)
theorem zw_437 : Cond.selects "PrimeCertificates" ⟨"PrimeCertificates", "length", "()I"⟩ ⟨"PrimeCertificates", "length", "()I"⟩ ∈ dzGW := dzGW_in (i := 437) (by decide +kernel) (by rfl)
set_option maxRecDepth 100000 in
theorem zm_49 : dzMw 49 1 := ⟨dzGW_in (i := 438) (by rfl) (by rfl), zw_1, by decide +kernel, by decide +kernel, ⟨zw_436, zw_437⟩⟩
theorem zw_440 : Cond.instanceMethod ⟨"PrimeCertificates", "at", "(I)I"⟩ ∈ dzGW := dzGW_in (i := 440) (by decide +kernel) (by rfl)
theorem zw_441 : Cond.selects "PrimeCertificates" ⟨"PrimeCertificates", "at", "(I)I"⟩ ⟨"PrimeCertificates", "at", "(I)I"⟩ ∈ dzGW := dzGW_in (i := 441) (by decide +kernel) (by rfl)
set_option maxRecDepth 100000 in
theorem zm_50 : dzMw 50 1 := ⟨dzGW_in (i := 442) (by rfl) (by rfl), zw_1, by decide +kernel, by decide +kernel, ⟨zw_440, zw_441⟩⟩
theorem zw_452 : Cond.instanceMethod ⟨"PrimeCertificates$Lines", "end", "()I"⟩ ∈ dzGW := dzGW_in (i := 452) (by decide +kernel) (by rfl)
theorem zw_453 : Cond.selects "PrimeCertificates$Lines" ⟨"PrimeCertificates$Lines", "end", "()I"⟩ ⟨"PrimeCertificates$Lines", "end", "()I"⟩ ∈ dzGW := dzGW_in (i := 453) (by decide +kernel) (by rfl)
set_option maxRecDepth 100000 in
theorem zm_51 : dzMw 51 1 := ⟨dzGW_in (i := 454) (by rfl) (by rfl), zw_4, by decide +kernel, by decide +kernel, ⟨zw_452, zw_453⟩⟩
theorem zw_465 : Cond.instanceMethod ⟨"PrimeCertificates$Checker", "refuse", "(II)Z"⟩ ∈ dzGW := dzGW_in (i := 465) (by decide +kernel) (by rfl)
set_option maxRecDepth 100000 in
theorem zm_52 : dzMw 52 1 := ⟨dzGW_in (i := 466) (by rfl) (by rfl), zw_6, by decide +kernel, by decide +kernel, ⟨zw_465, dzGW_sel (q := (⟨"PrimeCertificates$Checker", "refuse", "(II)Z"⟩, 13)) (by decide +kernel)⟩⟩
theorem zw_461 : Cond.instanceMethod ⟨"PrimeCertificates$Checker", "take", "()Z"⟩ ∈ dzGW := dzGW_in (i := 461) (by decide +kernel) (by rfl)
set_option maxRecDepth 100000 in
theorem zm_53 : dzMw 53 1 := ⟨dzGW_in (i := 462) (by rfl) (by rfl), zw_6, by decide +kernel, by decide +kernel, ⟨zw_461, dzGW_sel (q := (⟨"PrimeCertificates$Checker", "take", "()Z"⟩, 13)) (by decide +kernel)⟩⟩
theorem zw_473 : Cond.static ⟨"PrimeCertificates", "isSmallPrime", "(I)Z"⟩ ∈ dzGW := dzGW_in (i := 473) (by decide +kernel) (by rfl)
set_option maxRecDepth 100000 in
theorem zm_54 : dzMw 54 0 := ⟨dzGW_in (i := 474) (by rfl) (by rfl), zw_1, by decide +kernel, by decide +kernel, zw_473⟩
theorem zw_477 : Cond.instanceMethod ⟨"PrimeCertificates$Checker", "refuseTaken", "(I)Z"⟩ ∈ dzGW := dzGW_in (i := 477) (by decide +kernel) (by rfl)
set_option maxRecDepth 100000 in
theorem zm_55 : dzMw 55 1 := ⟨dzGW_in (i := 478) (by rfl) (by rfl), zw_6, by decide +kernel, by decide +kernel, ⟨zw_477, dzGW_sel (q := (⟨"PrimeCertificates$Checker", "refuseTaken", "(I)Z"⟩, 13)) (by decide +kernel)⟩⟩
theorem zw_469 : Cond.instanceMethod ⟨"PrimeCertificates$Checker", "readSmallPrime", "([I)Z"⟩ ∈ dzGW := dzGW_in (i := 469) (by decide +kernel) (by rfl)
set_option maxRecDepth 100000 in
theorem zm_56 : dzMw 56 1 := ⟨dzGW_in (i := 470) (by rfl) (by rfl), zw_6, by decide +kernel, by decide +kernel, ⟨zw_469, dzGW_sel (q := (⟨"PrimeCertificates$Checker", "readSmallPrime", "([I)Z"⟩, 13)) (by decide +kernel)⟩⟩
theorem zw_486 : Cond.static ⟨"PrimeCertificates$Sums", "isAtMost", "([II)Z"⟩ ∈ dzGW := dzGW_in (i := 486) (by decide +kernel) (by rfl)
set_option maxRecDepth 100000 in
theorem zm_57 : dzMw 57 0 := ⟨dzGW_in (i := 487) (by rfl) (by rfl), zw_2, by decide +kernel, by decide +kernel, zw_486⟩
theorem zw_482 : Cond.instanceMethod ⟨"PrimeCertificates$Checker", "readNumber", "([I)Z"⟩ ∈ dzGW := dzGW_in (i := 482) (by decide +kernel) (by rfl)
set_option maxRecDepth 100000 in
theorem zm_58 : dzMw 58 1 := ⟨dzGW_in (i := 483) (by rfl) (by rfl), zw_6, by decide +kernel, by decide +kernel, ⟨zw_482, dzGW_sel (q := (⟨"PrimeCertificates$Checker", "readNumber", "([I)Z"⟩, 13)) (by decide +kernel)⟩⟩
theorem zw_493 : Cond.static ⟨"PrimeCertificates$Checker", "isWitness", "(I[I)Z"⟩ ∈ dzGW := dzGW_in (i := 493) (by decide +kernel) (by rfl)
set_option maxRecDepth 100000 in
theorem zm_59 : dzMw 59 0 := ⟨dzGW_in (i := 494) (by rfl) (by rfl), zw_6, by decide +kernel, by decide +kernel, zw_493⟩
theorem zw_490 : Cond.instanceMethod ⟨"PrimeCertificates$Checker", "readRoot", "([I)Z"⟩ ∈ dzGW := dzGW_in (i := 490) (by decide +kernel) (by rfl)
set_option maxRecDepth 100000 in
theorem zm_60 : dzMw 60 1 := ⟨dzGW_in (i := 491) (by rfl) (by rfl), zw_6, by decide +kernel, by decide +kernel, ⟨zw_490, dzGW_sel (q := (⟨"PrimeCertificates$Checker", "readRoot", "([I)Z"⟩, 13)) (by decide +kernel)⟩⟩
theorem zw_505 : Cond.instanceMethod ⟨"PrimeCertificates$Checker", "factorNumber", "(I)[I"⟩ ∈ dzGW := dzGW_in (i := 505) (by decide +kernel) (by rfl)
set_option maxRecDepth 100000 in
theorem zm_61 : dzMw 61 1 := ⟨dzGW_in (i := 506) (by rfl) (by rfl), zw_6, by decide +kernel, by decide +kernel, ⟨zw_505, dzGW_sel (q := (⟨"PrimeCertificates$Checker", "factorNumber", "(I)[I"⟩, 13)) (by decide +kernel)⟩⟩
theorem zw_501 : Cond.instanceMethod ⟨"PrimeCertificates$Checker", "readFactorLine", "(II)Z"⟩ ∈ dzGW := dzGW_in (i := 501) (by decide +kernel) (by rfl)
set_option maxRecDepth 100000 in
theorem zm_62 : dzMw 62 1 := ⟨dzGW_in (i := 502) (by rfl) (by rfl), zw_6, by decide +kernel, by decide +kernel, ⟨zw_501, dzGW_sel (q := (⟨"PrimeCertificates$Checker", "readFactorLine", "(II)Z"⟩, 13)) (by decide +kernel)⟩⟩
theorem zw_510 : Cond.instanceMethod ⟨"PrimeCertificates$Checker", "readExponent", "(I)Z"⟩ ∈ dzGW := dzGW_in (i := 510) (by decide +kernel) (by rfl)
set_option maxRecDepth 100000 in
theorem zm_63 : dzMw 63 1 := ⟨dzGW_in (i := 511) (by rfl) (by rfl), zw_6, by decide +kernel, by decide +kernel, ⟨zw_510, dzGW_sel (q := (⟨"PrimeCertificates$Checker", "readExponent", "(I)Z"⟩, 13)) (by decide +kernel)⟩⟩
theorem zw_497 : Cond.instanceMethod ⟨"PrimeCertificates$Checker", "readFactors", "(I)Z"⟩ ∈ dzGW := dzGW_in (i := 497) (by decide +kernel) (by rfl)
set_option maxRecDepth 100000 in
theorem zm_64 : dzMw 64 1 := ⟨dzGW_in (i := 498) (by rfl) (by rfl), zw_6, by decide +kernel, by decide +kernel, ⟨zw_497, dzGW_sel (q := (⟨"PrimeCertificates$Checker", "readFactors", "(I)Z"⟩, 13)) (by decide +kernel)⟩⟩
theorem zw_457 : Cond.instanceMethod ⟨"PrimeCertificates$Checker", "readLine", "(I)Z"⟩ ∈ dzGW := dzGW_in (i := 457) (by decide +kernel) (by rfl)
set_option maxRecDepth 100000 in
theorem zm_65 : dzMw 65 1 := ⟨dzGW_in (i := 458) (by rfl) (by rfl), zw_6, by decide +kernel, by decide +kernel, ⟨zw_457, dzGW_sel (q := (⟨"PrimeCertificates$Checker", "readLine", "(I)Z"⟩, 13)) (by decide +kernel)⟩⟩
theorem zw_513 : Cond.instanceMethod ⟨"PrimeCertificates$Trial", "begin", "([I)V"⟩ ∈ dzGW := dzGW_in (i := 513) (by decide +kernel) (by rfl)
theorem zw_514 : Cond.selects "PrimeCertificates$Trial" ⟨"PrimeCertificates$Trial", "begin", "([I)V"⟩ ⟨"PrimeCertificates$Trial", "begin", "([I)V"⟩ ∈ dzGW := dzGW_in (i := 514) (by decide +kernel) (by rfl)
set_option maxRecDepth 100000 in
theorem zm_66 : dzMw 66 1 := ⟨dzGW_in (i := 515) (by rfl) (by rfl), zw_5, by decide +kernel, by decide +kernel, ⟨zw_513, zw_514⟩⟩
theorem zw_524 : Cond.instanceMethod ⟨"PrimeCertificates$Checker", "multiplyFactors", "()Z"⟩ ∈ dzGW := dzGW_in (i := 524) (by decide +kernel) (by rfl)
set_option maxRecDepth 100000 in
theorem zm_67 : dzMw 67 1 := ⟨dzGW_in (i := 525) (by rfl) (by rfl), zw_6, by decide +kernel, by decide +kernel, ⟨zw_524, dzGW_sel (q := (⟨"PrimeCertificates$Checker", "multiplyFactors", "()Z"⟩, 13)) (by decide +kernel)⟩⟩
theorem zw_528 : Cond.instanceMethod ⟨"PrimeCertificates$Sums", "divides", "([I[I)Z"⟩ ∈ dzGW := dzGW_in (i := 528) (by decide +kernel) (by rfl)
theorem zw_529 : Cond.selects "PrimeCertificates$Sums" ⟨"PrimeCertificates$Sums", "divides", "([I[I)Z"⟩ ⟨"PrimeCertificates$Sums", "divides", "([I[I)Z"⟩ ∈ dzGW := dzGW_in (i := 529) (by decide +kernel) (by rfl)
set_option maxRecDepth 100000 in
theorem zm_68 : dzMw 68 1 := ⟨dzGW_in (i := 530) (by rfl) (by rfl), zw_2, by decide +kernel, by decide +kernel, ⟨zw_528, zw_529⟩⟩
theorem zw_532 : Cond.instanceMethod ⟨"PrimeCertificates$Sums", "squareIsAbove", "([I[I)Z"⟩ ∈ dzGW := dzGW_in (i := 532) (by decide +kernel) (by rfl)
theorem zw_533 : Cond.selects "PrimeCertificates$Sums" ⟨"PrimeCertificates$Sums", "squareIsAbove", "([I[I)Z"⟩ ⟨"PrimeCertificates$Sums", "squareIsAbove", "([I[I)Z"⟩ ∈ dzGW := dzGW_in (i := 533) (by decide +kernel) (by rfl)
set_option maxRecDepth 100000 in
theorem zm_69 : dzMw 69 1 := ⟨dzGW_in (i := 534) (by rfl) (by rfl), zw_2, by decide +kernel, by decide +kernel, ⟨zw_532, zw_533⟩⟩
theorem zw_520 : Cond.instanceMethod ⟨"PrimeCertificates$Checker", "productHolds", "()Z"⟩ ∈ dzGW := dzGW_in (i := 520) (by decide +kernel) (by rfl)
set_option maxRecDepth 100000 in
theorem zm_70 : dzMw 70 1 := ⟨dzGW_in (i := 521) (by rfl) (by rfl), zw_6, by decide +kernel, by decide +kernel, ⟨zw_520, dzGW_sel (q := (⟨"PrimeCertificates$Checker", "productHolds", "()Z"⟩, 13)) (by decide +kernel)⟩⟩
theorem zw_546 : Cond.static ⟨"PrimeCertificates$Sums", "isOne", "([I)Z"⟩ ∈ dzGW := dzGW_in (i := 546) (by decide +kernel) (by rfl)
set_option maxRecDepth 100000 in
theorem zm_71 : dzMw 71 0 := ⟨dzGW_in (i := 547) (by rfl) (by rfl), zw_2, by decide +kernel, by decide +kernel, zw_546⟩
theorem zw_541 : Cond.instanceMethod ⟨"PrimeCertificates$Trial", "closes", "(I)Z"⟩ ∈ dzGW := dzGW_in (i := 541) (by decide +kernel) (by rfl)
theorem zw_542 : Cond.selects "PrimeCertificates$Trial" ⟨"PrimeCertificates$Trial", "closes", "(I)Z"⟩ ⟨"PrimeCertificates$Trial", "closes", "(I)Z"⟩ ∈ dzGW := dzGW_in (i := 542) (by decide +kernel) (by rfl)
set_option maxRecDepth 100000 in
theorem zm_72 : dzMw 72 1 := ⟨dzGW_in (i := 543) (by rfl) (by rfl), zw_5, by decide +kernel, by decide +kernel, ⟨zw_541, zw_542⟩⟩
theorem zw_549 : Cond.instanceMethod ⟨"PrimeCertificates$Trial", "parts", "(I[I)Z"⟩ ∈ dzGW := dzGW_in (i := 549) (by decide +kernel) (by rfl)
theorem zw_550 : Cond.selects "PrimeCertificates$Trial" ⟨"PrimeCertificates$Trial", "parts", "(I[I)Z"⟩ ⟨"PrimeCertificates$Trial", "parts", "(I[I)Z"⟩ ∈ dzGW := dzGW_in (i := 550) (by decide +kernel) (by rfl)
set_option maxRecDepth 100000 in
theorem zm_73 : dzMw 73 1 := ⟨dzGW_in (i := 551) (by rfl) (by rfl), zw_5, by decide +kernel, by decide +kernel, ⟨zw_549, zw_550⟩⟩
theorem zw_555 : Cond.instanceMethod ⟨"PrimeCertificates$Checker", "factorPlace", "(I)I"⟩ ∈ dzGW := dzGW_in (i := 555) (by decide +kernel) (by rfl)
set_option maxRecDepth 100000 in
theorem zm_74 : dzMw 74 1 := ⟨dzGW_in (i := 556) (by rfl) (by rfl), zw_6, by decide +kernel, by decide +kernel, ⟨zw_555, dzGW_sel (q := (⟨"PrimeCertificates$Checker", "factorPlace", "(I)I"⟩, 13)) (by decide +kernel)⟩⟩
theorem zw_538 : Cond.instanceMethod ⟨"PrimeCertificates$Checker", "rootHolds", "()Z"⟩ ∈ dzGW := dzGW_in (i := 538) (by decide +kernel) (by rfl)
set_option maxRecDepth 100000 in
theorem zm_75 : dzMw 75 1 := ⟨dzGW_in (i := 539) (by rfl) (by rfl), zw_6, by decide +kernel, by decide +kernel, ⟨zw_538, dzGW_sel (q := (⟨"PrimeCertificates$Checker", "rootHolds", "()Z"⟩, 13)) (by decide +kernel)⟩⟩
theorem zw_562 : Cond.instanceMethod ⟨"PrimeCertificates$Trial", "partsEverywhere", "(I[I)Z"⟩ ∈ dzGW := dzGW_in (i := 562) (by decide +kernel) (by rfl)
theorem zw_563 : Cond.selects "PrimeCertificates$Trial" ⟨"PrimeCertificates$Trial", "partsEverywhere", "(I[I)Z"⟩ ⟨"PrimeCertificates$Trial", "partsEverywhere", "(I[I)Z"⟩ ∈ dzGW := dzGW_in (i := 563) (by decide +kernel) (by rfl)
set_option maxRecDepth 100000 in
theorem zm_76 : dzMw 76 1 := ⟨dzGW_in (i := 564) (by rfl) (by rfl), zw_5, by decide +kernel, by decide +kernel, ⟨zw_562, zw_563⟩⟩
theorem zw_559 : Cond.instanceMethod ⟨"PrimeCertificates$Checker", "witnessesHold", "()Z"⟩ ∈ dzGW := dzGW_in (i := 559) (by decide +kernel) (by rfl)
set_option maxRecDepth 100000 in
theorem zm_77 : dzMw 77 1 := ⟨dzGW_in (i := 560) (by rfl) (by rfl), zw_6, by decide +kernel, by decide +kernel, ⟨zw_559, dzGW_sel (q := (⟨"PrimeCertificates$Checker", "witnessesHold", "()Z"⟩, 13)) (by decide +kernel)⟩⟩
theorem zw_567 : Cond.instanceMethod ⟨"PrimeCertificates$Lines", "keepNext", "(I)V"⟩ ∈ dzGW := dzGW_in (i := 567) (by decide +kernel) (by rfl)
theorem zw_568 : Cond.selects "PrimeCertificates$Lines" ⟨"PrimeCertificates$Lines", "keepNext", "(I)V"⟩ ⟨"PrimeCertificates$Lines", "keepNext", "(I)V"⟩ ∈ dzGW := dzGW_in (i := 568) (by decide +kernel) (by rfl)
set_option maxRecDepth 100000 in
theorem zm_78 : dzMw 78 1 := ⟨dzGW_in (i := 569) (by rfl) (by rfl), zw_4, by decide +kernel, by decide +kernel, ⟨zw_567, zw_568⟩⟩
theorem zw_448 : Cond.instanceMethod ⟨"PrimeCertificates$Checker", "findFault", "()I"⟩ ∈ dzGW := dzGW_in (i := 448) (by decide +kernel) (by rfl)
theorem zw_449 : Cond.selects "PrimeCertificates$Checker" ⟨"PrimeCertificates$Checker", "findFault", "()I"⟩ ⟨"PrimeCertificates$Checker", "findFault", "()I"⟩ ∈ dzGW := dzGW_in (i := 449) (by decide +kernel) (by rfl)
set_option maxRecDepth 100000 in
theorem zm_79 : dzMw 79 1 := ⟨dzGW_in (i := 450) (by rfl) (by rfl), zw_6, by decide +kernel, by decide +kernel, ⟨zw_448, zw_449⟩⟩
theorem zw_444 : Cond.instanceMethod ⟨"PrimeCertificates", "check", "()I"⟩ ∈ dzGW := dzGW_in (i := 444) (by decide +kernel) (by rfl)
theorem zw_445 : Cond.selects "PrimeCertificates" ⟨"PrimeCertificates", "check", "()I"⟩ ⟨"PrimeCertificates", "check", "()I"⟩ ∈ dzGW := dzGW_in (i := 445) (by decide +kernel) (by rfl)
set_option maxRecDepth 100000 in
theorem zm_80 : dzMw 80 1 := ⟨dzGW_in (i := 446) (by rfl) (by rfl), zw_1, by decide +kernel, by decide +kernel, ⟨zw_444, zw_445⟩⟩
theorem zw_571 : Cond.instanceMethod ⟨"PrimeCertificates", "place", "()I"⟩ ∈ dzGW := dzGW_in (i := 571) (by decide +kernel) (by rfl)
theorem zw_572 : Cond.selects "PrimeCertificates" ⟨"PrimeCertificates", "place", "()I"⟩ ⟨"PrimeCertificates", "place", "()I"⟩ ∈ dzGW := dzGW_in (i := 572) (by decide +kernel) (by rfl)
set_option maxRecDepth 100000 in
theorem zm_81 : dzMw 81 1 := ⟨dzGW_in (i := 573) (by rfl) (by rfl), zw_1, by decide +kernel, by decide +kernel, ⟨zw_571, zw_572⟩⟩
theorem zw_575 : Cond.instanceMethod ⟨"PrimeCertificates", "tell", "(II)Z"⟩ ∈ dzGW := dzGW_in (i := 575) (by decide +kernel) (by rfl)
theorem zw_576 : Cond.selects "PrimeCertificates" ⟨"PrimeCertificates", "tell", "(II)Z"⟩ ⟨"PrimeCertificates", "tell", "(II)Z"⟩ ∈ dzGW := dzGW_in (i := 576) (by decide +kernel) (by rfl)
set_option maxRecDepth 100000 in
theorem zm_82 : dzMw 82 1 := ⟨dzGW_in (i := 577) (by rfl) (by rfl), zw_1, by decide +kernel, by decide +kernel, ⟨zw_575, zw_576⟩⟩
theorem zw_587 : Cond.instanceMethod ⟨"PrimeCertificates$Lines", "lineOf", "([I)I"⟩ ∈ dzGW := dzGW_in (i := 587) (by decide +kernel) (by rfl)
theorem zw_588 : Cond.selects "PrimeCertificates$Lines" ⟨"PrimeCertificates$Lines", "lineOf", "([I)I"⟩ ⟨"PrimeCertificates$Lines", "lineOf", "([I)I"⟩ ∈ dzGW := dzGW_in (i := 588) (by decide +kernel) (by rfl)
set_option maxRecDepth 100000 in
theorem zm_83 : dzMw 83 1 := ⟨dzGW_in (i := 589) (by rfl) (by rfl), zw_4, by decide +kernel, by decide +kernel, ⟨zw_587, zw_588⟩⟩
theorem zw_596 : Cond.instanceMethod ⟨"PrimeCertificates$Maker", "planSmallLine", "([I)Z"⟩ ∈ dzGW := dzGW_in (i := 596) (by decide +kernel) (by rfl)
set_option maxRecDepth 100000 in
theorem zm_84 : dzMw 84 1 := ⟨dzGW_in (i := 597) (by rfl) (by rfl), zw_8, by decide +kernel, by decide +kernel, ⟨zw_596, dzGW_sel (q := (⟨"PrimeCertificates$Maker", "planSmallLine", "([I)Z"⟩, 11)) (by decide +kernel)⟩⟩
theorem zw_601 : Cond.instanceMethod ⟨"PrimeCertificates$Maker", "hasRoom", "(I)Z"⟩ ∈ dzGW := dzGW_in (i := 601) (by decide +kernel) (by rfl)
set_option maxRecDepth 100000 in
theorem zm_85 : dzMw 85 1 := ⟨dzGW_in (i := 602) (by rfl) (by rfl), zw_8, by decide +kernel, by decide +kernel, ⟨zw_601, dzGW_sel (q := (⟨"PrimeCertificates$Maker", "hasRoom", "(I)Z"⟩, 11)) (by decide +kernel)⟩⟩
theorem zw_606 : Cond.instanceMethod ⟨"PrimeCertificates$Maker", "writeSmallLines", "()I"⟩ ∈ dzGW := dzGW_in (i := 606) (by decide +kernel) (by rfl)
set_option maxRecDepth 100000 in
theorem zm_86 : dzMw 86 1 := ⟨dzGW_in (i := 607) (by rfl) (by rfl), zw_8, by decide +kernel, by decide +kernel, ⟨zw_606, dzGW_sel (q := (⟨"PrimeCertificates$Maker", "writeSmallLines", "()I"⟩, 11)) (by decide +kernel)⟩⟩
theorem zw_618 : Cond.instanceMethod ⟨"PrimeCertificates$Maker", "divideOut", "([I)I"⟩ ∈ dzGW := dzGW_in (i := 618) (by decide +kernel) (by rfl)
set_option maxRecDepth 100000 in
theorem zm_87 : dzMw 87 1 := ⟨dzGW_in (i := 619) (by rfl) (by rfl), zw_8, by decide +kernel, by decide +kernel, ⟨zw_618, dzGW_sel (q := (⟨"PrimeCertificates$Maker", "divideOut", "([I)I"⟩, 11)) (by decide +kernel)⟩⟩
theorem zw_632 : Cond.instanceMethod ⟨"PrimeCertificates$Maker", "factorNumber", "(I)[I"⟩ ∈ dzGW := dzGW_in (i := 632) (by decide +kernel) (by rfl)
set_option maxRecDepth 100000 in
theorem zm_88 : dzMw 88 1 := ⟨dzGW_in (i := 633) (by rfl) (by rfl), zw_8, by decide +kernel, by decide +kernel, ⟨zw_632, dzGW_sel (q := (⟨"PrimeCertificates$Maker", "factorNumber", "(I)[I"⟩, 11)) (by decide +kernel)⟩⟩
theorem zw_628 : Cond.instanceMethod ⟨"PrimeCertificates$Maker", "insertFactor", "(II)Z"⟩ ∈ dzGW := dzGW_in (i := 628) (by decide +kernel) (by rfl)
set_option maxRecDepth 100000 in
theorem zm_89 : dzMw 89 1 := ⟨dzGW_in (i := 629) (by rfl) (by rfl), zw_8, by decide +kernel, by decide +kernel, ⟨zw_628, dzGW_sel (q := (⟨"PrimeCertificates$Maker", "insertFactor", "(II)Z"⟩, 11)) (by decide +kernel)⟩⟩
theorem zw_624 : Cond.instanceMethod ⟨"PrimeCertificates$Maker", "insertPrime", "(I)Z"⟩ ∈ dzGW := dzGW_in (i := 624) (by decide +kernel) (by rfl)
set_option maxRecDepth 100000 in
theorem zm_90 : dzMw 90 1 := ⟨dzGW_in (i := 625) (by rfl) (by rfl), zw_8, by decide +kernel, by decide +kernel, ⟨zw_624, dzGW_sel (q := (⟨"PrimeCertificates$Maker", "insertPrime", "(I)Z"⟩, 11)) (by decide +kernel)⟩⟩
theorem zw_613 : Cond.instanceMethod ⟨"PrimeCertificates$Maker", "findFactors", "()Z"⟩ ∈ dzGW := dzGW_in (i := 613) (by decide +kernel) (by rfl)
set_option maxRecDepth 100000 in
theorem zm_91 : dzMw 91 1 := ⟨dzGW_in (i := 614) (by rfl) (by rfl), zw_8, by decide +kernel, by decide +kernel, ⟨zw_613, dzGW_sel (q := (⟨"PrimeCertificates$Maker", "findFactors", "()Z"⟩, 11)) (by decide +kernel)⟩⟩
theorem zw_638 : Cond.instanceMethod ⟨"PrimeCertificates$Maker", "lastLineInts", "(Z)I"⟩ ∈ dzGW := dzGW_in (i := 638) (by decide +kernel) (by rfl)
set_option maxRecDepth 100000 in
theorem zm_92 : dzMw 92 1 := ⟨dzGW_in (i := 639) (by rfl) (by rfl), zw_8, by decide +kernel, by decide +kernel, ⟨zw_638, dzGW_sel (q := (⟨"PrimeCertificates$Maker", "lastLineInts", "(Z)I"⟩, 11)) (by decide +kernel)⟩⟩
theorem zw_643 : Cond.instanceMethod ⟨"PrimeCertificates$Maker", "factorsSuffice", "()Z"⟩ ∈ dzGW := dzGW_in (i := 643) (by decide +kernel) (by rfl)
set_option maxRecDepth 100000 in
theorem zm_93 : dzMw 93 1 := ⟨dzGW_in (i := 644) (by rfl) (by rfl), zw_8, by decide +kernel, by decide +kernel, ⟨zw_643, dzGW_sel (q := (⟨"PrimeCertificates$Maker", "factorsSuffice", "()Z"⟩, 11)) (by decide +kernel)⟩⟩
theorem zw_648 : Cond.instanceMethod ⟨"PrimeCertificates$Maker", "findRoot", "()Z"⟩ ∈ dzGW := dzGW_in (i := 648) (by decide +kernel) (by rfl)
set_option maxRecDepth 100000 in
theorem zm_94 : dzMw 94 1 := ⟨dzGW_in (i := 649) (by rfl) (by rfl), zw_8, by decide +kernel, by decide +kernel, ⟨zw_648, dzGW_sel (q := (⟨"PrimeCertificates$Maker", "findRoot", "()Z"⟩, 11)) (by decide +kernel)⟩⟩
theorem zw_654 : Cond.instanceMethod ⟨"PrimeCertificates$Maker", "findWitnesses", "()Z"⟩ ∈ dzGW := dzGW_in (i := 654) (by decide +kernel) (by rfl)
set_option maxRecDepth 100000 in
theorem zm_95 : dzMw 95 1 := ⟨dzGW_in (i := 655) (by rfl) (by rfl), zw_8, by decide +kernel, by decide +kernel, ⟨zw_654, dzGW_sel (q := (⟨"PrimeCertificates$Maker", "findWitnesses", "()Z"⟩, 11)) (by decide +kernel)⟩⟩
theorem zw_662 : Cond.instanceMethod ⟨"PrimeCertificates$Maker", "writeLastLine", "(Z)I"⟩ ∈ dzGW := dzGW_in (i := 662) (by decide +kernel) (by rfl)
set_option maxRecDepth 100000 in
theorem zm_96 : dzMw 96 1 := ⟨dzGW_in (i := 663) (by rfl) (by rfl), zw_8, by decide +kernel, by decide +kernel, ⟨zw_662, dzGW_sel (q := (⟨"PrimeCertificates$Maker", "writeLastLine", "(Z)I"⟩, 11)) (by decide +kernel)⟩⟩
theorem zw_583 : Cond.instanceMethod ⟨"PrimeCertificates$Maker", "lineFor", "([I)I"⟩ ∈ dzGW := dzGW_in (i := 583) (by decide +kernel) (by rfl)
theorem zw_584 : Cond.selects "PrimeCertificates$Maker" ⟨"PrimeCertificates$Maker", "lineFor", "([I)I"⟩ ⟨"PrimeCertificates$Maker", "lineFor", "([I)I"⟩ ∈ dzGW := dzGW_in (i := 584) (by decide +kernel) (by rfl)
set_option maxRecDepth 100000 in
theorem zm_97 : dzMw 97 1 := ⟨dzGW_in (i := 585) (by rfl) (by rfl), zw_8, by decide +kernel, by decide +kernel, ⟨zw_583, zw_584⟩⟩
theorem zw_579 : Cond.instanceMethod ⟨"PrimeCertificates", "prove", "(I)I"⟩ ∈ dzGW := dzGW_in (i := 579) (by decide +kernel) (by rfl)
theorem zw_580 : Cond.selects "PrimeCertificates" ⟨"PrimeCertificates", "prove", "(I)I"⟩ ⟨"PrimeCertificates", "prove", "(I)I"⟩ ∈ dzGW := dzGW_in (i := 580) (by decide +kernel) (by rfl)
set_option maxRecDepth 100000 in
theorem zm_98 : dzMw 98 1 := ⟨dzGW_in (i := 581) (by rfl) (by rfl), zw_1, by decide +kernel, by decide +kernel, ⟨zw_579, zw_580⟩⟩
theorem zw_672 : Cond.instanceMethod ⟨"PrimeCertificatesModel", "set", "(IJ)V"⟩ ∈ dzGW := dzGW_in (i := 672) (by decide +kernel) (by rfl)
set_option maxRecDepth 100000 in
theorem zm_99 : dzMw 99 1 := ⟨dzGW_in (i := 673) (by rfl) (by rfl), zw_9, by decide +kernel, by decide +kernel, ⟨zw_672, dzGW_sel (q := (⟨"PrimeCertificatesModel", "set", "(IJ)V"⟩, 12)) (by decide +kernel)⟩⟩
theorem zw_667 : Cond.instanceMethod ⟨"PrimeCertificatesModel", "<init>", "()V"⟩ ∈ dzGW := dzGW_in (i := 667) (by decide +kernel) (by rfl)
set_option maxRecDepth 100000 in
theorem zm_100 : dzMw 100 2 := ⟨dzGW_in (i := 668) (by rfl) (by rfl), zw_9, by decide +kernel, by decide +kernel, ⟨zw_667, by decide +kernel⟩⟩
theorem zw_733 : Cond.instanceMethod ⟨"PrimeCertificatesModel", "copy", "(II)V"⟩ ∈ dzGW := dzGW_in (i := 733) (by decide +kernel) (by rfl)
set_option maxRecDepth 100000 in
theorem zm_101 : dzMw 101 1 := ⟨dzGW_in (i := 734) (by rfl) (by rfl), zw_9, by decide +kernel, by decide +kernel, ⟨zw_733, dzGW_sel (q := (⟨"PrimeCertificatesModel", "copy", "(II)V"⟩, 12)) (by decide +kernel)⟩⟩
theorem zw_757 : Cond.instanceMethod ⟨"PrimeCertificatesModel", "order", "(II)I"⟩ ∈ dzGW := dzGW_in (i := 757) (by decide +kernel) (by rfl)
set_option maxRecDepth 100000 in
theorem zm_102 : dzMw 102 1 := ⟨dzGW_in (i := 758) (by rfl) (by rfl), zw_9, by decide +kernel, by decide +kernel, ⟨zw_757, dzGW_sel (q := (⟨"PrimeCertificatesModel", "order", "(II)I"⟩, 12)) (by decide +kernel)⟩⟩
theorem zw_749 : Cond.instanceMethod ⟨"PrimeCertificatesModel", "lengthOf", "(I)I"⟩ ∈ dzGW := dzGW_in (i := 749) (by decide +kernel) (by rfl)
set_option maxRecDepth 100000 in
theorem zm_103 : dzMw 103 1 := ⟨dzGW_in (i := 750) (by rfl) (by rfl), zw_9, by decide +kernel, by decide +kernel, ⟨zw_749, dzGW_sel (q := (⟨"PrimeCertificatesModel", "lengthOf", "(I)I"⟩, 12)) (by decide +kernel)⟩⟩
theorem zw_777 : Cond.instanceMethod ⟨"PrimeCertificatesModel", "isZero", "(I)Z"⟩ ∈ dzGW := dzGW_in (i := 777) (by decide +kernel) (by rfl)
set_option maxRecDepth 100000 in
theorem zm_104 : dzMw 104 1 := ⟨dzGW_in (i := 778) (by rfl) (by rfl), zw_9, by decide +kernel, by decide +kernel, ⟨zw_777, dzGW_sel (q := (⟨"PrimeCertificatesModel", "isZero", "(I)Z"⟩, 12)) (by decide +kernel)⟩⟩
theorem zw_737 : Cond.instanceMethod ⟨"PrimeCertificatesModel", "raise", "(II)V"⟩ ∈ dzGW := dzGW_in (i := 737) (by decide +kernel) (by rfl)
set_option maxRecDepth 100000 in
theorem zm_105 : dzMw 105 1 := ⟨dzGW_in (i := 738) (by rfl) (by rfl), zw_9, by decide +kernel, by decide +kernel, ⟨zw_737, dzGW_sel (q := (⟨"PrimeCertificatesModel", "raise", "(II)V"⟩, 12)) (by decide +kernel)⟩⟩
theorem zw_761 : Cond.instanceMethod ⟨"PrimeCertificatesModel", "lower", "(II)V"⟩ ∈ dzGW := dzGW_in (i := 761) (by decide +kernel) (by rfl)
set_option maxRecDepth 100000 in
theorem zm_106 : dzMw 106 1 := ⟨dzGW_in (i := 762) (by rfl) (by rfl), zw_9, by decide +kernel, by decide +kernel, ⟨zw_761, dzGW_sel (q := (⟨"PrimeCertificatesModel", "lower", "(II)V"⟩, 12)) (by decide +kernel)⟩⟩
theorem zw_769 : Cond.instanceMethod ⟨"PrimeCertificatesModel", "times", "(III)V"⟩ ∈ dzGW := dzGW_in (i := 769) (by decide +kernel) (by rfl)
set_option maxRecDepth 100000 in
theorem zm_107 : dzMw 107 1 := ⟨dzGW_in (i := 770) (by rfl) (by rfl), zw_9, by decide +kernel, by decide +kernel, ⟨zw_769, dzGW_sel (q := (⟨"PrimeCertificatesModel", "times", "(III)V"⟩, 12)) (by decide +kernel)⟩⟩
theorem zw_785 : Cond.instanceMethod ⟨"PrimeCertificatesModel", "guess", "(IIII)I"⟩ ∈ dzGW := dzGW_in (i := 785) (by decide +kernel) (by rfl)
set_option maxRecDepth 100000 in
theorem zm_108 : dzMw 108 1 := ⟨dzGW_in (i := 786) (by rfl) (by rfl), zw_9, by decide +kernel, by decide +kernel, ⟨zw_785, dzGW_sel (q := (⟨"PrimeCertificatesModel", "guess", "(IIII)I"⟩, 12)) (by decide +kernel)⟩⟩
theorem zw_789 : Cond.instanceMethod ⟨"PrimeCertificatesModel", "away", "(IIIII)V"⟩ ∈ dzGW := dzGW_in (i := 789) (by decide +kernel) (by rfl)
set_option maxRecDepth 100000 in
theorem zm_109 : dzMw 109 1 := ⟨dzGW_in (i := 790) (by rfl) (by rfl), zw_9, by decide +kernel, by decide +kernel, ⟨zw_789, dzGW_sel (q := (⟨"PrimeCertificatesModel", "away", "(IIIII)V"⟩, 12)) (by decide +kernel)⟩⟩
theorem zw_793 : Cond.instanceMethod ⟨"PrimeCertificatesModel", "isOver", "(IIII)Z"⟩ ∈ dzGW := dzGW_in (i := 793) (by decide +kernel) (by rfl)
set_option maxRecDepth 100000 in
theorem zm_110 : dzMw 110 1 := ⟨dzGW_in (i := 794) (by rfl) (by rfl), zw_9, by decide +kernel, by decide +kernel, ⟨zw_793, dzGW_sel (q := (⟨"PrimeCertificatesModel", "isOver", "(IIII)Z"⟩, 12)) (by decide +kernel)⟩⟩
theorem zw_781 : Cond.instanceMethod ⟨"PrimeCertificatesModel", "part", "(IIII)V"⟩ ∈ dzGW := dzGW_in (i := 781) (by decide +kernel) (by rfl)
set_option maxRecDepth 100000 in
theorem zm_111 : dzMw 111 1 := ⟨dzGW_in (i := 782) (by rfl) (by rfl), zw_9, by decide +kernel, by decide +kernel, ⟨zw_781, dzGW_sel (q := (⟨"PrimeCertificatesModel", "part", "(IIII)V"⟩, 12)) (by decide +kernel)⟩⟩
theorem zw_805 : Cond.instanceMethod ⟨"PrimeCertificatesModel", "bit", "(II)I"⟩ ∈ dzGW := dzGW_in (i := 805) (by decide +kernel) (by rfl)
set_option maxRecDepth 100000 in
theorem zm_112 : dzMw 112 1 := ⟨dzGW_in (i := 806) (by rfl) (by rfl), zw_9, by decide +kernel, by decide +kernel, ⟨zw_805, dzGW_sel (q := (⟨"PrimeCertificatesModel", "bit", "(II)I"⟩, 12)) (by decide +kernel)⟩⟩
theorem zw_801 : Cond.instanceMethod ⟨"PrimeCertificatesModel", "raiseTo", "(IIII)V"⟩ ∈ dzGW := dzGW_in (i := 801) (by decide +kernel) (by rfl)
set_option maxRecDepth 100000 in
theorem zm_113 : dzMw 113 1 := ⟨dzGW_in (i := 802) (by rfl) (by rfl), zw_9, by decide +kernel, by decide +kernel, ⟨zw_801, dzGW_sel (q := (⟨"PrimeCertificatesModel", "raiseTo", "(IIII)V"⟩, 12)) (by decide +kernel)⟩⟩
theorem zw_813 : Cond.instanceMethod ⟨"PrimeCertificatesModel", "divisor", "(III)V"⟩ ∈ dzGW := dzGW_in (i := 813) (by decide +kernel) (by rfl)
set_option maxRecDepth 100000 in
theorem zm_114 : dzMw 114 1 := ⟨dzGW_in (i := 814) (by rfl) (by rfl), zw_9, by decide +kernel, by decide +kernel, ⟨zw_813, dzGW_sel (q := (⟨"PrimeCertificatesModel", "divisor", "(III)V"⟩, 12)) (by decide +kernel)⟩⟩
theorem zw_745 : Cond.instanceMethod ⟨"PrimeCertificatesModel", "fits", "(I)Z"⟩ ∈ dzGW := dzGW_in (i := 745) (by decide +kernel) (by rfl)
set_option maxRecDepth 100000 in
theorem zm_115 : dzMw 115 1 := ⟨dzGW_in (i := 746) (by rfl) (by rfl), zw_9, by decide +kernel, by decide +kernel, ⟨zw_745, dzGW_sel (q := (⟨"PrimeCertificatesModel", "fits", "(I)Z"⟩, 12)) (by decide +kernel)⟩⟩
theorem zw_889 : Cond.instanceMethod ⟨"PrimeCertificatesModel", "isOne", "(I)Z"⟩ ∈ dzGW := dzGW_in (i := 889) (by decide +kernel) (by rfl)
set_option maxRecDepth 100000 in
theorem zm_116 : dzMw 116 1 := ⟨dzGW_in (i := 890) (by rfl) (by rfl), zw_9, by decide +kernel, by decide +kernel, ⟨zw_889, dzGW_sel (q := (⟨"PrimeCertificatesModel", "isOne", "(I)Z"⟩, 12)) (by decide +kernel)⟩⟩
theorem zw_717 : Cond.static ⟨"PrimeCertificatesModel", "isRegister", "(I)Z"⟩ ∈ dzGW := dzGW_in (i := 717) (by decide +kernel) (by rfl)
set_option maxRecDepth 100000 in
theorem zm_117 : dzMw 117 0 := ⟨dzGW_in (i := 718) (by rfl) (by rfl), zw_9, by decide +kernel, by decide +kernel, zw_717⟩
theorem zw_713 : Cond.instanceMethod ⟨"PrimeCertificatesModel", "put", "(III)Z"⟩ ∈ dzGW := dzGW_in (i := 713) (by decide +kernel) (by rfl)
theorem zw_714 : Cond.selects "PrimeCertificatesModel" ⟨"PrimeCertificatesModel", "put", "(III)Z"⟩ ⟨"PrimeCertificatesModel", "put", "(III)Z"⟩ ∈ dzGW := dzGW_in (i := 714) (by decide +kernel) (by rfl)
set_option maxRecDepth 100000 in
theorem zm_118 : dzMw 118 1 := ⟨dzGW_in (i := 715) (by rfl) (by rfl), zw_9, by decide +kernel, by decide +kernel, ⟨zw_713, zw_714⟩⟩
theorem zw_721 : Cond.instanceMethod ⟨"PrimeCertificatesModel", "get", "(II)I"⟩ ∈ dzGW := dzGW_in (i := 721) (by decide +kernel) (by rfl)
theorem zw_722 : Cond.selects "PrimeCertificatesModel" ⟨"PrimeCertificatesModel", "get", "(II)I"⟩ ⟨"PrimeCertificatesModel", "get", "(II)I"⟩ ∈ dzGW := dzGW_in (i := 722) (by decide +kernel) (by rfl)
set_option maxRecDepth 100000 in
theorem zm_119 : dzMw 119 1 := ⟨dzGW_in (i := 723) (by rfl) (by rfl), zw_9, by decide +kernel, by decide +kernel, ⟨zw_721, zw_722⟩⟩
theorem zw_729 : Cond.static ⟨"PrimeCertificatesModel", "are", "(III)Z"⟩ ∈ dzGW := dzGW_in (i := 729) (by decide +kernel) (by rfl)
set_option maxRecDepth 100000 in
theorem zm_120 : dzMw 120 0 := ⟨dzGW_in (i := 730) (by rfl) (by rfl), zw_9, by decide +kernel, by decide +kernel, zw_729⟩
theorem zw_741 : Cond.instanceMethod ⟨"PrimeCertificatesModel", "give", "(II)I"⟩ ∈ dzGW := dzGW_in (i := 741) (by decide +kernel) (by rfl)
set_option maxRecDepth 100000 in
theorem zm_121 : dzMw 121 1 := ⟨dzGW_in (i := 742) (by rfl) (by rfl), zw_9, by decide +kernel, by decide +kernel, ⟨zw_741, dzGW_sel (q := (⟨"PrimeCertificatesModel", "give", "(II)I"⟩, 12)) (by decide +kernel)⟩⟩
theorem zw_725 : Cond.instanceMethod ⟨"PrimeCertificatesModel", "add", "(III)I"⟩ ∈ dzGW := dzGW_in (i := 725) (by decide +kernel) (by rfl)
theorem zw_726 : Cond.selects "PrimeCertificatesModel" ⟨"PrimeCertificatesModel", "add", "(III)I"⟩ ⟨"PrimeCertificatesModel", "add", "(III)I"⟩ ∈ dzGW := dzGW_in (i := 726) (by decide +kernel) (by rfl)
set_option maxRecDepth 100000 in
theorem zm_122 : dzMw 122 1 := ⟨dzGW_in (i := 727) (by rfl) (by rfl), zw_9, by decide +kernel, by decide +kernel, ⟨zw_725, zw_726⟩⟩
theorem zw_752 : Cond.instanceMethod ⟨"PrimeCertificatesModel", "subtract", "(III)I"⟩ ∈ dzGW := dzGW_in (i := 752) (by decide +kernel) (by rfl)
theorem zw_753 : Cond.selects "PrimeCertificatesModel" ⟨"PrimeCertificatesModel", "subtract", "(III)I"⟩ ⟨"PrimeCertificatesModel", "subtract", "(III)I"⟩ ∈ dzGW := dzGW_in (i := 753) (by decide +kernel) (by rfl)
set_option maxRecDepth 100000 in
theorem zm_123 : dzMw 123 1 := ⟨dzGW_in (i := 754) (by rfl) (by rfl), zw_9, by decide +kernel, by decide +kernel, ⟨zw_752, zw_753⟩⟩
theorem zw_764 : Cond.instanceMethod ⟨"PrimeCertificatesModel", "multiply", "(III)I"⟩ ∈ dzGW := dzGW_in (i := 764) (by decide +kernel) (by rfl)
theorem zw_765 : Cond.selects "PrimeCertificatesModel" ⟨"PrimeCertificatesModel", "multiply", "(III)I"⟩ ⟨"PrimeCertificatesModel", "multiply", "(III)I"⟩ ∈ dzGW := dzGW_in (i := 765) (by decide +kernel) (by rfl)
set_option maxRecDepth 100000 in
theorem zm_124 : dzMw 124 1 := ⟨dzGW_in (i := 766) (by rfl) (by rfl), zw_9, by decide +kernel, by decide +kernel, ⟨zw_764, zw_765⟩⟩
theorem zw_772 : Cond.instanceMethod ⟨"PrimeCertificatesModel", "divide", "(IIII)I"⟩ ∈ dzGW := dzGW_in (i := 772) (by decide +kernel) (by rfl)
theorem zw_773 : Cond.selects "PrimeCertificatesModel" ⟨"PrimeCertificatesModel", "divide", "(IIII)I"⟩ ⟨"PrimeCertificatesModel", "divide", "(IIII)I"⟩ ∈ dzGW := dzGW_in (i := 773) (by decide +kernel) (by rfl)
set_option maxRecDepth 100000 in
theorem zm_125 : dzMw 125 1 := ⟨dzGW_in (i := 774) (by rfl) (by rfl), zw_9, by decide +kernel, by decide +kernel, ⟨zw_772, zw_773⟩⟩
theorem zw_796 : Cond.instanceMethod ⟨"PrimeCertificatesModel", "power", "(IIII)I"⟩ ∈ dzGW := dzGW_in (i := 796) (by decide +kernel) (by rfl)
theorem zw_797 : Cond.selects "PrimeCertificatesModel" ⟨"PrimeCertificatesModel", "power", "(IIII)I"⟩ ⟨"PrimeCertificatesModel", "power", "(IIII)I"⟩ ∈ dzGW := dzGW_in (i := 797) (by decide +kernel) (by rfl)
set_option maxRecDepth 100000 in
theorem zm_126 : dzMw 126 1 := ⟨dzGW_in (i := 798) (by rfl) (by rfl), zw_9, by decide +kernel, by decide +kernel, ⟨zw_796, zw_797⟩⟩
theorem zw_808 : Cond.instanceMethod ⟨"PrimeCertificatesModel", "common", "(III)I"⟩ ∈ dzGW := dzGW_in (i := 808) (by decide +kernel) (by rfl)
theorem zw_809 : Cond.selects "PrimeCertificatesModel" ⟨"PrimeCertificatesModel", "common", "(III)I"⟩ ⟨"PrimeCertificatesModel", "common", "(III)I"⟩ ∈ dzGW := dzGW_in (i := 809) (by decide +kernel) (by rfl)
set_option maxRecDepth 100000 in
theorem zm_127 : dzMw 127 1 := ⟨dzGW_in (i := 810) (by rfl) (by rfl), zw_9, by decide +kernel, by decide +kernel, ⟨zw_808, zw_809⟩⟩
theorem zw_816 : Cond.instanceMethod ⟨"PrimeCertificatesModel", "compare", "(II)I"⟩ ∈ dzGW := dzGW_in (i := 816) (by decide +kernel) (by rfl)
theorem zw_817 : Cond.selects "PrimeCertificatesModel" ⟨"PrimeCertificatesModel", "compare", "(II)I"⟩ ⟨"PrimeCertificatesModel", "compare", "(II)I"⟩ ∈ dzGW := dzGW_in (i := 817) (by decide +kernel) (by rfl)
set_option maxRecDepth 100000 in
theorem zm_128 : dzMw 128 1 := ⟨dzGW_in (i := 818) (by rfl) (by rfl), zw_9, by decide +kernel, by decide +kernel, ⟨zw_816, zw_817⟩⟩
theorem zw_820 : Cond.instanceMethod ⟨"PrimeCertificatesModel", "say", "(I)I"⟩ ∈ dzGW := dzGW_in (i := 820) (by decide +kernel) (by rfl)
theorem zw_821 : Cond.selects "PrimeCertificatesModel" ⟨"PrimeCertificatesModel", "say", "(I)I"⟩ ⟨"PrimeCertificatesModel", "say", "(I)I"⟩ ∈ dzGW := dzGW_in (i := 821) (by decide +kernel) (by rfl)
set_option maxRecDepth 100000 in
theorem zm_129 : dzMw 129 1 := ⟨dzGW_in (i := 822) (by rfl) (by rfl), zw_9, by decide +kernel, by decide +kernel, ⟨zw_820, zw_821⟩⟩
theorem zw_824 : Cond.instanceMethod ⟨"PrimeCertificatesModel", "cut", "(I)Z"⟩ ∈ dzGW := dzGW_in (i := 824) (by decide +kernel) (by rfl)
theorem zw_825 : Cond.selects "PrimeCertificatesModel" ⟨"PrimeCertificatesModel", "cut", "(I)Z"⟩ ⟨"PrimeCertificatesModel", "cut", "(I)Z"⟩ ∈ dzGW := dzGW_in (i := 825) (by decide +kernel) (by rfl)
set_option maxRecDepth 100000 in
theorem zm_130 : dzMw 130 1 := ⟨dzGW_in (i := 826) (by rfl) (by rfl), zw_9, by decide +kernel, by decide +kernel, ⟨zw_824, zw_825⟩⟩
theorem zw_828 : Cond.instanceMethod ⟨"PrimeCertificatesModel", "length", "()I"⟩ ∈ dzGW := dzGW_in (i := 828) (by decide +kernel) (by rfl)
theorem zw_829 : Cond.selects "PrimeCertificatesModel" ⟨"PrimeCertificatesModel", "length", "()I"⟩ ⟨"PrimeCertificatesModel", "length", "()I"⟩ ∈ dzGW := dzGW_in (i := 829) (by decide +kernel) (by rfl)
set_option maxRecDepth 100000 in
theorem zm_131 : dzMw 131 1 := ⟨dzGW_in (i := 830) (by rfl) (by rfl), zw_9, by decide +kernel, by decide +kernel, ⟨zw_828, zw_829⟩⟩
theorem zw_832 : Cond.instanceMethod ⟨"PrimeCertificatesModel", "at", "(I)I"⟩ ∈ dzGW := dzGW_in (i := 832) (by decide +kernel) (by rfl)
theorem zw_833 : Cond.selects "PrimeCertificatesModel" ⟨"PrimeCertificatesModel", "at", "(I)I"⟩ ⟨"PrimeCertificatesModel", "at", "(I)I"⟩ ∈ dzGW := dzGW_in (i := 833) (by decide +kernel) (by rfl)
set_option maxRecDepth 100000 in
theorem zm_132 : dzMw 132 1 := ⟨dzGW_in (i := 834) (by rfl) (by rfl), zw_9, by decide +kernel, by decide +kernel, ⟨zw_832, zw_833⟩⟩
theorem zw_845 : Cond.instanceMethod ⟨"PrimeCertificatesModel", "fail", "(II)V"⟩ ∈ dzGW := dzGW_in (i := 845) (by decide +kernel) (by rfl)
set_option maxRecDepth 100000 in
theorem zm_133 : dzMw 133 1 := ⟨dzGW_in (i := 846) (by rfl) (by rfl), zw_9, by decide +kernel, by decide +kernel, ⟨zw_845, dzGW_sel (q := (⟨"PrimeCertificatesModel", "fail", "(II)V"⟩, 12)) (by decide +kernel)⟩⟩
theorem zw_841 : Cond.instanceMethod ⟨"PrimeCertificatesModel", "isGood", "()Z"⟩ ∈ dzGW := dzGW_in (i := 841) (by decide +kernel) (by rfl)
set_option maxRecDepth 100000 in
theorem zm_134 : dzMw 134 1 := ⟨dzGW_in (i := 842) (by rfl) (by rfl), zw_9, by decide +kernel, by decide +kernel, ⟨zw_841, dzGW_sel (q := (⟨"PrimeCertificatesModel", "isGood", "()Z"⟩, 12)) (by decide +kernel)⟩⟩
theorem zw_853 : Cond.instanceMethod ⟨"PrimeCertificatesModel", "next", "()I"⟩ ∈ dzGW := dzGW_in (i := 853) (by decide +kernel) (by rfl)
set_option maxRecDepth 100000 in
theorem zm_135 : dzMw 135 1 := ⟨dzGW_in (i := 854) (by rfl) (by rfl), zw_9, by decide +kernel, by decide +kernel, ⟨zw_853, dzGW_sel (q := (⟨"PrimeCertificatesModel", "next", "()I"⟩, 12)) (by decide +kernel)⟩⟩
theorem zw_849 : Cond.instanceMethod ⟨"PrimeCertificatesModel", "nextIn", "(II)I"⟩ ∈ dzGW := dzGW_in (i := 849) (by decide +kernel) (by rfl)
set_option maxRecDepth 100000 in
theorem zm_136 : dzMw 136 1 := ⟨dzGW_in (i := 850) (by rfl) (by rfl), zw_9, by decide +kernel, by decide +kernel, ⟨zw_849, dzGW_sel (q := (⟨"PrimeCertificatesModel", "nextIn", "(II)I"⟩, 12)) (by decide +kernel)⟩⟩
theorem zw_860 : Cond.static ⟨"PrimeCertificatesModel", "isSmallPrime", "(I)Z"⟩ ∈ dzGW := dzGW_in (i := 860) (by decide +kernel) (by rfl)
set_option maxRecDepth 100000 in
theorem zm_137 : dzMw 137 0 := ⟨dzGW_in (i := 861) (by rfl) (by rfl), zw_9, by decide +kernel, by decide +kernel, zw_860⟩
theorem zw_857 : Cond.instanceMethod ⟨"PrimeCertificatesModel", "lineOne", "()V"⟩ ∈ dzGW := dzGW_in (i := 857) (by decide +kernel) (by rfl)
set_option maxRecDepth 100000 in
theorem zm_138 : dzMw 138 1 := ⟨dzGW_in (i := 858) (by rfl) (by rfl), zw_9, by decide +kernel, by decide +kernel, ⟨zw_857, dzGW_sel (q := (⟨"PrimeCertificatesModel", "lineOne", "()V"⟩, 12)) (by decide +kernel)⟩⟩
theorem zw_868 : Cond.instanceMethod ⟨"PrimeCertificatesModel", "number", "()V"⟩ ∈ dzGW := dzGW_in (i := 868) (by decide +kernel) (by rfl)
set_option maxRecDepth 100000 in
theorem zm_139 : dzMw 139 1 := ⟨dzGW_in (i := 869) (by rfl) (by rfl), zw_9, by decide +kernel, by decide +kernel, ⟨zw_868, dzGW_sel (q := (⟨"PrimeCertificatesModel", "number", "()V"⟩, 12)) (by decide +kernel)⟩⟩
theorem zw_873 : Cond.instanceMethod ⟨"PrimeCertificatesModel", "witness", "(I)V"⟩ ∈ dzGW := dzGW_in (i := 873) (by decide +kernel) (by rfl)
set_option maxRecDepth 100000 in
theorem zm_140 : dzMw 140 1 := ⟨dzGW_in (i := 874) (by rfl) (by rfl), zw_9, by decide +kernel, by decide +kernel, ⟨zw_873, dzGW_sel (q := (⟨"PrimeCertificatesModel", "witness", "(I)V"⟩, 12)) (by decide +kernel)⟩⟩
theorem zw_877 : Cond.instanceMethod ⟨"PrimeCertificatesModel", "factors", "(I)V"⟩ ∈ dzGW := dzGW_in (i := 877) (by decide +kernel) (by rfl)
set_option maxRecDepth 100000 in
theorem zm_141 : dzMw 141 1 := ⟨dzGW_in (i := 878) (by rfl) (by rfl), zw_9, by decide +kernel, by decide +kernel, ⟨zw_877, dzGW_sel (q := (⟨"PrimeCertificatesModel", "factors", "(I)V"⟩, 12)) (by decide +kernel)⟩⟩
theorem zw_881 : Cond.instanceMethod ⟨"PrimeCertificatesModel", "product", "(II)Z"⟩ ∈ dzGW := dzGW_in (i := 881) (by decide +kernel) (by rfl)
set_option maxRecDepth 100000 in
theorem zm_142 : dzMw 142 1 := ⟨dzGW_in (i := 882) (by rfl) (by rfl), zw_9, by decide +kernel, by decide +kernel, ⟨zw_881, dzGW_sel (q := (⟨"PrimeCertificatesModel", "product", "(II)Z"⟩, 12)) (by decide +kernel)⟩⟩
theorem zw_885 : Cond.instanceMethod ⟨"PrimeCertificatesModel", "isWhole", "()Z"⟩ ∈ dzGW := dzGW_in (i := 885) (by decide +kernel) (by rfl)
set_option maxRecDepth 100000 in
theorem zm_143 : dzMw 143 1 := ⟨dzGW_in (i := 886) (by rfl) (by rfl), zw_9, by decide +kernel, by decide +kernel, ⟨zw_885, dzGW_sel (q := (⟨"PrimeCertificatesModel", "isWhole", "()Z"⟩, 12)) (by decide +kernel)⟩⟩
theorem zw_893 : Cond.instanceMethod ⟨"PrimeCertificatesModel", "isRight", "(IZ)Z"⟩ ∈ dzGW := dzGW_in (i := 893) (by decide +kernel) (by rfl)
set_option maxRecDepth 100000 in
theorem zm_144 : dzMw 144 1 := ⟨dzGW_in (i := 894) (by rfl) (by rfl), zw_9, by decide +kernel, by decide +kernel, ⟨zw_893, dzGW_sel (q := (⟨"PrimeCertificatesModel", "isRight", "(IZ)Z"⟩, 12)) (by decide +kernel)⟩⟩
theorem zw_864 : Cond.instanceMethod ⟨"PrimeCertificatesModel", "lineTwo", "()V"⟩ ∈ dzGW := dzGW_in (i := 864) (by decide +kernel) (by rfl)
set_option maxRecDepth 100000 in
theorem zm_145 : dzMw 145 1 := ⟨dzGW_in (i := 865) (by rfl) (by rfl), zw_9, by decide +kernel, by decide +kernel, ⟨zw_864, dzGW_sel (q := (⟨"PrimeCertificatesModel", "lineTwo", "()V"⟩, 12)) (by decide +kernel)⟩⟩
theorem zw_897 : Cond.instanceMethod ⟨"PrimeCertificatesModel", "lineThree", "()V"⟩ ∈ dzGW := dzGW_in (i := 897) (by decide +kernel) (by rfl)
set_option maxRecDepth 100000 in
theorem zm_146 : dzMw 146 1 := ⟨dzGW_in (i := 898) (by rfl) (by rfl), zw_9, by decide +kernel, by decide +kernel, ⟨zw_897, dzGW_sel (q := (⟨"PrimeCertificatesModel", "lineThree", "()V"⟩, 12)) (by decide +kernel)⟩⟩
theorem zw_836 : Cond.instanceMethod ⟨"PrimeCertificatesModel", "check", "()I"⟩ ∈ dzGW := dzGW_in (i := 836) (by decide +kernel) (by rfl)
theorem zw_837 : Cond.selects "PrimeCertificatesModel" ⟨"PrimeCertificatesModel", "check", "()I"⟩ ⟨"PrimeCertificatesModel", "check", "()I"⟩ ∈ dzGW := dzGW_in (i := 837) (by decide +kernel) (by rfl)
set_option maxRecDepth 100000 in
theorem zm_147 : dzMw 147 1 := ⟨dzGW_in (i := 838) (by rfl) (by rfl), zw_9, by decide +kernel, by decide +kernel, ⟨zw_836, zw_837⟩⟩
theorem zw_900 : Cond.instanceMethod ⟨"PrimeCertificatesModel", "place", "()I"⟩ ∈ dzGW := dzGW_in (i := 900) (by decide +kernel) (by rfl)
theorem zw_901 : Cond.selects "PrimeCertificatesModel" ⟨"PrimeCertificatesModel", "place", "()I"⟩ ⟨"PrimeCertificatesModel", "place", "()I"⟩ ∈ dzGW := dzGW_in (i := 901) (by decide +kernel) (by rfl)
set_option maxRecDepth 100000 in
theorem zm_148 : dzMw 148 1 := ⟨dzGW_in (i := 902) (by rfl) (by rfl), zw_9, by decide +kernel, by decide +kernel, ⟨zw_900, zw_901⟩⟩
theorem zw_904 : Cond.instanceMethod ⟨"PrimeCertificatesModel", "tell", "(II)Z"⟩ ∈ dzGW := dzGW_in (i := 904) (by decide +kernel) (by rfl)
theorem zw_905 : Cond.selects "PrimeCertificatesModel" ⟨"PrimeCertificatesModel", "tell", "(II)Z"⟩ ⟨"PrimeCertificatesModel", "tell", "(II)Z"⟩ ∈ dzGW := dzGW_in (i := 905) (by decide +kernel) (by rfl)
set_option maxRecDepth 100000 in
theorem zm_149 : dzMw 149 1 := ⟨dzGW_in (i := 906) (by rfl) (by rfl), zw_9, by decide +kernel, by decide +kernel, ⟨zw_904, zw_905⟩⟩
theorem zw_914 : Cond.instanceMethod ⟨"PrimeCertificatesModel", "lineOf", "(I)I"⟩ ∈ dzGW := dzGW_in (i := 914) (by decide +kernel) (by rfl)
set_option maxRecDepth 100000 in
theorem zm_150 : dzMw 150 1 := ⟨dzGW_in (i := 915) (by rfl) (by rfl), zw_9, by decide +kernel, by decide +kernel, ⟨zw_914, dzGW_sel (q := (⟨"PrimeCertificatesModel", "lineOf", "(I)I"⟩, 12)) (by decide +kernel)⟩⟩
theorem zw_922 : Cond.instanceMethod ⟨"PrimeCertificatesModel", "sayOne", "(I)Z"⟩ ∈ dzGW := dzGW_in (i := 922) (by decide +kernel) (by rfl)
set_option maxRecDepth 100000 in
theorem zm_151 : dzMw 151 1 := ⟨dzGW_in (i := 923) (by rfl) (by rfl), zw_9, by decide +kernel, by decide +kernel, ⟨zw_922, dzGW_sel (q := (⟨"PrimeCertificatesModel", "sayOne", "(I)Z"⟩, 12)) (by decide +kernel)⟩⟩
theorem zw_931 : Cond.instanceMethod ⟨"PrimeCertificatesModel", "often", "(I)I"⟩ ∈ dzGW := dzGW_in (i := 931) (by decide +kernel) (by rfl)
set_option maxRecDepth 100000 in
theorem zm_152 : dzMw 152 1 := ⟨dzGW_in (i := 932) (by rfl) (by rfl), zw_9, by decide +kernel, by decide +kernel, ⟨zw_931, dzGW_sel (q := (⟨"PrimeCertificatesModel", "often", "(I)I"⟩, 12)) (by decide +kernel)⟩⟩
theorem zw_936 : Cond.instanceMethod ⟨"PrimeCertificatesModel", "sort", "(I)V"⟩ ∈ dzGW := dzGW_in (i := 936) (by decide +kernel) (by rfl)
set_option maxRecDepth 100000 in
theorem zm_153 : dzMw 153 1 := ⟨dzGW_in (i := 937) (by rfl) (by rfl), zw_9, by decide +kernel, by decide +kernel, ⟨zw_936, dzGW_sel (q := (⟨"PrimeCertificatesModel", "sort", "(I)V"⟩, 12)) (by decide +kernel)⟩⟩
theorem zw_927 : Cond.instanceMethod ⟨"PrimeCertificatesModel", "find", "()Z"⟩ ∈ dzGW := dzGW_in (i := 927) (by decide +kernel) (by rfl)
set_option maxRecDepth 100000 in
theorem zm_154 : dzMw 154 1 := ⟨dzGW_in (i := 928) (by rfl) (by rfl), zw_9, by decide +kernel, by decide +kernel, ⟨zw_927, dzGW_sel (q := (⟨"PrimeCertificatesModel", "find", "()Z"⟩, 12)) (by decide +kernel)⟩⟩
theorem zw_940 : Cond.instanceMethod ⟨"PrimeCertificatesModel", "wholeWitness", "()I"⟩ ∈ dzGW := dzGW_in (i := 940) (by decide +kernel) (by rfl)
set_option maxRecDepth 100000 in
theorem zm_155 : dzMw 155 1 := ⟨dzGW_in (i := 941) (by rfl) (by rfl), zw_9, by decide +kernel, by decide +kernel, ⟨zw_940, dzGW_sel (q := (⟨"PrimeCertificatesModel", "wholeWitness", "()I"⟩, 12)) (by decide +kernel)⟩⟩
theorem zw_948 : Cond.instanceMethod ⟨"PrimeCertificatesModel", "partWitnesses", "()Z"⟩ ∈ dzGW := dzGW_in (i := 948) (by decide +kernel) (by rfl)
set_option maxRecDepth 100000 in
theorem zm_156 : dzMw 156 1 := ⟨dzGW_in (i := 949) (by rfl) (by rfl), zw_9, by decide +kernel, by decide +kernel, ⟨zw_948, dzGW_sel (q := (⟨"PrimeCertificatesModel", "partWitnesses", "()Z"⟩, 12)) (by decide +kernel)⟩⟩
theorem zw_944 : Cond.instanceMethod ⟨"PrimeCertificatesModel", "sayLine", "(II)Z"⟩ ∈ dzGW := dzGW_in (i := 944) (by decide +kernel) (by rfl)
set_option maxRecDepth 100000 in
theorem zm_157 : dzMw 157 1 := ⟨dzGW_in (i := 945) (by rfl) (by rfl), zw_9, by decide +kernel, by decide +kernel, ⟨zw_944, dzGW_sel (q := (⟨"PrimeCertificatesModel", "sayLine", "(II)Z"⟩, 12)) (by decide +kernel)⟩⟩
theorem zw_918 : Cond.instanceMethod ⟨"PrimeCertificatesModel", "make", "()Z"⟩ ∈ dzGW := dzGW_in (i := 918) (by decide +kernel) (by rfl)
set_option maxRecDepth 100000 in
theorem zm_158 : dzMw 158 1 := ⟨dzGW_in (i := 919) (by rfl) (by rfl), zw_9, by decide +kernel, by decide +kernel, ⟨zw_918, dzGW_sel (q := (⟨"PrimeCertificatesModel", "make", "()Z"⟩, 12)) (by decide +kernel)⟩⟩
theorem zw_908 : Cond.instanceMethod ⟨"PrimeCertificatesModel", "prove", "(I)I"⟩ ∈ dzGW := dzGW_in (i := 908) (by decide +kernel) (by rfl)
theorem zw_909 : Cond.selects "PrimeCertificatesModel" ⟨"PrimeCertificatesModel", "prove", "(I)I"⟩ ⟨"PrimeCertificatesModel", "prove", "(I)I"⟩ ∈ dzGW := dzGW_in (i := 909) (by decide +kernel) (by rfl)
set_option maxRecDepth 100000 in
theorem zm_159 : dzMw 159 1 := ⟨dzGW_in (i := 910) (by rfl) (by rfl), zw_9, by decide +kernel, by decide +kernel, ⟨zw_908, zw_909⟩⟩
def zt_kd : List Nat := [2, 2, 2, 2, 2, 2, 2, 2, 0, 0, 1, 1, 0, 0, 0, 1, 1, 0, 1, 0, 0, 1, 1, 1, 0, 0, 1, 1, 1, 0, 1, 1, 1, 1, 1, 1, 1, 0, 1, 1, 1, 1, 0, 1, 1, 1, 1, 1, 1, 1, 1, 1, 1, 1, 0, 1, 1, 0, 1, 0, 1, 1, 1, 1, 1, 1, 1, 1, 1, 1, 1, 0, 1, 1, 1, 1, 1, 1, 1, 1, 1, 1, 1, 1, 1, 1, 1, 1, 1, 1, 1, 1, 1, 1, 1, 1, 1, 1, 1, 1, 2, 1, 1, 1, 1, 1, 1, 1, 1, 1, 1, 1, 1, 1, 1, 1, 1, 0, 1, 1, 0, 1, 1, 1, 1, 1, 1, 1, 1, 1, 1, 1, 1, 1, 1, 1, 1, 0, 1, 1, 1, 1, 1, 1, 1, 1, 1, 1, 1, 1, 1, 1, 1, 1, 1, 1, 1, 1, 1, 1, 9]
def dzKn0 (mid : Nat) : Nat := zt_kd.getD mid 9
theorem zu_all : ∀ (ci : Nat) (C : String) (T : u_T) (N : Nat), zCl[ci]? = some (C, T, N) → Cond.instantiable C N ∈ dzGW ∧ Cond.initialized C ∈ dzGW ∧ (∀ w ∈ u_ws C T N, w ∈ dzGW) ∧ (∀ a, a < N → ∀ b, b < N → a ≠ b → (T a).2.1 ≠ (T b).2.1) ∧ (∀ k, k < N → parseFieldDescriptor (T k).2.2.1 = some (zTy ci k)) ∧ dzCn ci = C ∧ (∀ k, k < N → (T k).1 = C) ∧ (∀ j, j < N → defaultValue (zTy ci j) = vp_V (dzDef ci) j)
  | 0, _, _, _, h => by cases h; exact ⟨zu_0.1, zu_0.2.1, zu_0.2.2, zn_0, zp_0, rfl, by decide +kernel, by decide +kernel⟩
  | 1, _, _, _, h => by cases h; exact ⟨zu_1.1, zu_1.2.1, zu_1.2.2, zn_1, zp_1, rfl, by decide +kernel, by decide +kernel⟩
  | 2, _, _, _, h => by cases h; exact ⟨zu_2.1, zu_2.2.1, zu_2.2.2, zn_2, zp_2, rfl, by decide +kernel, by decide +kernel⟩
  | 3, _, _, _, h => by cases h; exact ⟨zu_3.1, zu_3.2.1, zu_3.2.2, zn_3, zp_3, rfl, by decide +kernel, by decide +kernel⟩
  | 4, _, _, _, h => by cases h; exact ⟨zu_4.1, zu_4.2.1, zu_4.2.2, zn_4, zp_4, rfl, by decide +kernel, by decide +kernel⟩
  | 5, _, _, _, h => by cases h; exact ⟨zu_5.1, zu_5.2.1, zu_5.2.2, zn_5, zp_5, rfl, by decide +kernel, by decide +kernel⟩
  | 6, _, _, _, h => by cases h; exact ⟨zu_6.1, zu_6.2.1, zu_6.2.2, zn_6, zp_6, rfl, by decide +kernel, by decide +kernel⟩
  | 7, _, _, _, h => by cases h; exact ⟨zu_7.1, zu_7.2.1, zu_7.2.2, zn_7, zp_7, rfl, by decide +kernel, by decide +kernel⟩
  | 8, _, _, _, h => by cases h; exact ⟨zu_8.1, zu_8.2.1, zu_8.2.2, zn_8, zp_8, rfl, by decide +kernel, by decide +kernel⟩
  | n + 9, _, _, _, h => by cases h
set_option maxRecDepth 100000 in
theorem zm_all : ∀ mid, mid < 161 → dzKn0 mid ≠ 9 → dzMw mid (dzKn0 mid)
  | 0, _, _ => zm_0
  | 1, _, _ => zm_1
  | 2, _, _ => zm_2
  | 3, _, _ => zm_3
  | 4, _, _ => zm_4
  | 5, _, _ => zm_5
  | 6, _, _ => zm_6
  | 7, _, _ => zm_7
  | 8, _, _ => zm_8
  | 9, _, _ => zm_9
  | 10, _, _ => zm_10
  | 11, _, _ => zm_11
  | 12, _, _ => zm_12
  | 13, _, _ => zm_13
  | 14, _, _ => zm_14
  | 15, _, _ => zm_15
  | 16, _, _ => zm_16
  | 17, _, _ => zm_17
  | 18, _, _ => zm_18
  | 19, _, _ => zm_19
  | 20, _, _ => zm_20
  | 21, _, _ => zm_21
  | 22, _, _ => zm_22
  | 23, _, _ => zm_23
  | 24, _, _ => zm_24
  | 25, _, _ => zm_25
  | 26, _, _ => zm_26
  | 27, _, _ => zm_27
  | 28, _, _ => zm_28
  | 29, _, _ => zm_29
  | 30, _, _ => zm_30
  | 31, _, _ => zm_31
  | 32, _, _ => zm_32
  | 33, _, _ => zm_33
  | 34, _, _ => zm_34
  | 35, _, _ => zm_35
  | 36, _, _ => zm_36
  | 37, _, _ => zm_37
  | 38, _, _ => zm_38
  | 39, _, _ => zm_39
  | 40, _, _ => zm_40
  | 41, _, _ => zm_41
  | 42, _, _ => zm_42
  | 43, _, _ => zm_43
  | 44, _, _ => zm_44
  | 45, _, _ => zm_45
  | 46, _, _ => zm_46
  | 47, _, _ => zm_47
  | 48, _, _ => zm_48
  | 49, _, _ => zm_49
  | 50, _, _ => zm_50
  | 51, _, _ => zm_51
  | 52, _, _ => zm_52
  | 53, _, _ => zm_53
  | 54, _, _ => zm_54
  | 55, _, _ => zm_55
  | 56, _, _ => zm_56
  | 57, _, _ => zm_57
  | 58, _, _ => zm_58
  | 59, _, _ => zm_59
  | 60, _, _ => zm_60
  | 61, _, _ => zm_61
  | 62, _, _ => zm_62
  | 63, _, _ => zm_63
  | 64, _, _ => zm_64
  | 65, _, _ => zm_65
  | 66, _, _ => zm_66
  | 67, _, _ => zm_67
  | 68, _, _ => zm_68
  | 69, _, _ => zm_69
  | 70, _, _ => zm_70
  | 71, _, _ => zm_71
  | 72, _, _ => zm_72
  | 73, _, _ => zm_73
  | 74, _, _ => zm_74
  | 75, _, _ => zm_75
  | 76, _, _ => zm_76
  | 77, _, _ => zm_77
  | 78, _, _ => zm_78
  | 79, _, _ => zm_79
  | 80, _, _ => zm_80
  | 81, _, _ => zm_81
  | 82, _, _ => zm_82
  | 83, _, _ => zm_83
  | 84, _, _ => zm_84
  | 85, _, _ => zm_85
  | 86, _, _ => zm_86
  | 87, _, _ => zm_87
  | 88, _, _ => zm_88
  | 89, _, _ => zm_89
  | 90, _, _ => zm_90
  | 91, _, _ => zm_91
  | 92, _, _ => zm_92
  | 93, _, _ => zm_93
  | 94, _, _ => zm_94
  | 95, _, _ => zm_95
  | 96, _, _ => zm_96
  | 97, _, _ => zm_97
  | 98, _, _ => zm_98
  | 99, _, _ => zm_99
  | 100, _, _ => zm_100
  | 101, _, _ => zm_101
  | 102, _, _ => zm_102
  | 103, _, _ => zm_103
  | 104, _, _ => zm_104
  | 105, _, _ => zm_105
  | 106, _, _ => zm_106
  | 107, _, _ => zm_107
  | 108, _, _ => zm_108
  | 109, _, _ => zm_109
  | 110, _, _ => zm_110
  | 111, _, _ => zm_111
  | 112, _, _ => zm_112
  | 113, _, _ => zm_113
  | 114, _, _ => zm_114
  | 115, _, _ => zm_115
  | 116, _, _ => zm_116
  | 117, _, _ => zm_117
  | 118, _, _ => zm_118
  | 119, _, _ => zm_119
  | 120, _, _ => zm_120
  | 121, _, _ => zm_121
  | 122, _, _ => zm_122
  | 123, _, _ => zm_123
  | 124, _, _ => zm_124
  | 125, _, _ => zm_125
  | 126, _, _ => zm_126
  | 127, _, _ => zm_127
  | 128, _, _ => zm_128
  | 129, _, _ => zm_129
  | 130, _, _ => zm_130
  | 131, _, _ => zm_131
  | 132, _, _ => zm_132
  | 133, _, _ => zm_133
  | 134, _, _ => zm_134
  | 135, _, _ => zm_135
  | 136, _, _ => zm_136
  | 137, _, _ => zm_137
  | 138, _, _ => zm_138
  | 139, _, _ => zm_139
  | 140, _, _ => zm_140
  | 141, _, _ => zm_141
  | 142, _, _ => zm_142
  | 143, _, _ => zm_143
  | 144, _, _ => zm_144
  | 145, _, _ => zm_145
  | 146, _, _ => zm_146
  | 147, _, _ => zm_147
  | 148, _, _ => zm_148
  | 149, _, _ => zm_149
  | 150, _, _ => zm_150
  | 151, _, _ => zm_151
  | 152, _, _ => zm_152
  | 153, _, _ => zm_153
  | 154, _, _ => zm_154
  | 155, _, _ => zm_155
  | 156, _, _ => zm_156
  | 157, _, _ => zm_157
  | 158, _, _ => zm_158
  | 159, _, _ => zm_159
  | 160, _, h => absurd rfl h
  | n + 161, h, _ => absurd h (by omega)
theorem zt_oc_ok : ∀ mid, mid < 161 → dzCn (dzOc mid) = (dzY mid).cls := by decide +kernel
theorem zt_rcv_ok : ∀ mid, mid < 161 → dzKn0 mid ≠ 0 → dzKn0 mid ≠ 9 → dzRcv mid = some (dzOc mid) := by decide +kernel
theorem zl_f_lt : ∀ q ∈ zl_f, (match zCl[q.2.2.1]? with | some (_, _, N) => decide (q.2.2.2 < N) | none => false) = true := by decide +kernel
end
section
/-! each row of the tables against the bytes: decided by the kernel, method by method -/
def dzQ2 (l : List (Nat × Nat)) (a b : Nat) : Bool := l.any (fun q => Nat.beq q.1 a && Nat.beq q.2 b)
def dzQ3 (l : List (Nat × Nat × Nat)) (a b c : Nat) : Bool := l.any (fun q => Nat.beq q.1 a && Nat.beq q.2.1 b && Nat.beq q.2.2 c)
def dzQ4 (l : List (Nat × Nat × Nat × Nat)) (a b c d : Nat) : Bool := l.any (fun q => Nat.beq q.1 a && Nat.beq q.2.1 b && Nat.beq q.2.2.1 c && Nat.beq q.2.2.2 d)
def dzQk (l : List (Nat × Nat × Value)) (a b : Nat) (v : Value) : Bool := l.any (fun q => Nat.beq q.1 a && Nat.beq q.2.1 b && decide (q.2.2 = v))
/-- a field's kind by its type -/
def dzTk0 (t : FieldType) : Nat := match t with
  | .int => 1
  | .long => 2
  | .object _ => 3
  | .array _ => 3
  | _ => 0
def dzSwOk (pc : Nat) : Int → List Int → List (Int32 × Nat) → Bool
  | _, [], [] => true
  | lo, o :: os, (c, t) :: r => decide (c.toInt = lo) && decide ((pc : Int) + o = (t : Int)) && dzSwOk pc (lo + 1) os r
  | _, _, _ => false
/-- number of parameters by the descriptor -/
def dzPn (mid : Nat) : Option Nat := (parseMethodDescriptor (dzY mid).desc).map (fun d => d.parameters.length)
def dzRk (mid : Nat) : Nat := match dzRt mid with
  | none => 0
  | some .int => 1
  | some .boolean => 1
  | some .long => 2
  | some (.object _) => 3
  | some (.array _) => 3
  | _ => 9
/-- does the row (i, v, sw, pl) say what the instruction ins at pc of the method mid does? -/
def dzMt (mid pc : Nat) (ins i : dzIns) (v : Value) (sw : List (Int32 × Nat)) (pl : List Nat) : Bool := match ins with
  | .iconst n => decide (i = .nop) && decide (v = .int (Int32.ofInt n))
  | .bipush n => decide (i = .nop) && decide (v = .int (Int8.ofInt n).toInt32)
  | .sipush n => decide (i = .nop) && decide (v = .int (Int16.ofInt n).toInt32)
  | .lconst n => decide (i = .nop) && decide (v = .long (Int64.ofNat n.val))
  | .ldc k => decide (i = .nop) && decide (dzKd v = 1) && dzQk zl_k (dzOc mid) k v
  | .ldc2_w k => decide (i = .nop) && decide (dzKd v = 2) && dzQk zl_k (dzOc mid) k v
  | .iload_n k => decide (i = .iload k.val)
  | .iload k => decide (i = .iload k)
  | .lload_n k => decide (i = .lload k.val)
  | .lload k => decide (i = .lload k)
  | .aload_n k => decide (i = .aload k.val)
  | .aload k => decide (i = .aload k)
  | .istore_n k => decide (i = .istore k.val) && Nat.blt k.val (dzMx mid)
  | .istore k => decide (i = .istore k) && Nat.blt k (dzMx mid)
  | .lstore_n k => decide (i = .lstore k.val) && Nat.blt (k.val + 1) (dzMx mid)
  | .lstore k => decide (i = .lstore k) && Nat.blt (k + 1) (dzMx mid)
  | .astore_n k => decide (i = .astore k.val) && Nat.blt k.val (dzMx mid)
  | .astore k => decide (i = .astore k) && Nat.blt k (dzMx mid)
  | .iinc k n => decide (i = .iinc k 0) && decide (v = .int (Int32.ofInt n)) && Nat.blt k (dzMx mid)
  | .iadd => decide (i = .iadd)
  | .isub => decide (i = .isub)
  | .imul => decide (i = .imul)
  | .iand => decide (i = .iand)
  | .ior => decide (i = .ior)
  | .ixor => decide (i = .ixor)
  | .ishl => decide (i = .ishl)
  | .ishr => decide (i = .ishr)
  | .iushr => decide (i = .iushr)
  | .idiv => decide (i = .idiv)
  | .irem => decide (i = .irem)
  | .ineg => decide (i = .ineg)
  | .ladd => decide (i = .ladd)
  | .lsub => decide (i = .lsub)
  | .lmul => decide (i = .lmul)
  | .land => decide (i = .land)
  | .lor => decide (i = .lor)
  | .lxor => decide (i = .lxor)
  | .ldiv => decide (i = .ldiv)
  | .lrem => decide (i = .lrem)
  | .lneg => decide (i = .lneg)
  | .lshl => decide (i = .lshl)
  | .lshr => decide (i = .lshr)
  | .lushr => decide (i = .lushr)
  | .lcmp => decide (i = .lcmp)
  | .i2l => decide (i = .i2l)
  | .l2i => decide (i = .l2i)
  | .dup => decide (i = .dup)
  | .dup2 => decide (i = .dup2)
  | .pop => decide (i = .pop)
  | .ifCond c off => decide (i = .ifCond c 0) && decide ((pc : Int) + off = (dzPl pl 0 : Int))
  | .if_icmp c off => decide (i = .if_icmp c 0) && decide ((pc : Int) + off = (dzPl pl 0 : Int))
  | .goto off => decide (i = .goto 0) && decide ((pc : Int) + off = (dzPl pl 0 : Int))
  | .tableswitch d lo hi offs => decide (i = .lookupswitch 0 #[]) && decide ((pc : Int) + d = (dzPl pl 0 : Int)) && decide (hi = lo + offs.toList.length - 1) && dzSwOk pc lo offs.toList sw
  | .iaload => decide (i = .iaload)
  | .aaload => decide (i = .aaload)
  | .iastore => decide (i = .iastore)
  | .arraylength => decide (i = .arraylength)
  | .getfield k => decide (i = .getfield 0) && dzQ4 zl_f (dzOc mid) k (dzPl pl 0) (dzPl pl 1)
  | .putfield k => decide (i = .putfield 0) && dzQ4 zl_f (dzOc mid) k (dzPl pl 0) (dzPl pl 1) && decide (dzTk0 (zTy (dzPl pl 0) (dzPl pl 1)) = dzPl pl 2) && (match zCl[dzPl pl 0]? with
      | some (_, T, _) => !(T (dzPl pl 1)).2.2.2 || (decide ((dzY mid).name = "<init>") && Nat.beq (dzPl pl 0) (dzOc mid))
      | none => false)
  | .invokestatic k => (decide (i = .swap) && dzQ2 zl_a (dzOc mid) k && Nat.ble 1 (dzFr mid) && Nat.ble 40 (dzLo mid)) || (decide (i = .fmul) && dzQ2 zl_x (dzOc mid) k && Nat.ble 1 (dzFr mid) && Nat.ble 24 (dzLo mid)) || (decide (i = .invokestatic 0) && (dzQ3 zl_c (dzOc mid) k (dzPl pl 0) || dzQ3 zl_n (dzOc mid) k (dzPl pl 0)) && Nat.beq (dzKn0 (dzPl pl 0)) 0 && decide (dzPn (dzPl pl 0) = some (dzPl pl 1)) && Nat.beq (dzRk (dzPl pl 0)) (dzPl pl 2))
  | .invokevirtual k => decide (i = .invokestatic 0) && (dzQ3 zl_c (dzOc mid) k (dzPl pl 0)) && Nat.beq (dzKn0 (dzPl pl 0)) 1 && decide ((dzPn (dzPl pl 0)).map (· + 1) = some (dzPl pl 1)) && Nat.beq (dzRk (dzPl pl 0)) (dzPl pl 2)
  | .invokespecial k => (decide (i = .invokespecial 0) && dzQ2 zl_i (dzOc mid) k && Nat.ble 1 (dzFr mid) && Nat.ble 24 (dzLo mid)) || (decide (i = .invokestatic 0) && (dzQ3 zl_c (dzOc mid) k (dzPl pl 0) || dzQ3 zl_n (dzOc mid) k (dzPl pl 0)) && Nat.beq (dzKn0 (dzPl pl 0)) 2 && decide ((dzPn (dzPl pl 0)).map (· + 1) = some (dzPl pl 1)) && Nat.beq (dzRk (dzPl pl 0)) (dzPl pl 2) && decide (dzRt (dzPl pl 0) = none))
  | .new k => decide (i = .new 0) && dzQ3 zl_o (dzOc mid) k (dzPl pl 0) && (match zCl[dzPl pl 0]? with
      | some (_, _, N) => Nat.beq N (dzPl pl 1)
      | none => false)
  | .newarray t => decide (i = .newarray .int) && decide (t = .int)
  | .multianewarray k d => decide (i = .multianewarray 0 0) && Nat.beq d 2 && dzQ2 zl_m (dzOc mid) k
  | .ireturn => decide (i = .ireturn) && ((decide (dzRt mid = some .int) && Nat.beq (dzPl pl 0) 0) || (decide (dzRt mid = some .boolean) && Nat.beq (dzPl pl 0) 1))
  | .lreturn => decide (i = .lreturn) && decide (dzRt mid = some .long)
  | .areturn => decide (i = .areturn) && decide (dzRk mid = 3)
  | .return_ => decide (i = .return_) && decide (dzRt mid = none)
  | _ => false
/-- an instruction's length -/
def dzLn (i : dzIns) (len : Nat) : Bool := match i with
  | .tableswitch _ _ _ _ => true
  | .bipush _ => Nat.beq len 2
  | .sipush _ => Nat.beq len 3
  | .ldc _ => Nat.beq len 2
  | .ldc2_w _ => Nat.beq len 3
  | .iload _ => Nat.beq len 2
  | .lload _ => Nat.beq len 2
  | .aload _ => Nat.beq len 2
  | .istore _ => Nat.beq len 2
  | .lstore _ => Nat.beq len 2
  | .astore _ => Nat.beq len 2
  | .iinc _ _ => Nat.beq len 3
  | .ifCond _ _ => Nat.beq len 3
  | .if_icmp _ _ => Nat.beq len 3
  | .goto _ => Nat.beq len 3
  | .getfield _ => Nat.beq len 3
  | .putfield _ => Nat.beq len 3
  | .invokestatic _ => Nat.beq len 3
  | .invokevirtual _ => Nat.beq len 3
  | .invokespecial _ => Nat.beq len 3
  | .new _ => Nat.beq len 3
  | .newarray _ => Nat.beq len 2
  | .multianewarray _ _ => Nat.beq len 4
  | _ => Nat.beq len 1
def dzCk (mid : Nat) (x : Nat × Nat × dzOp) : Bool := match decode (dzBy mid) x.1 with
  | .ok (ins, len) => Nat.beq x.2.1 (x.1 + len) && dzLn ins len && dzMt mid x.1 ins x.2.2.1 x.2.2.2.1 x.2.2.2.2.1 x.2.2.2.2.2
  | .error _ => false
end
section
/-! the check of the tables, method by method -/
theorem ck_0 : zo_0.all (dzCk 0) = true := by decide +kernel
theorem ck_1 : zo_1.all (dzCk 1) = true := by decide +kernel
theorem ck_2 : zo_2.all (dzCk 2) = true := by decide +kernel
theorem ck_3 : zo_3.all (dzCk 3) = true := by decide +kernel
theorem ck_4 : zo_4.all (dzCk 4) = true := by decide +kernel
theorem ck_5 : zo_5.all (dzCk 5) = true := by decide +kernel
theorem ck_6 : zo_6.all (dzCk 6) = true := by decide +kernel
theorem ck_7 : zo_7.all (dzCk 7) = true := by decide +kernel
theorem ck_8 : zo_8.all (dzCk 8) = true := by decide +kernel
theorem ck_9 : zo_9.all (dzCk 9) = true := by decide +kernel
theorem ck_10 : zo_10.all (dzCk 10) = true := by decide +kernel
theorem ck_11 : zo_11.all (dzCk 11) = true := by decide +kernel
theorem ck_12 : zo_12.all (dzCk 12) = true := by decide +kernel
theorem ck_13 : zo_13.all (dzCk 13) = true := by decide +kernel
theorem ck_14 : zo_14.all (dzCk 14) = true := by decide +kernel
theorem ck_15 : zo_15.all (dzCk 15) = true := by decide +kernel
theorem ck_16 : zo_16.all (dzCk 16) = true := by decide +kernel
theorem ck_17 : zo_17.all (dzCk 17) = true := by decide +kernel
theorem ck_18 : zo_18.all (dzCk 18) = true := by decide +kernel
theorem ck_19 : zo_19.all (dzCk 19) = true := by decide +kernel
theorem ck_20 : zo_20.all (dzCk 20) = true := by decide +kernel
theorem ck_21 : zo_21.all (dzCk 21) = true := by decide +kernel
theorem ck_22 : zo_22.all (dzCk 22) = true := by decide +kernel
theorem ck_23 : zo_23.all (dzCk 23) = true := by decide +kernel
theorem ck_24 : zo_24.all (dzCk 24) = true := by decide +kernel
theorem ck_25 : zo_25.all (dzCk 25) = true := by decide +kernel
theorem ck_26 : zo_26.all (dzCk 26) = true := by decide +kernel
theorem ck_27 : zo_27.all (dzCk 27) = true := by decide +kernel
theorem ck_28 : zo_28.all (dzCk 28) = true := by decide +kernel
theorem ck_29 : zo_29.all (dzCk 29) = true := by decide +kernel
theorem ck_30 : zo_30.all (dzCk 30) = true := by decide +kernel
theorem ck_31 : zo_31.all (dzCk 31) = true := by decide +kernel
theorem ck_32 : zo_32.all (dzCk 32) = true := by decide +kernel
theorem ck_33 : zo_33.all (dzCk 33) = true := by decide +kernel
theorem ck_34 : zo_34.all (dzCk 34) = true := by decide +kernel
theorem ck_35 : zo_35.all (dzCk 35) = true := by decide +kernel
theorem ck_36 : zo_36.all (dzCk 36) = true := by decide +kernel
theorem ck_37 : zo_37.all (dzCk 37) = true := by decide +kernel
theorem ck_38 : zo_38.all (dzCk 38) = true := by decide +kernel
theorem ck_39 : zo_39.all (dzCk 39) = true := by decide +kernel
theorem ck_40 : zo_40.all (dzCk 40) = true := by decide +kernel
end
section
/-! the check of the tables, method by method -/
theorem ck_41 : zo_41.all (dzCk 41) = true := by decide +kernel
theorem ck_42 : zo_42.all (dzCk 42) = true := by decide +kernel
theorem ck_43 : zo_43.all (dzCk 43) = true := by decide +kernel
theorem ck_44 : zo_44.all (dzCk 44) = true := by decide +kernel
theorem ck_45 : zo_45.all (dzCk 45) = true := by decide +kernel
theorem ck_46 : zo_46.all (dzCk 46) = true := by decide +kernel
theorem ck_47 : zo_47.all (dzCk 47) = true := by decide +kernel
theorem ck_48 : zo_48.all (dzCk 48) = true := by decide +kernel
theorem ck_49 : zo_49.all (dzCk 49) = true := by decide +kernel
theorem ck_50 : zo_50.all (dzCk 50) = true := by decide +kernel
theorem ck_51 : zo_51.all (dzCk 51) = true := by decide +kernel
theorem ck_52 : zo_52.all (dzCk 52) = true := by decide +kernel
theorem ck_53 : zo_53.all (dzCk 53) = true := by decide +kernel
theorem ck_54 : zo_54.all (dzCk 54) = true := by decide +kernel
theorem ck_55 : zo_55.all (dzCk 55) = true := by decide +kernel
theorem ck_56 : zo_56.all (dzCk 56) = true := by decide +kernel
theorem ck_57 : zo_57.all (dzCk 57) = true := by decide +kernel
theorem ck_58 : zo_58.all (dzCk 58) = true := by decide +kernel
theorem ck_59 : zo_59.all (dzCk 59) = true := by decide +kernel
theorem ck_60 : zo_60.all (dzCk 60) = true := by decide +kernel
theorem ck_61 : zo_61.all (dzCk 61) = true := by decide +kernel
theorem ck_62 : zo_62.all (dzCk 62) = true := by decide +kernel
theorem ck_63 : zo_63.all (dzCk 63) = true := by decide +kernel
theorem ck_64 : zo_64.all (dzCk 64) = true := by decide +kernel
theorem ck_65 : zo_65.all (dzCk 65) = true := by decide +kernel
theorem ck_66 : zo_66.all (dzCk 66) = true := by decide +kernel
theorem ck_67 : zo_67.all (dzCk 67) = true := by decide +kernel
theorem ck_68 : zo_68.all (dzCk 68) = true := by decide +kernel
theorem ck_69 : zo_69.all (dzCk 69) = true := by decide +kernel
theorem ck_70 : zo_70.all (dzCk 70) = true := by decide +kernel
theorem ck_71 : zo_71.all (dzCk 71) = true := by decide +kernel
theorem ck_72 : zo_72.all (dzCk 72) = true := by decide +kernel
theorem ck_73 : zo_73.all (dzCk 73) = true := by decide +kernel
theorem ck_74 : zo_74.all (dzCk 74) = true := by decide +kernel
theorem ck_75 : zo_75.all (dzCk 75) = true := by decide +kernel
theorem ck_76 : zo_76.all (dzCk 76) = true := by decide +kernel
theorem ck_77 : zo_77.all (dzCk 77) = true := by decide +kernel
theorem ck_78 : zo_78.all (dzCk 78) = true := by decide +kernel
theorem ck_79 : zo_79.all (dzCk 79) = true := by decide +kernel
theorem ck_80 : zo_80.all (dzCk 80) = true := by decide +kernel
theorem ck_81 : zo_81.all (dzCk 81) = true := by decide +kernel
theorem ck_82 : zo_82.all (dzCk 82) = true := by decide +kernel
theorem ck_83 : zo_83.all (dzCk 83) = true := by decide +kernel
theorem ck_84 : zo_84.all (dzCk 84) = true := by decide +kernel
theorem ck_85 : zo_85.all (dzCk 85) = true := by decide +kernel
theorem ck_86 : zo_86.all (dzCk 86) = true := by decide +kernel
theorem ck_87 : zo_87.all (dzCk 87) = true := by decide +kernel
theorem ck_88 : zo_88.all (dzCk 88) = true := by decide +kernel
theorem ck_89 : zo_89.all (dzCk 89) = true := by decide +kernel
end
section
/-! the check of the tables, method by method -/
theorem ck_90 : zo_90.all (dzCk 90) = true := by decide +kernel
theorem ck_91 : zo_91.all (dzCk 91) = true := by decide +kernel
theorem ck_92 : zo_92.all (dzCk 92) = true := by decide +kernel
theorem ck_93 : zo_93.all (dzCk 93) = true := by decide +kernel
theorem ck_94 : zo_94.all (dzCk 94) = true := by decide +kernel
theorem ck_95 : zo_95.all (dzCk 95) = true := by decide +kernel
theorem ck_96 : zo_96.all (dzCk 96) = true := by decide +kernel
theorem ck_97 : zo_97.all (dzCk 97) = true := by decide +kernel
theorem ck_98 : zo_98.all (dzCk 98) = true := by decide +kernel
theorem ck_99 : zo_99.all (dzCk 99) = true := by decide +kernel
theorem ck_100 : zo_100.all (dzCk 100) = true := by decide +kernel
theorem ck_101 : zo_101.all (dzCk 101) = true := by decide +kernel
theorem ck_102 : zo_102.all (dzCk 102) = true := by decide +kernel
theorem ck_103 : zo_103.all (dzCk 103) = true := by decide +kernel
theorem ck_104 : zo_104.all (dzCk 104) = true := by decide +kernel
theorem ck_105 : zo_105.all (dzCk 105) = true := by decide +kernel
theorem ck_106 : zo_106.all (dzCk 106) = true := by decide +kernel
theorem ck_107 : zo_107.all (dzCk 107) = true := by decide +kernel
theorem ck_108 : zo_108.all (dzCk 108) = true := by decide +kernel
theorem ck_109 : zo_109.all (dzCk 109) = true := by decide +kernel
theorem ck_110 : zo_110.all (dzCk 110) = true := by decide +kernel
theorem ck_111 : zo_111.all (dzCk 111) = true := by decide +kernel
theorem ck_112 : zo_112.all (dzCk 112) = true := by decide +kernel
theorem ck_113 : zo_113.all (dzCk 113) = true := by decide +kernel
theorem ck_114 : zo_114.all (dzCk 114) = true := by decide +kernel
theorem ck_115 : zo_115.all (dzCk 115) = true := by decide +kernel
theorem ck_116 : zo_116.all (dzCk 116) = true := by decide +kernel
theorem ck_117 : zo_117.all (dzCk 117) = true := by decide +kernel
theorem ck_118 : zo_118.all (dzCk 118) = true := by decide +kernel
theorem ck_119 : zo_119.all (dzCk 119) = true := by decide +kernel
theorem ck_120 : zo_120.all (dzCk 120) = true := by decide +kernel
theorem ck_121 : zo_121.all (dzCk 121) = true := by decide +kernel
theorem ck_122 : zo_122.all (dzCk 122) = true := by decide +kernel
end
section
/-! the check of the tables, method by method -/
theorem ck_123 : zo_123.all (dzCk 123) = true := by decide +kernel
theorem ck_124 : zo_124.all (dzCk 124) = true := by decide +kernel
theorem ck_125 : zo_125.all (dzCk 125) = true := by decide +kernel
theorem ck_126 : zo_126.all (dzCk 126) = true := by decide +kernel
theorem ck_127 : zo_127.all (dzCk 127) = true := by decide +kernel
theorem ck_128 : zo_128.all (dzCk 128) = true := by decide +kernel
theorem ck_129 : zo_129.all (dzCk 129) = true := by decide +kernel
theorem ck_130 : zo_130.all (dzCk 130) = true := by decide +kernel
theorem ck_131 : zo_131.all (dzCk 131) = true := by decide +kernel
theorem ck_132 : zo_132.all (dzCk 132) = true := by decide +kernel
theorem ck_133 : zo_133.all (dzCk 133) = true := by decide +kernel
theorem ck_134 : zo_134.all (dzCk 134) = true := by decide +kernel
theorem ck_135 : zo_135.all (dzCk 135) = true := by decide +kernel
theorem ck_136 : zo_136.all (dzCk 136) = true := by decide +kernel
theorem ck_137 : zo_137.all (dzCk 137) = true := by decide +kernel
theorem ck_138 : zo_138.all (dzCk 138) = true := by decide +kernel
theorem ck_139 : zo_139.all (dzCk 139) = true := by decide +kernel
theorem ck_140 : zo_140.all (dzCk 140) = true := by decide +kernel
theorem ck_141 : zo_141.all (dzCk 141) = true := by decide +kernel
theorem ck_142 : zo_142.all (dzCk 142) = true := by decide +kernel
theorem ck_143 : zo_143.all (dzCk 143) = true := by decide +kernel
theorem ck_144 : zo_144.all (dzCk 144) = true := by decide +kernel
theorem ck_145 : zo_145.all (dzCk 145) = true := by decide +kernel
theorem ck_146 : zo_146.all (dzCk 146) = true := by decide +kernel
theorem ck_147 : zo_147.all (dzCk 147) = true := by decide +kernel
theorem ck_148 : zo_148.all (dzCk 148) = true := by decide +kernel
theorem ck_149 : zo_149.all (dzCk 149) = true := by decide +kernel
theorem ck_150 : zo_150.all (dzCk 150) = true := by decide +kernel
theorem ck_151 : zo_151.all (dzCk 151) = true := by decide +kernel
theorem ck_152 : zo_152.all (dzCk 152) = true := by decide +kernel
theorem ck_153 : zo_153.all (dzCk 153) = true := by decide +kernel
theorem ck_154 : zo_154.all (dzCk 154) = true := by decide +kernel
theorem ck_155 : zo_155.all (dzCk 155) = true := by decide +kernel
theorem ck_156 : zo_156.all (dzCk 156) = true := by decide +kernel
end
section
/-! the check of the tables, method by method -/
theorem ck_157 : zo_157.all (dzCk 157) = true := by decide +kernel
theorem ck_158 : zo_158.all (dzCk 158) = true := by decide +kernel
theorem ck_159 : zo_159.all (dzCk 159) = true := by decide +kernel
theorem ck_160 : zo_160.all (dzCk 160) = true := by decide +kernel
end
section
theorem ck_all : ∀ mid, mid < dzN → (dzOps mid).all (dzCk mid) = true
  | 0, _ => ck_0
  | 1, _ => ck_1
  | 2, _ => ck_2
  | 3, _ => ck_3
  | 4, _ => ck_4
  | 5, _ => ck_5
  | 6, _ => ck_6
  | 7, _ => ck_7
  | 8, _ => ck_8
  | 9, _ => ck_9
  | 10, _ => ck_10
  | 11, _ => ck_11
  | 12, _ => ck_12
  | 13, _ => ck_13
  | 14, _ => ck_14
  | 15, _ => ck_15
  | 16, _ => ck_16
  | 17, _ => ck_17
  | 18, _ => ck_18
  | 19, _ => ck_19
  | 20, _ => ck_20
  | 21, _ => ck_21
  | 22, _ => ck_22
  | 23, _ => ck_23
  | 24, _ => ck_24
  | 25, _ => ck_25
  | 26, _ => ck_26
  | 27, _ => ck_27
  | 28, _ => ck_28
  | 29, _ => ck_29
  | 30, _ => ck_30
  | 31, _ => ck_31
  | 32, _ => ck_32
  | 33, _ => ck_33
  | 34, _ => ck_34
  | 35, _ => ck_35
  | 36, _ => ck_36
  | 37, _ => ck_37
  | 38, _ => ck_38
  | 39, _ => ck_39
  | 40, _ => ck_40
  | 41, _ => ck_41
  | 42, _ => ck_42
  | 43, _ => ck_43
  | 44, _ => ck_44
  | 45, _ => ck_45
  | 46, _ => ck_46
  | 47, _ => ck_47
  | 48, _ => ck_48
  | 49, _ => ck_49
  | 50, _ => ck_50
  | 51, _ => ck_51
  | 52, _ => ck_52
  | 53, _ => ck_53
  | 54, _ => ck_54
  | 55, _ => ck_55
  | 56, _ => ck_56
  | 57, _ => ck_57
  | 58, _ => ck_58
  | 59, _ => ck_59
  | 60, _ => ck_60
  | 61, _ => ck_61
  | 62, _ => ck_62
  | 63, _ => ck_63
  | 64, _ => ck_64
  | 65, _ => ck_65
  | 66, _ => ck_66
  | 67, _ => ck_67
  | 68, _ => ck_68
  | 69, _ => ck_69
  | 70, _ => ck_70
  | 71, _ => ck_71
  | 72, _ => ck_72
  | 73, _ => ck_73
  | 74, _ => ck_74
  | 75, _ => ck_75
  | 76, _ => ck_76
  | 77, _ => ck_77
  | 78, _ => ck_78
  | 79, _ => ck_79
  | 80, _ => ck_80
  | 81, _ => ck_81
  | 82, _ => ck_82
  | 83, _ => ck_83
  | 84, _ => ck_84
  | 85, _ => ck_85
  | 86, _ => ck_86
  | 87, _ => ck_87
  | 88, _ => ck_88
  | 89, _ => ck_89
  | 90, _ => ck_90
  | 91, _ => ck_91
  | 92, _ => ck_92
  | 93, _ => ck_93
  | 94, _ => ck_94
  | 95, _ => ck_95
  | 96, _ => ck_96
  | 97, _ => ck_97
  | 98, _ => ck_98
  | 99, _ => ck_99
  | 100, _ => ck_100
  | 101, _ => ck_101
  | 102, _ => ck_102
  | 103, _ => ck_103
  | 104, _ => ck_104
  | 105, _ => ck_105
  | 106, _ => ck_106
  | 107, _ => ck_107
  | 108, _ => ck_108
  | 109, _ => ck_109
  | 110, _ => ck_110
  | 111, _ => ck_111
  | 112, _ => ck_112
  | 113, _ => ck_113
  | 114, _ => ck_114
  | 115, _ => ck_115
  | 116, _ => ck_116
  | 117, _ => ck_117
  | 118, _ => ck_118
  | 119, _ => ck_119
  | 120, _ => ck_120
  | 121, _ => ck_121
  | 122, _ => ck_122
  | 123, _ => ck_123
  | 124, _ => ck_124
  | 125, _ => ck_125
  | 126, _ => ck_126
  | 127, _ => ck_127
  | 128, _ => ck_128
  | 129, _ => ck_129
  | 130, _ => ck_130
  | 131, _ => ck_131
  | 132, _ => ck_132
  | 133, _ => ck_133
  | 134, _ => ck_134
  | 135, _ => ck_135
  | 136, _ => ck_136
  | 137, _ => ck_137
  | 138, _ => ck_138
  | 139, _ => ck_139
  | 140, _ => ck_140
  | 141, _ => ck_141
  | 142, _ => ck_142
  | 143, _ => ck_143
  | 144, _ => ck_144
  | 145, _ => ck_145
  | 146, _ => ck_146
  | 147, _ => ck_147
  | 148, _ => ck_148
  | 149, _ => ck_149
  | 150, _ => ck_150
  | 151, _ => ck_151
  | 152, _ => ck_152
  | 153, _ => ck_153
  | 154, _ => ck_154
  | 155, _ => ck_155
  | 156, _ => ck_156
  | 157, _ => ck_157
  | 158, _ => ck_158
  | 159, _ => ck_159
  | 160, _ => ck_160
  | n + 161, h => absurd h (by unfold dzN; omega)
end
section
/-! soundness: what the deep interpreter answers, the machine does -/
theorem dz1I_of {S : List Value} {k : Int32 → List Value → Option dzR} {q : dzR} (h : dz1I S k = some q) : ∃ x r, S = .int x :: r ∧ k x r = some q := by
  unfold dz1I at h
  split at h
  · exact ⟨_, _, rfl, h⟩
  · cases h
theorem dz1J_of {S : List Value} {k : Int64 → List Value → Option dzR} {q : dzR} (h : dz1J S k = some q) : ∃ x r, S = .long x :: r ∧ k x r = some q := by
  unfold dz1J at h
  split at h
  · exact ⟨_, _, rfl, h⟩
  · cases h
theorem dz1A_of {S : List Value} {k : Nat → List Value → Option dzR} {q : dzR} (h : dz1A S k = some q) : ∃ x r, S = .ref x :: r ∧ k x r = some q := by
  unfold dz1A at h
  split at h
  · exact ⟨_, _, rfl, h⟩
  · cases h
theorem dz2I_of {S : List Value} {k : Int32 → Int32 → List Value → Option dzR} {q : dzR} (h : dz2I S k = some q) : ∃ x y r, S = .int y :: .int x :: r ∧ k x y r = some q := by
  unfold dz2I at h
  split at h
  · exact ⟨_, _, _, rfl, h⟩
  · cases h
theorem dz2J_of {S : List Value} {k : Int64 → Int64 → List Value → Option dzR} {q : dzR} (h : dz2J S k = some q) : ∃ x y r, S = .long y :: .long x :: r ∧ k x y r = some q := by
  unfold dz2J at h
  split at h
  · exact ⟨_, _, _, rfl, h⟩
  · cases h
theorem dzJI_of {S : List Value} {k : Int64 → Int32 → List Value → Option dzR} {q : dzR} (h : dzJI S k = some q) : ∃ x y r, S = .int y :: .long x :: r ∧ k x y r = some q := by
  unfold dzJI at h
  split at h
  · exact ⟨_, _, _, rfl, h⟩
  · cases h
theorem dzAI_of {S : List Value} {k : Nat → Int32 → List Value → Option dzR} {q : dzR} (h : dzAI S k = some q) : ∃ x y r, S = .int y :: .ref x :: r ∧ k x y r = some q := by
  unfold dzAI at h
  split at h
  · exact ⟨_, _, _, rfl, h⟩
  · cases h
theorem dzAII_of {S : List Value} {k : Nat → Int32 → Int32 → List Value → Option dzR} {q : dzR} (h : dzAII S k = some q) : ∃ x y z r, S = .int z :: .int y :: .ref x :: r ∧ k x y z r = some q := by
  unfold dzAII at h
  split at h
  · exact ⟨_, _, _, _, rfl, h⟩
  · cases h
theorem dzAV_of {S : List Value} {k : Nat → Value → List Value → Option dzR} {q : dzR} (h : dzAV S k = some q) : ∃ x v r, S = v :: .ref x :: r ∧ k x v r = some q := by
  unfold dzAV at h
  split at h
  · exact ⟨_, _, _, rfl, h⟩
  · cases h
-- locals
theorem dzFnd_mem {α : Type} : ∀ {l : List (Nat × α)} {i : Nat} {a : α}, dzFnd l i = some a → (i, a) ∈ l
  | [], _, _, h => by cases h
  | (k, b) :: r, i, a, h => by
    unfold dzFnd at h
    split at h
    · rename_i hb
      have e : k = i := Nat.eq_of_beq_eq_true hb
      cases h
      subst e
      exact List.mem_cons_self
    · exact List.mem_cons_of_mem _ (dzFnd_mem h)
theorem dzLI_of {ls : Array Slot} {n : Nat} {L : dzL} {i : Nat} {x : Int32} (hl : lv_has ls n L) (h : dzLI L i = some x) : ls[i]? = some (.val (.int x)) := by
  unfold dzLI at h
  split at h
  · rename_i e
    cases h
    exact hl.2.2 _ (dzFnd_mem e)
  · cases h
theorem dzLJ_of {ls : Array Slot} {n : Nat} {L : dzL} {i : Nat} {x : Int64} (hl : lv_has ls n L) (h : dzLJ L i = some x) : ls[i]? = some (.val (.long x)) := by
  unfold dzLJ at h
  split at h
  · rename_i e
    cases h
    exact hl.2.2 _ (dzFnd_mem e)
  · cases h
theorem dzLA_of {ls : Array Slot} {n : Nat} {L : dzL} {i : Nat} {x : Nat} (hl : lv_has ls n L) (h : dzLA L i = some x) : ls[i]? = some (.val (.ref x)) := by
  unfold dzLA at h
  split at h
  · rename_i e
    cases h
    exact hl.2.2 _ (dzFnd_mem e)
  · cases h
theorem dzIn_mem {i : Nat} {v : Value} : ∀ {L : dzL} {q : Nat × Value}, q ∈ dzIn i v L → q ∈ (i, v) :: L
  | [], q, h => h
  | (j, w) :: r, q, h => by
    unfold dzIn at h
    split at h
    · exact h
    · rcases List.mem_cons.mp h with h | h
      · exact List.mem_cons_of_mem _ (List.mem_cons.mpr (Or.inl h))
      · rcases List.mem_cons.mp (dzIn_mem h) with h | h
        · exact List.mem_cons.mpr (Or.inl h)
        · exact List.mem_cons_of_mem _ (List.mem_cons_of_mem _ h)
theorem lv_has.less {ls : Array Slot} {n : Nat} {L L' : dzL} (h : lv_has ls n L) (hs : ∀ q, q ∈ L' → q ∈ L) : lv_has ls n L' := ⟨h.1, h.2.1, fun q hq => h.2.2 q (hs q hq)⟩
-- the abstract heap and the machine's
def dzKn (D : va_G) (tI tA : ClassId) (U : State) : Prop :=
  va_K D zCl [(tI, .int), (tA, .array .int)] U ∧ (∀ q ∈ zl_n, va_Nw (dzNw q) U) ∧ (Cond.arrayOver (.array .int)).before #[] U = true
theorem dzKn.warm {D : va_G} {tI tA : ClassId} {s U : State} (hW : s.WarmedH U.vm) (h : dzKn D tI tA s) : dzKn D tI tA U :=
  ⟨va_K.moved hW.alike h.1, fun q hq => va_Nw.warmM hW (h.2.1 q hq), over_moved hW.alike h.2.2⟩
theorem dzKn.same {D : va_G} {tI tA : ClassId} {s U : State} (hv : s.vm = U.vm) (h : dzKn D tI tA s) : dzKn D tI tA U :=
  ⟨va_K.moved (by rw [hv]; exact Vm.Alike.refl _) h.1, fun q hq => va_Nw.same rfl hv (h.2.1 q hq), over_moved (by rw [hv]; exact Vm.Alike.refl _) h.2.2⟩
def dzAt (B : Nat) (D : va_G) (tI tA : ClassId) (s : State) (H : Heap) (a : Nat) : dzE → Prop
  | .inl (n, f) => B ≤ a ∧ H[a]? = some (vp_cell tI (n, .inl f))
  | .inr (.inl (n, f)) => B ≤ a ∧ H[a]? = some (vp_cell tA (n, .inr (.inr (.inr (.inr f)))))
  | .inr (.inr (.inl o)) => B ≤ a ∧ va_at D zCl (a, .inr o) H
  | .inr (.inr (.inr (n, f))) => a < B ∧ va_X a n f s H
theorem dzAt.kept {B : Nat} {D : va_G} {tI tA : ClassId} {s : State} {H H1 : Heap} {a : Nat} {x : dzE} (h : dzAt B D tI tA s H a x) (hq : H1[a]? = H[a]?) : dzAt B D tI tA s H1 a x := by
  rcases x with ⟨n, f⟩ | ⟨n, f⟩ | o | ⟨n, f⟩
  · exact ⟨h.1, hq.trans h.2⟩
  · exact ⟨h.1, hq.trans h.2⟩
  · exact ⟨h.1, h.2.kept hq⟩
  · exact ⟨h.1, h.2.kept hq⟩
theorem dzAt.moved {B : Nat} {D : va_G} {tI tA : ClassId} {s U : State} {H : Heap} {a : Nat} {x : dzE} (hv : s.vm.Alike U.vm) (h : dzAt B D tI tA s H a x) : dzAt B D tI tA U H a x := by
  rcases x with ⟨n, f⟩ | ⟨n, f⟩ | o | ⟨n, f⟩
  · exact h
  · exact h
  · exact h
  · exact ⟨h.1, h.2.moved hv⟩
theorem dzAt.lt {B : Nat} {D : va_G} {tI tA : ClassId} {s : State} {H : Heap} {a : Nat} {x : dzE} (h : dzAt B D tI tA s H a x) : a < H.size := by
  rcases x with ⟨n, f⟩ | ⟨n, f⟩ | o | ⟨n, f⟩
  · exact (Array.getElem?_eq_some_iff.mp h.2).1
  · exact (Array.getElem?_eq_some_iff.mp h.2).1
  · exact h.2.lt
  · obtain ⟨scr, h1, -⟩ := h.2
    exact (Array.getElem?_eq_some_iff.mp h1).1
def dzHo (B : Nat) (D : va_G) (tI tA : ClassId) (h : dzH) (s : State) (H : Heap) : Prop := h.1 = H.size ∧ ∀ a x, h.2 a = some x → dzAt B D tI tA s H a x
theorem dzHo.moved {B : Nat} {D : va_G} {tI tA : ClassId} {h : dzH} {s U : State} {H : Heap} (hv : s.vm.Alike U.vm) (ho : dzHo B D tI tA h s H) : dzHo B D tI tA h U H := ⟨ho.1, fun a x hx => (ho.2 a x hx).moved hv⟩
/-- one cell is written -/
theorem dzHo.up {B : Nat} {D : va_G} {tI tA : ClassId} {h : dzH} {s : State} {H H1 : Heap} {a : Nat} {x : dzE} (ho : dzHo B D tI tA h s H) (hz : H1.size = H.size) (oq : ∀ q : Nat, q ≠ a → H1[q]? = H[q]?) (hx : dzAt B D tI tA s H1 a x) : dzHo B D tI tA (h.1, va_up h.2 a (some x)) s H1 := by
  refine ⟨ho.1.trans hz.symm, fun q y hy => ?_⟩
  by_cases e : q = a
  · subst e
    have e2 : (some x : Option dzE) = some y := by rw [← hy]; exact (va_up_self _ _ _).symm
    cases e2
    exact hx
  · have e2 : h.2 q = some y := by rw [← hy]; exact (va_up_ne _ _ e).symm
    exact (ho.2 q y e2).kept (oq q e)
/-- cells are made -/
theorem dzHo.more {B : Nat} {D : va_G} {tI tA : ClassId} {h h1 : dzH} {s : State} {H H1 : Heap} (ho : dzHo B D tI tA h s H) (hz : h1.1 = H1.size) (oq : ∀ q : Nat, q < H.size → H1[q]? = H[q]?) (hn : ∀ a x, h1.2 a = some x → (h.2 a = some x ∧ a < H.size) ∨ dzAt B D tI tA s H1 a x) : dzHo B D tI tA h1 s H1 := by
  refine ⟨hz, fun a x hx => ?_⟩
  rcases hn a x hx with ⟨e, hlt⟩ | e
  · exact (ho.2 a x e).kept (oq a hlt)
  · exact e
/-- what a walk keeps: the abstract heap is the machine's; nothing below B has changed -/
def dzG (B : Nat) (D : va_G) (tI tA : ClassId) (s : State) (h : dzH) (H : Heap) (locs : List Loc) : Prop := dzHo B D tI tA h s H ∧ s.heap.size ≤ H.size ∧ (∀ q : Nat, q < B → H[q]? = s.heap[q]?) ∧ ∀ q ∈ locs, B ≤ q.base
theorem dzG.put {B : Nat} {D : va_G} {tI tA : ClassId} {s : State} {h : dzH} {H H1 : Heap} {locs : List Loc} {a k : Nat} {x : dzE} (hg : dzG B D tI tA s h H locs) (hz : H1.size = H.size) (oq : ∀ q : Nat, q ≠ a → H1[q]? = H[q]?) (hB : B ≤ a) (hx : dzAt B D tI tA s H1 a x) : dzG B D tI tA s (h.1, va_up h.2 a (some x)) H1 (locs ++ [⟨a, k⟩]) := by
  refine ⟨hg.1.up hz oq hx, by rw [hz]; exact hg.2.1, fun q hq => ?_, fun q hq => ?_⟩
  · rw [oq q (by omega)]
    exact hg.2.2.1 q hq
  · rcases List.mem_append.mp hq with h1 | h1
    · exact hg.2.2.2 q h1
    · rw [List.mem_singleton.mp h1]
      exact hB
def dzPr (B : Nat) (D : va_G) (tI tA : ClassId) (av : List Value) (h : dzH) : Array Value → State → Prop := va_Pc av (fun U => dzKn D tI tA U ∧ dzHo B D tI tA h U U.heap ∧ B ≤ U.heap.size)
def dzPo (B : Nat) (D : va_G) (tI tA : ClassId) (r : Option Value) (h' : dzH) : Array Value → State → Outcome → State → Prop := fun _ st oc t => oc = .returned r ∧ dzHo B D tI tA h' t t.heap ∧ st.heap.size ≤ t.heap.size ∧ ∀ q : Nat, q < B → t.heap[q]? = st.heap[q]?
theorem dzPr.blind {B : Nat} {D : va_G} {tI tA : ClassId} {av : List Value} {h : dzH} : FrameBlind (dzPr B D tI tA av h) := by
  intro a U g mk hp
  obtain ⟨e, hK, ho, hB⟩ := hp
  exact ⟨e, hK.same rfl, ho.moved (Vm.Alike.refl U.vm), hB⟩
section DZC
variable {p : Program} {l : Launch} {e : Env} {R : Room} {s : State} {m : MethodId} {args : Array Value} {below : List Frame} {meth : Method} {c : Code}
theorem dz_cont {B : Nat} {D : va_G} {tI tA : ClassId} {H : Heap} {locs : List Loc} {cells slots mc ms pc : Nat} {ls : Array Slot} {st0 rest : List Value} {a : Array Value} {r : Option Value} {h h' : dzH} {Q : State → Prop}
    (hr : va_Run p l e R s m args below meth c H locs cells slots mc ms (F0 m pc ls st0) rest (dzPo B D tI tA r h' a) (fun q => B ≤ q)) (hg : dzG B D tI tA s h H locs)
    (kk : ∀ (H1 : Heap) (locs1 : List Loc), dzG B D tI tA s h' H1 locs1 → W p l e R s m args below meth c H1 locs1 (cells + mc) (slots + ms) Q (F0 m (pc + 3) ls (r.toList ++ rest))) : W p l e R s m args below meth c H locs cells slots Q (F0 m pc ls st0) := by
  intro T hT X
  obtain ⟨v, st₀, t, T', L, h0, X', hL, e1, e2, ⟨hv, ho, hz, hk⟩, st⟩ := hr T hT X
  cases hv
  rw [h0] at hz hk
  obtain ⟨t2, a1, b1⟩ := kk T'.heap (locs ++ L) ⟨by rw [e1]; exact ho.moved (by rw [← e2]; exact X'.warmed.alike.symm), by rw [e1]; exact Nat.le_trans hg.2.1 hz, fun q hq => by rw [e1, hk q hq]; exact hg.2.2.1 q hq, fun q hq => by
      rcases List.mem_append.mp hq with h1 | h1
      · exact hg.2.2.2 q h1
      · exact hL q h1⟩ T' rfl X'
  exact ⟨t2, st t2 a1, b1⟩
end DZC
end
section
/-! one instruction -/
theorem dzQ2_mem {l : List (Nat × Nat)} {a b : Nat} (h : dzQ2 l a b = true) : (a, b) ∈ l := by
  obtain ⟨⟨q1, q2⟩, hq, h⟩ := List.any_eq_true.mp h
  simp only [Bool.and_eq_true] at h
  have e1 : q1 = a := Nat.eq_of_beq_eq_true h.1
  have e2 : q2 = b := Nat.eq_of_beq_eq_true h.2
  subst e1; subst e2
  exact hq
theorem dzQ3_mem {l : List (Nat × Nat × Nat)} {a b c : Nat} (h : dzQ3 l a b c = true) : (a, b, c) ∈ l := by
  obtain ⟨⟨q1, q2, q3⟩, hq, h⟩ := List.any_eq_true.mp h
  simp only [Bool.and_eq_true] at h
  have e1 : q1 = a := Nat.eq_of_beq_eq_true h.1.1
  have e2 : q2 = b := Nat.eq_of_beq_eq_true h.1.2
  have e3 : q3 = c := Nat.eq_of_beq_eq_true h.2
  subst e1; subst e2; subst e3
  exact hq
theorem dzQ4_mem {l : List (Nat × Nat × Nat × Nat)} {a b c d : Nat} (h : dzQ4 l a b c d = true) : (a, b, c, d) ∈ l := by
  obtain ⟨⟨q1, q2, q3, q4⟩, hq, h⟩ := List.any_eq_true.mp h
  simp only [Bool.and_eq_true] at h
  have e1 : q1 = a := Nat.eq_of_beq_eq_true h.1.1.1
  have e2 : q2 = b := Nat.eq_of_beq_eq_true h.1.1.2
  have e3 : q3 = c := Nat.eq_of_beq_eq_true h.1.2
  have e4 : q4 = d := Nat.eq_of_beq_eq_true h.2
  subst e1; subst e2; subst e3; subst e4
  exact hq
theorem dzQk_mem {l : List (Nat × Nat × Value)} {a b : Nat} {v : Value} (h : dzQk l a b v = true) : (a, b, v) ∈ l := by
  obtain ⟨⟨q1, q2, q3⟩, hq, h⟩ := List.any_eq_true.mp h
  simp only [Bool.and_eq_true, decide_eq_true_eq] at h
  have e1 : q1 = a := Nat.eq_of_beq_eq_true h.1.1
  have e2 : q2 = b := Nat.eq_of_beq_eq_true h.1.2
  have e3 : q3 = v := h.2
  subst e1; subst e2; subst e3
  exact hq
theorem dzTk_of : ∀ {n : Nat} {acc S av r : List Value}, dzTk n acc S = some (av, r) → ∃ t : List Value, av = t ++ acc ∧ S = t.reverse ++ r ∧ t.length = n
  | 0, acc, S, av, r, h => by cases h; exact ⟨[], rfl, rfl, rfl⟩
  | n + 1, acc, [], av, r, h => by cases h
  | n + 1, acc, v :: S, av, r, h => by
    obtain ⟨t, h1, h2, h3⟩ := dzTk_of (n := n) (acc := v :: acc) h
    exact ⟨t ++ [v], by rw [h1, List.append_assoc]; rfl, by rw [h2]; simp, by simp [h3]⟩
theorem dgV_of {h : dzH} {a ci k : Nat} {v : Value} (hd : dgV h a ci k = some v) : ∃ fs : List Value, h.2 a = some (eO ci fs) ∧ fs[k]? = some v := by
  unfold dgV at hd
  split at hd
  · rename_i c fs e
    split at hd
    · rename_i e2
      subst e2
      exact ⟨fs, e, hd⟩
    · cases hd
  · cases hd
theorem dgI_of {h : dzH} {a ci k : Nat} {x : Int32} (hd : dgI h a ci k = some x) : ∃ fs : List Value, h.2 a = some (eO ci fs) ∧ fs[k]? = some (.int x) := by
  unfold dgI at hd
  split at hd
  · rename_i e; cases hd; exact dgV_of e
  · cases hd
theorem dgJ_of {h : dzH} {a ci k : Nat} {x : Int64} (hd : dgJ h a ci k = some x) : ∃ fs : List Value, h.2 a = some (eO ci fs) ∧ fs[k]? = some (.long x) := by
  unfold dgJ at hd
  split at hd
  · rename_i e; cases hd; exact dgV_of e
  · cases hd
theorem dgA_of {h : dzH} {a ci k : Nat} {x : Nat} (hd : dgA h a ci k = some x) : ∃ fs : List Value, h.2 a = some (eO ci fs) ∧ fs[k]? = some (.ref x) := by
  unfold dgA at hd
  split at hd
  · rename_i e; cases hd; exact dgV_of e
  · cases hd
theorem va_P.one {D : va_G} {cl : List vw_C} {q : Nat × va_E} {H : Heap} (h : va_at D cl q H) : va_P D cl [q] H := by
  intro k x hx
  cases k with
  | zero => cases hx; exact h
  | succ k => cases hx
/-- the frame of a method mid -/
def dzCx (D : va_G) (tI tA : ClassId) (mid : Nat) (p : Program) (s : State) (m : MethodId) (args : Array Value) (meth : Method) (c : Code) : Prop :=
  p.tables.exec = Jvm.exec ∧ c.code = dzBy mid ∧ c.maxLocals = dzMx mid ∧ ((dzY mid).name = "<init>" → meth.name = "<init>") ∧ s.vm.findClass (dzY mid).cls = some m.cls ∧ (∀ w ∈ dzGW, w.before args s = true) ∧ dzKn D tI tA s ∧ mid < dzN
abbrev dzRm (mid : Nat) : Room := { frames := dzFr mid, cells := dzMc mid, slots := dzMs mid, locals := dzLo mid }
def dzWs (mid : Nat) : List Cond := Cond.code (dzY mid) (dzBy mid) (dzMx mid) (dzRt mid) :: dzGW
/-- an answer of the kind that the method gives -/
def dzRok (mid : Nat) (r : Option Value) : Prop := match r with
  | none => dzRt mid = none
  | some (.int v) => dzRt mid = some .int ∨ (dzRt mid = some .boolean ∧ (v = 0 ∨ v = 1))
  | some (.long _) => dzRt mid = some .long
  | some (.ref _) => dzRk mid = 3
  | _ => False
def dzRi (r : Option Value) : dzIns := match r with
  | none => .return_
  | some (.int _) => .ireturn
  | some (.long _) => .lreturn
  | _ => .areturn
section DZ1
variable {p : Program} {l : Launch} {e : Env} {s : State} {m : MethodId} {args : Array Value} {below : List Frame} {meth : Method} {c : Code}
variable {B : Nat} {D : va_G} {tI tA : ClassId} {mid : Nat} {Q : State → Prop} {r : Option Value} {h' : dzH}
/-- what comes behind an instruction is right -/
def dzOkK (p : Program) (l : Launch) (e : Env) (s : State) (m : MethodId) (args : Array Value) (below : List Frame) (meth : Method) (c : Code) (B : Nat) (D : va_G) (tI tA : ClassId) (mid : Nat) (Q : State → Prop) (r : Option Value) (h' : dzH) (K : dzKt) : Prop :=
  ∀ (pc : Nat) (L : dzL) (S : List Value) (u : Nat × Nat) (h : dzH), K pc L S u h = some (r, h') → u.1 ≤ dzMc mid → u.2 ≤ dzMs mid → ∀ (ls : Array Slot) (H : Heap) (locs : List Loc), lv_has ls (dzMx mid) L → dzG B D tI tA s h H locs → W p l e (dzRm mid) s m args below meth c H locs u.1 u.2 Q (F0 m pc ls S)
/-- a call is right -/
def dzOkC (l : Launch) (B : Nat) (D : va_G) (tI tA : ClassId) (C : dzCt) : Prop := ∀ (cid : Nat) (av : List Value) (h1 : dzH) (q : dzR), C cid av h1 = some q → cid < dzN → dzKn0 cid ≠ 9 →
  Met l (dzY cid) (dzWs cid) (dzRm cid) (dzPr B D tI tA av h1) (dzPo B D tI tA q.1 q.2) (dzMc cid) (dzMs cid) (fun x => B ≤ x) ∧ ∀ ci, dzRcv cid = some ci → ∃ (a : Nat) (as : List Value) (fs : List Value), av = .ref a :: as ∧ h1.2 a = some (eO ci fs)
/-- the end is right -/
def dzOkE (p : Program) (l : Launch) (e : Env) (s : State) (m : MethodId) (args : Array Value) (below : List Frame) (meth : Method) (c : Code) (B : Nat) (D : va_G) (tI tA : ClassId) (mid : Nat) (Q : State → Prop) (r : Option Value) (h' : dzH) : Prop :=
  ∀ (pc : Nat) (ls : Array Slot) (H : Heap) (locs : List Loc) (k n : Nat), k ≤ dzMc mid → n ≤ dzMs mid → dzRok mid r → decode (dzBy mid) pc = .ok (dzRi r, 1) → dzG B D tI tA s h' H locs → W p l e (dzRm mid) s m args below meth c H locs k n Q (F0 m pc ls r.toList)
set_option maxHeartbeats 2000000 in
theorem dz_getf (hx : dzCx D tI tA mid p s m args meth c) {pc k ci kf a : Nat} {ls : Array Slot} {rest : List Value} {H : Heap} {locs : List Loc} {u1 u2 : Nat} {h : dzH} {fs : List Value} {v : Value} (hm : dzQ4 zl_f (dzOc mid) k ci kf = true) (hdg : decode (dzBy mid) pc = .ok (.getfield k, 3)) (hg : dzG B D tI tA s h H locs) (hf : h.2 a = some (eO ci fs)) (hv : fs[kf]? = some v)
    (kk : W p l e (dzRm mid) s m args below meth c H locs u1 u2 Q (F0 m (pc + 3) ls (v :: rest))) : W p l e (dzRm mid) s m args below meth c H locs u1 u2 Q (F0 m pc ls (.ref a :: rest)) := by
  obtain ⟨hexec, hb, hml, hn, hown, hts, hK, hmid⟩ := hx
  have hmem := dzQ4_mem hm
  have hlt := zl_f_lt _ hmem
  have hw := zl_f_ok _ hmem
  dsimp only at hlt
  cases hc : zCl[ci]? with
  | none => rw [hc] at hlt; cases hlt
  | some q =>
    obtain ⟨C, T, N⟩ := q
    rw [hc] at hlt
    have hk : kf < N := of_decide_eq_true hlt
    obtain ⟨u1', u2', hin, hnm, hty, hcn, hdecl, hdf⟩ := zu_all ci C T N hc
    have hw2 : dzFw (dzOc mid, k, ci, kf) = Cond.fieldLink (dzCn (dzOc mid)) k (T kf).1 (T kf).2.1 (T kf).2.2.1 := by
      unfold dzFw
      dsimp only
      rw [hc]
    rw [hw2, zt_oc_ok mid hmid] at hw
    exact va_get (D := D) (cl := zCl) (tys := [(tI, .int), (tA, .array .int)]) (ws := [(a, .inr (ci, fs))]) hexec hb hts hin hown hK.1 (va_P.one (hg.1.2 a _ hf).2) 0 rfl hc kf hk (hts _ hw) (fun _ h9 => h9) hv hdg kk
set_option maxHeartbeats 2000000 in
theorem dz_putf (hx : dzCx D tI tA mid p s m args meth c) {pc k ci kf a : Nat} {ls : Array Slot} {rest : List Value} {H : Heap} {locs : List Loc} {u1 u2 : Nat} {h : dzH} {fs : List Value} {v : Value} (hm : dzQ4 zl_f (dzOc mid) k ci kf = true) (hdg : decode (dzBy mid) pc = .ok (.putfield k, 3)) (hg : dzG B D tI tA s h H locs) (hf : h.2 a = some (eO ci fs)) (hl : kf < fs.length)
    (hkd : dzKd v = dzTk0 (zTy ci kf)) (hk0 : dzKd v ≠ 0)
    (hfin : (match zCl[ci]? with
      | some (_, T, _) => !(T kf).2.2.2 || (decide ((dzY mid).name = "<init>") && Nat.beq ci (dzOc mid))
      | none => false) = true)
    (kk : ∀ (H1 : Heap) (locs1 : List Loc), dzG B D tI tA s (h.1, va_up h.2 a (some (eO ci (fs.set kf v)))) H1 locs1 → W p l e (dzRm mid) s m args below meth c H1 locs1 u1 u2 Q (F0 m (pc + 3) ls rest)) : W p l e (dzRm mid) s m args below meth c H locs u1 u2 Q (F0 m pc ls (v :: .ref a :: rest)) := by
  obtain ⟨hexec, hb, hml, hn, hown, hts, hK, hmid⟩ := hx
  have hmem := dzQ4_mem hm
  have hlt := zl_f_lt _ hmem
  have hw := zl_f_ok _ hmem
  dsimp only at hlt
  cases hc : zCl[ci]? with
  | none => rw [hc] at hlt; cases hlt
  | some q =>
    obtain ⟨C, T, N⟩ := q
    rw [hc] at hlt hfin
    dsimp only at hfin
    have hk : kf < N := of_decide_eq_true hlt
    obtain ⟨u1', u2', hin, hnm, hty, hcn, hdecl, hdf⟩ := zu_all ci C T N hc
    have hw2 : dzFw (dzOc mid, k, ci, kf) = Cond.fieldLink (dzCn (dzOc mid)) k (T kf).1 (T kf).2.1 (T kf).2.2.1 := by
      unfold dzFw
      dsimp only
      rw [hc]
    rw [hw2, zt_oc_ok mid hmid] at hw
    have hlink := hts _ hw
    have hd := hty kf hk
    have hnf : narrow (zTy ci kf) v = v ∧ fits (zTy ci kf) v = true := by
      generalize zTy ci kf = ty at hkd
      cases v <;> cases ty <;> simp [dzKd, dzTk0] at hkd hk0 <;> exact ⟨rfl, rfl⟩
    have hat := (hg.1.2 a _ hf)
    obtain ⟨r0, h1, cell, q1, q2, q3, q4⟩ := hat.2
    have hr : r0 = (C, T, N) := Option.some.inj (h1.symm.trans hc)
    subst hr
    have hap := va_apart (own := (dzY mid).cls) hts hin (zTy ci) hty hnm hK.1 hc
    obtain ⟨hS, hfc, kC, hkC, hkind⟩ := hK.1.1 ci _ hc
    obtain ⟨cf, kf', fi, f, hi, hsl⟩ := hS kf hk
    have hst := (u_facts hfc hkC (u_lays hts hin hk) hi).1
    have hlay := hts _ (hin _ (u_in_lay hk))
    unfold u_lay at hlay
    cases hfl : (T kf).2.2.2 with
    | false =>
      rw [if_neg (by rw [hfl]; decide)] at hlay
      have h6 := u_store hfc hkC hkind hlay hi hd hnf.1 hnf.2
      refine W.putK hexec hb (f := f) ⟨hown, hlink, ⟨_, _, _, hi⟩, hst⟩ (by rw [q2]; exact h6) q1 q3 (by rw [hsl]; exact k2_hasslot (q4 kf hk)) rfl rfl hdg fun H' e1 e2 e3 => ?_
      rw [hsl] at e1 ⊢
      exact kk H' _ (hg.put e2 e3 hat.1 ⟨hat.1, _, hc, t_OB.to (V := updV (vp_V fs) kf v) ⟨_, e1, q2, q3, t_set q4 hap hk v⟩ (fun j _ => vp_updV_set hl v j)⟩)
    | true =>
      rw [if_pos hfl] at hlay
      rw [hfl] at hfin
      simp only [Bool.not_true, Bool.false_or, Bool.and_eq_true, decide_eq_true_eq] at hfin
      have eci : ci = dzOc mid := Nat.eq_of_beq_eq_true hfin.2
      have hT1 : (T kf).1 = (dzY mid).cls := by rw [hdecl kf hk, ← zt_oc_ok mid hmid, ← eci]; exact hcn.symm
      have hcf : m.cls = cf := by
        obtain ⟨_, _, c', _, _, _, -, -, hf', -, -, -, hown2, -⟩ := Cond.laysFinal_spec hlay
        have e1 : c' = cf := by have := hi.symm.trans hf'; simp at this; exact this.1.symm
        rw [hT1] at hown2
        rw [← e1]; exact Option.some.inj (hown.symm.trans hown2)
      have h6 := u_fits hfc hkC hkind (Or.inr hlay) hi hd hnf.1 hnf.2
      refine W.putFinK hexec hb hown hlink hi hst hcf (hn hfin.1) (by rw [q2]; exact h6) q1 q3 (by rw [hsl]; exact k2_hasslot (q4 kf hk)) rfl rfl hdg fun H' e1 e2 e3 => ?_
      rw [hsl] at e1 ⊢
      exact kk H' _ (hg.put e2 e3 hat.1 ⟨hat.1, _, hc, t_OB.to (V := updV (vp_V fs) kf v) ⟨_, e1, q2, q3, t_set q4 hap hk v⟩ (fun j _ => vp_updV_set hl v j)⟩)
theorem dz_iald (hx : dzCx D tI tA mid p s m args meth c) {pc a : Nat} {j x : Int32} {ls : Array Slot} {rest : List Value} {H : Heap} {locs : List Loc} {u1 u2 : Nat} {h : dzH} (hdg : decode (dzBy mid) pc = .ok (.iaload, 1)) (hg : dzG B D tI tA s h H locs) (hf : drI h a j = some x)
    (kk : W p l e (dzRm mid) s m args below meth c H locs u1 u2 Q (F0 m (pc + 1) ls (.int x :: rest))) : W p l e (dzRm mid) s m args below meth c H locs u1 u2 Q (F0 m pc ls (.int j :: .ref a :: rest)) := by
  obtain ⟨hexec, hb, hml, hn, hown, hts, hK, hmid⟩ := hx
  unfold drI at hf
  split at hf
  · rename_i n f ea
    split at hf
    · rename_i hin
      cases hf
      exact va_iald (D := D) (cl := zCl) (tys := [(tI, .int), (tA, .array .int)]) (ws := [(a, .inl (tI, n, .inl f))]) hexec hb hK.1 (va_P.one (hg.1.2 a _ ea).2) 0 0 rfl rfl hin hdg kk
    · cases hf
  · rename_i n f ea
    split at hf
    · rename_i hin
      cases hf
      obtain ⟨scr, g1, g2, g3, g4, g5⟩ := (hg.1.2 a _ ea).2
      have hlt : j.toNatClampNeg < n := Nat.not_le.mp fun q => hin (Or.inr q)
      exact W.iald (v := .int (f j.toNatClampNeg)) hexec hb g1 g2 g3 (by rw [g4]; exact hin) (g5 _ hlt) rfl rfl hdg kk
    · cases hf
  · cases hf
theorem dz_aald (hx : dzCx D tI tA mid p s m args meth c) {pc a x : Nat} {j : Int32} {ls : Array Slot} {rest : List Value} {H : Heap} {locs : List Loc} {u1 u2 : Nat} {h : dzH} (hdg : decode (dzBy mid) pc = .ok (.aaload, 1)) (hg : dzG B D tI tA s h H locs) (hf : drA h a j = some x)
    (kk : W p l e (dzRm mid) s m args below meth c H locs u1 u2 Q (F0 m (pc + 1) ls (.ref x :: rest))) : W p l e (dzRm mid) s m args below meth c H locs u1 u2 Q (F0 m pc ls (.int j :: .ref a :: rest)) := by
  obtain ⟨hexec, hb, hml, hn, hown, hts, hK, hmid⟩ := hx
  unfold drA at hf
  split at hf
  · rename_i n f ea
    split at hf
    · rename_i hin
      have hlt : j.toNatClampNeg < n := Nat.not_le.mp fun q => hin (Or.inr q)
      exact W.aald (v := .ref x) (ty := .array .int) hexec hb (hg.1.2 a _ ea).2 ((hK.1.2 1 _ rfl).1 n (fun j => va_rf (f j))) rfl (fun q => by cases q) (by show ¬ (j < 0 ∨ (arrV _ _ _).slots.size ≤ _); rw [arrV_size]; exact hin) (by show (arrV _ _ _).slots[_]? = _; rw [arrV_read _ _ hlt, hf]; rfl) rfl rfl hdg kk
    · cases hf
  · cases hf
theorem dz_alen (hx : dzCx D tI tA mid p s m args meth c) {pc a : Nat} {x : Int32} {ls : Array Slot} {rest : List Value} {H : Heap} {locs : List Loc} {u1 u2 : Nat} {h : dzH} (hdg : decode (dzBy mid) pc = .ok (.arraylength, 1)) (hg : dzG B D tI tA s h H locs) (hf : dln h a = some x)
    (kk : W p l e (dzRm mid) s m args below meth c H locs u1 u2 Q (F0 m (pc + 1) ls (.int x :: rest))) : W p l e (dzRm mid) s m args below meth c H locs u1 u2 Q (F0 m pc ls (.ref a :: rest)) := by
  obtain ⟨hexec, hb, hml, hn, hown, hts, hK, hmid⟩ := hx
  unfold dln at hf
  split at hf
  · rename_i n f ea
    cases hf
    exact va_alen (D := D) (cl := zCl) (tys := [(tI, .int), (tA, .array .int)]) (ws := [(a, .inl (tI, n, .inl f))]) hexec hb hK.1 (va_P.one (hg.1.2 a _ ea).2) 0 0 rfl rfl rfl hdg kk
  · rename_i n f ea
    cases hf
    exact va_alen (D := D) (cl := zCl) (tys := [(tI, .int), (tA, .array .int)]) (ws := [(a, .inl (tA, n, .inr (.inr (.inr (.inr f)))))]) hexec hb hK.1 (va_P.one (hg.1.2 a _ ea).2) 0 1 rfl rfl rfl hdg kk
  · rename_i n f ea
    cases hf
    obtain ⟨scr, g1, g2, g3, g4, g5⟩ := (hg.1.2 a _ ea).2
    exact W.alen (n := Int32.ofNat n) hexec hb g1 g2 (by rw [g4] <;> rfl) rfl rfl hdg kk
  · cases hf
theorem dz_iast (hx : dzCx D tI tA mid p s m args meth c) {pc a : Nat} {j x : Int32} {ls : Array Slot} {rest : List Value} {H : Heap} {locs : List Loc} {u1 u2 : Nat} {h h1 : dzH} (hdg : decode (dzBy mid) pc = .ok (.iastore, 1)) (hg : dzG B D tI tA s h H locs) (hf : dwI h a j x = some h1)
    (kk : ∀ (H1 : Heap) (locs1 : List Loc), dzG B D tI tA s h1 H1 locs1 → W p l e (dzRm mid) s m args below meth c H1 locs1 u1 u2 Q (F0 m (pc + 1) ls rest)) : W p l e (dzRm mid) s m args below meth c H locs u1 u2 Q (F0 m pc ls (.int x :: .int j :: .ref a :: rest)) := by
  obtain ⟨hexec, hb, hml, hn, hown, hts, hK, hmid⟩ := hx
  unfold dwI at hf
  split at hf
  · rename_i n f ea
    split at hf
    · rename_i hin
      cases hf
      have hat := hg.1.2 a _ ea
      refine W.iast hexec hb hat.2 ((hK.1.2 0 _ rfl).1 n (fun j => .int (f j))) (fun q => by cases q) (by show ¬ (j < 0 ∨ (arrV _ _ _).slots.size ≤ _); rw [arrV_size]; exact hin) rfl rfl hdg fun H1 e1 z oq => ?_
      refine kk H1 _ (hg.put z oq hat.1 ⟨hat.1, ?_⟩)
      rw [e1, vp_cell_i, vp_cell_i, arrV_store]
      congr 2
      funext q
      by_cases hq : q = j.toNatClampNeg
      · subst hq
        simp [updV, upd]
      · simp [updV, upd, hq]
    · cases hf
  · cases hf
end DZ1
end
section
/-! calls, copies, new cells -/
section DZ2
variable {p : Program} {l : Launch} {e : Env} {s : State} {m : MethodId} {args : Array Value} {below : List Frame} {meth : Method} {c : Code}
variable {B : Nat} {D : va_G} {tI tA : ClassId} {mid : Nat} {Q : State → Prop}
set_option maxHeartbeats 2000000 in
theorem dz_copy (hx : dzCx D tI tA mid p s m args meth c) {pc k a b : Nat} {sp dp n : Int32} {ls : Array Slot} {rest : List Value} {H : Heap} {locs : List Loc} {u1 u2 : Nat} {h h1 : dzH} (hm : dzQ2 zl_a (dzOc mid) k = true) (hfr : 1 ≤ dzFr mid) (hlo : 40 ≤ dzLo mid) (hdg : decode (dzBy mid) pc = .ok (.invokestatic k, 3)) (hsum : (rest.map fun v => v.category).sum ≤ 8) (hsz : ls.size = dzMx mid) (hg : dzG B D tI tA s h H locs) (hf : dcp h a sp b dp n = some h1)
    (kk : ∀ (H1 : Heap) (locs1 : List Loc), dzG B D tI tA s h1 H1 locs1 → W p l e (dzRm mid) s m args below meth c H1 locs1 u1 u2 Q (F0 m (pc + 3) ls rest)) : W p l e (dzRm mid) s m args below meth c H locs u1 u2 Q (F0 m pc ls (.int n :: .int dp :: .ref b :: .int sp :: .ref a :: rest)) := by
  obtain ⟨hexec, hb, hml, hn, hown, hts, hK, hmid⟩ := hx
  have hw := zl_a_ok _ (dzQ2_mem hm)
  dsimp only at hw
  rw [zt_oc_ok mid hmid] at hw
  unfold dcp at hf
  split at hf
  · rename_i n0 f n1 g ea eb
    split at hf
    · rename_i hcond
      obtain ⟨h1', h2', h3', h4', h5'⟩ := hcond
      cases hf
      have hata := hg.1.2 a _ ea
      have hatb := hg.1.2 b _ eb
      have nn : ∀ z : Int32, ¬ z < 0 → z.toInt = (z.toNatClampNeg : Int) := by
        intro z hz
        have hz0 : (0 : Int) ≤ z.toInt := by
          have := Int32.not_lt.mp hz
          simpa using Int32.le_iff_toInt_le.mp this
        show z.toInt = ((z.toInt.toNat : Nat) : Int)
        omega
      intro T hT X
      have hc0 : H[a]? = some (vp_cell tI (n0, .inl f)) := hata.2
      have hc1 : H[b]? = some (vp_cell tI (n1, .inl g)) := hatb.2
      obtain ⟨-, k0, hk0, cm0, hkk0⟩ := (hK.1.2 0 _ rfl).1 n0 (fun j => .int (f j))
      obtain ⟨-, k1, hk1, cm1, hkk1⟩ := (hK.1.2 0 _ rfl).1 n1 (fun j => .int (g j))
      obtain ⟨vm', X', step⟩ := X.arraycopy hexec hown (hts _ hw) (hts _ zs_ac.1) (hts _ zs_ac.2.1) (hts _ zs_ac.2.2) (src := a) (dst := b) (cs := vp_cell tI (n0, .inl f)) (cd := vp_cell tI (n1, .inl g)) (srcPos := sp) (destPos := dp) (n := n) (by rw [hT]; exact hc0) (by rw [hT]; exact hc1)
        (fun _ h => by cases h) (fun _ h => by cases h) (fun h => by cases h) (fun h => by cases h) hk0 hk1 hkk0 hkk1 (by rfl) h1' h2' h3'
        (by rw [nn sp h1', nn n h3']; show ¬ _ > ((arrV tI n0 (fun j => .int (f j))).slots.size : Int); rw [arrV_size]; omega)
        (by rw [nn dp h2', nn n h3']; show ¬ _ > ((arrV tI n1 (fun j => .int (g j))).slots.size : Int); rw [arrV_size]; omega)
        (fun vm₁ _ i hi => by
          have e : (vp_cell tI (n0, .inl f)).slots.getD (sp.toNatClampNeg + i) .null = .int (f (sp.toNatClampNeg + i)) := by
            show (arrV tI n0 (fun j => .int (f j))).slots.getD _ _ = _
            rw [Array.getD_eq_getD_getElem?, arrV_read _ _ (by omega)]
            rfl
          refine ⟨?_, ?_⟩
          · rw [e]; rfl
          · rw [e]; exact trivial)
        (g := F0 m pc ls (.int n :: .int dp :: .ref b :: .int sp :: .ref a :: rest)) rfl (by rw [hml]; exact hsz) (rest := rest) rfl (by rw [hb]; exact hdg) hfr (by
          show 2 * 0 + (rest.map fun v => v.category).sum + (nativeFrameWords "java/lang/System" "arraycopy" 5 + 11) ≤ dzLo mid
          have e9 : nativeFrameWords "java/lang/System" "arraycopy" 5 ≤ 21 := by decide +kernel
          omega)
      have e1 : copied (vp_cell tI (n0, .inl f)) (vp_cell tI (n1, .inl g)) sp dp n = vp_cell tI (n1, .inl (va_cpy f g sp.toNatClampNeg dp.toNatClampNeg n.toNatClampNeg)) := va_copied (fun z => .int z) tI tI f g h4'
      rw [e1] at X' step
      have hl : b < H.size := (Array.getElem?_eq_some_iff.mp hc1).1
      have hheap : ((T.setVm vm').setCell b (vp_cell tI (n1, .inl (va_cpy f g sp.toNatClampNeg dp.toNatClampNeg n.toNatClampNeg)))).heap = H.setIfInBounds b (vp_cell tI (n1, .inl (va_cpy f g sp.toNatClampNeg dp.toNatClampNeg n.toNatClampNeg))) := by rw [← hT]; rfl
      have oq : ∀ q : Nat, q ≠ b → (H.setIfInBounds b (vp_cell tI (n1, .inl (va_cpy f g sp.toNatClampNeg dp.toNatClampNeg n.toNatClampNeg))))[q]? = H[q]? := fun q hq => by simp [Array.getElem?_setIfInBounds, Ne.symm hq]
      obtain ⟨t, a1, b1⟩ := kk _ _ ⟨hg.1.up (by simp) oq ⟨hatb.1, by simp [hl]⟩, by simp; exact hg.2.1, fun q hq => by rw [oq q (by have := hatb.1; omega)]; exact hg.2.2.1 q hq, fun q hq => by
        rcases List.mem_append.mp hq with h | h
        · exact hg.2.2.2 q h
        · obtain ⟨z, -, hz⟩ := List.mem_map.mp h
          rw [← hz]
          exact hatb.1⟩ _ hheap X'
      exact ⟨t, step t a1, b1⟩
    · cases hf
  · cases hf
set_option maxHeartbeats 2000000 in
theorem dz_new (hx : dzCx D tI tA mid p s m args meth c) {pc k ci N : Nat} {C : String} {Tt : u_T} {ls : Array Slot} {rest : List Value} {H : Heap} {locs : List Loc} {u1 u2 : Nat} {h : dzH} (hB : B ≤ s.heap.size) (hm : dzQ3 zl_o (dzOc mid) k ci = true) (hc : zCl[ci]? = some (C, Tt, N)) (hdg : decode (dzBy mid) pc = .ok (.new k, 3)) (hc1 : u1 + 1 ≤ dzMc mid) (hs1 : u2 + N ≤ dzMs mid) (hg : dzG B D tI tA s h H locs)
    (kk : ∀ (H1 : Heap), dzG B D tI tA s (dnO h ci) H1 locs → W p l e (dzRm mid) s m args below meth c H1 locs (u1 + 1) (u2 + N) Q (F0 m (pc + 3) ls (.ref h.1 :: rest))) : W p l e (dzRm mid) s m args below meth c H locs u1 u2 Q (F0 m pc ls rest) := by
  obtain ⟨hexec, hb, hml, hn, hown, hts, hK, hmid⟩ := hx
  have hw := zl_o_ok _ (dzQ3_mem hm)
  dsimp only at hw
  obtain ⟨hi1, hi2, hin, hnm, hty, hcn, hdecl, hdf⟩ := zu_all ci C Tt N hc
  rw [zt_oc_ok mid hmid, hcn] at hw
  have hKn := hK.1.1 ci _ hc
  have eh : h.1 = H.size := hg.1.1
  refine W.newcK hexec hb hown (hts _ hw) (hts _ hi1) (hts _ hi2) rfl hdg hc1 hs1 hKn.2.1 rfl fun H1 kC hkC e1 z1 o1 => ?_
  have h2 := kk H1 ⟨hg.1.more (by show h.1 + 1 = _; rw [z1, eh]) o1 (fun a x hx => ?_), by rw [z1]; have := hg.2.1; omega, fun q hq => ?_, hg.2.2.2⟩
  · rw [eh] at h2
    exact h2
  · by_cases ea : a = h.1
    · right
      have e2 : some (eO ci (dzDef ci)) = some x := by rw [← hx]; show _ = va_up h.2 h.1 _ a; rw [ea, va_up_self]
      cases e2
      rw [ea, eh]
      exact ⟨by have := hg.2.1; omega, _, hc, (u_born (zTy ci) hts hin hKn hkC e1 hty).to hdf⟩
    · left
      have e2 : h.2 a = some x := by rw [← hx]; exact (va_up_ne _ _ ea).symm
      exact ⟨e2, (hg.1.2 a x e2).lt⟩
  · rw [o1 q (by have := hg.2.1; omega)]
    exact hg.2.2.1 q hq
set_option maxHeartbeats 2000000 in
theorem dz_newa (hx : dzCx D tI tA mid p s m args meth c) {pc : Nat} {n : Int32} {ls : Array Slot} {rest : List Value} {H : Heap} {locs : List Loc} {u1 u2 : Nat} {h h1 : dzH} (hB : B ≤ s.heap.size) (hdg : decode (dzBy mid) pc = .ok (.newarray .int, 2)) (hc1 : u1 + 1 ≤ dzMc mid) (hs1 : u2 + n.toNatClampNeg ≤ dzMs mid) (hg : dzG B D tI tA s h H locs) (hf : dnI h n = some h1)
    (kk : ∀ (H1 : Heap), dzG B D tI tA s h1 H1 locs → W p l e (dzRm mid) s m args below meth c H1 locs (u1 + 1) (u2 + n.toNatClampNeg) Q (F0 m (pc + 2) ls (.ref h.1 :: rest))) : W p l e (dzRm mid) s m args below meth c H locs u1 u2 Q (F0 m pc ls (.int n :: rest)) := by
  obtain ⟨hexec, hb, hml, hn, hown, hts, hK, hmid⟩ := hx
  have eh : h.1 = H.size := hg.1.1
  unfold dnI at hf
  split at hf
  · rename_i hcond
    cases hf
    have e9 : n.toNatClampNeg * componentBytes (newarray.typeOf .int) ≤ 536870912 := by
      have e8 : componentBytes (newarray.typeOf .int) = 4 := by decide
      rw [e8]
      omega
    have hai : (Cond.arrayClass (newarray.typeOf .int)).before args s = true := hts _ zs_ai
    refine va_newaK (atype := .int) hexec hb hai rfl hdg rfl hcond.1 rfl e9 hc1 hs1 rfl fun H1 cA e1 z1 o1 hAr hNm => ?_
    have ec : cA = tI := Option.some.inj (hNm.symm.trans (hK.1.2 0 _ rfl).2)
    subst ec
    have h2 := kk H1 ⟨hg.1.more (by show h.1 + 1 = _; rw [z1, eh]) o1 (fun a x hx => ?_), by rw [z1]; have := hg.2.1; omega, fun q hq => ?_, hg.2.2.2⟩
    · rw [eh] at h2
      exact h2
    · by_cases ea : a = h.1
      · right
        have e2 : some (eI n.toNatClampNeg (fun _ => 0)) = some x := by rw [← hx]; show _ = va_up h.2 h.1 _ a; rw [ea, va_up_self]
        cases e2
        rw [ea, eh]
        exact ⟨by have := hg.2.1; omega, e1⟩
      · left
        have e2 : h.2 a = some x := by rw [← hx]; exact (va_up_ne _ _ ea).symm
        exact ⟨e2, (hg.1.2 a x e2).lt⟩
    · rw [o1 q (by have := hg.2.1; omega)]
      exact hg.2.2.1 q hq
  · cases hf
theorem dz_outer (c : ClassId) (N h0 : Nat) : ∀ i : Nat, Jvm.Free.Multi.outerC c N h0 i = arrV c N (fun j => va_rf (if j < i then some (h0 + 1 + j) else none))
  | 0 => by
    show ({ cls := c, slots := Array.replicate N .null, vm := .none } : Cell) = _
    rw [arrV_new]
    exact congrArg (arrV c N) (funext fun j => by simp [va_rf])
  | i + 1 => by
    show (Jvm.Free.Multi.outerC c N h0 i).setSlot i (.ref (h0 + 1 + i)) = _
    rw [dz_outer c N h0 i, arrV_store]
    refine congrArg (arrV c N) (funext fun j => ?_)
    rcases Nat.lt_trichotomy j i with hj | hj | hj
    · simp [updV, Nat.ne_of_lt hj, hj, Nat.lt_succ_of_lt hj]
    · subst hj
      simp [updV, va_rf]
    · simp [updV, Nat.ne_of_gt hj, show ¬ j < i by omega, show ¬ j < i + 1 by omega]
theorem arrV_congr {c : ClassId} {n : Nat} {f g : Nat → Value} (h : ∀ i, i < n → f i = g i) : arrV c n f = arrV c n g := by
  unfold arrV
  congr 1
  apply Array.ext
  · simp
  · intro i h1 h2
    simp at h1
    simp [h i h1]
set_option maxHeartbeats 2000000 in
theorem dz_newm (hx : dzCx D tI tA mid p s m args meth c) {pc k : Nat} {n q : Int32} {ls : Array Slot} {rest : List Value} {H : Heap} {locs : List Loc} {u1 u2 : Nat} {h h1 : dzH} (hB : B ≤ s.heap.size) (hm : dzQ2 zl_m (dzOc mid) k = true) (hdg : decode (dzBy mid) pc = .ok (.multianewarray k 2, 4)) (hc1 : u1 + (1 + n.toNatClampNeg) ≤ dzMc mid) (hs1 : u2 + (n.toNatClampNeg + n.toNatClampNeg * q.toNatClampNeg) ≤ dzMs mid) (hg : dzG B D tI tA s h H locs) (hf : dnM h n q = some h1)
    (kk : ∀ (H1 : Heap), dzG B D tI tA s h1 H1 locs → W p l e (dzRm mid) s m args below meth c H1 locs (u1 + (1 + n.toNatClampNeg)) (u2 + (n.toNatClampNeg + n.toNatClampNeg * q.toNatClampNeg)) Q (F0 m (pc + 4) ls (.ref h.1 :: rest))) : W p l e (dzRm mid) s m args below meth c H locs u1 u2 Q (F0 m pc ls (.int q :: .int n :: rest)) := by
  obtain ⟨hexec, hb, hml, hn, hown, hts, hK, hmid⟩ := hx
  have hw := zl_m_ok _ (dzQ2_mem hm)
  dsimp only at hw
  rw [zt_oc_ok mid hmid] at hw
  have eh : h.1 = H.size := hg.1.1
  unfold dnM at hf
  split at hf
  · rename_i hcond
    cases hf
    intro T hT Xs
    have e9 : q.toNatClampNeg * componentBytes .int ≤ 536870912 := by
      have e8 : componentBytes .int = 4 := by decide
      rw [e8]
      omega
    have hov : (Cond.arrayOver (.array .int)).before args s = true := over_moved (Vm.Alike.refl _) hK.2.2
    obtain ⟨vm₁, cA, comp, -, fA, fC, hO, -, X', step⟩ := Xs.multianewarray2F (ty := .int) hexec hown (hts _ hw) hov (hts _ zs_ai) (g := F0 m pc ls (.int q :: .int n :: rest)) rfl (by rw [hb]; exact hdg) rfl hcond.1 hcond.2.1 (by omega) e9 (by omega) rfl rfl hc1 hs1
    have ecA : cA = tA := Option.some.inj (fA.symm.trans (hK.1.2 1 _ rfl).2)
    have ecI : comp = tI := Option.some.inj (fC.symm.trans (hK.1.2 0 _ rfl).2)
    subst ecA; subst ecI
    generalize hF : Jvm.Free.Multi.fill (T.setVm vm₁) cA comp n.toNatClampNeg q.toNatClampNeg (defaultValue .int) n.toNatClampNeg = F at X' step
    have hTh : (T.setVm vm₁).heap = H := hT
    obtain ⟨f1, f2, -, -⟩ := Jvm.Free.Multi.fill_facts (T.setVm vm₁) cA comp n.toNatClampNeg q.toNatClampNeg (defaultValue .int) n.toNatClampNeg
    rw [hF, hTh] at f1 f2
    have hold : ∀ x : Nat, x < H.size → F.heap[x]? = H[x]? := fun x hx => by
      have := Jvm.Free.Multi.fill_old (T.setVm vm₁) cA comp n.toNatClampNeg q.toNatClampNeg (defaultValue .int) (a := x) (by rw [hTh]; exact hx) n.toNatClampNeg
      rw [hF, hTh] at this
      exact this
    have hrow : ∀ j : Nat, j < n.toNatClampNeg → F.heap[H.size + 1 + j]? = some (vp_cell comp (q.toNatClampNeg, .inl (fun _ => 0))) := fun j hj => by
      have := Jvm.Free.Multi.fill_inner (T.setVm vm₁) cA comp n.toNatClampNeg q.toNatClampNeg (defaultValue .int) n.toNatClampNeg j hj
      rw [hF, hTh] at this
      rw [this, vp_cell_i, ← arrV_new]
      rfl
    have hout : F.heap[H.size]? = some (vp_cell cA (n.toNatClampNeg, .inr (.inr (.inr (.inr (fun i => some (H.size + 1 + i))))))) := by
      rw [f2, vp_cell_q, dz_outer]
      exact congrArg some (arrV_congr (fun i hi => by simp [hi]))
    have hgF : dzG B D comp cA s (h.1 + 1 + n.toNatClampNeg, fun q_1 => if q_1 = h.1 then some (eA n.toNatClampNeg (fun i => some (h.1 + 1 + i))) else if h.1 < q_1 ∧ q_1 ≤ h.1 + n.toNatClampNeg then some (eI q.toNatClampNeg (fun _ => 0)) else h.2 q_1) F.heap locs := by
      refine ⟨hg.1.more (by show h.1 + 1 + n.toNatClampNeg = _; rw [f1, eh]) hold (fun a x hx => ?_), by rw [f1]; have := hg.2.1; omega, fun x hx => ?_, hg.2.2.2⟩
      · dsimp only at hx
        by_cases ea : a = h.1
        · right
          rw [if_pos ea] at hx
          cases hx
          rw [ea, eh]
          exact ⟨by have := hg.2.1; omega, hout⟩
        · rw [if_neg ea] at hx
          by_cases eb : h.1 < a ∧ a ≤ h.1 + n.toNatClampNeg
          · right
            rw [if_pos eb] at hx
            cases hx
            refine ⟨by have := hg.2.1; omega, ?_⟩
            have := hrow (a - H.size - 1) (by omega)
            rw [show H.size + 1 + (a - H.size - 1) = a by omega] at this
            exact this
          · left
            rw [if_neg eb] at hx
            exact ⟨hx, (hg.1.2 a x hx).lt⟩
      · rw [hold x (by have := hg.2.1; omega)]
        exact hg.2.2.1 x hx
    obtain ⟨t, a1, b1⟩ := kk F.heap hgF F rfl (by rw [Nat.add_assoc, Nat.add_assoc] at X'; exact X')
    refine ⟨t, step t ?_, b1⟩
    rw [eh, ← hT] at a1
    exact a1
  · cases hf
end DZ2
end
section
/-! calls -/
theorem zl_c_lt : ∀ q ∈ zl_c, q.2.2 < dzN := by decide +kernel
theorem zl_n_lt : ∀ q ∈ zl_n, q.2.2 < dzN := by decide +kernel
theorem dzGW_good {w : Cond} (h : w ∈ dzGW) : (w.onTables && w.keeps) = true ∨ ∃ ty, w = .arrayClass ty := good_of_word (List.mem_filter.mp h).2
theorem dzWs_good {cid : Nat} (h : Cond.code (dzY cid) (dzBy cid) (dzMx cid) (dzRt cid) ∈ dzGW) : GoodIn dzGW (dzWs cid) := by
  intro w hw
  rcases List.mem_cons.mp hw with rfl | hw
  · exact ⟨h, dzGW_good h⟩
  · exact ⟨hw, dzGW_good hw⟩
/-- the call's link: of the same nest's private method, or any other -/
def dzLk (mid k cid : Nat) : Prop := (dzOc mid, k, cid) ∈ zl_c ∨ (dzOc mid, k, cid) ∈ zl_n
theorem dzLk_lt {mid k cid : Nat} (h : dzLk mid k cid) : cid < dzN := by
  rcases h with h | h
  · exact zl_c_lt _ h
  · exact zl_n_lt _ h
section DZ3
variable {p : Program} {l : Launch} {e : Env} {s : State} {m : MethodId} {args : Array Value} {below : List Frame} {meth : Method} {c : Code}
variable {B : Nat} {D : va_G} {tI tA : ClassId} {mid : Nat} {Q : State → Prop}
theorem dz_pre (hK : dzKn D tI tA s) (hB : B ≤ s.heap.size) {H : Heap} {locs : List Loc} {h : dzH} (hg : dzG B D tI tA s h H locs) (av : List Value) : PreS s H (dzPr B D tI tA av h) av :=
  ⟨dzPr.blind, fun U hU hW => ⟨rfl, hK.warm hW, by rw [hU]; exact hg.1.moved hW.alike, by rw [hU]; exact Nat.le_trans hB hg.2.1⟩⟩
theorem dzFit_of {mid cid : Nat} {u : Nat × Nat} (h : dzFit mid cid u = true) : (dzFr cid + 1 ≤ dzFr mid ∧ 8 + (dzMx cid + 11) + dzLo cid ≤ dzLo mid) ∧ u.1 + dzMc cid ≤ dzMc mid ∧ u.2 + dzMs cid ≤ dzMs mid := by
  unfold dzFit at h
  simp only [Bool.and_eq_true] at h
  exact ⟨⟨Nat.le_of_ble_eq_true h.1.1.1, Nat.le_of_ble_eq_true h.1.1.2⟩, Nat.le_of_ble_eq_true h.1.2, Nat.le_of_ble_eq_true h.2⟩
set_option maxHeartbeats 4000000 in
theorem dz_call (hx : dzCx D tI tA mid p s m args meth c) (hB : B ≤ s.heap.size) {C : dzCt} (hC : dzOkC l B D tI tA C) {pc k cid : Nat} {av rest S : List Value} {q : dzR} {ls : Array Slot} {H : Heap} {locs : List Loc} {u : Nat × Nat} {h : dzH}
    (hcall : C cid av h = some q) (hlk : dzLk mid k cid)
    (hi : (decode (dzBy mid) pc = .ok (.invokestatic k, 3) ∧ dzKn0 cid = 0 ∧ dzPn cid = some av.length) ∨ (decode (dzBy mid) pc = .ok (.invokevirtual k, 3) ∧ (dzOc mid, k, cid) ∈ zl_c ∧ dzKn0 cid = 1 ∧ (dzPn cid).map (· + 1) = some av.length) ∨ (decode (dzBy mid) pc = .ok (.invokespecial k, 3) ∧ dzKn0 cid = 2 ∧ (dzPn cid).map (· + 1) = some av.length ∧ dzRt cid = none))
    (hfit : dzFit mid cid u = true) (hsum : (rest.map fun v => v.category).sum ≤ 8) (hS : S = av.reverse ++ rest) (hsz : ls.size = dzMx mid) (hg : dzG B D tI tA s h H locs)
    (kk : ∀ (H1 : Heap) (locs1 : List Loc), dzG B D tI tA s q.2 H1 locs1 → W p l e (dzRm mid) s m args below meth c H1 locs1 (u.1 + dzMc cid) (u.2 + dzMs cid) Q (F0 m (pc + 3) ls (q.1.toList ++ rest))) : W p l e (dzRm mid) s m args below meth c H locs u.1 u.2 Q (F0 m pc ls S) := by
  obtain ⟨hexec, hb, hml, hn, hown, hts, hK, hmid⟩ := hx
  have hcid := dzLk_lt hlk
  have hk9 : dzKn0 cid ≠ 9 := by
    rcases hi with ⟨-, h1, -⟩ | ⟨-, -, h1, -⟩ | ⟨-, h1, -⟩ <;> rw [h1] <;> decide
  obtain ⟨hM, hrc⟩ := hC cid av h q hcall hcid hk9
  have hmw := zm_all cid hcid hk9
  obtain ⟨hcw, hiw, hpl, hnh, hkw⟩ := hmw
  have hG := dzWs_good hcw
  obtain ⟨hR, hf1, hf2⟩ := dzFit_of hfit
  have hpre := dz_pre hK hB hg av
  subst hS
  refine dz_cont (h := h) (r := q.1) (h' := q.2) (a := av.toArray) ?_ hg kk
  have hlinkc : (dzOc mid, k, cid) ∈ zl_c → (Cond.methodLink (dzY mid).cls k (dzY cid)).before args s = true := fun hm => by
    have hw := zl_c_ok _ hm
    dsimp only at hw
    rw [zt_oc_ok mid hmid] at hw
    exact hts _ hw
  have hlinkn : (dzOc mid, k, cid) ∈ zl_n → va_Nw (.methodLinkNest (dzY mid).cls k (dzY cid) "PrimeCertificates") s := fun hm => by
    have hw := hK.2.1 _ hm
    unfold dzNw at hw
    dsimp only at hw
    rw [zt_oc_ok mid hmid] at hw
    exact hw
  rcases hi with ⟨hdg, hkd, hpn⟩ | ⟨hdg, hmem, hkd, hpn⟩ | ⟨hdg, hkd, hpn, hret⟩
  · rw [hkd] at hkw
    rcases hlk with hm | hm
    · exact va_runS (n := av.length) ⟨hexec, hb, hml, hown, hts⟩ hM ⟨callB_of av.length hts hG rfl rfl rfl (hts _ hiw) (hlinkc hm) ⟨hnh.1, hnh.2, hpn⟩ hR, hts _ hkw⟩ hpre rfl rfl hsz rfl (lv_room hsum) hdg ⟨hf1, hf2⟩
    · exact va_runSN (n := av.length) ⟨hexec, hb, hml, hown, hts⟩ hM ⟨va_cnB av.length hts hG rfl rfl rfl (hlinkn hm) (hts _ hiw) ⟨hnh.1, hnh.2, hpn⟩ hR, hts _ hkw, trivial⟩ hpre rfl rfl hsz rfl (lv_room hsum) hdg ⟨hf1, hf2⟩
  · rw [hkd] at hkw
    have hrv := zt_rcv_ok cid hcid (by rw [hkd]; decide) hk9
    obtain ⟨a, as, fs, rfl, ha⟩ := hrc _ hrv
    have hpn2 : dzPn cid = some as.length := by
      cases hp : dzPn cid with
      | none => rw [hp] at hpn; cases hpn
      | some z =>
        rw [hp] at hpn
        have e9 : z + 1 = as.length + 1 := Option.some.inj hpn
        congr 1
        omega
    have hat := hg.1.2 a _ ha
    obtain ⟨⟨Cn, Tt, N⟩, hc, -⟩ := hat.2
    obtain ⟨-, -, -, -, -, hcn, -, -⟩ := zu_all _ Cn Tt N hc
    have hrec := va_recv hK.1 (va_P.one hat.2) hc (q0 := 0) rfl
    dsimp only at hrec
    rw [← hcn, zt_oc_ok cid hcid] at hrec
    exact va_runV (n := as.length) ⟨hexec, hb, hml, hown, hts⟩ hM ⟨callB_of as.length hts hG rfl rfl rfl (hts _ hiw) (hlinkc hmem) ⟨hnh.1, hnh.2, hpn2⟩ hR, hts _ hkw.1, hts _ hkw.2⟩ ⟨hpre.1, hrec, hpre.2⟩ rfl rfl hsz (by simp) (lv_room hsum) hdg ⟨hf1, hf2⟩
  · rw [hkd] at hkw
    have hrv := zt_rcv_ok cid hcid (by rw [hkd]; decide) hk9
    obtain ⟨a, as, fs, rfl, ha⟩ := hrc _ hrv
    have hpn2 : dzPn cid = some as.length := by
      cases hp : dzPn cid with
      | none => rw [hp] at hpn; cases hpn
      | some z =>
        rw [hp] at hpn
        have e9 : z + 1 = as.length + 1 := Option.some.inj hpn
        congr 1
        omega
    have hwr : dzWs cid = Cond.code (dzY cid) (dzBy cid) (dzMx cid) none :: dzGW := by
      unfold dzWs
      rw [hret]
    rcases hlk with hm | hm
    · exact va_runI (n := as.length) ⟨hexec, hb, hml, hown, hts⟩ hM ⟨callB_of as.length hts hG hwr rfl rfl (hts _ hiw) (hlinkc hm) ⟨hnh.1, hnh.2, hpn2⟩ hR, hkw.2, hts _ hkw.1⟩ hpre rfl rfl hsz (by simp) (lv_room hsum) hdg ⟨hf1, hf2⟩
    · exact va_runIN (n := as.length) ⟨hexec, hb, hml, hown, hts⟩ hM ⟨va_cnB as.length hts hG hwr rfl rfl (hlinkn hm) (hts _ hiw) ⟨hnh.1, hnh.2, hpn2⟩ hR, hkw.2, hts _ hkw.1⟩ hpre rfl rfl hsz (by simp) (lv_room hsum) hdg ⟨hf1, hf2⟩
end DZ3
end
section
/-! one row of the tables -/
section DZ4
variable {p : Program} {l : Launch} {e : Env} {s : State} {m : MethodId} {args : Array Value} {below : List Frame} {meth : Method} {c : Code}
variable {B : Nat} {D : va_G} {tI tA : ClassId} {mid : Nat} {Q : State → Prop} {r : Option Value} {h' : dzH}
theorem dzIn_has {ls : Array Slot} {n i : Nat} {v : Value} {L L0 : dzL} (h : lv_has ls n ((i, v) :: L0)) (e : L = dzIn i v L0) : lv_has ls n L := by
  subst e
  exact h.less (fun q hq => dzIn_mem hq)
theorem dz_sw {K : Nat → Option dzR} {x : Int32} {qq : dzR} {dflt : Nat} : ∀ {sw : List (Int32 × Nat)}, dzSw x K sw dflt = some qq → (∃ k : Nat, ∃ q, sw[k]? = some q ∧ x = q.1 ∧ K q.2 = some qq) ∨ ((∀ q ∈ sw, x ≠ q.1) ∧ K dflt = some qq)
  | [], h => Or.inr ⟨fun q hq => (by cases hq), h⟩
  | (c0, t) :: rr, h => by
    unfold dzSw at h
    split at h
    · rename_i e0
      exact Or.inl ⟨0, (c0, t), rfl, e0, h⟩
    · rename_i e0
      rcases dz_sw h with ⟨k, q, h1, h2, h3⟩ | ⟨h1, h2⟩
      · exact Or.inl ⟨k + 1, q, h1, h2, h3⟩
      · refine Or.inr ⟨fun q hq => ?_, h2⟩
        rcases List.mem_cons.mp hq with rfl | hq
        · exact e0
        · exact h1 q hq
theorem dzSwOk_at {pc : Nat} : ∀ {lo : Int} {os : List Int} {sw : List (Int32 × Nat)}, dzSwOk pc lo os sw = true → os.length = sw.length ∧ ∀ (k : Nat) (q : Int32 × Nat), sw[k]? = some q → q.1.toInt = lo + k ∧ ∃ o1, os[k]? = some o1 ∧ (pc : Int) + o1 = (q.2 : Int)
  | lo, [], [], _ => ⟨rfl, fun k q h => by cases h⟩
  | lo, [], _ :: _, h => by simp [dzSwOk] at h
  | lo, _ :: _, [], h => by simp [dzSwOk] at h
  | lo, o1 :: os, (c0, t) :: rr, h => by
    simp only [dzSwOk, Bool.and_eq_true, decide_eq_true_eq] at h
    obtain ⟨⟨h1, h2⟩, h3⟩ := h
    obtain ⟨g1, g2⟩ := dzSwOk_at h3
    refine ⟨by simp [g1], fun k q hq => ?_⟩
    cases k with
    | zero =>
      cases hq
      exact ⟨by rw [h1]; simp, o1, rfl, h2⟩
    | succ k =>
      obtain ⟨g3, g4⟩ := g2 k q hq
      refine ⟨by rw [g3]; omega, g4⟩
theorem zTy_ne : ∀ (q : Nat × Nat × Nat × Nat), q ∈ zl_f → dzTk0 (zTy q.2.2.1 q.2.2.2) ≠ 0 := by decide +kernel
set_option maxHeartbeats 4000000 in
theorem dz_inv (hx : dzCx D tI tA mid p s m args meth c) (hB : B ≤ s.heap.size) {K : dzKt} {C : dzCt} (hK : dzOkK p l e s m args below meth c B D tI tA mid Q r h' K) (hC : dzOkC l B D tI tA C)
    {pc k : Nat} {L : dzL} {S : List Value} {u : Nat × Nat} {h : dzH} {v : Value} {sw : List (Int32 × Nat)} {pl : List Nat} (hlk : dzLk mid k (dzPl pl 0))
    (hi : ∀ av : List Value, av.length = dzPl pl 1 → (decode (dzBy mid) pc = .ok (.invokestatic k, 3) ∧ dzKn0 (dzPl pl 0) = 0 ∧ dzPn (dzPl pl 0) = some av.length) ∨ (decode (dzBy mid) pc = .ok (.invokevirtual k, 3) ∧ (dzOc mid, k, (dzPl pl 0)) ∈ zl_c ∧ dzKn0 (dzPl pl 0) = 1 ∧ (dzPn (dzPl pl 0)).map (· + 1) = some av.length) ∨ (decode (dzBy mid) pc = .ok (.invokespecial k, 3) ∧ dzKn0 (dzPl pl 0) = 2 ∧ (dzPn (dzPl pl 0)).map (· + 1) = some av.length ∧ dzRt (dzPl pl 0) = none))
    (hd : dz1 mid K C (pc + 3) L S u h (.invokestatic 0) v sw pl = some (r, h')) (hu1 : u.1 ≤ dzMc mid) (hu2 : u.2 ≤ dzMs mid)
    {ls : Array Slot} {H : Heap} {locs : List Loc} (hl : lv_has ls (dzMx mid) L) (hg : dzG B D tI tA s h H locs) : W p l e (dzRm mid) s m args below meth c H locs u.1 u.2 Q (F0 m pc ls S) := by
  simp only [dz1] at hd
  split at hd
  · rename_i av rr etk
    obtain ⟨t, e1, e2, e3⟩ := dzTk_of etk
    rw [List.append_nil] at e1
    subst e1
    split at hd
    · rename_i hc1
      simp only [Bool.and_eq_true] at hc1
      obtain ⟨hfit, hsum⟩ := hc1
      have hsum' := Nat.le_of_ble_eq_true hsum
      have hf := dzFit_of hfit
      split at hd
      · obtain ⟨h1, hx1, hd⟩ := Option.bind_eq_some_iff.mp hd
        have e4 : C (dzPl pl 0) av h = some (none, h1) := by
          unfold dzRV at hx1
          split at hx1
          · rename_i hc; rw [hc]; cases hx1; rfl
          · cases hx1
        exact dz_call hx hB hC e4 hlk (hi av e3) hfit hsum' e2 hl.1 hg (fun H1 locs1 hg1 => hK _ _ _ _ _ hd hf.2.1 hf.2.2 ls H1 locs1 hl hg1)
      · obtain ⟨q, hx1, hd⟩ := Option.bind_eq_some_iff.mp hd
        have e4 : C (dzPl pl 0) av h = some (some (.int q.1), q.2) := by
          unfold dzRI at hx1
          split at hx1
          · rename_i hc; rw [hc]; cases hx1; rfl
          · cases hx1
        exact dz_call hx hB hC e4 hlk (hi av e3) hfit hsum' e2 hl.1 hg (fun H1 locs1 hg1 => hK _ _ _ _ _ hd hf.2.1 hf.2.2 ls H1 locs1 hl hg1)
      · obtain ⟨q, hx1, hd⟩ := Option.bind_eq_some_iff.mp hd
        have e4 : C (dzPl pl 0) av h = some (some (.long q.1), q.2) := by
          unfold dzRJ at hx1
          split at hx1
          · rename_i hc; rw [hc]; cases hx1; rfl
          · cases hx1
        exact dz_call hx hB hC e4 hlk (hi av e3) hfit hsum' e2 hl.1 hg (fun H1 locs1 hg1 => hK _ _ _ _ _ hd hf.2.1 hf.2.2 ls H1 locs1 hl hg1)
      · obtain ⟨q, hx1, hd⟩ := Option.bind_eq_some_iff.mp hd
        have e4 : C (dzPl pl 0) av h = some (some (.ref q.1), q.2) := by
          unfold dzRA at hx1
          split at hx1
          · rename_i hc; rw [hc]; cases hx1; rfl
          · cases hx1
        exact dz_call hx hB hC e4 hlk (hi av e3) hfit hsum' e2 hl.1 hg (fun H1 locs1 hg1 => hK _ _ _ _ _ hd hf.2.1 hf.2.2 ls H1 locs1 hl hg1)
      · cases hd
    · cases hd
  · cases hd
set_option maxHeartbeats 8000000 in
theorem dz_step (hx : dzCx D tI tA mid p s m args meth c) (hB : B ≤ s.heap.size) {K : dzKt} {C : dzCt} (hK : dzOkK p l e s m args below meth c B D tI tA mid Q r h' K) (hC : dzOkC l B D tI tA C) (hE : dzOkE p l e s m args below meth c B D tI tA mid Q r h')
    {pc nx : Nat} {L : dzL} {S : List Value} {u : Nat × Nat} {h : dzH} {i : dzIns} {v : Value} {sw : List (Int32 × Nat)} {pl : List Nat} (hck : dzCk mid (pc, nx, i, v, sw, pl) = true) (hd : dz1 mid K C nx L S u h i v sw pl = some (r, h')) (hu1 : u.1 ≤ dzMc mid) (hu2 : u.2 ≤ dzMs mid)
    {ls : Array Slot} {H : Heap} {locs : List Loc} (hl : lv_has ls (dzMx mid) L) (hg : dzG B D tI tA s h H locs) : W p l e (dzRm mid) s m args below meth c H locs u.1 u.2 Q (F0 m pc ls S) := by
  have hx0 := hx
  obtain ⟨hexec, hb, hml, hn, hown, hts, hKn, hmid⟩ := hx
  unfold dzCk at hck
  dsimp only at hck
  split at hck
  case h_2 => cases hck
  rename_i ins len hdg
  simp only [Bool.and_eq_true] at hck
  obtain ⟨⟨hnx, hln⟩, hmt⟩ := hck
  have enx : nx = pc + len := Nat.eq_of_beq_eq_true hnx
  subst enx
  cases ins
  case iconst k =>
    have eln : len = 1 := Nat.eq_of_beq_eq_true hln
    subst eln
    simp only [dzMt, Bool.and_eq_true, decide_eq_true_eq] at hmt
    obtain ⟨rfl, rfl⟩ := hmt
    exact lv_iconst hexec hb hdg rfl (hK _ _ _ _ _ hd hu1 hu2 ls H locs hl hg)
  case bipush k =>
    have eln : len = 2 := Nat.eq_of_beq_eq_true hln
    subst eln
    simp only [dzMt, Bool.and_eq_true, decide_eq_true_eq] at hmt
    obtain ⟨rfl, rfl⟩ := hmt
    exact lv_bipush hexec hb hdg rfl (hK _ _ _ _ _ hd hu1 hu2 ls H locs hl hg)
  case sipush k =>
    have eln : len = 3 := Nat.eq_of_beq_eq_true hln
    subst eln
    simp only [dzMt, Bool.and_eq_true, decide_eq_true_eq] at hmt
    obtain ⟨rfl, rfl⟩ := hmt
    exact lv_sipush hexec hb hdg rfl (hK _ _ _ _ _ hd hu1 hu2 ls H locs hl hg)
  case lconst k =>
    have eln : len = 1 := Nat.eq_of_beq_eq_true hln
    subst eln
    simp only [dzMt, Bool.and_eq_true, decide_eq_true_eq] at hmt
    obtain ⟨rfl, rfl⟩ := hmt
    exact lv_lconst hexec hb hdg rfl (hK _ _ _ _ _ hd hu1 hu2 ls H locs hl hg)
  case ldc k =>
    have eln : len = 2 := Nat.eq_of_beq_eq_true hln
    subst eln
    simp only [dzMt, Bool.and_eq_true, decide_eq_true_eq] at hmt
    obtain ⟨⟨rfl, hkd⟩, hq⟩ := hmt
    have hw := zl_k_ok _ (dzQk_mem hq)
    cases v
    case int v =>
      simp only [dzKw] at hw
      rw [zt_oc_ok mid hmid] at hw
      exact lv_ldc hexec hb hown (hts _ hw) hdg (hK _ _ _ _ _ hd hu1 hu2 ls H locs hl hg)
    all_goals simp [dzKd] at hkd
  case ldc2_w k =>
    have eln : len = 3 := Nat.eq_of_beq_eq_true hln
    subst eln
    simp only [dzMt, Bool.and_eq_true, decide_eq_true_eq] at hmt
    obtain ⟨⟨rfl, hkd⟩, hq⟩ := hmt
    have hw := zl_k_ok _ (dzQk_mem hq)
    cases v
    case long v =>
      simp only [dzKw] at hw
      rw [zt_oc_ok mid hmid] at hw
      exact lv_ldc2 hexec hb hown (hts _ hw) hdg (hK _ _ _ _ _ hd hu1 hu2 ls H locs hl hg)
    all_goals simp [dzKd] at hkd
  case iload_n k =>
    have eln : len = 1 := Nat.eq_of_beq_eq_true hln
    subst eln
    simp only [dzMt, decide_eq_true_eq] at hmt
    subst hmt
    obtain ⟨x, hx1, hd⟩ := Option.bind_eq_some_iff.mp hd
    exact lv_iload_n hexec hb hdg rfl (dzLI_of hl hx1) (hK _ _ _ _ _ hd hu1 hu2 ls H locs hl hg)
  case iload k =>
    have eln : len = 2 := Nat.eq_of_beq_eq_true hln
    subst eln
    simp only [dzMt, decide_eq_true_eq] at hmt
    subst hmt
    obtain ⟨x, hx1, hd⟩ := Option.bind_eq_some_iff.mp hd
    exact lv_iload hexec hb hdg (dzLI_of hl hx1) (hK _ _ _ _ _ hd hu1 hu2 ls H locs hl hg)
  case lload_n k =>
    have eln : len = 1 := Nat.eq_of_beq_eq_true hln
    subst eln
    simp only [dzMt, decide_eq_true_eq] at hmt
    subst hmt
    obtain ⟨x, hx1, hd⟩ := Option.bind_eq_some_iff.mp hd
    exact lv_lload_n hexec hb hdg rfl (dzLJ_of hl hx1) (hK _ _ _ _ _ hd hu1 hu2 ls H locs hl hg)
  case lload k =>
    have eln : len = 2 := Nat.eq_of_beq_eq_true hln
    subst eln
    simp only [dzMt, decide_eq_true_eq] at hmt
    subst hmt
    obtain ⟨x, hx1, hd⟩ := Option.bind_eq_some_iff.mp hd
    exact lv_lload hexec hb hdg (dzLJ_of hl hx1) (hK _ _ _ _ _ hd hu1 hu2 ls H locs hl hg)
  case aload_n k =>
    have eln : len = 1 := Nat.eq_of_beq_eq_true hln
    subst eln
    simp only [dzMt, decide_eq_true_eq] at hmt
    subst hmt
    obtain ⟨x, hx1, hd⟩ := Option.bind_eq_some_iff.mp hd
    exact lv_aload_n hexec hb hdg rfl (dzLA_of hl hx1) (hK _ _ _ _ _ hd hu1 hu2 ls H locs hl hg)
  case aload k =>
    have eln : len = 2 := Nat.eq_of_beq_eq_true hln
    subst eln
    simp only [dzMt, decide_eq_true_eq] at hmt
    subst hmt
    obtain ⟨x, hx1, hd⟩ := Option.bind_eq_some_iff.mp hd
    exact lv_aload hexec hb hdg (dzLA_of hl hx1) (hK _ _ _ _ _ hd hu1 hu2 ls H locs hl hg)
  case istore_n k =>
    have eln : len = 1 := Nat.eq_of_beq_eq_true hln
    subst eln
    simp only [dzMt, Bool.and_eq_true, decide_eq_true_eq] at hmt
    obtain ⟨rfl, hlt⟩ := hmt
    obtain ⟨x, rr, eS, hd2⟩ := dz1I_of hd
    clear hd
    subst eS
    have hd := hd2
    clear hd2
    exact lv_istore_n hexec hb hdg rfl hl (Nat.le_of_ble_eq_true hlt) rfl (fun ls' hl' => hK _ _ _ _ _ hd hu1 hu2 ls' H locs (dzIn_has hl' rfl) hg)
  case istore k =>
    have eln : len = 2 := Nat.eq_of_beq_eq_true hln
    subst eln
    simp only [dzMt, Bool.and_eq_true, decide_eq_true_eq] at hmt
    obtain ⟨rfl, hlt⟩ := hmt
    obtain ⟨x, rr, eS, hd2⟩ := dz1I_of hd
    clear hd
    subst eS
    have hd := hd2
    clear hd2
    exact lv_istore hexec hb hdg hl (Nat.le_of_ble_eq_true hlt) rfl (fun ls' hl' => hK _ _ _ _ _ hd hu1 hu2 ls' H locs (dzIn_has hl' rfl) hg)
  case lstore_n k =>
    have eln : len = 1 := Nat.eq_of_beq_eq_true hln
    subst eln
    simp only [dzMt, Bool.and_eq_true, decide_eq_true_eq] at hmt
    obtain ⟨rfl, hlt⟩ := hmt
    obtain ⟨x, rr, eS, hd2⟩ := dz1J_of hd
    clear hd
    subst eS
    have hd := hd2
    clear hd2
    exact lv_lstore_n hexec hb hdg rfl hl (Nat.le_of_ble_eq_true hlt) rfl (fun ls' hl' => hK _ _ _ _ _ hd hu1 hu2 ls' H locs (dzIn_has hl' rfl) hg)
  case lstore k =>
    have eln : len = 2 := Nat.eq_of_beq_eq_true hln
    subst eln
    simp only [dzMt, Bool.and_eq_true, decide_eq_true_eq] at hmt
    obtain ⟨rfl, hlt⟩ := hmt
    obtain ⟨x, rr, eS, hd2⟩ := dz1J_of hd
    clear hd
    subst eS
    have hd := hd2
    clear hd2
    exact lv_lstore hexec hb hdg hl (Nat.le_of_ble_eq_true hlt) rfl (fun ls' hl' => hK _ _ _ _ _ hd hu1 hu2 ls' H locs (dzIn_has hl' rfl) hg)
  case astore_n k =>
    have eln : len = 1 := Nat.eq_of_beq_eq_true hln
    subst eln
    simp only [dzMt, Bool.and_eq_true, decide_eq_true_eq] at hmt
    obtain ⟨rfl, hlt⟩ := hmt
    obtain ⟨x, rr, eS, hd2⟩ := dz1A_of hd
    clear hd
    subst eS
    have hd := hd2
    clear hd2
    exact lv_astore_n hexec hb hdg rfl hl (Nat.le_of_ble_eq_true hlt) rfl (fun ls' hl' => hK _ _ _ _ _ hd hu1 hu2 ls' H locs (dzIn_has hl' rfl) hg)
  case astore k =>
    have eln : len = 2 := Nat.eq_of_beq_eq_true hln
    subst eln
    simp only [dzMt, Bool.and_eq_true, decide_eq_true_eq] at hmt
    obtain ⟨rfl, hlt⟩ := hmt
    obtain ⟨x, rr, eS, hd2⟩ := dz1A_of hd
    clear hd
    subst eS
    have hd := hd2
    clear hd2
    exact lv_astore hexec hb hdg hl (Nat.le_of_ble_eq_true hlt) rfl (fun ls' hl' => hK _ _ _ _ _ hd hu1 hu2 ls' H locs (dzIn_has hl' rfl) hg)
  case iinc k n =>
    have eln : len = 3 := Nat.eq_of_beq_eq_true hln
    subst eln
    simp only [dzMt, Bool.and_eq_true, decide_eq_true_eq] at hmt
    obtain ⟨⟨rfl, rfl⟩, hlt⟩ := hmt
    obtain ⟨x, hx1, hd⟩ := Option.bind_eq_some_iff.mp hd
    have hmem : (k, Value.int x) ∈ L := by
      unfold dzLI at hx1
      split at hx1
      · rename_i e9; cases hx1; exact dzFnd_mem e9
      · cases hx1
    obtain ⟨kx, hkx⟩ := List.getElem?_of_mem hmem
    exact lv_iinc hexec hb hdg hl hkx rfl (Nat.le_of_ble_eq_true hlt) rfl (fun ls' hl' => hK _ _ _ _ _ hd hu1 hu2 ls' H locs (dzIn_has hl' rfl) hg)
  case iadd =>
    have eln : len = 1 := Nat.eq_of_beq_eq_true hln
    subst eln
    simp only [dzMt, decide_eq_true_eq] at hmt
    subst hmt
    obtain ⟨x, y, rr, eS, hd2⟩ := dz2I_of hd
    clear hd
    subst eS
    have hd := hd2
    clear hd2
    exact lv_iadd hexec hb hdg (hK _ _ _ _ _ hd hu1 hu2 ls H locs hl hg)
  case isub =>
    have eln : len = 1 := Nat.eq_of_beq_eq_true hln
    subst eln
    simp only [dzMt, decide_eq_true_eq] at hmt
    subst hmt
    obtain ⟨x, y, rr, eS, hd2⟩ := dz2I_of hd
    clear hd
    subst eS
    have hd := hd2
    clear hd2
    exact lv_isub hexec hb hdg (hK _ _ _ _ _ hd hu1 hu2 ls H locs hl hg)
  case imul =>
    have eln : len = 1 := Nat.eq_of_beq_eq_true hln
    subst eln
    simp only [dzMt, decide_eq_true_eq] at hmt
    subst hmt
    obtain ⟨x, y, rr, eS, hd2⟩ := dz2I_of hd
    clear hd
    subst eS
    have hd := hd2
    clear hd2
    exact lv_imul hexec hb hdg (hK _ _ _ _ _ hd hu1 hu2 ls H locs hl hg)
  case iand =>
    have eln : len = 1 := Nat.eq_of_beq_eq_true hln
    subst eln
    simp only [dzMt, decide_eq_true_eq] at hmt
    subst hmt
    obtain ⟨x, y, rr, eS, hd2⟩ := dz2I_of hd
    clear hd
    subst eS
    have hd := hd2
    clear hd2
    exact lv_iand hexec hb hdg (hK _ _ _ _ _ hd hu1 hu2 ls H locs hl hg)
  case ior =>
    have eln : len = 1 := Nat.eq_of_beq_eq_true hln
    subst eln
    simp only [dzMt, decide_eq_true_eq] at hmt
    subst hmt
    obtain ⟨x, y, rr, eS, hd2⟩ := dz2I_of hd
    clear hd
    subst eS
    have hd := hd2
    clear hd2
    exact lv_ior hexec hb hdg (hK _ _ _ _ _ hd hu1 hu2 ls H locs hl hg)
  case ixor =>
    have eln : len = 1 := Nat.eq_of_beq_eq_true hln
    subst eln
    simp only [dzMt, decide_eq_true_eq] at hmt
    subst hmt
    obtain ⟨x, y, rr, eS, hd2⟩ := dz2I_of hd
    clear hd
    subst eS
    have hd := hd2
    clear hd2
    exact lv_ixor hexec hb hdg (hK _ _ _ _ _ hd hu1 hu2 ls H locs hl hg)
  case ishl =>
    have eln : len = 1 := Nat.eq_of_beq_eq_true hln
    subst eln
    simp only [dzMt, decide_eq_true_eq] at hmt
    subst hmt
    obtain ⟨x, y, rr, eS, hd2⟩ := dz2I_of hd
    clear hd
    subst eS
    have hd := hd2
    clear hd2
    exact lv_ishl hexec hb hdg (hK _ _ _ _ _ hd hu1 hu2 ls H locs hl hg)
  case ishr =>
    have eln : len = 1 := Nat.eq_of_beq_eq_true hln
    subst eln
    simp only [dzMt, decide_eq_true_eq] at hmt
    subst hmt
    obtain ⟨x, y, rr, eS, hd2⟩ := dz2I_of hd
    clear hd
    subst eS
    have hd := hd2
    clear hd2
    exact lv_ishr hexec hb hdg (hK _ _ _ _ _ hd hu1 hu2 ls H locs hl hg)
  case iushr =>
    have eln : len = 1 := Nat.eq_of_beq_eq_true hln
    subst eln
    simp only [dzMt, decide_eq_true_eq] at hmt
    subst hmt
    obtain ⟨x, y, rr, eS, hd2⟩ := dz2I_of hd
    clear hd
    subst eS
    have hd := hd2
    clear hd2
    exact lv_iushr hexec hb hdg rfl (hK _ _ _ _ _ hd hu1 hu2 ls H locs hl hg)
  case idiv =>
    have eln : len = 1 := Nat.eq_of_beq_eq_true hln
    subst eln
    simp only [dzMt, decide_eq_true_eq] at hmt
    subst hmt
    simp only [dz1] at hd
    obtain ⟨x, y, rr, eS, hd2⟩ := dz2I_of hd
    clear hd
    subst eS
    have hd := hd2
    clear hd2
    split at hd
    · cases hd
    · rename_i hne
      exact lv_idiv hexec hb hdg hne (hK _ _ _ _ _ hd hu1 hu2 ls H locs hl hg)
  case irem =>
    have eln : len = 1 := Nat.eq_of_beq_eq_true hln
    subst eln
    simp only [dzMt, decide_eq_true_eq] at hmt
    subst hmt
    simp only [dz1] at hd
    obtain ⟨x, y, rr, eS, hd2⟩ := dz2I_of hd
    clear hd
    subst eS
    have hd := hd2
    clear hd2
    split at hd
    · cases hd
    · rename_i hne
      exact lv_irem hexec hb hdg hne (hK _ _ _ _ _ hd hu1 hu2 ls H locs hl hg)
  case ineg =>
    have eln : len = 1 := Nat.eq_of_beq_eq_true hln
    subst eln
    simp only [dzMt, decide_eq_true_eq] at hmt
    subst hmt
    obtain ⟨x, rr, eS, hd2⟩ := dz1I_of hd
    clear hd
    subst eS
    have hd := hd2
    clear hd2
    exact lv_ineg hexec hb hdg (hK _ _ _ _ _ hd hu1 hu2 ls H locs hl hg)
  case ladd =>
    have eln : len = 1 := Nat.eq_of_beq_eq_true hln
    subst eln
    simp only [dzMt, decide_eq_true_eq] at hmt
    subst hmt
    obtain ⟨x, y, rr, eS, hd2⟩ := dz2J_of hd
    clear hd
    subst eS
    have hd := hd2
    clear hd2
    exact lv_ladd hexec hb hdg (hK _ _ _ _ _ hd hu1 hu2 ls H locs hl hg)
  case lsub =>
    have eln : len = 1 := Nat.eq_of_beq_eq_true hln
    subst eln
    simp only [dzMt, decide_eq_true_eq] at hmt
    subst hmt
    obtain ⟨x, y, rr, eS, hd2⟩ := dz2J_of hd
    clear hd
    subst eS
    have hd := hd2
    clear hd2
    exact lv_lsub hexec hb hdg (hK _ _ _ _ _ hd hu1 hu2 ls H locs hl hg)
  case lmul =>
    have eln : len = 1 := Nat.eq_of_beq_eq_true hln
    subst eln
    simp only [dzMt, decide_eq_true_eq] at hmt
    subst hmt
    obtain ⟨x, y, rr, eS, hd2⟩ := dz2J_of hd
    clear hd
    subst eS
    have hd := hd2
    clear hd2
    exact lv_lmul hexec hb hdg (hK _ _ _ _ _ hd hu1 hu2 ls H locs hl hg)
  case land =>
    have eln : len = 1 := Nat.eq_of_beq_eq_true hln
    subst eln
    simp only [dzMt, decide_eq_true_eq] at hmt
    subst hmt
    obtain ⟨x, y, rr, eS, hd2⟩ := dz2J_of hd
    clear hd
    subst eS
    have hd := hd2
    clear hd2
    exact lv_land hexec hb hdg (hK _ _ _ _ _ hd hu1 hu2 ls H locs hl hg)
  case lor =>
    have eln : len = 1 := Nat.eq_of_beq_eq_true hln
    subst eln
    simp only [dzMt, decide_eq_true_eq] at hmt
    subst hmt
    obtain ⟨x, y, rr, eS, hd2⟩ := dz2J_of hd
    clear hd
    subst eS
    have hd := hd2
    clear hd2
    exact lv_lor hexec hb hdg (hK _ _ _ _ _ hd hu1 hu2 ls H locs hl hg)
  case lxor =>
    have eln : len = 1 := Nat.eq_of_beq_eq_true hln
    subst eln
    simp only [dzMt, decide_eq_true_eq] at hmt
    subst hmt
    obtain ⟨x, y, rr, eS, hd2⟩ := dz2J_of hd
    clear hd
    subst eS
    have hd := hd2
    clear hd2
    exact lv_lxor hexec hb hdg (hK _ _ _ _ _ hd hu1 hu2 ls H locs hl hg)
  case ldiv =>
    have eln : len = 1 := Nat.eq_of_beq_eq_true hln
    subst eln
    simp only [dzMt, decide_eq_true_eq] at hmt
    subst hmt
    simp only [dz1] at hd
    obtain ⟨x, y, rr, eS, hd2⟩ := dz2J_of hd
    clear hd
    subst eS
    have hd := hd2
    clear hd2
    split at hd
    · cases hd
    · rename_i hne
      exact lv_ldiv hexec hb hdg hne (hK _ _ _ _ _ hd hu1 hu2 ls H locs hl hg)
  case lrem =>
    have eln : len = 1 := Nat.eq_of_beq_eq_true hln
    subst eln
    simp only [dzMt, decide_eq_true_eq] at hmt
    subst hmt
    simp only [dz1] at hd
    obtain ⟨x, y, rr, eS, hd2⟩ := dz2J_of hd
    clear hd
    subst eS
    have hd := hd2
    clear hd2
    split at hd
    · cases hd
    · rename_i hne
      exact lv_lrem hexec hb hdg hne (hK _ _ _ _ _ hd hu1 hu2 ls H locs hl hg)
  case lneg =>
    have eln : len = 1 := Nat.eq_of_beq_eq_true hln
    subst eln
    simp only [dzMt, decide_eq_true_eq] at hmt
    subst hmt
    obtain ⟨x, rr, eS, hd2⟩ := dz1J_of hd
    clear hd
    subst eS
    have hd := hd2
    clear hd2
    exact lv_lneg hexec hb hdg (hK _ _ _ _ _ hd hu1 hu2 ls H locs hl hg)
  case lshl =>
    have eln : len = 1 := Nat.eq_of_beq_eq_true hln
    subst eln
    simp only [dzMt, decide_eq_true_eq] at hmt
    subst hmt
    obtain ⟨x, y, rr, eS, hd2⟩ := dzJI_of hd
    clear hd
    subst eS
    have hd := hd2
    clear hd2
    exact lv_lshl hexec hb hdg rfl (hK _ _ _ _ _ hd hu1 hu2 ls H locs hl hg)
  case lshr =>
    have eln : len = 1 := Nat.eq_of_beq_eq_true hln
    subst eln
    simp only [dzMt, decide_eq_true_eq] at hmt
    subst hmt
    obtain ⟨x, y, rr, eS, hd2⟩ := dzJI_of hd
    clear hd
    subst eS
    have hd := hd2
    clear hd2
    exact lv_lshr hexec hb hdg rfl (hK _ _ _ _ _ hd hu1 hu2 ls H locs hl hg)
  case lushr =>
    have eln : len = 1 := Nat.eq_of_beq_eq_true hln
    subst eln
    simp only [dzMt, decide_eq_true_eq] at hmt
    subst hmt
    obtain ⟨x, y, rr, eS, hd2⟩ := dzJI_of hd
    clear hd
    subst eS
    have hd := hd2
    clear hd2
    exact lv_lushr hexec hb hdg rfl (hK _ _ _ _ _ hd hu1 hu2 ls H locs hl hg)
  case lcmp =>
    have eln : len = 1 := Nat.eq_of_beq_eq_true hln
    subst eln
    simp only [dzMt, decide_eq_true_eq] at hmt
    subst hmt
    obtain ⟨x, y, rr, eS, hd2⟩ := dz2J_of hd
    clear hd
    subst eS
    have hd := hd2
    clear hd2
    exact W.lcmp hexec hb hdg (hK _ _ _ _ _ hd hu1 hu2 ls H locs hl hg)
  case i2l =>
    have eln : len = 1 := Nat.eq_of_beq_eq_true hln
    subst eln
    simp only [dzMt, decide_eq_true_eq] at hmt
    subst hmt
    obtain ⟨x, rr, eS, hd2⟩ := dz1I_of hd
    clear hd
    subst eS
    have hd := hd2
    clear hd2
    exact lv_i2l hexec hb hdg rfl (hK _ _ _ _ _ hd hu1 hu2 ls H locs hl hg)
  case l2i =>
    have eln : len = 1 := Nat.eq_of_beq_eq_true hln
    subst eln
    simp only [dzMt, decide_eq_true_eq] at hmt
    subst hmt
    obtain ⟨x, rr, eS, hd2⟩ := dz1J_of hd
    clear hd
    subst eS
    have hd := hd2
    clear hd2
    exact lv_l2i hexec hb hdg rfl (hK _ _ _ _ _ hd hu1 hu2 ls H locs hl hg)
  case dup =>
    have eln : len = 1 := Nat.eq_of_beq_eq_true hln
    subst eln
    simp only [dzMt, decide_eq_true_eq] at hmt
    subst hmt
    simp only [dz1] at hd
    split at hd
    · exact lv_dup hexec hb hdg rfl (hK _ _ _ _ _ hd hu1 hu2 ls H locs hl hg)
    · exact lv_dup hexec hb hdg rfl (hK _ _ _ _ _ hd hu1 hu2 ls H locs hl hg)
    · cases hd
  case dup2 =>
    have eln : len = 1 := Nat.eq_of_beq_eq_true hln
    subst eln
    simp only [dzMt, decide_eq_true_eq] at hmt
    subst hmt
    simp only [dz1] at hd
    split at hd
    · exact lv_dup2_2 hexec hb hdg rfl (hK _ _ _ _ _ hd hu1 hu2 ls H locs hl hg)
    · exact lv_dup2_11 hexec hb hdg rfl rfl (hK _ _ _ _ _ hd hu1 hu2 ls H locs hl hg)
    · cases hd
  case pop =>
    have eln : len = 1 := Nat.eq_of_beq_eq_true hln
    subst eln
    simp only [dzMt, decide_eq_true_eq] at hmt
    subst hmt
    simp only [dz1] at hd
    split at hd
    · exact lv_pop hexec hb hdg rfl (hK _ _ _ _ _ hd hu1 hu2 ls H locs hl hg)
    · exact lv_pop hexec hb hdg rfl (hK _ _ _ _ _ hd hu1 hu2 ls H locs hl hg)
    · cases hd
  case ifCond o off =>
    have eln : len = 3 := Nat.eq_of_beq_eq_true hln
    subst eln
    simp only [dzMt, Bool.and_eq_true, decide_eq_true_eq] at hmt
    obtain ⟨rfl, ht⟩ := hmt
    cases o
    case eq =>
      simp only [dz1] at hd
      obtain ⟨x, rr, eS, hd2⟩ := dz1I_of hd
      clear hd
      subst eS
      have hd := hd2
      clear hd2
      refine lv_if_eq hexec hb hdg ht (fun hP => ?_) (fun hP => ?_)
      · rw [if_pos hP] at hd
        exact hK _ _ _ _ _ hd hu1 hu2 ls H locs hl hg
      · rw [if_neg hP] at hd
        exact hK _ _ _ _ _ hd hu1 hu2 ls H locs hl hg
    case ne =>
      simp only [dz1] at hd
      obtain ⟨x, rr, eS, hd2⟩ := dz1I_of hd
      clear hd
      subst eS
      have hd := hd2
      clear hd2
      refine lv_if_ne hexec hb hdg ht (fun hP => ?_) (fun hP => ?_)
      · rw [if_neg hP] at hd
        exact hK _ _ _ _ _ hd hu1 hu2 ls H locs hl hg
      · rw [if_pos hP] at hd
        exact hK _ _ _ _ _ hd hu1 hu2 ls H locs hl hg
    case lt =>
      simp only [dz1] at hd
      obtain ⟨x, rr, eS, hd2⟩ := dz1I_of hd
      clear hd
      subst eS
      have hd := hd2
      clear hd2
      refine lv_if_lt hexec hb hdg ht (fun hP => ?_) (fun hP => ?_)
      · rw [if_pos hP] at hd
        exact hK _ _ _ _ _ hd hu1 hu2 ls H locs hl hg
      · rw [if_neg hP] at hd
        exact hK _ _ _ _ _ hd hu1 hu2 ls H locs hl hg
    case ge =>
      simp only [dz1] at hd
      obtain ⟨x, rr, eS, hd2⟩ := dz1I_of hd
      clear hd
      subst eS
      have hd := hd2
      clear hd2
      refine lv_if_ge hexec hb hdg ht (fun hP => ?_) (fun hP => ?_)
      · rw [if_neg (Int32.not_lt.mpr hP)] at hd
        exact hK _ _ _ _ _ hd hu1 hu2 ls H locs hl hg
      · rw [if_pos (Int32.not_le.mp hP)] at hd
        exact hK _ _ _ _ _ hd hu1 hu2 ls H locs hl hg
    case gt =>
      simp only [dz1] at hd
      obtain ⟨x, rr, eS, hd2⟩ := dz1I_of hd
      clear hd
      subst eS
      have hd := hd2
      clear hd2
      refine lv_if_gt hexec hb hdg ht (fun hP => ?_) (fun hP => ?_)
      · rw [if_neg (Int32.not_le.mpr hP)] at hd
        exact hK _ _ _ _ _ hd hu1 hu2 ls H locs hl hg
      · rw [if_pos (Int32.not_lt.mp hP)] at hd
        exact hK _ _ _ _ _ hd hu1 hu2 ls H locs hl hg
    case le =>
      simp only [dz1] at hd
      obtain ⟨x, rr, eS, hd2⟩ := dz1I_of hd
      clear hd
      subst eS
      have hd := hd2
      clear hd2
      refine lv_if_le hexec hb hdg ht (fun hP => ?_) (fun hP => ?_)
      · rw [if_pos hP] at hd
        exact hK _ _ _ _ _ hd hu1 hu2 ls H locs hl hg
      · rw [if_neg hP] at hd
        exact hK _ _ _ _ _ hd hu1 hu2 ls H locs hl hg
  case if_icmp o off =>
    have eln : len = 3 := Nat.eq_of_beq_eq_true hln
    subst eln
    simp only [dzMt, Bool.and_eq_true, decide_eq_true_eq] at hmt
    obtain ⟨rfl, ht⟩ := hmt
    cases o
    case eq =>
      simp only [dz1] at hd
      obtain ⟨x, y, rr, eS, hd2⟩ := dz2I_of hd
      clear hd
      subst eS
      have hd := hd2
      clear hd2
      refine lv_icmp_eq hexec hb hdg ht (fun hP => ?_) (fun hP => ?_)
      · rw [if_pos hP] at hd
        exact hK _ _ _ _ _ hd hu1 hu2 ls H locs hl hg
      · rw [if_neg hP] at hd
        exact hK _ _ _ _ _ hd hu1 hu2 ls H locs hl hg
    case ne =>
      simp only [dz1] at hd
      obtain ⟨x, y, rr, eS, hd2⟩ := dz2I_of hd
      clear hd
      subst eS
      have hd := hd2
      clear hd2
      refine lv_icmp_ne hexec hb hdg ht (fun hP => ?_) (fun hP => ?_)
      · rw [if_neg hP] at hd
        exact hK _ _ _ _ _ hd hu1 hu2 ls H locs hl hg
      · rw [if_pos hP] at hd
        exact hK _ _ _ _ _ hd hu1 hu2 ls H locs hl hg
    case lt =>
      simp only [dz1] at hd
      obtain ⟨x, y, rr, eS, hd2⟩ := dz2I_of hd
      clear hd
      subst eS
      have hd := hd2
      clear hd2
      refine lv_icmp_lt hexec hb hdg ht (fun hP => ?_) (fun hP => ?_)
      · rw [if_pos hP] at hd
        exact hK _ _ _ _ _ hd hu1 hu2 ls H locs hl hg
      · rw [if_neg hP] at hd
        exact hK _ _ _ _ _ hd hu1 hu2 ls H locs hl hg
    case ge =>
      simp only [dz1] at hd
      obtain ⟨x, y, rr, eS, hd2⟩ := dz2I_of hd
      clear hd
      subst eS
      have hd := hd2
      clear hd2
      refine lv_icmp_ge hexec hb hdg ht (fun hP => ?_) (fun hP => ?_)
      · rw [if_neg (Int32.not_lt.mpr hP)] at hd
        exact hK _ _ _ _ _ hd hu1 hu2 ls H locs hl hg
      · rw [if_pos (Int32.not_le.mp hP)] at hd
        exact hK _ _ _ _ _ hd hu1 hu2 ls H locs hl hg
    case gt =>
      simp only [dz1] at hd
      obtain ⟨x, y, rr, eS, hd2⟩ := dz2I_of hd
      clear hd
      subst eS
      have hd := hd2
      clear hd2
      refine lv_icmp_gt hexec hb hdg ht (fun hP => ?_) (fun hP => ?_)
      · rw [if_neg (Int32.not_le.mpr hP)] at hd
        exact hK _ _ _ _ _ hd hu1 hu2 ls H locs hl hg
      · rw [if_pos (Int32.not_lt.mp hP)] at hd
        exact hK _ _ _ _ _ hd hu1 hu2 ls H locs hl hg
    case le =>
      simp only [dz1] at hd
      obtain ⟨x, y, rr, eS, hd2⟩ := dz2I_of hd
      clear hd
      subst eS
      have hd := hd2
      clear hd2
      refine lv_icmp_le hexec hb hdg ht (fun hP => ?_) (fun hP => ?_)
      · rw [if_pos hP] at hd
        exact hK _ _ _ _ _ hd hu1 hu2 ls H locs hl hg
      · rw [if_neg hP] at hd
        exact hK _ _ _ _ _ hd hu1 hu2 ls H locs hl hg
  case goto off =>
    have eln : len = 3 := Nat.eq_of_beq_eq_true hln
    subst eln
    simp only [dzMt, Bool.and_eq_true, decide_eq_true_eq] at hmt
    obtain ⟨rfl, ht⟩ := hmt
    exact lv_goto hexec hb hdg ht (hK _ _ _ _ _ hd hu1 hu2 ls H locs hl hg)
  case tableswitch dflt lo hi offs =>
    simp only [dzMt, Bool.and_eq_true, decide_eq_true_eq] at hmt
    obtain ⟨⟨⟨rfl, ht⟩, hhi⟩, hsw⟩ := hmt
    obtain ⟨hlen, hat⟩ := dzSwOk_at hsw
    obtain ⟨x, rr, eS, hd2⟩ := dz1I_of hd
    clear hd
    subst eS
    have hd := hd2
    clear hd2
    rcases dz_sw hd with ⟨k, q, h1, h2, h3⟩ | ⟨h1, h2⟩
    · obtain ⟨g1, o1, g2, g3⟩ := hat k q h1
      have hk : k < sw.length := (List.getElem?_eq_some_iff.mp h1).1
      have hxi : x.toInt = lo + k := by rw [h2]; exact g1
      refine lv_tableIn hexec hb hdg (by omega) (by omega) (off := o1) ?_ g3 (hK _ _ _ _ _ h3 hu1 hu2 ls H locs hl hg)
      rw [hxi, show (lo + (k : Int) - lo).toNat = k by omega, ← Array.getElem?_toList]
      exact g2
    · refine lv_tableOut hexec hb hdg ?_ ht (hK _ _ _ _ _ h2 hu1 hu2 ls H locs hl hg)
      apply Classical.byContradiction
      intro hno
      have hk : (x.toInt - lo).toNat < sw.length := by omega
      obtain ⟨g1, -⟩ := hat (x.toInt - lo).toNat sw[(x.toInt - lo).toNat] (List.getElem?_eq_getElem hk)
      refine h1 _ (List.getElem_mem hk) (Int32.toInt_inj.mp ?_)
      rw [g1]
      omega
  case iaload =>
    have eln : len = 1 := Nat.eq_of_beq_eq_true hln
    subst eln
    simp only [dzMt, decide_eq_true_eq] at hmt
    subst hmt
    obtain ⟨a, j, rr, eS, hd2⟩ := dzAI_of hd
    clear hd
    subst eS
    have hd := hd2
    clear hd2
    obtain ⟨x, hx1, hd⟩ := Option.bind_eq_some_iff.mp hd
    exact dz_iald hx0 hdg hg hx1 (hK _ _ _ _ _ hd hu1 hu2 ls H locs hl hg)
  case aaload =>
    have eln : len = 1 := Nat.eq_of_beq_eq_true hln
    subst eln
    simp only [dzMt, decide_eq_true_eq] at hmt
    subst hmt
    obtain ⟨a, j, rr, eS, hd2⟩ := dzAI_of hd
    clear hd
    subst eS
    have hd := hd2
    clear hd2
    obtain ⟨x, hx1, hd⟩ := Option.bind_eq_some_iff.mp hd
    exact dz_aald hx0 hdg hg hx1 (hK _ _ _ _ _ hd hu1 hu2 ls H locs hl hg)
  case iastore =>
    have eln : len = 1 := Nat.eq_of_beq_eq_true hln
    subst eln
    simp only [dzMt, decide_eq_true_eq] at hmt
    subst hmt
    obtain ⟨a, j, x, rr, eS, hd2⟩ := dzAII_of hd
    clear hd
    subst eS
    have hd := hd2
    clear hd2
    obtain ⟨h1, hx1, hd⟩ := Option.bind_eq_some_iff.mp hd
    exact dz_iast hx0 hdg hg hx1 (fun H1 locs1 hg1 => hK _ _ _ _ _ hd hu1 hu2 ls H1 locs1 hl hg1)
  case arraylength =>
    have eln : len = 1 := Nat.eq_of_beq_eq_true hln
    subst eln
    simp only [dzMt, decide_eq_true_eq] at hmt
    subst hmt
    obtain ⟨a, rr, eS, hd2⟩ := dz1A_of hd
    clear hd
    subst eS
    have hd := hd2
    clear hd2
    obtain ⟨x, hx1, hd⟩ := Option.bind_eq_some_iff.mp hd
    exact dz_alen hx0 hdg hg hx1 (hK _ _ _ _ _ hd hu1 hu2 ls H locs hl hg)
  case getfield k =>
    have eln : len = 3 := Nat.eq_of_beq_eq_true hln
    subst eln
    simp only [dzMt, Bool.and_eq_true, decide_eq_true_eq] at hmt
    obtain ⟨rfl, hm⟩ := hmt
    simp only [dz1] at hd
    obtain ⟨a, rr, eS, hd2⟩ := dz1A_of hd
    clear hd
    subst eS
    have hd := hd2
    clear hd2
    split at hd
    · obtain ⟨x, hx1, hd⟩ := Option.bind_eq_some_iff.mp hd
      obtain ⟨fs, hf, hv⟩ := dgI_of hx1
      exact dz_getf hx0 hm hdg hg hf hv (hK _ _ _ _ _ hd hu1 hu2 ls H locs hl hg)
    · obtain ⟨x, hx1, hd⟩ := Option.bind_eq_some_iff.mp hd
      obtain ⟨fs, hf, hv⟩ := dgJ_of hx1
      exact dz_getf hx0 hm hdg hg hf hv (hK _ _ _ _ _ hd hu1 hu2 ls H locs hl hg)
    · obtain ⟨x, hx1, hd⟩ := Option.bind_eq_some_iff.mp hd
      obtain ⟨fs, hf, hv⟩ := dgA_of hx1
      exact dz_getf hx0 hm hdg hg hf hv (hK _ _ _ _ _ hd hu1 hu2 ls H locs hl hg)
    · cases hd
  case putfield k =>
    have eln : len = 3 := Nat.eq_of_beq_eq_true hln
    subst eln
    simp only [dzMt, Bool.and_eq_true, decide_eq_true_eq] at hmt
    obtain ⟨⟨⟨rfl, hm⟩, htk⟩, hfin⟩ := hmt
    simp only [dz1] at hd
    obtain ⟨a, v1, rr, eS, hd2⟩ := dzAV_of hd
    clear hd
    subst eS
    have hd := hd2
    clear hd2
    split at hd
    · rename_i hkd
      obtain ⟨h1, hx1, hd⟩ := Option.bind_eq_some_iff.mp hd
      have hkd2 : dzKd v1 = dzPl pl 2 := Nat.eq_of_beq_eq_true hkd
      unfold dpF at hx1
      split at hx1
      · rename_i ci fs ea
        split at hx1
        · rename_i hc1
          obtain ⟨rfl, hl1⟩ := hc1
          cases hx1
          by_cases hk0 : dzKd v1 = 0
          · exfalso
            rw [hk0] at hkd2
            rw [← hkd2] at htk
            exact zTy_ne _ (dzQ4_mem hm) htk
          · exact dz_putf hx0 hm hdg hg ea hl1 (hkd2.trans htk.symm) hk0 hfin (fun H1 locs1 hg1 => hK _ _ _ _ _ hd hu1 hu2 ls H1 locs1 hl hg1)
        · cases hx1
      · cases hx1
    · cases hd
  case invokestatic k =>
    have eln : len = 3 := Nat.eq_of_beq_eq_true hln
    subst eln
    simp only [dzMt, Bool.and_eq_true, Bool.or_eq_true, decide_eq_true_eq] at hmt
    rcases hmt with (⟨⟨⟨rfl, hm⟩, hfr⟩, hlo⟩ | ⟨⟨⟨rfl, hm⟩, hfr⟩, hlo⟩) | ⟨⟨⟨⟨rfl, hlk⟩, hkd⟩, hpn⟩, hrk⟩
    · simp only [dz1] at hd
      split at hd
      · split at hd
        · rename_i hsum
          obtain ⟨h1, hx1, hd⟩ := Option.bind_eq_some_iff.mp hd
          exact dz_copy hx0 hm (Nat.le_of_ble_eq_true hfr) (Nat.le_of_ble_eq_true hlo) hdg (Nat.le_of_ble_eq_true hsum) hl.1 hg hx1 (fun H1 locs1 hg1 => hK _ _ _ _ _ hd hu1 hu2 ls H1 locs1 hl hg1)
        · cases hd
      · cases hd
    · simp only [dz1] at hd
      obtain ⟨x, y, rr, eS, hd2⟩ := dz2I_of hd
      clear hd
      subst eS
      have hd := hd2
      clear hd2
      split at hd
      · rename_i hsum
        have hw := zl_x_ok _ (dzQ2_mem hm)
        dsimp only at hw
        rw [zt_oc_ok mid hmid] at hw
        have hsum' := Nat.le_of_ble_eq_true hsum
        have hlo' := Nat.le_of_ble_eq_true hlo
        exact va_mmax hexec hb (by rw [hml]; exact hl.1.symm) hown (hts _ hw) (hts _ zs_mx.1) (hts _ zs_mx.2.1) (hts _ zs_mx.2.2) (Nat.le_of_ble_eq_true hfr) (by show _ + 13 ≤ dzLo mid; omega) hu1 hu2 hdg (hK _ _ _ _ _ hd hu1 hu2 ls H locs hl hg)
      · cases hd
    · have hlk' : dzLk mid k (dzPl pl 0) := by
        rcases hlk with h1 | h1
        · exact Or.inl (dzQ3_mem h1)
        · exact Or.inr (dzQ3_mem h1)
      have hkd' := Nat.eq_of_beq_eq_true hkd
      exact dz_inv hx0 hB hK hC hlk' (fun av hav => Or.inl ⟨hdg, hkd', by rw [hav]; exact hpn⟩) hd hu1 hu2 hl hg
  case invokevirtual k =>
    have eln : len = 3 := Nat.eq_of_beq_eq_true hln
    subst eln
    simp only [dzMt, Bool.and_eq_true, Bool.or_eq_true, decide_eq_true_eq] at hmt
    obtain ⟨⟨⟨⟨rfl, hlk⟩, hkd⟩, hpn⟩, hrk⟩ := hmt
    have hlk' := dzQ3_mem hlk
    have hkd' := Nat.eq_of_beq_eq_true hkd
    exact dz_inv hx0 hB hK hC (Or.inl hlk') (fun av hav => Or.inr (Or.inl ⟨hdg, hlk', hkd', by rw [hav]; exact hpn⟩)) hd hu1 hu2 hl hg
  case invokespecial k =>
    have eln : len = 3 := Nat.eq_of_beq_eq_true hln
    subst eln
    simp only [dzMt, Bool.and_eq_true, Bool.or_eq_true, decide_eq_true_eq] at hmt
    rcases hmt with ⟨⟨⟨rfl, hm⟩, hfr⟩, hlo⟩ | ⟨⟨⟨⟨⟨rfl, hlk⟩, hkd⟩, hpn⟩, hrk⟩, hret⟩
    · simp only [dz1] at hd
      obtain ⟨a, rr, eS, hd2⟩ := dz1A_of hd
      clear hd
      subst eS
      have hd := hd2
      clear hd2
      split at hd
      · rename_i hsum
        have hw := zl_i_ok _ (dzQ2_mem hm)
        dsimp only at hw
        rw [zt_oc_ok mid hmid] at hw
        have hsum' := Nat.le_of_ble_eq_true hsum
        have hlo' := Nat.le_of_ble_eq_true hlo
        exact W.objInit hexec hb hown (hts _ hw) (hts _ zs_oi.1) (hts _ zs_oi.2) (g := F0 m pc ls (.ref a :: rr)) rfl (by rw [hml]; exact hl.1) rfl hdg (Nat.le_of_ble_eq_true hfr) (by show 2 * 0 + _ + 12 ≤ dzLo mid; omega) (hK _ _ _ _ _ hd hu1 hu2 ls H locs hl hg)
      · cases hd
    · have hlk' : dzLk mid k (dzPl pl 0) := by
        rcases hlk with h1 | h1
        · exact Or.inl (dzQ3_mem h1)
        · exact Or.inr (dzQ3_mem h1)
      have hkd' := Nat.eq_of_beq_eq_true hkd
      exact dz_inv hx0 hB hK hC hlk' (fun av hav => Or.inr (Or.inr ⟨hdg, hkd', by rw [hav]; exact hpn, hret⟩)) hd hu1 hu2 hl hg
  case new k =>
    have eln : len = 3 := Nat.eq_of_beq_eq_true hln
    subst eln
    simp only [dzMt, Bool.and_eq_true, decide_eq_true_eq] at hmt
    obtain ⟨⟨rfl, hm⟩, hN⟩ := hmt
    simp only [dz1] at hd
    split at hd
    · rename_i hc1
      simp only [Bool.and_eq_true] at hc1
      cases hc : zCl[dzPl pl 0]? with
      | none => rw [hc] at hN; cases hN
      | some q =>
        obtain ⟨Cn, Tt, N⟩ := q
        rw [hc] at hN
        have eN : N = dzPl pl 1 := Nat.eq_of_beq_eq_true hN
        subst eN
        have g1 := Nat.le_of_ble_eq_true hc1.1
        have g2 := Nat.le_of_ble_eq_true hc1.2
        exact dz_new hx0 hB hm hc hdg g1 g2 hg (fun H1 hg1 => hK _ _ _ _ _ hd g1 g2 ls H1 locs hl hg1)
    · cases hd
  case newarray t =>
    have eln : len = 2 := Nat.eq_of_beq_eq_true hln
    subst eln
    simp only [dzMt, Bool.and_eq_true, decide_eq_true_eq] at hmt
    obtain ⟨rfl, rfl⟩ := hmt
    simp only [dz1] at hd
    obtain ⟨n, rr, eS, hd2⟩ := dz1I_of hd
    clear hd
    subst eS
    have hd := hd2
    clear hd2
    split at hd
    · rename_i hc1
      simp only [Bool.and_eq_true] at hc1
      obtain ⟨h1, hx1, hd⟩ := Option.bind_eq_some_iff.mp hd
      have g1 := Nat.le_of_ble_eq_true hc1.1
      have g2 := Nat.le_of_ble_eq_true hc1.2
      exact dz_newa hx0 hB hdg g1 g2 hg hx1 (fun H1 hg1 => hK _ _ _ _ _ hd g1 g2 ls H1 locs hl hg1)
    · cases hd
  case multianewarray k d =>
    have eln : len = 4 := Nat.eq_of_beq_eq_true hln
    subst eln
    simp only [dzMt, Bool.and_eq_true, decide_eq_true_eq] at hmt
    obtain ⟨⟨rfl, hd2⟩, hm⟩ := hmt
    have ed : d = 2 := Nat.eq_of_beq_eq_true hd2
    subst ed
    simp only [dz1] at hd
    obtain ⟨n, q, rr, eS, hd2⟩ := dz2I_of hd
    clear hd
    subst eS
    have hd := hd2
    clear hd2
    split at hd
    · rename_i hc1
      simp only [Bool.and_eq_true] at hc1
      obtain ⟨h1, hx1, hd⟩ := Option.bind_eq_some_iff.mp hd
      have g1 := Nat.le_of_ble_eq_true hc1.1
      have g2 := Nat.le_of_ble_eq_true hc1.2
      exact dz_newm hx0 hB hm hdg g1 g2 hg hx1 (fun H1 hg1 => hK _ _ _ _ _ hd g1 g2 ls H1 locs hl hg1)
    · cases hd
  case ireturn =>
    have eln : len = 1 := Nat.eq_of_beq_eq_true hln
    subst eln
    simp only [dzMt, Bool.and_eq_true, Bool.or_eq_true, decide_eq_true_eq] at hmt
    obtain ⟨rfl, hrt⟩ := hmt
    simp only [dz1] at hd
    split at hd
    · rename_i x
      rcases hrt with ⟨hrt, hp⟩ | ⟨hrt, hp⟩
      · rw [Nat.eq_of_beq_eq_true hp] at hd
        cases hd
        exact hE pc ls H locs u.1 u.2 hu1 hu2 (Or.inl hrt) hdg hg
      · rw [Nat.eq_of_beq_eq_true hp] at hd
        obtain ⟨y, hy, hd⟩ := Option.bind_eq_some_iff.mp hd
        cases hd
        have h01 : x = y ∧ (y = 0 ∨ y = 1) := by
          unfold dzB01 at hy
          split at hy
          · rename_i e0; cases hy; exact ⟨e0, Or.inl rfl⟩
          · split at hy
            · rename_i e0; cases hy; exact ⟨e0, Or.inr rfl⟩
            · cases hy
        obtain ⟨rfl, h01⟩ := h01
        exact hE pc ls H locs u.1 u.2 hu1 hu2 (Or.inr ⟨hrt, h01⟩) hdg hg
    · cases hd
  case lreturn =>
    have eln : len = 1 := Nat.eq_of_beq_eq_true hln
    subst eln
    simp only [dzMt, Bool.and_eq_true, decide_eq_true_eq] at hmt
    obtain ⟨rfl, hrt⟩ := hmt
    simp only [dz1] at hd
    split at hd
    · cases hd
      exact hE pc ls H locs u.1 u.2 hu1 hu2 hrt hdg hg
    · cases hd
  case areturn =>
    have eln : len = 1 := Nat.eq_of_beq_eq_true hln
    subst eln
    simp only [dzMt, Bool.and_eq_true, decide_eq_true_eq] at hmt
    obtain ⟨rfl, hrt⟩ := hmt
    simp only [dz1] at hd
    split at hd
    · cases hd
      exact hE pc ls H locs u.1 u.2 hu1 hu2 hrt hdg hg
    · cases hd
  case return_ =>
    have eln : len = 1 := Nat.eq_of_beq_eq_true hln
    subst eln
    simp only [dzMt, Bool.and_eq_true, decide_eq_true_eq] at hmt
    obtain ⟨rfl, hrt⟩ := hmt
    simp only [dz1] at hd
    split at hd
    · cases hd
      exact hE pc ls H locs u.1 u.2 hu1 hu2 hrt hdg hg
    · cases hd
  all_goals (simp [dzMt] at hmt)
end DZ4
end
section
/-! soundness of whole runs, method by method -/
section DZ5
variable {p : Program} {l : Launch} {e : Env} {s : State} {m : MethodId} {args : Array Value} {below : List Frame} {meth : Method} {c : Code}
variable {B : Nat} {D : va_G} {tI tA : ClassId} {mid : Nat} {r : Option Value} {h' : dzH}
theorem dz_end (hx : dzCx D tI tA mid p s m args meth c) (hr : meth.sig.returnType = dzRt mid) (hlocks : meth.locks = false) : dzOkE p l e s m args below meth c B D tI tA mid (MQ below (dzPo B D tI tA r h') args s (dzMc mid) (dzMs mid) (fun x => B ≤ x)) r h' := by
  intro pc ls H locs k n hk hn hrok hdg hg
  obtain ⟨hexec, hb, -⟩ := hx
  have hq : ∀ t : State, t.heap = H → s.WarmedH t.vm → dzPo B D tI tA r h' args s (.returned r) t := fun t ht hW =>
    ⟨rfl, by rw [ht]; exact hg.1.moved hW.alike, by rw [ht]; exact hg.2.1, fun q hq => by rw [ht]; exact hg.2.2.1 q hq⟩
  refine W.widen hk hn ?_
  cases r with
  | none => exact W.vret hexec hb (hr.trans hrok) hq hg.2.2.2 hdg hlocks
  | some v =>
    cases v with
    | int v =>
      rcases hrok with h1 | ⟨h1, h2⟩
      · exact W.iret hexec hb (hr.trans h1) hq hg.2.2.2 hdg hlocks
      · refine W.zret hexec hb (hr.trans h1) ?_ hq hg.2.2.2 hdg hlocks
        rcases h2 with rfl | rfl <;> decide
    | long v => exact W.lret hexec hb (hr.trans hrok) hq hg.2.2.2 hdg hlocks
    | ref v =>
      have h3 : dzRk mid = 3 := hrok
      have h4 : ∃ rt, dzRt mid = some rt ∧ ((∃ n, rt = .object n) ∨ ∃ t, rt = .array t) := by
        unfold dzRk at h3
        split at h3 <;> first | (cases h3; done) | (rename_i e9; exact ⟨_, e9, Or.inl ⟨_, rfl⟩⟩) | (rename_i e9; exact ⟨_, e9, Or.inr ⟨_, rfl⟩⟩)
      obtain ⟨rt, h5, h6⟩ := h4
      exact W.aret hexec hb (hr.trans h5) h6 (Or.inr ⟨v, rfl⟩) hq hg.2.2.2 hdg hlocks
    | float v => exact hrok.elim
    | double v => exact hrok.elim
    | null => exact hrok.elim
    | retAddr v => exact hrok.elim
/-- runs of n steps are right -/
def dzSound (l : Launch) (n : Nat) : Prop := ∀ (p : Program) (e : Env) (s : State) (m : MethodId) (args : Array Value) (below : List Frame) (meth : Method) (c : Code) (B : Nat) (D : va_G) (tI tA : ClassId) (mid : Nat) (Q : State → Prop) (r : Option Value) (h' : dzH), dzCx D tI tA mid p s m args meth c → B ≤ s.heap.size → dzOkE p l e s m args below meth c B D tI tA mid Q r h' → dzOkK p l e s m args below meth c B D tI tA mid Q r h' (dzRun n mid)
theorem dz_okC {n : Nat} (ih : dzSound l n) : dzOkC l B D tI tA (fun c => dzGo (dzRun n c) c) := by
  intro cid av h1 q hcall hcid hk9
  have hmw := zm_all cid hcid hk9
  obtain ⟨hcw, hiw, hpl, hnh, hkw⟩ := hmw
  have hrun : dzRun n cid 0 (lv_args 0 av) [] (0, 0) h1 = some q ∧ (lg_sl av).length ≤ dzMx cid ∧ ∀ ci, dzRcv cid = some ci → ∃ (a : Nat) (as : List Value) (fs : List Value), av = .ref a :: as ∧ h1.2 a = some (eO ci fs) := by
    unfold dzGo at hcall
    dsimp only at hcall
    split at hcall
    · rename_i hlen
      split at hcall
      · rename_i hrc
        exact ⟨hcall, Nat.le_of_ble_eq_true hlen, fun ci h => by rw [hrc] at h; cases h⟩
      · rename_i ci hrc
        split at hcall
        · rename_i a as
          split at hcall
          · rename_i c' fs ea
            split at hcall
            · rename_i ec
              subst ec
              exact ⟨hcall, Nat.le_of_ble_eq_true hlen, fun ci h => by rw [hrc] at h; cases h; exact ⟨a, as, fs, rfl, ea⟩⟩
            · cases hcall
          · cases hcall
        · cases hcall
    · cases hcall
  obtain ⟨hrun, hlen, hrc⟩ := hrun
  refine ⟨?_, hrc⟩
  refine Met.ofW (cc := dzBy cid) (maxL := dzMx cid) (ret := dzRt cid) hpl rfl ?_
  intro p e s m args below meth c s₁ Bd hml hv
  obtain ⟨rfl, hKn, ho, hB⟩ := hv
  have hts := atoms_spec (ws := dzWs cid) Bd.pre
  have hx : dzCx D tI tA cid p s m av.toArray meth c := ⟨Bd.exec, Bd.bytes, hml, fun h => (name_of_methodNamed Bd.named Bd.method).1.trans h, findClass_of_methodNamed Bd.named, fun w hw => hts w (List.mem_cons_of_mem _ hw), hKn, hcid⟩
  rw [lg_entry_eq]
  exact ih p e s m av.toArray below meth c B D tI tA cid _ q.1 q.2 hx hB (dz_end hx Bd.returns Bd.notSynchronized) 0 _ _ (0, 0) h1 hrun (Nat.zero_le _) (Nat.zero_le _) _ _ [] (lv_entry av hlen) ⟨ho, Nat.le_refl _, fun _ _ => rfl, fun _ h => by cases h⟩
theorem dz_okJ {p : Program} {e : Env} {Q : State → Prop} {K : dzKt} (hK : dzOkK p l e s m args below meth c B D tI tA mid Q r h' K) : dzOkK p l e s m args below meth c B D tI tA mid Q r h' (dzJ mid K) := by
  intro pc L S u h hd hu1 hu2 ls H locs hl hg
  unfold dzJ at hd
  split at hd
  · exact hK _ _ _ _ _ hd hu1 hu2 ls H locs (hl.less (fun q hq => (List.mem_filter.mp hq).1)) hg
  · exact hK _ _ _ _ _ hd hu1 hu2 ls H locs hl hg
theorem dz_sound : ∀ n, dzSound l n
  | 0 => fun _ _ _ _ _ _ _ _ _ _ _ _ _ _ _ _ _ _ _ pc L S u h hd => by cases hd
  | n + 1 => by
    intro p e s m args below meth c B D tI tA mid Q r h' hx hB hE pc L S u h hd hu1 hu2 ls H locs hl hg
    have ih := dz_sound n
    simp only [dzRun, dzS] at hd
    split at hd
    · rename_i nx i v sw pl ef
      have hck := List.all_eq_true.mp (ck_all mid hx.2.2.2.2.2.2.2) _ (dzFnd_mem ef)
      exact dz_step hx hB (dz_okJ (ih p e s m args below meth c B D tI tA mid Q r h' hx hB hE)) (dz_okC ih) hE hck hd hu1 hu2 hl hg
    · cases hd
end DZ5
end
section
/-! THE CLAIM OUT OF ONE WALK OF THE LAW'S BODY. Your part is whole_start (and what it stands on); all else here is the same for every law, but numbers. -/
def R_law : String := "PrimeCertificatesLaw"
def lw_P (b : Addr) (xs : List Int32) (args : Array Value) (s : State) : Prop := args = #[.ref b] ∧ s.IntsAt b xs ∧ xs.length ≤ 2560 ∧ (Jvm.Cond.and given_1 narrow_1).before args s = true
def lw_Q (_ : Array Value) (s : State) (o : Outcome) (t : State) : Prop := o = .returned (some (.int 1)) ∧ Framed s o t [] 600000 7302250
def lw_Z (below : List Frame) (a : Array Value) (s : State) : State → Prop := fun t => ∃ o, t.status = .running ∧ Ended t below o ∧ lw_Q a s o t
/-- the law's own end, with 1 on the stack, nothing written that was there before, its room as the claim has it -/
theorem lw_ret {p : Program} {l : Launch} {e : Env} {s : State} {m : MethodId} {below : List Frame} {meth : Method} {c : Code} {b : Nat} (hx : p.tables.exec = Jvm.exec) (hb : c.code = code) (hr : meth.sig.returnType = ret) (hlocks : meth.locks = false) {pc : Nat} {H : Heap} {ls : Array Slot} (hdg : decode code pc = .ok (.ireturn, 1)) : W p l e room_1 s m #[Value.ref b] below meth c H [] 600000 7302250 (lw_Z below #[Value.ref b] s) (F0 m pc ls [.int 1]) := by
  intro T hT X
  obtain ⟨fs, hret, hrun, hended, hW, hframe⟩ := X.leave (v := some (.int 1)) (hlocks := hlocks) (fun h => by rw [hr] at h; cases h)
  have hmeth' : T.vm.method? m = some meth := X.method'
  refine ⟨T.setFrames fs, ?_, .returned (some (.int 1)), hrun, hended, rfl, ⟨_, rfl⟩, hW, hframe⟩
  jvm_step X.here [X.here.top, hx, hb, hdg, hmeth', hr, ret, narrow_b1]
  (try refine ⟨rfl, ?_⟩); (try refine ⟨rfl, ?_⟩)
  first | (intro acts; rw [hret _ acts rfl rfl rfl]) | rw [hret _ _ rfl rfl rfl]
  exact Steps.refl _
/-- what holds at the law's entry: the machine, the code, the tables' words (any of lw_tbl by 'hts w (by decide +kernel)'), the script of L ints xs at the cell b, what the Statement gives of the start (any of its parts by flat_of_before) -/
def lw_At (p : Program) (s : State) (m : MethodId) (meth : Method) (c : Code) (b L : Nat) (xs : Nat → Int32) : Prop :=
  p.tables.exec = Jvm.exec ∧ c.code = code ∧ meth.sig.returnType = ret ∧ c.maxLocals = 4 ∧ s.vm.findClass R_law = some m.cls ∧ (∀ w ∈ lw_tbl, w.before #[Value.ref b] s = true) ∧ va_X b L xs s s.heap ∧ b < s.heap.size ∧ meth.locks = false ∧ (Jvm.Cond.and given_1 narrow_1).before #[Value.ref b] s = true
end
section
/-! the law's walk, out of a run of the deep interpreter -/
theorem dz_known {s : State} {args : Array Value} (hts : ∀ w ∈ lw_tbl, w.before args s = true) : ∃ (D : va_G) (tI tA : ClassId), dzKn D tI tA s := by
  have hgw : ∀ w ∈ dzGW, w.before args s = true := fun w h => hts w (List.mem_filter.mp h).1
  have hcl : ∀ ci : Nat, ∃ (cC : ClassId) (iS : Nat → Nat), ∀ (C : String) (T : u_T) (N : Nat), zCl[ci]? = some (C, T, N) → u_Kn s C T N cC iS := by
    intro ci
    cases hc : zCl[ci]? with
    | none => exact ⟨0, fun _ => 0, fun C T N h => by cases h⟩
    | some q =>
      obtain ⟨C, T, N⟩ := q
      obtain ⟨hi1, -, hin, -⟩ := zu_all ci C T N hc
      obtain ⟨cC, iS, hk⟩ := u_known hgw hin (hgw _ hi1)
      exact ⟨cC, iS, fun C' T' N' h => by cases h; exact hk⟩
  obtain ⟨cI, kI, compI, hnI, hkI, hkdI⟩ := Cond.arrayClass_spec (hgw _ zs_ai)
  obtain ⟨comp, cA, kA, hcomp, hidx, hkA, hkindA, hnameA⟩ := arrayOverA_spec (hts _ zl_over)
  refine ⟨(fun ci => (hcl ci).choose, fun ci => (hcl ci).choose_spec.choose), cI, cA, ⟨fun ci q hq => ?_, fun k q hk => ?_⟩, fun q hq => va_Nw.of rfl (hts _ (zl_n_ok q hq)), over_moved (Vm.Alike.refl _) (hts _ zl_over)⟩
  · obtain ⟨C, T, N⟩ := q
    exact (hcl ci).choose_spec.choose_spec C T N hq
  · match k, hk with
    | 0, hk =>
      cases hk
      exact ⟨fun n z => ⟨fun k h => (by cases h), kI, hkI, compI, hkdI⟩, hnI⟩
    | 1, hk =>
      cases hk
      exact ⟨fun n z => ⟨fun k h => (by cases h), kA, hkA, comp, hkindA⟩, hnameA⟩
    | n + 2, hk => cases hk
def dzLaw : Nat := 160
/-- the abstract heap at the start: the script alone -/
def dzH0 (n b L : Nat) (xs : Nat → Int32) : dzH := (n, fun a => if a = b then some (eX L xs) else none)
set_option maxRecDepth 100000 in
theorem dz_law {p : Program} {e : Env} {s : State} {m : MethodId} {below : List Frame} {meth : Method} {c : Code} (l : Launch) {b L : Nat} {xs : Nat → Int32} (C0 : lw_At p s m meth c b L xs) {h' : dzH}
    (hF : dzF dzLaw 0 [(0, .ref b)] [] (0, 0) (dzH0 s.heap.size b L xs) = some (some (.int 1), h')) : W p l e room_1 s m #[Value.ref b] below meth c s.heap [] 0 0 (lw_Z below #[Value.ref b] s) (entryFrame m ([Value.ref b] : List Value).toArray 4) := by
  obtain ⟨hx, hb, hr, hml, hown, hts, hX, hbl, hlocks, -⟩ := C0
  obtain ⟨D, tI, tA, hK⟩ := dz_known hts
  obtain ⟨n, hn⟩ := dzF_iff.mp hF
  have hcx : dzCx D tI tA dzLaw p s m #[Value.ref b] meth c := ⟨hx, hb, hml, fun h => absurd h (by decide +kernel), hown, fun w hw => hts w (List.mem_filter.mp hw).1, hK, by decide +kernel⟩
  rw [lg_entry_eq]
  have hl := lv_entry [Value.ref b] (n := 4) (Nat.le_of_ble_eq_true rfl)
  refine dz_sound n p e s m #[Value.ref b] below meth c s.heap.size D tI tA dzLaw (lw_Z below #[Value.ref b] s) (some (.int 1)) h' hcx (Nat.le_refl _) ?_ 0 _ _ (0, 0) _ hn (Nat.zero_le _) (Nat.zero_le _) _ _ [] hl ⟨⟨rfl, fun a x hx => ?_⟩, Nat.le_refl _, fun _ _ => rfl, fun _ h => by cases h⟩
  · intro pc ls H locs k n hk hn hrok hdg hg
    exact va_forget (fun q hq => hg.2.2.2 q hq) (W.widen hk hn (lw_ret hx hb hr hlocks hdg))
  · unfold dzH0 at hx
    dsimp only at hx
    split at hx
    · rename_i ea
      cases hx
      subst ea
      exact ⟨hbl, hX⟩
    · cases hx
end
section
noncomputable def c_Sums_init (a0 : Nat) (h : dzH) : Option dzH := dzRV (dzC 0 [.ref a0] h)
noncomputable def c_Tape_init (a0 : Nat) (h : dzH) : Option dzH := dzRV (dzC 1 [.ref a0] h)
noncomputable def c_Lines_init (a0 : Nat) (h : dzH) : Option dzH := dzRV (dzC 2 [.ref a0] h)
noncomputable def c_Trial_init (a0 : Nat) (a1 : Nat) (h : dzH) : Option dzH := dzRV (dzC 3 [.ref a0, .ref a1] h)
noncomputable def c_Factors_init (a0 : Nat) (h : dzH) : Option dzH := dzRV (dzC 4 [.ref a0] h)
noncomputable def c_Checker_init (a0 : Nat) (a1 : Nat) (a2 : Nat) (a3 : Nat) (a4 : Nat) (h : dzH) : Option dzH := dzRV (dzC 5 [.ref a0, .ref a1, .ref a2, .ref a3, .ref a4] h)
noncomputable def c_Maker_init (a0 : Nat) (a1 : Nat) (a2 : Nat) (a3 : Nat) (a4 : Nat) (h : dzH) : Option dzH := dzRV (dzC 6 [.ref a0, .ref a1, .ref a2, .ref a3, .ref a4] h)
noncomputable def c_P_init (a0 : Nat) (h : dzH) : Option dzH := dzRV (dzC 7 [.ref a0] h)
noncomputable def c_P_isRegister (i0 : Int32) (h : dzH) : Option (Int32 × dzH) := dzRI (dzC 8 [.int i0] h)
noncomputable def c_P_isWord (i0 : Int32) (h : dzH) : Option (Int32 × dzH) := dzRI (dzC 9 [.int i0] h)
noncomputable def c_P_put (a0 : Nat) (i1 : Int32) (i2 : Int32) (i3 : Int32) (h : dzH) : Option (Int32 × dzH) := dzRI (dzC 10 [.ref a0, .int i1, .int i2, .int i3] h)
noncomputable def c_P_get (a0 : Nat) (i1 : Int32) (i2 : Int32) (h : dzH) : Option (Int32 × dzH) := dzRI (dzC 11 [.ref a0, .int i1, .int i2] h)
noncomputable def c_P_areRegisters (i0 : Int32) (i1 : Int32) (i2 : Int32) (h : dzH) : Option (Int32 × dzH) := dzRI (dzC 12 [.int i0, .int i1, .int i2] h)
noncomputable def c_Sums_sum (a0 : Nat) (a1 : Nat) (a2 : Nat) (h : dzH) : Option (Int32 × dzH) := dzRI (dzC 13 [.ref a0, .ref a1, .ref a2] h)
noncomputable def c_Sums_copy (a0 : Nat) (a1 : Nat) (h : dzH) : Option dzH := dzRV (dzC 14 [.ref a0, .ref a1] h)
noncomputable def c_P_keepAnswer (a0 : Nat) (i1 : Int32) (h : dzH) : Option (Int32 × dzH) := dzRI (dzC 15 [.ref a0, .int i1] h)
noncomputable def c_P_add (a0 : Nat) (i1 : Int32) (i2 : Int32) (i3 : Int32) (h : dzH) : Option (Int32 × dzH) := dzRI (dzC 16 [.ref a0, .int i1, .int i2, .int i3] h)
noncomputable def c_Sums_difference (a0 : Nat) (a1 : Nat) (a2 : Nat) (h : dzH) : Option (Int32 × dzH) := dzRI (dzC 17 [.ref a0, .ref a1, .ref a2] h)
noncomputable def c_P_subtract (a0 : Nat) (i1 : Int32) (i2 : Int32) (i3 : Int32) (h : dzH) : Option (Int32 × dzH) := dzRI (dzC 18 [.ref a0, .int i1, .int i2, .int i3] h)
noncomputable def c_Sums_usedWords (a0 : Nat) (h : dzH) : Option (Int32 × dzH) := dzRI (dzC 19 [.ref a0] h)
noncomputable def c_Arrays_fill (a0 : Nat) (i1 : Int32) (h : dzH) : Option dzH := dzRV (dzC 20 [.ref a0, .int i1] h)
noncomputable def c_Sums_setWideToProduct (a0 : Nat) (a1 : Nat) (a2 : Nat) (h : dzH) : Option dzH := dzRV (dzC 21 [.ref a0, .ref a1, .ref a2] h)
noncomputable def c_Sums_product (a0 : Nat) (a1 : Nat) (a2 : Nat) (a3 : Nat) (h : dzH) : Option (Int32 × dzH) := dzRI (dzC 22 [.ref a0, .ref a1, .ref a2, .ref a3] h)
noncomputable def c_P_multiply (a0 : Nat) (i1 : Int32) (i2 : Int32) (i3 : Int32) (h : dzH) : Option (Int32 × dzH) := dzRI (dzC 23 [.ref a0, .int i1, .int i2, .int i3] h)
noncomputable def c_Sums_isZero (a0 : Nat) (h : dzH) : Option (Int32 × dzH) := dzRI (dzC 24 [.ref a0] h)
noncomputable def c_Sums_leadingZeros (i0 : Int32) (h : dzH) : Option (Int32 × dzH) := dzRI (dzC 25 [.int i0] h)
noncomputable def c_Sums_shiftUp (a0 : Nat) (a1 : Nat) (i2 : Int32) (a3 : Nat) (h : dzH) : Option dzH := dzRV (dzC 26 [.ref a0, .ref a1, .int i2, .ref a3] h)
noncomputable def c_Sums_setDivisor (a0 : Nat) (a1 : Nat) (h : dzH) : Option dzH := dzRV (dzC 27 [.ref a0, .ref a1] h)
noncomputable def c_Sums_setWide (a0 : Nat) (a1 : Nat) (h : dzH) : Option dzH := dzRV (dzC 28 [.ref a0, .ref a1] h)
noncomputable def c_Sums_isAbove (j0 : Int64) (j2 : Int64) (h : dzH) : Option (Int32 × dzH) := dzRI (dzC 29 [.long j0, .long j2] h)
noncomputable def c_Sums_guessTimes (a0 : Nat) (i1 : Int32) (h : dzH) : Option (Int64 × dzH) := dzRJ (dzC 30 [.ref a0, .int i1] h)
noncomputable def c_Sums_takeAway (a0 : Nat) (j1 : Int64) (i3 : Int32) (h : dzH) : Option (Int32 × dzH) := dzRI (dzC 31 [.ref a0, .long j1, .int i3] h)
noncomputable def c_Sums_giveBack (a0 : Nat) (i1 : Int32) (h : dzH) : Option dzH := dzRV (dzC 32 [.ref a0, .int i1] h)
noncomputable def c_Sums_shiftWideDown (a0 : Nat) (h : dzH) : Option dzH := dzRV (dzC 33 [.ref a0] h)
noncomputable def c_Sums_reduceWide (a0 : Nat) (h : dzH) : Option dzH := dzRV (dzC 34 [.ref a0] h)
noncomputable def c_Sums_quotient (a0 : Nat) (a1 : Nat) (a2 : Nat) (a3 : Nat) (a4 : Nat) (h : dzH) : Option dzH := dzRV (dzC 35 [.ref a0, .ref a1, .ref a2, .ref a3, .ref a4] h)
noncomputable def c_P_divide (a0 : Nat) (i1 : Int32) (i2 : Int32) (i3 : Int32) (i4 : Int32) (h : dzH) : Option (Int32 × dzH) := dzRI (dzC 36 [.ref a0, .int i1, .int i2, .int i3, .int i4] h)
noncomputable def c_Sums_setSmall (a0 : Nat) (i1 : Int32) (h : dzH) : Option dzH := dzRV (dzC 37 [.ref a0, .int i1] h)
noncomputable def c_Sums_powerModulo (a0 : Nat) (a1 : Nat) (a2 : Nat) (a3 : Nat) (a4 : Nat) (h : dzH) : Option dzH := dzRV (dzC 38 [.ref a0, .ref a1, .ref a2, .ref a3, .ref a4] h)
noncomputable def c_P_power (a0 : Nat) (i1 : Int32) (i2 : Int32) (i3 : Int32) (i4 : Int32) (h : dzH) : Option (Int32 × dzH) := dzRI (dzC 39 [.ref a0, .int i1, .int i2, .int i3, .int i4] h)
noncomputable def c_Sums_greatestDivisor (a0 : Nat) (a1 : Nat) (a2 : Nat) (a3 : Nat) (h : dzH) : Option dzH := dzRV (dzC 40 [.ref a0, .ref a1, .ref a2, .ref a3] h)
noncomputable def c_P_common (a0 : Nat) (i1 : Int32) (i2 : Int32) (i3 : Int32) (h : dzH) : Option (Int32 × dzH) := dzRI (dzC 41 [.ref a0, .int i1, .int i2, .int i3] h)
noncomputable def c_Sums_order (a0 : Nat) (a1 : Nat) (h : dzH) : Option (Int32 × dzH) := dzRI (dzC 42 [.ref a0, .ref a1] h)
noncomputable def c_P_compare (a0 : Nat) (i1 : Int32) (i2 : Int32) (h : dzH) : Option (Int32 × dzH) := dzRI (dzC 43 [.ref a0, .int i1, .int i2] h)
noncomputable def c_Tape_room (a0 : Nat) (h : dzH) : Option (Int32 × dzH) := dzRI (dzC 44 [.ref a0] h)
noncomputable def c_Tape_append (a0 : Nat) (i1 : Int32) (h : dzH) : Option dzH := dzRV (dzC 45 [.ref a0, .int i1] h)
noncomputable def c_P_say (a0 : Nat) (i1 : Int32) (h : dzH) : Option (Int32 × dzH) := dzRI (dzC 46 [.ref a0, .int i1] h)
noncomputable def c_Lines_forgetBehind (a0 : Nat) (i1 : Int32) (h : dzH) : Option dzH := dzRV (dzC 47 [.ref a0, .int i1] h)
noncomputable def c_P_cut (a0 : Nat) (i1 : Int32) (h : dzH) : Option (Int32 × dzH) := dzRI (dzC 48 [.ref a0, .int i1] h)
noncomputable def c_P_length (a0 : Nat) (h : dzH) : Option (Int32 × dzH) := dzRI (dzC 49 [.ref a0] h)
noncomputable def c_P_at (a0 : Nat) (i1 : Int32) (h : dzH) : Option (Int32 × dzH) := dzRI (dzC 50 [.ref a0, .int i1] h)
noncomputable def c_Lines_end (a0 : Nat) (h : dzH) : Option (Int32 × dzH) := dzRI (dzC 51 [.ref a0] h)
noncomputable def c_Checker_refuse (a0 : Nat) (i1 : Int32) (i2 : Int32) (h : dzH) : Option (Int32 × dzH) := dzRI (dzC 52 [.ref a0, .int i1, .int i2] h)
noncomputable def c_Checker_take (a0 : Nat) (h : dzH) : Option (Int32 × dzH) := dzRI (dzC 53 [.ref a0] h)
noncomputable def c_P_isSmallPrime (i0 : Int32) (h : dzH) : Option (Int32 × dzH) := dzRI (dzC 54 [.int i0] h)
noncomputable def c_Checker_refuseTaken (a0 : Nat) (i1 : Int32) (h : dzH) : Option (Int32 × dzH) := dzRI (dzC 55 [.ref a0, .int i1] h)
noncomputable def c_Checker_readSmallPrime (a0 : Nat) (a1 : Nat) (h : dzH) : Option (Int32 × dzH) := dzRI (dzC 56 [.ref a0, .ref a1] h)
noncomputable def c_Sums_isAtMost (a0 : Nat) (i1 : Int32) (h : dzH) : Option (Int32 × dzH) := dzRI (dzC 57 [.ref a0, .int i1] h)
noncomputable def c_Checker_readNumber (a0 : Nat) (a1 : Nat) (h : dzH) : Option (Int32 × dzH) := dzRI (dzC 58 [.ref a0, .ref a1] h)
noncomputable def c_Checker_isWitness (i0 : Int32) (a1 : Nat) (h : dzH) : Option (Int32 × dzH) := dzRI (dzC 59 [.int i0, .ref a1] h)
noncomputable def c_Checker_readRoot (a0 : Nat) (a1 : Nat) (h : dzH) : Option (Int32 × dzH) := dzRI (dzC 60 [.ref a0, .ref a1] h)
noncomputable def c_Checker_factorNumber (a0 : Nat) (i1 : Int32) (h : dzH) : Option (Nat × dzH) := dzRA (dzC 61 [.ref a0, .int i1] h)
noncomputable def c_Checker_readFactorLine (a0 : Nat) (i1 : Int32) (i2 : Int32) (h : dzH) : Option (Int32 × dzH) := dzRI (dzC 62 [.ref a0, .int i1, .int i2] h)
noncomputable def c_Checker_readExponent (a0 : Nat) (i1 : Int32) (h : dzH) : Option (Int32 × dzH) := dzRI (dzC 63 [.ref a0, .int i1] h)
noncomputable def c_Checker_readFactors (a0 : Nat) (i1 : Int32) (h : dzH) : Option (Int32 × dzH) := dzRI (dzC 64 [.ref a0, .int i1] h)
noncomputable def c_Checker_readLine (a0 : Nat) (i1 : Int32) (h : dzH) : Option (Int32 × dzH) := dzRI (dzC 65 [.ref a0, .int i1] h)
noncomputable def c_Trial_begin (a0 : Nat) (a1 : Nat) (h : dzH) : Option dzH := dzRV (dzC 66 [.ref a0, .ref a1] h)
noncomputable def c_Checker_multiplyFactors (a0 : Nat) (h : dzH) : Option (Int32 × dzH) := dzRI (dzC 67 [.ref a0] h)
noncomputable def c_Sums_divides (a0 : Nat) (a1 : Nat) (a2 : Nat) (h : dzH) : Option (Int32 × dzH) := dzRI (dzC 68 [.ref a0, .ref a1, .ref a2] h)
noncomputable def c_Sums_squareIsAbove (a0 : Nat) (a1 : Nat) (a2 : Nat) (h : dzH) : Option (Int32 × dzH) := dzRI (dzC 69 [.ref a0, .ref a1, .ref a2] h)
noncomputable def c_Checker_productHolds (a0 : Nat) (h : dzH) : Option (Int32 × dzH) := dzRI (dzC 70 [.ref a0] h)
noncomputable def c_Sums_isOne (a0 : Nat) (h : dzH) : Option (Int32 × dzH) := dzRI (dzC 71 [.ref a0] h)
noncomputable def c_Trial_closes (a0 : Nat) (i1 : Int32) (h : dzH) : Option (Int32 × dzH) := dzRI (dzC 72 [.ref a0, .int i1] h)
noncomputable def c_Trial_parts (a0 : Nat) (i1 : Int32) (a2 : Nat) (h : dzH) : Option (Int32 × dzH) := dzRI (dzC 73 [.ref a0, .int i1, .ref a2] h)
noncomputable def c_Checker_factorPlace (a0 : Nat) (i1 : Int32) (h : dzH) : Option (Int32 × dzH) := dzRI (dzC 74 [.ref a0, .int i1] h)
noncomputable def c_Checker_rootHolds (a0 : Nat) (h : dzH) : Option (Int32 × dzH) := dzRI (dzC 75 [.ref a0] h)
noncomputable def c_Trial_partsEverywhere (a0 : Nat) (i1 : Int32) (a2 : Nat) (h : dzH) : Option (Int32 × dzH) := dzRI (dzC 76 [.ref a0, .int i1, .ref a2] h)
noncomputable def c_Checker_witnessesHold (a0 : Nat) (h : dzH) : Option (Int32 × dzH) := dzRI (dzC 77 [.ref a0] h)
noncomputable def c_Lines_keepNext (a0 : Nat) (i1 : Int32) (h : dzH) : Option dzH := dzRV (dzC 78 [.ref a0, .int i1] h)
noncomputable def c_Checker_findFault (a0 : Nat) (h : dzH) : Option (Int32 × dzH) := dzRI (dzC 79 [.ref a0] h)
noncomputable def c_P_check (a0 : Nat) (h : dzH) : Option (Int32 × dzH) := dzRI (dzC 80 [.ref a0] h)
noncomputable def c_P_place (a0 : Nat) (h : dzH) : Option (Int32 × dzH) := dzRI (dzC 81 [.ref a0] h)
noncomputable def c_P_tell (a0 : Nat) (i1 : Int32) (i2 : Int32) (h : dzH) : Option (Int32 × dzH) := dzRI (dzC 82 [.ref a0, .int i1, .int i2] h)
noncomputable def c_Lines_lineOf (a0 : Nat) (a1 : Nat) (h : dzH) : Option (Int32 × dzH) := dzRI (dzC 83 [.ref a0, .ref a1] h)
noncomputable def c_Maker_planSmallLine (a0 : Nat) (a1 : Nat) (h : dzH) : Option (Int32 × dzH) := dzRI (dzC 84 [.ref a0, .ref a1] h)
noncomputable def c_Maker_hasRoom (a0 : Nat) (i1 : Int32) (h : dzH) : Option (Int32 × dzH) := dzRI (dzC 85 [.ref a0, .int i1] h)
noncomputable def c_Maker_writeSmallLines (a0 : Nat) (h : dzH) : Option (Int32 × dzH) := dzRI (dzC 86 [.ref a0] h)
noncomputable def c_Maker_divideOut (a0 : Nat) (a1 : Nat) (h : dzH) : Option (Int32 × dzH) := dzRI (dzC 87 [.ref a0, .ref a1] h)
noncomputable def c_Maker_factorNumber (a0 : Nat) (i1 : Int32) (h : dzH) : Option (Nat × dzH) := dzRA (dzC 88 [.ref a0, .int i1] h)
noncomputable def c_Maker_insertFactor (a0 : Nat) (i1 : Int32) (i2 : Int32) (h : dzH) : Option (Int32 × dzH) := dzRI (dzC 89 [.ref a0, .int i1, .int i2] h)
noncomputable def c_Maker_insertPrime (a0 : Nat) (i1 : Int32) (h : dzH) : Option (Int32 × dzH) := dzRI (dzC 90 [.ref a0, .int i1] h)
noncomputable def c_Maker_findFactors (a0 : Nat) (h : dzH) : Option (Int32 × dzH) := dzRI (dzC 91 [.ref a0] h)
noncomputable def c_Maker_lastLineInts (a0 : Nat) (i1 : Int32) (h : dzH) : Option (Int32 × dzH) := dzRI (dzC 92 [.ref a0, .int i1] h)
noncomputable def c_Maker_factorsSuffice (a0 : Nat) (h : dzH) : Option (Int32 × dzH) := dzRI (dzC 93 [.ref a0] h)
noncomputable def c_Maker_findRoot (a0 : Nat) (h : dzH) : Option (Int32 × dzH) := dzRI (dzC 94 [.ref a0] h)
noncomputable def c_Maker_findWitnesses (a0 : Nat) (h : dzH) : Option (Int32 × dzH) := dzRI (dzC 95 [.ref a0] h)
noncomputable def c_Maker_writeLastLine (a0 : Nat) (i1 : Int32) (h : dzH) : Option (Int32 × dzH) := dzRI (dzC 96 [.ref a0, .int i1] h)
noncomputable def c_Maker_lineFor (a0 : Nat) (a1 : Nat) (h : dzH) : Option (Int32 × dzH) := dzRI (dzC 97 [.ref a0, .ref a1] h)
noncomputable def c_P_prove (a0 : Nat) (i1 : Int32) (h : dzH) : Option (Int32 × dzH) := dzRI (dzC 98 [.ref a0, .int i1] h)
noncomputable def c_M_set (a0 : Nat) (i1 : Int32) (j2 : Int64) (h : dzH) : Option dzH := dzRV (dzC 99 [.ref a0, .int i1, .long j2] h)
noncomputable def c_M_init (a0 : Nat) (h : dzH) : Option dzH := dzRV (dzC 100 [.ref a0] h)
noncomputable def c_M_copy (a0 : Nat) (i1 : Int32) (i2 : Int32) (h : dzH) : Option dzH := dzRV (dzC 101 [.ref a0, .int i1, .int i2] h)
noncomputable def c_M_order (a0 : Nat) (i1 : Int32) (i2 : Int32) (h : dzH) : Option (Int32 × dzH) := dzRI (dzC 102 [.ref a0, .int i1, .int i2] h)
noncomputable def c_M_lengthOf (a0 : Nat) (i1 : Int32) (h : dzH) : Option (Int32 × dzH) := dzRI (dzC 103 [.ref a0, .int i1] h)
noncomputable def c_M_isZero (a0 : Nat) (i1 : Int32) (h : dzH) : Option (Int32 × dzH) := dzRI (dzC 104 [.ref a0, .int i1] h)
noncomputable def c_M_raise (a0 : Nat) (i1 : Int32) (i2 : Int32) (h : dzH) : Option dzH := dzRV (dzC 105 [.ref a0, .int i1, .int i2] h)
noncomputable def c_M_lower (a0 : Nat) (i1 : Int32) (i2 : Int32) (h : dzH) : Option dzH := dzRV (dzC 106 [.ref a0, .int i1, .int i2] h)
noncomputable def c_M_times (a0 : Nat) (i1 : Int32) (i2 : Int32) (i3 : Int32) (h : dzH) : Option dzH := dzRV (dzC 107 [.ref a0, .int i1, .int i2, .int i3] h)
noncomputable def c_M_guess (a0 : Nat) (i1 : Int32) (i2 : Int32) (i3 : Int32) (i4 : Int32) (h : dzH) : Option (Int32 × dzH) := dzRI (dzC 108 [.ref a0, .int i1, .int i2, .int i3, .int i4] h)
noncomputable def c_M_away (a0 : Nat) (i1 : Int32) (i2 : Int32) (i3 : Int32) (i4 : Int32) (i5 : Int32) (h : dzH) : Option dzH := dzRV (dzC 109 [.ref a0, .int i1, .int i2, .int i3, .int i4, .int i5] h)
noncomputable def c_M_isOver (a0 : Nat) (i1 : Int32) (i2 : Int32) (i3 : Int32) (i4 : Int32) (h : dzH) : Option (Int32 × dzH) := dzRI (dzC 110 [.ref a0, .int i1, .int i2, .int i3, .int i4] h)
noncomputable def c_M_part (a0 : Nat) (i1 : Int32) (i2 : Int32) (i3 : Int32) (i4 : Int32) (h : dzH) : Option dzH := dzRV (dzC 111 [.ref a0, .int i1, .int i2, .int i3, .int i4] h)
noncomputable def c_M_bit (a0 : Nat) (i1 : Int32) (i2 : Int32) (h : dzH) : Option (Int32 × dzH) := dzRI (dzC 112 [.ref a0, .int i1, .int i2] h)
noncomputable def c_M_raiseTo (a0 : Nat) (i1 : Int32) (i2 : Int32) (i3 : Int32) (i4 : Int32) (h : dzH) : Option dzH := dzRV (dzC 113 [.ref a0, .int i1, .int i2, .int i3, .int i4] h)
noncomputable def c_M_divisor (a0 : Nat) (i1 : Int32) (i2 : Int32) (i3 : Int32) (h : dzH) : Option dzH := dzRV (dzC 114 [.ref a0, .int i1, .int i2, .int i3] h)
noncomputable def c_M_fits (a0 : Nat) (i1 : Int32) (h : dzH) : Option (Int32 × dzH) := dzRI (dzC 115 [.ref a0, .int i1] h)
noncomputable def c_M_isOne (a0 : Nat) (i1 : Int32) (h : dzH) : Option (Int32 × dzH) := dzRI (dzC 116 [.ref a0, .int i1] h)
noncomputable def c_M_isRegister (i0 : Int32) (h : dzH) : Option (Int32 × dzH) := dzRI (dzC 117 [.int i0] h)
noncomputable def c_M_put (a0 : Nat) (i1 : Int32) (i2 : Int32) (i3 : Int32) (h : dzH) : Option (Int32 × dzH) := dzRI (dzC 118 [.ref a0, .int i1, .int i2, .int i3] h)
noncomputable def c_M_get (a0 : Nat) (i1 : Int32) (i2 : Int32) (h : dzH) : Option (Int32 × dzH) := dzRI (dzC 119 [.ref a0, .int i1, .int i2] h)
noncomputable def c_M_are (i0 : Int32) (i1 : Int32) (i2 : Int32) (h : dzH) : Option (Int32 × dzH) := dzRI (dzC 120 [.int i0, .int i1, .int i2] h)
noncomputable def c_M_give (a0 : Nat) (i1 : Int32) (i2 : Int32) (h : dzH) : Option (Int32 × dzH) := dzRI (dzC 121 [.ref a0, .int i1, .int i2] h)
noncomputable def c_M_add (a0 : Nat) (i1 : Int32) (i2 : Int32) (i3 : Int32) (h : dzH) : Option (Int32 × dzH) := dzRI (dzC 122 [.ref a0, .int i1, .int i2, .int i3] h)
noncomputable def c_M_subtract (a0 : Nat) (i1 : Int32) (i2 : Int32) (i3 : Int32) (h : dzH) : Option (Int32 × dzH) := dzRI (dzC 123 [.ref a0, .int i1, .int i2, .int i3] h)
noncomputable def c_M_multiply (a0 : Nat) (i1 : Int32) (i2 : Int32) (i3 : Int32) (h : dzH) : Option (Int32 × dzH) := dzRI (dzC 124 [.ref a0, .int i1, .int i2, .int i3] h)
noncomputable def c_M_divide (a0 : Nat) (i1 : Int32) (i2 : Int32) (i3 : Int32) (i4 : Int32) (h : dzH) : Option (Int32 × dzH) := dzRI (dzC 125 [.ref a0, .int i1, .int i2, .int i3, .int i4] h)
noncomputable def c_M_power (a0 : Nat) (i1 : Int32) (i2 : Int32) (i3 : Int32) (i4 : Int32) (h : dzH) : Option (Int32 × dzH) := dzRI (dzC 126 [.ref a0, .int i1, .int i2, .int i3, .int i4] h)
noncomputable def c_M_common (a0 : Nat) (i1 : Int32) (i2 : Int32) (i3 : Int32) (h : dzH) : Option (Int32 × dzH) := dzRI (dzC 127 [.ref a0, .int i1, .int i2, .int i3] h)
noncomputable def c_M_compare (a0 : Nat) (i1 : Int32) (i2 : Int32) (h : dzH) : Option (Int32 × dzH) := dzRI (dzC 128 [.ref a0, .int i1, .int i2] h)
noncomputable def c_M_say (a0 : Nat) (i1 : Int32) (h : dzH) : Option (Int32 × dzH) := dzRI (dzC 129 [.ref a0, .int i1] h)
noncomputable def c_M_cut (a0 : Nat) (i1 : Int32) (h : dzH) : Option (Int32 × dzH) := dzRI (dzC 130 [.ref a0, .int i1] h)
noncomputable def c_M_length (a0 : Nat) (h : dzH) : Option (Int32 × dzH) := dzRI (dzC 131 [.ref a0] h)
noncomputable def c_M_at (a0 : Nat) (i1 : Int32) (h : dzH) : Option (Int32 × dzH) := dzRI (dzC 132 [.ref a0, .int i1] h)
noncomputable def c_M_fail (a0 : Nat) (i1 : Int32) (i2 : Int32) (h : dzH) : Option dzH := dzRV (dzC 133 [.ref a0, .int i1, .int i2] h)
noncomputable def c_M_isGood (a0 : Nat) (h : dzH) : Option (Int32 × dzH) := dzRI (dzC 134 [.ref a0] h)
noncomputable def c_M_next (a0 : Nat) (h : dzH) : Option (Int32 × dzH) := dzRI (dzC 135 [.ref a0] h)
noncomputable def c_M_nextIn (a0 : Nat) (i1 : Int32) (i2 : Int32) (h : dzH) : Option (Int32 × dzH) := dzRI (dzC 136 [.ref a0, .int i1, .int i2] h)
noncomputable def c_M_isSmallPrime (i0 : Int32) (h : dzH) : Option (Int32 × dzH) := dzRI (dzC 137 [.int i0] h)
noncomputable def c_M_lineOne (a0 : Nat) (h : dzH) : Option dzH := dzRV (dzC 138 [.ref a0] h)
noncomputable def c_M_number (a0 : Nat) (h : dzH) : Option dzH := dzRV (dzC 139 [.ref a0] h)
noncomputable def c_M_witness (a0 : Nat) (i1 : Int32) (h : dzH) : Option dzH := dzRV (dzC 140 [.ref a0, .int i1] h)
noncomputable def c_M_factors (a0 : Nat) (i1 : Int32) (h : dzH) : Option dzH := dzRV (dzC 141 [.ref a0, .int i1] h)
noncomputable def c_M_product (a0 : Nat) (i1 : Int32) (i2 : Int32) (h : dzH) : Option (Int32 × dzH) := dzRI (dzC 142 [.ref a0, .int i1, .int i2] h)
noncomputable def c_M_isWhole (a0 : Nat) (h : dzH) : Option (Int32 × dzH) := dzRI (dzC 143 [.ref a0] h)
noncomputable def c_M_isRight (a0 : Nat) (i1 : Int32) (i2 : Int32) (h : dzH) : Option (Int32 × dzH) := dzRI (dzC 144 [.ref a0, .int i1, .int i2] h)
noncomputable def c_M_lineTwo (a0 : Nat) (h : dzH) : Option dzH := dzRV (dzC 145 [.ref a0] h)
noncomputable def c_M_lineThree (a0 : Nat) (h : dzH) : Option dzH := dzRV (dzC 146 [.ref a0] h)
noncomputable def c_M_check (a0 : Nat) (h : dzH) : Option (Int32 × dzH) := dzRI (dzC 147 [.ref a0] h)
noncomputable def c_M_place (a0 : Nat) (h : dzH) : Option (Int32 × dzH) := dzRI (dzC 148 [.ref a0] h)
noncomputable def c_M_tell (a0 : Nat) (i1 : Int32) (i2 : Int32) (h : dzH) : Option (Int32 × dzH) := dzRI (dzC 149 [.ref a0, .int i1, .int i2] h)
noncomputable def c_M_lineOf (a0 : Nat) (i1 : Int32) (h : dzH) : Option (Int32 × dzH) := dzRI (dzC 150 [.ref a0, .int i1] h)
noncomputable def c_M_sayOne (a0 : Nat) (i1 : Int32) (h : dzH) : Option (Int32 × dzH) := dzRI (dzC 151 [.ref a0, .int i1] h)
noncomputable def c_M_often (a0 : Nat) (i1 : Int32) (h : dzH) : Option (Int32 × dzH) := dzRI (dzC 152 [.ref a0, .int i1] h)
noncomputable def c_M_sort (a0 : Nat) (i1 : Int32) (h : dzH) : Option dzH := dzRV (dzC 153 [.ref a0, .int i1] h)
noncomputable def c_M_find (a0 : Nat) (h : dzH) : Option (Int32 × dzH) := dzRI (dzC 154 [.ref a0] h)
noncomputable def c_M_wholeWitness (a0 : Nat) (h : dzH) : Option (Int32 × dzH) := dzRI (dzC 155 [.ref a0] h)
noncomputable def c_M_partWitnesses (a0 : Nat) (h : dzH) : Option (Int32 × dzH) := dzRI (dzC 156 [.ref a0] h)
noncomputable def c_M_sayLine (a0 : Nat) (i1 : Int32) (i2 : Int32) (h : dzH) : Option (Int32 × dzH) := dzRI (dzC 157 [.ref a0, .int i1, .int i2] h)
noncomputable def c_M_make (a0 : Nat) (h : dzH) : Option (Int32 × dzH) := dzRI (dzC 158 [.ref a0] h)
noncomputable def c_M_prove (a0 : Nat) (i1 : Int32) (h : dzH) : Option (Int32 × dzH) := dzRI (dzC 159 [.ref a0, .int i1] h)
noncomputable def c_L_law (a0 : Nat) (h : dzH) : Option (Int32 × dzH) := dzRI (dzC 160 [.ref a0] h)
-- PrimeCertificates$Sums.<init>:()V
set_option maxRecDepth 100000 in
theorem q_Sums_init_0 (a0 : Nat) (h : dzH) : dzF 0 0 [(0, .ref a0)] [] (0, 0) h =
  (dnI h (17 : Int32)).bind fun h1 =>
  (dpF h1 a0 6 0 (.ref h.1)).bind fun h2 =>
  (dnI h2 (17 : Int32)).bind fun h3 =>
  (dpF h3 a0 6 1 (.ref h2.1)).bind fun h4 =>
  (dnI h4 (8 : Int32)).bind fun h5 =>
  (dpF h5 a0 6 2 (.ref h4.1)).bind fun h6 =>
  (dpF h6 a0 6 3 (.int (0 : Int32))).bind fun h7 =>
  (dpF h7 a0 6 4 (.int (0 : Int32))).bind fun h8 =>
  (dnI h8 (8 : Int32)).bind fun h9 =>
  (dpF h9 a0 6 5 (.ref h8.1)).bind fun h10 =>
  (dnI h10 (8 : Int32)).bind fun h11 =>
  (dpF h11 a0 6 6 (.ref h10.1)).bind fun h12 =>
  (dnI h12 (8 : Int32)).bind fun h13 =>
  (dpF h13 a0 6 7 (.ref h12.1)).bind fun h14 =>
  (dnI h14 (8 : Int32)).bind fun h15 =>
  (dpF h15 a0 6 8 (.ref h14.1)).bind fun h16 =>
  some (none, h16) := (dzW_at 37 0 _ _ _ _ _).trans rfl
-- PrimeCertificates$Tape.<init>:()V
theorem q_Tape_init_0 (a0 : Nat) (h : dzH) : dzF 1 0 [(0, .ref a0)] [] (0, 0) h =
  (dnI h (4000 : Int32)).bind fun h1 =>
  (dpF h1 a0 7 0 (.ref h.1)).bind fun h2 =>
  (dpF h2 a0 7 1 (.int (0 : Int32))).bind fun h3 =>
  some (none, h3) := (dzW_at 10 1 _ _ _ _ _).trans rfl
-- PrimeCertificates$Lines.<init>:()V
theorem q_Lines_init_0 (a0 : Nat) (h : dzH) : dzF 2 0 [(0, .ref a0)] [] (0, 0) h =
  (dnM h (200 : Int32) (8 : Int32)).bind fun h1 =>
  (dpF h1 a0 4 0 (.ref h.1)).bind fun h2 =>
  (dnI h2 (200 : Int32)).bind fun h3 =>
  (dpF h3 a0 4 1 (.ref h2.1)).bind fun h4 =>
  (dpF h4 a0 4 2 (.int (0 : Int32))).bind fun h5 =>
  (dpF h5 a0 4 3 (.int (0 : Int32))).bind fun h6 =>
  some (none, h6) := (dzW_at 18 2 _ _ _ _ _).trans rfl
-- PrimeCertificates$Trial.<init>:(LPrimeCertificates$Sums;)V
theorem q_Trial_init_0 (a0 : Nat) (a1 : Nat) (h : dzH) : dzF 3 0 [(0, .ref a0), (1, .ref a1)] [] (0, 0) h =
  (dnI h (8 : Int32)).bind fun h1 =>
  (dpF h1 a0 8 1 (.ref h.1)).bind fun h2 =>
  (dnI h2 (8 : Int32)).bind fun h3 =>
  (dpF h3 a0 8 2 (.ref h2.1)).bind fun h4 =>
  (dnI h4 (8 : Int32)).bind fun h5 =>
  (dpF h5 a0 8 3 (.ref h4.1)).bind fun h6 =>
  (dnI h6 (8 : Int32)).bind fun h7 =>
  (dpF h7 a0 8 4 (.ref h6.1)).bind fun h8 =>
  (dnI h8 (8 : Int32)).bind fun h9 =>
  (dpF h9 a0 8 5 (.ref h8.1)).bind fun h10 =>
  (dnI h10 (8 : Int32)).bind fun h11 =>
  (dpF h11 a0 8 6 (.ref h10.1)).bind fun h12 =>
  (dpF h12 a0 8 0 (.ref a1)).bind fun h13 =>
  (dgA h13 a0 8 3).bind fun r14 =>
  (dwI h13 r14 (0 : Int32) (1 : Int32)).bind fun h15 =>
  some (none, h15) := (dzW_at 35 3 _ _ _ _ _).trans rfl
-- PrimeCertificates$Factors.<init>:()V
theorem q_Factors_init_0 (a0 : Nat) (h : dzH) : dzF 4 0 [(0, .ref a0)] [] (0, 0) h =
  (dnI h (40 : Int32)).bind fun h1 =>
  (dpF h1 a0 3 0 (.ref h.1)).bind fun h2 =>
  (dnI h2 (40 : Int32)).bind fun h3 =>
  (dpF h3 a0 3 1 (.ref h2.1)).bind fun h4 =>
  (dnI h4 (40 : Int32)).bind fun h5 =>
  (dpF h5 a0 3 2 (.ref h4.1)).bind fun h6 =>
  (dpF h6 a0 3 3 (.int (0 : Int32))).bind fun h7 =>
  some (none, h7) := (dzW_at 18 4 _ _ _ _ _).trans rfl
-- PrimeCertificates$Checker.<init>:(LPrimeCertificates$Tape;LPrimeCertificates$Lines;LPrimeCertificates$Sums;LPrimeCertificates$Trial;)V
set_option maxRecDepth 100000 in
theorem q_Checker_init_0 (a0 : Nat) (a1 : Nat) (a2 : Nat) (a3 : Nat) (a4 : Nat) (h : dzH) : dzF 5 0 [(0, .ref a0), (1, .ref a1), (2, .ref a2), (3, .ref a3), (4, .ref a4)] [] (0, 0) h =
  (c_Factors_init h.1 (dnO h 3)).bind fun h1 =>
  (dpF h1 a0 2 4 (.ref h.1)).bind fun h2 =>
  (dnI h2 (8 : Int32)).bind fun h3 =>
  (dpF h3 a0 2 5 (.ref h2.1)).bind fun h4 =>
  (dpF h4 a0 2 6 (.int (0 : Int32))).bind fun h5 =>
  (dpF h5 a0 2 7 (.int (0 : Int32))).bind fun h6 =>
  (dpF h6 a0 2 8 (.int (0 : Int32))).bind fun h7 =>
  (dpF h7 a0 2 9 (.int (0 : Int32))).bind fun h8 =>
  (dpF h8 a0 2 10 (.int (0 : Int32))).bind fun h9 =>
  (dpF h9 a0 2 11 (.int (0 : Int32))).bind fun h10 =>
  (dpF h10 a0 2 12 (.int (-2 : Int32))).bind fun h11 =>
  (dpF h11 a0 2 0 (.ref a1)).bind fun h12 =>
  (dpF h12 a0 2 1 (.ref a2)).bind fun h13 =>
  (dpF h13 a0 2 2 (.ref a3)).bind fun h14 =>
  (dpF h14 a0 2 3 (.ref a4)).bind fun h15 =>
  some (none, h15) := (dzW_at 45 5 _ _ _ _ _).trans rfl
-- PrimeCertificates$Maker.<init>:(LPrimeCertificates$Tape;LPrimeCertificates$Lines;LPrimeCertificates$Sums;LPrimeCertificates$Trial;)V
set_option maxRecDepth 100000 in
theorem q_Maker_init_0 (a0 : Nat) (a1 : Nat) (a2 : Nat) (a3 : Nat) (a4 : Nat) (h : dzH) : dzF 6 0 [(0, .ref a0), (1, .ref a1), (2, .ref a2), (3, .ref a3), (4, .ref a4)] [] (0, 0) h =
  (c_Factors_init h.1 (dnO h 3)).bind fun h1 =>
  (dpF h1 a0 5 4 (.ref h.1)).bind fun h2 =>
  (dnI h2 (8 : Int32)).bind fun h3 =>
  (dpF h3 a0 5 5 (.ref h2.1)).bind fun h4 =>
  (dnI h4 (8 : Int32)).bind fun h5 =>
  (dpF h5 a0 5 6 (.ref h4.1)).bind fun h6 =>
  (dnI h6 (8 : Int32)).bind fun h7 =>
  (dpF h7 a0 5 7 (.ref h6.1)).bind fun h8 =>
  (dnI h8 (8 : Int32)).bind fun h9 =>
  (dpF h9 a0 5 8 (.ref h8.1)).bind fun h10 =>
  (dpF h10 a0 5 9 (.int (0 : Int32))).bind fun h11 =>
  (dpF h11 a0 5 10 (.int (0 : Int32))).bind fun h12 =>
  (dpF h12 a0 5 0 (.ref a1)).bind fun h13 =>
  (dpF h13 a0 5 1 (.ref a2)).bind fun h14 =>
  (dpF h14 a0 5 2 (.ref a3)).bind fun h15 =>
  (dpF h15 a0 5 3 (.ref a4)).bind fun h16 =>
  some (none, h16) := (dzW_at 42 6 _ _ _ _ _).trans rfl
-- PrimeCertificates.<init>:()V
set_option maxRecDepth 100000 in
theorem q_P_init_0 (a0 : Nat) (h : dzH) : dzF 7 0 [(0, .ref a0)] [] (0, 0) h =
  (dnM h (8 : Int32) (8 : Int32)).bind fun h1 =>
  (dpF h1 a0 0 0 (.ref h.1)).bind fun h2 =>
  (dnI h2 (8 : Int32)).bind fun h3 =>
  (dpF h3 a0 0 1 (.ref h2.1)).bind fun h4 =>
  (dnI h4 (8 : Int32)).bind fun h5 =>
  (dpF h5 a0 0 2 (.ref h4.1)).bind fun h6 =>
  (c_Sums_init h6.1 (dnO h6 6)).bind fun h7 =>
  (dpF h7 a0 0 3 (.ref h6.1)).bind fun h8 =>
  (c_Tape_init h8.1 (dnO h8 7)).bind fun h9 =>
  (dpF h9 a0 0 4 (.ref h8.1)).bind fun h10 =>
  (c_Lines_init h10.1 (dnO h10 4)).bind fun h11 =>
  (dpF h11 a0 0 5 (.ref h10.1)).bind fun h12 =>
  (dgA (dnO h12 8) a0 0 3).bind fun r13 =>
  (c_Trial_init h12.1 r13 (dnO h12 8)).bind fun h14 =>
  (dgA (dnO h14 2) a0 0 4).bind fun r15 =>
  (dgA (dnO h14 2) a0 0 5).bind fun r16 =>
  (dgA (dnO h14 2) a0 0 3).bind fun r17 =>
  (c_Checker_init h14.1 r15 r16 r17 h12.1 (dnO h14 2)).bind fun h18 =>
  (dpF h18 a0 0 6 (.ref h14.1)).bind fun h19 =>
  (dgA (dnO h19 5) a0 0 4).bind fun r20 =>
  (dgA (dnO h19 5) a0 0 5).bind fun r21 =>
  (dgA (dnO h19 5) a0 0 3).bind fun r22 =>
  (c_Maker_init h19.1 r20 r21 r22 h12.1 (dnO h19 5)).bind fun h23 =>
  (dpF h23 a0 0 7 (.ref h19.1)).bind fun h24 =>
  some (none, h24) := (dzW_at 61 7 _ _ _ _ _).trans rfl
-- PrimeCertificates.isRegister:(I)Z
theorem q_P_isRegister_0 (i0 : Int32) (h : dzH) : dzF 8 0 [(0, .int i0)] [] (0, 0) h =
  if i0 < 0 then
    some (some (.int (0 : Int32)), h)
  else
    if i0 < (8 : Int32) then
      some (some (.int (1 : Int32)), h)
    else
      some (some (.int (0 : Int32)), h) := (dzW_at 8 8 _ _ _ _ _).trans rfl
-- PrimeCertificates.isWord:(I)Z
theorem q_P_isWord_0 (i0 : Int32) (h : dzH) : dzF 9 0 [(0, .int i0)] [] (0, 0) h =
  if i0 < 0 then
    some (some (.int (0 : Int32)), h)
  else
    if i0 < (8 : Int32) then
      some (some (.int (1 : Int32)), h)
    else
      some (some (.int (0 : Int32)), h) := (dzW_at 8 9 _ _ _ _ _).trans rfl
-- PrimeCertificates.put:(III)Z
theorem q_P_put_0 (a0 : Nat) (i1 : Int32) (i2 : Int32) (i3 : Int32) (h : dzH) : dzF 10 0 [(0, .ref a0), (1, .int i1), (2, .int i2), (3, .int i3)] [] (0, 0) h =
  (c_P_isRegister i1 h).bind fun q1 =>
  if q1.1 = 0 then
    some (some (.int (0 : Int32)), q1.2)
  else
    (c_P_isWord i2 q1.2).bind fun q2 =>
    if q2.1 = 0 then
      some (some (.int (0 : Int32)), q2.2)
    else
      (dgA q2.2 a0 0 0).bind fun r3 =>
      (drA q2.2 r3 i1).bind fun r4 =>
      (dwI q2.2 r4 i2 i3).bind fun h5 =>
      some (some (.int (1 : Int32)), h5) := (dzW_at 15 10 _ _ _ _ _).trans rfl
-- PrimeCertificates.get:(II)I
theorem q_P_get_0 (a0 : Nat) (i1 : Int32) (i2 : Int32) (h : dzH) : dzF 11 0 [(0, .ref a0), (1, .int i1), (2, .int i2)] [] (0, 0) h =
  (c_P_isRegister i1 h).bind fun q1 =>
  if q1.1 = 0 then
    some (some (.int (0 : Int32)), q1.2)
  else
    (c_P_isWord i2 q1.2).bind fun q2 =>
    if q2.1 = 0 then
      some (some (.int (0 : Int32)), q2.2)
    else
      (dgA q2.2 a0 0 0).bind fun r3 =>
      (drA q2.2 r3 i1).bind fun r4 =>
      (drI q2.2 r4 i2).bind fun v5 =>
      some (some (.int v5), q2.2) := (dzW_at 14 11 _ _ _ _ _).trans rfl
-- PrimeCertificates.areRegisters:(III)Z
theorem q_P_areRegisters_0 (i0 : Int32) (i1 : Int32) (i2 : Int32) (h : dzH) : dzF 12 0 [(0, .int i0), (1, .int i1), (2, .int i2)] [] (0, 0) h =
  (c_P_isRegister i0 h).bind fun q1 =>
  if q1.1 = 0 then
    some (some (.int (0 : Int32)), q1.2)
  else
    (c_P_isRegister i1 q1.2).bind fun q2 =>
    if q2.1 = 0 then
      some (some (.int (0 : Int32)), q2.2)
    else
      (c_P_isRegister i2 q2.2).bind fun q3 =>
      if q3.1 = 0 then
        some (some (.int (0 : Int32)), q3.2)
      else
        some (some (.int (1 : Int32)), q3.2) := (dzW_at 12 12 _ _ _ _ _).trans rfl
-- PrimeCertificates$Sums.sum:([I[I[I)Z
theorem q_Sums_sum_0 (a0 : Nat) (a1 : Nat) (a2 : Nat) (h : dzH) : dzF 13 0 [(0, .ref a0), (1, .ref a1), (2, .ref a2)] [] (0, 0) h =
  dzF 13 5 [(0, .ref a0), (1, .ref a1), (2, .ref a2), (3, .long (0 : Int64)), (5, .int (0 : Int32))] [] (0, 0) h := (dzW_at 5 13 _ _ _ _ _).trans rfl
theorem q_Sums_sum_5 (a0 : Nat) (a1 : Nat) (a2 : Nat) (j3 : Int64) (i5 : Int32) (h : dzH) : dzF 13 5 [(0, .ref a0), (1, .ref a1), (2, .ref a2), (3, .long j3), (5, .int i5)] [] (0, 0) h =
  if i5 < (8 : Int32) then
    (drI h a0 i5).bind fun v1 =>
    (drI h a1 i5).bind fun v2 =>
    (dwI h a2 i5 (Int64.toInt32 (j3 + (((Int32.toInt64 v1) &&& (4294967295 : Int64)) + ((Int32.toInt64 v2) &&& (4294967295 : Int64)))))).bind fun h3 =>
    dzF 13 5 [(0, .ref a0), (1, .ref a1), (2, .ref a2), (3, .long (k_lushr (j3 + (((Int32.toInt64 v1) &&& (4294967295 : Int64)) + ((Int32.toInt64 v2) &&& (4294967295 : Int64)))) (32 : Int32))), (5, .int (i5 + (1 : Int32)))] [] (0, 0) h3
  else
    if (k_lcmp j3 (0 : Int64)) = 0 then
      some (some (.int (1 : Int32)), h)
    else
      some (some (.int (0 : Int32)), h) := (dzW_at 31 13 _ _ _ _ _).trans rfl
-- PrimeCertificates$Sums.copy:([I[I)V
theorem q_Sums_copy_0 (a0 : Nat) (a1 : Nat) (h : dzH) : dzF 14 0 [(0, .ref a0), (1, .ref a1)] [] (0, 0) h =
  (dcp h a0 (0 : Int32) a1 (0 : Int32) (8 : Int32)).bind fun h1 =>
  some (none, h1) := (dzW_at 7 14 _ _ _ _ _).trans rfl
-- PrimeCertificates.keepAnswer:(I)I
theorem q_P_keepAnswer_0 (a0 : Nat) (i1 : Int32) (h : dzH) : dzF 15 0 [(0, .ref a0), (1, .int i1)] [] (0, 0) h =
  (dgA h a0 0 1).bind fun r1 =>
  (dgA h a0 0 0).bind fun r2 =>
  (drA h r2 i1).bind fun r3 =>
  (c_Sums_copy r1 r3 h).bind fun h4 =>
  some (some (.int (0 : Int32)), h4) := (dzW_at 9 15 _ _ _ _ _).trans rfl
-- PrimeCertificates.add:(III)I
theorem q_P_add_0 (a0 : Nat) (i1 : Int32) (i2 : Int32) (i3 : Int32) (h : dzH) : dzF 16 0 [(0, .ref a0), (1, .int i1), (2, .int i2), (3, .int i3)] [] (0, 0) h =
  (c_P_areRegisters i1 i2 i3 h).bind fun q1 =>
  if q1.1 = 0 then
    some (some (.int (-1 : Int32)), q1.2)
  else
    (dgA q1.2 a0 0 0).bind fun r2 =>
    (drA q1.2 r2 i1).bind fun r3 =>
    (dgA q1.2 a0 0 0).bind fun r4 =>
    (drA q1.2 r4 i2).bind fun r5 =>
    (dgA q1.2 a0 0 1).bind fun r6 =>
    (c_Sums_sum r3 r5 r6 q1.2).bind fun q7 =>
    if q7.1 = 0 then
      some (some (.int (-3 : Int32)), q7.2)
    else
      (c_P_keepAnswer a0 i3 q7.2).bind fun q8 =>
      some (some (.int q8.1), q8.2) := (dzW_at 22 16 _ _ _ _ _).trans rfl
-- PrimeCertificates$Sums.difference:([I[I[I)Z
theorem q_Sums_difference_0 (a0 : Nat) (a1 : Nat) (a2 : Nat) (h : dzH) : dzF 17 0 [(0, .ref a0), (1, .ref a1), (2, .ref a2)] [] (0, 0) h =
  dzF 17 5 [(0, .ref a0), (1, .ref a1), (2, .ref a2), (3, .long (0 : Int64)), (5, .int (0 : Int32))] [] (0, 0) h := (dzW_at 5 17 _ _ _ _ _).trans rfl
theorem q_Sums_difference_5 (a0 : Nat) (a1 : Nat) (a2 : Nat) (j3 : Int64) (i5 : Int32) (h : dzH) : dzF 17 5 [(0, .ref a0), (1, .ref a1), (2, .ref a2), (3, .long j3), (5, .int i5)] [] (0, 0) h =
  if i5 < (8 : Int32) then
    (drI h a0 i5).bind fun v1 =>
    (drI h a1 i5).bind fun v2 =>
    (dwI h a2 i5 (Int64.toInt32 (j3 + (((Int32.toInt64 v1) &&& (4294967295 : Int64)) - ((Int32.toInt64 v2) &&& (4294967295 : Int64)))))).bind fun h3 =>
    dzF 17 5 [(0, .ref a0), (1, .ref a1), (2, .ref a2), (3, .long (k_lshr (j3 + (((Int32.toInt64 v1) &&& (4294967295 : Int64)) - ((Int32.toInt64 v2) &&& (4294967295 : Int64)))) (32 : Int32))), (5, .int (i5 + (1 : Int32)))] [] (0, 0) h3
  else
    if (k_lcmp j3 (0 : Int64)) = 0 then
      some (some (.int (1 : Int32)), h)
    else
      some (some (.int (0 : Int32)), h) := (dzW_at 31 17 _ _ _ _ _).trans rfl
-- PrimeCertificates.subtract:(III)I
theorem q_P_subtract_0 (a0 : Nat) (i1 : Int32) (i2 : Int32) (i3 : Int32) (h : dzH) : dzF 18 0 [(0, .ref a0), (1, .int i1), (2, .int i2), (3, .int i3)] [] (0, 0) h =
  (c_P_areRegisters i1 i2 i3 h).bind fun q1 =>
  if q1.1 = 0 then
    some (some (.int (-1 : Int32)), q1.2)
  else
    (dgA q1.2 a0 0 0).bind fun r2 =>
    (drA q1.2 r2 i1).bind fun r3 =>
    (dgA q1.2 a0 0 0).bind fun r4 =>
    (drA q1.2 r4 i2).bind fun r5 =>
    (dgA q1.2 a0 0 1).bind fun r6 =>
    (c_Sums_difference r3 r5 r6 q1.2).bind fun q7 =>
    if q7.1 = 0 then
      some (some (.int (-2 : Int32)), q7.2)
    else
      (c_P_keepAnswer a0 i3 q7.2).bind fun q8 =>
      some (some (.int q8.1), q8.2) := (dzW_at 22 18 _ _ _ _ _).trans rfl
-- PrimeCertificates$Sums.usedWords:([I)I
theorem q_Sums_usedWords_0 (a0 : Nat) (h : dzH) : dzF 19 0 [(0, .ref a0)] [] (0, 0) h =
  (dln h a0).bind fun v1 =>
  dzF 19 3 [(0, .ref a0), (1, .int v1)] [] (0, 0) h := (dzW_at 4 19 _ _ _ _ _).trans rfl
theorem q_Sums_usedWords_3 (a0 : Nat) (i1 : Int32) (h : dzH) : dzF 19 3 [(0, .ref a0), (1, .int i1)] [] (0, 0) h =
  if i1 ≤ 0 then
    some (some (.int i1), h)
  else
    (drI h a0 (i1 - (1 : Int32))).bind fun v1 =>
    if v1 = 0 then
      dzF 19 3 [(0, .ref a0), (1, .int (i1 + (-1 : Int32)))] [] (0, 0) h
    else
      some (some (.int i1), h) := (dzW_at 11 19 _ _ _ _ _).trans rfl
-- java/util/Arrays.fill:([II)V
theorem q_Arrays_fill_0 (a0 : Nat) (i1 : Int32) (h : dzH) : dzF 20 0 [(0, .ref a0), (1, .int i1)] [] (0, 0) h =
  (dln h a0).bind fun v1 =>
  dzF 20 5 [(0, .ref a0), (1, .int i1), (2, .int (0 : Int32)), (3, .int v1)] [] (0, 0) h := (dzW_at 6 20 _ _ _ _ _).trans rfl
theorem q_Arrays_fill_5 (a0 : Nat) (i1 : Int32) (i2 : Int32) (i3 : Int32) (h : dzH) : dzF 20 5 [(0, .ref a0), (1, .int i1), (2, .int i2), (3, .int i3)] [] (0, 0) h =
  if i2 < i3 then
    (dwI h a0 i2 i1).bind fun h1 =>
    dzF 20 5 [(0, .ref a0), (1, .int i1), (2, .int (i2 + (1 : Int32))), (3, .int i3)] [] (0, 0) h1
  else
    some (none, h) := (dzW_at 10 20 _ _ _ _ _).trans rfl
-- PrimeCertificates$Sums.setWideToProduct:([I[I)V
theorem q_Sums_setWideToProduct_0 (a0 : Nat) (a1 : Nat) (a2 : Nat) (h : dzH) : dzF 21 0 [(0, .ref a0), (1, .ref a1), (2, .ref a2)] [] (0, 0) h =
  (c_Sums_usedWords a1 h).bind fun q1 =>
  (c_Sums_usedWords a2 q1.2).bind fun q2 =>
  (dgA q2.2 a0 6 0).bind fun r3 =>
  (c_Arrays_fill r3 (0 : Int32) q2.2).bind fun h4 =>
  dzF 21 22 [(0, .ref a0), (1, .ref a1), (2, .ref a2), (3, .int q1.1), (4, .int q2.1), (5, .int (0 : Int32))] [] (0, 0) h4 := (dzW_at 13 21 _ _ _ _ _).trans rfl
theorem q_Sums_setWideToProduct_22 (a0 : Nat) (a1 : Nat) (a2 : Nat) (i3 : Int32) (i4 : Int32) (i5 : Int32) (h : dzH) : dzF 21 22 [(0, .ref a0), (1, .ref a1), (2, .ref a2), (3, .int i3), (4, .int i4), (5, .int i5)] [] (0, 0) h =
  if i5 < i3 then
    (drI h a1 i5).bind fun v1 =>
    dzF 21 45 [(0, .ref a0), (1, .ref a1), (2, .ref a2), (3, .int i3), (4, .int i4), (5, .int i5), (6, .long ((Int32.toInt64 v1) &&& (4294967295 : Int64))), (8, .long (0 : Int64)), (10, .int (0 : Int32))] [] (0, 0) h
  else
    some (none, h) := (dzW_at 15 21 _ _ _ _ _).trans rfl
set_option maxRecDepth 100000 in
theorem q_Sums_setWideToProduct_45 (a0 : Nat) (a1 : Nat) (a2 : Nat) (i3 : Int32) (i4 : Int32) (i5 : Int32) (j6 : Int64) (j8 : Int64) (i10 : Int32) (h : dzH) : dzF 21 45 [(0, .ref a0), (1, .ref a1), (2, .ref a2), (3, .int i3), (4, .int i4), (5, .int i5), (6, .long j6), (8, .long j8), (10, .int i10)] [] (0, 0) h =
  if i10 < i4 then
    (drI h a2 i10).bind fun v1 =>
    (dgA h a0 6 0).bind fun r2 =>
    (drI h r2 (i5 + i10)).bind fun v3 =>
    (dgA h a0 6 0).bind fun r4 =>
    (dwI h r4 (i5 + i10) (Int64.toInt32 (j8 + ((j6 * ((Int32.toInt64 v1) &&& (4294967295 : Int64))) + ((Int32.toInt64 v3) &&& (4294967295 : Int64)))))).bind fun h5 =>
    dzF 21 45 [(0, .ref a0), (1, .ref a1), (2, .ref a2), (3, .int i3), (4, .int i4), (5, .int i5), (6, .long j6), (8, .long (k_lushr (j8 + ((j6 * ((Int32.toInt64 v1) &&& (4294967295 : Int64))) + ((Int32.toInt64 v3) &&& (4294967295 : Int64)))) (32 : Int32))), (10, .int (i10 + (1 : Int32)))] [] (0, 0) h5
  else
    (dgA h a0 6 0).bind fun r1 =>
    (dwI h r1 (i5 + i4) (Int64.toInt32 j8)).bind fun h2 =>
    dzF 21 22 [(0, .ref a0), (1, .ref a1), (2, .ref a2), (3, .int i3), (4, .int i4), (5, .int (i5 + (1 : Int32)))] [] (0, 0) h2 := (dzW_at 39 21 _ _ _ _ _).trans rfl
-- PrimeCertificates$Sums.product:([I[I[I)Z
theorem q_Sums_product_0 (a0 : Nat) (a1 : Nat) (a2 : Nat) (a3 : Nat) (h : dzH) : dzF 22 0 [(0, .ref a0), (1, .ref a1), (2, .ref a2), (3, .ref a3)] [] (0, 0) h =
  (c_Sums_setWideToProduct a0 a1 a2 h).bind fun h1 =>
  (dgA h1 a0 6 0).bind fun r2 =>
  (c_Sums_usedWords r2 h1).bind fun q3 =>
  if q3.1 ≤ (8 : Int32) then
    (dgA q3.2 a0 6 0).bind fun r4 =>
    (c_Sums_copy r4 a3 q3.2).bind fun h5 =>
    some (some (.int (1 : Int32)), h5)
  else
    some (some (.int (0 : Int32)), q3.2) := (dzW_at 15 22 _ _ _ _ _).trans rfl
-- PrimeCertificates.multiply:(III)I
theorem q_P_multiply_0 (a0 : Nat) (i1 : Int32) (i2 : Int32) (i3 : Int32) (h : dzH) : dzF 23 0 [(0, .ref a0), (1, .int i1), (2, .int i2), (3, .int i3)] [] (0, 0) h =
  (c_P_areRegisters i1 i2 i3 h).bind fun q1 =>
  if q1.1 = 0 then
    some (some (.int (-1 : Int32)), q1.2)
  else
    (dgA q1.2 a0 0 3).bind fun r2 =>
    (dgA q1.2 a0 0 0).bind fun r3 =>
    (drA q1.2 r3 i1).bind fun r4 =>
    (dgA q1.2 a0 0 0).bind fun r5 =>
    (drA q1.2 r5 i2).bind fun r6 =>
    (dgA q1.2 a0 0 1).bind fun r7 =>
    (c_Sums_product r2 r4 r6 r7 q1.2).bind fun q8 =>
    if q8.1 = 0 then
      some (some (.int (-3 : Int32)), q8.2)
    else
      (c_P_keepAnswer a0 i3 q8.2).bind fun q9 =>
      some (some (.int q9.1), q9.2) := (dzW_at 24 23 _ _ _ _ _).trans rfl
-- PrimeCertificates$Sums.isZero:([I)Z
theorem q_Sums_isZero_0 (a0 : Nat) (h : dzH) : dzF 24 0 [(0, .ref a0)] [] (0, 0) h =
  (c_Sums_usedWords a0 h).bind fun q1 =>
  if q1.1 = 0 then
    some (some (.int (1 : Int32)), q1.2)
  else
    some (some (.int (0 : Int32)), q1.2) := (dzW_at 6 24 _ _ _ _ _).trans rfl
-- PrimeCertificates$Sums.leadingZeros:(I)I
theorem q_Sums_leadingZeros_0 (i0 : Int32) (h : dzH) : dzF 25 0 [(0, .int i0)] [] (0, 0) h =
  dzF 25 2 [(0, .int i0), (1, .int (0 : Int32))] [] (0, 0) h := (dzW_at 3 25 _ _ _ _ _).trans rfl
theorem q_Sums_leadingZeros_2 (i0 : Int32) (i1 : Int32) (h : dzH) : dzF 25 2 [(0, .int i0), (1, .int i1)] [] (0, 0) h =
  if i1 < (31 : Int32) then
    if (k_ishl i0 i1) ≤ 0 then
      some (some (.int i1), h)
    else
      dzF 25 2 [(0, .int i0), (1, .int (i1 + (1 : Int32)))] [] (0, 0) h
  else
    some (some (.int i1), h) := (dzW_at 10 25 _ _ _ _ _).trans rfl
-- PrimeCertificates$Sums.shiftUp:([II[I)V
theorem q_Sums_shiftUp_0 (a0 : Nat) (a1 : Nat) (i2 : Int32) (a3 : Nat) (h : dzH) : dzF 26 0 [(0, .ref a0), (1, .ref a1), (2, .int i2), (3, .ref a3)] [] (0, 0) h =
  dzF 26 6 [(0, .ref a0), (1, .ref a1), (2, .int i2), (3, .ref a3), (4, .long (0 : Int64)), (6, .int (0 : Int32))] [] (0, 0) h := (dzW_at 5 26 _ _ _ _ _).trans rfl
theorem q_Sums_shiftUp_6 (a0 : Nat) (a1 : Nat) (i2 : Int32) (a3 : Nat) (j4 : Int64) (i6 : Int32) (h : dzH) : dzF 26 6 [(0, .ref a0), (1, .ref a1), (2, .int i2), (3, .ref a3), (4, .long j4), (6, .int i6)] [] (0, 0) h =
  if i6 < i2 then
    (drI h a1 i6).bind fun v1 =>
    (dgI h a0 6 4).bind fun v2 =>
    (dwI h a3 i6 (Int64.toInt32 (j4 ||| (k_lshl ((Int32.toInt64 v1) &&& (4294967295 : Int64)) v2)))).bind fun h3 =>
    dzF 26 6 [(0, .ref a0), (1, .ref a1), (2, .int i2), (3, .ref a3), (4, .long (k_lushr (j4 ||| (k_lshl ((Int32.toInt64 v1) &&& (4294967295 : Int64)) v2)) (32 : Int32))), (6, .int (i6 + (1 : Int32)))] [] (0, 0) h3
  else
    (dln h a3).bind fun v1 =>
    if i2 < v1 then
      (dwI h a3 i2 (Int64.toInt32 j4)).bind fun h2 =>
      some (none, h2)
    else
      some (none, h) := (dzW_at 27 26 _ _ _ _ _).trans rfl
-- PrimeCertificates$Sums.setDivisor:([I)V
theorem q_Sums_setDivisor_0 (a0 : Nat) (a1 : Nat) (h : dzH) : dzF 27 0 [(0, .ref a0), (1, .ref a1)] [] (0, 0) h =
  (c_Sums_usedWords a1 h).bind fun q1 =>
  (dpF q1.2 a0 6 3 (.int q1.1)).bind fun h2 =>
  (dgI h2 a0 6 3).bind fun v3 =>
  if v3 = 0 then
    dzF 27 31 [(0, .ref a0), (1, .ref a1)] [.int (0 : Int32), .ref a0] (0, 0) h2
  else
    (dgI h2 a0 6 3).bind fun v4 =>
    (drI h2 a1 (v4 - (1 : Int32))).bind fun v5 =>
    (c_Sums_leadingZeros v5 h2).bind fun q6 =>
    dzF 27 31 [(0, .ref a0), (1, .ref a1)] [.int q6.1, .ref a0] (0, 0) q6.2 := (dzW_at 16 27 _ _ _ _ _).trans rfl
theorem q_Sums_setDivisor_31 (a0 : Nat) (a1 : Nat) (sa0 : Nat) (si1 : Int32) (h : dzH) : dzF 27 31 [(0, .ref a0), (1, .ref a1)] [.int si1, .ref sa0] (0, 0) h =
  (dpF h sa0 6 4 (.int si1)).bind fun h1 =>
  (dgI h1 a0 6 3).bind fun v2 =>
  (dgA h1 a0 6 2).bind fun r3 =>
  (c_Sums_shiftUp a0 a1 v2 r3 h1).bind fun h4 =>
  some (none, h4) := (dzW_at 9 27 _ _ _ _ _).trans rfl
-- PrimeCertificates$Sums.setWide:([I)V
theorem q_Sums_setWide_0 (a0 : Nat) (a1 : Nat) (h : dzH) : dzF 28 0 [(0, .ref a0), (1, .ref a1)] [] (0, 0) h =
  (dgA h a0 6 0).bind fun r1 =>
  (c_Arrays_fill r1 (0 : Int32) h).bind fun h2 =>
  (dgA h2 a0 6 0).bind fun r3 =>
  (c_Sums_copy a1 r3 h2).bind fun h4 =>
  some (none, h4) := (dzW_at 9 28 _ _ _ _ _).trans rfl
-- PrimeCertificates$Sums.isAbove:(JJ)Z
theorem q_Sums_isAbove_0 (j0 : Int64) (j2 : Int64) (h : dzH) : dzF 29 0 [(0, .long j0), (2, .long j2)] [] (0, 0) h =
  if (k_lcmp (j0 ^^^ (-9223372036854775808 : Int64)) (j2 ^^^ (-9223372036854775808 : Int64))) ≤ 0 then
    some (some (.int (0 : Int32)), h)
  else
    some (some (.int (1 : Int32)), h) := (dzW_at 11 29 _ _ _ _ _).trans rfl
-- PrimeCertificates$Sums.guessTimes:(I)J
theorem q_Sums_guessTimes_0 (a0 : Nat) (i1 : Int32) (h : dzH) : dzF 30 0 [(0, .ref a0), (1, .int i1)] [] (0, 0) h =
  (dgI h a0 6 3).bind fun v1 =>
  (dgI h a0 6 3).bind fun v2 =>
  if v2 ≤ (1 : Int32) then
    dzF 30 20 [(0, .ref a0), (1, .int i1), (2, .int (i1 + v1))] [.int (0 : Int32)] (0, 0) h
  else
    dzF 30 20 [(0, .ref a0), (1, .int i1), (2, .int (i1 + v1))] [.int (1 : Int32)] (0, 0) h := (dzW_at 12 30 _ _ _ _ _).trans rfl
theorem q_Sums_guessTimes_20 (a0 : Nat) (i1 : Int32) (i2 : Int32) (si0 : Int32) (h : dzH) : dzF 30 20 [(0, .ref a0), (1, .int i1), (2, .int i2)] [.int si0] (0, 0) h =
  (dgA h a0 6 2).bind fun r1 =>
  (dgI h a0 6 3).bind fun v2 =>
  (drI h r1 (v2 - (1 : Int32))).bind fun v3 =>
  if si0 = 0 then
    dzF 30 63 [(0, .ref a0), (1, .int i1), (2, .int i2), (3, .int si0), (4, .long ((Int32.toInt64 v3) &&& (4294967295 : Int64)))] [.long (0 : Int64)] (0, 0) h
  else
    (dgA h a0 6 2).bind fun r4 =>
    (dgI h a0 6 3).bind fun v5 =>
    (drI h r4 (v5 - (2 : Int32))).bind fun v6 =>
    dzF 30 63 [(0, .ref a0), (1, .int i1), (2, .int i2), (3, .int si0), (4, .long ((Int32.toInt64 v3) &&& (4294967295 : Int64)))] [.long ((Int32.toInt64 v6) &&& (4294967295 : Int64))] (0, 0) h := (dzW_at 26 30 _ _ _ _ _).trans rfl
theorem q_Sums_guessTimes_63 (a0 : Nat) (i1 : Int32) (i2 : Int32) (i3 : Int32) (j4 : Int64) (sj0 : Int64) (h : dzH) : dzF 30 63 [(0, .ref a0), (1, .int i1), (2, .int i2), (3, .int i3), (4, .long j4)] [.long sj0] (0, 0) h =
  if i3 = 0 then
    dzF 30 86 [(0, .ref a0), (1, .int i1), (2, .int i2), (3, .int i3), (4, .long j4), (6, .long sj0)] [.long (0 : Int64)] (0, 0) h
  else
    (dgA h a0 6 0).bind fun r1 =>
    (drI h r1 (i2 - (2 : Int32))).bind fun v2 =>
    dzF 30 86 [(0, .ref a0), (1, .int i1), (2, .int i2), (3, .int i3), (4, .long j4), (6, .long sj0)] [.long ((Int32.toInt64 v2) &&& (4294967295 : Int64))] (0, 0) h := (dzW_at 14 30 _ _ _ _ _).trans rfl
set_option maxRecDepth 100000 in
theorem q_Sums_guessTimes_86 (a0 : Nat) (i1 : Int32) (i2 : Int32) (i3 : Int32) (j4 : Int64) (j6 : Int64) (sj0 : Int64) (h : dzH) : dzF 30 86 [(0, .ref a0), (1, .int i1), (2, .int i2), (3, .int i3), (4, .long j4), (6, .long j6)] [.long sj0] (0, 0) h =
  (dgA h a0 6 0).bind fun r1 =>
  (drI h r1 i2).bind fun v2 =>
  (dgA h a0 6 0).bind fun r3 =>
  (drI h r3 (i2 - (1 : Int32))).bind fun v4 =>
  if (k_lcmp j4 (0 : Int64)) = 0 then
    some (some (.long (0 : Int64)), h)
  else
    if j4 = 0 then none else
    if (k_lcmp (((k_lshl ((Int32.toInt64 v2) &&& (4294967295 : Int64)) (32 : Int32)) ||| ((Int32.toInt64 v4) &&& (4294967295 : Int64))) - ((k_lshl ((k_lushr ((k_lshl ((Int32.toInt64 v2) &&& (4294967295 : Int64)) (32 : Int32)) ||| ((Int32.toInt64 v4) &&& (4294967295 : Int64))) (1 : Int32)) / j4) (1 : Int32)) * j4)) j4) < 0 then
      dzF 30 169 [(0, .ref a0), (1, .int i1), (2, .int i2), (3, .int i3), (4, .long j4), (6, .long j6), (8, .long sj0), (10, .long ((k_lshl ((Int32.toInt64 v2) &&& (4294967295 : Int64)) (32 : Int32)) ||| ((Int32.toInt64 v4) &&& (4294967295 : Int64)))), (12, .long (k_lshl ((k_lushr ((k_lshl ((Int32.toInt64 v2) &&& (4294967295 : Int64)) (32 : Int32)) ||| ((Int32.toInt64 v4) &&& (4294967295 : Int64))) (1 : Int32)) / j4) (1 : Int32))), (14, .long (((k_lshl ((Int32.toInt64 v2) &&& (4294967295 : Int64)) (32 : Int32)) ||| ((Int32.toInt64 v4) &&& (4294967295 : Int64))) - ((k_lshl ((k_lushr ((k_lshl ((Int32.toInt64 v2) &&& (4294967295 : Int64)) (32 : Int32)) ||| ((Int32.toInt64 v4) &&& (4294967295 : Int64))) (1 : Int32)) / j4) (1 : Int32)) * j4)))] [] (0, 0) h
    else
      dzF 30 169 [(0, .ref a0), (1, .int i1), (2, .int i2), (3, .int i3), (4, .long j4), (6, .long j6), (8, .long sj0), (10, .long ((k_lshl ((Int32.toInt64 v2) &&& (4294967295 : Int64)) (32 : Int32)) ||| ((Int32.toInt64 v4) &&& (4294967295 : Int64)))), (12, .long ((k_lshl ((k_lushr ((k_lshl ((Int32.toInt64 v2) &&& (4294967295 : Int64)) (32 : Int32)) ||| ((Int32.toInt64 v4) &&& (4294967295 : Int64))) (1 : Int32)) / j4) (1 : Int32)) + (1 : Int64))), (14, .long ((((k_lshl ((Int32.toInt64 v2) &&& (4294967295 : Int64)) (32 : Int32)) ||| ((Int32.toInt64 v4) &&& (4294967295 : Int64))) - ((k_lshl ((k_lushr ((k_lshl ((Int32.toInt64 v2) &&& (4294967295 : Int64)) (32 : Int32)) ||| ((Int32.toInt64 v4) &&& (4294967295 : Int64))) (1 : Int32)) / j4) (1 : Int32)) * j4)) - j4))] [] (0, 0) h := (dzW_at 52 30 _ _ _ _ _).trans rfl
theorem q_Sums_guessTimes_169 (a0 : Nat) (i1 : Int32) (i2 : Int32) (i3 : Int32) (j4 : Int64) (j6 : Int64) (j8 : Int64) (j10 : Int64) (j12 : Int64) (j14 : Int64) (h : dzH) : dzF 30 169 [(0, .ref a0), (1, .int i1), (2, .int i2), (3, .int i3), (4, .long j4), (6, .long j6), (8, .long j8), (10, .long j10), (12, .long j12), (14, .long j14)] [] (0, 0) h =
  dzF 30 172 [(0, .ref a0), (1, .int i1), (2, .int i2), (3, .int i3), (4, .long j4), (6, .long j6), (8, .long j8), (10, .long j10), (12, .long j12), (14, .long j14), (16, .int (0 : Int32))] [] (0, 0) h := (dzW_at 3 30 _ _ _ _ _).trans rfl
theorem q_Sums_guessTimes_172 (a0 : Nat) (i1 : Int32) (i2 : Int32) (i3 : Int32) (j4 : Int64) (j6 : Int64) (j8 : Int64) (j10 : Int64) (j12 : Int64) (j14 : Int64) (i16 : Int32) (h : dzH) : dzF 30 172 [(0, .ref a0), (1, .int i1), (2, .int i2), (3, .int i3), (4, .long j4), (6, .long j6), (8, .long j8), (10, .long j10), (12, .long j12), (14, .long j14), (16, .int i16)] [] (0, 0) h =
  if i16 < (2 : Int32) then
    if (k_lcmp j14 (4294967295 : Int64)) ≤ 0 then
      if (k_lcmp j12 (4294967295 : Int64)) ≤ 0 then
        (c_Sums_isAbove (j12 * j6) ((k_lshl j14 (32 : Int32)) ||| j8) h).bind fun q1 =>
        if q1.1 = 0 then
          some (some (.long j12), q1.2)
        else
          dzF 30 218 [(0, .ref a0), (1, .int i1), (2, .int i2), (3, .int i3), (4, .long j4), (6, .long j6), (8, .long j8), (10, .long j10), (12, .long j12), (14, .long j14), (16, .int i16)] [] (0, 0) q1.2
      else
        dzF 30 218 [(0, .ref a0), (1, .int i1), (2, .int i2), (3, .int i3), (4, .long j4), (6, .long j6), (8, .long j8), (10, .long j10), (12, .long j12), (14, .long j14), (16, .int i16)] [] (0, 0) h
    else
      some (some (.long j12), h)
  else
    some (some (.long j12), h) := (dzW_at 24 30 _ _ _ _ _).trans rfl
theorem q_Sums_guessTimes_218 (a0 : Nat) (i1 : Int32) (i2 : Int32) (i3 : Int32) (j4 : Int64) (j6 : Int64) (j8 : Int64) (j10 : Int64) (j12 : Int64) (j14 : Int64) (i16 : Int32) (h : dzH) : dzF 30 218 [(0, .ref a0), (1, .int i1), (2, .int i2), (3, .int i3), (4, .long j4), (6, .long j6), (8, .long j8), (10, .long j10), (12, .long j12), (14, .long j14), (16, .int i16)] [] (0, 0) h =
  dzF 30 172 [(0, .ref a0), (1, .int i1), (2, .int i2), (3, .int i3), (4, .long j4), (6, .long j6), (8, .long j8), (10, .long j10), (12, .long (j12 - (1 : Int64))), (14, .long (j14 + j4)), (16, .int (i16 + (1 : Int32)))] [] (0, 0) h := (dzW_at 11 30 _ _ _ _ _).trans rfl
-- PrimeCertificates$Sums.takeAway:(JI)Z
theorem q_Sums_takeAway_0 (a0 : Nat) (j1 : Int64) (i3 : Int32) (h : dzH) : dzF 31 0 [(0, .ref a0), (1, .long j1), (3, .int i3)] [] (0, 0) h =
  dzF 31 6 [(0, .ref a0), (1, .long j1), (3, .int i3), (4, .long (0 : Int64)), (6, .int (0 : Int32))] [] (0, 0) h := (dzW_at 5 31 _ _ _ _ _).trans rfl
set_option maxRecDepth 100000 in
theorem q_Sums_takeAway_6 (a0 : Nat) (j1 : Int64) (i3 : Int32) (j4 : Int64) (i6 : Int32) (h : dzH) : dzF 31 6 [(0, .ref a0), (1, .long j1), (3, .int i3), (4, .long j4), (6, .int i6)] [] (0, 0) h =
  (dgI h a0 6 3).bind fun v1 =>
  if i6 < v1 then
    (dgA h a0 6 2).bind fun r2 =>
    (drI h r2 i6).bind fun v3 =>
    (dgA h a0 6 0).bind fun r4 =>
    (drI h r4 (i6 + i3)).bind fun v5 =>
    (dgA h a0 6 0).bind fun r6 =>
    (dwI h r6 (i6 + i3) (Int64.toInt32 (((Int32.toInt64 v5) &&& (4294967295 : Int64)) - (((j1 * ((Int32.toInt64 v3) &&& (4294967295 : Int64))) + j4) &&& (4294967295 : Int64))))).bind fun h7 =>
    if (k_lcmp (((Int32.toInt64 v5) &&& (4294967295 : Int64)) - (((j1 * ((Int32.toInt64 v3) &&& (4294967295 : Int64))) + j4) &&& (4294967295 : Int64))) (0 : Int64)) < 0 then
      dzF 31 86 [(0, .ref a0), (1, .long j1), (3, .int i3), (4, .long j4), (6, .int i6), (7, .long ((j1 * ((Int32.toInt64 v3) &&& (4294967295 : Int64))) + j4)), (9, .long (((Int32.toInt64 v5) &&& (4294967295 : Int64)) - (((j1 * ((Int32.toInt64 v3) &&& (4294967295 : Int64))) + j4) &&& (4294967295 : Int64))))] [.int (1 : Int32), .long (k_lushr ((j1 * ((Int32.toInt64 v3) &&& (4294967295 : Int64))) + j4) (32 : Int32))] (0, 0) h7
    else
      dzF 31 86 [(0, .ref a0), (1, .long j1), (3, .int i3), (4, .long j4), (6, .int i6), (7, .long ((j1 * ((Int32.toInt64 v3) &&& (4294967295 : Int64))) + j4)), (9, .long (((Int32.toInt64 v5) &&& (4294967295 : Int64)) - (((j1 * ((Int32.toInt64 v3) &&& (4294967295 : Int64))) + j4) &&& (4294967295 : Int64))))] [.int (0 : Int32), .long (k_lushr ((j1 * ((Int32.toInt64 v3) &&& (4294967295 : Int64))) + j4) (32 : Int32))] (0, 0) h7
  else
    (dgA h a0 6 0).bind fun r2 =>
    (dgI h a0 6 3).bind fun v3 =>
    (drI h r2 (i3 + v3)).bind fun v4 =>
    (dgA h a0 6 0).bind fun r5 =>
    (dgI h a0 6 3).bind fun v6 =>
    (dwI h r5 (i3 + v6) (Int64.toInt32 (((Int32.toInt64 v4) &&& (4294967295 : Int64)) - j4))).bind fun h7 =>
    if (k_lcmp (((Int32.toInt64 v4) &&& (4294967295 : Int64)) - j4) (0 : Int64)) < 0 then
      some (some (.int (0 : Int32)), h7)
    else
      some (some (.int (1 : Int32)), h7) := (dzW_at 48 31 _ _ _ _ _).trans rfl
theorem q_Sums_takeAway_86 (a0 : Nat) (j1 : Int64) (i3 : Int32) (j4 : Int64) (i6 : Int32) (j7 : Int64) (j9 : Int64) (sj0 : Int64) (si1 : Int32) (h : dzH) : dzF 31 86 [(0, .ref a0), (1, .long j1), (3, .int i3), (4, .long j4), (6, .int i6), (7, .long j7), (9, .long j9)] [.int si1, .long sj0] (0, 0) h =
  dzF 31 6 [(0, .ref a0), (1, .long j1), (3, .int i3), (4, .long (sj0 + (Int32.toInt64 si1))), (6, .int (i6 + (1 : Int32)))] [] (0, 0) h := (dzW_at 6 31 _ _ _ _ _).trans rfl
-- PrimeCertificates$Sums.giveBack:(I)V
theorem q_Sums_giveBack_0 (a0 : Nat) (i1 : Int32) (h : dzH) : dzF 32 0 [(0, .ref a0), (1, .int i1)] [] (0, 0) h =
  dzF 32 5 [(0, .ref a0), (1, .int i1), (2, .long (0 : Int64)), (4, .int (0 : Int32))] [] (0, 0) h := (dzW_at 5 32 _ _ _ _ _).trans rfl
set_option maxRecDepth 100000 in
theorem q_Sums_giveBack_5 (a0 : Nat) (i1 : Int32) (j2 : Int64) (i4 : Int32) (h : dzH) : dzF 32 5 [(0, .ref a0), (1, .int i1), (2, .long j2), (4, .int i4)] [] (0, 0) h =
  (dgI h a0 6 3).bind fun v1 =>
  if i4 < v1 then
    (dgA h a0 6 0).bind fun r2 =>
    (drI h r2 (i4 + i1)).bind fun v3 =>
    (dgA h a0 6 2).bind fun r4 =>
    (drI h r4 i4).bind fun v5 =>
    (dgA h a0 6 0).bind fun r6 =>
    (dwI h r6 (i4 + i1) (Int64.toInt32 (j2 + (((Int32.toInt64 v3) &&& (4294967295 : Int64)) + ((Int32.toInt64 v5) &&& (4294967295 : Int64)))))).bind fun h7 =>
    dzF 32 5 [(0, .ref a0), (1, .int i1), (2, .long (k_lushr (j2 + (((Int32.toInt64 v3) &&& (4294967295 : Int64)) + ((Int32.toInt64 v5) &&& (4294967295 : Int64)))) (32 : Int32))), (4, .int (i4 + (1 : Int32)))] [] (0, 0) h7
  else
    (dgA h a0 6 0).bind fun r2 =>
    (dgI h a0 6 3).bind fun v3 =>
    (drI h r2 (i1 + v3)).bind fun v4 =>
    (dwI h r2 (i1 + v3) (v4 + (Int64.toInt32 j2))).bind fun h5 =>
    some (none, h5) := (dzW_at 39 32 _ _ _ _ _).trans rfl
-- PrimeCertificates$Sums.shiftWideDown:()V
theorem q_Sums_shiftWideDown_0 (a0 : Nat) (h : dzH) : dzF 33 0 [(0, .ref a0)] [] (0, 0) h =
  (dgI h a0 6 3).bind fun v1 =>
  dzF 33 9 [(0, .ref a0), (1, .long (0 : Int64)), (3, .int (v1 - (1 : Int32)))] [] (0, 0) h := (dzW_at 8 33 _ _ _ _ _).trans rfl
theorem q_Sums_shiftWideDown_9 (a0 : Nat) (j1 : Int64) (i3 : Int32) (h : dzH) : dzF 33 9 [(0, .ref a0), (1, .long j1), (3, .int i3)] [] (0, 0) h =
  if i3 < 0 then
    some (none, h)
  else
    (dgA h a0 6 0).bind fun r1 =>
    (drI h r1 i3).bind fun v2 =>
    (dgA h a0 6 0).bind fun r3 =>
    (dgI h a0 6 4).bind fun v4 =>
    (dwI h r3 i3 (Int64.toInt32 (k_lushr ((k_lshl j1 (32 : Int32)) ||| ((Int32.toInt64 v2) &&& (4294967295 : Int64))) v4))).bind fun h5 =>
    dzF 33 9 [(0, .ref a0), (1, .long ((Int32.toInt64 v2) &&& (4294967295 : Int64))), (3, .int (i3 + (-1 : Int32)))] [] (0, 0) h5 := (dzW_at 28 33 _ _ _ _ _).trans rfl
-- PrimeCertificates$Sums.reduceWide:()V
theorem q_Sums_reduceWide_0 (a0 : Nat) (h : dzH) : dzF 34 0 [(0, .ref a0)] [] (0, 0) h =
  (dgA h a0 6 1).bind fun r1 =>
  (c_Arrays_fill r1 (0 : Int32) h).bind fun h2 =>
  (dgA h2 a0 6 0).bind fun r3 =>
  (c_Sums_usedWords r3 h2).bind fun q4 =>
  (dgI q4.2 a0 6 3).bind fun v5 =>
  if v5 = 0 then
    some (none, q4.2)
  else
    (dgI q4.2 a0 6 3).bind fun v6 =>
    if q4.1 < v6 then
      some (none, q4.2)
    else
      (dgA q4.2 a0 6 0).bind fun r7 =>
      (dgA q4.2 a0 6 0).bind fun r8 =>
      (c_Sums_shiftUp a0 r7 q4.1 r8 q4.2).bind fun h9 =>
      (dgI h9 a0 6 3).bind fun v10 =>
      dzF 34 52 [(0, .ref a0), (1, .int q4.1), (2, .int (q4.1 - v10))] [] (0, 0) h9 := (dzW_at 28 34 _ _ _ _ _).trans rfl
theorem q_Sums_reduceWide_52 (a0 : Nat) (i1 : Int32) (i2 : Int32) (h : dzH) : dzF 34 52 [(0, .ref a0), (1, .int i1), (2, .int i2)] [] (0, 0) h =
  if i2 < 0 then
    (c_Sums_shiftWideDown a0 h).bind fun h1 =>
    some (none, h1)
  else
    (c_Sums_guessTimes a0 i2 h).bind fun q1 =>
    (c_Sums_takeAway a0 q1.1 i2 q1.2).bind fun q2 =>
    if q2.1 = 0 then
      (c_Sums_giveBack a0 i2 q2.2).bind fun h3 =>
      dzF 34 80 [(0, .ref a0), (1, .int i1), (2, .int i2), (3, .long (q1.1 - (1 : Int64)))] [] (0, 0) h3
    else
      dzF 34 80 [(0, .ref a0), (1, .int i1), (2, .int i2), (3, .long q1.1)] [] (0, 0) q2.2 := (dzW_at 19 34 _ _ _ _ _).trans rfl
theorem q_Sums_reduceWide_80 (a0 : Nat) (i1 : Int32) (i2 : Int32) (j3 : Int64) (h : dzH) : dzF 34 80 [(0, .ref a0), (1, .int i1), (2, .int i2), (3, .long j3)] [] (0, 0) h =
  (dgA h a0 6 1).bind fun r1 =>
  (dwI h r1 i2 (Int64.toInt32 j3)).bind fun h2 =>
  dzF 34 52 [(0, .ref a0), (1, .int i1), (2, .int (i2 + (-1 : Int32)))] [] (0, 0) h2 := (dzW_at 9 34 _ _ _ _ _).trans rfl
-- PrimeCertificates$Sums.quotient:([I[I[I[I)V
theorem q_Sums_quotient_0 (a0 : Nat) (a1 : Nat) (a2 : Nat) (a3 : Nat) (a4 : Nat) (h : dzH) : dzF 35 0 [(0, .ref a0), (1, .ref a1), (2, .ref a2), (3, .ref a3), (4, .ref a4)] [] (0, 0) h =
  (c_Sums_setDivisor a0 a2 h).bind fun h1 =>
  (c_Sums_setWide a0 a1 h1).bind fun h2 =>
  (c_Sums_reduceWide a0 h2).bind fun h3 =>
  (dgA h3 a0 6 1).bind fun r4 =>
  (c_Sums_copy r4 a3 h3).bind fun h5 =>
  (dgA h5 a0 6 0).bind fun r6 =>
  (c_Sums_copy r6 a4 h5).bind fun h7 =>
  some (none, h7) := (dzW_at 17 35 _ _ _ _ _).trans rfl
-- PrimeCertificates.divide:(IIII)I
set_option maxRecDepth 100000 in
theorem q_P_divide_0 (a0 : Nat) (i1 : Int32) (i2 : Int32) (i3 : Int32) (i4 : Int32) (h : dzH) : dzF 36 0 [(0, .ref a0), (1, .int i1), (2, .int i2), (3, .int i3), (4, .int i4)] [] (0, 0) h =
  (c_P_areRegisters i1 i2 i3 h).bind fun q1 =>
  if q1.1 = 0 then
    some (some (.int (-1 : Int32)), q1.2)
  else
    (c_P_isRegister i4 q1.2).bind fun q2 =>
    if q2.1 = 0 then
      some (some (.int (-1 : Int32)), q2.2)
    else
      if i3 = i4 then
        some (some (.int (-1 : Int32)), q2.2)
      else
        (dgA q2.2 a0 0 0).bind fun r3 =>
        (drA q2.2 r3 i2).bind fun r4 =>
        (c_Sums_isZero r4 q2.2).bind fun q5 =>
        if q5.1 = 0 then
          (dgA q5.2 a0 0 3).bind fun r6 =>
          (dgA q5.2 a0 0 0).bind fun r7 =>
          (drA q5.2 r7 i1).bind fun r8 =>
          (dgA q5.2 a0 0 0).bind fun r9 =>
          (drA q5.2 r9 i2).bind fun r10 =>
          (dgA q5.2 a0 0 1).bind fun r11 =>
          (dgA q5.2 a0 0 2).bind fun r12 =>
          (c_Sums_quotient r6 r8 r10 r11 r12 q5.2).bind fun h13 =>
          (dgA h13 a0 0 2).bind fun r14 =>
          (dgA h13 a0 0 0).bind fun r15 =>
          (drA h13 r15 i4).bind fun r16 =>
          (c_Sums_copy r14 r16 h13).bind fun h17 =>
          (c_P_keepAnswer a0 i3 h17).bind fun q18 =>
          some (some (.int q18.1), q18.2)
        else
          some (some (.int (-2 : Int32)), q5.2) := (dzW_at 43 36 _ _ _ _ _).trans rfl
-- PrimeCertificates$Sums.setSmall:([II)V
theorem q_Sums_setSmall_0 (a0 : Nat) (i1 : Int32) (h : dzH) : dzF 37 0 [(0, .ref a0), (1, .int i1)] [] (0, 0) h =
  (c_Arrays_fill a0 (0 : Int32) h).bind fun h1 =>
  (dwI h1 a0 (0 : Int32) i1).bind fun h2 =>
  some (none, h2) := (dzW_at 8 37 _ _ _ _ _).trans rfl
-- PrimeCertificates$Sums.powerModulo:([I[I[I[I)V
theorem q_Sums_powerModulo_0 (a0 : Nat) (a1 : Nat) (a2 : Nat) (a3 : Nat) (a4 : Nat) (h : dzH) : dzF 38 0 [(0, .ref a0), (1, .ref a1), (2, .ref a2), (3, .ref a3), (4, .ref a4)] [] (0, 0) h =
  (c_Sums_setDivisor a0 a3 h).bind fun h1 =>
  (c_Sums_setWide a0 a1 h1).bind fun h2 =>
  (c_Sums_reduceWide a0 h2).bind fun h3 =>
  (dgA h3 a0 6 0).bind fun r4 =>
  (dgA h3 a0 6 5).bind fun r5 =>
  (c_Sums_copy r4 r5 h3).bind fun h6 =>
  (dgA h6 a0 6 0).bind fun r7 =>
  (c_Sums_setSmall r7 (1 : Int32) h6).bind fun h8 =>
  (c_Sums_reduceWide a0 h8).bind fun h9 =>
  (dgA h9 a0 6 0).bind fun r10 =>
  (dgA h9 a0 6 6).bind fun r11 =>
  (c_Sums_copy r10 r11 h9).bind fun h12 =>
  (c_Sums_usedWords a2 h12).bind fun q13 =>
  dzF 38 59 [(0, .ref a0), (1, .ref a1), (2, .ref a2), (3, .ref a3), (4, .ref a4), (5, .int (((32 : Int32) * q13.1) - (1 : Int32)))] [] (0, 0) q13.2 := (dzW_at 32 38 _ _ _ _ _).trans rfl
set_option maxRecDepth 100000 in
theorem q_Sums_powerModulo_59 (a0 : Nat) (a1 : Nat) (a2 : Nat) (a3 : Nat) (a4 : Nat) (i5 : Int32) (h : dzH) : dzF 38 59 [(0, .ref a0), (1, .ref a1), (2, .ref a2), (3, .ref a3), (4, .ref a4), (5, .int i5)] [] (0, 0) h =
  if i5 < 0 then
    (dgA h a0 6 6).bind fun r1 =>
    (c_Sums_copy r1 a4 h).bind fun h2 =>
    some (none, h2)
  else
    (dgA h a0 6 6).bind fun r1 =>
    (dgA h a0 6 6).bind fun r2 =>
    (c_Sums_setWideToProduct a0 r1 r2 h).bind fun h3 =>
    (c_Sums_reduceWide a0 h3).bind fun h4 =>
    (dgA h4 a0 6 0).bind fun r5 =>
    (dgA h4 a0 6 6).bind fun r6 =>
    (c_Sums_copy r5 r6 h4).bind fun h7 =>
    (drI h7 a2 (k_ishr i5 (5 : Int32))).bind fun v8 =>
    if ((k_iushr v8 (i5 &&& (31 : Int32))) &&& (1 : Int32)) = (1 : Int32) then
      (dgA h7 a0 6 6).bind fun r9 =>
      (dgA h7 a0 6 5).bind fun r10 =>
      (c_Sums_setWideToProduct a0 r9 r10 h7).bind fun h11 =>
      (c_Sums_reduceWide a0 h11).bind fun h12 =>
      (dgA h12 a0 6 0).bind fun r13 =>
      (dgA h12 a0 6 6).bind fun r14 =>
      (c_Sums_copy r13 r14 h12).bind fun h15 =>
      dzF 38 136 [(0, .ref a0), (1, .ref a1), (2, .ref a2), (3, .ref a3), (4, .ref a4), (5, .int i5)] [] (0, 0) h15
    else
      dzF 38 136 [(0, .ref a0), (1, .ref a1), (2, .ref a2), (3, .ref a3), (4, .ref a4), (5, .int i5)] [] (0, 0) h7 := (dzW_at 42 38 _ _ _ _ _).trans rfl
theorem q_Sums_powerModulo_136 (a0 : Nat) (a1 : Nat) (a2 : Nat) (a3 : Nat) (a4 : Nat) (i5 : Int32) (h : dzH) : dzF 38 136 [(0, .ref a0), (1, .ref a1), (2, .ref a2), (3, .ref a3), (4, .ref a4), (5, .int i5)] [] (0, 0) h =
  dzF 38 59 [(0, .ref a0), (1, .ref a1), (2, .ref a2), (3, .ref a3), (4, .ref a4), (5, .int (i5 + (-1 : Int32)))] [] (0, 0) h := (dzW_at 3 38 _ _ _ _ _).trans rfl
-- PrimeCertificates.power:(IIII)I
theorem q_P_power_0 (a0 : Nat) (i1 : Int32) (i2 : Int32) (i3 : Int32) (i4 : Int32) (h : dzH) : dzF 39 0 [(0, .ref a0), (1, .int i1), (2, .int i2), (3, .int i3), (4, .int i4)] [] (0, 0) h =
  (c_P_areRegisters i1 i2 i4 h).bind fun q1 =>
  if q1.1 = 0 then
    some (some (.int (-1 : Int32)), q1.2)
  else
    (c_P_isRegister i3 q1.2).bind fun q2 =>
    if q2.1 = 0 then
      some (some (.int (-1 : Int32)), q2.2)
    else
      (dgA q2.2 a0 0 0).bind fun r3 =>
      (drA q2.2 r3 i3).bind fun r4 =>
      (c_Sums_isZero r4 q2.2).bind fun q5 =>
      if q5.1 = 0 then
        (dgA q5.2 a0 0 3).bind fun r6 =>
        (dgA q5.2 a0 0 0).bind fun r7 =>
        (drA q5.2 r7 i1).bind fun r8 =>
        (dgA q5.2 a0 0 0).bind fun r9 =>
        (drA q5.2 r9 i2).bind fun r10 =>
        (dgA q5.2 a0 0 0).bind fun r11 =>
        (drA q5.2 r11 i3).bind fun r12 =>
        (dgA q5.2 a0 0 1).bind fun r13 =>
        (c_Sums_powerModulo r6 r8 r10 r12 r13 q5.2).bind fun h14 =>
        (c_P_keepAnswer a0 i4 h14).bind fun q15 =>
        some (some (.int q15.1), q15.2)
      else
        some (some (.int (-2 : Int32)), q5.2) := (dzW_at 35 39 _ _ _ _ _).trans rfl
-- PrimeCertificates$Sums.greatestDivisor:([I[I[I)V
theorem q_Sums_greatestDivisor_0 (a0 : Nat) (a1 : Nat) (a2 : Nat) (a3 : Nat) (h : dzH) : dzF 40 0 [(0, .ref a0), (1, .ref a1), (2, .ref a2), (3, .ref a3)] [] (0, 0) h =
  (dgA h a0 6 7).bind fun r1 =>
  (c_Sums_copy a1 r1 h).bind fun h2 =>
  (dgA h2 a0 6 8).bind fun r3 =>
  (c_Sums_copy a2 r3 h2).bind fun h4 =>
  dzF 40 19 [(0, .ref a0), (1, .ref a1), (2, .ref a2), (3, .ref a3), (4, .int (0 : Int32))] [] (0, 0) h4 := (dzW_at 11 40 _ _ _ _ _).trans rfl
theorem q_Sums_greatestDivisor_19 (a0 : Nat) (a1 : Nat) (a2 : Nat) (a3 : Nat) (i4 : Int32) (h : dzH) : dzF 40 19 [(0, .ref a0), (1, .ref a1), (2, .ref a2), (3, .ref a3), (4, .int i4)] [] (0, 0) h =
  if i4 < (1000 : Int32) then
    (dgA h a0 6 8).bind fun r1 =>
    (c_Sums_isZero r1 h).bind fun q2 =>
    if q2.1 = 0 then
      (dgA q2.2 a0 6 8).bind fun r3 =>
      (c_Sums_setDivisor a0 r3 q2.2).bind fun h4 =>
      (dgA h4 a0 6 7).bind fun r5 =>
      (c_Sums_setWide a0 r5 h4).bind fun h6 =>
      (c_Sums_reduceWide a0 h6).bind fun h7 =>
      (dgA h7 a0 6 8).bind fun r8 =>
      (dgA h7 a0 6 7).bind fun r9 =>
      (c_Sums_copy r8 r9 h7).bind fun h10 =>
      (dgA h10 a0 6 0).bind fun r11 =>
      (dgA h10 a0 6 8).bind fun r12 =>
      (c_Sums_copy r11 r12 h10).bind fun h13 =>
      dzF 40 19 [(0, .ref a0), (1, .ref a1), (2, .ref a2), (3, .ref a3), (4, .int (i4 + (1 : Int32)))] [] (0, 0) h13
    else
      dzF 40 85 [(0, .ref a0), (1, .ref a1), (2, .ref a2), (3, .ref a3), (4, .int i4)] [] (0, 0) q2.2
  else
    dzF 40 85 [(0, .ref a0), (1, .ref a1), (2, .ref a2), (3, .ref a3), (4, .int i4)] [] (0, 0) h := (dzW_at 30 40 _ _ _ _ _).trans rfl
theorem q_Sums_greatestDivisor_85 (a0 : Nat) (a1 : Nat) (a2 : Nat) (a3 : Nat) (i4 : Int32) (h : dzH) : dzF 40 85 [(0, .ref a0), (1, .ref a1), (2, .ref a2), (3, .ref a3), (4, .int i4)] [] (0, 0) h =
  (dgA h a0 6 7).bind fun r1 =>
  (c_Sums_copy r1 a3 h).bind fun h2 =>
  some (none, h2) := (dzW_at 5 40 _ _ _ _ _).trans rfl
-- PrimeCertificates.common:(III)I
theorem q_P_common_0 (a0 : Nat) (i1 : Int32) (i2 : Int32) (i3 : Int32) (h : dzH) : dzF 41 0 [(0, .ref a0), (1, .int i1), (2, .int i2), (3, .int i3)] [] (0, 0) h =
  (c_P_areRegisters i1 i2 i3 h).bind fun q1 =>
  if q1.1 = 0 then
    some (some (.int (-1 : Int32)), q1.2)
  else
    (dgA q1.2 a0 0 3).bind fun r2 =>
    (dgA q1.2 a0 0 0).bind fun r3 =>
    (drA q1.2 r3 i1).bind fun r4 =>
    (dgA q1.2 a0 0 0).bind fun r5 =>
    (drA q1.2 r5 i2).bind fun r6 =>
    (dgA q1.2 a0 0 1).bind fun r7 =>
    (c_Sums_greatestDivisor r2 r4 r6 r7 q1.2).bind fun h8 =>
    (c_P_keepAnswer a0 i3 h8).bind fun q9 =>
    some (some (.int q9.1), q9.2) := (dzW_at 22 41 _ _ _ _ _).trans rfl
-- PrimeCertificates$Sums.order:([I[I)I
theorem q_Sums_order_0 (a0 : Nat) (a1 : Nat) (h : dzH) : dzF 42 0 [(0, .ref a0), (1, .ref a1)] [] (0, 0) h =
  dzF 42 3 [(0, .ref a0), (1, .ref a1), (2, .int (7 : Int32))] [] (0, 0) h := (dzW_at 3 42 _ _ _ _ _).trans rfl
theorem q_Sums_order_3 (a0 : Nat) (a1 : Nat) (i2 : Int32) (h : dzH) : dzF 42 3 [(0, .ref a0), (1, .ref a1), (2, .int i2)] [] (0, 0) h =
  if i2 < 0 then
    some (some (.int (0 : Int32)), h)
  else
    (drI h a0 i2).bind fun v1 =>
    (drI h a1 i2).bind fun v2 =>
    if v1 = v2 then
      dzF 42 3 [(0, .ref a0), (1, .ref a1), (2, .int (i2 + (-1 : Int32)))] [] (0, 0) h
    else
      (drI h a0 i2).bind fun v3 =>
      (drI h a1 i2).bind fun v4 =>
      if (k_lcmp ((Int32.toInt64 v3) &&& (4294967295 : Int64)) ((Int32.toInt64 v4) &&& (4294967295 : Int64))) < 0 then
        some (some (.int (-1 : Int32)), h)
      else
        some (some (.int (1 : Int32)), h) := (dzW_at 26 42 _ _ _ _ _).trans rfl
-- PrimeCertificates.compare:(II)I
theorem q_P_compare_0 (a0 : Nat) (i1 : Int32) (i2 : Int32) (h : dzH) : dzF 43 0 [(0, .ref a0), (1, .int i1), (2, .int i2)] [] (0, 0) h =
  (c_P_isRegister i1 h).bind fun q1 =>
  if q1.1 = 0 then
    some (some (.int (2 : Int32)), q1.2)
  else
    (c_P_isRegister i2 q1.2).bind fun q2 =>
    if q2.1 = 0 then
      some (some (.int (2 : Int32)), q2.2)
    else
      (dgA q2.2 a0 0 0).bind fun r3 =>
      (drA q2.2 r3 i1).bind fun r4 =>
      (dgA q2.2 a0 0 0).bind fun r5 =>
      (drA q2.2 r5 i2).bind fun r6 =>
      (c_Sums_order r4 r6 q2.2).bind fun q7 =>
      some (some (.int q7.1), q7.2) := (dzW_at 16 43 _ _ _ _ _).trans rfl
-- PrimeCertificates$Tape.room:()I
theorem q_Tape_room_0 (a0 : Nat) (h : dzH) : dzF 44 0 [(0, .ref a0)] [] (0, 0) h =
  (dgI h a0 7 1).bind fun v1 =>
  some (some (.int ((4000 : Int32) - v1)), h) := (dzW_at 5 44 _ _ _ _ _).trans rfl
-- PrimeCertificates$Tape.append:(I)V
theorem q_Tape_append_0 (a0 : Nat) (i1 : Int32) (h : dzH) : dzF 45 0 [(0, .ref a0), (1, .int i1)] [] (0, 0) h =
  (dgI h a0 7 1).bind fun v1 =>
  if v1 < (4000 : Int32) then
    (dgA h a0 7 0).bind fun r2 =>
    (dgI h a0 7 1).bind fun v3 =>
    (dwI h r2 v3 i1).bind fun h4 =>
    (dgI h4 a0 7 1).bind fun v5 =>
    (dpF h4 a0 7 1 (.int (v5 + (1 : Int32)))).bind fun h6 =>
    some (none, h6)
  else
    some (none, h) := (dzW_at 17 45 _ _ _ _ _).trans rfl
-- PrimeCertificates.say:(I)I
theorem q_P_say_0 (a0 : Nat) (i1 : Int32) (h : dzH) : dzF 46 0 [(0, .ref a0), (1, .int i1)] [] (0, 0) h =
  (dgA h a0 0 4).bind fun r1 =>
  (c_Tape_room r1 h).bind fun q2 =>
  if q2.1 = 0 then
    some (some (.int (-3 : Int32)), q2.2)
  else
    (dgA q2.2 a0 0 4).bind fun r3 =>
    (c_Tape_append r3 i1 q2.2).bind fun h4 =>
    (dgA h4 a0 0 4).bind fun r5 =>
    (dgI h4 r5 7 1).bind fun v6 =>
    some (some (.int v6), h4) := (dzW_at 12 46 _ _ _ _ _).trans rfl
-- PrimeCertificates$Lines.forgetBehind:(I)V
theorem q_Lines_forgetBehind_0 (a0 : Nat) (i1 : Int32) (h : dzH) : dzF 47 0 [(0, .ref a0), (1, .int i1)] [] (0, 0) h =
  (dgI h a0 4 2).bind fun v1 =>
  if v1 ≤ 0 then
    some (none, h)
  else
    (dgA h a0 4 1).bind fun r2 =>
    (dgI h a0 4 2).bind fun v3 =>
    (drI h r2 (v3 - (1 : Int32))).bind fun v4 =>
    if v4 ≤ i1 then
      some (none, h)
    else
      (dgI h a0 4 2).bind fun v5 =>
      (dpF h a0 4 2 (.int (v5 - (1 : Int32)))).bind fun h6 =>
      dzF 47 0 [(0, .ref a0), (1, .int i1)] [] (0, 0) h6 := (dzW_at 20 47 _ _ _ _ _).trans rfl
-- PrimeCertificates.cut:(I)Z
theorem q_P_cut_0 (a0 : Nat) (i1 : Int32) (h : dzH) : dzF 48 0 [(0, .ref a0), (1, .int i1)] [] (0, 0) h =
  if i1 < 0 then
    some (some (.int (0 : Int32)), h)
  else
    (dgA h a0 0 4).bind fun r1 =>
    (dgI h r1 7 1).bind fun v2 =>
    if i1 ≤ v2 then
      (dgA h a0 0 4).bind fun r3 =>
      (dpF h r3 7 1 (.int i1)).bind fun h4 =>
      (dgA h4 a0 0 5).bind fun r5 =>
      (c_Lines_forgetBehind r5 i1 h4).bind fun h6 =>
      some (some (.int (1 : Int32)), h6)
    else
      some (some (.int (0 : Int32)), h) := (dzW_at 17 48 _ _ _ _ _).trans rfl
-- PrimeCertificates.length:()I
theorem q_P_length_0 (a0 : Nat) (h : dzH) : dzF 49 0 [(0, .ref a0)] [] (0, 0) h =
  (dgA h a0 0 4).bind fun r1 =>
  (dgI h r1 7 1).bind fun v2 =>
  some (some (.int v2), h) := (dzW_at 4 49 _ _ _ _ _).trans rfl
-- PrimeCertificates.at:(I)I
theorem q_P_at_0 (a0 : Nat) (i1 : Int32) (h : dzH) : dzF 50 0 [(0, .ref a0), (1, .int i1)] [] (0, 0) h =
  if i1 < 0 then
    some (some (.int (0 : Int32)), h)
  else
    (dgA h a0 0 4).bind fun r1 =>
    (dgI h r1 7 1).bind fun v2 =>
    if i1 < v2 then
      (dgA h a0 0 4).bind fun r3 =>
      (dgA h r3 7 0).bind fun r4 =>
      (drI h r4 i1).bind fun v5 =>
      some (some (.int v5), h)
    else
      some (some (.int (0 : Int32)), h) := (dzW_at 14 50 _ _ _ _ _).trans rfl
-- PrimeCertificates$Lines.end:()I
theorem q_Lines_end_0 (a0 : Nat) (h : dzH) : dzF 51 0 [(0, .ref a0)] [] (0, 0) h =
  (dgI h a0 4 2).bind fun v1 =>
  if v1 = 0 then
    some (some (.int (0 : Int32)), h)
  else
    (dgA h a0 4 1).bind fun r2 =>
    (dgI h a0 4 2).bind fun v3 =>
    (drI h r2 (v3 - (1 : Int32))).bind fun v4 =>
    some (some (.int v4), h) := (dzW_at 11 51 _ _ _ _ _).trans rfl
-- PrimeCertificates$Checker.refuse:(II)Z
theorem q_Checker_refuse_0 (a0 : Nat) (i1 : Int32) (i2 : Int32) (h : dzH) : dzF 52 0 [(0, .ref a0), (1, .int i1), (2, .int i2)] [] (0, 0) h =
  (dpF h a0 2 11 (.int i1)).bind fun h1 =>
  (dpF h1 a0 2 12 (.int i2)).bind fun h2 =>
  some (some (.int (0 : Int32)), h2) := (dzW_at 8 52 _ _ _ _ _).trans rfl
-- PrimeCertificates$Checker.take:()Z
theorem q_Checker_take_0 (a0 : Nat) (h : dzH) : dzF 53 0 [(0, .ref a0)] [] (0, 0) h =
  (dgI h a0 2 6).bind fun v1 =>
  (dgA h a0 2 0).bind fun r2 =>
  (dgI h r2 7 1).bind fun v3 =>
  if v1 < v3 then
    (dgA h a0 2 0).bind fun r4 =>
    (dgA h r4 7 0).bind fun r5 =>
    (dgI h a0 2 6).bind fun v6 =>
    (drI h r5 v6).bind fun v7 =>
    (dpF h a0 2 7 (.int v7)).bind fun h8 =>
    (dgI h8 a0 2 6).bind fun v9 =>
    (dpF h8 a0 2 6 (.int (v9 + (1 : Int32)))).bind fun h10 =>
    some (some (.int (1 : Int32)), h10)
  else
    (dgA h a0 2 0).bind fun r4 =>
    (dgI h r4 7 1).bind fun v5 =>
    (c_Checker_refuse a0 (1 : Int32) v5 h).bind fun q6 =>
    (dzB01 q6.1).bind fun b7 =>
    some (some (.int b7), q6.2) := (dzW_at 22 53 _ _ _ _ _).trans rfl
-- PrimeCertificates.isSmallPrime:(I)Z
theorem q_P_isSmallPrime_0 (i0 : Int32) (h : dzH) : dzF 54 0 [(0, .int i0)] [] (0, 0) h =
  dzF 54 2 [(0, .int i0), (1, .int (2 : Int32))] [] (0, 0) h := (dzW_at 3 54 _ _ _ _ _).trans rfl
theorem q_P_isSmallPrime_2 (i0 : Int32) (i1 : Int32) (h : dzH) : dzF 54 2 [(0, .int i0), (1, .int i1)] [] (0, 0) h =
  if i1 < i0 then
    if (i1 * i1) ≤ i0 then
      if i1 = 0 then none else
      if (k_irem i0 i1) = 0 then
        some (some (.int (0 : Int32)), h)
      else
        dzF 54 2 [(0, .int i0), (1, .int (i1 + (1 : Int32)))] [] (0, 0) h
    else
      dzF 54 28 [(0, .int i0), (1, .int i1)] [] (0, 0) h
  else
    dzF 54 28 [(0, .int i0), (1, .int i1)] [] (0, 0) h := (dzW_at 15 54 _ _ _ _ _).trans rfl
theorem q_P_isSmallPrime_28 (i0 : Int32) (i1 : Int32) (h : dzH) : dzF 54 28 [(0, .int i0), (1, .int i1)] [] (0, 0) h =
  if i0 < (2 : Int32) then
    some (some (.int (0 : Int32)), h)
  else
    some (some (.int (1 : Int32)), h) := (dzW_at 6 54 _ _ _ _ _).trans rfl
-- PrimeCertificates$Checker.refuseTaken:(I)Z
theorem q_Checker_refuseTaken_0 (a0 : Nat) (i1 : Int32) (h : dzH) : dzF 55 0 [(0, .ref a0), (1, .int i1)] [] (0, 0) h =
  (dgI h a0 2 6).bind fun v1 =>
  (c_Checker_refuse a0 i1 (v1 - (1 : Int32)) h).bind fun q2 =>
  (dzB01 q2.1).bind fun b3 =>
  some (some (.int b3), q2.2) := (dzW_at 8 55 _ _ _ _ _).trans rfl
-- PrimeCertificates$Checker.readSmallPrime:([I)Z
theorem q_Checker_readSmallPrime_0 (a0 : Nat) (a1 : Nat) (h : dzH) : dzF 56 0 [(0, .ref a0), (1, .ref a1)] [] (0, 0) h =
  (c_Checker_take a0 h).bind fun q1 =>
  if q1.1 = 0 then
    some (some (.int (0 : Int32)), q1.2)
  else
    (dgI q1.2 a0 2 7).bind fun v2 =>
    if v2 ≤ (65535 : Int32) then
      (dgI q1.2 a0 2 7).bind fun v3 =>
      (c_P_isSmallPrime v3 q1.2).bind fun q4 =>
      if q4.1 = 0 then
        dzF 56 28 [(0, .ref a0), (1, .ref a1)] [] (0, 0) q4.2
      else
        (dgI q4.2 a0 2 7).bind fun v5 =>
        (c_Sums_setSmall a1 v5 q4.2).bind fun h6 =>
        some (some (.int (1 : Int32)), h6)
    else
      dzF 56 28 [(0, .ref a0), (1, .ref a1)] [] (0, 0) q1.2 := (dzW_at 17 56 _ _ _ _ _).trans rfl
theorem q_Checker_readSmallPrime_28 (a0 : Nat) (a1 : Nat) (h : dzH) : dzF 56 28 [(0, .ref a0), (1, .ref a1)] [] (0, 0) h =
  (c_Checker_refuseTaken a0 (3 : Int32) h).bind fun q1 =>
  (dzB01 q1.1).bind fun b2 =>
  some (some (.int b2), q1.2) := (dzW_at 4 56 _ _ _ _ _).trans rfl
-- PrimeCertificates$Sums.isAtMost:([II)Z
theorem q_Sums_isAtMost_0 (a0 : Nat) (i1 : Int32) (h : dzH) : dzF 57 0 [(0, .ref a0), (1, .int i1)] [] (0, 0) h =
  (c_Sums_usedWords a0 h).bind fun q1 =>
  if q1.1 ≤ (1 : Int32) then
    (drI q1.2 a0 (0 : Int32)).bind fun v2 =>
    if (k_lcmp ((Int32.toInt64 v2) &&& (4294967295 : Int64)) (Int32.toInt64 i1)) ≤ 0 then
      some (some (.int (1 : Int32)), q1.2)
    else
      some (some (.int (0 : Int32)), q1.2)
  else
    some (some (.int (0 : Int32)), q1.2) := (dzW_at 17 57 _ _ _ _ _).trans rfl
-- PrimeCertificates$Checker.readNumber:([I)Z
theorem q_Checker_readNumber_0 (a0 : Nat) (a1 : Nat) (h : dzH) : dzF 58 0 [(0, .ref a0), (1, .ref a1)] [] (0, 0) h =
  (c_Checker_take a0 h).bind fun q1 =>
  if q1.1 = 0 then
    some (some (.int (0 : Int32)), q1.2)
  else
    (dgI q1.2 a0 2 6).bind fun v2 =>
    (dgI q1.2 a0 2 7).bind fun v3 =>
    if v3 < (1 : Int32) then
      dzF 58 32 [(0, .ref a0), (1, .ref a1), (2, .int (v2 - (1 : Int32))), (3, .int v3)] [] (0, 0) q1.2
    else
      if v3 ≤ (8 : Int32) then
        (c_Arrays_fill a1 (0 : Int32) q1.2).bind fun h4 =>
        dzF 58 46 [(0, .ref a0), (1, .ref a1), (2, .int (v2 - (1 : Int32))), (3, .int v3), (4, .int (0 : Int32))] [] (0, 0) h4
      else
        dzF 58 32 [(0, .ref a0), (1, .ref a1), (2, .int (v2 - (1 : Int32))), (3, .int v3)] [] (0, 0) q1.2 := (dzW_at 23 58 _ _ _ _ _).trans rfl
theorem q_Checker_readNumber_32 (a0 : Nat) (a1 : Nat) (i2 : Int32) (i3 : Int32) (h : dzH) : dzF 58 32 [(0, .ref a0), (1, .ref a1), (2, .int i2), (3, .int i3)] [] (0, 0) h =
  (c_Checker_refuseTaken a0 (2 : Int32) h).bind fun q1 =>
  (dzB01 q1.1).bind fun b2 =>
  some (some (.int b2), q1.2) := (dzW_at 4 58 _ _ _ _ _).trans rfl
theorem q_Checker_readNumber_46 (a0 : Nat) (a1 : Nat) (i2 : Int32) (i3 : Int32) (i4 : Int32) (h : dzH) : dzF 58 46 [(0, .ref a0), (1, .ref a1), (2, .int i2), (3, .int i3), (4, .int i4)] [] (0, 0) h =
  if i4 < i3 then
    (c_Checker_take a0 h).bind fun q1 =>
    if q1.1 = 0 then
      some (some (.int (0 : Int32)), q1.2)
    else
      (dgI q1.2 a0 2 7).bind fun v2 =>
      (dwI q1.2 a1 i4 v2).bind fun h3 =>
      dzF 58 46 [(0, .ref a0), (1, .ref a1), (2, .int i2), (3, .int i3), (4, .int (i4 + (1 : Int32)))] [] (0, 0) h3
  else
    (dgI h a0 2 7).bind fun v1 =>
    if v1 = 0 then
      (c_Checker_refuseTaken a0 (2 : Int32) h).bind fun q2 =>
      (dzB01 q2.1).bind fun b3 =>
      some (some (.int b3), q2.2)
    else
      (c_Sums_isAtMost a1 (2 : Int32) h).bind fun q2 =>
      if q2.1 = 0 then
        dzF 58 105 [(0, .ref a0), (1, .ref a1), (2, .int i2), (3, .int i3), (4, .int i4)] [] (0, 0) q2.2
      else
        (c_Checker_refuse a0 (4 : Int32) i2 q2.2).bind fun q3 =>
        if q3.1 = 0 then
          some (some (.int (0 : Int32)), q3.2)
        else
          dzF 58 105 [(0, .ref a0), (1, .ref a1), (2, .int i2), (3, .int i3), (4, .int i4)] [] (0, 0) q3.2 := (dzW_at 17 58 _ _ _ _ _).trans rfl
theorem q_Checker_readNumber_105 (a0 : Nat) (a1 : Nat) (i2 : Int32) (i3 : Int32) (i4 : Int32) (h : dzH) : dzF 58 105 [(0, .ref a0), (1, .ref a1), (2, .int i2), (3, .int i3), (4, .int i4)] [] (0, 0) h =
  some (some (.int (1 : Int32)), h) := (dzW_at 3 58 _ _ _ _ _).trans rfl
-- PrimeCertificates$Checker.isWitness:(I[I)Z
theorem q_Checker_isWitness_0 (i0 : Int32) (a1 : Nat) (h : dzH) : dzF 59 0 [(0, .int i0), (1, .ref a1)] [] (0, 0) h =
  if i0 < (2 : Int32) then
    some (some (.int (0 : Int32)), h)
  else
    (c_Sums_isAtMost a1 i0 h).bind fun q1 =>
    if q1.1 = 0 then
      some (some (.int (1 : Int32)), q1.2)
    else
      some (some (.int (0 : Int32)), q1.2) := (dzW_at 10 59 _ _ _ _ _).trans rfl
-- PrimeCertificates$Checker.readRoot:([I)Z
theorem q_Checker_readRoot_0 (a0 : Nat) (a1 : Nat) (h : dzH) : dzF 60 0 [(0, .ref a0), (1, .ref a1)] [] (0, 0) h =
  (c_Checker_take a0 h).bind fun q1 =>
  if q1.1 = 0 then
    some (some (.int (0 : Int32)), q1.2)
  else
    (dgI q1.2 a0 2 7).bind fun v2 =>
    (dpF q1.2 a0 2 9 (.int v2)).bind fun h3 =>
    (dgI h3 a0 2 9).bind fun v4 =>
    (c_Checker_isWitness v4 a1 h3).bind fun q5 =>
    if q5.1 = 0 then
      (c_Checker_refuseTaken a0 (8 : Int32) q5.2).bind fun q6 =>
      if q6.1 = 0 then
        some (some (.int (0 : Int32)), q6.2)
      else
        dzF 60 37 [(0, .ref a0), (1, .ref a1)] [] (0, 0) q6.2
    else
      dzF 60 37 [(0, .ref a0), (1, .ref a1)] [] (0, 0) q5.2 := (dzW_at 18 60 _ _ _ _ _).trans rfl
theorem q_Checker_readRoot_37 (a0 : Nat) (a1 : Nat) (h : dzH) : dzF 60 37 [(0, .ref a0), (1, .ref a1)] [] (0, 0) h =
  some (some (.int (1 : Int32)), h) := (dzW_at 3 60 _ _ _ _ _).trans rfl
-- PrimeCertificates$Checker.factorNumber:(I)[I
theorem q_Checker_factorNumber_0 (a0 : Nat) (i1 : Int32) (h : dzH) : dzF 61 0 [(0, .ref a0), (1, .int i1)] [] (0, 0) h =
  (dgA h a0 2 1).bind fun r1 =>
  (dgA h r1 4 0).bind fun r2 =>
  (dgA h a0 2 4).bind fun r3 =>
  (dgA h r3 3 0).bind fun r4 =>
  (drI h r4 i1).bind fun v5 =>
  (drA h r2 v5).bind fun r6 =>
  some (some (.ref r6), h) := (dzW_at 10 61 _ _ _ _ _).trans rfl
-- PrimeCertificates$Checker.readFactorLine:(II)Z
theorem q_Checker_readFactorLine_0 (a0 : Nat) (i1 : Int32) (i2 : Int32) (h : dzH) : dzF 62 0 [(0, .ref a0), (1, .int i1), (2, .int i2)] [] (0, 0) h =
  (c_Checker_take a0 h).bind fun q1 =>
  if q1.1 = 0 then
    some (some (.int (0 : Int32)), q1.2)
  else
    (dgI q1.2 a0 2 7).bind fun v2 =>
    if v2 < 0 then
      dzF 62 24 [(0, .ref a0), (1, .int i1), (2, .int i2)] [] (0, 0) q1.2
    else
      (dgI q1.2 a0 2 7).bind fun v3 =>
      if v3 < i2 then
        (dgA q1.2 a0 2 4).bind fun r4 =>
        (dgA q1.2 r4 3 0).bind fun r5 =>
        (dgI q1.2 a0 2 7).bind fun v6 =>
        (dwI q1.2 r5 i1 v6).bind fun h7 =>
        if i1 = 0 then
          dzF 62 73 [(0, .ref a0), (1, .int i1), (2, .int i2)] [] (0, 0) h7
        else
          (c_Checker_factorNumber a0 (i1 - (1 : Int32)) h7).bind fun q8 =>
          (c_Checker_factorNumber a0 i1 q8.2).bind fun q9 =>
          (c_Sums_order q8.1 q9.1 q9.2).bind fun q10 =>
          if q10.1 < 0 then
            dzF 62 73 [(0, .ref a0), (1, .int i1), (2, .int i2)] [] (0, 0) q10.2
          else
            (c_Checker_refuseTaken a0 (5 : Int32) q10.2).bind fun q11 =>
            if q11.1 = 0 then
              some (some (.int (0 : Int32)), q11.2)
            else
              dzF 62 73 [(0, .ref a0), (1, .int i1), (2, .int i2)] [] (0, 0) q11.2
      else
        dzF 62 24 [(0, .ref a0), (1, .int i1), (2, .int i2)] [] (0, 0) q1.2 := (dzW_at 35 62 _ _ _ _ _).trans rfl
theorem q_Checker_readFactorLine_24 (a0 : Nat) (i1 : Int32) (i2 : Int32) (h : dzH) : dzF 62 24 [(0, .ref a0), (1, .int i1), (2, .int i2)] [] (0, 0) h =
  (c_Checker_refuseTaken a0 (2 : Int32) h).bind fun q1 =>
  (dzB01 q1.1).bind fun b2 =>
  some (some (.int b2), q1.2) := (dzW_at 4 62 _ _ _ _ _).trans rfl
theorem q_Checker_readFactorLine_73 (a0 : Nat) (i1 : Int32) (i2 : Int32) (h : dzH) : dzF 62 73 [(0, .ref a0), (1, .int i1), (2, .int i2)] [] (0, 0) h =
  some (some (.int (1 : Int32)), h) := (dzW_at 3 62 _ _ _ _ _).trans rfl
-- PrimeCertificates$Checker.readExponent:(I)Z
theorem q_Checker_readExponent_0 (a0 : Nat) (i1 : Int32) (h : dzH) : dzF 63 0 [(0, .ref a0), (1, .int i1)] [] (0, 0) h =
  (c_Checker_take a0 h).bind fun q1 =>
  if q1.1 = 0 then
    some (some (.int (0 : Int32)), q1.2)
  else
    (dgA q1.2 a0 2 4).bind fun r2 =>
    (dgA q1.2 r2 3 1).bind fun r3 =>
    (dgI q1.2 a0 2 7).bind fun v4 =>
    (dwI q1.2 r3 i1 v4).bind fun h5 =>
    (dgI h5 a0 2 7).bind fun v6 =>
    if v6 < (1 : Int32) then
      dzF 63 40 [(0, .ref a0), (1, .int i1)] [] (0, 0) h5
    else
      (dgI h5 a0 2 7).bind fun v7 =>
      if v7 ≤ (255 : Int32) then
        dzF 63 48 [(0, .ref a0), (1, .int i1)] [] (0, 0) h5
      else
        dzF 63 40 [(0, .ref a0), (1, .int i1)] [] (0, 0) h5 := (dzW_at 19 63 _ _ _ _ _).trans rfl
theorem q_Checker_readExponent_40 (a0 : Nat) (i1 : Int32) (h : dzH) : dzF 63 40 [(0, .ref a0), (1, .int i1)] [] (0, 0) h =
  (c_Checker_refuseTaken a0 (2 : Int32) h).bind fun q1 =>
  if q1.1 = 0 then
    some (some (.int (0 : Int32)), q1.2)
  else
    dzF 63 48 [(0, .ref a0), (1, .int i1)] [] (0, 0) q1.2 := (dzW_at 6 63 _ _ _ _ _).trans rfl
theorem q_Checker_readExponent_48 (a0 : Nat) (i1 : Int32) (h : dzH) : dzF 63 48 [(0, .ref a0), (1, .int i1)] [] (0, 0) h =
  some (some (.int (1 : Int32)), h) := (dzW_at 3 63 _ _ _ _ _).trans rfl
-- PrimeCertificates$Checker.readFactors:(I)Z
theorem q_Checker_readFactors_0 (a0 : Nat) (i1 : Int32) (h : dzH) : dzF 64 0 [(0, .ref a0), (1, .int i1)] [] (0, 0) h =
  (c_Checker_take a0 h).bind fun q1 =>
  if q1.1 = 0 then
    some (some (.int (0 : Int32)), q1.2)
  else
    (dgI q1.2 a0 2 7).bind fun v2 =>
    if v2 < (1 : Int32) then
      dzF 64 26 [(0, .ref a0), (1, .int i1)] [] (0, 0) q1.2
    else
      (dgI q1.2 a0 2 7).bind fun v3 =>
      if v3 ≤ (40 : Int32) then
        (dgI q1.2 a0 2 6).bind fun v4 =>
        (dpF q1.2 a0 2 10 (.int (v4 - (1 : Int32)))).bind fun h5 =>
        (dgA h5 a0 2 4).bind fun r6 =>
        (dgI h5 a0 2 7).bind fun v7 =>
        (dpF h5 r6 3 3 (.int v7)).bind fun h8 =>
        dzF 64 55 [(0, .ref a0), (1, .int i1), (2, .int (0 : Int32))] [] (0, 0) h8
      else
        dzF 64 26 [(0, .ref a0), (1, .int i1)] [] (0, 0) q1.2 := (dzW_at 25 64 _ _ _ _ _).trans rfl
theorem q_Checker_readFactors_26 (a0 : Nat) (i1 : Int32) (h : dzH) : dzF 64 26 [(0, .ref a0), (1, .int i1)] [] (0, 0) h =
  (c_Checker_refuseTaken a0 (2 : Int32) h).bind fun q1 =>
  (dzB01 q1.1).bind fun b2 =>
  some (some (.int b2), q1.2) := (dzW_at 4 64 _ _ _ _ _).trans rfl
theorem q_Checker_readFactors_55 (a0 : Nat) (i1 : Int32) (i2 : Int32) (h : dzH) : dzF 64 55 [(0, .ref a0), (1, .int i1), (2, .int i2)] [] (0, 0) h =
  (dgA h a0 2 4).bind fun r1 =>
  (dgI h r1 3 3).bind fun v2 =>
  if i2 < v2 then
    (c_Checker_readFactorLine a0 i2 i1 h).bind fun q3 =>
    if q3.1 = 0 then
      some (some (.int (0 : Int32)), q3.2)
    else
      (c_Checker_readExponent a0 i2 q3.2).bind fun q4 =>
      if q4.1 = 0 then
        some (some (.int (0 : Int32)), q4.2)
      else
        (dgI q4.2 a0 2 8).bind fun v5 =>
        if v5 = (3 : Int32) then
          (c_Checker_take a0 q4.2).bind fun q6 =>
          if q6.1 = 0 then
            some (some (.int (0 : Int32)), q6.2)
          else
            (dgA q6.2 a0 2 4).bind fun r7 =>
            (dgA q6.2 r7 3 2).bind fun r8 =>
            (dgI q6.2 a0 2 7).bind fun v9 =>
            (dwI q6.2 r8 i2 v9).bind fun h10 =>
            dzF 64 115 [(0, .ref a0), (1, .int i1), (2, .int i2)] [] (0, 0) h10
        else
          dzF 64 115 [(0, .ref a0), (1, .int i1), (2, .int i2)] [] (0, 0) q4.2
  else
    some (some (.int (1 : Int32)), h) := (dzW_at 29 64 _ _ _ _ _).trans rfl
theorem q_Checker_readFactors_115 (a0 : Nat) (i1 : Int32) (i2 : Int32) (h : dzH) : dzF 64 115 [(0, .ref a0), (1, .int i1), (2, .int i2)] [] (0, 0) h =
  dzF 64 55 [(0, .ref a0), (1, .int i1), (2, .int (i2 + (1 : Int32)))] [] (0, 0) h := (dzW_at 3 64 _ _ _ _ _).trans rfl
-- PrimeCertificates$Checker.readLine:(I)Z
theorem q_Checker_readLine_0 (a0 : Nat) (i1 : Int32) (h : dzH) : dzF 65 0 [(0, .ref a0), (1, .int i1)] [] (0, 0) h =
  (c_Checker_take a0 h).bind fun q1 =>
  if q1.1 = 0 then
    some (some (.int (0 : Int32)), q1.2)
  else
    (dgI q1.2 a0 2 7).bind fun v2 =>
    (dpF q1.2 a0 2 8 (.int v2)).bind fun h3 =>
    (dgA h3 a0 2 1).bind fun r4 =>
    (dgA h3 r4 4 0).bind fun r5 =>
    (drA h3 r5 i1).bind fun r6 =>
    (dgI h3 a0 2 8).bind fun v7 =>
    if v7 = 1 then
      (c_Checker_readSmallPrime a0 r6 h3).bind fun q8 =>
      (dzB01 q8.1).bind fun b9 =>
      some (some (.int b9), q8.2)
    else
    if v7 = 2 then
      (c_Checker_readNumber a0 r6 h3).bind fun q8 =>
      if q8.1 = 0 then
        some (some (.int (0 : Int32)), q8.2)
      else
        (c_Checker_readRoot a0 r6 q8.2).bind fun q9 =>
        if q9.1 = 0 then
          some (some (.int (0 : Int32)), q9.2)
        else
          (c_Checker_readFactors a0 i1 q9.2).bind fun q10 =>
          if q10.1 = 0 then
            some (some (.int (0 : Int32)), q10.2)
          else
            some (some (.int (1 : Int32)), q10.2)
    else
    if v7 = 3 then
      (c_Checker_readNumber a0 r6 h3).bind fun q8 =>
      if q8.1 = 0 then
        some (some (.int (0 : Int32)), q8.2)
      else
        (c_Checker_readFactors a0 i1 q8.2).bind fun q9 =>
        if q9.1 = 0 then
          some (some (.int (0 : Int32)), q9.2)
        else
          some (some (.int (1 : Int32)), q9.2)
    else
      (c_Checker_refuseTaken a0 (2 : Int32) h3).bind fun q8 =>
      (dzB01 q8.1).bind fun b9 =>
      some (some (.int b9), q8.2) := (dzW_at 31 65 _ _ _ _ _).trans rfl
-- PrimeCertificates$Trial.begin:([I)V
theorem q_Trial_begin_0 (a0 : Nat) (a1 : Nat) (h : dzH) : dzF 66 0 [(0, .ref a0), (1, .ref a1)] [] (0, 0) h =
  (dgA h a0 8 1).bind fun r1 =>
  (c_Sums_copy a1 r1 h).bind fun h2 =>
  (dgA h2 a0 8 1).bind fun r3 =>
  (dgA h2 a0 8 3).bind fun r4 =>
  (dgA h2 a0 8 2).bind fun r5 =>
  (c_Sums_difference r3 r4 r5 h2).bind fun q6 =>
  some (none, q6.2) := (dzW_at 13 66 _ _ _ _ _).trans rfl
-- PrimeCertificates$Checker.multiplyFactors:()Z
theorem q_Checker_multiplyFactors_0 (a0 : Nat) (h : dzH) : dzF 67 0 [(0, .ref a0)] [] (0, 0) h =
  (dgA h a0 2 5).bind fun r1 =>
  (c_Sums_setSmall r1 (1 : Int32) h).bind fun h2 =>
  dzF 67 10 [(0, .ref a0), (1, .int (0 : Int32))] [] (0, 0) h2 := (dzW_at 7 67 _ _ _ _ _).trans rfl
theorem q_Checker_multiplyFactors_10 (a0 : Nat) (i1 : Int32) (h : dzH) : dzF 67 10 [(0, .ref a0), (1, .int i1)] [] (0, 0) h =
  (dgA h a0 2 4).bind fun r1 =>
  (dgI h r1 3 3).bind fun v2 =>
  if i1 < v2 then
    dzF 67 23 [(0, .ref a0), (1, .int i1), (2, .int (0 : Int32))] [] (0, 0) h
  else
    some (some (.int (1 : Int32)), h) := (dzW_at 8 67 _ _ _ _ _).trans rfl
theorem q_Checker_multiplyFactors_23 (a0 : Nat) (i1 : Int32) (i2 : Int32) (h : dzH) : dzF 67 23 [(0, .ref a0), (1, .int i1), (2, .int i2)] [] (0, 0) h =
  (dgA h a0 2 4).bind fun r1 =>
  (dgA h r1 3 1).bind fun r2 =>
  (drI h r2 i1).bind fun v3 =>
  if i2 < v3 then
    (dgA h a0 2 2).bind fun r4 =>
    (dgA h a0 2 5).bind fun r5 =>
    (c_Checker_factorNumber a0 i1 h).bind fun q6 =>
    (dgA q6.2 a0 2 5).bind fun r7 =>
    (c_Sums_product r4 r5 q6.1 r7 q6.2).bind fun q8 =>
    if q8.1 = 0 then
      some (some (.int (0 : Int32)), q8.2)
    else
      dzF 67 23 [(0, .ref a0), (1, .int i1), (2, .int (i2 + (1 : Int32)))] [] (0, 0) q8.2
  else
    dzF 67 10 [(0, .ref a0), (1, .int (i1 + (1 : Int32)))] [] (0, 0) h := (dzW_at 21 67 _ _ _ _ _).trans rfl
-- PrimeCertificates$Sums.divides:([I[I)Z
theorem q_Sums_divides_0 (a0 : Nat) (a1 : Nat) (a2 : Nat) (h : dzH) : dzF 68 0 [(0, .ref a0), (1, .ref a1), (2, .ref a2)] [] (0, 0) h =
  (c_Sums_setDivisor a0 a1 h).bind fun h1 =>
  (c_Sums_setWide a0 a2 h1).bind fun h2 =>
  (c_Sums_reduceWide a0 h2).bind fun h3 =>
  (dgA h3 a0 6 0).bind fun r4 =>
  (c_Sums_isZero r4 h3).bind fun q5 =>
  (dzB01 q5.1).bind fun b6 =>
  some (some (.int b6), q5.2) := (dzW_at 12 68 _ _ _ _ _).trans rfl
-- PrimeCertificates$Sums.squareIsAbove:([I[I)Z
theorem q_Sums_squareIsAbove_0 (a0 : Nat) (a1 : Nat) (a2 : Nat) (h : dzH) : dzF 69 0 [(0, .ref a0), (1, .ref a1), (2, .ref a2)] [] (0, 0) h =
  (c_Sums_setWideToProduct a0 a1 a1 h).bind fun h1 =>
  (dgA h1 a0 6 0).bind fun r2 =>
  (c_Sums_usedWords r2 h1).bind fun q3 =>
  if q3.1 ≤ (8 : Int32) then
    (dgA q3.2 a0 6 0).bind fun r4 =>
    (c_Sums_order r4 a2 q3.2).bind fun q5 =>
    if q5.1 ≤ 0 then
      some (some (.int (0 : Int32)), q5.2)
    else
      dzF 69 29 [(0, .ref a0), (1, .ref a1), (2, .ref a2)] [] (0, 0) q5.2
  else
    dzF 69 29 [(0, .ref a0), (1, .ref a1), (2, .ref a2)] [] (0, 0) q3.2 := (dzW_at 16 69 _ _ _ _ _).trans rfl
theorem q_Sums_squareIsAbove_29 (a0 : Nat) (a1 : Nat) (a2 : Nat) (h : dzH) : dzF 69 29 [(0, .ref a0), (1, .ref a1), (2, .ref a2)] [] (0, 0) h =
  some (some (.int (1 : Int32)), h) := (dzW_at 3 69 _ _ _ _ _).trans rfl
-- PrimeCertificates$Checker.productHolds:()Z
theorem q_Checker_productHolds_0 (a0 : Nat) (h : dzH) : dzF 70 0 [(0, .ref a0)] [] (0, 0) h =
  (c_Checker_multiplyFactors a0 h).bind fun q1 =>
  if q1.1 = 0 then
    (dgI q1.2 a0 2 10).bind fun v2 =>
    (c_Checker_refuse a0 (6 : Int32) v2 q1.2).bind fun q3 =>
    (dzB01 q3.1).bind fun b4 =>
    some (some (.int b4), q3.2)
  else
    (dgI q1.2 a0 2 8).bind fun v2 =>
    if v2 = (2 : Int32) then
      (dgA q1.2 a0 2 5).bind fun r3 =>
      (dgA q1.2 a0 2 3).bind fun r4 =>
      (dgA q1.2 r4 8 2).bind fun r5 =>
      (c_Sums_order r3 r5 q1.2).bind fun q6 =>
      if q6.1 = 0 then
        dzF 70 56 [(0, .ref a0)] [] (0, 0) q6.2
      else
        (dgI q6.2 a0 2 10).bind fun v7 =>
        (c_Checker_refuse a0 (6 : Int32) v7 q6.2).bind fun q8 =>
        if q8.1 = 0 then
          some (some (.int (0 : Int32)), q8.2)
        else
          dzF 70 56 [(0, .ref a0)] [] (0, 0) q8.2
    else
      (dgA q1.2 a0 2 2).bind fun r3 =>
      (dgA q1.2 a0 2 5).bind fun r4 =>
      (dgA q1.2 a0 2 3).bind fun r5 =>
      (dgA q1.2 r5 8 2).bind fun r6 =>
      (c_Sums_divides r3 r4 r6 q1.2).bind fun q7 =>
      if q7.1 = 0 then
        (dgI q7.2 a0 2 10).bind fun v8 =>
        (c_Checker_refuse a0 (6 : Int32) v8 q7.2).bind fun q9 =>
        (dzB01 q9.1).bind fun b10 =>
        some (some (.int b10), q9.2)
      else
        (dgA q7.2 a0 2 2).bind fun r8 =>
        (dgA q7.2 a0 2 5).bind fun r9 =>
        (dgA q7.2 a0 2 3).bind fun r10 =>
        (dgA q7.2 r10 8 1).bind fun r11 =>
        (c_Sums_squareIsAbove r8 r9 r11 q7.2).bind fun q12 =>
        if q12.1 = 0 then
          (dgI q12.2 a0 2 10).bind fun v13 =>
          (c_Checker_refuse a0 (7 : Int32) v13 q12.2).bind fun q14 =>
          if q14.1 = 0 then
            some (some (.int (0 : Int32)), q14.2)
          else
            dzF 70 128 [(0, .ref a0)] [] (0, 0) q14.2
        else
          dzF 70 128 [(0, .ref a0)] [] (0, 0) q12.2 := (dzW_at 33 70 _ _ _ _ _).trans rfl
theorem q_Checker_productHolds_56 (a0 : Nat) (h : dzH) : dzF 70 56 [(0, .ref a0)] [] (0, 0) h =
  some (some (.int (1 : Int32)), h) := (dzW_at 3 70 _ _ _ _ _).trans rfl
theorem q_Checker_productHolds_128 (a0 : Nat) (h : dzH) : dzF 70 128 [(0, .ref a0)] [] (0, 0) h =
  some (some (.int (1 : Int32)), h) := (dzW_at 3 70 _ _ _ _ _).trans rfl
-- PrimeCertificates$Sums.isOne:([I)Z
theorem q_Sums_isOne_0 (a0 : Nat) (h : dzH) : dzF 71 0 [(0, .ref a0)] [] (0, 0) h =
  (drI h a0 (0 : Int32)).bind fun v1 =>
  if v1 = (1 : Int32) then
    (c_Sums_usedWords a0 h).bind fun q2 =>
    if q2.1 = (1 : Int32) then
      some (some (.int (1 : Int32)), q2.2)
    else
      some (some (.int (0 : Int32)), q2.2)
  else
    some (some (.int (0 : Int32)), h) := (dzW_at 12 71 _ _ _ _ _).trans rfl
-- PrimeCertificates$Trial.closes:(I)Z
theorem q_Trial_closes_0 (a0 : Nat) (i1 : Int32) (h : dzH) : dzF 72 0 [(0, .ref a0), (1, .int i1)] [] (0, 0) h =
  (dgA h a0 8 4).bind fun r1 =>
  (dwI h r1 (0 : Int32) i1).bind fun h2 =>
  (dgA h2 a0 8 0).bind fun r3 =>
  (dgA h2 a0 8 4).bind fun r4 =>
  (dgA h2 a0 8 2).bind fun r5 =>
  (dgA h2 a0 8 1).bind fun r6 =>
  (dgA h2 a0 8 6).bind fun r7 =>
  (c_Sums_powerModulo r3 r4 r5 r6 r7 h2).bind fun h8 =>
  (dgA h8 a0 8 6).bind fun r9 =>
  (c_Sums_isOne r9 h8).bind fun q10 =>
  (dzB01 q10.1).bind fun b11 =>
  some (some (.int b11), q10.2) := (dzW_at 20 72 _ _ _ _ _).trans rfl
-- PrimeCertificates$Trial.parts:(I[I)Z
theorem q_Trial_parts_0 (a0 : Nat) (i1 : Int32) (a2 : Nat) (h : dzH) : dzF 73 0 [(0, .ref a0), (1, .int i1), (2, .ref a2)] [] (0, 0) h =
  (dgA h a0 8 4).bind fun r1 =>
  (dwI h r1 (0 : Int32) i1).bind fun h2 =>
  (dgA h2 a0 8 0).bind fun r3 =>
  (dgA h2 a0 8 2).bind fun r4 =>
  (dgA h2 a0 8 5).bind fun r5 =>
  (dgA h2 a0 8 6).bind fun r6 =>
  (c_Sums_quotient r3 r4 a2 r5 r6 h2).bind fun h7 =>
  (dgA h7 a0 8 0).bind fun r8 =>
  (dgA h7 a0 8 4).bind fun r9 =>
  (dgA h7 a0 8 5).bind fun r10 =>
  (dgA h7 a0 8 1).bind fun r11 =>
  (dgA h7 a0 8 6).bind fun r12 =>
  (c_Sums_powerModulo r8 r9 r10 r11 r12 h7).bind fun h13 =>
  (dgA h13 a0 8 6).bind fun r14 =>
  (c_Sums_isOne r14 h13).bind fun q15 =>
  if q15.1 = 0 then
    some (some (.int (1 : Int32)), q15.2)
  else
    some (some (.int (0 : Int32)), q15.2) := (dzW_at 33 73 _ _ _ _ _).trans rfl
-- PrimeCertificates$Checker.factorPlace:(I)I
theorem q_Checker_factorPlace_0 (a0 : Nat) (i1 : Int32) (h : dzH) : dzF 74 0 [(0, .ref a0), (1, .int i1)] [] (0, 0) h =
  (dgI h a0 2 10).bind fun v1 =>
  (dgI h a0 2 8).bind fun v2 =>
  if v2 = (3 : Int32) then
    dzF 74 20 [(0, .ref a0), (1, .int i1)] [.int (3 : Int32), .int i1, .int (v1 + (1 : Int32))] (0, 0) h
  else
    dzF 74 20 [(0, .ref a0), (1, .int i1)] [.int (2 : Int32), .int i1, .int (v1 + (1 : Int32))] (0, 0) h := (dzW_at 12 74 _ _ _ _ _).trans rfl
theorem q_Checker_factorPlace_20 (a0 : Nat) (i1 : Int32) (si0 : Int32) (si1 : Int32) (si2 : Int32) (h : dzH) : dzF 74 20 [(0, .ref a0), (1, .int i1)] [.int si2, .int si1, .int si0] (0, 0) h =
  some (some (.int (si0 + (si1 * si2))), h) := (dzW_at 3 74 _ _ _ _ _).trans rfl
-- PrimeCertificates$Checker.rootHolds:()Z
theorem q_Checker_rootHolds_0 (a0 : Nat) (h : dzH) : dzF 75 0 [(0, .ref a0)] [] (0, 0) h =
  (dgA h a0 2 3).bind fun r1 =>
  (dgI h a0 2 9).bind fun v2 =>
  (c_Trial_closes r1 v2 h).bind fun q3 =>
  if q3.1 = 0 then
    (dgI q3.2 a0 2 10).bind fun v4 =>
    (c_Checker_refuse a0 (9 : Int32) (v4 - (1 : Int32)) q3.2).bind fun q5 =>
    (dzB01 q5.1).bind fun b6 =>
    some (some (.int b6), q5.2)
  else
    dzF 75 29 [(0, .ref a0), (1, .int (0 : Int32))] [] (0, 0) q3.2 := (dzW_at 14 75 _ _ _ _ _).trans rfl
theorem q_Checker_rootHolds_29 (a0 : Nat) (i1 : Int32) (h : dzH) : dzF 75 29 [(0, .ref a0), (1, .int i1)] [] (0, 0) h =
  (dgA h a0 2 4).bind fun r1 =>
  (dgI h r1 3 3).bind fun v2 =>
  if i1 < v2 then
    (dgA h a0 2 3).bind fun r3 =>
    (dgI h a0 2 9).bind fun v4 =>
    (c_Checker_factorNumber a0 i1 h).bind fun q5 =>
    (c_Trial_parts r3 v4 q5.1 q5.2).bind fun q6 =>
    if q6.1 = 0 then
      (c_Checker_factorPlace a0 i1 q6.2).bind fun q7 =>
      (c_Checker_refuse a0 (10 : Int32) q7.1 q7.2).bind fun q8 =>
      (dzB01 q8.1).bind fun b9 =>
      some (some (.int b9), q8.2)
    else
      dzF 75 29 [(0, .ref a0), (1, .int (i1 + (1 : Int32)))] [] (0, 0) q6.2
  else
    some (some (.int (1 : Int32)), h) := (dzW_at 21 75 _ _ _ _ _).trans rfl
-- PrimeCertificates$Trial.partsEverywhere:(I[I)Z
set_option maxRecDepth 100000 in
theorem q_Trial_partsEverywhere_0 (a0 : Nat) (i1 : Int32) (a2 : Nat) (h : dzH) : dzF 76 0 [(0, .ref a0), (1, .int i1), (2, .ref a2)] [] (0, 0) h =
  (dgA h a0 8 4).bind fun r1 =>
  (dwI h r1 (0 : Int32) i1).bind fun h2 =>
  (dgA h2 a0 8 0).bind fun r3 =>
  (dgA h2 a0 8 2).bind fun r4 =>
  (dgA h2 a0 8 5).bind fun r5 =>
  (dgA h2 a0 8 6).bind fun r6 =>
  (c_Sums_quotient r3 r4 a2 r5 r6 h2).bind fun h7 =>
  (dgA h7 a0 8 0).bind fun r8 =>
  (dgA h7 a0 8 4).bind fun r9 =>
  (dgA h7 a0 8 5).bind fun r10 =>
  (dgA h7 a0 8 1).bind fun r11 =>
  (dgA h7 a0 8 6).bind fun r12 =>
  (c_Sums_powerModulo r8 r9 r10 r11 r12 h7).bind fun h13 =>
  (dgA h13 a0 8 6).bind fun r14 =>
  (dgA h13 a0 8 3).bind fun r15 =>
  (dgA h13 a0 8 6).bind fun r16 =>
  (c_Sums_difference r14 r15 r16 h13).bind fun q17 =>
  (dgA q17.2 a0 8 0).bind fun r18 =>
  (dgA q17.2 a0 8 6).bind fun r19 =>
  (dgA q17.2 a0 8 1).bind fun r20 =>
  (dgA q17.2 a0 8 6).bind fun r21 =>
  (c_Sums_greatestDivisor r18 r19 r20 r21 q17.2).bind fun h22 =>
  (dgA h22 a0 8 6).bind fun r23 =>
  (c_Sums_isOne r23 h22).bind fun q24 =>
  (dzB01 q24.1).bind fun b25 =>
  some (some (.int b25), q24.2) := (dzW_at 47 76 _ _ _ _ _).trans rfl
-- PrimeCertificates$Checker.witnessesHold:()Z
theorem q_Checker_witnessesHold_0 (a0 : Nat) (h : dzH) : dzF 77 0 [(0, .ref a0)] [] (0, 0) h =
  dzF 77 2 [(0, .ref a0), (1, .int (0 : Int32))] [] (0, 0) h := (dzW_at 3 77 _ _ _ _ _).trans rfl
theorem q_Checker_witnessesHold_2 (a0 : Nat) (i1 : Int32) (h : dzH) : dzF 77 2 [(0, .ref a0), (1, .int i1)] [] (0, 0) h =
  (dgA h a0 2 4).bind fun r1 =>
  (dgI h r1 3 3).bind fun v2 =>
  if i1 < v2 then
    (dgA h a0 2 4).bind fun r3 =>
    (dgA h r3 3 2).bind fun r4 =>
    (drI h r4 i1).bind fun v5 =>
    (dgA h a0 2 3).bind fun r6 =>
    (dgA h r6 8 1).bind fun r7 =>
    (c_Checker_isWitness v5 r7 h).bind fun q8 =>
    if q8.1 = 0 then
      (c_Checker_factorPlace a0 i1 q8.2).bind fun q9 =>
      (c_Checker_refuse a0 (8 : Int32) (q9.1 + (2 : Int32)) q9.2).bind fun q10 =>
      (dzB01 q10.1).bind fun b11 =>
      some (some (.int b11), q10.2)
    else
      dzF 77 2 [(0, .ref a0), (1, .int (i1 + (1 : Int32)))] [] (0, 0) q8.2
  else
    dzF 77 57 [(0, .ref a0), (1, .int (0 : Int32))] [] (0, 0) h := (dzW_at 24 77 _ _ _ _ _).trans rfl
theorem q_Checker_witnessesHold_57 (a0 : Nat) (i1 : Int32) (h : dzH) : dzF 77 57 [(0, .ref a0), (1, .int i1)] [] (0, 0) h =
  (dgA h a0 2 4).bind fun r1 =>
  (dgI h r1 3 3).bind fun v2 =>
  if i1 < v2 then
    (dgA h a0 2 4).bind fun r3 =>
    (dgA h r3 3 2).bind fun r4 =>
    (drI h r4 i1).bind fun v5 =>
    (dgA h a0 2 3).bind fun r6 =>
    (c_Trial_closes r6 v5 h).bind fun q7 =>
    if q7.1 = 0 then
      (c_Checker_factorPlace a0 i1 q7.2).bind fun q8 =>
      (c_Checker_refuse a0 (9 : Int32) (q8.1 + (2 : Int32)) q8.2).bind fun q9 =>
      (dzB01 q9.1).bind fun b10 =>
      some (some (.int b10), q9.2)
    else
      (dgA q7.2 a0 2 3).bind fun r8 =>
      (c_Checker_factorNumber a0 i1 q7.2).bind fun q9 =>
      (c_Trial_partsEverywhere r8 v5 q9.1 q9.2).bind fun q10 =>
      if q10.1 = 0 then
        (c_Checker_factorPlace a0 i1 q10.2).bind fun q11 =>
        (c_Checker_refuse a0 (10 : Int32) q11.1 q11.2).bind fun q12 =>
        (dzB01 q12.1).bind fun b13 =>
        some (some (.int b13), q12.2)
      else
        dzF 77 57 [(0, .ref a0), (1, .int (i1 + (1 : Int32)))] [] (0, 0) q10.2
  else
    some (some (.int (1 : Int32)), h) := (dzW_at 31 77 _ _ _ _ _).trans rfl
-- PrimeCertificates$Lines.keepNext:(I)V
theorem q_Lines_keepNext_0 (a0 : Nat) (i1 : Int32) (h : dzH) : dzF 78 0 [(0, .ref a0), (1, .int i1)] [] (0, 0) h =
  (dgI h a0 4 2).bind fun v1 =>
  if v1 < (200 : Int32) then
    (dgA h a0 4 1).bind fun r2 =>
    (dgI h a0 4 2).bind fun v3 =>
    (dwI h r2 v3 i1).bind fun h4 =>
    (dgI h4 a0 4 2).bind fun v5 =>
    (dpF h4 a0 4 2 (.int (v5 + (1 : Int32)))).bind fun h6 =>
    some (none, h6)
  else
    some (none, h) := (dzW_at 17 78 _ _ _ _ _).trans rfl
-- PrimeCertificates$Checker.findFault:()I
theorem q_Checker_findFault_0 (a0 : Nat) (h : dzH) : dzF 79 0 [(0, .ref a0)] [] (0, 0) h =
  (dpF h a0 2 11 (.int (0 : Int32))).bind fun h1 =>
  (dpF h1 a0 2 12 (.int (-2 : Int32))).bind fun h2 =>
  (dgA h2 a0 2 1).bind fun r3 =>
  (c_Lines_end r3 h2).bind fun q4 =>
  (dpF q4.2 a0 2 6 (.int q4.1)).bind fun h5 =>
  (dgA h5 a0 2 1).bind fun r6 =>
  (dgI h5 r6 4 2).bind fun v7 =>
  dzF 79 30 [(0, .ref a0), (1, .int v7)] [] (0, 0) h5 := (dzW_at 16 79 _ _ _ _ _).trans rfl
set_option maxRecDepth 100000 in
theorem q_Checker_findFault_30 (a0 : Nat) (i1 : Int32) (h : dzH) : dzF 79 30 [(0, .ref a0), (1, .int i1)] [] (0, 0) h =
  if i1 < (200 : Int32) then
    (dgI h a0 2 11).bind fun v1 =>
    if v1 = 0 then
      (dgI h a0 2 6).bind fun v2 =>
      (dgA h a0 2 0).bind fun r3 =>
      (dgI h r3 7 1).bind fun v4 =>
      if v2 < v4 then
        (c_Checker_readLine a0 i1 h).bind fun q5 =>
        if q5.1 = 0 then
          dzF 79 130 [(0, .ref a0), (1, .int i1), (2, .int q5.1)] [] (0, 0) q5.2
        else
          (dgI q5.2 a0 2 8).bind fun v6 =>
          if v6 = (1 : Int32) then
            dzF 79 130 [(0, .ref a0), (1, .int i1), (2, .int q5.1)] [] (0, 0) q5.2
          else
            (dgA q5.2 a0 2 3).bind fun r7 =>
            (dgA q5.2 a0 2 1).bind fun r8 =>
            (dgA q5.2 r8 4 0).bind fun r9 =>
            (drA q5.2 r9 i1).bind fun r10 =>
            (c_Trial_begin r7 r10 q5.2).bind fun h11 =>
            (c_Checker_productHolds a0 h11).bind fun q12 =>
            if q12.1 = 0 then
              dzF 79 128 [(0, .ref a0), (1, .int i1), (2, .int q5.1)] [] (0, 0) q12.2
            else
              (dgI q12.2 a0 2 8).bind fun v13 =>
              if v13 = (2 : Int32) then
                (c_Checker_rootHolds a0 q12.2).bind fun q14 =>
                if q14.1 = 0 then
                  dzF 79 128 [(0, .ref a0), (1, .int i1), (2, .int q5.1)] [] (0, 0) q14.2
                else
                  dzF 79 124 [(0, .ref a0), (1, .int i1), (2, .int q5.1)] [] (0, 0) q14.2
              else
                (c_Checker_witnessesHold a0 q12.2).bind fun q14 =>
                if q14.1 = 0 then
                  dzF 79 128 [(0, .ref a0), (1, .int i1), (2, .int q5.1)] [] (0, 0) q14.2
                else
                  dzF 79 124 [(0, .ref a0), (1, .int i1), (2, .int q5.1)] [] (0, 0) q14.2
      else
        dzF 79 151 [(0, .ref a0), (1, .int i1)] [] (0, 0) h
    else
      dzF 79 151 [(0, .ref a0), (1, .int i1)] [] (0, 0) h
  else
    dzF 79 151 [(0, .ref a0), (1, .int i1)] [] (0, 0) h := (dzW_at 42 79 _ _ _ _ _).trans rfl
theorem q_Checker_findFault_124 (a0 : Nat) (i1 : Int32) (i2 : Int32) (h : dzH) : dzF 79 124 [(0, .ref a0), (1, .int i1), (2, .int i2)] [] (0, 0) h =
  dzF 79 129 [(0, .ref a0), (1, .int i1), (2, .int i2)] [.int (1 : Int32)] (0, 0) h := (dzW_at 3 79 _ _ _ _ _).trans rfl
theorem q_Checker_findFault_128 (a0 : Nat) (i1 : Int32) (i2 : Int32) (h : dzH) : dzF 79 128 [(0, .ref a0), (1, .int i1), (2, .int i2)] [] (0, 0) h =
  dzF 79 129 [(0, .ref a0), (1, .int i1), (2, .int i2)] [.int (0 : Int32)] (0, 0) h := (dzW_at 2 79 _ _ _ _ _).trans rfl
theorem q_Checker_findFault_129 (a0 : Nat) (i1 : Int32) (i2 : Int32) (si0 : Int32) (h : dzH) : dzF 79 129 [(0, .ref a0), (1, .int i1), (2, .int i2)] [.int si0] (0, 0) h =
  dzF 79 130 [(0, .ref a0), (1, .int i1), (2, .int si0)] [] (0, 0) h := (dzW_at 2 79 _ _ _ _ _).trans rfl
theorem q_Checker_findFault_130 (a0 : Nat) (i1 : Int32) (i2 : Int32) (h : dzH) : dzF 79 130 [(0, .ref a0), (1, .int i1), (2, .int i2)] [] (0, 0) h =
  if i2 = 0 then
    dzF 79 145 [(0, .ref a0), (1, .int i1), (2, .int i2)] [] (0, 0) h
  else
    (dgA h a0 2 1).bind fun r1 =>
    (dgI h a0 2 6).bind fun v2 =>
    (c_Lines_keepNext r1 v2 h).bind fun h3 =>
    dzF 79 145 [(0, .ref a0), (1, .int i1), (2, .int i2)] [] (0, 0) h3 := (dzW_at 8 79 _ _ _ _ _).trans rfl
theorem q_Checker_findFault_145 (a0 : Nat) (i1 : Int32) (i2 : Int32) (h : dzH) : dzF 79 145 [(0, .ref a0), (1, .int i1), (2, .int i2)] [] (0, 0) h =
  dzF 79 30 [(0, .ref a0), (1, .int (i1 + (1 : Int32)))] [] (0, 0) h := (dzW_at 3 79 _ _ _ _ _).trans rfl
theorem q_Checker_findFault_151 (a0 : Nat) (i1 : Int32) (h : dzH) : dzF 79 151 [(0, .ref a0), (1, .int i1)] [] (0, 0) h =
  (dgI h a0 2 11).bind fun v1 =>
  if v1 = 0 then
    (dgI h a0 2 6).bind fun v2 =>
    (dgA h a0 2 0).bind fun r3 =>
    (dgI h r3 7 1).bind fun v4 =>
    if v2 < v4 then
      (dgI h a0 2 6).bind fun v5 =>
      (c_Checker_refuse a0 (2 : Int32) v5 h).bind fun q6 =>
      dzF 79 182 [(0, .ref a0), (1, .int i1)] [] (0, 0) q6.2
    else
      dzF 79 182 [(0, .ref a0), (1, .int i1)] [] (0, 0) h
  else
    dzF 79 182 [(0, .ref a0), (1, .int i1)] [] (0, 0) h := (dzW_at 16 79 _ _ _ _ _).trans rfl
theorem q_Checker_findFault_182 (a0 : Nat) (i1 : Int32) (h : dzH) : dzF 79 182 [(0, .ref a0), (1, .int i1)] [] (0, 0) h =
  (dgA h a0 2 1).bind fun r1 =>
  (dgI h a0 2 11).bind fun v2 =>
  if v2 = 0 then
    (dgA h a0 2 1).bind fun r3 =>
    (dgI h r3 4 2).bind fun v4 =>
    dzF 79 204 [(0, .ref a0), (1, .int i1)] [.int v4, .ref r1] (0, 0) h
  else
    dzF 79 204 [(0, .ref a0), (1, .int i1)] [.int (0 : Int32), .ref r1] (0, 0) h := (dzW_at 10 79 _ _ _ _ _).trans rfl
theorem q_Checker_findFault_204 (a0 : Nat) (i1 : Int32) (sa0 : Nat) (si1 : Int32) (h : dzH) : dzF 79 204 [(0, .ref a0), (1, .int i1)] [.int si1, .ref sa0] (0, 0) h =
  (dpF h sa0 4 3 (.int si1)).bind fun h1 =>
  (dgI h1 a0 2 11).bind fun v2 =>
  some (some (.int v2), h1) := (dzW_at 4 79 _ _ _ _ _).trans rfl
-- PrimeCertificates.check:()I
theorem q_P_check_0 (a0 : Nat) (h : dzH) : dzF 80 0 [(0, .ref a0)] [] (0, 0) h =
  (dgA h a0 0 6).bind fun r1 =>
  (c_Checker_findFault r1 h).bind fun q2 =>
  if q2.1 = 0 then
    (dgA q2.2 a0 0 5).bind fun r3 =>
    (dgI q2.2 r3 4 2).bind fun v4 =>
    some (some (.int v4), q2.2)
  else
    some (some (.int ((-100 : Int32) - q2.1)), q2.2) := (dzW_at 11 80 _ _ _ _ _).trans rfl
-- PrimeCertificates.place:()I
theorem q_P_place_0 (a0 : Nat) (h : dzH) : dzF 81 0 [(0, .ref a0)] [] (0, 0) h =
  (dgA h a0 0 6).bind fun r1 =>
  (dgI h r1 2 12).bind fun v2 =>
  some (some (.int v2), h) := (dzW_at 4 81 _ _ _ _ _).trans rfl
-- PrimeCertificates.tell:(II)Z
theorem q_P_tell_0 (a0 : Nat) (i1 : Int32) (i2 : Int32) (h : dzH) : dzF 82 0 [(0, .ref a0), (1, .int i1), (2, .int i2)] [] (0, 0) h =
  if i1 < 0 then
    some (some (.int (0 : Int32)), h)
  else
    (dgA h a0 0 5).bind fun r1 =>
    (dgI h r1 4 3).bind fun v2 =>
    if i1 < v2 then
      (c_P_isRegister i2 h).bind fun q3 =>
      if q3.1 = 0 then
        some (some (.int (0 : Int32)), q3.2)
      else
        (dgA q3.2 a0 0 5).bind fun r4 =>
        (dgA q3.2 r4 4 0).bind fun r5 =>
        (drA q3.2 r5 i1).bind fun r6 =>
        (dgA q3.2 a0 0 0).bind fun r7 =>
        (drA q3.2 r7 i2).bind fun r8 =>
        (c_Sums_copy r6 r8 q3.2).bind fun h9 =>
        some (some (.int (1 : Int32)), h9)
    else
      some (some (.int (0 : Int32)), h) := (dzW_at 22 82 _ _ _ _ _).trans rfl
-- PrimeCertificates$Lines.lineOf:([I)I
theorem q_Lines_lineOf_0 (a0 : Nat) (a1 : Nat) (h : dzH) : dzF 83 0 [(0, .ref a0), (1, .ref a1)] [] (0, 0) h =
  dzF 83 2 [(0, .ref a0), (1, .ref a1), (2, .int (0 : Int32))] [] (0, 0) h := (dzW_at 3 83 _ _ _ _ _).trans rfl
theorem q_Lines_lineOf_2 (a0 : Nat) (a1 : Nat) (i2 : Int32) (h : dzH) : dzF 83 2 [(0, .ref a0), (1, .ref a1), (2, .int i2)] [] (0, 0) h =
  (dgI h a0 4 2).bind fun v1 =>
  if i2 < v1 then
    (dgA h a0 4 0).bind fun r2 =>
    (drA h r2 i2).bind fun r3 =>
    (c_Sums_order r3 a1 h).bind fun q4 =>
    if q4.1 = 0 then
      some (some (.int i2), q4.2)
    else
      dzF 83 2 [(0, .ref a0), (1, .ref a1), (2, .int (i2 + (1 : Int32)))] [] (0, 0) q4.2
  else
    some (some (.int (-2 : Int32)), h) := (dzW_at 14 83 _ _ _ _ _).trans rfl
-- PrimeCertificates$Maker.planSmallLine:([I)Z
theorem q_Maker_planSmallLine_0 (a0 : Nat) (a1 : Nat) (h : dzH) : dzF 84 0 [(0, .ref a0), (1, .ref a1)] [] (0, 0) h =
  (dgA h a0 5 1).bind fun r1 =>
  (dgI h r1 4 2).bind fun v2 =>
  (dgI h a0 5 9).bind fun v3 =>
  if (v2 + v3) < (200 : Int32) then
    (dgA h a0 5 1).bind fun r4 =>
    (dgA h r4 4 0).bind fun r5 =>
    (dgA h a0 5 1).bind fun r6 =>
    (dgI h r6 4 2).bind fun v7 =>
    (dgI h a0 5 9).bind fun v8 =>
    (drA h r5 (v7 + v8)).bind fun r9 =>
    (c_Sums_copy a1 r9 h).bind fun h10 =>
    (dgI h10 a0 5 9).bind fun v11 =>
    (dpF h10 a0 5 9 (.int (v11 + (1 : Int32)))).bind fun h12 =>
    some (some (.int (1 : Int32)), h12)
  else
    some (some (.int (0 : Int32)), h) := (dzW_at 28 84 _ _ _ _ _).trans rfl
-- PrimeCertificates$Maker.hasRoom:(I)Z
theorem q_Maker_hasRoom_0 (a0 : Nat) (i1 : Int32) (h : dzH) : dzF 85 0 [(0, .ref a0), (1, .int i1)] [] (0, 0) h =
  if i1 = 0 then
    dzF 85 9 [(0, .ref a0), (1, .int i1)] [.int (0 : Int32)] (0, 0) h
  else
    dzF 85 9 [(0, .ref a0), (1, .int i1)] [.int (1 : Int32)] (0, 0) h := (dzW_at 5 85 _ _ _ _ _).trans rfl
theorem q_Maker_hasRoom_9 (a0 : Nat) (i1 : Int32) (si0 : Int32) (h : dzH) : dzF 85 9 [(0, .ref a0), (1, .int i1)] [.int si0] (0, 0) h =
  (dgA h a0 5 1).bind fun r1 =>
  (dgI h r1 4 2).bind fun v2 =>
  (dgI h a0 5 9).bind fun v3 =>
  if ((v2 + v3) + si0) ≤ (200 : Int32) then
    (dgI h a0 5 9).bind fun v4 =>
    (dgA h a0 5 0).bind fun r5 =>
    (c_Tape_room r5 h).bind fun q6 =>
    if (((2 : Int32) * v4) + i1) ≤ q6.1 then
      some (some (.int (1 : Int32)), q6.2)
    else
      some (some (.int (0 : Int32)), q6.2)
  else
    some (some (.int (0 : Int32)), h) := (dzW_at 24 85 _ _ _ _ _).trans rfl
-- PrimeCertificates$Maker.writeSmallLines:()I
theorem q_Maker_writeSmallLines_0 (a0 : Nat) (h : dzH) : dzF 86 0 [(0, .ref a0)] [] (0, 0) h =
  dzF 86 2 [(0, .ref a0), (1, .int (0 : Int32))] [] (0, 0) h := (dzW_at 3 86 _ _ _ _ _).trans rfl
theorem q_Maker_writeSmallLines_2 (a0 : Nat) (i1 : Int32) (h : dzH) : dzF 86 2 [(0, .ref a0), (1, .int i1)] [] (0, 0) h =
  (dgI h a0 5 9).bind fun v1 =>
  if i1 < v1 then
    (dgA h a0 5 0).bind fun r2 =>
    (c_Tape_append r2 (1 : Int32) h).bind fun h3 =>
    (dgA h3 a0 5 0).bind fun r4 =>
    (dgA h3 a0 5 1).bind fun r5 =>
    (dgA h3 r5 4 0).bind fun r6 =>
    (dgA h3 a0 5 1).bind fun r7 =>
    (dgI h3 r7 4 2).bind fun v8 =>
    (drA h3 r6 v8).bind fun r9 =>
    (drI h3 r9 (0 : Int32)).bind fun v10 =>
    (c_Tape_append r4 v10 h3).bind fun h11 =>
    (dgA h11 a0 5 1).bind fun r12 =>
    (dgA h11 a0 5 0).bind fun r13 =>
    (dgI h11 r13 7 1).bind fun v14 =>
    (c_Lines_keepNext r12 v14 h11).bind fun h15 =>
    dzF 86 2 [(0, .ref a0), (1, .int (i1 + (1 : Int32)))] [] (0, 0) h15
  else
    (dgA h a0 5 1).bind fun r2 =>
    (dgI h r2 4 2).bind fun v3 =>
    some (some (.int (v3 - (1 : Int32))), h) := (dzW_at 29 86 _ _ _ _ _).trans rfl
-- PrimeCertificates$Maker.divideOut:([I)I
theorem q_Maker_divideOut_0 (a0 : Nat) (a1 : Nat) (h : dzH) : dzF 87 0 [(0, .ref a0), (1, .ref a1)] [] (0, 0) h =
  dzF 87 4 [(0, .ref a0), (1, .ref a1), (2, .int (0 : Int32)), (3, .int (1 : Int32))] [] (0, 0) h := (dzW_at 5 87 _ _ _ _ _).trans rfl
theorem q_Maker_divideOut_4 (a0 : Nat) (a1 : Nat) (i2 : Int32) (i3 : Int32) (h : dzH) : dzF 87 4 [(0, .ref a0), (1, .ref a1), (2, .int i2), (3, .int i3)] [] (0, 0) h =
  if i3 = 0 then
    some (some (.int i2), h)
  else
    if i2 < (255 : Int32) then
      (dgA h a0 5 2).bind fun r1 =>
      (dgA h a0 5 5).bind fun r2 =>
      (dgA h a0 5 6).bind fun r3 =>
      (dgA h a0 5 7).bind fun r4 =>
      (c_Sums_quotient r1 r2 a1 r3 r4 h).bind fun h5 =>
      (dgA h5 a0 5 7).bind fun r6 =>
      (c_Sums_isZero r6 h5).bind fun q7 =>
      if q7.1 = 0 then
        dzF 87 4 [(0, .ref a0), (1, .ref a1), (2, .int i2), (3, .int q7.1)] [] (0, 0) q7.2
      else
        (dgA q7.2 a0 5 6).bind fun r8 =>
        (dgA q7.2 a0 5 5).bind fun r9 =>
        (c_Sums_copy r8 r9 q7.2).bind fun h10 =>
        dzF 87 4 [(0, .ref a0), (1, .ref a1), (2, .int (i2 + (1 : Int32))), (3, .int q7.1)] [] (0, 0) h10
    else
      some (some (.int i2), h) := (dzW_at 29 87 _ _ _ _ _).trans rfl
-- PrimeCertificates$Maker.factorNumber:(I)[I
theorem q_Maker_factorNumber_0 (a0 : Nat) (i1 : Int32) (h : dzH) : dzF 88 0 [(0, .ref a0), (1, .int i1)] [] (0, 0) h =
  (dgA h a0 5 1).bind fun r1 =>
  (dgA h r1 4 0).bind fun r2 =>
  (dgA h a0 5 4).bind fun r3 =>
  (dgA h r3 3 0).bind fun r4 =>
  (drI h r4 i1).bind fun v5 =>
  (drA h r2 v5).bind fun r6 =>
  some (some (.ref r6), h) := (dzW_at 10 88 _ _ _ _ _).trans rfl
-- PrimeCertificates$Maker.insertFactor:(II)Z
theorem q_Maker_insertFactor_0 (a0 : Nat) (i1 : Int32) (i2 : Int32) (h : dzH) : dzF 89 0 [(0, .ref a0), (1, .int i1), (2, .int i2)] [] (0, 0) h =
  (dgA h a0 5 4).bind fun r1 =>
  (dgI h r1 3 3).bind fun v2 =>
  if v2 < (40 : Int32) then
    (dgA h a0 5 4).bind fun r3 =>
    (dgI h r3 3 3).bind fun v4 =>
    dzF 89 22 [(0, .ref a0), (1, .int i1), (2, .int i2), (3, .int v4)] [] (0, 0) h
  else
    some (some (.int (0 : Int32)), h) := (dzW_at 10 89 _ _ _ _ _).trans rfl
set_option maxRecDepth 100000 in
theorem q_Maker_insertFactor_22 (a0 : Nat) (i1 : Int32) (i2 : Int32) (i3 : Int32) (h : dzH) : dzF 89 22 [(0, .ref a0), (1, .int i1), (2, .int i2), (3, .int i3)] [] (0, 0) h =
  if i3 ≤ 0 then
    dzF 89 94 [(0, .ref a0), (1, .int i1), (2, .int i2), (3, .int i3)] [] (0, 0) h
  else
    (c_Maker_factorNumber a0 (i3 - (1 : Int32)) h).bind fun q1 =>
    (dgA q1.2 a0 5 1).bind fun r2 =>
    (dgA q1.2 r2 4 0).bind fun r3 =>
    (drA q1.2 r3 i1).bind fun r4 =>
    (c_Sums_order q1.1 r4 q1.2).bind fun q5 =>
    if q5.1 ≤ 0 then
      dzF 89 94 [(0, .ref a0), (1, .int i1), (2, .int i2), (3, .int i3)] [] (0, 0) q5.2
    else
      (dgA q5.2 a0 5 4).bind fun r6 =>
      (dgA q5.2 r6 3 0).bind fun r7 =>
      (dgA q5.2 a0 5 4).bind fun r8 =>
      (dgA q5.2 r8 3 0).bind fun r9 =>
      (drI q5.2 r9 (i3 - (1 : Int32))).bind fun v10 =>
      (dwI q5.2 r7 i3 v10).bind fun h11 =>
      (dgA h11 a0 5 4).bind fun r12 =>
      (dgA h11 r12 3 1).bind fun r13 =>
      (dgA h11 a0 5 4).bind fun r14 =>
      (dgA h11 r14 3 1).bind fun r15 =>
      (drI h11 r15 (i3 - (1 : Int32))).bind fun v16 =>
      (dwI h11 r13 i3 v16).bind fun h17 =>
      dzF 89 22 [(0, .ref a0), (1, .int i1), (2, .int i2), (3, .int (i3 + (-1 : Int32)))] [] (0, 0) h17 := (dzW_at 41 89 _ _ _ _ _).trans rfl
theorem q_Maker_insertFactor_94 (a0 : Nat) (i1 : Int32) (i2 : Int32) (i3 : Int32) (h : dzH) : dzF 89 94 [(0, .ref a0), (1, .int i1), (2, .int i2), (3, .int i3)] [] (0, 0) h =
  (dgA h a0 5 4).bind fun r1 =>
  (dgA h r1 3 0).bind fun r2 =>
  (dwI h r2 i3 i1).bind fun h3 =>
  (dgA h3 a0 5 4).bind fun r4 =>
  (dgA h3 r4 3 1).bind fun r5 =>
  (dwI h3 r5 i3 i2).bind fun h6 =>
  (dgA h6 a0 5 4).bind fun r7 =>
  (dgI h6 r7 3 3).bind fun v8 =>
  (dpF h6 r7 3 3 (.int (v8 + (1 : Int32)))).bind fun h9 =>
  some (some (.int (1 : Int32)), h9) := (dzW_at 21 89 _ _ _ _ _).trans rfl
-- PrimeCertificates$Maker.insertPrime:(I)Z
theorem q_Maker_insertPrime_0 (a0 : Nat) (i1 : Int32) (h : dzH) : dzF 90 0 [(0, .ref a0), (1, .int i1)] [] (0, 0) h =
  (dgA h a0 5 1).bind fun r1 =>
  (dgA h a0 5 8).bind fun r2 =>
  (c_Lines_lineOf r1 r2 h).bind fun q3 =>
  if q3.1 = (-2 : Int32) then
    (dgA q3.2 a0 5 8).bind fun r4 =>
    (c_Maker_planSmallLine a0 r4 q3.2).bind fun q5 =>
    if q5.1 = 0 then
      some (some (.int (0 : Int32)), q5.2)
    else
      (dgA q5.2 a0 5 1).bind fun r6 =>
      (dgI q5.2 r6 4 2).bind fun v7 =>
      (dgI q5.2 a0 5 9).bind fun v8 =>
      (c_Maker_insertFactor a0 ((v7 + v8) - (1 : Int32)) i1 q5.2).bind fun q9 =>
      if q9.1 = 0 then
        some (some (.int (0 : Int32)), q9.2)
      else
        some (some (.int (1 : Int32)), q9.2)
  else
    (c_Maker_insertFactor a0 q3.1 i1 q3.2).bind fun q4 =>
    (dzB01 q4.1).bind fun b5 =>
    some (some (.int b5), q4.2) := (dzW_at 29 90 _ _ _ _ _).trans rfl
-- PrimeCertificates$Maker.findFactors:()Z
theorem q_Maker_findFactors_0 (a0 : Nat) (h : dzH) : dzF 91 0 [(0, .ref a0)] [] (0, 0) h =
  (dgA h a0 5 4).bind fun r1 =>
  (dpF h r1 3 3 (.int (0 : Int32))).bind fun h2 =>
  (dgA h2 a0 5 3).bind fun r3 =>
  (dgA h2 r3 8 2).bind fun r4 =>
  (dgA h2 a0 5 5).bind fun r5 =>
  (c_Sums_copy r4 r5 h2).bind fun h6 =>
  dzF 91 24 [(0, .ref a0), (1, .int (2 : Int32))] [] (0, 0) h6 := (dzW_at 13 91 _ _ _ _ _).trans rfl
theorem q_Maker_findFactors_24 (a0 : Nat) (i1 : Int32) (h : dzH) : dzF 91 24 [(0, .ref a0), (1, .int i1)] [] (0, 0) h =
  if i1 ≤ (1009 : Int32) then
    (c_P_isSmallPrime i1 h).bind fun q1 =>
    if q1.1 = 0 then
      dzF 91 69 [(0, .ref a0), (1, .int i1)] [] (0, 0) q1.2
    else
      (dgA q1.2 a0 5 8).bind fun r2 =>
      (c_Sums_setSmall r2 i1 q1.2).bind fun h3 =>
      (dgA h3 a0 5 8).bind fun r4 =>
      (c_Maker_divideOut a0 r4 h3).bind fun q5 =>
      if q5.1 ≤ 0 then
        dzF 91 69 [(0, .ref a0), (1, .int i1)] [] (0, 0) q5.2
      else
        (c_Maker_insertPrime a0 q5.1 q5.2).bind fun q6 =>
        if q6.1 = 0 then
          some (some (.int (0 : Int32)), q6.2)
        else
          dzF 91 69 [(0, .ref a0), (1, .int i1)] [] (0, 0) q6.2
  else
    dzF 91 77 [(0, .ref a0), (1, .int (0 : Int32))] [] (0, 0) h := (dzW_at 23 91 _ _ _ _ _).trans rfl
theorem q_Maker_findFactors_69 (a0 : Nat) (i1 : Int32) (h : dzH) : dzF 91 69 [(0, .ref a0), (1, .int i1)] [] (0, 0) h =
  dzF 91 24 [(0, .ref a0), (1, .int (i1 + (1 : Int32)))] [] (0, 0) h := (dzW_at 3 91 _ _ _ _ _).trans rfl
theorem q_Maker_findFactors_77 (a0 : Nat) (i1 : Int32) (h : dzH) : dzF 91 77 [(0, .ref a0), (1, .int i1)] [] (0, 0) h =
  (dgA h a0 5 1).bind fun r1 =>
  (dgI h r1 4 2).bind fun v2 =>
  if i1 < v2 then
    (dgA h a0 5 1).bind fun r3 =>
    (dgA h r3 4 0).bind fun r4 =>
    (drA h r4 i1).bind fun r5 =>
    (c_Sums_isAtMost r5 (1009 : Int32) h).bind fun q6 =>
    if q6.1 = 0 then
      (c_Maker_divideOut a0 r5 q6.2).bind fun q7 =>
      dzF 91 117 [(0, .ref a0), (1, .int i1), (2, .ref r5)] [.int q7.1] (0, 0) q7.2
    else
      dzF 91 117 [(0, .ref a0), (1, .int i1), (2, .ref r5)] [.int (0 : Int32)] (0, 0) q6.2
  else
    some (some (.int (1 : Int32)), h) := (dzW_at 19 91 _ _ _ _ _).trans rfl
theorem q_Maker_findFactors_117 (a0 : Nat) (i1 : Int32) (a2 : Nat) (si0 : Int32) (h : dzH) : dzF 91 117 [(0, .ref a0), (1, .int i1), (2, .ref a2)] [.int si0] (0, 0) h =
  if si0 ≤ 0 then
    dzF 91 133 [(0, .ref a0), (1, .int i1), (2, .ref a2), (3, .int si0)] [] (0, 0) h
  else
    (c_Maker_insertFactor a0 i1 si0 h).bind fun q1 =>
    if q1.1 = 0 then
      some (some (.int (0 : Int32)), q1.2)
    else
      dzF 91 133 [(0, .ref a0), (1, .int i1), (2, .ref a2), (3, .int si0)] [] (0, 0) q1.2 := (dzW_at 10 91 _ _ _ _ _).trans rfl
theorem q_Maker_findFactors_133 (a0 : Nat) (i1 : Int32) (a2 : Nat) (i3 : Int32) (h : dzH) : dzF 91 133 [(0, .ref a0), (1, .int i1), (2, .ref a2), (3, .int i3)] [] (0, 0) h =
  dzF 91 77 [(0, .ref a0), (1, .int (i1 + (1 : Int32)))] [] (0, 0) h := (dzW_at 3 91 _ _ _ _ _).trans rfl
-- PrimeCertificates$Maker.lastLineInts:(Z)I
theorem q_Maker_lastLineInts_0 (a0 : Nat) (i1 : Int32) (h : dzH) : dzF 92 0 [(0, .ref a0), (1, .int i1)] [] (0, 0) h =
  (dgA h a0 5 3).bind fun r1 =>
  (dgA h r1 8 1).bind fun r2 =>
  (c_Sums_usedWords r2 h).bind fun q3 =>
  if i1 = 0 then
    (dgA q3.2 a0 5 4).bind fun r4 =>
    (dgI q3.2 r4 3 3).bind fun v5 =>
    some (some (.int (((3 : Int32) + q3.1) + ((3 : Int32) * v5))), q3.2)
  else
    (dgA q3.2 a0 5 4).bind fun r4 =>
    (dgI q3.2 r4 3 3).bind fun v5 =>
    some (some (.int (((4 : Int32) + q3.1) + ((2 : Int32) * v5))), q3.2) := (dzW_at 18 92 _ _ _ _ _).trans rfl
-- PrimeCertificates$Maker.factorsSuffice:()Z
theorem q_Maker_factorsSuffice_0 (a0 : Nat) (h : dzH) : dzF 93 0 [(0, .ref a0)] [] (0, 0) h =
  (dgA h a0 5 2).bind fun r1 =>
  (dgA h a0 5 3).bind fun r2 =>
  (dgA h r2 8 2).bind fun r3 =>
  (dgA h a0 5 5).bind fun r4 =>
  (dgA h a0 5 6).bind fun r5 =>
  (dgA h a0 5 7).bind fun r6 =>
  (c_Sums_quotient r1 r3 r4 r5 r6 h).bind fun h7 =>
  (dgA h7 a0 5 2).bind fun r8 =>
  (dgA h7 a0 5 6).bind fun r9 =>
  (dgA h7 a0 5 3).bind fun r10 =>
  (dgA h7 r10 8 1).bind fun r11 =>
  (c_Sums_squareIsAbove r8 r9 r11 h7).bind fun q12 =>
  (dzB01 q12.1).bind fun b13 =>
  some (some (.int b13), q12.2) := (dzW_at 21 93 _ _ _ _ _).trans rfl
-- PrimeCertificates$Maker.findRoot:()Z
theorem q_Maker_findRoot_0 (a0 : Nat) (h : dzH) : dzF 94 0 [(0, .ref a0)] [] (0, 0) h =
  dzF 94 2 [(0, .ref a0), (1, .int (2 : Int32))] [] (0, 0) h := (dzW_at 3 94 _ _ _ _ _).trans rfl
theorem q_Maker_findRoot_2 (a0 : Nat) (i1 : Int32) (h : dzH) : dzF 94 2 [(0, .ref a0), (1, .int i1)] [] (0, 0) h =
  if i1 ≤ (200 : Int32) then
    dzF 94 11 [(0, .ref a0), (1, .int i1), (2, .int (0 : Int32))] [] (0, 0) h
  else
    some (some (.int (0 : Int32)), h) := (dzW_at 6 94 _ _ _ _ _).trans rfl
theorem q_Maker_findRoot_11 (a0 : Nat) (i1 : Int32) (i2 : Int32) (h : dzH) : dzF 94 11 [(0, .ref a0), (1, .int i1), (2, .int i2)] [] (0, 0) h =
  (dgA h a0 5 4).bind fun r1 =>
  (dgI h r1 3 3).bind fun v2 =>
  if i2 < v2 then
    (dgA h a0 5 3).bind fun r3 =>
    (c_Maker_factorNumber a0 i2 h).bind fun q4 =>
    (c_Trial_parts r3 i1 q4.1 q4.2).bind fun q5 =>
    if q5.1 = 0 then
      dzF 94 44 [(0, .ref a0), (1, .int i1), (2, .int i2)] [] (0, 0) q5.2
    else
      dzF 94 11 [(0, .ref a0), (1, .int i1), (2, .int (i2 + (1 : Int32)))] [] (0, 0) q5.2
  else
    dzF 94 44 [(0, .ref a0), (1, .int i1), (2, .int i2)] [] (0, 0) h := (dzW_at 16 94 _ _ _ _ _).trans rfl
theorem q_Maker_findRoot_44 (a0 : Nat) (i1 : Int32) (i2 : Int32) (h : dzH) : dzF 94 44 [(0, .ref a0), (1, .int i1), (2, .int i2)] [] (0, 0) h =
  (dgA h a0 5 4).bind fun r1 =>
  (dgI h r1 3 3).bind fun v2 =>
  if i2 = v2 then
    (dpF h a0 5 10 (.int i1)).bind fun h3 =>
    (dgA h3 a0 5 3).bind fun r4 =>
    (c_Trial_closes r4 i1 h3).bind fun q5 =>
    (dzB01 q5.1).bind fun b6 =>
    some (some (.int b6), q5.2)
  else
    dzF 94 2 [(0, .ref a0), (1, .int (i1 + (1 : Int32)))] [] (0, 0) h := (dzW_at 13 94 _ _ _ _ _).trans rfl
-- PrimeCertificates$Maker.findWitnesses:()Z
theorem q_Maker_findWitnesses_0 (a0 : Nat) (h : dzH) : dzF 95 0 [(0, .ref a0)] [] (0, 0) h =
  dzF 95 4 [(0, .ref a0), (1, .int (1 : Int32)), (2, .int (0 : Int32))] [] (0, 0) h := (dzW_at 5 95 _ _ _ _ _).trans rfl
theorem q_Maker_findWitnesses_4 (a0 : Nat) (i1 : Int32) (i2 : Int32) (h : dzH) : dzF 95 4 [(0, .ref a0), (1, .int i1), (2, .int i2)] [] (0, 0) h =
  (dgA h a0 5 4).bind fun r1 =>
  (dgI h r1 3 3).bind fun v2 =>
  if i2 < v2 then
    (dgA h a0 5 4).bind fun r3 =>
    (dgA h r3 3 2).bind fun r4 =>
    (dwI h r4 i2 (0 : Int32)).bind fun h5 =>
    dzF 95 27 [(0, .ref a0), (1, .int i1), (2, .int i2), (3, .int (2 : Int32))] [] (0, 0) h5
  else
    some (some (.int (1 : Int32)), h) := (dzW_at 14 95 _ _ _ _ _).trans rfl
theorem q_Maker_findWitnesses_27 (a0 : Nat) (i1 : Int32) (i2 : Int32) (i3 : Int32) (h : dzH) : dzF 95 27 [(0, .ref a0), (1, .int i1), (2, .int i2), (3, .int i3)] [] (0, 0) h =
  if i3 ≤ (200 : Int32) then
    (dgA h a0 5 4).bind fun r1 =>
    (dgA h r1 3 2).bind fun r2 =>
    (drI h r2 i2).bind fun v3 =>
    if v3 = 0 then
      if i3 ≤ i1 then
        dzF 95 64 [(0, .ref a0), (1, .int i1), (2, .int i2), (3, .int i3)] [] (0, 0) h
      else
        (dgA h a0 5 3).bind fun r4 =>
        (c_Trial_closes r4 i3 h).bind fun q5 =>
        if q5.1 = 0 then
          some (some (.int (0 : Int32)), q5.2)
        else
          dzF 95 64 [(0, .ref a0), (1, .int i1), (2, .int i2), (3, .int i3)] [] (0, 0) q5.2
    else
      dzF 95 102 [(0, .ref a0), (1, .int i1), (2, .int i2), (3, .int i3)] [] (0, 0) h
  else
    dzF 95 102 [(0, .ref a0), (1, .int i1), (2, .int i2), (3, .int i3)] [] (0, 0) h := (dzW_at 19 95 _ _ _ _ _).trans rfl
theorem q_Maker_findWitnesses_64 (a0 : Nat) (i1 : Int32) (i2 : Int32) (i3 : Int32) (h : dzH) : dzF 95 64 [(0, .ref a0), (1, .int i1), (2, .int i2), (3, .int i3)] [] (0, 0) h =
  (dgA h a0 5 3).bind fun r1 =>
  (c_Maker_factorNumber a0 i2 h).bind fun q2 =>
  (c_Trial_partsEverywhere r1 i3 q2.1 q2.2).bind fun q3 =>
  if q3.1 = 0 then
    dzF 95 96 [(0, .ref a0), (1, .int (k_max i1 i3)), (2, .int i2), (3, .int i3)] [] (0, 0) q3.2
  else
    (dgA q3.2 a0 5 4).bind fun r4 =>
    (dgA q3.2 r4 3 2).bind fun r5 =>
    (dwI q3.2 r5 i2 i3).bind fun h6 =>
    dzF 95 96 [(0, .ref a0), (1, .int (k_max i1 i3)), (2, .int i2), (3, .int i3)] [] (0, 0) h6 := (dzW_at 19 95 _ _ _ _ _).trans rfl
theorem q_Maker_findWitnesses_96 (a0 : Nat) (i1 : Int32) (i2 : Int32) (i3 : Int32) (h : dzH) : dzF 95 96 [(0, .ref a0), (1, .int i1), (2, .int i2), (3, .int i3)] [] (0, 0) h =
  dzF 95 27 [(0, .ref a0), (1, .int i1), (2, .int i2), (3, .int (i3 + (1 : Int32)))] [] (0, 0) h := (dzW_at 3 95 _ _ _ _ _).trans rfl
theorem q_Maker_findWitnesses_102 (a0 : Nat) (i1 : Int32) (i2 : Int32) (i3 : Int32) (h : dzH) : dzF 95 102 [(0, .ref a0), (1, .int i1), (2, .int i2), (3, .int i3)] [] (0, 0) h =
  (dgA h a0 5 4).bind fun r1 =>
  (dgA h r1 3 2).bind fun r2 =>
  (drI h r2 i2).bind fun v3 =>
  if v3 = 0 then
    some (some (.int (0 : Int32)), h)
  else
    dzF 95 4 [(0, .ref a0), (1, .int i1), (2, .int (i2 + (1 : Int32)))] [] (0, 0) h := (dzW_at 9 95 _ _ _ _ _).trans rfl
-- PrimeCertificates$Maker.writeLastLine:(Z)I
theorem q_Maker_writeLastLine_0 (a0 : Nat) (i1 : Int32) (h : dzH) : dzF 96 0 [(0, .ref a0), (1, .int i1)] [] (0, 0) h =
  (dgA h a0 5 3).bind fun r1 =>
  (dgA h r1 8 1).bind fun r2 =>
  (dgA h a0 5 1).bind fun r3 =>
  (dgA h r3 4 0).bind fun r4 =>
  (dgA h a0 5 1).bind fun r5 =>
  (dgI h r5 4 2).bind fun v6 =>
  (drA h r4 v6).bind fun r7 =>
  (c_Sums_copy r2 r7 h).bind fun h8 =>
  (dgA h8 a0 5 3).bind fun r9 =>
  (dgA h8 r9 8 1).bind fun r10 =>
  (c_Sums_usedWords r10 h8).bind fun q11 =>
  (dgA q11.2 a0 5 0).bind fun r12 =>
  if i1 = 0 then
    dzF 96 49 [(0, .ref a0), (1, .int i1), (2, .int q11.1)] [.int (3 : Int32), .ref r12] (0, 0) q11.2
  else
    dzF 96 49 [(0, .ref a0), (1, .int i1), (2, .int q11.1)] [.int (2 : Int32), .ref r12] (0, 0) q11.2 := (dzW_at 23 96 _ _ _ _ _).trans rfl
theorem q_Maker_writeLastLine_49 (a0 : Nat) (i1 : Int32) (i2 : Int32) (sa0 : Nat) (si1 : Int32) (h : dzH) : dzF 96 49 [(0, .ref a0), (1, .int i1), (2, .int i2)] [.int si1, .ref sa0] (0, 0) h =
  (c_Tape_append sa0 si1 h).bind fun h1 =>
  (dgA h1 a0 5 0).bind fun r2 =>
  (c_Tape_append r2 i2 h1).bind fun h3 =>
  dzF 96 62 [(0, .ref a0), (1, .int i1), (2, .int i2), (3, .int (0 : Int32))] [] (0, 0) h3 := (dzW_at 8 96 _ _ _ _ _).trans rfl
theorem q_Maker_writeLastLine_62 (a0 : Nat) (i1 : Int32) (i2 : Int32) (i3 : Int32) (h : dzH) : dzF 96 62 [(0, .ref a0), (1, .int i1), (2, .int i2), (3, .int i3)] [] (0, 0) h =
  if i3 < i2 then
    (dgA h a0 5 0).bind fun r1 =>
    (dgA h a0 5 3).bind fun r2 =>
    (dgA h r2 8 1).bind fun r3 =>
    (drI h r3 i3).bind fun v4 =>
    (c_Tape_append r1 v4 h).bind fun h5 =>
    dzF 96 62 [(0, .ref a0), (1, .int i1), (2, .int i2), (3, .int (i3 + (1 : Int32)))] [] (0, 0) h5
  else
    if i1 = 0 then
      dzF 96 104 [(0, .ref a0), (1, .int i1), (2, .int i2), (3, .int i3)] [] (0, 0) h
    else
      (dgA h a0 5 0).bind fun r1 =>
      (dgI h a0 5 10).bind fun v2 =>
      (c_Tape_append r1 v2 h).bind fun h3 =>
      dzF 96 104 [(0, .ref a0), (1, .int i1), (2, .int i2), (3, .int i3)] [] (0, 0) h3 := (dzW_at 14 96 _ _ _ _ _).trans rfl
theorem q_Maker_writeLastLine_104 (a0 : Nat) (i1 : Int32) (i2 : Int32) (i3 : Int32) (h : dzH) : dzF 96 104 [(0, .ref a0), (1, .int i1), (2, .int i2), (3, .int i3)] [] (0, 0) h =
  (dgA h a0 5 0).bind fun r1 =>
  (dgA h a0 5 4).bind fun r2 =>
  (dgI h r2 3 3).bind fun v3 =>
  (c_Tape_append r1 v3 h).bind fun h4 =>
  dzF 96 120 [(0, .ref a0), (1, .int i1), (2, .int i2), (3, .int (0 : Int32))] [] (0, 0) h4 := (dzW_at 9 96 _ _ _ _ _).trans rfl
theorem q_Maker_writeLastLine_120 (a0 : Nat) (i1 : Int32) (i2 : Int32) (i3 : Int32) (h : dzH) : dzF 96 120 [(0, .ref a0), (1, .int i1), (2, .int i2), (3, .int i3)] [] (0, 0) h =
  (dgA h a0 5 4).bind fun r1 =>
  (dgI h r1 3 3).bind fun v2 =>
  if i3 < v2 then
    (dgA h a0 5 0).bind fun r3 =>
    (dgA h a0 5 4).bind fun r4 =>
    (dgA h r4 3 0).bind fun r5 =>
    (drI h r5 i3).bind fun v6 =>
    (c_Tape_append r3 v6 h).bind fun h7 =>
    (dgA h7 a0 5 0).bind fun r8 =>
    (dgA h7 a0 5 4).bind fun r9 =>
    (dgA h7 r9 3 1).bind fun r10 =>
    (drI h7 r10 i3).bind fun v11 =>
    (c_Tape_append r8 v11 h7).bind fun h12 =>
    if i1 = 0 then
      (dgA h12 a0 5 0).bind fun r13 =>
      (dgA h12 a0 5 4).bind fun r14 =>
      (dgA h12 r14 3 2).bind fun r15 =>
      (drI h12 r15 i3).bind fun v16 =>
      (c_Tape_append r13 v16 h12).bind fun h17 =>
      dzF 96 183 [(0, .ref a0), (1, .int i1), (2, .int i2), (3, .int i3)] [] (0, 0) h17
    else
      dzF 96 183 [(0, .ref a0), (1, .int i1), (2, .int i2), (3, .int i3)] [] (0, 0) h12
  else
    (dgA h a0 5 1).bind fun r3 =>
    (dgA h a0 5 0).bind fun r4 =>
    (dgI h r4 7 1).bind fun v5 =>
    (c_Lines_keepNext r3 v5 h).bind fun h6 =>
    (dgA h6 a0 5 1).bind fun r7 =>
    (dgI h6 r7 4 2).bind fun v8 =>
    some (some (.int (v8 - (1 : Int32))), h6) := (dzW_at 32 96 _ _ _ _ _).trans rfl
theorem q_Maker_writeLastLine_183 (a0 : Nat) (i1 : Int32) (i2 : Int32) (i3 : Int32) (h : dzH) : dzF 96 183 [(0, .ref a0), (1, .int i1), (2, .int i2), (3, .int i3)] [] (0, 0) h =
  dzF 96 120 [(0, .ref a0), (1, .int i1), (2, .int i2), (3, .int (i3 + (1 : Int32)))] [] (0, 0) h := (dzW_at 3 96 _ _ _ _ _).trans rfl
-- PrimeCertificates$Maker.lineFor:([I)I
set_option maxRecDepth 100000 in
theorem q_Maker_lineFor_0 (a0 : Nat) (a1 : Nat) (h : dzH) : dzF 97 0 [(0, .ref a0), (1, .ref a1)] [] (0, 0) h =
  (dgA h a0 5 1).bind fun r1 =>
  (c_Lines_lineOf r1 a1 h).bind fun q2 =>
  if q2.1 = (-2 : Int32) then
    (dpF q2.2 a0 5 9 (.int (0 : Int32))).bind fun h3 =>
    (c_Sums_isAtMost a1 (65535 : Int32) h3).bind fun q4 =>
    if q4.1 = 0 then
      (dgA q4.2 a0 5 3).bind fun r5 =>
      (c_Trial_begin r5 a1 q4.2).bind fun h6 =>
      (c_Maker_findFactors a0 h6).bind fun q7 =>
      if q7.1 = 0 then
        some (some (.int (-2 : Int32)), q7.2)
      else
        (dgA q7.2 a0 5 5).bind fun r8 =>
        (c_Sums_isOne r8 q7.2).bind fun q9 =>
        (c_Maker_lastLineInts a0 q9.1 q9.2).bind fun q10 =>
        (c_Maker_hasRoom a0 q10.1 q10.2).bind fun q11 =>
        if q11.1 = 0 then
          some (some (.int (-2 : Int32)), q11.2)
        else
          if q9.1 = 0 then
            (c_Maker_factorsSuffice a0 q11.2).bind fun q12 =>
            if q12.1 = 0 then
              some (some (.int (-2 : Int32)), q12.2)
            else
              dzF 97 118 [(0, .ref a0), (1, .ref a1), (2, .int q2.1), (3, .int q9.1)] [] (0, 0) q12.2
          else
            dzF 97 118 [(0, .ref a0), (1, .ref a1), (2, .int q2.1), (3, .int q9.1)] [] (0, 0) q11.2
    else
      (drI q4.2 a1 (0 : Int32)).bind fun v5 =>
      (c_P_isSmallPrime v5 q4.2).bind fun q6 =>
      if q6.1 = 0 then
        some (some (.int (-2 : Int32)), q6.2)
      else
        (c_Maker_planSmallLine a0 a1 q6.2).bind fun q7 =>
        if q7.1 = 0 then
          some (some (.int (-2 : Int32)), q7.2)
        else
          (c_Maker_hasRoom a0 (0 : Int32) q7.2).bind fun q8 =>
          if q8.1 = 0 then
            some (some (.int (-2 : Int32)), q8.2)
          else
            (c_Maker_writeSmallLines a0 q8.2).bind fun q9 =>
            some (some (.int q9.1), q9.2)
  else
    some (some (.int q2.1), q2.2) := (dzW_at 39 97 _ _ _ _ _).trans rfl
theorem q_Maker_lineFor_118 (a0 : Nat) (a1 : Nat) (i2 : Int32) (i3 : Int32) (h : dzH) : dzF 97 118 [(0, .ref a0), (1, .ref a1), (2, .int i2), (3, .int i3)] [] (0, 0) h =
  if i3 = 0 then
    (c_Maker_findWitnesses a0 h).bind fun q1 =>
    if q1.1 = 0 then
      some (some (.int (-2 : Int32)), q1.2)
    else
      dzF 97 142 [(0, .ref a0), (1, .ref a1), (2, .int i2), (3, .int i3)] [] (0, 0) q1.2
  else
    (c_Maker_findRoot a0 h).bind fun q1 =>
    if q1.1 = 0 then
      some (some (.int (-2 : Int32)), q1.2)
    else
      dzF 97 142 [(0, .ref a0), (1, .ref a1), (2, .int i2), (3, .int i3)] [] (0, 0) q1.2 := (dzW_at 7 97 _ _ _ _ _).trans rfl
theorem q_Maker_lineFor_142 (a0 : Nat) (a1 : Nat) (i2 : Int32) (i3 : Int32) (h : dzH) : dzF 97 142 [(0, .ref a0), (1, .ref a1), (2, .int i2), (3, .int i3)] [] (0, 0) h =
  (c_Maker_writeSmallLines a0 h).bind fun q1 =>
  (c_Maker_writeLastLine a0 i3 q1.2).bind fun q2 =>
  some (some (.int q2.1), q2.2) := (dzW_at 7 97 _ _ _ _ _).trans rfl
-- PrimeCertificates.prove:(I)I
theorem q_P_prove_0 (a0 : Nat) (i1 : Int32) (h : dzH) : dzF 98 0 [(0, .ref a0), (1, .int i1)] [] (0, 0) h =
  (c_P_isRegister i1 h).bind fun q1 =>
  if q1.1 = 0 then
    some (some (.int (-1 : Int32)), q1.2)
  else
    (dgA q1.2 a0 0 6).bind fun r2 =>
    (c_Checker_findFault r2 q1.2).bind fun q3 =>
    if q3.1 = 0 then
      (dgA q3.2 a0 0 7).bind fun r4 =>
      (dgA q3.2 a0 0 0).bind fun r5 =>
      (drA q3.2 r5 i1).bind fun r6 =>
      (c_Maker_lineFor r4 r6 q3.2).bind fun q7 =>
      (dgA q7.2 a0 0 5).bind fun r8 =>
      (dgA q7.2 a0 0 5).bind fun r9 =>
      (dgI q7.2 r9 4 2).bind fun v10 =>
      (dpF q7.2 r8 4 3 (.int v10)).bind fun h11 =>
      some (some (.int q7.1), h11)
    else
      some (some (.int ((-100 : Int32) - q3.1)), q3.2) := (dzW_at 25 98 _ _ _ _ _).trans rfl
-- PrimeCertificatesModel.set:(IJ)V
theorem q_M_set_0 (a0 : Nat) (i1 : Int32) (j2 : Int64) (h : dzH) : dzF 99 0 [(0, .ref a0), (1, .int i1), (2, .long j2)] [] (0, 0) h =
  dzF 99 3 [(0, .ref a0), (1, .int i1), (2, .long j2), (4, .int (0 : Int32))] [] (0, 0) h := (dzW_at 3 99 _ _ _ _ _).trans rfl
theorem q_M_set_3 (a0 : Nat) (i1 : Int32) (j2 : Int64) (i4 : Int32) (h : dzH) : dzF 99 3 [(0, .ref a0), (1, .int i1), (2, .long j2), (4, .int i4)] [] (0, 0) h =
  if i4 < (40 : Int32) then
    (dgA h a0 1 0).bind fun r1 =>
    if i4 < (4 : Int32) then
      dzF 99 43 [(0, .ref a0), (1, .int i1), (2, .long j2), (4, .int i4)] [.int (Int64.toInt32 ((k_lshr j2 ((16 : Int32) * i4)) &&& (65535 : Int64))), .int (((40 : Int32) * i1) + i4), .ref r1] (0, 0) h
    else
      dzF 99 43 [(0, .ref a0), (1, .int i1), (2, .long j2), (4, .int i4)] [.int (0 : Int32), .int (((40 : Int32) * i1) + i4), .ref r1] (0, 0) h
  else
    some (none, h) := (dzW_at 23 99 _ _ _ _ _).trans rfl
theorem q_M_set_43 (a0 : Nat) (i1 : Int32) (j2 : Int64) (i4 : Int32) (sa0 : Nat) (si1 : Int32) (si2 : Int32) (h : dzH) : dzF 99 43 [(0, .ref a0), (1, .int i1), (2, .long j2), (4, .int i4)] [.int si2, .int si1, .ref sa0] (0, 0) h =
  (dwI h sa0 si1 si2).bind fun h1 =>
  dzF 99 3 [(0, .ref a0), (1, .int i1), (2, .long j2), (4, .int (i4 + (1 : Int32)))] [] (0, 0) h1 := (dzW_at 4 99 _ _ _ _ _).trans rfl
-- PrimeCertificatesModel.<init>:()V
theorem q_M_init_0 (a0 : Nat) (h : dzH) : dzF 100 0 [(0, .ref a0)] [] (0, 0) h =
  (dnI h (9280 : Int32)).bind fun h1 =>
  (dpF h1 a0 1 0 (.ref h.1)).bind fun h2 =>
  (dnI h2 (4000 : Int32)).bind fun h3 =>
  (dpF h3 a0 1 1 (.ref h2.1)).bind fun h4 =>
  (dpF h4 a0 1 3 (.int (-2 : Int32))).bind fun h5 =>
  (dnI h5 (40 : Int32)).bind fun h6 =>
  (dpF h6 a0 1 9 (.ref h5.1)).bind fun h7 =>
  (dnI h7 (40 : Int32)).bind fun h8 =>
  (dpF h8 a0 1 10 (.ref h7.1)).bind fun h9 =>
  (dnI h9 (40 : Int32)).bind fun h10 =>
  (dpF h10 a0 1 11 (.ref h9.1)).bind fun h11 =>
  (c_M_set a0 (21 : Int32) (1 : Int64) h11).bind fun h12 =>
  some (none, h12) := (dzW_at 30 100 _ _ _ _ _).trans rfl
-- PrimeCertificatesModel.copy:(II)V
theorem q_M_copy_0 (a0 : Nat) (i1 : Int32) (i2 : Int32) (h : dzH) : dzF 101 0 [(0, .ref a0), (1, .int i1), (2, .int i2)] [] (0, 0) h =
  dzF 101 2 [(0, .ref a0), (1, .int i1), (2, .int i2), (3, .int (0 : Int32))] [] (0, 0) h := (dzW_at 3 101 _ _ _ _ _).trans rfl
theorem q_M_copy_2 (a0 : Nat) (i1 : Int32) (i2 : Int32) (i3 : Int32) (h : dzH) : dzF 101 2 [(0, .ref a0), (1, .int i1), (2, .int i2), (3, .int i3)] [] (0, 0) h =
  if i3 < (40 : Int32) then
    (dgA h a0 1 0).bind fun r1 =>
    (dgA h a0 1 0).bind fun r2 =>
    (drI h r2 (((40 : Int32) * i1) + i3)).bind fun v3 =>
    (dwI h r1 (((40 : Int32) * i2) + i3) v3).bind fun h4 =>
    dzF 101 2 [(0, .ref a0), (1, .int i1), (2, .int i2), (3, .int (i3 + (1 : Int32)))] [] (0, 0) h4
  else
    some (none, h) := (dzW_at 22 101 _ _ _ _ _).trans rfl
-- PrimeCertificatesModel.order:(II)I
theorem q_M_order_0 (a0 : Nat) (i1 : Int32) (i2 : Int32) (h : dzH) : dzF 102 0 [(0, .ref a0), (1, .int i1), (2, .int i2)] [] (0, 0) h =
  dzF 102 3 [(0, .ref a0), (1, .int i1), (2, .int i2), (3, .int (39 : Int32))] [] (0, 0) h := (dzW_at 3 102 _ _ _ _ _).trans rfl
theorem q_M_order_3 (a0 : Nat) (i1 : Int32) (i2 : Int32) (i3 : Int32) (h : dzH) : dzF 102 3 [(0, .ref a0), (1, .int i1), (2, .int i2), (3, .int i3)] [] (0, 0) h =
  if i3 < 0 then
    dzF 102 38 [(0, .ref a0), (1, .int i1), (2, .int i2), (3, .int i3)] [] (0, 0) h
  else
    (dgA h a0 1 0).bind fun r1 =>
    (drI h r1 (((40 : Int32) * i1) + i3)).bind fun v2 =>
    (dgA h a0 1 0).bind fun r3 =>
    (drI h r3 (((40 : Int32) * i2) + i3)).bind fun v4 =>
    if v2 = v4 then
      dzF 102 3 [(0, .ref a0), (1, .int i1), (2, .int i2), (3, .int (i3 + (-1 : Int32)))] [] (0, 0) h
    else
      dzF 102 38 [(0, .ref a0), (1, .int i1), (2, .int i2), (3, .int i3)] [] (0, 0) h := (dzW_at 22 102 _ _ _ _ _).trans rfl
theorem q_M_order_38 (a0 : Nat) (i1 : Int32) (i2 : Int32) (i3 : Int32) (h : dzH) : dzF 102 38 [(0, .ref a0), (1, .int i1), (2, .int i2), (3, .int i3)] [] (0, 0) h =
  if i3 < 0 then
    some (some (.int (0 : Int32)), h)
  else
    (dgA h a0 1 0).bind fun r1 =>
    (drI h r1 (((40 : Int32) * i1) + i3)).bind fun v2 =>
    (dgA h a0 1 0).bind fun r3 =>
    (drI h r3 (((40 : Int32) * i2) + i3)).bind fun v4 =>
    if v2 < v4 then
      some (some (.int (-1 : Int32)), h)
    else
      some (some (.int (1 : Int32)), h) := (dzW_at 22 102 _ _ _ _ _).trans rfl
-- PrimeCertificatesModel.lengthOf:(I)I
theorem q_M_lengthOf_0 (a0 : Nat) (i1 : Int32) (h : dzH) : dzF 103 0 [(0, .ref a0), (1, .int i1)] [] (0, 0) h =
  dzF 103 3 [(0, .ref a0), (1, .int i1), (2, .int (40 : Int32))] [] (0, 0) h := (dzW_at 3 103 _ _ _ _ _).trans rfl
theorem q_M_lengthOf_3 (a0 : Nat) (i1 : Int32) (i2 : Int32) (h : dzH) : dzF 103 3 [(0, .ref a0), (1, .int i1), (2, .int i2)] [] (0, 0) h =
  if i2 ≤ 0 then
    some (some (.int i2), h)
  else
    (dgA h a0 1 0).bind fun r1 =>
    (drI h r1 ((((40 : Int32) * i1) + i2) - (1 : Int32))).bind fun v2 =>
    if v2 = 0 then
      dzF 103 3 [(0, .ref a0), (1, .int i1), (2, .int (i2 + (-1 : Int32)))] [] (0, 0) h
    else
      some (some (.int i2), h) := (dzW_at 16 103 _ _ _ _ _).trans rfl
-- PrimeCertificatesModel.isZero:(I)Z
theorem q_M_isZero_0 (a0 : Nat) (i1 : Int32) (h : dzH) : dzF 104 0 [(0, .ref a0), (1, .int i1)] [] (0, 0) h =
  (c_M_lengthOf a0 i1 h).bind fun q1 =>
  if q1.1 = 0 then
    some (some (.int (1 : Int32)), q1.2)
  else
    some (some (.int (0 : Int32)), q1.2) := (dzW_at 7 104 _ _ _ _ _).trans rfl
-- PrimeCertificatesModel.raise:(II)V
theorem q_M_raise_0 (a0 : Nat) (i1 : Int32) (i2 : Int32) (h : dzH) : dzF 105 0 [(0, .ref a0), (1, .int i1), (2, .int i2)] [] (0, 0) h =
  dzF 105 5 [(0, .ref a0), (1, .int i1), (2, .int i2), (3, .int (0 : Int32)), (4, .int (0 : Int32))] [] (0, 0) h := (dzW_at 5 105 _ _ _ _ _).trans rfl
set_option maxRecDepth 100000 in
theorem q_M_raise_5 (a0 : Nat) (i1 : Int32) (i2 : Int32) (i3 : Int32) (i4 : Int32) (h : dzH) : dzF 105 5 [(0, .ref a0), (1, .int i1), (2, .int i2), (3, .int i3), (4, .int i4)] [] (0, 0) h =
  if i4 < (40 : Int32) then
    (dgA h a0 1 0).bind fun r1 =>
    (drI h r1 (((40 : Int32) * i1) + i4)).bind fun v2 =>
    (dgA h a0 1 0).bind fun r3 =>
    (drI h r3 (((40 : Int32) * i2) + i4)).bind fun v4 =>
    (dgA h a0 1 0).bind fun r5 =>
    (dwI h r5 (((40 : Int32) * i1) + i4) (((v2 + v4) + i3) &&& (65535 : Int32))).bind fun h6 =>
    dzF 105 5 [(0, .ref a0), (1, .int i1), (2, .int i2), (3, .int (k_ishr ((v2 + v4) + i3) (16 : Int32))), (4, .int (i4 + (1 : Int32)))] [] (0, 0) h6
  else
    some (none, h) := (dzW_at 41 105 _ _ _ _ _).trans rfl
-- PrimeCertificatesModel.lower:(II)V
theorem q_M_lower_0 (a0 : Nat) (i1 : Int32) (i2 : Int32) (h : dzH) : dzF 106 0 [(0, .ref a0), (1, .int i1), (2, .int i2)] [] (0, 0) h =
  dzF 106 5 [(0, .ref a0), (1, .int i1), (2, .int i2), (3, .int (0 : Int32)), (4, .int (0 : Int32))] [] (0, 0) h := (dzW_at 5 106 _ _ _ _ _).trans rfl
set_option maxRecDepth 100000 in
theorem q_M_lower_5 (a0 : Nat) (i1 : Int32) (i2 : Int32) (i3 : Int32) (i4 : Int32) (h : dzH) : dzF 106 5 [(0, .ref a0), (1, .int i1), (2, .int i2), (3, .int i3), (4, .int i4)] [] (0, 0) h =
  if i4 < (40 : Int32) then
    (dgA h a0 1 0).bind fun r1 =>
    (drI h r1 (((40 : Int32) * i1) + i4)).bind fun v2 =>
    (dgA h a0 1 0).bind fun r3 =>
    (drI h r3 (((40 : Int32) * i2) + i4)).bind fun v4 =>
    (dgA h a0 1 0).bind fun r5 =>
    (dwI h r5 (((40 : Int32) * i1) + i4) (((v2 - v4) - i3) &&& (65535 : Int32))).bind fun h6 =>
    if ((v2 - v4) - i3) < 0 then
      dzF 106 68 [(0, .ref a0), (1, .int i1), (2, .int i2), (3, .int i3), (4, .int i4), (5, .int ((v2 - v4) - i3))] [.int (1 : Int32)] (0, 0) h6
    else
      dzF 106 68 [(0, .ref a0), (1, .int i1), (2, .int i2), (3, .int i3), (4, .int i4), (5, .int ((v2 - v4) - i3))] [.int (0 : Int32)] (0, 0) h6
  else
    some (none, h) := (dzW_at 39 106 _ _ _ _ _).trans rfl
theorem q_M_lower_68 (a0 : Nat) (i1 : Int32) (i2 : Int32) (i3 : Int32) (i4 : Int32) (i5 : Int32) (si0 : Int32) (h : dzH) : dzF 106 68 [(0, .ref a0), (1, .int i1), (2, .int i2), (3, .int i3), (4, .int i4), (5, .int i5)] [.int si0] (0, 0) h =
  dzF 106 5 [(0, .ref a0), (1, .int i1), (2, .int i2), (3, .int si0), (4, .int (i4 + (1 : Int32)))] [] (0, 0) h := (dzW_at 4 106 _ _ _ _ _).trans rfl
-- PrimeCertificatesModel.times:(III)V
theorem q_M_times_0 (a0 : Nat) (i1 : Int32) (i2 : Int32) (i3 : Int32) (h : dzH) : dzF 107 0 [(0, .ref a0), (1, .int i1), (2, .int i2), (3, .int i3)] [] (0, 0) h =
  (c_M_set a0 i3 (0 : Int64) h).bind fun h1 =>
  (c_M_lengthOf a0 i1 h1).bind fun q2 =>
  (c_M_lengthOf a0 i2 q2.2).bind fun q3 =>
  dzF 107 23 [(0, .ref a0), (1, .int i1), (2, .int i2), (3, .int i3), (4, .int q2.1), (5, .int q3.1), (6, .int (0 : Int32))] [] (0, 0) q3.2 := (dzW_at 15 107 _ _ _ _ _).trans rfl
theorem q_M_times_23 (a0 : Nat) (i1 : Int32) (i2 : Int32) (i3 : Int32) (i4 : Int32) (i5 : Int32) (i6 : Int32) (h : dzH) : dzF 107 23 [(0, .ref a0), (1, .int i1), (2, .int i2), (3, .int i3), (4, .int i4), (5, .int i5), (6, .int i6)] [] (0, 0) h =
  if i6 < i4 then
    dzF 107 36 [(0, .ref a0), (1, .int i1), (2, .int i2), (3, .int i3), (4, .int i4), (5, .int i5), (6, .int i6), (7, .long (0 : Int64)), (9, .int (0 : Int32))] [] (0, 0) h
  else
    some (none, h) := (dzW_at 8 107 _ _ _ _ _).trans rfl
theorem q_M_times_36 (a0 : Nat) (i1 : Int32) (i2 : Int32) (i3 : Int32) (i4 : Int32) (i5 : Int32) (i6 : Int32) (j7 : Int64) (i9 : Int32) (h : dzH) : dzF 107 36 [(0, .ref a0), (1, .int i1), (2, .int i2), (3, .int i3), (4, .int i4), (5, .int i5), (6, .int i6), (7, .long j7), (9, .int i9)] [] (0, 0) h =
  if i9 < i5 then
    dzF 107 50 [(0, .ref a0), (1, .int i1), (2, .int i2), (3, .int i3), (4, .int i4), (5, .int i5), (6, .int i6), (7, .long j7), (9, .int i9)] [] (0, 0) h
  else
    if (k_lcmp j7 (0 : Int64)) ≤ 0 then
      dzF 107 23 [(0, .ref a0), (1, .int i1), (2, .int i2), (3, .int i3), (4, .int i4), (5, .int i5), (6, .int (i6 + (1 : Int32)))] [] (0, 0) h
    else
      dzF 107 50 [(0, .ref a0), (1, .int i1), (2, .int i2), (3, .int i3), (4, .int i4), (5, .int i5), (6, .int i6), (7, .long j7), (9, .int i9)] [] (0, 0) h := (dzW_at 10 107 _ _ _ _ _).trans rfl
set_option maxRecDepth 100000 in
theorem q_M_times_50 (a0 : Nat) (i1 : Int32) (i2 : Int32) (i3 : Int32) (i4 : Int32) (i5 : Int32) (i6 : Int32) (j7 : Int64) (i9 : Int32) (h : dzH) : dzF 107 50 [(0, .ref a0), (1, .int i1), (2, .int i2), (3, .int i3), (4, .int i4), (5, .int i5), (6, .int i6), (7, .long j7), (9, .int i9)] [] (0, 0) h =
  (dgA h a0 1 0).bind fun r1 =>
  (drI h r1 ((((40 : Int32) * i3) + i6) + i9)).bind fun v2 =>
  if i9 < i5 then
    (dgA h a0 1 0).bind fun r3 =>
    (drI h r3 (((40 : Int32) * i1) + i6)).bind fun v4 =>
    (dgA h a0 1 0).bind fun r5 =>
    (drI h r5 (((40 : Int32) * i2) + i9)).bind fun v6 =>
    dzF 107 107 [(0, .ref a0), (1, .int i1), (2, .int i2), (3, .int i3), (4, .int i4), (5, .int i5), (6, .int i6), (7, .long j7), (9, .int i9)] [.long ((Int32.toInt64 v4) * (Int32.toInt64 v6)), .long ((Int32.toInt64 v2) + j7)] (0, 0) h
  else
    dzF 107 107 [(0, .ref a0), (1, .int i1), (2, .int i2), (3, .int i3), (4, .int i4), (5, .int i5), (6, .int i6), (7, .long j7), (9, .int i9)] [.long (0 : Int64), .long ((Int32.toInt64 v2) + j7)] (0, 0) h := (dzW_at 37 107 _ _ _ _ _).trans rfl
theorem q_M_times_107 (a0 : Nat) (i1 : Int32) (i2 : Int32) (i3 : Int32) (i4 : Int32) (i5 : Int32) (i6 : Int32) (j7 : Int64) (i9 : Int32) (sj0 : Int64) (sj1 : Int64) (h : dzH) : dzF 107 107 [(0, .ref a0), (1, .int i1), (2, .int i2), (3, .int i3), (4, .int i4), (5, .int i5), (6, .int i6), (7, .long j7), (9, .int i9)] [.long sj1, .long sj0] (0, 0) h =
  (dgA h a0 1 0).bind fun r1 =>
  (dwI h r1 ((((40 : Int32) * i3) + i6) + i9) (Int64.toInt32 ((sj0 + sj1) &&& (65535 : Int64)))).bind fun h2 =>
  dzF 107 36 [(0, .ref a0), (1, .int i1), (2, .int i2), (3, .int i3), (4, .int i4), (5, .int i5), (6, .int i6), (7, .long (k_lshr (sj0 + sj1) (16 : Int32))), (9, .int (i9 + (1 : Int32)))] [] (0, 0) h2 := (dzW_at 23 107 _ _ _ _ _).trans rfl
-- PrimeCertificatesModel.guess:(IIII)I
theorem q_M_guess_0 (a0 : Nat) (i1 : Int32) (i2 : Int32) (i3 : Int32) (i4 : Int32) (h : dzH) : dzF 108 0 [(0, .ref a0), (1, .int i1), (2, .int i2), (3, .int i3), (4, .int i4)] [] (0, 0) h =
  (dgA h a0 1 0).bind fun r1 =>
  (drI h r1 (((40 : Int32) * i1) + i2)).bind fun v2 =>
  (dgA h a0 1 0).bind fun r3 =>
  (drI h r3 ((((40 : Int32) * i1) + i2) - (1 : Int32))).bind fun v4 =>
  if (Int32.toInt64 (i3 + (1 : Int32))) = 0 then none else
  some (some (.int (Int64.toInt32 (((k_lshl (Int32.toInt64 v2) (16 : Int32)) ||| (Int32.toInt64 v4)) / (Int32.toInt64 (i3 + (1 : Int32)))))), h) := (dzW_at 32 108 _ _ _ _ _).trans rfl
-- PrimeCertificatesModel.away:(IIIII)V
theorem q_M_away_0 (a0 : Nat) (i1 : Int32) (i2 : Int32) (i3 : Int32) (i4 : Int32) (i5 : Int32) (h : dzH) : dzF 109 0 [(0, .ref a0), (1, .int i1), (2, .int i2), (3, .int i3), (4, .int i4), (5, .int i5)] [] (0, 0) h =
  dzF 109 6 [(0, .ref a0), (1, .int i1), (2, .int i2), (3, .int i3), (4, .int i4), (5, .int i5), (6, .long (0 : Int64)), (8, .int (0 : Int32))] [] (0, 0) h := (dzW_at 5 109 _ _ _ _ _).trans rfl
theorem q_M_away_6 (a0 : Nat) (i1 : Int32) (i2 : Int32) (i3 : Int32) (i4 : Int32) (i5 : Int32) (j6 : Int64) (i8 : Int32) (h : dzH) : dzF 109 6 [(0, .ref a0), (1, .int i1), (2, .int i2), (3, .int i3), (4, .int i4), (5, .int i5), (6, .long j6), (8, .int i8)] [] (0, 0) h =
  if i8 ≤ i5 then
    (dgA h a0 1 0).bind fun r1 =>
    (drI h r1 ((((40 : Int32) * i1) + i3) + i8)).bind fun v2 =>
    if i8 < i5 then
      (dgA h a0 1 0).bind fun r3 =>
      (drI h r3 (((40 : Int32) * i2) + i8)).bind fun v4 =>
      dzF 109 56 [(0, .ref a0), (1, .int i1), (2, .int i2), (3, .int i3), (4, .int i4), (5, .int i5), (6, .long j6), (8, .int i8)] [.long ((Int32.toInt64 i4) * (Int32.toInt64 v4)), .long (Int32.toInt64 v2)] (0, 0) h
    else
      dzF 109 56 [(0, .ref a0), (1, .int i1), (2, .int i2), (3, .int i3), (4, .int i4), (5, .int i5), (6, .long j6), (8, .int i8)] [.long (0 : Int64), .long (Int32.toInt64 v2)] (0, 0) h
  else
    some (none, h) := (dzW_at 31 109 _ _ _ _ _).trans rfl
theorem q_M_away_56 (a0 : Nat) (i1 : Int32) (i2 : Int32) (i3 : Int32) (i4 : Int32) (i5 : Int32) (j6 : Int64) (i8 : Int32) (sj0 : Int64) (sj1 : Int64) (h : dzH) : dzF 109 56 [(0, .ref a0), (1, .int i1), (2, .int i2), (3, .int i3), (4, .int i4), (5, .int i5), (6, .long j6), (8, .int i8)] [.long sj1, .long sj0] (0, 0) h =
  (dgA h a0 1 0).bind fun r1 =>
  (dwI h r1 ((((40 : Int32) * i1) + i3) + i8) (Int64.toInt32 (((sj0 - sj1) - j6) &&& (65535 : Int64)))).bind fun h2 =>
  dzF 109 6 [(0, .ref a0), (1, .int i1), (2, .int i2), (3, .int i3), (4, .int i4), (5, .int i5), (6, .long (-(k_lshr ((sj0 - sj1) - j6) (16 : Int32)))), (8, .int (i8 + (1 : Int32)))] [] (0, 0) h2 := (dzW_at 26 109 _ _ _ _ _).trans rfl
-- PrimeCertificatesModel.isOver:(IIII)Z
theorem q_M_isOver_0 (a0 : Nat) (i1 : Int32) (i2 : Int32) (i3 : Int32) (i4 : Int32) (h : dzH) : dzF 110 0 [(0, .ref a0), (1, .int i1), (2, .int i2), (3, .int i3), (4, .int i4)] [] (0, 0) h =
  (dgA h a0 1 0).bind fun r1 =>
  (drI h r1 ((((40 : Int32) * i1) + i3) + i4)).bind fun v2 =>
  if v2 ≤ 0 then
    dzF 110 25 [(0, .ref a0), (1, .int i1), (2, .int i2), (3, .int i3), (4, .int i4), (5, .int (i4 - (1 : Int32)))] [] (0, 0) h
  else
    some (some (.int (1 : Int32)), h) := (dzW_at 16 110 _ _ _ _ _).trans rfl
theorem q_M_isOver_25 (a0 : Nat) (i1 : Int32) (i2 : Int32) (i3 : Int32) (i4 : Int32) (i5 : Int32) (h : dzH) : dzF 110 25 [(0, .ref a0), (1, .int i1), (2, .int i2), (3, .int i3), (4, .int i4), (5, .int i5)] [] (0, 0) h =
  if i5 < 0 then
    dzF 110 65 [(0, .ref a0), (1, .int i1), (2, .int i2), (3, .int i3), (4, .int i4), (5, .int i5)] [] (0, 0) h
  else
    (dgA h a0 1 0).bind fun r1 =>
    (drI h r1 ((((40 : Int32) * i1) + i3) + i5)).bind fun v2 =>
    (dgA h a0 1 0).bind fun r3 =>
    (drI h r3 (((40 : Int32) * i2) + i5)).bind fun v4 =>
    if v2 = v4 then
      dzF 110 25 [(0, .ref a0), (1, .int i1), (2, .int i2), (3, .int i3), (4, .int i4), (5, .int (i5 + (-1 : Int32)))] [] (0, 0) h
    else
      dzF 110 65 [(0, .ref a0), (1, .int i1), (2, .int i2), (3, .int i3), (4, .int i4), (5, .int i5)] [] (0, 0) h := (dzW_at 24 110 _ _ _ _ _).trans rfl
theorem q_M_isOver_65 (a0 : Nat) (i1 : Int32) (i2 : Int32) (i3 : Int32) (i4 : Int32) (i5 : Int32) (h : dzH) : dzF 110 65 [(0, .ref a0), (1, .int i1), (2, .int i2), (3, .int i3), (4, .int i4), (5, .int i5)] [] (0, 0) h =
  if i5 < 0 then
    dzF 110 99 [(0, .ref a0), (1, .int i1), (2, .int i2), (3, .int i3), (4, .int i4), (5, .int i5)] [] (0, 0) h
  else
    (dgA h a0 1 0).bind fun r1 =>
    (drI h r1 ((((40 : Int32) * i1) + i3) + i5)).bind fun v2 =>
    (dgA h a0 1 0).bind fun r3 =>
    (drI h r3 (((40 : Int32) * i2) + i5)).bind fun v4 =>
    if v2 ≤ v4 then
      some (some (.int (0 : Int32)), h)
    else
      dzF 110 99 [(0, .ref a0), (1, .int i1), (2, .int i2), (3, .int i3), (4, .int i4), (5, .int i5)] [] (0, 0) h := (dzW_at 23 110 _ _ _ _ _).trans rfl
theorem q_M_isOver_99 (a0 : Nat) (i1 : Int32) (i2 : Int32) (i3 : Int32) (i4 : Int32) (i5 : Int32) (h : dzH) : dzF 110 99 [(0, .ref a0), (1, .int i1), (2, .int i2), (3, .int i3), (4, .int i4), (5, .int i5)] [] (0, 0) h =
  some (some (.int (1 : Int32)), h) := (dzW_at 3 110 _ _ _ _ _).trans rfl
-- PrimeCertificatesModel.part:(IIII)V
theorem q_M_part_0 (a0 : Nat) (i1 : Int32) (i2 : Int32) (i3 : Int32) (i4 : Int32) (h : dzH) : dzF 111 0 [(0, .ref a0), (1, .int i1), (2, .int i2), (3, .int i3), (4, .int i4)] [] (0, 0) h =
  (c_M_set a0 i3 (0 : Int64) h).bind fun h1 =>
  (c_M_copy a0 i1 i4 h1).bind fun h2 =>
  (c_M_lengthOf a0 i2 h2).bind fun q3 =>
  (dgA q3.2 a0 1 0).bind fun r4 =>
  (drI q3.2 r4 ((((40 : Int32) * i2) + q3.1) - (1 : Int32))).bind fun v5 =>
  (c_M_lengthOf a0 i1 q3.2).bind fun q6 =>
  dzF 111 46 [(0, .ref a0), (1, .int i1), (2, .int i2), (3, .int i3), (4, .int i4), (5, .int q3.1), (6, .int v5), (7, .int (q6.1 - q3.1))] [] (0, 0) q6.2 := (dzW_at 30 111 _ _ _ _ _).trans rfl
theorem q_M_part_46 (a0 : Nat) (i1 : Int32) (i2 : Int32) (i3 : Int32) (i4 : Int32) (i5 : Int32) (i6 : Int32) (i7 : Int32) (h : dzH) : dzF 111 46 [(0, .ref a0), (1, .int i1), (2, .int i2), (3, .int i3), (4, .int i4), (5, .int i5), (6, .int i6), (7, .int i7)] [] (0, 0) h =
  if i7 < 0 then
    some (none, h)
  else
    (c_M_guess a0 i4 (i7 + i5) i6 i5 h).bind fun q1 =>
    dzF 111 71 [(0, .ref a0), (1, .int i1), (2, .int i2), (3, .int i3), (4, .int i4), (5, .int i5), (6, .int i6), (7, .int i7), (8, .int (0 : Int32)), (9, .int q1.1)] [] (0, 0) q1.2 := (dzW_at 14 111 _ _ _ _ _).trans rfl
theorem q_M_part_71 (a0 : Nat) (i1 : Int32) (i2 : Int32) (i3 : Int32) (i4 : Int32) (i5 : Int32) (i6 : Int32) (i7 : Int32) (i8 : Int32) (i9 : Int32) (h : dzH) : dzF 111 71 [(0, .ref a0), (1, .int i1), (2, .int i2), (3, .int i3), (4, .int i4), (5, .int i5), (6, .int i6), (7, .int i7), (8, .int i8), (9, .int i9)] [] (0, 0) h =
  if i9 ≤ 0 then
    (c_M_isOver a0 i4 i2 i7 i5 h).bind fun q1 =>
    if q1.1 = 0 then
      dzF 111 145 [(0, .ref a0), (1, .int i1), (2, .int i2), (3, .int i3), (4, .int i4), (5, .int i5), (6, .int i6), (7, .int i7), (8, .int i8), (9, .int i9)] [] (0, 0) q1.2
    else
      (c_M_away a0 i4 i2 i7 (1 : Int32) i5 q1.2).bind fun h2 =>
      dzF 111 145 [(0, .ref a0), (1, .int i1), (2, .int i2), (3, .int i3), (4, .int i4), (5, .int i5), (6, .int i6), (7, .int i7), (8, .int (i8 + (1 : Int32))), (9, .int i9)] [] (0, 0) h2
  else
    (c_M_away a0 i4 i2 i7 i9 i5 h).bind fun h1 =>
    (c_M_guess a0 i4 (i7 + i5) i6 i5 h1).bind fun q2 =>
    dzF 111 71 [(0, .ref a0), (1, .int i1), (2, .int i2), (3, .int i3), (4, .int i4), (5, .int i5), (6, .int i6), (7, .int i7), (8, .int (i8 + i9)), (9, .int q2.1)] [] (0, 0) q2.2 := (dzW_at 24 111 _ _ _ _ _).trans rfl
theorem q_M_part_145 (a0 : Nat) (i1 : Int32) (i2 : Int32) (i3 : Int32) (i4 : Int32) (i5 : Int32) (i6 : Int32) (i7 : Int32) (i8 : Int32) (i9 : Int32) (h : dzH) : dzF 111 145 [(0, .ref a0), (1, .int i1), (2, .int i2), (3, .int i3), (4, .int i4), (5, .int i5), (6, .int i6), (7, .int i7), (8, .int i8), (9, .int i9)] [] (0, 0) h =
  (dgA h a0 1 0).bind fun r1 =>
  (dwI h r1 (((40 : Int32) * i3) + i7) i8).bind fun h2 =>
  dzF 111 46 [(0, .ref a0), (1, .int i1), (2, .int i2), (3, .int i3), (4, .int i4), (5, .int i5), (6, .int i6), (7, .int (i7 + (-1 : Int32)))] [] (0, 0) h2 := (dzW_at 12 111 _ _ _ _ _).trans rfl
-- PrimeCertificatesModel.bit:(II)I
theorem q_M_bit_0 (a0 : Nat) (i1 : Int32) (i2 : Int32) (h : dzH) : dzF 112 0 [(0, .ref a0), (1, .int i1), (2, .int i2)] [] (0, 0) h =
  (dgA h a0 1 0).bind fun r1 =>
  if (16 : Int32) = 0 then none else
  (drI h r1 (((40 : Int32) * i1) + (i2 / (16 : Int32)))).bind fun v2 =>
  if (16 : Int32) = 0 then none else
  some (some (.int ((k_ishr v2 (k_irem i2 (16 : Int32))) &&& (1 : Int32))), h) := (dzW_at 17 112 _ _ _ _ _).trans rfl
-- PrimeCertificatesModel.raiseTo:(IIII)V
theorem q_M_raiseTo_0 (a0 : Nat) (i1 : Int32) (i2 : Int32) (i3 : Int32) (i4 : Int32) (h : dzH) : dzF 113 0 [(0, .ref a0), (1, .int i1), (2, .int i2), (3, .int i3), (4, .int i4)] [] (0, 0) h =
  (c_M_part a0 i1 i3 (17 : Int32) (18 : Int32) h).bind fun h1 =>
  (c_M_part a0 (21 : Int32) i3 (17 : Int32) i4 h1).bind fun h2 =>
  (c_M_lengthOf a0 i2 h2).bind fun q3 =>
  dzF 113 33 [(0, .ref a0), (1, .int i1), (2, .int i2), (3, .int i3), (4, .int i4), (5, .int (((16 : Int32) * q3.1) - (1 : Int32)))] [] (0, 0) q3.2 := (dzW_at 21 113 _ _ _ _ _).trans rfl
theorem q_M_raiseTo_33 (a0 : Nat) (i1 : Int32) (i2 : Int32) (i3 : Int32) (i4 : Int32) (i5 : Int32) (h : dzH) : dzF 113 33 [(0, .ref a0), (1, .int i1), (2, .int i2), (3, .int i3), (4, .int i4), (5, .int i5)] [] (0, 0) h =
  if i5 < 0 then
    some (none, h)
  else
    (c_M_times a0 i4 i4 (19 : Int32) h).bind fun h1 =>
    (c_M_part a0 (19 : Int32) i3 (17 : Int32) i4 h1).bind fun h2 =>
    (c_M_bit a0 i2 i5 h2).bind fun q3 =>
    if q3.1 = 0 then
      dzF 113 93 [(0, .ref a0), (1, .int i1), (2, .int i2), (3, .int i3), (4, .int i4), (5, .int i5)] [] (0, 0) q3.2
    else
      (c_M_times a0 i4 (18 : Int32) (19 : Int32) q3.2).bind fun h4 =>
      (c_M_part a0 (19 : Int32) i3 (17 : Int32) i4 h4).bind fun h5 =>
      dzF 113 93 [(0, .ref a0), (1, .int i1), (2, .int i2), (3, .int i3), (4, .int i4), (5, .int i5)] [] (0, 0) h5 := (dzW_at 30 113 _ _ _ _ _).trans rfl
theorem q_M_raiseTo_93 (a0 : Nat) (i1 : Int32) (i2 : Int32) (i3 : Int32) (i4 : Int32) (i5 : Int32) (h : dzH) : dzF 113 93 [(0, .ref a0), (1, .int i1), (2, .int i2), (3, .int i3), (4, .int i4), (5, .int i5)] [] (0, 0) h =
  dzF 113 33 [(0, .ref a0), (1, .int i1), (2, .int i2), (3, .int i3), (4, .int i4), (5, .int (i5 + (-1 : Int32)))] [] (0, 0) h := (dzW_at 3 113 _ _ _ _ _).trans rfl
-- PrimeCertificatesModel.divisor:(III)V
theorem q_M_divisor_0 (a0 : Nat) (i1 : Int32) (i2 : Int32) (i3 : Int32) (h : dzH) : dzF 114 0 [(0, .ref a0), (1, .int i1), (2, .int i2), (3, .int i3)] [] (0, 0) h =
  (c_M_copy a0 i1 i3 h).bind fun h1 =>
  (c_M_copy a0 i2 (18 : Int32) h1).bind fun h2 =>
  dzF 114 13 [(0, .ref a0), (1, .int i1), (2, .int i2), (3, .int i3)] [] (0, 0) h2 := (dzW_at 9 114 _ _ _ _ _).trans rfl
theorem q_M_divisor_13 (a0 : Nat) (i1 : Int32) (i2 : Int32) (i3 : Int32) (h : dzH) : dzF 114 13 [(0, .ref a0), (1, .int i1), (2, .int i2), (3, .int i3)] [] (0, 0) h =
  (c_M_isZero a0 (18 : Int32) h).bind fun q1 =>
  if q1.1 = 0 then
    (c_M_part a0 i3 (18 : Int32) (17 : Int32) (19 : Int32) q1.2).bind fun h2 =>
    (c_M_copy a0 (18 : Int32) i3 h2).bind fun h3 =>
    (c_M_copy a0 (19 : Int32) (18 : Int32) h3).bind fun h4 =>
    dzF 114 13 [(0, .ref a0), (1, .int i1), (2, .int i2), (3, .int i3)] [] (0, 0) h4
  else
    some (none, q1.2) := (dzW_at 20 114 _ _ _ _ _).trans rfl
-- PrimeCertificatesModel.fits:(I)Z
theorem q_M_fits_0 (a0 : Nat) (i1 : Int32) (h : dzH) : dzF 115 0 [(0, .ref a0), (1, .int i1)] [] (0, 0) h =
  (c_M_lengthOf a0 i1 h).bind fun q1 =>
  if q1.1 ≤ (16 : Int32) then
    some (some (.int (1 : Int32)), q1.2)
  else
    some (some (.int (0 : Int32)), q1.2) := (dzW_at 8 115 _ _ _ _ _).trans rfl
-- PrimeCertificatesModel.isOne:(I)Z
theorem q_M_isOne_0 (a0 : Nat) (i1 : Int32) (h : dzH) : dzF 116 0 [(0, .ref a0), (1, .int i1)] [] (0, 0) h =
  (c_M_order a0 i1 (21 : Int32) h).bind fun q1 =>
  if q1.1 = 0 then
    some (some (.int (1 : Int32)), q1.2)
  else
    some (some (.int (0 : Int32)), q1.2) := (dzW_at 8 116 _ _ _ _ _).trans rfl
-- PrimeCertificatesModel.isRegister:(I)Z
theorem q_M_isRegister_0 (i0 : Int32) (h : dzH) : dzF 117 0 [(0, .int i0)] [] (0, 0) h =
  if i0 < 0 then
    some (some (.int (0 : Int32)), h)
  else
    if i0 < (8 : Int32) then
      some (some (.int (1 : Int32)), h)
    else
      some (some (.int (0 : Int32)), h) := (dzW_at 8 117 _ _ _ _ _).trans rfl
-- PrimeCertificatesModel.put:(III)Z
theorem q_M_put_0 (a0 : Nat) (i1 : Int32) (i2 : Int32) (i3 : Int32) (h : dzH) : dzF 118 0 [(0, .ref a0), (1, .int i1), (2, .int i2), (3, .int i3)] [] (0, 0) h =
  (c_M_isRegister i1 h).bind fun q1 =>
  if q1.1 = 0 then
    some (some (.int (0 : Int32)), q1.2)
  else
    if i2 < 0 then
      some (some (.int (0 : Int32)), q1.2)
    else
      if i2 ≤ (7 : Int32) then
        dzF 118 22 [(0, .ref a0), (1, .int i1), (2, .int i2), (3, .int i3), (4, .int (0 : Int32))] [] (0, 0) q1.2
      else
        some (some (.int (0 : Int32)), q1.2) := (dzW_at 11 118 _ _ _ _ _).trans rfl
theorem q_M_put_22 (a0 : Nat) (i1 : Int32) (i2 : Int32) (i3 : Int32) (i4 : Int32) (h : dzH) : dzF 118 22 [(0, .ref a0), (1, .int i1), (2, .int i2), (3, .int i3), (4, .int i4)] [] (0, 0) h =
  if i4 < (2 : Int32) then
    (dgA h a0 1 0).bind fun r1 =>
    (dwI h r1 ((((40 : Int32) * i1) + ((2 : Int32) * i2)) + i4) ((k_ishr i3 ((16 : Int32) * i4)) &&& (65535 : Int32))).bind fun h2 =>
    dzF 118 22 [(0, .ref a0), (1, .int i1), (2, .int i2), (3, .int i3), (4, .int (i4 + (1 : Int32)))] [] (0, 0) h2
  else
    some (some (.int (1 : Int32)), h) := (dzW_at 25 118 _ _ _ _ _).trans rfl
-- PrimeCertificatesModel.get:(II)I
theorem q_M_get_0 (a0 : Nat) (i1 : Int32) (i2 : Int32) (h : dzH) : dzF 119 0 [(0, .ref a0), (1, .int i1), (2, .int i2)] [] (0, 0) h =
  (c_M_isRegister i1 h).bind fun q1 =>
  if q1.1 = 0 then
    some (some (.int (0 : Int32)), q1.2)
  else
    if i2 < 0 then
      some (some (.int (0 : Int32)), q1.2)
    else
      if i2 ≤ (7 : Int32) then
        (dgA q1.2 a0 1 0).bind fun r2 =>
        (drI q1.2 r2 ((((40 : Int32) * i1) + ((2 : Int32) * i2)) + (1 : Int32))).bind fun v3 =>
        (dgA q1.2 a0 1 0).bind fun r4 =>
        (drI q1.2 r4 (((40 : Int32) * i1) + ((2 : Int32) * i2))).bind fun v5 =>
        some (some (.int ((k_ishl v3 (16 : Int32)) ||| v5)), q1.2)
      else
        some (some (.int (0 : Int32)), q1.2) := (dzW_at 34 119 _ _ _ _ _).trans rfl
-- PrimeCertificatesModel.are:(III)Z
theorem q_M_are_0 (i0 : Int32) (i1 : Int32) (i2 : Int32) (h : dzH) : dzF 120 0 [(0, .int i0), (1, .int i1), (2, .int i2)] [] (0, 0) h =
  (c_M_isRegister i0 h).bind fun q1 =>
  if q1.1 = 0 then
    some (some (.int (0 : Int32)), q1.2)
  else
    (c_M_isRegister i1 q1.2).bind fun q2 =>
    if q2.1 = 0 then
      some (some (.int (0 : Int32)), q2.2)
    else
      (c_M_isRegister i2 q2.2).bind fun q3 =>
      if q3.1 = 0 then
        some (some (.int (0 : Int32)), q3.2)
      else
        some (some (.int (1 : Int32)), q3.2) := (dzW_at 12 120 _ _ _ _ _).trans rfl
-- PrimeCertificatesModel.give:(II)I
theorem q_M_give_0 (a0 : Nat) (i1 : Int32) (i2 : Int32) (h : dzH) : dzF 121 0 [(0, .ref a0), (1, .int i1), (2, .int i2)] [] (0, 0) h =
  (c_M_fits a0 i1 h).bind fun q1 =>
  if q1.1 = 0 then
    some (some (.int (-3 : Int32)), q1.2)
  else
    (c_M_copy a0 i1 i2 q1.2).bind fun h2 =>
    some (some (.int (0 : Int32)), h2) := (dzW_at 10 121 _ _ _ _ _).trans rfl
-- PrimeCertificatesModel.add:(III)I
theorem q_M_add_0 (a0 : Nat) (i1 : Int32) (i2 : Int32) (i3 : Int32) (h : dzH) : dzF 122 0 [(0, .ref a0), (1, .int i1), (2, .int i2), (3, .int i3)] [] (0, 0) h =
  (c_M_are i1 i2 i3 h).bind fun q1 =>
  if q1.1 = 0 then
    some (some (.int (-1 : Int32)), q1.2)
  else
    (c_M_copy a0 i1 (8 : Int32) q1.2).bind fun h2 =>
    (c_M_raise a0 (8 : Int32) i2 h2).bind fun h3 =>
    (c_M_give a0 (8 : Int32) i3 h3).bind fun q4 =>
    some (some (.int q4.1), q4.2) := (dzW_at 18 122 _ _ _ _ _).trans rfl
-- PrimeCertificatesModel.subtract:(III)I
theorem q_M_subtract_0 (a0 : Nat) (i1 : Int32) (i2 : Int32) (i3 : Int32) (h : dzH) : dzF 123 0 [(0, .ref a0), (1, .int i1), (2, .int i2), (3, .int i3)] [] (0, 0) h =
  (c_M_are i1 i2 i3 h).bind fun q1 =>
  if q1.1 = 0 then
    some (some (.int (-1 : Int32)), q1.2)
  else
    (c_M_order a0 i1 i2 q1.2).bind fun q2 =>
    if q2.1 < 0 then
      some (some (.int (-2 : Int32)), q2.2)
    else
      (c_M_copy a0 i1 (8 : Int32) q2.2).bind fun h3 =>
      (c_M_lower a0 (8 : Int32) i2 h3).bind fun h4 =>
      (c_M_give a0 (8 : Int32) i3 h4).bind fun q5 =>
      some (some (.int q5.1), q5.2) := (dzW_at 23 123 _ _ _ _ _).trans rfl
-- PrimeCertificatesModel.multiply:(III)I
theorem q_M_multiply_0 (a0 : Nat) (i1 : Int32) (i2 : Int32) (i3 : Int32) (h : dzH) : dzF 124 0 [(0, .ref a0), (1, .int i1), (2, .int i2), (3, .int i3)] [] (0, 0) h =
  (c_M_are i1 i2 i3 h).bind fun q1 =>
  if q1.1 = 0 then
    some (some (.int (-1 : Int32)), q1.2)
  else
    (c_M_times a0 i1 i2 (8 : Int32) q1.2).bind fun h2 =>
    (c_M_give a0 (8 : Int32) i3 h2).bind fun q3 =>
    some (some (.int q3.1), q3.2) := (dzW_at 15 124 _ _ _ _ _).trans rfl
-- PrimeCertificatesModel.divide:(IIII)I
theorem q_M_divide_0 (a0 : Nat) (i1 : Int32) (i2 : Int32) (i3 : Int32) (i4 : Int32) (h : dzH) : dzF 125 0 [(0, .ref a0), (1, .int i1), (2, .int i2), (3, .int i3), (4, .int i4)] [] (0, 0) h =
  (c_M_are i1 i2 i3 h).bind fun q1 =>
  if q1.1 = 0 then
    some (some (.int (-1 : Int32)), q1.2)
  else
    (c_M_isRegister i4 q1.2).bind fun q2 =>
    if q2.1 = 0 then
      some (some (.int (-1 : Int32)), q2.2)
    else
      if i3 = i4 then
        some (some (.int (-1 : Int32)), q2.2)
      else
        (c_M_isZero a0 i2 q2.2).bind fun q3 =>
        if q3.1 = 0 then
          (c_M_part a0 i1 i2 (8 : Int32) (9 : Int32) q3.2).bind fun h4 =>
          (c_M_copy a0 (8 : Int32) i3 h4).bind fun h5 =>
          (c_M_copy a0 (9 : Int32) i4 h5).bind fun h6 =>
          some (some (.int (0 : Int32)), h6)
        else
          some (some (.int (-2 : Int32)), q3.2) := (dzW_at 31 125 _ _ _ _ _).trans rfl
-- PrimeCertificatesModel.power:(IIII)I
theorem q_M_power_0 (a0 : Nat) (i1 : Int32) (i2 : Int32) (i3 : Int32) (i4 : Int32) (h : dzH) : dzF 126 0 [(0, .ref a0), (1, .int i1), (2, .int i2), (3, .int i3), (4, .int i4)] [] (0, 0) h =
  (c_M_are i1 i2 i3 h).bind fun q1 =>
  if q1.1 = 0 then
    some (some (.int (-1 : Int32)), q1.2)
  else
    (c_M_isRegister i4 q1.2).bind fun q2 =>
    if q2.1 = 0 then
      some (some (.int (-1 : Int32)), q2.2)
    else
      (c_M_isZero a0 i3 q2.2).bind fun q3 =>
      if q3.1 = 0 then
        (c_M_raiseTo a0 i1 i2 i3 (8 : Int32) q3.2).bind fun h4 =>
        (c_M_copy a0 (8 : Int32) i4 h4).bind fun h5 =>
        some (some (.int (0 : Int32)), h5)
      else
        some (some (.int (-2 : Int32)), q3.2) := (dzW_at 24 126 _ _ _ _ _).trans rfl
-- PrimeCertificatesModel.common:(III)I
theorem q_M_common_0 (a0 : Nat) (i1 : Int32) (i2 : Int32) (i3 : Int32) (h : dzH) : dzF 127 0 [(0, .ref a0), (1, .int i1), (2, .int i2), (3, .int i3)] [] (0, 0) h =
  (c_M_are i1 i2 i3 h).bind fun q1 =>
  if q1.1 = 0 then
    some (some (.int (-1 : Int32)), q1.2)
  else
    (c_M_divisor a0 i1 i2 (8 : Int32) q1.2).bind fun h2 =>
    (c_M_copy a0 (8 : Int32) i3 h2).bind fun h3 =>
    some (some (.int (0 : Int32)), h3) := (dzW_at 16 127 _ _ _ _ _).trans rfl
-- PrimeCertificatesModel.compare:(II)I
theorem q_M_compare_0 (a0 : Nat) (i1 : Int32) (i2 : Int32) (h : dzH) : dzF 128 0 [(0, .ref a0), (1, .int i1), (2, .int i2)] [] (0, 0) h =
  (c_M_isRegister i1 h).bind fun q1 =>
  if q1.1 = 0 then
    some (some (.int (2 : Int32)), q1.2)
  else
    (c_M_isRegister i2 q1.2).bind fun q2 =>
    if q2.1 = 0 then
      some (some (.int (2 : Int32)), q2.2)
    else
      (c_M_order a0 i1 i2 q2.2).bind fun q3 =>
      some (some (.int q3.1), q3.2) := (dzW_at 12 128 _ _ _ _ _).trans rfl
-- PrimeCertificatesModel.say:(I)I
theorem q_M_say_0 (a0 : Nat) (i1 : Int32) (h : dzH) : dzF 129 0 [(0, .ref a0), (1, .int i1)] [] (0, 0) h =
  (dgI h a0 1 2).bind fun v1 =>
  if v1 = (4000 : Int32) then
    some (some (.int (-3 : Int32)), h)
  else
    (dgA h a0 1 1).bind fun r2 =>
    (dgI h a0 1 2).bind fun v3 =>
    (dwI h r2 v3 i1).bind fun h4 =>
    (dgI h4 a0 1 2).bind fun v5 =>
    (dpF h4 a0 1 2 (.int (v5 + (1 : Int32)))).bind fun h6 =>
    (dgI h6 a0 1 2).bind fun v7 =>
    some (some (.int v7), h6) := (dzW_at 19 129 _ _ _ _ _).trans rfl
-- PrimeCertificatesModel.cut:(I)Z
theorem q_M_cut_0 (a0 : Nat) (i1 : Int32) (h : dzH) : dzF 130 0 [(0, .ref a0), (1, .int i1)] [] (0, 0) h =
  if i1 < 0 then
    some (some (.int (0 : Int32)), h)
  else
    (dgI h a0 1 2).bind fun v1 =>
    if i1 ≤ v1 then
      (dpF h a0 1 2 (.int i1)).bind fun h2 =>
      some (some (.int (1 : Int32)), h2)
    else
      some (some (.int (0 : Int32)), h) := (dzW_at 11 130 _ _ _ _ _).trans rfl
-- PrimeCertificatesModel.length:()I
theorem q_M_length_0 (a0 : Nat) (h : dzH) : dzF 131 0 [(0, .ref a0)] [] (0, 0) h =
  (dgI h a0 1 2).bind fun v1 =>
  some (some (.int v1), h) := (dzW_at 3 131 _ _ _ _ _).trans rfl
-- PrimeCertificatesModel.at:(I)I
theorem q_M_at_0 (a0 : Nat) (i1 : Int32) (h : dzH) : dzF 132 0 [(0, .ref a0), (1, .int i1)] [] (0, 0) h =
  if i1 < 0 then
    some (some (.int (0 : Int32)), h)
  else
    (dgI h a0 1 2).bind fun v1 =>
    if i1 < v1 then
      (dgA h a0 1 1).bind fun r2 =>
      (drI h r2 i1).bind fun v3 =>
      some (some (.int v3), h)
    else
      some (some (.int (0 : Int32)), h) := (dzW_at 12 132 _ _ _ _ _).trans rfl
-- PrimeCertificatesModel.fail:(II)V
theorem q_M_fail_0 (a0 : Nat) (i1 : Int32) (i2 : Int32) (h : dzH) : dzF 133 0 [(0, .ref a0), (1, .int i1), (2, .int i2)] [] (0, 0) h =
  (dgI h a0 1 7).bind fun v1 =>
  if v1 = 0 then
    (dpF h a0 1 7 (.int i1)).bind fun h2 =>
    (dpF h2 a0 1 3 (.int i2)).bind fun h3 =>
    some (none, h3)
  else
    some (none, h) := (dzW_at 10 133 _ _ _ _ _).trans rfl
-- PrimeCertificatesModel.isGood:()Z
theorem q_M_isGood_0 (a0 : Nat) (h : dzH) : dzF 134 0 [(0, .ref a0)] [] (0, 0) h =
  (dgI h a0 1 7).bind fun v1 =>
  if v1 = 0 then
    some (some (.int (1 : Int32)), h)
  else
    some (some (.int (0 : Int32)), h) := (dzW_at 6 134 _ _ _ _ _).trans rfl
-- PrimeCertificatesModel.next:()I
theorem q_M_next_0 (a0 : Nat) (h : dzH) : dzF 135 0 [(0, .ref a0)] [] (0, 0) h =
  (c_M_isGood a0 h).bind fun q1 =>
  if q1.1 = 0 then
    some (some (.int (0 : Int32)), q1.2)
  else
    (dgI q1.2 a0 1 6).bind fun v2 =>
    (dgI q1.2 a0 1 2).bind fun v3 =>
    if v2 = v3 then
      (dgI q1.2 a0 1 2).bind fun v4 =>
      (c_M_fail a0 (1 : Int32) v4 q1.2).bind fun h5 =>
      some (some (.int (0 : Int32)), h5)
    else
      (dgI q1.2 a0 1 6).bind fun v4 =>
      (dpF q1.2 a0 1 6 (.int (v4 + (1 : Int32)))).bind fun h5 =>
      (dgA h5 a0 1 1).bind fun r6 =>
      (dgI h5 a0 1 6).bind fun v7 =>
      (drI h5 r6 (v7 - (1 : Int32))).bind fun v8 =>
      some (some (.int v8), h5) := (dzW_at 22 135 _ _ _ _ _).trans rfl
-- PrimeCertificatesModel.nextIn:(II)I
theorem q_M_nextIn_0 (a0 : Nat) (i1 : Int32) (i2 : Int32) (h : dzH) : dzF 136 0 [(0, .ref a0), (1, .int i1), (2, .int i2)] [] (0, 0) h =
  (c_M_next a0 h).bind fun q1 =>
  (c_M_isGood a0 q1.2).bind fun q2 =>
  if q2.1 = 0 then
    some (some (.int q1.1), q2.2)
  else
    if q1.1 < i1 then
      dzF 136 22 [(0, .ref a0), (1, .int i1), (2, .int i2), (3, .int q1.1)] [] (0, 0) q2.2
    else
      if q1.1 ≤ i2 then
        some (some (.int q1.1), q2.2)
      else
        dzF 136 22 [(0, .ref a0), (1, .int i1), (2, .int i2), (3, .int q1.1)] [] (0, 0) q2.2 := (dzW_at 14 136 _ _ _ _ _).trans rfl
theorem q_M_nextIn_22 (a0 : Nat) (i1 : Int32) (i2 : Int32) (i3 : Int32) (h : dzH) : dzF 136 22 [(0, .ref a0), (1, .int i1), (2, .int i2), (3, .int i3)] [] (0, 0) h =
  (dgI h a0 1 6).bind fun v1 =>
  (c_M_fail a0 (2 : Int32) (v1 - (1 : Int32)) h).bind fun h2 =>
  some (some (.int i3), h2) := (dzW_at 9 136 _ _ _ _ _).trans rfl
-- PrimeCertificatesModel.isSmallPrime:(I)Z
theorem q_M_isSmallPrime_0 (i0 : Int32) (h : dzH) : dzF 137 0 [(0, .int i0)] [] (0, 0) h =
  if i0 ≤ (1 : Int32) then
    dzF 137 10 [(0, .int i0)] [.int (0 : Int32)] (0, 0) h
  else
    dzF 137 10 [(0, .int i0)] [.int (1 : Int32)] (0, 0) h := (dzW_at 6 137 _ _ _ _ _).trans rfl
theorem q_M_isSmallPrime_10 (i0 : Int32) (si0 : Int32) (h : dzH) : dzF 137 10 [(0, .int i0)] [.int si0] (0, 0) h =
  dzF 137 13 [(0, .int i0), (1, .int si0), (2, .int (2 : Int32))] [] (0, 0) h := (dzW_at 4 137 _ _ _ _ _).trans rfl
theorem q_M_isSmallPrime_13 (i0 : Int32) (i1 : Int32) (i2 : Int32) (h : dzH) : dzF 137 13 [(0, .int i0), (1, .int i1), (2, .int i2)] [] (0, 0) h =
  if (i2 * i2) ≤ i0 then
    if i1 = 0 then
      (dzB01 i1).bind fun b1 =>
      some (some (.int b1), h)
    else
      if i2 = 0 then none else
      if (k_irem i0 i2) = 0 then
        dzF 137 35 [(0, .int i0), (1, .int i1), (2, .int i2)] [.int (0 : Int32)] (0, 0) h
      else
        dzF 137 35 [(0, .int i0), (1, .int i1), (2, .int i2)] [.int (1 : Int32)] (0, 0) h
  else
    (dzB01 i1).bind fun b1 =>
    some (some (.int b1), h) := (dzW_at 14 137 _ _ _ _ _).trans rfl
theorem q_M_isSmallPrime_35 (i0 : Int32) (i1 : Int32) (i2 : Int32) (si0 : Int32) (h : dzH) : dzF 137 35 [(0, .int i0), (1, .int i1), (2, .int i2)] [.int si0] (0, 0) h =
  dzF 137 13 [(0, .int i0), (1, .int si0), (2, .int (i2 + (1 : Int32)))] [] (0, 0) h := (dzW_at 4 137 _ _ _ _ _).trans rfl
-- PrimeCertificatesModel.lineOne:()V
theorem q_M_lineOne_0 (a0 : Nat) (h : dzH) : dzF 138 0 [(0, .ref a0)] [] (0, 0) h =
  (c_M_next a0 h).bind fun q1 =>
  (c_M_isGood a0 q1.2).bind fun q2 =>
  if q2.1 = 0 then
    dzF 138 41 [(0, .ref a0), (1, .int q1.1)] [] (0, 0) q2.2
  else
    if q1.1 < (2 : Int32) then
      dzF 138 30 [(0, .ref a0), (1, .int q1.1)] [] (0, 0) q2.2
    else
      if q1.1 ≤ (65535 : Int32) then
        (c_M_isSmallPrime q1.1 q2.2).bind fun q3 =>
        if q3.1 = 0 then
          dzF 138 30 [(0, .ref a0), (1, .int q1.1)] [] (0, 0) q3.2
        else
          dzF 138 41 [(0, .ref a0), (1, .int q1.1)] [] (0, 0) q3.2
      else
        dzF 138 30 [(0, .ref a0), (1, .int q1.1)] [] (0, 0) q2.2 := (dzW_at 16 138 _ _ _ _ _).trans rfl
theorem q_M_lineOne_30 (a0 : Nat) (i1 : Int32) (h : dzH) : dzF 138 30 [(0, .ref a0), (1, .int i1)] [] (0, 0) h =
  (dgI h a0 1 6).bind fun v1 =>
  (c_M_fail a0 (3 : Int32) (v1 - (1 : Int32)) h).bind fun h2 =>
  dzF 138 41 [(0, .ref a0), (1, .int i1)] [] (0, 0) h2 := (dzW_at 8 138 _ _ _ _ _).trans rfl
theorem q_M_lineOne_41 (a0 : Nat) (i1 : Int32) (h : dzH) : dzF 138 41 [(0, .ref a0), (1, .int i1)] [] (0, 0) h =
  (dgI h a0 1 4).bind fun v1 =>
  (c_M_set a0 ((32 : Int32) + v1) (Int32.toInt64 i1) h).bind fun h2 =>
  some (none, h2) := (dzW_at 9 138 _ _ _ _ _).trans rfl
-- PrimeCertificatesModel.number:()V
theorem q_M_number_0 (a0 : Nat) (h : dzH) : dzF 139 0 [(0, .ref a0)] [] (0, 0) h =
  (dgI h a0 1 6).bind fun v1 =>
  (c_M_nextIn a0 (1 : Int32) (8 : Int32) h).bind fun q2 =>
  (c_M_set a0 (10 : Int32) (0 : Int64) q2.2).bind fun h3 =>
  dzF 139 25 [(0, .ref a0), (1, .int v1), (2, .int q2.1), (3, .int (1 : Int32)), (4, .int (0 : Int32))] [] (0, 0) h3 := (dzW_at 17 139 _ _ _ _ _).trans rfl
theorem q_M_number_25 (a0 : Nat) (i1 : Int32) (i2 : Int32) (i3 : Int32) (i4 : Int32) (h : dzH) : dzF 139 25 [(0, .ref a0), (1, .int i1), (2, .int i2), (3, .int i3), (4, .int i4)] [] (0, 0) h =
  if i4 < i2 then
    (c_M_isGood a0 h).bind fun q1 =>
    if q1.1 = 0 then
      dzF 139 85 [(0, .ref a0), (1, .int i1), (2, .int i2), (3, .int i3), (4, .int i4)] [] (0, 0) q1.2
    else
      (c_M_next a0 q1.2).bind fun q2 =>
      (dgA q2.2 a0 1 0).bind fun r3 =>
      (dwI q2.2 r3 ((400 : Int32) + ((2 : Int32) * i4)) (q2.1 &&& (65535 : Int32))).bind fun h4 =>
      (dgA h4 a0 1 0).bind fun r5 =>
      (dwI h4 r5 (((400 : Int32) + ((2 : Int32) * i4)) + (1 : Int32)) (k_iushr q2.1 (16 : Int32))).bind fun h6 =>
      dzF 139 25 [(0, .ref a0), (1, .int i1), (2, .int i2), (3, .int q2.1), (4, .int (i4 + (1 : Int32)))] [] (0, 0) h6
  else
    dzF 139 85 [(0, .ref a0), (1, .int i1), (2, .int i2), (3, .int i3), (4, .int i4)] [] (0, 0) h := (dzW_at 36 139 _ _ _ _ _).trans rfl
theorem q_M_number_85 (a0 : Nat) (i1 : Int32) (i2 : Int32) (i3 : Int32) (i4 : Int32) (h : dzH) : dzF 139 85 [(0, .ref a0), (1, .int i1), (2, .int i2), (3, .int i3), (4, .int i4)] [] (0, 0) h =
  (c_M_isGood a0 h).bind fun q1 =>
  if q1.1 = 0 then
    dzF 139 107 [(0, .ref a0), (1, .int i1), (2, .int i2), (3, .int i3), (4, .int i4)] [] (0, 0) q1.2
  else
    if i3 = 0 then
      (dgI q1.2 a0 1 6).bind fun v2 =>
      (c_M_fail a0 (2 : Int32) (v2 - (1 : Int32)) q1.2).bind fun h3 =>
      dzF 139 107 [(0, .ref a0), (1, .int i1), (2, .int i2), (3, .int i3), (4, .int i4)] [] (0, 0) h3
    else
      dzF 139 107 [(0, .ref a0), (1, .int i1), (2, .int i2), (3, .int i3), (4, .int i4)] [] (0, 0) q1.2 := (dzW_at 13 139 _ _ _ _ _).trans rfl
theorem q_M_number_107 (a0 : Nat) (i1 : Int32) (i2 : Int32) (i3 : Int32) (i4 : Int32) (h : dzH) : dzF 139 107 [(0, .ref a0), (1, .int i1), (2, .int i2), (3, .int i3), (4, .int i4)] [] (0, 0) h =
  (c_M_set a0 (8 : Int32) (3 : Int64) h).bind fun h1 =>
  (c_M_isGood a0 h1).bind fun q2 =>
  if q2.1 = 0 then
    dzF 139 140 [(0, .ref a0), (1, .int i1), (2, .int i2), (3, .int i3), (4, .int i4)] [] (0, 0) q2.2
  else
    (c_M_order a0 (10 : Int32) (8 : Int32) q2.2).bind fun q3 =>
    if q3.1 < 0 then
      (c_M_fail a0 (4 : Int32) i1 q3.2).bind fun h4 =>
      dzF 139 140 [(0, .ref a0), (1, .int i1), (2, .int i2), (3, .int i3), (4, .int i4)] [] (0, 0) h4
    else
      dzF 139 140 [(0, .ref a0), (1, .int i1), (2, .int i2), (3, .int i3), (4, .int i4)] [] (0, 0) q3.2 := (dzW_at 17 139 _ _ _ _ _).trans rfl
theorem q_M_number_140 (a0 : Nat) (i1 : Int32) (i2 : Int32) (i3 : Int32) (i4 : Int32) (h : dzH) : dzF 139 140 [(0, .ref a0), (1, .int i1), (2, .int i2), (3, .int i3), (4, .int i4)] [] (0, 0) h =
  (c_M_copy a0 (10 : Int32) (11 : Int32) h).bind fun h1 =>
  (c_M_isGood a0 h1).bind fun q2 =>
  if q2.1 = 0 then
    some (none, q2.2)
  else
    (c_M_lower a0 (11 : Int32) (21 : Int32) q2.2).bind fun h3 =>
    some (none, h3) := (dzW_at 12 139 _ _ _ _ _).trans rfl
-- PrimeCertificatesModel.witness:(I)V
theorem q_M_witness_0 (a0 : Nat) (i1 : Int32) (h : dzH) : dzF 140 0 [(0, .ref a0), (1, .int i1)] [] (0, 0) h =
  (dgA h a0 1 1).bind fun r1 =>
  (drI h r1 i1).bind fun v2 =>
  (c_M_set a0 (14 : Int32) (Int32.toInt64 v2) h).bind fun h3 =>
  (dgA h3 a0 1 1).bind fun r4 =>
  (drI h3 r4 i1).bind fun v5 =>
  if v5 < (2 : Int32) then
    dzF 140 34 [(0, .ref a0), (1, .int i1)] [] (0, 0) h3
  else
    (c_M_order a0 (14 : Int32) (10 : Int32) h3).bind fun q6 =>
    if q6.1 < 0 then
      some (none, q6.2)
    else
      dzF 140 34 [(0, .ref a0), (1, .int i1)] [] (0, 0) q6.2 := (dzW_at 20 140 _ _ _ _ _).trans rfl
theorem q_M_witness_34 (a0 : Nat) (i1 : Int32) (h : dzH) : dzF 140 34 [(0, .ref a0), (1, .int i1)] [] (0, 0) h =
  (c_M_fail a0 (8 : Int32) i1 h).bind fun h1 =>
  some (none, h1) := (dzW_at 5 140 _ _ _ _ _).trans rfl
-- PrimeCertificatesModel.factors:(I)V
theorem q_M_factors_0 (a0 : Nat) (i1 : Int32) (h : dzH) : dzF 141 0 [(0, .ref a0), (1, .int i1)] [] (0, 0) h =
  (c_M_nextIn a0 (1 : Int32) (40 : Int32) h).bind fun q1 =>
  dzF 141 10 [(0, .ref a0), (1, .int i1), (2, .int q1.1), (3, .int (0 : Int32))] [] (0, 0) q1.2 := (dzW_at 8 141 _ _ _ _ _).trans rfl
set_option maxRecDepth 100000 in
theorem q_M_factors_10 (a0 : Nat) (i1 : Int32) (i2 : Int32) (i3 : Int32) (h : dzH) : dzF 141 10 [(0, .ref a0), (1, .int i1), (2, .int i2), (3, .int i3)] [] (0, 0) h =
  if i3 < i2 then
    (c_M_isGood a0 h).bind fun q1 =>
    if q1.1 = 0 then
      some (none, q1.2)
    else
      (dgI q1.2 a0 1 4).bind fun v2 =>
      (c_M_nextIn a0 (0 : Int32) (v2 - (1 : Int32)) q1.2).bind fun q3 =>
      (c_M_isGood a0 q3.2).bind fun q4 =>
      if q4.1 = 0 then
        dzF 141 85 [(0, .ref a0), (1, .int i1), (2, .int i2), (3, .int i3), (4, .int q3.1)] [] (0, 0) q4.2
      else
        if i3 ≤ 0 then
          dzF 141 85 [(0, .ref a0), (1, .int i1), (2, .int i2), (3, .int i3), (4, .int q3.1)] [] (0, 0) q4.2
        else
          (dgA q4.2 a0 1 1).bind fun r5 =>
          (dgI q4.2 a0 1 6).bind fun v6 =>
          (drI q4.2 r5 ((v6 - (1 : Int32)) - i1)).bind fun v7 =>
          (c_M_order a0 ((32 : Int32) + v7) ((32 : Int32) + q3.1) q4.2).bind fun q8 =>
          if q8.1 < 0 then
            dzF 141 85 [(0, .ref a0), (1, .int i1), (2, .int i2), (3, .int i3), (4, .int q3.1)] [] (0, 0) q8.2
          else
            (dgI q8.2 a0 1 6).bind fun v9 =>
            (c_M_fail a0 (5 : Int32) (v9 - (1 : Int32)) q8.2).bind fun h10 =>
            dzF 141 85 [(0, .ref a0), (1, .int i1), (2, .int i2), (3, .int i3), (4, .int q3.1)] [] (0, 0) h10
  else
    some (none, h) := (dzW_at 44 141 _ _ _ _ _).trans rfl
theorem q_M_factors_85 (a0 : Nat) (i1 : Int32) (i2 : Int32) (i3 : Int32) (i4 : Int32) (h : dzH) : dzF 141 85 [(0, .ref a0), (1, .int i1), (2, .int i2), (3, .int i3), (4, .int i4)] [] (0, 0) h =
  (c_M_nextIn a0 (1 : Int32) (255 : Int32) h).bind fun q1 =>
  if i1 = (3 : Int32) then
    (c_M_next a0 q1.2).bind fun q2 =>
    dzF 141 104 [(0, .ref a0), (1, .int i1), (2, .int i2), (3, .int i3), (4, .int i4)] [] (0, 0) q2.2
  else
    dzF 141 104 [(0, .ref a0), (1, .int i1), (2, .int i2), (3, .int i3), (4, .int i4)] [] (0, 0) q1.2 := (dzW_at 12 141 _ _ _ _ _).trans rfl
theorem q_M_factors_104 (a0 : Nat) (i1 : Int32) (i2 : Int32) (i3 : Int32) (i4 : Int32) (h : dzH) : dzF 141 104 [(0, .ref a0), (1, .int i1), (2, .int i2), (3, .int i3), (4, .int i4)] [] (0, 0) h =
  dzF 141 10 [(0, .ref a0), (1, .int i1), (2, .int i2), (3, .int (i3 + (1 : Int32)))] [] (0, 0) h := (dzW_at 3 141 _ _ _ _ _).trans rfl
-- PrimeCertificatesModel.product:(II)Z
theorem q_M_product_0 (a0 : Nat) (i1 : Int32) (i2 : Int32) (h : dzH) : dzF 142 0 [(0, .ref a0), (1, .int i1), (2, .int i2)] [] (0, 0) h =
  (c_M_set a0 (13 : Int32) (1 : Int64) h).bind fun h1 =>
  dzF 142 9 [(0, .ref a0), (1, .int i1), (2, .int i2), (3, .int (0 : Int32))] [] (0, 0) h1 := (dzW_at 7 142 _ _ _ _ _).trans rfl
theorem q_M_product_9 (a0 : Nat) (i1 : Int32) (i2 : Int32) (i3 : Int32) (h : dzH) : dzF 142 9 [(0, .ref a0), (1, .int i1), (2, .int i2), (3, .int i3)] [] (0, 0) h =
  (dgA h a0 1 1).bind fun r1 =>
  (drI h r1 i1).bind fun v2 =>
  if i3 < v2 then
    (dgA h a0 1 1).bind fun r3 =>
    (drI h r3 ((i1 + (1 : Int32)) + (i2 * i3))).bind fun v4 =>
    (dgA h a0 1 1).bind fun r5 =>
    (drI h r5 ((i1 + (2 : Int32)) + (i2 * i3))).bind fun v6 =>
    dzF 142 47 [(0, .ref a0), (1, .int i1), (2, .int i2), (3, .int i3), (4, .int v4), (5, .int v6)] [] (0, 0) h
  else
    some (some (.int (1 : Int32)), h) := (dzW_at 29 142 _ _ _ _ _).trans rfl
theorem q_M_product_47 (a0 : Nat) (i1 : Int32) (i2 : Int32) (i3 : Int32) (i4 : Int32) (i5 : Int32) (h : dzH) : dzF 142 47 [(0, .ref a0), (1, .int i1), (2, .int i2), (3, .int i3), (4, .int i4), (5, .int i5)] [] (0, 0) h =
  if i5 ≤ 0 then
    dzF 142 9 [(0, .ref a0), (1, .int i1), (2, .int i2), (3, .int (i3 + (1 : Int32)))] [] (0, 0) h
  else
    (c_M_times a0 (13 : Int32) ((32 : Int32) + i4) (8 : Int32) h).bind fun h1 =>
    (c_M_fits a0 (8 : Int32) h1).bind fun q2 =>
    if q2.1 = 0 then
      some (some (.int (0 : Int32)), q2.2)
    else
      (c_M_copy a0 (8 : Int32) (13 : Int32) q2.2).bind fun h3 =>
      dzF 142 47 [(0, .ref a0), (1, .int i1), (2, .int i2), (3, .int i3), (4, .int i4), (5, .int (i5 + (-1 : Int32)))] [] (0, 0) h3 := (dzW_at 20 142 _ _ _ _ _).trans rfl
-- PrimeCertificatesModel.isWhole:()Z
theorem q_M_isWhole_0 (a0 : Nat) (h : dzH) : dzF 143 0 [(0, .ref a0)] [] (0, 0) h =
  (c_M_raiseTo a0 (14 : Int32) (11 : Int32) (10 : Int32) (16 : Int32) h).bind fun h1 =>
  (c_M_isOne a0 (16 : Int32) h1).bind fun q2 =>
  (dzB01 q2.1).bind fun b3 =>
  some (some (.int b3), q2.2) := (dzW_at 10 143 _ _ _ _ _).trans rfl
-- PrimeCertificatesModel.isRight:(IZ)Z
theorem q_M_isRight_0 (a0 : Nat) (i1 : Int32) (i2 : Int32) (h : dzH) : dzF 144 0 [(0, .ref a0), (1, .int i1), (2, .int i2)] [] (0, 0) h =
  (c_M_part a0 (11 : Int32) ((32 : Int32) + i1) (15 : Int32) (16 : Int32) h).bind fun h1 =>
  (c_M_raiseTo a0 (14 : Int32) (15 : Int32) (10 : Int32) (16 : Int32) h1).bind fun h2 =>
  if i2 = 0 then
    (c_M_isOne a0 (16 : Int32) h2).bind fun q3 =>
    if q3.1 = 0 then
      some (some (.int (1 : Int32)), q3.2)
    else
      some (some (.int (0 : Int32)), q3.2)
  else
    (c_M_isZero a0 (16 : Int32) h2).bind fun q3 =>
    if q3.1 = 0 then
      dzF 144 62 [(0, .ref a0), (1, .int i1), (2, .int i2)] [] (0, 0) q3.2
    else
      (c_M_copy a0 (10 : Int32) (16 : Int32) q3.2).bind fun h4 =>
      dzF 144 62 [(0, .ref a0), (1, .int i1), (2, .int i2)] [] (0, 0) h4 := (dzW_at 25 144 _ _ _ _ _).trans rfl
theorem q_M_isRight_62 (a0 : Nat) (i1 : Int32) (i2 : Int32) (h : dzH) : dzF 144 62 [(0, .ref a0), (1, .int i1), (2, .int i2)] [] (0, 0) h =
  (c_M_lower a0 (16 : Int32) (21 : Int32) h).bind fun h1 =>
  (c_M_divisor a0 (16 : Int32) (10 : Int32) (22 : Int32) h1).bind fun h2 =>
  (c_M_isOne a0 (22 : Int32) h2).bind fun q3 =>
  (dzB01 q3.1).bind fun b4 =>
  some (some (.int b4), q3.2) := (dzW_at 13 144 _ _ _ _ _).trans rfl
-- PrimeCertificatesModel.lineTwo:()V
theorem q_M_lineTwo_0 (a0 : Nat) (h : dzH) : dzF 145 0 [(0, .ref a0)] [] (0, 0) h =
  (c_M_number a0 h).bind fun h1 =>
  (dgI h1 a0 1 6).bind fun v2 =>
  (c_M_next a0 h1).bind fun q3 =>
  (c_M_isGood a0 q3.2).bind fun q4 =>
  if q4.1 = 0 then
    dzF 145 26 [(0, .ref a0), (1, .int v2)] [] (0, 0) q4.2
  else
    (c_M_witness a0 v2 q4.2).bind fun h5 =>
    dzF 145 26 [(0, .ref a0), (1, .int v2)] [] (0, 0) h5 := (dzW_at 15 145 _ _ _ _ _).trans rfl
theorem q_M_lineTwo_26 (a0 : Nat) (i1 : Int32) (h : dzH) : dzF 145 26 [(0, .ref a0), (1, .int i1)] [] (0, 0) h =
  (dgI h a0 1 6).bind fun v1 =>
  (c_M_factors a0 (2 : Int32) h).bind fun h2 =>
  (c_M_isGood a0 h2).bind fun q3 =>
  if q3.1 = 0 then
    some (none, q3.2)
  else
    (c_M_product a0 v1 (2 : Int32) q3.2).bind fun q4 =>
    if q4.1 = 0 then
      dzF 145 64 [(0, .ref a0), (1, .int i1), (2, .int v1)] [] (0, 0) q4.2
    else
      (c_M_order a0 (13 : Int32) (11 : Int32) q4.2).bind fun q5 =>
      if q5.1 = 0 then
        dzF 145 71 [(0, .ref a0), (1, .int i1), (2, .int v1)] [] (0, 0) q5.2
      else
        dzF 145 64 [(0, .ref a0), (1, .int i1), (2, .int v1)] [] (0, 0) q5.2 := (dzW_at 20 145 _ _ _ _ _).trans rfl
theorem q_M_lineTwo_64 (a0 : Nat) (i1 : Int32) (i2 : Int32) (h : dzH) : dzF 145 64 [(0, .ref a0), (1, .int i1), (2, .int i2)] [] (0, 0) h =
  (c_M_fail a0 (6 : Int32) i2 h).bind fun h1 =>
  dzF 145 71 [(0, .ref a0), (1, .int i1), (2, .int i2)] [] (0, 0) h1 := (dzW_at 5 145 _ _ _ _ _).trans rfl
theorem q_M_lineTwo_71 (a0 : Nat) (i1 : Int32) (i2 : Int32) (h : dzH) : dzF 145 71 [(0, .ref a0), (1, .int i1), (2, .int i2)] [] (0, 0) h =
  (dgA h a0 1 1).bind fun r1 =>
  (drI h r1 i1).bind fun v2 =>
  (c_M_set a0 (14 : Int32) (Int32.toInt64 v2) h).bind fun h3 =>
  (c_M_isGood a0 h3).bind fun q4 =>
  if q4.1 = 0 then
    dzF 145 105 [(0, .ref a0), (1, .int i1), (2, .int i2)] [] (0, 0) q4.2
  else
    (c_M_isWhole a0 q4.2).bind fun q5 =>
    if q5.1 = 0 then
      (c_M_fail a0 (9 : Int32) i1 q5.2).bind fun h6 =>
      dzF 145 105 [(0, .ref a0), (1, .int i1), (2, .int i2)] [] (0, 0) h6
    else
      dzF 145 105 [(0, .ref a0), (1, .int i1), (2, .int i2)] [] (0, 0) q5.2 := (dzW_at 19 145 _ _ _ _ _).trans rfl
theorem q_M_lineTwo_105 (a0 : Nat) (i1 : Int32) (i2 : Int32) (h : dzH) : dzF 145 105 [(0, .ref a0), (1, .int i1), (2, .int i2)] [] (0, 0) h =
  dzF 145 107 [(0, .ref a0), (1, .int i1), (2, .int i2), (3, .int (0 : Int32))] [] (0, 0) h := (dzW_at 3 145 _ _ _ _ _).trans rfl
theorem q_M_lineTwo_107 (a0 : Nat) (i1 : Int32) (i2 : Int32) (i3 : Int32) (h : dzH) : dzF 145 107 [(0, .ref a0), (1, .int i1), (2, .int i2), (3, .int i3)] [] (0, 0) h =
  (dgA h a0 1 1).bind fun r1 =>
  (drI h r1 i2).bind fun v2 =>
  if i3 < v2 then
    (c_M_isGood a0 h).bind fun q3 =>
    if q3.1 = 0 then
      dzF 145 163 [(0, .ref a0), (1, .int i1), (2, .int i2), (3, .int i3)] [] (0, 0) q3.2
    else
      (dgA q3.2 a0 1 1).bind fun r4 =>
      (drI q3.2 r4 ((i2 + (1 : Int32)) + ((2 : Int32) * i3))).bind fun v5 =>
      (c_M_isRight a0 v5 (0 : Int32) q3.2).bind fun q6 =>
      if q6.1 = 0 then
        (c_M_fail a0 (10 : Int32) ((i2 + (1 : Int32)) + ((2 : Int32) * i3)) q6.2).bind fun h7 =>
        dzF 145 157 [(0, .ref a0), (1, .int i1), (2, .int i2), (3, .int i3)] [] (0, 0) h7
      else
        dzF 145 157 [(0, .ref a0), (1, .int i1), (2, .int i2), (3, .int i3)] [] (0, 0) q6.2
  else
    dzF 145 163 [(0, .ref a0), (1, .int i1), (2, .int i2), (3, .int i3)] [] (0, 0) h := (dzW_at 34 145 _ _ _ _ _).trans rfl
theorem q_M_lineTwo_157 (a0 : Nat) (i1 : Int32) (i2 : Int32) (i3 : Int32) (h : dzH) : dzF 145 157 [(0, .ref a0), (1, .int i1), (2, .int i2), (3, .int i3)] [] (0, 0) h =
  dzF 145 107 [(0, .ref a0), (1, .int i1), (2, .int i2), (3, .int (i3 + (1 : Int32)))] [] (0, 0) h := (dzW_at 3 145 _ _ _ _ _).trans rfl
theorem q_M_lineTwo_163 (a0 : Nat) (i1 : Int32) (i2 : Int32) (i3 : Int32) (h : dzH) : dzF 145 163 [(0, .ref a0), (1, .int i1), (2, .int i2), (3, .int i3)] [] (0, 0) h =
  (dgI h a0 1 4).bind fun v1 =>
  (c_M_copy a0 (10 : Int32) ((32 : Int32) + v1) h).bind fun h2 =>
  some (none, h2) := (dzW_at 8 145 _ _ _ _ _).trans rfl
-- PrimeCertificatesModel.lineThree:()V
theorem q_M_lineThree_0 (a0 : Nat) (h : dzH) : dzF 146 0 [(0, .ref a0)] [] (0, 0) h =
  (c_M_number a0 h).bind fun h1 =>
  (dgI h1 a0 1 6).bind fun v2 =>
  (c_M_factors a0 (3 : Int32) h1).bind fun h3 =>
  (c_M_isGood a0 h3).bind fun q4 =>
  if q4.1 = 0 then
    some (none, q4.2)
  else
    (c_M_product a0 v2 (3 : Int32) q4.2).bind fun q5 =>
    if q5.1 = 0 then
      (c_M_copy a0 (21 : Int32) (16 : Int32) q5.2).bind fun h6 =>
      dzF 146 54 [(0, .ref a0), (1, .int v2)] [] (0, 0) h6
    else
      (c_M_part a0 (11 : Int32) (13 : Int32) (15 : Int32) (16 : Int32) q5.2).bind fun h6 =>
      dzF 146 54 [(0, .ref a0), (1, .int v2)] [] (0, 0) h6 := (dzW_at 24 146 _ _ _ _ _).trans rfl
theorem q_M_lineThree_54 (a0 : Nat) (i1 : Int32) (h : dzH) : dzF 146 54 [(0, .ref a0), (1, .int i1)] [] (0, 0) h =
  (c_M_isZero a0 (16 : Int32) h).bind fun q1 =>
  if q1.1 = 0 then
    (c_M_fail a0 (6 : Int32) i1 q1.2).bind fun h2 =>
    dzF 146 70 [(0, .ref a0), (1, .int i1)] [] (0, 0) h2
  else
    dzF 146 70 [(0, .ref a0), (1, .int i1)] [] (0, 0) q1.2 := (dzW_at 9 146 _ _ _ _ _).trans rfl
theorem q_M_lineThree_70 (a0 : Nat) (i1 : Int32) (h : dzH) : dzF 146 70 [(0, .ref a0), (1, .int i1)] [] (0, 0) h =
  (c_M_times a0 (13 : Int32) (13 : Int32) (8 : Int32) h).bind fun h1 =>
  (c_M_order a0 (8 : Int32) (10 : Int32) h1).bind fun q2 =>
  if q2.1 ≤ 0 then
    (c_M_fail a0 (7 : Int32) i1 q2.2).bind fun h3 =>
    dzF 146 98 [(0, .ref a0), (1, .int i1)] [] (0, 0) h3
  else
    dzF 146 98 [(0, .ref a0), (1, .int i1)] [] (0, 0) q2.2 := (dzW_at 15 146 _ _ _ _ _).trans rfl
theorem q_M_lineThree_98 (a0 : Nat) (i1 : Int32) (h : dzH) : dzF 146 98 [(0, .ref a0), (1, .int i1)] [] (0, 0) h =
  dzF 146 100 [(0, .ref a0), (1, .int i1), (2, .int (0 : Int32))] [] (0, 0) h := (dzW_at 3 146 _ _ _ _ _).trans rfl
theorem q_M_lineThree_100 (a0 : Nat) (i1 : Int32) (i2 : Int32) (h : dzH) : dzF 146 100 [(0, .ref a0), (1, .int i1), (2, .int i2)] [] (0, 0) h =
  (dgA h a0 1 1).bind fun r1 =>
  (drI h r1 i1).bind fun v2 =>
  if i2 < v2 then
    (c_M_isGood a0 h).bind fun q3 =>
    if q3.1 = 0 then
      dzF 146 134 [(0, .ref a0), (1, .int i1), (2, .int i2)] [] (0, 0) q3.2
    else
      (c_M_witness a0 ((i1 + (3 : Int32)) + ((3 : Int32) * i2)) q3.2).bind fun h4 =>
      dzF 146 100 [(0, .ref a0), (1, .int i1), (2, .int (i2 + (1 : Int32)))] [] (0, 0) h4
  else
    dzF 146 134 [(0, .ref a0), (1, .int i1), (2, .int i2)] [] (0, 0) h := (dzW_at 21 146 _ _ _ _ _).trans rfl
theorem q_M_lineThree_134 (a0 : Nat) (i1 : Int32) (i2 : Int32) (h : dzH) : dzF 146 134 [(0, .ref a0), (1, .int i1), (2, .int i2)] [] (0, 0) h =
  dzF 146 136 [(0, .ref a0), (1, .int i1), (2, .int (0 : Int32))] [] (0, 0) h := (dzW_at 3 146 _ _ _ _ _).trans rfl
set_option maxRecDepth 100000 in
theorem q_M_lineThree_136 (a0 : Nat) (i1 : Int32) (i2 : Int32) (h : dzH) : dzF 146 136 [(0, .ref a0), (1, .int i1), (2, .int i2)] [] (0, 0) h =
  (dgA h a0 1 1).bind fun r1 =>
  (drI h r1 i1).bind fun v2 =>
  if i2 < v2 then
    (c_M_isGood a0 h).bind fun q3 =>
    if q3.1 = 0 then
      dzF 146 234 [(0, .ref a0), (1, .int i1), (2, .int i2)] [] (0, 0) q3.2
    else
      (dgA q3.2 a0 1 1).bind fun r4 =>
      (drI q3.2 r4 ((i1 + (3 : Int32)) + ((3 : Int32) * i2))).bind fun v5 =>
      (c_M_set a0 (14 : Int32) (Int32.toInt64 v5) q3.2).bind fun h6 =>
      (c_M_isWhole a0 h6).bind fun q7 =>
      if q7.1 = 0 then
        (c_M_fail a0 (9 : Int32) ((i1 + (3 : Int32)) + ((3 : Int32) * i2)) q7.2).bind fun h8 =>
        dzF 146 228 [(0, .ref a0), (1, .int i1), (2, .int i2)] [] (0, 0) h8
      else
        (dgA q7.2 a0 1 1).bind fun r8 =>
        (drI q7.2 r8 ((i1 + (1 : Int32)) + ((3 : Int32) * i2))).bind fun v9 =>
        (c_M_isRight a0 v9 (1 : Int32) q7.2).bind fun q10 =>
        if q10.1 = 0 then
          (c_M_fail a0 (10 : Int32) ((i1 + (1 : Int32)) + ((3 : Int32) * i2)) q10.2).bind fun h11 =>
          dzF 146 228 [(0, .ref a0), (1, .int i1), (2, .int i2)] [] (0, 0) h11
        else
          dzF 146 228 [(0, .ref a0), (1, .int i1), (2, .int i2)] [] (0, 0) q10.2
  else
    dzF 146 234 [(0, .ref a0), (1, .int i1), (2, .int i2)] [] (0, 0) h := (dzW_at 51 146 _ _ _ _ _).trans rfl
theorem q_M_lineThree_228 (a0 : Nat) (i1 : Int32) (i2 : Int32) (h : dzH) : dzF 146 228 [(0, .ref a0), (1, .int i1), (2, .int i2)] [] (0, 0) h =
  dzF 146 136 [(0, .ref a0), (1, .int i1), (2, .int (i2 + (1 : Int32)))] [] (0, 0) h := (dzW_at 3 146 _ _ _ _ _).trans rfl
theorem q_M_lineThree_234 (a0 : Nat) (i1 : Int32) (i2 : Int32) (h : dzH) : dzF 146 234 [(0, .ref a0), (1, .int i1), (2, .int i2)] [] (0, 0) h =
  (dgI h a0 1 4).bind fun v1 =>
  (c_M_copy a0 (10 : Int32) ((32 : Int32) + v1) h).bind fun h2 =>
  some (none, h2) := (dzW_at 8 146 _ _ _ _ _).trans rfl
-- PrimeCertificatesModel.check:()I
theorem q_M_check_0 (a0 : Nat) (h : dzH) : dzF 147 0 [(0, .ref a0)] [] (0, 0) h =
  (dpF h a0 1 5 (.int (0 : Int32))).bind fun h1 =>
  (dpF h1 a0 1 3 (.int (-2 : Int32))).bind fun h2 =>
  (dpF h2 a0 1 7 (.int (0 : Int32))).bind fun h3 =>
  (dpF h3 a0 1 6 (.int (0 : Int32))).bind fun h4 =>
  (dpF h4 a0 1 4 (.int (0 : Int32))).bind fun h5 =>
  dzF 147 26 [(0, .ref a0)] [] (0, 0) h5 := (dzW_at 16 147 _ _ _ _ _).trans rfl
theorem q_M_check_26 (a0 : Nat) (h : dzH) : dzF 147 26 [(0, .ref a0)] [] (0, 0) h =
  (c_M_isGood a0 h).bind fun q1 =>
  if q1.1 = 0 then
    dzF 147 128 [(0, .ref a0)] [] (0, 0) q1.2
  else
    (dgI q1.2 a0 1 6).bind fun v2 =>
    (dgI q1.2 a0 1 2).bind fun v3 =>
    if v2 < v3 then
      (dgI q1.2 a0 1 4).bind fun v4 =>
      if v4 = (200 : Int32) then
        (dgI q1.2 a0 1 6).bind fun v5 =>
        (c_M_fail a0 (2 : Int32) v5 q1.2).bind fun h6 =>
        dzF 147 63 [(0, .ref a0)] [] (0, 0) h6
      else
        dzF 147 63 [(0, .ref a0)] [] (0, 0) q1.2
    else
      dzF 147 128 [(0, .ref a0)] [] (0, 0) q1.2 := (dzW_at 18 147 _ _ _ _ _).trans rfl
theorem q_M_check_63 (a0 : Nat) (h : dzH) : dzF 147 63 [(0, .ref a0)] [] (0, 0) h =
  (c_M_nextIn a0 (1 : Int32) (3 : Int32) h).bind fun q1 =>
  (c_M_isGood a0 q1.2).bind fun q2 =>
  if q2.1 = 0 then
    dzF 147 26 [(0, .ref a0)] [] (0, 0) q2.2
  else
    if q1.1 = (1 : Int32) then
      (c_M_lineOne a0 q2.2).bind fun h3 =>
      dzF 147 108 [(0, .ref a0), (1, .int q1.1)] [] (0, 0) h3
    else
      if q1.1 = (2 : Int32) then
        (c_M_lineTwo a0 q2.2).bind fun h3 =>
        dzF 147 108 [(0, .ref a0), (1, .int q1.1)] [] (0, 0) h3
      else
        (c_M_lineThree a0 q2.2).bind fun h3 =>
        dzF 147 108 [(0, .ref a0), (1, .int q1.1)] [] (0, 0) h3 := (dzW_at 18 147 _ _ _ _ _).trans rfl
theorem q_M_check_108 (a0 : Nat) (i1 : Int32) (h : dzH) : dzF 147 108 [(0, .ref a0), (1, .int i1)] [] (0, 0) h =
  (c_M_isGood a0 h).bind fun q1 =>
  if q1.1 = 0 then
    dzF 147 125 [(0, .ref a0), (1, .int i1)] [] (0, 0) q1.2
  else
    (dgI q1.2 a0 1 4).bind fun v2 =>
    (dpF q1.2 a0 1 4 (.int (v2 + (1 : Int32)))).bind fun h3 =>
    dzF 147 125 [(0, .ref a0), (1, .int i1)] [] (0, 0) h3 := (dzW_at 10 147 _ _ _ _ _).trans rfl
theorem q_M_check_125 (a0 : Nat) (i1 : Int32) (h : dzH) : dzF 147 125 [(0, .ref a0), (1, .int i1)] [] (0, 0) h =
  dzF 147 26 [(0, .ref a0)] [] (0, 0) h := (dzW_at 2 147 _ _ _ _ _).trans rfl
theorem q_M_check_128 (a0 : Nat) (h : dzH) : dzF 147 128 [(0, .ref a0)] [] (0, 0) h =
  (c_M_isGood a0 h).bind fun q1 =>
  if q1.1 = 0 then
    (dgI q1.2 a0 1 7).bind fun v2 =>
    some (some (.int ((-100 : Int32) - v2)), q1.2)
  else
    (dgI q1.2 a0 1 4).bind fun v2 =>
    (dpF q1.2 a0 1 5 (.int v2)).bind fun h3 =>
    (dgI h3 a0 1 4).bind fun v4 =>
    some (some (.int v4), h3) := (dzW_at 10 147 _ _ _ _ _).trans rfl
-- PrimeCertificatesModel.place:()I
theorem q_M_place_0 (a0 : Nat) (h : dzH) : dzF 148 0 [(0, .ref a0)] [] (0, 0) h =
  (dgI h a0 1 3).bind fun v1 =>
  some (some (.int v1), h) := (dzW_at 3 148 _ _ _ _ _).trans rfl
-- PrimeCertificatesModel.tell:(II)Z
theorem q_M_tell_0 (a0 : Nat) (i1 : Int32) (i2 : Int32) (h : dzH) : dzF 149 0 [(0, .ref a0), (1, .int i1), (2, .int i2)] [] (0, 0) h =
  if i1 < 0 then
    some (some (.int (0 : Int32)), h)
  else
    (dgI h a0 1 5).bind fun v1 =>
    if i1 < v1 then
      (c_M_isRegister i2 h).bind fun q2 =>
      if q2.1 = 0 then
        some (some (.int (0 : Int32)), q2.2)
      else
        (c_M_copy a0 ((32 : Int32) + i1) i2 q2.2).bind fun h3 =>
        some (some (.int (1 : Int32)), h3)
    else
      some (some (.int (0 : Int32)), h) := (dzW_at 17 149 _ _ _ _ _).trans rfl
-- PrimeCertificatesModel.lineOf:(I)I
theorem q_M_lineOf_0 (a0 : Nat) (i1 : Int32) (h : dzH) : dzF 150 0 [(0, .ref a0), (1, .int i1)] [] (0, 0) h =
  dzF 150 2 [(0, .ref a0), (1, .int i1), (2, .int (0 : Int32))] [] (0, 0) h := (dzW_at 3 150 _ _ _ _ _).trans rfl
theorem q_M_lineOf_2 (a0 : Nat) (i1 : Int32) (i2 : Int32) (h : dzH) : dzF 150 2 [(0, .ref a0), (1, .int i1), (2, .int i2)] [] (0, 0) h =
  (dgI h a0 1 4).bind fun v1 =>
  if i2 < v1 then
    (c_M_order a0 ((32 : Int32) + i2) i1 h).bind fun q2 =>
    if q2.1 = 0 then
      dzF 150 28 [(0, .ref a0), (1, .int i1), (2, .int i2)] [] (0, 0) q2.2
    else
      dzF 150 2 [(0, .ref a0), (1, .int i1), (2, .int (i2 + (1 : Int32)))] [] (0, 0) q2.2
  else
    dzF 150 28 [(0, .ref a0), (1, .int i1), (2, .int i2)] [] (0, 0) h := (dzW_at 14 150 _ _ _ _ _).trans rfl
theorem q_M_lineOf_28 (a0 : Nat) (i1 : Int32) (i2 : Int32) (h : dzH) : dzF 150 28 [(0, .ref a0), (1, .int i1), (2, .int i2)] [] (0, 0) h =
  (dgI h a0 1 4).bind fun v1 =>
  if i2 < v1 then
    some (some (.int i2), h)
  else
    some (some (.int (-1 : Int32)), h) := (dzW_at 7 150 _ _ _ _ _).trans rfl
-- PrimeCertificatesModel.sayOne:(I)Z
theorem q_M_sayOne_0 (a0 : Nat) (i1 : Int32) (h : dzH) : dzF 151 0 [(0, .ref a0), (1, .int i1)] [] (0, 0) h =
  (dgI h a0 1 4).bind fun v1 =>
  if v1 = (200 : Int32) then
    some (some (.int (0 : Int32)), h)
  else
    (dgI h a0 1 2).bind fun v2 =>
    if (v2 + (2 : Int32)) ≤ (4000 : Int32) then
      (c_M_say a0 (1 : Int32) h).bind fun q3 =>
      (c_M_say a0 i1 q3.2).bind fun q4 =>
      (dgI q4.2 a0 1 4).bind fun v5 =>
      (c_M_set a0 ((32 : Int32) + v5) (Int32.toInt64 i1) q4.2).bind fun h6 =>
      (dgI h6 a0 1 4).bind fun v7 =>
      (dpF h6 a0 1 4 (.int (v7 + (1 : Int32)))).bind fun h8 =>
      some (some (.int (1 : Int32)), h8)
    else
      some (some (.int (0 : Int32)), h) := (dzW_at 34 151 _ _ _ _ _).trans rfl
-- PrimeCertificatesModel.often:(I)I
theorem q_M_often_0 (a0 : Nat) (i1 : Int32) (h : dzH) : dzF 152 0 [(0, .ref a0), (1, .int i1)] [] (0, 0) h =
  (c_M_part a0 (12 : Int32) i1 (15 : Int32) (16 : Int32) h).bind fun h1 =>
  dzF 152 13 [(0, .ref a0), (1, .int i1), (2, .int (0 : Int32))] [] (0, 0) h1 := (dzW_at 9 152 _ _ _ _ _).trans rfl
theorem q_M_often_13 (a0 : Nat) (i1 : Int32) (i2 : Int32) (h : dzH) : dzF 152 13 [(0, .ref a0), (1, .int i1), (2, .int i2)] [] (0, 0) h =
  (c_M_isZero a0 (16 : Int32) h).bind fun q1 =>
  if q1.1 = 0 then
    some (some (.int i2), q1.2)
  else
    (c_M_copy a0 (15 : Int32) (12 : Int32) q1.2).bind fun h2 =>
    (c_M_part a0 (12 : Int32) i1 (15 : Int32) (16 : Int32) h2).bind fun h3 =>
    dzF 152 13 [(0, .ref a0), (1, .int i1), (2, .int (i2 + (1 : Int32)))] [] (0, 0) h3 := (dzW_at 17 152 _ _ _ _ _).trans rfl
-- PrimeCertificatesModel.sort:(I)V
theorem q_M_sort_0 (a0 : Nat) (i1 : Int32) (h : dzH) : dzF 153 0 [(0, .ref a0), (1, .int i1)] [] (0, 0) h =
  dzF 153 2 [(0, .ref a0), (1, .int i1), (2, .int i1)] [] (0, 0) h := (dzW_at 3 153 _ _ _ _ _).trans rfl
theorem q_M_sort_2 (a0 : Nat) (i1 : Int32) (i2 : Int32) (h : dzH) : dzF 153 2 [(0, .ref a0), (1, .int i1), (2, .int i2)] [] (0, 0) h =
  (dgI h a0 1 8).bind fun v1 =>
  if i2 < v1 then
    dzF 153 12 [(0, .ref a0), (1, .int i1), (2, .int i2), (3, .int i1)] [] (0, 0) h
  else
    some (none, h) := (dzW_at 7 153 _ _ _ _ _).trans rfl
set_option maxRecDepth 100000 in
theorem q_M_sort_12 (a0 : Nat) (i1 : Int32) (i2 : Int32) (i3 : Int32) (h : dzH) : dzF 153 12 [(0, .ref a0), (1, .int i1), (2, .int i2), (3, .int i3)] [] (0, 0) h =
  (dgI h a0 1 8).bind fun v1 =>
  if (i3 + (1 : Int32)) < v1 then
    (dgA h a0 1 9).bind fun r2 =>
    (drI h r2 i3).bind fun v3 =>
    (dgA h a0 1 9).bind fun r4 =>
    (drI h r4 (i3 + (1 : Int32))).bind fun v5 =>
    (c_M_order a0 ((32 : Int32) + v3) ((32 : Int32) + v5) h).bind fun q6 =>
    if q6.1 < 0 then
      dzF 153 116 [(0, .ref a0), (1, .int i1), (2, .int i2), (3, .int i3)] [] (0, 0) q6.2
    else
      (dgA q6.2 a0 1 9).bind fun r7 =>
      (drI q6.2 r7 i3).bind fun v8 =>
      (dgA q6.2 a0 1 9).bind fun r9 =>
      (dgA q6.2 a0 1 9).bind fun r10 =>
      (drI q6.2 r10 (i3 + (1 : Int32))).bind fun v11 =>
      (dwI q6.2 r9 i3 v11).bind fun h12 =>
      (dgA h12 a0 1 9).bind fun r13 =>
      (dwI h12 r13 (i3 + (1 : Int32)) v8).bind fun h14 =>
      (dgA h14 a0 1 10).bind fun r15 =>
      (drI h14 r15 i3).bind fun v16 =>
      (dgA h14 a0 1 10).bind fun r17 =>
      (dgA h14 a0 1 10).bind fun r18 =>
      (drI h14 r18 (i3 + (1 : Int32))).bind fun v19 =>
      (dwI h14 r17 i3 v19).bind fun h20 =>
      (dgA h20 a0 1 10).bind fun r21 =>
      (dwI h20 r21 (i3 + (1 : Int32)) v16).bind fun h22 =>
      dzF 153 116 [(0, .ref a0), (1, .int i1), (2, .int i2), (3, .int i3)] [] (0, 0) h22
  else
    dzF 153 2 [(0, .ref a0), (1, .int i1), (2, .int (i2 + (1 : Int32)))] [] (0, 0) h := (dzW_at 68 153 _ _ _ _ _).trans rfl
theorem q_M_sort_116 (a0 : Nat) (i1 : Int32) (i2 : Int32) (i3 : Int32) (h : dzH) : dzF 153 116 [(0, .ref a0), (1, .int i1), (2, .int i2), (3, .int i3)] [] (0, 0) h =
  dzF 153 12 [(0, .ref a0), (1, .int i1), (2, .int i2), (3, .int (i3 + (1 : Int32)))] [] (0, 0) h := (dzW_at 3 153 _ _ _ _ _).trans rfl
-- PrimeCertificatesModel.find:()Z
theorem q_M_find_0 (a0 : Nat) (h : dzH) : dzF 154 0 [(0, .ref a0)] [] (0, 0) h =
  (dpF h a0 1 8 (.int (0 : Int32))).bind fun h1 =>
  dzF 154 7 [(0, .ref a0), (1, .int (2 : Int32))] [] (0, 0) h1 := (dzW_at 6 154 _ _ _ _ _).trans rfl
theorem q_M_find_7 (a0 : Nat) (i1 : Int32) (h : dzH) : dzF 154 7 [(0, .ref a0), (1, .int i1)] [] (0, 0) h =
  if i1 ≤ (1009 : Int32) then
    (c_M_set a0 (8 : Int32) (Int32.toInt64 i1) h).bind fun h1 =>
    (c_M_isSmallPrime i1 h1).bind fun q2 =>
    if q2.1 = 0 then
      dzF 154 39 [(0, .ref a0), (1, .int i1)] [.int (0 : Int32)] (0, 0) q2.2
    else
      (c_M_often a0 (8 : Int32) q2.2).bind fun q3 =>
      dzF 154 39 [(0, .ref a0), (1, .int i1)] [.int q3.1] (0, 0) q3.2
  else
    (dgI h a0 1 8).bind fun v1 =>
    (c_M_set a0 (9 : Int32) (1009 : Int64) h).bind fun h2 =>
    dzF 154 142 [(0, .ref a0), (1, .int v1), (2, .int (0 : Int32))] [] (0, 0) h2 := (dzW_at 16 154 _ _ _ _ _).trans rfl
theorem q_M_find_39 (a0 : Nat) (i1 : Int32) (si0 : Int32) (h : dzH) : dzF 154 39 [(0, .ref a0), (1, .int i1)] [.int si0] (0, 0) h =
  if si0 = 0 then
    dzF 154 120 [(0, .ref a0), (1, .int i1), (2, .int si0)] [] (0, 0) h
  else
    (c_M_lineOf a0 (8 : Int32) h).bind fun q1 =>
    if q1.1 < 0 then
      (c_M_sayOne a0 i1 q1.2).bind fun q2 =>
      if q2.1 = 0 then
        some (some (.int (0 : Int32)), q2.2)
      else
        dzF 154 66 [(0, .ref a0), (1, .int i1), (2, .int si0), (3, .int q1.1)] [] (0, 0) q2.2
    else
      dzF 154 66 [(0, .ref a0), (1, .int i1), (2, .int si0), (3, .int q1.1)] [] (0, 0) q1.2 := (dzW_at 15 154 _ _ _ _ _).trans rfl
theorem q_M_find_66 (a0 : Nat) (i1 : Int32) (i2 : Int32) (i3 : Int32) (h : dzH) : dzF 154 66 [(0, .ref a0), (1, .int i1), (2, .int i2), (3, .int i3)] [] (0, 0) h =
  (dgI h a0 1 8).bind fun v1 =>
  if v1 = (40 : Int32) then
    some (some (.int (0 : Int32)), h)
  else
    (dgA h a0 1 9).bind fun r2 =>
    (dgI h a0 1 8).bind fun v3 =>
    if i3 < 0 then
      (dgI h a0 1 4).bind fun v4 =>
      dzF 154 99 [(0, .ref a0), (1, .int i1), (2, .int i2), (3, .int i3)] [.int (v4 - (1 : Int32)), .int v3, .ref r2] (0, 0) h
    else
      dzF 154 99 [(0, .ref a0), (1, .int i1), (2, .int i2), (3, .int i3)] [.int i3, .int v3, .ref r2] (0, 0) h := (dzW_at 16 154 _ _ _ _ _).trans rfl
theorem q_M_find_99 (a0 : Nat) (i1 : Int32) (i2 : Int32) (i3 : Int32) (sa0 : Nat) (si1 : Int32) (si2 : Int32) (h : dzH) : dzF 154 99 [(0, .ref a0), (1, .int i1), (2, .int i2), (3, .int i3)] [.int si2, .int si1, .ref sa0] (0, 0) h =
  (dwI h sa0 si1 si2).bind fun h1 =>
  (dgA h1 a0 1 10).bind fun r2 =>
  (dgI h1 a0 1 8).bind fun v3 =>
  (dwI h1 r2 v3 i2).bind fun h4 =>
  (dgI h4 a0 1 8).bind fun v5 =>
  (dpF h4 a0 1 8 (.int (v5 + (1 : Int32)))).bind fun h6 =>
  dzF 154 120 [(0, .ref a0), (1, .int i1), (2, .int i2)] [] (0, 0) h6 := (dzW_at 14 154 _ _ _ _ _).trans rfl
theorem q_M_find_120 (a0 : Nat) (i1 : Int32) (i2 : Int32) (h : dzH) : dzF 154 120 [(0, .ref a0), (1, .int i1), (2, .int i2)] [] (0, 0) h =
  dzF 154 7 [(0, .ref a0), (1, .int (i1 + (1 : Int32)))] [] (0, 0) h := (dzW_at 3 154 _ _ _ _ _).trans rfl
theorem q_M_find_142 (a0 : Nat) (i1 : Int32) (i2 : Int32) (h : dzH) : dzF 154 142 [(0, .ref a0), (1, .int i1), (2, .int i2)] [] (0, 0) h =
  (dgI h a0 1 4).bind fun v1 =>
  if i2 < v1 then
    (c_M_order a0 ((32 : Int32) + i2) (9 : Int32) h).bind fun q2 =>
    if q2.1 ≤ 0 then
      dzF 154 175 [(0, .ref a0), (1, .int i1), (2, .int i2)] [.int (0 : Int32)] (0, 0) q2.2
    else
      (c_M_often a0 ((32 : Int32) + i2) q2.2).bind fun q3 =>
      dzF 154 175 [(0, .ref a0), (1, .int i1), (2, .int i2)] [.int q3.1] (0, 0) q3.2
  else
    (c_M_sort a0 i1 h).bind fun h2 =>
    some (some (.int (1 : Int32)), h2) := (dzW_at 18 154 _ _ _ _ _).trans rfl
theorem q_M_find_175 (a0 : Nat) (i1 : Int32) (i2 : Int32) (si0 : Int32) (h : dzH) : dzF 154 175 [(0, .ref a0), (1, .int i1), (2, .int i2)] [.int si0] (0, 0) h =
  if si0 = 0 then
    dzF 154 224 [(0, .ref a0), (1, .int i1), (2, .int i2), (3, .int si0)] [] (0, 0) h
  else
    (dgI h a0 1 8).bind fun v1 =>
    if v1 = (40 : Int32) then
      some (some (.int (0 : Int32)), h)
    else
      (dgA h a0 1 9).bind fun r2 =>
      (dgI h a0 1 8).bind fun v3 =>
      (dwI h r2 v3 i2).bind fun h4 =>
      (dgA h4 a0 1 10).bind fun r5 =>
      (dgI h4 a0 1 8).bind fun v6 =>
      (dwI h4 r5 v6 si0).bind fun h7 =>
      (dgI h7 a0 1 8).bind fun v8 =>
      (dpF h7 a0 1 8 (.int (v8 + (1 : Int32)))).bind fun h9 =>
      dzF 154 224 [(0, .ref a0), (1, .int i1), (2, .int i2), (3, .int si0)] [] (0, 0) h9 := (dzW_at 26 154 _ _ _ _ _).trans rfl
theorem q_M_find_224 (a0 : Nat) (i1 : Int32) (i2 : Int32) (i3 : Int32) (h : dzH) : dzF 154 224 [(0, .ref a0), (1, .int i1), (2, .int i2), (3, .int i3)] [] (0, 0) h =
  dzF 154 142 [(0, .ref a0), (1, .int i1), (2, .int (i2 + (1 : Int32)))] [] (0, 0) h := (dzW_at 3 154 _ _ _ _ _).trans rfl
-- PrimeCertificatesModel.wholeWitness:()I
theorem q_M_wholeWitness_0 (a0 : Nat) (h : dzH) : dzF 155 0 [(0, .ref a0)] [] (0, 0) h =
  dzF 155 2 [(0, .ref a0), (1, .int (2 : Int32))] [] (0, 0) h := (dzW_at 3 155 _ _ _ _ _).trans rfl
theorem q_M_wholeWitness_2 (a0 : Nat) (i1 : Int32) (h : dzH) : dzF 155 2 [(0, .ref a0), (1, .int i1)] [] (0, 0) h =
  if i1 ≤ (200 : Int32) then
    (c_M_set a0 (14 : Int32) (Int32.toInt64 i1) h).bind fun h1 =>
    (c_M_isWhole a0 h1).bind fun q2 =>
    dzF 155 24 [(0, .ref a0), (1, .int i1), (2, .int q2.1), (3, .int (0 : Int32))] [] (0, 0) q2.2
  else
    some (some (.int (0 : Int32)), h) := (dzW_at 14 155 _ _ _ _ _).trans rfl
theorem q_M_wholeWitness_24 (a0 : Nat) (i1 : Int32) (i2 : Int32) (i3 : Int32) (h : dzH) : dzF 155 24 [(0, .ref a0), (1, .int i1), (2, .int i2), (3, .int i3)] [] (0, 0) h =
  (dgI h a0 1 8).bind fun v1 =>
  if i3 < v1 then
    if i2 = 0 then
      dzF 155 54 [(0, .ref a0), (1, .int i1), (2, .int i2), (3, .int i3)] [] (0, 0) h
    else
      (dgA h a0 1 9).bind fun r2 =>
      (drI h r2 i3).bind fun v3 =>
      (c_M_isRight a0 v3 (0 : Int32) h).bind fun q4 =>
      dzF 155 24 [(0, .ref a0), (1, .int i1), (2, .int q4.1), (3, .int (i3 + (1 : Int32)))] [] (0, 0) q4.2
  else
    dzF 155 54 [(0, .ref a0), (1, .int i1), (2, .int i2), (3, .int i3)] [] (0, 0) h := (dzW_at 17 155 _ _ _ _ _).trans rfl
theorem q_M_wholeWitness_54 (a0 : Nat) (i1 : Int32) (i2 : Int32) (i3 : Int32) (h : dzH) : dzF 155 54 [(0, .ref a0), (1, .int i1), (2, .int i2), (3, .int i3)] [] (0, 0) h =
  if i2 = 0 then
    dzF 155 2 [(0, .ref a0), (1, .int (i1 + (1 : Int32)))] [] (0, 0) h
  else
    some (some (.int i1), h) := (dzW_at 5 155 _ _ _ _ _).trans rfl
-- PrimeCertificatesModel.partWitnesses:()Z
theorem q_M_partWitnesses_0 (a0 : Nat) (h : dzH) : dzF 156 0 [(0, .ref a0)] [] (0, 0) h =
  dzF 156 2 [(0, .ref a0), (1, .int (0 : Int32))] [] (0, 0) h := (dzW_at 3 156 _ _ _ _ _).trans rfl
theorem q_M_partWitnesses_2 (a0 : Nat) (i1 : Int32) (h : dzH) : dzF 156 2 [(0, .ref a0), (1, .int i1)] [] (0, 0) h =
  (dgI h a0 1 8).bind fun v1 =>
  if i1 < v1 then
    dzF 156 14 [(0, .ref a0), (1, .int i1), (2, .int (1 : Int32)), (3, .int (0 : Int32))] [] (0, 0) h
  else
    some (some (.int (1 : Int32)), h) := (dzW_at 9 156 _ _ _ _ _).trans rfl
theorem q_M_partWitnesses_14 (a0 : Nat) (i1 : Int32) (i2 : Int32) (i3 : Int32) (h : dzH) : dzF 156 14 [(0, .ref a0), (1, .int i1), (2, .int i2), (3, .int i3)] [] (0, 0) h =
  if i3 = 0 then
    if i2 < (200 : Int32) then
      (c_M_set a0 (14 : Int32) (Int32.toInt64 (i2 + (1 : Int32))) h).bind fun h1 =>
      (c_M_isWhole a0 h1).bind fun q2 =>
      if q2.1 = 0 then
        dzF 156 61 [(0, .ref a0), (1, .int i1), (2, .int (i2 + (1 : Int32))), (3, .int i3)] [] (0, 0) q2.2
      else
        (dgA q2.2 a0 1 9).bind fun r3 =>
        (drI q2.2 r3 i1).bind fun v4 =>
        (c_M_isRight a0 v4 (1 : Int32) q2.2).bind fun q5 =>
        if q5.1 = 0 then
          dzF 156 61 [(0, .ref a0), (1, .int i1), (2, .int (i2 + (1 : Int32))), (3, .int i3)] [] (0, 0) q5.2
        else
          dzF 156 62 [(0, .ref a0), (1, .int i1), (2, .int (i2 + (1 : Int32))), (3, .int i3)] [.int (1 : Int32)] (0, 0) q5.2
    else
      dzF 156 66 [(0, .ref a0), (1, .int i1), (2, .int i2), (3, .int i3)] [] (0, 0) h
  else
    dzF 156 66 [(0, .ref a0), (1, .int i1), (2, .int i2), (3, .int i3)] [] (0, 0) h := (dzW_at 25 156 _ _ _ _ _).trans rfl
theorem q_M_partWitnesses_61 (a0 : Nat) (i1 : Int32) (i2 : Int32) (i3 : Int32) (h : dzH) : dzF 156 61 [(0, .ref a0), (1, .int i1), (2, .int i2), (3, .int i3)] [] (0, 0) h =
  dzF 156 62 [(0, .ref a0), (1, .int i1), (2, .int i2), (3, .int i3)] [.int (0 : Int32)] (0, 0) h := (dzW_at 2 156 _ _ _ _ _).trans rfl
theorem q_M_partWitnesses_62 (a0 : Nat) (i1 : Int32) (i2 : Int32) (i3 : Int32) (si0 : Int32) (h : dzH) : dzF 156 62 [(0, .ref a0), (1, .int i1), (2, .int i2), (3, .int i3)] [.int si0] (0, 0) h =
  dzF 156 14 [(0, .ref a0), (1, .int i1), (2, .int i2), (3, .int si0)] [] (0, 0) h := (dzW_at 3 156 _ _ _ _ _).trans rfl
theorem q_M_partWitnesses_66 (a0 : Nat) (i1 : Int32) (i2 : Int32) (i3 : Int32) (h : dzH) : dzF 156 66 [(0, .ref a0), (1, .int i1), (2, .int i2), (3, .int i3)] [] (0, 0) h =
  if i3 = 0 then
    some (some (.int (0 : Int32)), h)
  else
    (dgA h a0 1 11).bind fun r1 =>
    (dwI h r1 i1 i2).bind fun h2 =>
    dzF 156 2 [(0, .ref a0), (1, .int (i1 + (1 : Int32)))] [] (0, 0) h2 := (dzW_at 10 156 _ _ _ _ _).trans rfl
-- PrimeCertificatesModel.sayLine:(II)Z
theorem q_M_sayLine_0 (a0 : Nat) (i1 : Int32) (i2 : Int32) (h : dzH) : dzF 157 0 [(0, .ref a0), (1, .int i1), (2, .int i2)] [] (0, 0) h =
  (c_M_lengthOf a0 (10 : Int32) h).bind fun q1 =>
  if (2 : Int32) = 0 then none else
  if i1 = (2 : Int32) then
    (dgI q1.2 a0 1 8).bind fun v2 =>
    dzF 157 36 [(0, .ref a0), (1, .int i1), (2, .int i2), (3, .int ((q1.1 + (1 : Int32)) / (2 : Int32)))] [.int ((1 : Int32) + ((2 : Int32) * v2)), .int ((3 : Int32) + ((q1.1 + (1 : Int32)) / (2 : Int32)))] (0, 0) q1.2
  else
    (dgI q1.2 a0 1 8).bind fun v2 =>
    dzF 157 36 [(0, .ref a0), (1, .int i1), (2, .int i2), (3, .int ((q1.1 + (1 : Int32)) / (2 : Int32)))] [.int ((3 : Int32) * v2), .int ((3 : Int32) + ((q1.1 + (1 : Int32)) / (2 : Int32)))] (0, 0) q1.2 := (dzW_at 22 157 _ _ _ _ _).trans rfl
theorem q_M_sayLine_36 (a0 : Nat) (i1 : Int32) (i2 : Int32) (i3 : Int32) (si0 : Int32) (si1 : Int32) (h : dzH) : dzF 157 36 [(0, .ref a0), (1, .int i1), (2, .int i2), (3, .int i3)] [.int si1, .int si0] (0, 0) h =
  (dgI h a0 1 4).bind fun v1 =>
  if v1 = (200 : Int32) then
    some (some (.int (0 : Int32)), h)
  else
    (dgI h a0 1 2).bind fun v2 =>
    if (v2 + (si0 + si1)) ≤ (4000 : Int32) then
      (c_M_say a0 i1 h).bind fun q3 =>
      (c_M_say a0 i3 q3.2).bind fun q4 =>
      dzF 157 79 [(0, .ref a0), (1, .int i1), (2, .int i2), (3, .int i3), (4, .int (si0 + si1)), (5, .int (0 : Int32))] [] (0, 0) q4.2
    else
      some (some (.int (0 : Int32)), h) := (dzW_at 23 157 _ _ _ _ _).trans rfl
theorem q_M_sayLine_79 (a0 : Nat) (i1 : Int32) (i2 : Int32) (i3 : Int32) (i4 : Int32) (i5 : Int32) (h : dzH) : dzF 157 79 [(0, .ref a0), (1, .int i1), (2, .int i2), (3, .int i3), (4, .int i4), (5, .int i5)] [] (0, 0) h =
  if i5 < i3 then
    (dgA h a0 1 0).bind fun r1 =>
    (drI h r1 (((400 : Int32) + ((2 : Int32) * i5)) + (1 : Int32))).bind fun v2 =>
    (dgA h a0 1 0).bind fun r3 =>
    (drI h r3 ((400 : Int32) + ((2 : Int32) * i5))).bind fun v4 =>
    (c_M_say a0 ((k_ishl v2 (16 : Int32)) ||| v4) h).bind fun q5 =>
    dzF 157 79 [(0, .ref a0), (1, .int i1), (2, .int i2), (3, .int i3), (4, .int i4), (5, .int (i5 + (1 : Int32)))] [] (0, 0) q5.2
  else
    if i1 = (2 : Int32) then
      (c_M_say a0 i2 h).bind fun q1 =>
      dzF 157 139 [(0, .ref a0), (1, .int i1), (2, .int i2), (3, .int i3), (4, .int i4), (5, .int i5)] [] (0, 0) q1.2
    else
      dzF 157 139 [(0, .ref a0), (1, .int i1), (2, .int i2), (3, .int i3), (4, .int i4), (5, .int i5)] [] (0, 0) h := (dzW_at 30 157 _ _ _ _ _).trans rfl
theorem q_M_sayLine_139 (a0 : Nat) (i1 : Int32) (i2 : Int32) (i3 : Int32) (i4 : Int32) (i5 : Int32) (h : dzH) : dzF 157 139 [(0, .ref a0), (1, .int i1), (2, .int i2), (3, .int i3), (4, .int i4), (5, .int i5)] [] (0, 0) h =
  (dgI h a0 1 8).bind fun v1 =>
  (c_M_say a0 v1 h).bind fun q2 =>
  dzF 157 151 [(0, .ref a0), (1, .int i1), (2, .int i2), (3, .int i3), (4, .int i4), (5, .int (0 : Int32))] [] (0, 0) q2.2 := (dzW_at 8 157 _ _ _ _ _).trans rfl
theorem q_M_sayLine_151 (a0 : Nat) (i1 : Int32) (i2 : Int32) (i3 : Int32) (i4 : Int32) (i5 : Int32) (h : dzH) : dzF 157 151 [(0, .ref a0), (1, .int i1), (2, .int i2), (3, .int i3), (4, .int i4), (5, .int i5)] [] (0, 0) h =
  (dgI h a0 1 8).bind fun v1 =>
  if i5 < v1 then
    (dgA h a0 1 9).bind fun r2 =>
    (drI h r2 i5).bind fun v3 =>
    (c_M_say a0 v3 h).bind fun q4 =>
    (dgA q4.2 a0 1 10).bind fun r5 =>
    (drI q4.2 r5 i5).bind fun v6 =>
    (c_M_say a0 v6 q4.2).bind fun q7 =>
    if i1 = (3 : Int32) then
      (dgA q7.2 a0 1 11).bind fun r8 =>
      (drI q7.2 r8 i5).bind fun v9 =>
      (c_M_say a0 v9 q7.2).bind fun q10 =>
      dzF 157 201 [(0, .ref a0), (1, .int i1), (2, .int i2), (3, .int i3), (4, .int i4), (5, .int i5)] [] (0, 0) q10.2
    else
      dzF 157 201 [(0, .ref a0), (1, .int i1), (2, .int i2), (3, .int i3), (4, .int i4), (5, .int i5)] [] (0, 0) q7.2
  else
    (dgI h a0 1 4).bind fun v2 =>
    (c_M_copy a0 (10 : Int32) ((32 : Int32) + v2) h).bind fun h3 =>
    (dgI h3 a0 1 4).bind fun v4 =>
    (dpF h3 a0 1 4 (.int (v4 + (1 : Int32)))).bind fun h5 =>
    some (some (.int (1 : Int32)), h5) := (dzW_at 29 157 _ _ _ _ _).trans rfl
theorem q_M_sayLine_201 (a0 : Nat) (i1 : Int32) (i2 : Int32) (i3 : Int32) (i4 : Int32) (i5 : Int32) (h : dzH) : dzF 157 201 [(0, .ref a0), (1, .int i1), (2, .int i2), (3, .int i3), (4, .int i4), (5, .int i5)] [] (0, 0) h =
  dzF 157 151 [(0, .ref a0), (1, .int i1), (2, .int i2), (3, .int i3), (4, .int i4), (5, .int (i5 + (1 : Int32)))] [] (0, 0) h := (dzW_at 3 157 _ _ _ _ _).trans rfl
-- PrimeCertificatesModel.make:()Z
set_option maxRecDepth 100000 in
theorem q_M_make_0 (a0 : Nat) (h : dzH) : dzF 158 0 [(0, .ref a0)] [] (0, 0) h =
  (c_M_set a0 (8 : Int32) (65535 : Int64) h).bind fun h1 =>
  (c_M_order a0 (10 : Int32) (8 : Int32) h1).bind fun q2 =>
  if q2.1 ≤ 0 then
    (dgA q2.2 a0 1 0).bind fun r3 =>
    (drI q2.2 r3 (400 : Int32)).bind fun v4 =>
    (c_M_isSmallPrime v4 q2.2).bind fun q5 =>
    if q5.1 = 0 then
      some (some (.int (0 : Int32)), q5.2)
    else
      (c_M_sayOne a0 v4 q5.2).bind fun q6 =>
      if q6.1 = 0 then
        some (some (.int (0 : Int32)), q6.2)
      else
        some (some (.int (1 : Int32)), q6.2)
  else
    (c_M_copy a0 (10 : Int32) (11 : Int32) q2.2).bind fun h3 =>
    (c_M_lower a0 (11 : Int32) (21 : Int32) h3).bind fun h4 =>
    (c_M_copy a0 (11 : Int32) (12 : Int32) h4).bind fun h5 =>
    (c_M_find a0 h5).bind fun q6 =>
    if q6.1 = 0 then
      some (some (.int (0 : Int32)), q6.2)
    else
      (c_M_isOne a0 (12 : Int32) q6.2).bind fun q7 =>
      if q7.1 = 0 then
        (c_M_part a0 (11 : Int32) (12 : Int32) (13 : Int32) (16 : Int32) q7.2).bind fun h8 =>
        (c_M_times a0 (13 : Int32) (13 : Int32) (8 : Int32) h8).bind fun h9 =>
        (c_M_order a0 (8 : Int32) (10 : Int32) h9).bind fun q10 =>
        if q10.1 ≤ 0 then
          some (some (.int (0 : Int32)), q10.2)
        else
          (c_M_partWitnesses a0 q10.2).bind fun q11 =>
          if q11.1 = 0 then
            some (some (.int (0 : Int32)), q11.2)
          else
            (c_M_sayLine a0 (3 : Int32) (0 : Int32) q11.2).bind fun q12 =>
            if q12.1 = 0 then
              some (some (.int (0 : Int32)), q12.2)
            else
              some (some (.int (1 : Int32)), q12.2)
      else
        (c_M_wholeWitness a0 q7.2).bind fun q8 =>
        if q8.1 ≤ 0 then
          some (some (.int (0 : Int32)), q8.2)
        else
          (c_M_sayLine a0 (2 : Int32) q8.1 q8.2).bind fun q9 =>
          if q9.1 = 0 then
            some (some (.int (0 : Int32)), q9.2)
          else
            some (some (.int (1 : Int32)), q9.2) := (dzW_at 55 158 _ _ _ _ _).trans rfl
-- PrimeCertificatesModel.prove:(I)I
theorem q_M_prove_0 (a0 : Nat) (i1 : Int32) (h : dzH) : dzF 159 0 [(0, .ref a0), (1, .int i1)] [] (0, 0) h =
  (c_M_isRegister i1 h).bind fun q1 =>
  if q1.1 = 0 then
    some (some (.int (-1 : Int32)), q1.2)
  else
    (c_M_check a0 q1.2).bind fun q2 =>
    if q2.1 < 0 then
      some (some (.int q2.1), q2.2)
    else
      (c_M_copy a0 i1 (10 : Int32) q2.2).bind fun h3 =>
      (c_M_lineOf a0 (10 : Int32) h3).bind fun q4 =>
      if q4.1 < 0 then
        (dgI q4.2 a0 1 2).bind fun v5 =>
        (c_M_make a0 q4.2).bind fun q6 =>
        if q6.1 = 0 then
          (dpF q6.2 a0 1 2 (.int v5)).bind fun h7 =>
          (dpF h7 a0 1 4 (.int q2.1)).bind fun h8 =>
          dzF 159 68 [(0, .ref a0), (1, .int i1), (2, .int q2.1), (3, .int q4.1), (4, .int v5), (5, .int q6.1)] [] (0, 0) h8
        else
          dzF 159 68 [(0, .ref a0), (1, .int i1), (2, .int q2.1), (3, .int q4.1), (4, .int v5), (5, .int q6.1)] [] (0, 0) q6.2
      else
        some (some (.int q4.1), q4.2) := (dzW_at 33 159 _ _ _ _ _).trans rfl
theorem q_M_prove_68 (a0 : Nat) (i1 : Int32) (i2 : Int32) (i3 : Int32) (i4 : Int32) (i5 : Int32) (h : dzH) : dzF 159 68 [(0, .ref a0), (1, .int i1), (2, .int i2), (3, .int i3), (4, .int i4), (5, .int i5)] [] (0, 0) h =
  (dgI h a0 1 4).bind fun v1 =>
  (dpF h a0 1 5 (.int v1)).bind fun h2 =>
  if i5 = 0 then
    some (some (.int (-2 : Int32)), h2)
  else
    (dgI h2 a0 1 4).bind fun v3 =>
    some (some (.int (v3 - (1 : Int32))), h2) := (dzW_at 12 159 _ _ _ _ _).trans rfl
-- PrimeCertificatesLaw.law:([I)Z
theorem q_L_law_0 (a0 : Nat) (h : dzH) : dzF 160 0 [(0, .ref a0)] [] (0, 0) h =
  (c_P_init h.1 (dnO h 0)).bind fun h1 =>
  (c_M_init h1.1 (dnO h1 1)).bind fun h2 =>
  dzF 160 18 [(0, .ref a0), (1, .ref h.1), (2, .ref h1.1), (3, .int (0 : Int32))] [] (253, 19964) h2 := (dzW_at 11 160 _ _ _ _ _).trans rfl
set_option maxRecDepth 100000 in
theorem q_L_law_18 (a0 : Nat) (a1 : Nat) (a2 : Nat) (i3 : Int32) (h : dzH) : dzF 160 18 [(0, .ref a0), (1, .ref a1), (2, .ref a2), (3, .int i3)] [] (253, 19964) h =
  (dln h a0).bind fun v1 =>
  if i3 ≤ (v1 - (5 : Int32)) then
    (drI h a0 i3).bind fun v2 =>
    if (v2 &&& (31 : Int32)) = 0 then
      (drI h a0 (i3 + (1 : Int32))).bind fun v3 =>
      (drI h a0 (i3 + (2 : Int32))).bind fun v4 =>
      (drI h a0 (i3 + (3 : Int32))).bind fun v5 =>
      (c_P_put a1 v3 v4 v5 h).bind fun q6 =>
      (drI q6.2 a0 (i3 + (1 : Int32))).bind fun v7 =>
      (drI q6.2 a0 (i3 + (2 : Int32))).bind fun v8 =>
      (drI q6.2 a0 (i3 + (3 : Int32))).bind fun v9 =>
      (c_M_put a2 v7 v8 v9 q6.2).bind fun q10 =>
      if q6.1 = q10.1 then
        dzF 160 667 [(0, .ref a0), (1, .ref a1), (2, .ref a2), (3, .int i3)] [] (253, 19964) q10.2
      else
        some (some (.int (0 : Int32)), q10.2)
    else
    if (v2 &&& (31 : Int32)) = 1 then
      (drI h a0 (i3 + (1 : Int32))).bind fun v3 =>
      (drI h a0 (i3 + (2 : Int32))).bind fun v4 =>
      (c_P_get a1 v3 v4 h).bind fun q5 =>
      (drI q5.2 a0 (i3 + (1 : Int32))).bind fun v6 =>
      (drI q5.2 a0 (i3 + (2 : Int32))).bind fun v7 =>
      (c_M_get a2 v6 v7 q5.2).bind fun q8 =>
      if q5.1 = q8.1 then
        dzF 160 667 [(0, .ref a0), (1, .ref a1), (2, .ref a2), (3, .int i3)] [] (253, 19964) q8.2
      else
        some (some (.int (0 : Int32)), q8.2)
    else
    if (v2 &&& (31 : Int32)) = 2 then
      (drI h a0 (i3 + (1 : Int32))).bind fun v3 =>
      (drI h a0 (i3 + (2 : Int32))).bind fun v4 =>
      (drI h a0 (i3 + (3 : Int32))).bind fun v5 =>
      (c_P_add a1 v3 v4 v5 h).bind fun q6 =>
      (drI q6.2 a0 (i3 + (1 : Int32))).bind fun v7 =>
      (drI q6.2 a0 (i3 + (2 : Int32))).bind fun v8 =>
      (drI q6.2 a0 (i3 + (3 : Int32))).bind fun v9 =>
      (c_M_add a2 v7 v8 v9 q6.2).bind fun q10 =>
      if q6.1 = q10.1 then
        dzF 160 667 [(0, .ref a0), (1, .ref a1), (2, .ref a2), (3, .int i3)] [] (253, 19964) q10.2
      else
        some (some (.int (0 : Int32)), q10.2)
    else
    if (v2 &&& (31 : Int32)) = 3 then
      (drI h a0 (i3 + (1 : Int32))).bind fun v3 =>
      (drI h a0 (i3 + (2 : Int32))).bind fun v4 =>
      (drI h a0 (i3 + (3 : Int32))).bind fun v5 =>
      (c_P_subtract a1 v3 v4 v5 h).bind fun q6 =>
      (drI q6.2 a0 (i3 + (1 : Int32))).bind fun v7 =>
      (drI q6.2 a0 (i3 + (2 : Int32))).bind fun v8 =>
      (drI q6.2 a0 (i3 + (3 : Int32))).bind fun v9 =>
      (c_M_subtract a2 v7 v8 v9 q6.2).bind fun q10 =>
      if q6.1 = q10.1 then
        dzF 160 667 [(0, .ref a0), (1, .ref a1), (2, .ref a2), (3, .int i3)] [] (253, 19964) q10.2
      else
        some (some (.int (0 : Int32)), q10.2)
    else
    if (v2 &&& (31 : Int32)) = 4 then
      (drI h a0 (i3 + (1 : Int32))).bind fun v3 =>
      (drI h a0 (i3 + (2 : Int32))).bind fun v4 =>
      (drI h a0 (i3 + (3 : Int32))).bind fun v5 =>
      (c_P_multiply a1 v3 v4 v5 h).bind fun q6 =>
      (drI q6.2 a0 (i3 + (1 : Int32))).bind fun v7 =>
      (drI q6.2 a0 (i3 + (2 : Int32))).bind fun v8 =>
      (drI q6.2 a0 (i3 + (3 : Int32))).bind fun v9 =>
      (c_M_multiply a2 v7 v8 v9 q6.2).bind fun q10 =>
      if q6.1 = q10.1 then
        dzF 160 667 [(0, .ref a0), (1, .ref a1), (2, .ref a2), (3, .int i3)] [] (253, 19964) q10.2
      else
        some (some (.int (0 : Int32)), q10.2)
    else
    if (v2 &&& (31 : Int32)) = 5 then
      (drI h a0 (i3 + (1 : Int32))).bind fun v3 =>
      (drI h a0 (i3 + (2 : Int32))).bind fun v4 =>
      (drI h a0 (i3 + (3 : Int32))).bind fun v5 =>
      (drI h a0 (i3 + (4 : Int32))).bind fun v6 =>
      (c_P_divide a1 v3 v4 v5 v6 h).bind fun q7 =>
      (drI q7.2 a0 (i3 + (1 : Int32))).bind fun v8 =>
      (drI q7.2 a0 (i3 + (2 : Int32))).bind fun v9 =>
      (drI q7.2 a0 (i3 + (3 : Int32))).bind fun v10 =>
      (drI q7.2 a0 (i3 + (4 : Int32))).bind fun v11 =>
      (c_M_divide a2 v8 v9 v10 v11 q7.2).bind fun q12 =>
      if q7.1 = q12.1 then
        dzF 160 667 [(0, .ref a0), (1, .ref a1), (2, .ref a2), (3, .int i3)] [] (253, 19964) q12.2
      else
        some (some (.int (0 : Int32)), q12.2)
    else
    if (v2 &&& (31 : Int32)) = 6 then
      (drI h a0 (i3 + (1 : Int32))).bind fun v3 =>
      (drI h a0 (i3 + (2 : Int32))).bind fun v4 =>
      (drI h a0 (i3 + (3 : Int32))).bind fun v5 =>
      (drI h a0 (i3 + (4 : Int32))).bind fun v6 =>
      (c_P_power a1 v3 v4 v5 v6 h).bind fun q7 =>
      (drI q7.2 a0 (i3 + (1 : Int32))).bind fun v8 =>
      (drI q7.2 a0 (i3 + (2 : Int32))).bind fun v9 =>
      (drI q7.2 a0 (i3 + (3 : Int32))).bind fun v10 =>
      (drI q7.2 a0 (i3 + (4 : Int32))).bind fun v11 =>
      (c_M_power a2 v8 v9 v10 v11 q7.2).bind fun q12 =>
      if q7.1 = q12.1 then
        dzF 160 667 [(0, .ref a0), (1, .ref a1), (2, .ref a2), (3, .int i3)] [] (253, 19964) q12.2
      else
        some (some (.int (0 : Int32)), q12.2)
    else
    if (v2 &&& (31 : Int32)) = 7 then
      (drI h a0 (i3 + (1 : Int32))).bind fun v3 =>
      (drI h a0 (i3 + (2 : Int32))).bind fun v4 =>
      (drI h a0 (i3 + (3 : Int32))).bind fun v5 =>
      (c_P_common a1 v3 v4 v5 h).bind fun q6 =>
      (drI q6.2 a0 (i3 + (1 : Int32))).bind fun v7 =>
      (drI q6.2 a0 (i3 + (2 : Int32))).bind fun v8 =>
      (drI q6.2 a0 (i3 + (3 : Int32))).bind fun v9 =>
      (c_M_common a2 v7 v8 v9 q6.2).bind fun q10 =>
      if q6.1 = q10.1 then
        dzF 160 667 [(0, .ref a0), (1, .ref a1), (2, .ref a2), (3, .int i3)] [] (253, 19964) q10.2
      else
        some (some (.int (0 : Int32)), q10.2)
    else
    if (v2 &&& (31 : Int32)) = 8 then
      (drI h a0 (i3 + (1 : Int32))).bind fun v3 =>
      (drI h a0 (i3 + (2 : Int32))).bind fun v4 =>
      (c_P_compare a1 v3 v4 h).bind fun q5 =>
      (drI q5.2 a0 (i3 + (1 : Int32))).bind fun v6 =>
      (drI q5.2 a0 (i3 + (2 : Int32))).bind fun v7 =>
      (c_M_compare a2 v6 v7 q5.2).bind fun q8 =>
      if q5.1 = q8.1 then
        dzF 160 667 [(0, .ref a0), (1, .ref a1), (2, .ref a2), (3, .int i3)] [] (253, 19964) q8.2
      else
        some (some (.int (0 : Int32)), q8.2)
    else
    if (v2 &&& (31 : Int32)) = 9 then
      (drI h a0 (i3 + (1 : Int32))).bind fun v3 =>
      (c_P_say a1 v3 h).bind fun q4 =>
      (drI q4.2 a0 (i3 + (1 : Int32))).bind fun v5 =>
      (c_M_say a2 v5 q4.2).bind fun q6 =>
      if q4.1 = q6.1 then
        dzF 160 667 [(0, .ref a0), (1, .ref a1), (2, .ref a2), (3, .int i3)] [] (253, 19964) q6.2
      else
        some (some (.int (0 : Int32)), q6.2)
    else
    if (v2 &&& (31 : Int32)) = 10 then
      (drI h a0 (i3 + (1 : Int32))).bind fun v3 =>
      (c_P_cut a1 v3 h).bind fun q4 =>
      (drI q4.2 a0 (i3 + (1 : Int32))).bind fun v5 =>
      (c_M_cut a2 v5 q4.2).bind fun q6 =>
      if q4.1 = q6.1 then
        dzF 160 667 [(0, .ref a0), (1, .ref a1), (2, .ref a2), (3, .int i3)] [] (253, 19964) q6.2
      else
        some (some (.int (0 : Int32)), q6.2)
    else
    if (v2 &&& (31 : Int32)) = 11 then
      (c_P_length a1 h).bind fun q3 =>
      (c_M_length a2 q3.2).bind fun q4 =>
      if q3.1 = q4.1 then
        dzF 160 667 [(0, .ref a0), (1, .ref a1), (2, .ref a2), (3, .int i3)] [] (253, 19964) q4.2
      else
        some (some (.int (0 : Int32)), q4.2)
    else
    if (v2 &&& (31 : Int32)) = 12 then
      (drI h a0 (i3 + (1 : Int32))).bind fun v3 =>
      (c_P_at a1 v3 h).bind fun q4 =>
      (drI q4.2 a0 (i3 + (1 : Int32))).bind fun v5 =>
      (c_M_at a2 v5 q4.2).bind fun q6 =>
      if q4.1 = q6.1 then
        dzF 160 667 [(0, .ref a0), (1, .ref a1), (2, .ref a2), (3, .int i3)] [] (253, 19964) q6.2
      else
        some (some (.int (0 : Int32)), q6.2)
    else
    if (v2 &&& (31 : Int32)) = 13 then
      (c_P_check a1 h).bind fun q3 =>
      (c_M_check a2 q3.2).bind fun q4 =>
      if q3.1 = q4.1 then
        dzF 160 667 [(0, .ref a0), (1, .ref a1), (2, .ref a2), (3, .int i3)] [] (253, 19964) q4.2
      else
        some (some (.int (0 : Int32)), q4.2)
    else
    if (v2 &&& (31 : Int32)) = 14 then
      (c_P_place a1 h).bind fun q3 =>
      (c_M_place a2 q3.2).bind fun q4 =>
      if q3.1 = q4.1 then
        dzF 160 667 [(0, .ref a0), (1, .ref a1), (2, .ref a2), (3, .int i3)] [] (253, 19964) q4.2
      else
        some (some (.int (0 : Int32)), q4.2)
    else
    if (v2 &&& (31 : Int32)) = 15 then
      (drI h a0 (i3 + (1 : Int32))).bind fun v3 =>
      (drI h a0 (i3 + (2 : Int32))).bind fun v4 =>
      (c_P_tell a1 v3 v4 h).bind fun q5 =>
      (drI q5.2 a0 (i3 + (1 : Int32))).bind fun v6 =>
      (drI q5.2 a0 (i3 + (2 : Int32))).bind fun v7 =>
      (c_M_tell a2 v6 v7 q5.2).bind fun q8 =>
      if q5.1 = q8.1 then
        dzF 160 667 [(0, .ref a0), (1, .ref a1), (2, .ref a2), (3, .int i3)] [] (253, 19964) q8.2
      else
        some (some (.int (0 : Int32)), q8.2)
    else
    if (v2 &&& (31 : Int32)) = 16 then
      (drI h a0 (i3 + (1 : Int32))).bind fun v3 =>
      (c_P_prove a1 v3 h).bind fun q4 =>
      (drI q4.2 a0 (i3 + (1 : Int32))).bind fun v5 =>
      (c_M_prove a2 v5 q4.2).bind fun q6 =>
      if q4.1 = q6.1 then
        dzF 160 667 [(0, .ref a0), (1, .ref a1), (2, .ref a2), (3, .int i3)] [] (253, 19964) q6.2
      else
        some (some (.int (0 : Int32)), q6.2)
    else
      dzF 160 667 [(0, .ref a0), (1, .ref a1), (2, .ref a2), (3, .int i3)] [] (253, 19964) h
  else
    some (some (.int (1 : Int32)), h) := (dzW_at 59 160 _ _ _ _ _).trans rfl
theorem q_L_law_667 (a0 : Nat) (a1 : Nat) (a2 : Nat) (i3 : Int32) (h : dzH) : dzF 160 667 [(0, .ref a0), (1, .ref a1), (2, .ref a2), (3, .int i3)] [] (253, 19964) h =
  dzF 160 18 [(0, .ref a0), (1, .ref a1), (2, .ref a2), (3, .int (i3 + (5 : Int32)))] [] (253, 19964) h := (dzW_at 3 160 _ _ _ _ _).trans rfl
end
section
/-! a call is the run of the callee's first block -/
theorem dzGo_st {k : dzKt} {c : Nat} {av : List Value} {h : dzH} (h1 : dzRcv c = none) (h2 : Nat.ble (lg_sl av).length (dzMx c) = true) : dzGo k c av h = k 0 (lv_args 0 av) [] (0, 0) h := by
  unfold dzGo
  rw [h2, h1]
theorem dzGo_ob {k : dzKt} {c ci a : Nat} {as fs : List Value} {h : dzH} (h1 : dzRcv c = some ci) (ha : h.2 a = some (eO ci fs)) (h2 : Nat.ble (lg_sl (.ref a :: as)).length (dzMx c) = true) : dzGo k c (.ref a :: as) h = k 0 (lv_args 0 (.ref a :: as)) [] (0, 0) h := by
  unfold dzGo
  rw [h2, h1]
  dsimp only
  rw [ha]
  dsimp only
  rw [if_pos rfl]
theorem cc_Sums_init (a0 : Nat) (h : dzH) {fs : List Value} (ha : h.2 a0 = some (eO 6 fs)) : c_Sums_init a0 h = dzRV (dzF 0 0 [(0, .ref a0)] [] (0, 0) h) := congrArg dzRV (dzGo_ob (c := 0) rfl ha rfl)
theorem cc_Tape_init (a0 : Nat) (h : dzH) {fs : List Value} (ha : h.2 a0 = some (eO 7 fs)) : c_Tape_init a0 h = dzRV (dzF 1 0 [(0, .ref a0)] [] (0, 0) h) := congrArg dzRV (dzGo_ob (c := 1) rfl ha rfl)
theorem cc_Lines_init (a0 : Nat) (h : dzH) {fs : List Value} (ha : h.2 a0 = some (eO 4 fs)) : c_Lines_init a0 h = dzRV (dzF 2 0 [(0, .ref a0)] [] (0, 0) h) := congrArg dzRV (dzGo_ob (c := 2) rfl ha rfl)
theorem cc_Trial_init (a0 : Nat) (a1 : Nat) (h : dzH) {fs : List Value} (ha : h.2 a0 = some (eO 8 fs)) : c_Trial_init a0 a1 h = dzRV (dzF 3 0 [(0, .ref a0), (1, .ref a1)] [] (0, 0) h) := congrArg dzRV (dzGo_ob (c := 3) rfl ha rfl)
theorem cc_Factors_init (a0 : Nat) (h : dzH) {fs : List Value} (ha : h.2 a0 = some (eO 3 fs)) : c_Factors_init a0 h = dzRV (dzF 4 0 [(0, .ref a0)] [] (0, 0) h) := congrArg dzRV (dzGo_ob (c := 4) rfl ha rfl)
theorem cc_Checker_init (a0 : Nat) (a1 : Nat) (a2 : Nat) (a3 : Nat) (a4 : Nat) (h : dzH) {fs : List Value} (ha : h.2 a0 = some (eO 2 fs)) : c_Checker_init a0 a1 a2 a3 a4 h = dzRV (dzF 5 0 [(0, .ref a0), (1, .ref a1), (2, .ref a2), (3, .ref a3), (4, .ref a4)] [] (0, 0) h) := congrArg dzRV (dzGo_ob (c := 5) rfl ha rfl)
theorem cc_Maker_init (a0 : Nat) (a1 : Nat) (a2 : Nat) (a3 : Nat) (a4 : Nat) (h : dzH) {fs : List Value} (ha : h.2 a0 = some (eO 5 fs)) : c_Maker_init a0 a1 a2 a3 a4 h = dzRV (dzF 6 0 [(0, .ref a0), (1, .ref a1), (2, .ref a2), (3, .ref a3), (4, .ref a4)] [] (0, 0) h) := congrArg dzRV (dzGo_ob (c := 6) rfl ha rfl)
theorem cc_P_init (a0 : Nat) (h : dzH) {fs : List Value} (ha : h.2 a0 = some (eO 0 fs)) : c_P_init a0 h = dzRV (dzF 7 0 [(0, .ref a0)] [] (0, 0) h) := congrArg dzRV (dzGo_ob (c := 7) rfl ha rfl)
theorem cc_P_isRegister (i0 : Int32) (h : dzH) : c_P_isRegister i0 h = dzRI (dzF 8 0 [(0, .int i0)] [] (0, 0) h) := congrArg dzRI (dzGo_st (c := 8) rfl rfl)
theorem cc_P_isWord (i0 : Int32) (h : dzH) : c_P_isWord i0 h = dzRI (dzF 9 0 [(0, .int i0)] [] (0, 0) h) := congrArg dzRI (dzGo_st (c := 9) rfl rfl)
theorem cc_P_put (a0 : Nat) (i1 : Int32) (i2 : Int32) (i3 : Int32) (h : dzH) {fs : List Value} (ha : h.2 a0 = some (eO 0 fs)) : c_P_put a0 i1 i2 i3 h = dzRI (dzF 10 0 [(0, .ref a0), (1, .int i1), (2, .int i2), (3, .int i3)] [] (0, 0) h) := congrArg dzRI (dzGo_ob (c := 10) rfl ha rfl)
theorem cc_P_get (a0 : Nat) (i1 : Int32) (i2 : Int32) (h : dzH) {fs : List Value} (ha : h.2 a0 = some (eO 0 fs)) : c_P_get a0 i1 i2 h = dzRI (dzF 11 0 [(0, .ref a0), (1, .int i1), (2, .int i2)] [] (0, 0) h) := congrArg dzRI (dzGo_ob (c := 11) rfl ha rfl)
theorem cc_P_areRegisters (i0 : Int32) (i1 : Int32) (i2 : Int32) (h : dzH) : c_P_areRegisters i0 i1 i2 h = dzRI (dzF 12 0 [(0, .int i0), (1, .int i1), (2, .int i2)] [] (0, 0) h) := congrArg dzRI (dzGo_st (c := 12) rfl rfl)
theorem cc_Sums_sum (a0 : Nat) (a1 : Nat) (a2 : Nat) (h : dzH) : c_Sums_sum a0 a1 a2 h = dzRI (dzF 13 0 [(0, .ref a0), (1, .ref a1), (2, .ref a2)] [] (0, 0) h) := congrArg dzRI (dzGo_st (c := 13) rfl rfl)
theorem cc_Sums_copy (a0 : Nat) (a1 : Nat) (h : dzH) : c_Sums_copy a0 a1 h = dzRV (dzF 14 0 [(0, .ref a0), (1, .ref a1)] [] (0, 0) h) := congrArg dzRV (dzGo_st (c := 14) rfl rfl)
theorem cc_P_keepAnswer (a0 : Nat) (i1 : Int32) (h : dzH) {fs : List Value} (ha : h.2 a0 = some (eO 0 fs)) : c_P_keepAnswer a0 i1 h = dzRI (dzF 15 0 [(0, .ref a0), (1, .int i1)] [] (0, 0) h) := congrArg dzRI (dzGo_ob (c := 15) rfl ha rfl)
theorem cc_P_add (a0 : Nat) (i1 : Int32) (i2 : Int32) (i3 : Int32) (h : dzH) {fs : List Value} (ha : h.2 a0 = some (eO 0 fs)) : c_P_add a0 i1 i2 i3 h = dzRI (dzF 16 0 [(0, .ref a0), (1, .int i1), (2, .int i2), (3, .int i3)] [] (0, 0) h) := congrArg dzRI (dzGo_ob (c := 16) rfl ha rfl)
theorem cc_Sums_difference (a0 : Nat) (a1 : Nat) (a2 : Nat) (h : dzH) : c_Sums_difference a0 a1 a2 h = dzRI (dzF 17 0 [(0, .ref a0), (1, .ref a1), (2, .ref a2)] [] (0, 0) h) := congrArg dzRI (dzGo_st (c := 17) rfl rfl)
theorem cc_P_subtract (a0 : Nat) (i1 : Int32) (i2 : Int32) (i3 : Int32) (h : dzH) {fs : List Value} (ha : h.2 a0 = some (eO 0 fs)) : c_P_subtract a0 i1 i2 i3 h = dzRI (dzF 18 0 [(0, .ref a0), (1, .int i1), (2, .int i2), (3, .int i3)] [] (0, 0) h) := congrArg dzRI (dzGo_ob (c := 18) rfl ha rfl)
theorem cc_Sums_usedWords (a0 : Nat) (h : dzH) : c_Sums_usedWords a0 h = dzRI (dzF 19 0 [(0, .ref a0)] [] (0, 0) h) := congrArg dzRI (dzGo_st (c := 19) rfl rfl)
theorem cc_Arrays_fill (a0 : Nat) (i1 : Int32) (h : dzH) : c_Arrays_fill a0 i1 h = dzRV (dzF 20 0 [(0, .ref a0), (1, .int i1)] [] (0, 0) h) := congrArg dzRV (dzGo_st (c := 20) rfl rfl)
theorem cc_Sums_setWideToProduct (a0 : Nat) (a1 : Nat) (a2 : Nat) (h : dzH) {fs : List Value} (ha : h.2 a0 = some (eO 6 fs)) : c_Sums_setWideToProduct a0 a1 a2 h = dzRV (dzF 21 0 [(0, .ref a0), (1, .ref a1), (2, .ref a2)] [] (0, 0) h) := congrArg dzRV (dzGo_ob (c := 21) rfl ha rfl)
theorem cc_Sums_product (a0 : Nat) (a1 : Nat) (a2 : Nat) (a3 : Nat) (h : dzH) {fs : List Value} (ha : h.2 a0 = some (eO 6 fs)) : c_Sums_product a0 a1 a2 a3 h = dzRI (dzF 22 0 [(0, .ref a0), (1, .ref a1), (2, .ref a2), (3, .ref a3)] [] (0, 0) h) := congrArg dzRI (dzGo_ob (c := 22) rfl ha rfl)
theorem cc_P_multiply (a0 : Nat) (i1 : Int32) (i2 : Int32) (i3 : Int32) (h : dzH) {fs : List Value} (ha : h.2 a0 = some (eO 0 fs)) : c_P_multiply a0 i1 i2 i3 h = dzRI (dzF 23 0 [(0, .ref a0), (1, .int i1), (2, .int i2), (3, .int i3)] [] (0, 0) h) := congrArg dzRI (dzGo_ob (c := 23) rfl ha rfl)
theorem cc_Sums_isZero (a0 : Nat) (h : dzH) : c_Sums_isZero a0 h = dzRI (dzF 24 0 [(0, .ref a0)] [] (0, 0) h) := congrArg dzRI (dzGo_st (c := 24) rfl rfl)
theorem cc_Sums_leadingZeros (i0 : Int32) (h : dzH) : c_Sums_leadingZeros i0 h = dzRI (dzF 25 0 [(0, .int i0)] [] (0, 0) h) := congrArg dzRI (dzGo_st (c := 25) rfl rfl)
theorem cc_Sums_shiftUp (a0 : Nat) (a1 : Nat) (i2 : Int32) (a3 : Nat) (h : dzH) {fs : List Value} (ha : h.2 a0 = some (eO 6 fs)) : c_Sums_shiftUp a0 a1 i2 a3 h = dzRV (dzF 26 0 [(0, .ref a0), (1, .ref a1), (2, .int i2), (3, .ref a3)] [] (0, 0) h) := congrArg dzRV (dzGo_ob (c := 26) rfl ha rfl)
theorem cc_Sums_setDivisor (a0 : Nat) (a1 : Nat) (h : dzH) {fs : List Value} (ha : h.2 a0 = some (eO 6 fs)) : c_Sums_setDivisor a0 a1 h = dzRV (dzF 27 0 [(0, .ref a0), (1, .ref a1)] [] (0, 0) h) := congrArg dzRV (dzGo_ob (c := 27) rfl ha rfl)
theorem cc_Sums_setWide (a0 : Nat) (a1 : Nat) (h : dzH) {fs : List Value} (ha : h.2 a0 = some (eO 6 fs)) : c_Sums_setWide a0 a1 h = dzRV (dzF 28 0 [(0, .ref a0), (1, .ref a1)] [] (0, 0) h) := congrArg dzRV (dzGo_ob (c := 28) rfl ha rfl)
theorem cc_Sums_isAbove (j0 : Int64) (j2 : Int64) (h : dzH) : c_Sums_isAbove j0 j2 h = dzRI (dzF 29 0 [(0, .long j0), (2, .long j2)] [] (0, 0) h) := congrArg dzRI (dzGo_st (c := 29) rfl rfl)
theorem cc_Sums_guessTimes (a0 : Nat) (i1 : Int32) (h : dzH) {fs : List Value} (ha : h.2 a0 = some (eO 6 fs)) : c_Sums_guessTimes a0 i1 h = dzRJ (dzF 30 0 [(0, .ref a0), (1, .int i1)] [] (0, 0) h) := congrArg dzRJ (dzGo_ob (c := 30) rfl ha rfl)
theorem cc_Sums_takeAway (a0 : Nat) (j1 : Int64) (i3 : Int32) (h : dzH) {fs : List Value} (ha : h.2 a0 = some (eO 6 fs)) : c_Sums_takeAway a0 j1 i3 h = dzRI (dzF 31 0 [(0, .ref a0), (1, .long j1), (3, .int i3)] [] (0, 0) h) := congrArg dzRI (dzGo_ob (c := 31) rfl ha rfl)
theorem cc_Sums_giveBack (a0 : Nat) (i1 : Int32) (h : dzH) {fs : List Value} (ha : h.2 a0 = some (eO 6 fs)) : c_Sums_giveBack a0 i1 h = dzRV (dzF 32 0 [(0, .ref a0), (1, .int i1)] [] (0, 0) h) := congrArg dzRV (dzGo_ob (c := 32) rfl ha rfl)
theorem cc_Sums_shiftWideDown (a0 : Nat) (h : dzH) {fs : List Value} (ha : h.2 a0 = some (eO 6 fs)) : c_Sums_shiftWideDown a0 h = dzRV (dzF 33 0 [(0, .ref a0)] [] (0, 0) h) := congrArg dzRV (dzGo_ob (c := 33) rfl ha rfl)
theorem cc_Sums_reduceWide (a0 : Nat) (h : dzH) {fs : List Value} (ha : h.2 a0 = some (eO 6 fs)) : c_Sums_reduceWide a0 h = dzRV (dzF 34 0 [(0, .ref a0)] [] (0, 0) h) := congrArg dzRV (dzGo_ob (c := 34) rfl ha rfl)
theorem cc_Sums_quotient (a0 : Nat) (a1 : Nat) (a2 : Nat) (a3 : Nat) (a4 : Nat) (h : dzH) {fs : List Value} (ha : h.2 a0 = some (eO 6 fs)) : c_Sums_quotient a0 a1 a2 a3 a4 h = dzRV (dzF 35 0 [(0, .ref a0), (1, .ref a1), (2, .ref a2), (3, .ref a3), (4, .ref a4)] [] (0, 0) h) := congrArg dzRV (dzGo_ob (c := 35) rfl ha rfl)
theorem cc_P_divide (a0 : Nat) (i1 : Int32) (i2 : Int32) (i3 : Int32) (i4 : Int32) (h : dzH) {fs : List Value} (ha : h.2 a0 = some (eO 0 fs)) : c_P_divide a0 i1 i2 i3 i4 h = dzRI (dzF 36 0 [(0, .ref a0), (1, .int i1), (2, .int i2), (3, .int i3), (4, .int i4)] [] (0, 0) h) := congrArg dzRI (dzGo_ob (c := 36) rfl ha rfl)
theorem cc_Sums_setSmall (a0 : Nat) (i1 : Int32) (h : dzH) : c_Sums_setSmall a0 i1 h = dzRV (dzF 37 0 [(0, .ref a0), (1, .int i1)] [] (0, 0) h) := congrArg dzRV (dzGo_st (c := 37) rfl rfl)
theorem cc_Sums_powerModulo (a0 : Nat) (a1 : Nat) (a2 : Nat) (a3 : Nat) (a4 : Nat) (h : dzH) {fs : List Value} (ha : h.2 a0 = some (eO 6 fs)) : c_Sums_powerModulo a0 a1 a2 a3 a4 h = dzRV (dzF 38 0 [(0, .ref a0), (1, .ref a1), (2, .ref a2), (3, .ref a3), (4, .ref a4)] [] (0, 0) h) := congrArg dzRV (dzGo_ob (c := 38) rfl ha rfl)
theorem cc_P_power (a0 : Nat) (i1 : Int32) (i2 : Int32) (i3 : Int32) (i4 : Int32) (h : dzH) {fs : List Value} (ha : h.2 a0 = some (eO 0 fs)) : c_P_power a0 i1 i2 i3 i4 h = dzRI (dzF 39 0 [(0, .ref a0), (1, .int i1), (2, .int i2), (3, .int i3), (4, .int i4)] [] (0, 0) h) := congrArg dzRI (dzGo_ob (c := 39) rfl ha rfl)
theorem cc_Sums_greatestDivisor (a0 : Nat) (a1 : Nat) (a2 : Nat) (a3 : Nat) (h : dzH) {fs : List Value} (ha : h.2 a0 = some (eO 6 fs)) : c_Sums_greatestDivisor a0 a1 a2 a3 h = dzRV (dzF 40 0 [(0, .ref a0), (1, .ref a1), (2, .ref a2), (3, .ref a3)] [] (0, 0) h) := congrArg dzRV (dzGo_ob (c := 40) rfl ha rfl)
theorem cc_P_common (a0 : Nat) (i1 : Int32) (i2 : Int32) (i3 : Int32) (h : dzH) {fs : List Value} (ha : h.2 a0 = some (eO 0 fs)) : c_P_common a0 i1 i2 i3 h = dzRI (dzF 41 0 [(0, .ref a0), (1, .int i1), (2, .int i2), (3, .int i3)] [] (0, 0) h) := congrArg dzRI (dzGo_ob (c := 41) rfl ha rfl)
theorem cc_Sums_order (a0 : Nat) (a1 : Nat) (h : dzH) : c_Sums_order a0 a1 h = dzRI (dzF 42 0 [(0, .ref a0), (1, .ref a1)] [] (0, 0) h) := congrArg dzRI (dzGo_st (c := 42) rfl rfl)
theorem cc_P_compare (a0 : Nat) (i1 : Int32) (i2 : Int32) (h : dzH) {fs : List Value} (ha : h.2 a0 = some (eO 0 fs)) : c_P_compare a0 i1 i2 h = dzRI (dzF 43 0 [(0, .ref a0), (1, .int i1), (2, .int i2)] [] (0, 0) h) := congrArg dzRI (dzGo_ob (c := 43) rfl ha rfl)
theorem cc_Tape_room (a0 : Nat) (h : dzH) {fs : List Value} (ha : h.2 a0 = some (eO 7 fs)) : c_Tape_room a0 h = dzRI (dzF 44 0 [(0, .ref a0)] [] (0, 0) h) := congrArg dzRI (dzGo_ob (c := 44) rfl ha rfl)
theorem cc_Tape_append (a0 : Nat) (i1 : Int32) (h : dzH) {fs : List Value} (ha : h.2 a0 = some (eO 7 fs)) : c_Tape_append a0 i1 h = dzRV (dzF 45 0 [(0, .ref a0), (1, .int i1)] [] (0, 0) h) := congrArg dzRV (dzGo_ob (c := 45) rfl ha rfl)
theorem cc_P_say (a0 : Nat) (i1 : Int32) (h : dzH) {fs : List Value} (ha : h.2 a0 = some (eO 0 fs)) : c_P_say a0 i1 h = dzRI (dzF 46 0 [(0, .ref a0), (1, .int i1)] [] (0, 0) h) := congrArg dzRI (dzGo_ob (c := 46) rfl ha rfl)
theorem cc_Lines_forgetBehind (a0 : Nat) (i1 : Int32) (h : dzH) {fs : List Value} (ha : h.2 a0 = some (eO 4 fs)) : c_Lines_forgetBehind a0 i1 h = dzRV (dzF 47 0 [(0, .ref a0), (1, .int i1)] [] (0, 0) h) := congrArg dzRV (dzGo_ob (c := 47) rfl ha rfl)
theorem cc_P_cut (a0 : Nat) (i1 : Int32) (h : dzH) {fs : List Value} (ha : h.2 a0 = some (eO 0 fs)) : c_P_cut a0 i1 h = dzRI (dzF 48 0 [(0, .ref a0), (1, .int i1)] [] (0, 0) h) := congrArg dzRI (dzGo_ob (c := 48) rfl ha rfl)
theorem cc_P_length (a0 : Nat) (h : dzH) {fs : List Value} (ha : h.2 a0 = some (eO 0 fs)) : c_P_length a0 h = dzRI (dzF 49 0 [(0, .ref a0)] [] (0, 0) h) := congrArg dzRI (dzGo_ob (c := 49) rfl ha rfl)
theorem cc_P_at (a0 : Nat) (i1 : Int32) (h : dzH) {fs : List Value} (ha : h.2 a0 = some (eO 0 fs)) : c_P_at a0 i1 h = dzRI (dzF 50 0 [(0, .ref a0), (1, .int i1)] [] (0, 0) h) := congrArg dzRI (dzGo_ob (c := 50) rfl ha rfl)
theorem cc_Lines_end (a0 : Nat) (h : dzH) {fs : List Value} (ha : h.2 a0 = some (eO 4 fs)) : c_Lines_end a0 h = dzRI (dzF 51 0 [(0, .ref a0)] [] (0, 0) h) := congrArg dzRI (dzGo_ob (c := 51) rfl ha rfl)
theorem cc_Checker_refuse (a0 : Nat) (i1 : Int32) (i2 : Int32) (h : dzH) {fs : List Value} (ha : h.2 a0 = some (eO 2 fs)) : c_Checker_refuse a0 i1 i2 h = dzRI (dzF 52 0 [(0, .ref a0), (1, .int i1), (2, .int i2)] [] (0, 0) h) := congrArg dzRI (dzGo_ob (c := 52) rfl ha rfl)
theorem cc_Checker_take (a0 : Nat) (h : dzH) {fs : List Value} (ha : h.2 a0 = some (eO 2 fs)) : c_Checker_take a0 h = dzRI (dzF 53 0 [(0, .ref a0)] [] (0, 0) h) := congrArg dzRI (dzGo_ob (c := 53) rfl ha rfl)
theorem cc_P_isSmallPrime (i0 : Int32) (h : dzH) : c_P_isSmallPrime i0 h = dzRI (dzF 54 0 [(0, .int i0)] [] (0, 0) h) := congrArg dzRI (dzGo_st (c := 54) rfl rfl)
theorem cc_Checker_refuseTaken (a0 : Nat) (i1 : Int32) (h : dzH) {fs : List Value} (ha : h.2 a0 = some (eO 2 fs)) : c_Checker_refuseTaken a0 i1 h = dzRI (dzF 55 0 [(0, .ref a0), (1, .int i1)] [] (0, 0) h) := congrArg dzRI (dzGo_ob (c := 55) rfl ha rfl)
theorem cc_Checker_readSmallPrime (a0 : Nat) (a1 : Nat) (h : dzH) {fs : List Value} (ha : h.2 a0 = some (eO 2 fs)) : c_Checker_readSmallPrime a0 a1 h = dzRI (dzF 56 0 [(0, .ref a0), (1, .ref a1)] [] (0, 0) h) := congrArg dzRI (dzGo_ob (c := 56) rfl ha rfl)
theorem cc_Sums_isAtMost (a0 : Nat) (i1 : Int32) (h : dzH) : c_Sums_isAtMost a0 i1 h = dzRI (dzF 57 0 [(0, .ref a0), (1, .int i1)] [] (0, 0) h) := congrArg dzRI (dzGo_st (c := 57) rfl rfl)
theorem cc_Checker_readNumber (a0 : Nat) (a1 : Nat) (h : dzH) {fs : List Value} (ha : h.2 a0 = some (eO 2 fs)) : c_Checker_readNumber a0 a1 h = dzRI (dzF 58 0 [(0, .ref a0), (1, .ref a1)] [] (0, 0) h) := congrArg dzRI (dzGo_ob (c := 58) rfl ha rfl)
theorem cc_Checker_isWitness (i0 : Int32) (a1 : Nat) (h : dzH) : c_Checker_isWitness i0 a1 h = dzRI (dzF 59 0 [(0, .int i0), (1, .ref a1)] [] (0, 0) h) := congrArg dzRI (dzGo_st (c := 59) rfl rfl)
theorem cc_Checker_readRoot (a0 : Nat) (a1 : Nat) (h : dzH) {fs : List Value} (ha : h.2 a0 = some (eO 2 fs)) : c_Checker_readRoot a0 a1 h = dzRI (dzF 60 0 [(0, .ref a0), (1, .ref a1)] [] (0, 0) h) := congrArg dzRI (dzGo_ob (c := 60) rfl ha rfl)
theorem cc_Checker_factorNumber (a0 : Nat) (i1 : Int32) (h : dzH) {fs : List Value} (ha : h.2 a0 = some (eO 2 fs)) : c_Checker_factorNumber a0 i1 h = dzRA (dzF 61 0 [(0, .ref a0), (1, .int i1)] [] (0, 0) h) := congrArg dzRA (dzGo_ob (c := 61) rfl ha rfl)
theorem cc_Checker_readFactorLine (a0 : Nat) (i1 : Int32) (i2 : Int32) (h : dzH) {fs : List Value} (ha : h.2 a0 = some (eO 2 fs)) : c_Checker_readFactorLine a0 i1 i2 h = dzRI (dzF 62 0 [(0, .ref a0), (1, .int i1), (2, .int i2)] [] (0, 0) h) := congrArg dzRI (dzGo_ob (c := 62) rfl ha rfl)
theorem cc_Checker_readExponent (a0 : Nat) (i1 : Int32) (h : dzH) {fs : List Value} (ha : h.2 a0 = some (eO 2 fs)) : c_Checker_readExponent a0 i1 h = dzRI (dzF 63 0 [(0, .ref a0), (1, .int i1)] [] (0, 0) h) := congrArg dzRI (dzGo_ob (c := 63) rfl ha rfl)
theorem cc_Checker_readFactors (a0 : Nat) (i1 : Int32) (h : dzH) {fs : List Value} (ha : h.2 a0 = some (eO 2 fs)) : c_Checker_readFactors a0 i1 h = dzRI (dzF 64 0 [(0, .ref a0), (1, .int i1)] [] (0, 0) h) := congrArg dzRI (dzGo_ob (c := 64) rfl ha rfl)
theorem cc_Checker_readLine (a0 : Nat) (i1 : Int32) (h : dzH) {fs : List Value} (ha : h.2 a0 = some (eO 2 fs)) : c_Checker_readLine a0 i1 h = dzRI (dzF 65 0 [(0, .ref a0), (1, .int i1)] [] (0, 0) h) := congrArg dzRI (dzGo_ob (c := 65) rfl ha rfl)
theorem cc_Trial_begin (a0 : Nat) (a1 : Nat) (h : dzH) {fs : List Value} (ha : h.2 a0 = some (eO 8 fs)) : c_Trial_begin a0 a1 h = dzRV (dzF 66 0 [(0, .ref a0), (1, .ref a1)] [] (0, 0) h) := congrArg dzRV (dzGo_ob (c := 66) rfl ha rfl)
theorem cc_Checker_multiplyFactors (a0 : Nat) (h : dzH) {fs : List Value} (ha : h.2 a0 = some (eO 2 fs)) : c_Checker_multiplyFactors a0 h = dzRI (dzF 67 0 [(0, .ref a0)] [] (0, 0) h) := congrArg dzRI (dzGo_ob (c := 67) rfl ha rfl)
theorem cc_Sums_divides (a0 : Nat) (a1 : Nat) (a2 : Nat) (h : dzH) {fs : List Value} (ha : h.2 a0 = some (eO 6 fs)) : c_Sums_divides a0 a1 a2 h = dzRI (dzF 68 0 [(0, .ref a0), (1, .ref a1), (2, .ref a2)] [] (0, 0) h) := congrArg dzRI (dzGo_ob (c := 68) rfl ha rfl)
theorem cc_Sums_squareIsAbove (a0 : Nat) (a1 : Nat) (a2 : Nat) (h : dzH) {fs : List Value} (ha : h.2 a0 = some (eO 6 fs)) : c_Sums_squareIsAbove a0 a1 a2 h = dzRI (dzF 69 0 [(0, .ref a0), (1, .ref a1), (2, .ref a2)] [] (0, 0) h) := congrArg dzRI (dzGo_ob (c := 69) rfl ha rfl)
theorem cc_Checker_productHolds (a0 : Nat) (h : dzH) {fs : List Value} (ha : h.2 a0 = some (eO 2 fs)) : c_Checker_productHolds a0 h = dzRI (dzF 70 0 [(0, .ref a0)] [] (0, 0) h) := congrArg dzRI (dzGo_ob (c := 70) rfl ha rfl)
theorem cc_Sums_isOne (a0 : Nat) (h : dzH) : c_Sums_isOne a0 h = dzRI (dzF 71 0 [(0, .ref a0)] [] (0, 0) h) := congrArg dzRI (dzGo_st (c := 71) rfl rfl)
theorem cc_Trial_closes (a0 : Nat) (i1 : Int32) (h : dzH) {fs : List Value} (ha : h.2 a0 = some (eO 8 fs)) : c_Trial_closes a0 i1 h = dzRI (dzF 72 0 [(0, .ref a0), (1, .int i1)] [] (0, 0) h) := congrArg dzRI (dzGo_ob (c := 72) rfl ha rfl)
theorem cc_Trial_parts (a0 : Nat) (i1 : Int32) (a2 : Nat) (h : dzH) {fs : List Value} (ha : h.2 a0 = some (eO 8 fs)) : c_Trial_parts a0 i1 a2 h = dzRI (dzF 73 0 [(0, .ref a0), (1, .int i1), (2, .ref a2)] [] (0, 0) h) := congrArg dzRI (dzGo_ob (c := 73) rfl ha rfl)
theorem cc_Checker_factorPlace (a0 : Nat) (i1 : Int32) (h : dzH) {fs : List Value} (ha : h.2 a0 = some (eO 2 fs)) : c_Checker_factorPlace a0 i1 h = dzRI (dzF 74 0 [(0, .ref a0), (1, .int i1)] [] (0, 0) h) := congrArg dzRI (dzGo_ob (c := 74) rfl ha rfl)
theorem cc_Checker_rootHolds (a0 : Nat) (h : dzH) {fs : List Value} (ha : h.2 a0 = some (eO 2 fs)) : c_Checker_rootHolds a0 h = dzRI (dzF 75 0 [(0, .ref a0)] [] (0, 0) h) := congrArg dzRI (dzGo_ob (c := 75) rfl ha rfl)
theorem cc_Trial_partsEverywhere (a0 : Nat) (i1 : Int32) (a2 : Nat) (h : dzH) {fs : List Value} (ha : h.2 a0 = some (eO 8 fs)) : c_Trial_partsEverywhere a0 i1 a2 h = dzRI (dzF 76 0 [(0, .ref a0), (1, .int i1), (2, .ref a2)] [] (0, 0) h) := congrArg dzRI (dzGo_ob (c := 76) rfl ha rfl)
theorem cc_Checker_witnessesHold (a0 : Nat) (h : dzH) {fs : List Value} (ha : h.2 a0 = some (eO 2 fs)) : c_Checker_witnessesHold a0 h = dzRI (dzF 77 0 [(0, .ref a0)] [] (0, 0) h) := congrArg dzRI (dzGo_ob (c := 77) rfl ha rfl)
theorem cc_Lines_keepNext (a0 : Nat) (i1 : Int32) (h : dzH) {fs : List Value} (ha : h.2 a0 = some (eO 4 fs)) : c_Lines_keepNext a0 i1 h = dzRV (dzF 78 0 [(0, .ref a0), (1, .int i1)] [] (0, 0) h) := congrArg dzRV (dzGo_ob (c := 78) rfl ha rfl)
theorem cc_Checker_findFault (a0 : Nat) (h : dzH) {fs : List Value} (ha : h.2 a0 = some (eO 2 fs)) : c_Checker_findFault a0 h = dzRI (dzF 79 0 [(0, .ref a0)] [] (0, 0) h) := congrArg dzRI (dzGo_ob (c := 79) rfl ha rfl)
theorem cc_P_check (a0 : Nat) (h : dzH) {fs : List Value} (ha : h.2 a0 = some (eO 0 fs)) : c_P_check a0 h = dzRI (dzF 80 0 [(0, .ref a0)] [] (0, 0) h) := congrArg dzRI (dzGo_ob (c := 80) rfl ha rfl)
theorem cc_P_place (a0 : Nat) (h : dzH) {fs : List Value} (ha : h.2 a0 = some (eO 0 fs)) : c_P_place a0 h = dzRI (dzF 81 0 [(0, .ref a0)] [] (0, 0) h) := congrArg dzRI (dzGo_ob (c := 81) rfl ha rfl)
theorem cc_P_tell (a0 : Nat) (i1 : Int32) (i2 : Int32) (h : dzH) {fs : List Value} (ha : h.2 a0 = some (eO 0 fs)) : c_P_tell a0 i1 i2 h = dzRI (dzF 82 0 [(0, .ref a0), (1, .int i1), (2, .int i2)] [] (0, 0) h) := congrArg dzRI (dzGo_ob (c := 82) rfl ha rfl)
theorem cc_Lines_lineOf (a0 : Nat) (a1 : Nat) (h : dzH) {fs : List Value} (ha : h.2 a0 = some (eO 4 fs)) : c_Lines_lineOf a0 a1 h = dzRI (dzF 83 0 [(0, .ref a0), (1, .ref a1)] [] (0, 0) h) := congrArg dzRI (dzGo_ob (c := 83) rfl ha rfl)
theorem cc_Maker_planSmallLine (a0 : Nat) (a1 : Nat) (h : dzH) {fs : List Value} (ha : h.2 a0 = some (eO 5 fs)) : c_Maker_planSmallLine a0 a1 h = dzRI (dzF 84 0 [(0, .ref a0), (1, .ref a1)] [] (0, 0) h) := congrArg dzRI (dzGo_ob (c := 84) rfl ha rfl)
theorem cc_Maker_hasRoom (a0 : Nat) (i1 : Int32) (h : dzH) {fs : List Value} (ha : h.2 a0 = some (eO 5 fs)) : c_Maker_hasRoom a0 i1 h = dzRI (dzF 85 0 [(0, .ref a0), (1, .int i1)] [] (0, 0) h) := congrArg dzRI (dzGo_ob (c := 85) rfl ha rfl)
theorem cc_Maker_writeSmallLines (a0 : Nat) (h : dzH) {fs : List Value} (ha : h.2 a0 = some (eO 5 fs)) : c_Maker_writeSmallLines a0 h = dzRI (dzF 86 0 [(0, .ref a0)] [] (0, 0) h) := congrArg dzRI (dzGo_ob (c := 86) rfl ha rfl)
theorem cc_Maker_divideOut (a0 : Nat) (a1 : Nat) (h : dzH) {fs : List Value} (ha : h.2 a0 = some (eO 5 fs)) : c_Maker_divideOut a0 a1 h = dzRI (dzF 87 0 [(0, .ref a0), (1, .ref a1)] [] (0, 0) h) := congrArg dzRI (dzGo_ob (c := 87) rfl ha rfl)
theorem cc_Maker_factorNumber (a0 : Nat) (i1 : Int32) (h : dzH) {fs : List Value} (ha : h.2 a0 = some (eO 5 fs)) : c_Maker_factorNumber a0 i1 h = dzRA (dzF 88 0 [(0, .ref a0), (1, .int i1)] [] (0, 0) h) := congrArg dzRA (dzGo_ob (c := 88) rfl ha rfl)
theorem cc_Maker_insertFactor (a0 : Nat) (i1 : Int32) (i2 : Int32) (h : dzH) {fs : List Value} (ha : h.2 a0 = some (eO 5 fs)) : c_Maker_insertFactor a0 i1 i2 h = dzRI (dzF 89 0 [(0, .ref a0), (1, .int i1), (2, .int i2)] [] (0, 0) h) := congrArg dzRI (dzGo_ob (c := 89) rfl ha rfl)
theorem cc_Maker_insertPrime (a0 : Nat) (i1 : Int32) (h : dzH) {fs : List Value} (ha : h.2 a0 = some (eO 5 fs)) : c_Maker_insertPrime a0 i1 h = dzRI (dzF 90 0 [(0, .ref a0), (1, .int i1)] [] (0, 0) h) := congrArg dzRI (dzGo_ob (c := 90) rfl ha rfl)
theorem cc_Maker_findFactors (a0 : Nat) (h : dzH) {fs : List Value} (ha : h.2 a0 = some (eO 5 fs)) : c_Maker_findFactors a0 h = dzRI (dzF 91 0 [(0, .ref a0)] [] (0, 0) h) := congrArg dzRI (dzGo_ob (c := 91) rfl ha rfl)
theorem cc_Maker_lastLineInts (a0 : Nat) (i1 : Int32) (h : dzH) {fs : List Value} (ha : h.2 a0 = some (eO 5 fs)) : c_Maker_lastLineInts a0 i1 h = dzRI (dzF 92 0 [(0, .ref a0), (1, .int i1)] [] (0, 0) h) := congrArg dzRI (dzGo_ob (c := 92) rfl ha rfl)
theorem cc_Maker_factorsSuffice (a0 : Nat) (h : dzH) {fs : List Value} (ha : h.2 a0 = some (eO 5 fs)) : c_Maker_factorsSuffice a0 h = dzRI (dzF 93 0 [(0, .ref a0)] [] (0, 0) h) := congrArg dzRI (dzGo_ob (c := 93) rfl ha rfl)
theorem cc_Maker_findRoot (a0 : Nat) (h : dzH) {fs : List Value} (ha : h.2 a0 = some (eO 5 fs)) : c_Maker_findRoot a0 h = dzRI (dzF 94 0 [(0, .ref a0)] [] (0, 0) h) := congrArg dzRI (dzGo_ob (c := 94) rfl ha rfl)
theorem cc_Maker_findWitnesses (a0 : Nat) (h : dzH) {fs : List Value} (ha : h.2 a0 = some (eO 5 fs)) : c_Maker_findWitnesses a0 h = dzRI (dzF 95 0 [(0, .ref a0)] [] (0, 0) h) := congrArg dzRI (dzGo_ob (c := 95) rfl ha rfl)
theorem cc_Maker_writeLastLine (a0 : Nat) (i1 : Int32) (h : dzH) {fs : List Value} (ha : h.2 a0 = some (eO 5 fs)) : c_Maker_writeLastLine a0 i1 h = dzRI (dzF 96 0 [(0, .ref a0), (1, .int i1)] [] (0, 0) h) := congrArg dzRI (dzGo_ob (c := 96) rfl ha rfl)
theorem cc_Maker_lineFor (a0 : Nat) (a1 : Nat) (h : dzH) {fs : List Value} (ha : h.2 a0 = some (eO 5 fs)) : c_Maker_lineFor a0 a1 h = dzRI (dzF 97 0 [(0, .ref a0), (1, .ref a1)] [] (0, 0) h) := congrArg dzRI (dzGo_ob (c := 97) rfl ha rfl)
theorem cc_P_prove (a0 : Nat) (i1 : Int32) (h : dzH) {fs : List Value} (ha : h.2 a0 = some (eO 0 fs)) : c_P_prove a0 i1 h = dzRI (dzF 98 0 [(0, .ref a0), (1, .int i1)] [] (0, 0) h) := congrArg dzRI (dzGo_ob (c := 98) rfl ha rfl)
theorem cc_M_set (a0 : Nat) (i1 : Int32) (j2 : Int64) (h : dzH) {fs : List Value} (ha : h.2 a0 = some (eO 1 fs)) : c_M_set a0 i1 j2 h = dzRV (dzF 99 0 [(0, .ref a0), (1, .int i1), (2, .long j2)] [] (0, 0) h) := congrArg dzRV (dzGo_ob (c := 99) rfl ha rfl)
theorem cc_M_init (a0 : Nat) (h : dzH) {fs : List Value} (ha : h.2 a0 = some (eO 1 fs)) : c_M_init a0 h = dzRV (dzF 100 0 [(0, .ref a0)] [] (0, 0) h) := congrArg dzRV (dzGo_ob (c := 100) rfl ha rfl)
theorem cc_M_copy (a0 : Nat) (i1 : Int32) (i2 : Int32) (h : dzH) {fs : List Value} (ha : h.2 a0 = some (eO 1 fs)) : c_M_copy a0 i1 i2 h = dzRV (dzF 101 0 [(0, .ref a0), (1, .int i1), (2, .int i2)] [] (0, 0) h) := congrArg dzRV (dzGo_ob (c := 101) rfl ha rfl)
theorem cc_M_order (a0 : Nat) (i1 : Int32) (i2 : Int32) (h : dzH) {fs : List Value} (ha : h.2 a0 = some (eO 1 fs)) : c_M_order a0 i1 i2 h = dzRI (dzF 102 0 [(0, .ref a0), (1, .int i1), (2, .int i2)] [] (0, 0) h) := congrArg dzRI (dzGo_ob (c := 102) rfl ha rfl)
theorem cc_M_lengthOf (a0 : Nat) (i1 : Int32) (h : dzH) {fs : List Value} (ha : h.2 a0 = some (eO 1 fs)) : c_M_lengthOf a0 i1 h = dzRI (dzF 103 0 [(0, .ref a0), (1, .int i1)] [] (0, 0) h) := congrArg dzRI (dzGo_ob (c := 103) rfl ha rfl)
theorem cc_M_isZero (a0 : Nat) (i1 : Int32) (h : dzH) {fs : List Value} (ha : h.2 a0 = some (eO 1 fs)) : c_M_isZero a0 i1 h = dzRI (dzF 104 0 [(0, .ref a0), (1, .int i1)] [] (0, 0) h) := congrArg dzRI (dzGo_ob (c := 104) rfl ha rfl)
theorem cc_M_raise (a0 : Nat) (i1 : Int32) (i2 : Int32) (h : dzH) {fs : List Value} (ha : h.2 a0 = some (eO 1 fs)) : c_M_raise a0 i1 i2 h = dzRV (dzF 105 0 [(0, .ref a0), (1, .int i1), (2, .int i2)] [] (0, 0) h) := congrArg dzRV (dzGo_ob (c := 105) rfl ha rfl)
theorem cc_M_lower (a0 : Nat) (i1 : Int32) (i2 : Int32) (h : dzH) {fs : List Value} (ha : h.2 a0 = some (eO 1 fs)) : c_M_lower a0 i1 i2 h = dzRV (dzF 106 0 [(0, .ref a0), (1, .int i1), (2, .int i2)] [] (0, 0) h) := congrArg dzRV (dzGo_ob (c := 106) rfl ha rfl)
theorem cc_M_times (a0 : Nat) (i1 : Int32) (i2 : Int32) (i3 : Int32) (h : dzH) {fs : List Value} (ha : h.2 a0 = some (eO 1 fs)) : c_M_times a0 i1 i2 i3 h = dzRV (dzF 107 0 [(0, .ref a0), (1, .int i1), (2, .int i2), (3, .int i3)] [] (0, 0) h) := congrArg dzRV (dzGo_ob (c := 107) rfl ha rfl)
theorem cc_M_guess (a0 : Nat) (i1 : Int32) (i2 : Int32) (i3 : Int32) (i4 : Int32) (h : dzH) {fs : List Value} (ha : h.2 a0 = some (eO 1 fs)) : c_M_guess a0 i1 i2 i3 i4 h = dzRI (dzF 108 0 [(0, .ref a0), (1, .int i1), (2, .int i2), (3, .int i3), (4, .int i4)] [] (0, 0) h) := congrArg dzRI (dzGo_ob (c := 108) rfl ha rfl)
theorem cc_M_away (a0 : Nat) (i1 : Int32) (i2 : Int32) (i3 : Int32) (i4 : Int32) (i5 : Int32) (h : dzH) {fs : List Value} (ha : h.2 a0 = some (eO 1 fs)) : c_M_away a0 i1 i2 i3 i4 i5 h = dzRV (dzF 109 0 [(0, .ref a0), (1, .int i1), (2, .int i2), (3, .int i3), (4, .int i4), (5, .int i5)] [] (0, 0) h) := congrArg dzRV (dzGo_ob (c := 109) rfl ha rfl)
theorem cc_M_isOver (a0 : Nat) (i1 : Int32) (i2 : Int32) (i3 : Int32) (i4 : Int32) (h : dzH) {fs : List Value} (ha : h.2 a0 = some (eO 1 fs)) : c_M_isOver a0 i1 i2 i3 i4 h = dzRI (dzF 110 0 [(0, .ref a0), (1, .int i1), (2, .int i2), (3, .int i3), (4, .int i4)] [] (0, 0) h) := congrArg dzRI (dzGo_ob (c := 110) rfl ha rfl)
theorem cc_M_part (a0 : Nat) (i1 : Int32) (i2 : Int32) (i3 : Int32) (i4 : Int32) (h : dzH) {fs : List Value} (ha : h.2 a0 = some (eO 1 fs)) : c_M_part a0 i1 i2 i3 i4 h = dzRV (dzF 111 0 [(0, .ref a0), (1, .int i1), (2, .int i2), (3, .int i3), (4, .int i4)] [] (0, 0) h) := congrArg dzRV (dzGo_ob (c := 111) rfl ha rfl)
theorem cc_M_bit (a0 : Nat) (i1 : Int32) (i2 : Int32) (h : dzH) {fs : List Value} (ha : h.2 a0 = some (eO 1 fs)) : c_M_bit a0 i1 i2 h = dzRI (dzF 112 0 [(0, .ref a0), (1, .int i1), (2, .int i2)] [] (0, 0) h) := congrArg dzRI (dzGo_ob (c := 112) rfl ha rfl)
theorem cc_M_raiseTo (a0 : Nat) (i1 : Int32) (i2 : Int32) (i3 : Int32) (i4 : Int32) (h : dzH) {fs : List Value} (ha : h.2 a0 = some (eO 1 fs)) : c_M_raiseTo a0 i1 i2 i3 i4 h = dzRV (dzF 113 0 [(0, .ref a0), (1, .int i1), (2, .int i2), (3, .int i3), (4, .int i4)] [] (0, 0) h) := congrArg dzRV (dzGo_ob (c := 113) rfl ha rfl)
theorem cc_M_divisor (a0 : Nat) (i1 : Int32) (i2 : Int32) (i3 : Int32) (h : dzH) {fs : List Value} (ha : h.2 a0 = some (eO 1 fs)) : c_M_divisor a0 i1 i2 i3 h = dzRV (dzF 114 0 [(0, .ref a0), (1, .int i1), (2, .int i2), (3, .int i3)] [] (0, 0) h) := congrArg dzRV (dzGo_ob (c := 114) rfl ha rfl)
theorem cc_M_fits (a0 : Nat) (i1 : Int32) (h : dzH) {fs : List Value} (ha : h.2 a0 = some (eO 1 fs)) : c_M_fits a0 i1 h = dzRI (dzF 115 0 [(0, .ref a0), (1, .int i1)] [] (0, 0) h) := congrArg dzRI (dzGo_ob (c := 115) rfl ha rfl)
theorem cc_M_isOne (a0 : Nat) (i1 : Int32) (h : dzH) {fs : List Value} (ha : h.2 a0 = some (eO 1 fs)) : c_M_isOne a0 i1 h = dzRI (dzF 116 0 [(0, .ref a0), (1, .int i1)] [] (0, 0) h) := congrArg dzRI (dzGo_ob (c := 116) rfl ha rfl)
theorem cc_M_isRegister (i0 : Int32) (h : dzH) : c_M_isRegister i0 h = dzRI (dzF 117 0 [(0, .int i0)] [] (0, 0) h) := congrArg dzRI (dzGo_st (c := 117) rfl rfl)
theorem cc_M_put (a0 : Nat) (i1 : Int32) (i2 : Int32) (i3 : Int32) (h : dzH) {fs : List Value} (ha : h.2 a0 = some (eO 1 fs)) : c_M_put a0 i1 i2 i3 h = dzRI (dzF 118 0 [(0, .ref a0), (1, .int i1), (2, .int i2), (3, .int i3)] [] (0, 0) h) := congrArg dzRI (dzGo_ob (c := 118) rfl ha rfl)
theorem cc_M_get (a0 : Nat) (i1 : Int32) (i2 : Int32) (h : dzH) {fs : List Value} (ha : h.2 a0 = some (eO 1 fs)) : c_M_get a0 i1 i2 h = dzRI (dzF 119 0 [(0, .ref a0), (1, .int i1), (2, .int i2)] [] (0, 0) h) := congrArg dzRI (dzGo_ob (c := 119) rfl ha rfl)
theorem cc_M_are (i0 : Int32) (i1 : Int32) (i2 : Int32) (h : dzH) : c_M_are i0 i1 i2 h = dzRI (dzF 120 0 [(0, .int i0), (1, .int i1), (2, .int i2)] [] (0, 0) h) := congrArg dzRI (dzGo_st (c := 120) rfl rfl)
theorem cc_M_give (a0 : Nat) (i1 : Int32) (i2 : Int32) (h : dzH) {fs : List Value} (ha : h.2 a0 = some (eO 1 fs)) : c_M_give a0 i1 i2 h = dzRI (dzF 121 0 [(0, .ref a0), (1, .int i1), (2, .int i2)] [] (0, 0) h) := congrArg dzRI (dzGo_ob (c := 121) rfl ha rfl)
theorem cc_M_add (a0 : Nat) (i1 : Int32) (i2 : Int32) (i3 : Int32) (h : dzH) {fs : List Value} (ha : h.2 a0 = some (eO 1 fs)) : c_M_add a0 i1 i2 i3 h = dzRI (dzF 122 0 [(0, .ref a0), (1, .int i1), (2, .int i2), (3, .int i3)] [] (0, 0) h) := congrArg dzRI (dzGo_ob (c := 122) rfl ha rfl)
theorem cc_M_subtract (a0 : Nat) (i1 : Int32) (i2 : Int32) (i3 : Int32) (h : dzH) {fs : List Value} (ha : h.2 a0 = some (eO 1 fs)) : c_M_subtract a0 i1 i2 i3 h = dzRI (dzF 123 0 [(0, .ref a0), (1, .int i1), (2, .int i2), (3, .int i3)] [] (0, 0) h) := congrArg dzRI (dzGo_ob (c := 123) rfl ha rfl)
theorem cc_M_multiply (a0 : Nat) (i1 : Int32) (i2 : Int32) (i3 : Int32) (h : dzH) {fs : List Value} (ha : h.2 a0 = some (eO 1 fs)) : c_M_multiply a0 i1 i2 i3 h = dzRI (dzF 124 0 [(0, .ref a0), (1, .int i1), (2, .int i2), (3, .int i3)] [] (0, 0) h) := congrArg dzRI (dzGo_ob (c := 124) rfl ha rfl)
theorem cc_M_divide (a0 : Nat) (i1 : Int32) (i2 : Int32) (i3 : Int32) (i4 : Int32) (h : dzH) {fs : List Value} (ha : h.2 a0 = some (eO 1 fs)) : c_M_divide a0 i1 i2 i3 i4 h = dzRI (dzF 125 0 [(0, .ref a0), (1, .int i1), (2, .int i2), (3, .int i3), (4, .int i4)] [] (0, 0) h) := congrArg dzRI (dzGo_ob (c := 125) rfl ha rfl)
theorem cc_M_power (a0 : Nat) (i1 : Int32) (i2 : Int32) (i3 : Int32) (i4 : Int32) (h : dzH) {fs : List Value} (ha : h.2 a0 = some (eO 1 fs)) : c_M_power a0 i1 i2 i3 i4 h = dzRI (dzF 126 0 [(0, .ref a0), (1, .int i1), (2, .int i2), (3, .int i3), (4, .int i4)] [] (0, 0) h) := congrArg dzRI (dzGo_ob (c := 126) rfl ha rfl)
theorem cc_M_common (a0 : Nat) (i1 : Int32) (i2 : Int32) (i3 : Int32) (h : dzH) {fs : List Value} (ha : h.2 a0 = some (eO 1 fs)) : c_M_common a0 i1 i2 i3 h = dzRI (dzF 127 0 [(0, .ref a0), (1, .int i1), (2, .int i2), (3, .int i3)] [] (0, 0) h) := congrArg dzRI (dzGo_ob (c := 127) rfl ha rfl)
theorem cc_M_compare (a0 : Nat) (i1 : Int32) (i2 : Int32) (h : dzH) {fs : List Value} (ha : h.2 a0 = some (eO 1 fs)) : c_M_compare a0 i1 i2 h = dzRI (dzF 128 0 [(0, .ref a0), (1, .int i1), (2, .int i2)] [] (0, 0) h) := congrArg dzRI (dzGo_ob (c := 128) rfl ha rfl)
theorem cc_M_say (a0 : Nat) (i1 : Int32) (h : dzH) {fs : List Value} (ha : h.2 a0 = some (eO 1 fs)) : c_M_say a0 i1 h = dzRI (dzF 129 0 [(0, .ref a0), (1, .int i1)] [] (0, 0) h) := congrArg dzRI (dzGo_ob (c := 129) rfl ha rfl)
theorem cc_M_cut (a0 : Nat) (i1 : Int32) (h : dzH) {fs : List Value} (ha : h.2 a0 = some (eO 1 fs)) : c_M_cut a0 i1 h = dzRI (dzF 130 0 [(0, .ref a0), (1, .int i1)] [] (0, 0) h) := congrArg dzRI (dzGo_ob (c := 130) rfl ha rfl)
theorem cc_M_length (a0 : Nat) (h : dzH) {fs : List Value} (ha : h.2 a0 = some (eO 1 fs)) : c_M_length a0 h = dzRI (dzF 131 0 [(0, .ref a0)] [] (0, 0) h) := congrArg dzRI (dzGo_ob (c := 131) rfl ha rfl)
theorem cc_M_at (a0 : Nat) (i1 : Int32) (h : dzH) {fs : List Value} (ha : h.2 a0 = some (eO 1 fs)) : c_M_at a0 i1 h = dzRI (dzF 132 0 [(0, .ref a0), (1, .int i1)] [] (0, 0) h) := congrArg dzRI (dzGo_ob (c := 132) rfl ha rfl)
theorem cc_M_fail (a0 : Nat) (i1 : Int32) (i2 : Int32) (h : dzH) {fs : List Value} (ha : h.2 a0 = some (eO 1 fs)) : c_M_fail a0 i1 i2 h = dzRV (dzF 133 0 [(0, .ref a0), (1, .int i1), (2, .int i2)] [] (0, 0) h) := congrArg dzRV (dzGo_ob (c := 133) rfl ha rfl)
theorem cc_M_isGood (a0 : Nat) (h : dzH) {fs : List Value} (ha : h.2 a0 = some (eO 1 fs)) : c_M_isGood a0 h = dzRI (dzF 134 0 [(0, .ref a0)] [] (0, 0) h) := congrArg dzRI (dzGo_ob (c := 134) rfl ha rfl)
theorem cc_M_next (a0 : Nat) (h : dzH) {fs : List Value} (ha : h.2 a0 = some (eO 1 fs)) : c_M_next a0 h = dzRI (dzF 135 0 [(0, .ref a0)] [] (0, 0) h) := congrArg dzRI (dzGo_ob (c := 135) rfl ha rfl)
theorem cc_M_nextIn (a0 : Nat) (i1 : Int32) (i2 : Int32) (h : dzH) {fs : List Value} (ha : h.2 a0 = some (eO 1 fs)) : c_M_nextIn a0 i1 i2 h = dzRI (dzF 136 0 [(0, .ref a0), (1, .int i1), (2, .int i2)] [] (0, 0) h) := congrArg dzRI (dzGo_ob (c := 136) rfl ha rfl)
theorem cc_M_isSmallPrime (i0 : Int32) (h : dzH) : c_M_isSmallPrime i0 h = dzRI (dzF 137 0 [(0, .int i0)] [] (0, 0) h) := congrArg dzRI (dzGo_st (c := 137) rfl rfl)
theorem cc_M_lineOne (a0 : Nat) (h : dzH) {fs : List Value} (ha : h.2 a0 = some (eO 1 fs)) : c_M_lineOne a0 h = dzRV (dzF 138 0 [(0, .ref a0)] [] (0, 0) h) := congrArg dzRV (dzGo_ob (c := 138) rfl ha rfl)
theorem cc_M_number (a0 : Nat) (h : dzH) {fs : List Value} (ha : h.2 a0 = some (eO 1 fs)) : c_M_number a0 h = dzRV (dzF 139 0 [(0, .ref a0)] [] (0, 0) h) := congrArg dzRV (dzGo_ob (c := 139) rfl ha rfl)
theorem cc_M_witness (a0 : Nat) (i1 : Int32) (h : dzH) {fs : List Value} (ha : h.2 a0 = some (eO 1 fs)) : c_M_witness a0 i1 h = dzRV (dzF 140 0 [(0, .ref a0), (1, .int i1)] [] (0, 0) h) := congrArg dzRV (dzGo_ob (c := 140) rfl ha rfl)
theorem cc_M_factors (a0 : Nat) (i1 : Int32) (h : dzH) {fs : List Value} (ha : h.2 a0 = some (eO 1 fs)) : c_M_factors a0 i1 h = dzRV (dzF 141 0 [(0, .ref a0), (1, .int i1)] [] (0, 0) h) := congrArg dzRV (dzGo_ob (c := 141) rfl ha rfl)
theorem cc_M_product (a0 : Nat) (i1 : Int32) (i2 : Int32) (h : dzH) {fs : List Value} (ha : h.2 a0 = some (eO 1 fs)) : c_M_product a0 i1 i2 h = dzRI (dzF 142 0 [(0, .ref a0), (1, .int i1), (2, .int i2)] [] (0, 0) h) := congrArg dzRI (dzGo_ob (c := 142) rfl ha rfl)
theorem cc_M_isWhole (a0 : Nat) (h : dzH) {fs : List Value} (ha : h.2 a0 = some (eO 1 fs)) : c_M_isWhole a0 h = dzRI (dzF 143 0 [(0, .ref a0)] [] (0, 0) h) := congrArg dzRI (dzGo_ob (c := 143) rfl ha rfl)
theorem cc_M_isRight (a0 : Nat) (i1 : Int32) (i2 : Int32) (h : dzH) {fs : List Value} (ha : h.2 a0 = some (eO 1 fs)) : c_M_isRight a0 i1 i2 h = dzRI (dzF 144 0 [(0, .ref a0), (1, .int i1), (2, .int i2)] [] (0, 0) h) := congrArg dzRI (dzGo_ob (c := 144) rfl ha rfl)
theorem cc_M_lineTwo (a0 : Nat) (h : dzH) {fs : List Value} (ha : h.2 a0 = some (eO 1 fs)) : c_M_lineTwo a0 h = dzRV (dzF 145 0 [(0, .ref a0)] [] (0, 0) h) := congrArg dzRV (dzGo_ob (c := 145) rfl ha rfl)
theorem cc_M_lineThree (a0 : Nat) (h : dzH) {fs : List Value} (ha : h.2 a0 = some (eO 1 fs)) : c_M_lineThree a0 h = dzRV (dzF 146 0 [(0, .ref a0)] [] (0, 0) h) := congrArg dzRV (dzGo_ob (c := 146) rfl ha rfl)
theorem cc_M_check (a0 : Nat) (h : dzH) {fs : List Value} (ha : h.2 a0 = some (eO 1 fs)) : c_M_check a0 h = dzRI (dzF 147 0 [(0, .ref a0)] [] (0, 0) h) := congrArg dzRI (dzGo_ob (c := 147) rfl ha rfl)
theorem cc_M_place (a0 : Nat) (h : dzH) {fs : List Value} (ha : h.2 a0 = some (eO 1 fs)) : c_M_place a0 h = dzRI (dzF 148 0 [(0, .ref a0)] [] (0, 0) h) := congrArg dzRI (dzGo_ob (c := 148) rfl ha rfl)
theorem cc_M_tell (a0 : Nat) (i1 : Int32) (i2 : Int32) (h : dzH) {fs : List Value} (ha : h.2 a0 = some (eO 1 fs)) : c_M_tell a0 i1 i2 h = dzRI (dzF 149 0 [(0, .ref a0), (1, .int i1), (2, .int i2)] [] (0, 0) h) := congrArg dzRI (dzGo_ob (c := 149) rfl ha rfl)
theorem cc_M_lineOf (a0 : Nat) (i1 : Int32) (h : dzH) {fs : List Value} (ha : h.2 a0 = some (eO 1 fs)) : c_M_lineOf a0 i1 h = dzRI (dzF 150 0 [(0, .ref a0), (1, .int i1)] [] (0, 0) h) := congrArg dzRI (dzGo_ob (c := 150) rfl ha rfl)
theorem cc_M_sayOne (a0 : Nat) (i1 : Int32) (h : dzH) {fs : List Value} (ha : h.2 a0 = some (eO 1 fs)) : c_M_sayOne a0 i1 h = dzRI (dzF 151 0 [(0, .ref a0), (1, .int i1)] [] (0, 0) h) := congrArg dzRI (dzGo_ob (c := 151) rfl ha rfl)
theorem cc_M_often (a0 : Nat) (i1 : Int32) (h : dzH) {fs : List Value} (ha : h.2 a0 = some (eO 1 fs)) : c_M_often a0 i1 h = dzRI (dzF 152 0 [(0, .ref a0), (1, .int i1)] [] (0, 0) h) := congrArg dzRI (dzGo_ob (c := 152) rfl ha rfl)
theorem cc_M_sort (a0 : Nat) (i1 : Int32) (h : dzH) {fs : List Value} (ha : h.2 a0 = some (eO 1 fs)) : c_M_sort a0 i1 h = dzRV (dzF 153 0 [(0, .ref a0), (1, .int i1)] [] (0, 0) h) := congrArg dzRV (dzGo_ob (c := 153) rfl ha rfl)
theorem cc_M_find (a0 : Nat) (h : dzH) {fs : List Value} (ha : h.2 a0 = some (eO 1 fs)) : c_M_find a0 h = dzRI (dzF 154 0 [(0, .ref a0)] [] (0, 0) h) := congrArg dzRI (dzGo_ob (c := 154) rfl ha rfl)
theorem cc_M_wholeWitness (a0 : Nat) (h : dzH) {fs : List Value} (ha : h.2 a0 = some (eO 1 fs)) : c_M_wholeWitness a0 h = dzRI (dzF 155 0 [(0, .ref a0)] [] (0, 0) h) := congrArg dzRI (dzGo_ob (c := 155) rfl ha rfl)
theorem cc_M_partWitnesses (a0 : Nat) (h : dzH) {fs : List Value} (ha : h.2 a0 = some (eO 1 fs)) : c_M_partWitnesses a0 h = dzRI (dzF 156 0 [(0, .ref a0)] [] (0, 0) h) := congrArg dzRI (dzGo_ob (c := 156) rfl ha rfl)
theorem cc_M_sayLine (a0 : Nat) (i1 : Int32) (i2 : Int32) (h : dzH) {fs : List Value} (ha : h.2 a0 = some (eO 1 fs)) : c_M_sayLine a0 i1 i2 h = dzRI (dzF 157 0 [(0, .ref a0), (1, .int i1), (2, .int i2)] [] (0, 0) h) := congrArg dzRI (dzGo_ob (c := 157) rfl ha rfl)
theorem cc_M_make (a0 : Nat) (h : dzH) {fs : List Value} (ha : h.2 a0 = some (eO 1 fs)) : c_M_make a0 h = dzRI (dzF 158 0 [(0, .ref a0)] [] (0, 0) h) := congrArg dzRI (dzGo_ob (c := 158) rfl ha rfl)
theorem cc_M_prove (a0 : Nat) (i1 : Int32) (h : dzH) {fs : List Value} (ha : h.2 a0 = some (eO 1 fs)) : c_M_prove a0 i1 h = dzRI (dzF 159 0 [(0, .ref a0), (1, .int i1)] [] (0, 0) h) := congrArg dzRI (dzGo_ob (c := 159) rfl ha rfl)
end
section
/-! the machine's numbers as natural numbers -/
def w32 (x : Int32) : Nat := x.toBitVec.toNat
def uN (x : Int64) : Nat := x.toBitVec.toNat
theorem w32_lt (x : Int32) : w32 x < 4294967296 := x.toBitVec.isLt
theorem uN_lt (x : Int64) : uN x < 18446744073709551616 := x.toBitVec.isLt
theorem w32_inj {x y : Int32} (h : w32 x = w32 y) : x = y := Int32.toBitVec_inj.mp (BitVec.eq_of_toNat_eq h)
theorem uN_inj {x y : Int64} (h : uN x = uN y) : x = y := Int64.toBitVec_inj.mp (BitVec.eq_of_toNat_eq h)
theorem w32_nI {n : Nat} (h : n < 4294967296) : w32 (nI n) = n := pk_tn h
theorem nI_w32 (x : Int32) : nI (w32 x) = x := w32_inj (w32_nI (w32_lt x))
theorem w32_0 : w32 0 = 0 := rfl
theorem w32_eq0 {x : Int32} : x = 0 ↔ w32 x = 0 := ⟨fun h => by rw [h]; rfl, fun h => w32_inj h⟩
theorem w32_int (x : Int32) : x.toInt = if 2 * w32 x < 4294967296 then (w32 x : Int) else (w32 x : Int) - 4294967296 := BitVec.toInt_eq_toNat_cond _
theorem uN_int (x : Int64) : x.toInt = if 2 * uN x < 18446744073709551616 then (uN x : Int) else (uN x : Int) - 18446744073709551616 := BitVec.toInt_eq_toNat_cond _
theorem uN_add (x y : Int64) : uN (x + y) = (uN x + uN y) % 18446744073709551616 := BitVec.toNat_add _ _
theorem uN_sub (x y : Int64) : uN (x - y) = (18446744073709551616 - uN y + uN x) % 18446744073709551616 := BitVec.toNat_sub _ _
theorem uN_mul (x y : Int64) : uN (x * y) = (uN x * uN y) % 18446744073709551616 := BitVec.toNat_mul _ _
theorem uN_and (x y : Int64) : uN (x &&& y) = uN x &&& uN y := BitVec.toNat_and _ _
theorem uN_or (x y : Int64) : uN (x ||| y) = uN x ||| uN y := BitVec.toNat_or _ _
theorem uN_mask (x : Int64) : uN (x &&& 4294967295) = uN x % 4294967296 := by
  rw [uN_and]
  exact Nat.and_two_pow_sub_one_eq_mod (uN x) 32
theorem uN_i2l (x : Int32) : uN (Int32.toInt64 x) = if 2 * w32 x < 4294967296 then w32 x else w32 x + 18446744069414584320 := by
  have h := Int32.toInt_toInt64 x
  rw [uN_int, w32_int] at h
  have h1 := uN_lt (Int32.toInt64 x)
  have h2 := w32_lt x
  split at h <;> split at h <;> split <;> omega
theorem uN_lw (x : Int32) : uN (Int32.toInt64 x &&& 4294967295) = w32 x := by
  rw [uN_mask, uN_i2l]
  have h2 := w32_lt x
  split <;> omega
theorem w32_l2i (x : Int64) : w32 (Int64.toInt32 x) = uN x % 4294967296 := by
  have h := Int64.toInt_toInt32 x
  rw [uN_int, w32_int, Int.bmod_def] at h
  have h1 := uN_lt x
  have h2 := w32_lt (Int64.toInt32 x)
  split at h <;> split at h <;> split at h <;> omega
theorem uN_lushr (x : Int64) (y : Int32) {k : Nat} (hk : (y.toInt64.toUInt64 &&& Int64.toUInt64 63).toNat % 64 = k) : uN (k_lushr x y) = uN x / 2 ^ k := by
  show (x.toUInt64 >>> (y.toInt64.toUInt64 &&& Int64.toUInt64 63)).toNat = _
  rw [UInt64.toNat_shiftRight, hk, Nat.shiftRight_eq_div_pow]
  rfl
theorem uN_s32 (x : Int64) : uN (k_lushr x 32) = uN x / 4294967296 := uN_lushr x 32 (k := 32) (by decide +kernel)
theorem uN_s1 (x : Int64) : uN (k_lushr x 1) = uN x / 2 := uN_lushr x 1 (k := 1) (by decide +kernel)
theorem cnt_u : ∀ k, k < 64 → ((nI k).toInt64.toUInt64 &&& Int64.toUInt64 63).toNat % 64 = k := by decide +kernel
theorem uN_sN (x : Int64) {k : Nat} (hk : k < 64) : uN (k_lushr x (nI k)) = uN x / 2 ^ k := uN_lushr x (nI k) (cnt_u k hk)
theorem uN_lshl (x : Int64) (y : Int32) {k : Nat} (hk : ((y.toInt64 &&& 63).toBitVec.smod 64).toNat = k) : uN (k_lshl x y) = uN x * 2 ^ k % 18446744073709551616 := by
  show (x <<< (y.toInt64 &&& 63)).toBitVec.toNat = _
  rw [Int64.toBitVec_shiftLeft, BitVec.shiftLeft_eq', BitVec.toNat_shiftLeft, hk, Nat.shiftLeft_eq]
  rfl
theorem uN_l32 (x : Int64) : uN (k_lshl x 32) = uN x * 4294967296 % 18446744073709551616 := uN_lshl x 32 (k := 32) (by decide +kernel)
theorem uN_l1 (x : Int64) : uN (k_lshl x 1) = uN x * 2 % 18446744073709551616 := uN_lshl x 1 (k := 1) (by decide +kernel)
theorem cnt_l : ∀ k, k < 64 → (((nI k).toInt64 &&& 63).toBitVec.smod 64).toNat = k := by decide +kernel
theorem uN_lN (x : Int64) {k : Nat} (hk : k < 64) : uN (k_lshl x (nI k)) = uN x * 2 ^ k % 18446744073709551616 := uN_lshl x (nI k) (cnt_l k hk)
theorem lT_shr (x : Int64) (y : Int32) {k : Nat} (hk : ((y.toInt64 &&& 63).toBitVec.smod 64).toNat = k) : (k_lshr x y).toInt = x.toInt / 2 ^ k := by
  show (x >>> (y.toInt64 &&& 63)).toBitVec.toInt = _
  rw [Int64.toBitVec_shiftRight, BitVec.sshiftRight_eq', hk, BitVec.toInt_sshiftRight, Int.shiftRight_eq_div_pow]
  rfl
theorem lT_s32 (x : Int64) : (k_lshr x 32).toInt = x.toInt / 4294967296 := lT_shr x 32 (k := 32) (by decide +kernel)
theorem lT_s16 (x : Int64) : (k_lshr x 16).toInt = x.toInt / 65536 := lT_shr x 16 (k := 16) (by decide +kernel)
theorem w32_shl (x y : Int32) {k : Nat} (hk : ((y &&& 31).toBitVec.smod 32).toNat = k) : w32 (k_ishl x y) = w32 x * 2 ^ k % 4294967296 := by
  show (x <<< (y &&& 31)).toBitVec.toNat = _
  rw [Int32.toBitVec_shiftLeft, BitVec.shiftLeft_eq', BitVec.toNat_shiftLeft, hk, Nat.shiftLeft_eq]
  rfl
theorem cnt_i : ∀ k, k < 32 → ((nI k &&& 31).toBitVec.smod 32).toNat = k := by decide +kernel
theorem w32_shlN (x : Int32) {k : Nat} (hk : k < 32) : w32 (k_ishl x (nI k)) = w32 x * 2 ^ k % 4294967296 := w32_shl x (nI k) (cnt_i k hk)
theorem iT_shr (x y : Int32) {k : Nat} (hk : ((y &&& 31).toBitVec.smod 32).toNat = k) : (k_ishr x y).toInt = x.toInt / 2 ^ k := by
  show (x >>> (y &&& 31)).toBitVec.toInt = _
  rw [Int32.toBitVec_shiftRight, BitVec.sshiftRight_eq', hk, BitVec.toInt_sshiftRight, Int.shiftRight_eq_div_pow]
  rfl
theorem iT_shrN (x : Int32) {k : Nat} (hk : k < 32) : (k_ishr x (nI k)).toInt = x.toInt / 2 ^ k := iT_shr x (nI k) (cnt_i k hk)
theorem w32_ushr (x y : Int32) {k : Nat} (hk : (y.toUInt32 &&& Int32.toUInt32 31).toNat % 32 = k) : w32 (k_iushr x y) = w32 x / 2 ^ k := by
  show (x.toUInt32 >>> (y.toUInt32 &&& Int32.toUInt32 31)).toNat = _
  rw [UInt32.toNat_shiftRight, hk, Nat.shiftRight_eq_div_pow]
  rfl
theorem cnt_iu : ∀ k, k < 32 → ((nI k).toUInt32 &&& Int32.toUInt32 31).toNat % 32 = k := by decide +kernel
theorem w32_ushrN (x : Int32) {k : Nat} (hk : k < 32) : w32 (k_iushr x (nI k)) = w32 x / 2 ^ k := w32_ushr x (nI k) (cnt_iu k hk)
theorem w32_and (x y : Int32) : w32 (x &&& y) = w32 x &&& w32 y := BitVec.toNat_and _ _
theorem w32_add (x y : Int32) : w32 (x + y) = (w32 x + w32 y) % 4294967296 := BitVec.toNat_add _ _
theorem w32_sub (x y : Int32) : w32 (x - y) = (4294967296 - w32 y + w32 x) % 4294967296 := BitVec.toNat_sub _ _
-- comparing longs
theorem k_lcmp_0 {x y : Int64} : k_lcmp x y = 0 ↔ x = y := by
  unfold k_lcmp lg_cmp
  constructor
  · intro h
    split at h
    · cases h
    · split at h
      · assumption
      · cases h
  · intro h
    subst h
    rw [if_neg (by simp [Int64.lt_irrefl]), if_pos rfl]
theorem k_lcmp_lt {x y : Int64} : k_lcmp x y < 0 ↔ x.toInt < y.toInt := by
  unfold k_lcmp lg_cmp
  rw [← Int64.lt_iff_toInt_lt]
  constructor
  · intro h
    split at h
    · exact absurd h (by decide)
    · split at h
      · exact absurd h (by decide)
      · rename_i h1 h2
        rw [gt_iff_lt, Int64.not_lt] at h1
        exact Int64.lt_of_le_of_ne h1 h2
  · intro h
    rw [if_neg (by rw [gt_iff_lt]; exact Int64.lt_asymm h), if_neg (fun q => by subst q; exact Int64.lt_irrefl h)]
    decide
theorem k_lcmp_le {x y : Int64} : k_lcmp x y ≤ 0 ↔ x.toInt ≤ y.toInt := by
  unfold k_lcmp lg_cmp
  rw [← Int64.le_iff_toInt_le]
  constructor
  · intro h
    split at h
    · exact absurd h (by decide)
    · rename_i h1
      rw [gt_iff_lt, Int64.not_lt] at h1
      exact h1
  · intro h
    rw [if_neg (by rw [gt_iff_lt]; exact Int64.not_lt.mpr h)]
    split <;> decide
end
section
/-! the abstract heap: reads, writes, what stays -/
abbrev hU (h : dzH) (a : Nat) (x : dzE) : dzH := (h.1, va_up h.2 a (some x))
theorem hU_s (h : dzH) (a : Nat) (x : dzE) : (hU h a x).2 a = some x := va_up_self _ _ _
theorem hU_n {h : dzH} {a q : Nat} {x : dzE} (hq : q ≠ a) : (hU h a x).2 q = h.2 q := va_up_ne _ _ hq
theorem hU_u (h : dzH) (a : Nat) (x y : dzE) : hU (hU h a x) a y = hU h a y := by
  show ((h.1, va_up (va_up h.2 a (some x)) a (some y)) : dzH) = _
  rw [bx_uu]
theorem hU_id {h : dzH} {a : Nat} {x : dzE} (ha : h.2 a = some x) : hU h a x = h := by
  refine Prod.ext rfl (funext fun q => ?_)
  show va_up h.2 a (some x) q = h.2 q
  by_cases e : q = a
  · subst e; rw [va_up_self, ha]
  · rw [va_up_ne _ _ e]
theorem in_nI {j n : Nat} (hj : j < n) (hn : n < 2147483648) : ¬ (nI j < 0 ∨ n ≤ (nI j).toNatClampNeg) := by
  rw [nI_clamp (by omega)]
  intro h
  rcases h with h | h
  · exact nI_pos (by omega) h
  · omega
theorem drI_at {h : dzH} {a n j : Nat} {f : Nat → Int32} (ha : h.2 a = some (eI n f)) (hj : j < n) (hn : n < 2147483648) : drI h a (nI j) = some (f j) := by
  unfold drI
  rw [ha]
  dsimp only
  rw [if_pos (in_nI hj hn), nI_clamp (by omega)]
theorem drX_at {h : dzH} {a n j : Nat} {f : Nat → Int32} (ha : h.2 a = some (eX n f)) (hj : j < n) (hn : n < 2147483648) : drI h a (nI j) = some (f j) := by
  unfold drI
  rw [ha]
  dsimp only
  rw [if_pos (in_nI hj hn), nI_clamp (by omega)]
theorem dwI_at {h : dzH} {a n j : Nat} {f : Nat → Int32} (x : Int32) (ha : h.2 a = some (eI n f)) (hj : j < n) (hn : n < 2147483648) : dwI h a (nI j) x = some (hU h a (eI n (upd f j x))) := by
  unfold dwI
  rw [ha]
  dsimp only
  rw [if_pos (in_nI hj hn), nI_clamp (by omega)]
theorem drA_at {h : dzH} {a n j y : Nat} {f : Nat → Option Nat} (ha : h.2 a = some (eA n f)) (hj : j < n) (hn : n < 2147483648) (hy : f j = some y) : drA h a (nI j) = some y := by
  unfold drA
  rw [ha]
  dsimp only
  rw [if_pos (in_nI hj hn), nI_clamp (by omega), hy]
theorem dln_at {h : dzH} {a n : Nat} {f : Nat → Int32} (ha : h.2 a = some (eI n f)) : dln h a = some (nI n) := by
  unfold dln
  rw [ha]
  rfl
theorem dlnX_at {h : dzH} {a n : Nat} {f : Nat → Int32} (ha : h.2 a = some (eX n f)) : dln h a = some (nI n) := by
  unfold dln
  rw [ha]
  rfl
theorem dgI_at {h : dzH} {a ci k : Nat} {fs : List Value} {x : Int32} (ha : h.2 a = some (eO ci fs)) (hk : fs[k]? = some (.int x)) : dgI h a ci k = some x := by
  unfold dgI dgV
  rw [ha]
  dsimp only
  rw [if_pos rfl, hk]
theorem dgA_at {h : dzH} {a ci k x : Nat} {fs : List Value} (ha : h.2 a = some (eO ci fs)) (hk : fs[k]? = some (.ref x)) : dgA h a ci k = some x := by
  unfold dgA dgV
  rw [ha]
  dsimp only
  rw [if_pos rfl, hk]
theorem dpF_at {h : dzH} {a ci k : Nat} {fs : List Value} (v : Value) (ha : h.2 a = some (eO ci fs)) (hk : k < fs.length) : dpF h a ci k v = some (hU h a (eO ci (fs.set k v))) := by
  unfold dpF
  rw [ha]
  dsimp only
  rw [if_pos ⟨rfl, hk⟩]
theorem dcp_at {h : dzH} {a b n m : Nat} {f g : Nat → Int32} (ha : h.2 a = some (eI n f)) (hb : h.2 b = some (eI m g)) (hn : 8 ≤ n) (hm : 8 ≤ m) : dcp h a 0 b 0 8 = some (hU h b (eI m (fun i => if i < 8 then f i else g i))) := by
  unfold dcp
  rw [ha, hb]
  dsimp only
  have e0 : (0 : Int32).toNatClampNeg = 0 := by decide
  have e8 : (8 : Int32).toNatClampNeg = 8 := by decide
  rw [if_pos (by rw [e0, e8]; exact ⟨by decide, by decide, by decide, by omega, by omega⟩)]
  have e : va_cpy f g (0 : Int32).toNatClampNeg (0 : Int32).toNatClampNeg (8 : Int32).toNatClampNeg = fun i => if i < 8 then f i else g i := by
    funext i
    unfold va_cpy
    rw [e0, e8]
    by_cases hi : i < 8
    · rw [if_pos ⟨Nat.zero_le _, by omega⟩, if_pos hi]
      congr 1
      omega
    · rw [if_neg (fun q => hi (by omega)), if_neg hi]
  rw [e]
/-- nothing changes but at P -/
def fr (h h' : dzH) (P : Nat → Prop) : Prop := h'.1 = h.1 ∧ ∀ q, ¬ P q → h'.2 q = h.2 q
theorem fr.rf (h : dzH) (P : Nat → Prop) : fr h h P := ⟨rfl, fun _ _ => rfl⟩
theorem fr.tr {h h1 h2 : dzH} {P : Nat → Prop} (a : fr h h1 P) (b : fr h1 h2 P) : fr h h2 P := ⟨b.1.trans a.1, fun q hq => (b.2 q hq).trans (a.2 q hq)⟩
theorem fr.mono {h h1 : dzH} {P P' : Nat → Prop} (a : fr h h1 P) (hP : ∀ q, P q → P' q) : fr h h1 P' := ⟨a.1, fun q hq => a.2 q (fun z => hq (hP q z))⟩
theorem fr.up (h : dzH) (a : Nat) (x : dzE) : fr h (hU h a x) (fun q => q = a) := ⟨rfl, fun _ hq => hU_n hq⟩
theorem fr.at {h h1 : dzH} {P : Nat → Prop} {q : Nat} (a : fr h h1 P) (hq : ¬ P q) : h1.2 q = h.2 q := a.2 q hq
/-- a row of n ints at a -/
def rowN (h : dzH) (a n : Nat) : Prop := ∃ f, h.2 a = some (eI n f)
/-- the number in the n words of a row -/
def wv (f : Nat → Int32) (n : Nat) : Nat := pv 4294967296 (fun i => w32 (f i)) n
theorem wv_s (f : Nat → Int32) (n : Nat) : wv f (n + 1) = wv f n + w32 (f n) * 4294967296 ^ n := rfl
theorem wv_0 (f : Nat → Int32) : wv f 0 = 0 := rfl
theorem wv_lt (f : Nat → Int32) (n : Nat) : wv f n < 4294967296 ^ n := pv_lt (fun i _ => w32_lt (f i))
theorem wv_congr {f g : Nat → Int32} {n : Nat} (h : ∀ i, i < n → f i = g i) : wv f n = wv g n := pv_congr (fun i hi => by rw [h i hi])
theorem wv_inj {f g : Nat → Int32} {n : Nat} (h : wv f n = wv g n) : ∀ i, i < n → f i = g i := fun i hi => w32_inj (pv_inj (fun i _ => w32_lt (f i)) (fun i _ => w32_lt (g i)) h i hi)
/-- what eight words can't hold any more -/
def B8 : Nat := 4294967296 ^ 8
theorem B8_eq : 4294967296 ^ 8 = B8 := rfl
theorem B8_pos : 0 < B8 := by rw [← B8_eq]; exact Nat.pow_pos (by decide)
theorem wv_lt8 (f : Nat → Int32) : wv f 8 < B8 := wv_lt f 8
/-- the row at a has eight words and holds v -/
def row8 (h : dzH) (a v : Nat) : Prop := ∃ f, h.2 a = some (eI 8 f) ∧ wv f 8 = v
theorem row8.row {h : dzH} {a v : Nat} (r : row8 h a v) : rowN h a 8 := by obtain ⟨f, h1, -⟩ := r; exact ⟨f, h1⟩
theorem row8.lt {h : dzH} {a v : Nat} (r : row8 h a v) : v < B8 := by obtain ⟨f, -, h2⟩ := r; rw [← h2]; exact wv_lt8 f
theorem row8.eq {h h1 : dzH} {a v : Nat} (r : row8 h a v) (e : h1.2 a = h.2 a) : row8 h1 a v := by obtain ⟨f, h1, h2⟩ := r; exact ⟨f, by rw [e]; exact h1, h2⟩
theorem rowN.eq {h h1 : dzH} {a n : Nat} (r : rowN h a n) (e : h1.2 a = h.2 a) : rowN h1 a n := by obtain ⟨f, h1⟩ := r; exact ⟨f, by rw [e]; exact h1⟩
theorem rowN.val {h : dzH} {a : Nat} (r : rowN h a 8) : ∃ v, row8 h a v := by obtain ⟨f, h1⟩ := r; exact ⟨_, f, h1, rfl⟩
end
section
/-! Sums: used words, copies, comparing, sums, differences -/
def bI (b : Bool) : Int32 := if b = true then 1 else 0
theorem bI_t : bI true = 1 := rfl
theorem bI_f : bI false = 0 := rfl
theorem bI_0 {b : Bool} : bI b = 0 ↔ b = false := by cases b <;> decide
theorem bI_1 {b : Bool} : bI b = 1 ↔ b = true := by cases b <;> decide
theorem dzB01_b (b : Bool) : dzB01 (bI b) = some (bI b) := by cases b <;> rfl
/-- how many words are used -/
def uw (f : Nat → Int32) : Nat → Nat
  | 0 => 0
  | n + 1 => if f n = 0 then uw f n else n + 1
theorem uw_s (f : Nat → Int32) (n : Nat) : uw f (n + 1) = if f n = 0 then uw f n else n + 1 := rfl
theorem uw_le (f : Nat → Int32) : ∀ n, uw f n ≤ n
  | 0 => Nat.le_refl _
  | n + 1 => by
    unfold uw
    split
    · have := uw_le f n; omega
    · omega
theorem uw_zero (f : Nat → Int32) : ∀ n i, uw f n ≤ i → i < n → f i = 0
  | 0, i, _, h => by omega
  | n + 1, i, h1, h2 => by
    unfold uw at h1
    split at h1
    · rename_i e
      by_cases hi : i = n
      · rw [hi]; exact e
      · exact uw_zero f n i h1 (by omega)
    · omega
theorem uw_top (f : Nat → Int32) : ∀ n, 0 < uw f n → f (uw f n - 1) ≠ 0
  | 0, h => by simp [uw] at h
  | n + 1, h => by
    unfold uw at h ⊢
    split at h
    · rename_i e
      rw [if_pos e]
      exact uw_top f n h
    · rename_i e
      rw [if_neg e]
      exact e
theorem wv_uw (f : Nat → Int32) (n : Nat) : wv f n = wv f (uw f n) := pv_ext (uw_le f n) (fun i h1 h2 => by rw [uw_zero f n i h1 h2]; rfl)
theorem wv_lt_uw (f : Nat → Int32) (n : Nat) : wv f n < 4294967296 ^ uw f n := by rw [wv_uw]; exact wv_lt f _
theorem wv_ge_uw (f : Nat → Int32) (n : Nat) (h : 0 < uw f n) : 4294967296 ^ (uw f n - 1) ≤ wv f n := by
  have h1 := pv_ge (B := 4294967296) (d := fun i => w32 (f i)) (k := uw f n - 1) (n := n) (by have := uw_le f n; omega)
  have h2 : 1 ≤ w32 (f (uw f n - 1)) := by
    rcases Nat.eq_zero_or_pos (w32 (f (uw f n - 1))) with h3 | h3
    · exact absurd (w32_eq0.mpr h3) (uw_top f n h)
    · exact h3
  have h3 : 1 * 4294967296 ^ (uw f n - 1) ≤ w32 (f (uw f n - 1)) * 4294967296 ^ (uw f n - 1) := Nat.mul_le_mul_right _ h2
  rw [Nat.one_mul] at h3
  exact Nat.le_trans h3 h1
theorem uw_0 (f : Nat → Int32) (n : Nat) : uw f n = 0 ↔ wv f n = 0 := by
  constructor
  · intro h; rw [wv_uw, h]; rfl
  · intro h
    rcases Nat.eq_zero_or_pos (uw f n) with h1 | h1
    · exact h1
    · have h2 := wv_ge_uw f n h1
      have h3 : 0 < 4294967296 ^ (uw f n - 1) := Nat.pow_pos (by decide)
      omega
theorem lp_used {h : dzH} {a n : Nat} {f : Nat → Int32} (ha : h.2 a = some (eI n f)) (hn : n < 2147483648) : ∀ i, i ≤ n → dzF 19 3 [(0, .ref a), (1, .int (nI i))] [] (0, 0) h = some (some (.int (nI (uw f i))), h)
  | 0, _ => by
    rw [q_Sums_usedWords_3, if_pos (by decide)]
    rfl
  | i + 1, hi => by
    rw [q_Sums_usedWords_3, if_neg (nI_nle (by omega) (by omega)), nI_pred, drI_at ha (by omega) hn, Option.bind_some]
    by_cases e : f i = 0
    · rw [if_pos e, pk_m1, lp_used ha hn i (by omega), uw_s, if_pos e]
    · rw [if_neg e, uw_s, if_neg e]
theorem sp_used {h : dzH} {a n : Nat} {f : Nat → Int32} (ha : h.2 a = some (eI n f)) (hn : n < 2147483648) : c_Sums_usedWords a h = some (nI (uw f n), h) := by
  rw [cc_Sums_usedWords, q_Sums_usedWords_0, dln_at ha, Option.bind_some, lp_used ha hn n (Nat.le_refl _)]
  rfl
theorem sp_isZero {h : dzH} {a n : Nat} {f : Nat → Int32} (ha : h.2 a = some (eI n f)) (hn : n < 2147483648) : c_Sums_isZero a h = some (bI (decide (wv f n = 0)), h) := by
  rw [cc_Sums_isZero, q_Sums_isZero_0, sp_used ha hn, Option.bind_some]
  dsimp only
  by_cases e : wv f n = 0
  · rw [if_pos (by rw [(uw_0 f n).mpr e]; rfl), decide_eq_true e]
    rfl
  · have h1 : uw f n ≠ 0 := fun q => e ((uw_0 f n).mp q)
    rw [if_neg (nI_ne0 (by omega) (by have := uw_le f n; omega)), decide_eq_false e]
    rfl
-- copies
theorem sp_copy {h : dzH} {a b n m : Nat} {f g : Nat → Int32} (ha : h.2 a = some (eI n f)) (hb : h.2 b = some (eI m g)) (hn : 8 ≤ n) (hm : 8 ≤ m) : c_Sums_copy a b h = some (hU h b (eI m (fun i => if i < 8 then f i else g i))) := by
  rw [cc_Sums_copy, q_Sums_copy_0, dcp_at ha hb hn hm, Option.bind_some]
  rfl
theorem sp_copy8 {h : dzH} {a b v : Nat} (ha : row8 h a v) (hb : rowN h b 8) : ∃ h', c_Sums_copy a b h = some h' ∧ row8 h' b v ∧ fr h h' (fun q => q = b) := by
  obtain ⟨f, h1, h2⟩ := ha
  obtain ⟨g, h3⟩ := hb
  refine ⟨_, sp_copy h1 h3 (by omega) (by omega), ⟨_, hU_s _ _ _, ?_⟩, fr.up _ _ _⟩
  rw [← h2]
  exact wv_congr (fun i hi => if_pos hi)
-- filling
theorem lp_fill {a n : Nat} {x : Int32} (hn : n < 2147483648) : ∀ (k i : Nat), i + k = n → ∀ (h : dzH) (f : Nat → Int32), h.2 a = some (eI n f) → dzF 20 5 [(0, .ref a), (1, .int x), (2, .int (nI i)), (3, .int (nI n))] [] (0, 0) h = some (none, hU h a (eI n (fun j => if i ≤ j ∧ j < n then x else f j)))
  | 0, i, hk, h, f, ha => by
    rw [q_Arrays_fill_5, if_neg (nI_nlt (by omega) (by omega))]
    have e : (fun j => if i ≤ j ∧ j < n then x else f j) = f := by
      funext j
      rw [if_neg (by omega)]
    rw [e, hU_id ha]
  | k + 1, i, hk, h, f, ha => by
    rw [q_Arrays_fill_5, if_pos (nI_lt (by omega) (by omega)), dwI_at x ha (by omega) hn, Option.bind_some, nI_1, lp_fill hn k (i + 1) (by omega) _ _ (hU_s _ _ _), hU_u]
    have e : (fun j => if i + 1 ≤ j ∧ j < n then x else upd f i x j) = (fun j => if i ≤ j ∧ j < n then x else f j) := by
      funext j
      by_cases h1 : j = i
      · subst h1
        rw [if_neg (by omega), if_pos (by omega)]
        exact pk_us
      · by_cases h2 : i + 1 ≤ j ∧ j < n
        · rw [if_pos h2, if_pos (by omega)]
        · rw [if_neg h2, if_neg (by omega)]
          exact pk_un h1
    rw [e]
theorem sp_fill {h : dzH} {a n : Nat} {f : Nat → Int32} (x : Int32) (ha : h.2 a = some (eI n f)) (hn : n < 2147483648) : c_Arrays_fill a x h = some (hU h a (eI n (fun j => if j < n then x else f j))) := by
  rw [cc_Arrays_fill, q_Arrays_fill_0, dln_at ha, Option.bind_some]
  have h1 := lp_fill (a := a) (x := x) hn n 0 (by omega) h f ha
  rw [nI_0] at h1
  rw [h1]
  have e : (fun j => if 0 ≤ j ∧ j < n then x else f j) = (fun j => if j < n then x else f j) := by
    funext j
    by_cases h2 : j < n
    · rw [if_pos ⟨Nat.zero_le _, h2⟩, if_pos h2]
    · rw [if_neg (by omega), if_neg h2]
  rw [e]
  rfl
theorem wv_small (x : Int32) (g : Nat → Int32) : ∀ n, (∀ j, j < n → 0 < j → g j = 0) → 0 < n → g 0 = x → wv g n = w32 x
  | 0, _, h, _ => by omega
  | 1, _, _, h => by
    rw [wv_s, wv_0, h]
    simp
  | n + 2, h1, _, h => by
    rw [wv_s, wv_small x g (n + 1) (fun j hj h0 => h1 j (by omega) h0) (by omega) h, h1 (n + 1) (by omega) (by omega)]
    simp [w32_0]
theorem sp_setSmall {h : dzH} {a n : Nat} {f : Nat → Int32} (x : Int32) (ha : h.2 a = some (eI n f)) (h0 : 0 < n) (hn : n < 2147483648) : ∃ g, c_Sums_setSmall a x h = some (hU h a (eI n g)) ∧ g 0 = x ∧ (∀ j, j < n → 0 < j → g j = 0) := by
  refine ⟨upd (fun j => if j < n then 0 else f j) 0 x, ?_, pk_us, fun j hj h1 => ?_⟩
  · rw [cc_Sums_setSmall, q_Sums_setSmall_0, sp_fill 0 ha hn, Option.bind_some]
    have e := dwI_at (h := hU h a (eI n (fun j => if j < n then (0 : Int32) else f j))) (j := 0) x (hU_s _ _ _) h0 hn
    rw [nI_0] at e
    rw [e, Option.bind_some, hU_u]
    rfl
  · rw [pk_un (by omega), if_pos hj]
theorem sp_setSmall8 {h : dzH} {a : Nat} (x : Int32) (ha : rowN h a 8) : ∃ h', c_Sums_setSmall a x h = some h' ∧ row8 h' a (w32 x) ∧ fr h h' (fun q => q = a) := by
  obtain ⟨f, ha⟩ := ha
  obtain ⟨g, h1, h2, h3⟩ := sp_setSmall x ha (by decide) (by decide)
  exact ⟨_, h1, ⟨g, hU_s _ _ _, wv_small x g 8 h3 (by decide) h2⟩, fr.up _ _ _⟩
-- comparing
def ordI (x y : Nat) : Int32 := if x < y then -1 else if x = y then 0 else 1
theorem ordI_lt {x y : Nat} : ordI x y < 0 ↔ x < y := by
  unfold ordI
  by_cases h : x < y
  · rw [if_pos h]; exact ⟨fun _ => h, fun _ => by decide⟩
  · rw [if_neg h]
    by_cases h2 : x = y
    · rw [if_pos h2]; exact ⟨fun q => absurd q (by decide), fun q => absurd q h⟩
    · rw [if_neg h2]; exact ⟨fun q => absurd q (by decide), fun q => absurd q h⟩
theorem ordI_0 {x y : Nat} : ordI x y = 0 ↔ x = y := by
  unfold ordI
  by_cases h : x < y
  · rw [if_pos h]; exact ⟨fun q => absurd q (by decide), fun q => by omega⟩
  · rw [if_neg h]
    by_cases h2 : x = y
    · rw [if_pos h2]; exact ⟨fun _ => h2, fun _ => rfl⟩
    · rw [if_neg h2]; exact ⟨fun q => absurd q (by decide), fun q => absurd q h2⟩
theorem ordI_le {x y : Nat} : ordI x y ≤ 0 ↔ x ≤ y := by
  unfold ordI
  by_cases h : x < y
  · rw [if_pos h]; exact ⟨fun _ => by omega, fun _ => by decide⟩
  · rw [if_neg h]
    by_cases h2 : x = y
    · rw [if_pos h2]; exact ⟨fun _ => by omega, fun _ => by decide⟩
    · rw [if_neg h2]; exact ⟨fun q => absurd q (by decide), fun q => by omega⟩
theorem lw_int (x : Int32) : (Int32.toInt64 x &&& 4294967295).toInt = (w32 x : Int) := by
  rw [uN_int, uN_lw]
  have := w32_lt x
  rw [if_pos (by omega)]
theorem lp_order {h : dzH} {a b n m : Nat} {f g : Nat → Int32} (ha : h.2 a = some (eI n f)) (hb : h.2 b = some (eI m g)) (hn : 8 ≤ n) (hm : 8 ≤ m) (hn2 : n < 2147483648) (hm2 : m < 2147483648) : ∀ i, i ≤ 8 → (∀ j, i ≤ j → j < 8 → f j = g j) → dzF 42 3 [(0, .ref a), (1, .ref b), (2, .int (nI i - 1))] [] (0, 0) h = some (some (.int (ordI (wv f 8) (wv g 8))), h)
  | 0, _, he => by
    rw [q_Sums_order_3, if_pos (by decide), ordI_0.mpr (wv_congr (fun i hi => he i (Nat.zero_le _) hi))]
  | i + 1, hi, he => by
    rw [nI_pred, q_Sums_order_3, if_neg (nI_pos (by omega)), drI_at ha (by omega) hn2, Option.bind_some, drI_at hb (by omega) hm2, Option.bind_some]
    by_cases e : f i = g i
    · rw [if_pos e]
      have e2 : nI i + (-1) = nI i - 1 := by rw [Int32.sub_eq_add_neg]
      rw [e2]
      exact lp_order ha hb hn hm hn2 hm2 i (by omega) (fun j h1 h2 => by
        by_cases hj : j = i
        · rw [hj]; exact e
        · exact he j (by omega) h2)
    · rw [if_neg e, Option.bind_some, Option.bind_some]
      have hne : w32 (f i) ≠ w32 (g i) := fun q => e (w32_inj q)
      have hk : k_lcmp (Int32.toInt64 (f i) &&& 4294967295) (Int32.toInt64 (g i) &&& 4294967295) < 0 ↔ (w32 (f i) : Int) < w32 (g i) := by
        rw [k_lcmp_lt, lw_int, lw_int]
      rcases Nat.lt_or_ge (w32 (f i)) (w32 (g i)) with h1 | h1
      · have h2 : wv f 8 < wv g 8 := pv_lex (k := i) (by omega) (fun j _ => w32_lt (f j)) (fun j h3 h4 => by rw [he j (by omega) h4]) h1
        rw [if_pos (hk.mpr (by omega))]
        unfold ordI
        rw [if_pos h2]
      · have h2 : wv g 8 < wv f 8 := pv_lex (k := i) (by omega) (fun j _ => w32_lt (g j)) (fun j h3 h4 => by rw [he j (by omega) h4]) (by omega)
        rw [if_neg (fun q => by have := hk.mp q; omega)]
        unfold ordI
        rw [if_neg (by omega), if_neg (by omega)]
theorem sp_order {h : dzH} {a b n m : Nat} {f g : Nat → Int32} (ha : h.2 a = some (eI n f)) (hb : h.2 b = some (eI m g)) (hn : 8 ≤ n) (hm : 8 ≤ m) (hn2 : n < 2147483648) (hm2 : m < 2147483648) : c_Sums_order a b h = some (ordI (wv f 8) (wv g 8), h) := by
  rw [cc_Sums_order, q_Sums_order_0]
  have h1 := lp_order ha hb hn hm hn2 hm2 8 (Nat.le_refl _) (fun j h1 h2 => by omega)
  have e : nI 8 - 1 = 7 := by decide
  rw [e] at h1
  rw [h1]
  rfl
theorem sp_order8 {h : dzH} {a b v w : Nat} (ha : row8 h a v) (hb : row8 h b w) : c_Sums_order a b h = some (ordI v w, h) := by
  obtain ⟨f, h1, h2⟩ := ha
  obtain ⟨g, h3, h4⟩ := hb
  rw [sp_order h1 h3 (by decide) (by decide) (by decide) (by decide), h2, h4]
end
section
/-! Sums: sum and difference, also where the answer's row is one of the two -/
/-- from word i on the row at x holds X -/
def rdw (h : dzH) (x i : Nat) (X : Nat → Int32) : Prop := ∃ n f, h.2 x = some (eI n f) ∧ 8 ≤ n ∧ n < 2147483648 ∧ ∀ j, i ≤ j → j < 8 → f j = X j
theorem rdw.rd {h : dzH} {x i j : Nat} {X : Nat → Int32} (r : rdw h x i X) (hj : i ≤ j) (h8 : j < 8) : drI h x (nI j) = some (X j) := by
  obtain ⟨n, f, h1, h2, h3, h4⟩ := r
  rw [drI_at h1 (by omega) h3, h4 j hj h8]
theorem rdw.up {h : dzH} {x t i m : Nat} {d : Int32} {X ft : Nat → Int32} (r : rdw h x i X) (ht : h.2 t = some (eI m ft)) : rdw (hU h t (eI m (upd ft i d))) x (i + 1) X := by
  obtain ⟨n, f, h1, h2, h3, h4⟩ := r
  by_cases e : x = t
  · subst e
    rw [ht] at h1
    cases h1
    exact ⟨m, upd ft i d, hU_s _ _ _, h2, h3, fun j h5 h6 => by rw [pk_un (by omega)]; exact h4 j (by omega) h6⟩
  · exact ⟨n, f, by rw [hU_n e]; exact h1, h2, h3, fun j h5 h6 => h4 j (by omega) h6⟩
theorem rdw.of {h : dzH} {x n : Nat} {f : Nat → Int32} (h1 : h.2 x = some (eI n f)) (h2 : 8 ≤ n) (h3 : n < 2147483648) : rdw h x 0 f := ⟨n, f, h1, h2, h3, fun _ _ _ => rfl⟩
theorem wv_upd {f : Nat → Int32} {i : Nat} {d : Int32} : wv (upd f i d) (i + 1) = wv f i + w32 d * 4294967296 ^ i := by
  rw [wv_s, pk_us]
  congr 1
  exact wv_congr (fun j hj => pk_un (by omega))
theorem lp_sum {x y t : Nat} {X Y : Nat → Int32} : ∀ (k i : Nat), i + k = 8 → ∀ (c : Int64) (h : dzH) (ft : Nat → Int32), uN c ≤ 1 → rdw h x i X → rdw h y i Y → h.2 t = some (eI 8 ft) →
    ∃ (ft' : Nat → Int32) (c' : Nat), dzF 13 5 [(0, .ref x), (1, .ref y), (2, .ref t), (3, .long c), (5, .int (nI i))] [] (0, 0) h = some (some (.int (bI (decide (c' = 0)))), hU h t (eI 8 ft')) ∧ (wv ft' 8 + c' * B8) + (wv X i + wv Y i) = (wv ft i + uN c * 4294967296 ^ i) + (wv X 8 + wv Y 8)
  | 0, i, hk, c, h, ft, hc, hx, hy, ht => by
    have ei : i = 8 := by omega
    subst ei
    refine ⟨ft, uN c, ?_, by rw [B8_eq]⟩
    rw [q_Sums_sum_5, if_neg (by decide), hU_id ht]
    by_cases e : uN c = 0
    · rw [if_pos (k_lcmp_0.mpr (uN_inj (by rw [e]; rfl))), decide_eq_true e]
      rfl
    · rw [if_neg (fun q => e (by rw [k_lcmp_0.mp q]; rfl)), decide_eq_false e]
      rfl
  | k + 1, i, hk, c, h, ft, hc, hx, hy, ht => by
    have e8 : (8 : Int32) = nI 8 := rfl
    rw [q_Sums_sum_5, e8, if_pos (nI_lt (by omega) (by decide)), hx.rd (Nat.le_refl _) (by omega), Option.bind_some, hy.rd (Nat.le_refl _) (by omega), Option.bind_some, dwI_at _ ht (by omega) (by decide), Option.bind_some, nI_1]
    have hs : uN (c + ((Int32.toInt64 (X i) &&& 4294967295) + (Int32.toInt64 (Y i) &&& 4294967295))) = uN c + (w32 (X i) + w32 (Y i)) := by
      rw [uN_add, uN_add, uN_lw, uN_lw]
      have h1 := w32_lt (X i)
      have h2 := w32_lt (Y i)
      omega
    generalize c + ((Int32.toInt64 (X i) &&& 4294967295) + (Int32.toInt64 (Y i) &&& 4294967295)) = s at hs
    have h1 := w32_lt (X i)
    have h2 := w32_lt (Y i)
    have hc1 : uN (k_lushr s 32) = uN s / 4294967296 := uN_s32 s
    have hd : w32 (Int64.toInt32 s) = uN s % 4294967296 := w32_l2i s
    obtain ⟨ft', c', h3, h4⟩ := lp_sum k (i + 1) (by omega) (k_lushr s 32) (hU h t (eI 8 (upd ft i (Int64.toInt32 s)))) (upd ft i (Int64.toInt32 s)) (by omega) (hx.up ht) (hy.up ht) (hU_s _ _ _)
    refine ⟨ft', c', by rw [h3, hU_u], ?_⟩
    rw [wv_upd, wv_s X i, wv_s Y i, Nat.pow_succ] at h4
    generalize 4294967296 ^ i = P at h4 ⊢
    have hm : w32 (Int64.toInt32 s) * P + uN (k_lushr s 32) * (P * 4294967296) = uN c * P + (w32 (X i) * P + w32 (Y i) * P) := by
      have e1 : uN (k_lushr s 32) * (P * 4294967296) = (4294967296 * uN (k_lushr s 32)) * P := by
        rw [Nat.mul_comm P, ← Nat.mul_assoc, Nat.mul_comm (uN _)]
      rw [e1, ← Nat.add_mul, ← Nat.add_mul, ← Nat.add_mul]
      congr 1
      omega
    omega
theorem sp_sum {h : dzH} {x y t vx vy : Nat} (hx : row8 h x vx) (hy : row8 h y vy) (ht : rowN h t 8) : ∃ h', c_Sums_sum x y t h = some (bI (decide (vx + vy < B8)), h') ∧ row8 h' t ((vx + vy) % B8) ∧ fr h h' (fun q => q = t) := by
  obtain ⟨X, hx1, hx2⟩ := hx
  obtain ⟨Y, hy1, hy2⟩ := hy
  obtain ⟨ft, ht⟩ := ht
  obtain ⟨ft', c', h1, h2⟩ := lp_sum 8 0 rfl 0 h ft (by decide) (rdw.of hx1 (by decide) (by decide)) (rdw.of hy1 (by decide) (by decide)) ht
  have h3 := wv_lt8 ft'
  have e0 : uN 0 = 0 := rfl
  rw [wv_0, wv_0, wv_0, hx2, hy2, e0] at h2
  have hP := B8_pos
  have h4 : vx + vy = wv ft' 8 + c' * B8 := by omega
  refine ⟨hU h t (eI 8 ft'), ?_, ⟨ft', hU_s _ _ _, ?_⟩, fr.up _ _ _⟩
  · rw [nI_0] at h1
    rw [cc_Sums_sum, q_Sums_sum_0, h1]
    have e : decide (c' = 0) = decide (vx + vy < B8) := by
      by_cases e1 : c' = 0
      · rw [decide_eq_true e1, decide_eq_true (by rw [h4, e1]; omega)]
      · rw [decide_eq_false e1, decide_eq_false (by
          have : 1 * B8 ≤ c' * B8 := Nat.mul_le_mul_right _ (by omega)
          omega)]
    rw [e]
    rfl
  · rw [h4, Nat.add_mul_mod_self_right, Nat.mod_eq_of_lt h3]
theorem lp_diff {x y t : Nat} {X Y : Nat → Int32} : ∀ (k i : Nat), i + k = 8 → ∀ (c : Int64) (h : dzH) (ft : Nat → Int32), (c.toInt = 0 ∨ c.toInt = -1) → rdw h x i X → rdw h y i Y → h.2 t = some (eI 8 ft) →
    ∃ (ft' : Nat → Int32) (c' : Int), (c' = 0 ∨ c' = -1) ∧ dzF 17 5 [(0, .ref x), (1, .ref y), (2, .ref t), (3, .long c), (5, .int (nI i))] [] (0, 0) h = some (some (.int (bI (decide (c' = 0)))), hU h t (eI 8 ft')) ∧ ((wv ft' 8 : Int) + c' * (B8 : Nat)) + ((wv X i : Int) - wv Y i) = ((wv ft i : Int) + c.toInt * (4294967296 ^ i : Nat)) + ((wv X 8 : Int) - wv Y 8)
  | 0, i, hk, c, h, ft, hc, hx, hy, ht => by
    have ei : i = 8 := by omega
    subst ei
    refine ⟨ft, c.toInt, hc, ?_, by rw [B8_eq]⟩
    rw [q_Sums_difference_5, if_neg (by decide), hU_id ht]
    by_cases e : c.toInt = 0
    · rw [if_pos (k_lcmp_0.mpr (Int64.toInt_inj.mp (by rw [e]; rfl))), decide_eq_true e]
      rfl
    · rw [if_neg (fun q => e (by rw [k_lcmp_0.mp q]; rfl)), decide_eq_false e]
      rfl
  | k + 1, i, hk, c, h, ft, hc, hx, hy, ht => by
    have e8 : (8 : Int32) = nI 8 := rfl
    rw [q_Sums_difference_5, e8, if_pos (nI_lt (by omega) (by decide)), hx.rd (Nat.le_refl _) (by omega), Option.bind_some, hy.rd (Nat.le_refl _) (by omega), Option.bind_some, dwI_at _ ht (by omega) (by decide), Option.bind_some, nI_1]
    have h1 := w32_lt (X i)
    have h2 := w32_lt (Y i)
    have hs : (c + ((Int32.toInt64 (X i) &&& 4294967295) - (Int32.toInt64 (Y i) &&& 4294967295))).toInt = c.toInt + ((w32 (X i) : Int) - w32 (Y i)) := by
      rw [Int64.toInt_add, Int64.toInt_sub, lw_int, lw_int]
      rw [Int.bmod_eq_of_le (n := (w32 (X i) : Int) - w32 (Y i)) (by omega) (by omega), Int.bmod_eq_of_le (by omega) (by omega)]
    generalize c + ((Int32.toInt64 (X i) &&& 4294967295) - (Int32.toInt64 (Y i) &&& 4294967295)) = s at hs
    have hc1 : (k_lshr s 32).toInt = s.toInt / 4294967296 := lT_s32 s
    have hd : (w32 (Int64.toInt32 s) : Int) = s.toInt - 4294967296 * (s.toInt / 4294967296) := by
      have h3 := w32_l2i s
      have h4 := uN_int s
      have h5 := uN_lt s
      split at h4 <;> omega
    obtain ⟨ft', c', h3, h4, h5⟩ := lp_diff k (i + 1) (by omega) (k_lshr s 32) (hU h t (eI 8 (upd ft i (Int64.toInt32 s)))) (upd ft i (Int64.toInt32 s)) (by omega) (hx.up ht) (hy.up ht) (hU_s _ _ _)
    refine ⟨ft', c', h3, by rw [h4, hU_u], ?_⟩
    rw [wv_upd, wv_s X i, wv_s Y i, Nat.pow_succ] at h5
    generalize 4294967296 ^ i = P at h5 ⊢
    have ec : ((P * 4294967296 : Nat) : Int) = (P : Int) * 4294967296 := by omega
    rw [ec] at h5
    have hm : (w32 (Int64.toInt32 s) : Int) * P + (k_lshr s 32).toInt * ((P : Int) * 4294967296) = c.toInt * P + ((w32 (X i) : Int) * P - (w32 (Y i) : Int) * P) := by
      have e1 : (k_lshr s 32).toInt * ((P : Int) * 4294967296) = (4294967296 * (k_lshr s 32).toInt) * P := by
        rw [Int.mul_comm (P : Int), ← Int.mul_assoc, Int.mul_comm _ (4294967296 : Int)]
      rw [e1, ← Int.add_mul, ← Int.sub_mul, ← Int.add_mul]
      congr 1
      omega
    omega
theorem sp_diff {h : dzH} {x y t vx vy : Nat} (hx : row8 h x vx) (hy : row8 h y vy) (ht : rowN h t 8) : ∃ h' v, c_Sums_difference x y t h = some (bI (decide (vy ≤ vx)), h') ∧ row8 h' t v ∧ (vy ≤ vx → v = vx - vy) ∧ fr h h' (fun q => q = t) := by
  obtain ⟨X, hx1, hx2⟩ := hx
  obtain ⟨Y, hy1, hy2⟩ := hy
  obtain ⟨ft, ht⟩ := ht
  obtain ⟨ft', c', hc, h1, h2⟩ := lp_diff 8 0 rfl 0 h ft (Or.inl rfl) (rdw.of hx1 (by decide) (by decide)) (rdw.of hy1 (by decide) (by decide)) ht
  have h3 := wv_lt8 ft'
  have h5 : vx < B8 := by rw [← hx2]; exact wv_lt8 X
  have h6 : vy < B8 := by rw [← hy2]; exact wv_lt8 Y
  have e0 : (0 : Int64).toInt = 0 := rfl
  rw [wv_0, wv_0, wv_0, hx2, hy2, e0] at h2
  have e : decide (c' = 0) = decide (vy ≤ vx) := by
    rcases hc with rfl | rfl
    · rw [decide_eq_true rfl, decide_eq_true (by omega)]
    · rw [decide_eq_false (by decide), decide_eq_false (by omega)]
  refine ⟨hU h t (eI 8 ft'), wv ft' 8, ?_, ⟨ft', hU_s _ _ _, rfl⟩, fun hle => ?_, fr.up _ _ _⟩
  · rw [nI_0] at h1
    rw [cc_Sums_difference, q_Sums_difference_0, h1, e]
    rfl
  · rcases hc with rfl | rfl
    · omega
    · omega
end
section
/-! Sums: products -/
def sumsO (a : Nat) (dw sh : Int32) : dzE := eO 6 [.ref (a + 1), .ref (a + 2), .ref (a + 3), .int dw, .int sh, .ref (a + 4), .ref (a + 5), .ref (a + 6), .ref (a + 7)]
/-- a Sums object at a, its rows behind it -/
def SumsOk (a : Nat) (h : dzH) : Prop := (∃ dw sh, h.2 a = some (sumsO a dw sh)) ∧ rowN h (a + 1) 17 ∧ rowN h (a + 2) 17 ∧ ∀ k, 3 ≤ k → k ≤ 7 → rowN h (a + k) 8
/-- its cells -/
def inS (a q : Nat) : Prop := a ≤ q ∧ q ≤ a + 7
theorem mulB {a b : Nat} (ha : a < 4294967296) (hb : b < 4294967296) : a * b ≤ 18446744065119617025 := by
  have h : a * b ≤ 4294967295 * 4294967295 := Nat.mul_le_mul (by omega) (by omega)
  omega
theorem wv_mid {f : Nat → Int32} {q : Nat} {d : Int32} : ∀ {n : Nat}, q < n → wv (upd f q d) n + w32 (f q) * 4294967296 ^ q = wv f n + w32 d * 4294967296 ^ q
  | 0, h => by omega
  | n + 1, h => by
    rw [wv_s, wv_s]
    by_cases e : q = n
    · subst e
      rw [pk_us, wv_congr (f := upd f q d) (g := f) (n := q) (fun i hi => pk_un (by omega))]
      omega
    · have ih := wv_mid (f := f) (q := q) (d := d) (n := n) (by omega)
      rw [pk_un (by omega)]
      omega
theorem lp_mul1 {s x y w i yw : Nat} {so : List Value} {xw : Int32} {word : Int64} {Y : Nat → Int32} (hso : so[0]? = some (.ref w)) (hws : w ≠ s) (hwy : w ≠ y) (hiy : i + yw < 17) (hy8 : yw ≤ 8) (hword : uN word < 4294967296) : ∀ (k j : Nat), j + k = yw → ∀ (c : Int64) (h : dzH) (W : Nat → Int32), uN c < 4294967296 → h.2 s = some (eO 6 so) → h.2 w = some (eI 17 W) → h.2 y = some (eI 8 Y) →
    ∃ W' : Nat → Int32, dzF 21 45 [(0, .ref s), (1, .ref x), (2, .ref y), (3, .int xw), (4, .int (nI yw)), (5, .int (nI i)), (6, .long word), (8, .long c), (10, .int (nI j))] [] (0, 0) h = dzF 21 22 [(0, .ref s), (1, .ref x), (2, .ref y), (3, .int xw), (4, .int (nI yw)), (5, .int (nI (i + 1)))] [] (0, 0) (hU h w (eI 17 W')) ∧ (∀ q, i + yw + 1 ≤ q → W' q = W q) ∧
      wv W' (i + yw + 1) + uN word * wv Y j * 4294967296 ^ i = wv W (i + yw) + uN c * 4294967296 ^ (i + j) + uN word * wv Y yw * 4294967296 ^ i
  | 0, j, hk, c, h, W, hc, hs, hw, hy => by
    have ej : j = yw := by omega
    subst ej
    refine ⟨upd W (i + j) (Int64.toInt32 c), ?_, fun q hq => pk_un (by omega), ?_⟩
    · rw [q_Sums_setWideToProduct_45, if_neg (nI_nlt (Nat.le_refl _) (by omega)), dgA_at hs hso, Option.bind_some, nI_add, dwI_at _ hw (by omega) (by decide), Option.bind_some, nI_1]
    · rw [wv_upd, w32_l2i, Nat.mod_eq_of_lt hc]
  | k + 1, j, hk, c, h, W, hc, hs, hw, hy => by
    rw [q_Sums_setWideToProduct_45, if_pos (nI_lt (by omega) (by omega)), drI_at hy (by omega) (by decide), Option.bind_some, dgA_at hs hso, Option.bind_some, nI_add, drI_at hw (by omega) (by decide), Option.bind_some, Option.bind_some, dwI_at _ hw (by omega) (by decide), Option.bind_some, nI_1]
    have h1 := w32_lt (Y j)
    have h2 := w32_lt (W (i + j))
    have h3 := mulB hword h1
    have hsum : uN (c + ((word * (Int32.toInt64 (Y j) &&& 4294967295)) + (Int32.toInt64 (W (i + j)) &&& 4294967295))) = uN c + (uN word * w32 (Y j) + w32 (W (i + j))) := by
      rw [uN_add, uN_add, uN_mul, uN_lw, uN_lw]
      omega
    generalize c + ((word * (Int32.toInt64 (Y j) &&& 4294967295)) + (Int32.toInt64 (W (i + j)) &&& 4294967295)) = z at hsum
    have hc1 : uN (k_lushr z 32) = uN z / 4294967296 := uN_s32 z
    have hd : w32 (Int64.toInt32 z) = uN z % 4294967296 := w32_l2i z
    obtain ⟨W', g1, g2, g3⟩ := lp_mul1 (x := x) (xw := xw) (so := so) hso hws hwy hiy hy8 hword k (j + 1) (by omega) (k_lushr z 32) (hU h w (eI 17 (upd W (i + j) (Int64.toInt32 z)))) (upd W (i + j) (Int64.toInt32 z)) (by omega) (by rw [hU_n (Ne.symm hws)]; exact hs) (hU_s _ _ _) (by rw [hU_n (Ne.symm hwy)]; exact hy)
    refine ⟨W', by rw [g1, hU_u], fun q hq => by rw [g2 q hq]; exact pk_un (by omega), ?_⟩
    have hmid := wv_mid (f := W) (q := i + j) (d := Int64.toInt32 z) (n := i + yw) (by omega)
    rw [wv_s Y j, ← Nat.add_assoc, Nat.pow_succ] at g3
    rw [Nat.pow_add] at g3 hmid ⊢
    generalize 4294967296 ^ i = P at g3 hmid ⊢
    generalize 4294967296 ^ j = R at g3 hmid ⊢
    have e1 : uN (k_lushr z 32) * (P * R * 4294967296) = (4294967296 * uN (k_lushr z 32)) * (P * R) := by
      rw [Nat.mul_comm (P * R), ← Nat.mul_assoc, Nat.mul_comm (uN _)]
    have e2 : uN word * (wv Y j + w32 (Y j) * R) * P = uN word * wv Y j * P + (uN word * w32 (Y j)) * (P * R) := by
      rw [Nat.mul_add, Nat.add_mul]
      congr 1
      simp only [Nat.mul_comm, Nat.mul_left_comm, Nat.mul_assoc]
    have e3 : w32 (Int64.toInt32 z) * (P * R) + (4294967296 * uN (k_lushr z 32)) * (P * R) = uN c * (P * R) + ((uN word * w32 (Y j)) * (P * R) + w32 (W (i + j)) * (P * R)) := by
      rw [← Nat.add_mul, ← Nat.add_mul, ← Nat.add_mul]
      congr 1
      omega
    rw [e1, e2] at g3
    omega
theorem lp_mul2 {s x y w xw yw : Nat} {so : List Value} {X Y : Nat → Int32} (hso : so[0]? = some (.ref w)) (hws : w ≠ s) (hwx : w ≠ x) (hwy : w ≠ y) (hx8 : xw ≤ 8) (hy8 : yw ≤ 8) : ∀ (k i : Nat), i + k = xw → ∀ (h : dzH) (W : Nat → Int32), (∀ q, i + yw ≤ q → q < 17 → W q = 0) → wv W 17 = wv X i * wv Y yw → h.2 s = some (eO 6 so) → h.2 w = some (eI 17 W) → h.2 x = some (eI 8 X) → h.2 y = some (eI 8 Y) →
    ∃ W' : Nat → Int32, dzF 21 22 [(0, .ref s), (1, .ref x), (2, .ref y), (3, .int (nI xw)), (4, .int (nI yw)), (5, .int (nI i))] [] (0, 0) h = some (none, hU h w (eI 17 W')) ∧ wv W' 17 = wv X xw * wv Y yw ∧ (∀ q, xw + yw ≤ q → q < 17 → W' q = 0)
  | 0, i, hk, h, W, hz, hv, hs, hw, hx, hy => by
    have ei : i = xw := by omega
    subst ei
    refine ⟨W, ?_, hv, hz⟩
    rw [q_Sums_setWideToProduct_22, if_neg (nI_nlt (Nat.le_refl _) (by omega)), hU_id hw]
  | k + 1, i, hk, h, W, hz, hv, hs, hw, hx, hy => by
    have e0 : (0 : Int32) = nI 0 := rfl
    rw [q_Sums_setWideToProduct_22, if_pos (nI_lt (by omega) (by omega)), drI_at hx (by omega) (by decide), Option.bind_some, e0]
    have hwd : uN (Int32.toInt64 (X i) &&& 4294967295) = w32 (X i) := uN_lw _
    obtain ⟨W', g1, g2, g3⟩ := lp_mul1 (x := x) (xw := nI xw) (so := so) (Y := Y) (i := i) (yw := yw) (word := Int32.toInt64 (X i) &&& 4294967295) hso hws hwy (by omega) hy8 (by rw [hwd]; exact w32_lt _) yw 0 (by omega) 0 h W (by decide) hs hw hy
    rw [hwd, wv_0, Nat.mul_zero, Nat.zero_mul, Nat.add_zero, show uN 0 = 0 from rfl, Nat.zero_mul, Nat.add_zero] at g3
    have hW17 : wv W 17 = wv W (i + yw) := pv_ext (by omega) (fun q h1 h2 => by rw [hz q h1 h2]; rfl)
    have hW'17 : wv W' 17 = wv W' (i + yw + 1) := pv_ext (by omega) (fun q h1 h2 => by rw [g2 q h1, hz q (by omega) h2]; rfl)
    obtain ⟨W2, k1, k2, k3⟩ := lp_mul2 (so := so) (X := X) (Y := Y) hso hws hwx hwy hx8 hy8 k (i + 1) (by omega) (hU h w (eI 17 W')) W' (fun q h1 h2 => by rw [g2 q (by omega)]; exact hz q (by omega) h2) (by
        rw [hW'17, g3, ← hW17, hv, wv_s X i, Nat.add_mul]
        congr 1
        simp only [Nat.mul_comm, Nat.mul_left_comm, Nat.mul_assoc]) (by rw [hU_n (Ne.symm hws)]; exact hs) (hU_s _ _ _) (by rw [hU_n (Ne.symm hwx)]; exact hx) (by rw [hU_n (Ne.symm hwy)]; exact hy)
    refine ⟨W2, ?_, k2, k3⟩
    rw [g1, k1, hU_u]
theorem sp_setProd {h : dzH} {a x y vx vy : Nat} (hs : SumsOk a h) (hx : row8 h x vx) (hy : row8 h y vy) (nx : ¬ inS a x) (ny : ¬ inS a y) : ∃ W, c_Sums_setWideToProduct a x y h = some (hU h (a + 1) (eI 17 W)) ∧ wv W 17 = vx * vy ∧ W 16 = 0 := by
  obtain ⟨⟨dw, sh, ho⟩, ⟨W0, hw⟩, -, -⟩ := hs
  obtain ⟨X, hx1, hx2⟩ := hx
  obtain ⟨Y, hy1, hy2⟩ := hy
  unfold inS at nx ny
  have hux := uw_le X 8
  have huy := uw_le Y 8
  have hso : ([.ref (a + 1), .ref (a + 2), .ref (a + 3), .int dw, .int sh, .ref (a + 4), .ref (a + 5), .ref (a + 6), .ref (a + 7)] : List Value)[0]? = some (.ref (a + 1)) := rfl
  have hz : ∀ q, q < 17 → (fun j => if j < 17 then (0 : Int32) else W0 j) q = 0 := fun q hq => if_pos hq
  obtain ⟨W', k1, k2, k3⟩ := lp_mul2 (X := X) (Y := Y) (x := x) (y := y) (s := a) (xw := uw X 8) (yw := uw Y 8) hso (by omega) (by omega) (by omega) hux huy (uw X 8) 0 (by omega) (hU h (a + 1) (eI 17 (fun j => if j < 17 then (0 : Int32) else W0 j))) _ (fun q _ hq => hz q hq) (by
      rw [wv_0, Nat.zero_mul]
      exact pv_zeros (fun q hq => by rw [hz q hq]; rfl)) (by rw [hU_n (by omega)]; exact ho) (hU_s _ _ _) (by rw [hU_n (by omega)]; exact hx1) (by rw [hU_n (by omega)]; exact hy1)
  refine ⟨W', ?_, by rw [k2, ← wv_uw, ← wv_uw, hx2, hy2], k3 16 (by omega) (by decide)⟩
  rw [cc_Sums_setWideToProduct _ _ _ _ ho, q_Sums_setWideToProduct_0, sp_used hx1 (by decide), Option.bind_some]
  dsimp only
  rw [sp_used hy1 (by decide), Option.bind_some]
  dsimp only
  rw [dgA_at ho hso, Option.bind_some, sp_fill 0 hw (by decide), Option.bind_some]
  rw [nI_0] at k1
  rw [k1, hU_u]
  rfl
theorem SumsOk.keep {a : Nat} {h h' : dzH} (hs : SumsOk a h) (hf : ∀ q, inS a q → h'.2 q = h.2 q) : SumsOk a h' := by
  obtain ⟨⟨dw, sh, ho⟩, h1, h2, h3⟩ := hs
  exact ⟨⟨dw, sh, by rw [hf a ⟨by omega, by omega⟩]; exact ho⟩, h1.eq (hf _ ⟨by omega, by omega⟩), h2.eq (hf _ ⟨by omega, by omega⟩), fun k hk1 hk2 => (h3 k hk1 hk2).eq (hf _ ⟨by omega, by omega⟩)⟩
theorem SumsOk.row1 {a n : Nat} {h : dzH} {W : Nat → Int32} (hs : SumsOk a h) (h1 : 1 ≤ n) (h7 : n ≤ 7) (hl : (n ≤ 2 → ∀ m, m = 17 → True)) {m : Nat} (hm : m = if n ≤ 2 then 17 else 8) : SumsOk a (hU h (a + n) (eI m W)) := by
  obtain ⟨⟨dw, sh, ho⟩, g1, g2, g3⟩ := hs
  refine ⟨⟨dw, sh, by rw [hU_n (by omega)]; exact ho⟩, ?_, ?_, fun k hk1 hk2 => ?_⟩
  · by_cases e : n = 1
    · subst e
      exact ⟨W, by rw [hU_s, hm]; rfl⟩
    · exact g1.eq (hU_n (by omega))
  · by_cases e : n = 2
    · subst e
      exact ⟨W, by rw [hU_s, hm]; rfl⟩
    · exact g2.eq (hU_n (by omega))
  · by_cases e : n = k
    · subst e
      exact ⟨W, by rw [hU_s, hm, if_neg (by omega)]⟩
    · exact (g3 k hk1 hk2).eq (hU_n (by omega))
theorem wv_17 {W : Nat → Int32} {n : Nat} (h : wv W 17 = n) : uw W 17 ≤ 8 ↔ n < B8 := by
  constructor
  · intro h1
    rw [← h]
    rw [← B8_eq]
    exact Nat.lt_of_lt_of_le (wv_lt_uw W 17) (Nat.pow_le_pow_right (by decide) h1)
  · intro h1
    rcases Nat.lt_or_ge 8 (uw W 17) with h2 | h2
    · have h3 := wv_ge_uw W 17 (by omega)
      have h4 : B8 ≤ 4294967296 ^ (uw W 17 - 1) := by
        rw [← B8_eq]
        exact Nat.pow_le_pow_right (by decide) (by omega)
      omega
    · exact h2
theorem sp_product {h : dzH} {a x y t vx vy : Nat} (hs : SumsOk a h) (hx : row8 h x vx) (hy : row8 h y vy) (ht : rowN h t 8) (nx : ¬ inS a x) (ny : ¬ inS a y) (nt : ¬ inS a t) : ∃ h', c_Sums_product a x y t h = some (bI (decide (vx * vy < B8)), h') ∧ SumsOk a h' ∧ (vx * vy < B8 → row8 h' t (vx * vy)) ∧ (¬ vx * vy < B8 → h'.2 t = h.2 t) ∧ fr h h' (fun q => inS a q ∨ q = t) := by
  obtain ⟨W, k1, k2, k3⟩ := sp_setProd hs hx hy nx ny
  have hs0 := hs
  obtain ⟨⟨dw, sh, ho⟩, -, -, -⟩ := hs
  obtain ⟨g, ht⟩ := ht
  have hso : ([.ref (a + 1), .ref (a + 2), .ref (a + 3), .int dw, .int sh, .ref (a + 4), .ref (a + 5), .ref (a + 6), .ref (a + 7)] : List Value)[0]? = some (.ref (a + 1)) := rfl
  unfold inS at nx ny nt
  have ho1 : (hU h (a + 1) (eI 17 W)).2 a = some (sumsO a dw sh) := by rw [hU_n (by omega)]; exact ho
  have ht1 : (hU h (a + 1) (eI 17 W)).2 t = some (eI 8 g) := by rw [hU_n (by omega)]; exact ht
  have hs1 : SumsOk a (hU h (a + 1) (eI 17 W)) := hs0.row1 (by decide) (by decide) (fun _ _ _ => trivial) rfl
  have hu := uw_le W 17
  rw [cc_Sums_product _ _ _ _ _ ho, q_Sums_product_0, k1, Option.bind_some, dgA_at ho1 hso, Option.bind_some, sp_used (hU_s _ _ _) (by decide), Option.bind_some]
  dsimp only
  have e8 : (8 : Int32) = nI 8 := rfl
  by_cases hlt : vx * vy < B8
  · have h8 := (wv_17 k2).mpr hlt
    rw [e8, if_pos (nI_le h8 (by decide)), dgA_at ho1 hso, Option.bind_some, sp_copy (hU_s _ _ _) ht1 (by decide) (by decide), Option.bind_some, decide_eq_true hlt]
    refine ⟨_, rfl, hs1.keep (fun q hq => hU_n (by unfold inS at hq; omega)), fun _ => ⟨_, hU_s _ _ _, ?_⟩, fun q => absurd hlt q, rfl, fun q hq => ?_⟩
    · rw [wv_congr (g := W) (fun i hi => if_pos hi), ← k2]
      exact (pv_ext (by decide) (fun i h1 h2 => by rw [uw_zero W 17 i (by omega) h2]; rfl)).symm
    · unfold inS at hq
      rw [hU_n (by omega), hU_n (by omega)]
  · have h8 : ¬ uw W 17 ≤ 8 := fun q => hlt ((wv_17 k2).mp q)
    rw [e8, if_neg (fun q => h8 ((nI_leI (by omega) (by decide)).mp q)), decide_eq_false hlt]
    refine ⟨_, rfl, hs1, fun q => absurd q hlt, fun _ => hU_n (by omega), rfl, fun q hq => ?_⟩
    unfold inS at hq
    rw [hU_n (by omega)]
end
section
theorem law_pure (n b L : Nat) (xs : Nat → Int32) (hb : b < n) (hL : L ≤ 2560) : ∃ h' : dzH, dzF dzLaw 0 [(0, .ref b)] [] (0, 0) (dzH0 n b L xs) = some (some (.int 1), h') := sorry
-- ===== YOUR PART BEGINS =====
/-- YOUR PART: from the entry, for every script of at most 2560 ints, the law comes to its end with true -/
theorem whole_start {p : Program} {e : Env} {s : State} {m : MethodId} {below : List Frame} {meth : Method} {c : Code} (l : Launch) {b L : Nat} {xs : Nat → Int32} (hL : L ≤ 2560) (C0 : lw_At p s m meth c b L xs) : W p l e room_1 s m #[Value.ref b] below meth c s.heap [] 0 0 (lw_Z below #[Value.ref b] s) (entryFrame m ([Value.ref b] : List Value).toArray 4) := by
  obtain ⟨h', hF⟩ := law_pure s.heap.size b L xs C0.2.2.2.2.2.2.2.1 hL
  exact dz_law l C0 hF
-- ===== YOUR PART ENDS =====
set_option maxHeartbeats 4000000 in
theorem lw_walk (l : Launch) (b : Addr) (xs : List Int32) : MetFree l x (headSpec (Jvm.Cond.code x code maxLocals ret :: tables_1) room_1) (lw_P b xs) (fun _ _ _ _ _ => True) lw_Q := by
  refine MetFree.of_bodyS (code := code) (maxLocals := maxLocals) (ret := ret) (by decide) ?_ ?_
  · intro args s m h hn
    obtain ⟨meth, c, h1, h2, h3, h4, h5, h6, -, -⟩ := Cond.code_spec hn (atoms_spec (ws := Jvm.Cond.code x code maxLocals ret :: tables_1) h _ List.mem_cons_self)
    exact ⟨meth, c, h1, h2, h3, h4, h5, h6⟩
  · intro p e s m args below meth c s₁ B hml0 hP _
    obtain ⟨rfl, hx, hbd, hgv⟩ := hP
    obtain ⟨scr, harrAt, hlist, hof, hsmall⟩ := hx
    obtain ⟨hcb, hkn, -, -⟩ := State.arrayAt?_spec harrAt
    have hown : s.vm.findClass R_law = some m.cls := findClass_of_methodNamed B.named
    have hts0 : ∀ c ∈ (Jvm.Cond.code x code maxLocals ret :: tables_1), c.before #[Value.ref b] s = true := atoms_spec (ws := Jvm.Cond.code x code maxLocals ret :: tables_1) B.pre
    have hts : ∀ w ∈ lw_tbl, w.before #[Value.ref b] s = true := k2_hts_sels lw_privs (fun w hw => hts0 w (List.mem_cons_of_mem _ hw)) lw_privs_ok
    have hml : c.maxLocals = 4 := B.maxLocals_eq (hts0 _ List.mem_cons_self)
    have X₀ : Stand p l e room_1 s m #[Value.ref b] below meth c s₁ [] 0 0 := Stand.of_body B
    have hh0 : s₁.heap = s.heap := by rw [B.state]; rfl
    have hsz : scr.slots.size = xs.length := by rw [← Array.length_toList, hlist, List.length_map]
    have hval : ∀ j : Nat, j < xs.length → scr.slots[j]? = some (.int (xs.getD j 0)) := fun j hj => by
      rw [← Array.getElem?_toList, hlist]
      simp [hj]
    have hbl : b < s.heap.size := (Array.getElem?_eq_some_iff.mp hcb).1
    have hX : va_X b xs.length (fun j => xs.getD j 0) s s.heap := ⟨scr, hcb, hof, hkn, hsz, hval⟩
    have K : W p l e room_1 s m #[Value.ref b] below meth c s₁.heap [] 0 0 (lw_Z below #[Value.ref b] s) (entryFrame m ([Value.ref b] : List Value).toArray 4) := by
      rw [hh0]
      exact whole_start l hbd ⟨B.exec, B.bytes, B.returns, hml, hown, hts, hX, hbl, B.notSynchronized, hgv⟩
    obtain ⟨t, a1, o, b1, b2, b3⟩ := K s₁ rfl X₀
    exact ⟨t, o, a1, b1, b2, b3⟩
theorem lw_pre_spec {args : Array Value} {s : State} (h : (Jvm.Cond.and given_1 narrow_1).before args s = true) (hr : rest_1_c.before args s = true) : ∃ (b : Addr) (xs : List Int32), lw_P b xs args s := by
  have hs := flat_of_before _ h
  have hq := flat_of_before _ hr
  have hc : (Cond.count 1).before args s = true := hs _ (by decide +kernel)
  have harr : (Cond.arrayOf (.arg 0) .int).before args s = true := hs _ (by decide +kernel)
  have hle : (Cond.le (.length (.arg 0)) (.int 2560)).before args s = true := hs _ (by decide +kernel)
  have hlen : (Cond.isInt (.length (.arg 0))).before args s = true := hq _ (by decide +kernel)
  have hall : (Cond.all (.arg 0) (.isInt (.elem (.arg 0) (.index 0)))).before args s = true := hq _ (by decide +kernel)
  obtain ⟨b, xs, hb, hx⟩ := State.ints_of_pre rfl harr hlen hall
  have hsm : xs.length < 2 ^ 31 := hx.choose_spec.2.2.2
  have hev : (Term.length (.arg 0)).eval args s none [] s = some (.int xs.length.toInt32) := hx.length_eval hb
  have hv := Cond.le_ints hev (show (Term.int 2560).eval args s none [] s = some (.int 2560) from rfl)
  have hd : xs.length.toInt32 ≤ 2560 := by
    simpa [Cond.before, Cond.holds, hv] using hle
  have hN : xs.length ≤ 2560 := (Int32.ofNat_le_ofNat hsm (by decide)).mp (show Int32.ofNat xs.length ≤ Int32.ofNat 2560 from hd)
  exact ⟨b, xs, Cond.one_arg hc (show args[0]? = some (.ref b) from hb), hx, hN, h⟩
theorem lw_comes (l : Launch) : Comes l x (Jvm.Cond.code x code maxLocals ret :: tables_1) room_1 (fun tb e args s => Calls_1 tb e args s ∧ rest_1 tb e args s ∧ Pre_1 tb e args s)
    (fun _ _ args s o t => lw_Q args s o t) := by
  intro p e ha hc hk s m args below hf hfit hheap happ hpre
  obtain ⟨b, xs, hP⟩ := lw_pre_spec hpre.2.2 hpre.2.1
  obtain ⟨k, o, h1, h2, h3, hQ⟩ := lw_walk l b xs p e ha hc hk s m args below hf ((Spec.applies_iff_loose hf).mp happ).1 hP trivial
  exact ⟨k, o, h1, h2, h3, hQ⟩
theorem lw_frame {s t : State} {o : Outcome} {args : Array Value} (h : Framed s o t [] 600000 7302250) :
    Framed s o t (fieldLocs frame_1_writes args s ++ arrayLocs frame_1_arrays args s ++ staticLocs frame_1_statics s) 600000 7302250 := h
theorem lw_limb (L : Cond) (hL : ∀ (args : Array Value) (s t : State), L.after args s (.returned (some (.int 1))) t = true) :
    ArmFor flags0 classFile x code maxLocals ret World_1 tables_1 room_1 Calls_1 rest_1 Pre_1
      (fun tb e a s o t => postC L tb e a s o t ∧ Framed s o t (fieldLocs frame_1_writes a s ++ arrayLocs frame_1_arrays a s ++ staticLocs frame_1_statics s) 600000 7302250) := by
  intro l _ _ _ p e ha hc hk s m args below hf hfit hheap happ hpre
  obtain ⟨k, o, h1, h2, h3, rfl, hF⟩ := lw_comes l p e ha hc hk s m args below hf hfit hheap happ hpre
  exact ⟨k, _, h1, h2, h3, hL args s _, lw_frame hF⟩
theorem i_vc : Claimed_1_1 ∧ Claimed_1_2 := ⟨lw_limb limb_1_1 (fun args s t => by simp [limb_1_1, Cond.after, Cond.holds, Cond.value]), lw_limb limb_1_2 (fun args s t => Cond.after_iff.mpr (by
  first | (rw [show limb_1_2 = Cond.eq .result (.int 1) from rfl, Cond.eq_ints (x := 1) (y := 1) rfl rfl]; simp; done) | (simp [limb_1_2, Cond.value, Term.eval]; done)))⟩
end
