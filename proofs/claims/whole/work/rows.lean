section
-- ===== PART A: goes FIRST, ahead of the names: the tables' words, and 'selects' of the private methods out of them =====
/-- a private method of a class that the tables say can be made, by its rows of tables_1 -/
def lw_okq (q : MethodName × Nat) : Prop := (q.1.cls ≠ "java/lang/invoke/MethodHandle" ∧ q.1.cls ≠ "java/lang/invoke/VarHandle") ∧ Cond.instantiable q.1.cls q.2 ∈ tables_1 ∧ Cond.privateMethod q.1 ∈ tables_1 ∧ Cond.instanceMethod q.1 ∈ tables_1
theorem lw_p0 : lw_okq (⟨"ShadowFiles", "isThere", "(I)Z"⟩, 15) := ⟨⟨by decide +kernel, by decide +kernel⟩, List.mem_of_getElem? (i := 14) (by decide +kernel), List.mem_of_getElem? (i := 111) (by decide +kernel), List.mem_of_getElem? (i := 112) (by decide +kernel)⟩
theorem lw_p1 : lw_okq (⟨"ShadowFiles", "countingTable", "()I"⟩, 15) := ⟨⟨by decide +kernel, by decide +kernel⟩, List.mem_of_getElem? (i := 14) (by decide +kernel), List.mem_of_getElem? (i := 115) (by decide +kernel), List.mem_of_getElem? (i := 116) (by decide +kernel)⟩
theorem lw_p2 : lw_okq (⟨"ShadowFiles", "isGood", "(I)Z"⟩, 15) := ⟨⟨by decide +kernel, by decide +kernel⟩, List.mem_of_getElem? (i := 14) (by decide +kernel), List.mem_of_getElem? (i := 119) (by decide +kernel), List.mem_of_getElem? (i := 120) (by decide +kernel)⟩
theorem lw_p3 : lw_okq (⟨"ShadowFiles", "numberOf", "(I)I"⟩, 15) := ⟨⟨by decide +kernel, by decide +kernel⟩, List.mem_of_getElem? (i := 14) (by decide +kernel), List.mem_of_getElem? (i := 137) (by decide +kernel), List.mem_of_getElem? (i := 138) (by decide +kernel)⟩
theorem lw_p4 : lw_okq (⟨"ShadowFiles", "firstOf", "(IIZ)I"⟩, 15) := ⟨⟨by decide +kernel, by decide +kernel⟩, List.mem_of_getElem? (i := 14) (by decide +kernel), List.mem_of_getElem? (i := 144) (by decide +kernel), List.mem_of_getElem? (i := 145) (by decide +kernel)⟩
theorem lw_p5 : lw_okq (⟨"java/lang/Throwable", "fillInStackTrace", "(I)Ljava/lang/Throwable;"⟩, 6) := ⟨⟨by decide +kernel, by decide +kernel⟩, List.mem_of_getElem? (i := 196) (by decide +kernel), List.mem_of_getElem? (i := 194) (by decide +kernel), List.mem_of_getElem? (i := 195) (by decide +kernel)⟩
theorem lw_p6 : lw_okq (⟨"ShadowFiles", "addToTape", "(I)V"⟩, 15) := ⟨⟨by decide +kernel, by decide +kernel⟩, List.mem_of_getElem? (i := 14) (by decide +kernel), List.mem_of_getElem? (i := 242) (by decide +kernel), List.mem_of_getElem? (i := 243) (by decide +kernel)⟩
theorem lw_p7 : lw_okq (⟨"ShadowFiles", "takePlaces", "(ZI)Z"⟩, 15) := ⟨⟨by decide +kernel, by decide +kernel⟩, List.mem_of_getElem? (i := 14) (by decide +kernel), List.mem_of_getElem? (i := 294) (by decide +kernel), List.mem_of_getElem? (i := 295) (by decide +kernel)⟩
theorem lw_p8 : lw_okq (⟨"ShadowFiles", "markUsed", "(Z)V"⟩, 15) := ⟨⟨by decide +kernel, by decide +kernel⟩, List.mem_of_getElem? (i := 14) (by decide +kernel), List.mem_of_getElem? (i := 298) (by decide +kernel), List.mem_of_getElem? (i := 299) (by decide +kernel)⟩
theorem lw_p9 : lw_okq (⟨"ShadowFiles", "placesOf", "(Z)LShadowFiles$Blocks;"⟩, 15) := ⟨⟨by decide +kernel, by decide +kernel⟩, List.mem_of_getElem? (i := 14) (by decide +kernel), List.mem_of_getElem? (i := 302) (by decide +kernel), List.mem_of_getElem? (i := 303) (by decide +kernel)⟩
theorem lw_p10 : lw_okq (⟨"ShadowFiles$Chain", "wentThrough", "(I)Z"⟩, 5) := ⟨⟨by decide +kernel, by decide +kernel⟩, List.mem_of_getElem? (i := 37) (by decide +kernel), List.mem_of_getElem? (i := 319) (by decide +kernel), List.mem_of_getElem? (i := 320) (by decide +kernel)⟩
theorem lw_p11 : lw_okq (⟨"ShadowFiles$Chain", "isRight", "(LShadowFiles$Blocks;I)Z"⟩, 5) := ⟨⟨by decide +kernel, by decide +kernel⟩, List.mem_of_getElem? (i := 37) (by decide +kernel), List.mem_of_getElem? (i := 323) (by decide +kernel), List.mem_of_getElem? (i := 324) (by decide +kernel)⟩
theorem lw_p12 : lw_okq (⟨"ShadowFiles", "markFollowed", "()V"⟩, 15) := ⟨⟨by decide +kernel, by decide +kernel⟩, List.mem_of_getElem? (i := 14) (by decide +kernel), List.mem_of_getElem? (i := 328) (by decide +kernel), List.mem_of_getElem? (i := 329) (by decide +kernel)⟩
theorem lw_p13 : lw_okq (⟨"ShadowFiles", "beginWriting", "(I)V"⟩, 15) := ⟨⟨by decide +kernel, by decide +kernel⟩, List.mem_of_getElem? (i := 14) (by decide +kernel), List.mem_of_getElem? (i := 340) (by decide +kernel), List.mem_of_getElem? (i := 341) (by decide +kernel)⟩
theorem lw_p14 : lw_okq (⟨"ShadowFiles", "preparePlaceFromTape", "(III)V"⟩, 15) := ⟨⟨by decide +kernel, by decide +kernel⟩, List.mem_of_getElem? (i := 14) (by decide +kernel), List.mem_of_getElem? (i := 344) (by decide +kernel), List.mem_of_getElem? (i := 345) (by decide +kernel)⟩
theorem lw_p15 : lw_okq (⟨"ShadowFiles", "linkBehind", "(II)I"⟩, 15) := ⟨⟨by decide +kernel, by decide +kernel⟩, List.mem_of_getElem? (i := 14) (by decide +kernel), List.mem_of_getElem? (i := 351) (by decide +kernel), List.mem_of_getElem? (i := 352) (by decide +kernel)⟩
def lw_privs_1 : List (MethodName × Nat) := [(⟨"ShadowFiles", "isThere", "(I)Z"⟩, 15), (⟨"ShadowFiles", "countingTable", "()I"⟩, 15), (⟨"ShadowFiles", "isGood", "(I)Z"⟩, 15), (⟨"ShadowFiles", "numberOf", "(I)I"⟩, 15), (⟨"ShadowFiles", "firstOf", "(IIZ)I"⟩, 15), (⟨"java/lang/Throwable", "fillInStackTrace", "(I)Ljava/lang/Throwable;"⟩, 6), (⟨"ShadowFiles", "addToTape", "(I)V"⟩, 15), (⟨"ShadowFiles", "takePlaces", "(ZI)Z"⟩, 15), (⟨"ShadowFiles", "markUsed", "(Z)V"⟩, 15), (⟨"ShadowFiles", "placesOf", "(Z)LShadowFiles$Blocks;"⟩, 15), (⟨"ShadowFiles$Chain", "wentThrough", "(I)Z"⟩, 5), (⟨"ShadowFiles$Chain", "isRight", "(LShadowFiles$Blocks;I)Z"⟩, 5), (⟨"ShadowFiles", "markFollowed", "()V"⟩, 15), (⟨"ShadowFiles", "beginWriting", "(I)V"⟩, 15), (⟨"ShadowFiles", "preparePlaceFromTape", "(III)V"⟩, 15), (⟨"ShadowFiles", "linkBehind", "(II)I"⟩, 15)]
theorem lw_r1 : ∀ q ∈ lw_privs_1, lw_okq q := List.forall_mem_cons.mpr ⟨lw_p0, List.forall_mem_cons.mpr ⟨lw_p1, List.forall_mem_cons.mpr ⟨lw_p2, List.forall_mem_cons.mpr ⟨lw_p3, List.forall_mem_cons.mpr ⟨lw_p4, List.forall_mem_cons.mpr ⟨lw_p5, List.forall_mem_cons.mpr ⟨lw_p6, List.forall_mem_cons.mpr ⟨lw_p7, List.forall_mem_cons.mpr ⟨lw_p8, List.forall_mem_cons.mpr ⟨lw_p9, List.forall_mem_cons.mpr ⟨lw_p10, List.forall_mem_cons.mpr ⟨lw_p11, List.forall_mem_cons.mpr ⟨lw_p12, List.forall_mem_cons.mpr ⟨lw_p13, List.forall_mem_cons.mpr ⟨lw_p14, List.forall_mem_cons.mpr ⟨lw_p15, fun _ h => absurd h List.not_mem_nil⟩⟩⟩⟩⟩⟩⟩⟩⟩⟩⟩⟩⟩⟩⟩⟩
theorem lw_p16 : lw_okq (⟨"ShadowFiles", "takenAt", "(I)I"⟩, 15) := ⟨⟨by decide +kernel, by decide +kernel⟩, List.mem_of_getElem? (i := 14) (by decide +kernel), List.mem_of_getElem? (i := 355) (by decide +kernel), List.mem_of_getElem? (i := 356) (by decide +kernel)⟩
theorem lw_p17 : lw_okq (⟨"ShadowFiles", "tapeAt", "(I)I"⟩, 15) := ⟨⟨by decide +kernel, by decide +kernel⟩, List.mem_of_getElem? (i := 14) (by decide +kernel), List.mem_of_getElem? (i := 363) (by decide +kernel), List.mem_of_getElem? (i := 364) (by decide +kernel)⟩
theorem lw_p18 : lw_okq (⟨"ShadowFiles", "putPlace", "(LShadowFiles$Blocks;I)V"⟩, 15) := ⟨⟨by decide +kernel, by decide +kernel⟩, List.mem_of_getElem? (i := 14) (by decide +kernel), List.mem_of_getElem? (i := 367) (by decide +kernel), List.mem_of_getElem? (i := 368) (by decide +kernel)⟩
theorem lw_p19 : lw_okq (⟨"ShadowFiles", "putBlock", "(LShadowFiles$Blocks;LShadowFiles$Blocks;I)V"⟩, 15) := ⟨⟨by decide +kernel, by decide +kernel⟩, List.mem_of_getElem? (i := 14) (by decide +kernel), List.mem_of_getElem? (i := 375) (by decide +kernel), List.mem_of_getElem? (i := 376) (by decide +kernel)⟩
theorem lw_p20 : lw_okq (⟨"ShadowFiles", "putTable", "(III)V"⟩, 15) := ⟨⟨by decide +kernel, by decide +kernel⟩, List.mem_of_getElem? (i := 14) (by decide +kernel), List.mem_of_getElem? (i := 379) (by decide +kernel), List.mem_of_getElem? (i := 380) (by decide +kernel)⟩
theorem lw_p21 : lw_okq (⟨"ShadowFiles", "endWriting", "()Z"⟩, 15) := ⟨⟨by decide +kernel, by decide +kernel⟩, List.mem_of_getElem? (i := 14) (by decide +kernel), List.mem_of_getElem? (i := 383) (by decide +kernel), List.mem_of_getElem? (i := 384) (by decide +kernel)⟩
theorem lw_p22 : lw_okq (⟨"ShadowFiles", "followToMove", "(II)Z"⟩, 15) := ⟨⟨by decide +kernel, by decide +kernel⟩, List.mem_of_getElem? (i := 14) (by decide +kernel), List.mem_of_getElem? (i := 403) (by decide +kernel), List.mem_of_getElem? (i := 404) (by decide +kernel)⟩
theorem lw_p23 : lw_okq (⟨"ShadowFiles", "isSlow", "(I)Z"⟩, 15) := ⟨⟨by decide +kernel, by decide +kernel⟩, List.mem_of_getElem? (i := 14) (by decide +kernel), List.mem_of_getElem? (i := 407) (by decide +kernel), List.mem_of_getElem? (i := 408) (by decide +kernel)⟩
theorem lw_p24 : lw_okq (⟨"ShadowFiles", "followRow", "(I)V"⟩, 15) := ⟨⟨by decide +kernel, by decide +kernel⟩, List.mem_of_getElem? (i := 14) (by decide +kernel), List.mem_of_getElem? (i := 411) (by decide +kernel), List.mem_of_getElem? (i := 412) (by decide +kernel)⟩
theorem lw_p25 : lw_okq (⟨"ShadowFiles", "moveFollowed", "(I)Z"⟩, 15) := ⟨⟨by decide +kernel, by decide +kernel⟩, List.mem_of_getElem? (i := 14) (by decide +kernel), List.mem_of_getElem? (i := 420) (by decide +kernel), List.mem_of_getElem? (i := 421) (by decide +kernel)⟩
theorem lw_p26 : lw_okq (⟨"ShadowFiles", "preparePlaceFromChain", "(I)V"⟩, 15) := ⟨⟨by decide +kernel, by decide +kernel⟩, List.mem_of_getElem? (i := 14) (by decide +kernel), List.mem_of_getElem? (i := 424) (by decide +kernel), List.mem_of_getElem? (i := 425) (by decide +kernel)⟩
theorem lw_p27 : lw_okq (⟨"ShadowFiles", "countFree", "(Z)I"⟩, 15) := ⟨⟨by decide +kernel, by decide +kernel⟩, List.mem_of_getElem? (i := 14) (by decide +kernel), List.mem_of_getElem? (i := 470) (by decide +kernel), List.mem_of_getElem? (i := 471) (by decide +kernel)⟩
theorem lw_p28 : lw_okq (⟨"ShadowFiles", "wrongTable", "(I)I"⟩, 15) := ⟨⟨by decide +kernel, by decide +kernel⟩, List.mem_of_getElem? (i := 14) (by decide +kernel), List.mem_of_getElem? (i := 482) (by decide +kernel), List.mem_of_getElem? (i := 483) (by decide +kernel)⟩
theorem lw_p29 : lw_okq (⟨"ShadowFiles", "wrongPlace", "(ZI)I"⟩, 15) := ⟨⟨by decide +kernel, by decide +kernel⟩, List.mem_of_getElem? (i := 14) (by decide +kernel), List.mem_of_getElem? (i := 486) (by decide +kernel), List.mem_of_getElem? (i := 487) (by decide +kernel)⟩
theorem lw_p30 : lw_okq (⟨"ShadowFiles", "hasByte", "(II)Z"⟩, 15) := ⟨⟨by decide +kernel, by decide +kernel⟩, List.mem_of_getElem? (i := 14) (by decide +kernel), List.mem_of_getElem? (i := 497) (by decide +kernel), List.mem_of_getElem? (i := 498) (by decide +kernel)⟩
theorem lw_p31 : lw_okq (⟨"ShadowFiles", "partOf", "(I)LShadowFiles$Blocks;"⟩, 15) := ⟨⟨by decide +kernel, by decide +kernel⟩, List.mem_of_getElem? (i := 14) (by decide +kernel), List.mem_of_getElem? (i := 501) (by decide +kernel), List.mem_of_getElem? (i := 502) (by decide +kernel)⟩
def lw_privs_2 : List (MethodName × Nat) := [(⟨"ShadowFiles", "takenAt", "(I)I"⟩, 15), (⟨"ShadowFiles", "tapeAt", "(I)I"⟩, 15), (⟨"ShadowFiles", "putPlace", "(LShadowFiles$Blocks;I)V"⟩, 15), (⟨"ShadowFiles", "putBlock", "(LShadowFiles$Blocks;LShadowFiles$Blocks;I)V"⟩, 15), (⟨"ShadowFiles", "putTable", "(III)V"⟩, 15), (⟨"ShadowFiles", "endWriting", "()Z"⟩, 15), (⟨"ShadowFiles", "followToMove", "(II)Z"⟩, 15), (⟨"ShadowFiles", "isSlow", "(I)Z"⟩, 15), (⟨"ShadowFiles", "followRow", "(I)V"⟩, 15), (⟨"ShadowFiles", "moveFollowed", "(I)Z"⟩, 15), (⟨"ShadowFiles", "preparePlaceFromChain", "(I)V"⟩, 15), (⟨"ShadowFiles", "countFree", "(Z)I"⟩, 15), (⟨"ShadowFiles", "wrongTable", "(I)I"⟩, 15), (⟨"ShadowFiles", "wrongPlace", "(ZI)I"⟩, 15), (⟨"ShadowFiles", "hasByte", "(II)Z"⟩, 15), (⟨"ShadowFiles", "partOf", "(I)LShadowFiles$Blocks;"⟩, 15)]
theorem lw_r2 : ∀ q ∈ lw_privs_2, lw_okq q := List.forall_mem_cons.mpr ⟨lw_p16, List.forall_mem_cons.mpr ⟨lw_p17, List.forall_mem_cons.mpr ⟨lw_p18, List.forall_mem_cons.mpr ⟨lw_p19, List.forall_mem_cons.mpr ⟨lw_p20, List.forall_mem_cons.mpr ⟨lw_p21, List.forall_mem_cons.mpr ⟨lw_p22, List.forall_mem_cons.mpr ⟨lw_p23, List.forall_mem_cons.mpr ⟨lw_p24, List.forall_mem_cons.mpr ⟨lw_p25, List.forall_mem_cons.mpr ⟨lw_p26, List.forall_mem_cons.mpr ⟨lw_p27, List.forall_mem_cons.mpr ⟨lw_p28, List.forall_mem_cons.mpr ⟨lw_p29, List.forall_mem_cons.mpr ⟨lw_p30, List.forall_mem_cons.mpr ⟨lw_p31, fun _ h => absurd h List.not_mem_nil⟩⟩⟩⟩⟩⟩⟩⟩⟩⟩⟩⟩⟩⟩⟩⟩
theorem lw_p32 : lw_okq (⟨"ShadowFilesModel", "throwing", "(ZZZZ)Z"⟩, 15) := ⟨⟨by decide +kernel, by decide +kernel⟩, List.mem_of_getElem? (i := 515) (by decide +kernel), List.mem_of_getElem? (i := 578) (by decide +kernel), List.mem_of_getElem? (i := 579) (by decide +kernel)⟩
theorem lw_p33 : lw_okq (⟨"ShadowFilesModel", "findTaken", "(Z)I"⟩, 15) := ⟨⟨by decide +kernel, by decide +kernel⟩, List.mem_of_getElem? (i := 515) (by decide +kernel), List.mem_of_getElem? (i := 587) (by decide +kernel), List.mem_of_getElem? (i := 588) (by decide +kernel)⟩
theorem lw_p34 : lw_okq (⟨"ShadowFilesModel", "isThere", "(I)Z"⟩, 15) := ⟨⟨by decide +kernel, by decide +kernel⟩, List.mem_of_getElem? (i := 515) (by decide +kernel), List.mem_of_getElem? (i := 591) (by decide +kernel), List.mem_of_getElem? (i := 592) (by decide +kernel)⟩
theorem lw_p35 : lw_okq (⟨"ShadowFilesModel", "entry", "(I)I"⟩, 15) := ⟨⟨by decide +kernel, by decide +kernel⟩, List.mem_of_getElem? (i := 515) (by decide +kernel), List.mem_of_getElem? (i := 595) (by decide +kernel), List.mem_of_getElem? (i := 596) (by decide +kernel)⟩
theorem lw_p36 : lw_okq (⟨"ShadowFilesModel", "counting", "()I"⟩, 15) := ⟨⟨by decide +kernel, by decide +kernel⟩, List.mem_of_getElem? (i := 515) (by decide +kernel), List.mem_of_getElem? (i := 599) (by decide +kernel), List.mem_of_getElem? (i := 600) (by decide +kernel)⟩
theorem lw_p37 : lw_okq (⟨"ShadowFilesModel", "isGood", "(I)Z"⟩, 15) := ⟨⟨by decide +kernel, by decide +kernel⟩, List.mem_of_getElem? (i := 515) (by decide +kernel), List.mem_of_getElem? (i := 603) (by decide +kernel), List.mem_of_getElem? (i := 604) (by decide +kernel)⟩
theorem lw_p38 : lw_okq (⟨"ShadowFilesModel", "isSummed", "(II)Z"⟩, 15) := ⟨⟨by decide +kernel, by decide +kernel⟩, List.mem_of_getElem? (i := 515) (by decide +kernel), List.mem_of_getElem? (i := 607) (by decide +kernel), List.mem_of_getElem? (i := 608) (by decide +kernel)⟩
theorem lw_p39 : lw_okq (⟨"ShadowFilesModel", "isSlow", "(I)Z"⟩, 15) := ⟨⟨by decide +kernel, by decide +kernel⟩, List.mem_of_getElem? (i := 515) (by decide +kernel), List.mem_of_getElem? (i := 618) (by decide +kernel), List.mem_of_getElem? (i := 619) (by decide +kernel)⟩
theorem lw_p40 : lw_okq (⟨"ShadowFilesModel", "go", "(I)V"⟩, 15) := ⟨⟨by decide +kernel, by decide +kernel⟩, List.mem_of_getElem? (i := 515) (by decide +kernel), List.mem_of_getElem? (i := 622) (by decide +kernel), List.mem_of_getElem? (i := 623) (by decide +kernel)⟩
theorem lw_p41 : lw_okq (⟨"ShadowFilesModel", "isThrough", "(I)Z"⟩, 15) := ⟨⟨by decide +kernel, by decide +kernel⟩, List.mem_of_getElem? (i := 515) (by decide +kernel), List.mem_of_getElem? (i := 632) (by decide +kernel), List.mem_of_getElem? (i := 633) (by decide +kernel)⟩
theorem lw_p42 : lw_okq (⟨"ShadowFilesModel", "putChain", "(ZI)I"⟩, 15) := ⟨⟨by decide +kernel, by decide +kernel⟩, List.mem_of_getElem? (i := 515) (by decide +kernel), List.mem_of_getElem? (i := 636) (by decide +kernel), List.mem_of_getElem? (i := 637) (by decide +kernel)⟩
theorem lw_p43 : lw_okq (⟨"ShadowFilesModel", "freeFrom", "(I)I"⟩, 15) := ⟨⟨by decide +kernel, by decide +kernel⟩, List.mem_of_getElem? (i := 515) (by decide +kernel), List.mem_of_getElem? (i := 640) (by decide +kernel), List.mem_of_getElem? (i := 641) (by decide +kernel)⟩
theorem lw_p44 : lw_okq (⟨"ShadowFilesModel", "put", "(II)V"⟩, 15) := ⟨⟨by decide +kernel, by decide +kernel⟩, List.mem_of_getElem? (i := 515) (by decide +kernel), List.mem_of_getElem? (i := 644) (by decide +kernel), List.mem_of_getElem? (i := 645) (by decide +kernel)⟩
theorem lw_p45 : lw_okq (⟨"ShadowFilesModel", "putSum", "(II)V"⟩, 15) := ⟨⟨by decide +kernel, by decide +kernel⟩, List.mem_of_getElem? (i := 515) (by decide +kernel), List.mem_of_getElem? (i := 648) (by decide +kernel), List.mem_of_getElem? (i := 649) (by decide +kernel)⟩
theorem lw_p46 : lw_okq (⟨"ShadowFilesModel", "putTable", "(III)V"⟩, 15) := ⟨⟨by decide +kernel, by decide +kernel⟩, List.mem_of_getElem? (i := 515) (by decide +kernel), List.mem_of_getElem? (i := 652) (by decide +kernel), List.mem_of_getElem? (i := 653) (by decide +kernel)⟩
theorem lw_p47 : lw_okq (⟨"ShadowFilesModel", "comes", "()Z"⟩, 15) := ⟨⟨by decide +kernel, by decide +kernel⟩, List.mem_of_getElem? (i := 515) (by decide +kernel), List.mem_of_getElem? (i := 656) (by decide +kernel), List.mem_of_getElem? (i := 657) (by decide +kernel)⟩
def lw_privs_3 : List (MethodName × Nat) := [(⟨"ShadowFilesModel", "throwing", "(ZZZZ)Z"⟩, 15), (⟨"ShadowFilesModel", "findTaken", "(Z)I"⟩, 15), (⟨"ShadowFilesModel", "isThere", "(I)Z"⟩, 15), (⟨"ShadowFilesModel", "entry", "(I)I"⟩, 15), (⟨"ShadowFilesModel", "counting", "()I"⟩, 15), (⟨"ShadowFilesModel", "isGood", "(I)Z"⟩, 15), (⟨"ShadowFilesModel", "isSummed", "(II)Z"⟩, 15), (⟨"ShadowFilesModel", "isSlow", "(I)Z"⟩, 15), (⟨"ShadowFilesModel", "go", "(I)V"⟩, 15), (⟨"ShadowFilesModel", "isThrough", "(I)Z"⟩, 15), (⟨"ShadowFilesModel", "putChain", "(ZI)I"⟩, 15), (⟨"ShadowFilesModel", "freeFrom", "(I)I"⟩, 15), (⟨"ShadowFilesModel", "put", "(II)V"⟩, 15), (⟨"ShadowFilesModel", "putSum", "(II)V"⟩, 15), (⟨"ShadowFilesModel", "putTable", "(III)V"⟩, 15), (⟨"ShadowFilesModel", "comes", "()Z"⟩, 15)]
theorem lw_r3 : ∀ q ∈ lw_privs_3, lw_okq q := List.forall_mem_cons.mpr ⟨lw_p32, List.forall_mem_cons.mpr ⟨lw_p33, List.forall_mem_cons.mpr ⟨lw_p34, List.forall_mem_cons.mpr ⟨lw_p35, List.forall_mem_cons.mpr ⟨lw_p36, List.forall_mem_cons.mpr ⟨lw_p37, List.forall_mem_cons.mpr ⟨lw_p38, List.forall_mem_cons.mpr ⟨lw_p39, List.forall_mem_cons.mpr ⟨lw_p40, List.forall_mem_cons.mpr ⟨lw_p41, List.forall_mem_cons.mpr ⟨lw_p42, List.forall_mem_cons.mpr ⟨lw_p43, List.forall_mem_cons.mpr ⟨lw_p44, List.forall_mem_cons.mpr ⟨lw_p45, List.forall_mem_cons.mpr ⟨lw_p46, List.forall_mem_cons.mpr ⟨lw_p47, fun _ h => absurd h List.not_mem_nil⟩⟩⟩⟩⟩⟩⟩⟩⟩⟩⟩⟩⟩⟩⟩⟩
theorem lw_p48 : lw_okq (⟨"ShadowFilesModel", "monthOf", "(I)I"⟩, 15) := ⟨⟨by decide +kernel, by decide +kernel⟩, List.mem_of_getElem? (i := 515) (by decide +kernel), List.mem_of_getElem? (i := 668) (by decide +kernel), List.mem_of_getElem? (i := 669) (by decide +kernel)⟩
theorem lw_p49 : lw_okq (⟨"ShadowFilesModel", "isWrong", "(II)Z"⟩, 15) := ⟨⟨by decide +kernel, by decide +kernel⟩, List.mem_of_getElem? (i := 515) (by decide +kernel), List.mem_of_getElem? (i := 696) (by decide +kernel), List.mem_of_getElem? (i := 697) (by decide +kernel)⟩
def lw_privs_4 : List (MethodName × Nat) := [(⟨"ShadowFilesModel", "monthOf", "(I)I"⟩, 15), (⟨"ShadowFilesModel", "isWrong", "(II)Z"⟩, 15)]
theorem lw_r4 : ∀ q ∈ lw_privs_4, lw_okq q := List.forall_mem_cons.mpr ⟨lw_p48, List.forall_mem_cons.mpr ⟨lw_p49, fun _ h => absurd h List.not_mem_nil⟩⟩
def lw_privs : List (MethodName × Nat) := lw_privs_1 ++ (lw_privs_2 ++ (lw_privs_3 ++ (lw_privs_4)))
def lw_tbl : List Cond := k2_sels lw_privs ++ tables_1
theorem lw_privs_ok : ∀ q ∈ lw_privs, lw_okq q := by
  show ∀ q ∈ lw_privs_1 ++ (lw_privs_2 ++ (lw_privs_3 ++ (lw_privs_4))), lw_okq q
  exact List.forall_mem_append.mpr ⟨lw_r1, List.forall_mem_append.mpr ⟨lw_r2, List.forall_mem_append.mpr ⟨lw_r3, lw_r4⟩⟩⟩
end
section
/-! THE BASE OF THE WORK: contracts of methods that make nothing ('sf_M'), calls by them over a larger world ('sf_repl': the callee's cells are replaced where they stand), one table of words for all. -/
def sf_repl : va_W → List Nat → va_W → va_W
  | W0, i :: is, e :: es => sf_repl (W0.set i e) is es
  | W0, [], _ => W0
  | W0, _ :: _, [] => W0
theorem sf_repl_get : ∀ (is : List Nat) (es W0 : va_W), is.length = es.length → (∀ i ∈ is, i < W0.length) → ∀ k : Nat, (∃ j : Nat, is[j]? = some k ∧ (sf_repl W0 is es)[k]? = es[j]?) ∨ (k ∉ is ∧ (sf_repl W0 is es)[k]? = W0[k]?)
  | [], es, W0, _, _, k => Or.inr ⟨List.not_mem_nil, by simp [sf_repl]⟩
  | i :: is, [], W0, h, _, k => by simp at h
  | i :: is, e :: es, W0, h, hl, k => by
    have h2 : is.length = es.length := by simpa using h
    rcases sf_repl_get is es (W0.set i e) h2 (fun x hx => by rw [List.length_set]; exact hl x (List.mem_cons_of_mem _ hx)) k with ⟨j, h3, h4⟩ | ⟨h3, h4⟩
    · exact Or.inl ⟨j + 1, by simpa using h3, by simpa [sf_repl] using h4⟩
    · by_cases hki : k = i
      · subst hki
        refine Or.inl ⟨0, by simp, ?_⟩
        show (sf_repl (W0.set k e) is es)[k]? = _
        rw [h4, List.getElem?_set_self (hl k List.mem_cons_self)]
        simp
      · refine Or.inr ⟨fun q => ?_, ?_⟩
        · rcases List.mem_cons.mp q with q | q
          · exact hki q
          · exact h3 q
        · show (sf_repl (W0.set i e) is es)[k]? = _
          rw [h4, List.getElem?_set_ne (Ne.symm hki)]
theorem sf_map_at {is : List Nat} {ws wc : va_W} (hC : is.map (fun i => ws[i]?) = wc.map some) (k : Nat) (q : Nat × va_E) (hq : wc[k]? = some q) : ∃ i, is[k]? = some i ∧ ws[i]? = some q := by
  have h1 : (is.map (fun i => ws[i]?))[k]? = some (some q) := by rw [hC, List.getElem?_map, hq]; rfl
  rw [List.getElem?_map] at h1
  cases hi : is[k]? with
  | none => rw [hi] at h1; cases h1
  | some i => rw [hi] at h1; exact ⟨i, rfl, Option.some.inj h1⟩
/-- behind a call: the callee's cells stand where they stood, with what it left in them -/
theorem sf_join {A0 : Nat → Prop} {D : va_G} {cl : List vw_C} {W0 wc w1 : va_W} {H H1 : Heap} (hP : va_P D cl W0 H) (hD : va_D A0 W0) (isC : List Nat) (hC : isC.map (fun i => W0[i]?) = wc.map some) (hfst : w1.map Prod.fst = wc.map Prod.fst)
    (hk : ∀ q : Nat, q < H.size → ¬ va_A wc H.size q → H1[q]? = H[q]?) (hP1 : va_P D cl w1 H1) : va_P D cl (sf_repl W0 isC w1) H1 ∧ va_D A0 (sf_repl W0 isC w1) := by
  have hlen : isC.length = w1.length := by
    have a1 := congrArg List.length hC
    have a2 := congrArg List.length hfst
    simp at a1 a2
    omega
  have hlt : ∀ i ∈ isC, i < W0.length := by
    intro i hi
    obtain ⟨j, hj⟩ := List.getElem?_of_mem hi
    have h1 : (isC.map (fun i => W0[i]?))[j]? = some (W0[i]?) := by rw [List.getElem?_map, hj]; rfl
    rw [hC, List.getElem?_map] at h1
    cases hw : wc[j]? with
    | none => rw [hw] at h1; simp at h1
    | some q =>
      rw [hw] at h1
      simp at h1
      exact (List.getElem?_eq_some_iff.mp h1.symm).1
  have hget := sf_repl_get isC w1 W0 hlen hlt
  have hold : ∀ (k : Nat) (q : Nat × va_E), (sf_repl W0 isC w1)[k]? = some q → ∃ e, W0[k]? = some (q.1, e) := by
    intro k q hq
    rcases hget k with ⟨j, h1, h2⟩ | ⟨h1, h2⟩
    · rw [hq] at h2
      have h3 : (w1.map Prod.fst)[j]? = some q.1 := by rw [List.getElem?_map, ← h2]; rfl
      rw [hfst, List.getElem?_map] at h3
      cases hw : wc[j]? with
      | none => rw [hw] at h3; simp at h3
      | some r =>
        rw [hw] at h3
        simp at h3
        obtain ⟨i, h4, h5⟩ := sf_map_at hC j r hw
        rw [h1] at h4
        obtain rfl := Option.some.inj h4
        exact ⟨r.2, by rw [h5, ← h3]⟩
    · rw [hq] at h2
      exact ⟨q.2, h2.symm⟩
  refine ⟨fun k q hq => ?_, ⟨fun i j x y hx hy hxy => ?_, fun k q hq => ?_⟩⟩
  · rcases hget k with ⟨j, h1, h2⟩ | ⟨h1, h2⟩
    · rw [hq] at h2
      exact hP1 j q h2.symm
    · rw [hq] at h2
      have hl := (hP k q h2.symm).lt
      refine (hP k q h2.symm).kept (hk q.1 hl (fun h => ?_))
      rcases h with ⟨k2, e, h⟩ | h
      · obtain ⟨i, h4, h5⟩ := sf_map_at hC k2 (q.1, e) h
        have := hD.1 k i q (q.1, e) h2.symm h5 rfl
        subst this
        exact h1 (List.mem_of_getElem? h4)
      · omega
  · obtain ⟨e1, h1⟩ := hold i x hx
    obtain ⟨e2, h2⟩ := hold j y hy
    exact hD.1 i j _ _ h1 h2 hxy
  · obtain ⟨e1, h1⟩ := hold k q hq
    exact hD.2 k (q.1, e1) h1
/-- one table of words for all methods: what stands in the tables and stays good -/
def sf_tb : List Cond := lw_tbl.filter goodWord
theorem sf_tb_good : ∀ w ∈ sf_tb, (w.onTables && w.keeps) = true ∨ ∃ ty, w = .arrayClass ty := fun _ h => good_of_word (List.mem_filter.mp h).2
theorem sf_tb_in {w : Cond} (i : Nat) (h : lw_tbl[i]? = some w) (hg : goodWord w = true) : w ∈ sf_tb := List.mem_filter.mpr ⟨List.mem_of_getElem? h, hg⟩
/-- a method's words: its own code, then the table -/
abbrev sf_ws (y : MethodName) (b : ByteArray) (nL : Nat) (ret : Option FieldType) : List Cond := Cond.code y b nL ret :: sf_tb
/-- THE CONTRACT of a method that makes nothing: from every heap that holds the cells wc it returns ov, and the heap holds the cells w1 u for a u with post u -/
def sf_M {S : Type} (l : Launch) (D : va_G) (cl : List vw_C) (tys : List (ClassId × FieldType)) (y : MethodName) (ws : List Cond) (fr lo : Nat) (As : List Value) (wc : va_W) (ov : S → Option Value) (post : S → Prop) (w1 : S → va_W) : Prop :=
  ∀ sz : Nat, Met l y ws ({ frames := fr, cells := 0, slots := 0, locals := lo }) (va_Pc As (fun U => U.heap.size = sz ∧ va_P D cl wc U.heap ∧ va_K D cl tys U ∧ va_D (fun _ => True) wc))
    (fun _ st o t => (∃ u : S, o = .returned (ov u) ∧ post u ∧ va_P D cl (w1 u) t.heap) ∧ va_F (va_A wc sz) st t) 0 0 (va_A wc sz)
/-- what stands at a method's beginning -/
def sf_C (p : Program) (s : State) (m : MethodId) (meth : Method) (c : Code) (cc : ByteArray) (nL : Nat) (y : MethodName) (args : Array Value) (A : Nat → Prop) : Prop :=
  p.tables.exec = Jvm.exec ∧ c.code = cc ∧ c.maxLocals = nL ∧ s.vm.findClass y.cls = some m.cls ∧ (∀ w ∈ sf_tb, w.before args s = true) ∧ (∀ q : Nat, s.heap.size ≤ q → A q) ∧ meth.locks = false
section SFA
variable {S : Type} {l : Launch} {D : va_G} {cl : List vw_C} {tys : List (ClassId × FieldType)} {y : MethodName} {fr lo : Nat} {As : List Value} {wc : va_W} {ov : S → Option Value} {post : S → Prop} {w1 : S → va_W}
def sf_Q {S : Type} (s : State) (args : Array Value) (below : List Frame) (D : va_G) (cl : List vw_C) (A : Nat → Prop) (ov : S → Option Value) (post : S → Prop) (w1 : S → va_W) : State → Prop :=
  MQ below (fun _ st o t => (∃ u : S, o = .returned (ov u) ∧ post u ∧ va_P D cl (w1 u) t.heap) ∧ va_F A st t) args s 0 0 A
theorem sf_ofW {cc : ByteArray} {maxL : Nat} {ret : Option FieldType} (hy : plainName y.cls = true) (hlen : (lg_sl As).length ≤ maxL)
    (body : ∀ (p : Program) (e : Env) (s : State) (m : MethodId) (below : List Frame) (meth : Method) (c : Code) (A : Nat → Prop) (ls : Array Slot) (R : Room) (args : Array Value) (Q : State → Prop), R = { frames := fr, cells := 0, slots := 0, locals := lo } → args = As.toArray → Q = sf_Q s args below D cl A ov post w1 → sf_C p s m meth c cc maxL y args A → meth.sig.returnType = ret → va_K D cl tys s → va_P D cl wc s.heap → va_D A wc → lv_has ls maxL (lv_args 0 As) →
      W p l e R s m args below meth c s.heap [] 0 0 Q (F0 m 0 ls [])) : sf_M l D cl tys y (sf_ws y cc maxL ret) fr lo As wc ov post w1 := by
  intro sz
  refine Met.ofW (cc := cc) (maxL := maxL) (ret := ret) hy rfl ?_
  intro p e s m args below meth c s₁ B hml hv
  obtain ⟨rfl, hsz, hP, hK, hD0⟩ := hv
  have hts := atoms_spec (ws := sf_ws y cc maxL ret) B.pre
  have hown : s.vm.findClass y.cls = some m.cls := findClass_of_methodNamed B.named
  subst hsz
  have hD := hD0.self (sz := s.heap.size)
  have hl := lv_entry As (n := maxL) hlen
  rw [lg_entry_eq]
  exact body p e s m below meth c _ _ _ _ _ rfl rfl rfl ⟨B.exec, B.bytes, hml, hown, fun w h => hts w (List.mem_cons_of_mem _ h), fun q h => Or.inr h, B.notSynchronized⟩ B.returns hK hP hD hl
end SFA
section SFB
variable {S : Type} {p : Program} {l : Launch} {e : Env} {R : Room} {s : State} {m : MethodId} {args : Array Value} {below : List Frame} {meth : Method} {c : Code} {H : Heap} {locs : List Loc} {cells slots : Nat} {Q : State → Prop} {D : va_G} {cl : List vw_C} {A : Nat → Prop} {ov : S → Option Value} {post : S → Prop} {w1 : S → va_W} {cc : ByteArray}
theorem sf_iret (u : S) {v : Int32} {ty : FieldType} (hexec : p.tables.exec = Jvm.exec) (hb : c.code = cc) (hr : meth.sig.returnType = some ty) (hlocks : meth.locks = false) (hS : va_S A s.heap H locs) (hn : narrow ty (.int v) = .int v) (ho : ov u = some (.int v)) (hp : post u) (hP : va_P D cl (w1 u) H)
    {pc : Nat} {ls : Array Slot} (hdg : decode cc pc = .ok (.ireturn, 1)) : W p l e R s m args below meth c H locs 0 0 (sf_Q s args below D cl A ov post w1) (F0 m pc ls [.int v]) :=
  W.zret hexec hb hr hn (fun t ht _ => ⟨⟨u, by rw [ho], hp, by rw [ht]; exact hP⟩, hS.F ht⟩) hS.2.2 hdg hlocks
theorem sf_vret (u : S) (hexec : p.tables.exec = Jvm.exec) (hb : c.code = cc) (hr : meth.sig.returnType = none) (hlocks : meth.locks = false) (hS : va_S A s.heap H locs) (ho : ov u = none) (hp : post u) (hP : va_P D cl (w1 u) H)
    {pc : Nat} {ls : Array Slot} (hdg : decode cc pc = .ok (.return_, 1)) : W p l e R s m args below meth c H locs 0 0 (sf_Q s args below D cl A ov post w1) (F0 m pc ls []) :=
  W.vret hexec hb hr (fun t ht _ => ⟨⟨u, by rw [ho], hp, by rw [ht]; exact hP⟩, hS.F ht⟩) hS.2.2 hdg hlocks
end SFB
section SFC
variable {S : Type} {p : Program} {l : Launch} {e : Env} {R : Room} {s : State} {m : MethodId} {args : Array Value} {below : List Frame} {meth : Method} {c : Code} {H : Heap} {locs : List Loc} {cells slots : Nat} {Q : State → Prop} {D : va_G} {cl : List vw_C} {tys : List (ClassId × FieldType)} {W0 wc : va_W} {A : Nat → Prop} {H0 : Heap} {ov : S → Option Value} {post : S → Prop} {w1 : S → va_W} {cc bytes : ByteArray}
  {pc nL maxL n index fr lo : Nat} {ls : Array Slot} {own C : String} {y : MethodName} {ret : Option FieldType} {ws Ts : List Cond} {As rest st0 : List Value} {b : Addr}
theorem sf_go (hr : va_Run p l e R s m args below meth c H locs cells slots 0 0 (F0 m pc ls st0) rest (fun st o t => (∃ u : S, o = .returned (ov u) ∧ post u ∧ va_P D cl (w1 u) t.heap) ∧ va_F (va_A wc H.size) st t) (va_A wc H.size))
    (hP : va_P D cl W0 H) (hD : va_D A W0) (hS : va_S A H0 H locs) (hA : ∀ q : Nat, H0.size ≤ q → A q) (isC : List Nat) (hC : isC.map (fun i => W0[i]?) = wc.map some) (hfst : ∀ u, (w1 u).map Prod.fst = wc.map Prod.fst)
    (kk : ∀ (u : S) (H1 : Heap) (locs1 : List Loc), post u → va_P D cl (sf_repl W0 isC (w1 u)) H1 → va_D A (sf_repl W0 isC (w1 u)) → va_S A H0 H1 locs1 → W p l e R s m args below meth c H1 locs1 cells slots Q (F0 m (pc + 3) ls ((ov u).toList ++ rest))) : W p l e R s m args below meth c H locs cells slots Q (F0 m pc ls st0) := by
  intro T hT X
  have hF := va_free (wc := wc) hD hS hA isC hC
  obtain ⟨v, st₀, t, T', L, h0, X', hL, e1, e2, ⟨⟨u, hv, hp, hb⟩, hz, hk⟩, st⟩ := hr T hT X
  cases hv
  rw [h0] at hz hk
  obtain ⟨hP1, hD1⟩ := sf_join hP hD isC hC (hfst u) hk hb
  obtain ⟨t2, a1, b1⟩ := kk u T'.heap (locs ++ L) hp (by rw [e1]; exact hP1) hD1
    ⟨Nat.le_trans hS.1 (by rw [e1]; exact hz), fun q h1 h2 => by rw [e1, hk q (Nat.lt_of_lt_of_le h1 hS.1) (fun z => h2 (hF q z))]; exact hS.2.1 q h1 h2, fun q hq => by
      rcases List.mem_append.mp hq with h | h
      · exact hS.2.2 q h
      · exact hF _ (hL q h)⟩ T' rfl X'
  exact ⟨t2, st t2 a1, b1⟩
theorem sf_blind {av : List Value} {sz : Nat} : FrameBlind (va_Pc av (fun U => U.heap.size = sz ∧ va_P D cl wc U.heap ∧ va_K D cl tys U ∧ va_D (fun _ => True) wc)) := fun a U g mk q => by
  obtain ⟨q0, q1, qP, qK, qD⟩ := q
  exact ⟨q0, q1, qP, va_K.moved (u := U) (U := U.calling g mk a) (Vm.Alike.refl U.vm) qK, qD⟩
theorem sf_callV (Sx : CallFix p m c cc nL s args Ts own) (hM : sf_M l D cl tys y ws fr lo (.ref b :: As) wc ov post w1) (cw : CallW R s args own C index y bytes maxL ret ws ({ frames := fr, cells := 0, slots := 0, locals := lo }) 0 0 n)
    (hK : va_K D cl tys s) (hP : va_P D cl W0 H) (hD : va_D A W0) (hS : va_S A H0 H locs) (hA : ∀ q : Nat, H0.size ≤ q → A q) (isC : List Nat) (hC : isC.map (fun i => W0[i]?) = wc.map some) (hnd : va_nd isC = true) (hfst : ∀ u, (w1 u).map Prod.fst = wc.map Prod.fst)
    {ci q0 : Nat} {fs : List Value} {qc : vw_C} (hcl : cl[ci]? = some qc) (hqc : qc.1 = C) (hq0 : wc[q0]? = some (b, .inr (ci, fs))) (hst : st0 = As.reverse ++ .ref b :: rest) (hn : As.length = n) (hsize : ls.size = nL) (hW : (rest.map fun v => v.category).sum ≤ 8) (hdg : decode cc pc = .ok (.invokevirtual index, 3)) (hf : cells ≤ R.cells ∧ slots ≤ R.slots)
    (kk : ∀ (u : S) (H1 : Heap) (locs1 : List Loc), post u → va_P D cl (sf_repl W0 isC (w1 u)) H1 → va_D A (sf_repl W0 isC (w1 u)) → va_S A H0 H1 locs1 → W p l e R s m args below meth c H1 locs1 cells slots Q (F0 m (pc + 3) ls ((ov u).toList ++ rest))) : W p l e R s m args below meth c H locs cells slots Q (F0 m pc ls st0) := by
  have hPc : va_P D cl wc H := fun k q hq => by
    obtain ⟨i, -, hi⟩ := sf_map_at hC k q hq
    exact hP i q hi
  have hDc : va_D (fun _ => True) wc := (hD.sub isC hnd hC).weaken (fun _ _ _ _ => trivial)
  have hrc : ∃ cellB : Cell, H[b]? = some cellB ∧ cellB.vm.isStatics = false ∧ s.vm.findClass C = some cellB.cls := by
    subst hqc
    exact va_recv hK hPc hcl hq0
  exact sf_go (va_runV (As := As) (rest := rest) (b := b) Sx (hM H.size) cw ⟨sf_blind, hrc, fun U hU hW => ⟨rfl, by rw [hU], by rw [hU]; exact hPc, va_K.moved hW.alike hK, hDc⟩⟩ rfl hn hsize hst (lv_room hW) hdg ⟨hf.1, hf.2⟩) hP hD hS hA isC hC hfst kk
theorem sf_callS (Sx : CallFix p m c cc nL s args Ts own) (hM : sf_M l D cl tys y ws fr lo As wc ov post w1) (cw : CallB R s args own index y bytes maxL ret ws ({ frames := fr, cells := 0, slots := 0, locals := lo }) 0 0 n ∧ (Cond.static y).before args s = true)
    (hK : va_K D cl tys s) (hP : va_P D cl W0 H) (hD : va_D A W0) (hS : va_S A H0 H locs) (hA : ∀ q : Nat, H0.size ≤ q → A q) (isC : List Nat) (hC : isC.map (fun i => W0[i]?) = wc.map some) (hnd : va_nd isC = true) (hfst : ∀ u, (w1 u).map Prod.fst = wc.map Prod.fst)
    (hst : st0 = As.reverse ++ rest) (hn : As.length = n) (hsize : ls.size = nL) (hW : (rest.map fun v => v.category).sum ≤ 8) (hdg : decode cc pc = .ok (.invokestatic index, 3)) (hf : cells ≤ R.cells ∧ slots ≤ R.slots)
    (kk : ∀ (u : S) (H1 : Heap) (locs1 : List Loc), post u → va_P D cl (sf_repl W0 isC (w1 u)) H1 → va_D A (sf_repl W0 isC (w1 u)) → va_S A H0 H1 locs1 → W p l e R s m args below meth c H1 locs1 cells slots Q (F0 m (pc + 3) ls ((ov u).toList ++ rest))) : W p l e R s m args below meth c H locs cells slots Q (F0 m pc ls st0) := by
  have hPc : va_P D cl wc H := fun k q hq => by
    obtain ⟨i, -, hi⟩ := sf_map_at hC k q hq
    exact hP i q hi
  have hDc : va_D (fun _ => True) wc := (hD.sub isC hnd hC).weaken (fun _ _ _ _ => trivial)
  exact sf_go (va_runS (As := As) (rest := rest) Sx (hM H.size) cw ⟨sf_blind, fun U hU hW => ⟨rfl, by rw [hU], by rw [hU]; exact hPc, va_K.moved hW.alike hK, hDc⟩⟩ rfl hn hsize hst (lv_room hW) hdg ⟨hf.1, hf.2⟩) hP hD hS hA isC hC hfst kk
end SFC
/-- what a call of y at an entry of own's pool needs of the table -/
def sf_LV (own : String) (index : Nat) (y : MethodName) (b : ByteArray) (nL : Nat) (ret : Option FieldType) (n : Nat) : Prop :=
  Cond.code y b nL ret ∈ sf_tb ∧ Cond.methodLink own index y ∈ sf_tb ∧ Cond.instanceMethod y ∈ sf_tb ∧ Cond.selects y.cls y y ∈ sf_tb ∧ Cond.initialized y.cls ∈ sf_tb ∧ (y.cls ≠ "java/lang/invoke/MethodHandle" ∧ y.cls ≠ "java/lang/invoke/VarHandle" ∧ (parseMethodDescriptor y.desc).map (fun d => d.parameters.length) = some n)
def sf_LS (own : String) (index : Nat) (y : MethodName) (b : ByteArray) (nL : Nat) (ret : Option FieldType) (n : Nat) : Prop :=
  Cond.code y b nL ret ∈ sf_tb ∧ Cond.methodLink own index y ∈ sf_tb ∧ Cond.static y ∈ sf_tb ∧ Cond.initialized y.cls ∈ sf_tb ∧ (y.cls ≠ "java/lang/invoke/MethodHandle" ∧ y.cls ≠ "java/lang/invoke/VarHandle" ∧ (parseMethodDescriptor y.desc).map (fun d => d.parameters.length) = some n)
section SFD
variable {R : Room} {s : State} {args : Array Value} {own : String} {index nL n fr lo : Nat} {y : MethodName} {b : ByteArray} {ret : Option FieldType} {Ts : List Cond}
theorem sf_goodIn (hT : ∀ w ∈ sf_tb, w ∈ Ts) (h : Cond.code y b nL ret ∈ sf_tb) : GoodIn Ts (sf_ws y b nL ret) := by
  intro w hw
  rcases List.mem_cons.mp hw with rfl | hw
  · exact ⟨hT _ h, sf_tb_good _ h⟩
  · exact ⟨hT _ hw, sf_tb_good _ hw⟩
theorem sf_cwV (h : sf_LV own index y b nL ret n) (ht : ∀ w ∈ Ts, w.before args s = true) (hT : ∀ w ∈ sf_tb, w ∈ Ts) (hR : fr + 1 ≤ R.frames ∧ 8 + (nL + 11) + lo ≤ R.locals) :
    CallW R s args own y.cls index y b nL ret (sf_ws y b nL ret) ({ frames := fr, cells := 0, slots := 0, locals := lo }) 0 0 n := by
  obtain ⟨h1, h2, h3, h4, h5, h6⟩ := h
  exact ⟨callB_of n ht (sf_goodIn hT h1) rfl rfl rfl (ht _ (hT _ h5)) (ht _ (hT _ h2)) h6 hR, ht _ (hT _ h3), ht _ (hT _ h4)⟩
theorem sf_cwS (h : sf_LS own index y b nL ret n) (ht : ∀ w ∈ Ts, w.before args s = true) (hT : ∀ w ∈ sf_tb, w ∈ Ts) (hR : fr + 1 ≤ R.frames ∧ 8 + (nL + 11) + lo ≤ R.locals) :
    CallB R s args own index y b nL ret (sf_ws y b nL ret) ({ frames := fr, cells := 0, slots := 0, locals := lo }) 0 0 n ∧ (Cond.static y).before args s = true := by
  obtain ⟨h1, h2, h3, h5, h6⟩ := h
  exact ⟨callB_of n ht (sf_goodIn hT h1) rfl rfl rfl (ht _ (hT _ h5)) (ht _ (hT _ h2)) h6 hR, ht _ (hT _ h3)⟩
end SFD
theorem sf_in {x : Int32} {n : Nat} (h1 : ¬ x < 0) (h2 : ¬ nI n ≤ x) (hn : n < 2 ^ 31) : vp_in x n := by
  rcases pk_ix x hn with h | h | ⟨j, hj, rfl⟩
  · exact absurd h h1
  · exact absurd h h2
  · exact vp_in_nI hj hn
theorem sf_b0 : narrow .boolean (.int 0) = .int 0 := by decide +kernel
theorem sf_b1 : narrow .boolean (.int 1) = .int 1 := by decide +kernel
def sf_ushr (x y : Int32) : Int32 := (x.toUInt32 >>> (y.toUInt32 &&& Int32.toUInt32 31)).toInt32
def sf_lushr (x : Int64) (y : Int32) : Int64 := (x.toUInt64 >>> (y.toInt64.toUInt64 &&& Int64.toUInt64 63)).toInt64
theorem sf_nz0 : vp_nar .boolean 0 = 0 := by decide +kernel
theorem sf_nz1 : vp_nar .boolean 1 = 1 := by decide +kernel
theorem sf_bp0 : narrow .boolean (.int 0) = .int 0 ∧ fits .boolean (.int 0) = true := by decide +kernel
theorem sf_bp1 : narrow .boolean (.int 1) = .int 1 ∧ fits .boolean (.int 1) = true := by decide +kernel
theorem sf_lt_of {N k : Nat} (hN : N < 2 ^ 31) (hk : k < 2 ^ 31) (h : ¬ nI N ≤ nI k) : k < N := by
  rcases Nat.lt_or_ge k N with q | q
  · exact q
  · exact absurd (nI_le q hk) h
theorem sf_sumin {x : Int32} {n N k : Nat} (h1 : ¬ x < 0) (h2 : x ≤ nI n - nI N) (hN : N ≤ n) (hn : n < 2 ^ 31) (hk : k < N) : vp_in (x + nI k) n := by
  obtain ⟨j, hj, rfl⟩ := nI_of h1
  rw [pk_sub hN] at h2
  have h3 := (nI_leI hj (by omega)).mp h2
  rw [nI_add]
  exact vp_in_nI (by omega) hn
theorem sf_m4 (N : Nat) : nI (N + 4) - 4 = nI N := by
  have h : nI (N + 4) - nI 4 = nI (N + 4 - 4) := pk_sub (by omega)
  exact h
theorem sf_clt (x : Int32) : x.toNatClampNeg < 2 ^ 31 := by
  by_cases h : x < 0
  · have h1 : x.toInt < 0 := by simpa [Int32.lt_iff_toInt_lt] using h
    have h2 : x.toNatClampNeg = x.toInt.toNat := rfl
    omega
  · obtain ⟨j, hj, rfl⟩ := nI_of h
    rw [nI_clamp hj]; exact hj
theorem sf_ltc {x : Int32} {k : Nat} (hk : k ≤ x.toNatClampNeg) (h : ¬ x ≤ nI k) : k < x.toNatClampNeg := by
  have hb := sf_clt x
  by_cases h0 : x < 0
  · refine absurd ?_ h
    have h1 : x.toInt < 0 := by simpa [Int32.lt_iff_toInt_lt] using h0
    rw [Int32.le_iff_toInt_le, nI_toInt (by omega)]
    omega
  · obtain ⟨j, hj, rfl⟩ := nI_of h0
    rw [nI_clamp hj] at hk ⊢
    exact sf_lt_of hj (by omega) h
theorem sf_nb {x : Int32} (h : x = 0 ∨ x = 1) : narrow .boolean (.int x) = .int x := by
  rcases h with rfl | rfl
  · exact sf_b0
  · exact sf_b1
section SFE
variable {S : Type} {p : Program} {l : Launch} {e : Env} {R : Room} {s : State} {m : MethodId} {args : Array Value} {below : List Frame} {meth : Method} {c : Code} {H : Heap} {locs : List Loc} {D : va_G} {cl : List vw_C} {A : Nat → Prop} {ov : S → Option Value} {post : S → Prop} {w1 : S → va_W} {cc : ByteArray}
theorem sf_aret (u : S) {v : Nat} {C : String} (hexec : p.tables.exec = Jvm.exec) (hb : c.code = cc) (hr : meth.sig.returnType = some (.object C)) (hlocks : meth.locks = false) (hS : va_S A s.heap H locs) (ho : ov u = some (.ref v)) (hp : post u) (hP : va_P D cl (w1 u) H)
    {pc : Nat} {ls : Array Slot} (hdg : decode cc pc = .ok (.areturn, 1)) : W p l e R s m args below meth c H locs 0 0 (sf_Q s args below D cl A ov post w1) (F0 m pc ls [.ref v]) :=
  W.aret hexec hb hr (Or.inl ⟨C, rfl⟩) (Or.inr ⟨v, rfl⟩) (fun t ht _ => ⟨⟨u, by rw [ho], hp, by rw [ht]; exact hP⟩, hS.F ht⟩) hS.2.2 hdg hlocks
end SFE
section SFF
variable {S : Type} {p : Program} {l : Launch} {e : Env} {R : Room} {s : State} {m : MethodId} {args : Array Value} {below : List Frame} {meth : Method} {c : Code} {H : Heap} {locs : List Loc} {cells slots : Nat} {Q : State → Prop} {D : va_G} {cl : List vw_C} {tys : List (ClassId × FieldType)} {W0 wc : va_W} {A : Nat → Prop} {H0 : Heap} {ov : S → Option Value} {post : S → Prop} {w1 : S → va_W} {cc bytes : ByteArray}
  {pc nL maxL n index fr lo : Nat} {ls : Array Slot} {own C : String} {y : MethodName} {ret : Option FieldType} {ws Ts : List Cond} {As rest st0 : List Value} {b : Addr}
/-- behind a call that leaves its cells as they were: the whole world stands -/
theorem sf_joinr {D : va_G} {cl : List vw_C} {W0 wc : va_W} {H H1 : Heap} {A0 : Nat → Prop} (hP : va_P D cl W0 H) (hD : va_D A0 W0) (isC : List Nat) (hC : isC.map (fun i => W0[i]?) = wc.map some)
    (hk : ∀ q : Nat, q < H.size → ¬ va_A wc H.size q → H1[q]? = H[q]?) (hP1 : va_P D cl wc H1) : va_P D cl W0 H1 := by
  intro k q hq
  by_cases hin : ∃ (k2 : Nat) (e : va_E), wc[k2]? = some (q.1, e)
  · obtain ⟨k2, e, h⟩ := hin
    obtain ⟨i, -, h5⟩ := sf_map_at hC k2 (q.1, e) h
    have hki := hD.1 k i q (q.1, e) hq h5 rfl
    subst hki
    rw [hq] at h5
    have h6 : q = (q.1, e) := Option.some.inj h5
    rw [h6]
    exact hP1 k2 _ h
  · have hl := (hP k q hq).lt
    refine (hP k q hq).kept (hk q.1 hl (fun h => ?_))
    rcases h with h | h
    · exact hin h
    · omega
theorem sf_gor (hr : va_Run p l e R s m args below meth c H locs cells slots 0 0 (F0 m pc ls st0) rest (fun st o t => (∃ u : S, o = .returned (ov u) ∧ post u ∧ va_P D cl (w1 u) t.heap) ∧ va_F (va_A wc H.size) st t) (va_A wc H.size))
    (hP : va_P D cl W0 H) (hD : va_D A W0) (hS : va_S A H0 H locs) (hA : ∀ q : Nat, H0.size ≤ q → A q) (isC : List Nat) (hC : isC.map (fun i => W0[i]?) = wc.map some) (hw : ∀ u, w1 u = wc)
    (kk : ∀ (u : S) (H1 : Heap) (locs1 : List Loc), post u → va_P D cl W0 H1 → va_S A H0 H1 locs1 → W p l e R s m args below meth c H1 locs1 cells slots Q (F0 m (pc + 3) ls ((ov u).toList ++ rest))) : W p l e R s m args below meth c H locs cells slots Q (F0 m pc ls st0) := by
  intro T hT X
  have hF := va_free (wc := wc) hD hS hA isC hC
  obtain ⟨v, st₀, t, T', L, h0, X', hL, e1, e2, ⟨⟨u, hv, hp, hb⟩, hz, hk⟩, st⟩ := hr T hT X
  cases hv
  rw [h0] at hz hk
  rw [hw u] at hb
  have hP1 := sf_joinr hP hD isC hC hk hb
  obtain ⟨t2, a1, b1⟩ := kk u T'.heap (locs ++ L) hp (by rw [e1]; exact hP1)
    ⟨Nat.le_trans hS.1 (by rw [e1]; exact hz), fun q h1 h2 => by rw [e1, hk q (Nat.lt_of_lt_of_le h1 hS.1) (fun z => h2 (hF q z))]; exact hS.2.1 q h1 h2, fun q hq => by
      rcases List.mem_append.mp hq with h | h
      · exact hS.2.2 q h
      · exact hF _ (hL q h)⟩ T' rfl X'
  exact ⟨t2, st t2 a1, b1⟩
theorem sf_callVr (Sx : CallFix p m c cc nL s args Ts own) (hM : sf_M l D cl tys y ws fr lo (.ref b :: As) wc ov post w1) (cw : CallW R s args own C index y bytes maxL ret ws ({ frames := fr, cells := 0, slots := 0, locals := lo }) 0 0 n)
    (hK : va_K D cl tys s) (hP : va_P D cl W0 H) (hD : va_D A W0) (hS : va_S A H0 H locs) (hA : ∀ q : Nat, H0.size ≤ q → A q) (isC : List Nat) (hC : isC.map (fun i => W0[i]?) = wc.map some) (hnd : va_nd isC = true) (hw : ∀ u, w1 u = wc)
    {ci q0 : Nat} {fs : List Value} {qc : vw_C} (hcl : cl[ci]? = some qc) (hqc : qc.1 = C) (hq0 : wc[q0]? = some (b, .inr (ci, fs))) (hst : st0 = As.reverse ++ .ref b :: rest) (hn : As.length = n) (hsize : ls.size = nL) (hW : (rest.map fun v => v.category).sum ≤ 8) (hdg : decode cc pc = .ok (.invokevirtual index, 3)) (hf : cells ≤ R.cells ∧ slots ≤ R.slots)
    (kk : ∀ (u : S) (H1 : Heap) (locs1 : List Loc), post u → va_P D cl W0 H1 → va_S A H0 H1 locs1 → W p l e R s m args below meth c H1 locs1 cells slots Q (F0 m (pc + 3) ls ((ov u).toList ++ rest))) : W p l e R s m args below meth c H locs cells slots Q (F0 m pc ls st0) := by
  have hPc : va_P D cl wc H := fun k q hq => by
    obtain ⟨i, -, hi⟩ := sf_map_at hC k q hq
    exact hP i q hi
  have hDc : va_D (fun _ => True) wc := (hD.sub isC hnd hC).weaken (fun _ _ _ _ => trivial)
  have hrc : ∃ cellB : Cell, H[b]? = some cellB ∧ cellB.vm.isStatics = false ∧ s.vm.findClass C = some cellB.cls := by
    subst hqc
    exact va_recv hK hPc hcl hq0
  exact sf_gor (va_runV (As := As) (rest := rest) (b := b) Sx (hM H.size) cw ⟨sf_blind, hrc, fun U hU hW => ⟨rfl, by rw [hU], by rw [hU]; exact hPc, va_K.moved hW.alike hK, hDc⟩⟩ rfl hn hsize hst (lv_room hW) hdg ⟨hf.1, hf.2⟩) hP hD hS hA isC hC hw kk
theorem sf_callSr (Sx : CallFix p m c cc nL s args Ts own) (hM : sf_M l D cl tys y ws fr lo As wc ov post w1) (cw : CallB R s args own index y bytes maxL ret ws ({ frames := fr, cells := 0, slots := 0, locals := lo }) 0 0 n ∧ (Cond.static y).before args s = true)
    (hK : va_K D cl tys s) (hP : va_P D cl W0 H) (hD : va_D A W0) (hS : va_S A H0 H locs) (hA : ∀ q : Nat, H0.size ≤ q → A q) (isC : List Nat) (hC : isC.map (fun i => W0[i]?) = wc.map some) (hnd : va_nd isC = true) (hw : ∀ u, w1 u = wc)
    (hst : st0 = As.reverse ++ rest) (hn : As.length = n) (hsize : ls.size = nL) (hW : (rest.map fun v => v.category).sum ≤ 8) (hdg : decode cc pc = .ok (.invokestatic index, 3)) (hf : cells ≤ R.cells ∧ slots ≤ R.slots)
    (kk : ∀ (u : S) (H1 : Heap) (locs1 : List Loc), post u → va_P D cl W0 H1 → va_S A H0 H1 locs1 → W p l e R s m args below meth c H1 locs1 cells slots Q (F0 m (pc + 3) ls ((ov u).toList ++ rest))) : W p l e R s m args below meth c H locs cells slots Q (F0 m pc ls st0) := by
  have hPc : va_P D cl wc H := fun k q hq => by
    obtain ⟨i, -, hi⟩ := sf_map_at hC k q hq
    exact hP i q hi
  have hDc : va_D (fun _ => True) wc := (hD.sub isC hnd hC).weaken (fun _ _ _ _ => trivial)
  exact sf_gor (va_runS (As := As) (rest := rest) Sx (hM H.size) cw ⟨sf_blind, fun U hU hW => ⟨rfl, by rw [hU], by rw [hU]; exact hPc, va_K.moved hW.alike hK, hDc⟩⟩ rfl hn hsize hst (lv_room hW) hdg ⟨hf.1, hf.2⟩) hP hD hS hA isC hC hw kk
theorem sf_dsame {A0 : Nat → Prop} {w w' : va_W} (hD : va_D A0 w) (h : w'.map Prod.fst = w.map Prod.fst) : va_D A0 w' := by
  have hold : ∀ (k : Nat) (q : Nat × va_E), w'[k]? = some q → ∃ e, w[k]? = some (q.1, e) := by
    intro k q hq
    have h1 : (w'.map Prod.fst)[k]? = some q.1 := by rw [List.getElem?_map, hq]; rfl
    rw [h, List.getElem?_map] at h1
    cases hw : w[k]? with
    | none => rw [hw] at h1; simp at h1
    | some r =>
      rw [hw] at h1
      simp at h1
      exact ⟨r.2, by rw [← h1]⟩
  refine ⟨fun i j x y hx hy hxy => ?_, fun k q hq => ?_⟩
  · obtain ⟨e1, h1⟩ := hold i x hx
    obtain ⟨e2, h2⟩ := hold j y hy
    exact hD.1 i j _ _ h1 h2 hxy
  · obtain ⟨e1, h1⟩ := hold k q hq
    exact hD.2 k (q.1, e1) h1
/-- a call whose cells are the caller's whole world -/
theorem sf_callVw (Sx : CallFix p m c cc nL s args Ts own) (hM : sf_M l D cl tys y ws fr lo (.ref b :: As) W0 ov post w1) (cw : CallW R s args own C index y bytes maxL ret ws ({ frames := fr, cells := 0, slots := 0, locals := lo }) 0 0 n)
    (hK : va_K D cl tys s) (hP : va_P D cl W0 H) (hD : va_D A W0) (hS : va_S A H0 H locs) (hA : ∀ q : Nat, H0.size ≤ q → A q) (hfst : ∀ u, (w1 u).map Prod.fst = W0.map Prod.fst)
    {ci q0 : Nat} {fs : List Value} {qc : vw_C} (hcl : cl[ci]? = some qc) (hqc : qc.1 = C) (hq0 : W0[q0]? = some (b, .inr (ci, fs))) (hst : st0 = As.reverse ++ .ref b :: rest) (hn : As.length = n) (hsize : ls.size = nL) (hW : (rest.map fun v => v.category).sum ≤ 8) (hdg : decode cc pc = .ok (.invokevirtual index, 3)) (hf : cells ≤ R.cells ∧ slots ≤ R.slots)
    (kk : ∀ (u : S) (H1 : Heap) (locs1 : List Loc), post u → va_P D cl (w1 u) H1 → va_D A (w1 u) → va_S A H0 H1 locs1 → W p l e R s m args below meth c H1 locs1 cells slots Q (F0 m (pc + 3) ls ((ov u).toList ++ rest))) : W p l e R s m args below meth c H locs cells slots Q (F0 m pc ls st0) := by
  have hDc : va_D (fun _ => True) W0 := hD.weaken (fun _ _ _ _ => trivial)
  have hrc : ∃ cellB : Cell, H[b]? = some cellB ∧ cellB.vm.isStatics = false ∧ s.vm.findClass C = some cellB.cls := by
    subst hqc
    exact va_recv hK hP hcl hq0
  have hr := va_runV (As := As) (rest := rest) (b := b) (g := F0 m pc ls st0) (locs := locs) (cells := cells) (slots := slots) (R := R) (e := e) (below := below) (meth := meth) Sx (hM H.size) cw ⟨sf_blind, hrc, fun U hU hW => ⟨rfl, by rw [hU], by rw [hU]; exact hP, va_K.moved hW.alike hK, hDc⟩⟩ rfl hn hsize hst (lv_room hW) hdg ⟨hf.1, hf.2⟩
  have hF : ∀ q, va_A W0 H.size q → A q := fun q h => by
    rcases h with ⟨k, e, h⟩ | h
    · exact hD.2 k (q, e) h
    · exact hA q (Nat.le_trans hS.1 h)
  intro T hT X
  obtain ⟨v, st₀, t, T', L, h0, X', hL, e1, e2, ⟨⟨u, hv, hp, hb⟩, hz, hk⟩, st⟩ := hr T hT X
  cases hv
  rw [h0] at hz hk
  obtain ⟨t2, a1, b1⟩ := kk u T'.heap (locs ++ L) hp (by rw [e1]; exact hb) (sf_dsame hD (hfst u))
    ⟨Nat.le_trans hS.1 (by rw [e1]; exact hz), fun q h1 h2 => by rw [e1, hk q (Nat.lt_of_lt_of_le h1 hS.1) (fun z => h2 (hF q z))]; exact hS.2.1 q h1 h2, fun q hq => by
      rcases List.mem_append.mp hq with h | h
      · exact hS.2.2 q h
      · exact hF _ (hL q h)⟩ T' rfl X'
  exact ⟨t2, st t2 a1, b1⟩
end SFF
theorem sf_three {x : Int32} (h1 : ¬ x < 0) (h2 : ¬ 2 < x) : x = 0 ∨ x = 1 ∨ x = 2 := by
  obtain ⟨j, hj, rfl⟩ := nI_of h1
  have h3 : ¬ nI 2 < nI j := h2
  rw [nI_ltI (by omega) hj] at h3
  rcases (show j = 0 ∨ j = 1 ∨ j = 2 by omega) with rfl | rfl | rfl
  · exact Or.inl rfl
  · exact Or.inr (Or.inl rfl)
  · exact Or.inr (Or.inr rfl)
end
section
/-! NAMES: classes, fields, methods (printed by wip/gen/mk.py) -/
def R_Bl : String := "ShadowFiles$Blocks"
def F_Bl : u_T := fun k => match k with
  | 0 => ("ShadowFiles$Blocks", "cells", "[I", true)
  | _ => ("ShadowFiles$Blocks", "size", "I", true)
def t_Bl : Nat → FieldType := fun k => match k with
  | 0 => .array .int
  | _ => .int
theorem n_Bl : ∀ a, a < 2 → ∀ b, b < 2 → a ≠ b → (F_Bl a).2.1 ≠ (F_Bl b).2.1 := by decide +kernel
theorem t_Bl_ok : ∀ k, k < 2 → parseFieldDescriptor (F_Bl k).2.2.1 = some (t_Bl k) := by decide +kernel
set_option maxRecDepth 20000 in
theorem i_Bl : ∀ w ∈ u_ws R_Bl F_Bl 2, w ∈ sf_tb := show ∀ w ∈ ([Cond.laysFinal R_Bl "ShadowFiles$Blocks" "cells" "[I", Cond.laysFinal R_Bl "ShadowFiles$Blocks" "size" "I"] : List Cond), w ∈ sf_tb from List.forall_mem_cons.mpr ⟨sf_tb_in 80 rfl rfl, List.forall_mem_cons.mpr ⟨sf_tb_in 82 rfl rfl, fun _ h => absurd h List.not_mem_nil⟩⟩
def R_Ch : String := "ShadowFiles$Chain"
def F_Ch : u_T := fun k => match k with
  | 0 => ("ShadowFiles$Chain", "places", "[I", true)
  | 1 => ("ShadowFiles$Chain", "count", "I", false)
  | 2 => ("ShadowFiles$Chain", "broken", "Z", false)
  | 3 => ("ShadowFiles$Chain", "held", "I", false)
  | _ => ("ShadowFiles$Chain", "month", "I", false)
def t_Ch : Nat → FieldType := fun k => match k with
  | 0 => .array .int
  | 1 => .int
  | 2 => .boolean
  | 3 => .int
  | _ => .int
theorem n_Ch : ∀ a, a < 5 → ∀ b, b < 5 → a ≠ b → (F_Ch a).2.1 ≠ (F_Ch b).2.1 := by decide +kernel
theorem t_Ch_ok : ∀ k, k < 5 → parseFieldDescriptor (F_Ch k).2.2.1 = some (t_Ch k) := by decide +kernel
set_option maxRecDepth 20000 in
theorem i_Ch : ∀ w ∈ u_ws R_Ch F_Ch 5, w ∈ sf_tb := show ∀ w ∈ ([Cond.laysFinal R_Ch "ShadowFiles$Chain" "places" "[I", Cond.lays R_Ch "ShadowFiles$Chain" "count" "I", Cond.lays R_Ch "ShadowFiles$Chain" "broken" "Z", Cond.lays R_Ch "ShadowFiles$Chain" "held" "I", Cond.lays R_Ch "ShadowFiles$Chain" "month" "I"] : List Cond), w ∈ sf_tb from List.forall_mem_cons.mpr ⟨sf_tb_in 98 rfl rfl, List.forall_mem_cons.mpr ⟨sf_tb_in 100 rfl rfl, List.forall_mem_cons.mpr ⟨sf_tb_in 102 rfl rfl, List.forall_mem_cons.mpr ⟨sf_tb_in 104 rfl rfl, List.forall_mem_cons.mpr ⟨sf_tb_in 106 rfl rfl, fun _ h => absurd h List.not_mem_nil⟩⟩⟩⟩⟩
def R_SF : String := "ShadowFiles"
def F_SF : u_T := fun k => match k with
  | 0 => ("ShadowFiles", "file", "LShadowFiles$Blocks;", true)
  | 1 => ("ShadowFiles", "slowFile", "LShadowFiles$Blocks;", true)
  | 2 => ("ShadowFiles", "tables", "LShadowFiles$Blocks;", true)
  | 3 => ("ShadowFiles", "nextPlace", "LShadowFiles$Blocks;", true)
  | 4 => ("ShadowFiles", "nextTable", "LShadowFiles$Blocks;", true)
  | 5 => ("ShadowFiles", "chain", "LShadowFiles$Chain;", true)
  | 6 => ("ShadowFiles", "markChain", "LShadowFiles$Chain;", true)
  | 7 => ("ShadowFiles", "used", "[Z", true)
  | 8 => ("ShadowFiles", "taken", "[I", true)
  | 9 => ("ShadowFiles", "tape", "[I", true)
  | 10 => ("ShadowFiles", "tapeLength", "I", false)
  | 11 => ("ShadowFiles", "cutBehind", "I", false)
  | 12 => ("ShadowFiles", "bytesLeft", "I", false)
  | 13 => ("ShadowFiles", "powerFails", "Z", false)
  | _ => ("ShadowFiles", "shut", "Z", false)
def t_SF : Nat → FieldType := fun k => match k with
  | 0 => .object "ShadowFiles$Blocks"
  | 1 => .object "ShadowFiles$Blocks"
  | 2 => .object "ShadowFiles$Blocks"
  | 3 => .object "ShadowFiles$Blocks"
  | 4 => .object "ShadowFiles$Blocks"
  | 5 => .object "ShadowFiles$Chain"
  | 6 => .object "ShadowFiles$Chain"
  | 7 => .array .boolean
  | 8 => .array .int
  | 9 => .array .int
  | 10 => .int
  | 11 => .int
  | 12 => .int
  | 13 => .boolean
  | _ => .boolean
theorem n_SF : ∀ a, a < 15 → ∀ b, b < 15 → a ≠ b → (F_SF a).2.1 ≠ (F_SF b).2.1 := by decide +kernel
theorem t_SF_ok : ∀ k, k < 15 → parseFieldDescriptor (F_SF k).2.2.1 = some (t_SF k) := by decide +kernel
set_option maxRecDepth 20000 in
theorem i_SF : ∀ w ∈ u_ws R_SF F_SF 15, w ∈ sf_tb := show ∀ w ∈ ([Cond.laysFinal R_SF "ShadowFiles" "file" "LShadowFiles$Blocks;", Cond.laysFinal R_SF "ShadowFiles" "slowFile" "LShadowFiles$Blocks;", Cond.laysFinal R_SF "ShadowFiles" "tables" "LShadowFiles$Blocks;", Cond.laysFinal R_SF "ShadowFiles" "nextPlace" "LShadowFiles$Blocks;", Cond.laysFinal R_SF "ShadowFiles" "nextTable" "LShadowFiles$Blocks;", Cond.laysFinal R_SF "ShadowFiles" "chain" "LShadowFiles$Chain;", Cond.laysFinal R_SF "ShadowFiles" "markChain" "LShadowFiles$Chain;", Cond.laysFinal R_SF "ShadowFiles" "used" "[Z", Cond.laysFinal R_SF "ShadowFiles" "taken" "[I", Cond.laysFinal R_SF "ShadowFiles" "tape" "[I", Cond.lays R_SF "ShadowFiles" "tapeLength" "I", Cond.lays R_SF "ShadowFiles" "cutBehind" "I", Cond.lays R_SF "ShadowFiles" "bytesLeft" "I", Cond.lays R_SF "ShadowFiles" "powerFails" "Z", Cond.lays R_SF "ShadowFiles" "shut" "Z"] : List Cond), w ∈ sf_tb from List.forall_mem_cons.mpr ⟨sf_tb_in 124 rfl rfl, List.forall_mem_cons.mpr ⟨sf_tb_in 126 rfl rfl, List.forall_mem_cons.mpr ⟨sf_tb_in 128 rfl rfl, List.forall_mem_cons.mpr ⟨sf_tb_in 130 rfl rfl, List.forall_mem_cons.mpr ⟨sf_tb_in 132 rfl rfl, List.forall_mem_cons.mpr ⟨sf_tb_in 134 rfl rfl, List.forall_mem_cons.mpr ⟨sf_tb_in 136 rfl rfl, List.forall_mem_cons.mpr ⟨sf_tb_in 138 rfl rfl, List.forall_mem_cons.mpr ⟨sf_tb_in 140 rfl rfl, List.forall_mem_cons.mpr ⟨sf_tb_in 142 rfl rfl, List.forall_mem_cons.mpr ⟨sf_tb_in 144 rfl rfl, List.forall_mem_cons.mpr ⟨sf_tb_in 146 rfl rfl, List.forall_mem_cons.mpr ⟨sf_tb_in 148 rfl rfl, List.forall_mem_cons.mpr ⟨sf_tb_in 150 rfl rfl, List.forall_mem_cons.mpr ⟨sf_tb_in 152 rfl rfl, fun _ h => absurd h List.not_mem_nil⟩⟩⟩⟩⟩⟩⟩⟩⟩⟩⟩⟩⟩⟩⟩
def R_MD : String := "ShadowFilesModel"
def F_MD : u_T := fun k => match k with
  | 0 => ("ShadowFilesModel", "thrown", "I", false)
  | 1 => ("ShadowFilesModel", "bytes", "[I", true)
  | 2 => ("ShadowFilesModel", "shut", "Z", false)
  | 3 => ("ShadowFilesModel", "cut", "I", false)
  | 4 => ("ShadowFilesModel", "tape", "[I", true)
  | 5 => ("ShadowFilesModel", "taped", "I", false)
  | 6 => ("ShadowFilesModel", "path", "[I", true)
  | 7 => ("ShadowFilesModel", "steps", "I", false)
  | 8 => ("ShadowFilesModel", "whole", "Z", false)
  | 9 => ("ShadowFilesModel", "held", "[I", true)
  | 10 => ("ShadowFilesModel", "holds", "I", false)
  | 11 => ("ShadowFilesModel", "taken", "[Z", true)
  | 12 => ("ShadowFilesModel", "to", "[I", true)
  | 13 => ("ShadowFilesModel", "what", "[I", true)
  | _ => ("ShadowFilesModel", "many", "I", false)
def t_MD : Nat → FieldType := fun k => match k with
  | 0 => .int
  | 1 => .array .int
  | 2 => .boolean
  | 3 => .int
  | 4 => .array .int
  | 5 => .int
  | 6 => .array .int
  | 7 => .int
  | 8 => .boolean
  | 9 => .array .int
  | 10 => .int
  | 11 => .array .boolean
  | 12 => .array .int
  | 13 => .array .int
  | _ => .int
theorem n_MD : ∀ a, a < 15 → ∀ b, b < 15 → a ≠ b → (F_MD a).2.1 ≠ (F_MD b).2.1 := by decide +kernel
theorem t_MD_ok : ∀ k, k < 15 → parseFieldDescriptor (F_MD k).2.2.1 = some (t_MD k) := by decide +kernel
set_option maxRecDepth 20000 in
theorem i_MD : ∀ w ∈ u_ws R_MD F_MD 15, w ∈ sf_tb := show ∀ w ∈ ([Cond.lays R_MD "ShadowFilesModel" "thrown" "I", Cond.laysFinal R_MD "ShadowFilesModel" "bytes" "[I", Cond.lays R_MD "ShadowFilesModel" "shut" "Z", Cond.lays R_MD "ShadowFilesModel" "cut" "I", Cond.laysFinal R_MD "ShadowFilesModel" "tape" "[I", Cond.lays R_MD "ShadowFilesModel" "taped" "I", Cond.laysFinal R_MD "ShadowFilesModel" "path" "[I", Cond.lays R_MD "ShadowFilesModel" "steps" "I", Cond.lays R_MD "ShadowFilesModel" "whole" "Z", Cond.laysFinal R_MD "ShadowFilesModel" "held" "[I", Cond.lays R_MD "ShadowFilesModel" "holds" "I", Cond.laysFinal R_MD "ShadowFilesModel" "taken" "[Z", Cond.laysFinal R_MD "ShadowFilesModel" "to" "[I", Cond.laysFinal R_MD "ShadowFilesModel" "what" "[I", Cond.lays R_MD "ShadowFilesModel" "many" "I"] : List Cond), w ∈ sf_tb from List.forall_mem_cons.mpr ⟨sf_tb_in 585 rfl rfl, List.forall_mem_cons.mpr ⟨sf_tb_in 587 rfl rfl, List.forall_mem_cons.mpr ⟨sf_tb_in 589 rfl rfl, List.forall_mem_cons.mpr ⟨sf_tb_in 591 rfl rfl, List.forall_mem_cons.mpr ⟨sf_tb_in 593 rfl rfl, List.forall_mem_cons.mpr ⟨sf_tb_in 595 rfl rfl, List.forall_mem_cons.mpr ⟨sf_tb_in 597 rfl rfl, List.forall_mem_cons.mpr ⟨sf_tb_in 599 rfl rfl, List.forall_mem_cons.mpr ⟨sf_tb_in 601 rfl rfl, List.forall_mem_cons.mpr ⟨sf_tb_in 603 rfl rfl, List.forall_mem_cons.mpr ⟨sf_tb_in 605 rfl rfl, List.forall_mem_cons.mpr ⟨sf_tb_in 607 rfl rfl, List.forall_mem_cons.mpr ⟨sf_tb_in 609 rfl rfl, List.forall_mem_cons.mpr ⟨sf_tb_in 611 rfl rfl, List.forall_mem_cons.mpr ⟨sf_tb_in 613 rfl rfl, fun _ h => absurd h List.not_mem_nil⟩⟩⟩⟩⟩⟩⟩⟩⟩⟩⟩⟩⟩⟩⟩
def R_LW : String := "ShadowFilesLaw"
/-- the classes whose objects the worlds hold -/
abbrev classes : List vw_C := [(R_Bl, F_Bl, 2), (R_Ch, F_Ch, 5), (R_SF, F_SF, 15), (R_MD, F_MD, 15)]
/-- the array classes: of ints, booleans, longs -/
abbrev sf_tys (cI cZ cJ : ClassId) : List (ClassId × FieldType) := [(cI, .int), (cZ, .boolean), (cJ, .long)]
abbrev b_SF_init : ByteArray := prog_1_method_1_code
def y_SF_init : MethodName := ⟨R_SF, "<init>", "()V"⟩
abbrev b_SF_feed : ByteArray := prog_1_method_2_code
def y_SF_feed : MethodName := ⟨R_SF, "feed", "(JI)I"⟩
abbrev b_SF_write : ByteArray := prog_1_method_3_code
def y_SF_write : MethodName := ⟨R_SF, "write", "(II)I"⟩
abbrev b_SF_remove : ByteArray := prog_1_method_4_code
def y_SF_remove : MethodName := ⟨R_SF, "remove", "(I)I"⟩
abbrev b_SF_move : ByteArray := prog_1_method_5_code
def y_SF_move : MethodName := ⟨R_SF, "move", "(I)I"⟩
abbrev b_SF_cut : ByteArray := prog_1_method_6_code
def y_SF_cut : MethodName := ⟨R_SF, "cut", "(I)V"⟩
abbrev b_SF_open : ByteArray := prog_1_method_7_code
def y_SF_open : MethodName := ⟨R_SF, "open", "()I"⟩
abbrev b_SF_row : ByteArray := prog_1_method_8_code
def y_SF_row : MethodName := ⟨R_SF, "row", "(II)I"⟩
abbrev b_SF_at : ByteArray := prog_1_method_9_code
def y_SF_at : MethodName := ⟨R_SF, "at", "(II)I"⟩
abbrev b_SF_told : ByteArray := prog_1_method_10_code
def y_SF_told : MethodName := ⟨R_SF, "told", "(I)I"⟩
abbrev b_SF_wrong : ByteArray := prog_1_method_11_code
def y_SF_wrong : MethodName := ⟨R_SF, "wrong", "(II)I"⟩
abbrev b_SF_byteAt : ByteArray := prog_1_method_12_code
def y_SF_byteAt : MethodName := ⟨R_SF, "byteAt", "(II)I"⟩
abbrev b_SF_poke : ByteArray := prog_1_method_13_code
def y_SF_poke : MethodName := ⟨R_SF, "poke", "(III)V"⟩
abbrev b_SF_isRow : ByteArray := prog_1_method_14_code
def y_SF_isRow : MethodName := ⟨R_SF, "isRow", "(I)Z"⟩
abbrev b_SF_isMonth : ByteArray := prog_1_method_15_code
def y_SF_isMonth : MethodName := ⟨R_SF, "isMonth", "(I)Z"⟩
abbrev b_SF_partOf : ByteArray := prog_1_method_16_code
def y_SF_partOf : MethodName := ⟨R_SF, "partOf", "(I)LShadowFiles$Blocks;"⟩
abbrev b_SF_hasByte : ByteArray := prog_1_method_17_code
def y_SF_hasByte : MethodName := ⟨R_SF, "hasByte", "(II)Z"⟩
abbrev b_SF_placesOf : ByteArray := prog_1_method_18_code
def y_SF_placesOf : MethodName := ⟨R_SF, "placesOf", "(Z)LShadowFiles$Blocks;"⟩
abbrev b_SF_addToTape : ByteArray := prog_1_method_19_code
def y_SF_addToTape : MethodName := ⟨R_SF, "addToTape", "(I)V"⟩
abbrev b_SF_isGood : ByteArray := prog_1_method_20_code
def y_SF_isGood : MethodName := ⟨R_SF, "isGood", "(I)Z"⟩
abbrev b_SF_countingTable : ByteArray := prog_1_method_21_code
def y_SF_countingTable : MethodName := ⟨R_SF, "countingTable", "()I"⟩
abbrev b_SF_numberOf : ByteArray := prog_1_method_22_code
def y_SF_numberOf : MethodName := ⟨R_SF, "numberOf", "(I)I"⟩
abbrev b_SF_numberBehind : ByteArray := prog_1_method_23_code
def y_SF_numberBehind : MethodName := ⟨R_SF, "numberBehind", "(I)I"⟩
abbrev b_SF_firstOf : ByteArray := prog_1_method_24_code
def y_SF_firstOf : MethodName := ⟨R_SF, "firstOf", "(IIZ)I"⟩
abbrev b_SF_isThere : ByteArray := prog_1_method_25_code
def y_SF_isThere : MethodName := ⟨R_SF, "isThere", "(I)Z"⟩
abbrev b_SF_isSlow : ByteArray := prog_1_method_26_code
def y_SF_isSlow : MethodName := ⟨R_SF, "isSlow", "(I)Z"⟩
abbrev b_SF_followRow : ByteArray := prog_1_method_27_code
def y_SF_followRow : MethodName := ⟨R_SF, "followRow", "(I)V"⟩
abbrev b_SF_markUsed : ByteArray := prog_1_method_28_code
def y_SF_markUsed : MethodName := ⟨R_SF, "markUsed", "(Z)V"⟩
abbrev b_SF_markFollowed : ByteArray := prog_1_method_29_code
def y_SF_markFollowed : MethodName := ⟨R_SF, "markFollowed", "()V"⟩
abbrev b_SF_countPlaces : ByteArray := prog_1_method_30_code
def y_SF_countPlaces : MethodName := ⟨R_SF, "countPlaces", "(Z)I"⟩
abbrev b_SF_countFree : ByteArray := prog_1_method_31_code
def y_SF_countFree : MethodName := ⟨R_SF, "countFree", "(Z)I"⟩
abbrev b_SF_takePlaces : ByteArray := prog_1_method_32_code
def y_SF_takePlaces : MethodName := ⟨R_SF, "takePlaces", "(ZI)Z"⟩
abbrev b_SF_takenAt : ByteArray := prog_1_method_33_code
def y_SF_takenAt : MethodName := ⟨R_SF, "takenAt", "(I)I"⟩
abbrev b_SF_wrongPlace : ByteArray := prog_1_method_34_code
def y_SF_wrongPlace : MethodName := ⟨R_SF, "wrongPlace", "(ZI)I"⟩
abbrev b_SF_wrongTable : ByteArray := prog_1_method_35_code
def y_SF_wrongTable : MethodName := ⟨R_SF, "wrongTable", "(I)I"⟩
abbrev b_SF_beginWriting : ByteArray := prog_1_method_36_code
def y_SF_beginWriting : MethodName := ⟨R_SF, "beginWriting", "(I)V"⟩
abbrev b_SF_endWriting : ByteArray := prog_1_method_37_code
def y_SF_endWriting : MethodName := ⟨R_SF, "endWriting", "()Z"⟩
abbrev b_SF_putBlock : ByteArray := prog_1_method_38_code
def y_SF_putBlock : MethodName := ⟨R_SF, "putBlock", "(LShadowFiles$Blocks;LShadowFiles$Blocks;I)V"⟩
abbrev b_SF_setSum : ByteArray := prog_1_method_39_code
def y_SF_setSum : MethodName := ⟨R_SF, "setSum", "(LShadowFiles$Blocks;)V"⟩
abbrev b_SF_linkBehind : ByteArray := prog_1_method_40_code
def y_SF_linkBehind : MethodName := ⟨R_SF, "linkBehind", "(II)I"⟩
abbrev b_SF_preparePlaceFromTape : ByteArray := prog_1_method_41_code
def y_SF_preparePlaceFromTape : MethodName := ⟨R_SF, "preparePlaceFromTape", "(III)V"⟩
abbrev b_SF_tapeAt : ByteArray := prog_1_method_42_code
def y_SF_tapeAt : MethodName := ⟨R_SF, "tapeAt", "(I)I"⟩
abbrev b_SF_preparePlaceFromChain : ByteArray := prog_1_method_43_code
def y_SF_preparePlaceFromChain : MethodName := ⟨R_SF, "preparePlaceFromChain", "(I)V"⟩
abbrev b_SF_putPlace : ByteArray := prog_1_method_44_code
def y_SF_putPlace : MethodName := ⟨R_SF, "putPlace", "(LShadowFiles$Blocks;I)V"⟩
abbrev b_SF_putTable : ByteArray := prog_1_method_45_code
def y_SF_putTable : MethodName := ⟨R_SF, "putTable", "(III)V"⟩
abbrev b_SF_followToMove : ByteArray := prog_1_method_46_code
def y_SF_followToMove : MethodName := ⟨R_SF, "followToMove", "(II)Z"⟩
abbrev b_SF_moveFollowed : ByteArray := prog_1_method_47_code
def y_SF_moveFollowed : MethodName := ⟨R_SF, "moveFollowed", "(I)Z"⟩
abbrev b_MD_init : ByteArray := prog_5_method_1_code
def y_MD_init : MethodName := ⟨R_MD, "<init>", "()V"⟩
abbrev b_MD_thrown : ByteArray := prog_5_method_2_code
def y_MD_thrown : MethodName := ⟨R_MD, "thrown", "()I"⟩
abbrev b_MD_throwing : ByteArray := prog_5_method_3_code
def y_MD_throwing : MethodName := ⟨R_MD, "throwing", "(ZZZZ)Z"⟩
abbrev b_MD_in : ByteArray := prog_5_method_4_code
def y_MD_in : MethodName := ⟨R_MD, "in", "(III)Z"⟩
abbrev b_MD_stir : ByteArray := prog_5_method_5_code
def y_MD_stir : MethodName := ⟨R_MD, "stir", "(II)I"⟩
abbrev b_MD_isSummed : ByteArray := prog_5_method_6_code
def y_MD_isSummed : MethodName := ⟨R_MD, "isSummed", "(II)Z"⟩
abbrev b_MD_isGood : ByteArray := prog_5_method_7_code
def y_MD_isGood : MethodName := ⟨R_MD, "isGood", "(I)Z"⟩
abbrev b_MD_next : ByteArray := prog_5_method_8_code
def y_MD_next : MethodName := ⟨R_MD, "next", "(I)I"⟩
abbrev b_MD_counting : ByteArray := prog_5_method_9_code
def y_MD_counting : MethodName := ⟨R_MD, "counting", "()I"⟩
abbrev b_MD_entry : ByteArray := prog_5_method_10_code
def y_MD_entry : MethodName := ⟨R_MD, "entry", "(I)I"⟩
abbrev b_MD_isSlow : ByteArray := prog_5_method_11_code
def y_MD_isSlow : MethodName := ⟨R_MD, "isSlow", "(I)Z"⟩
abbrev b_MD_isThere : ByteArray := prog_5_method_12_code
def y_MD_isThere : MethodName := ⟨R_MD, "isThere", "(I)Z"⟩
abbrev b_MD_places : ByteArray := prog_5_method_13_code
def y_MD_places : MethodName := ⟨R_MD, "places", "(Z)I"⟩
abbrev b_MD_begin : ByteArray := prog_5_method_14_code
def y_MD_begin : MethodName := ⟨R_MD, "begin", "(ZI)I"⟩
abbrev b_MD_isThrough : ByteArray := prog_5_method_15_code
def y_MD_isThrough : MethodName := ⟨R_MD, "isThrough", "(I)Z"⟩
abbrev b_MD_go : ByteArray := prog_5_method_16_code
def y_MD_go : MethodName := ⟨R_MD, "go", "(I)V"⟩
abbrev b_MD_monthOf : ByteArray := prog_5_method_17_code
def y_MD_monthOf : MethodName := ⟨R_MD, "monthOf", "(I)I"⟩
abbrev b_MD_findTaken : ByteArray := prog_5_method_18_code
def y_MD_findTaken : MethodName := ⟨R_MD, "findTaken", "(Z)I"⟩
abbrev b_MD_put : ByteArray := prog_5_method_19_code
def y_MD_put : MethodName := ⟨R_MD, "put", "(II)V"⟩
abbrev b_MD_putSum : ByteArray := prog_5_method_20_code
def y_MD_putSum : MethodName := ⟨R_MD, "putSum", "(II)V"⟩
abbrev b_MD_freeFrom : ByteArray := prog_5_method_21_code
def y_MD_freeFrom : MethodName := ⟨R_MD, "freeFrom", "(I)I"⟩
abbrev b_MD_putChain : ByteArray := prog_5_method_22_code
def y_MD_putChain : MethodName := ⟨R_MD, "putChain", "(ZI)I"⟩
abbrev b_MD_putTable : ByteArray := prog_5_method_23_code
def y_MD_putTable : MethodName := ⟨R_MD, "putTable", "(III)V"⟩
abbrev b_MD_comes : ByteArray := prog_5_method_24_code
def y_MD_comes : MethodName := ⟨R_MD, "comes", "()Z"⟩
abbrev b_MD_feed : ByteArray := prog_5_method_25_code
def y_MD_feed : MethodName := ⟨R_MD, "feed", "(JI)I"⟩
abbrev b_MD_write : ByteArray := prog_5_method_26_code
def y_MD_write : MethodName := ⟨R_MD, "write", "(II)I"⟩
abbrev b_MD_remove : ByteArray := prog_5_method_27_code
def y_MD_remove : MethodName := ⟨R_MD, "remove", "(I)I"⟩
abbrev b_MD_move : ByteArray := prog_5_method_28_code
def y_MD_move : MethodName := ⟨R_MD, "move", "(I)I"⟩
abbrev b_MD_cut : ByteArray := prog_5_method_29_code
def y_MD_cut : MethodName := ⟨R_MD, "cut", "(I)V"⟩
abbrev b_MD_open : ByteArray := prog_5_method_30_code
def y_MD_open : MethodName := ⟨R_MD, "open", "()I"⟩
abbrev b_MD_row : ByteArray := prog_5_method_31_code
def y_MD_row : MethodName := ⟨R_MD, "row", "(II)I"⟩
abbrev b_MD_at : ByteArray := prog_5_method_32_code
def y_MD_at : MethodName := ⟨R_MD, "at", "(II)I"⟩
abbrev b_MD_told : ByteArray := prog_5_method_33_code
def y_MD_told : MethodName := ⟨R_MD, "told", "(I)I"⟩
abbrev b_MD_isWrong : ByteArray := prog_5_method_34_code
def y_MD_isWrong : MethodName := ⟨R_MD, "isWrong", "(II)Z"⟩
abbrev b_MD_wrong : ByteArray := prog_5_method_35_code
def y_MD_wrong : MethodName := ⟨R_MD, "wrong", "(II)I"⟩
abbrev b_MD_where : ByteArray := prog_5_method_36_code
def y_MD_where : MethodName := ⟨R_MD, "where", "(II)I"⟩
abbrev b_MD_byteAt : ByteArray := prog_5_method_37_code
def y_MD_byteAt : MethodName := ⟨R_MD, "byteAt", "(II)I"⟩
abbrev b_MD_poke : ByteArray := prog_5_method_38_code
def y_MD_poke : MethodName := ⟨R_MD, "poke", "(III)V"⟩
abbrev b_Bl_init : ByteArray := prog_2_method_1_code
def y_Bl_init : MethodName := ⟨R_Bl, "<init>", "([II)V"⟩
abbrev b_Bl_hasCell : ByteArray := prog_2_method_2_code
def y_Bl_hasCell : MethodName := ⟨R_Bl, "hasCell", "(I)Z"⟩
abbrev b_Bl_hasBlock : ByteArray := prog_2_method_3_code
def y_Bl_hasBlock : MethodName := ⟨R_Bl, "hasBlock", "(I)Z"⟩
abbrev b_Bl_get : ByteArray := prog_2_method_4_code
def y_Bl_get : MethodName := ⟨R_Bl, "get", "(II)I"⟩
abbrev b_Bl_set : ByteArray := prog_2_method_5_code
def y_Bl_set : MethodName := ⟨R_Bl, "set", "(III)V"⟩
abbrev b_Bl_sumOf : ByteArray := prog_2_method_6_code
def y_Bl_sumOf : MethodName := ⟨R_Bl, "sumOf", "(II)I"⟩
abbrev b_Bl_sumIsRight : ByteArray := prog_2_method_7_code
def y_Bl_sumIsRight : MethodName := ⟨R_Bl, "sumIsRight", "(I)Z"⟩
abbrev b_Ch_init : ByteArray := prog_3_method_1_code
def y_Ch_init : MethodName := ⟨R_Ch, "<init>", "()V"⟩
abbrev b_Ch_follow : ByteArray := prog_3_method_2_code
def y_Ch_follow : MethodName := ⟨R_Ch, "follow", "(LShadowFiles$Blocks;I)V"⟩
abbrev b_Ch_wentThrough : ByteArray := prog_3_method_3_code
def y_Ch_wentThrough : MethodName := ⟨R_Ch, "wentThrough", "(I)Z"⟩
abbrev b_Ch_isRight : ByteArray := prog_3_method_4_code
def y_Ch_isRight : MethodName := ⟨R_Ch, "isRight", "(LShadowFiles$Blocks;I)Z"⟩
abbrev b_Ch_placeAt : ByteArray := prog_3_method_5_code
def y_Ch_placeAt : MethodName := ⟨R_Ch, "placeAt", "(I)I"⟩
abbrev b_Ch_bytes : ByteArray := prog_3_method_6_code
def y_Ch_bytes : MethodName := ⟨R_Ch, "bytes", "()I"⟩
abbrev b_Ch_monthOrNone : ByteArray := prog_3_method_7_code
def y_Ch_monthOrNone : MethodName := ⟨R_Ch, "monthOrNone", "()I"⟩
abbrev b_Ch_dataAt : ByteArray := prog_3_method_8_code
def y_Ch_dataAt : MethodName := ⟨R_Ch, "dataAt", "(LShadowFiles$Blocks;I)I"⟩
abbrev b_LW_feed : ByteArray := method_3_code
def y_LW_feed : MethodName := ⟨R_LW, "feed", "(LShadowFiles;JI[J)I"⟩
abbrev b_LW_write : ByteArray := method_4_code
def y_LW_write : MethodName := ⟨R_LW, "write", "(LShadowFiles;II[J)I"⟩
abbrev b_LW_remove : ByteArray := method_5_code
def y_LW_remove : MethodName := ⟨R_LW, "remove", "(LShadowFiles;I[J)I"⟩
abbrev b_LW_move : ByteArray := method_6_code
def y_LW_move : MethodName := ⟨R_LW, "move", "(LShadowFiles;I[J)I"⟩
abbrev b_LW_cut : ByteArray := method_7_code
def y_LW_cut : MethodName := ⟨R_LW, "cut", "(LShadowFiles;I)I"⟩
abbrev b_LW_row : ByteArray := method_8_code
def y_LW_row : MethodName := ⟨R_LW, "row", "(LShadowFiles;II[J)I"⟩
abbrev b_LW_at : ByteArray := method_9_code
def y_LW_at : MethodName := ⟨R_LW, "at", "(LShadowFiles;II[J)I"⟩
abbrev b_LW_told : ByteArray := method_10_code
def y_LW_told : MethodName := ⟨R_LW, "told", "(LShadowFiles;I[J)I"⟩
abbrev b_LW_wrong : ByteArray := method_11_code
def y_LW_wrong : MethodName := ⟨R_LW, "wrong", "(LShadowFiles;II[J)I"⟩
abbrev b_LW_byteAt : ByteArray := method_12_code
def y_LW_byteAt : MethodName := ⟨R_LW, "byteAt", "(LShadowFiles;II[J)I"⟩
abbrev b_LW_poke : ByteArray := method_13_code
def y_LW_poke : MethodName := ⟨R_LW, "poke", "(LShadowFiles;III)I"⟩
end
section
/-! blocks: contracts, with the pure functions that they speak of (printed by wip/gen) -/
set_option maxRecDepth 20000 in
theorem wd_77 : Cond.fieldLink R_Bl 9 "ShadowFiles$Blocks" "cells" "[I" ∈ sf_tb := sf_tb_in 77 rfl rfl
set_option maxRecDepth 20000 in
theorem wd_78 : Cond.fieldLink R_Bl 15 "ShadowFiles$Blocks" "size" "I" ∈ sf_tb := sf_tb_in 78 rfl rfl
set_option maxRecDepth 20000 in
theorem wd_185 : Cond.constant R_Bl 23 (-1640531535) ∈ sf_tb := sf_tb_in 185 rfl rfl
set_option maxRecDepth 20000 in
theorem wd_364 : Cond.methodLink R_Bl 19 y_Bl_hasCell ∈ sf_tb := sf_tb_in 364 rfl rfl
set_option maxRecDepth 20000 in
theorem wd_367 : Cond.code y_Bl_hasCell b_Bl_hasCell 2 (some .boolean) ∈ sf_tb := sf_tb_in 367 rfl rfl
set_option maxRecDepth 20000 in
theorem wd_52 : Cond.initialized R_Bl ∈ sf_tb := sf_tb_in 52 rfl rfl
set_option maxRecDepth 20000 in
theorem wd_365 : Cond.instanceMethod y_Bl_hasCell ∈ sf_tb := sf_tb_in 365 rfl rfl
set_option maxRecDepth 20000 in
theorem wd_366 : Cond.selects R_Bl y_Bl_hasCell y_Bl_hasCell ∈ sf_tb := sf_tb_in 366 rfl rfl
set_option maxRecDepth 20000 in
theorem wd_180 : Cond.methodLink R_Bl 24 y_Bl_get ∈ sf_tb := sf_tb_in 180 rfl rfl
set_option maxRecDepth 20000 in
theorem wd_175 : Cond.code y_Bl_get b_Bl_get 4 (some .int) ∈ sf_tb := sf_tb_in 175 rfl rfl
set_option maxRecDepth 20000 in
theorem wd_173 : Cond.instanceMethod y_Bl_get ∈ sf_tb := sf_tb_in 173 rfl rfl
set_option maxRecDepth 20000 in
theorem wd_174 : Cond.selects R_Bl y_Bl_get y_Bl_get ∈ sf_tb := sf_tb_in 174 rfl rfl
set_option maxRecDepth 20000 in
theorem wd_181 : Cond.methodLink R_Bl 28 y_Bl_sumOf ∈ sf_tb := sf_tb_in 181 rfl rfl
set_option maxRecDepth 20000 in
theorem wd_184 : Cond.code y_Bl_sumOf b_Bl_sumOf 7 (some .int) ∈ sf_tb := sf_tb_in 184 rfl rfl
set_option maxRecDepth 20000 in
theorem wd_182 : Cond.instanceMethod y_Bl_sumOf ∈ sf_tb := sf_tb_in 182 rfl rfl
set_option maxRecDepth 20000 in
theorem wd_183 : Cond.selects R_Bl y_Bl_sumOf y_Bl_sumOf ∈ sf_tb := sf_tb_in 183 rfl rfl
theorem lk_Bl_19 : sf_LV R_Bl 19 y_Bl_hasCell b_Bl_hasCell 2 (some .boolean) 1 := ⟨wd_367, wd_364, wd_365, wd_366, wd_52, by decide +kernel⟩
theorem lk_Bl_24 : sf_LV R_Bl 24 y_Bl_get b_Bl_get 4 (some .int) 2 := ⟨wd_175, wd_180, wd_173, wd_174, wd_52, by decide +kernel⟩
theorem lk_Bl_28 : sf_LV R_Bl 28 y_Bl_sumOf b_Bl_sumOf 7 (some .int) 2 := ⟨wd_184, wd_181, wd_182, wd_183, wd_52, by decide +kernel⟩
theorem d_Bl_hasCell_0 : decode b_Bl_hasCell 0 = .ok (.iload_n 1, 1) := by decide +kernel
theorem d_Bl_hasCell_1 : decode b_Bl_hasCell 1 = .ok (.ifCond .lt 16, 3) := by decide +kernel
theorem d_Bl_hasCell_4 : decode b_Bl_hasCell 4 = .ok (.iload_n 1, 1) := by decide +kernel
theorem d_Bl_hasCell_5 : decode b_Bl_hasCell 5 = .ok (.aload_n 0, 1) := by decide +kernel
theorem d_Bl_hasCell_6 : decode b_Bl_hasCell 6 = .ok (.getfield 9, 3) := by decide +kernel
theorem d_Bl_hasCell_9 : decode b_Bl_hasCell 9 = .ok (.arraylength, 1) := by decide +kernel
theorem d_Bl_hasCell_10 : decode b_Bl_hasCell 10 = .ok (.if_icmp .ge 7, 3) := by decide +kernel
theorem d_Bl_hasCell_13 : decode b_Bl_hasCell 13 = .ok (.iconst 1, 1) := by decide +kernel
theorem d_Bl_hasCell_14 : decode b_Bl_hasCell 14 = .ok (.goto 4, 3) := by decide +kernel
theorem d_Bl_hasCell_17 : decode b_Bl_hasCell 17 = .ok (.iconst 0, 1) := by decide +kernel
theorem d_Bl_hasCell_18 : decode b_Bl_hasCell 18 = .ok (.ireturn, 1) := by decide +kernel
theorem d_Bl_hasBlock_0 : decode b_Bl_hasBlock 0 = .ok (.iload_n 1, 1) := by decide +kernel
theorem d_Bl_hasBlock_1 : decode b_Bl_hasBlock 1 = .ok (.ifCond .lt 36, 3) := by decide +kernel
theorem d_Bl_hasBlock_4 : decode b_Bl_hasBlock 4 = .ok (.iload_n 1, 1) := by decide +kernel
theorem d_Bl_hasBlock_5 : decode b_Bl_hasBlock 5 = .ok (.aload_n 0, 1) := by decide +kernel
theorem d_Bl_hasBlock_6 : decode b_Bl_hasBlock 6 = .ok (.getfield 9, 3) := by decide +kernel
theorem d_Bl_hasBlock_9 : decode b_Bl_hasBlock 9 = .ok (.arraylength, 1) := by decide +kernel
theorem d_Bl_hasBlock_10 : decode b_Bl_hasBlock 10 = .ok (.if_icmp .ge 27, 3) := by decide +kernel
theorem d_Bl_hasBlock_13 : decode b_Bl_hasBlock 13 = .ok (.aload_n 0, 1) := by decide +kernel
theorem d_Bl_hasBlock_14 : decode b_Bl_hasBlock 14 = .ok (.iload_n 1, 1) := by decide +kernel
theorem d_Bl_hasBlock_15 : decode b_Bl_hasBlock 15 = .ok (.aload_n 0, 1) := by decide +kernel
theorem d_Bl_hasBlock_16 : decode b_Bl_hasBlock 16 = .ok (.getfield 15, 3) := by decide +kernel
theorem d_Bl_hasBlock_19 : decode b_Bl_hasBlock 19 = .ok (.imul, 1) := by decide +kernel
theorem d_Bl_hasBlock_20 : decode b_Bl_hasBlock 20 = .ok (.aload_n 0, 1) := by decide +kernel
theorem d_Bl_hasBlock_21 : decode b_Bl_hasBlock 21 = .ok (.getfield 15, 3) := by decide +kernel
theorem d_Bl_hasBlock_24 : decode b_Bl_hasBlock 24 = .ok (.iadd, 1) := by decide +kernel
theorem d_Bl_hasBlock_25 : decode b_Bl_hasBlock 25 = .ok (.iconst 1, 1) := by decide +kernel
theorem d_Bl_hasBlock_26 : decode b_Bl_hasBlock 26 = .ok (.isub, 1) := by decide +kernel
theorem d_Bl_hasBlock_27 : decode b_Bl_hasBlock 27 = .ok (.invokevirtual 19, 3) := by decide +kernel
theorem d_Bl_hasBlock_30 : decode b_Bl_hasBlock 30 = .ok (.ifCond .eq 7, 3) := by decide +kernel
theorem d_Bl_hasBlock_33 : decode b_Bl_hasBlock 33 = .ok (.iconst 1, 1) := by decide +kernel
theorem d_Bl_hasBlock_34 : decode b_Bl_hasBlock 34 = .ok (.goto 4, 3) := by decide +kernel
theorem d_Bl_hasBlock_37 : decode b_Bl_hasBlock 37 = .ok (.iconst 0, 1) := by decide +kernel
theorem d_Bl_hasBlock_38 : decode b_Bl_hasBlock 38 = .ok (.ireturn, 1) := by decide +kernel
theorem d_Bl_get_0 : decode b_Bl_get 0 = .ok (.iload_n 1, 1) := by decide +kernel
theorem d_Bl_get_1 : decode b_Bl_get 1 = .ok (.aload_n 0, 1) := by decide +kernel
theorem d_Bl_get_2 : decode b_Bl_get 2 = .ok (.getfield 15, 3) := by decide +kernel
theorem d_Bl_get_5 : decode b_Bl_get 5 = .ok (.imul, 1) := by decide +kernel
theorem d_Bl_get_6 : decode b_Bl_get 6 = .ok (.iload_n 2, 1) := by decide +kernel
theorem d_Bl_get_7 : decode b_Bl_get 7 = .ok (.iadd, 1) := by decide +kernel
theorem d_Bl_get_8 : decode b_Bl_get 8 = .ok (.istore_n 3, 1) := by decide +kernel
theorem d_Bl_get_9 : decode b_Bl_get 9 = .ok (.iload_n 3, 1) := by decide +kernel
theorem d_Bl_get_10 : decode b_Bl_get 10 = .ok (.ifCond .lt 21, 3) := by decide +kernel
theorem d_Bl_get_13 : decode b_Bl_get 13 = .ok (.iload_n 3, 1) := by decide +kernel
theorem d_Bl_get_14 : decode b_Bl_get 14 = .ok (.aload_n 0, 1) := by decide +kernel
theorem d_Bl_get_15 : decode b_Bl_get 15 = .ok (.getfield 9, 3) := by decide +kernel
theorem d_Bl_get_18 : decode b_Bl_get 18 = .ok (.arraylength, 1) := by decide +kernel
theorem d_Bl_get_19 : decode b_Bl_get 19 = .ok (.if_icmp .ge 12, 3) := by decide +kernel
theorem d_Bl_get_22 : decode b_Bl_get 22 = .ok (.aload_n 0, 1) := by decide +kernel
theorem d_Bl_get_23 : decode b_Bl_get 23 = .ok (.getfield 9, 3) := by decide +kernel
theorem d_Bl_get_26 : decode b_Bl_get 26 = .ok (.iload_n 3, 1) := by decide +kernel
theorem d_Bl_get_27 : decode b_Bl_get 27 = .ok (.iaload, 1) := by decide +kernel
theorem d_Bl_get_28 : decode b_Bl_get 28 = .ok (.goto 4, 3) := by decide +kernel
theorem d_Bl_get_31 : decode b_Bl_get 31 = .ok (.iconst 0, 1) := by decide +kernel
theorem d_Bl_get_32 : decode b_Bl_get 32 = .ok (.ireturn, 1) := by decide +kernel
theorem d_Bl_set_0 : decode b_Bl_set 0 = .ok (.iload_n 1, 1) := by decide +kernel
theorem d_Bl_set_1 : decode b_Bl_set 1 = .ok (.aload_n 0, 1) := by decide +kernel
theorem d_Bl_set_2 : decode b_Bl_set 2 = .ok (.getfield 15, 3) := by decide +kernel
theorem d_Bl_set_5 : decode b_Bl_set 5 = .ok (.imul, 1) := by decide +kernel
theorem d_Bl_set_6 : decode b_Bl_set 6 = .ok (.iload_n 2, 1) := by decide +kernel
theorem d_Bl_set_7 : decode b_Bl_set 7 = .ok (.iadd, 1) := by decide +kernel
theorem d_Bl_set_8 : decode b_Bl_set 8 = .ok (.istore 4, 2) := by decide +kernel
theorem d_Bl_set_10 : decode b_Bl_set 10 = .ok (.iload 4, 2) := by decide +kernel
theorem d_Bl_set_12 : decode b_Bl_set 12 = .ok (.ifCond .lt 25, 3) := by decide +kernel
theorem d_Bl_set_15 : decode b_Bl_set 15 = .ok (.iload 4, 2) := by decide +kernel
theorem d_Bl_set_17 : decode b_Bl_set 17 = .ok (.aload_n 0, 1) := by decide +kernel
theorem d_Bl_set_18 : decode b_Bl_set 18 = .ok (.getfield 9, 3) := by decide +kernel
theorem d_Bl_set_21 : decode b_Bl_set 21 = .ok (.arraylength, 1) := by decide +kernel
theorem d_Bl_set_22 : decode b_Bl_set 22 = .ok (.if_icmp .ge 15, 3) := by decide +kernel
theorem d_Bl_set_25 : decode b_Bl_set 25 = .ok (.aload_n 0, 1) := by decide +kernel
theorem d_Bl_set_26 : decode b_Bl_set 26 = .ok (.getfield 9, 3) := by decide +kernel
theorem d_Bl_set_29 : decode b_Bl_set 29 = .ok (.iload 4, 2) := by decide +kernel
theorem d_Bl_set_31 : decode b_Bl_set 31 = .ok (.iload_n 3, 1) := by decide +kernel
theorem d_Bl_set_32 : decode b_Bl_set 32 = .ok (.sipush 255, 3) := by decide +kernel
theorem d_Bl_set_35 : decode b_Bl_set 35 = .ok (.iand, 1) := by decide +kernel
theorem d_Bl_set_36 : decode b_Bl_set 36 = .ok (.iastore, 1) := by decide +kernel
theorem d_Bl_set_37 : decode b_Bl_set 37 = .ok (.return_, 1) := by decide +kernel
theorem d_Bl_sumOf_0 : decode b_Bl_sumOf 0 = .ok (.iload_n 1, 1) := by decide +kernel
theorem d_Bl_sumOf_1 : decode b_Bl_sumOf 1 = .ok (.aload_n 0, 1) := by decide +kernel
theorem d_Bl_sumOf_2 : decode b_Bl_sumOf 2 = .ok (.getfield 15, 3) := by decide +kernel
theorem d_Bl_sumOf_5 : decode b_Bl_sumOf 5 = .ok (.imul, 1) := by decide +kernel
theorem d_Bl_sumOf_6 : decode b_Bl_sumOf 6 = .ok (.istore_n 3, 1) := by decide +kernel
theorem d_Bl_sumOf_7 : decode b_Bl_sumOf 7 = .ok (.iload_n 3, 1) := by decide +kernel
theorem d_Bl_sumOf_8 : decode b_Bl_sumOf 8 = .ok (.ifCond .lt 14, 3) := by decide +kernel
theorem d_Bl_sumOf_11 : decode b_Bl_sumOf 11 = .ok (.iload_n 3, 1) := by decide +kernel
theorem d_Bl_sumOf_12 : decode b_Bl_sumOf 12 = .ok (.aload_n 0, 1) := by decide +kernel
theorem d_Bl_sumOf_13 : decode b_Bl_sumOf 13 = .ok (.getfield 9, 3) := by decide +kernel
theorem d_Bl_sumOf_16 : decode b_Bl_sumOf 16 = .ok (.arraylength, 1) := by decide +kernel
theorem d_Bl_sumOf_17 : decode b_Bl_sumOf 17 = .ok (.iload_n 2, 1) := by decide +kernel
theorem d_Bl_sumOf_18 : decode b_Bl_sumOf 18 = .ok (.isub, 1) := by decide +kernel
theorem d_Bl_sumOf_19 : decode b_Bl_sumOf 19 = .ok (.if_icmp .le 5, 3) := by decide +kernel
theorem d_Bl_sumOf_22 : decode b_Bl_sumOf 22 = .ok (.iconst 0, 1) := by decide +kernel
theorem d_Bl_sumOf_23 : decode b_Bl_sumOf 23 = .ok (.ireturn, 1) := by decide +kernel
theorem d_Bl_sumOf_24 : decode b_Bl_sumOf 24 = .ok (.iconst 0, 1) := by decide +kernel
theorem d_Bl_sumOf_25 : decode b_Bl_sumOf 25 = .ok (.istore 4, 2) := by decide +kernel
theorem d_Bl_sumOf_27 : decode b_Bl_sumOf 27 = .ok (.iconst 0, 1) := by decide +kernel
theorem d_Bl_sumOf_28 : decode b_Bl_sumOf 28 = .ok (.istore 5, 2) := by decide +kernel
theorem d_Bl_sumOf_30 : decode b_Bl_sumOf 30 = .ok (.iload 5, 2) := by decide +kernel
theorem d_Bl_sumOf_32 : decode b_Bl_sumOf 32 = .ok (.iload_n 2, 1) := by decide +kernel
theorem d_Bl_sumOf_33 : decode b_Bl_sumOf 33 = .ok (.if_icmp .ge 39, 3) := by decide +kernel
theorem d_Bl_sumOf_36 : decode b_Bl_sumOf 36 = .ok (.iload 4, 2) := by decide +kernel
theorem d_Bl_sumOf_38 : decode b_Bl_sumOf 38 = .ok (.aload_n 0, 1) := by decide +kernel
theorem d_Bl_sumOf_39 : decode b_Bl_sumOf 39 = .ok (.getfield 9, 3) := by decide +kernel
theorem d_Bl_sumOf_42 : decode b_Bl_sumOf 42 = .ok (.iload_n 3, 1) := by decide +kernel
theorem d_Bl_sumOf_43 : decode b_Bl_sumOf 43 = .ok (.iload 5, 2) := by decide +kernel
theorem d_Bl_sumOf_45 : decode b_Bl_sumOf 45 = .ok (.iadd, 1) := by decide +kernel
theorem d_Bl_sumOf_46 : decode b_Bl_sumOf 46 = .ok (.iaload, 1) := by decide +kernel
theorem d_Bl_sumOf_47 : decode b_Bl_sumOf 47 = .ok (.ixor, 1) := by decide +kernel
theorem d_Bl_sumOf_48 : decode b_Bl_sumOf 48 = .ok (.istore 6, 2) := by decide +kernel
theorem d_Bl_sumOf_50 : decode b_Bl_sumOf 50 = .ok (.iload 6, 2) := by decide +kernel
theorem d_Bl_sumOf_52 : decode b_Bl_sumOf 52 = .ok (.bipush 23, 2) := by decide +kernel
theorem d_Bl_sumOf_54 : decode b_Bl_sumOf 54 = .ok (.ishl, 1) := by decide +kernel
theorem d_Bl_sumOf_55 : decode b_Bl_sumOf 55 = .ok (.iload 6, 2) := by decide +kernel
theorem d_Bl_sumOf_57 : decode b_Bl_sumOf 57 = .ok (.bipush 9, 2) := by decide +kernel
theorem d_Bl_sumOf_59 : decode b_Bl_sumOf 59 = .ok (.iushr, 1) := by decide +kernel
theorem d_Bl_sumOf_60 : decode b_Bl_sumOf 60 = .ok (.ior, 1) := by decide +kernel
theorem d_Bl_sumOf_61 : decode b_Bl_sumOf 61 = .ok (.ldc 23, 2) := by decide +kernel
theorem d_Bl_sumOf_63 : decode b_Bl_sumOf 63 = .ok (.imul, 1) := by decide +kernel
theorem d_Bl_sumOf_64 : decode b_Bl_sumOf 64 = .ok (.istore 4, 2) := by decide +kernel
theorem d_Bl_sumOf_66 : decode b_Bl_sumOf 66 = .ok (.iinc 5 1, 3) := by decide +kernel
theorem d_Bl_sumOf_69 : decode b_Bl_sumOf 69 = .ok (.goto (-39), 3) := by decide +kernel
theorem d_Bl_sumOf_72 : decode b_Bl_sumOf 72 = .ok (.iload 4, 2) := by decide +kernel
theorem d_Bl_sumOf_74 : decode b_Bl_sumOf 74 = .ok (.ireturn, 1) := by decide +kernel
theorem d_Bl_sumIsRight_0 : decode b_Bl_sumIsRight 0 = .ok (.iconst 0, 1) := by decide +kernel
theorem d_Bl_sumIsRight_1 : decode b_Bl_sumIsRight 1 = .ok (.istore_n 2, 1) := by decide +kernel
theorem d_Bl_sumIsRight_2 : decode b_Bl_sumIsRight 2 = .ok (.aload_n 0, 1) := by decide +kernel
theorem d_Bl_sumIsRight_3 : decode b_Bl_sumIsRight 3 = .ok (.getfield 15, 3) := by decide +kernel
theorem d_Bl_sumIsRight_6 : decode b_Bl_sumIsRight 6 = .ok (.iconst 4, 1) := by decide +kernel
theorem d_Bl_sumIsRight_7 : decode b_Bl_sumIsRight 7 = .ok (.isub, 1) := by decide +kernel
theorem d_Bl_sumIsRight_8 : decode b_Bl_sumIsRight 8 = .ok (.istore_n 3, 1) := by decide +kernel
theorem d_Bl_sumIsRight_9 : decode b_Bl_sumIsRight 9 = .ok (.iload_n 3, 1) := by decide +kernel
theorem d_Bl_sumIsRight_10 : decode b_Bl_sumIsRight 10 = .ok (.aload_n 0, 1) := by decide +kernel
theorem d_Bl_sumIsRight_11 : decode b_Bl_sumIsRight 11 = .ok (.getfield 15, 3) := by decide +kernel
theorem d_Bl_sumIsRight_14 : decode b_Bl_sumIsRight 14 = .ok (.if_icmp .ge 21, 3) := by decide +kernel
theorem d_Bl_sumIsRight_17 : decode b_Bl_sumIsRight 17 = .ok (.iload_n 2, 1) := by decide +kernel
theorem d_Bl_sumIsRight_18 : decode b_Bl_sumIsRight 18 = .ok (.bipush 8, 2) := by decide +kernel
theorem d_Bl_sumIsRight_20 : decode b_Bl_sumIsRight 20 = .ok (.ishl, 1) := by decide +kernel
theorem d_Bl_sumIsRight_21 : decode b_Bl_sumIsRight 21 = .ok (.aload_n 0, 1) := by decide +kernel
theorem d_Bl_sumIsRight_22 : decode b_Bl_sumIsRight 22 = .ok (.iload_n 1, 1) := by decide +kernel
theorem d_Bl_sumIsRight_23 : decode b_Bl_sumIsRight 23 = .ok (.iload_n 3, 1) := by decide +kernel
theorem d_Bl_sumIsRight_24 : decode b_Bl_sumIsRight 24 = .ok (.invokevirtual 24, 3) := by decide +kernel
theorem d_Bl_sumIsRight_27 : decode b_Bl_sumIsRight 27 = .ok (.ior, 1) := by decide +kernel
theorem d_Bl_sumIsRight_28 : decode b_Bl_sumIsRight 28 = .ok (.istore_n 2, 1) := by decide +kernel
theorem d_Bl_sumIsRight_29 : decode b_Bl_sumIsRight 29 = .ok (.iinc 3 1, 3) := by decide +kernel
theorem d_Bl_sumIsRight_32 : decode b_Bl_sumIsRight 32 = .ok (.goto (-23), 3) := by decide +kernel
theorem d_Bl_sumIsRight_35 : decode b_Bl_sumIsRight 35 = .ok (.iload_n 2, 1) := by decide +kernel
theorem d_Bl_sumIsRight_36 : decode b_Bl_sumIsRight 36 = .ok (.aload_n 0, 1) := by decide +kernel
theorem d_Bl_sumIsRight_37 : decode b_Bl_sumIsRight 37 = .ok (.iload_n 1, 1) := by decide +kernel
theorem d_Bl_sumIsRight_38 : decode b_Bl_sumIsRight 38 = .ok (.aload_n 0, 1) := by decide +kernel
theorem d_Bl_sumIsRight_39 : decode b_Bl_sumIsRight 39 = .ok (.getfield 15, 3) := by decide +kernel
theorem d_Bl_sumIsRight_42 : decode b_Bl_sumIsRight 42 = .ok (.iconst 4, 1) := by decide +kernel
theorem d_Bl_sumIsRight_43 : decode b_Bl_sumIsRight 43 = .ok (.isub, 1) := by decide +kernel
theorem d_Bl_sumIsRight_44 : decode b_Bl_sumIsRight 44 = .ok (.invokevirtual 28, 3) := by decide +kernel
theorem d_Bl_sumIsRight_47 : decode b_Bl_sumIsRight 47 = .ok (.if_icmp .ne 7, 3) := by decide +kernel
theorem d_Bl_sumIsRight_50 : decode b_Bl_sumIsRight 50 = .ok (.iconst 1, 1) := by decide +kernel
theorem d_Bl_sumIsRight_51 : decode b_Bl_sumIsRight 51 = .ok (.goto 4, 3) := by decide +kernel
theorem d_Bl_sumIsRight_54 : decode b_Bl_sumIsRight 54 = .ok (.iconst 0, 1) := by decide +kernel
theorem d_Bl_sumIsRight_55 : decode b_Bl_sumIsRight 55 = .ok (.ireturn, 1) := by decide +kernel
def f_Bl_hasCell (n : Nat) (i : Int32) : Int32 :=
  if i < 0 then
    0
  else
    if nI n ≤ i then
      0
    else
      1
set_option maxHeartbeats 1000000 in
set_option maxRecDepth 100000 in
/-- hasCell -/
theorem c_Bl_hasCell (l : Launch) (D : va_G) (cI cZ cJ : ClassId) (h0 a0 n : Nat) (F : Nat → Int32) (sz : Int32) (i : Int32) (hn : n < 2 ^ 31) : sf_M (S := Int32) l D classes (sf_tys cI cZ cJ) y_Bl_hasCell (sf_ws y_Bl_hasCell b_Bl_hasCell 2 (some .boolean)) 0 0 [.ref h0, .int i] [(h0, .inr (0, [.ref a0, .int sz])), (a0, .inl (cI, n, .inl F))] (fun r => some (.int r)) (fun r => r = f_Bl_hasCell n i) (fun _ => [(h0, .inr (0, [.ref a0, .int sz])), (a0, .inl (cI, n, .inl F))]) := by
  refine sf_ofW (S := Int32) (by decide) (Nat.le_of_ble_eq_true rfl) ?_
  intro p e s m below meth c A ls R args Q hR hArgs hQ hC0 hr hK hP hD hl
  obtain ⟨hx, hb, hml, hown, hts, hA, hlk⟩ := hC0
  have hS : va_S A s.heap s.heap [] := va_S.rf
  have hl : lv_has ls 2 [(0, .ref h0), (1, .int i)] := hl
  refine lv_iload_n hx hb d_Bl_hasCell_0 rfl (lv_at hl 1 rfl) ?_
  refine lv_if_lt (tgt := 17) hx hb d_Bl_hasCell_1 (by decide) (fun c_1 => ?_) (fun c_1 => ?_)
  · refine lv_iconst (v := 0) hx hb d_Bl_hasCell_17 (by decide) ?_
    rw [hQ]
    exact sf_iret 0 hx hb hr hlk hS sf_b0 rfl (by simp only [f_Bl_hasCell, eq_true c_1, ↓reduceIte]) hP d_Bl_hasCell_18
  · refine lv_iload_n hx hb d_Bl_hasCell_4 rfl (lv_at hl 1 rfl) ?_
    refine lv_aload_n hx hb d_Bl_hasCell_5 rfl (lv_at hl 0 rfl) ?_
    refine va_get (D := D) (ci := 0) (v := .ref a0) (C := R_Bl) (T := F_Bl) (N := 2) hx hb hts i_Bl hown hK hP 0 rfl rfl 0 (by decide) (hts _ wd_77) (fun _ h9 => h9) rfl d_Bl_hasCell_6 ?_
    refine va_alen hx hb hK hP 1 0 rfl rfl (v := nI n) rfl d_Bl_hasCell_9 ?_
    refine lv_icmp_ge (tgt := 17) hx hb d_Bl_hasCell_10 (by decide) (fun c_2 => ?_) (fun c_2 => ?_)
    · refine lv_iconst (v := 0) hx hb d_Bl_hasCell_17 (by decide) ?_
      rw [hQ]
      exact sf_iret 0 hx hb hr hlk hS sf_b0 rfl (by simp only [f_Bl_hasCell, eq_false c_1, eq_true c_2, ↓reduceIte]) hP d_Bl_hasCell_18
    · refine lv_iconst (v := 1) hx hb d_Bl_hasCell_13 (by decide) ?_
      refine lv_goto (tgt := 18) hx hb d_Bl_hasCell_14 (by decide) ?_
      rw [hQ]
      exact sf_iret 1 hx hb hr hlk hS sf_b1 rfl (by simp only [f_Bl_hasCell, eq_false c_1, eq_false c_2, ↓reduceIte]) hP d_Bl_hasCell_18
def f_Bl_hasBlock (n : Nat) (sz b : Int32) : Int32 :=
  if b < 0 then
    0
  else
    if nI n ≤ b then
      0
    else
      if (f_Bl_hasCell n (((b * sz) + sz) - 1)) = 0 then
        0
      else
        1
set_option maxHeartbeats 1000000 in
set_option maxRecDepth 100000 in
/-- hasBlock -/
theorem c_Bl_hasBlock (l : Launch) (D : va_G) (cI cZ cJ : ClassId) (h0 a0 n : Nat) (F : Nat → Int32) (sz : Int32) (b : Int32) (hn : n < 2 ^ 31) : sf_M (S := Int32) l D classes (sf_tys cI cZ cJ) y_Bl_hasBlock (sf_ws y_Bl_hasBlock b_Bl_hasBlock 2 (some .boolean)) 1 21 [.ref h0, .int b] [(h0, .inr (0, [.ref a0, .int sz])), (a0, .inl (cI, n, .inl F))] (fun r => some (.int r)) (fun r => r = f_Bl_hasBlock n sz b) (fun _ => [(h0, .inr (0, [.ref a0, .int sz])), (a0, .inl (cI, n, .inl F))]) := by
  refine sf_ofW (S := Int32) (by decide) (Nat.le_of_ble_eq_true rfl) ?_
  intro p e s m below meth c A ls R args Q hR hArgs hQ hC0 hr hK hP hD hl
  obtain ⟨hx, hb, hml, hown, hts, hA, hlk⟩ := hC0
  have hS : va_S A s.heap s.heap [] := va_S.rf
  have hl : lv_has ls 2 [(0, .ref h0), (1, .int b)] := hl
  refine lv_iload_n hx hb d_Bl_hasBlock_0 rfl (lv_at hl 1 rfl) ?_
  refine lv_if_lt (tgt := 37) hx hb d_Bl_hasBlock_1 (by decide) (fun c_1 => ?_) (fun c_1 => ?_)
  · refine lv_iconst (v := 0) hx hb d_Bl_hasBlock_37 (by decide) ?_
    rw [hQ]
    exact sf_iret 0 hx hb hr hlk hS sf_b0 rfl (by simp only [f_Bl_hasBlock, eq_true c_1, ↓reduceIte]) hP d_Bl_hasBlock_38
  · refine lv_iload_n hx hb d_Bl_hasBlock_4 rfl (lv_at hl 1 rfl) ?_
    refine lv_aload_n hx hb d_Bl_hasBlock_5 rfl (lv_at hl 0 rfl) ?_
    refine va_get (D := D) (ci := 0) (v := .ref a0) (C := R_Bl) (T := F_Bl) (N := 2) hx hb hts i_Bl hown hK hP 0 rfl rfl 0 (by decide) (hts _ wd_77) (fun _ h9 => h9) rfl d_Bl_hasBlock_6 ?_
    refine va_alen hx hb hK hP 1 0 rfl rfl (v := nI n) rfl d_Bl_hasBlock_9 ?_
    refine lv_icmp_ge (tgt := 37) hx hb d_Bl_hasBlock_10 (by decide) (fun c_2 => ?_) (fun c_2 => ?_)
    · refine lv_iconst (v := 0) hx hb d_Bl_hasBlock_37 (by decide) ?_
      rw [hQ]
      exact sf_iret 0 hx hb hr hlk hS sf_b0 rfl (by simp only [f_Bl_hasBlock, eq_false c_1, eq_true c_2, ↓reduceIte]) hP d_Bl_hasBlock_38
    · refine lv_aload_n hx hb d_Bl_hasBlock_13 rfl (lv_at hl 0 rfl) ?_
      refine lv_iload_n hx hb d_Bl_hasBlock_14 rfl (lv_at hl 1 rfl) ?_
      refine lv_aload_n hx hb d_Bl_hasBlock_15 rfl (lv_at hl 0 rfl) ?_
      refine va_get (D := D) (ci := 0) (v := .int sz) (C := R_Bl) (T := F_Bl) (N := 2) hx hb hts i_Bl hown hK hP 0 rfl rfl 1 (by decide) (hts _ wd_78) (fun _ h9 => h9) rfl d_Bl_hasBlock_16 ?_
      refine lv_imul hx hb d_Bl_hasBlock_19 ?_
      refine lv_aload_n hx hb d_Bl_hasBlock_20 rfl (lv_at hl 0 rfl) ?_
      refine va_get (D := D) (ci := 0) (v := .int sz) (C := R_Bl) (T := F_Bl) (N := 2) hx hb hts i_Bl hown hK hP 0 rfl rfl 1 (by decide) (hts _ wd_78) (fun _ h9 => h9) rfl d_Bl_hasBlock_21 ?_
      refine lv_iadd hx hb d_Bl_hasBlock_24 ?_
      refine lv_iconst (v := 1) hx hb d_Bl_hasBlock_25 (by decide) ?_
      refine lv_isub hx hb d_Bl_hasBlock_26 ?_
      refine sf_callVr (S := Int32) (rest := []) ⟨hx, hb, hml, hown, hts⟩ (c_Bl_hasCell l D cI cZ cJ h0 a0 n F sz (((b * sz) + sz) - 1) hn) (sf_cwV lk_Bl_19 hts (fun _ h => h) (by rw [hR]; exact ⟨Nat.le_of_ble_eq_true rfl, Nat.le_of_ble_eq_true rfl⟩)) hK hP hD hS hA [0, 1] rfl rfl (fun _ => rfl) (ci := 0) (q0 := 0) rfl rfl rfl rfl rfl hl.1 (Nat.le_of_ble_eq_true rfl) d_Bl_hasBlock_27 ⟨Nat.zero_le _, Nat.zero_le _⟩ (fun u_3 H locs hu_3 hP hS => ?_)
      refine lv_if_eq (tgt := 37) hx hb d_Bl_hasBlock_30 (by decide) (fun c_4 => ?_) (fun c_4 => ?_)
      · refine lv_iconst (v := 0) hx hb d_Bl_hasBlock_37 (by decide) ?_
        rw [hQ]
        exact sf_iret 0 hx hb hr hlk hS sf_b0 rfl (by simp only [f_Bl_hasBlock, ← hu_3, eq_false c_1, eq_false c_2, eq_true c_4, ↓reduceIte]) hP d_Bl_hasBlock_38
      · refine lv_iconst (v := 1) hx hb d_Bl_hasBlock_33 (by decide) ?_
        refine lv_goto (tgt := 38) hx hb d_Bl_hasBlock_34 (by decide) ?_
        rw [hQ]
        exact sf_iret 1 hx hb hr hlk hS sf_b1 rfl (by simp only [f_Bl_hasBlock, ← hu_3, eq_false c_1, eq_false c_2, eq_false c_4, ↓reduceIte]) hP d_Bl_hasBlock_38
def f_Bl_get (n : Nat) (F : Nat → Int32) (sz b i : Int32) : Int32 :=
  if ((b * sz) + i) < 0 then
    0
  else
    if nI n ≤ ((b * sz) + i) then
      0
    else
      (F ((b * sz) + i).toNatClampNeg)
set_option maxHeartbeats 1000000 in
set_option maxRecDepth 100000 in
/-- get -/
theorem c_Bl_get (l : Launch) (D : va_G) (cI cZ cJ : ClassId) (h0 a0 n : Nat) (F : Nat → Int32) (sz : Int32) (b i : Int32) (hn : n < 2 ^ 31) : sf_M (S := Int32) l D classes (sf_tys cI cZ cJ) y_Bl_get (sf_ws y_Bl_get b_Bl_get 4 (some .int)) 0 0 [.ref h0, .int b, .int i] [(h0, .inr (0, [.ref a0, .int sz])), (a0, .inl (cI, n, .inl F))] (fun r => some (.int r)) (fun r => r = f_Bl_get n F sz b i) (fun _ => [(h0, .inr (0, [.ref a0, .int sz])), (a0, .inl (cI, n, .inl F))]) := by
  refine sf_ofW (S := Int32) (by decide) (Nat.le_of_ble_eq_true rfl) ?_
  intro p e s m below meth c A ls R args Q hR hArgs hQ hC0 hr hK hP hD hl
  obtain ⟨hx, hb, hml, hown, hts, hA, hlk⟩ := hC0
  have hS : va_S A s.heap s.heap [] := va_S.rf
  have hl : lv_has ls 4 [(0, .ref h0), (1, .int b), (2, .int i)] := hl
  refine lv_iload_n hx hb d_Bl_get_0 rfl (lv_at hl 1 rfl) ?_
  refine lv_aload_n hx hb d_Bl_get_1 rfl (lv_at hl 0 rfl) ?_
  refine va_get (D := D) (ci := 0) (v := .int sz) (C := R_Bl) (T := F_Bl) (N := 2) hx hb hts i_Bl hown hK hP 0 rfl rfl 1 (by decide) (hts _ wd_78) (fun _ h9 => h9) rfl d_Bl_get_2 ?_
  refine lv_imul hx hb d_Bl_get_5 ?_
  refine lv_iload_n hx hb d_Bl_get_6 rfl (lv_at hl 2 rfl) ?_
  refine lv_iadd hx hb d_Bl_get_7 ?_
  refine lv_istore_n (lv' := [(3, .int ((b * sz) + i)), (0, .ref h0), (1, .int b), (2, .int i)]) hx hb d_Bl_get_8 rfl hl (by decide) rfl (fun ls hl => ?_)
  refine lv_iload_n hx hb d_Bl_get_9 rfl (lv_at hl 0 rfl) ?_
  refine lv_if_lt (tgt := 31) hx hb d_Bl_get_10 (by decide) (fun c_1 => ?_) (fun c_1 => ?_)
  · refine lv_iconst (v := 0) hx hb d_Bl_get_31 (by decide) ?_
    rw [hQ]
    exact sf_iret 0 hx hb hr hlk hS rfl rfl (by simp only [f_Bl_get, eq_true c_1, ↓reduceIte]) hP d_Bl_get_32
  · refine lv_iload_n hx hb d_Bl_get_13 rfl (lv_at hl 0 rfl) ?_
    refine lv_aload_n hx hb d_Bl_get_14 rfl (lv_at hl 1 rfl) ?_
    refine va_get (D := D) (ci := 0) (v := .ref a0) (C := R_Bl) (T := F_Bl) (N := 2) hx hb hts i_Bl hown hK hP 0 rfl rfl 0 (by decide) (hts _ wd_77) (fun _ h9 => h9) rfl d_Bl_get_15 ?_
    refine va_alen hx hb hK hP 1 0 rfl rfl (v := nI n) rfl d_Bl_get_18 ?_
    refine lv_icmp_ge (tgt := 31) hx hb d_Bl_get_19 (by decide) (fun c_2 => ?_) (fun c_2 => ?_)
    · refine lv_iconst (v := 0) hx hb d_Bl_get_31 (by decide) ?_
      rw [hQ]
      exact sf_iret 0 hx hb hr hlk hS rfl rfl (by simp only [f_Bl_get, eq_false c_1, eq_true c_2, ↓reduceIte]) hP d_Bl_get_32
    · refine lv_aload_n hx hb d_Bl_get_22 rfl (lv_at hl 1 rfl) ?_
      refine va_get (D := D) (ci := 0) (v := .ref a0) (C := R_Bl) (T := F_Bl) (N := 2) hx hb hts i_Bl hown hK hP 0 rfl rfl 0 (by decide) (hts _ wd_77) (fun _ h9 => h9) rfl d_Bl_get_23 ?_
      refine lv_iload_n hx hb d_Bl_get_26 rfl (lv_at hl 0 rfl) ?_
      refine va_iald hx hb hK hP 1 0 rfl rfl (sf_in (n := n) c_1 c_2 hn) d_Bl_get_27 ?_
      refine lv_goto (tgt := 32) hx hb d_Bl_get_28 (by decide) ?_
      rw [hQ]
      exact sf_iret (F ((b * sz) + i).toNatClampNeg) hx hb hr hlk hS rfl rfl (by simp only [f_Bl_get, eq_false c_1, eq_false c_2, ↓reduceIte]) hP d_Bl_get_32
def f_Bl_set (n : Nat) (F : Nat → Int32) (sz b i v : Int32) : (Nat → Int32) :=
  if ((b * sz) + i) < 0 then
    F
  else
    if nI n ≤ ((b * sz) + i) then
      F
    else
      (upd F (((b * sz) + i).toNatClampNeg) (v &&& 255))
set_option maxHeartbeats 1000000 in
set_option maxRecDepth 100000 in
/-- set -/
theorem c_Bl_set (l : Launch) (D : va_G) (cI cZ cJ : ClassId) (h0 a0 n : Nat) (F : Nat → Int32) (sz : Int32) (b i v : Int32) (hn : n < 2 ^ 31) : sf_M (S := (Nat → Int32)) l D classes (sf_tys cI cZ cJ) y_Bl_set (sf_ws y_Bl_set b_Bl_set 5 none) 0 0 [.ref h0, .int b, .int i, .int v] [(h0, .inr (0, [.ref a0, .int sz])), (a0, .inl (cI, n, .inl F))] (fun _ => none) (fun r => r = f_Bl_set n F sz b i v) (fun r => [(h0, .inr (0, [.ref a0, .int sz])), (a0, .inl (cI, n, .inl r))]) := by
  refine sf_ofW (S := (Nat → Int32)) (by decide) (Nat.le_of_ble_eq_true rfl) ?_
  intro p e s m below meth c A ls R args Q hR hArgs hQ hC0 hr hK hP hD hl
  obtain ⟨hx, hb, hml, hown, hts, hA, hlk⟩ := hC0
  have hS : va_S A s.heap s.heap [] := va_S.rf
  have hl : lv_has ls 5 [(0, .ref h0), (1, .int b), (2, .int i), (3, .int v)] := hl
  refine lv_iload_n hx hb d_Bl_set_0 rfl (lv_at hl 1 rfl) ?_
  refine lv_aload_n hx hb d_Bl_set_1 rfl (lv_at hl 0 rfl) ?_
  refine va_get (D := D) (ci := 0) (v := .int sz) (C := R_Bl) (T := F_Bl) (N := 2) hx hb hts i_Bl hown hK hP 0 rfl rfl 1 (by decide) (hts _ wd_78) (fun _ h9 => h9) rfl d_Bl_set_2 ?_
  refine lv_imul hx hb d_Bl_set_5 ?_
  refine lv_iload_n hx hb d_Bl_set_6 rfl (lv_at hl 2 rfl) ?_
  refine lv_iadd hx hb d_Bl_set_7 ?_
  refine lv_istore (lv' := [(4, .int ((b * sz) + i)), (0, .ref h0), (1, .int b), (2, .int i), (3, .int v)]) hx hb d_Bl_set_8 hl (by decide) rfl (fun ls hl => ?_)
  refine lv_iload hx hb d_Bl_set_10 (lv_at hl 0 rfl) ?_
  refine lv_if_lt (tgt := 37) hx hb d_Bl_set_12 (by decide) (fun c_1 => ?_) (fun c_1 => ?_)
  · rw [hQ]
    exact sf_vret F hx hb hr hlk hS rfl (by simp only [f_Bl_set, eq_true c_1, ↓reduceIte]) hP d_Bl_set_37
  · refine lv_iload hx hb d_Bl_set_15 (lv_at hl 0 rfl) ?_
    refine lv_aload_n hx hb d_Bl_set_17 rfl (lv_at hl 1 rfl) ?_
    refine va_get (D := D) (ci := 0) (v := .ref a0) (C := R_Bl) (T := F_Bl) (N := 2) hx hb hts i_Bl hown hK hP 0 rfl rfl 0 (by decide) (hts _ wd_77) (fun _ h9 => h9) rfl d_Bl_set_18 ?_
    refine va_alen hx hb hK hP 1 0 rfl rfl (v := nI n) rfl d_Bl_set_21 ?_
    refine lv_icmp_ge (tgt := 37) hx hb d_Bl_set_22 (by decide) (fun c_2 => ?_) (fun c_2 => ?_)
    · rw [hQ]
      exact sf_vret F hx hb hr hlk hS rfl (by simp only [f_Bl_set, eq_false c_1, eq_true c_2, ↓reduceIte]) hP d_Bl_set_37
    · refine lv_aload_n hx hb d_Bl_set_25 rfl (lv_at hl 1 rfl) ?_
      refine va_get (D := D) (ci := 0) (v := .ref a0) (C := R_Bl) (T := F_Bl) (N := 2) hx hb hts i_Bl hown hK hP 0 rfl rfl 0 (by decide) (hts _ wd_77) (fun _ h9 => h9) rfl d_Bl_set_26 ?_
      refine lv_iload hx hb d_Bl_set_29 (lv_at hl 0 rfl) ?_
      refine lv_iload_n hx hb d_Bl_set_31 rfl (lv_at hl 4 rfl) ?_
      refine lv_sipush (v := 255) hx hb d_Bl_set_32 (by decide) ?_
      refine lv_iand hx hb d_Bl_set_35 ?_
      refine va_iast hx hb hK hP hD hS 1 0 rfl rfl (sf_in (n := n) c_1 c_2 hn) d_Bl_set_36 (fun H locs hP hD hS => ?_)
      have hP : va_P D classes [(h0, .inr (0, [.ref a0, .int sz])), (a0, .inl (cI, n, .inl (upd F (((b * sz) + i).toNatClampNeg) (v &&& 255))))] H := hP
      have hD : va_D A [(h0, .inr (0, [.ref a0, .int sz])), (a0, .inl (cI, n, .inl (upd F (((b * sz) + i).toNatClampNeg) (v &&& 255))))] := hD
      rw [hQ]
      exact sf_vret (upd F (((b * sz) + i).toNatClampNeg) (v &&& 255)) hx hb hr hlk hS rfl (by simp only [f_Bl_set, eq_false c_1, eq_false c_2, ↓reduceIte]) hP d_Bl_set_37
def f_Bl_sumOf_l (F : Nat → Int32) (sz b : Int32) (N : Nat) : Nat → Nat → Int32 → Int32
  | 0, _, _ => 0
  | fu + 1, k, sm =>
    if (nI N) ≤ (nI k) then
      sm
    else
      f_Bl_sumOf_l F sz b N fu (k + 1) ((((sm ^^^ (F ((b * sz) + (nI k)).toNatClampNeg)) <<< (23 &&& 31)) ||| (sf_ushr (sm ^^^ (F ((b * sz) + (nI k)).toNatClampNeg)) 9)) * (-1640531535))
def f_Bl_sumOf (n : Nat) (F : Nat → Int32) (sz b : Int32) (N : Nat) : Int32 :=
  if (b * sz) < 0 then
    0
  else
    if (b * sz) ≤ (nI n - (nI N)) then
      f_Bl_sumOf_l F sz b N (N + 1) 0 0
    else
      0
set_option maxHeartbeats 1000000 in
set_option maxRecDepth 100000 in
/-- sumOf, of N bytes -/
theorem c_Bl_sumOf (l : Launch) (D : va_G) (cI cZ cJ : ClassId) (h0 a0 n : Nat) (F : Nat → Int32) (sz : Int32) (b : Int32) (N : Nat) (hn : n < 2 ^ 31) (hN : N ≤ n) : sf_M (S := Int32) l D classes (sf_tys cI cZ cJ) y_Bl_sumOf (sf_ws y_Bl_sumOf b_Bl_sumOf 7 (some .int)) 0 0 [.ref h0, .int b, .int (nI N)] [(h0, .inr (0, [.ref a0, .int sz])), (a0, .inl (cI, n, .inl F))] (fun r => some (.int r)) (fun r => r = f_Bl_sumOf n F sz b N) (fun _ => [(h0, .inr (0, [.ref a0, .int sz])), (a0, .inl (cI, n, .inl F))]) := by
  refine sf_ofW (S := Int32) (by decide) (Nat.le_of_ble_eq_true rfl) ?_
  intro p e s m below meth c A ls R args Q hR hArgs hQ hC0 hr hK hP hD hl
  obtain ⟨hx, hb, hml, hown, hts, hA, hlk⟩ := hC0
  have hS : va_S A s.heap s.heap [] := va_S.rf
  have hl : lv_has ls 7 [(0, .ref h0), (1, .int b), (2, .int (nI N))] := hl
  refine lv_iload_n hx hb d_Bl_sumOf_0 rfl (lv_at hl 1 rfl) ?_
  refine lv_aload_n hx hb d_Bl_sumOf_1 rfl (lv_at hl 0 rfl) ?_
  refine va_get (D := D) (ci := 0) (v := .int sz) (C := R_Bl) (T := F_Bl) (N := 2) hx hb hts i_Bl hown hK hP 0 rfl rfl 1 (by decide) (hts _ wd_78) (fun _ h9 => h9) rfl d_Bl_sumOf_2 ?_
  refine lv_imul hx hb d_Bl_sumOf_5 ?_
  refine lv_istore_n (lv' := [(3, .int (b * sz)), (0, .ref h0), (1, .int b), (2, .int (nI N))]) hx hb d_Bl_sumOf_6 rfl hl (by decide) rfl (fun ls hl => ?_)
  refine lv_iload_n hx hb d_Bl_sumOf_7 rfl (lv_at hl 0 rfl) ?_
  refine lv_if_lt (tgt := 22) hx hb d_Bl_sumOf_8 (by decide) (fun c_1 => ?_) (fun c_1 => ?_)
  · refine lv_iconst (v := 0) hx hb d_Bl_sumOf_22 (by decide) ?_
    rw [hQ]
    exact sf_iret 0 hx hb hr hlk hS rfl rfl (by simp only [f_Bl_sumOf, eq_true c_1, ↓reduceIte]) hP d_Bl_sumOf_23
  · refine lv_iload_n hx hb d_Bl_sumOf_11 rfl (lv_at hl 0 rfl) ?_
    refine lv_aload_n hx hb d_Bl_sumOf_12 rfl (lv_at hl 1 rfl) ?_
    refine va_get (D := D) (ci := 0) (v := .ref a0) (C := R_Bl) (T := F_Bl) (N := 2) hx hb hts i_Bl hown hK hP 0 rfl rfl 0 (by decide) (hts _ wd_77) (fun _ h9 => h9) rfl d_Bl_sumOf_13 ?_
    refine va_alen hx hb hK hP 1 0 rfl rfl (v := nI n) rfl d_Bl_sumOf_16 ?_
    refine lv_iload_n hx hb d_Bl_sumOf_17 rfl (lv_at hl 3 rfl) ?_
    refine lv_isub hx hb d_Bl_sumOf_18 ?_
    refine lv_icmp_le (tgt := 24) hx hb d_Bl_sumOf_19 (by decide) (fun c_2 => ?_) (fun c_2 => ?_)
    · refine lv_iconst (v := 0) hx hb d_Bl_sumOf_24 (by decide) ?_
      refine lv_istore (lv' := [(4, .int 0), (3, .int (b * sz)), (0, .ref h0), (1, .int b), (2, .int (nI N))]) hx hb d_Bl_sumOf_25 hl (by decide) rfl (fun ls hl => ?_)
      refine lv_iconst (v := 0) hx hb d_Bl_sumOf_27 (by decide) ?_
      refine lv_istore (lv' := [(5, .int 0), (4, .int 0), (3, .int (b * sz)), (0, .ref h0), (1, .int b), (2, .int (nI N))]) hx hb d_Bl_sumOf_28 hl (by decide) rfl (fun ls hl => ?_)
      have loop30 : ∀ (fu k : Nat) (sm : Int32), k ≤ N → k + fu = N + 1 → f_Bl_sumOf_l F sz b N fu k sm = f_Bl_sumOf n F sz b N → ∀ (H : Heap) (locs : List Loc), va_P D classes [(h0, .inr (0, [.ref a0, .int sz])), (a0, .inl (cI, n, .inl F))] H → va_D A [(h0, .inr (0, [.ref a0, .int sz])), (a0, .inl (cI, n, .inl F))] → va_S A s.heap H locs → ∀ (ls : Array Slot), lv_has ls 7 [(0, .ref h0), (1, .int b), (2, .int (nI N)), (3, .int (b * sz)), (4, .int sm), (5, .int (nI k))] → W p l e R s m args below meth c H locs 0 0 Q (F0 m 30 ls []) := by
        intro fu
        induction fu with
        | zero =>
          intro k sm h1 h2
          exact absurd h2 (by omega)
        | succ fu ih30 =>
          intro k sm hk30 hkn30 heq30 H locs hP hD hS ls hl
          refine lv_iload hx hb d_Bl_sumOf_30 (lv_at hl 5 rfl) ?_
          refine lv_iload_n hx hb d_Bl_sumOf_32 rfl (lv_at hl 2 rfl) ?_
          refine lv_icmp_ge (tgt := 72) hx hb d_Bl_sumOf_33 (by decide) (fun c_3 => ?_) (fun c_3 => ?_)
          · refine lv_iload hx hb d_Bl_sumOf_72 (lv_at hl 4 rfl) ?_
            rw [hQ]
            exact sf_iret sm hx hb hr hlk hS rfl rfl (by rw [← heq30]; simp only [f_Bl_sumOf_l, eq_true c_3, ↓reduceIte]) hP d_Bl_sumOf_74
          · have hlt : k < N := sf_lt_of (N := N) (by omega) (by omega) c_3
            refine lv_iload hx hb d_Bl_sumOf_36 (lv_at hl 4 rfl) ?_
            refine lv_aload_n hx hb d_Bl_sumOf_38 rfl (lv_at hl 0 rfl) ?_
            refine va_get (D := D) (ci := 0) (v := .ref a0) (C := R_Bl) (T := F_Bl) (N := 2) hx hb hts i_Bl hown hK hP 0 rfl rfl 0 (by decide) (hts _ wd_77) (fun _ h9 => h9) rfl d_Bl_sumOf_39 ?_
            refine lv_iload_n hx hb d_Bl_sumOf_42 rfl (lv_at hl 3 rfl) ?_
            refine lv_iload hx hb d_Bl_sumOf_43 (lv_at hl 5 rfl) ?_
            refine lv_iadd hx hb d_Bl_sumOf_45 ?_
            refine va_iald hx hb hK hP 1 0 rfl rfl (sf_sumin c_1 c_2 hN hn hlt) d_Bl_sumOf_46 ?_
            refine lv_ixor hx hb d_Bl_sumOf_47 ?_
            refine lv_istore (lv' := [(6, .int (sm ^^^ (F ((b * sz) + (nI k)).toNatClampNeg))), (0, .ref h0), (1, .int b), (2, .int (nI N)), (3, .int (b * sz)), (4, .int sm), (5, .int (nI k))]) hx hb d_Bl_sumOf_48 hl (by decide) rfl (fun ls hl => ?_)
            refine lv_iload hx hb d_Bl_sumOf_50 (lv_at hl 0 rfl) ?_
            refine lv_bipush (v := 23) hx hb d_Bl_sumOf_52 (by decide) ?_
            refine lv_ishl hx hb d_Bl_sumOf_54 ?_
            refine lv_iload hx hb d_Bl_sumOf_55 (lv_at hl 0 rfl) ?_
            refine lv_bipush (v := 9) hx hb d_Bl_sumOf_57 (by decide) ?_
            refine lv_iushr (v := (sf_ushr (sm ^^^ (F ((b * sz) + (nI k)).toNatClampNeg)) 9)) hx hb d_Bl_sumOf_59 rfl ?_
            refine lv_ior hx hb d_Bl_sumOf_60 ?_
            refine lv_ldc (v := (-1640531535)) hx hb hown (hts _ wd_185) d_Bl_sumOf_61 ?_
            refine lv_imul hx hb d_Bl_sumOf_63 ?_
            refine lv_istore (lv' := [(4, .int ((((sm ^^^ (F ((b * sz) + (nI k)).toNatClampNeg)) <<< (23 &&& 31)) ||| (sf_ushr (sm ^^^ (F ((b * sz) + (nI k)).toNatClampNeg)) 9)) * (-1640531535))), (6, .int (sm ^^^ (F ((b * sz) + (nI k)).toNatClampNeg))), (0, .ref h0), (1, .int b), (2, .int (nI N)), (3, .int (b * sz)), (5, .int (nI k))]) hx hb d_Bl_sumOf_64 hl (by decide) rfl (fun ls hl => ?_)
            refine lv_iinc (v := (nI (k + 1))) (lv' := [(5, .int (nI (k + 1))), (4, .int ((((sm ^^^ (F ((b * sz) + (nI k)).toNatClampNeg)) <<< (23 &&& 31)) ||| (sf_ushr (sm ^^^ (F ((b * sz) + (nI k)).toNatClampNeg)) 9)) * (-1640531535))), (6, .int (sm ^^^ (F ((b * sz) + (nI k)).toNatClampNeg))), (0, .ref h0), (1, .int b), (2, .int (nI N)), (3, .int (b * sz))]) hx hb d_Bl_sumOf_66 hl (k := 6) rfl (nI_1 k) (by decide) rfl (fun ls hl => ?_)
            refine lv_goto (tgt := 30) hx hb d_Bl_sumOf_69 (by decide) ?_
            exact ih30 (k + 1) ((((sm ^^^ (F ((b * sz) + (nI k)).toNatClampNeg)) <<< (23 &&& 31)) ||| (sf_ushr (sm ^^^ (F ((b * sz) + (nI k)).toNatClampNeg)) 9)) * (-1640531535)) (by omega) (by omega) (by rw [← heq30]; simp only [f_Bl_sumOf_l, eq_false c_3, ↓reduceIte]) _ _ hP hD hS ls (lv_sub hl [3, 4, 5, 6, 1, 0] rfl)
      exact loop30 (N + 1) 0 0 (by omega) (by omega) (by simp only [f_Bl_sumOf, eq_false c_1, eq_true c_2, ↓reduceIte]) _ _ hP hD hS ls (lv_sub hl [3, 4, 5, 2, 1, 0] rfl)
    · refine lv_iconst (v := 0) hx hb d_Bl_sumOf_22 (by decide) ?_
      rw [hQ]
      exact sf_iret 0 hx hb hr hlk hS rfl rfl (by simp only [f_Bl_sumOf, eq_false c_1, eq_false c_2, ↓reduceIte]) hP d_Bl_sumOf_23
def f_Bl_sumIsRight_l (n : Nat) (F : Nat → Int32) (b : Int32) (N : Nat) : Nat → Nat → Int32 → Int32
  | 0, _, _ => 0
  | fu + 1, k, hd =>
    if (nI (N + 4)) ≤ (nI (N + k)) then
      if hd = (f_Bl_sumOf n F (nI (N + 4)) b N) then
        1
      else
        0
    else
      f_Bl_sumIsRight_l n F b N fu (k + 1) ((hd <<< (8 &&& 31)) ||| (f_Bl_get n F (nI (N + 4)) b (nI (N + k))))
def f_Bl_sumIsRight (n : Nat) (F : Nat → Int32) (b : Int32) (N : Nat) : Int32 :=
  f_Bl_sumIsRight_l n F b N (4 + 1) 0 0
set_option maxHeartbeats 1000000 in
set_option maxRecDepth 100000 in
/-- sumIsRight -/
theorem c_Bl_sumIsRight (l : Launch) (D : va_G) (cI cZ cJ : ClassId) (h0 a0 n : Nat) (F : Nat → Int32) (b : Int32) (N : Nat) (hn : n < 2 ^ 31) (hN : N + 4 ≤ n) : sf_M (S := Int32) l D classes (sf_tys cI cZ cJ) y_Bl_sumIsRight (sf_ws y_Bl_sumIsRight b_Bl_sumIsRight 4 (some .boolean)) 1 26 [.ref h0, .int b] [(h0, .inr (0, [.ref a0, .int (nI (N + 4))])), (a0, .inl (cI, n, .inl F))] (fun r => some (.int r)) (fun r => r = f_Bl_sumIsRight n F b N) (fun _ => [(h0, .inr (0, [.ref a0, .int (nI (N + 4))])), (a0, .inl (cI, n, .inl F))]) := by
  refine sf_ofW (S := Int32) (by decide) (Nat.le_of_ble_eq_true rfl) ?_
  intro p e s m below meth c A ls R args Q hR hArgs hQ hC0 hr hK hP hD hl
  obtain ⟨hx, hb, hml, hown, hts, hA, hlk⟩ := hC0
  have hS : va_S A s.heap s.heap [] := va_S.rf
  have hl : lv_has ls 4 [(0, .ref h0), (1, .int b)] := hl
  refine lv_iconst (v := 0) hx hb d_Bl_sumIsRight_0 (by decide) ?_
  refine lv_istore_n (lv' := [(2, .int 0), (0, .ref h0), (1, .int b)]) hx hb d_Bl_sumIsRight_1 rfl hl (by decide) rfl (fun ls hl => ?_)
  refine lv_aload_n hx hb d_Bl_sumIsRight_2 rfl (lv_at hl 1 rfl) ?_
  refine va_get (D := D) (ci := 0) (v := .int (nI (N + 4))) (C := R_Bl) (T := F_Bl) (N := 2) hx hb hts i_Bl hown hK hP 0 rfl rfl 1 (by decide) (hts _ wd_78) (fun _ h9 => h9) rfl d_Bl_sumIsRight_3 ?_
  refine lv_iconst (v := 4) hx hb d_Bl_sumIsRight_6 (by decide) ?_
  refine lv_isub hx hb d_Bl_sumIsRight_7 ?_
  refine lv_istore_n (lv' := [(3, .int ((nI (N + 4)) - 4)), (2, .int 0), (0, .ref h0), (1, .int b)]) hx hb d_Bl_sumIsRight_8 rfl hl (by decide) rfl (fun ls hl => ?_)
  have loop9 : ∀ (fu k : Nat) (hd : Int32), k ≤ 4 → k + fu = 4 + 1 → f_Bl_sumIsRight_l n F b N fu k hd = f_Bl_sumIsRight n F b N → ∀ (H : Heap) (locs : List Loc), va_P D classes [(h0, .inr (0, [.ref a0, .int (nI (N + 4))])), (a0, .inl (cI, n, .inl F))] H → va_D A [(h0, .inr (0, [.ref a0, .int (nI (N + 4))])), (a0, .inl (cI, n, .inl F))] → va_S A s.heap H locs → ∀ (ls : Array Slot), lv_has ls 4 [(0, .ref h0), (1, .int b), (2, .int hd), (3, .int (nI (N + k)))] → W p l e R s m args below meth c H locs 0 0 Q (F0 m 9 ls []) := by
    intro fu
    induction fu with
    | zero =>
      intro k hd h1 h2
      exact absurd h2 (by omega)
    | succ fu ih9 =>
      intro k hd hk9 hkn9 heq9 H locs hP hD hS ls hl
      refine lv_iload_n hx hb d_Bl_sumIsRight_9 rfl (lv_at hl 3 rfl) ?_
      refine lv_aload_n hx hb d_Bl_sumIsRight_10 rfl (lv_at hl 0 rfl) ?_
      refine va_get (D := D) (ci := 0) (v := .int (nI (N + 4))) (C := R_Bl) (T := F_Bl) (N := 2) hx hb hts i_Bl hown hK hP 0 rfl rfl 1 (by decide) (hts _ wd_78) (fun _ h9 => h9) rfl d_Bl_sumIsRight_11 ?_
      refine lv_icmp_ge (tgt := 35) hx hb d_Bl_sumIsRight_14 (by decide) (fun c_1 => ?_) (fun c_1 => ?_)
      · refine lv_iload_n hx hb d_Bl_sumIsRight_35 rfl (lv_at hl 2 rfl) ?_
        refine lv_aload_n hx hb d_Bl_sumIsRight_36 rfl (lv_at hl 0 rfl) ?_
        refine lv_iload_n hx hb d_Bl_sumIsRight_37 rfl (lv_at hl 1 rfl) ?_
        refine lv_aload_n hx hb d_Bl_sumIsRight_38 rfl (lv_at hl 0 rfl) ?_
        refine va_get (D := D) (ci := 0) (v := .int (nI (N + 4))) (C := R_Bl) (T := F_Bl) (N := 2) hx hb hts i_Bl hown hK hP 0 rfl rfl 1 (by decide) (hts _ wd_78) (fun _ h9 => h9) rfl d_Bl_sumIsRight_39 ?_
        refine lv_iconst (v := 4) hx hb d_Bl_sumIsRight_42 (by decide) ?_
        refine lv_isub hx hb d_Bl_sumIsRight_43 ?_
        rw [sf_m4]
        refine sf_callVr (S := Int32) (rest := [.int hd]) ⟨hx, hb, hml, hown, hts⟩ (c_Bl_sumOf l D cI cZ cJ h0 a0 n F (nI (N + 4)) b N hn (by omega)) (sf_cwV lk_Bl_28 hts (fun _ h => h) (by rw [hR]; exact ⟨Nat.le_of_ble_eq_true rfl, Nat.le_of_ble_eq_true rfl⟩)) hK hP hD hS hA [0, 1] rfl rfl (fun _ => rfl) (ci := 0) (q0 := 0) rfl rfl rfl rfl rfl hl.1 (Nat.le_of_ble_eq_true rfl) d_Bl_sumIsRight_44 ⟨Nat.zero_le _, Nat.zero_le _⟩ (fun u_2 H locs hu_2 hP hS => ?_)
        refine lv_icmp_ne (tgt := 54) hx hb d_Bl_sumIsRight_47 (by decide) (fun c_3 => ?_) (fun c_3 => ?_)
        · refine lv_iconst (v := 0) hx hb d_Bl_sumIsRight_54 (by decide) ?_
          rw [hQ]
          exact sf_iret 0 hx hb hr hlk hS sf_b0 rfl (by rw [← heq9]; simp only [f_Bl_sumIsRight_l, ← hu_2, eq_true c_1, eq_false c_3, ↓reduceIte]) hP d_Bl_sumIsRight_55
        · refine lv_iconst (v := 1) hx hb d_Bl_sumIsRight_50 (by decide) ?_
          refine lv_goto (tgt := 55) hx hb d_Bl_sumIsRight_51 (by decide) ?_
          rw [hQ]
          exact sf_iret 1 hx hb hr hlk hS sf_b1 rfl (by rw [← heq9]; simp only [f_Bl_sumIsRight_l, ← hu_2, eq_true c_1, eq_true c_3, ↓reduceIte]) hP d_Bl_sumIsRight_55
      · have hlt : k < 4 := by have := sf_lt_of (N := N + 4) (k := N + k) (by omega) (by omega) c_1; omega
        refine lv_iload_n hx hb d_Bl_sumIsRight_17 rfl (lv_at hl 2 rfl) ?_
        refine lv_bipush (v := 8) hx hb d_Bl_sumIsRight_18 (by decide) ?_
        refine lv_ishl hx hb d_Bl_sumIsRight_20 ?_
        refine lv_aload_n hx hb d_Bl_sumIsRight_21 rfl (lv_at hl 0 rfl) ?_
        refine lv_iload_n hx hb d_Bl_sumIsRight_22 rfl (lv_at hl 1 rfl) ?_
        refine lv_iload_n hx hb d_Bl_sumIsRight_23 rfl (lv_at hl 3 rfl) ?_
        refine sf_callVr (S := Int32) (rest := [.int (hd <<< (8 &&& 31))]) ⟨hx, hb, hml, hown, hts⟩ (c_Bl_get l D cI cZ cJ h0 a0 n F (nI (N + 4)) b (nI (N + k)) hn) (sf_cwV lk_Bl_24 hts (fun _ h => h) (by rw [hR]; exact ⟨Nat.le_of_ble_eq_true rfl, Nat.le_of_ble_eq_true rfl⟩)) hK hP hD hS hA [0, 1] rfl rfl (fun _ => rfl) (ci := 0) (q0 := 0) rfl rfl rfl rfl rfl hl.1 (Nat.le_of_ble_eq_true rfl) d_Bl_sumIsRight_24 ⟨Nat.zero_le _, Nat.zero_le _⟩ (fun u_4 H locs hu_4 hP hS => ?_)
        refine lv_ior hx hb d_Bl_sumIsRight_27 ?_
        refine lv_istore_n (lv' := [(2, .int ((hd <<< (8 &&& 31)) ||| u_4)), (0, .ref h0), (1, .int b), (3, .int (nI (N + k)))]) hx hb d_Bl_sumIsRight_28 rfl hl (by decide) rfl (fun ls hl => ?_)
        refine lv_iinc (v := (nI (N + (k + 1)))) (lv' := [(3, .int (nI (N + (k + 1)))), (2, .int ((hd <<< (8 &&& 31)) ||| u_4)), (0, .ref h0), (1, .int b)]) hx hb d_Bl_sumIsRight_29 hl (k := 3) rfl (nI_1 (N + k)) (by decide) rfl (fun ls hl => ?_)
        refine lv_goto (tgt := 9) hx hb d_Bl_sumIsRight_32 (by decide) ?_
        exact ih9 (k + 1) ((hd <<< (8 &&& 31)) ||| u_4) (by omega) (by omega) (by rw [← heq9]; simp only [f_Bl_sumIsRight_l, ← hu_4, eq_false c_1, ↓reduceIte]) _ _ hP hD hS ls (lv_sub hl [2, 3, 1, 0] rfl)
  rw [sf_m4] at hl
  exact loop9 (4 + 1) 0 0 (by omega) (by omega) (by simp only [f_Bl_sumIsRight, ↓reduceIte]) _ _ hP hD hS ls (lv_sub hl [2, 3, 1, 0] rfl)
end
section
/-! chain: contracts, with the pure functions that they speak of (printed by wip/gen) -/
set_option maxRecDepth 20000 in
theorem wd_93 : Cond.fieldLink R_Ch 19 "ShadowFiles$Chain" "count" "I" ∈ sf_tb := sf_tb_in 93 rfl rfl
set_option maxRecDepth 20000 in
theorem wd_92 : Cond.fieldLink R_Ch 9 "ShadowFiles$Chain" "places" "[I" ∈ sf_tb := sf_tb_in 92 rfl rfl
set_option maxRecDepth 20000 in
theorem wd_97 : Cond.fieldLink R_Ch 32 "ShadowFiles$Chain" "month" "I" ∈ sf_tb := sf_tb_in 97 rfl rfl
set_option maxRecDepth 20000 in
theorem wd_95 : Cond.fieldLink R_Ch 15 "ShadowFiles$Chain" "broken" "Z" ∈ sf_tb := sf_tb_in 95 rfl rfl
set_option maxRecDepth 20000 in
theorem wd_96 : Cond.fieldLink R_Ch 23 "ShadowFiles$Chain" "held" "I" ∈ sf_tb := sf_tb_in 96 rfl rfl
set_option maxRecDepth 20000 in
theorem wd_359 : Cond.methodLink R_Ch 26 y_Bl_get ∈ sf_tb := sf_tb_in 359 rfl rfl
set_option maxRecDepth 20000 in
theorem wd_360 : Cond.methodLink R_Ch 35 y_Bl_hasBlock ∈ sf_tb := sf_tb_in 360 rfl rfl
set_option maxRecDepth 20000 in
theorem wd_363 : Cond.code y_Bl_hasBlock b_Bl_hasBlock 2 (some .boolean) ∈ sf_tb := sf_tb_in 363 rfl rfl
set_option maxRecDepth 20000 in
theorem wd_361 : Cond.instanceMethod y_Bl_hasBlock ∈ sf_tb := sf_tb_in 361 rfl rfl
set_option maxRecDepth 20000 in
theorem wd_362 : Cond.selects R_Bl y_Bl_hasBlock y_Bl_hasBlock ∈ sf_tb := sf_tb_in 362 rfl rfl
set_option maxRecDepth 20000 in
theorem wd_368 : Cond.methodLink R_Ch 39 y_Ch_wentThrough ∈ sf_tb := sf_tb_in 368 rfl rfl
set_option maxRecDepth 20000 in
theorem wd_371 : Cond.code y_Ch_wentThrough b_Ch_wentThrough 3 (some .boolean) ∈ sf_tb := sf_tb_in 371 rfl rfl
set_option maxRecDepth 20000 in
theorem wd_53 : Cond.initialized R_Ch ∈ sf_tb := sf_tb_in 53 rfl rfl
set_option maxRecDepth 20000 in
theorem wd_370 : Cond.instanceMethod y_Ch_wentThrough ∈ sf_tb := sf_tb_in 370 rfl rfl
set_option maxRecDepth 20000 in
theorem wd_10 : Cond.selects R_Ch y_Ch_wentThrough y_Ch_wentThrough ∈ sf_tb := sf_tb_in 10 rfl rfl
set_option maxRecDepth 20000 in
theorem wd_372 : Cond.methodLink R_Ch 42 y_Ch_isRight ∈ sf_tb := sf_tb_in 372 rfl rfl
set_option maxRecDepth 20000 in
theorem wd_375 : Cond.code y_Ch_isRight b_Ch_isRight 4 (some .boolean) ∈ sf_tb := sf_tb_in 375 rfl rfl
set_option maxRecDepth 20000 in
theorem wd_374 : Cond.instanceMethod y_Ch_isRight ∈ sf_tb := sf_tb_in 374 rfl rfl
set_option maxRecDepth 20000 in
theorem wd_11 : Cond.selects R_Ch y_Ch_isRight y_Ch_isRight ∈ sf_tb := sf_tb_in 11 rfl rfl
set_option maxRecDepth 20000 in
theorem wd_376 : Cond.methodLink R_Ch 46 y_Bl_sumIsRight ∈ sf_tb := sf_tb_in 376 rfl rfl
set_option maxRecDepth 20000 in
theorem wd_179 : Cond.code y_Bl_sumIsRight b_Bl_sumIsRight 4 (some .boolean) ∈ sf_tb := sf_tb_in 179 rfl rfl
set_option maxRecDepth 20000 in
theorem wd_177 : Cond.instanceMethod y_Bl_sumIsRight ∈ sf_tb := sf_tb_in 177 rfl rfl
set_option maxRecDepth 20000 in
theorem wd_178 : Cond.selects R_Bl y_Bl_sumIsRight y_Bl_sumIsRight ∈ sf_tb := sf_tb_in 178 rfl rfl
set_option maxRecDepth 20000 in
theorem wd_502 : Cond.methodLink R_Ch 49 y_Ch_placeAt ∈ sf_tb := sf_tb_in 502 rfl rfl
set_option maxRecDepth 20000 in
theorem wd_384 : Cond.code y_Ch_placeAt b_Ch_placeAt 2 (some .int) ∈ sf_tb := sf_tb_in 384 rfl rfl
set_option maxRecDepth 20000 in
theorem wd_382 : Cond.instanceMethod y_Ch_placeAt ∈ sf_tb := sf_tb_in 382 rfl rfl
set_option maxRecDepth 20000 in
theorem wd_383 : Cond.selects R_Ch y_Ch_placeAt y_Ch_placeAt ∈ sf_tb := sf_tb_in 383 rfl rfl
theorem lk_Ch_26 : sf_LV R_Ch 26 y_Bl_get b_Bl_get 4 (some .int) 2 := ⟨wd_175, wd_359, wd_173, wd_174, wd_52, by decide +kernel⟩
theorem lk_Ch_35 : sf_LV R_Ch 35 y_Bl_hasBlock b_Bl_hasBlock 2 (some .boolean) 1 := ⟨wd_363, wd_360, wd_361, wd_362, wd_52, by decide +kernel⟩
theorem lk_Ch_39 : sf_LV R_Ch 39 y_Ch_wentThrough b_Ch_wentThrough 3 (some .boolean) 1 := ⟨wd_371, wd_368, wd_370, wd_10, wd_53, by decide +kernel⟩
theorem lk_Ch_42 : sf_LV R_Ch 42 y_Ch_isRight b_Ch_isRight 4 (some .boolean) 2 := ⟨wd_375, wd_372, wd_374, wd_11, wd_53, by decide +kernel⟩
theorem lk_Ch_46 : sf_LV R_Ch 46 y_Bl_sumIsRight b_Bl_sumIsRight 4 (some .boolean) 1 := ⟨wd_179, wd_376, wd_177, wd_178, wd_52, by decide +kernel⟩
theorem lk_Ch_49 : sf_LV R_Ch 49 y_Ch_placeAt b_Ch_placeAt 2 (some .int) 1 := ⟨wd_384, wd_502, wd_382, wd_383, wd_53, by decide +kernel⟩
theorem d_Ch_wentThrough_0 : decode b_Ch_wentThrough 0 = .ok (.iconst 0, 1) := by decide +kernel
theorem d_Ch_wentThrough_1 : decode b_Ch_wentThrough 1 = .ok (.istore_n 2, 1) := by decide +kernel
theorem d_Ch_wentThrough_2 : decode b_Ch_wentThrough 2 = .ok (.iload_n 2, 1) := by decide +kernel
theorem d_Ch_wentThrough_3 : decode b_Ch_wentThrough 3 = .ok (.aload_n 0, 1) := by decide +kernel
theorem d_Ch_wentThrough_4 : decode b_Ch_wentThrough 4 = .ok (.getfield 19, 3) := by decide +kernel
theorem d_Ch_wentThrough_7 : decode b_Ch_wentThrough 7 = .ok (.if_icmp .ge 26, 3) := by decide +kernel
theorem d_Ch_wentThrough_10 : decode b_Ch_wentThrough 10 = .ok (.iload_n 2, 1) := by decide +kernel
theorem d_Ch_wentThrough_11 : decode b_Ch_wentThrough 11 = .ok (.iconst 3, 1) := by decide +kernel
theorem d_Ch_wentThrough_12 : decode b_Ch_wentThrough 12 = .ok (.if_icmp .ge 21, 3) := by decide +kernel
theorem d_Ch_wentThrough_15 : decode b_Ch_wentThrough 15 = .ok (.aload_n 0, 1) := by decide +kernel
theorem d_Ch_wentThrough_16 : decode b_Ch_wentThrough 16 = .ok (.getfield 9, 3) := by decide +kernel
theorem d_Ch_wentThrough_19 : decode b_Ch_wentThrough 19 = .ok (.iload_n 2, 1) := by decide +kernel
theorem d_Ch_wentThrough_20 : decode b_Ch_wentThrough 20 = .ok (.iaload, 1) := by decide +kernel
theorem d_Ch_wentThrough_21 : decode b_Ch_wentThrough 21 = .ok (.iload_n 1, 1) := by decide +kernel
theorem d_Ch_wentThrough_22 : decode b_Ch_wentThrough 22 = .ok (.if_icmp .ne 5, 3) := by decide +kernel
theorem d_Ch_wentThrough_25 : decode b_Ch_wentThrough 25 = .ok (.iconst 1, 1) := by decide +kernel
theorem d_Ch_wentThrough_26 : decode b_Ch_wentThrough 26 = .ok (.ireturn, 1) := by decide +kernel
theorem d_Ch_wentThrough_27 : decode b_Ch_wentThrough 27 = .ok (.iinc 2 1, 3) := by decide +kernel
theorem d_Ch_wentThrough_30 : decode b_Ch_wentThrough 30 = .ok (.goto (-28), 3) := by decide +kernel
theorem d_Ch_wentThrough_33 : decode b_Ch_wentThrough 33 = .ok (.iconst 0, 1) := by decide +kernel
theorem d_Ch_wentThrough_34 : decode b_Ch_wentThrough 34 = .ok (.ireturn, 1) := by decide +kernel
theorem d_Ch_isRight_0 : decode b_Ch_isRight 0 = .ok (.aload_n 1, 1) := by decide +kernel
theorem d_Ch_isRight_1 : decode b_Ch_isRight 1 = .ok (.iload_n 2, 1) := by decide +kernel
theorem d_Ch_isRight_2 : decode b_Ch_isRight 2 = .ok (.iconst 1, 1) := by decide +kernel
theorem d_Ch_isRight_3 : decode b_Ch_isRight 3 = .ok (.invokevirtual 26, 3) := by decide +kernel
theorem d_Ch_isRight_6 : decode b_Ch_isRight 6 = .ok (.istore_n 3, 1) := by decide +kernel
theorem d_Ch_isRight_7 : decode b_Ch_isRight 7 = .ok (.iload_n 3, 1) := by decide +kernel
theorem d_Ch_isRight_8 : decode b_Ch_isRight 8 = .ok (.iconst 1, 1) := by decide +kernel
theorem d_Ch_isRight_9 : decode b_Ch_isRight 9 = .ok (.if_icmp .lt 34, 3) := by decide +kernel
theorem d_Ch_isRight_12 : decode b_Ch_isRight 12 = .ok (.iload_n 3, 1) := by decide +kernel
theorem d_Ch_isRight_13 : decode b_Ch_isRight 13 = .ok (.bipush 25, 2) := by decide +kernel
theorem d_Ch_isRight_15 : decode b_Ch_isRight 15 = .ok (.if_icmp .gt 28, 3) := by decide +kernel
theorem d_Ch_isRight_18 : decode b_Ch_isRight 18 = .ok (.aload_n 1, 1) := by decide +kernel
theorem d_Ch_isRight_19 : decode b_Ch_isRight 19 = .ok (.iload_n 2, 1) := by decide +kernel
theorem d_Ch_isRight_20 : decode b_Ch_isRight 20 = .ok (.iconst 2, 1) := by decide +kernel
theorem d_Ch_isRight_21 : decode b_Ch_isRight 21 = .ok (.invokevirtual 26, 3) := by decide +kernel
theorem d_Ch_isRight_24 : decode b_Ch_isRight 24 = .ok (.aload_n 0, 1) := by decide +kernel
theorem d_Ch_isRight_25 : decode b_Ch_isRight 25 = .ok (.getfield 32, 3) := by decide +kernel
theorem d_Ch_isRight_28 : decode b_Ch_isRight 28 = .ok (.if_icmp .ne 15, 3) := by decide +kernel
theorem d_Ch_isRight_31 : decode b_Ch_isRight 31 = .ok (.aload_n 1, 1) := by decide +kernel
theorem d_Ch_isRight_32 : decode b_Ch_isRight 32 = .ok (.iload_n 2, 1) := by decide +kernel
theorem d_Ch_isRight_33 : decode b_Ch_isRight 33 = .ok (.invokevirtual 46, 3) := by decide +kernel
theorem d_Ch_isRight_36 : decode b_Ch_isRight 36 = .ok (.ifCond .eq 7, 3) := by decide +kernel
theorem d_Ch_isRight_39 : decode b_Ch_isRight 39 = .ok (.iconst 1, 1) := by decide +kernel
theorem d_Ch_isRight_40 : decode b_Ch_isRight 40 = .ok (.goto 4, 3) := by decide +kernel
theorem d_Ch_isRight_43 : decode b_Ch_isRight 43 = .ok (.iconst 0, 1) := by decide +kernel
theorem d_Ch_isRight_44 : decode b_Ch_isRight 44 = .ok (.ireturn, 1) := by decide +kernel
theorem d_Ch_placeAt_0 : decode b_Ch_placeAt 0 = .ok (.iload_n 1, 1) := by decide +kernel
theorem d_Ch_placeAt_1 : decode b_Ch_placeAt 1 = .ok (.ifCond .lt 25, 3) := by decide +kernel
theorem d_Ch_placeAt_4 : decode b_Ch_placeAt 4 = .ok (.iload_n 1, 1) := by decide +kernel
theorem d_Ch_placeAt_5 : decode b_Ch_placeAt 5 = .ok (.aload_n 0, 1) := by decide +kernel
theorem d_Ch_placeAt_6 : decode b_Ch_placeAt 6 = .ok (.getfield 19, 3) := by decide +kernel
theorem d_Ch_placeAt_9 : decode b_Ch_placeAt 9 = .ok (.if_icmp .ge 17, 3) := by decide +kernel
theorem d_Ch_placeAt_12 : decode b_Ch_placeAt 12 = .ok (.iload_n 1, 1) := by decide +kernel
theorem d_Ch_placeAt_13 : decode b_Ch_placeAt 13 = .ok (.iconst 3, 1) := by decide +kernel
theorem d_Ch_placeAt_14 : decode b_Ch_placeAt 14 = .ok (.if_icmp .ge 12, 3) := by decide +kernel
theorem d_Ch_placeAt_17 : decode b_Ch_placeAt 17 = .ok (.aload_n 0, 1) := by decide +kernel
theorem d_Ch_placeAt_18 : decode b_Ch_placeAt 18 = .ok (.getfield 9, 3) := by decide +kernel
theorem d_Ch_placeAt_21 : decode b_Ch_placeAt 21 = .ok (.iload_n 1, 1) := by decide +kernel
theorem d_Ch_placeAt_22 : decode b_Ch_placeAt 22 = .ok (.iaload, 1) := by decide +kernel
theorem d_Ch_placeAt_23 : decode b_Ch_placeAt 23 = .ok (.goto 4, 3) := by decide +kernel
theorem d_Ch_placeAt_26 : decode b_Ch_placeAt 26 = .ok (.iconst (-1), 1) := by decide +kernel
theorem d_Ch_placeAt_27 : decode b_Ch_placeAt 27 = .ok (.ireturn, 1) := by decide +kernel
theorem d_Ch_bytes_0 : decode b_Ch_bytes 0 = .ok (.aload_n 0, 1) := by decide +kernel
theorem d_Ch_bytes_1 : decode b_Ch_bytes 1 = .ok (.getfield 15, 3) := by decide +kernel
theorem d_Ch_bytes_4 : decode b_Ch_bytes 4 = .ok (.ifCond .eq 7, 3) := by decide +kernel
theorem d_Ch_bytes_7 : decode b_Ch_bytes 7 = .ok (.iconst 0, 1) := by decide +kernel
theorem d_Ch_bytes_8 : decode b_Ch_bytes 8 = .ok (.goto 7, 3) := by decide +kernel
theorem d_Ch_bytes_11 : decode b_Ch_bytes 11 = .ok (.aload_n 0, 1) := by decide +kernel
theorem d_Ch_bytes_12 : decode b_Ch_bytes 12 = .ok (.getfield 23, 3) := by decide +kernel
theorem d_Ch_bytes_15 : decode b_Ch_bytes 15 = .ok (.ireturn, 1) := by decide +kernel
theorem d_Ch_monthOrNone_0 : decode b_Ch_monthOrNone 0 = .ok (.aload_n 0, 1) := by decide +kernel
theorem d_Ch_monthOrNone_1 : decode b_Ch_monthOrNone 1 = .ok (.getfield 15, 3) := by decide +kernel
theorem d_Ch_monthOrNone_4 : decode b_Ch_monthOrNone 4 = .ok (.ifCond .eq 7, 3) := by decide +kernel
theorem d_Ch_monthOrNone_7 : decode b_Ch_monthOrNone 7 = .ok (.iconst (-1), 1) := by decide +kernel
theorem d_Ch_monthOrNone_8 : decode b_Ch_monthOrNone 8 = .ok (.goto 7, 3) := by decide +kernel
theorem d_Ch_monthOrNone_11 : decode b_Ch_monthOrNone 11 = .ok (.aload_n 0, 1) := by decide +kernel
theorem d_Ch_monthOrNone_12 : decode b_Ch_monthOrNone 12 = .ok (.getfield 32, 3) := by decide +kernel
theorem d_Ch_monthOrNone_15 : decode b_Ch_monthOrNone 15 = .ok (.ireturn, 1) := by decide +kernel
theorem d_Ch_dataAt_0 : decode b_Ch_dataAt 0 = .ok (.iload_n 2, 1) := by decide +kernel
theorem d_Ch_dataAt_1 : decode b_Ch_dataAt 1 = .ok (.istore_n 3, 1) := by decide +kernel
theorem d_Ch_dataAt_2 : decode b_Ch_dataAt 2 = .ok (.iconst 0, 1) := by decide +kernel
theorem d_Ch_dataAt_3 : decode b_Ch_dataAt 3 = .ok (.istore 4, 2) := by decide +kernel
theorem d_Ch_dataAt_5 : decode b_Ch_dataAt 5 = .ok (.iload 4, 2) := by decide +kernel
theorem d_Ch_dataAt_7 : decode b_Ch_dataAt 7 = .ok (.aload_n 0, 1) := by decide +kernel
theorem d_Ch_dataAt_8 : decode b_Ch_dataAt 8 = .ok (.getfield 19, 3) := by decide +kernel
theorem d_Ch_dataAt_11 : decode b_Ch_dataAt 11 = .ok (.if_icmp .ge 47, 3) := by decide +kernel
theorem d_Ch_dataAt_14 : decode b_Ch_dataAt 14 = .ok (.aload_n 0, 1) := by decide +kernel
theorem d_Ch_dataAt_15 : decode b_Ch_dataAt 15 = .ok (.iload 4, 2) := by decide +kernel
theorem d_Ch_dataAt_17 : decode b_Ch_dataAt 17 = .ok (.invokevirtual 49, 3) := by decide +kernel
theorem d_Ch_dataAt_20 : decode b_Ch_dataAt 20 = .ok (.istore 5, 2) := by decide +kernel
theorem d_Ch_dataAt_22 : decode b_Ch_dataAt 22 = .ok (.aload_n 1, 1) := by decide +kernel
theorem d_Ch_dataAt_23 : decode b_Ch_dataAt 23 = .ok (.iload 5, 2) := by decide +kernel
theorem d_Ch_dataAt_25 : decode b_Ch_dataAt 25 = .ok (.iconst 1, 1) := by decide +kernel
theorem d_Ch_dataAt_26 : decode b_Ch_dataAt 26 = .ok (.invokevirtual 26, 3) := by decide +kernel
theorem d_Ch_dataAt_29 : decode b_Ch_dataAt 29 = .ok (.istore 6, 2) := by decide +kernel
theorem d_Ch_dataAt_31 : decode b_Ch_dataAt 31 = .ok (.iload_n 3, 1) := by decide +kernel
theorem d_Ch_dataAt_32 : decode b_Ch_dataAt 32 = .ok (.iload 6, 2) := by decide +kernel
theorem d_Ch_dataAt_34 : decode b_Ch_dataAt 34 = .ok (.if_icmp .ge 13, 3) := by decide +kernel
theorem d_Ch_dataAt_37 : decode b_Ch_dataAt 37 = .ok (.aload_n 1, 1) := by decide +kernel
theorem d_Ch_dataAt_38 : decode b_Ch_dataAt 38 = .ok (.iload 5, 2) := by decide +kernel
theorem d_Ch_dataAt_40 : decode b_Ch_dataAt 40 = .ok (.iconst 3, 1) := by decide +kernel
theorem d_Ch_dataAt_41 : decode b_Ch_dataAt 41 = .ok (.iload_n 3, 1) := by decide +kernel
theorem d_Ch_dataAt_42 : decode b_Ch_dataAt 42 = .ok (.iadd, 1) := by decide +kernel
theorem d_Ch_dataAt_43 : decode b_Ch_dataAt 43 = .ok (.invokevirtual 26, 3) := by decide +kernel
theorem d_Ch_dataAt_46 : decode b_Ch_dataAt 46 = .ok (.ireturn, 1) := by decide +kernel
theorem d_Ch_dataAt_47 : decode b_Ch_dataAt 47 = .ok (.iload_n 3, 1) := by decide +kernel
theorem d_Ch_dataAt_48 : decode b_Ch_dataAt 48 = .ok (.iload 6, 2) := by decide +kernel
theorem d_Ch_dataAt_50 : decode b_Ch_dataAt 50 = .ok (.isub, 1) := by decide +kernel
theorem d_Ch_dataAt_51 : decode b_Ch_dataAt 51 = .ok (.istore_n 3, 1) := by decide +kernel
theorem d_Ch_dataAt_52 : decode b_Ch_dataAt 52 = .ok (.iinc 4 1, 3) := by decide +kernel
theorem d_Ch_dataAt_55 : decode b_Ch_dataAt 55 = .ok (.goto (-50), 3) := by decide +kernel
theorem d_Ch_dataAt_58 : decode b_Ch_dataAt 58 = .ok (.iconst 0, 1) := by decide +kernel
theorem d_Ch_dataAt_59 : decode b_Ch_dataAt 59 = .ok (.ireturn, 1) := by decide +kernel
theorem d_Ch_follow_0 : decode b_Ch_follow 0 = .ok (.aload_n 0, 1) := by decide +kernel
theorem d_Ch_follow_1 : decode b_Ch_follow 1 = .ok (.iconst 0, 1) := by decide +kernel
theorem d_Ch_follow_2 : decode b_Ch_follow 2 = .ok (.putfield 19, 3) := by decide +kernel
theorem d_Ch_follow_5 : decode b_Ch_follow 5 = .ok (.aload_n 0, 1) := by decide +kernel
theorem d_Ch_follow_6 : decode b_Ch_follow 6 = .ok (.iconst 1, 1) := by decide +kernel
theorem d_Ch_follow_7 : decode b_Ch_follow 7 = .ok (.putfield 15, 3) := by decide +kernel
theorem d_Ch_follow_10 : decode b_Ch_follow 10 = .ok (.aload_n 0, 1) := by decide +kernel
theorem d_Ch_follow_11 : decode b_Ch_follow 11 = .ok (.iconst 0, 1) := by decide +kernel
theorem d_Ch_follow_12 : decode b_Ch_follow 12 = .ok (.putfield 23, 3) := by decide +kernel
theorem d_Ch_follow_15 : decode b_Ch_follow 15 = .ok (.aload_n 0, 1) := by decide +kernel
theorem d_Ch_follow_16 : decode b_Ch_follow 16 = .ok (.aload_n 1, 1) := by decide +kernel
theorem d_Ch_follow_17 : decode b_Ch_follow 17 = .ok (.iload_n 2, 1) := by decide +kernel
theorem d_Ch_follow_18 : decode b_Ch_follow 18 = .ok (.iconst 2, 1) := by decide +kernel
theorem d_Ch_follow_19 : decode b_Ch_follow 19 = .ok (.invokevirtual 26, 3) := by decide +kernel
theorem d_Ch_follow_22 : decode b_Ch_follow 22 = .ok (.putfield 32, 3) := by decide +kernel
theorem d_Ch_follow_25 : decode b_Ch_follow 25 = .ok (.iload_n 2, 1) := by decide +kernel
theorem d_Ch_follow_26 : decode b_Ch_follow 26 = .ok (.istore_n 3, 1) := by decide +kernel
theorem d_Ch_follow_27 : decode b_Ch_follow 27 = .ok (.iconst 0, 1) := by decide +kernel
theorem d_Ch_follow_28 : decode b_Ch_follow 28 = .ok (.istore 4, 2) := by decide +kernel
theorem d_Ch_follow_30 : decode b_Ch_follow 30 = .ok (.iload 4, 2) := by decide +kernel
theorem d_Ch_follow_32 : decode b_Ch_follow 32 = .ok (.iconst 3, 1) := by decide +kernel
theorem d_Ch_follow_33 : decode b_Ch_follow 33 = .ok (.if_icmp .ge 91, 3) := by decide +kernel
theorem d_Ch_follow_36 : decode b_Ch_follow 36 = .ok (.aload_n 1, 1) := by decide +kernel
theorem d_Ch_follow_37 : decode b_Ch_follow 37 = .ok (.iload_n 3, 1) := by decide +kernel
theorem d_Ch_follow_38 : decode b_Ch_follow 38 = .ok (.invokevirtual 35, 3) := by decide +kernel
theorem d_Ch_follow_41 : decode b_Ch_follow 41 = .ok (.ifCond .eq 11, 3) := by decide +kernel
theorem d_Ch_follow_44 : decode b_Ch_follow 44 = .ok (.aload_n 0, 1) := by decide +kernel
theorem d_Ch_follow_45 : decode b_Ch_follow 45 = .ok (.iload_n 3, 1) := by decide +kernel
theorem d_Ch_follow_46 : decode b_Ch_follow 46 = .ok (.invokevirtual 39, 3) := by decide +kernel
theorem d_Ch_follow_49 : decode b_Ch_follow 49 = .ok (.ifCond .eq 4, 3) := by decide +kernel
theorem d_Ch_follow_52 : decode b_Ch_follow 52 = .ok (.return_, 1) := by decide +kernel
theorem d_Ch_follow_53 : decode b_Ch_follow 53 = .ok (.aload_n 0, 1) := by decide +kernel
theorem d_Ch_follow_54 : decode b_Ch_follow 54 = .ok (.getfield 9, 3) := by decide +kernel
theorem d_Ch_follow_57 : decode b_Ch_follow 57 = .ok (.iload 4, 2) := by decide +kernel
theorem d_Ch_follow_59 : decode b_Ch_follow 59 = .ok (.iload_n 3, 1) := by decide +kernel
theorem d_Ch_follow_60 : decode b_Ch_follow 60 = .ok (.iastore, 1) := by decide +kernel
theorem d_Ch_follow_61 : decode b_Ch_follow 61 = .ok (.aload_n 0, 1) := by decide +kernel
theorem d_Ch_follow_62 : decode b_Ch_follow 62 = .ok (.iload 4, 2) := by decide +kernel
theorem d_Ch_follow_64 : decode b_Ch_follow 64 = .ok (.iconst 1, 1) := by decide +kernel
theorem d_Ch_follow_65 : decode b_Ch_follow 65 = .ok (.iadd, 1) := by decide +kernel
theorem d_Ch_follow_66 : decode b_Ch_follow 66 = .ok (.putfield 19, 3) := by decide +kernel
theorem d_Ch_follow_69 : decode b_Ch_follow 69 = .ok (.aload_n 0, 1) := by decide +kernel
theorem d_Ch_follow_70 : decode b_Ch_follow 70 = .ok (.aload_n 1, 1) := by decide +kernel
theorem d_Ch_follow_71 : decode b_Ch_follow 71 = .ok (.iload_n 3, 1) := by decide +kernel
theorem d_Ch_follow_72 : decode b_Ch_follow 72 = .ok (.invokevirtual 42, 3) := by decide +kernel
theorem d_Ch_follow_75 : decode b_Ch_follow 75 = .ok (.ifCond .ne 4, 3) := by decide +kernel
theorem d_Ch_follow_78 : decode b_Ch_follow 78 = .ok (.return_, 1) := by decide +kernel
theorem d_Ch_follow_79 : decode b_Ch_follow 79 = .ok (.aload_n 0, 1) := by decide +kernel
theorem d_Ch_follow_80 : decode b_Ch_follow 80 = .ok (.dup, 1) := by decide +kernel
theorem d_Ch_follow_81 : decode b_Ch_follow 81 = .ok (.getfield 23, 3) := by decide +kernel
theorem d_Ch_follow_84 : decode b_Ch_follow 84 = .ok (.aload_n 1, 1) := by decide +kernel
theorem d_Ch_follow_85 : decode b_Ch_follow 85 = .ok (.iload_n 3, 1) := by decide +kernel
theorem d_Ch_follow_86 : decode b_Ch_follow 86 = .ok (.iconst 1, 1) := by decide +kernel
theorem d_Ch_follow_87 : decode b_Ch_follow 87 = .ok (.invokevirtual 26, 3) := by decide +kernel
theorem d_Ch_follow_90 : decode b_Ch_follow 90 = .ok (.iadd, 1) := by decide +kernel
theorem d_Ch_follow_91 : decode b_Ch_follow 91 = .ok (.putfield 23, 3) := by decide +kernel
theorem d_Ch_follow_94 : decode b_Ch_follow 94 = .ok (.aload_n 1, 1) := by decide +kernel
theorem d_Ch_follow_95 : decode b_Ch_follow 95 = .ok (.iload_n 3, 1) := by decide +kernel
theorem d_Ch_follow_96 : decode b_Ch_follow 96 = .ok (.iconst 0, 1) := by decide +kernel
theorem d_Ch_follow_97 : decode b_Ch_follow 97 = .ok (.invokevirtual 26, 3) := by decide +kernel
theorem d_Ch_follow_100 : decode b_Ch_follow 100 = .ok (.istore 5, 2) := by decide +kernel
theorem d_Ch_follow_102 : decode b_Ch_follow 102 = .ok (.iload 5, 2) := by decide +kernel
theorem d_Ch_follow_104 : decode b_Ch_follow 104 = .ok (.ifCond .ne 9, 3) := by decide +kernel
theorem d_Ch_follow_107 : decode b_Ch_follow 107 = .ok (.aload_n 0, 1) := by decide +kernel
theorem d_Ch_follow_108 : decode b_Ch_follow 108 = .ok (.iconst 0, 1) := by decide +kernel
theorem d_Ch_follow_109 : decode b_Ch_follow 109 = .ok (.putfield 15, 3) := by decide +kernel
theorem d_Ch_follow_112 : decode b_Ch_follow 112 = .ok (.return_, 1) := by decide +kernel
theorem d_Ch_follow_113 : decode b_Ch_follow 113 = .ok (.iload 5, 2) := by decide +kernel
theorem d_Ch_follow_115 : decode b_Ch_follow 115 = .ok (.iconst 1, 1) := by decide +kernel
theorem d_Ch_follow_116 : decode b_Ch_follow 116 = .ok (.isub, 1) := by decide +kernel
theorem d_Ch_follow_117 : decode b_Ch_follow 117 = .ok (.istore_n 3, 1) := by decide +kernel
theorem d_Ch_follow_118 : decode b_Ch_follow 118 = .ok (.iinc 4 1, 3) := by decide +kernel
theorem d_Ch_follow_121 : decode b_Ch_follow 121 = .ok (.goto (-91), 3) := by decide +kernel
theorem d_Ch_follow_124 : decode b_Ch_follow 124 = .ok (.return_, 1) := by decide +kernel
def f_Ch_wentThrough_l (pl : Nat → Int32) (cnt zp : Int32) : Nat → Nat → Int32
  | 0, _ => 0
  | fu + 1, k =>
    if cnt ≤ (nI k) then
      0
    else
      if 3 ≤ (nI k) then
        0
      else
        if (pl k) = zp then
          1
        else
          f_Ch_wentThrough_l pl cnt zp fu (k + 1)
def f_Ch_wentThrough (pl : Nat → Int32) (cnt zp : Int32) : Int32 :=
  f_Ch_wentThrough_l pl cnt zp (3 + 1) 0
set_option maxHeartbeats 1000000 in
set_option maxRecDepth 100000 in
/-- wentThrough -/
theorem c_Ch_wentThrough (l : Launch) (D : va_G) (cI cZ cJ : ClassId) (h0 a0 : Nat) (pl : Nat → Int32) (cnt brk hld mon : Int32) (zp : Int32) : sf_M (S := Int32) l D classes (sf_tys cI cZ cJ) y_Ch_wentThrough (sf_ws y_Ch_wentThrough b_Ch_wentThrough 3 (some .boolean)) 0 0 [.ref h0, .int zp] [(h0, .inr (1, [.ref a0, .int cnt, .int brk, .int hld, .int mon])), (a0, .inl (cI, 3, .inl pl))] (fun r => some (.int r)) (fun r => r = f_Ch_wentThrough pl cnt zp) (fun _ => [(h0, .inr (1, [.ref a0, .int cnt, .int brk, .int hld, .int mon])), (a0, .inl (cI, 3, .inl pl))]) := by
  refine sf_ofW (S := Int32) (by decide) (Nat.le_of_ble_eq_true rfl) ?_
  intro p e s m below meth c A ls R args Q hR hArgs hQ hC0 hr hK hP hD hl
  obtain ⟨hx, hb, hml, hown, hts, hA, hlk⟩ := hC0
  have hS : va_S A s.heap s.heap [] := va_S.rf
  have hl : lv_has ls 3 [(0, .ref h0), (1, .int zp)] := hl
  refine lv_iconst (v := 0) hx hb d_Ch_wentThrough_0 (by decide) ?_
  refine lv_istore_n (lv' := [(2, .int 0), (0, .ref h0), (1, .int zp)]) hx hb d_Ch_wentThrough_1 rfl hl (by decide) rfl (fun ls hl => ?_)
  have loop2 : ∀ (fu k : Nat), k ≤ 3 → k + fu = 3 + 1 → f_Ch_wentThrough_l pl cnt zp fu k = f_Ch_wentThrough pl cnt zp → ∀ (H : Heap) (locs : List Loc), va_P D classes [(h0, .inr (1, [.ref a0, .int cnt, .int brk, .int hld, .int mon])), (a0, .inl (cI, 3, .inl pl))] H → va_D A [(h0, .inr (1, [.ref a0, .int cnt, .int brk, .int hld, .int mon])), (a0, .inl (cI, 3, .inl pl))] → va_S A s.heap H locs → ∀ (ls : Array Slot), lv_has ls 3 [(0, .ref h0), (1, .int zp), (2, .int (nI k))] → W p l e R s m args below meth c H locs 0 0 Q (F0 m 2 ls []) := by
    intro fu
    induction fu with
    | zero =>
      intro k h1 h2
      exact absurd h2 (by omega)
    | succ fu ih2 =>
      intro k hk2 hkn2 heq2 H locs hP hD hS ls hl
      refine lv_iload_n hx hb d_Ch_wentThrough_2 rfl (lv_at hl 2 rfl) ?_
      refine lv_aload_n hx hb d_Ch_wentThrough_3 rfl (lv_at hl 0 rfl) ?_
      refine va_get (D := D) (ci := 1) (v := .int cnt) (C := R_Ch) (T := F_Ch) (N := 5) hx hb hts i_Ch hown hK hP 0 rfl rfl 1 (by decide) (hts _ wd_93) (fun _ h9 => h9) rfl d_Ch_wentThrough_4 ?_
      refine lv_icmp_ge (tgt := 33) hx hb d_Ch_wentThrough_7 (by decide) (fun c_1 => ?_) (fun c_1 => ?_)
      · refine lv_iconst (v := 0) hx hb d_Ch_wentThrough_33 (by decide) ?_
        rw [hQ]
        exact sf_iret 0 hx hb hr hlk hS sf_b0 rfl (by rw [← heq2]; simp only [f_Ch_wentThrough_l, eq_true c_1, ↓reduceIte]) hP d_Ch_wentThrough_34
      · refine lv_iload_n hx hb d_Ch_wentThrough_10 rfl (lv_at hl 2 rfl) ?_
        refine lv_iconst (v := 3) hx hb d_Ch_wentThrough_11 (by decide) ?_
        refine lv_icmp_ge (tgt := 33) hx hb d_Ch_wentThrough_12 (by decide) (fun c_2 => ?_) (fun c_2 => ?_)
        · refine lv_iconst (v := 0) hx hb d_Ch_wentThrough_33 (by decide) ?_
          rw [hQ]
          exact sf_iret 0 hx hb hr hlk hS sf_b0 rfl (by rw [← heq2]; simp only [f_Ch_wentThrough_l, eq_false c_1, eq_true c_2, ↓reduceIte]) hP d_Ch_wentThrough_34
        · have hlt : k < 3 := sf_lt_of (N := 3) (by omega) (by omega) c_2
          refine lv_aload_n hx hb d_Ch_wentThrough_15 rfl (lv_at hl 0 rfl) ?_
          refine va_get (D := D) (ci := 1) (v := .ref a0) (C := R_Ch) (T := F_Ch) (N := 5) hx hb hts i_Ch hown hK hP 0 rfl rfl 0 (by decide) (hts _ wd_92) (fun _ h9 => h9) rfl d_Ch_wentThrough_16 ?_
          refine lv_iload_n hx hb d_Ch_wentThrough_19 rfl (lv_at hl 2 rfl) ?_
          refine va_iald hx hb hK hP 1 0 rfl rfl (vp_in_nI hlt (by omega)) d_Ch_wentThrough_20 ?_
          rw [nI_clamp (n := k) (by omega)]
          refine lv_iload_n hx hb d_Ch_wentThrough_21 rfl (lv_at hl 1 rfl) ?_
          refine lv_icmp_ne (tgt := 27) hx hb d_Ch_wentThrough_22 (by decide) (fun c_3 => ?_) (fun c_3 => ?_)
          · refine lv_iinc (v := (nI (k + 1))) (lv' := [(2, .int (nI (k + 1))), (0, .ref h0), (1, .int zp)]) hx hb d_Ch_wentThrough_27 hl (k := 2) rfl (nI_1 k) (by decide) rfl (fun ls hl => ?_)
            refine lv_goto (tgt := 2) hx hb d_Ch_wentThrough_30 (by decide) ?_
            exact ih2 (k + 1) (by omega) (by omega) (by rw [← heq2]; simp only [f_Ch_wentThrough_l, eq_false c_1, eq_false c_2, eq_false c_3, ↓reduceIte]) _ _ hP hD hS ls (lv_sub hl [1, 2, 0] rfl)
          · refine lv_iconst (v := 1) hx hb d_Ch_wentThrough_25 (by decide) ?_
            rw [hQ]
            exact sf_iret 1 hx hb hr hlk hS sf_b1 rfl (by rw [← heq2]; simp only [f_Ch_wentThrough_l, eq_false c_1, eq_false c_2, eq_true c_3, ↓reduceIte]) hP d_Ch_wentThrough_26
  exact loop2 (3 + 1) 0 (by omega) (by omega) (by simp only [f_Ch_wentThrough, ↓reduceIte]) _ _ hP hD hS ls (lv_sub hl [1, 2, 0] rfl)
def f_Ch_isRight (mon : Int32) (n : Nat) (F : Nat → Int32) (N : Nat) (zp : Int32) : Int32 :=
  if (f_Bl_get n F (nI (N + 4)) zp 1) < 1 then
    0
  else
    if 25 < (f_Bl_get n F (nI (N + 4)) zp 1) then
      0
    else
      if (f_Bl_get n F (nI (N + 4)) zp 2) = mon then
        if (f_Bl_sumIsRight n F zp N) = 0 then
          0
        else
          1
      else
        0
set_option maxHeartbeats 1000000 in
set_option maxRecDepth 100000 in
/-- isRight -/
theorem c_Ch_isRight (l : Launch) (D : va_G) (cI cZ cJ : ClassId) (h0 a0 : Nat) (pl : Nat → Int32) (cnt brk hld mon : Int32) (h1 a1 n : Nat) (F : Nat → Int32) (N : Nat) (zp : Int32) (hn : n < 2 ^ 31) (hN : N + 4 ≤ n) : sf_M (S := Int32) l D classes (sf_tys cI cZ cJ) y_Ch_isRight (sf_ws y_Ch_isRight b_Ch_isRight 4 (some .boolean)) 2 49 [.ref h0, .ref h1, .int zp] [(h0, .inr (1, [.ref a0, .int cnt, .int brk, .int hld, .int mon])), (a0, .inl (cI, 3, .inl pl)), (h1, .inr (0, [.ref a1, .int (nI (N + 4))])), (a1, .inl (cI, n, .inl F))] (fun r => some (.int r)) (fun r => r = f_Ch_isRight mon n F N zp) (fun _ => [(h0, .inr (1, [.ref a0, .int cnt, .int brk, .int hld, .int mon])), (a0, .inl (cI, 3, .inl pl)), (h1, .inr (0, [.ref a1, .int (nI (N + 4))])), (a1, .inl (cI, n, .inl F))]) := by
  refine sf_ofW (S := Int32) (by decide) (Nat.le_of_ble_eq_true rfl) ?_
  intro p e s m below meth c A ls R args Q hR hArgs hQ hC0 hr hK hP hD hl
  obtain ⟨hx, hb, hml, hown, hts, hA, hlk⟩ := hC0
  have hS : va_S A s.heap s.heap [] := va_S.rf
  have hl : lv_has ls 4 [(0, .ref h0), (1, .ref h1), (2, .int zp)] := hl
  refine lv_aload_n hx hb d_Ch_isRight_0 rfl (lv_at hl 1 rfl) ?_
  refine lv_iload_n hx hb d_Ch_isRight_1 rfl (lv_at hl 2 rfl) ?_
  refine lv_iconst (v := 1) hx hb d_Ch_isRight_2 (by decide) ?_
  refine sf_callVr (S := Int32) (rest := []) ⟨hx, hb, hml, hown, hts⟩ (c_Bl_get l D cI cZ cJ h1 a1 n F (nI (N + 4)) zp 1 hn) (sf_cwV lk_Ch_26 hts (fun _ h => h) (by rw [hR]; exact ⟨Nat.le_of_ble_eq_true rfl, Nat.le_of_ble_eq_true rfl⟩)) hK hP hD hS hA [2, 3] rfl rfl (fun _ => rfl) (ci := 0) (q0 := 0) rfl rfl rfl rfl rfl hl.1 (Nat.le_of_ble_eq_true rfl) d_Ch_isRight_3 ⟨Nat.zero_le _, Nat.zero_le _⟩ (fun u_1 H locs hu_1 hP hS => ?_)
  refine lv_istore_n (lv' := [(3, .int u_1), (0, .ref h0), (1, .ref h1), (2, .int zp)]) hx hb d_Ch_isRight_6 rfl hl (by decide) rfl (fun ls hl => ?_)
  refine lv_iload_n hx hb d_Ch_isRight_7 rfl (lv_at hl 0 rfl) ?_
  refine lv_iconst (v := 1) hx hb d_Ch_isRight_8 (by decide) ?_
  refine lv_icmp_lt (tgt := 43) hx hb d_Ch_isRight_9 (by decide) (fun c_2 => ?_) (fun c_2 => ?_)
  · refine lv_iconst (v := 0) hx hb d_Ch_isRight_43 (by decide) ?_
    rw [hQ]
    exact sf_iret 0 hx hb hr hlk hS sf_b0 rfl (by simp only [f_Ch_isRight, ← hu_1, eq_true c_2, ↓reduceIte]) hP d_Ch_isRight_44
  · refine lv_iload_n hx hb d_Ch_isRight_12 rfl (lv_at hl 0 rfl) ?_
    refine lv_bipush (v := 25) hx hb d_Ch_isRight_13 (by decide) ?_
    refine lv_icmp_gt (tgt := 43) hx hb d_Ch_isRight_15 (by decide) (fun c_3 => ?_) (fun c_3 => ?_)
    · refine lv_iconst (v := 0) hx hb d_Ch_isRight_43 (by decide) ?_
      rw [hQ]
      exact sf_iret 0 hx hb hr hlk hS sf_b0 rfl (by simp only [f_Ch_isRight, ← hu_1, eq_false c_2, eq_true c_3, ↓reduceIte]) hP d_Ch_isRight_44
    · refine lv_aload_n hx hb d_Ch_isRight_18 rfl (lv_at hl 2 rfl) ?_
      refine lv_iload_n hx hb d_Ch_isRight_19 rfl (lv_at hl 3 rfl) ?_
      refine lv_iconst (v := 2) hx hb d_Ch_isRight_20 (by decide) ?_
      refine sf_callVr (S := Int32) (rest := []) ⟨hx, hb, hml, hown, hts⟩ (c_Bl_get l D cI cZ cJ h1 a1 n F (nI (N + 4)) zp 2 hn) (sf_cwV lk_Ch_26 hts (fun _ h => h) (by rw [hR]; exact ⟨Nat.le_of_ble_eq_true rfl, Nat.le_of_ble_eq_true rfl⟩)) hK hP hD hS hA [2, 3] rfl rfl (fun _ => rfl) (ci := 0) (q0 := 0) rfl rfl rfl rfl rfl hl.1 (Nat.le_of_ble_eq_true rfl) d_Ch_isRight_21 ⟨Nat.zero_le _, Nat.zero_le _⟩ (fun u_4 H locs hu_4 hP hS => ?_)
      refine lv_aload_n hx hb d_Ch_isRight_24 rfl (lv_at hl 1 rfl) ?_
      refine va_get (D := D) (ci := 1) (v := .int mon) (C := R_Ch) (T := F_Ch) (N := 5) hx hb hts i_Ch hown hK hP 0 rfl rfl 4 (by decide) (hts _ wd_97) (fun _ h9 => h9) rfl d_Ch_isRight_25 ?_
      refine lv_icmp_ne (tgt := 43) hx hb d_Ch_isRight_28 (by decide) (fun c_5 => ?_) (fun c_5 => ?_)
      · refine lv_iconst (v := 0) hx hb d_Ch_isRight_43 (by decide) ?_
        rw [hQ]
        exact sf_iret 0 hx hb hr hlk hS sf_b0 rfl (by simp only [f_Ch_isRight, ← hu_1, ← hu_4, eq_false c_2, eq_false c_3, eq_false c_5, ↓reduceIte]) hP d_Ch_isRight_44
      · refine lv_aload_n hx hb d_Ch_isRight_31 rfl (lv_at hl 2 rfl) ?_
        refine lv_iload_n hx hb d_Ch_isRight_32 rfl (lv_at hl 3 rfl) ?_
        refine sf_callVr (S := Int32) (rest := []) ⟨hx, hb, hml, hown, hts⟩ (c_Bl_sumIsRight l D cI cZ cJ h1 a1 n F zp N hn hN) (sf_cwV lk_Ch_46 hts (fun _ h => h) (by rw [hR]; exact ⟨Nat.le_of_ble_eq_true rfl, Nat.le_of_ble_eq_true rfl⟩)) hK hP hD hS hA [2, 3] rfl rfl (fun _ => rfl) (ci := 0) (q0 := 0) rfl rfl rfl rfl rfl hl.1 (Nat.le_of_ble_eq_true rfl) d_Ch_isRight_33 ⟨Nat.zero_le _, Nat.zero_le _⟩ (fun u_6 H locs hu_6 hP hS => ?_)
        refine lv_if_eq (tgt := 43) hx hb d_Ch_isRight_36 (by decide) (fun c_7 => ?_) (fun c_7 => ?_)
        · refine lv_iconst (v := 0) hx hb d_Ch_isRight_43 (by decide) ?_
          rw [hQ]
          exact sf_iret 0 hx hb hr hlk hS sf_b0 rfl (by simp only [f_Ch_isRight, ← hu_1, ← hu_4, ← hu_6, eq_false c_2, eq_false c_3, eq_true c_5, eq_true c_7, ↓reduceIte]) hP d_Ch_isRight_44
        · refine lv_iconst (v := 1) hx hb d_Ch_isRight_39 (by decide) ?_
          refine lv_goto (tgt := 44) hx hb d_Ch_isRight_40 (by decide) ?_
          rw [hQ]
          exact sf_iret 1 hx hb hr hlk hS sf_b1 rfl (by simp only [f_Ch_isRight, ← hu_1, ← hu_4, ← hu_6, eq_false c_2, eq_false c_3, eq_true c_5, eq_false c_7, ↓reduceIte]) hP d_Ch_isRight_44
def f_Ch_placeAt (pl : Nat → Int32) (cnt i : Int32) : Int32 :=
  if i < 0 then
    (-1)
  else
    if cnt ≤ i then
      (-1)
    else
      if 3 ≤ i then
        (-1)
      else
        (pl i.toNatClampNeg)
set_option maxHeartbeats 1000000 in
set_option maxRecDepth 100000 in
/-- placeAt -/
theorem c_Ch_placeAt (l : Launch) (D : va_G) (cI cZ cJ : ClassId) (h0 a0 : Nat) (pl : Nat → Int32) (cnt brk hld mon : Int32) (i : Int32) : sf_M (S := Int32) l D classes (sf_tys cI cZ cJ) y_Ch_placeAt (sf_ws y_Ch_placeAt b_Ch_placeAt 2 (some .int)) 0 0 [.ref h0, .int i] [(h0, .inr (1, [.ref a0, .int cnt, .int brk, .int hld, .int mon])), (a0, .inl (cI, 3, .inl pl))] (fun r => some (.int r)) (fun r => r = f_Ch_placeAt pl cnt i) (fun _ => [(h0, .inr (1, [.ref a0, .int cnt, .int brk, .int hld, .int mon])), (a0, .inl (cI, 3, .inl pl))]) := by
  refine sf_ofW (S := Int32) (by decide) (Nat.le_of_ble_eq_true rfl) ?_
  intro p e s m below meth c A ls R args Q hR hArgs hQ hC0 hr hK hP hD hl
  obtain ⟨hx, hb, hml, hown, hts, hA, hlk⟩ := hC0
  have hS : va_S A s.heap s.heap [] := va_S.rf
  have hl : lv_has ls 2 [(0, .ref h0), (1, .int i)] := hl
  refine lv_iload_n hx hb d_Ch_placeAt_0 rfl (lv_at hl 1 rfl) ?_
  refine lv_if_lt (tgt := 26) hx hb d_Ch_placeAt_1 (by decide) (fun c_1 => ?_) (fun c_1 => ?_)
  · refine lv_iconst (v := (-1)) hx hb d_Ch_placeAt_26 (by decide) ?_
    rw [hQ]
    exact sf_iret (-1) hx hb hr hlk hS rfl rfl (by simp only [f_Ch_placeAt, eq_true c_1, ↓reduceIte]) hP d_Ch_placeAt_27
  · refine lv_iload_n hx hb d_Ch_placeAt_4 rfl (lv_at hl 1 rfl) ?_
    refine lv_aload_n hx hb d_Ch_placeAt_5 rfl (lv_at hl 0 rfl) ?_
    refine va_get (D := D) (ci := 1) (v := .int cnt) (C := R_Ch) (T := F_Ch) (N := 5) hx hb hts i_Ch hown hK hP 0 rfl rfl 1 (by decide) (hts _ wd_93) (fun _ h9 => h9) rfl d_Ch_placeAt_6 ?_
    refine lv_icmp_ge (tgt := 26) hx hb d_Ch_placeAt_9 (by decide) (fun c_2 => ?_) (fun c_2 => ?_)
    · refine lv_iconst (v := (-1)) hx hb d_Ch_placeAt_26 (by decide) ?_
      rw [hQ]
      exact sf_iret (-1) hx hb hr hlk hS rfl rfl (by simp only [f_Ch_placeAt, eq_false c_1, eq_true c_2, ↓reduceIte]) hP d_Ch_placeAt_27
    · refine lv_iload_n hx hb d_Ch_placeAt_12 rfl (lv_at hl 1 rfl) ?_
      refine lv_iconst (v := 3) hx hb d_Ch_placeAt_13 (by decide) ?_
      refine lv_icmp_ge (tgt := 26) hx hb d_Ch_placeAt_14 (by decide) (fun c_3 => ?_) (fun c_3 => ?_)
      · refine lv_iconst (v := (-1)) hx hb d_Ch_placeAt_26 (by decide) ?_
        rw [hQ]
        exact sf_iret (-1) hx hb hr hlk hS rfl rfl (by simp only [f_Ch_placeAt, eq_false c_1, eq_false c_2, eq_true c_3, ↓reduceIte]) hP d_Ch_placeAt_27
      · refine lv_aload_n hx hb d_Ch_placeAt_17 rfl (lv_at hl 0 rfl) ?_
        refine va_get (D := D) (ci := 1) (v := .ref a0) (C := R_Ch) (T := F_Ch) (N := 5) hx hb hts i_Ch hown hK hP 0 rfl rfl 0 (by decide) (hts _ wd_92) (fun _ h9 => h9) rfl d_Ch_placeAt_18 ?_
        refine lv_iload_n hx hb d_Ch_placeAt_21 rfl (lv_at hl 1 rfl) ?_
        refine va_iald hx hb hK hP 1 0 rfl rfl (sf_in (n := 3) c_1 c_3 (by omega)) d_Ch_placeAt_22 ?_
        refine lv_goto (tgt := 27) hx hb d_Ch_placeAt_23 (by decide) ?_
        rw [hQ]
        exact sf_iret (pl i.toNatClampNeg) hx hb hr hlk hS rfl rfl (by simp only [f_Ch_placeAt, eq_false c_1, eq_false c_2, eq_false c_3, ↓reduceIte]) hP d_Ch_placeAt_27
def f_Ch_bytes (brk hld : Int32) : Int32 :=
  if brk = 0 then
    hld
  else
    0
set_option maxHeartbeats 1000000 in
set_option maxRecDepth 100000 in
/-- bytes -/
theorem c_Ch_bytes (l : Launch) (D : va_G) (cI cZ cJ : ClassId) (h0 a0 : Nat) (pl : Nat → Int32) (cnt brk hld mon : Int32)  : sf_M (S := Int32) l D classes (sf_tys cI cZ cJ) y_Ch_bytes (sf_ws y_Ch_bytes b_Ch_bytes 1 (some .int)) 0 0 [.ref h0] [(h0, .inr (1, [.ref a0, .int cnt, .int brk, .int hld, .int mon])), (a0, .inl (cI, 3, .inl pl))] (fun r => some (.int r)) (fun r => r = f_Ch_bytes brk hld) (fun _ => [(h0, .inr (1, [.ref a0, .int cnt, .int brk, .int hld, .int mon])), (a0, .inl (cI, 3, .inl pl))]) := by
  refine sf_ofW (S := Int32) (by decide) (Nat.le_of_ble_eq_true rfl) ?_
  intro p e s m below meth c A ls R args Q hR hArgs hQ hC0 hr hK hP hD hl
  obtain ⟨hx, hb, hml, hown, hts, hA, hlk⟩ := hC0
  have hS : va_S A s.heap s.heap [] := va_S.rf
  have hl : lv_has ls 1 [(0, .ref h0)] := hl
  refine lv_aload_n hx hb d_Ch_bytes_0 rfl (lv_at hl 0 rfl) ?_
  refine va_get (D := D) (ci := 1) (v := .int brk) (C := R_Ch) (T := F_Ch) (N := 5) hx hb hts i_Ch hown hK hP 0 rfl rfl 2 (by decide) (hts _ wd_95) (fun _ h9 => h9) rfl d_Ch_bytes_1 ?_
  refine lv_if_eq (tgt := 11) hx hb d_Ch_bytes_4 (by decide) (fun c_1 => ?_) (fun c_1 => ?_)
  · refine lv_aload_n hx hb d_Ch_bytes_11 rfl (lv_at hl 0 rfl) ?_
    refine va_get (D := D) (ci := 1) (v := .int hld) (C := R_Ch) (T := F_Ch) (N := 5) hx hb hts i_Ch hown hK hP 0 rfl rfl 3 (by decide) (hts _ wd_96) (fun _ h9 => h9) rfl d_Ch_bytes_12 ?_
    rw [hQ]
    exact sf_iret hld hx hb hr hlk hS rfl rfl (by simp only [f_Ch_bytes, eq_true c_1, ↓reduceIte]) hP d_Ch_bytes_15
  · refine lv_iconst (v := 0) hx hb d_Ch_bytes_7 (by decide) ?_
    refine lv_goto (tgt := 15) hx hb d_Ch_bytes_8 (by decide) ?_
    rw [hQ]
    exact sf_iret 0 hx hb hr hlk hS rfl rfl (by simp only [f_Ch_bytes, eq_false c_1, ↓reduceIte]) hP d_Ch_bytes_15
def f_Ch_monthOrNone (brk mon : Int32) : Int32 :=
  if brk = 0 then
    mon
  else
    (-1)
set_option maxHeartbeats 1000000 in
set_option maxRecDepth 100000 in
/-- monthOrNone -/
theorem c_Ch_monthOrNone (l : Launch) (D : va_G) (cI cZ cJ : ClassId) (h0 a0 : Nat) (pl : Nat → Int32) (cnt brk hld mon : Int32)  : sf_M (S := Int32) l D classes (sf_tys cI cZ cJ) y_Ch_monthOrNone (sf_ws y_Ch_monthOrNone b_Ch_monthOrNone 1 (some .int)) 0 0 [.ref h0] [(h0, .inr (1, [.ref a0, .int cnt, .int brk, .int hld, .int mon])), (a0, .inl (cI, 3, .inl pl))] (fun r => some (.int r)) (fun r => r = f_Ch_monthOrNone brk mon) (fun _ => [(h0, .inr (1, [.ref a0, .int cnt, .int brk, .int hld, .int mon])), (a0, .inl (cI, 3, .inl pl))]) := by
  refine sf_ofW (S := Int32) (by decide) (Nat.le_of_ble_eq_true rfl) ?_
  intro p e s m below meth c A ls R args Q hR hArgs hQ hC0 hr hK hP hD hl
  obtain ⟨hx, hb, hml, hown, hts, hA, hlk⟩ := hC0
  have hS : va_S A s.heap s.heap [] := va_S.rf
  have hl : lv_has ls 1 [(0, .ref h0)] := hl
  refine lv_aload_n hx hb d_Ch_monthOrNone_0 rfl (lv_at hl 0 rfl) ?_
  refine va_get (D := D) (ci := 1) (v := .int brk) (C := R_Ch) (T := F_Ch) (N := 5) hx hb hts i_Ch hown hK hP 0 rfl rfl 2 (by decide) (hts _ wd_95) (fun _ h9 => h9) rfl d_Ch_monthOrNone_1 ?_
  refine lv_if_eq (tgt := 11) hx hb d_Ch_monthOrNone_4 (by decide) (fun c_1 => ?_) (fun c_1 => ?_)
  · refine lv_aload_n hx hb d_Ch_monthOrNone_11 rfl (lv_at hl 0 rfl) ?_
    refine va_get (D := D) (ci := 1) (v := .int mon) (C := R_Ch) (T := F_Ch) (N := 5) hx hb hts i_Ch hown hK hP 0 rfl rfl 4 (by decide) (hts _ wd_97) (fun _ h9 => h9) rfl d_Ch_monthOrNone_12 ?_
    rw [hQ]
    exact sf_iret mon hx hb hr hlk hS rfl rfl (by simp only [f_Ch_monthOrNone, eq_true c_1, ↓reduceIte]) hP d_Ch_monthOrNone_15
  · refine lv_iconst (v := (-1)) hx hb d_Ch_monthOrNone_7 (by decide) ?_
    refine lv_goto (tgt := 15) hx hb d_Ch_monthOrNone_8 (by decide) ?_
    rw [hQ]
    exact sf_iret (-1) hx hb hr hlk hS rfl rfl (by simp only [f_Ch_monthOrNone, eq_false c_1, ↓reduceIte]) hP d_Ch_monthOrNone_15
def f_Ch_dataAt_l (pl : Nat → Int32) (cnt : Int32) (n : Nat) (F : Nat → Int32) (N : Nat) : Nat → Nat → Int32 → Int32
  | 0, _, _ => 0
  | fu + 1, k, lf =>
    if cnt ≤ (nI k) then
      0
    else
      if (f_Bl_get n F (nI (N + 4)) (f_Ch_placeAt pl cnt (nI k)) 1) ≤ lf then
        f_Ch_dataAt_l pl cnt n F N fu (k + 1) (lf - (f_Bl_get n F (nI (N + 4)) (f_Ch_placeAt pl cnt (nI k)) 1))
      else
        (f_Bl_get n F (nI (N + 4)) (f_Ch_placeAt pl cnt (nI k)) (3 + lf))
def f_Ch_dataAt (pl : Nat → Int32) (cnt : Int32) (n : Nat) (F : Nat → Int32) (N : Nat) (i : Int32) : Int32 :=
  f_Ch_dataAt_l pl cnt n F N (cnt.toNatClampNeg + 1) 0 i
set_option maxHeartbeats 1000000 in
set_option maxRecDepth 100000 in
/-- dataAt -/
theorem c_Ch_dataAt (l : Launch) (D : va_G) (cI cZ cJ : ClassId) (h0 a0 : Nat) (pl : Nat → Int32) (cnt brk hld mon : Int32) (h1 a1 n : Nat) (F : Nat → Int32) (N : Nat) (i : Int32) (hn : n < 2 ^ 31) (hN : N + 4 ≤ n) : sf_M (S := Int32) l D classes (sf_tys cI cZ cJ) y_Ch_dataAt (sf_ws y_Ch_dataAt b_Ch_dataAt 7 (some .int)) 1 23 [.ref h0, .ref h1, .int i] [(h0, .inr (1, [.ref a0, .int cnt, .int brk, .int hld, .int mon])), (a0, .inl (cI, 3, .inl pl)), (h1, .inr (0, [.ref a1, .int (nI (N + 4))])), (a1, .inl (cI, n, .inl F))] (fun r => some (.int r)) (fun r => r = f_Ch_dataAt pl cnt n F N i) (fun _ => [(h0, .inr (1, [.ref a0, .int cnt, .int brk, .int hld, .int mon])), (a0, .inl (cI, 3, .inl pl)), (h1, .inr (0, [.ref a1, .int (nI (N + 4))])), (a1, .inl (cI, n, .inl F))]) := by
  refine sf_ofW (S := Int32) (by decide) (Nat.le_of_ble_eq_true rfl) ?_
  intro p e s m below meth c A ls R args Q hR hArgs hQ hC0 hr hK hP hD hl
  obtain ⟨hx, hb, hml, hown, hts, hA, hlk⟩ := hC0
  have hS : va_S A s.heap s.heap [] := va_S.rf
  have hl : lv_has ls 7 [(0, .ref h0), (1, .ref h1), (2, .int i)] := hl
  have hcl := sf_clt cnt
  refine lv_iload_n hx hb d_Ch_dataAt_0 rfl (lv_at hl 2 rfl) ?_
  refine lv_istore_n (lv' := [(3, .int i), (0, .ref h0), (1, .ref h1), (2, .int i)]) hx hb d_Ch_dataAt_1 rfl hl (by decide) rfl (fun ls hl => ?_)
  refine lv_iconst (v := 0) hx hb d_Ch_dataAt_2 (by decide) ?_
  refine lv_istore (lv' := [(4, .int 0), (3, .int i), (0, .ref h0), (1, .ref h1), (2, .int i)]) hx hb d_Ch_dataAt_3 hl (by decide) rfl (fun ls hl => ?_)
  have loop5 : ∀ (fu k : Nat) (lf : Int32), k ≤ cnt.toNatClampNeg → k + fu = cnt.toNatClampNeg + 1 → f_Ch_dataAt_l pl cnt n F N fu k lf = f_Ch_dataAt pl cnt n F N i → ∀ (H : Heap) (locs : List Loc), va_P D classes [(h0, .inr (1, [.ref a0, .int cnt, .int brk, .int hld, .int mon])), (a0, .inl (cI, 3, .inl pl)), (h1, .inr (0, [.ref a1, .int (nI (N + 4))])), (a1, .inl (cI, n, .inl F))] H → va_D A [(h0, .inr (1, [.ref a0, .int cnt, .int brk, .int hld, .int mon])), (a0, .inl (cI, 3, .inl pl)), (h1, .inr (0, [.ref a1, .int (nI (N + 4))])), (a1, .inl (cI, n, .inl F))] → va_S A s.heap H locs → ∀ (ls : Array Slot), lv_has ls 7 [(0, .ref h0), (1, .ref h1), (2, .int i), (3, .int lf), (4, .int (nI k))] → W p l e R s m args below meth c H locs 0 0 Q (F0 m 5 ls []) := by
    intro fu
    induction fu with
    | zero =>
      intro k lf h1 h2
      exact absurd h2 (by omega)
    | succ fu ih5 =>
      intro k lf hk5 hkn5 heq5 H locs hP hD hS ls hl
      have hcl := sf_clt cnt
      refine lv_iload hx hb d_Ch_dataAt_5 (lv_at hl 4 rfl) ?_
      refine lv_aload_n hx hb d_Ch_dataAt_7 rfl (lv_at hl 0 rfl) ?_
      refine va_get (D := D) (ci := 1) (v := .int cnt) (C := R_Ch) (T := F_Ch) (N := 5) hx hb hts i_Ch hown hK hP 0 rfl rfl 1 (by decide) (hts _ wd_93) (fun _ h9 => h9) rfl d_Ch_dataAt_8 ?_
      refine lv_icmp_ge (tgt := 58) hx hb d_Ch_dataAt_11 (by decide) (fun c_1 => ?_) (fun c_1 => ?_)
      · refine lv_iconst (v := 0) hx hb d_Ch_dataAt_58 (by decide) ?_
        rw [hQ]
        exact sf_iret 0 hx hb hr hlk hS rfl rfl (by rw [← heq5]; simp only [f_Ch_dataAt_l, eq_true c_1, ↓reduceIte]) hP d_Ch_dataAt_59
      · have hlt : k < cnt.toNatClampNeg := sf_ltc (by omega) c_1
        refine lv_aload_n hx hb d_Ch_dataAt_14 rfl (lv_at hl 0 rfl) ?_
        refine lv_iload hx hb d_Ch_dataAt_15 (lv_at hl 4 rfl) ?_
        refine sf_callVr (S := Int32) (rest := []) ⟨hx, hb, hml, hown, hts⟩ (c_Ch_placeAt l D cI cZ cJ h0 a0 pl cnt brk hld mon (nI k)) (sf_cwV lk_Ch_49 hts (fun _ h => h) (by rw [hR]; exact ⟨Nat.le_of_ble_eq_true rfl, Nat.le_of_ble_eq_true rfl⟩)) hK hP hD hS hA [0, 1] rfl rfl (fun _ => rfl) (ci := 1) (q0 := 0) rfl rfl rfl rfl rfl hl.1 (Nat.le_of_ble_eq_true rfl) d_Ch_dataAt_17 ⟨Nat.zero_le _, Nat.zero_le _⟩ (fun u_2 H locs hu_2 hP hS => ?_)
        refine lv_istore (lv' := [(5, .int u_2), (0, .ref h0), (1, .ref h1), (2, .int i), (3, .int lf), (4, .int (nI k))]) hx hb d_Ch_dataAt_20 hl (by decide) rfl (fun ls hl => ?_)
        refine lv_aload_n hx hb d_Ch_dataAt_22 rfl (lv_at hl 2 rfl) ?_
        refine lv_iload hx hb d_Ch_dataAt_23 (lv_at hl 0 rfl) ?_
        refine lv_iconst (v := 1) hx hb d_Ch_dataAt_25 (by decide) ?_
        refine sf_callVr (S := Int32) (rest := []) ⟨hx, hb, hml, hown, hts⟩ (c_Bl_get l D cI cZ cJ h1 a1 n F (nI (N + 4)) u_2 1 hn) (sf_cwV lk_Ch_26 hts (fun _ h => h) (by rw [hR]; exact ⟨Nat.le_of_ble_eq_true rfl, Nat.le_of_ble_eq_true rfl⟩)) hK hP hD hS hA [2, 3] rfl rfl (fun _ => rfl) (ci := 0) (q0 := 0) rfl rfl rfl rfl rfl hl.1 (Nat.le_of_ble_eq_true rfl) d_Ch_dataAt_26 ⟨Nat.zero_le _, Nat.zero_le _⟩ (fun u_3 H locs hu_3 hP hS => ?_)
        refine lv_istore (lv' := [(6, .int u_3), (5, .int u_2), (0, .ref h0), (1, .ref h1), (2, .int i), (3, .int lf), (4, .int (nI k))]) hx hb d_Ch_dataAt_29 hl (by decide) rfl (fun ls hl => ?_)
        refine lv_iload_n hx hb d_Ch_dataAt_31 rfl (lv_at hl 5 rfl) ?_
        refine lv_iload hx hb d_Ch_dataAt_32 (lv_at hl 0 rfl) ?_
        refine lv_icmp_ge (tgt := 47) hx hb d_Ch_dataAt_34 (by decide) (fun c_4 => ?_) (fun c_4 => ?_)
        · refine lv_iload_n hx hb d_Ch_dataAt_47 rfl (lv_at hl 5 rfl) ?_
          refine lv_iload hx hb d_Ch_dataAt_48 (lv_at hl 0 rfl) ?_
          refine lv_isub hx hb d_Ch_dataAt_50 ?_
          refine lv_istore_n (lv' := [(3, .int (lf - u_3)), (6, .int u_3), (5, .int u_2), (0, .ref h0), (1, .ref h1), (2, .int i), (4, .int (nI k))]) hx hb d_Ch_dataAt_51 rfl hl (by decide) rfl (fun ls hl => ?_)
          refine lv_iinc (v := (nI (k + 1))) (lv' := [(4, .int (nI (k + 1))), (3, .int (lf - u_3)), (6, .int u_3), (5, .int u_2), (0, .ref h0), (1, .ref h1), (2, .int i)]) hx hb d_Ch_dataAt_52 hl (k := 6) rfl (nI_1 k) (by decide) rfl (fun ls hl => ?_)
          refine lv_goto (tgt := 5) hx hb d_Ch_dataAt_55 (by decide) ?_
          exact ih5 (k + 1) (lf - u_3) (by omega) (by omega) (by rw [← heq5]; simp only [f_Ch_dataAt_l, ← hu_2, ← hu_3, eq_false c_1, eq_true c_4, ↓reduceIte]) _ _ hP hD hS ls (lv_sub hl [4, 5, 6, 1, 0] rfl)
        · refine lv_aload_n hx hb d_Ch_dataAt_37 rfl (lv_at hl 3 rfl) ?_
          refine lv_iload hx hb d_Ch_dataAt_38 (lv_at hl 1 rfl) ?_
          refine lv_iconst (v := 3) hx hb d_Ch_dataAt_40 (by decide) ?_
          refine lv_iload_n hx hb d_Ch_dataAt_41 rfl (lv_at hl 5 rfl) ?_
          refine lv_iadd hx hb d_Ch_dataAt_42 ?_
          refine sf_callVr (S := Int32) (rest := []) ⟨hx, hb, hml, hown, hts⟩ (c_Bl_get l D cI cZ cJ h1 a1 n F (nI (N + 4)) u_2 (3 + lf) hn) (sf_cwV lk_Ch_26 hts (fun _ h => h) (by rw [hR]; exact ⟨Nat.le_of_ble_eq_true rfl, Nat.le_of_ble_eq_true rfl⟩)) hK hP hD hS hA [2, 3] rfl rfl (fun _ => rfl) (ci := 0) (q0 := 0) rfl rfl rfl rfl rfl hl.1 (Nat.le_of_ble_eq_true rfl) d_Ch_dataAt_43 ⟨Nat.zero_le _, Nat.zero_le _⟩ (fun u_5 H locs hu_5 hP hS => ?_)
          rw [hQ]
          exact sf_iret u_5 hx hb hr hlk hS rfl rfl (by rw [← heq5]; simp only [f_Ch_dataAt_l, ← hu_2, ← hu_3, ← hu_5, eq_false c_1, eq_false c_4, ↓reduceIte]) hP d_Ch_dataAt_46
  exact loop5 (cnt.toNatClampNeg + 1) 0 i (by omega) (by omega) (by simp only [f_Ch_dataAt, ↓reduceIte]) _ _ hP hD hS ls (lv_sub hl [2, 3, 4, 1, 0] rfl)
def f_Ch_follow_l (n : Nat) (F : Nat → Int32) (N : Nat) (mo : Int32) : Nat → Nat → Int32 → (Nat → Int32) → Int32 → Int32 → ((Nat → Int32) × Int32 × Int32 × Int32 × Int32)
  | 0, _, _, _, _, _ => (fun _ => 0, 0, 0, 0, 0)
  | fu + 1, k, vpp, vpl, vcn, vhl =>
    if 3 ≤ (nI k) then
      (vpl, vcn, 1, vhl, mo)
    else
      if (f_Bl_hasBlock n (nI (N + 4)) vpp) = 0 then
        (vpl, vcn, 1, vhl, mo)
      else
        if (f_Ch_wentThrough vpl vcn vpp) = 0 then
          if (f_Ch_isRight mo n F N vpp) = 0 then
            ((upd vpl k vpp), ((nI k) + 1), 1, vhl, mo)
          else
            if (f_Bl_get n F (nI (N + 4)) vpp 0) = 0 then
              ((upd vpl k vpp), ((nI k) + 1), 0, (vhl + (f_Bl_get n F (nI (N + 4)) vpp 1)), mo)
            else
              f_Ch_follow_l n F N mo fu (k + 1) ((f_Bl_get n F (nI (N + 4)) vpp 0) - 1) (upd vpl k vpp) ((nI k) + 1) (vhl + (f_Bl_get n F (nI (N + 4)) vpp 1))
        else
          (vpl, vcn, 1, vhl, mo)
def f_Ch_follow (pl : Nat → Int32) (n : Nat) (F : Nat → Int32) (N : Nat) (fi : Int32) : ((Nat → Int32) × Int32 × Int32 × Int32 × Int32) :=
  f_Ch_follow_l n F N (f_Bl_get n F (nI (N + 4)) fi 2) (3 + 1) 0 fi pl 0 0
set_option maxHeartbeats 1000000 in
set_option maxRecDepth 100000 in
/-- follow -/
theorem c_Ch_follow (l : Launch) (D : va_G) (cI cZ cJ : ClassId) (h0 a0 : Nat) (pl : Nat → Int32) (cnt brk hld mon : Int32) (h1 a1 n : Nat) (F : Nat → Int32) (N : Nat) (fi : Int32) (hn : n < 2 ^ 31) (hN : N + 4 ≤ n) : sf_M (S := ((Nat → Int32) × Int32 × Int32 × Int32 × Int32)) l D classes (sf_tys cI cZ cJ) y_Ch_follow (sf_ws y_Ch_follow b_Ch_follow 6 none) 3 72 [.ref h0, .ref h1, .int fi] [(h0, .inr (1, [.ref a0, .int cnt, .int brk, .int hld, .int mon])), (a0, .inl (cI, 3, .inl pl)), (h1, .inr (0, [.ref a1, .int (nI (N + 4))])), (a1, .inl (cI, n, .inl F))] (fun _ => none) (fun r => r = f_Ch_follow pl n F N fi) (fun r => [(h0, .inr (1, [.ref a0, .int r.2.1, .int r.2.2.1, .int r.2.2.2.1, .int r.2.2.2.2])), (a0, .inl (cI, 3, .inl r.1)), (h1, .inr (0, [.ref a1, .int (nI (N + 4))])), (a1, .inl (cI, n, .inl F))]) := by
  refine sf_ofW (S := ((Nat → Int32) × Int32 × Int32 × Int32 × Int32)) (by decide) (Nat.le_of_ble_eq_true rfl) ?_
  intro p e s m below meth c A ls R args Q hR hArgs hQ hC0 hr hK hP hD hl
  obtain ⟨hx, hb, hml, hown, hts, hA, hlk⟩ := hC0
  have hS : va_S A s.heap s.heap [] := va_S.rf
  have hl : lv_has ls 6 [(0, .ref h0), (1, .ref h1), (2, .int fi)] := hl
  refine lv_aload_n hx hb d_Ch_follow_0 rfl (lv_at hl 0 rfl) ?_
  refine lv_iconst (v := 0) hx hb d_Ch_follow_1 (by decide) ?_
  refine va_put (D := D) (ci := 1) (v := .int 0) (ty := .int) (C := R_Ch) (T := F_Ch) (N := 5) hx hb hts i_Ch t_Ch t_Ch_ok n_Ch hown hK hP hD hS 0 rfl rfl 1 (by decide) (hts _ wd_93) (fun _ h9 => h9) rfl (by decide +kernel) rfl rfl (Nat.le_of_ble_eq_true rfl) d_Ch_follow_2 (fun H locs hP hD hS => ?_)
  have hP : va_P D classes [(h0, .inr (1, [.ref a0, .int 0, .int brk, .int hld, .int mon])), (a0, .inl (cI, 3, .inl pl)), (h1, .inr (0, [.ref a1, .int (nI (N + 4))])), (a1, .inl (cI, n, .inl F))] H := hP
  have hD : va_D A [(h0, .inr (1, [.ref a0, .int 0, .int brk, .int hld, .int mon])), (a0, .inl (cI, 3, .inl pl)), (h1, .inr (0, [.ref a1, .int (nI (N + 4))])), (a1, .inl (cI, n, .inl F))] := hD
  refine lv_aload_n hx hb d_Ch_follow_5 rfl (lv_at hl 0 rfl) ?_
  refine lv_iconst (v := 1) hx hb d_Ch_follow_6 (by decide) ?_
  refine va_put (D := D) (ci := 1) (v := .int 1) (ty := .boolean) (C := R_Ch) (T := F_Ch) (N := 5) hx hb hts i_Ch t_Ch t_Ch_ok n_Ch hown hK hP hD hS 0 rfl rfl 2 (by decide) (hts _ wd_95) (fun _ h9 => h9) rfl (by decide +kernel) (sf_bp1).1 (sf_bp1).2 (Nat.le_of_ble_eq_true rfl) d_Ch_follow_7 (fun H locs hP hD hS => ?_)
  have hP : va_P D classes [(h0, .inr (1, [.ref a0, .int 0, .int 1, .int hld, .int mon])), (a0, .inl (cI, 3, .inl pl)), (h1, .inr (0, [.ref a1, .int (nI (N + 4))])), (a1, .inl (cI, n, .inl F))] H := hP
  have hD : va_D A [(h0, .inr (1, [.ref a0, .int 0, .int 1, .int hld, .int mon])), (a0, .inl (cI, 3, .inl pl)), (h1, .inr (0, [.ref a1, .int (nI (N + 4))])), (a1, .inl (cI, n, .inl F))] := hD
  refine lv_aload_n hx hb d_Ch_follow_10 rfl (lv_at hl 0 rfl) ?_
  refine lv_iconst (v := 0) hx hb d_Ch_follow_11 (by decide) ?_
  refine va_put (D := D) (ci := 1) (v := .int 0) (ty := .int) (C := R_Ch) (T := F_Ch) (N := 5) hx hb hts i_Ch t_Ch t_Ch_ok n_Ch hown hK hP hD hS 0 rfl rfl 3 (by decide) (hts _ wd_96) (fun _ h9 => h9) rfl (by decide +kernel) rfl rfl (Nat.le_of_ble_eq_true rfl) d_Ch_follow_12 (fun H locs hP hD hS => ?_)
  have hP : va_P D classes [(h0, .inr (1, [.ref a0, .int 0, .int 1, .int 0, .int mon])), (a0, .inl (cI, 3, .inl pl)), (h1, .inr (0, [.ref a1, .int (nI (N + 4))])), (a1, .inl (cI, n, .inl F))] H := hP
  have hD : va_D A [(h0, .inr (1, [.ref a0, .int 0, .int 1, .int 0, .int mon])), (a0, .inl (cI, 3, .inl pl)), (h1, .inr (0, [.ref a1, .int (nI (N + 4))])), (a1, .inl (cI, n, .inl F))] := hD
  refine lv_aload_n hx hb d_Ch_follow_15 rfl (lv_at hl 0 rfl) ?_
  refine lv_aload_n hx hb d_Ch_follow_16 rfl (lv_at hl 1 rfl) ?_
  refine lv_iload_n hx hb d_Ch_follow_17 rfl (lv_at hl 2 rfl) ?_
  refine lv_iconst (v := 2) hx hb d_Ch_follow_18 (by decide) ?_
  refine sf_callVr (S := Int32) (rest := [.ref h0]) ⟨hx, hb, hml, hown, hts⟩ (c_Bl_get l D cI cZ cJ h1 a1 n F (nI (N + 4)) fi 2 hn) (sf_cwV lk_Ch_26 hts (fun _ h => h) (by rw [hR]; exact ⟨Nat.le_of_ble_eq_true rfl, Nat.le_of_ble_eq_true rfl⟩)) hK hP hD hS hA [2, 3] rfl rfl (fun _ => rfl) (ci := 0) (q0 := 0) rfl rfl rfl rfl rfl hl.1 (Nat.le_of_ble_eq_true rfl) d_Ch_follow_19 ⟨Nat.zero_le _, Nat.zero_le _⟩ (fun u_1 H locs hu_1 hP hS => ?_)
  refine va_put (D := D) (ci := 1) (v := .int u_1) (ty := .int) (C := R_Ch) (T := F_Ch) (N := 5) hx hb hts i_Ch t_Ch t_Ch_ok n_Ch hown hK hP hD hS 0 rfl rfl 4 (by decide) (hts _ wd_97) (fun _ h9 => h9) rfl (by decide +kernel) rfl rfl (Nat.le_of_ble_eq_true rfl) d_Ch_follow_22 (fun H locs hP hD hS => ?_)
  have hP : va_P D classes [(h0, .inr (1, [.ref a0, .int 0, .int 1, .int 0, .int u_1])), (a0, .inl (cI, 3, .inl pl)), (h1, .inr (0, [.ref a1, .int (nI (N + 4))])), (a1, .inl (cI, n, .inl F))] H := hP
  have hD : va_D A [(h0, .inr (1, [.ref a0, .int 0, .int 1, .int 0, .int u_1])), (a0, .inl (cI, 3, .inl pl)), (h1, .inr (0, [.ref a1, .int (nI (N + 4))])), (a1, .inl (cI, n, .inl F))] := hD
  refine lv_iload_n hx hb d_Ch_follow_25 rfl (lv_at hl 2 rfl) ?_
  refine lv_istore_n (lv' := [(3, .int fi), (0, .ref h0), (1, .ref h1), (2, .int fi)]) hx hb d_Ch_follow_26 rfl hl (by decide) rfl (fun ls hl => ?_)
  refine lv_iconst (v := 0) hx hb d_Ch_follow_27 (by decide) ?_
  refine lv_istore (lv' := [(4, .int 0), (3, .int fi), (0, .ref h0), (1, .ref h1), (2, .int fi)]) hx hb d_Ch_follow_28 hl (by decide) rfl (fun ls hl => ?_)
  have loop30 : ∀ (fu k : Nat) (vpp : Int32) (vpl : (Nat → Int32)) (vcn : Int32) (vhl : Int32), k ≤ 3 → k + fu = 3 + 1 → f_Ch_follow_l n F N (f_Bl_get n F (nI (N + 4)) fi 2) fu k vpp vpl vcn vhl = f_Ch_follow pl n F N fi → ∀ (H : Heap) (locs : List Loc), va_P D classes [(h0, .inr (1, [.ref a0, .int vcn, .int 1, .int vhl, .int u_1])), (a0, .inl (cI, 3, .inl vpl)), (h1, .inr (0, [.ref a1, .int (nI (N + 4))])), (a1, .inl (cI, n, .inl F))] H → va_D A [(h0, .inr (1, [.ref a0, .int vcn, .int 1, .int vhl, .int u_1])), (a0, .inl (cI, 3, .inl vpl)), (h1, .inr (0, [.ref a1, .int (nI (N + 4))])), (a1, .inl (cI, n, .inl F))] → va_S A s.heap H locs → ∀ (ls : Array Slot), lv_has ls 6 [(0, .ref h0), (1, .ref h1), (2, .int fi), (3, .int vpp), (4, .int (nI k))] → W p l e R s m args below meth c H locs 0 0 Q (F0 m 30 ls []) := by
    intro fu
    induction fu with
    | zero =>
      intro k vpp vpl vcn vhl h1 h2
      exact absurd h2 (by omega)
    | succ fu ih30 =>
      intro k vpp vpl vcn vhl hk30 hkn30 heq30 H locs hP hD hS ls hl
      refine lv_iload hx hb d_Ch_follow_30 (lv_at hl 4 rfl) ?_
      refine lv_iconst (v := 3) hx hb d_Ch_follow_32 (by decide) ?_
      refine lv_icmp_ge (tgt := 124) hx hb d_Ch_follow_33 (by decide) (fun c_2 => ?_) (fun c_2 => ?_)
      · rw [hQ]
        exact sf_vret (vpl, vcn, 1, vhl, u_1) hx hb hr hlk hS rfl (by rw [← heq30]; simp only [f_Ch_follow_l, ← hu_1, eq_true c_2, ↓reduceIte]) hP d_Ch_follow_124
      · have hlt : k < 3 := sf_lt_of (N := 3) (by omega) (by omega) c_2
        refine lv_aload_n hx hb d_Ch_follow_36 rfl (lv_at hl 1 rfl) ?_
        refine lv_iload_n hx hb d_Ch_follow_37 rfl (lv_at hl 3 rfl) ?_
        refine sf_callVr (S := Int32) (rest := []) ⟨hx, hb, hml, hown, hts⟩ (c_Bl_hasBlock l D cI cZ cJ h1 a1 n F (nI (N + 4)) vpp hn) (sf_cwV lk_Ch_35 hts (fun _ h => h) (by rw [hR]; exact ⟨Nat.le_of_ble_eq_true rfl, Nat.le_of_ble_eq_true rfl⟩)) hK hP hD hS hA [2, 3] rfl rfl (fun _ => rfl) (ci := 0) (q0 := 0) rfl rfl rfl rfl rfl hl.1 (Nat.le_of_ble_eq_true rfl) d_Ch_follow_38 ⟨Nat.zero_le _, Nat.zero_le _⟩ (fun u_3 H locs hu_3 hP hS => ?_)
        refine lv_if_eq (tgt := 52) hx hb d_Ch_follow_41 (by decide) (fun c_4 => ?_) (fun c_4 => ?_)
        · rw [hQ]
          exact sf_vret (vpl, vcn, 1, vhl, u_1) hx hb hr hlk hS rfl (by rw [← heq30]; simp only [f_Ch_follow_l, ← hu_1, ← hu_3, eq_false c_2, eq_true c_4, ↓reduceIte]) hP d_Ch_follow_52
        · refine lv_aload_n hx hb d_Ch_follow_44 rfl (lv_at hl 0 rfl) ?_
          refine lv_iload_n hx hb d_Ch_follow_45 rfl (lv_at hl 3 rfl) ?_
          refine sf_callVr (S := Int32) (rest := []) ⟨hx, hb, hml, hown, hts⟩ (c_Ch_wentThrough l D cI cZ cJ h0 a0 vpl vcn 1 vhl u_1 vpp) (sf_cwV lk_Ch_39 hts (fun _ h => h) (by rw [hR]; exact ⟨Nat.le_of_ble_eq_true rfl, Nat.le_of_ble_eq_true rfl⟩)) hK hP hD hS hA [0, 1] rfl rfl (fun _ => rfl) (ci := 1) (q0 := 0) rfl rfl rfl rfl rfl hl.1 (Nat.le_of_ble_eq_true rfl) d_Ch_follow_46 ⟨Nat.zero_le _, Nat.zero_le _⟩ (fun u_5 H locs hu_5 hP hS => ?_)
          refine lv_if_eq (tgt := 53) hx hb d_Ch_follow_49 (by decide) (fun c_6 => ?_) (fun c_6 => ?_)
          · refine lv_aload_n hx hb d_Ch_follow_53 rfl (lv_at hl 0 rfl) ?_
            refine va_get (D := D) (ci := 1) (v := .ref a0) (C := R_Ch) (T := F_Ch) (N := 5) hx hb hts i_Ch hown hK hP 0 rfl rfl 0 (by decide) (hts _ wd_92) (fun _ h9 => h9) rfl d_Ch_follow_54 ?_
            refine lv_iload hx hb d_Ch_follow_57 (lv_at hl 4 rfl) ?_
            refine lv_iload_n hx hb d_Ch_follow_59 rfl (lv_at hl 3 rfl) ?_
            refine va_iast hx hb hK hP hD hS 1 0 rfl rfl (vp_in_nI hlt (by omega)) d_Ch_follow_60 (fun H locs hP hD hS => ?_)
            rw [nI_clamp (n := k) (by omega)] at hP hD
            have hP : va_P D classes [(h0, .inr (1, [.ref a0, .int vcn, .int 1, .int vhl, .int u_1])), (a0, .inl (cI, 3, .inl (upd vpl k vpp))), (h1, .inr (0, [.ref a1, .int (nI (N + 4))])), (a1, .inl (cI, n, .inl F))] H := hP
            have hD : va_D A [(h0, .inr (1, [.ref a0, .int vcn, .int 1, .int vhl, .int u_1])), (a0, .inl (cI, 3, .inl (upd vpl k vpp))), (h1, .inr (0, [.ref a1, .int (nI (N + 4))])), (a1, .inl (cI, n, .inl F))] := hD
            refine lv_aload_n hx hb d_Ch_follow_61 rfl (lv_at hl 0 rfl) ?_
            refine lv_iload hx hb d_Ch_follow_62 (lv_at hl 4 rfl) ?_
            refine lv_iconst (v := 1) hx hb d_Ch_follow_64 (by decide) ?_
            refine lv_iadd hx hb d_Ch_follow_65 ?_
            refine va_put (D := D) (ci := 1) (v := .int ((nI k) + 1)) (ty := .int) (C := R_Ch) (T := F_Ch) (N := 5) hx hb hts i_Ch t_Ch t_Ch_ok n_Ch hown hK hP hD hS 0 rfl rfl 1 (by decide) (hts _ wd_93) (fun _ h9 => h9) rfl (by decide +kernel) rfl rfl (Nat.le_of_ble_eq_true rfl) d_Ch_follow_66 (fun H locs hP hD hS => ?_)
            have hP : va_P D classes [(h0, .inr (1, [.ref a0, .int ((nI k) + 1), .int 1, .int vhl, .int u_1])), (a0, .inl (cI, 3, .inl (upd vpl k vpp))), (h1, .inr (0, [.ref a1, .int (nI (N + 4))])), (a1, .inl (cI, n, .inl F))] H := hP
            have hD : va_D A [(h0, .inr (1, [.ref a0, .int ((nI k) + 1), .int 1, .int vhl, .int u_1])), (a0, .inl (cI, 3, .inl (upd vpl k vpp))), (h1, .inr (0, [.ref a1, .int (nI (N + 4))])), (a1, .inl (cI, n, .inl F))] := hD
            refine lv_aload_n hx hb d_Ch_follow_69 rfl (lv_at hl 0 rfl) ?_
            refine lv_aload_n hx hb d_Ch_follow_70 rfl (lv_at hl 1 rfl) ?_
            refine lv_iload_n hx hb d_Ch_follow_71 rfl (lv_at hl 3 rfl) ?_
            refine sf_callVr (S := Int32) (rest := []) ⟨hx, hb, hml, hown, hts⟩ (c_Ch_isRight l D cI cZ cJ h0 a0 (upd vpl k vpp) ((nI k) + 1) 1 vhl u_1 h1 a1 n F N vpp hn hN) (sf_cwV lk_Ch_42 hts (fun _ h => h) (by rw [hR]; exact ⟨Nat.le_of_ble_eq_true rfl, Nat.le_of_ble_eq_true rfl⟩)) hK hP hD hS hA [0, 1, 2, 3] rfl rfl (fun _ => rfl) (ci := 1) (q0 := 0) rfl rfl rfl rfl rfl hl.1 (Nat.le_of_ble_eq_true rfl) d_Ch_follow_72 ⟨Nat.zero_le _, Nat.zero_le _⟩ (fun u_7 H locs hu_7 hP hS => ?_)
            refine lv_if_ne (tgt := 79) hx hb d_Ch_follow_75 (by decide) (fun c_8 => ?_) (fun c_8 => ?_)
            · refine lv_aload_n hx hb d_Ch_follow_79 rfl (lv_at hl 0 rfl) ?_
              refine lv_dup hx hb d_Ch_follow_80 rfl ?_
              refine va_get (D := D) (ci := 1) (v := .int vhl) (C := R_Ch) (T := F_Ch) (N := 5) hx hb hts i_Ch hown hK hP 0 rfl rfl 3 (by decide) (hts _ wd_96) (fun _ h9 => h9) rfl d_Ch_follow_81 ?_
              refine lv_aload_n hx hb d_Ch_follow_84 rfl (lv_at hl 1 rfl) ?_
              refine lv_iload_n hx hb d_Ch_follow_85 rfl (lv_at hl 3 rfl) ?_
              refine lv_iconst (v := 1) hx hb d_Ch_follow_86 (by decide) ?_
              refine sf_callVr (S := Int32) (rest := [.int vhl, .ref h0]) ⟨hx, hb, hml, hown, hts⟩ (c_Bl_get l D cI cZ cJ h1 a1 n F (nI (N + 4)) vpp 1 hn) (sf_cwV lk_Ch_26 hts (fun _ h => h) (by rw [hR]; exact ⟨Nat.le_of_ble_eq_true rfl, Nat.le_of_ble_eq_true rfl⟩)) hK hP hD hS hA [2, 3] rfl rfl (fun _ => rfl) (ci := 0) (q0 := 0) rfl rfl rfl rfl rfl hl.1 (Nat.le_of_ble_eq_true rfl) d_Ch_follow_87 ⟨Nat.zero_le _, Nat.zero_le _⟩ (fun u_9 H locs hu_9 hP hS => ?_)
              refine lv_iadd hx hb d_Ch_follow_90 ?_
              refine va_put (D := D) (ci := 1) (v := .int (vhl + u_9)) (ty := .int) (C := R_Ch) (T := F_Ch) (N := 5) hx hb hts i_Ch t_Ch t_Ch_ok n_Ch hown hK hP hD hS 0 rfl rfl 3 (by decide) (hts _ wd_96) (fun _ h9 => h9) rfl (by decide +kernel) rfl rfl (Nat.le_of_ble_eq_true rfl) d_Ch_follow_91 (fun H locs hP hD hS => ?_)
              have hP : va_P D classes [(h0, .inr (1, [.ref a0, .int ((nI k) + 1), .int 1, .int (vhl + u_9), .int u_1])), (a0, .inl (cI, 3, .inl (upd vpl k vpp))), (h1, .inr (0, [.ref a1, .int (nI (N + 4))])), (a1, .inl (cI, n, .inl F))] H := hP
              have hD : va_D A [(h0, .inr (1, [.ref a0, .int ((nI k) + 1), .int 1, .int (vhl + u_9), .int u_1])), (a0, .inl (cI, 3, .inl (upd vpl k vpp))), (h1, .inr (0, [.ref a1, .int (nI (N + 4))])), (a1, .inl (cI, n, .inl F))] := hD
              refine lv_aload_n hx hb d_Ch_follow_94 rfl (lv_at hl 1 rfl) ?_
              refine lv_iload_n hx hb d_Ch_follow_95 rfl (lv_at hl 3 rfl) ?_
              refine lv_iconst (v := 0) hx hb d_Ch_follow_96 (by decide) ?_
              refine sf_callVr (S := Int32) (rest := []) ⟨hx, hb, hml, hown, hts⟩ (c_Bl_get l D cI cZ cJ h1 a1 n F (nI (N + 4)) vpp 0 hn) (sf_cwV lk_Ch_26 hts (fun _ h => h) (by rw [hR]; exact ⟨Nat.le_of_ble_eq_true rfl, Nat.le_of_ble_eq_true rfl⟩)) hK hP hD hS hA [2, 3] rfl rfl (fun _ => rfl) (ci := 0) (q0 := 0) rfl rfl rfl rfl rfl hl.1 (Nat.le_of_ble_eq_true rfl) d_Ch_follow_97 ⟨Nat.zero_le _, Nat.zero_le _⟩ (fun u_10 H locs hu_10 hP hS => ?_)
              refine lv_istore (lv' := [(5, .int u_10), (0, .ref h0), (1, .ref h1), (2, .int fi), (3, .int vpp), (4, .int (nI k))]) hx hb d_Ch_follow_100 hl (by decide) rfl (fun ls hl => ?_)
              refine lv_iload hx hb d_Ch_follow_102 (lv_at hl 0 rfl) ?_
              refine lv_if_ne (tgt := 113) hx hb d_Ch_follow_104 (by decide) (fun c_11 => ?_) (fun c_11 => ?_)
              · refine lv_iload hx hb d_Ch_follow_113 (lv_at hl 0 rfl) ?_
                refine lv_iconst (v := 1) hx hb d_Ch_follow_115 (by decide) ?_
                refine lv_isub hx hb d_Ch_follow_116 ?_
                refine lv_istore_n (lv' := [(3, .int (u_10 - 1)), (5, .int u_10), (0, .ref h0), (1, .ref h1), (2, .int fi), (4, .int (nI k))]) hx hb d_Ch_follow_117 rfl hl (by decide) rfl (fun ls hl => ?_)
                refine lv_iinc (v := (nI (k + 1))) (lv' := [(4, .int (nI (k + 1))), (3, .int (u_10 - 1)), (5, .int u_10), (0, .ref h0), (1, .ref h1), (2, .int fi)]) hx hb d_Ch_follow_118 hl (k := 5) rfl (nI_1 k) (by decide) rfl (fun ls hl => ?_)
                refine lv_goto (tgt := 30) hx hb d_Ch_follow_121 (by decide) ?_
                exact ih30 (k + 1) (u_10 - 1) (upd vpl k vpp) ((nI k) + 1) (vhl + u_9) (by omega) (by omega) (by rw [← heq30]; simp only [f_Ch_follow_l, ← hu_1, ← hu_3, ← hu_5, ← hu_7, ← hu_9, ← hu_10, eq_false c_2, eq_false c_4, eq_true c_6, eq_false c_8, eq_false c_11, ↓reduceIte]) _ _ hP hD hS ls (lv_sub hl [3, 4, 5, 1, 0] rfl)
              · refine lv_aload_n hx hb d_Ch_follow_107 rfl (lv_at hl 1 rfl) ?_
                refine lv_iconst (v := 0) hx hb d_Ch_follow_108 (by decide) ?_
                refine va_put (D := D) (ci := 1) (v := .int 0) (ty := .boolean) (C := R_Ch) (T := F_Ch) (N := 5) hx hb hts i_Ch t_Ch t_Ch_ok n_Ch hown hK hP hD hS 0 rfl rfl 2 (by decide) (hts _ wd_95) (fun _ h9 => h9) rfl (by decide +kernel) (sf_bp0).1 (sf_bp0).2 (Nat.le_of_ble_eq_true rfl) d_Ch_follow_109 (fun H locs hP hD hS => ?_)
                have hP : va_P D classes [(h0, .inr (1, [.ref a0, .int ((nI k) + 1), .int 0, .int (vhl + u_9), .int u_1])), (a0, .inl (cI, 3, .inl (upd vpl k vpp))), (h1, .inr (0, [.ref a1, .int (nI (N + 4))])), (a1, .inl (cI, n, .inl F))] H := hP
                have hD : va_D A [(h0, .inr (1, [.ref a0, .int ((nI k) + 1), .int 0, .int (vhl + u_9), .int u_1])), (a0, .inl (cI, 3, .inl (upd vpl k vpp))), (h1, .inr (0, [.ref a1, .int (nI (N + 4))])), (a1, .inl (cI, n, .inl F))] := hD
                rw [hQ]
                exact sf_vret ((upd vpl k vpp), ((nI k) + 1), 0, (vhl + u_9), u_1) hx hb hr hlk hS rfl (by rw [← heq30]; simp only [f_Ch_follow_l, ← hu_1, ← hu_3, ← hu_5, ← hu_7, ← hu_9, ← hu_10, eq_false c_2, eq_false c_4, eq_true c_6, eq_false c_8, eq_true c_11, ↓reduceIte]) hP d_Ch_follow_112
            · rw [hQ]
              exact sf_vret ((upd vpl k vpp), ((nI k) + 1), 1, vhl, u_1) hx hb hr hlk hS rfl (by rw [← heq30]; simp only [f_Ch_follow_l, ← hu_1, ← hu_3, ← hu_5, ← hu_7, eq_false c_2, eq_false c_4, eq_true c_6, eq_true c_8, ↓reduceIte]) hP d_Ch_follow_78
          · rw [hQ]
            exact sf_vret (vpl, vcn, 1, vhl, u_1) hx hb hr hlk hS rfl (by rw [← heq30]; simp only [f_Ch_follow_l, ← hu_1, ← hu_3, ← hu_5, eq_false c_2, eq_false c_4, eq_false c_6, ↓reduceIte]) hP d_Ch_follow_52
  exact loop30 (3 + 1) 0 fi pl 0 0 (by omega) (by omega) (by simp only [f_Ch_follow, ← hu_1, ↓reduceIte]) _ _ hP hD hS ls (lv_sub hl [2, 3, 4, 1, 0] rfl)
end
section
/-! sf1: contracts, with the pure functions that they speak of (printed by wip/gen) -/
set_option maxRecDepth 20000 in
theorem wd_119 : Cond.fieldLink R_SF 62 "ShadowFiles" "tapeLength" "I" ∈ sf_tb := sf_tb_in 119 rfl rfl
set_option maxRecDepth 20000 in
theorem wd_118 : Cond.fieldLink R_SF 48 "ShadowFiles" "tape" "[I" ∈ sf_tb := sf_tb_in 118 rfl rfl
set_option maxRecDepth 20000 in
theorem wd_111 : Cond.fieldLink R_SF 21 "ShadowFiles" "tables" "LShadowFiles$Blocks;" ∈ sf_tb := sf_tb_in 111 rfl rfl
set_option maxRecDepth 20000 in
theorem wd_109 : Cond.fieldLink R_SF 14 "ShadowFiles" "file" "LShadowFiles$Blocks;" ∈ sf_tb := sf_tb_in 109 rfl rfl
set_option maxRecDepth 20000 in
theorem wd_110 : Cond.fieldLink R_SF 18 "ShadowFiles" "slowFile" "LShadowFiles$Blocks;" ∈ sf_tb := sf_tb_in 110 rfl rfl
set_option maxRecDepth 20000 in
theorem wd_114 : Cond.fieldLink R_SF 33 "ShadowFiles" "chain" "LShadowFiles$Chain;" ∈ sf_tb := sf_tb_in 114 rfl rfl
set_option maxRecDepth 20000 in
theorem wd_117 : Cond.fieldLink R_SF 44 "ShadowFiles" "taken" "[I" ∈ sf_tb := sf_tb_in 117 rfl rfl
set_option maxRecDepth 20000 in
theorem wd_120 : Cond.fieldLink R_SF 51 "ShadowFiles" "cutBehind" "I" ∈ sf_tb := sf_tb_in 120 rfl rfl
set_option maxRecDepth 20000 in
theorem wd_122 : Cond.fieldLink R_SF 244 "ShadowFiles" "powerFails" "Z" ∈ sf_tb := sf_tb_in 122 rfl rfl
set_option maxRecDepth 20000 in
theorem wd_121 : Cond.fieldLink R_SF 247 "ShadowFiles" "bytesLeft" "I" ∈ sf_tb := sf_tb_in 121 rfl rfl
set_option maxRecDepth 20000 in
theorem wd_123 : Cond.fieldLink R_SF 83 "ShadowFiles" "shut" "Z" ∈ sf_tb := sf_tb_in 123 rfl rfl
set_option maxRecDepth 20000 in
theorem wd_404 : Cond.methodLink R_SF 110 y_SF_takenAt ∈ sf_tb := sf_tb_in 404 rfl rfl
set_option maxRecDepth 20000 in
theorem wd_407 : Cond.code y_SF_takenAt b_SF_takenAt 2 (some .int) ∈ sf_tb := sf_tb_in 407 rfl rfl
set_option maxRecDepth 20000 in
theorem wd_51 : Cond.initialized R_SF ∈ sf_tb := sf_tb_in 51 rfl rfl
set_option maxRecDepth 20000 in
theorem wd_406 : Cond.instanceMethod y_SF_takenAt ∈ sf_tb := sf_tb_in 406 rfl rfl
set_option maxRecDepth 20000 in
theorem wd_16 : Cond.selects R_SF y_SF_takenAt y_SF_takenAt ∈ sf_tb := sf_tb_in 16 rfl rfl
set_option maxRecDepth 20000 in
theorem wd_351 : Cond.methodLink R_SF 160 y_SF_placesOf ∈ sf_tb := sf_tb_in 351 rfl rfl
set_option maxRecDepth 20000 in
theorem wd_354 : Cond.code y_SF_placesOf b_SF_placesOf 2 (some (.object "ShadowFiles$Blocks")) ∈ sf_tb := sf_tb_in 354 rfl rfl
set_option maxRecDepth 20000 in
theorem wd_353 : Cond.instanceMethod y_SF_placesOf ∈ sf_tb := sf_tb_in 353 rfl rfl
set_option maxRecDepth 20000 in
theorem wd_9 : Cond.selects R_SF y_SF_placesOf y_SF_placesOf ∈ sf_tb := sf_tb_in 9 rfl rfl
set_option maxRecDepth 20000 in
theorem wd_164 : Cond.methodLink R_SF 179 y_SF_countingTable ∈ sf_tb := sf_tb_in 164 rfl rfl
set_option maxRecDepth 20000 in
theorem wd_167 : Cond.code y_SF_countingTable b_SF_countingTable 3 (some .int) ∈ sf_tb := sf_tb_in 167 rfl rfl
set_option maxRecDepth 20000 in
theorem wd_166 : Cond.instanceMethod y_SF_countingTable ∈ sf_tb := sf_tb_in 166 rfl rfl
set_option maxRecDepth 20000 in
theorem wd_1 : Cond.selects R_SF y_SF_countingTable y_SF_countingTable ∈ sf_tb := sf_tb_in 1 rfl rfl
set_option maxRecDepth 20000 in
theorem wd_186 : Cond.methodLink R_SF 182 y_SF_numberOf ∈ sf_tb := sf_tb_in 186 rfl rfl
set_option maxRecDepth 20000 in
theorem wd_189 : Cond.code y_SF_numberOf b_SF_numberOf 2 (some .int) ∈ sf_tb := sf_tb_in 189 rfl rfl
set_option maxRecDepth 20000 in
theorem wd_188 : Cond.instanceMethod y_SF_numberOf ∈ sf_tb := sf_tb_in 188 rfl rfl
set_option maxRecDepth 20000 in
theorem wd_3 : Cond.selects R_SF y_SF_numberOf y_SF_numberOf ∈ sf_tb := sf_tb_in 3 rfl rfl
set_option maxRecDepth 20000 in
theorem wd_172 : Cond.methodLink R_SF 203 y_Bl_get ∈ sf_tb := sf_tb_in 172 rfl rfl
set_option maxRecDepth 20000 in
theorem wd_176 : Cond.methodLink R_SF 215 y_Bl_sumIsRight ∈ sf_tb := sf_tb_in 176 rfl rfl
set_option maxRecDepth 20000 in
theorem wd_168 : Cond.methodLink R_SF 218 y_SF_isGood ∈ sf_tb := sf_tb_in 168 rfl rfl
set_option maxRecDepth 20000 in
theorem wd_171 : Cond.code y_SF_isGood b_SF_isGood 3 (some .boolean) ∈ sf_tb := sf_tb_in 171 rfl rfl
set_option maxRecDepth 20000 in
theorem wd_170 : Cond.instanceMethod y_SF_isGood ∈ sf_tb := sf_tb_in 170 rfl rfl
set_option maxRecDepth 20000 in
theorem wd_2 : Cond.selects R_SF y_SF_isGood y_SF_isGood ∈ sf_tb := sf_tb_in 2 rfl rfl
set_option maxRecDepth 20000 in
theorem wd_190 : Cond.methodLink R_SF 221 y_SF_numberBehind ∈ sf_tb := sf_tb_in 190 rfl rfl
set_option maxRecDepth 20000 in
theorem wd_192 : Cond.code y_SF_numberBehind b_SF_numberBehind 1 (some .int) ∈ sf_tb := sf_tb_in 192 rfl rfl
set_option maxRecDepth 20000 in
theorem wd_191 : Cond.static y_SF_numberBehind ∈ sf_tb := sf_tb_in 191 rfl rfl
set_option maxRecDepth 20000 in
theorem wd_193 : Cond.methodLink R_SF 224 y_SF_firstOf ∈ sf_tb := sf_tb_in 193 rfl rfl
set_option maxRecDepth 20000 in
theorem wd_196 : Cond.code y_SF_firstOf b_SF_firstOf 4 (some .int) ∈ sf_tb := sf_tb_in 196 rfl rfl
set_option maxRecDepth 20000 in
theorem wd_195 : Cond.instanceMethod y_SF_firstOf ∈ sf_tb := sf_tb_in 195 rfl rfl
set_option maxRecDepth 20000 in
theorem wd_4 : Cond.selects R_SF y_SF_firstOf y_SF_firstOf ∈ sf_tb := sf_tb_in 4 rfl rfl
set_option maxRecDepth 20000 in
theorem wd_355 : Cond.methodLink R_SF 228 y_Ch_follow ∈ sf_tb := sf_tb_in 355 rfl rfl
set_option maxRecDepth 20000 in
theorem wd_358 : Cond.code y_Ch_follow b_Ch_follow 6 none ∈ sf_tb := sf_tb_in 358 rfl rfl
set_option maxRecDepth 20000 in
theorem wd_356 : Cond.instanceMethod y_Ch_follow ∈ sf_tb := sf_tb_in 356 rfl rfl
set_option maxRecDepth 20000 in
theorem wd_357 : Cond.selects R_Ch y_Ch_follow y_Ch_follow ∈ sf_tb := sf_tb_in 357 rfl rfl
theorem lk_SF_110 : sf_LV R_SF 110 y_SF_takenAt b_SF_takenAt 2 (some .int) 1 := ⟨wd_407, wd_404, wd_406, wd_16, wd_51, by decide +kernel⟩
theorem lk_SF_160 : sf_LV R_SF 160 y_SF_placesOf b_SF_placesOf 2 (some (.object "ShadowFiles$Blocks")) 1 := ⟨wd_354, wd_351, wd_353, wd_9, wd_51, by decide +kernel⟩
theorem lk_SF_179 : sf_LV R_SF 179 y_SF_countingTable b_SF_countingTable 3 (some .int) 0 := ⟨wd_167, wd_164, wd_166, wd_1, wd_51, by decide +kernel⟩
theorem lk_SF_182 : sf_LV R_SF 182 y_SF_numberOf b_SF_numberOf 2 (some .int) 1 := ⟨wd_189, wd_186, wd_188, wd_3, wd_51, by decide +kernel⟩
theorem lk_SF_203 : sf_LV R_SF 203 y_Bl_get b_Bl_get 4 (some .int) 2 := ⟨wd_175, wd_172, wd_173, wd_174, wd_52, by decide +kernel⟩
theorem lk_SF_215 : sf_LV R_SF 215 y_Bl_sumIsRight b_Bl_sumIsRight 4 (some .boolean) 1 := ⟨wd_179, wd_176, wd_177, wd_178, wd_52, by decide +kernel⟩
theorem lk_SF_218 : sf_LV R_SF 218 y_SF_isGood b_SF_isGood 3 (some .boolean) 1 := ⟨wd_171, wd_168, wd_170, wd_2, wd_51, by decide +kernel⟩
theorem lk_SF_221 : sf_LS R_SF 221 y_SF_numberBehind b_SF_numberBehind 1 (some .int) 1 := ⟨wd_192, wd_190, wd_191, wd_51, by decide +kernel⟩
theorem lk_SF_224 : sf_LV R_SF 224 y_SF_firstOf b_SF_firstOf 4 (some .int) 3 := ⟨wd_196, wd_193, wd_195, wd_4, wd_51, by decide +kernel⟩
theorem lk_SF_228 : sf_LV R_SF 228 y_Ch_follow b_Ch_follow 6 none 2 := ⟨wd_358, wd_355, wd_356, wd_357, wd_53, by decide +kernel⟩
theorem d_SF_isRow_0 : decode b_SF_isRow 0 = .ok (.iload_n 0, 1) := by decide +kernel
theorem d_SF_isRow_1 : decode b_SF_isRow 1 = .ok (.ifCond .lt 13, 3) := by decide +kernel
theorem d_SF_isRow_4 : decode b_SF_isRow 4 = .ok (.iload_n 0, 1) := by decide +kernel
theorem d_SF_isRow_5 : decode b_SF_isRow 5 = .ok (.bipush 12, 2) := by decide +kernel
theorem d_SF_isRow_7 : decode b_SF_isRow 7 = .ok (.if_icmp .ge 7, 3) := by decide +kernel
theorem d_SF_isRow_10 : decode b_SF_isRow 10 = .ok (.iconst 1, 1) := by decide +kernel
theorem d_SF_isRow_11 : decode b_SF_isRow 11 = .ok (.goto 4, 3) := by decide +kernel
theorem d_SF_isRow_14 : decode b_SF_isRow 14 = .ok (.iconst 0, 1) := by decide +kernel
theorem d_SF_isRow_15 : decode b_SF_isRow 15 = .ok (.ireturn, 1) := by decide +kernel
theorem d_SF_isMonth_0 : decode b_SF_isMonth 0 = .ok (.iload_n 0, 1) := by decide +kernel
theorem d_SF_isMonth_1 : decode b_SF_isMonth 1 = .ok (.ifCond .lt 13, 3) := by decide +kernel
theorem d_SF_isMonth_4 : decode b_SF_isMonth 4 = .ok (.iload_n 0, 1) := by decide +kernel
theorem d_SF_isMonth_5 : decode b_SF_isMonth 5 = .ok (.bipush 12, 2) := by decide +kernel
theorem d_SF_isMonth_7 : decode b_SF_isMonth 7 = .ok (.if_icmp .ge 7, 3) := by decide +kernel
theorem d_SF_isMonth_10 : decode b_SF_isMonth 10 = .ok (.iconst 1, 1) := by decide +kernel
theorem d_SF_isMonth_11 : decode b_SF_isMonth 11 = .ok (.goto 4, 3) := by decide +kernel
theorem d_SF_isMonth_14 : decode b_SF_isMonth 14 = .ok (.iconst 0, 1) := by decide +kernel
theorem d_SF_isMonth_15 : decode b_SF_isMonth 15 = .ok (.ireturn, 1) := by decide +kernel
theorem d_SF_numberBehind_0 : decode b_SF_numberBehind 0 = .ok (.iload_n 0, 1) := by decide +kernel
theorem d_SF_numberBehind_1 : decode b_SF_numberBehind 1 = .ok (.sipush 250, 3) := by decide +kernel
theorem d_SF_numberBehind_4 : decode b_SF_numberBehind 4 = .ok (.if_icmp .lt 7, 3) := by decide +kernel
theorem d_SF_numberBehind_7 : decode b_SF_numberBehind 7 = .ok (.iconst 1, 1) := by decide +kernel
theorem d_SF_numberBehind_8 : decode b_SF_numberBehind 8 = .ok (.goto 6, 3) := by decide +kernel
theorem d_SF_numberBehind_11 : decode b_SF_numberBehind 11 = .ok (.iload_n 0, 1) := by decide +kernel
theorem d_SF_numberBehind_12 : decode b_SF_numberBehind 12 = .ok (.iconst 1, 1) := by decide +kernel
theorem d_SF_numberBehind_13 : decode b_SF_numberBehind 13 = .ok (.iadd, 1) := by decide +kernel
theorem d_SF_numberBehind_14 : decode b_SF_numberBehind 14 = .ok (.ireturn, 1) := by decide +kernel
theorem d_SF_countPlaces_0 : decode b_SF_countPlaces 0 = .ok (.iload_n 0, 1) := by decide +kernel
theorem d_SF_countPlaces_1 : decode b_SF_countPlaces 1 = .ok (.ifCond .eq 8, 3) := by decide +kernel
theorem d_SF_countPlaces_4 : decode b_SF_countPlaces 4 = .ok (.bipush 16, 2) := by decide +kernel
theorem d_SF_countPlaces_6 : decode b_SF_countPlaces 6 = .ok (.goto 5, 3) := by decide +kernel
theorem d_SF_countPlaces_9 : decode b_SF_countPlaces 9 = .ok (.bipush 24, 2) := by decide +kernel
theorem d_SF_countPlaces_11 : decode b_SF_countPlaces 11 = .ok (.ireturn, 1) := by decide +kernel
theorem d_SF_addToTape_0 : decode b_SF_addToTape 0 = .ok (.aload_n 0, 1) := by decide +kernel
theorem d_SF_addToTape_1 : decode b_SF_addToTape 1 = .ok (.getfield 62, 3) := by decide +kernel
theorem d_SF_addToTape_4 : decode b_SF_addToTape 4 = .ok (.ifCond .lt 32, 3) := by decide +kernel
theorem d_SF_addToTape_7 : decode b_SF_addToTape 7 = .ok (.aload_n 0, 1) := by decide +kernel
theorem d_SF_addToTape_8 : decode b_SF_addToTape 8 = .ok (.getfield 62, 3) := by decide +kernel
theorem d_SF_addToTape_11 : decode b_SF_addToTape 11 = .ok (.bipush 60, 2) := by decide +kernel
theorem d_SF_addToTape_13 : decode b_SF_addToTape 13 = .ok (.if_icmp .ge 23, 3) := by decide +kernel
theorem d_SF_addToTape_16 : decode b_SF_addToTape 16 = .ok (.aload_n 0, 1) := by decide +kernel
theorem d_SF_addToTape_17 : decode b_SF_addToTape 17 = .ok (.getfield 48, 3) := by decide +kernel
theorem d_SF_addToTape_20 : decode b_SF_addToTape 20 = .ok (.aload_n 0, 1) := by decide +kernel
theorem d_SF_addToTape_21 : decode b_SF_addToTape 21 = .ok (.getfield 62, 3) := by decide +kernel
theorem d_SF_addToTape_24 : decode b_SF_addToTape 24 = .ok (.iload_n 1, 1) := by decide +kernel
theorem d_SF_addToTape_25 : decode b_SF_addToTape 25 = .ok (.iastore, 1) := by decide +kernel
theorem d_SF_addToTape_26 : decode b_SF_addToTape 26 = .ok (.aload_n 0, 1) := by decide +kernel
theorem d_SF_addToTape_27 : decode b_SF_addToTape 27 = .ok (.dup, 1) := by decide +kernel
theorem d_SF_addToTape_28 : decode b_SF_addToTape 28 = .ok (.getfield 62, 3) := by decide +kernel
theorem d_SF_addToTape_31 : decode b_SF_addToTape 31 = .ok (.iconst 1, 1) := by decide +kernel
theorem d_SF_addToTape_32 : decode b_SF_addToTape 32 = .ok (.iadd, 1) := by decide +kernel
theorem d_SF_addToTape_33 : decode b_SF_addToTape 33 = .ok (.putfield 62, 3) := by decide +kernel
theorem d_SF_addToTape_36 : decode b_SF_addToTape 36 = .ok (.return_, 1) := by decide +kernel
theorem d_SF_isGood_0 : decode b_SF_isGood 0 = .ok (.aload_n 0, 1) := by decide +kernel
theorem d_SF_isGood_1 : decode b_SF_isGood 1 = .ok (.getfield 21, 3) := by decide +kernel
theorem d_SF_isGood_4 : decode b_SF_isGood 4 = .ok (.iload_n 1, 1) := by decide +kernel
theorem d_SF_isGood_5 : decode b_SF_isGood 5 = .ok (.iconst 0, 1) := by decide +kernel
theorem d_SF_isGood_6 : decode b_SF_isGood 6 = .ok (.invokevirtual 203, 3) := by decide +kernel
theorem d_SF_isGood_9 : decode b_SF_isGood 9 = .ok (.istore_n 2, 1) := by decide +kernel
theorem d_SF_isGood_10 : decode b_SF_isGood 10 = .ok (.iload_n 2, 1) := by decide +kernel
theorem d_SF_isGood_11 : decode b_SF_isGood 11 = .ok (.iconst 1, 1) := by decide +kernel
theorem d_SF_isGood_12 : decode b_SF_isGood 12 = .ok (.if_icmp .lt 25, 3) := by decide +kernel
theorem d_SF_isGood_15 : decode b_SF_isGood 15 = .ok (.iload_n 2, 1) := by decide +kernel
theorem d_SF_isGood_16 : decode b_SF_isGood 16 = .ok (.sipush 250, 3) := by decide +kernel
theorem d_SF_isGood_19 : decode b_SF_isGood 19 = .ok (.if_icmp .gt 18, 3) := by decide +kernel
theorem d_SF_isGood_22 : decode b_SF_isGood 22 = .ok (.aload_n 0, 1) := by decide +kernel
theorem d_SF_isGood_23 : decode b_SF_isGood 23 = .ok (.getfield 21, 3) := by decide +kernel
theorem d_SF_isGood_26 : decode b_SF_isGood 26 = .ok (.iload_n 1, 1) := by decide +kernel
theorem d_SF_isGood_27 : decode b_SF_isGood 27 = .ok (.invokevirtual 215, 3) := by decide +kernel
theorem d_SF_isGood_30 : decode b_SF_isGood 30 = .ok (.ifCond .eq 7, 3) := by decide +kernel
theorem d_SF_isGood_33 : decode b_SF_isGood 33 = .ok (.iconst 1, 1) := by decide +kernel
theorem d_SF_isGood_34 : decode b_SF_isGood 34 = .ok (.goto 4, 3) := by decide +kernel
theorem d_SF_isGood_37 : decode b_SF_isGood 37 = .ok (.iconst 0, 1) := by decide +kernel
theorem d_SF_isGood_38 : decode b_SF_isGood 38 = .ok (.ireturn, 1) := by decide +kernel
theorem d_SF_numberOf_0 : decode b_SF_numberOf 0 = .ok (.iload_n 1, 1) := by decide +kernel
theorem d_SF_numberOf_1 : decode b_SF_numberOf 1 = .ok (.iconst (-1), 1) := by decide +kernel
theorem d_SF_numberOf_2 : decode b_SF_numberOf 2 = .ok (.if_icmp .ne 7, 3) := by decide +kernel
theorem d_SF_numberOf_5 : decode b_SF_numberOf 5 = .ok (.iconst 0, 1) := by decide +kernel
theorem d_SF_numberOf_6 : decode b_SF_numberOf 6 = .ok (.goto 12, 3) := by decide +kernel
theorem d_SF_numberOf_9 : decode b_SF_numberOf 9 = .ok (.aload_n 0, 1) := by decide +kernel
theorem d_SF_numberOf_10 : decode b_SF_numberOf 10 = .ok (.getfield 21, 3) := by decide +kernel
theorem d_SF_numberOf_13 : decode b_SF_numberOf 13 = .ok (.iload_n 1, 1) := by decide +kernel
theorem d_SF_numberOf_14 : decode b_SF_numberOf 14 = .ok (.iconst 0, 1) := by decide +kernel
theorem d_SF_numberOf_15 : decode b_SF_numberOf 15 = .ok (.invokevirtual 203, 3) := by decide +kernel
theorem d_SF_numberOf_18 : decode b_SF_numberOf 18 = .ok (.ireturn, 1) := by decide +kernel
theorem d_SF_countingTable_0 : decode b_SF_countingTable 0 = .ok (.aload_n 0, 1) := by decide +kernel
theorem d_SF_countingTable_1 : decode b_SF_countingTable 1 = .ok (.iconst 0, 1) := by decide +kernel
theorem d_SF_countingTable_2 : decode b_SF_countingTable 2 = .ok (.invokevirtual 218, 3) := by decide +kernel
theorem d_SF_countingTable_5 : decode b_SF_countingTable 5 = .ok (.istore_n 1, 1) := by decide +kernel
theorem d_SF_countingTable_6 : decode b_SF_countingTable 6 = .ok (.aload_n 0, 1) := by decide +kernel
theorem d_SF_countingTable_7 : decode b_SF_countingTable 7 = .ok (.iconst 1, 1) := by decide +kernel
theorem d_SF_countingTable_8 : decode b_SF_countingTable 8 = .ok (.invokevirtual 218, 3) := by decide +kernel
theorem d_SF_countingTable_11 : decode b_SF_countingTable 11 = .ok (.istore_n 2, 1) := by decide +kernel
theorem d_SF_countingTable_12 : decode b_SF_countingTable 12 = .ok (.iload_n 1, 1) := by decide +kernel
theorem d_SF_countingTable_13 : decode b_SF_countingTable 13 = .ok (.ifCond .eq 29, 3) := by decide +kernel
theorem d_SF_countingTable_16 : decode b_SF_countingTable 16 = .ok (.iload_n 2, 1) := by decide +kernel
theorem d_SF_countingTable_17 : decode b_SF_countingTable 17 = .ok (.ifCond .eq 25, 3) := by decide +kernel
theorem d_SF_countingTable_20 : decode b_SF_countingTable 20 = .ok (.aload_n 0, 1) := by decide +kernel
theorem d_SF_countingTable_21 : decode b_SF_countingTable 21 = .ok (.iconst 1, 1) := by decide +kernel
theorem d_SF_countingTable_22 : decode b_SF_countingTable 22 = .ok (.invokevirtual 182, 3) := by decide +kernel
theorem d_SF_countingTable_25 : decode b_SF_countingTable 25 = .ok (.aload_n 0, 1) := by decide +kernel
theorem d_SF_countingTable_26 : decode b_SF_countingTable 26 = .ok (.iconst 0, 1) := by decide +kernel
theorem d_SF_countingTable_27 : decode b_SF_countingTable 27 = .ok (.invokevirtual 182, 3) := by decide +kernel
theorem d_SF_countingTable_30 : decode b_SF_countingTable 30 = .ok (.invokestatic 221, 3) := by decide +kernel
theorem d_SF_countingTable_33 : decode b_SF_countingTable 33 = .ok (.if_icmp .ne 7, 3) := by decide +kernel
theorem d_SF_countingTable_36 : decode b_SF_countingTable 36 = .ok (.iconst 1, 1) := by decide +kernel
theorem d_SF_countingTable_37 : decode b_SF_countingTable 37 = .ok (.goto 4, 3) := by decide +kernel
theorem d_SF_countingTable_40 : decode b_SF_countingTable 40 = .ok (.iconst 0, 1) := by decide +kernel
theorem d_SF_countingTable_41 : decode b_SF_countingTable 41 = .ok (.ireturn, 1) := by decide +kernel
theorem d_SF_countingTable_42 : decode b_SF_countingTable 42 = .ok (.iload_n 1, 1) := by decide +kernel
theorem d_SF_countingTable_43 : decode b_SF_countingTable 43 = .ok (.ifCond .eq 5, 3) := by decide +kernel
theorem d_SF_countingTable_46 : decode b_SF_countingTable 46 = .ok (.iconst 0, 1) := by decide +kernel
theorem d_SF_countingTable_47 : decode b_SF_countingTable 47 = .ok (.ireturn, 1) := by decide +kernel
theorem d_SF_countingTable_48 : decode b_SF_countingTable 48 = .ok (.iload_n 2, 1) := by decide +kernel
theorem d_SF_countingTable_49 : decode b_SF_countingTable 49 = .ok (.ifCond .eq 7, 3) := by decide +kernel
theorem d_SF_countingTable_52 : decode b_SF_countingTable 52 = .ok (.iconst 1, 1) := by decide +kernel
theorem d_SF_countingTable_53 : decode b_SF_countingTable 53 = .ok (.goto 4, 3) := by decide +kernel
theorem d_SF_countingTable_56 : decode b_SF_countingTable 56 = .ok (.iconst (-1), 1) := by decide +kernel
theorem d_SF_countingTable_57 : decode b_SF_countingTable 57 = .ok (.ireturn, 1) := by decide +kernel
theorem d_SF_firstOf_0 : decode b_SF_firstOf 0 = .ok (.iload_n 1, 1) := by decide +kernel
theorem d_SF_firstOf_1 : decode b_SF_firstOf 1 = .ok (.iconst (-1), 1) := by decide +kernel
theorem d_SF_firstOf_2 : decode b_SF_firstOf 2 = .ok (.if_icmp .ne 7, 3) := by decide +kernel
theorem d_SF_firstOf_5 : decode b_SF_firstOf 5 = .ok (.iconst 0, 1) := by decide +kernel
theorem d_SF_firstOf_6 : decode b_SF_firstOf 6 = .ok (.goto 23, 3) := by decide +kernel
theorem d_SF_firstOf_9 : decode b_SF_firstOf 9 = .ok (.aload_n 0, 1) := by decide +kernel
theorem d_SF_firstOf_10 : decode b_SF_firstOf 10 = .ok (.getfield 21, 3) := by decide +kernel
theorem d_SF_firstOf_13 : decode b_SF_firstOf 13 = .ok (.iload_n 1, 1) := by decide +kernel
theorem d_SF_firstOf_14 : decode b_SF_firstOf 14 = .ok (.iload_n 3, 1) := by decide +kernel
theorem d_SF_firstOf_15 : decode b_SF_firstOf 15 = .ok (.ifCond .eq 8, 3) := by decide +kernel
theorem d_SF_firstOf_18 : decode b_SF_firstOf 18 = .ok (.bipush 13, 2) := by decide +kernel
theorem d_SF_firstOf_20 : decode b_SF_firstOf 20 = .ok (.goto 4, 3) := by decide +kernel
theorem d_SF_firstOf_23 : decode b_SF_firstOf 23 = .ok (.iconst 1, 1) := by decide +kernel
theorem d_SF_firstOf_24 : decode b_SF_firstOf 24 = .ok (.iload_n 2, 1) := by decide +kernel
theorem d_SF_firstOf_25 : decode b_SF_firstOf 25 = .ok (.iadd, 1) := by decide +kernel
theorem d_SF_firstOf_26 : decode b_SF_firstOf 26 = .ok (.invokevirtual 203, 3) := by decide +kernel
theorem d_SF_firstOf_29 : decode b_SF_firstOf 29 = .ok (.ireturn, 1) := by decide +kernel
theorem d_SF_isThere_0 : decode b_SF_isThere 0 = .ok (.aload_n 0, 1) := by decide +kernel
theorem d_SF_isThere_1 : decode b_SF_isThere 1 = .ok (.invokevirtual 179, 3) := by decide +kernel
theorem d_SF_isThere_4 : decode b_SF_isThere 4 = .ok (.istore_n 2, 1) := by decide +kernel
theorem d_SF_isThere_5 : decode b_SF_isThere 5 = .ok (.aload_n 0, 1) := by decide +kernel
theorem d_SF_isThere_6 : decode b_SF_isThere 6 = .ok (.iload_n 2, 1) := by decide +kernel
theorem d_SF_isThere_7 : decode b_SF_isThere 7 = .ok (.iload_n 1, 1) := by decide +kernel
theorem d_SF_isThere_8 : decode b_SF_isThere 8 = .ok (.iconst 0, 1) := by decide +kernel
theorem d_SF_isThere_9 : decode b_SF_isThere 9 = .ok (.invokevirtual 224, 3) := by decide +kernel
theorem d_SF_isThere_12 : decode b_SF_isThere 12 = .ok (.ifCond .ne 13, 3) := by decide +kernel
theorem d_SF_isThere_15 : decode b_SF_isThere 15 = .ok (.aload_n 0, 1) := by decide +kernel
theorem d_SF_isThere_16 : decode b_SF_isThere 16 = .ok (.iload_n 2, 1) := by decide +kernel
theorem d_SF_isThere_17 : decode b_SF_isThere 17 = .ok (.iload_n 1, 1) := by decide +kernel
theorem d_SF_isThere_18 : decode b_SF_isThere 18 = .ok (.iconst 1, 1) := by decide +kernel
theorem d_SF_isThere_19 : decode b_SF_isThere 19 = .ok (.invokevirtual 224, 3) := by decide +kernel
theorem d_SF_isThere_22 : decode b_SF_isThere 22 = .ok (.ifCond .eq 7, 3) := by decide +kernel
theorem d_SF_isThere_25 : decode b_SF_isThere 25 = .ok (.iconst 1, 1) := by decide +kernel
theorem d_SF_isThere_26 : decode b_SF_isThere 26 = .ok (.goto 4, 3) := by decide +kernel
theorem d_SF_isThere_29 : decode b_SF_isThere 29 = .ok (.iconst 0, 1) := by decide +kernel
theorem d_SF_isThere_30 : decode b_SF_isThere 30 = .ok (.ireturn, 1) := by decide +kernel
theorem d_SF_isSlow_0 : decode b_SF_isSlow 0 = .ok (.aload_n 0, 1) := by decide +kernel
theorem d_SF_isSlow_1 : decode b_SF_isSlow 1 = .ok (.aload_n 0, 1) := by decide +kernel
theorem d_SF_isSlow_2 : decode b_SF_isSlow 2 = .ok (.invokevirtual 179, 3) := by decide +kernel
theorem d_SF_isSlow_5 : decode b_SF_isSlow 5 = .ok (.iload_n 1, 1) := by decide +kernel
theorem d_SF_isSlow_6 : decode b_SF_isSlow 6 = .ok (.iconst 1, 1) := by decide +kernel
theorem d_SF_isSlow_7 : decode b_SF_isSlow 7 = .ok (.invokevirtual 224, 3) := by decide +kernel
theorem d_SF_isSlow_10 : decode b_SF_isSlow 10 = .ok (.ifCond .eq 7, 3) := by decide +kernel
theorem d_SF_isSlow_13 : decode b_SF_isSlow 13 = .ok (.iconst 1, 1) := by decide +kernel
theorem d_SF_isSlow_14 : decode b_SF_isSlow 14 = .ok (.goto 4, 3) := by decide +kernel
theorem d_SF_isSlow_17 : decode b_SF_isSlow 17 = .ok (.iconst 0, 1) := by decide +kernel
theorem d_SF_isSlow_18 : decode b_SF_isSlow 18 = .ok (.ireturn, 1) := by decide +kernel
theorem d_SF_placesOf_0 : decode b_SF_placesOf 0 = .ok (.iload_n 1, 1) := by decide +kernel
theorem d_SF_placesOf_1 : decode b_SF_placesOf 1 = .ok (.ifCond .eq 10, 3) := by decide +kernel
theorem d_SF_placesOf_4 : decode b_SF_placesOf 4 = .ok (.aload_n 0, 1) := by decide +kernel
theorem d_SF_placesOf_5 : decode b_SF_placesOf 5 = .ok (.getfield 18, 3) := by decide +kernel
theorem d_SF_placesOf_8 : decode b_SF_placesOf 8 = .ok (.goto 7, 3) := by decide +kernel
theorem d_SF_placesOf_11 : decode b_SF_placesOf 11 = .ok (.aload_n 0, 1) := by decide +kernel
theorem d_SF_placesOf_12 : decode b_SF_placesOf 12 = .ok (.getfield 14, 3) := by decide +kernel
theorem d_SF_placesOf_15 : decode b_SF_placesOf 15 = .ok (.areturn, 1) := by decide +kernel
theorem d_SF_followRow_0 : decode b_SF_followRow 0 = .ok (.aload_n 0, 1) := by decide +kernel
theorem d_SF_followRow_1 : decode b_SF_followRow 1 = .ok (.invokevirtual 179, 3) := by decide +kernel
theorem d_SF_followRow_4 : decode b_SF_followRow 4 = .ok (.istore_n 2, 1) := by decide +kernel
theorem d_SF_followRow_5 : decode b_SF_followRow 5 = .ok (.aload_n 0, 1) := by decide +kernel
theorem d_SF_followRow_6 : decode b_SF_followRow 6 = .ok (.iload_n 2, 1) := by decide +kernel
theorem d_SF_followRow_7 : decode b_SF_followRow 7 = .ok (.iload_n 1, 1) := by decide +kernel
theorem d_SF_followRow_8 : decode b_SF_followRow 8 = .ok (.iconst 1, 1) := by decide +kernel
theorem d_SF_followRow_9 : decode b_SF_followRow 9 = .ok (.invokevirtual 224, 3) := by decide +kernel
theorem d_SF_followRow_12 : decode b_SF_followRow 12 = .ok (.ifCond .eq 7, 3) := by decide +kernel
theorem d_SF_followRow_15 : decode b_SF_followRow 15 = .ok (.iconst 1, 1) := by decide +kernel
theorem d_SF_followRow_16 : decode b_SF_followRow 16 = .ok (.goto 4, 3) := by decide +kernel
theorem d_SF_followRow_19 : decode b_SF_followRow 19 = .ok (.iconst 0, 1) := by decide +kernel
theorem d_SF_followRow_20 : decode b_SF_followRow 20 = .ok (.istore_n 3, 1) := by decide +kernel
theorem d_SF_followRow_21 : decode b_SF_followRow 21 = .ok (.aload_n 0, 1) := by decide +kernel
theorem d_SF_followRow_22 : decode b_SF_followRow 22 = .ok (.getfield 33, 3) := by decide +kernel
theorem d_SF_followRow_25 : decode b_SF_followRow 25 = .ok (.aload_n 0, 1) := by decide +kernel
theorem d_SF_followRow_26 : decode b_SF_followRow 26 = .ok (.iload_n 3, 1) := by decide +kernel
theorem d_SF_followRow_27 : decode b_SF_followRow 27 = .ok (.invokevirtual 160, 3) := by decide +kernel
theorem d_SF_followRow_30 : decode b_SF_followRow 30 = .ok (.aload_n 0, 1) := by decide +kernel
theorem d_SF_followRow_31 : decode b_SF_followRow 31 = .ok (.iload_n 2, 1) := by decide +kernel
theorem d_SF_followRow_32 : decode b_SF_followRow 32 = .ok (.iload_n 1, 1) := by decide +kernel
theorem d_SF_followRow_33 : decode b_SF_followRow 33 = .ok (.iload_n 3, 1) := by decide +kernel
theorem d_SF_followRow_34 : decode b_SF_followRow 34 = .ok (.invokevirtual 224, 3) := by decide +kernel
theorem d_SF_followRow_37 : decode b_SF_followRow 37 = .ok (.iconst 1, 1) := by decide +kernel
theorem d_SF_followRow_38 : decode b_SF_followRow 38 = .ok (.isub, 1) := by decide +kernel
theorem d_SF_followRow_39 : decode b_SF_followRow 39 = .ok (.invokevirtual 228, 3) := by decide +kernel
theorem d_SF_followRow_42 : decode b_SF_followRow 42 = .ok (.return_, 1) := by decide +kernel
theorem d_SF_takenAt_0 : decode b_SF_takenAt 0 = .ok (.iload_n 1, 1) := by decide +kernel
theorem d_SF_takenAt_1 : decode b_SF_takenAt 1 = .ok (.ifCond .lt 17, 3) := by decide +kernel
theorem d_SF_takenAt_4 : decode b_SF_takenAt 4 = .ok (.iload_n 1, 1) := by decide +kernel
theorem d_SF_takenAt_5 : decode b_SF_takenAt 5 = .ok (.iconst 3, 1) := by decide +kernel
theorem d_SF_takenAt_6 : decode b_SF_takenAt 6 = .ok (.if_icmp .ge 12, 3) := by decide +kernel
theorem d_SF_takenAt_9 : decode b_SF_takenAt 9 = .ok (.aload_n 0, 1) := by decide +kernel
theorem d_SF_takenAt_10 : decode b_SF_takenAt 10 = .ok (.getfield 44, 3) := by decide +kernel
theorem d_SF_takenAt_13 : decode b_SF_takenAt 13 = .ok (.iload_n 1, 1) := by decide +kernel
theorem d_SF_takenAt_14 : decode b_SF_takenAt 14 = .ok (.iaload, 1) := by decide +kernel
theorem d_SF_takenAt_15 : decode b_SF_takenAt 15 = .ok (.goto 4, 3) := by decide +kernel
theorem d_SF_takenAt_18 : decode b_SF_takenAt 18 = .ok (.iconst (-1), 1) := by decide +kernel
theorem d_SF_takenAt_19 : decode b_SF_takenAt 19 = .ok (.ireturn, 1) := by decide +kernel
theorem d_SF_tapeAt_0 : decode b_SF_tapeAt 0 = .ok (.iload_n 1, 1) := by decide +kernel
theorem d_SF_tapeAt_1 : decode b_SF_tapeAt 1 = .ok (.ifCond .lt 26, 3) := by decide +kernel
theorem d_SF_tapeAt_4 : decode b_SF_tapeAt 4 = .ok (.iload_n 1, 1) := by decide +kernel
theorem d_SF_tapeAt_5 : decode b_SF_tapeAt 5 = .ok (.aload_n 0, 1) := by decide +kernel
theorem d_SF_tapeAt_6 : decode b_SF_tapeAt 6 = .ok (.getfield 62, 3) := by decide +kernel
theorem d_SF_tapeAt_9 : decode b_SF_tapeAt 9 = .ok (.if_icmp .ge 18, 3) := by decide +kernel
theorem d_SF_tapeAt_12 : decode b_SF_tapeAt 12 = .ok (.iload_n 1, 1) := by decide +kernel
theorem d_SF_tapeAt_13 : decode b_SF_tapeAt 13 = .ok (.bipush 60, 2) := by decide +kernel
theorem d_SF_tapeAt_15 : decode b_SF_tapeAt 15 = .ok (.if_icmp .ge 12, 3) := by decide +kernel
theorem d_SF_tapeAt_18 : decode b_SF_tapeAt 18 = .ok (.aload_n 0, 1) := by decide +kernel
theorem d_SF_tapeAt_19 : decode b_SF_tapeAt 19 = .ok (.getfield 48, 3) := by decide +kernel
theorem d_SF_tapeAt_22 : decode b_SF_tapeAt 22 = .ok (.iload_n 1, 1) := by decide +kernel
theorem d_SF_tapeAt_23 : decode b_SF_tapeAt 23 = .ok (.iaload, 1) := by decide +kernel
theorem d_SF_tapeAt_24 : decode b_SF_tapeAt 24 = .ok (.goto 4, 3) := by decide +kernel
theorem d_SF_tapeAt_27 : decode b_SF_tapeAt 27 = .ok (.iconst 0, 1) := by decide +kernel
theorem d_SF_tapeAt_28 : decode b_SF_tapeAt 28 = .ok (.ireturn, 1) := by decide +kernel
theorem d_SF_linkBehind_0 : decode b_SF_linkBehind 0 = .ok (.iload_n 1, 1) := by decide +kernel
theorem d_SF_linkBehind_1 : decode b_SF_linkBehind 1 = .ok (.iconst 1, 1) := by decide +kernel
theorem d_SF_linkBehind_2 : decode b_SF_linkBehind 2 = .ok (.iadd, 1) := by decide +kernel
theorem d_SF_linkBehind_3 : decode b_SF_linkBehind 3 = .ok (.iload_n 2, 1) := by decide +kernel
theorem d_SF_linkBehind_4 : decode b_SF_linkBehind 4 = .ok (.if_icmp .ge 15, 3) := by decide +kernel
theorem d_SF_linkBehind_7 : decode b_SF_linkBehind 7 = .ok (.aload_n 0, 1) := by decide +kernel
theorem d_SF_linkBehind_8 : decode b_SF_linkBehind 8 = .ok (.iload_n 1, 1) := by decide +kernel
theorem d_SF_linkBehind_9 : decode b_SF_linkBehind 9 = .ok (.iconst 1, 1) := by decide +kernel
theorem d_SF_linkBehind_10 : decode b_SF_linkBehind 10 = .ok (.iadd, 1) := by decide +kernel
theorem d_SF_linkBehind_11 : decode b_SF_linkBehind 11 = .ok (.invokevirtual 110, 3) := by decide +kernel
theorem d_SF_linkBehind_14 : decode b_SF_linkBehind 14 = .ok (.iconst 1, 1) := by decide +kernel
theorem d_SF_linkBehind_15 : decode b_SF_linkBehind 15 = .ok (.iadd, 1) := by decide +kernel
theorem d_SF_linkBehind_16 : decode b_SF_linkBehind 16 = .ok (.goto 4, 3) := by decide +kernel
theorem d_SF_linkBehind_19 : decode b_SF_linkBehind 19 = .ok (.iconst 0, 1) := by decide +kernel
theorem d_SF_linkBehind_20 : decode b_SF_linkBehind 20 = .ok (.ireturn, 1) := by decide +kernel
theorem d_SF_beginWriting_0 : decode b_SF_beginWriting 0 = .ok (.iload_n 1, 1) := by decide +kernel
theorem d_SF_beginWriting_1 : decode b_SF_beginWriting 1 = .ok (.bipush 32, 2) := by decide +kernel
theorem d_SF_beginWriting_3 : decode b_SF_beginWriting 3 = .ok (.imul, 1) := by decide +kernel
theorem d_SF_beginWriting_4 : decode b_SF_beginWriting 4 = .ok (.bipush 40, 2) := by decide +kernel
theorem d_SF_beginWriting_6 : decode b_SF_beginWriting 6 = .ok (.iadd, 1) := by decide +kernel
theorem d_SF_beginWriting_7 : decode b_SF_beginWriting 7 = .ok (.istore_n 2, 1) := by decide +kernel
theorem d_SF_beginWriting_8 : decode b_SF_beginWriting 8 = .ok (.aload_n 0, 1) := by decide +kernel
theorem d_SF_beginWriting_9 : decode b_SF_beginWriting 9 = .ok (.aload_n 0, 1) := by decide +kernel
theorem d_SF_beginWriting_10 : decode b_SF_beginWriting 10 = .ok (.getfield 51, 3) := by decide +kernel
theorem d_SF_beginWriting_13 : decode b_SF_beginWriting 13 = .ok (.iconst (-1), 1) := by decide +kernel
theorem d_SF_beginWriting_14 : decode b_SF_beginWriting 14 = .ok (.if_icmp .eq 15, 3) := by decide +kernel
theorem d_SF_beginWriting_17 : decode b_SF_beginWriting 17 = .ok (.iload_n 2, 1) := by decide +kernel
theorem d_SF_beginWriting_18 : decode b_SF_beginWriting 18 = .ok (.aload_n 0, 1) := by decide +kernel
theorem d_SF_beginWriting_19 : decode b_SF_beginWriting 19 = .ok (.getfield 51, 3) := by decide +kernel
theorem d_SF_beginWriting_22 : decode b_SF_beginWriting 22 = .ok (.if_icmp .le 7, 3) := by decide +kernel
theorem d_SF_beginWriting_25 : decode b_SF_beginWriting 25 = .ok (.iconst 1, 1) := by decide +kernel
theorem d_SF_beginWriting_26 : decode b_SF_beginWriting 26 = .ok (.goto 4, 3) := by decide +kernel
theorem d_SF_beginWriting_29 : decode b_SF_beginWriting 29 = .ok (.iconst 0, 1) := by decide +kernel
theorem d_SF_beginWriting_30 : decode b_SF_beginWriting 30 = .ok (.putfield 244, 3) := by decide +kernel
theorem d_SF_beginWriting_33 : decode b_SF_beginWriting 33 = .ok (.aload_n 0, 1) := by decide +kernel
theorem d_SF_beginWriting_34 : decode b_SF_beginWriting 34 = .ok (.aload_n 0, 1) := by decide +kernel
theorem d_SF_beginWriting_35 : decode b_SF_beginWriting 35 = .ok (.getfield 244, 3) := by decide +kernel
theorem d_SF_beginWriting_38 : decode b_SF_beginWriting 38 = .ok (.ifCond .eq 10, 3) := by decide +kernel
theorem d_SF_beginWriting_41 : decode b_SF_beginWriting 41 = .ok (.aload_n 0, 1) := by decide +kernel
theorem d_SF_beginWriting_42 : decode b_SF_beginWriting 42 = .ok (.getfield 51, 3) := by decide +kernel
theorem d_SF_beginWriting_45 : decode b_SF_beginWriting 45 = .ok (.goto 4, 3) := by decide +kernel
theorem d_SF_beginWriting_48 : decode b_SF_beginWriting 48 = .ok (.iload_n 2, 1) := by decide +kernel
theorem d_SF_beginWriting_49 : decode b_SF_beginWriting 49 = .ok (.putfield 247, 3) := by decide +kernel
theorem d_SF_beginWriting_52 : decode b_SF_beginWriting 52 = .ok (.aload_n 0, 1) := by decide +kernel
theorem d_SF_beginWriting_53 : decode b_SF_beginWriting 53 = .ok (.iconst (-1), 1) := by decide +kernel
theorem d_SF_beginWriting_54 : decode b_SF_beginWriting 54 = .ok (.putfield 51, 3) := by decide +kernel
theorem d_SF_beginWriting_57 : decode b_SF_beginWriting 57 = .ok (.return_, 1) := by decide +kernel
theorem d_SF_endWriting_0 : decode b_SF_endWriting 0 = .ok (.aload_n 0, 1) := by decide +kernel
theorem d_SF_endWriting_1 : decode b_SF_endWriting 1 = .ok (.getfield 244, 3) := by decide +kernel
theorem d_SF_endWriting_4 : decode b_SF_endWriting 4 = .ok (.ifCond .eq 8, 3) := by decide +kernel
theorem d_SF_endWriting_7 : decode b_SF_endWriting 7 = .ok (.aload_n 0, 1) := by decide +kernel
theorem d_SF_endWriting_8 : decode b_SF_endWriting 8 = .ok (.iconst 1, 1) := by decide +kernel
theorem d_SF_endWriting_9 : decode b_SF_endWriting 9 = .ok (.putfield 83, 3) := by decide +kernel
theorem d_SF_endWriting_12 : decode b_SF_endWriting 12 = .ok (.aload_n 0, 1) := by decide +kernel
theorem d_SF_endWriting_13 : decode b_SF_endWriting 13 = .ok (.getfield 244, 3) := by decide +kernel
theorem d_SF_endWriting_16 : decode b_SF_endWriting 16 = .ok (.ifCond .ne 7, 3) := by decide +kernel
theorem d_SF_endWriting_19 : decode b_SF_endWriting 19 = .ok (.iconst 1, 1) := by decide +kernel
theorem d_SF_endWriting_20 : decode b_SF_endWriting 20 = .ok (.goto 4, 3) := by decide +kernel
theorem d_SF_endWriting_23 : decode b_SF_endWriting 23 = .ok (.iconst 0, 1) := by decide +kernel
theorem d_SF_endWriting_24 : decode b_SF_endWriting 24 = .ok (.ireturn, 1) := by decide +kernel
/-- the cells of a ShadowFiles: where they lie (q), what they hold -/
def sf_w (q : Nat → Nat) (cI cZ : ClassId) (fl : Nat → Int32) (sl : Nat → Int32) (tb : Nat → Int32) (np : Nat → Int32) (nt : Nat → Int32) (cp : Nat → Int32) (cc : Int32) (cb : Int32) (ch : Int32) (cm : Int32) (mp : Nat → Int32) (mc : Int32) (mb : Int32) (mh : Int32) (mm : Int32) (us : Nat → Int32) (ta : Nat → Int32) (tp : Nat → Int32) (tl : Int32) (cu : Int32) (bl : Int32) (pf : Int32) (sh : Int32) : va_W :=
  [((q 0), .inr (2, [.ref (q 1), .ref (q 3), .ref (q 5), .ref (q 7), .ref (q 9), .ref (q 11), .ref (q 13), .ref (q 15), .ref (q 16), .ref (q 17), .int tl, .int cu, .int bl, .int pf, .int sh])), ((q 1), .inr (0, [.ref (q 2), .int (nI 32)])), ((q 2), .inl (cI, 768, .inl fl)), ((q 3), .inr (0, [.ref (q 4), .int (nI 32)])), ((q 4), .inl (cI, 512, .inl sl)), ((q 5), .inr (0, [.ref (q 6), .int (nI 40)])), ((q 6), .inl (cI, 80, .inl tb)), ((q 7), .inr (0, [.ref (q 8), .int (nI 32)])), ((q 8), .inl (cI, 32, .inl np)), ((q 9), .inr (0, [.ref (q 10), .int (nI 40)])), ((q 10), .inl (cI, 40, .inl nt)), ((q 11), .inr (1, [.ref (q 12), .int cc, .int cb, .int ch, .int cm])), ((q 12), .inl (cI, 3, .inl cp)), ((q 13), .inr (1, [.ref (q 14), .int mc, .int mb, .int mh, .int mm])), ((q 14), .inl (cI, 3, .inl mp)), ((q 15), .inl (cZ, 24, .inl us)), ((q 16), .inl (cI, 3, .inl ta)), ((q 17), .inl (cI, 60, .inl tp))]
theorem sf_w_fst (q : Nat → Nat) (cI cZ : ClassId) (fl : Nat → Int32) (sl : Nat → Int32) (tb : Nat → Int32) (np : Nat → Int32) (nt : Nat → Int32) (cp : Nat → Int32) (cc : Int32) (cb : Int32) (ch : Int32) (cm : Int32) (mp : Nat → Int32) (mc : Int32) (mb : Int32) (mh : Int32) (mm : Int32) (us : Nat → Int32) (ta : Nat → Int32) (tp : Nat → Int32) (tl : Int32) (cu : Int32) (bl : Int32) (pf : Int32) (sh : Int32) : (sf_w q cI cZ fl sl tb np nt cp cc cb ch cm mp mc mb mh mm us ta tp tl cu bl pf sh).map Prod.fst = [q 0, q 1, q 2, q 3, q 4, q 5, q 6, q 7, q 8, q 9, q 10, q 11, q 12, q 13, q 14, q 15, q 16, q 17] := rfl
def f_SF_isRow (ro : Int32) : Int32 :=
  if ro < 0 then
    0
  else
    if 12 ≤ ro then
      0
    else
      1
set_option maxHeartbeats 1000000 in
set_option maxRecDepth 100000 in
/-- isRow -/
theorem c_SF_isRow (l : Launch) (D : va_G) (cI cZ cJ : ClassId)  (ro : Int32) : sf_M (S := Int32) l D classes (sf_tys cI cZ cJ) y_SF_isRow (sf_ws y_SF_isRow b_SF_isRow 1 (some .boolean)) 0 0 [.int ro] [] (fun r => some (.int r)) (fun r => r = f_SF_isRow ro) (fun _ => []) := by
  refine sf_ofW (S := Int32) (by decide) (Nat.le_of_ble_eq_true rfl) ?_
  intro p e s m below meth c A ls R args Q hR hArgs hQ hC0 hr hK hP hD hl
  obtain ⟨hx, hb, hml, hown, hts, hA, hlk⟩ := hC0
  have hS : va_S A s.heap s.heap [] := va_S.rf
  have hl : lv_has ls 1 [(0, .int ro)] := hl
  refine lv_iload_n hx hb d_SF_isRow_0 rfl (lv_at hl 0 rfl) ?_
  refine lv_if_lt (tgt := 14) hx hb d_SF_isRow_1 (by decide) (fun c_1 => ?_) (fun c_1 => ?_)
  · refine lv_iconst (v := 0) hx hb d_SF_isRow_14 (by decide) ?_
    rw [hQ]
    exact sf_iret 0 hx hb hr hlk hS sf_b0 rfl (by simp only [f_SF_isRow, eq_true c_1, ↓reduceIte]) hP d_SF_isRow_15
  · refine lv_iload_n hx hb d_SF_isRow_4 rfl (lv_at hl 0 rfl) ?_
    refine lv_bipush (v := 12) hx hb d_SF_isRow_5 (by decide) ?_
    refine lv_icmp_ge (tgt := 14) hx hb d_SF_isRow_7 (by decide) (fun c_2 => ?_) (fun c_2 => ?_)
    · refine lv_iconst (v := 0) hx hb d_SF_isRow_14 (by decide) ?_
      rw [hQ]
      exact sf_iret 0 hx hb hr hlk hS sf_b0 rfl (by simp only [f_SF_isRow, eq_false c_1, eq_true c_2, ↓reduceIte]) hP d_SF_isRow_15
    · refine lv_iconst (v := 1) hx hb d_SF_isRow_10 (by decide) ?_
      refine lv_goto (tgt := 15) hx hb d_SF_isRow_11 (by decide) ?_
      rw [hQ]
      exact sf_iret 1 hx hb hr hlk hS sf_b1 rfl (by simp only [f_SF_isRow, eq_false c_1, eq_false c_2, ↓reduceIte]) hP d_SF_isRow_15
def f_SF_isMonth (mo : Int32) : Int32 :=
  if mo < 0 then
    0
  else
    if 12 ≤ mo then
      0
    else
      1
set_option maxHeartbeats 1000000 in
set_option maxRecDepth 100000 in
/-- isMonth -/
theorem c_SF_isMonth (l : Launch) (D : va_G) (cI cZ cJ : ClassId)  (mo : Int32) : sf_M (S := Int32) l D classes (sf_tys cI cZ cJ) y_SF_isMonth (sf_ws y_SF_isMonth b_SF_isMonth 1 (some .boolean)) 0 0 [.int mo] [] (fun r => some (.int r)) (fun r => r = f_SF_isMonth mo) (fun _ => []) := by
  refine sf_ofW (S := Int32) (by decide) (Nat.le_of_ble_eq_true rfl) ?_
  intro p e s m below meth c A ls R args Q hR hArgs hQ hC0 hr hK hP hD hl
  obtain ⟨hx, hb, hml, hown, hts, hA, hlk⟩ := hC0
  have hS : va_S A s.heap s.heap [] := va_S.rf
  have hl : lv_has ls 1 [(0, .int mo)] := hl
  refine lv_iload_n hx hb d_SF_isMonth_0 rfl (lv_at hl 0 rfl) ?_
  refine lv_if_lt (tgt := 14) hx hb d_SF_isMonth_1 (by decide) (fun c_1 => ?_) (fun c_1 => ?_)
  · refine lv_iconst (v := 0) hx hb d_SF_isMonth_14 (by decide) ?_
    rw [hQ]
    exact sf_iret 0 hx hb hr hlk hS sf_b0 rfl (by simp only [f_SF_isMonth, eq_true c_1, ↓reduceIte]) hP d_SF_isMonth_15
  · refine lv_iload_n hx hb d_SF_isMonth_4 rfl (lv_at hl 0 rfl) ?_
    refine lv_bipush (v := 12) hx hb d_SF_isMonth_5 (by decide) ?_
    refine lv_icmp_ge (tgt := 14) hx hb d_SF_isMonth_7 (by decide) (fun c_2 => ?_) (fun c_2 => ?_)
    · refine lv_iconst (v := 0) hx hb d_SF_isMonth_14 (by decide) ?_
      rw [hQ]
      exact sf_iret 0 hx hb hr hlk hS sf_b0 rfl (by simp only [f_SF_isMonth, eq_false c_1, eq_true c_2, ↓reduceIte]) hP d_SF_isMonth_15
    · refine lv_iconst (v := 1) hx hb d_SF_isMonth_10 (by decide) ?_
      refine lv_goto (tgt := 15) hx hb d_SF_isMonth_11 (by decide) ?_
      rw [hQ]
      exact sf_iret 1 hx hb hr hlk hS sf_b1 rfl (by simp only [f_SF_isMonth, eq_false c_1, eq_false c_2, ↓reduceIte]) hP d_SF_isMonth_15
def f_SF_numberBehind (nu : Int32) : Int32 :=
  if nu < 250 then
    (nu + 1)
  else
    1
set_option maxHeartbeats 1000000 in
set_option maxRecDepth 100000 in
/-- numberBehind -/
theorem c_SF_numberBehind (l : Launch) (D : va_G) (cI cZ cJ : ClassId)  (nu : Int32) : sf_M (S := Int32) l D classes (sf_tys cI cZ cJ) y_SF_numberBehind (sf_ws y_SF_numberBehind b_SF_numberBehind 1 (some .int)) 0 0 [.int nu] [] (fun r => some (.int r)) (fun r => r = f_SF_numberBehind nu) (fun _ => []) := by
  refine sf_ofW (S := Int32) (by decide) (Nat.le_of_ble_eq_true rfl) ?_
  intro p e s m below meth c A ls R args Q hR hArgs hQ hC0 hr hK hP hD hl
  obtain ⟨hx, hb, hml, hown, hts, hA, hlk⟩ := hC0
  have hS : va_S A s.heap s.heap [] := va_S.rf
  have hl : lv_has ls 1 [(0, .int nu)] := hl
  refine lv_iload_n hx hb d_SF_numberBehind_0 rfl (lv_at hl 0 rfl) ?_
  refine lv_sipush (v := 250) hx hb d_SF_numberBehind_1 (by decide) ?_
  refine lv_icmp_lt (tgt := 11) hx hb d_SF_numberBehind_4 (by decide) (fun c_1 => ?_) (fun c_1 => ?_)
  · refine lv_iload_n hx hb d_SF_numberBehind_11 rfl (lv_at hl 0 rfl) ?_
    refine lv_iconst (v := 1) hx hb d_SF_numberBehind_12 (by decide) ?_
    refine lv_iadd hx hb d_SF_numberBehind_13 ?_
    rw [hQ]
    exact sf_iret (nu + 1) hx hb hr hlk hS rfl rfl (by simp only [f_SF_numberBehind, eq_true c_1, ↓reduceIte]) hP d_SF_numberBehind_14
  · refine lv_iconst (v := 1) hx hb d_SF_numberBehind_7 (by decide) ?_
    refine lv_goto (tgt := 14) hx hb d_SF_numberBehind_8 (by decide) ?_
    rw [hQ]
    exact sf_iret 1 hx hb hr hlk hS rfl rfl (by simp only [f_SF_numberBehind, eq_false c_1, ↓reduceIte]) hP d_SF_numberBehind_14
def f_SF_countPlaces (sw : Int32) : Int32 :=
  if sw = 0 then
    24
  else
    16
set_option maxHeartbeats 1000000 in
set_option maxRecDepth 100000 in
/-- countPlaces -/
theorem c_SF_countPlaces (l : Launch) (D : va_G) (cI cZ cJ : ClassId)  (sw : Int32) : sf_M (S := Int32) l D classes (sf_tys cI cZ cJ) y_SF_countPlaces (sf_ws y_SF_countPlaces b_SF_countPlaces 1 (some .int)) 0 0 [.int sw] [] (fun r => some (.int r)) (fun r => r = f_SF_countPlaces sw) (fun _ => []) := by
  refine sf_ofW (S := Int32) (by decide) (Nat.le_of_ble_eq_true rfl) ?_
  intro p e s m below meth c A ls R args Q hR hArgs hQ hC0 hr hK hP hD hl
  obtain ⟨hx, hb, hml, hown, hts, hA, hlk⟩ := hC0
  have hS : va_S A s.heap s.heap [] := va_S.rf
  have hl : lv_has ls 1 [(0, .int sw)] := hl
  refine lv_iload_n hx hb d_SF_countPlaces_0 rfl (lv_at hl 0 rfl) ?_
  refine lv_if_eq (tgt := 9) hx hb d_SF_countPlaces_1 (by decide) (fun c_1 => ?_) (fun c_1 => ?_)
  · refine lv_bipush (v := 24) hx hb d_SF_countPlaces_9 (by decide) ?_
    rw [hQ]
    exact sf_iret 24 hx hb hr hlk hS rfl rfl (by simp only [f_SF_countPlaces, eq_true c_1, ↓reduceIte]) hP d_SF_countPlaces_11
  · refine lv_bipush (v := 16) hx hb d_SF_countPlaces_4 (by decide) ?_
    refine lv_goto (tgt := 11) hx hb d_SF_countPlaces_6 (by decide) ?_
    rw [hQ]
    exact sf_iret 16 hx hb hr hlk hS rfl rfl (by simp only [f_SF_countPlaces, eq_false c_1, ↓reduceIte]) hP d_SF_countPlaces_11
def f_SF_addToTape (tp : Nat → Int32) (tl : Int32) (va : Int32) : ((Nat → Int32) × Int32) :=
  if tl < 0 then
    (tp, tl)
  else
    if 60 ≤ tl then
      (tp, tl)
    else
      ((upd tp tl.toNatClampNeg va), (tl + 1))
set_option maxHeartbeats 1000000 in
set_option maxRecDepth 100000 in
/-- addToTape -/
theorem c_SF_addToTape (l : Launch) (D : va_G) (cI cZ cJ : ClassId) (q : Nat → Nat) (fl : Nat → Int32) (sl : Nat → Int32) (tb : Nat → Int32) (np : Nat → Int32) (nt : Nat → Int32) (cp : Nat → Int32) (cc : Int32) (cb : Int32) (ch : Int32) (cm : Int32) (mp : Nat → Int32) (mc : Int32) (mb : Int32) (mh : Int32) (mm : Int32) (us : Nat → Int32) (ta : Nat → Int32) (tp : Nat → Int32) (tl : Int32) (cu : Int32) (bl : Int32) (pf : Int32) (sh : Int32) (va : Int32) : sf_M (S := ((Nat → Int32) × Int32)) l D classes (sf_tys cI cZ cJ) y_SF_addToTape (sf_ws y_SF_addToTape b_SF_addToTape 2 none) 0 0 [.ref (q 0), .int va] (sf_w q cI cZ fl sl tb np nt cp cc cb ch cm mp mc mb mh mm us ta tp tl cu bl pf sh) (fun _ => none) (fun r => r = f_SF_addToTape tp tl va) (fun r => (sf_w q cI cZ fl sl tb np nt cp cc cb ch cm mp mc mb mh mm us ta r.1 r.2 cu bl pf sh)) := by
  refine sf_ofW (S := ((Nat → Int32) × Int32)) (by decide) (Nat.le_of_ble_eq_true rfl) ?_
  intro p e s m below meth c A ls R args Q hR hArgs hQ hC0 hr hK hP hD hl
  obtain ⟨hx, hb, hml, hown, hts, hA, hlk⟩ := hC0
  have hS : va_S A s.heap s.heap [] := va_S.rf
  have hl : lv_has ls 2 [(0, .ref (q 0)), (1, .int va)] := hl
  refine lv_aload_n hx hb d_SF_addToTape_0 rfl (lv_at hl 0 rfl) ?_
  refine va_get (D := D) (ci := 2) (v := .int tl) (C := R_SF) (T := F_SF) (N := 15) hx hb hts i_SF hown hK hP 0 rfl rfl 10 (by decide) (hts _ wd_119) (fun _ h9 => h9) rfl d_SF_addToTape_1 ?_
  refine lv_if_lt (tgt := 36) hx hb d_SF_addToTape_4 (by decide) (fun c_1 => ?_) (fun c_1 => ?_)
  · rw [hQ]
    exact sf_vret (tp, tl) hx hb hr hlk hS rfl (by simp only [f_SF_addToTape, eq_true c_1, ↓reduceIte]) hP d_SF_addToTape_36
  · refine lv_aload_n hx hb d_SF_addToTape_7 rfl (lv_at hl 0 rfl) ?_
    refine va_get (D := D) (ci := 2) (v := .int tl) (C := R_SF) (T := F_SF) (N := 15) hx hb hts i_SF hown hK hP 0 rfl rfl 10 (by decide) (hts _ wd_119) (fun _ h9 => h9) rfl d_SF_addToTape_8 ?_
    refine lv_bipush (v := 60) hx hb d_SF_addToTape_11 (by decide) ?_
    refine lv_icmp_ge (tgt := 36) hx hb d_SF_addToTape_13 (by decide) (fun c_2 => ?_) (fun c_2 => ?_)
    · rw [hQ]
      exact sf_vret (tp, tl) hx hb hr hlk hS rfl (by simp only [f_SF_addToTape, eq_false c_1, eq_true c_2, ↓reduceIte]) hP d_SF_addToTape_36
    · refine lv_aload_n hx hb d_SF_addToTape_16 rfl (lv_at hl 0 rfl) ?_
      refine va_get (D := D) (ci := 2) (v := .ref (q 17)) (C := R_SF) (T := F_SF) (N := 15) hx hb hts i_SF hown hK hP 0 rfl rfl 9 (by decide) (hts _ wd_118) (fun _ h9 => h9) rfl d_SF_addToTape_17 ?_
      refine lv_aload_n hx hb d_SF_addToTape_20 rfl (lv_at hl 0 rfl) ?_
      refine va_get (D := D) (ci := 2) (v := .int tl) (C := R_SF) (T := F_SF) (N := 15) hx hb hts i_SF hown hK hP 0 rfl rfl 10 (by decide) (hts _ wd_119) (fun _ h9 => h9) rfl d_SF_addToTape_21 ?_
      refine lv_iload_n hx hb d_SF_addToTape_24 rfl (lv_at hl 1 rfl) ?_
      refine va_iast hx hb hK hP hD hS 17 0 rfl rfl (sf_in (n := 60) c_1 c_2 (by omega)) d_SF_addToTape_25 (fun H locs hP hD hS => ?_)
      have hP : va_P D classes (sf_w q cI cZ fl sl tb np nt cp cc cb ch cm mp mc mb mh mm us ta (upd tp tl.toNatClampNeg va) tl cu bl pf sh) H := hP
      have hD : va_D A (sf_w q cI cZ fl sl tb np nt cp cc cb ch cm mp mc mb mh mm us ta (upd tp tl.toNatClampNeg va) tl cu bl pf sh) := hD
      refine lv_aload_n hx hb d_SF_addToTape_26 rfl (lv_at hl 0 rfl) ?_
      refine lv_dup hx hb d_SF_addToTape_27 rfl ?_
      refine va_get (D := D) (ci := 2) (v := .int tl) (C := R_SF) (T := F_SF) (N := 15) hx hb hts i_SF hown hK hP 0 rfl rfl 10 (by decide) (hts _ wd_119) (fun _ h9 => h9) rfl d_SF_addToTape_28 ?_
      refine lv_iconst (v := 1) hx hb d_SF_addToTape_31 (by decide) ?_
      refine lv_iadd hx hb d_SF_addToTape_32 ?_
      refine va_put (D := D) (ci := 2) (v := .int (tl + 1)) (ty := .int) (C := R_SF) (T := F_SF) (N := 15) hx hb hts i_SF t_SF t_SF_ok n_SF hown hK hP hD hS 0 rfl rfl 10 (by decide) (hts _ wd_119) (fun _ h9 => h9) rfl (by decide +kernel) rfl rfl (Nat.le_of_ble_eq_true rfl) d_SF_addToTape_33 (fun H locs hP hD hS => ?_)
      have hP : va_P D classes (sf_w q cI cZ fl sl tb np nt cp cc cb ch cm mp mc mb mh mm us ta (upd tp tl.toNatClampNeg va) (tl + 1) cu bl pf sh) H := hP
      have hD : va_D A (sf_w q cI cZ fl sl tb np nt cp cc cb ch cm mp mc mb mh mm us ta (upd tp tl.toNatClampNeg va) (tl + 1) cu bl pf sh) := hD
      rw [hQ]
      exact sf_vret ((upd tp tl.toNatClampNeg va), (tl + 1)) hx hb hr hlk hS rfl (by simp only [f_SF_addToTape, eq_false c_1, eq_false c_2, ↓reduceIte]) hP d_SF_addToTape_36
def f_SF_isGood (tb : Nat → Int32) (ta0 : Int32) : Int32 :=
  if (f_Bl_get 80 tb (nI 40) ta0 0) < 1 then
    0
  else
    if 250 < (f_Bl_get 80 tb (nI 40) ta0 0) then
      0
    else
      if (f_Bl_sumIsRight 80 tb ta0 36) = 0 then
        0
      else
        1
set_option maxHeartbeats 1000000 in
set_option maxRecDepth 100000 in
/-- isGood -/
theorem c_SF_isGood (l : Launch) (D : va_G) (cI cZ cJ : ClassId) (q : Nat → Nat) (fl : Nat → Int32) (sl : Nat → Int32) (tb : Nat → Int32) (np : Nat → Int32) (nt : Nat → Int32) (cp : Nat → Int32) (cc : Int32) (cb : Int32) (ch : Int32) (cm : Int32) (mp : Nat → Int32) (mc : Int32) (mb : Int32) (mh : Int32) (mm : Int32) (us : Nat → Int32) (ta : Nat → Int32) (tp : Nat → Int32) (tl : Int32) (cu : Int32) (bl : Int32) (pf : Int32) (sh : Int32) (ta0 : Int32) : sf_M (S := Int32) l D classes (sf_tys cI cZ cJ) y_SF_isGood (sf_ws y_SF_isGood b_SF_isGood 3 (some .boolean)) 2 49 [.ref (q 0), .int ta0] (sf_w q cI cZ fl sl tb np nt cp cc cb ch cm mp mc mb mh mm us ta tp tl cu bl pf sh) (fun r => some (.int r)) (fun r => r = f_SF_isGood tb ta0) (fun r => (sf_w q cI cZ fl sl tb np nt cp cc cb ch cm mp mc mb mh mm us ta tp tl cu bl pf sh)) := by
  refine sf_ofW (S := Int32) (by decide) (Nat.le_of_ble_eq_true rfl) ?_
  intro p e s m below meth c A ls R args Q hR hArgs hQ hC0 hr hK hP hD hl
  obtain ⟨hx, hb, hml, hown, hts, hA, hlk⟩ := hC0
  have hS : va_S A s.heap s.heap [] := va_S.rf
  have hl : lv_has ls 3 [(0, .ref (q 0)), (1, .int ta0)] := hl
  refine lv_aload_n hx hb d_SF_isGood_0 rfl (lv_at hl 0 rfl) ?_
  refine va_get (D := D) (ci := 2) (v := .ref (q 5)) (C := R_SF) (T := F_SF) (N := 15) hx hb hts i_SF hown hK hP 0 rfl rfl 2 (by decide) (hts _ wd_111) (fun _ h9 => h9) rfl d_SF_isGood_1 ?_
  refine lv_iload_n hx hb d_SF_isGood_4 rfl (lv_at hl 1 rfl) ?_
  refine lv_iconst (v := 0) hx hb d_SF_isGood_5 (by decide) ?_
  refine sf_callVr (S := Int32) (rest := []) ⟨hx, hb, hml, hown, hts⟩ (c_Bl_get l D cI cZ cJ (q 5) (q 6) 80 tb (nI 40) ta0 0 (by omega)) (sf_cwV lk_SF_203 hts (fun _ h => h) (by rw [hR]; exact ⟨Nat.le_of_ble_eq_true rfl, Nat.le_of_ble_eq_true rfl⟩)) hK hP hD hS hA [5, 6] rfl rfl (fun _ => rfl) (ci := 0) (q0 := 0) rfl rfl rfl rfl rfl hl.1 (Nat.le_of_ble_eq_true rfl) d_SF_isGood_6 ⟨Nat.zero_le _, Nat.zero_le _⟩ (fun u_1 H locs hu_1 hP hS => ?_)
  refine lv_istore_n (lv' := [(2, .int u_1), (0, .ref (q 0)), (1, .int ta0)]) hx hb d_SF_isGood_9 rfl hl (by decide) rfl (fun ls hl => ?_)
  refine lv_iload_n hx hb d_SF_isGood_10 rfl (lv_at hl 0 rfl) ?_
  refine lv_iconst (v := 1) hx hb d_SF_isGood_11 (by decide) ?_
  refine lv_icmp_lt (tgt := 37) hx hb d_SF_isGood_12 (by decide) (fun c_2 => ?_) (fun c_2 => ?_)
  · refine lv_iconst (v := 0) hx hb d_SF_isGood_37 (by decide) ?_
    rw [hQ]
    exact sf_iret 0 hx hb hr hlk hS sf_b0 rfl (by simp only [f_SF_isGood, ← hu_1, eq_true c_2, ↓reduceIte]) hP d_SF_isGood_38
  · refine lv_iload_n hx hb d_SF_isGood_15 rfl (lv_at hl 0 rfl) ?_
    refine lv_sipush (v := 250) hx hb d_SF_isGood_16 (by decide) ?_
    refine lv_icmp_gt (tgt := 37) hx hb d_SF_isGood_19 (by decide) (fun c_3 => ?_) (fun c_3 => ?_)
    · refine lv_iconst (v := 0) hx hb d_SF_isGood_37 (by decide) ?_
      rw [hQ]
      exact sf_iret 0 hx hb hr hlk hS sf_b0 rfl (by simp only [f_SF_isGood, ← hu_1, eq_false c_2, eq_true c_3, ↓reduceIte]) hP d_SF_isGood_38
    · refine lv_aload_n hx hb d_SF_isGood_22 rfl (lv_at hl 1 rfl) ?_
      refine va_get (D := D) (ci := 2) (v := .ref (q 5)) (C := R_SF) (T := F_SF) (N := 15) hx hb hts i_SF hown hK hP 0 rfl rfl 2 (by decide) (hts _ wd_111) (fun _ h9 => h9) rfl d_SF_isGood_23 ?_
      refine lv_iload_n hx hb d_SF_isGood_26 rfl (lv_at hl 2 rfl) ?_
      refine sf_callVr (S := Int32) (rest := []) ⟨hx, hb, hml, hown, hts⟩ (c_Bl_sumIsRight l D cI cZ cJ (q 5) (q 6) 80 tb ta0 36 (by omega) (by omega)) (sf_cwV lk_SF_215 hts (fun _ h => h) (by rw [hR]; exact ⟨Nat.le_of_ble_eq_true rfl, Nat.le_of_ble_eq_true rfl⟩)) hK hP hD hS hA [5, 6] rfl rfl (fun _ => rfl) (ci := 0) (q0 := 0) rfl rfl rfl rfl rfl hl.1 (Nat.le_of_ble_eq_true rfl) d_SF_isGood_27 ⟨Nat.zero_le _, Nat.zero_le _⟩ (fun u_4 H locs hu_4 hP hS => ?_)
      refine lv_if_eq (tgt := 37) hx hb d_SF_isGood_30 (by decide) (fun c_5 => ?_) (fun c_5 => ?_)
      · refine lv_iconst (v := 0) hx hb d_SF_isGood_37 (by decide) ?_
        rw [hQ]
        exact sf_iret 0 hx hb hr hlk hS sf_b0 rfl (by simp only [f_SF_isGood, ← hu_1, ← hu_4, eq_false c_2, eq_false c_3, eq_true c_5, ↓reduceIte]) hP d_SF_isGood_38
      · refine lv_iconst (v := 1) hx hb d_SF_isGood_33 (by decide) ?_
        refine lv_goto (tgt := 38) hx hb d_SF_isGood_34 (by decide) ?_
        rw [hQ]
        exact sf_iret 1 hx hb hr hlk hS sf_b1 rfl (by simp only [f_SF_isGood, ← hu_1, ← hu_4, eq_false c_2, eq_false c_3, eq_false c_5, ↓reduceIte]) hP d_SF_isGood_38
def f_SF_numberOf (tb : Nat → Int32) (ta0 : Int32) : Int32 :=
  if ta0 = (-1) then
    0
  else
    (f_Bl_get 80 tb (nI 40) ta0 0)
set_option maxHeartbeats 1000000 in
set_option maxRecDepth 100000 in
/-- numberOf -/
theorem c_SF_numberOf (l : Launch) (D : va_G) (cI cZ cJ : ClassId) (q : Nat → Nat) (fl : Nat → Int32) (sl : Nat → Int32) (tb : Nat → Int32) (np : Nat → Int32) (nt : Nat → Int32) (cp : Nat → Int32) (cc : Int32) (cb : Int32) (ch : Int32) (cm : Int32) (mp : Nat → Int32) (mc : Int32) (mb : Int32) (mh : Int32) (mm : Int32) (us : Nat → Int32) (ta : Nat → Int32) (tp : Nat → Int32) (tl : Int32) (cu : Int32) (bl : Int32) (pf : Int32) (sh : Int32) (ta0 : Int32) : sf_M (S := Int32) l D classes (sf_tys cI cZ cJ) y_SF_numberOf (sf_ws y_SF_numberOf b_SF_numberOf 2 (some .int)) 1 23 [.ref (q 0), .int ta0] (sf_w q cI cZ fl sl tb np nt cp cc cb ch cm mp mc mb mh mm us ta tp tl cu bl pf sh) (fun r => some (.int r)) (fun r => r = f_SF_numberOf tb ta0) (fun r => (sf_w q cI cZ fl sl tb np nt cp cc cb ch cm mp mc mb mh mm us ta tp tl cu bl pf sh)) := by
  refine sf_ofW (S := Int32) (by decide) (Nat.le_of_ble_eq_true rfl) ?_
  intro p e s m below meth c A ls R args Q hR hArgs hQ hC0 hr hK hP hD hl
  obtain ⟨hx, hb, hml, hown, hts, hA, hlk⟩ := hC0
  have hS : va_S A s.heap s.heap [] := va_S.rf
  have hl : lv_has ls 2 [(0, .ref (q 0)), (1, .int ta0)] := hl
  refine lv_iload_n hx hb d_SF_numberOf_0 rfl (lv_at hl 1 rfl) ?_
  refine lv_iconst (v := (-1)) hx hb d_SF_numberOf_1 (by decide) ?_
  refine lv_icmp_ne (tgt := 9) hx hb d_SF_numberOf_2 (by decide) (fun c_1 => ?_) (fun c_1 => ?_)
  · refine lv_aload_n hx hb d_SF_numberOf_9 rfl (lv_at hl 0 rfl) ?_
    refine va_get (D := D) (ci := 2) (v := .ref (q 5)) (C := R_SF) (T := F_SF) (N := 15) hx hb hts i_SF hown hK hP 0 rfl rfl 2 (by decide) (hts _ wd_111) (fun _ h9 => h9) rfl d_SF_numberOf_10 ?_
    refine lv_iload_n hx hb d_SF_numberOf_13 rfl (lv_at hl 1 rfl) ?_
    refine lv_iconst (v := 0) hx hb d_SF_numberOf_14 (by decide) ?_
    refine sf_callVr (S := Int32) (rest := []) ⟨hx, hb, hml, hown, hts⟩ (c_Bl_get l D cI cZ cJ (q 5) (q 6) 80 tb (nI 40) ta0 0 (by omega)) (sf_cwV lk_SF_203 hts (fun _ h => h) (by rw [hR]; exact ⟨Nat.le_of_ble_eq_true rfl, Nat.le_of_ble_eq_true rfl⟩)) hK hP hD hS hA [5, 6] rfl rfl (fun _ => rfl) (ci := 0) (q0 := 0) rfl rfl rfl rfl rfl hl.1 (Nat.le_of_ble_eq_true rfl) d_SF_numberOf_15 ⟨Nat.zero_le _, Nat.zero_le _⟩ (fun u_2 H locs hu_2 hP hS => ?_)
    rw [hQ]
    exact sf_iret u_2 hx hb hr hlk hS rfl rfl (by simp only [f_SF_numberOf, ← hu_2, eq_false c_1, ↓reduceIte]) hP d_SF_numberOf_18
  · refine lv_iconst (v := 0) hx hb d_SF_numberOf_5 (by decide) ?_
    refine lv_goto (tgt := 18) hx hb d_SF_numberOf_6 (by decide) ?_
    rw [hQ]
    exact sf_iret 0 hx hb hr hlk hS rfl rfl (by simp only [f_SF_numberOf, eq_true c_1, ↓reduceIte]) hP d_SF_numberOf_18
def f_SF_countingTable (tb : Nat → Int32) : Int32 :=
  if (f_SF_isGood tb 0) = 0 then
    if (f_SF_isGood tb 1) = 0 then
      (-1)
    else
      1
  else
    if (f_SF_isGood tb 1) = 0 then
      0
    else
      if (f_SF_numberOf tb 1) = (f_SF_numberBehind (f_SF_numberOf tb 0)) then
        1
      else
        0
set_option maxHeartbeats 1000000 in
set_option maxRecDepth 100000 in
/-- countingTable -/
theorem c_SF_countingTable (l : Launch) (D : va_G) (cI cZ cJ : ClassId) (q : Nat → Nat) (fl : Nat → Int32) (sl : Nat → Int32) (tb : Nat → Int32) (np : Nat → Int32) (nt : Nat → Int32) (cp : Nat → Int32) (cc : Int32) (cb : Int32) (ch : Int32) (cm : Int32) (mp : Nat → Int32) (mc : Int32) (mb : Int32) (mh : Int32) (mm : Int32) (us : Nat → Int32) (ta : Nat → Int32) (tp : Nat → Int32) (tl : Int32) (cu : Int32) (bl : Int32) (pf : Int32) (sh : Int32) : sf_M (S := Int32) l D classes (sf_tys cI cZ cJ) y_SF_countingTable (sf_ws y_SF_countingTable b_SF_countingTable 3 (some .int)) 3 71 [.ref (q 0)] (sf_w q cI cZ fl sl tb np nt cp cc cb ch cm mp mc mb mh mm us ta tp tl cu bl pf sh) (fun r => some (.int r)) (fun r => r = f_SF_countingTable tb) (fun r => (sf_w q cI cZ fl sl tb np nt cp cc cb ch cm mp mc mb mh mm us ta tp tl cu bl pf sh)) := by
  refine sf_ofW (S := Int32) (by decide) (Nat.le_of_ble_eq_true rfl) ?_
  intro p e s m below meth c A ls R args Q hR hArgs hQ hC0 hr hK hP hD hl
  obtain ⟨hx, hb, hml, hown, hts, hA, hlk⟩ := hC0
  have hS : va_S A s.heap s.heap [] := va_S.rf
  have hl : lv_has ls 3 [(0, .ref (q 0))] := hl
  refine lv_aload_n hx hb d_SF_countingTable_0 rfl (lv_at hl 0 rfl) ?_
  refine lv_iconst (v := 0) hx hb d_SF_countingTable_1 (by decide) ?_
  refine sf_callVw (S := Int32) (rest := []) ⟨hx, hb, hml, hown, hts⟩ (c_SF_isGood l D cI cZ cJ q fl sl tb np nt cp cc cb ch cm mp mc mb mh mm us ta tp tl cu bl pf sh 0) (sf_cwV lk_SF_218 hts (fun _ h => h) (by rw [hR]; exact ⟨Nat.le_of_ble_eq_true rfl, Nat.le_of_ble_eq_true rfl⟩)) hK hP hD hS hA (fun _ => by simp only [sf_w_fst]) (ci := 2) (q0 := 0) rfl rfl rfl rfl rfl hl.1 (Nat.le_of_ble_eq_true rfl) d_SF_countingTable_2 ⟨Nat.zero_le _, Nat.zero_le _⟩ (fun u_1 H locs hu_1 hP hD hS => ?_)
  have hP : va_P D classes (sf_w q cI cZ fl sl tb np nt cp cc cb ch cm mp mc mb mh mm us ta tp tl cu bl pf sh) H := hP
  have hD : va_D A (sf_w q cI cZ fl sl tb np nt cp cc cb ch cm mp mc mb mh mm us ta tp tl cu bl pf sh) := hD
  refine lv_istore_n (lv' := [(1, .int u_1), (0, .ref (q 0))]) hx hb d_SF_countingTable_5 rfl hl (by decide) rfl (fun ls hl => ?_)
  refine lv_aload_n hx hb d_SF_countingTable_6 rfl (lv_at hl 1 rfl) ?_
  refine lv_iconst (v := 1) hx hb d_SF_countingTable_7 (by decide) ?_
  refine sf_callVw (S := Int32) (rest := []) ⟨hx, hb, hml, hown, hts⟩ (c_SF_isGood l D cI cZ cJ q fl sl tb np nt cp cc cb ch cm mp mc mb mh mm us ta tp tl cu bl pf sh 1) (sf_cwV lk_SF_218 hts (fun _ h => h) (by rw [hR]; exact ⟨Nat.le_of_ble_eq_true rfl, Nat.le_of_ble_eq_true rfl⟩)) hK hP hD hS hA (fun _ => by simp only [sf_w_fst]) (ci := 2) (q0 := 0) rfl rfl rfl rfl rfl hl.1 (Nat.le_of_ble_eq_true rfl) d_SF_countingTable_8 ⟨Nat.zero_le _, Nat.zero_le _⟩ (fun u_2 H locs hu_2 hP hD hS => ?_)
  have hP : va_P D classes (sf_w q cI cZ fl sl tb np nt cp cc cb ch cm mp mc mb mh mm us ta tp tl cu bl pf sh) H := hP
  have hD : va_D A (sf_w q cI cZ fl sl tb np nt cp cc cb ch cm mp mc mb mh mm us ta tp tl cu bl pf sh) := hD
  refine lv_istore_n (lv' := [(2, .int u_2), (1, .int u_1), (0, .ref (q 0))]) hx hb d_SF_countingTable_11 rfl hl (by decide) rfl (fun ls hl => ?_)
  refine lv_iload_n hx hb d_SF_countingTable_12 rfl (lv_at hl 1 rfl) ?_
  refine lv_if_eq (tgt := 42) hx hb d_SF_countingTable_13 (by decide) (fun c_3 => ?_) (fun c_3 => ?_)
  · refine lv_iload_n hx hb d_SF_countingTable_42 rfl (lv_at hl 1 rfl) ?_
    refine lv_if_eq (tgt := 48) hx hb d_SF_countingTable_43 (by decide) (fun c_4 => ?_) (fun c_4 => absurd c_3 c_4)
    refine lv_iload_n hx hb d_SF_countingTable_48 rfl (lv_at hl 0 rfl) ?_
    refine lv_if_eq (tgt := 56) hx hb d_SF_countingTable_49 (by decide) (fun c_5 => ?_) (fun c_5 => ?_)
    · refine lv_iconst (v := (-1)) hx hb d_SF_countingTable_56 (by decide) ?_
      rw [hQ]
      exact sf_iret (-1) hx hb hr hlk hS rfl rfl (by simp only [f_SF_countingTable, ← hu_1, ← hu_2, eq_true c_3, eq_true c_5, ↓reduceIte]) hP d_SF_countingTable_57
    · refine lv_iconst (v := 1) hx hb d_SF_countingTable_52 (by decide) ?_
      refine lv_goto (tgt := 57) hx hb d_SF_countingTable_53 (by decide) ?_
      rw [hQ]
      exact sf_iret 1 hx hb hr hlk hS rfl rfl (by simp only [f_SF_countingTable, ← hu_1, ← hu_2, eq_true c_3, eq_false c_5, ↓reduceIte]) hP d_SF_countingTable_57
  · refine lv_iload_n hx hb d_SF_countingTable_16 rfl (lv_at hl 0 rfl) ?_
    refine lv_if_eq (tgt := 42) hx hb d_SF_countingTable_17 (by decide) (fun c_6 => ?_) (fun c_6 => ?_)
    · refine lv_iload_n hx hb d_SF_countingTable_42 rfl (lv_at hl 1 rfl) ?_
      refine lv_if_eq (tgt := 48) hx hb d_SF_countingTable_43 (by decide) (fun c_7 => absurd c_7 c_3) (fun c_7 => ?_)
      refine lv_iconst (v := 0) hx hb d_SF_countingTable_46 (by decide) ?_
      rw [hQ]
      exact sf_iret 0 hx hb hr hlk hS rfl rfl (by simp only [f_SF_countingTable, ← hu_1, ← hu_2, eq_false c_3, eq_true c_6, ↓reduceIte]) hP d_SF_countingTable_47
    · refine lv_aload_n hx hb d_SF_countingTable_20 rfl (lv_at hl 2 rfl) ?_
      refine lv_iconst (v := 1) hx hb d_SF_countingTable_21 (by decide) ?_
      refine sf_callVw (S := Int32) (rest := []) ⟨hx, hb, hml, hown, hts⟩ (c_SF_numberOf l D cI cZ cJ q fl sl tb np nt cp cc cb ch cm mp mc mb mh mm us ta tp tl cu bl pf sh 1) (sf_cwV lk_SF_182 hts (fun _ h => h) (by rw [hR]; exact ⟨Nat.le_of_ble_eq_true rfl, Nat.le_of_ble_eq_true rfl⟩)) hK hP hD hS hA (fun _ => by simp only [sf_w_fst]) (ci := 2) (q0 := 0) rfl rfl rfl rfl rfl hl.1 (Nat.le_of_ble_eq_true rfl) d_SF_countingTable_22 ⟨Nat.zero_le _, Nat.zero_le _⟩ (fun u_8 H locs hu_8 hP hD hS => ?_)
      have hP : va_P D classes (sf_w q cI cZ fl sl tb np nt cp cc cb ch cm mp mc mb mh mm us ta tp tl cu bl pf sh) H := hP
      have hD : va_D A (sf_w q cI cZ fl sl tb np nt cp cc cb ch cm mp mc mb mh mm us ta tp tl cu bl pf sh) := hD
      refine lv_aload_n hx hb d_SF_countingTable_25 rfl (lv_at hl 2 rfl) ?_
      refine lv_iconst (v := 0) hx hb d_SF_countingTable_26 (by decide) ?_
      refine sf_callVw (S := Int32) (rest := [.int u_8]) ⟨hx, hb, hml, hown, hts⟩ (c_SF_numberOf l D cI cZ cJ q fl sl tb np nt cp cc cb ch cm mp mc mb mh mm us ta tp tl cu bl pf sh 0) (sf_cwV lk_SF_182 hts (fun _ h => h) (by rw [hR]; exact ⟨Nat.le_of_ble_eq_true rfl, Nat.le_of_ble_eq_true rfl⟩)) hK hP hD hS hA (fun _ => by simp only [sf_w_fst]) (ci := 2) (q0 := 0) rfl rfl rfl rfl rfl hl.1 (Nat.le_of_ble_eq_true rfl) d_SF_countingTable_27 ⟨Nat.zero_le _, Nat.zero_le _⟩ (fun u_9 H locs hu_9 hP hD hS => ?_)
      have hP : va_P D classes (sf_w q cI cZ fl sl tb np nt cp cc cb ch cm mp mc mb mh mm us ta tp tl cu bl pf sh) H := hP
      have hD : va_D A (sf_w q cI cZ fl sl tb np nt cp cc cb ch cm mp mc mb mh mm us ta tp tl cu bl pf sh) := hD
      refine sf_callSr (S := Int32) (rest := [.int u_8]) ⟨hx, hb, hml, hown, hts⟩ (c_SF_numberBehind l D cI cZ cJ u_9) (sf_cwS lk_SF_221 hts (fun _ h => h) (by rw [hR]; exact ⟨Nat.le_of_ble_eq_true rfl, Nat.le_of_ble_eq_true rfl⟩)) hK hP hD hS hA [] rfl rfl (fun _ => rfl) rfl rfl hl.1 (Nat.le_of_ble_eq_true rfl) d_SF_countingTable_30 ⟨Nat.zero_le _, Nat.zero_le _⟩ (fun u_10 H locs hu_10 hP hS => ?_)
      refine lv_icmp_ne (tgt := 40) hx hb d_SF_countingTable_33 (by decide) (fun c_11 => ?_) (fun c_11 => ?_)
      · refine lv_iconst (v := 0) hx hb d_SF_countingTable_40 (by decide) ?_
        rw [hQ]
        exact sf_iret 0 hx hb hr hlk hS rfl rfl (by simp only [f_SF_countingTable, ← hu_1, ← hu_2, ← hu_8, ← hu_9, ← hu_10, eq_false c_3, eq_false c_6, eq_false c_11, ↓reduceIte]) hP d_SF_countingTable_41
      · refine lv_iconst (v := 1) hx hb d_SF_countingTable_36 (by decide) ?_
        refine lv_goto (tgt := 41) hx hb d_SF_countingTable_37 (by decide) ?_
        rw [hQ]
        exact sf_iret 1 hx hb hr hlk hS rfl rfl (by simp only [f_SF_countingTable, ← hu_1, ← hu_2, ← hu_8, ← hu_9, ← hu_10, eq_false c_3, eq_false c_6, eq_true c_11, ↓reduceIte]) hP d_SF_countingTable_41
def f_SF_firstOf (tb : Nat → Int32) (ta0 : Int32) (ro : Int32) (sw : Int32) : Int32 :=
  if ta0 = (-1) then
    0
  else
    if sw = 0 then
      (f_Bl_get 80 tb (nI 40) ta0 (1 + ro))
    else
      (f_Bl_get 80 tb (nI 40) ta0 (13 + ro))
set_option maxHeartbeats 1000000 in
set_option maxRecDepth 100000 in
/-- firstOf -/
theorem c_SF_firstOf (l : Launch) (D : va_G) (cI cZ cJ : ClassId) (q : Nat → Nat) (fl : Nat → Int32) (sl : Nat → Int32) (tb : Nat → Int32) (np : Nat → Int32) (nt : Nat → Int32) (cp : Nat → Int32) (cc : Int32) (cb : Int32) (ch : Int32) (cm : Int32) (mp : Nat → Int32) (mc : Int32) (mb : Int32) (mh : Int32) (mm : Int32) (us : Nat → Int32) (ta : Nat → Int32) (tp : Nat → Int32) (tl : Int32) (cu : Int32) (bl : Int32) (pf : Int32) (sh : Int32) (ta0 : Int32) (ro : Int32) (sw : Int32) : sf_M (S := Int32) l D classes (sf_tys cI cZ cJ) y_SF_firstOf (sf_ws y_SF_firstOf b_SF_firstOf 4 (some .int)) 1 23 [.ref (q 0), .int ta0, .int ro, .int sw] (sf_w q cI cZ fl sl tb np nt cp cc cb ch cm mp mc mb mh mm us ta tp tl cu bl pf sh) (fun r => some (.int r)) (fun r => r = f_SF_firstOf tb ta0 ro sw) (fun r => (sf_w q cI cZ fl sl tb np nt cp cc cb ch cm mp mc mb mh mm us ta tp tl cu bl pf sh)) := by
  refine sf_ofW (S := Int32) (by decide) (Nat.le_of_ble_eq_true rfl) ?_
  intro p e s m below meth c A ls R args Q hR hArgs hQ hC0 hr hK hP hD hl
  obtain ⟨hx, hb, hml, hown, hts, hA, hlk⟩ := hC0
  have hS : va_S A s.heap s.heap [] := va_S.rf
  have hl : lv_has ls 4 [(0, .ref (q 0)), (1, .int ta0), (2, .int ro), (3, .int sw)] := hl
  refine lv_iload_n hx hb d_SF_firstOf_0 rfl (lv_at hl 1 rfl) ?_
  refine lv_iconst (v := (-1)) hx hb d_SF_firstOf_1 (by decide) ?_
  refine lv_icmp_ne (tgt := 9) hx hb d_SF_firstOf_2 (by decide) (fun c_1 => ?_) (fun c_1 => ?_)
  · refine lv_aload_n hx hb d_SF_firstOf_9 rfl (lv_at hl 0 rfl) ?_
    refine va_get (D := D) (ci := 2) (v := .ref (q 5)) (C := R_SF) (T := F_SF) (N := 15) hx hb hts i_SF hown hK hP 0 rfl rfl 2 (by decide) (hts _ wd_111) (fun _ h9 => h9) rfl d_SF_firstOf_10 ?_
    refine lv_iload_n hx hb d_SF_firstOf_13 rfl (lv_at hl 1 rfl) ?_
    refine lv_iload_n hx hb d_SF_firstOf_14 rfl (lv_at hl 3 rfl) ?_
    refine lv_if_eq (tgt := 23) hx hb d_SF_firstOf_15 (by decide) (fun c_2 => ?_) (fun c_2 => ?_)
    · refine lv_iconst (v := 1) hx hb d_SF_firstOf_23 (by decide) ?_
      refine lv_iload_n hx hb d_SF_firstOf_24 rfl (lv_at hl 2 rfl) ?_
      refine lv_iadd hx hb d_SF_firstOf_25 ?_
      refine sf_callVr (S := Int32) (rest := []) ⟨hx, hb, hml, hown, hts⟩ (c_Bl_get l D cI cZ cJ (q 5) (q 6) 80 tb (nI 40) ta0 (1 + ro) (by omega)) (sf_cwV lk_SF_203 hts (fun _ h => h) (by rw [hR]; exact ⟨Nat.le_of_ble_eq_true rfl, Nat.le_of_ble_eq_true rfl⟩)) hK hP hD hS hA [5, 6] rfl rfl (fun _ => rfl) (ci := 0) (q0 := 0) rfl rfl rfl rfl rfl hl.1 (Nat.le_of_ble_eq_true rfl) d_SF_firstOf_26 ⟨Nat.zero_le _, Nat.zero_le _⟩ (fun u_3 H locs hu_3 hP hS => ?_)
      rw [hQ]
      exact sf_iret u_3 hx hb hr hlk hS rfl rfl (by simp only [f_SF_firstOf, ← hu_3, eq_false c_1, eq_true c_2, ↓reduceIte]) hP d_SF_firstOf_29
    · refine lv_bipush (v := 13) hx hb d_SF_firstOf_18 (by decide) ?_
      refine lv_goto (tgt := 24) hx hb d_SF_firstOf_20 (by decide) ?_
      refine lv_iload_n hx hb d_SF_firstOf_24 rfl (lv_at hl 2 rfl) ?_
      refine lv_iadd hx hb d_SF_firstOf_25 ?_
      refine sf_callVr (S := Int32) (rest := []) ⟨hx, hb, hml, hown, hts⟩ (c_Bl_get l D cI cZ cJ (q 5) (q 6) 80 tb (nI 40) ta0 (13 + ro) (by omega)) (sf_cwV lk_SF_203 hts (fun _ h => h) (by rw [hR]; exact ⟨Nat.le_of_ble_eq_true rfl, Nat.le_of_ble_eq_true rfl⟩)) hK hP hD hS hA [5, 6] rfl rfl (fun _ => rfl) (ci := 0) (q0 := 0) rfl rfl rfl rfl rfl hl.1 (Nat.le_of_ble_eq_true rfl) d_SF_firstOf_26 ⟨Nat.zero_le _, Nat.zero_le _⟩ (fun u_4 H locs hu_4 hP hS => ?_)
      rw [hQ]
      exact sf_iret u_4 hx hb hr hlk hS rfl rfl (by simp only [f_SF_firstOf, ← hu_4, eq_false c_1, eq_false c_2, ↓reduceIte]) hP d_SF_firstOf_29
  · refine lv_iconst (v := 0) hx hb d_SF_firstOf_5 (by decide) ?_
    refine lv_goto (tgt := 29) hx hb d_SF_firstOf_6 (by decide) ?_
    rw [hQ]
    exact sf_iret 0 hx hb hr hlk hS rfl rfl (by simp only [f_SF_firstOf, eq_true c_1, ↓reduceIte]) hP d_SF_firstOf_29
def f_SF_isThere (tb : Nat → Int32) (ro : Int32) : Int32 :=
  if (f_SF_firstOf tb (f_SF_countingTable tb) ro 0) = 0 then
    if (f_SF_firstOf tb (f_SF_countingTable tb) ro 1) = 0 then
      0
    else
      1
  else
    1
set_option maxHeartbeats 1000000 in
set_option maxRecDepth 100000 in
/-- isThere -/
theorem c_SF_isThere (l : Launch) (D : va_G) (cI cZ cJ : ClassId) (q : Nat → Nat) (fl : Nat → Int32) (sl : Nat → Int32) (tb : Nat → Int32) (np : Nat → Int32) (nt : Nat → Int32) (cp : Nat → Int32) (cc : Int32) (cb : Int32) (ch : Int32) (cm : Int32) (mp : Nat → Int32) (mc : Int32) (mb : Int32) (mh : Int32) (mm : Int32) (us : Nat → Int32) (ta : Nat → Int32) (tp : Nat → Int32) (tl : Int32) (cu : Int32) (bl : Int32) (pf : Int32) (sh : Int32) (ro : Int32) : sf_M (S := Int32) l D classes (sf_tys cI cZ cJ) y_SF_isThere (sf_ws y_SF_isThere b_SF_isThere 3 (some .boolean)) 4 93 [.ref (q 0), .int ro] (sf_w q cI cZ fl sl tb np nt cp cc cb ch cm mp mc mb mh mm us ta tp tl cu bl pf sh) (fun r => some (.int r)) (fun r => r = f_SF_isThere tb ro) (fun r => (sf_w q cI cZ fl sl tb np nt cp cc cb ch cm mp mc mb mh mm us ta tp tl cu bl pf sh)) := by
  refine sf_ofW (S := Int32) (by decide) (Nat.le_of_ble_eq_true rfl) ?_
  intro p e s m below meth c A ls R args Q hR hArgs hQ hC0 hr hK hP hD hl
  obtain ⟨hx, hb, hml, hown, hts, hA, hlk⟩ := hC0
  have hS : va_S A s.heap s.heap [] := va_S.rf
  have hl : lv_has ls 3 [(0, .ref (q 0)), (1, .int ro)] := hl
  refine lv_aload_n hx hb d_SF_isThere_0 rfl (lv_at hl 0 rfl) ?_
  refine sf_callVw (S := Int32) (rest := []) ⟨hx, hb, hml, hown, hts⟩ (c_SF_countingTable l D cI cZ cJ q fl sl tb np nt cp cc cb ch cm mp mc mb mh mm us ta tp tl cu bl pf sh) (sf_cwV lk_SF_179 hts (fun _ h => h) (by rw [hR]; exact ⟨Nat.le_of_ble_eq_true rfl, Nat.le_of_ble_eq_true rfl⟩)) hK hP hD hS hA (fun _ => by simp only [sf_w_fst]) (ci := 2) (q0 := 0) rfl rfl rfl rfl rfl hl.1 (Nat.le_of_ble_eq_true rfl) d_SF_isThere_1 ⟨Nat.zero_le _, Nat.zero_le _⟩ (fun u_1 H locs hu_1 hP hD hS => ?_)
  have hP : va_P D classes (sf_w q cI cZ fl sl tb np nt cp cc cb ch cm mp mc mb mh mm us ta tp tl cu bl pf sh) H := hP
  have hD : va_D A (sf_w q cI cZ fl sl tb np nt cp cc cb ch cm mp mc mb mh mm us ta tp tl cu bl pf sh) := hD
  refine lv_istore_n (lv' := [(2, .int u_1), (0, .ref (q 0)), (1, .int ro)]) hx hb d_SF_isThere_4 rfl hl (by decide) rfl (fun ls hl => ?_)
  refine lv_aload_n hx hb d_SF_isThere_5 rfl (lv_at hl 1 rfl) ?_
  refine lv_iload_n hx hb d_SF_isThere_6 rfl (lv_at hl 0 rfl) ?_
  refine lv_iload_n hx hb d_SF_isThere_7 rfl (lv_at hl 2 rfl) ?_
  refine lv_iconst (v := 0) hx hb d_SF_isThere_8 (by decide) ?_
  refine sf_callVw (S := Int32) (rest := []) ⟨hx, hb, hml, hown, hts⟩ (c_SF_firstOf l D cI cZ cJ q fl sl tb np nt cp cc cb ch cm mp mc mb mh mm us ta tp tl cu bl pf sh u_1 ro 0) (sf_cwV lk_SF_224 hts (fun _ h => h) (by rw [hR]; exact ⟨Nat.le_of_ble_eq_true rfl, Nat.le_of_ble_eq_true rfl⟩)) hK hP hD hS hA (fun _ => by simp only [sf_w_fst]) (ci := 2) (q0 := 0) rfl rfl rfl rfl rfl hl.1 (Nat.le_of_ble_eq_true rfl) d_SF_isThere_9 ⟨Nat.zero_le _, Nat.zero_le _⟩ (fun u_2 H locs hu_2 hP hD hS => ?_)
  have hP : va_P D classes (sf_w q cI cZ fl sl tb np nt cp cc cb ch cm mp mc mb mh mm us ta tp tl cu bl pf sh) H := hP
  have hD : va_D A (sf_w q cI cZ fl sl tb np nt cp cc cb ch cm mp mc mb mh mm us ta tp tl cu bl pf sh) := hD
  refine lv_if_ne (tgt := 25) hx hb d_SF_isThere_12 (by decide) (fun c_3 => ?_) (fun c_3 => ?_)
  · refine lv_iconst (v := 1) hx hb d_SF_isThere_25 (by decide) ?_
    refine lv_goto (tgt := 30) hx hb d_SF_isThere_26 (by decide) ?_
    rw [hQ]
    exact sf_iret 1 hx hb hr hlk hS sf_b1 rfl (by simp only [f_SF_isThere, ← hu_1, ← hu_2, eq_false c_3, ↓reduceIte]) hP d_SF_isThere_30
  · refine lv_aload_n hx hb d_SF_isThere_15 rfl (lv_at hl 1 rfl) ?_
    refine lv_iload_n hx hb d_SF_isThere_16 rfl (lv_at hl 0 rfl) ?_
    refine lv_iload_n hx hb d_SF_isThere_17 rfl (lv_at hl 2 rfl) ?_
    refine lv_iconst (v := 1) hx hb d_SF_isThere_18 (by decide) ?_
    refine sf_callVw (S := Int32) (rest := []) ⟨hx, hb, hml, hown, hts⟩ (c_SF_firstOf l D cI cZ cJ q fl sl tb np nt cp cc cb ch cm mp mc mb mh mm us ta tp tl cu bl pf sh u_1 ro 1) (sf_cwV lk_SF_224 hts (fun _ h => h) (by rw [hR]; exact ⟨Nat.le_of_ble_eq_true rfl, Nat.le_of_ble_eq_true rfl⟩)) hK hP hD hS hA (fun _ => by simp only [sf_w_fst]) (ci := 2) (q0 := 0) rfl rfl rfl rfl rfl hl.1 (Nat.le_of_ble_eq_true rfl) d_SF_isThere_19 ⟨Nat.zero_le _, Nat.zero_le _⟩ (fun u_4 H locs hu_4 hP hD hS => ?_)
    have hP : va_P D classes (sf_w q cI cZ fl sl tb np nt cp cc cb ch cm mp mc mb mh mm us ta tp tl cu bl pf sh) H := hP
    have hD : va_D A (sf_w q cI cZ fl sl tb np nt cp cc cb ch cm mp mc mb mh mm us ta tp tl cu bl pf sh) := hD
    refine lv_if_eq (tgt := 29) hx hb d_SF_isThere_22 (by decide) (fun c_5 => ?_) (fun c_5 => ?_)
    · refine lv_iconst (v := 0) hx hb d_SF_isThere_29 (by decide) ?_
      rw [hQ]
      exact sf_iret 0 hx hb hr hlk hS sf_b0 rfl (by simp only [f_SF_isThere, ← hu_1, ← hu_2, ← hu_4, eq_true c_3, eq_true c_5, ↓reduceIte]) hP d_SF_isThere_30
    · refine lv_iconst (v := 1) hx hb d_SF_isThere_25 (by decide) ?_
      refine lv_goto (tgt := 30) hx hb d_SF_isThere_26 (by decide) ?_
      rw [hQ]
      exact sf_iret 1 hx hb hr hlk hS sf_b1 rfl (by simp only [f_SF_isThere, ← hu_1, ← hu_2, ← hu_4, eq_true c_3, eq_false c_5, ↓reduceIte]) hP d_SF_isThere_30
def f_SF_isSlow (tb : Nat → Int32) (ro : Int32) : Int32 :=
  if (f_SF_firstOf tb (f_SF_countingTable tb) ro 1) = 0 then
    0
  else
    1
set_option maxHeartbeats 1000000 in
set_option maxRecDepth 100000 in
/-- isSlow -/
theorem c_SF_isSlow (l : Launch) (D : va_G) (cI cZ cJ : ClassId) (q : Nat → Nat) (fl : Nat → Int32) (sl : Nat → Int32) (tb : Nat → Int32) (np : Nat → Int32) (nt : Nat → Int32) (cp : Nat → Int32) (cc : Int32) (cb : Int32) (ch : Int32) (cm : Int32) (mp : Nat → Int32) (mc : Int32) (mb : Int32) (mh : Int32) (mm : Int32) (us : Nat → Int32) (ta : Nat → Int32) (tp : Nat → Int32) (tl : Int32) (cu : Int32) (bl : Int32) (pf : Int32) (sh : Int32) (ro : Int32) : sf_M (S := Int32) l D classes (sf_tys cI cZ cJ) y_SF_isSlow (sf_ws y_SF_isSlow b_SF_isSlow 2 (some .boolean)) 4 93 [.ref (q 0), .int ro] (sf_w q cI cZ fl sl tb np nt cp cc cb ch cm mp mc mb mh mm us ta tp tl cu bl pf sh) (fun r => some (.int r)) (fun r => r = f_SF_isSlow tb ro) (fun r => (sf_w q cI cZ fl sl tb np nt cp cc cb ch cm mp mc mb mh mm us ta tp tl cu bl pf sh)) := by
  refine sf_ofW (S := Int32) (by decide) (Nat.le_of_ble_eq_true rfl) ?_
  intro p e s m below meth c A ls R args Q hR hArgs hQ hC0 hr hK hP hD hl
  obtain ⟨hx, hb, hml, hown, hts, hA, hlk⟩ := hC0
  have hS : va_S A s.heap s.heap [] := va_S.rf
  have hl : lv_has ls 2 [(0, .ref (q 0)), (1, .int ro)] := hl
  refine lv_aload_n hx hb d_SF_isSlow_0 rfl (lv_at hl 0 rfl) ?_
  refine lv_aload_n hx hb d_SF_isSlow_1 rfl (lv_at hl 0 rfl) ?_
  refine sf_callVw (S := Int32) (rest := [.ref (q 0)]) ⟨hx, hb, hml, hown, hts⟩ (c_SF_countingTable l D cI cZ cJ q fl sl tb np nt cp cc cb ch cm mp mc mb mh mm us ta tp tl cu bl pf sh) (sf_cwV lk_SF_179 hts (fun _ h => h) (by rw [hR]; exact ⟨Nat.le_of_ble_eq_true rfl, Nat.le_of_ble_eq_true rfl⟩)) hK hP hD hS hA (fun _ => by simp only [sf_w_fst]) (ci := 2) (q0 := 0) rfl rfl rfl rfl rfl hl.1 (Nat.le_of_ble_eq_true rfl) d_SF_isSlow_2 ⟨Nat.zero_le _, Nat.zero_le _⟩ (fun u_1 H locs hu_1 hP hD hS => ?_)
  have hP : va_P D classes (sf_w q cI cZ fl sl tb np nt cp cc cb ch cm mp mc mb mh mm us ta tp tl cu bl pf sh) H := hP
  have hD : va_D A (sf_w q cI cZ fl sl tb np nt cp cc cb ch cm mp mc mb mh mm us ta tp tl cu bl pf sh) := hD
  refine lv_iload_n hx hb d_SF_isSlow_5 rfl (lv_at hl 1 rfl) ?_
  refine lv_iconst (v := 1) hx hb d_SF_isSlow_6 (by decide) ?_
  refine sf_callVw (S := Int32) (rest := []) ⟨hx, hb, hml, hown, hts⟩ (c_SF_firstOf l D cI cZ cJ q fl sl tb np nt cp cc cb ch cm mp mc mb mh mm us ta tp tl cu bl pf sh u_1 ro 1) (sf_cwV lk_SF_224 hts (fun _ h => h) (by rw [hR]; exact ⟨Nat.le_of_ble_eq_true rfl, Nat.le_of_ble_eq_true rfl⟩)) hK hP hD hS hA (fun _ => by simp only [sf_w_fst]) (ci := 2) (q0 := 0) rfl rfl rfl rfl rfl hl.1 (Nat.le_of_ble_eq_true rfl) d_SF_isSlow_7 ⟨Nat.zero_le _, Nat.zero_le _⟩ (fun u_2 H locs hu_2 hP hD hS => ?_)
  have hP : va_P D classes (sf_w q cI cZ fl sl tb np nt cp cc cb ch cm mp mc mb mh mm us ta tp tl cu bl pf sh) H := hP
  have hD : va_D A (sf_w q cI cZ fl sl tb np nt cp cc cb ch cm mp mc mb mh mm us ta tp tl cu bl pf sh) := hD
  refine lv_if_eq (tgt := 17) hx hb d_SF_isSlow_10 (by decide) (fun c_3 => ?_) (fun c_3 => ?_)
  · refine lv_iconst (v := 0) hx hb d_SF_isSlow_17 (by decide) ?_
    rw [hQ]
    exact sf_iret 0 hx hb hr hlk hS sf_b0 rfl (by simp only [f_SF_isSlow, ← hu_1, ← hu_2, eq_true c_3, ↓reduceIte]) hP d_SF_isSlow_18
  · refine lv_iconst (v := 1) hx hb d_SF_isSlow_13 (by decide) ?_
    refine lv_goto (tgt := 18) hx hb d_SF_isSlow_14 (by decide) ?_
    rw [hQ]
    exact sf_iret 1 hx hb hr hlk hS sf_b1 rfl (by simp only [f_SF_isSlow, ← hu_1, ← hu_2, eq_false c_3, ↓reduceIte]) hP d_SF_isSlow_18
set_option maxHeartbeats 1000000 in
set_option maxRecDepth 100000 in
/-- placesOf -/
theorem c_SF_placesOf_0 (l : Launch) (D : va_G) (cI cZ cJ : ClassId) (q : Nat → Nat) (fl : Nat → Int32) (sl : Nat → Int32) (tb : Nat → Int32) (np : Nat → Int32) (nt : Nat → Int32) (cp : Nat → Int32) (cc : Int32) (cb : Int32) (ch : Int32) (cm : Int32) (mp : Nat → Int32) (mc : Int32) (mb : Int32) (mh : Int32) (mm : Int32) (us : Nat → Int32) (ta : Nat → Int32) (tp : Nat → Int32) (tl : Int32) (cu : Int32) (bl : Int32) (pf : Int32) (sh : Int32) : sf_M (S := Unit) l D classes (sf_tys cI cZ cJ) y_SF_placesOf (sf_ws y_SF_placesOf b_SF_placesOf 2 (some (.object "ShadowFiles$Blocks"))) 0 0 [.ref (q 0), .int 0] (sf_w q cI cZ fl sl tb np nt cp cc cb ch cm mp mc mb mh mm us ta tp tl cu bl pf sh) (fun _ => some (.ref (q 1))) (fun _ => True) (fun _ => (sf_w q cI cZ fl sl tb np nt cp cc cb ch cm mp mc mb mh mm us ta tp tl cu bl pf sh)) := by
  refine sf_ofW (S := Unit) (by decide) (Nat.le_of_ble_eq_true rfl) ?_
  intro p e s m below meth c A ls R args Q hR hArgs hQ hC0 hr hK hP hD hl
  obtain ⟨hx, hb, hml, hown, hts, hA, hlk⟩ := hC0
  have hS : va_S A s.heap s.heap [] := va_S.rf
  have hl : lv_has ls 2 [(0, .ref (q 0)), (1, .int 0)] := hl
  refine lv_iload_n hx hb d_SF_placesOf_0 rfl (lv_at hl 1 rfl) ?_
  refine lv_if_eq (tgt := 11) hx hb d_SF_placesOf_1 (by decide) (fun c_1 => ?_) (fun c_1 => absurd (by decide) c_1)
  refine lv_aload_n hx hb d_SF_placesOf_11 rfl (lv_at hl 0 rfl) ?_
  refine va_get (D := D) (ci := 2) (v := .ref (q 1)) (C := R_SF) (T := F_SF) (N := 15) hx hb hts i_SF hown hK hP 0 rfl rfl 0 (by decide) (hts _ wd_109) (fun _ h9 => h9) rfl d_SF_placesOf_12 ?_
  rw [hQ]
  exact sf_aret () hx hb hr hlk hS rfl trivial hP d_SF_placesOf_15
set_option maxHeartbeats 1000000 in
set_option maxRecDepth 100000 in
/-- placesOf -/
theorem c_SF_placesOf_1 (l : Launch) (D : va_G) (cI cZ cJ : ClassId) (q : Nat → Nat) (fl : Nat → Int32) (sl : Nat → Int32) (tb : Nat → Int32) (np : Nat → Int32) (nt : Nat → Int32) (cp : Nat → Int32) (cc : Int32) (cb : Int32) (ch : Int32) (cm : Int32) (mp : Nat → Int32) (mc : Int32) (mb : Int32) (mh : Int32) (mm : Int32) (us : Nat → Int32) (ta : Nat → Int32) (tp : Nat → Int32) (tl : Int32) (cu : Int32) (bl : Int32) (pf : Int32) (sh : Int32) : sf_M (S := Unit) l D classes (sf_tys cI cZ cJ) y_SF_placesOf (sf_ws y_SF_placesOf b_SF_placesOf 2 (some (.object "ShadowFiles$Blocks"))) 0 0 [.ref (q 0), .int 1] (sf_w q cI cZ fl sl tb np nt cp cc cb ch cm mp mc mb mh mm us ta tp tl cu bl pf sh) (fun _ => some (.ref (q 3))) (fun _ => True) (fun _ => (sf_w q cI cZ fl sl tb np nt cp cc cb ch cm mp mc mb mh mm us ta tp tl cu bl pf sh)) := by
  refine sf_ofW (S := Unit) (by decide) (Nat.le_of_ble_eq_true rfl) ?_
  intro p e s m below meth c A ls R args Q hR hArgs hQ hC0 hr hK hP hD hl
  obtain ⟨hx, hb, hml, hown, hts, hA, hlk⟩ := hC0
  have hS : va_S A s.heap s.heap [] := va_S.rf
  have hl : lv_has ls 2 [(0, .ref (q 0)), (1, .int 1)] := hl
  refine lv_iload_n hx hb d_SF_placesOf_0 rfl (lv_at hl 1 rfl) ?_
  refine lv_if_eq (tgt := 11) hx hb d_SF_placesOf_1 (by decide) (fun c_1 => absurd c_1 (by decide)) (fun c_1 => ?_)
  refine lv_aload_n hx hb d_SF_placesOf_4 rfl (lv_at hl 0 rfl) ?_
  refine va_get (D := D) (ci := 2) (v := .ref (q 3)) (C := R_SF) (T := F_SF) (N := 15) hx hb hts i_SF hown hK hP 0 rfl rfl 1 (by decide) (hts _ wd_110) (fun _ h9 => h9) rfl d_SF_placesOf_5 ?_
  refine lv_goto (tgt := 15) hx hb d_SF_placesOf_8 (by decide) ?_
  rw [hQ]
  exact sf_aret () hx hb hr hlk hS rfl trivial hP d_SF_placesOf_15
def f_SF_followRow (fl : Nat → Int32) (sl : Nat → Int32) (tb : Nat → Int32) (cp : Nat → Int32) (ro : Int32) : ((Nat → Int32) × Int32 × Int32 × Int32 × Int32) :=
  if (f_SF_firstOf tb (f_SF_countingTable tb) ro 1) = 0 then
    ((f_Ch_follow cp 768 fl 28 ((f_SF_firstOf tb (f_SF_countingTable tb) ro 0) - 1)).1, (f_Ch_follow cp 768 fl 28 ((f_SF_firstOf tb (f_SF_countingTable tb) ro 0) - 1)).2.1, (f_Ch_follow cp 768 fl 28 ((f_SF_firstOf tb (f_SF_countingTable tb) ro 0) - 1)).2.2.1, (f_Ch_follow cp 768 fl 28 ((f_SF_firstOf tb (f_SF_countingTable tb) ro 0) - 1)).2.2.2.1, (f_Ch_follow cp 768 fl 28 ((f_SF_firstOf tb (f_SF_countingTable tb) ro 0) - 1)).2.2.2.2)
  else
    ((f_Ch_follow cp 512 sl 28 ((f_SF_firstOf tb (f_SF_countingTable tb) ro 1) - 1)).1, (f_Ch_follow cp 512 sl 28 ((f_SF_firstOf tb (f_SF_countingTable tb) ro 1) - 1)).2.1, (f_Ch_follow cp 512 sl 28 ((f_SF_firstOf tb (f_SF_countingTable tb) ro 1) - 1)).2.2.1, (f_Ch_follow cp 512 sl 28 ((f_SF_firstOf tb (f_SF_countingTable tb) ro 1) - 1)).2.2.2.1, (f_Ch_follow cp 512 sl 28 ((f_SF_firstOf tb (f_SF_countingTable tb) ro 1) - 1)).2.2.2.2)
set_option maxHeartbeats 1000000 in
set_option maxRecDepth 100000 in
/-- followRow -/
theorem c_SF_followRow (l : Launch) (D : va_G) (cI cZ cJ : ClassId) (q : Nat → Nat) (fl : Nat → Int32) (sl : Nat → Int32) (tb : Nat → Int32) (np : Nat → Int32) (nt : Nat → Int32) (cp : Nat → Int32) (cc : Int32) (cb : Int32) (ch : Int32) (cm : Int32) (mp : Nat → Int32) (mc : Int32) (mb : Int32) (mh : Int32) (mm : Int32) (us : Nat → Int32) (ta : Nat → Int32) (tp : Nat → Int32) (tl : Int32) (cu : Int32) (bl : Int32) (pf : Int32) (sh : Int32) (ro : Int32) : sf_M (S := ((Nat → Int32) × Int32 × Int32 × Int32 × Int32)) l D classes (sf_tys cI cZ cJ) y_SF_followRow (sf_ws y_SF_followRow b_SF_followRow 4 none) 4 97 [.ref (q 0), .int ro] (sf_w q cI cZ fl sl tb np nt cp cc cb ch cm mp mc mb mh mm us ta tp tl cu bl pf sh) (fun _ => none) (fun r => r = f_SF_followRow fl sl tb cp ro) (fun r => (sf_w q cI cZ fl sl tb np nt r.1 r.2.1 r.2.2.1 r.2.2.2.1 r.2.2.2.2 mp mc mb mh mm us ta tp tl cu bl pf sh)) := by
  refine sf_ofW (S := ((Nat → Int32) × Int32 × Int32 × Int32 × Int32)) (by decide) (Nat.le_of_ble_eq_true rfl) ?_
  intro p e s m below meth c A ls R args Q hR hArgs hQ hC0 hr hK hP hD hl
  obtain ⟨hx, hb, hml, hown, hts, hA, hlk⟩ := hC0
  have hS : va_S A s.heap s.heap [] := va_S.rf
  have hl : lv_has ls 4 [(0, .ref (q 0)), (1, .int ro)] := hl
  refine lv_aload_n hx hb d_SF_followRow_0 rfl (lv_at hl 0 rfl) ?_
  refine sf_callVw (S := Int32) (rest := []) ⟨hx, hb, hml, hown, hts⟩ (c_SF_countingTable l D cI cZ cJ q fl sl tb np nt cp cc cb ch cm mp mc mb mh mm us ta tp tl cu bl pf sh) (sf_cwV lk_SF_179 hts (fun _ h => h) (by rw [hR]; exact ⟨Nat.le_of_ble_eq_true rfl, Nat.le_of_ble_eq_true rfl⟩)) hK hP hD hS hA (fun _ => by simp only [sf_w_fst]) (ci := 2) (q0 := 0) rfl rfl rfl rfl rfl hl.1 (Nat.le_of_ble_eq_true rfl) d_SF_followRow_1 ⟨Nat.zero_le _, Nat.zero_le _⟩ (fun u_1 H locs hu_1 hP hD hS => ?_)
  have hP : va_P D classes (sf_w q cI cZ fl sl tb np nt cp cc cb ch cm mp mc mb mh mm us ta tp tl cu bl pf sh) H := hP
  have hD : va_D A (sf_w q cI cZ fl sl tb np nt cp cc cb ch cm mp mc mb mh mm us ta tp tl cu bl pf sh) := hD
  refine lv_istore_n (lv' := [(2, .int u_1), (0, .ref (q 0)), (1, .int ro)]) hx hb d_SF_followRow_4 rfl hl (by decide) rfl (fun ls hl => ?_)
  refine lv_aload_n hx hb d_SF_followRow_5 rfl (lv_at hl 1 rfl) ?_
  refine lv_iload_n hx hb d_SF_followRow_6 rfl (lv_at hl 0 rfl) ?_
  refine lv_iload_n hx hb d_SF_followRow_7 rfl (lv_at hl 2 rfl) ?_
  refine lv_iconst (v := 1) hx hb d_SF_followRow_8 (by decide) ?_
  refine sf_callVw (S := Int32) (rest := []) ⟨hx, hb, hml, hown, hts⟩ (c_SF_firstOf l D cI cZ cJ q fl sl tb np nt cp cc cb ch cm mp mc mb mh mm us ta tp tl cu bl pf sh u_1 ro 1) (sf_cwV lk_SF_224 hts (fun _ h => h) (by rw [hR]; exact ⟨Nat.le_of_ble_eq_true rfl, Nat.le_of_ble_eq_true rfl⟩)) hK hP hD hS hA (fun _ => by simp only [sf_w_fst]) (ci := 2) (q0 := 0) rfl rfl rfl rfl rfl hl.1 (Nat.le_of_ble_eq_true rfl) d_SF_followRow_9 ⟨Nat.zero_le _, Nat.zero_le _⟩ (fun u_2 H locs hu_2 hP hD hS => ?_)
  have hP : va_P D classes (sf_w q cI cZ fl sl tb np nt cp cc cb ch cm mp mc mb mh mm us ta tp tl cu bl pf sh) H := hP
  have hD : va_D A (sf_w q cI cZ fl sl tb np nt cp cc cb ch cm mp mc mb mh mm us ta tp tl cu bl pf sh) := hD
  refine lv_if_eq (tgt := 19) hx hb d_SF_followRow_12 (by decide) (fun c_3 => ?_) (fun c_3 => ?_)
  · refine lv_iconst (v := 0) hx hb d_SF_followRow_19 (by decide) ?_
    refine lv_istore_n (lv' := [(3, .int 0), (2, .int u_1), (0, .ref (q 0)), (1, .int ro)]) hx hb d_SF_followRow_20 rfl hl (by decide) rfl (fun ls hl => ?_)
    refine lv_aload_n hx hb d_SF_followRow_21 rfl (lv_at hl 2 rfl) ?_
    refine va_get (D := D) (ci := 2) (v := .ref (q 11)) (C := R_SF) (T := F_SF) (N := 15) hx hb hts i_SF hown hK hP 0 rfl rfl 5 (by decide) (hts _ wd_114) (fun _ h9 => h9) rfl d_SF_followRow_22 ?_
    refine lv_aload_n hx hb d_SF_followRow_25 rfl (lv_at hl 2 rfl) ?_
    refine lv_iload_n hx hb d_SF_followRow_26 rfl (lv_at hl 0 rfl) ?_
    refine sf_callVw (S := Unit) (rest := [.ref (q 11)]) ⟨hx, hb, hml, hown, hts⟩ (c_SF_placesOf_0 l D cI cZ cJ q fl sl tb np nt cp cc cb ch cm mp mc mb mh mm us ta tp tl cu bl pf sh) (sf_cwV lk_SF_160 hts (fun _ h => h) (by rw [hR]; exact ⟨Nat.le_of_ble_eq_true rfl, Nat.le_of_ble_eq_true rfl⟩)) hK hP hD hS hA (fun _ => by simp only [sf_w_fst]) (ci := 2) (q0 := 0) rfl rfl rfl rfl rfl hl.1 (Nat.le_of_ble_eq_true rfl) d_SF_followRow_27 ⟨Nat.zero_le _, Nat.zero_le _⟩ (fun u H locs hu hP hD hS => ?_)
    have hP : va_P D classes (sf_w q cI cZ fl sl tb np nt cp cc cb ch cm mp mc mb mh mm us ta tp tl cu bl pf sh) H := hP
    have hD : va_D A (sf_w q cI cZ fl sl tb np nt cp cc cb ch cm mp mc mb mh mm us ta tp tl cu bl pf sh) := hD
    refine lv_aload_n hx hb d_SF_followRow_30 rfl (lv_at hl 2 rfl) ?_
    refine lv_iload_n hx hb d_SF_followRow_31 rfl (lv_at hl 1 rfl) ?_
    refine lv_iload_n hx hb d_SF_followRow_32 rfl (lv_at hl 3 rfl) ?_
    refine lv_iload_n hx hb d_SF_followRow_33 rfl (lv_at hl 0 rfl) ?_
    refine sf_callVw (S := Int32) (rest := [.ref (q 1), .ref (q 11)]) ⟨hx, hb, hml, hown, hts⟩ (c_SF_firstOf l D cI cZ cJ q fl sl tb np nt cp cc cb ch cm mp mc mb mh mm us ta tp tl cu bl pf sh u_1 ro 0) (sf_cwV lk_SF_224 hts (fun _ h => h) (by rw [hR]; exact ⟨Nat.le_of_ble_eq_true rfl, Nat.le_of_ble_eq_true rfl⟩)) hK hP hD hS hA (fun _ => by simp only [sf_w_fst]) (ci := 2) (q0 := 0) rfl rfl rfl rfl rfl hl.1 (Nat.le_of_ble_eq_true rfl) d_SF_followRow_34 ⟨Nat.zero_le _, Nat.zero_le _⟩ (fun u_4 H locs hu_4 hP hD hS => ?_)
    have hP : va_P D classes (sf_w q cI cZ fl sl tb np nt cp cc cb ch cm mp mc mb mh mm us ta tp tl cu bl pf sh) H := hP
    have hD : va_D A (sf_w q cI cZ fl sl tb np nt cp cc cb ch cm mp mc mb mh mm us ta tp tl cu bl pf sh) := hD
    refine lv_iconst (v := 1) hx hb d_SF_followRow_37 (by decide) ?_
    refine lv_isub hx hb d_SF_followRow_38 ?_
    refine sf_callV (S := ((Nat → Int32) × Int32 × Int32 × Int32 × Int32)) (rest := []) ⟨hx, hb, hml, hown, hts⟩ (c_Ch_follow l D cI cZ cJ (q 11) (q 12) cp cc cb ch cm (q 1) (q 2) 768 fl 28 (u_4 - 1) (by omega) (by omega)) (sf_cwV lk_SF_228 hts (fun _ h => h) (by rw [hR]; exact ⟨Nat.le_of_ble_eq_true rfl, Nat.le_of_ble_eq_true rfl⟩)) hK hP hD hS hA [11, 12, 1, 2] rfl rfl (fun _ => rfl) (ci := 1) (q0 := 0) rfl rfl rfl rfl rfl hl.1 (Nat.le_of_ble_eq_true rfl) d_SF_followRow_39 ⟨Nat.zero_le _, Nat.zero_le _⟩ (fun u_5 H locs hu_5 hP hD hS => ?_)
    have hP : va_P D classes (sf_w q cI cZ fl sl tb np nt u_5.1 u_5.2.1 u_5.2.2.1 u_5.2.2.2.1 u_5.2.2.2.2 mp mc mb mh mm us ta tp tl cu bl pf sh) H := hP
    have hD : va_D A (sf_w q cI cZ fl sl tb np nt u_5.1 u_5.2.1 u_5.2.2.1 u_5.2.2.2.1 u_5.2.2.2.2 mp mc mb mh mm us ta tp tl cu bl pf sh) := hD
    rw [hQ]
    exact sf_vret (u_5.1, u_5.2.1, u_5.2.2.1, u_5.2.2.2.1, u_5.2.2.2.2) hx hb hr hlk hS rfl (by simp only [f_SF_followRow, ← hu_1, ← hu_2, ← hu_4, ← hu_5, eq_true c_3, ↓reduceIte]) hP d_SF_followRow_42
  · refine lv_iconst (v := 1) hx hb d_SF_followRow_15 (by decide) ?_
    refine lv_goto (tgt := 20) hx hb d_SF_followRow_16 (by decide) ?_
    refine lv_istore_n (lv' := [(3, .int 1), (2, .int u_1), (0, .ref (q 0)), (1, .int ro)]) hx hb d_SF_followRow_20 rfl hl (by decide) rfl (fun ls hl => ?_)
    refine lv_aload_n hx hb d_SF_followRow_21 rfl (lv_at hl 2 rfl) ?_
    refine va_get (D := D) (ci := 2) (v := .ref (q 11)) (C := R_SF) (T := F_SF) (N := 15) hx hb hts i_SF hown hK hP 0 rfl rfl 5 (by decide) (hts _ wd_114) (fun _ h9 => h9) rfl d_SF_followRow_22 ?_
    refine lv_aload_n hx hb d_SF_followRow_25 rfl (lv_at hl 2 rfl) ?_
    refine lv_iload_n hx hb d_SF_followRow_26 rfl (lv_at hl 0 rfl) ?_
    refine sf_callVw (S := Unit) (rest := [.ref (q 11)]) ⟨hx, hb, hml, hown, hts⟩ (c_SF_placesOf_1 l D cI cZ cJ q fl sl tb np nt cp cc cb ch cm mp mc mb mh mm us ta tp tl cu bl pf sh) (sf_cwV lk_SF_160 hts (fun _ h => h) (by rw [hR]; exact ⟨Nat.le_of_ble_eq_true rfl, Nat.le_of_ble_eq_true rfl⟩)) hK hP hD hS hA (fun _ => by simp only [sf_w_fst]) (ci := 2) (q0 := 0) rfl rfl rfl rfl rfl hl.1 (Nat.le_of_ble_eq_true rfl) d_SF_followRow_27 ⟨Nat.zero_le _, Nat.zero_le _⟩ (fun u H locs hu hP hD hS => ?_)
    have hP : va_P D classes (sf_w q cI cZ fl sl tb np nt cp cc cb ch cm mp mc mb mh mm us ta tp tl cu bl pf sh) H := hP
    have hD : va_D A (sf_w q cI cZ fl sl tb np nt cp cc cb ch cm mp mc mb mh mm us ta tp tl cu bl pf sh) := hD
    refine lv_aload_n hx hb d_SF_followRow_30 rfl (lv_at hl 2 rfl) ?_
    refine lv_iload_n hx hb d_SF_followRow_31 rfl (lv_at hl 1 rfl) ?_
    refine lv_iload_n hx hb d_SF_followRow_32 rfl (lv_at hl 3 rfl) ?_
    refine lv_iload_n hx hb d_SF_followRow_33 rfl (lv_at hl 0 rfl) ?_
    refine sf_callVw (S := Int32) (rest := [.ref (q 3), .ref (q 11)]) ⟨hx, hb, hml, hown, hts⟩ (c_SF_firstOf l D cI cZ cJ q fl sl tb np nt cp cc cb ch cm mp mc mb mh mm us ta tp tl cu bl pf sh u_1 ro 1) (sf_cwV lk_SF_224 hts (fun _ h => h) (by rw [hR]; exact ⟨Nat.le_of_ble_eq_true rfl, Nat.le_of_ble_eq_true rfl⟩)) hK hP hD hS hA (fun _ => by simp only [sf_w_fst]) (ci := 2) (q0 := 0) rfl rfl rfl rfl rfl hl.1 (Nat.le_of_ble_eq_true rfl) d_SF_followRow_34 ⟨Nat.zero_le _, Nat.zero_le _⟩ (fun u_6 H locs hu_6 hP hD hS => ?_)
    rw [show u_6 = u_2 from hu_6.trans hu_2.symm]
    have hP : va_P D classes (sf_w q cI cZ fl sl tb np nt cp cc cb ch cm mp mc mb mh mm us ta tp tl cu bl pf sh) H := hP
    have hD : va_D A (sf_w q cI cZ fl sl tb np nt cp cc cb ch cm mp mc mb mh mm us ta tp tl cu bl pf sh) := hD
    refine lv_iconst (v := 1) hx hb d_SF_followRow_37 (by decide) ?_
    refine lv_isub hx hb d_SF_followRow_38 ?_
    refine sf_callV (S := ((Nat → Int32) × Int32 × Int32 × Int32 × Int32)) (rest := []) ⟨hx, hb, hml, hown, hts⟩ (c_Ch_follow l D cI cZ cJ (q 11) (q 12) cp cc cb ch cm (q 3) (q 4) 512 sl 28 (u_2 - 1) (by omega) (by omega)) (sf_cwV lk_SF_228 hts (fun _ h => h) (by rw [hR]; exact ⟨Nat.le_of_ble_eq_true rfl, Nat.le_of_ble_eq_true rfl⟩)) hK hP hD hS hA [11, 12, 3, 4] rfl rfl (fun _ => rfl) (ci := 1) (q0 := 0) rfl rfl rfl rfl rfl hl.1 (Nat.le_of_ble_eq_true rfl) d_SF_followRow_39 ⟨Nat.zero_le _, Nat.zero_le _⟩ (fun u_7 H locs hu_7 hP hD hS => ?_)
    have hP : va_P D classes (sf_w q cI cZ fl sl tb np nt u_7.1 u_7.2.1 u_7.2.2.1 u_7.2.2.2.1 u_7.2.2.2.2 mp mc mb mh mm us ta tp tl cu bl pf sh) H := hP
    have hD : va_D A (sf_w q cI cZ fl sl tb np nt u_7.1 u_7.2.1 u_7.2.2.1 u_7.2.2.2.1 u_7.2.2.2.2 mp mc mb mh mm us ta tp tl cu bl pf sh) := hD
    rw [hQ]
    exact sf_vret (u_7.1, u_7.2.1, u_7.2.2.1, u_7.2.2.2.1, u_7.2.2.2.2) hx hb hr hlk hS rfl (by simp only [f_SF_followRow, ← hu_1, ← hu_2, ← hu_7, eq_false c_3, ↓reduceIte]) hP d_SF_followRow_42
def f_SF_takenAt (ta : Nat → Int32) (i : Int32) : Int32 :=
  if i < 0 then
    (-1)
  else
    if 3 ≤ i then
      (-1)
    else
      (ta i.toNatClampNeg)
set_option maxHeartbeats 1000000 in
set_option maxRecDepth 100000 in
/-- takenAt -/
theorem c_SF_takenAt (l : Launch) (D : va_G) (cI cZ cJ : ClassId) (q : Nat → Nat) (fl : Nat → Int32) (sl : Nat → Int32) (tb : Nat → Int32) (np : Nat → Int32) (nt : Nat → Int32) (cp : Nat → Int32) (cc : Int32) (cb : Int32) (ch : Int32) (cm : Int32) (mp : Nat → Int32) (mc : Int32) (mb : Int32) (mh : Int32) (mm : Int32) (us : Nat → Int32) (ta : Nat → Int32) (tp : Nat → Int32) (tl : Int32) (cu : Int32) (bl : Int32) (pf : Int32) (sh : Int32) (i : Int32) : sf_M (S := Int32) l D classes (sf_tys cI cZ cJ) y_SF_takenAt (sf_ws y_SF_takenAt b_SF_takenAt 2 (some .int)) 0 0 [.ref (q 0), .int i] (sf_w q cI cZ fl sl tb np nt cp cc cb ch cm mp mc mb mh mm us ta tp tl cu bl pf sh) (fun r => some (.int r)) (fun r => r = f_SF_takenAt ta i) (fun r => (sf_w q cI cZ fl sl tb np nt cp cc cb ch cm mp mc mb mh mm us ta tp tl cu bl pf sh)) := by
  refine sf_ofW (S := Int32) (by decide) (Nat.le_of_ble_eq_true rfl) ?_
  intro p e s m below meth c A ls R args Q hR hArgs hQ hC0 hr hK hP hD hl
  obtain ⟨hx, hb, hml, hown, hts, hA, hlk⟩ := hC0
  have hS : va_S A s.heap s.heap [] := va_S.rf
  have hl : lv_has ls 2 [(0, .ref (q 0)), (1, .int i)] := hl
  refine lv_iload_n hx hb d_SF_takenAt_0 rfl (lv_at hl 1 rfl) ?_
  refine lv_if_lt (tgt := 18) hx hb d_SF_takenAt_1 (by decide) (fun c_1 => ?_) (fun c_1 => ?_)
  · refine lv_iconst (v := (-1)) hx hb d_SF_takenAt_18 (by decide) ?_
    rw [hQ]
    exact sf_iret (-1) hx hb hr hlk hS rfl rfl (by simp only [f_SF_takenAt, eq_true c_1, ↓reduceIte]) hP d_SF_takenAt_19
  · refine lv_iload_n hx hb d_SF_takenAt_4 rfl (lv_at hl 1 rfl) ?_
    refine lv_iconst (v := 3) hx hb d_SF_takenAt_5 (by decide) ?_
    refine lv_icmp_ge (tgt := 18) hx hb d_SF_takenAt_6 (by decide) (fun c_2 => ?_) (fun c_2 => ?_)
    · refine lv_iconst (v := (-1)) hx hb d_SF_takenAt_18 (by decide) ?_
      rw [hQ]
      exact sf_iret (-1) hx hb hr hlk hS rfl rfl (by simp only [f_SF_takenAt, eq_false c_1, eq_true c_2, ↓reduceIte]) hP d_SF_takenAt_19
    · refine lv_aload_n hx hb d_SF_takenAt_9 rfl (lv_at hl 0 rfl) ?_
      refine va_get (D := D) (ci := 2) (v := .ref (q 16)) (C := R_SF) (T := F_SF) (N := 15) hx hb hts i_SF hown hK hP 0 rfl rfl 8 (by decide) (hts _ wd_117) (fun _ h9 => h9) rfl d_SF_takenAt_10 ?_
      refine lv_iload_n hx hb d_SF_takenAt_13 rfl (lv_at hl 1 rfl) ?_
      refine va_iald hx hb hK hP 16 0 rfl rfl (sf_in (n := 3) c_1 c_2 (by omega)) d_SF_takenAt_14 ?_
      refine lv_goto (tgt := 19) hx hb d_SF_takenAt_15 (by decide) ?_
      rw [hQ]
      exact sf_iret (ta i.toNatClampNeg) hx hb hr hlk hS rfl rfl (by simp only [f_SF_takenAt, eq_false c_1, eq_false c_2, ↓reduceIte]) hP d_SF_takenAt_19
def f_SF_tapeAt (tp : Nat → Int32) (tl : Int32) (i : Int32) : Int32 :=
  if i < 0 then
    0
  else
    if tl ≤ i then
      0
    else
      if 60 ≤ i then
        0
      else
        (tp i.toNatClampNeg)
set_option maxHeartbeats 1000000 in
set_option maxRecDepth 100000 in
/-- tapeAt -/
theorem c_SF_tapeAt (l : Launch) (D : va_G) (cI cZ cJ : ClassId) (q : Nat → Nat) (fl : Nat → Int32) (sl : Nat → Int32) (tb : Nat → Int32) (np : Nat → Int32) (nt : Nat → Int32) (cp : Nat → Int32) (cc : Int32) (cb : Int32) (ch : Int32) (cm : Int32) (mp : Nat → Int32) (mc : Int32) (mb : Int32) (mh : Int32) (mm : Int32) (us : Nat → Int32) (ta : Nat → Int32) (tp : Nat → Int32) (tl : Int32) (cu : Int32) (bl : Int32) (pf : Int32) (sh : Int32) (i : Int32) : sf_M (S := Int32) l D classes (sf_tys cI cZ cJ) y_SF_tapeAt (sf_ws y_SF_tapeAt b_SF_tapeAt 2 (some .int)) 0 0 [.ref (q 0), .int i] (sf_w q cI cZ fl sl tb np nt cp cc cb ch cm mp mc mb mh mm us ta tp tl cu bl pf sh) (fun r => some (.int r)) (fun r => r = f_SF_tapeAt tp tl i) (fun r => (sf_w q cI cZ fl sl tb np nt cp cc cb ch cm mp mc mb mh mm us ta tp tl cu bl pf sh)) := by
  refine sf_ofW (S := Int32) (by decide) (Nat.le_of_ble_eq_true rfl) ?_
  intro p e s m below meth c A ls R args Q hR hArgs hQ hC0 hr hK hP hD hl
  obtain ⟨hx, hb, hml, hown, hts, hA, hlk⟩ := hC0
  have hS : va_S A s.heap s.heap [] := va_S.rf
  have hl : lv_has ls 2 [(0, .ref (q 0)), (1, .int i)] := hl
  refine lv_iload_n hx hb d_SF_tapeAt_0 rfl (lv_at hl 1 rfl) ?_
  refine lv_if_lt (tgt := 27) hx hb d_SF_tapeAt_1 (by decide) (fun c_1 => ?_) (fun c_1 => ?_)
  · refine lv_iconst (v := 0) hx hb d_SF_tapeAt_27 (by decide) ?_
    rw [hQ]
    exact sf_iret 0 hx hb hr hlk hS rfl rfl (by simp only [f_SF_tapeAt, eq_true c_1, ↓reduceIte]) hP d_SF_tapeAt_28
  · refine lv_iload_n hx hb d_SF_tapeAt_4 rfl (lv_at hl 1 rfl) ?_
    refine lv_aload_n hx hb d_SF_tapeAt_5 rfl (lv_at hl 0 rfl) ?_
    refine va_get (D := D) (ci := 2) (v := .int tl) (C := R_SF) (T := F_SF) (N := 15) hx hb hts i_SF hown hK hP 0 rfl rfl 10 (by decide) (hts _ wd_119) (fun _ h9 => h9) rfl d_SF_tapeAt_6 ?_
    refine lv_icmp_ge (tgt := 27) hx hb d_SF_tapeAt_9 (by decide) (fun c_2 => ?_) (fun c_2 => ?_)
    · refine lv_iconst (v := 0) hx hb d_SF_tapeAt_27 (by decide) ?_
      rw [hQ]
      exact sf_iret 0 hx hb hr hlk hS rfl rfl (by simp only [f_SF_tapeAt, eq_false c_1, eq_true c_2, ↓reduceIte]) hP d_SF_tapeAt_28
    · refine lv_iload_n hx hb d_SF_tapeAt_12 rfl (lv_at hl 1 rfl) ?_
      refine lv_bipush (v := 60) hx hb d_SF_tapeAt_13 (by decide) ?_
      refine lv_icmp_ge (tgt := 27) hx hb d_SF_tapeAt_15 (by decide) (fun c_3 => ?_) (fun c_3 => ?_)
      · refine lv_iconst (v := 0) hx hb d_SF_tapeAt_27 (by decide) ?_
        rw [hQ]
        exact sf_iret 0 hx hb hr hlk hS rfl rfl (by simp only [f_SF_tapeAt, eq_false c_1, eq_false c_2, eq_true c_3, ↓reduceIte]) hP d_SF_tapeAt_28
      · refine lv_aload_n hx hb d_SF_tapeAt_18 rfl (lv_at hl 0 rfl) ?_
        refine va_get (D := D) (ci := 2) (v := .ref (q 17)) (C := R_SF) (T := F_SF) (N := 15) hx hb hts i_SF hown hK hP 0 rfl rfl 9 (by decide) (hts _ wd_118) (fun _ h9 => h9) rfl d_SF_tapeAt_19 ?_
        refine lv_iload_n hx hb d_SF_tapeAt_22 rfl (lv_at hl 1 rfl) ?_
        refine va_iald hx hb hK hP 17 0 rfl rfl (sf_in (n := 60) c_1 c_3 (by omega)) d_SF_tapeAt_23 ?_
        refine lv_goto (tgt := 28) hx hb d_SF_tapeAt_24 (by decide) ?_
        rw [hQ]
        exact sf_iret (tp i.toNatClampNeg) hx hb hr hlk hS rfl rfl (by simp only [f_SF_tapeAt, eq_false c_1, eq_false c_2, eq_false c_3, ↓reduceIte]) hP d_SF_tapeAt_28
def f_SF_linkBehind (ta : Nat → Int32) (i : Int32) (n : Int32) : Int32 :=
  if n ≤ (i + 1) then
    0
  else
    ((f_SF_takenAt ta (i + 1)) + 1)
set_option maxHeartbeats 1000000 in
set_option maxRecDepth 100000 in
/-- linkBehind -/
theorem c_SF_linkBehind (l : Launch) (D : va_G) (cI cZ cJ : ClassId) (q : Nat → Nat) (fl : Nat → Int32) (sl : Nat → Int32) (tb : Nat → Int32) (np : Nat → Int32) (nt : Nat → Int32) (cp : Nat → Int32) (cc : Int32) (cb : Int32) (ch : Int32) (cm : Int32) (mp : Nat → Int32) (mc : Int32) (mb : Int32) (mh : Int32) (mm : Int32) (us : Nat → Int32) (ta : Nat → Int32) (tp : Nat → Int32) (tl : Int32) (cu : Int32) (bl : Int32) (pf : Int32) (sh : Int32) (i : Int32) (n : Int32) : sf_M (S := Int32) l D classes (sf_tys cI cZ cJ) y_SF_linkBehind (sf_ws y_SF_linkBehind b_SF_linkBehind 3 (some .int)) 1 21 [.ref (q 0), .int i, .int n] (sf_w q cI cZ fl sl tb np nt cp cc cb ch cm mp mc mb mh mm us ta tp tl cu bl pf sh) (fun r => some (.int r)) (fun r => r = f_SF_linkBehind ta i n) (fun r => (sf_w q cI cZ fl sl tb np nt cp cc cb ch cm mp mc mb mh mm us ta tp tl cu bl pf sh)) := by
  refine sf_ofW (S := Int32) (by decide) (Nat.le_of_ble_eq_true rfl) ?_
  intro p e s m below meth c A ls R args Q hR hArgs hQ hC0 hr hK hP hD hl
  obtain ⟨hx, hb, hml, hown, hts, hA, hlk⟩ := hC0
  have hS : va_S A s.heap s.heap [] := va_S.rf
  have hl : lv_has ls 3 [(0, .ref (q 0)), (1, .int i), (2, .int n)] := hl
  refine lv_iload_n hx hb d_SF_linkBehind_0 rfl (lv_at hl 1 rfl) ?_
  refine lv_iconst (v := 1) hx hb d_SF_linkBehind_1 (by decide) ?_
  refine lv_iadd hx hb d_SF_linkBehind_2 ?_
  refine lv_iload_n hx hb d_SF_linkBehind_3 rfl (lv_at hl 2 rfl) ?_
  refine lv_icmp_ge (tgt := 19) hx hb d_SF_linkBehind_4 (by decide) (fun c_1 => ?_) (fun c_1 => ?_)
  · refine lv_iconst (v := 0) hx hb d_SF_linkBehind_19 (by decide) ?_
    rw [hQ]
    exact sf_iret 0 hx hb hr hlk hS rfl rfl (by simp only [f_SF_linkBehind, eq_true c_1, ↓reduceIte]) hP d_SF_linkBehind_20
  · refine lv_aload_n hx hb d_SF_linkBehind_7 rfl (lv_at hl 0 rfl) ?_
    refine lv_iload_n hx hb d_SF_linkBehind_8 rfl (lv_at hl 1 rfl) ?_
    refine lv_iconst (v := 1) hx hb d_SF_linkBehind_9 (by decide) ?_
    refine lv_iadd hx hb d_SF_linkBehind_10 ?_
    refine sf_callVw (S := Int32) (rest := []) ⟨hx, hb, hml, hown, hts⟩ (c_SF_takenAt l D cI cZ cJ q fl sl tb np nt cp cc cb ch cm mp mc mb mh mm us ta tp tl cu bl pf sh (i + 1)) (sf_cwV lk_SF_110 hts (fun _ h => h) (by rw [hR]; exact ⟨Nat.le_of_ble_eq_true rfl, Nat.le_of_ble_eq_true rfl⟩)) hK hP hD hS hA (fun _ => by simp only [sf_w_fst]) (ci := 2) (q0 := 0) rfl rfl rfl rfl rfl hl.1 (Nat.le_of_ble_eq_true rfl) d_SF_linkBehind_11 ⟨Nat.zero_le _, Nat.zero_le _⟩ (fun u_2 H locs hu_2 hP hD hS => ?_)
    have hP : va_P D classes (sf_w q cI cZ fl sl tb np nt cp cc cb ch cm mp mc mb mh mm us ta tp tl cu bl pf sh) H := hP
    have hD : va_D A (sf_w q cI cZ fl sl tb np nt cp cc cb ch cm mp mc mb mh mm us ta tp tl cu bl pf sh) := hD
    refine lv_iconst (v := 1) hx hb d_SF_linkBehind_14 (by decide) ?_
    refine lv_iadd hx hb d_SF_linkBehind_15 ?_
    refine lv_goto (tgt := 20) hx hb d_SF_linkBehind_16 (by decide) ?_
    rw [hQ]
    exact sf_iret (u_2 + 1) hx hb hr hlk hS rfl rfl (by simp only [f_SF_linkBehind, ← hu_2, eq_false c_1, ↓reduceIte]) hP d_SF_linkBehind_20
def f_SF_beginWriting (cu : Int32) (n : Int32) : (Int32 × Int32 × Int32) :=
  if cu = (-1) then
    ((-1), ((n * 32) + 40), 0)
  else
    if ((n * 32) + 40) ≤ cu then
      ((-1), ((n * 32) + 40), 0)
    else
      ((-1), cu, 1)
set_option maxHeartbeats 1000000 in
set_option maxRecDepth 100000 in
/-- beginWriting -/
theorem c_SF_beginWriting (l : Launch) (D : va_G) (cI cZ cJ : ClassId) (q : Nat → Nat) (fl : Nat → Int32) (sl : Nat → Int32) (tb : Nat → Int32) (np : Nat → Int32) (nt : Nat → Int32) (cp : Nat → Int32) (cc : Int32) (cb : Int32) (ch : Int32) (cm : Int32) (mp : Nat → Int32) (mc : Int32) (mb : Int32) (mh : Int32) (mm : Int32) (us : Nat → Int32) (ta : Nat → Int32) (tp : Nat → Int32) (tl : Int32) (cu : Int32) (bl : Int32) (pf : Int32) (sh : Int32) (n : Int32) : sf_M (S := (Int32 × Int32 × Int32)) l D classes (sf_tys cI cZ cJ) y_SF_beginWriting (sf_ws y_SF_beginWriting b_SF_beginWriting 3 none) 0 0 [.ref (q 0), .int n] (sf_w q cI cZ fl sl tb np nt cp cc cb ch cm mp mc mb mh mm us ta tp tl cu bl pf sh) (fun _ => none) (fun r => r = f_SF_beginWriting cu n) (fun r => (sf_w q cI cZ fl sl tb np nt cp cc cb ch cm mp mc mb mh mm us ta tp tl r.1 r.2.1 r.2.2 sh)) := by
  refine sf_ofW (S := (Int32 × Int32 × Int32)) (by decide) (Nat.le_of_ble_eq_true rfl) ?_
  intro p e s m below meth c A ls R args Q hR hArgs hQ hC0 hr hK hP hD hl
  obtain ⟨hx, hb, hml, hown, hts, hA, hlk⟩ := hC0
  have hS : va_S A s.heap s.heap [] := va_S.rf
  have hl : lv_has ls 3 [(0, .ref (q 0)), (1, .int n)] := hl
  refine lv_iload_n hx hb d_SF_beginWriting_0 rfl (lv_at hl 1 rfl) ?_
  refine lv_bipush (v := 32) hx hb d_SF_beginWriting_1 (by decide) ?_
  refine lv_imul hx hb d_SF_beginWriting_3 ?_
  refine lv_bipush (v := 40) hx hb d_SF_beginWriting_4 (by decide) ?_
  refine lv_iadd hx hb d_SF_beginWriting_6 ?_
  refine lv_istore_n (lv' := [(2, .int ((n * 32) + 40)), (0, .ref (q 0)), (1, .int n)]) hx hb d_SF_beginWriting_7 rfl hl (by decide) rfl (fun ls hl => ?_)
  refine lv_aload_n hx hb d_SF_beginWriting_8 rfl (lv_at hl 1 rfl) ?_
  refine lv_aload_n hx hb d_SF_beginWriting_9 rfl (lv_at hl 1 rfl) ?_
  refine va_get (D := D) (ci := 2) (v := .int cu) (C := R_SF) (T := F_SF) (N := 15) hx hb hts i_SF hown hK hP 0 rfl rfl 11 (by decide) (hts _ wd_120) (fun _ h9 => h9) rfl d_SF_beginWriting_10 ?_
  refine lv_iconst (v := (-1)) hx hb d_SF_beginWriting_13 (by decide) ?_
  refine lv_icmp_eq (tgt := 29) hx hb d_SF_beginWriting_14 (by decide) (fun c_1 => ?_) (fun c_1 => ?_)
  · refine lv_iconst (v := 0) hx hb d_SF_beginWriting_29 (by decide) ?_
    refine va_put (D := D) (ci := 2) (v := .int 0) (ty := .boolean) (C := R_SF) (T := F_SF) (N := 15) hx hb hts i_SF t_SF t_SF_ok n_SF hown hK hP hD hS 0 rfl rfl 13 (by decide) (hts _ wd_122) (fun _ h9 => h9) rfl (by decide +kernel) (sf_bp0).1 (sf_bp0).2 (Nat.le_of_ble_eq_true rfl) d_SF_beginWriting_30 (fun H locs hP hD hS => ?_)
    have hP : va_P D classes (sf_w q cI cZ fl sl tb np nt cp cc cb ch cm mp mc mb mh mm us ta tp tl cu bl 0 sh) H := hP
    have hD : va_D A (sf_w q cI cZ fl sl tb np nt cp cc cb ch cm mp mc mb mh mm us ta tp tl cu bl 0 sh) := hD
    refine lv_aload_n hx hb d_SF_beginWriting_33 rfl (lv_at hl 1 rfl) ?_
    refine lv_aload_n hx hb d_SF_beginWriting_34 rfl (lv_at hl 1 rfl) ?_
    refine va_get (D := D) (ci := 2) (v := .int 0) (C := R_SF) (T := F_SF) (N := 15) hx hb hts i_SF hown hK hP 0 rfl rfl 13 (by decide) (hts _ wd_122) (fun _ h9 => h9) rfl d_SF_beginWriting_35 ?_
    refine lv_if_eq (tgt := 48) hx hb d_SF_beginWriting_38 (by decide) (fun c_2 => ?_) (fun c_2 => absurd (by decide) c_2)
    refine lv_iload_n hx hb d_SF_beginWriting_48 rfl (lv_at hl 0 rfl) ?_
    refine va_put (D := D) (ci := 2) (v := .int ((n * 32) + 40)) (ty := .int) (C := R_SF) (T := F_SF) (N := 15) hx hb hts i_SF t_SF t_SF_ok n_SF hown hK hP hD hS 0 rfl rfl 12 (by decide) (hts _ wd_121) (fun _ h9 => h9) rfl (by decide +kernel) rfl rfl (Nat.le_of_ble_eq_true rfl) d_SF_beginWriting_49 (fun H locs hP hD hS => ?_)
    have hP : va_P D classes (sf_w q cI cZ fl sl tb np nt cp cc cb ch cm mp mc mb mh mm us ta tp tl cu ((n * 32) + 40) 0 sh) H := hP
    have hD : va_D A (sf_w q cI cZ fl sl tb np nt cp cc cb ch cm mp mc mb mh mm us ta tp tl cu ((n * 32) + 40) 0 sh) := hD
    refine lv_aload_n hx hb d_SF_beginWriting_52 rfl (lv_at hl 1 rfl) ?_
    refine lv_iconst (v := (-1)) hx hb d_SF_beginWriting_53 (by decide) ?_
    refine va_put (D := D) (ci := 2) (v := .int (-1)) (ty := .int) (C := R_SF) (T := F_SF) (N := 15) hx hb hts i_SF t_SF t_SF_ok n_SF hown hK hP hD hS 0 rfl rfl 11 (by decide) (hts _ wd_120) (fun _ h9 => h9) rfl (by decide +kernel) rfl rfl (Nat.le_of_ble_eq_true rfl) d_SF_beginWriting_54 (fun H locs hP hD hS => ?_)
    have hP : va_P D classes (sf_w q cI cZ fl sl tb np nt cp cc cb ch cm mp mc mb mh mm us ta tp tl (-1) ((n * 32) + 40) 0 sh) H := hP
    have hD : va_D A (sf_w q cI cZ fl sl tb np nt cp cc cb ch cm mp mc mb mh mm us ta tp tl (-1) ((n * 32) + 40) 0 sh) := hD
    rw [hQ]
    exact sf_vret ((-1), ((n * 32) + 40), 0) hx hb hr hlk hS rfl (by simp only [f_SF_beginWriting, eq_true c_1, ↓reduceIte]) hP d_SF_beginWriting_57
  · refine lv_iload_n hx hb d_SF_beginWriting_17 rfl (lv_at hl 0 rfl) ?_
    refine lv_aload_n hx hb d_SF_beginWriting_18 rfl (lv_at hl 1 rfl) ?_
    refine va_get (D := D) (ci := 2) (v := .int cu) (C := R_SF) (T := F_SF) (N := 15) hx hb hts i_SF hown hK hP 0 rfl rfl 11 (by decide) (hts _ wd_120) (fun _ h9 => h9) rfl d_SF_beginWriting_19 ?_
    refine lv_icmp_le (tgt := 29) hx hb d_SF_beginWriting_22 (by decide) (fun c_3 => ?_) (fun c_3 => ?_)
    · refine lv_iconst (v := 0) hx hb d_SF_beginWriting_29 (by decide) ?_
      refine va_put (D := D) (ci := 2) (v := .int 0) (ty := .boolean) (C := R_SF) (T := F_SF) (N := 15) hx hb hts i_SF t_SF t_SF_ok n_SF hown hK hP hD hS 0 rfl rfl 13 (by decide) (hts _ wd_122) (fun _ h9 => h9) rfl (by decide +kernel) (sf_bp0).1 (sf_bp0).2 (Nat.le_of_ble_eq_true rfl) d_SF_beginWriting_30 (fun H locs hP hD hS => ?_)
      have hP : va_P D classes (sf_w q cI cZ fl sl tb np nt cp cc cb ch cm mp mc mb mh mm us ta tp tl cu bl 0 sh) H := hP
      have hD : va_D A (sf_w q cI cZ fl sl tb np nt cp cc cb ch cm mp mc mb mh mm us ta tp tl cu bl 0 sh) := hD
      refine lv_aload_n hx hb d_SF_beginWriting_33 rfl (lv_at hl 1 rfl) ?_
      refine lv_aload_n hx hb d_SF_beginWriting_34 rfl (lv_at hl 1 rfl) ?_
      refine va_get (D := D) (ci := 2) (v := .int 0) (C := R_SF) (T := F_SF) (N := 15) hx hb hts i_SF hown hK hP 0 rfl rfl 13 (by decide) (hts _ wd_122) (fun _ h9 => h9) rfl d_SF_beginWriting_35 ?_
      refine lv_if_eq (tgt := 48) hx hb d_SF_beginWriting_38 (by decide) (fun c_4 => ?_) (fun c_4 => absurd (by decide) c_4)
      refine lv_iload_n hx hb d_SF_beginWriting_48 rfl (lv_at hl 0 rfl) ?_
      refine va_put (D := D) (ci := 2) (v := .int ((n * 32) + 40)) (ty := .int) (C := R_SF) (T := F_SF) (N := 15) hx hb hts i_SF t_SF t_SF_ok n_SF hown hK hP hD hS 0 rfl rfl 12 (by decide) (hts _ wd_121) (fun _ h9 => h9) rfl (by decide +kernel) rfl rfl (Nat.le_of_ble_eq_true rfl) d_SF_beginWriting_49 (fun H locs hP hD hS => ?_)
      have hP : va_P D classes (sf_w q cI cZ fl sl tb np nt cp cc cb ch cm mp mc mb mh mm us ta tp tl cu ((n * 32) + 40) 0 sh) H := hP
      have hD : va_D A (sf_w q cI cZ fl sl tb np nt cp cc cb ch cm mp mc mb mh mm us ta tp tl cu ((n * 32) + 40) 0 sh) := hD
      refine lv_aload_n hx hb d_SF_beginWriting_52 rfl (lv_at hl 1 rfl) ?_
      refine lv_iconst (v := (-1)) hx hb d_SF_beginWriting_53 (by decide) ?_
      refine va_put (D := D) (ci := 2) (v := .int (-1)) (ty := .int) (C := R_SF) (T := F_SF) (N := 15) hx hb hts i_SF t_SF t_SF_ok n_SF hown hK hP hD hS 0 rfl rfl 11 (by decide) (hts _ wd_120) (fun _ h9 => h9) rfl (by decide +kernel) rfl rfl (Nat.le_of_ble_eq_true rfl) d_SF_beginWriting_54 (fun H locs hP hD hS => ?_)
      have hP : va_P D classes (sf_w q cI cZ fl sl tb np nt cp cc cb ch cm mp mc mb mh mm us ta tp tl (-1) ((n * 32) + 40) 0 sh) H := hP
      have hD : va_D A (sf_w q cI cZ fl sl tb np nt cp cc cb ch cm mp mc mb mh mm us ta tp tl (-1) ((n * 32) + 40) 0 sh) := hD
      rw [hQ]
      exact sf_vret ((-1), ((n * 32) + 40), 0) hx hb hr hlk hS rfl (by simp only [f_SF_beginWriting, eq_false c_1, eq_true c_3, ↓reduceIte]) hP d_SF_beginWriting_57
    · refine lv_iconst (v := 1) hx hb d_SF_beginWriting_25 (by decide) ?_
      refine lv_goto (tgt := 30) hx hb d_SF_beginWriting_26 (by decide) ?_
      refine va_put (D := D) (ci := 2) (v := .int 1) (ty := .boolean) (C := R_SF) (T := F_SF) (N := 15) hx hb hts i_SF t_SF t_SF_ok n_SF hown hK hP hD hS 0 rfl rfl 13 (by decide) (hts _ wd_122) (fun _ h9 => h9) rfl (by decide +kernel) (sf_bp1).1 (sf_bp1).2 (Nat.le_of_ble_eq_true rfl) d_SF_beginWriting_30 (fun H locs hP hD hS => ?_)
      have hP : va_P D classes (sf_w q cI cZ fl sl tb np nt cp cc cb ch cm mp mc mb mh mm us ta tp tl cu bl 1 sh) H := hP
      have hD : va_D A (sf_w q cI cZ fl sl tb np nt cp cc cb ch cm mp mc mb mh mm us ta tp tl cu bl 1 sh) := hD
      refine lv_aload_n hx hb d_SF_beginWriting_33 rfl (lv_at hl 1 rfl) ?_
      refine lv_aload_n hx hb d_SF_beginWriting_34 rfl (lv_at hl 1 rfl) ?_
      refine va_get (D := D) (ci := 2) (v := .int 1) (C := R_SF) (T := F_SF) (N := 15) hx hb hts i_SF hown hK hP 0 rfl rfl 13 (by decide) (hts _ wd_122) (fun _ h9 => h9) rfl d_SF_beginWriting_35 ?_
      refine lv_if_eq (tgt := 48) hx hb d_SF_beginWriting_38 (by decide) (fun c_5 => absurd c_5 (by decide)) (fun c_5 => ?_)
      refine lv_aload_n hx hb d_SF_beginWriting_41 rfl (lv_at hl 1 rfl) ?_
      refine va_get (D := D) (ci := 2) (v := .int cu) (C := R_SF) (T := F_SF) (N := 15) hx hb hts i_SF hown hK hP 0 rfl rfl 11 (by decide) (hts _ wd_120) (fun _ h9 => h9) rfl d_SF_beginWriting_42 ?_
      refine lv_goto (tgt := 49) hx hb d_SF_beginWriting_45 (by decide) ?_
      refine va_put (D := D) (ci := 2) (v := .int cu) (ty := .int) (C := R_SF) (T := F_SF) (N := 15) hx hb hts i_SF t_SF t_SF_ok n_SF hown hK hP hD hS 0 rfl rfl 12 (by decide) (hts _ wd_121) (fun _ h9 => h9) rfl (by decide +kernel) rfl rfl (Nat.le_of_ble_eq_true rfl) d_SF_beginWriting_49 (fun H locs hP hD hS => ?_)
      have hP : va_P D classes (sf_w q cI cZ fl sl tb np nt cp cc cb ch cm mp mc mb mh mm us ta tp tl cu cu 1 sh) H := hP
      have hD : va_D A (sf_w q cI cZ fl sl tb np nt cp cc cb ch cm mp mc mb mh mm us ta tp tl cu cu 1 sh) := hD
      refine lv_aload_n hx hb d_SF_beginWriting_52 rfl (lv_at hl 1 rfl) ?_
      refine lv_iconst (v := (-1)) hx hb d_SF_beginWriting_53 (by decide) ?_
      refine va_put (D := D) (ci := 2) (v := .int (-1)) (ty := .int) (C := R_SF) (T := F_SF) (N := 15) hx hb hts i_SF t_SF t_SF_ok n_SF hown hK hP hD hS 0 rfl rfl 11 (by decide) (hts _ wd_120) (fun _ h9 => h9) rfl (by decide +kernel) rfl rfl (Nat.le_of_ble_eq_true rfl) d_SF_beginWriting_54 (fun H locs hP hD hS => ?_)
      have hP : va_P D classes (sf_w q cI cZ fl sl tb np nt cp cc cb ch cm mp mc mb mh mm us ta tp tl (-1) cu 1 sh) H := hP
      have hD : va_D A (sf_w q cI cZ fl sl tb np nt cp cc cb ch cm mp mc mb mh mm us ta tp tl (-1) cu 1 sh) := hD
      rw [hQ]
      exact sf_vret ((-1), cu, 1) hx hb hr hlk hS rfl (by simp only [f_SF_beginWriting, eq_false c_1, eq_false c_3, ↓reduceIte]) hP d_SF_beginWriting_57
def f_SF_endWriting (pf : Int32) (sh : Int32) : (Int32 × Int32) :=
  if pf = 0 then
    (1, sh)
  else
    (0, 1)
set_option maxHeartbeats 1000000 in
set_option maxRecDepth 100000 in
/-- endWriting -/
theorem c_SF_endWriting (l : Launch) (D : va_G) (cI cZ cJ : ClassId) (q : Nat → Nat) (fl : Nat → Int32) (sl : Nat → Int32) (tb : Nat → Int32) (np : Nat → Int32) (nt : Nat → Int32) (cp : Nat → Int32) (cc : Int32) (cb : Int32) (ch : Int32) (cm : Int32) (mp : Nat → Int32) (mc : Int32) (mb : Int32) (mh : Int32) (mm : Int32) (us : Nat → Int32) (ta : Nat → Int32) (tp : Nat → Int32) (tl : Int32) (cu : Int32) (bl : Int32) (pf : Int32) (sh : Int32) : sf_M (S := (Int32 × Int32)) l D classes (sf_tys cI cZ cJ) y_SF_endWriting (sf_ws y_SF_endWriting b_SF_endWriting 1 (some .boolean)) 0 0 [.ref (q 0)] (sf_w q cI cZ fl sl tb np nt cp cc cb ch cm mp mc mb mh mm us ta tp tl cu bl pf sh) (fun r => some (.int r.1)) (fun r => r = f_SF_endWriting pf sh) (fun r => (sf_w q cI cZ fl sl tb np nt cp cc cb ch cm mp mc mb mh mm us ta tp tl cu bl pf r.2)) := by
  refine sf_ofW (S := (Int32 × Int32)) (by decide) (Nat.le_of_ble_eq_true rfl) ?_
  intro p e s m below meth c A ls R args Q hR hArgs hQ hC0 hr hK hP hD hl
  obtain ⟨hx, hb, hml, hown, hts, hA, hlk⟩ := hC0
  have hS : va_S A s.heap s.heap [] := va_S.rf
  have hl : lv_has ls 1 [(0, .ref (q 0))] := hl
  refine lv_aload_n hx hb d_SF_endWriting_0 rfl (lv_at hl 0 rfl) ?_
  refine va_get (D := D) (ci := 2) (v := .int pf) (C := R_SF) (T := F_SF) (N := 15) hx hb hts i_SF hown hK hP 0 rfl rfl 13 (by decide) (hts _ wd_122) (fun _ h9 => h9) rfl d_SF_endWriting_1 ?_
  refine lv_if_eq (tgt := 12) hx hb d_SF_endWriting_4 (by decide) (fun c_1 => ?_) (fun c_1 => ?_)
  · refine lv_aload_n hx hb d_SF_endWriting_12 rfl (lv_at hl 0 rfl) ?_
    refine va_get (D := D) (ci := 2) (v := .int pf) (C := R_SF) (T := F_SF) (N := 15) hx hb hts i_SF hown hK hP 0 rfl rfl 13 (by decide) (hts _ wd_122) (fun _ h9 => h9) rfl d_SF_endWriting_13 ?_
    refine lv_if_ne (tgt := 23) hx hb d_SF_endWriting_16 (by decide) (fun c_2 => absurd c_1 c_2) (fun c_2 => ?_)
    refine lv_iconst (v := 1) hx hb d_SF_endWriting_19 (by decide) ?_
    refine lv_goto (tgt := 24) hx hb d_SF_endWriting_20 (by decide) ?_
    rw [hQ]
    exact sf_iret (1, sh) hx hb hr hlk hS sf_b1 rfl (by simp only [f_SF_endWriting, eq_true c_1, ↓reduceIte]) hP d_SF_endWriting_24
  · refine lv_aload_n hx hb d_SF_endWriting_7 rfl (lv_at hl 0 rfl) ?_
    refine lv_iconst (v := 1) hx hb d_SF_endWriting_8 (by decide) ?_
    refine va_put (D := D) (ci := 2) (v := .int 1) (ty := .boolean) (C := R_SF) (T := F_SF) (N := 15) hx hb hts i_SF t_SF t_SF_ok n_SF hown hK hP hD hS 0 rfl rfl 14 (by decide) (hts _ wd_123) (fun _ h9 => h9) rfl (by decide +kernel) (sf_bp1).1 (sf_bp1).2 (Nat.le_of_ble_eq_true rfl) d_SF_endWriting_9 (fun H locs hP hD hS => ?_)
    have hP : va_P D classes (sf_w q cI cZ fl sl tb np nt cp cc cb ch cm mp mc mb mh mm us ta tp tl cu bl pf 1) H := hP
    have hD : va_D A (sf_w q cI cZ fl sl tb np nt cp cc cb ch cm mp mc mb mh mm us ta tp tl cu bl pf 1) := hD
    refine lv_aload_n hx hb d_SF_endWriting_12 rfl (lv_at hl 0 rfl) ?_
    refine va_get (D := D) (ci := 2) (v := .int pf) (C := R_SF) (T := F_SF) (N := 15) hx hb hts i_SF hown hK hP 0 rfl rfl 13 (by decide) (hts _ wd_122) (fun _ h9 => h9) rfl d_SF_endWriting_13 ?_
    refine lv_if_ne (tgt := 23) hx hb d_SF_endWriting_16 (by decide) (fun c_3 => ?_) (fun c_3 => absurd c_3 c_1)
    refine lv_iconst (v := 0) hx hb d_SF_endWriting_23 (by decide) ?_
    rw [hQ]
    exact sf_iret (0, 1) hx hb hr hlk hS sf_b0 rfl (by simp only [f_SF_endWriting, eq_false c_1, ↓reduceIte]) hP d_SF_endWriting_24
end
section
/-! sf2: contracts, with the pure functions that they speak of (printed by wip/gen) -/
set_option maxRecDepth 20000 in
theorem wd_79 : Cond.fieldLink R_SF 250 "ShadowFiles$Blocks" "size" "I" ∈ sf_tb := sf_tb_in 79 rfl rfl
set_option maxRecDepth 20000 in
theorem wd_112 : Cond.fieldLink R_SF 24 "ShadowFiles" "nextPlace" "LShadowFiles$Blocks;" ∈ sf_tb := sf_tb_in 112 rfl rfl
set_option maxRecDepth 20000 in
theorem wd_397 : Cond.methodLink R_SF 256 Lib.Math.min.name ∈ sf_tb := sf_tb_in 397 rfl rfl
set_option maxRecDepth 20000 in
theorem wd_398 : Cond.static Lib.Math.min.name ∈ sf_tb := sf_tb_in 398 rfl rfl
set_option maxRecDepth 20000 in
theorem wd_62 : Cond.initialized "java/lang/Math" ∈ sf_tb := sf_tb_in 62 rfl rfl
set_option maxRecDepth 20000 in
theorem wd_399 : Cond.code Lib.Math.min.name Lib.Math.min.code 2 (some .int) ∈ sf_tb := sf_tb_in 399 rfl rfl
set_option maxRecDepth 20000 in
theorem wd_94 : Cond.fieldLink R_SF 136 "ShadowFiles$Chain" "count" "I" ∈ sf_tb := sf_tb_in 94 rfl rfl
set_option maxRecDepth 20000 in
theorem wd_113 : Cond.fieldLink R_SF 27 "ShadowFiles" "nextTable" "LShadowFiles$Blocks;" ∈ sf_tb := sf_tb_in 113 rfl rfl
set_option maxRecDepth 20000 in
theorem wd_408 : Cond.methodLink R_SF 209 y_Bl_set ∈ sf_tb := sf_tb_in 408 rfl rfl
set_option maxRecDepth 20000 in
theorem wd_411 : Cond.code y_Bl_set b_Bl_set 5 none ∈ sf_tb := sf_tb_in 411 rfl rfl
set_option maxRecDepth 20000 in
theorem wd_409 : Cond.instanceMethod y_Bl_set ∈ sf_tb := sf_tb_in 409 rfl rfl
set_option maxRecDepth 20000 in
theorem wd_410 : Cond.selects R_Bl y_Bl_set y_Bl_set ∈ sf_tb := sf_tb_in 410 rfl rfl
set_option maxRecDepth 20000 in
theorem wd_381 : Cond.methodLink R_SF 234 y_Ch_placeAt ∈ sf_tb := sf_tb_in 381 rfl rfl
set_option maxRecDepth 20000 in
theorem wd_423 : Cond.methodLink R_SF 253 y_Bl_sumOf ∈ sf_tb := sf_tb_in 423 rfl rfl
set_option maxRecDepth 20000 in
theorem wd_400 : Cond.methodLink R_SF 261 y_SF_linkBehind ∈ sf_tb := sf_tb_in 400 rfl rfl
set_option maxRecDepth 20000 in
theorem wd_403 : Cond.code y_SF_linkBehind b_SF_linkBehind 3 (some .int) ∈ sf_tb := sf_tb_in 403 rfl rfl
set_option maxRecDepth 20000 in
theorem wd_402 : Cond.instanceMethod y_SF_linkBehind ∈ sf_tb := sf_tb_in 402 rfl rfl
set_option maxRecDepth 20000 in
theorem wd_15 : Cond.selects R_SF y_SF_linkBehind y_SF_linkBehind ∈ sf_tb := sf_tb_in 15 rfl rfl
set_option maxRecDepth 20000 in
theorem wd_412 : Cond.methodLink R_SF 264 y_SF_tapeAt ∈ sf_tb := sf_tb_in 412 rfl rfl
set_option maxRecDepth 20000 in
theorem wd_415 : Cond.code y_SF_tapeAt b_SF_tapeAt 2 (some .int) ∈ sf_tb := sf_tb_in 415 rfl rfl
set_option maxRecDepth 20000 in
theorem wd_414 : Cond.instanceMethod y_SF_tapeAt ∈ sf_tb := sf_tb_in 414 rfl rfl
set_option maxRecDepth 20000 in
theorem wd_17 : Cond.selects R_SF y_SF_tapeAt y_SF_tapeAt ∈ sf_tb := sf_tb_in 17 rfl rfl
set_option maxRecDepth 20000 in
theorem wd_420 : Cond.methodLink R_SF 267 y_SF_setSum ∈ sf_tb := sf_tb_in 420 rfl rfl
set_option maxRecDepth 20000 in
theorem wd_422 : Cond.code y_SF_setSum b_SF_setSum 4 none ∈ sf_tb := sf_tb_in 422 rfl rfl
set_option maxRecDepth 20000 in
theorem wd_421 : Cond.static y_SF_setSum ∈ sf_tb := sf_tb_in 421 rfl rfl
set_option maxRecDepth 20000 in
theorem wd_424 : Cond.methodLink R_SF 271 y_SF_putBlock ∈ sf_tb := sf_tb_in 424 rfl rfl
set_option maxRecDepth 20000 in
theorem wd_427 : Cond.code y_SF_putBlock b_SF_putBlock 5 none ∈ sf_tb := sf_tb_in 427 rfl rfl
set_option maxRecDepth 20000 in
theorem wd_426 : Cond.instanceMethod y_SF_putBlock ∈ sf_tb := sf_tb_in 426 rfl rfl
set_option maxRecDepth 20000 in
theorem wd_19 : Cond.selects R_SF y_SF_putBlock y_SF_putBlock ∈ sf_tb := sf_tb_in 19 rfl rfl
theorem lk_SF_209 : sf_LV R_SF 209 y_Bl_set b_Bl_set 5 none 3 := ⟨wd_411, wd_408, wd_409, wd_410, wd_52, by decide +kernel⟩
theorem lk_SF_234 : sf_LV R_SF 234 y_Ch_placeAt b_Ch_placeAt 2 (some .int) 1 := ⟨wd_384, wd_381, wd_382, wd_383, wd_53, by decide +kernel⟩
theorem lk_SF_253 : sf_LV R_SF 253 y_Bl_sumOf b_Bl_sumOf 7 (some .int) 2 := ⟨wd_184, wd_423, wd_182, wd_183, wd_52, by decide +kernel⟩
theorem lk_SF_261 : sf_LV R_SF 261 y_SF_linkBehind b_SF_linkBehind 3 (some .int) 2 := ⟨wd_403, wd_400, wd_402, wd_15, wd_51, by decide +kernel⟩
theorem lk_SF_264 : sf_LV R_SF 264 y_SF_tapeAt b_SF_tapeAt 2 (some .int) 1 := ⟨wd_415, wd_412, wd_414, wd_17, wd_51, by decide +kernel⟩
theorem lk_SF_267 : sf_LS R_SF 267 y_SF_setSum b_SF_setSum 4 none 1 := ⟨wd_422, wd_420, wd_421, wd_51, by decide +kernel⟩
theorem lk_SF_271 : sf_LV R_SF 271 y_SF_putBlock b_SF_putBlock 5 none 3 := ⟨wd_427, wd_424, wd_426, wd_19, wd_51, by decide +kernel⟩
theorem d_SF_setSum_0 : decode b_SF_setSum 0 = .ok (.aload_n 0, 1) := by decide +kernel
theorem d_SF_setSum_1 : decode b_SF_setSum 1 = .ok (.getfield 250, 3) := by decide +kernel
theorem d_SF_setSum_4 : decode b_SF_setSum 4 = .ok (.iconst 4, 1) := by decide +kernel
theorem d_SF_setSum_5 : decode b_SF_setSum 5 = .ok (.isub, 1) := by decide +kernel
theorem d_SF_setSum_6 : decode b_SF_setSum 6 = .ok (.istore_n 1, 1) := by decide +kernel
theorem d_SF_setSum_7 : decode b_SF_setSum 7 = .ok (.aload_n 0, 1) := by decide +kernel
theorem d_SF_setSum_8 : decode b_SF_setSum 8 = .ok (.iconst 0, 1) := by decide +kernel
theorem d_SF_setSum_9 : decode b_SF_setSum 9 = .ok (.iload_n 1, 1) := by decide +kernel
theorem d_SF_setSum_10 : decode b_SF_setSum 10 = .ok (.invokevirtual 253, 3) := by decide +kernel
theorem d_SF_setSum_13 : decode b_SF_setSum 13 = .ok (.istore_n 2, 1) := by decide +kernel
theorem d_SF_setSum_14 : decode b_SF_setSum 14 = .ok (.iconst 0, 1) := by decide +kernel
theorem d_SF_setSum_15 : decode b_SF_setSum 15 = .ok (.istore_n 3, 1) := by decide +kernel
theorem d_SF_setSum_16 : decode b_SF_setSum 16 = .ok (.iload_n 3, 1) := by decide +kernel
theorem d_SF_setSum_17 : decode b_SF_setSum 17 = .ok (.iconst 4, 1) := by decide +kernel
theorem d_SF_setSum_18 : decode b_SF_setSum 18 = .ok (.if_icmp .ge 25, 3) := by decide +kernel
theorem d_SF_setSum_21 : decode b_SF_setSum 21 = .ok (.aload_n 0, 1) := by decide +kernel
theorem d_SF_setSum_22 : decode b_SF_setSum 22 = .ok (.iconst 0, 1) := by decide +kernel
theorem d_SF_setSum_23 : decode b_SF_setSum 23 = .ok (.iload_n 1, 1) := by decide +kernel
theorem d_SF_setSum_24 : decode b_SF_setSum 24 = .ok (.iload_n 3, 1) := by decide +kernel
theorem d_SF_setSum_25 : decode b_SF_setSum 25 = .ok (.iadd, 1) := by decide +kernel
theorem d_SF_setSum_26 : decode b_SF_setSum 26 = .ok (.iload_n 2, 1) := by decide +kernel
theorem d_SF_setSum_27 : decode b_SF_setSum 27 = .ok (.bipush 8, 2) := by decide +kernel
theorem d_SF_setSum_29 : decode b_SF_setSum 29 = .ok (.iconst 3, 1) := by decide +kernel
theorem d_SF_setSum_30 : decode b_SF_setSum 30 = .ok (.iload_n 3, 1) := by decide +kernel
theorem d_SF_setSum_31 : decode b_SF_setSum 31 = .ok (.isub, 1) := by decide +kernel
theorem d_SF_setSum_32 : decode b_SF_setSum 32 = .ok (.imul, 1) := by decide +kernel
theorem d_SF_setSum_33 : decode b_SF_setSum 33 = .ok (.iushr, 1) := by decide +kernel
theorem d_SF_setSum_34 : decode b_SF_setSum 34 = .ok (.invokevirtual 209, 3) := by decide +kernel
theorem d_SF_setSum_37 : decode b_SF_setSum 37 = .ok (.iinc 3 1, 3) := by decide +kernel
theorem d_SF_setSum_40 : decode b_SF_setSum 40 = .ok (.goto (-24), 3) := by decide +kernel
theorem d_SF_setSum_43 : decode b_SF_setSum 43 = .ok (.return_, 1) := by decide +kernel
theorem d_SF_putBlock_0 : decode b_SF_putBlock 0 = .ok (.iconst 0, 1) := by decide +kernel
theorem d_SF_putBlock_1 : decode b_SF_putBlock 1 = .ok (.istore 4, 2) := by decide +kernel
theorem d_SF_putBlock_3 : decode b_SF_putBlock 3 = .ok (.iload 4, 2) := by decide +kernel
theorem d_SF_putBlock_5 : decode b_SF_putBlock 5 = .ok (.aload_n 1, 1) := by decide +kernel
theorem d_SF_putBlock_6 : decode b_SF_putBlock 6 = .ok (.getfield 250, 3) := by decide +kernel
theorem d_SF_putBlock_9 : decode b_SF_putBlock 9 = .ok (.if_icmp .ge 40, 3) := by decide +kernel
theorem d_SF_putBlock_12 : decode b_SF_putBlock 12 = .ok (.aload_n 0, 1) := by decide +kernel
theorem d_SF_putBlock_13 : decode b_SF_putBlock 13 = .ok (.getfield 247, 3) := by decide +kernel
theorem d_SF_putBlock_16 : decode b_SF_putBlock 16 = .ok (.ifCond .le 33, 3) := by decide +kernel
theorem d_SF_putBlock_19 : decode b_SF_putBlock 19 = .ok (.aload_n 2, 1) := by decide +kernel
theorem d_SF_putBlock_20 : decode b_SF_putBlock 20 = .ok (.iload_n 3, 1) := by decide +kernel
theorem d_SF_putBlock_21 : decode b_SF_putBlock 21 = .ok (.iload 4, 2) := by decide +kernel
theorem d_SF_putBlock_23 : decode b_SF_putBlock 23 = .ok (.aload_n 1, 1) := by decide +kernel
theorem d_SF_putBlock_24 : decode b_SF_putBlock 24 = .ok (.iconst 0, 1) := by decide +kernel
theorem d_SF_putBlock_25 : decode b_SF_putBlock 25 = .ok (.iload 4, 2) := by decide +kernel
theorem d_SF_putBlock_27 : decode b_SF_putBlock 27 = .ok (.invokevirtual 203, 3) := by decide +kernel
theorem d_SF_putBlock_30 : decode b_SF_putBlock 30 = .ok (.invokevirtual 209, 3) := by decide +kernel
theorem d_SF_putBlock_33 : decode b_SF_putBlock 33 = .ok (.aload_n 0, 1) := by decide +kernel
theorem d_SF_putBlock_34 : decode b_SF_putBlock 34 = .ok (.dup, 1) := by decide +kernel
theorem d_SF_putBlock_35 : decode b_SF_putBlock 35 = .ok (.getfield 247, 3) := by decide +kernel
theorem d_SF_putBlock_38 : decode b_SF_putBlock 38 = .ok (.iconst 1, 1) := by decide +kernel
theorem d_SF_putBlock_39 : decode b_SF_putBlock 39 = .ok (.isub, 1) := by decide +kernel
theorem d_SF_putBlock_40 : decode b_SF_putBlock 40 = .ok (.putfield 247, 3) := by decide +kernel
theorem d_SF_putBlock_43 : decode b_SF_putBlock 43 = .ok (.iinc 4 1, 3) := by decide +kernel
theorem d_SF_putBlock_46 : decode b_SF_putBlock 46 = .ok (.goto (-43), 3) := by decide +kernel
theorem d_SF_putBlock_49 : decode b_SF_putBlock 49 = .ok (.return_, 1) := by decide +kernel
theorem d_SF_putPlace_0 : decode b_SF_putPlace 0 = .ok (.aload_n 0, 1) := by decide +kernel
theorem d_SF_putPlace_1 : decode b_SF_putPlace 1 = .ok (.getfield 24, 3) := by decide +kernel
theorem d_SF_putPlace_4 : decode b_SF_putPlace 4 = .ok (.invokestatic 267, 3) := by decide +kernel
theorem d_SF_putPlace_7 : decode b_SF_putPlace 7 = .ok (.aload_n 0, 1) := by decide +kernel
theorem d_SF_putPlace_8 : decode b_SF_putPlace 8 = .ok (.aload_n 0, 1) := by decide +kernel
theorem d_SF_putPlace_9 : decode b_SF_putPlace 9 = .ok (.getfield 24, 3) := by decide +kernel
theorem d_SF_putPlace_12 : decode b_SF_putPlace 12 = .ok (.aload_n 1, 1) := by decide +kernel
theorem d_SF_putPlace_13 : decode b_SF_putPlace 13 = .ok (.iload_n 2, 1) := by decide +kernel
theorem d_SF_putPlace_14 : decode b_SF_putPlace 14 = .ok (.invokevirtual 271, 3) := by decide +kernel
theorem d_SF_putPlace_17 : decode b_SF_putPlace 17 = .ok (.return_, 1) := by decide +kernel
theorem d_SF_preparePlaceFromTape_0 : decode b_SF_preparePlaceFromTape 0 = .ok (.iload_n 1, 1) := by decide +kernel
theorem d_SF_preparePlaceFromTape_1 : decode b_SF_preparePlaceFromTape 1 = .ok (.bipush 25, 2) := by decide +kernel
theorem d_SF_preparePlaceFromTape_3 : decode b_SF_preparePlaceFromTape 3 = .ok (.imul, 1) := by decide +kernel
theorem d_SF_preparePlaceFromTape_4 : decode b_SF_preparePlaceFromTape 4 = .ok (.istore 4, 2) := by decide +kernel
theorem d_SF_preparePlaceFromTape_6 : decode b_SF_preparePlaceFromTape 6 = .ok (.bipush 25, 2) := by decide +kernel
theorem d_SF_preparePlaceFromTape_8 : decode b_SF_preparePlaceFromTape 8 = .ok (.aload_n 0, 1) := by decide +kernel
theorem d_SF_preparePlaceFromTape_9 : decode b_SF_preparePlaceFromTape 9 = .ok (.getfield 62, 3) := by decide +kernel
theorem d_SF_preparePlaceFromTape_12 : decode b_SF_preparePlaceFromTape 12 = .ok (.iload 4, 2) := by decide +kernel
theorem d_SF_preparePlaceFromTape_14 : decode b_SF_preparePlaceFromTape 14 = .ok (.isub, 1) := by decide +kernel
theorem d_SF_preparePlaceFromTape_15 : decode b_SF_preparePlaceFromTape 15 = .ok (.invokestatic 256, 3) := by decide +kernel
theorem d_SF_preparePlaceFromTape_18 : decode b_SF_preparePlaceFromTape 18 = .ok (.istore 5, 2) := by decide +kernel
theorem d_SF_preparePlaceFromTape_20 : decode b_SF_preparePlaceFromTape 20 = .ok (.aload_n 0, 1) := by decide +kernel
theorem d_SF_preparePlaceFromTape_21 : decode b_SF_preparePlaceFromTape 21 = .ok (.getfield 24, 3) := by decide +kernel
theorem d_SF_preparePlaceFromTape_24 : decode b_SF_preparePlaceFromTape 24 = .ok (.iconst 0, 1) := by decide +kernel
theorem d_SF_preparePlaceFromTape_25 : decode b_SF_preparePlaceFromTape 25 = .ok (.iconst 0, 1) := by decide +kernel
theorem d_SF_preparePlaceFromTape_26 : decode b_SF_preparePlaceFromTape 26 = .ok (.aload_n 0, 1) := by decide +kernel
theorem d_SF_preparePlaceFromTape_27 : decode b_SF_preparePlaceFromTape 27 = .ok (.iload_n 1, 1) := by decide +kernel
theorem d_SF_preparePlaceFromTape_28 : decode b_SF_preparePlaceFromTape 28 = .ok (.iload_n 2, 1) := by decide +kernel
theorem d_SF_preparePlaceFromTape_29 : decode b_SF_preparePlaceFromTape 29 = .ok (.invokevirtual 261, 3) := by decide +kernel
theorem d_SF_preparePlaceFromTape_32 : decode b_SF_preparePlaceFromTape 32 = .ok (.invokevirtual 209, 3) := by decide +kernel
theorem d_SF_preparePlaceFromTape_35 : decode b_SF_preparePlaceFromTape 35 = .ok (.aload_n 0, 1) := by decide +kernel
theorem d_SF_preparePlaceFromTape_36 : decode b_SF_preparePlaceFromTape 36 = .ok (.getfield 24, 3) := by decide +kernel
theorem d_SF_preparePlaceFromTape_39 : decode b_SF_preparePlaceFromTape 39 = .ok (.iconst 0, 1) := by decide +kernel
theorem d_SF_preparePlaceFromTape_40 : decode b_SF_preparePlaceFromTape 40 = .ok (.iconst 1, 1) := by decide +kernel
theorem d_SF_preparePlaceFromTape_41 : decode b_SF_preparePlaceFromTape 41 = .ok (.iload 5, 2) := by decide +kernel
theorem d_SF_preparePlaceFromTape_43 : decode b_SF_preparePlaceFromTape 43 = .ok (.invokevirtual 209, 3) := by decide +kernel
theorem d_SF_preparePlaceFromTape_46 : decode b_SF_preparePlaceFromTape 46 = .ok (.aload_n 0, 1) := by decide +kernel
theorem d_SF_preparePlaceFromTape_47 : decode b_SF_preparePlaceFromTape 47 = .ok (.getfield 24, 3) := by decide +kernel
theorem d_SF_preparePlaceFromTape_50 : decode b_SF_preparePlaceFromTape 50 = .ok (.iconst 0, 1) := by decide +kernel
theorem d_SF_preparePlaceFromTape_51 : decode b_SF_preparePlaceFromTape 51 = .ok (.iconst 2, 1) := by decide +kernel
theorem d_SF_preparePlaceFromTape_52 : decode b_SF_preparePlaceFromTape 52 = .ok (.iload_n 3, 1) := by decide +kernel
theorem d_SF_preparePlaceFromTape_53 : decode b_SF_preparePlaceFromTape 53 = .ok (.invokevirtual 209, 3) := by decide +kernel
theorem d_SF_preparePlaceFromTape_56 : decode b_SF_preparePlaceFromTape 56 = .ok (.iconst 0, 1) := by decide +kernel
theorem d_SF_preparePlaceFromTape_57 : decode b_SF_preparePlaceFromTape 57 = .ok (.istore 6, 2) := by decide +kernel
theorem d_SF_preparePlaceFromTape_59 : decode b_SF_preparePlaceFromTape 59 = .ok (.iload 6, 2) := by decide +kernel
theorem d_SF_preparePlaceFromTape_61 : decode b_SF_preparePlaceFromTape 61 = .ok (.bipush 25, 2) := by decide +kernel
theorem d_SF_preparePlaceFromTape_63 : decode b_SF_preparePlaceFromTape 63 = .ok (.if_icmp .ge 41, 3) := by decide +kernel
theorem d_SF_preparePlaceFromTape_66 : decode b_SF_preparePlaceFromTape 66 = .ok (.aload_n 0, 1) := by decide +kernel
theorem d_SF_preparePlaceFromTape_67 : decode b_SF_preparePlaceFromTape 67 = .ok (.getfield 24, 3) := by decide +kernel
theorem d_SF_preparePlaceFromTape_70 : decode b_SF_preparePlaceFromTape 70 = .ok (.iconst 0, 1) := by decide +kernel
theorem d_SF_preparePlaceFromTape_71 : decode b_SF_preparePlaceFromTape 71 = .ok (.iconst 3, 1) := by decide +kernel
theorem d_SF_preparePlaceFromTape_72 : decode b_SF_preparePlaceFromTape 72 = .ok (.iload 6, 2) := by decide +kernel
theorem d_SF_preparePlaceFromTape_74 : decode b_SF_preparePlaceFromTape 74 = .ok (.iadd, 1) := by decide +kernel
theorem d_SF_preparePlaceFromTape_75 : decode b_SF_preparePlaceFromTape 75 = .ok (.iload 6, 2) := by decide +kernel
theorem d_SF_preparePlaceFromTape_77 : decode b_SF_preparePlaceFromTape 77 = .ok (.iload 5, 2) := by decide +kernel
theorem d_SF_preparePlaceFromTape_79 : decode b_SF_preparePlaceFromTape 79 = .ok (.if_icmp .ge 15, 3) := by decide +kernel
theorem d_SF_preparePlaceFromTape_82 : decode b_SF_preparePlaceFromTape 82 = .ok (.aload_n 0, 1) := by decide +kernel
theorem d_SF_preparePlaceFromTape_83 : decode b_SF_preparePlaceFromTape 83 = .ok (.iload 4, 2) := by decide +kernel
theorem d_SF_preparePlaceFromTape_85 : decode b_SF_preparePlaceFromTape 85 = .ok (.iload 6, 2) := by decide +kernel
theorem d_SF_preparePlaceFromTape_87 : decode b_SF_preparePlaceFromTape 87 = .ok (.iadd, 1) := by decide +kernel
theorem d_SF_preparePlaceFromTape_88 : decode b_SF_preparePlaceFromTape 88 = .ok (.invokevirtual 264, 3) := by decide +kernel
theorem d_SF_preparePlaceFromTape_91 : decode b_SF_preparePlaceFromTape 91 = .ok (.goto 4, 3) := by decide +kernel
theorem d_SF_preparePlaceFromTape_94 : decode b_SF_preparePlaceFromTape 94 = .ok (.iconst 0, 1) := by decide +kernel
theorem d_SF_preparePlaceFromTape_95 : decode b_SF_preparePlaceFromTape 95 = .ok (.invokevirtual 209, 3) := by decide +kernel
theorem d_SF_preparePlaceFromTape_98 : decode b_SF_preparePlaceFromTape 98 = .ok (.iinc 6 1, 3) := by decide +kernel
theorem d_SF_preparePlaceFromTape_101 : decode b_SF_preparePlaceFromTape 101 = .ok (.goto (-42), 3) := by decide +kernel
theorem d_SF_preparePlaceFromTape_104 : decode b_SF_preparePlaceFromTape 104 = .ok (.return_, 1) := by decide +kernel
theorem d_SF_preparePlaceFromChain_0 : decode b_SF_preparePlaceFromChain 0 = .ok (.aload_n 0, 1) := by decide +kernel
theorem d_SF_preparePlaceFromChain_1 : decode b_SF_preparePlaceFromChain 1 = .ok (.getfield 24, 3) := by decide +kernel
theorem d_SF_preparePlaceFromChain_4 : decode b_SF_preparePlaceFromChain 4 = .ok (.iconst 0, 1) := by decide +kernel
theorem d_SF_preparePlaceFromChain_5 : decode b_SF_preparePlaceFromChain 5 = .ok (.iconst 0, 1) := by decide +kernel
theorem d_SF_preparePlaceFromChain_6 : decode b_SF_preparePlaceFromChain 6 = .ok (.aload_n 0, 1) := by decide +kernel
theorem d_SF_preparePlaceFromChain_7 : decode b_SF_preparePlaceFromChain 7 = .ok (.iload_n 1, 1) := by decide +kernel
theorem d_SF_preparePlaceFromChain_8 : decode b_SF_preparePlaceFromChain 8 = .ok (.aload_n 0, 1) := by decide +kernel
theorem d_SF_preparePlaceFromChain_9 : decode b_SF_preparePlaceFromChain 9 = .ok (.getfield 33, 3) := by decide +kernel
theorem d_SF_preparePlaceFromChain_12 : decode b_SF_preparePlaceFromChain 12 = .ok (.getfield 136, 3) := by decide +kernel
theorem d_SF_preparePlaceFromChain_15 : decode b_SF_preparePlaceFromChain 15 = .ok (.invokevirtual 261, 3) := by decide +kernel
theorem d_SF_preparePlaceFromChain_18 : decode b_SF_preparePlaceFromChain 18 = .ok (.invokevirtual 209, 3) := by decide +kernel
theorem d_SF_preparePlaceFromChain_21 : decode b_SF_preparePlaceFromChain 21 = .ok (.iconst 1, 1) := by decide +kernel
theorem d_SF_preparePlaceFromChain_22 : decode b_SF_preparePlaceFromChain 22 = .ok (.istore_n 2, 1) := by decide +kernel
theorem d_SF_preparePlaceFromChain_23 : decode b_SF_preparePlaceFromChain 23 = .ok (.iload_n 2, 1) := by decide +kernel
theorem d_SF_preparePlaceFromChain_24 : decode b_SF_preparePlaceFromChain 24 = .ok (.bipush 28, 2) := by decide +kernel
theorem d_SF_preparePlaceFromChain_26 : decode b_SF_preparePlaceFromChain 26 = .ok (.if_icmp .ge 34, 3) := by decide +kernel
theorem d_SF_preparePlaceFromChain_29 : decode b_SF_preparePlaceFromChain 29 = .ok (.aload_n 0, 1) := by decide +kernel
theorem d_SF_preparePlaceFromChain_30 : decode b_SF_preparePlaceFromChain 30 = .ok (.getfield 24, 3) := by decide +kernel
theorem d_SF_preparePlaceFromChain_33 : decode b_SF_preparePlaceFromChain 33 = .ok (.iconst 0, 1) := by decide +kernel
theorem d_SF_preparePlaceFromChain_34 : decode b_SF_preparePlaceFromChain 34 = .ok (.iload_n 2, 1) := by decide +kernel
theorem d_SF_preparePlaceFromChain_35 : decode b_SF_preparePlaceFromChain 35 = .ok (.aload_n 0, 1) := by decide +kernel
theorem d_SF_preparePlaceFromChain_36 : decode b_SF_preparePlaceFromChain 36 = .ok (.getfield 14, 3) := by decide +kernel
theorem d_SF_preparePlaceFromChain_39 : decode b_SF_preparePlaceFromChain 39 = .ok (.aload_n 0, 1) := by decide +kernel
theorem d_SF_preparePlaceFromChain_40 : decode b_SF_preparePlaceFromChain 40 = .ok (.getfield 33, 3) := by decide +kernel
theorem d_SF_preparePlaceFromChain_43 : decode b_SF_preparePlaceFromChain 43 = .ok (.iload_n 1, 1) := by decide +kernel
theorem d_SF_preparePlaceFromChain_44 : decode b_SF_preparePlaceFromChain 44 = .ok (.invokevirtual 234, 3) := by decide +kernel
theorem d_SF_preparePlaceFromChain_47 : decode b_SF_preparePlaceFromChain 47 = .ok (.iload_n 2, 1) := by decide +kernel
theorem d_SF_preparePlaceFromChain_48 : decode b_SF_preparePlaceFromChain 48 = .ok (.invokevirtual 203, 3) := by decide +kernel
theorem d_SF_preparePlaceFromChain_51 : decode b_SF_preparePlaceFromChain 51 = .ok (.invokevirtual 209, 3) := by decide +kernel
theorem d_SF_preparePlaceFromChain_54 : decode b_SF_preparePlaceFromChain 54 = .ok (.iinc 2 1, 3) := by decide +kernel
theorem d_SF_preparePlaceFromChain_57 : decode b_SF_preparePlaceFromChain 57 = .ok (.goto (-34), 3) := by decide +kernel
theorem d_SF_preparePlaceFromChain_60 : decode b_SF_preparePlaceFromChain 60 = .ok (.return_, 1) := by decide +kernel
theorem d_SF_putTable_0 : decode b_SF_putTable 0 = .ok (.aload_n 0, 1) := by decide +kernel
theorem d_SF_putTable_1 : decode b_SF_putTable 1 = .ok (.invokevirtual 179, 3) := by decide +kernel
theorem d_SF_putTable_4 : decode b_SF_putTable 4 = .ok (.istore 4, 2) := by decide +kernel
theorem d_SF_putTable_6 : decode b_SF_putTable 6 = .ok (.aload_n 0, 1) := by decide +kernel
theorem d_SF_putTable_7 : decode b_SF_putTable 7 = .ok (.getfield 27, 3) := by decide +kernel
theorem d_SF_putTable_10 : decode b_SF_putTable 10 = .ok (.iconst 0, 1) := by decide +kernel
theorem d_SF_putTable_11 : decode b_SF_putTable 11 = .ok (.iconst 0, 1) := by decide +kernel
theorem d_SF_putTable_12 : decode b_SF_putTable 12 = .ok (.aload_n 0, 1) := by decide +kernel
theorem d_SF_putTable_13 : decode b_SF_putTable 13 = .ok (.iload 4, 2) := by decide +kernel
theorem d_SF_putTable_15 : decode b_SF_putTable 15 = .ok (.invokevirtual 182, 3) := by decide +kernel
theorem d_SF_putTable_18 : decode b_SF_putTable 18 = .ok (.invokestatic 221, 3) := by decide +kernel
theorem d_SF_putTable_21 : decode b_SF_putTable 21 = .ok (.invokevirtual 209, 3) := by decide +kernel
theorem d_SF_putTable_24 : decode b_SF_putTable 24 = .ok (.iconst 0, 1) := by decide +kernel
theorem d_SF_putTable_25 : decode b_SF_putTable 25 = .ok (.istore 5, 2) := by decide +kernel
theorem d_SF_putTable_27 : decode b_SF_putTable 27 = .ok (.iload 5, 2) := by decide +kernel
theorem d_SF_putTable_29 : decode b_SF_putTable 29 = .ok (.bipush 12, 2) := by decide +kernel
theorem d_SF_putTable_31 : decode b_SF_putTable 31 = .ok (.if_icmp .ge 72, 3) := by decide +kernel
theorem d_SF_putTable_34 : decode b_SF_putTable 34 = .ok (.aload_n 0, 1) := by decide +kernel
theorem d_SF_putTable_35 : decode b_SF_putTable 35 = .ok (.getfield 27, 3) := by decide +kernel
theorem d_SF_putTable_38 : decode b_SF_putTable 38 = .ok (.iconst 0, 1) := by decide +kernel
theorem d_SF_putTable_39 : decode b_SF_putTable 39 = .ok (.iconst 1, 1) := by decide +kernel
theorem d_SF_putTable_40 : decode b_SF_putTable 40 = .ok (.iload 5, 2) := by decide +kernel
theorem d_SF_putTable_42 : decode b_SF_putTable 42 = .ok (.iadd, 1) := by decide +kernel
theorem d_SF_putTable_43 : decode b_SF_putTable 43 = .ok (.iload 5, 2) := by decide +kernel
theorem d_SF_putTable_45 : decode b_SF_putTable 45 = .ok (.iload_n 1, 1) := by decide +kernel
theorem d_SF_putTable_46 : decode b_SF_putTable 46 = .ok (.if_icmp .ne 7, 3) := by decide +kernel
theorem d_SF_putTable_49 : decode b_SF_putTable 49 = .ok (.iload_n 2, 1) := by decide +kernel
theorem d_SF_putTable_50 : decode b_SF_putTable 50 = .ok (.goto 12, 3) := by decide +kernel
theorem d_SF_putTable_53 : decode b_SF_putTable 53 = .ok (.aload_n 0, 1) := by decide +kernel
theorem d_SF_putTable_54 : decode b_SF_putTable 54 = .ok (.iload 4, 2) := by decide +kernel
theorem d_SF_putTable_56 : decode b_SF_putTable 56 = .ok (.iload 5, 2) := by decide +kernel
theorem d_SF_putTable_58 : decode b_SF_putTable 58 = .ok (.iconst 0, 1) := by decide +kernel
theorem d_SF_putTable_59 : decode b_SF_putTable 59 = .ok (.invokevirtual 224, 3) := by decide +kernel
theorem d_SF_putTable_62 : decode b_SF_putTable 62 = .ok (.invokevirtual 209, 3) := by decide +kernel
theorem d_SF_putTable_65 : decode b_SF_putTable 65 = .ok (.aload_n 0, 1) := by decide +kernel
theorem d_SF_putTable_66 : decode b_SF_putTable 66 = .ok (.getfield 27, 3) := by decide +kernel
theorem d_SF_putTable_69 : decode b_SF_putTable 69 = .ok (.iconst 0, 1) := by decide +kernel
theorem d_SF_putTable_70 : decode b_SF_putTable 70 = .ok (.bipush 13, 2) := by decide +kernel
theorem d_SF_putTable_72 : decode b_SF_putTable 72 = .ok (.iload 5, 2) := by decide +kernel
theorem d_SF_putTable_74 : decode b_SF_putTable 74 = .ok (.iadd, 1) := by decide +kernel
theorem d_SF_putTable_75 : decode b_SF_putTable 75 = .ok (.iload 5, 2) := by decide +kernel
theorem d_SF_putTable_77 : decode b_SF_putTable 77 = .ok (.iload_n 1, 1) := by decide +kernel
theorem d_SF_putTable_78 : decode b_SF_putTable 78 = .ok (.if_icmp .ne 7, 3) := by decide +kernel
theorem d_SF_putTable_81 : decode b_SF_putTable 81 = .ok (.iload_n 3, 1) := by decide +kernel
theorem d_SF_putTable_82 : decode b_SF_putTable 82 = .ok (.goto 12, 3) := by decide +kernel
theorem d_SF_putTable_85 : decode b_SF_putTable 85 = .ok (.aload_n 0, 1) := by decide +kernel
theorem d_SF_putTable_86 : decode b_SF_putTable 86 = .ok (.iload 4, 2) := by decide +kernel
theorem d_SF_putTable_88 : decode b_SF_putTable 88 = .ok (.iload 5, 2) := by decide +kernel
theorem d_SF_putTable_90 : decode b_SF_putTable 90 = .ok (.iconst 1, 1) := by decide +kernel
theorem d_SF_putTable_91 : decode b_SF_putTable 91 = .ok (.invokevirtual 224, 3) := by decide +kernel
theorem d_SF_putTable_94 : decode b_SF_putTable 94 = .ok (.invokevirtual 209, 3) := by decide +kernel
theorem d_SF_putTable_97 : decode b_SF_putTable 97 = .ok (.iinc 5 1, 3) := by decide +kernel
theorem d_SF_putTable_100 : decode b_SF_putTable 100 = .ok (.goto (-73), 3) := by decide +kernel
theorem d_SF_putTable_103 : decode b_SF_putTable 103 = .ok (.aload_n 0, 1) := by decide +kernel
theorem d_SF_putTable_104 : decode b_SF_putTable 104 = .ok (.getfield 27, 3) := by decide +kernel
theorem d_SF_putTable_107 : decode b_SF_putTable 107 = .ok (.invokestatic 267, 3) := by decide +kernel
theorem d_SF_putTable_110 : decode b_SF_putTable 110 = .ok (.aload_n 0, 1) := by decide +kernel
theorem d_SF_putTable_111 : decode b_SF_putTable 111 = .ok (.aload_n 0, 1) := by decide +kernel
theorem d_SF_putTable_112 : decode b_SF_putTable 112 = .ok (.getfield 27, 3) := by decide +kernel
theorem d_SF_putTable_115 : decode b_SF_putTable 115 = .ok (.aload_n 0, 1) := by decide +kernel
theorem d_SF_putTable_116 : decode b_SF_putTable 116 = .ok (.getfield 21, 3) := by decide +kernel
theorem d_SF_putTable_119 : decode b_SF_putTable 119 = .ok (.iload 4, 2) := by decide +kernel
theorem d_SF_putTable_121 : decode b_SF_putTable 121 = .ok (.ifCond .ne 7, 3) := by decide +kernel
theorem d_SF_putTable_124 : decode b_SF_putTable 124 = .ok (.iconst 1, 1) := by decide +kernel
theorem d_SF_putTable_125 : decode b_SF_putTable 125 = .ok (.goto 4, 3) := by decide +kernel
theorem d_SF_putTable_128 : decode b_SF_putTable 128 = .ok (.iconst 0, 1) := by decide +kernel
theorem d_SF_putTable_129 : decode b_SF_putTable 129 = .ok (.invokevirtual 271, 3) := by decide +kernel
theorem d_SF_putTable_132 : decode b_SF_putTable 132 = .ok (.return_, 1) := by decide +kernel
def f_SF_setSum_l (n : Nat) (F : Nat → Int32) (N : Nat) : Nat → Nat → (Nat → Int32) → (Nat → Int32)
  | 0, _, _ => (fun _ => 0)
  | fu + 1, k, vF =>
    if 4 ≤ (nI k) then
      vF
    else
      f_SF_setSum_l n F N fu (k + 1) (f_Bl_set n vF (nI (N + 4)) 0 ((nI N) + (nI k)) (sf_ushr (f_Bl_sumOf n F (nI (N + 4)) 0 N) (8 * (3 - (nI k)))))
def f_SF_setSum (n : Nat) (F : Nat → Int32) (N : Nat) : (Nat → Int32) :=
  f_SF_setSum_l n F N (4 + 1) 0 F
set_option maxHeartbeats 1000000 in
set_option maxRecDepth 100000 in
/-- setSum -/
theorem c_SF_setSum (l : Launch) (D : va_G) (cI cZ cJ : ClassId) (h0 a0 n : Nat) (F : Nat → Int32) (N : Nat) (hn : n < 2 ^ 31) (hN : N + 4 ≤ n) : sf_M (S := (Nat → Int32)) l D classes (sf_tys cI cZ cJ) y_SF_setSum (sf_ws y_SF_setSum b_SF_setSum 4 none) 1 26 [.ref h0] [(h0, .inr (0, [.ref a0, .int (nI (N + 4))])), (a0, .inl (cI, n, .inl F))] (fun _ => none) (fun r => r = f_SF_setSum n F N) (fun r => [(h0, .inr (0, [.ref a0, .int (nI (N + 4))])), (a0, .inl (cI, n, .inl r))]) := by
  refine sf_ofW (S := (Nat → Int32)) (by decide) (Nat.le_of_ble_eq_true rfl) ?_
  intro p e s m below meth c A ls R args Q hR hArgs hQ hC0 hr hK hP hD hl
  obtain ⟨hx, hb, hml, hown, hts, hA, hlk⟩ := hC0
  have hS : va_S A s.heap s.heap [] := va_S.rf
  have hl : lv_has ls 4 [(0, .ref h0)] := hl
  refine lv_aload_n hx hb d_SF_setSum_0 rfl (lv_at hl 0 rfl) ?_
  refine va_get (D := D) (ci := 0) (v := .int (nI (N + 4))) (C := R_Bl) (T := F_Bl) (N := 2) hx hb hts i_Bl hown hK hP 0 rfl rfl 1 (by decide) (hts _ wd_79) (fun _ h9 => h9) rfl d_SF_setSum_1 ?_
  refine lv_iconst (v := 4) hx hb d_SF_setSum_4 (by decide) ?_
  refine lv_isub hx hb d_SF_setSum_5 ?_
  rw [sf_m4]
  refine lv_istore_n (lv' := [(1, .int (nI N)), (0, .ref h0)]) hx hb d_SF_setSum_6 rfl hl (by decide) rfl (fun ls hl => ?_)
  refine lv_aload_n hx hb d_SF_setSum_7 rfl (lv_at hl 1 rfl) ?_
  refine lv_iconst (v := 0) hx hb d_SF_setSum_8 (by decide) ?_
  refine lv_iload_n hx hb d_SF_setSum_9 rfl (lv_at hl 0 rfl) ?_
  refine sf_callVr (S := Int32) (rest := []) ⟨hx, hb, hml, hown, hts⟩ (c_Bl_sumOf l D cI cZ cJ h0 a0 n F (nI (N + 4)) 0 N hn (by omega)) (sf_cwV lk_SF_253 hts (fun _ h => h) (by rw [hR]; exact ⟨Nat.le_of_ble_eq_true rfl, Nat.le_of_ble_eq_true rfl⟩)) hK hP hD hS hA [0, 1] rfl rfl (fun _ => rfl) (ci := 0) (q0 := 0) rfl rfl rfl rfl rfl hl.1 (Nat.le_of_ble_eq_true rfl) d_SF_setSum_10 ⟨Nat.zero_le _, Nat.zero_le _⟩ (fun u_1 H locs hu_1 hP hS => ?_)
  refine lv_istore_n (lv' := [(2, .int u_1), (1, .int (nI N)), (0, .ref h0)]) hx hb d_SF_setSum_13 rfl hl (by decide) rfl (fun ls hl => ?_)
  refine lv_iconst (v := 0) hx hb d_SF_setSum_14 (by decide) ?_
  refine lv_istore_n (lv' := [(3, .int 0), (2, .int u_1), (1, .int (nI N)), (0, .ref h0)]) hx hb d_SF_setSum_15 rfl hl (by decide) rfl (fun ls hl => ?_)
  have loop16 : ∀ (fu k : Nat) (vF : (Nat → Int32)), k ≤ 4 → k + fu = 4 + 1 → f_SF_setSum_l n F N fu k vF = f_SF_setSum n F N → ∀ (H : Heap) (locs : List Loc), va_P D classes [(h0, .inr (0, [.ref a0, .int (nI (N + 4))])), (a0, .inl (cI, n, .inl vF))] H → va_D A [(h0, .inr (0, [.ref a0, .int (nI (N + 4))])), (a0, .inl (cI, n, .inl vF))] → va_S A s.heap H locs → ∀ (ls : Array Slot), lv_has ls 4 [(0, .ref h0), (1, .int (nI N)), (2, .int u_1), (3, .int (nI k))] → W p l e R s m args below meth c H locs 0 0 Q (F0 m 16 ls []) := by
    intro fu
    induction fu with
    | zero =>
      intro k vF h1 h2
      exact absurd h2 (by omega)
    | succ fu ih16 =>
      intro k vF hk16 hkn16 heq16 H locs hP hD hS ls hl
      refine lv_iload_n hx hb d_SF_setSum_16 rfl (lv_at hl 3 rfl) ?_
      refine lv_iconst (v := 4) hx hb d_SF_setSum_17 (by decide) ?_
      refine lv_icmp_ge (tgt := 43) hx hb d_SF_setSum_18 (by decide) (fun c_2 => ?_) (fun c_2 => ?_)
      · rw [hQ]
        exact sf_vret vF hx hb hr hlk hS rfl (by rw [← heq16]; simp only [f_SF_setSum_l, ← hu_1, eq_true c_2, ↓reduceIte]) hP d_SF_setSum_43
      · have hlt : k < 4 := sf_lt_of (N := 4) (by omega) (by omega) c_2
        refine lv_aload_n hx hb d_SF_setSum_21 rfl (lv_at hl 0 rfl) ?_
        refine lv_iconst (v := 0) hx hb d_SF_setSum_22 (by decide) ?_
        refine lv_iload_n hx hb d_SF_setSum_23 rfl (lv_at hl 1 rfl) ?_
        refine lv_iload_n hx hb d_SF_setSum_24 rfl (lv_at hl 3 rfl) ?_
        refine lv_iadd hx hb d_SF_setSum_25 ?_
        refine lv_iload_n hx hb d_SF_setSum_26 rfl (lv_at hl 2 rfl) ?_
        refine lv_bipush (v := 8) hx hb d_SF_setSum_27 (by decide) ?_
        refine lv_iconst (v := 3) hx hb d_SF_setSum_29 (by decide) ?_
        refine lv_iload_n hx hb d_SF_setSum_30 rfl (lv_at hl 3 rfl) ?_
        refine lv_isub hx hb d_SF_setSum_31 ?_
        refine lv_imul hx hb d_SF_setSum_32 ?_
        refine lv_iushr (v := (sf_ushr u_1 (8 * (3 - (nI k))))) hx hb d_SF_setSum_33 rfl ?_
        refine sf_callV (S := (Nat → Int32)) (rest := []) ⟨hx, hb, hml, hown, hts⟩ (c_Bl_set l D cI cZ cJ h0 a0 n vF (nI (N + 4)) 0 ((nI N) + (nI k)) (sf_ushr u_1 (8 * (3 - (nI k)))) hn) (sf_cwV lk_SF_209 hts (fun _ h => h) (by rw [hR]; exact ⟨Nat.le_of_ble_eq_true rfl, Nat.le_of_ble_eq_true rfl⟩)) hK hP hD hS hA [0, 1] rfl rfl (fun _ => rfl) (ci := 0) (q0 := 0) rfl rfl rfl rfl rfl hl.1 (Nat.le_of_ble_eq_true rfl) d_SF_setSum_34 ⟨Nat.zero_le _, Nat.zero_le _⟩ (fun u_3 H locs hu_3 hP hD hS => ?_)
        have hP : va_P D classes [(h0, .inr (0, [.ref a0, .int (nI (N + 4))])), (a0, .inl (cI, n, .inl u_3))] H := hP
        have hD : va_D A [(h0, .inr (0, [.ref a0, .int (nI (N + 4))])), (a0, .inl (cI, n, .inl u_3))] := hD
        refine lv_iinc (v := (nI (k + 1))) (lv' := [(3, .int (nI (k + 1))), (0, .ref h0), (1, .int (nI N)), (2, .int u_1)]) hx hb d_SF_setSum_37 hl (k := 3) rfl (nI_1 k) (by decide) rfl (fun ls hl => ?_)
        refine lv_goto (tgt := 16) hx hb d_SF_setSum_40 (by decide) ?_
        exact ih16 (k + 1) u_3 (by omega) (by omega) (by rw [← heq16]; simp only [f_SF_setSum_l, ← hu_1, ← hu_3, eq_false c_2, ↓reduceIte]) _ _ hP hD hS ls (lv_sub hl [1, 2, 3, 0] rfl)
  exact loop16 (4 + 1) 0 F (by omega) (by omega) (by simp only [f_SF_setSum, ← hu_1, ↓reduceIte]) _ _ hP hD hS ls (lv_sub hl [3, 2, 1, 0] rfl)
def f_SF_putBlock_nf_l3 (np : Nat → Int32) (bk : Int32) : Nat → Nat → (Nat → Int32) → Int32 → ((Nat → Int32) × Int32)
  | 0, _, _, _ => ((fun _ => 0), 0)
  | fu + 1, k, vf, vb =>
    if (nI 32) ≤ (nI k) then
      (vf, vb)
    else
      if vb ≤ 0 then
        (vf, vb)
      else
        f_SF_putBlock_nf_l3 np bk fu (k + 1) (f_Bl_set 768 vf (nI 32) bk (nI k) (f_Bl_get 32 np (nI 32) 0 (nI k))) (vb - 1)
def f_SF_putBlock_nf (fl : Nat → Int32) (np : Nat → Int32) (bl : Int32) (bk : Int32) : ((Nat → Int32) × Int32) :=
  f_SF_putBlock_nf_l3 np bk (32 + 1) 0 fl bl
set_option maxHeartbeats 1000000 in
set_option maxRecDepth 100000 in
/-- putBlock -/
theorem c_SF_putBlock_nf (l : Launch) (D : va_G) (cI cZ cJ : ClassId) (q : Nat → Nat) (fl : Nat → Int32) (sl : Nat → Int32) (tb : Nat → Int32) (np : Nat → Int32) (nt : Nat → Int32) (cp : Nat → Int32) (cc : Int32) (cb : Int32) (ch : Int32) (cm : Int32) (mp : Nat → Int32) (mc : Int32) (mb : Int32) (mh : Int32) (mm : Int32) (us : Nat → Int32) (ta : Nat → Int32) (tp : Nat → Int32) (tl : Int32) (cu : Int32) (bl : Int32) (pf : Int32) (sh : Int32) (bk : Int32) : sf_M (S := ((Nat → Int32) × Int32)) l D classes (sf_tys cI cZ cJ) y_SF_putBlock (sf_ws y_SF_putBlock b_SF_putBlock 5 none) 1 24 [.ref (q 0), .ref (q 7), .ref (q 1), .int bk] (sf_w q cI cZ fl sl tb np nt cp cc cb ch cm mp mc mb mh mm us ta tp tl cu bl pf sh) (fun _ => none) (fun r => r = f_SF_putBlock_nf fl np bl bk) (fun r => (sf_w q cI cZ r.1 sl tb np nt cp cc cb ch cm mp mc mb mh mm us ta tp tl cu r.2 pf sh)) := by
  refine sf_ofW (S := ((Nat → Int32) × Int32)) (by decide) (Nat.le_of_ble_eq_true rfl) ?_
  intro p e s m below meth c A ls R args Q hR hArgs hQ hC0 hr hK hP hD hl
  obtain ⟨hx, hb, hml, hown, hts, hA, hlk⟩ := hC0
  have hS : va_S A s.heap s.heap [] := va_S.rf
  have hl : lv_has ls 5 [(0, .ref (q 0)), (1, .ref (q 7)), (2, .ref (q 1)), (3, .int bk)] := hl
  refine lv_iconst (v := 0) hx hb d_SF_putBlock_0 (by decide) ?_
  refine lv_istore (lv' := [(4, .int 0), (0, .ref (q 0)), (1, .ref (q 7)), (2, .ref (q 1)), (3, .int bk)]) hx hb d_SF_putBlock_1 hl (by decide) rfl (fun ls hl => ?_)
  have loop3 : ∀ (fu k : Nat) (vf : (Nat → Int32)) (vb : Int32), k ≤ 32 → k + fu = 32 + 1 → f_SF_putBlock_nf_l3 np bk fu k vf vb = f_SF_putBlock_nf fl np bl bk → ∀ (H : Heap) (locs : List Loc), va_P D classes (sf_w q cI cZ vf sl tb np nt cp cc cb ch cm mp mc mb mh mm us ta tp tl cu vb pf sh) H → va_D A (sf_w q cI cZ vf sl tb np nt cp cc cb ch cm mp mc mb mh mm us ta tp tl cu vb pf sh) → va_S A s.heap H locs → ∀ (ls : Array Slot), lv_has ls 5 [(0, .ref (q 0)), (1, .ref (q 7)), (2, .ref (q 1)), (3, .int bk), (4, .int (nI k))] → W p l e R s m args below meth c H locs 0 0 Q (F0 m 3 ls []) := by
    intro fu
    induction fu with
    | zero =>
      intro k vf vb h1 h2
      exact absurd h2 (by omega)
    | succ fu ih3 =>
      intro k vf vb hk3 hkn3 heq3 H locs hP hD hS ls hl
      refine lv_iload hx hb d_SF_putBlock_3 (lv_at hl 4 rfl) ?_
      refine lv_aload_n hx hb d_SF_putBlock_5 rfl (lv_at hl 1 rfl) ?_
      refine va_get (D := D) (ci := 0) (v := .int (nI 32)) (C := R_Bl) (T := F_Bl) (N := 2) hx hb hts i_Bl hown hK hP 7 rfl rfl 1 (by decide) (hts _ wd_79) (fun _ h9 => h9) rfl d_SF_putBlock_6 ?_
      refine lv_icmp_ge (tgt := 49) hx hb d_SF_putBlock_9 (by decide) (fun c_1 => ?_) (fun c_1 => ?_)
      · rw [hQ]
        exact sf_vret (vf, vb) hx hb hr hlk hS rfl (by rw [← heq3]; simp only [f_SF_putBlock_nf_l3, eq_true c_1, ↓reduceIte]) hP d_SF_putBlock_49
      · have hlt : k < 32 := sf_lt_of (N := 32) (by omega) (by omega) c_1
        refine lv_aload_n hx hb d_SF_putBlock_12 rfl (lv_at hl 0 rfl) ?_
        refine va_get (D := D) (ci := 2) (v := .int vb) (C := R_SF) (T := F_SF) (N := 15) hx hb hts i_SF hown hK hP 0 rfl rfl 12 (by decide) (hts _ wd_121) (fun _ h9 => h9) rfl d_SF_putBlock_13 ?_
        refine lv_if_le (tgt := 49) hx hb d_SF_putBlock_16 (by decide) (fun c_2 => ?_) (fun c_2 => ?_)
        · rw [hQ]
          exact sf_vret (vf, vb) hx hb hr hlk hS rfl (by rw [← heq3]; simp only [f_SF_putBlock_nf_l3, eq_false c_1, eq_true c_2, ↓reduceIte]) hP d_SF_putBlock_49
        · refine lv_aload_n hx hb d_SF_putBlock_19 rfl (lv_at hl 2 rfl) ?_
          refine lv_iload_n hx hb d_SF_putBlock_20 rfl (lv_at hl 3 rfl) ?_
          refine lv_iload hx hb d_SF_putBlock_21 (lv_at hl 4 rfl) ?_
          refine lv_aload_n hx hb d_SF_putBlock_23 rfl (lv_at hl 1 rfl) ?_
          refine lv_iconst (v := 0) hx hb d_SF_putBlock_24 (by decide) ?_
          refine lv_iload hx hb d_SF_putBlock_25 (lv_at hl 4 rfl) ?_
          refine sf_callVr (S := Int32) (rest := [.int (nI k), .int bk, .ref (q 1)]) ⟨hx, hb, hml, hown, hts⟩ (c_Bl_get l D cI cZ cJ (q 7) (q 8) 32 np (nI 32) 0 (nI k) (by omega)) (sf_cwV lk_SF_203 hts (fun _ h => h) (by rw [hR]; exact ⟨Nat.le_of_ble_eq_true rfl, Nat.le_of_ble_eq_true rfl⟩)) hK hP hD hS hA [7, 8] rfl rfl (fun _ => rfl) (ci := 0) (q0 := 0) rfl rfl rfl rfl rfl hl.1 (Nat.le_of_ble_eq_true rfl) d_SF_putBlock_27 ⟨Nat.zero_le _, Nat.zero_le _⟩ (fun u_3 H locs hu_3 hP hS => ?_)
          refine sf_callV (S := (Nat → Int32)) (rest := []) ⟨hx, hb, hml, hown, hts⟩ (c_Bl_set l D cI cZ cJ (q 1) (q 2) 768 vf (nI 32) bk (nI k) u_3 (by omega)) (sf_cwV lk_SF_209 hts (fun _ h => h) (by rw [hR]; exact ⟨Nat.le_of_ble_eq_true rfl, Nat.le_of_ble_eq_true rfl⟩)) hK hP hD hS hA [1, 2] rfl rfl (fun _ => rfl) (ci := 0) (q0 := 0) rfl rfl rfl rfl rfl hl.1 (Nat.le_of_ble_eq_true rfl) d_SF_putBlock_30 ⟨Nat.zero_le _, Nat.zero_le _⟩ (fun u_4 H locs hu_4 hP hD hS => ?_)
          have hP : va_P D classes (sf_w q cI cZ u_4 sl tb np nt cp cc cb ch cm mp mc mb mh mm us ta tp tl cu vb pf sh) H := hP
          have hD : va_D A (sf_w q cI cZ u_4 sl tb np nt cp cc cb ch cm mp mc mb mh mm us ta tp tl cu vb pf sh) := hD
          refine lv_aload_n hx hb d_SF_putBlock_33 rfl (lv_at hl 0 rfl) ?_
          refine lv_dup hx hb d_SF_putBlock_34 rfl ?_
          refine va_get (D := D) (ci := 2) (v := .int vb) (C := R_SF) (T := F_SF) (N := 15) hx hb hts i_SF hown hK hP 0 rfl rfl 12 (by decide) (hts _ wd_121) (fun _ h9 => h9) rfl d_SF_putBlock_35 ?_
          refine lv_iconst (v := 1) hx hb d_SF_putBlock_38 (by decide) ?_
          refine lv_isub hx hb d_SF_putBlock_39 ?_
          refine va_put (D := D) (ci := 2) (v := .int (vb - 1)) (ty := .int) (C := R_SF) (T := F_SF) (N := 15) hx hb hts i_SF t_SF t_SF_ok n_SF hown hK hP hD hS 0 rfl rfl 12 (by decide) (hts _ wd_121) (fun _ h9 => h9) rfl (by decide +kernel) rfl rfl (Nat.le_of_ble_eq_true rfl) d_SF_putBlock_40 (fun H locs hP hD hS => ?_)
          have hP : va_P D classes (sf_w q cI cZ u_4 sl tb np nt cp cc cb ch cm mp mc mb mh mm us ta tp tl cu (vb - 1) pf sh) H := hP
          have hD : va_D A (sf_w q cI cZ u_4 sl tb np nt cp cc cb ch cm mp mc mb mh mm us ta tp tl cu (vb - 1) pf sh) := hD
          refine lv_iinc (v := (nI (k + 1))) (lv' := [(4, .int (nI (k + 1))), (0, .ref (q 0)), (1, .ref (q 7)), (2, .ref (q 1)), (3, .int bk)]) hx hb d_SF_putBlock_43 hl (k := 4) rfl (nI_1 k) (by decide) rfl (fun ls hl => ?_)
          refine lv_goto (tgt := 3) hx hb d_SF_putBlock_46 (by decide) ?_
          exact ih3 (k + 1) u_4 (vb - 1) (by omega) (by omega) (by rw [← heq3]; simp only [f_SF_putBlock_nf_l3, ← hu_3, ← hu_4, eq_false c_1, eq_false c_2, ↓reduceIte]) _ _ hP hD hS ls (lv_sub hl [1, 2, 3, 4, 0] rfl)
  exact loop3 (32 + 1) 0 fl bl (by omega) (by omega) (by simp only [f_SF_putBlock_nf, ↓reduceIte]) _ _ hP hD hS ls (lv_sub hl [1, 2, 3, 4, 0] rfl)
def f_SF_putBlock_ns_l3 (np : Nat → Int32) (bk : Int32) : Nat → Nat → (Nat → Int32) → Int32 → ((Nat → Int32) × Int32)
  | 0, _, _, _ => ((fun _ => 0), 0)
  | fu + 1, k, vf, vb =>
    if (nI 32) ≤ (nI k) then
      (vf, vb)
    else
      if vb ≤ 0 then
        (vf, vb)
      else
        f_SF_putBlock_ns_l3 np bk fu (k + 1) (f_Bl_set 512 vf (nI 32) bk (nI k) (f_Bl_get 32 np (nI 32) 0 (nI k))) (vb - 1)
def f_SF_putBlock_ns (sl : Nat → Int32) (np : Nat → Int32) (bl : Int32) (bk : Int32) : ((Nat → Int32) × Int32) :=
  f_SF_putBlock_ns_l3 np bk (32 + 1) 0 sl bl
set_option maxHeartbeats 1000000 in
set_option maxRecDepth 100000 in
/-- putBlock -/
theorem c_SF_putBlock_ns (l : Launch) (D : va_G) (cI cZ cJ : ClassId) (q : Nat → Nat) (fl : Nat → Int32) (sl : Nat → Int32) (tb : Nat → Int32) (np : Nat → Int32) (nt : Nat → Int32) (cp : Nat → Int32) (cc : Int32) (cb : Int32) (ch : Int32) (cm : Int32) (mp : Nat → Int32) (mc : Int32) (mb : Int32) (mh : Int32) (mm : Int32) (us : Nat → Int32) (ta : Nat → Int32) (tp : Nat → Int32) (tl : Int32) (cu : Int32) (bl : Int32) (pf : Int32) (sh : Int32) (bk : Int32) : sf_M (S := ((Nat → Int32) × Int32)) l D classes (sf_tys cI cZ cJ) y_SF_putBlock (sf_ws y_SF_putBlock b_SF_putBlock 5 none) 1 24 [.ref (q 0), .ref (q 7), .ref (q 3), .int bk] (sf_w q cI cZ fl sl tb np nt cp cc cb ch cm mp mc mb mh mm us ta tp tl cu bl pf sh) (fun _ => none) (fun r => r = f_SF_putBlock_ns sl np bl bk) (fun r => (sf_w q cI cZ fl r.1 tb np nt cp cc cb ch cm mp mc mb mh mm us ta tp tl cu r.2 pf sh)) := by
  refine sf_ofW (S := ((Nat → Int32) × Int32)) (by decide) (Nat.le_of_ble_eq_true rfl) ?_
  intro p e s m below meth c A ls R args Q hR hArgs hQ hC0 hr hK hP hD hl
  obtain ⟨hx, hb, hml, hown, hts, hA, hlk⟩ := hC0
  have hS : va_S A s.heap s.heap [] := va_S.rf
  have hl : lv_has ls 5 [(0, .ref (q 0)), (1, .ref (q 7)), (2, .ref (q 3)), (3, .int bk)] := hl
  refine lv_iconst (v := 0) hx hb d_SF_putBlock_0 (by decide) ?_
  refine lv_istore (lv' := [(4, .int 0), (0, .ref (q 0)), (1, .ref (q 7)), (2, .ref (q 3)), (3, .int bk)]) hx hb d_SF_putBlock_1 hl (by decide) rfl (fun ls hl => ?_)
  have loop3 : ∀ (fu k : Nat) (vf : (Nat → Int32)) (vb : Int32), k ≤ 32 → k + fu = 32 + 1 → f_SF_putBlock_ns_l3 np bk fu k vf vb = f_SF_putBlock_ns sl np bl bk → ∀ (H : Heap) (locs : List Loc), va_P D classes (sf_w q cI cZ fl vf tb np nt cp cc cb ch cm mp mc mb mh mm us ta tp tl cu vb pf sh) H → va_D A (sf_w q cI cZ fl vf tb np nt cp cc cb ch cm mp mc mb mh mm us ta tp tl cu vb pf sh) → va_S A s.heap H locs → ∀ (ls : Array Slot), lv_has ls 5 [(0, .ref (q 0)), (1, .ref (q 7)), (2, .ref (q 3)), (3, .int bk), (4, .int (nI k))] → W p l e R s m args below meth c H locs 0 0 Q (F0 m 3 ls []) := by
    intro fu
    induction fu with
    | zero =>
      intro k vf vb h1 h2
      exact absurd h2 (by omega)
    | succ fu ih3 =>
      intro k vf vb hk3 hkn3 heq3 H locs hP hD hS ls hl
      refine lv_iload hx hb d_SF_putBlock_3 (lv_at hl 4 rfl) ?_
      refine lv_aload_n hx hb d_SF_putBlock_5 rfl (lv_at hl 1 rfl) ?_
      refine va_get (D := D) (ci := 0) (v := .int (nI 32)) (C := R_Bl) (T := F_Bl) (N := 2) hx hb hts i_Bl hown hK hP 7 rfl rfl 1 (by decide) (hts _ wd_79) (fun _ h9 => h9) rfl d_SF_putBlock_6 ?_
      refine lv_icmp_ge (tgt := 49) hx hb d_SF_putBlock_9 (by decide) (fun c_1 => ?_) (fun c_1 => ?_)
      · rw [hQ]
        exact sf_vret (vf, vb) hx hb hr hlk hS rfl (by rw [← heq3]; simp only [f_SF_putBlock_ns_l3, eq_true c_1, ↓reduceIte]) hP d_SF_putBlock_49
      · have hlt : k < 32 := sf_lt_of (N := 32) (by omega) (by omega) c_1
        refine lv_aload_n hx hb d_SF_putBlock_12 rfl (lv_at hl 0 rfl) ?_
        refine va_get (D := D) (ci := 2) (v := .int vb) (C := R_SF) (T := F_SF) (N := 15) hx hb hts i_SF hown hK hP 0 rfl rfl 12 (by decide) (hts _ wd_121) (fun _ h9 => h9) rfl d_SF_putBlock_13 ?_
        refine lv_if_le (tgt := 49) hx hb d_SF_putBlock_16 (by decide) (fun c_2 => ?_) (fun c_2 => ?_)
        · rw [hQ]
          exact sf_vret (vf, vb) hx hb hr hlk hS rfl (by rw [← heq3]; simp only [f_SF_putBlock_ns_l3, eq_false c_1, eq_true c_2, ↓reduceIte]) hP d_SF_putBlock_49
        · refine lv_aload_n hx hb d_SF_putBlock_19 rfl (lv_at hl 2 rfl) ?_
          refine lv_iload_n hx hb d_SF_putBlock_20 rfl (lv_at hl 3 rfl) ?_
          refine lv_iload hx hb d_SF_putBlock_21 (lv_at hl 4 rfl) ?_
          refine lv_aload_n hx hb d_SF_putBlock_23 rfl (lv_at hl 1 rfl) ?_
          refine lv_iconst (v := 0) hx hb d_SF_putBlock_24 (by decide) ?_
          refine lv_iload hx hb d_SF_putBlock_25 (lv_at hl 4 rfl) ?_
          refine sf_callVr (S := Int32) (rest := [.int (nI k), .int bk, .ref (q 3)]) ⟨hx, hb, hml, hown, hts⟩ (c_Bl_get l D cI cZ cJ (q 7) (q 8) 32 np (nI 32) 0 (nI k) (by omega)) (sf_cwV lk_SF_203 hts (fun _ h => h) (by rw [hR]; exact ⟨Nat.le_of_ble_eq_true rfl, Nat.le_of_ble_eq_true rfl⟩)) hK hP hD hS hA [7, 8] rfl rfl (fun _ => rfl) (ci := 0) (q0 := 0) rfl rfl rfl rfl rfl hl.1 (Nat.le_of_ble_eq_true rfl) d_SF_putBlock_27 ⟨Nat.zero_le _, Nat.zero_le _⟩ (fun u_3 H locs hu_3 hP hS => ?_)
          refine sf_callV (S := (Nat → Int32)) (rest := []) ⟨hx, hb, hml, hown, hts⟩ (c_Bl_set l D cI cZ cJ (q 3) (q 4) 512 vf (nI 32) bk (nI k) u_3 (by omega)) (sf_cwV lk_SF_209 hts (fun _ h => h) (by rw [hR]; exact ⟨Nat.le_of_ble_eq_true rfl, Nat.le_of_ble_eq_true rfl⟩)) hK hP hD hS hA [3, 4] rfl rfl (fun _ => rfl) (ci := 0) (q0 := 0) rfl rfl rfl rfl rfl hl.1 (Nat.le_of_ble_eq_true rfl) d_SF_putBlock_30 ⟨Nat.zero_le _, Nat.zero_le _⟩ (fun u_4 H locs hu_4 hP hD hS => ?_)
          have hP : va_P D classes (sf_w q cI cZ fl u_4 tb np nt cp cc cb ch cm mp mc mb mh mm us ta tp tl cu vb pf sh) H := hP
          have hD : va_D A (sf_w q cI cZ fl u_4 tb np nt cp cc cb ch cm mp mc mb mh mm us ta tp tl cu vb pf sh) := hD
          refine lv_aload_n hx hb d_SF_putBlock_33 rfl (lv_at hl 0 rfl) ?_
          refine lv_dup hx hb d_SF_putBlock_34 rfl ?_
          refine va_get (D := D) (ci := 2) (v := .int vb) (C := R_SF) (T := F_SF) (N := 15) hx hb hts i_SF hown hK hP 0 rfl rfl 12 (by decide) (hts _ wd_121) (fun _ h9 => h9) rfl d_SF_putBlock_35 ?_
          refine lv_iconst (v := 1) hx hb d_SF_putBlock_38 (by decide) ?_
          refine lv_isub hx hb d_SF_putBlock_39 ?_
          refine va_put (D := D) (ci := 2) (v := .int (vb - 1)) (ty := .int) (C := R_SF) (T := F_SF) (N := 15) hx hb hts i_SF t_SF t_SF_ok n_SF hown hK hP hD hS 0 rfl rfl 12 (by decide) (hts _ wd_121) (fun _ h9 => h9) rfl (by decide +kernel) rfl rfl (Nat.le_of_ble_eq_true rfl) d_SF_putBlock_40 (fun H locs hP hD hS => ?_)
          have hP : va_P D classes (sf_w q cI cZ fl u_4 tb np nt cp cc cb ch cm mp mc mb mh mm us ta tp tl cu (vb - 1) pf sh) H := hP
          have hD : va_D A (sf_w q cI cZ fl u_4 tb np nt cp cc cb ch cm mp mc mb mh mm us ta tp tl cu (vb - 1) pf sh) := hD
          refine lv_iinc (v := (nI (k + 1))) (lv' := [(4, .int (nI (k + 1))), (0, .ref (q 0)), (1, .ref (q 7)), (2, .ref (q 3)), (3, .int bk)]) hx hb d_SF_putBlock_43 hl (k := 4) rfl (nI_1 k) (by decide) rfl (fun ls hl => ?_)
          refine lv_goto (tgt := 3) hx hb d_SF_putBlock_46 (by decide) ?_
          exact ih3 (k + 1) u_4 (vb - 1) (by omega) (by omega) (by rw [← heq3]; simp only [f_SF_putBlock_ns_l3, ← hu_3, ← hu_4, eq_false c_1, eq_false c_2, ↓reduceIte]) _ _ hP hD hS ls (lv_sub hl [1, 2, 3, 4, 0] rfl)
  exact loop3 (32 + 1) 0 sl bl (by omega) (by omega) (by simp only [f_SF_putBlock_ns, ↓reduceIte]) _ _ hP hD hS ls (lv_sub hl [1, 2, 3, 4, 0] rfl)
def f_SF_putBlock_tt_l3 (nt : Nat → Int32) (bk : Int32) : Nat → Nat → (Nat → Int32) → Int32 → ((Nat → Int32) × Int32)
  | 0, _, _, _ => ((fun _ => 0), 0)
  | fu + 1, k, vf, vb =>
    if (nI 40) ≤ (nI k) then
      (vf, vb)
    else
      if vb ≤ 0 then
        (vf, vb)
      else
        f_SF_putBlock_tt_l3 nt bk fu (k + 1) (f_Bl_set 80 vf (nI 40) bk (nI k) (f_Bl_get 40 nt (nI 40) 0 (nI k))) (vb - 1)
def f_SF_putBlock_tt (tb : Nat → Int32) (nt : Nat → Int32) (bl : Int32) (bk : Int32) : ((Nat → Int32) × Int32) :=
  f_SF_putBlock_tt_l3 nt bk (40 + 1) 0 tb bl
set_option maxHeartbeats 1000000 in
set_option maxRecDepth 100000 in
/-- putBlock -/
theorem c_SF_putBlock_tt (l : Launch) (D : va_G) (cI cZ cJ : ClassId) (q : Nat → Nat) (fl : Nat → Int32) (sl : Nat → Int32) (tb : Nat → Int32) (np : Nat → Int32) (nt : Nat → Int32) (cp : Nat → Int32) (cc : Int32) (cb : Int32) (ch : Int32) (cm : Int32) (mp : Nat → Int32) (mc : Int32) (mb : Int32) (mh : Int32) (mm : Int32) (us : Nat → Int32) (ta : Nat → Int32) (tp : Nat → Int32) (tl : Int32) (cu : Int32) (bl : Int32) (pf : Int32) (sh : Int32) (bk : Int32) : sf_M (S := ((Nat → Int32) × Int32)) l D classes (sf_tys cI cZ cJ) y_SF_putBlock (sf_ws y_SF_putBlock b_SF_putBlock 5 none) 1 24 [.ref (q 0), .ref (q 9), .ref (q 5), .int bk] (sf_w q cI cZ fl sl tb np nt cp cc cb ch cm mp mc mb mh mm us ta tp tl cu bl pf sh) (fun _ => none) (fun r => r = f_SF_putBlock_tt tb nt bl bk) (fun r => (sf_w q cI cZ fl sl r.1 np nt cp cc cb ch cm mp mc mb mh mm us ta tp tl cu r.2 pf sh)) := by
  refine sf_ofW (S := ((Nat → Int32) × Int32)) (by decide) (Nat.le_of_ble_eq_true rfl) ?_
  intro p e s m below meth c A ls R args Q hR hArgs hQ hC0 hr hK hP hD hl
  obtain ⟨hx, hb, hml, hown, hts, hA, hlk⟩ := hC0
  have hS : va_S A s.heap s.heap [] := va_S.rf
  have hl : lv_has ls 5 [(0, .ref (q 0)), (1, .ref (q 9)), (2, .ref (q 5)), (3, .int bk)] := hl
  refine lv_iconst (v := 0) hx hb d_SF_putBlock_0 (by decide) ?_
  refine lv_istore (lv' := [(4, .int 0), (0, .ref (q 0)), (1, .ref (q 9)), (2, .ref (q 5)), (3, .int bk)]) hx hb d_SF_putBlock_1 hl (by decide) rfl (fun ls hl => ?_)
  have loop3 : ∀ (fu k : Nat) (vf : (Nat → Int32)) (vb : Int32), k ≤ 40 → k + fu = 40 + 1 → f_SF_putBlock_tt_l3 nt bk fu k vf vb = f_SF_putBlock_tt tb nt bl bk → ∀ (H : Heap) (locs : List Loc), va_P D classes (sf_w q cI cZ fl sl vf np nt cp cc cb ch cm mp mc mb mh mm us ta tp tl cu vb pf sh) H → va_D A (sf_w q cI cZ fl sl vf np nt cp cc cb ch cm mp mc mb mh mm us ta tp tl cu vb pf sh) → va_S A s.heap H locs → ∀ (ls : Array Slot), lv_has ls 5 [(0, .ref (q 0)), (1, .ref (q 9)), (2, .ref (q 5)), (3, .int bk), (4, .int (nI k))] → W p l e R s m args below meth c H locs 0 0 Q (F0 m 3 ls []) := by
    intro fu
    induction fu with
    | zero =>
      intro k vf vb h1 h2
      exact absurd h2 (by omega)
    | succ fu ih3 =>
      intro k vf vb hk3 hkn3 heq3 H locs hP hD hS ls hl
      refine lv_iload hx hb d_SF_putBlock_3 (lv_at hl 4 rfl) ?_
      refine lv_aload_n hx hb d_SF_putBlock_5 rfl (lv_at hl 1 rfl) ?_
      refine va_get (D := D) (ci := 0) (v := .int (nI 40)) (C := R_Bl) (T := F_Bl) (N := 2) hx hb hts i_Bl hown hK hP 9 rfl rfl 1 (by decide) (hts _ wd_79) (fun _ h9 => h9) rfl d_SF_putBlock_6 ?_
      refine lv_icmp_ge (tgt := 49) hx hb d_SF_putBlock_9 (by decide) (fun c_1 => ?_) (fun c_1 => ?_)
      · rw [hQ]
        exact sf_vret (vf, vb) hx hb hr hlk hS rfl (by rw [← heq3]; simp only [f_SF_putBlock_tt_l3, eq_true c_1, ↓reduceIte]) hP d_SF_putBlock_49
      · have hlt : k < 40 := sf_lt_of (N := 40) (by omega) (by omega) c_1
        refine lv_aload_n hx hb d_SF_putBlock_12 rfl (lv_at hl 0 rfl) ?_
        refine va_get (D := D) (ci := 2) (v := .int vb) (C := R_SF) (T := F_SF) (N := 15) hx hb hts i_SF hown hK hP 0 rfl rfl 12 (by decide) (hts _ wd_121) (fun _ h9 => h9) rfl d_SF_putBlock_13 ?_
        refine lv_if_le (tgt := 49) hx hb d_SF_putBlock_16 (by decide) (fun c_2 => ?_) (fun c_2 => ?_)
        · rw [hQ]
          exact sf_vret (vf, vb) hx hb hr hlk hS rfl (by rw [← heq3]; simp only [f_SF_putBlock_tt_l3, eq_false c_1, eq_true c_2, ↓reduceIte]) hP d_SF_putBlock_49
        · refine lv_aload_n hx hb d_SF_putBlock_19 rfl (lv_at hl 2 rfl) ?_
          refine lv_iload_n hx hb d_SF_putBlock_20 rfl (lv_at hl 3 rfl) ?_
          refine lv_iload hx hb d_SF_putBlock_21 (lv_at hl 4 rfl) ?_
          refine lv_aload_n hx hb d_SF_putBlock_23 rfl (lv_at hl 1 rfl) ?_
          refine lv_iconst (v := 0) hx hb d_SF_putBlock_24 (by decide) ?_
          refine lv_iload hx hb d_SF_putBlock_25 (lv_at hl 4 rfl) ?_
          refine sf_callVr (S := Int32) (rest := [.int (nI k), .int bk, .ref (q 5)]) ⟨hx, hb, hml, hown, hts⟩ (c_Bl_get l D cI cZ cJ (q 9) (q 10) 40 nt (nI 40) 0 (nI k) (by omega)) (sf_cwV lk_SF_203 hts (fun _ h => h) (by rw [hR]; exact ⟨Nat.le_of_ble_eq_true rfl, Nat.le_of_ble_eq_true rfl⟩)) hK hP hD hS hA [9, 10] rfl rfl (fun _ => rfl) (ci := 0) (q0 := 0) rfl rfl rfl rfl rfl hl.1 (Nat.le_of_ble_eq_true rfl) d_SF_putBlock_27 ⟨Nat.zero_le _, Nat.zero_le _⟩ (fun u_3 H locs hu_3 hP hS => ?_)
          refine sf_callV (S := (Nat → Int32)) (rest := []) ⟨hx, hb, hml, hown, hts⟩ (c_Bl_set l D cI cZ cJ (q 5) (q 6) 80 vf (nI 40) bk (nI k) u_3 (by omega)) (sf_cwV lk_SF_209 hts (fun _ h => h) (by rw [hR]; exact ⟨Nat.le_of_ble_eq_true rfl, Nat.le_of_ble_eq_true rfl⟩)) hK hP hD hS hA [5, 6] rfl rfl (fun _ => rfl) (ci := 0) (q0 := 0) rfl rfl rfl rfl rfl hl.1 (Nat.le_of_ble_eq_true rfl) d_SF_putBlock_30 ⟨Nat.zero_le _, Nat.zero_le _⟩ (fun u_4 H locs hu_4 hP hD hS => ?_)
          have hP : va_P D classes (sf_w q cI cZ fl sl u_4 np nt cp cc cb ch cm mp mc mb mh mm us ta tp tl cu vb pf sh) H := hP
          have hD : va_D A (sf_w q cI cZ fl sl u_4 np nt cp cc cb ch cm mp mc mb mh mm us ta tp tl cu vb pf sh) := hD
          refine lv_aload_n hx hb d_SF_putBlock_33 rfl (lv_at hl 0 rfl) ?_
          refine lv_dup hx hb d_SF_putBlock_34 rfl ?_
          refine va_get (D := D) (ci := 2) (v := .int vb) (C := R_SF) (T := F_SF) (N := 15) hx hb hts i_SF hown hK hP 0 rfl rfl 12 (by decide) (hts _ wd_121) (fun _ h9 => h9) rfl d_SF_putBlock_35 ?_
          refine lv_iconst (v := 1) hx hb d_SF_putBlock_38 (by decide) ?_
          refine lv_isub hx hb d_SF_putBlock_39 ?_
          refine va_put (D := D) (ci := 2) (v := .int (vb - 1)) (ty := .int) (C := R_SF) (T := F_SF) (N := 15) hx hb hts i_SF t_SF t_SF_ok n_SF hown hK hP hD hS 0 rfl rfl 12 (by decide) (hts _ wd_121) (fun _ h9 => h9) rfl (by decide +kernel) rfl rfl (Nat.le_of_ble_eq_true rfl) d_SF_putBlock_40 (fun H locs hP hD hS => ?_)
          have hP : va_P D classes (sf_w q cI cZ fl sl u_4 np nt cp cc cb ch cm mp mc mb mh mm us ta tp tl cu (vb - 1) pf sh) H := hP
          have hD : va_D A (sf_w q cI cZ fl sl u_4 np nt cp cc cb ch cm mp mc mb mh mm us ta tp tl cu (vb - 1) pf sh) := hD
          refine lv_iinc (v := (nI (k + 1))) (lv' := [(4, .int (nI (k + 1))), (0, .ref (q 0)), (1, .ref (q 9)), (2, .ref (q 5)), (3, .int bk)]) hx hb d_SF_putBlock_43 hl (k := 4) rfl (nI_1 k) (by decide) rfl (fun ls hl => ?_)
          refine lv_goto (tgt := 3) hx hb d_SF_putBlock_46 (by decide) ?_
          exact ih3 (k + 1) u_4 (vb - 1) (by omega) (by omega) (by rw [← heq3]; simp only [f_SF_putBlock_tt_l3, ← hu_3, ← hu_4, eq_false c_1, eq_false c_2, ↓reduceIte]) _ _ hP hD hS ls (lv_sub hl [1, 2, 3, 4, 0] rfl)
  exact loop3 (40 + 1) 0 tb bl (by omega) (by omega) (by simp only [f_SF_putBlock_tt, ↓reduceIte]) _ _ hP hD hS ls (lv_sub hl [1, 2, 3, 4, 0] rfl)
def f_SF_putPlace_f (fl : Nat → Int32) (np : Nat → Int32) (bl : Int32) (bk : Int32) : ((Nat → Int32) × (Nat → Int32) × Int32) :=
  ((f_SF_setSum 32 np 28), (f_SF_putBlock_nf fl (f_SF_setSum 32 np 28) bl bk).1, (f_SF_putBlock_nf fl (f_SF_setSum 32 np 28) bl bk).2)
set_option maxHeartbeats 1000000 in
set_option maxRecDepth 100000 in
/-- putPlace -/
theorem c_SF_putPlace_f (l : Launch) (D : va_G) (cI cZ cJ : ClassId) (q : Nat → Nat) (fl : Nat → Int32) (sl : Nat → Int32) (tb : Nat → Int32) (np : Nat → Int32) (nt : Nat → Int32) (cp : Nat → Int32) (cc : Int32) (cb : Int32) (ch : Int32) (cm : Int32) (mp : Nat → Int32) (mc : Int32) (mb : Int32) (mh : Int32) (mm : Int32) (us : Nat → Int32) (ta : Nat → Int32) (tp : Nat → Int32) (tl : Int32) (cu : Int32) (bl : Int32) (pf : Int32) (sh : Int32) (bk : Int32) : sf_M (S := ((Nat → Int32) × (Nat → Int32) × Int32)) l D classes (sf_tys cI cZ cJ) y_SF_putPlace (sf_ws y_SF_putPlace b_SF_putPlace 3 none) 2 49 [.ref (q 0), .ref (q 1), .int bk] (sf_w q cI cZ fl sl tb np nt cp cc cb ch cm mp mc mb mh mm us ta tp tl cu bl pf sh) (fun _ => none) (fun r => r = f_SF_putPlace_f fl np bl bk) (fun r => (sf_w q cI cZ r.2.1 sl tb r.1 nt cp cc cb ch cm mp mc mb mh mm us ta tp tl cu r.2.2 pf sh)) := by
  refine sf_ofW (S := ((Nat → Int32) × (Nat → Int32) × Int32)) (by decide) (Nat.le_of_ble_eq_true rfl) ?_
  intro p e s m below meth c A ls R args Q hR hArgs hQ hC0 hr hK hP hD hl
  obtain ⟨hx, hb, hml, hown, hts, hA, hlk⟩ := hC0
  have hS : va_S A s.heap s.heap [] := va_S.rf
  have hl : lv_has ls 3 [(0, .ref (q 0)), (1, .ref (q 1)), (2, .int bk)] := hl
  refine lv_aload_n hx hb d_SF_putPlace_0 rfl (lv_at hl 0 rfl) ?_
  refine va_get (D := D) (ci := 2) (v := .ref (q 7)) (C := R_SF) (T := F_SF) (N := 15) hx hb hts i_SF hown hK hP 0 rfl rfl 3 (by decide) (hts _ wd_112) (fun _ h9 => h9) rfl d_SF_putPlace_1 ?_
  refine sf_callS (S := (Nat → Int32)) (rest := []) ⟨hx, hb, hml, hown, hts⟩ (c_SF_setSum l D cI cZ cJ (q 7) (q 8) 32 np 28 (by omega) (by omega)) (sf_cwS lk_SF_267 hts (fun _ h => h) (by rw [hR]; exact ⟨Nat.le_of_ble_eq_true rfl, Nat.le_of_ble_eq_true rfl⟩)) hK hP hD hS hA [7, 8] rfl rfl (fun _ => rfl) rfl rfl hl.1 (Nat.le_of_ble_eq_true rfl) d_SF_putPlace_4 ⟨Nat.zero_le _, Nat.zero_le _⟩ (fun u_1 H locs hu_1 hP hD hS => ?_)
  have hP : va_P D classes (sf_w q cI cZ fl sl tb u_1 nt cp cc cb ch cm mp mc mb mh mm us ta tp tl cu bl pf sh) H := hP
  have hD : va_D A (sf_w q cI cZ fl sl tb u_1 nt cp cc cb ch cm mp mc mb mh mm us ta tp tl cu bl pf sh) := hD
  refine lv_aload_n hx hb d_SF_putPlace_7 rfl (lv_at hl 0 rfl) ?_
  refine lv_aload_n hx hb d_SF_putPlace_8 rfl (lv_at hl 0 rfl) ?_
  refine va_get (D := D) (ci := 2) (v := .ref (q 7)) (C := R_SF) (T := F_SF) (N := 15) hx hb hts i_SF hown hK hP 0 rfl rfl 3 (by decide) (hts _ wd_112) (fun _ h9 => h9) rfl d_SF_putPlace_9 ?_
  refine lv_aload_n hx hb d_SF_putPlace_12 rfl (lv_at hl 1 rfl) ?_
  refine lv_iload_n hx hb d_SF_putPlace_13 rfl (lv_at hl 2 rfl) ?_
  refine sf_callVw (S := ((Nat → Int32) × Int32)) (rest := []) ⟨hx, hb, hml, hown, hts⟩ (c_SF_putBlock_nf l D cI cZ cJ q fl sl tb u_1 nt cp cc cb ch cm mp mc mb mh mm us ta tp tl cu bl pf sh bk) (sf_cwV lk_SF_271 hts (fun _ h => h) (by rw [hR]; exact ⟨Nat.le_of_ble_eq_true rfl, Nat.le_of_ble_eq_true rfl⟩)) hK hP hD hS hA (fun _ => by simp only [sf_w_fst]) (ci := 2) (q0 := 0) rfl rfl rfl rfl rfl hl.1 (Nat.le_of_ble_eq_true rfl) d_SF_putPlace_14 ⟨Nat.zero_le _, Nat.zero_le _⟩ (fun u_2 H locs hu_2 hP hD hS => ?_)
  have hP : va_P D classes (sf_w q cI cZ u_2.1 sl tb u_1 nt cp cc cb ch cm mp mc mb mh mm us ta tp tl cu u_2.2 pf sh) H := hP
  have hD : va_D A (sf_w q cI cZ u_2.1 sl tb u_1 nt cp cc cb ch cm mp mc mb mh mm us ta tp tl cu u_2.2 pf sh) := hD
  rw [hQ]
  exact sf_vret (u_1, u_2.1, u_2.2) hx hb hr hlk hS rfl (by simp only [f_SF_putPlace_f, ← hu_1, ← hu_2, ↓reduceIte]) hP d_SF_putPlace_17
def f_SF_putPlace_s (sl : Nat → Int32) (np : Nat → Int32) (bl : Int32) (bk : Int32) : ((Nat → Int32) × (Nat → Int32) × Int32) :=
  ((f_SF_setSum 32 np 28), (f_SF_putBlock_ns sl (f_SF_setSum 32 np 28) bl bk).1, (f_SF_putBlock_ns sl (f_SF_setSum 32 np 28) bl bk).2)
set_option maxHeartbeats 1000000 in
set_option maxRecDepth 100000 in
/-- putPlace -/
theorem c_SF_putPlace_s (l : Launch) (D : va_G) (cI cZ cJ : ClassId) (q : Nat → Nat) (fl : Nat → Int32) (sl : Nat → Int32) (tb : Nat → Int32) (np : Nat → Int32) (nt : Nat → Int32) (cp : Nat → Int32) (cc : Int32) (cb : Int32) (ch : Int32) (cm : Int32) (mp : Nat → Int32) (mc : Int32) (mb : Int32) (mh : Int32) (mm : Int32) (us : Nat → Int32) (ta : Nat → Int32) (tp : Nat → Int32) (tl : Int32) (cu : Int32) (bl : Int32) (pf : Int32) (sh : Int32) (bk : Int32) : sf_M (S := ((Nat → Int32) × (Nat → Int32) × Int32)) l D classes (sf_tys cI cZ cJ) y_SF_putPlace (sf_ws y_SF_putPlace b_SF_putPlace 3 none) 2 49 [.ref (q 0), .ref (q 3), .int bk] (sf_w q cI cZ fl sl tb np nt cp cc cb ch cm mp mc mb mh mm us ta tp tl cu bl pf sh) (fun _ => none) (fun r => r = f_SF_putPlace_s sl np bl bk) (fun r => (sf_w q cI cZ fl r.2.1 tb r.1 nt cp cc cb ch cm mp mc mb mh mm us ta tp tl cu r.2.2 pf sh)) := by
  refine sf_ofW (S := ((Nat → Int32) × (Nat → Int32) × Int32)) (by decide) (Nat.le_of_ble_eq_true rfl) ?_
  intro p e s m below meth c A ls R args Q hR hArgs hQ hC0 hr hK hP hD hl
  obtain ⟨hx, hb, hml, hown, hts, hA, hlk⟩ := hC0
  have hS : va_S A s.heap s.heap [] := va_S.rf
  have hl : lv_has ls 3 [(0, .ref (q 0)), (1, .ref (q 3)), (2, .int bk)] := hl
  refine lv_aload_n hx hb d_SF_putPlace_0 rfl (lv_at hl 0 rfl) ?_
  refine va_get (D := D) (ci := 2) (v := .ref (q 7)) (C := R_SF) (T := F_SF) (N := 15) hx hb hts i_SF hown hK hP 0 rfl rfl 3 (by decide) (hts _ wd_112) (fun _ h9 => h9) rfl d_SF_putPlace_1 ?_
  refine sf_callS (S := (Nat → Int32)) (rest := []) ⟨hx, hb, hml, hown, hts⟩ (c_SF_setSum l D cI cZ cJ (q 7) (q 8) 32 np 28 (by omega) (by omega)) (sf_cwS lk_SF_267 hts (fun _ h => h) (by rw [hR]; exact ⟨Nat.le_of_ble_eq_true rfl, Nat.le_of_ble_eq_true rfl⟩)) hK hP hD hS hA [7, 8] rfl rfl (fun _ => rfl) rfl rfl hl.1 (Nat.le_of_ble_eq_true rfl) d_SF_putPlace_4 ⟨Nat.zero_le _, Nat.zero_le _⟩ (fun u_1 H locs hu_1 hP hD hS => ?_)
  have hP : va_P D classes (sf_w q cI cZ fl sl tb u_1 nt cp cc cb ch cm mp mc mb mh mm us ta tp tl cu bl pf sh) H := hP
  have hD : va_D A (sf_w q cI cZ fl sl tb u_1 nt cp cc cb ch cm mp mc mb mh mm us ta tp tl cu bl pf sh) := hD
  refine lv_aload_n hx hb d_SF_putPlace_7 rfl (lv_at hl 0 rfl) ?_
  refine lv_aload_n hx hb d_SF_putPlace_8 rfl (lv_at hl 0 rfl) ?_
  refine va_get (D := D) (ci := 2) (v := .ref (q 7)) (C := R_SF) (T := F_SF) (N := 15) hx hb hts i_SF hown hK hP 0 rfl rfl 3 (by decide) (hts _ wd_112) (fun _ h9 => h9) rfl d_SF_putPlace_9 ?_
  refine lv_aload_n hx hb d_SF_putPlace_12 rfl (lv_at hl 1 rfl) ?_
  refine lv_iload_n hx hb d_SF_putPlace_13 rfl (lv_at hl 2 rfl) ?_
  refine sf_callVw (S := ((Nat → Int32) × Int32)) (rest := []) ⟨hx, hb, hml, hown, hts⟩ (c_SF_putBlock_ns l D cI cZ cJ q fl sl tb u_1 nt cp cc cb ch cm mp mc mb mh mm us ta tp tl cu bl pf sh bk) (sf_cwV lk_SF_271 hts (fun _ h => h) (by rw [hR]; exact ⟨Nat.le_of_ble_eq_true rfl, Nat.le_of_ble_eq_true rfl⟩)) hK hP hD hS hA (fun _ => by simp only [sf_w_fst]) (ci := 2) (q0 := 0) rfl rfl rfl rfl rfl hl.1 (Nat.le_of_ble_eq_true rfl) d_SF_putPlace_14 ⟨Nat.zero_le _, Nat.zero_le _⟩ (fun u_2 H locs hu_2 hP hD hS => ?_)
  have hP : va_P D classes (sf_w q cI cZ fl u_2.1 tb u_1 nt cp cc cb ch cm mp mc mb mh mm us ta tp tl cu u_2.2 pf sh) H := hP
  have hD : va_D A (sf_w q cI cZ fl u_2.1 tb u_1 nt cp cc cb ch cm mp mc mb mh mm us ta tp tl cu u_2.2 pf sh) := hD
  rw [hQ]
  exact sf_vret (u_1, u_2.1, u_2.2) hx hb hr hlk hS rfl (by simp only [f_SF_putPlace_s, ← hu_1, ← hu_2, ↓reduceIte]) hP d_SF_putPlace_17
def f_SF_preparePlaceFromTape_l59 (tp : Nat → Int32) (tl : Int32) (pk : Int32) : Nat → Nat → (Nat → Int32) → (Nat → Int32)
  | 0, _, _ => (fun _ => 0)
  | fu + 1, k, vn =>
    if 25 ≤ (nI k) then
      vn
    else
      if (if (tl - (pk * 25)) < 25 then (tl - (pk * 25)) else 25) ≤ (nI k) then
        f_SF_preparePlaceFromTape_l59 tp tl pk fu (k + 1) (f_Bl_set 32 vn (nI 32) 0 (3 + (nI k)) 0)
      else
        f_SF_preparePlaceFromTape_l59 tp tl pk fu (k + 1) (f_Bl_set 32 vn (nI 32) 0 (3 + (nI k)) (f_SF_tapeAt tp tl ((pk * 25) + (nI k))))
def f_SF_preparePlaceFromTape (np : Nat → Int32) (ta : Nat → Int32) (tp : Nat → Int32) (tl : Int32) (pk : Int32) (pn : Int32) (mo : Int32) : (Nat → Int32) :=
  f_SF_preparePlaceFromTape_l59 tp tl pk (25 + 1) 0 (f_Bl_set 32 (f_Bl_set 32 (f_Bl_set 32 np (nI 32) 0 0 (f_SF_linkBehind ta pk pn)) (nI 32) 0 1 (if (tl - (pk * 25)) < 25 then (tl - (pk * 25)) else 25)) (nI 32) 0 2 mo)
set_option maxHeartbeats 1000000 in
set_option maxRecDepth 100000 in
/-- preparePlaceFromTape -/
theorem c_SF_preparePlaceFromTape (l : Launch) (D : va_G) (cI cZ cJ : ClassId) (q : Nat → Nat) (fl : Nat → Int32) (sl : Nat → Int32) (tb : Nat → Int32) (np : Nat → Int32) (nt : Nat → Int32) (cp : Nat → Int32) (cc : Int32) (cb : Int32) (ch : Int32) (cm : Int32) (mp : Nat → Int32) (mc : Int32) (mb : Int32) (mh : Int32) (mm : Int32) (us : Nat → Int32) (ta : Nat → Int32) (tp : Nat → Int32) (tl : Int32) (cu : Int32) (bl : Int32) (pf : Int32) (sh : Int32) (pk : Int32) (pn : Int32) (mo : Int32) : sf_M (S := (Nat → Int32)) l D classes (sf_tys cI cZ cJ) y_SF_preparePlaceFromTape (sf_ws y_SF_preparePlaceFromTape b_SF_preparePlaceFromTape 7 none) 2 43 [.ref (q 0), .int pk, .int pn, .int mo] (sf_w q cI cZ fl sl tb np nt cp cc cb ch cm mp mc mb mh mm us ta tp tl cu bl pf sh) (fun _ => none) (fun r => r = f_SF_preparePlaceFromTape np ta tp tl pk pn mo) (fun r => (sf_w q cI cZ fl sl tb r nt cp cc cb ch cm mp mc mb mh mm us ta tp tl cu bl pf sh)) := by
  refine sf_ofW (S := (Nat → Int32)) (by decide) (Nat.le_of_ble_eq_true rfl) ?_
  intro p e s m below meth c A ls R args Q hR hArgs hQ hC0 hr hK hP hD hl
  obtain ⟨hx, hb, hml, hown, hts, hA, hlk⟩ := hC0
  have hS : va_S A s.heap s.heap [] := va_S.rf
  have hl : lv_has ls 7 [(0, .ref (q 0)), (1, .int pk), (2, .int pn), (3, .int mo)] := hl
  refine lv_iload_n hx hb d_SF_preparePlaceFromTape_0 rfl (lv_at hl 1 rfl) ?_
  refine lv_bipush (v := 25) hx hb d_SF_preparePlaceFromTape_1 (by decide) ?_
  refine lv_imul hx hb d_SF_preparePlaceFromTape_3 ?_
  refine lv_istore (lv' := [(4, .int (pk * 25)), (0, .ref (q 0)), (1, .int pk), (2, .int pn), (3, .int mo)]) hx hb d_SF_preparePlaceFromTape_4 hl (by decide) rfl (fun ls hl => ?_)
  refine lv_bipush (v := 25) hx hb d_SF_preparePlaceFromTape_6 (by decide) ?_
  refine lv_aload_n hx hb d_SF_preparePlaceFromTape_8 rfl (lv_at hl 1 rfl) ?_
  refine va_get (D := D) (ci := 2) (v := .int tl) (C := R_SF) (T := F_SF) (N := 15) hx hb hts i_SF hown hK hP 0 rfl rfl 10 (by decide) (hts _ wd_119) (fun _ h9 => h9) rfl d_SF_preparePlaceFromTape_9 ?_
  refine lv_iload hx hb d_SF_preparePlaceFromTape_12 (lv_at hl 0 rfl) ?_
  refine lv_isub hx hb d_SF_preparePlaceFromTape_14 ?_
  refine va_mmin hx hb (by rw [hml]; exact hl.1.symm) hown (hts _ wd_397) (hts _ wd_398) (hts _ wd_62) (hts _ wd_399) (by rw [hR]; exact Nat.le_of_ble_eq_true rfl) (by rw [hR]; exact Nat.le_of_ble_eq_true rfl) (Nat.zero_le _) (Nat.zero_le _) d_SF_preparePlaceFromTape_15 ?_
  refine lv_topi (fun u_1 hu_1 => ?_)
  refine lv_istore (lv' := [(5, .int u_1), (4, .int (pk * 25)), (0, .ref (q 0)), (1, .int pk), (2, .int pn), (3, .int mo)]) hx hb d_SF_preparePlaceFromTape_18 hl (by decide) rfl (fun ls hl => ?_)
  refine lv_aload_n hx hb d_SF_preparePlaceFromTape_20 rfl (lv_at hl 2 rfl) ?_
  refine va_get (D := D) (ci := 2) (v := .ref (q 7)) (C := R_SF) (T := F_SF) (N := 15) hx hb hts i_SF hown hK hP 0 rfl rfl 3 (by decide) (hts _ wd_112) (fun _ h9 => h9) rfl d_SF_preparePlaceFromTape_21 ?_
  refine lv_iconst (v := 0) hx hb d_SF_preparePlaceFromTape_24 (by decide) ?_
  refine lv_iconst (v := 0) hx hb d_SF_preparePlaceFromTape_25 (by decide) ?_
  refine lv_aload_n hx hb d_SF_preparePlaceFromTape_26 rfl (lv_at hl 2 rfl) ?_
  refine lv_iload_n hx hb d_SF_preparePlaceFromTape_27 rfl (lv_at hl 3 rfl) ?_
  refine lv_iload_n hx hb d_SF_preparePlaceFromTape_28 rfl (lv_at hl 4 rfl) ?_
  refine sf_callVw (S := Int32) (rest := [.int 0, .int 0, .ref (q 7)]) ⟨hx, hb, hml, hown, hts⟩ (c_SF_linkBehind l D cI cZ cJ q fl sl tb np nt cp cc cb ch cm mp mc mb mh mm us ta tp tl cu bl pf sh pk pn) (sf_cwV lk_SF_261 hts (fun _ h => h) (by rw [hR]; exact ⟨Nat.le_of_ble_eq_true rfl, Nat.le_of_ble_eq_true rfl⟩)) hK hP hD hS hA (fun _ => by simp only [sf_w_fst]) (ci := 2) (q0 := 0) rfl rfl rfl rfl rfl hl.1 (Nat.le_of_ble_eq_true rfl) d_SF_preparePlaceFromTape_29 ⟨Nat.zero_le _, Nat.zero_le _⟩ (fun u_2 H locs hu_2 hP hD hS => ?_)
  have hP : va_P D classes (sf_w q cI cZ fl sl tb np nt cp cc cb ch cm mp mc mb mh mm us ta tp tl cu bl pf sh) H := hP
  have hD : va_D A (sf_w q cI cZ fl sl tb np nt cp cc cb ch cm mp mc mb mh mm us ta tp tl cu bl pf sh) := hD
  refine sf_callV (S := (Nat → Int32)) (rest := []) ⟨hx, hb, hml, hown, hts⟩ (c_Bl_set l D cI cZ cJ (q 7) (q 8) 32 np (nI 32) 0 0 u_2 (by omega)) (sf_cwV lk_SF_209 hts (fun _ h => h) (by rw [hR]; exact ⟨Nat.le_of_ble_eq_true rfl, Nat.le_of_ble_eq_true rfl⟩)) hK hP hD hS hA [7, 8] rfl rfl (fun _ => rfl) (ci := 0) (q0 := 0) rfl rfl rfl rfl rfl hl.1 (Nat.le_of_ble_eq_true rfl) d_SF_preparePlaceFromTape_32 ⟨Nat.zero_le _, Nat.zero_le _⟩ (fun u_3 H locs hu_3 hP hD hS => ?_)
  have hP : va_P D classes (sf_w q cI cZ fl sl tb u_3 nt cp cc cb ch cm mp mc mb mh mm us ta tp tl cu bl pf sh) H := hP
  have hD : va_D A (sf_w q cI cZ fl sl tb u_3 nt cp cc cb ch cm mp mc mb mh mm us ta tp tl cu bl pf sh) := hD
  refine lv_aload_n hx hb d_SF_preparePlaceFromTape_35 rfl (lv_at hl 2 rfl) ?_
  refine va_get (D := D) (ci := 2) (v := .ref (q 7)) (C := R_SF) (T := F_SF) (N := 15) hx hb hts i_SF hown hK hP 0 rfl rfl 3 (by decide) (hts _ wd_112) (fun _ h9 => h9) rfl d_SF_preparePlaceFromTape_36 ?_
  refine lv_iconst (v := 0) hx hb d_SF_preparePlaceFromTape_39 (by decide) ?_
  refine lv_iconst (v := 1) hx hb d_SF_preparePlaceFromTape_40 (by decide) ?_
  refine lv_iload hx hb d_SF_preparePlaceFromTape_41 (lv_at hl 0 rfl) ?_
  refine sf_callV (S := (Nat → Int32)) (rest := []) ⟨hx, hb, hml, hown, hts⟩ (c_Bl_set l D cI cZ cJ (q 7) (q 8) 32 u_3 (nI 32) 0 1 u_1 (by omega)) (sf_cwV lk_SF_209 hts (fun _ h => h) (by rw [hR]; exact ⟨Nat.le_of_ble_eq_true rfl, Nat.le_of_ble_eq_true rfl⟩)) hK hP hD hS hA [7, 8] rfl rfl (fun _ => rfl) (ci := 0) (q0 := 0) rfl rfl rfl rfl rfl hl.1 (Nat.le_of_ble_eq_true rfl) d_SF_preparePlaceFromTape_43 ⟨Nat.zero_le _, Nat.zero_le _⟩ (fun u_4 H locs hu_4 hP hD hS => ?_)
  have hP : va_P D classes (sf_w q cI cZ fl sl tb u_4 nt cp cc cb ch cm mp mc mb mh mm us ta tp tl cu bl pf sh) H := hP
  have hD : va_D A (sf_w q cI cZ fl sl tb u_4 nt cp cc cb ch cm mp mc mb mh mm us ta tp tl cu bl pf sh) := hD
  refine lv_aload_n hx hb d_SF_preparePlaceFromTape_46 rfl (lv_at hl 2 rfl) ?_
  refine va_get (D := D) (ci := 2) (v := .ref (q 7)) (C := R_SF) (T := F_SF) (N := 15) hx hb hts i_SF hown hK hP 0 rfl rfl 3 (by decide) (hts _ wd_112) (fun _ h9 => h9) rfl d_SF_preparePlaceFromTape_47 ?_
  refine lv_iconst (v := 0) hx hb d_SF_preparePlaceFromTape_50 (by decide) ?_
  refine lv_iconst (v := 2) hx hb d_SF_preparePlaceFromTape_51 (by decide) ?_
  refine lv_iload_n hx hb d_SF_preparePlaceFromTape_52 rfl (lv_at hl 5 rfl) ?_
  refine sf_callV (S := (Nat → Int32)) (rest := []) ⟨hx, hb, hml, hown, hts⟩ (c_Bl_set l D cI cZ cJ (q 7) (q 8) 32 u_4 (nI 32) 0 2 mo (by omega)) (sf_cwV lk_SF_209 hts (fun _ h => h) (by rw [hR]; exact ⟨Nat.le_of_ble_eq_true rfl, Nat.le_of_ble_eq_true rfl⟩)) hK hP hD hS hA [7, 8] rfl rfl (fun _ => rfl) (ci := 0) (q0 := 0) rfl rfl rfl rfl rfl hl.1 (Nat.le_of_ble_eq_true rfl) d_SF_preparePlaceFromTape_53 ⟨Nat.zero_le _, Nat.zero_le _⟩ (fun u_5 H locs hu_5 hP hD hS => ?_)
  have hP : va_P D classes (sf_w q cI cZ fl sl tb u_5 nt cp cc cb ch cm mp mc mb mh mm us ta tp tl cu bl pf sh) H := hP
  have hD : va_D A (sf_w q cI cZ fl sl tb u_5 nt cp cc cb ch cm mp mc mb mh mm us ta tp tl cu bl pf sh) := hD
  refine lv_iconst (v := 0) hx hb d_SF_preparePlaceFromTape_56 (by decide) ?_
  refine lv_istore (lv' := [(6, .int 0), (5, .int u_1), (4, .int (pk * 25)), (0, .ref (q 0)), (1, .int pk), (2, .int pn), (3, .int mo)]) hx hb d_SF_preparePlaceFromTape_57 hl (by decide) rfl (fun ls hl => ?_)
  have loop59 : ∀ (fu k : Nat) (vn : (Nat → Int32)), k ≤ 25 → k + fu = 25 + 1 → f_SF_preparePlaceFromTape_l59 tp tl pk fu k vn = f_SF_preparePlaceFromTape np ta tp tl pk pn mo → ∀ (H : Heap) (locs : List Loc), va_P D classes (sf_w q cI cZ fl sl tb vn nt cp cc cb ch cm mp mc mb mh mm us ta tp tl cu bl pf sh) H → va_D A (sf_w q cI cZ fl sl tb vn nt cp cc cb ch cm mp mc mb mh mm us ta tp tl cu bl pf sh) → va_S A s.heap H locs → ∀ (ls : Array Slot), lv_has ls 7 [(0, .ref (q 0)), (1, .int pk), (2, .int pn), (3, .int mo), (4, .int (pk * 25)), (5, .int u_1), (6, .int (nI k))] → W p l e R s m args below meth c H locs 0 0 Q (F0 m 59 ls []) := by
    intro fu
    induction fu with
    | zero =>
      intro k vn h1 h2
      exact absurd h2 (by omega)
    | succ fu ih59 =>
      intro k vn hk59 hkn59 heq59 H locs hP hD hS ls hl
      refine lv_iload hx hb d_SF_preparePlaceFromTape_59 (lv_at hl 6 rfl) ?_
      refine lv_bipush (v := 25) hx hb d_SF_preparePlaceFromTape_61 (by decide) ?_
      refine lv_icmp_ge (tgt := 104) hx hb d_SF_preparePlaceFromTape_63 (by decide) (fun c_6 => ?_) (fun c_6 => ?_)
      · rw [hQ]
        exact sf_vret vn hx hb hr hlk hS rfl (by rw [← heq59]; simp only [f_SF_preparePlaceFromTape_l59, ← hu_1, ← hu_2, ← hu_3, ← hu_4, ← hu_5, eq_true c_6, ↓reduceIte]) hP d_SF_preparePlaceFromTape_104
      · have hlt : k < 25 := sf_lt_of (N := 25) (by omega) (by omega) c_6
        refine lv_aload_n hx hb d_SF_preparePlaceFromTape_66 rfl (lv_at hl 0 rfl) ?_
        refine va_get (D := D) (ci := 2) (v := .ref (q 7)) (C := R_SF) (T := F_SF) (N := 15) hx hb hts i_SF hown hK hP 0 rfl rfl 3 (by decide) (hts _ wd_112) (fun _ h9 => h9) rfl d_SF_preparePlaceFromTape_67 ?_
        refine lv_iconst (v := 0) hx hb d_SF_preparePlaceFromTape_70 (by decide) ?_
        refine lv_iconst (v := 3) hx hb d_SF_preparePlaceFromTape_71 (by decide) ?_
        refine lv_iload hx hb d_SF_preparePlaceFromTape_72 (lv_at hl 6 rfl) ?_
        refine lv_iadd hx hb d_SF_preparePlaceFromTape_74 ?_
        refine lv_iload hx hb d_SF_preparePlaceFromTape_75 (lv_at hl 6 rfl) ?_
        refine lv_iload hx hb d_SF_preparePlaceFromTape_77 (lv_at hl 5 rfl) ?_
        refine lv_icmp_ge (tgt := 94) hx hb d_SF_preparePlaceFromTape_79 (by decide) (fun c_7 => ?_) (fun c_7 => ?_)
        · refine lv_iconst (v := 0) hx hb d_SF_preparePlaceFromTape_94 (by decide) ?_
          refine sf_callV (S := (Nat → Int32)) (rest := []) ⟨hx, hb, hml, hown, hts⟩ (c_Bl_set l D cI cZ cJ (q 7) (q 8) 32 vn (nI 32) 0 (3 + (nI k)) 0 (by omega)) (sf_cwV lk_SF_209 hts (fun _ h => h) (by rw [hR]; exact ⟨Nat.le_of_ble_eq_true rfl, Nat.le_of_ble_eq_true rfl⟩)) hK hP hD hS hA [7, 8] rfl rfl (fun _ => rfl) (ci := 0) (q0 := 0) rfl rfl rfl rfl rfl hl.1 (Nat.le_of_ble_eq_true rfl) d_SF_preparePlaceFromTape_95 ⟨Nat.zero_le _, Nat.zero_le _⟩ (fun u_8 H locs hu_8 hP hD hS => ?_)
          have hP : va_P D classes (sf_w q cI cZ fl sl tb u_8 nt cp cc cb ch cm mp mc mb mh mm us ta tp tl cu bl pf sh) H := hP
          have hD : va_D A (sf_w q cI cZ fl sl tb u_8 nt cp cc cb ch cm mp mc mb mh mm us ta tp tl cu bl pf sh) := hD
          refine lv_iinc (v := (nI (k + 1))) (lv' := [(6, .int (nI (k + 1))), (0, .ref (q 0)), (1, .int pk), (2, .int pn), (3, .int mo), (4, .int (pk * 25)), (5, .int u_1)]) hx hb d_SF_preparePlaceFromTape_98 hl (k := 6) rfl (nI_1 k) (by decide) rfl (fun ls hl => ?_)
          refine lv_goto (tgt := 59) hx hb d_SF_preparePlaceFromTape_101 (by decide) ?_
          exact ih59 (k + 1) u_8 (by omega) (by omega) (by rw [← heq59]; simp only [f_SF_preparePlaceFromTape_l59, ← hu_1, ← hu_2, ← hu_3, ← hu_4, ← hu_5, ← hu_8, eq_false c_6, eq_true c_7, ↓reduceIte]) _ _ hP hD hS ls (lv_sub hl [1, 2, 3, 4, 5, 6, 0] rfl)
        · refine lv_aload_n hx hb d_SF_preparePlaceFromTape_82 rfl (lv_at hl 0 rfl) ?_
          refine lv_iload hx hb d_SF_preparePlaceFromTape_83 (lv_at hl 4 rfl) ?_
          refine lv_iload hx hb d_SF_preparePlaceFromTape_85 (lv_at hl 6 rfl) ?_
          refine lv_iadd hx hb d_SF_preparePlaceFromTape_87 ?_
          refine sf_callVw (S := Int32) (rest := [.int (3 + (nI k)), .int 0, .ref (q 7)]) ⟨hx, hb, hml, hown, hts⟩ (c_SF_tapeAt l D cI cZ cJ q fl sl tb vn nt cp cc cb ch cm mp mc mb mh mm us ta tp tl cu bl pf sh ((pk * 25) + (nI k))) (sf_cwV lk_SF_264 hts (fun _ h => h) (by rw [hR]; exact ⟨Nat.le_of_ble_eq_true rfl, Nat.le_of_ble_eq_true rfl⟩)) hK hP hD hS hA (fun _ => by simp only [sf_w_fst]) (ci := 2) (q0 := 0) rfl rfl rfl rfl rfl hl.1 (Nat.le_of_ble_eq_true rfl) d_SF_preparePlaceFromTape_88 ⟨Nat.zero_le _, Nat.zero_le _⟩ (fun u_9 H locs hu_9 hP hD hS => ?_)
          have hP : va_P D classes (sf_w q cI cZ fl sl tb vn nt cp cc cb ch cm mp mc mb mh mm us ta tp tl cu bl pf sh) H := hP
          have hD : va_D A (sf_w q cI cZ fl sl tb vn nt cp cc cb ch cm mp mc mb mh mm us ta tp tl cu bl pf sh) := hD
          refine lv_goto (tgt := 95) hx hb d_SF_preparePlaceFromTape_91 (by decide) ?_
          refine sf_callV (S := (Nat → Int32)) (rest := []) ⟨hx, hb, hml, hown, hts⟩ (c_Bl_set l D cI cZ cJ (q 7) (q 8) 32 vn (nI 32) 0 (3 + (nI k)) u_9 (by omega)) (sf_cwV lk_SF_209 hts (fun _ h => h) (by rw [hR]; exact ⟨Nat.le_of_ble_eq_true rfl, Nat.le_of_ble_eq_true rfl⟩)) hK hP hD hS hA [7, 8] rfl rfl (fun _ => rfl) (ci := 0) (q0 := 0) rfl rfl rfl rfl rfl hl.1 (Nat.le_of_ble_eq_true rfl) d_SF_preparePlaceFromTape_95 ⟨Nat.zero_le _, Nat.zero_le _⟩ (fun u_10 H locs hu_10 hP hD hS => ?_)
          have hP : va_P D classes (sf_w q cI cZ fl sl tb u_10 nt cp cc cb ch cm mp mc mb mh mm us ta tp tl cu bl pf sh) H := hP
          have hD : va_D A (sf_w q cI cZ fl sl tb u_10 nt cp cc cb ch cm mp mc mb mh mm us ta tp tl cu bl pf sh) := hD
          refine lv_iinc (v := (nI (k + 1))) (lv' := [(6, .int (nI (k + 1))), (0, .ref (q 0)), (1, .int pk), (2, .int pn), (3, .int mo), (4, .int (pk * 25)), (5, .int u_1)]) hx hb d_SF_preparePlaceFromTape_98 hl (k := 6) rfl (nI_1 k) (by decide) rfl (fun ls hl => ?_)
          refine lv_goto (tgt := 59) hx hb d_SF_preparePlaceFromTape_101 (by decide) ?_
          exact ih59 (k + 1) u_10 (by omega) (by omega) (by rw [← heq59]; simp only [f_SF_preparePlaceFromTape_l59, ← hu_1, ← hu_2, ← hu_3, ← hu_4, ← hu_5, ← hu_9, ← hu_10, eq_false c_6, eq_false c_7, ↓reduceIte]) _ _ hP hD hS ls (lv_sub hl [1, 2, 3, 4, 5, 6, 0] rfl)
  exact loop59 (25 + 1) 0 u_5 (by omega) (by omega) (by simp only [f_SF_preparePlaceFromTape, ← hu_1, ← hu_2, ← hu_3, ← hu_4, ← hu_5, ↓reduceIte]) _ _ hP hD hS ls (lv_sub hl [3, 4, 5, 6, 2, 1, 0] rfl)
def f_SF_preparePlaceFromChain_l23 (fl : Nat → Int32) (cp : Nat → Int32) (cc : Int32) (pk : Int32) : Nat → Nat → (Nat → Int32) → (Nat → Int32)
  | 0, _, _ => (fun _ => 0)
  | fu + 1, k, vn =>
    if 28 ≤ (nI (1 + k)) then
      vn
    else
      f_SF_preparePlaceFromChain_l23 fl cp cc pk fu (k + 1) (f_Bl_set 32 vn (nI 32) 0 (nI (1 + k)) (f_Bl_get 768 fl (nI 32) (f_Ch_placeAt cp cc pk) (nI (1 + k))))
def f_SF_preparePlaceFromChain (fl : Nat → Int32) (np : Nat → Int32) (cp : Nat → Int32) (cc : Int32) (ta : Nat → Int32) (pk : Int32) : (Nat → Int32) :=
  f_SF_preparePlaceFromChain_l23 fl cp cc pk (27 + 1) 0 (f_Bl_set 32 np (nI 32) 0 0 (f_SF_linkBehind ta pk cc))
set_option maxHeartbeats 1000000 in
set_option maxRecDepth 100000 in
/-- preparePlaceFromChain -/
theorem c_SF_preparePlaceFromChain (l : Launch) (D : va_G) (cI cZ cJ : ClassId) (q : Nat → Nat) (fl : Nat → Int32) (sl : Nat → Int32) (tb : Nat → Int32) (np : Nat → Int32) (nt : Nat → Int32) (cp : Nat → Int32) (cc : Int32) (cb : Int32) (ch : Int32) (cm : Int32) (mp : Nat → Int32) (mc : Int32) (mb : Int32) (mh : Int32) (mm : Int32) (us : Nat → Int32) (ta : Nat → Int32) (tp : Nat → Int32) (tl : Int32) (cu : Int32) (bl : Int32) (pf : Int32) (sh : Int32) (pk : Int32) : sf_M (S := (Nat → Int32)) l D classes (sf_tys cI cZ cJ) y_SF_preparePlaceFromChain (sf_ws y_SF_preparePlaceFromChain b_SF_preparePlaceFromChain 3 none) 2 43 [.ref (q 0), .int pk] (sf_w q cI cZ fl sl tb np nt cp cc cb ch cm mp mc mb mh mm us ta tp tl cu bl pf sh) (fun _ => none) (fun r => r = f_SF_preparePlaceFromChain fl np cp cc ta pk) (fun r => (sf_w q cI cZ fl sl tb r nt cp cc cb ch cm mp mc mb mh mm us ta tp tl cu bl pf sh)) := by
  refine sf_ofW (S := (Nat → Int32)) (by decide) (Nat.le_of_ble_eq_true rfl) ?_
  intro p e s m below meth c A ls R args Q hR hArgs hQ hC0 hr hK hP hD hl
  obtain ⟨hx, hb, hml, hown, hts, hA, hlk⟩ := hC0
  have hS : va_S A s.heap s.heap [] := va_S.rf
  have hl : lv_has ls 3 [(0, .ref (q 0)), (1, .int pk)] := hl
  refine lv_aload_n hx hb d_SF_preparePlaceFromChain_0 rfl (lv_at hl 0 rfl) ?_
  refine va_get (D := D) (ci := 2) (v := .ref (q 7)) (C := R_SF) (T := F_SF) (N := 15) hx hb hts i_SF hown hK hP 0 rfl rfl 3 (by decide) (hts _ wd_112) (fun _ h9 => h9) rfl d_SF_preparePlaceFromChain_1 ?_
  refine lv_iconst (v := 0) hx hb d_SF_preparePlaceFromChain_4 (by decide) ?_
  refine lv_iconst (v := 0) hx hb d_SF_preparePlaceFromChain_5 (by decide) ?_
  refine lv_aload_n hx hb d_SF_preparePlaceFromChain_6 rfl (lv_at hl 0 rfl) ?_
  refine lv_iload_n hx hb d_SF_preparePlaceFromChain_7 rfl (lv_at hl 1 rfl) ?_
  refine lv_aload_n hx hb d_SF_preparePlaceFromChain_8 rfl (lv_at hl 0 rfl) ?_
  refine va_get (D := D) (ci := 2) (v := .ref (q 11)) (C := R_SF) (T := F_SF) (N := 15) hx hb hts i_SF hown hK hP 0 rfl rfl 5 (by decide) (hts _ wd_114) (fun _ h9 => h9) rfl d_SF_preparePlaceFromChain_9 ?_
  refine va_get (D := D) (ci := 1) (v := .int cc) (C := R_Ch) (T := F_Ch) (N := 5) hx hb hts i_Ch hown hK hP 11 rfl rfl 1 (by decide) (hts _ wd_94) (fun _ h9 => h9) rfl d_SF_preparePlaceFromChain_12 ?_
  refine sf_callVw (S := Int32) (rest := [.int 0, .int 0, .ref (q 7)]) ⟨hx, hb, hml, hown, hts⟩ (c_SF_linkBehind l D cI cZ cJ q fl sl tb np nt cp cc cb ch cm mp mc mb mh mm us ta tp tl cu bl pf sh pk cc) (sf_cwV lk_SF_261 hts (fun _ h => h) (by rw [hR]; exact ⟨Nat.le_of_ble_eq_true rfl, Nat.le_of_ble_eq_true rfl⟩)) hK hP hD hS hA (fun _ => by simp only [sf_w_fst]) (ci := 2) (q0 := 0) rfl rfl rfl rfl rfl hl.1 (Nat.le_of_ble_eq_true rfl) d_SF_preparePlaceFromChain_15 ⟨Nat.zero_le _, Nat.zero_le _⟩ (fun u_1 H locs hu_1 hP hD hS => ?_)
  have hP : va_P D classes (sf_w q cI cZ fl sl tb np nt cp cc cb ch cm mp mc mb mh mm us ta tp tl cu bl pf sh) H := hP
  have hD : va_D A (sf_w q cI cZ fl sl tb np nt cp cc cb ch cm mp mc mb mh mm us ta tp tl cu bl pf sh) := hD
  refine sf_callV (S := (Nat → Int32)) (rest := []) ⟨hx, hb, hml, hown, hts⟩ (c_Bl_set l D cI cZ cJ (q 7) (q 8) 32 np (nI 32) 0 0 u_1 (by omega)) (sf_cwV lk_SF_209 hts (fun _ h => h) (by rw [hR]; exact ⟨Nat.le_of_ble_eq_true rfl, Nat.le_of_ble_eq_true rfl⟩)) hK hP hD hS hA [7, 8] rfl rfl (fun _ => rfl) (ci := 0) (q0 := 0) rfl rfl rfl rfl rfl hl.1 (Nat.le_of_ble_eq_true rfl) d_SF_preparePlaceFromChain_18 ⟨Nat.zero_le _, Nat.zero_le _⟩ (fun u_2 H locs hu_2 hP hD hS => ?_)
  have hP : va_P D classes (sf_w q cI cZ fl sl tb u_2 nt cp cc cb ch cm mp mc mb mh mm us ta tp tl cu bl pf sh) H := hP
  have hD : va_D A (sf_w q cI cZ fl sl tb u_2 nt cp cc cb ch cm mp mc mb mh mm us ta tp tl cu bl pf sh) := hD
  refine lv_iconst (v := 1) hx hb d_SF_preparePlaceFromChain_21 (by decide) ?_
  refine lv_istore_n (lv' := [(2, .int 1), (0, .ref (q 0)), (1, .int pk)]) hx hb d_SF_preparePlaceFromChain_22 rfl hl (by decide) rfl (fun ls hl => ?_)
  have loop23 : ∀ (fu k : Nat) (vn : (Nat → Int32)), k ≤ 27 → k + fu = 27 + 1 → f_SF_preparePlaceFromChain_l23 fl cp cc pk fu k vn = f_SF_preparePlaceFromChain fl np cp cc ta pk → ∀ (H : Heap) (locs : List Loc), va_P D classes (sf_w q cI cZ fl sl tb vn nt cp cc cb ch cm mp mc mb mh mm us ta tp tl cu bl pf sh) H → va_D A (sf_w q cI cZ fl sl tb vn nt cp cc cb ch cm mp mc mb mh mm us ta tp tl cu bl pf sh) → va_S A s.heap H locs → ∀ (ls : Array Slot), lv_has ls 3 [(0, .ref (q 0)), (1, .int pk), (2, .int (nI (1 + k)))] → W p l e R s m args below meth c H locs 0 0 Q (F0 m 23 ls []) := by
    intro fu
    induction fu with
    | zero =>
      intro k vn h1 h2
      exact absurd h2 (by omega)
    | succ fu ih23 =>
      intro k vn hk23 hkn23 heq23 H locs hP hD hS ls hl
      refine lv_iload_n hx hb d_SF_preparePlaceFromChain_23 rfl (lv_at hl 2 rfl) ?_
      refine lv_bipush (v := 28) hx hb d_SF_preparePlaceFromChain_24 (by decide) ?_
      refine lv_icmp_ge (tgt := 60) hx hb d_SF_preparePlaceFromChain_26 (by decide) (fun c_3 => ?_) (fun c_3 => ?_)
      · rw [hQ]
        exact sf_vret vn hx hb hr hlk hS rfl (by rw [← heq23]; simp only [f_SF_preparePlaceFromChain_l23, ← hu_1, ← hu_2, eq_true c_3, ↓reduceIte]) hP d_SF_preparePlaceFromChain_60
      · have hlt : k < 27 := by have := sf_lt_of (N := 28) (k := 1 + k) (by omega) (by omega) c_3; omega
        refine lv_aload_n hx hb d_SF_preparePlaceFromChain_29 rfl (lv_at hl 0 rfl) ?_
        refine va_get (D := D) (ci := 2) (v := .ref (q 7)) (C := R_SF) (T := F_SF) (N := 15) hx hb hts i_SF hown hK hP 0 rfl rfl 3 (by decide) (hts _ wd_112) (fun _ h9 => h9) rfl d_SF_preparePlaceFromChain_30 ?_
        refine lv_iconst (v := 0) hx hb d_SF_preparePlaceFromChain_33 (by decide) ?_
        refine lv_iload_n hx hb d_SF_preparePlaceFromChain_34 rfl (lv_at hl 2 rfl) ?_
        refine lv_aload_n hx hb d_SF_preparePlaceFromChain_35 rfl (lv_at hl 0 rfl) ?_
        refine va_get (D := D) (ci := 2) (v := .ref (q 1)) (C := R_SF) (T := F_SF) (N := 15) hx hb hts i_SF hown hK hP 0 rfl rfl 0 (by decide) (hts _ wd_109) (fun _ h9 => h9) rfl d_SF_preparePlaceFromChain_36 ?_
        refine lv_aload_n hx hb d_SF_preparePlaceFromChain_39 rfl (lv_at hl 0 rfl) ?_
        refine va_get (D := D) (ci := 2) (v := .ref (q 11)) (C := R_SF) (T := F_SF) (N := 15) hx hb hts i_SF hown hK hP 0 rfl rfl 5 (by decide) (hts _ wd_114) (fun _ h9 => h9) rfl d_SF_preparePlaceFromChain_40 ?_
        refine lv_iload_n hx hb d_SF_preparePlaceFromChain_43 rfl (lv_at hl 1 rfl) ?_
        refine sf_callVr (S := Int32) (rest := [.ref (q 1), .int (nI (1 + k)), .int 0, .ref (q 7)]) ⟨hx, hb, hml, hown, hts⟩ (c_Ch_placeAt l D cI cZ cJ (q 11) (q 12) cp cc cb ch cm pk) (sf_cwV lk_SF_234 hts (fun _ h => h) (by rw [hR]; exact ⟨Nat.le_of_ble_eq_true rfl, Nat.le_of_ble_eq_true rfl⟩)) hK hP hD hS hA [11, 12] rfl rfl (fun _ => rfl) (ci := 1) (q0 := 0) rfl rfl rfl rfl rfl hl.1 (Nat.le_of_ble_eq_true rfl) d_SF_preparePlaceFromChain_44 ⟨Nat.zero_le _, Nat.zero_le _⟩ (fun u_4 H locs hu_4 hP hS => ?_)
        refine lv_iload_n hx hb d_SF_preparePlaceFromChain_47 rfl (lv_at hl 2 rfl) ?_
        refine sf_callVr (S := Int32) (rest := [.int (nI (1 + k)), .int 0, .ref (q 7)]) ⟨hx, hb, hml, hown, hts⟩ (c_Bl_get l D cI cZ cJ (q 1) (q 2) 768 fl (nI 32) u_4 (nI (1 + k)) (by omega)) (sf_cwV lk_SF_203 hts (fun _ h => h) (by rw [hR]; exact ⟨Nat.le_of_ble_eq_true rfl, Nat.le_of_ble_eq_true rfl⟩)) hK hP hD hS hA [1, 2] rfl rfl (fun _ => rfl) (ci := 0) (q0 := 0) rfl rfl rfl rfl rfl hl.1 (Nat.le_of_ble_eq_true rfl) d_SF_preparePlaceFromChain_48 ⟨Nat.zero_le _, Nat.zero_le _⟩ (fun u_5 H locs hu_5 hP hS => ?_)
        refine sf_callV (S := (Nat → Int32)) (rest := []) ⟨hx, hb, hml, hown, hts⟩ (c_Bl_set l D cI cZ cJ (q 7) (q 8) 32 vn (nI 32) 0 (nI (1 + k)) u_5 (by omega)) (sf_cwV lk_SF_209 hts (fun _ h => h) (by rw [hR]; exact ⟨Nat.le_of_ble_eq_true rfl, Nat.le_of_ble_eq_true rfl⟩)) hK hP hD hS hA [7, 8] rfl rfl (fun _ => rfl) (ci := 0) (q0 := 0) rfl rfl rfl rfl rfl hl.1 (Nat.le_of_ble_eq_true rfl) d_SF_preparePlaceFromChain_51 ⟨Nat.zero_le _, Nat.zero_le _⟩ (fun u_6 H locs hu_6 hP hD hS => ?_)
        have hP : va_P D classes (sf_w q cI cZ fl sl tb u_6 nt cp cc cb ch cm mp mc mb mh mm us ta tp tl cu bl pf sh) H := hP
        have hD : va_D A (sf_w q cI cZ fl sl tb u_6 nt cp cc cb ch cm mp mc mb mh mm us ta tp tl cu bl pf sh) := hD
        refine lv_iinc (v := (nI (1 + (k + 1)))) (lv' := [(2, .int (nI (1 + (k + 1)))), (0, .ref (q 0)), (1, .int pk)]) hx hb d_SF_preparePlaceFromChain_54 hl (k := 2) rfl (nI_1 (1 + k)) (by decide) rfl (fun ls hl => ?_)
        refine lv_goto (tgt := 23) hx hb d_SF_preparePlaceFromChain_57 (by decide) ?_
        exact ih23 (k + 1) u_6 (by omega) (by omega) (by rw [← heq23]; simp only [f_SF_preparePlaceFromChain_l23, ← hu_1, ← hu_2, ← hu_4, ← hu_5, ← hu_6, eq_false c_3, ↓reduceIte]) _ _ hP hD hS ls (lv_sub hl [1, 2, 0] rfl)
  skip
  exact loop23 (27 + 1) 0 u_2 (by omega) (by omega) (by simp only [f_SF_preparePlaceFromChain, ← hu_1, ← hu_2, ↓reduceIte]) _ _ hP hD hS ls (lv_sub hl [1, 2, 0] rfl)
def f_SF_putTable_l27 (tb : Nat → Int32) (bl : Int32) (ro : Int32) (fi : Int32) (fs : Int32) : Nat → Nat → (Nat → Int32) → ((Nat → Int32) × (Nat → Int32) × Int32)
  | 0, _, _ => ((fun _ => 0), (fun _ => 0), 0)
  | fu + 1, k, vn =>
    if 12 ≤ (nI k) then
      if (f_SF_countingTable tb) = 0 then
        ((f_SF_setSum 40 vn 36), (f_SF_putBlock_tt tb (f_SF_setSum 40 vn 36) bl 1).1, (f_SF_putBlock_tt tb (f_SF_setSum 40 vn 36) bl 1).2)
      else
        ((f_SF_setSum 40 vn 36), (f_SF_putBlock_tt tb (f_SF_setSum 40 vn 36) bl 0).1, (f_SF_putBlock_tt tb (f_SF_setSum 40 vn 36) bl 0).2)
    else
      if (nI k) = ro then
        f_SF_putTable_l27 tb bl ro fi fs fu (k + 1) (f_Bl_set 40 (f_Bl_set 40 vn (nI 40) 0 (1 + (nI k)) fi) (nI 40) 0 (13 + (nI k)) fs)
      else
        f_SF_putTable_l27 tb bl ro fi fs fu (k + 1) (f_Bl_set 40 (f_Bl_set 40 vn (nI 40) 0 (1 + (nI k)) (f_SF_firstOf tb (f_SF_countingTable tb) (nI k) 0)) (nI 40) 0 (13 + (nI k)) (f_SF_firstOf tb (f_SF_countingTable tb) (nI k) 1))
def f_SF_putTable (tb : Nat → Int32) (nt : Nat → Int32) (bl : Int32) (ro : Int32) (fi : Int32) (fs : Int32) : ((Nat → Int32) × (Nat → Int32) × Int32) :=
  f_SF_putTable_l27 tb bl ro fi fs (12 + 1) 0 (f_Bl_set 40 nt (nI 40) 0 0 (f_SF_numberBehind (f_SF_numberOf tb (f_SF_countingTable tb))))
set_option maxHeartbeats 1000000 in
set_option maxRecDepth 100000 in
/-- putTable -/
theorem c_SF_putTable (l : Launch) (D : va_G) (cI cZ cJ : ClassId) (q : Nat → Nat) (fl : Nat → Int32) (sl : Nat → Int32) (tb : Nat → Int32) (np : Nat → Int32) (nt : Nat → Int32) (cp : Nat → Int32) (cc : Int32) (cb : Int32) (ch : Int32) (cm : Int32) (mp : Nat → Int32) (mc : Int32) (mb : Int32) (mh : Int32) (mm : Int32) (us : Nat → Int32) (ta : Nat → Int32) (tp : Nat → Int32) (tl : Int32) (cu : Int32) (bl : Int32) (pf : Int32) (sh : Int32) (ro : Int32) (fi : Int32) (fs : Int32) : sf_M (S := ((Nat → Int32) × (Nat → Int32) × Int32)) l D classes (sf_tys cI cZ cJ) y_SF_putTable (sf_ws y_SF_putTable b_SF_putTable 6 none) 4 93 [.ref (q 0), .int ro, .int fi, .int fs] (sf_w q cI cZ fl sl tb np nt cp cc cb ch cm mp mc mb mh mm us ta tp tl cu bl pf sh) (fun _ => none) (fun r => r = f_SF_putTable tb nt bl ro fi fs) (fun r => (sf_w q cI cZ fl sl r.2.1 np r.1 cp cc cb ch cm mp mc mb mh mm us ta tp tl cu r.2.2 pf sh)) := by
  refine sf_ofW (S := ((Nat → Int32) × (Nat → Int32) × Int32)) (by decide) (Nat.le_of_ble_eq_true rfl) ?_
  intro p e s m below meth c A ls R args Q hR hArgs hQ hC0 hr hK hP hD hl
  obtain ⟨hx, hb, hml, hown, hts, hA, hlk⟩ := hC0
  have hS : va_S A s.heap s.heap [] := va_S.rf
  have hl : lv_has ls 6 [(0, .ref (q 0)), (1, .int ro), (2, .int fi), (3, .int fs)] := hl
  refine lv_aload_n hx hb d_SF_putTable_0 rfl (lv_at hl 0 rfl) ?_
  refine sf_callVw (S := Int32) (rest := []) ⟨hx, hb, hml, hown, hts⟩ (c_SF_countingTable l D cI cZ cJ q fl sl tb np nt cp cc cb ch cm mp mc mb mh mm us ta tp tl cu bl pf sh) (sf_cwV lk_SF_179 hts (fun _ h => h) (by rw [hR]; exact ⟨Nat.le_of_ble_eq_true rfl, Nat.le_of_ble_eq_true rfl⟩)) hK hP hD hS hA (fun _ => by simp only [sf_w_fst]) (ci := 2) (q0 := 0) rfl rfl rfl rfl rfl hl.1 (Nat.le_of_ble_eq_true rfl) d_SF_putTable_1 ⟨Nat.zero_le _, Nat.zero_le _⟩ (fun u_1 H locs hu_1 hP hD hS => ?_)
  have hP : va_P D classes (sf_w q cI cZ fl sl tb np nt cp cc cb ch cm mp mc mb mh mm us ta tp tl cu bl pf sh) H := hP
  have hD : va_D A (sf_w q cI cZ fl sl tb np nt cp cc cb ch cm mp mc mb mh mm us ta tp tl cu bl pf sh) := hD
  refine lv_istore (lv' := [(4, .int u_1), (0, .ref (q 0)), (1, .int ro), (2, .int fi), (3, .int fs)]) hx hb d_SF_putTable_4 hl (by decide) rfl (fun ls hl => ?_)
  refine lv_aload_n hx hb d_SF_putTable_6 rfl (lv_at hl 1 rfl) ?_
  refine va_get (D := D) (ci := 2) (v := .ref (q 9)) (C := R_SF) (T := F_SF) (N := 15) hx hb hts i_SF hown hK hP 0 rfl rfl 4 (by decide) (hts _ wd_113) (fun _ h9 => h9) rfl d_SF_putTable_7 ?_
  refine lv_iconst (v := 0) hx hb d_SF_putTable_10 (by decide) ?_
  refine lv_iconst (v := 0) hx hb d_SF_putTable_11 (by decide) ?_
  refine lv_aload_n hx hb d_SF_putTable_12 rfl (lv_at hl 1 rfl) ?_
  refine lv_iload hx hb d_SF_putTable_13 (lv_at hl 0 rfl) ?_
  refine sf_callVw (S := Int32) (rest := [.int 0, .int 0, .ref (q 9)]) ⟨hx, hb, hml, hown, hts⟩ (c_SF_numberOf l D cI cZ cJ q fl sl tb np nt cp cc cb ch cm mp mc mb mh mm us ta tp tl cu bl pf sh u_1) (sf_cwV lk_SF_182 hts (fun _ h => h) (by rw [hR]; exact ⟨Nat.le_of_ble_eq_true rfl, Nat.le_of_ble_eq_true rfl⟩)) hK hP hD hS hA (fun _ => by simp only [sf_w_fst]) (ci := 2) (q0 := 0) rfl rfl rfl rfl rfl hl.1 (Nat.le_of_ble_eq_true rfl) d_SF_putTable_15 ⟨Nat.zero_le _, Nat.zero_le _⟩ (fun u_2 H locs hu_2 hP hD hS => ?_)
  have hP : va_P D classes (sf_w q cI cZ fl sl tb np nt cp cc cb ch cm mp mc mb mh mm us ta tp tl cu bl pf sh) H := hP
  have hD : va_D A (sf_w q cI cZ fl sl tb np nt cp cc cb ch cm mp mc mb mh mm us ta tp tl cu bl pf sh) := hD
  refine sf_callSr (S := Int32) (rest := [.int 0, .int 0, .ref (q 9)]) ⟨hx, hb, hml, hown, hts⟩ (c_SF_numberBehind l D cI cZ cJ u_2) (sf_cwS lk_SF_221 hts (fun _ h => h) (by rw [hR]; exact ⟨Nat.le_of_ble_eq_true rfl, Nat.le_of_ble_eq_true rfl⟩)) hK hP hD hS hA [] rfl rfl (fun _ => rfl) rfl rfl hl.1 (Nat.le_of_ble_eq_true rfl) d_SF_putTable_18 ⟨Nat.zero_le _, Nat.zero_le _⟩ (fun u_3 H locs hu_3 hP hS => ?_)
  refine sf_callV (S := (Nat → Int32)) (rest := []) ⟨hx, hb, hml, hown, hts⟩ (c_Bl_set l D cI cZ cJ (q 9) (q 10) 40 nt (nI 40) 0 0 u_3 (by omega)) (sf_cwV lk_SF_209 hts (fun _ h => h) (by rw [hR]; exact ⟨Nat.le_of_ble_eq_true rfl, Nat.le_of_ble_eq_true rfl⟩)) hK hP hD hS hA [9, 10] rfl rfl (fun _ => rfl) (ci := 0) (q0 := 0) rfl rfl rfl rfl rfl hl.1 (Nat.le_of_ble_eq_true rfl) d_SF_putTable_21 ⟨Nat.zero_le _, Nat.zero_le _⟩ (fun u_4 H locs hu_4 hP hD hS => ?_)
  have hP : va_P D classes (sf_w q cI cZ fl sl tb np u_4 cp cc cb ch cm mp mc mb mh mm us ta tp tl cu bl pf sh) H := hP
  have hD : va_D A (sf_w q cI cZ fl sl tb np u_4 cp cc cb ch cm mp mc mb mh mm us ta tp tl cu bl pf sh) := hD
  refine lv_iconst (v := 0) hx hb d_SF_putTable_24 (by decide) ?_
  refine lv_istore (lv' := [(5, .int 0), (4, .int u_1), (0, .ref (q 0)), (1, .int ro), (2, .int fi), (3, .int fs)]) hx hb d_SF_putTable_25 hl (by decide) rfl (fun ls hl => ?_)
  have loop27 : ∀ (fu k : Nat) (vn : (Nat → Int32)), k ≤ 12 → k + fu = 12 + 1 → f_SF_putTable_l27 tb bl ro fi fs fu k vn = f_SF_putTable tb nt bl ro fi fs → ∀ (H : Heap) (locs : List Loc), va_P D classes (sf_w q cI cZ fl sl tb np vn cp cc cb ch cm mp mc mb mh mm us ta tp tl cu bl pf sh) H → va_D A (sf_w q cI cZ fl sl tb np vn cp cc cb ch cm mp mc mb mh mm us ta tp tl cu bl pf sh) → va_S A s.heap H locs → ∀ (ls : Array Slot), lv_has ls 6 [(0, .ref (q 0)), (1, .int ro), (2, .int fi), (3, .int fs), (4, .int u_1), (5, .int (nI k))] → W p l e R s m args below meth c H locs 0 0 Q (F0 m 27 ls []) := by
    intro fu
    induction fu with
    | zero =>
      intro k vn h1 h2
      exact absurd h2 (by omega)
    | succ fu ih27 =>
      intro k vn hk27 hkn27 heq27 H locs hP hD hS ls hl
      refine lv_iload hx hb d_SF_putTable_27 (lv_at hl 5 rfl) ?_
      refine lv_bipush (v := 12) hx hb d_SF_putTable_29 (by decide) ?_
      refine lv_icmp_ge (tgt := 103) hx hb d_SF_putTable_31 (by decide) (fun c_5 => ?_) (fun c_5 => ?_)
      · refine lv_aload_n hx hb d_SF_putTable_103 rfl (lv_at hl 0 rfl) ?_
        refine va_get (D := D) (ci := 2) (v := .ref (q 9)) (C := R_SF) (T := F_SF) (N := 15) hx hb hts i_SF hown hK hP 0 rfl rfl 4 (by decide) (hts _ wd_113) (fun _ h9 => h9) rfl d_SF_putTable_104 ?_
        refine sf_callS (S := (Nat → Int32)) (rest := []) ⟨hx, hb, hml, hown, hts⟩ (c_SF_setSum l D cI cZ cJ (q 9) (q 10) 40 vn 36 (by omega) (by omega)) (sf_cwS lk_SF_267 hts (fun _ h => h) (by rw [hR]; exact ⟨Nat.le_of_ble_eq_true rfl, Nat.le_of_ble_eq_true rfl⟩)) hK hP hD hS hA [9, 10] rfl rfl (fun _ => rfl) rfl rfl hl.1 (Nat.le_of_ble_eq_true rfl) d_SF_putTable_107 ⟨Nat.zero_le _, Nat.zero_le _⟩ (fun u_6 H locs hu_6 hP hD hS => ?_)
        have hP : va_P D classes (sf_w q cI cZ fl sl tb np u_6 cp cc cb ch cm mp mc mb mh mm us ta tp tl cu bl pf sh) H := hP
        have hD : va_D A (sf_w q cI cZ fl sl tb np u_6 cp cc cb ch cm mp mc mb mh mm us ta tp tl cu bl pf sh) := hD
        refine lv_aload_n hx hb d_SF_putTable_110 rfl (lv_at hl 0 rfl) ?_
        refine lv_aload_n hx hb d_SF_putTable_111 rfl (lv_at hl 0 rfl) ?_
        refine va_get (D := D) (ci := 2) (v := .ref (q 9)) (C := R_SF) (T := F_SF) (N := 15) hx hb hts i_SF hown hK hP 0 rfl rfl 4 (by decide) (hts _ wd_113) (fun _ h9 => h9) rfl d_SF_putTable_112 ?_
        refine lv_aload_n hx hb d_SF_putTable_115 rfl (lv_at hl 0 rfl) ?_
        refine va_get (D := D) (ci := 2) (v := .ref (q 5)) (C := R_SF) (T := F_SF) (N := 15) hx hb hts i_SF hown hK hP 0 rfl rfl 2 (by decide) (hts _ wd_111) (fun _ h9 => h9) rfl d_SF_putTable_116 ?_
        refine lv_iload hx hb d_SF_putTable_119 (lv_at hl 4 rfl) ?_
        refine lv_if_ne (tgt := 128) hx hb d_SF_putTable_121 (by decide) (fun c_7 => ?_) (fun c_7 => ?_)
        · refine lv_iconst (v := 0) hx hb d_SF_putTable_128 (by decide) ?_
          refine sf_callVw (S := ((Nat → Int32) × Int32)) (rest := []) ⟨hx, hb, hml, hown, hts⟩ (c_SF_putBlock_tt l D cI cZ cJ q fl sl tb np u_6 cp cc cb ch cm mp mc mb mh mm us ta tp tl cu bl pf sh 0) (sf_cwV lk_SF_271 hts (fun _ h => h) (by rw [hR]; exact ⟨Nat.le_of_ble_eq_true rfl, Nat.le_of_ble_eq_true rfl⟩)) hK hP hD hS hA (fun _ => by simp only [sf_w_fst]) (ci := 2) (q0 := 0) rfl rfl rfl rfl rfl hl.1 (Nat.le_of_ble_eq_true rfl) d_SF_putTable_129 ⟨Nat.zero_le _, Nat.zero_le _⟩ (fun u_8 H locs hu_8 hP hD hS => ?_)
          have hP : va_P D classes (sf_w q cI cZ fl sl u_8.1 np u_6 cp cc cb ch cm mp mc mb mh mm us ta tp tl cu u_8.2 pf sh) H := hP
          have hD : va_D A (sf_w q cI cZ fl sl u_8.1 np u_6 cp cc cb ch cm mp mc mb mh mm us ta tp tl cu u_8.2 pf sh) := hD
          rw [hQ]
          exact sf_vret (u_6, u_8.1, u_8.2) hx hb hr hlk hS rfl (by rw [← heq27]; simp only [f_SF_putTable_l27, ← hu_1, ← hu_2, ← hu_3, ← hu_4, ← hu_6, ← hu_8, eq_true c_5, eq_false c_7, ↓reduceIte]) hP d_SF_putTable_132
        · refine lv_iconst (v := 1) hx hb d_SF_putTable_124 (by decide) ?_
          refine lv_goto (tgt := 129) hx hb d_SF_putTable_125 (by decide) ?_
          refine sf_callVw (S := ((Nat → Int32) × Int32)) (rest := []) ⟨hx, hb, hml, hown, hts⟩ (c_SF_putBlock_tt l D cI cZ cJ q fl sl tb np u_6 cp cc cb ch cm mp mc mb mh mm us ta tp tl cu bl pf sh 1) (sf_cwV lk_SF_271 hts (fun _ h => h) (by rw [hR]; exact ⟨Nat.le_of_ble_eq_true rfl, Nat.le_of_ble_eq_true rfl⟩)) hK hP hD hS hA (fun _ => by simp only [sf_w_fst]) (ci := 2) (q0 := 0) rfl rfl rfl rfl rfl hl.1 (Nat.le_of_ble_eq_true rfl) d_SF_putTable_129 ⟨Nat.zero_le _, Nat.zero_le _⟩ (fun u_9 H locs hu_9 hP hD hS => ?_)
          have hP : va_P D classes (sf_w q cI cZ fl sl u_9.1 np u_6 cp cc cb ch cm mp mc mb mh mm us ta tp tl cu u_9.2 pf sh) H := hP
          have hD : va_D A (sf_w q cI cZ fl sl u_9.1 np u_6 cp cc cb ch cm mp mc mb mh mm us ta tp tl cu u_9.2 pf sh) := hD
          rw [hQ]
          exact sf_vret (u_6, u_9.1, u_9.2) hx hb hr hlk hS rfl (by rw [← heq27]; simp only [f_SF_putTable_l27, ← hu_1, ← hu_2, ← hu_3, ← hu_4, ← hu_6, ← hu_9, eq_true c_5, eq_true c_7, ↓reduceIte]) hP d_SF_putTable_132
      · have hlt : k < 12 := sf_lt_of (N := 12) (by omega) (by omega) c_5
        refine lv_aload_n hx hb d_SF_putTable_34 rfl (lv_at hl 0 rfl) ?_
        refine va_get (D := D) (ci := 2) (v := .ref (q 9)) (C := R_SF) (T := F_SF) (N := 15) hx hb hts i_SF hown hK hP 0 rfl rfl 4 (by decide) (hts _ wd_113) (fun _ h9 => h9) rfl d_SF_putTable_35 ?_
        refine lv_iconst (v := 0) hx hb d_SF_putTable_38 (by decide) ?_
        refine lv_iconst (v := 1) hx hb d_SF_putTable_39 (by decide) ?_
        refine lv_iload hx hb d_SF_putTable_40 (lv_at hl 5 rfl) ?_
        refine lv_iadd hx hb d_SF_putTable_42 ?_
        refine lv_iload hx hb d_SF_putTable_43 (lv_at hl 5 rfl) ?_
        refine lv_iload_n hx hb d_SF_putTable_45 rfl (lv_at hl 1 rfl) ?_
        refine lv_icmp_ne (tgt := 53) hx hb d_SF_putTable_46 (by decide) (fun c_10 => ?_) (fun c_10 => ?_)
        · refine lv_aload_n hx hb d_SF_putTable_53 rfl (lv_at hl 0 rfl) ?_
          refine lv_iload hx hb d_SF_putTable_54 (lv_at hl 4 rfl) ?_
          refine lv_iload hx hb d_SF_putTable_56 (lv_at hl 5 rfl) ?_
          refine lv_iconst (v := 0) hx hb d_SF_putTable_58 (by decide) ?_
          refine sf_callVw (S := Int32) (rest := [.int (1 + (nI k)), .int 0, .ref (q 9)]) ⟨hx, hb, hml, hown, hts⟩ (c_SF_firstOf l D cI cZ cJ q fl sl tb np vn cp cc cb ch cm mp mc mb mh mm us ta tp tl cu bl pf sh u_1 (nI k) 0) (sf_cwV lk_SF_224 hts (fun _ h => h) (by rw [hR]; exact ⟨Nat.le_of_ble_eq_true rfl, Nat.le_of_ble_eq_true rfl⟩)) hK hP hD hS hA (fun _ => by simp only [sf_w_fst]) (ci := 2) (q0 := 0) rfl rfl rfl rfl rfl hl.1 (Nat.le_of_ble_eq_true rfl) d_SF_putTable_59 ⟨Nat.zero_le _, Nat.zero_le _⟩ (fun u_11 H locs hu_11 hP hD hS => ?_)
          have hP : va_P D classes (sf_w q cI cZ fl sl tb np vn cp cc cb ch cm mp mc mb mh mm us ta tp tl cu bl pf sh) H := hP
          have hD : va_D A (sf_w q cI cZ fl sl tb np vn cp cc cb ch cm mp mc mb mh mm us ta tp tl cu bl pf sh) := hD
          refine sf_callV (S := (Nat → Int32)) (rest := []) ⟨hx, hb, hml, hown, hts⟩ (c_Bl_set l D cI cZ cJ (q 9) (q 10) 40 vn (nI 40) 0 (1 + (nI k)) u_11 (by omega)) (sf_cwV lk_SF_209 hts (fun _ h => h) (by rw [hR]; exact ⟨Nat.le_of_ble_eq_true rfl, Nat.le_of_ble_eq_true rfl⟩)) hK hP hD hS hA [9, 10] rfl rfl (fun _ => rfl) (ci := 0) (q0 := 0) rfl rfl rfl rfl rfl hl.1 (Nat.le_of_ble_eq_true rfl) d_SF_putTable_62 ⟨Nat.zero_le _, Nat.zero_le _⟩ (fun u_12 H locs hu_12 hP hD hS => ?_)
          have hP : va_P D classes (sf_w q cI cZ fl sl tb np u_12 cp cc cb ch cm mp mc mb mh mm us ta tp tl cu bl pf sh) H := hP
          have hD : va_D A (sf_w q cI cZ fl sl tb np u_12 cp cc cb ch cm mp mc mb mh mm us ta tp tl cu bl pf sh) := hD
          refine lv_aload_n hx hb d_SF_putTable_65 rfl (lv_at hl 0 rfl) ?_
          refine va_get (D := D) (ci := 2) (v := .ref (q 9)) (C := R_SF) (T := F_SF) (N := 15) hx hb hts i_SF hown hK hP 0 rfl rfl 4 (by decide) (hts _ wd_113) (fun _ h9 => h9) rfl d_SF_putTable_66 ?_
          refine lv_iconst (v := 0) hx hb d_SF_putTable_69 (by decide) ?_
          refine lv_bipush (v := 13) hx hb d_SF_putTable_70 (by decide) ?_
          refine lv_iload hx hb d_SF_putTable_72 (lv_at hl 5 rfl) ?_
          refine lv_iadd hx hb d_SF_putTable_74 ?_
          refine lv_iload hx hb d_SF_putTable_75 (lv_at hl 5 rfl) ?_
          refine lv_iload_n hx hb d_SF_putTable_77 rfl (lv_at hl 1 rfl) ?_
          refine lv_icmp_ne (tgt := 85) hx hb d_SF_putTable_78 (by decide) (fun c_13 => ?_) (fun c_13 => absurd c_13 c_10)
          refine lv_aload_n hx hb d_SF_putTable_85 rfl (lv_at hl 0 rfl) ?_
          refine lv_iload hx hb d_SF_putTable_86 (lv_at hl 4 rfl) ?_
          refine lv_iload hx hb d_SF_putTable_88 (lv_at hl 5 rfl) ?_
          refine lv_iconst (v := 1) hx hb d_SF_putTable_90 (by decide) ?_
          refine sf_callVw (S := Int32) (rest := [.int (13 + (nI k)), .int 0, .ref (q 9)]) ⟨hx, hb, hml, hown, hts⟩ (c_SF_firstOf l D cI cZ cJ q fl sl tb np u_12 cp cc cb ch cm mp mc mb mh mm us ta tp tl cu bl pf sh u_1 (nI k) 1) (sf_cwV lk_SF_224 hts (fun _ h => h) (by rw [hR]; exact ⟨Nat.le_of_ble_eq_true rfl, Nat.le_of_ble_eq_true rfl⟩)) hK hP hD hS hA (fun _ => by simp only [sf_w_fst]) (ci := 2) (q0 := 0) rfl rfl rfl rfl rfl hl.1 (Nat.le_of_ble_eq_true rfl) d_SF_putTable_91 ⟨Nat.zero_le _, Nat.zero_le _⟩ (fun u_14 H locs hu_14 hP hD hS => ?_)
          have hP : va_P D classes (sf_w q cI cZ fl sl tb np u_12 cp cc cb ch cm mp mc mb mh mm us ta tp tl cu bl pf sh) H := hP
          have hD : va_D A (sf_w q cI cZ fl sl tb np u_12 cp cc cb ch cm mp mc mb mh mm us ta tp tl cu bl pf sh) := hD
          refine sf_callV (S := (Nat → Int32)) (rest := []) ⟨hx, hb, hml, hown, hts⟩ (c_Bl_set l D cI cZ cJ (q 9) (q 10) 40 u_12 (nI 40) 0 (13 + (nI k)) u_14 (by omega)) (sf_cwV lk_SF_209 hts (fun _ h => h) (by rw [hR]; exact ⟨Nat.le_of_ble_eq_true rfl, Nat.le_of_ble_eq_true rfl⟩)) hK hP hD hS hA [9, 10] rfl rfl (fun _ => rfl) (ci := 0) (q0 := 0) rfl rfl rfl rfl rfl hl.1 (Nat.le_of_ble_eq_true rfl) d_SF_putTable_94 ⟨Nat.zero_le _, Nat.zero_le _⟩ (fun u_15 H locs hu_15 hP hD hS => ?_)
          have hP : va_P D classes (sf_w q cI cZ fl sl tb np u_15 cp cc cb ch cm mp mc mb mh mm us ta tp tl cu bl pf sh) H := hP
          have hD : va_D A (sf_w q cI cZ fl sl tb np u_15 cp cc cb ch cm mp mc mb mh mm us ta tp tl cu bl pf sh) := hD
          refine lv_iinc (v := (nI (k + 1))) (lv' := [(5, .int (nI (k + 1))), (0, .ref (q 0)), (1, .int ro), (2, .int fi), (3, .int fs), (4, .int u_1)]) hx hb d_SF_putTable_97 hl (k := 5) rfl (nI_1 k) (by decide) rfl (fun ls hl => ?_)
          refine lv_goto (tgt := 27) hx hb d_SF_putTable_100 (by decide) ?_
          exact ih27 (k + 1) u_15 (by omega) (by omega) (by rw [← heq27]; simp only [f_SF_putTable_l27, ← hu_1, ← hu_2, ← hu_3, ← hu_4, ← hu_11, ← hu_12, ← hu_14, ← hu_15, eq_false c_5, eq_false c_10, ↓reduceIte]) _ _ hP hD hS ls (lv_sub hl [1, 2, 3, 4, 5, 0] rfl)
        · refine lv_iload_n hx hb d_SF_putTable_49 rfl (lv_at hl 2 rfl) ?_
          refine lv_goto (tgt := 62) hx hb d_SF_putTable_50 (by decide) ?_
          refine sf_callV (S := (Nat → Int32)) (rest := []) ⟨hx, hb, hml, hown, hts⟩ (c_Bl_set l D cI cZ cJ (q 9) (q 10) 40 vn (nI 40) 0 (1 + (nI k)) fi (by omega)) (sf_cwV lk_SF_209 hts (fun _ h => h) (by rw [hR]; exact ⟨Nat.le_of_ble_eq_true rfl, Nat.le_of_ble_eq_true rfl⟩)) hK hP hD hS hA [9, 10] rfl rfl (fun _ => rfl) (ci := 0) (q0 := 0) rfl rfl rfl rfl rfl hl.1 (Nat.le_of_ble_eq_true rfl) d_SF_putTable_62 ⟨Nat.zero_le _, Nat.zero_le _⟩ (fun u_16 H locs hu_16 hP hD hS => ?_)
          have hP : va_P D classes (sf_w q cI cZ fl sl tb np u_16 cp cc cb ch cm mp mc mb mh mm us ta tp tl cu bl pf sh) H := hP
          have hD : va_D A (sf_w q cI cZ fl sl tb np u_16 cp cc cb ch cm mp mc mb mh mm us ta tp tl cu bl pf sh) := hD
          refine lv_aload_n hx hb d_SF_putTable_65 rfl (lv_at hl 0 rfl) ?_
          refine va_get (D := D) (ci := 2) (v := .ref (q 9)) (C := R_SF) (T := F_SF) (N := 15) hx hb hts i_SF hown hK hP 0 rfl rfl 4 (by decide) (hts _ wd_113) (fun _ h9 => h9) rfl d_SF_putTable_66 ?_
          refine lv_iconst (v := 0) hx hb d_SF_putTable_69 (by decide) ?_
          refine lv_bipush (v := 13) hx hb d_SF_putTable_70 (by decide) ?_
          refine lv_iload hx hb d_SF_putTable_72 (lv_at hl 5 rfl) ?_
          refine lv_iadd hx hb d_SF_putTable_74 ?_
          refine lv_iload hx hb d_SF_putTable_75 (lv_at hl 5 rfl) ?_
          refine lv_iload_n hx hb d_SF_putTable_77 rfl (lv_at hl 1 rfl) ?_
          refine lv_icmp_ne (tgt := 85) hx hb d_SF_putTable_78 (by decide) (fun c_17 => absurd c_10 c_17) (fun c_17 => ?_)
          refine lv_iload_n hx hb d_SF_putTable_81 rfl (lv_at hl 3 rfl) ?_
          refine lv_goto (tgt := 94) hx hb d_SF_putTable_82 (by decide) ?_
          refine sf_callV (S := (Nat → Int32)) (rest := []) ⟨hx, hb, hml, hown, hts⟩ (c_Bl_set l D cI cZ cJ (q 9) (q 10) 40 u_16 (nI 40) 0 (13 + (nI k)) fs (by omega)) (sf_cwV lk_SF_209 hts (fun _ h => h) (by rw [hR]; exact ⟨Nat.le_of_ble_eq_true rfl, Nat.le_of_ble_eq_true rfl⟩)) hK hP hD hS hA [9, 10] rfl rfl (fun _ => rfl) (ci := 0) (q0 := 0) rfl rfl rfl rfl rfl hl.1 (Nat.le_of_ble_eq_true rfl) d_SF_putTable_94 ⟨Nat.zero_le _, Nat.zero_le _⟩ (fun u_18 H locs hu_18 hP hD hS => ?_)
          have hP : va_P D classes (sf_w q cI cZ fl sl tb np u_18 cp cc cb ch cm mp mc mb mh mm us ta tp tl cu bl pf sh) H := hP
          have hD : va_D A (sf_w q cI cZ fl sl tb np u_18 cp cc cb ch cm mp mc mb mh mm us ta tp tl cu bl pf sh) := hD
          refine lv_iinc (v := (nI (k + 1))) (lv' := [(5, .int (nI (k + 1))), (0, .ref (q 0)), (1, .int ro), (2, .int fi), (3, .int fs), (4, .int u_1)]) hx hb d_SF_putTable_97 hl (k := 5) rfl (nI_1 k) (by decide) rfl (fun ls hl => ?_)
          refine lv_goto (tgt := 27) hx hb d_SF_putTable_100 (by decide) ?_
          exact ih27 (k + 1) u_18 (by omega) (by omega) (by rw [← heq27]; simp only [f_SF_putTable_l27, ← hu_1, ← hu_2, ← hu_3, ← hu_4, ← hu_16, ← hu_18, eq_false c_5, eq_true c_10, ↓reduceIte]) _ _ hP hD hS ls (lv_sub hl [1, 2, 3, 4, 5, 0] rfl)
  exact loop27 (12 + 1) 0 u_4 (by omega) (by omega) (by simp only [f_SF_putTable, ← hu_1, ← hu_2, ← hu_3, ← hu_4, ↓reduceIte]) _ _ hP hD hS ls (lv_sub hl [2, 3, 4, 5, 1, 0] rfl)
end
section
/-! sf3: contracts, with the pure functions that they speak of (printed by wip/gen) -/
set_option maxRecDepth 20000 in
theorem wd_115 : Cond.fieldLink R_SF 37 "ShadowFiles" "markChain" "LShadowFiles$Chain;" ∈ sf_tb := sf_tb_in 115 rfl rfl
set_option maxRecDepth 20000 in
theorem wd_116 : Cond.fieldLink R_SF 40 "ShadowFiles" "used" "[Z" ∈ sf_tb := sf_tb_in 116 rfl rfl
set_option maxRecDepth 20000 in
theorem wd_377 : Cond.methodLink R_SF 231 y_SF_markFollowed ∈ sf_tb := sf_tb_in 377 rfl rfl
set_option maxRecDepth 20000 in
theorem wd_380 : Cond.code y_SF_markFollowed b_SF_markFollowed 3 none ∈ sf_tb := sf_tb_in 380 rfl rfl
set_option maxRecDepth 20000 in
theorem wd_379 : Cond.instanceMethod y_SF_markFollowed ∈ sf_tb := sf_tb_in 379 rfl rfl
set_option maxRecDepth 20000 in
theorem wd_12 : Cond.selects R_SF y_SF_markFollowed y_SF_markFollowed ∈ sf_tb := sf_tb_in 12 rfl rfl
set_option maxRecDepth 20000 in
theorem wd_347 : Cond.methodLink R_SF 237 y_SF_markUsed ∈ sf_tb := sf_tb_in 347 rfl rfl
set_option maxRecDepth 20000 in
theorem wd_350 : Cond.code y_SF_markUsed b_SF_markUsed 5 none ∈ sf_tb := sf_tb_in 350 rfl rfl
set_option maxRecDepth 20000 in
theorem wd_349 : Cond.instanceMethod y_SF_markUsed ∈ sf_tb := sf_tb_in 349 rfl rfl
set_option maxRecDepth 20000 in
theorem wd_8 : Cond.selects R_SF y_SF_markUsed y_SF_markUsed ∈ sf_tb := sf_tb_in 8 rfl rfl
set_option maxRecDepth 20000 in
theorem wd_385 : Cond.methodLink R_SF 241 y_SF_countPlaces ∈ sf_tb := sf_tb_in 385 rfl rfl
set_option maxRecDepth 20000 in
theorem wd_387 : Cond.code y_SF_countPlaces b_SF_countPlaces 1 (some .int) ∈ sf_tb := sf_tb_in 387 rfl rfl
set_option maxRecDepth 20000 in
theorem wd_386 : Cond.static y_SF_countPlaces ∈ sf_tb := sf_tb_in 386 rfl rfl
theorem lk_SF_231 : sf_LV R_SF 231 y_SF_markFollowed b_SF_markFollowed 3 none 0 := ⟨wd_380, wd_377, wd_379, wd_12, wd_51, by decide +kernel⟩
theorem lk_SF_237 : sf_LV R_SF 237 y_SF_markUsed b_SF_markUsed 5 none 1 := ⟨wd_350, wd_347, wd_349, wd_8, wd_51, by decide +kernel⟩
theorem lk_SF_241 : sf_LS R_SF 241 y_SF_countPlaces b_SF_countPlaces 1 (some .int) 1 := ⟨wd_387, wd_385, wd_386, wd_51, by decide +kernel⟩
theorem d_SF_markFollowed_0 : decode b_SF_markFollowed 0 = .ok (.iconst 0, 1) := by decide +kernel
theorem d_SF_markFollowed_1 : decode b_SF_markFollowed 1 = .ok (.istore_n 1, 1) := by decide +kernel
theorem d_SF_markFollowed_2 : decode b_SF_markFollowed 2 = .ok (.iload_n 1, 1) := by decide +kernel
theorem d_SF_markFollowed_3 : decode b_SF_markFollowed 3 = .ok (.aload_n 0, 1) := by decide +kernel
theorem d_SF_markFollowed_4 : decode b_SF_markFollowed 4 = .ok (.getfield 37, 3) := by decide +kernel
theorem d_SF_markFollowed_7 : decode b_SF_markFollowed 7 = .ok (.getfield 136, 3) := by decide +kernel
theorem d_SF_markFollowed_10 : decode b_SF_markFollowed 10 = .ok (.if_icmp .ge 35, 3) := by decide +kernel
theorem d_SF_markFollowed_13 : decode b_SF_markFollowed 13 = .ok (.aload_n 0, 1) := by decide +kernel
theorem d_SF_markFollowed_14 : decode b_SF_markFollowed 14 = .ok (.getfield 37, 3) := by decide +kernel
theorem d_SF_markFollowed_17 : decode b_SF_markFollowed 17 = .ok (.iload_n 1, 1) := by decide +kernel
theorem d_SF_markFollowed_18 : decode b_SF_markFollowed 18 = .ok (.invokevirtual 234, 3) := by decide +kernel
theorem d_SF_markFollowed_21 : decode b_SF_markFollowed 21 = .ok (.istore_n 2, 1) := by decide +kernel
theorem d_SF_markFollowed_22 : decode b_SF_markFollowed 22 = .ok (.iload_n 2, 1) := by decide +kernel
theorem d_SF_markFollowed_23 : decode b_SF_markFollowed 23 = .ok (.ifCond .lt 16, 3) := by decide +kernel
theorem d_SF_markFollowed_26 : decode b_SF_markFollowed 26 = .ok (.iload_n 2, 1) := by decide +kernel
theorem d_SF_markFollowed_27 : decode b_SF_markFollowed 27 = .ok (.bipush 24, 2) := by decide +kernel
theorem d_SF_markFollowed_29 : decode b_SF_markFollowed 29 = .ok (.if_icmp .ge 10, 3) := by decide +kernel
theorem d_SF_markFollowed_32 : decode b_SF_markFollowed 32 = .ok (.aload_n 0, 1) := by decide +kernel
theorem d_SF_markFollowed_33 : decode b_SF_markFollowed 33 = .ok (.getfield 40, 3) := by decide +kernel
theorem d_SF_markFollowed_36 : decode b_SF_markFollowed 36 = .ok (.iload_n 2, 1) := by decide +kernel
theorem d_SF_markFollowed_37 : decode b_SF_markFollowed 37 = .ok (.iconst 1, 1) := by decide +kernel
theorem d_SF_markFollowed_38 : decode b_SF_markFollowed 38 = .ok (.bastore, 1) := by decide +kernel
theorem d_SF_markFollowed_39 : decode b_SF_markFollowed 39 = .ok (.iinc 1 1, 3) := by decide +kernel
theorem d_SF_markFollowed_42 : decode b_SF_markFollowed 42 = .ok (.goto (-40), 3) := by decide +kernel
theorem d_SF_markFollowed_45 : decode b_SF_markFollowed 45 = .ok (.return_, 1) := by decide +kernel
theorem d_SF_markUsed_0 : decode b_SF_markUsed 0 = .ok (.iconst 0, 1) := by decide +kernel
theorem d_SF_markUsed_1 : decode b_SF_markUsed 1 = .ok (.istore_n 2, 1) := by decide +kernel
theorem d_SF_markUsed_2 : decode b_SF_markUsed 2 = .ok (.iload_n 2, 1) := by decide +kernel
theorem d_SF_markUsed_3 : decode b_SF_markUsed 3 = .ok (.bipush 24, 2) := by decide +kernel
theorem d_SF_markUsed_5 : decode b_SF_markUsed 5 = .ok (.if_icmp .ge 16, 3) := by decide +kernel
theorem d_SF_markUsed_8 : decode b_SF_markUsed 8 = .ok (.aload_n 0, 1) := by decide +kernel
theorem d_SF_markUsed_9 : decode b_SF_markUsed 9 = .ok (.getfield 40, 3) := by decide +kernel
theorem d_SF_markUsed_12 : decode b_SF_markUsed 12 = .ok (.iload_n 2, 1) := by decide +kernel
theorem d_SF_markUsed_13 : decode b_SF_markUsed 13 = .ok (.iconst 0, 1) := by decide +kernel
theorem d_SF_markUsed_14 : decode b_SF_markUsed 14 = .ok (.bastore, 1) := by decide +kernel
theorem d_SF_markUsed_15 : decode b_SF_markUsed 15 = .ok (.iinc 2 1, 3) := by decide +kernel
theorem d_SF_markUsed_18 : decode b_SF_markUsed 18 = .ok (.goto (-16), 3) := by decide +kernel
theorem d_SF_markUsed_21 : decode b_SF_markUsed 21 = .ok (.aload_n 0, 1) := by decide +kernel
theorem d_SF_markUsed_22 : decode b_SF_markUsed 22 = .ok (.invokevirtual 179, 3) := by decide +kernel
theorem d_SF_markUsed_25 : decode b_SF_markUsed 25 = .ok (.istore_n 2, 1) := by decide +kernel
theorem d_SF_markUsed_26 : decode b_SF_markUsed 26 = .ok (.iconst 0, 1) := by decide +kernel
theorem d_SF_markUsed_27 : decode b_SF_markUsed 27 = .ok (.istore_n 3, 1) := by decide +kernel
theorem d_SF_markUsed_28 : decode b_SF_markUsed 28 = .ok (.iload_n 3, 1) := by decide +kernel
theorem d_SF_markUsed_29 : decode b_SF_markUsed 29 = .ok (.bipush 12, 2) := by decide +kernel
theorem d_SF_markUsed_31 : decode b_SF_markUsed 31 = .ok (.if_icmp .ge 43, 3) := by decide +kernel
theorem d_SF_markUsed_34 : decode b_SF_markUsed 34 = .ok (.aload_n 0, 1) := by decide +kernel
theorem d_SF_markUsed_35 : decode b_SF_markUsed 35 = .ok (.iload_n 2, 1) := by decide +kernel
theorem d_SF_markUsed_36 : decode b_SF_markUsed 36 = .ok (.iload_n 3, 1) := by decide +kernel
theorem d_SF_markUsed_37 : decode b_SF_markUsed 37 = .ok (.iload_n 1, 1) := by decide +kernel
theorem d_SF_markUsed_38 : decode b_SF_markUsed 38 = .ok (.invokevirtual 224, 3) := by decide +kernel
theorem d_SF_markUsed_41 : decode b_SF_markUsed 41 = .ok (.istore 4, 2) := by decide +kernel
theorem d_SF_markUsed_43 : decode b_SF_markUsed 43 = .ok (.iload 4, 2) := by decide +kernel
theorem d_SF_markUsed_45 : decode b_SF_markUsed 45 = .ok (.ifCond .eq 23, 3) := by decide +kernel
theorem d_SF_markUsed_48 : decode b_SF_markUsed 48 = .ok (.aload_n 0, 1) := by decide +kernel
theorem d_SF_markUsed_49 : decode b_SF_markUsed 49 = .ok (.getfield 37, 3) := by decide +kernel
theorem d_SF_markUsed_52 : decode b_SF_markUsed 52 = .ok (.aload_n 0, 1) := by decide +kernel
theorem d_SF_markUsed_53 : decode b_SF_markUsed 53 = .ok (.iload_n 1, 1) := by decide +kernel
theorem d_SF_markUsed_54 : decode b_SF_markUsed 54 = .ok (.invokevirtual 160, 3) := by decide +kernel
theorem d_SF_markUsed_57 : decode b_SF_markUsed 57 = .ok (.iload 4, 2) := by decide +kernel
theorem d_SF_markUsed_59 : decode b_SF_markUsed 59 = .ok (.iconst 1, 1) := by decide +kernel
theorem d_SF_markUsed_60 : decode b_SF_markUsed 60 = .ok (.isub, 1) := by decide +kernel
theorem d_SF_markUsed_61 : decode b_SF_markUsed 61 = .ok (.invokevirtual 228, 3) := by decide +kernel
theorem d_SF_markUsed_64 : decode b_SF_markUsed 64 = .ok (.aload_n 0, 1) := by decide +kernel
theorem d_SF_markUsed_65 : decode b_SF_markUsed 65 = .ok (.invokevirtual 231, 3) := by decide +kernel
theorem d_SF_markUsed_68 : decode b_SF_markUsed 68 = .ok (.iinc 3 1, 3) := by decide +kernel
theorem d_SF_markUsed_71 : decode b_SF_markUsed 71 = .ok (.goto (-43), 3) := by decide +kernel
theorem d_SF_markUsed_74 : decode b_SF_markUsed 74 = .ok (.return_, 1) := by decide +kernel
theorem d_SF_countFree_0 : decode b_SF_countFree 0 = .ok (.aload_n 0, 1) := by decide +kernel
theorem d_SF_countFree_1 : decode b_SF_countFree 1 = .ok (.iload_n 1, 1) := by decide +kernel
theorem d_SF_countFree_2 : decode b_SF_countFree 2 = .ok (.invokevirtual 237, 3) := by decide +kernel
theorem d_SF_countFree_5 : decode b_SF_countFree 5 = .ok (.iconst 0, 1) := by decide +kernel
theorem d_SF_countFree_6 : decode b_SF_countFree 6 = .ok (.istore_n 2, 1) := by decide +kernel
theorem d_SF_countFree_7 : decode b_SF_countFree 7 = .ok (.iconst 0, 1) := by decide +kernel
theorem d_SF_countFree_8 : decode b_SF_countFree 8 = .ok (.istore_n 3, 1) := by decide +kernel
theorem d_SF_countFree_9 : decode b_SF_countFree 9 = .ok (.iload_n 3, 1) := by decide +kernel
theorem d_SF_countFree_10 : decode b_SF_countFree 10 = .ok (.iload_n 1, 1) := by decide +kernel
theorem d_SF_countFree_11 : decode b_SF_countFree 11 = .ok (.invokestatic 241, 3) := by decide +kernel
theorem d_SF_countFree_14 : decode b_SF_countFree 14 = .ok (.if_icmp .ge 27, 3) := by decide +kernel
theorem d_SF_countFree_17 : decode b_SF_countFree 17 = .ok (.iload_n 3, 1) := by decide +kernel
theorem d_SF_countFree_18 : decode b_SF_countFree 18 = .ok (.bipush 24, 2) := by decide +kernel
theorem d_SF_countFree_20 : decode b_SF_countFree 20 = .ok (.if_icmp .ge 21, 3) := by decide +kernel
theorem d_SF_countFree_23 : decode b_SF_countFree 23 = .ok (.aload_n 0, 1) := by decide +kernel
theorem d_SF_countFree_24 : decode b_SF_countFree 24 = .ok (.getfield 40, 3) := by decide +kernel
theorem d_SF_countFree_27 : decode b_SF_countFree 27 = .ok (.iload_n 3, 1) := by decide +kernel
theorem d_SF_countFree_28 : decode b_SF_countFree 28 = .ok (.baload, 1) := by decide +kernel
theorem d_SF_countFree_29 : decode b_SF_countFree 29 = .ok (.ifCond .ne 6, 3) := by decide +kernel
theorem d_SF_countFree_32 : decode b_SF_countFree 32 = .ok (.iinc 2 1, 3) := by decide +kernel
theorem d_SF_countFree_35 : decode b_SF_countFree 35 = .ok (.iinc 3 1, 3) := by decide +kernel
theorem d_SF_countFree_38 : decode b_SF_countFree 38 = .ok (.goto (-29), 3) := by decide +kernel
theorem d_SF_countFree_41 : decode b_SF_countFree 41 = .ok (.iload_n 2, 1) := by decide +kernel
theorem d_SF_countFree_42 : decode b_SF_countFree 42 = .ok (.ireturn, 1) := by decide +kernel
theorem d_SF_takePlaces_0 : decode b_SF_takePlaces 0 = .ok (.aload_n 0, 1) := by decide +kernel
theorem d_SF_takePlaces_1 : decode b_SF_takePlaces 1 = .ok (.iload_n 1, 1) := by decide +kernel
theorem d_SF_takePlaces_2 : decode b_SF_takePlaces 2 = .ok (.invokevirtual 237, 3) := by decide +kernel
theorem d_SF_takePlaces_5 : decode b_SF_takePlaces 5 = .ok (.iconst 0, 1) := by decide +kernel
theorem d_SF_takePlaces_6 : decode b_SF_takePlaces 6 = .ok (.istore_n 3, 1) := by decide +kernel
theorem d_SF_takePlaces_7 : decode b_SF_takePlaces 7 = .ok (.iconst 0, 1) := by decide +kernel
theorem d_SF_takePlaces_8 : decode b_SF_takePlaces 8 = .ok (.istore 4, 2) := by decide +kernel
theorem d_SF_takePlaces_10 : decode b_SF_takePlaces 10 = .ok (.iload 4, 2) := by decide +kernel
theorem d_SF_takePlaces_12 : decode b_SF_takePlaces 12 = .ok (.iload_n 1, 1) := by decide +kernel
theorem d_SF_takePlaces_13 : decode b_SF_takePlaces 13 = .ok (.invokestatic 241, 3) := by decide +kernel
theorem d_SF_takePlaces_16 : decode b_SF_takePlaces 16 = .ok (.if_icmp .ge 47, 3) := by decide +kernel
theorem d_SF_takePlaces_19 : decode b_SF_takePlaces 19 = .ok (.iload 4, 2) := by decide +kernel
theorem d_SF_takePlaces_21 : decode b_SF_takePlaces 21 = .ok (.bipush 24, 2) := by decide +kernel
theorem d_SF_takePlaces_23 : decode b_SF_takePlaces 23 = .ok (.if_icmp .ge 40, 3) := by decide +kernel
theorem d_SF_takePlaces_26 : decode b_SF_takePlaces 26 = .ok (.aload_n 0, 1) := by decide +kernel
theorem d_SF_takePlaces_27 : decode b_SF_takePlaces 27 = .ok (.getfield 40, 3) := by decide +kernel
theorem d_SF_takePlaces_30 : decode b_SF_takePlaces 30 = .ok (.iload 4, 2) := by decide +kernel
theorem d_SF_takePlaces_32 : decode b_SF_takePlaces 32 = .ok (.baload, 1) := by decide +kernel
theorem d_SF_takePlaces_33 : decode b_SF_takePlaces 33 = .ok (.ifCond .ne 24, 3) := by decide +kernel
theorem d_SF_takePlaces_36 : decode b_SF_takePlaces 36 = .ok (.iload_n 3, 1) := by decide +kernel
theorem d_SF_takePlaces_37 : decode b_SF_takePlaces 37 = .ok (.iload_n 2, 1) := by decide +kernel
theorem d_SF_takePlaces_38 : decode b_SF_takePlaces 38 = .ok (.if_icmp .ge 19, 3) := by decide +kernel
theorem d_SF_takePlaces_41 : decode b_SF_takePlaces 41 = .ok (.iload_n 3, 1) := by decide +kernel
theorem d_SF_takePlaces_42 : decode b_SF_takePlaces 42 = .ok (.iconst 3, 1) := by decide +kernel
theorem d_SF_takePlaces_43 : decode b_SF_takePlaces 43 = .ok (.if_icmp .ge 14, 3) := by decide +kernel
theorem d_SF_takePlaces_46 : decode b_SF_takePlaces 46 = .ok (.aload_n 0, 1) := by decide +kernel
theorem d_SF_takePlaces_47 : decode b_SF_takePlaces 47 = .ok (.getfield 44, 3) := by decide +kernel
theorem d_SF_takePlaces_50 : decode b_SF_takePlaces 50 = .ok (.iload_n 3, 1) := by decide +kernel
theorem d_SF_takePlaces_51 : decode b_SF_takePlaces 51 = .ok (.iload 4, 2) := by decide +kernel
theorem d_SF_takePlaces_53 : decode b_SF_takePlaces 53 = .ok (.iastore, 1) := by decide +kernel
theorem d_SF_takePlaces_54 : decode b_SF_takePlaces 54 = .ok (.iinc 3 1, 3) := by decide +kernel
theorem d_SF_takePlaces_57 : decode b_SF_takePlaces 57 = .ok (.iinc 4 1, 3) := by decide +kernel
theorem d_SF_takePlaces_60 : decode b_SF_takePlaces 60 = .ok (.goto (-50), 3) := by decide +kernel
theorem d_SF_takePlaces_63 : decode b_SF_takePlaces 63 = .ok (.iload_n 3, 1) := by decide +kernel
theorem d_SF_takePlaces_64 : decode b_SF_takePlaces 64 = .ok (.iload_n 2, 1) := by decide +kernel
theorem d_SF_takePlaces_65 : decode b_SF_takePlaces 65 = .ok (.if_icmp .ne 7, 3) := by decide +kernel
theorem d_SF_takePlaces_68 : decode b_SF_takePlaces 68 = .ok (.iconst 1, 1) := by decide +kernel
theorem d_SF_takePlaces_69 : decode b_SF_takePlaces 69 = .ok (.goto 4, 3) := by decide +kernel
theorem d_SF_takePlaces_72 : decode b_SF_takePlaces 72 = .ok (.iconst 0, 1) := by decide +kernel
theorem d_SF_takePlaces_73 : decode b_SF_takePlaces 73 = .ok (.ireturn, 1) := by decide +kernel
theorem d_SF_wrongPlace_0 : decode b_SF_wrongPlace 0 = .ok (.aload_n 0, 1) := by decide +kernel
theorem d_SF_wrongPlace_1 : decode b_SF_wrongPlace 1 = .ok (.iload_n 1, 1) := by decide +kernel
theorem d_SF_wrongPlace_2 : decode b_SF_wrongPlace 2 = .ok (.invokevirtual 237, 3) := by decide +kernel
theorem d_SF_wrongPlace_5 : decode b_SF_wrongPlace 5 = .ok (.aload_n 0, 1) := by decide +kernel
theorem d_SF_wrongPlace_6 : decode b_SF_wrongPlace 6 = .ok (.iload_n 1, 1) := by decide +kernel
theorem d_SF_wrongPlace_7 : decode b_SF_wrongPlace 7 = .ok (.invokevirtual 160, 3) := by decide +kernel
theorem d_SF_wrongPlace_10 : decode b_SF_wrongPlace 10 = .ok (.astore_n 3, 1) := by decide +kernel
theorem d_SF_wrongPlace_11 : decode b_SF_wrongPlace 11 = .ok (.iconst 0, 1) := by decide +kernel
theorem d_SF_wrongPlace_12 : decode b_SF_wrongPlace 12 = .ok (.istore 4, 2) := by decide +kernel
theorem d_SF_wrongPlace_14 : decode b_SF_wrongPlace 14 = .ok (.iconst 0, 1) := by decide +kernel
theorem d_SF_wrongPlace_15 : decode b_SF_wrongPlace 15 = .ok (.istore 5, 2) := by decide +kernel
theorem d_SF_wrongPlace_17 : decode b_SF_wrongPlace 17 = .ok (.iload 5, 2) := by decide +kernel
theorem d_SF_wrongPlace_19 : decode b_SF_wrongPlace 19 = .ok (.iload_n 1, 1) := by decide +kernel
theorem d_SF_wrongPlace_20 : decode b_SF_wrongPlace 20 = .ok (.invokestatic 241, 3) := by decide +kernel
theorem d_SF_wrongPlace_23 : decode b_SF_wrongPlace 23 = .ok (.if_icmp .ge 47, 3) := by decide +kernel
theorem d_SF_wrongPlace_26 : decode b_SF_wrongPlace 26 = .ok (.iload 5, 2) := by decide +kernel
theorem d_SF_wrongPlace_28 : decode b_SF_wrongPlace 28 = .ok (.bipush 24, 2) := by decide +kernel
theorem d_SF_wrongPlace_30 : decode b_SF_wrongPlace 30 = .ok (.if_icmp .ge 40, 3) := by decide +kernel
theorem d_SF_wrongPlace_33 : decode b_SF_wrongPlace 33 = .ok (.aload_n 0, 1) := by decide +kernel
theorem d_SF_wrongPlace_34 : decode b_SF_wrongPlace 34 = .ok (.getfield 40, 3) := by decide +kernel
theorem d_SF_wrongPlace_37 : decode b_SF_wrongPlace 37 = .ok (.iload 5, 2) := by decide +kernel
theorem d_SF_wrongPlace_39 : decode b_SF_wrongPlace 39 = .ok (.baload, 1) := by decide +kernel
theorem d_SF_wrongPlace_40 : decode b_SF_wrongPlace 40 = .ok (.ifCond .eq 24, 3) := by decide +kernel
theorem d_SF_wrongPlace_43 : decode b_SF_wrongPlace 43 = .ok (.aload_n 3, 1) := by decide +kernel
theorem d_SF_wrongPlace_44 : decode b_SF_wrongPlace 44 = .ok (.iload 5, 2) := by decide +kernel
theorem d_SF_wrongPlace_46 : decode b_SF_wrongPlace 46 = .ok (.invokevirtual 215, 3) := by decide +kernel
theorem d_SF_wrongPlace_49 : decode b_SF_wrongPlace 49 = .ok (.ifCond .ne 15, 3) := by decide +kernel
theorem d_SF_wrongPlace_52 : decode b_SF_wrongPlace 52 = .ok (.iload 4, 2) := by decide +kernel
theorem d_SF_wrongPlace_54 : decode b_SF_wrongPlace 54 = .ok (.iload_n 2, 1) := by decide +kernel
theorem d_SF_wrongPlace_55 : decode b_SF_wrongPlace 55 = .ok (.if_icmp .ne 6, 3) := by decide +kernel
theorem d_SF_wrongPlace_58 : decode b_SF_wrongPlace 58 = .ok (.iload 5, 2) := by decide +kernel
theorem d_SF_wrongPlace_60 : decode b_SF_wrongPlace 60 = .ok (.ireturn, 1) := by decide +kernel
theorem d_SF_wrongPlace_61 : decode b_SF_wrongPlace 61 = .ok (.iinc 4 1, 3) := by decide +kernel
theorem d_SF_wrongPlace_64 : decode b_SF_wrongPlace 64 = .ok (.iinc 5 1, 3) := by decide +kernel
theorem d_SF_wrongPlace_67 : decode b_SF_wrongPlace 67 = .ok (.goto (-50), 3) := by decide +kernel
theorem d_SF_wrongPlace_70 : decode b_SF_wrongPlace 70 = .ok (.iconst (-1), 1) := by decide +kernel
theorem d_SF_wrongPlace_71 : decode b_SF_wrongPlace 71 = .ok (.ireturn, 1) := by decide +kernel
theorem d_SF_wrongTable_0 : decode b_SF_wrongTable 0 = .ok (.iconst 0, 1) := by decide +kernel
theorem d_SF_wrongTable_1 : decode b_SF_wrongTable 1 = .ok (.istore_n 2, 1) := by decide +kernel
theorem d_SF_wrongTable_2 : decode b_SF_wrongTable 2 = .ok (.iconst 0, 1) := by decide +kernel
theorem d_SF_wrongTable_3 : decode b_SF_wrongTable 3 = .ok (.istore_n 3, 1) := by decide +kernel
theorem d_SF_wrongTable_4 : decode b_SF_wrongTable 4 = .ok (.iload_n 3, 1) := by decide +kernel
theorem d_SF_wrongTable_5 : decode b_SF_wrongTable 5 = .ok (.iconst 2, 1) := by decide +kernel
theorem d_SF_wrongTable_6 : decode b_SF_wrongTable 6 = .ok (.if_icmp .ge 30, 3) := by decide +kernel
theorem d_SF_wrongTable_9 : decode b_SF_wrongTable 9 = .ok (.aload_n 0, 1) := by decide +kernel
theorem d_SF_wrongTable_10 : decode b_SF_wrongTable 10 = .ok (.getfield 21, 3) := by decide +kernel
theorem d_SF_wrongTable_13 : decode b_SF_wrongTable 13 = .ok (.iload_n 3, 1) := by decide +kernel
theorem d_SF_wrongTable_14 : decode b_SF_wrongTable 14 = .ok (.invokevirtual 215, 3) := by decide +kernel
theorem d_SF_wrongTable_17 : decode b_SF_wrongTable 17 = .ok (.ifCond .ne 13, 3) := by decide +kernel
theorem d_SF_wrongTable_20 : decode b_SF_wrongTable 20 = .ok (.iload_n 2, 1) := by decide +kernel
theorem d_SF_wrongTable_21 : decode b_SF_wrongTable 21 = .ok (.iload_n 1, 1) := by decide +kernel
theorem d_SF_wrongTable_22 : decode b_SF_wrongTable 22 = .ok (.if_icmp .ne 5, 3) := by decide +kernel
theorem d_SF_wrongTable_25 : decode b_SF_wrongTable 25 = .ok (.iload_n 3, 1) := by decide +kernel
theorem d_SF_wrongTable_26 : decode b_SF_wrongTable 26 = .ok (.ireturn, 1) := by decide +kernel
theorem d_SF_wrongTable_27 : decode b_SF_wrongTable 27 = .ok (.iinc 2 1, 3) := by decide +kernel
theorem d_SF_wrongTable_30 : decode b_SF_wrongTable 30 = .ok (.iinc 3 1, 3) := by decide +kernel
theorem d_SF_wrongTable_33 : decode b_SF_wrongTable 33 = .ok (.goto (-29), 3) := by decide +kernel
theorem d_SF_wrongTable_36 : decode b_SF_wrongTable 36 = .ok (.iconst (-1), 1) := by decide +kernel
theorem d_SF_wrongTable_37 : decode b_SF_wrongTable 37 = .ok (.ireturn, 1) := by decide +kernel
def f_SF_markFollowed_l2 (mp : Nat → Int32) (mc : Int32) : Nat → Nat → (Nat → Int32) → (Nat → Int32)
  | 0, _, _ => (fun _ => 0)
  | fu + 1, k, vu =>
    if mc ≤ (nI k) then
      vu
    else
      if (f_Ch_placeAt mp mc (nI k)) < 0 then
        f_SF_markFollowed_l2 mp mc fu (k + 1) vu
      else
        if 24 ≤ (f_Ch_placeAt mp mc (nI k)) then
          f_SF_markFollowed_l2 mp mc fu (k + 1) vu
        else
          f_SF_markFollowed_l2 mp mc fu (k + 1) (upd vu (f_Ch_placeAt mp mc (nI k)).toNatClampNeg 1)
def f_SF_markFollowed (mp : Nat → Int32) (mc : Int32) (us : Nat → Int32) : (Nat → Int32) :=
  f_SF_markFollowed_l2 mp mc (mc.toNatClampNeg + 1) 0 us
set_option maxHeartbeats 1000000 in
set_option maxRecDepth 100000 in
/-- markFollowed -/
theorem c_SF_markFollowed (l : Launch) (D : va_G) (cI cZ cJ : ClassId) (q : Nat → Nat) (fl : Nat → Int32) (sl : Nat → Int32) (tb : Nat → Int32) (np : Nat → Int32) (nt : Nat → Int32) (cp : Nat → Int32) (cc : Int32) (cb : Int32) (ch : Int32) (cm : Int32) (mp : Nat → Int32) (mc : Int32) (mb : Int32) (mh : Int32) (mm : Int32) (us : Nat → Int32) (ta : Nat → Int32) (tp : Nat → Int32) (tl : Int32) (cu : Int32) (bl : Int32) (pf : Int32) (sh : Int32) : sf_M (S := (Nat → Int32)) l D classes (sf_tys cI cZ cJ) y_SF_markFollowed (sf_ws y_SF_markFollowed b_SF_markFollowed 3 none) 1 21 [.ref (q 0)] (sf_w q cI cZ fl sl tb np nt cp cc cb ch cm mp mc mb mh mm us ta tp tl cu bl pf sh) (fun _ => none) (fun r => r = f_SF_markFollowed mp mc us) (fun r => (sf_w q cI cZ fl sl tb np nt cp cc cb ch cm mp mc mb mh mm r ta tp tl cu bl pf sh)) := by
  refine sf_ofW (S := (Nat → Int32)) (by decide) (Nat.le_of_ble_eq_true rfl) ?_
  intro p e s m below meth c A ls R args Q hR hArgs hQ hC0 hr hK hP hD hl
  obtain ⟨hx, hb, hml, hown, hts, hA, hlk⟩ := hC0
  have hS : va_S A s.heap s.heap [] := va_S.rf
  have hl : lv_has ls 3 [(0, .ref (q 0))] := hl
  have hcl := sf_clt mc
  refine lv_iconst (v := 0) hx hb d_SF_markFollowed_0 (by decide) ?_
  refine lv_istore_n (lv' := [(1, .int 0), (0, .ref (q 0))]) hx hb d_SF_markFollowed_1 rfl hl (by decide) rfl (fun ls hl => ?_)
  have loop2 : ∀ (fu k : Nat) (vu : (Nat → Int32)), k ≤ mc.toNatClampNeg → k + fu = mc.toNatClampNeg + 1 → f_SF_markFollowed_l2 mp mc fu k vu = f_SF_markFollowed mp mc us → ∀ (H : Heap) (locs : List Loc), va_P D classes (sf_w q cI cZ fl sl tb np nt cp cc cb ch cm mp mc mb mh mm vu ta tp tl cu bl pf sh) H → va_D A (sf_w q cI cZ fl sl tb np nt cp cc cb ch cm mp mc mb mh mm vu ta tp tl cu bl pf sh) → va_S A s.heap H locs → ∀ (ls : Array Slot), lv_has ls 3 [(0, .ref (q 0)), (1, .int (nI k))] → W p l e R s m args below meth c H locs 0 0 Q (F0 m 2 ls []) := by
    intro fu
    induction fu with
    | zero =>
      intro k vu h1 h2
      exact absurd h2 (by omega)
    | succ fu ih2 =>
      intro k vu hk2 hkn2 heq2 H locs hP hD hS ls hl
      have hcl := sf_clt mc
      refine lv_iload_n hx hb d_SF_markFollowed_2 rfl (lv_at hl 1 rfl) ?_
      refine lv_aload_n hx hb d_SF_markFollowed_3 rfl (lv_at hl 0 rfl) ?_
      refine va_get (D := D) (ci := 2) (v := .ref (q 13)) (C := R_SF) (T := F_SF) (N := 15) hx hb hts i_SF hown hK hP 0 rfl rfl 6 (by decide) (hts _ wd_115) (fun _ h9 => h9) rfl d_SF_markFollowed_4 ?_
      refine va_get (D := D) (ci := 1) (v := .int mc) (C := R_Ch) (T := F_Ch) (N := 5) hx hb hts i_Ch hown hK hP 13 rfl rfl 1 (by decide) (hts _ wd_94) (fun _ h9 => h9) rfl d_SF_markFollowed_7 ?_
      refine lv_icmp_ge (tgt := 45) hx hb d_SF_markFollowed_10 (by decide) (fun c_1 => ?_) (fun c_1 => ?_)
      · rw [hQ]
        exact sf_vret vu hx hb hr hlk hS rfl (by rw [← heq2]; simp only [f_SF_markFollowed_l2, eq_true c_1, ↓reduceIte]) hP d_SF_markFollowed_45
      · have hlt : k < mc.toNatClampNeg := sf_ltc (by omega) c_1
        refine lv_aload_n hx hb d_SF_markFollowed_13 rfl (lv_at hl 0 rfl) ?_
        refine va_get (D := D) (ci := 2) (v := .ref (q 13)) (C := R_SF) (T := F_SF) (N := 15) hx hb hts i_SF hown hK hP 0 rfl rfl 6 (by decide) (hts _ wd_115) (fun _ h9 => h9) rfl d_SF_markFollowed_14 ?_
        refine lv_iload_n hx hb d_SF_markFollowed_17 rfl (lv_at hl 1 rfl) ?_
        refine sf_callVr (S := Int32) (rest := []) ⟨hx, hb, hml, hown, hts⟩ (c_Ch_placeAt l D cI cZ cJ (q 13) (q 14) mp mc mb mh mm (nI k)) (sf_cwV lk_SF_234 hts (fun _ h => h) (by rw [hR]; exact ⟨Nat.le_of_ble_eq_true rfl, Nat.le_of_ble_eq_true rfl⟩)) hK hP hD hS hA [13, 14] rfl rfl (fun _ => rfl) (ci := 1) (q0 := 0) rfl rfl rfl rfl rfl hl.1 (Nat.le_of_ble_eq_true rfl) d_SF_markFollowed_18 ⟨Nat.zero_le _, Nat.zero_le _⟩ (fun u_2 H locs hu_2 hP hS => ?_)
        refine lv_istore_n (lv' := [(2, .int u_2), (0, .ref (q 0)), (1, .int (nI k))]) hx hb d_SF_markFollowed_21 rfl hl (by decide) rfl (fun ls hl => ?_)
        refine lv_iload_n hx hb d_SF_markFollowed_22 rfl (lv_at hl 0 rfl) ?_
        refine lv_if_lt (tgt := 39) hx hb d_SF_markFollowed_23 (by decide) (fun c_3 => ?_) (fun c_3 => ?_)
        · refine lv_iinc (v := (nI (k + 1))) (lv' := [(1, .int (nI (k + 1))), (2, .int u_2), (0, .ref (q 0))]) hx hb d_SF_markFollowed_39 hl (k := 2) rfl (nI_1 k) (by decide) rfl (fun ls hl => ?_)
          refine lv_goto (tgt := 2) hx hb d_SF_markFollowed_42 (by decide) ?_
          exact ih2 (k + 1) vu (by omega) (by omega) (by rw [← heq2]; simp only [f_SF_markFollowed_l2, ← hu_2, eq_false c_1, eq_true c_3, ↓reduceIte]) _ _ hP hD hS ls (lv_sub hl [2, 0] rfl)
        · refine lv_iload_n hx hb d_SF_markFollowed_26 rfl (lv_at hl 0 rfl) ?_
          refine lv_bipush (v := 24) hx hb d_SF_markFollowed_27 (by decide) ?_
          refine lv_icmp_ge (tgt := 39) hx hb d_SF_markFollowed_29 (by decide) (fun c_4 => ?_) (fun c_4 => ?_)
          · refine lv_iinc (v := (nI (k + 1))) (lv' := [(1, .int (nI (k + 1))), (2, .int u_2), (0, .ref (q 0))]) hx hb d_SF_markFollowed_39 hl (k := 2) rfl (nI_1 k) (by decide) rfl (fun ls hl => ?_)
            refine lv_goto (tgt := 2) hx hb d_SF_markFollowed_42 (by decide) ?_
            exact ih2 (k + 1) vu (by omega) (by omega) (by rw [← heq2]; simp only [f_SF_markFollowed_l2, ← hu_2, eq_false c_1, eq_false c_3, eq_true c_4, ↓reduceIte]) _ _ hP hD hS ls (lv_sub hl [2, 0] rfl)
          · refine lv_aload_n hx hb d_SF_markFollowed_32 rfl (lv_at hl 1 rfl) ?_
            refine va_get (D := D) (ci := 2) (v := .ref (q 15)) (C := R_SF) (T := F_SF) (N := 15) hx hb hts i_SF hown hK hP 0 rfl rfl 7 (by decide) (hts _ wd_116) (fun _ h9 => h9) rfl d_SF_markFollowed_33 ?_
            refine lv_iload_n hx hb d_SF_markFollowed_36 rfl (lv_at hl 0 rfl) ?_
            refine lv_iconst (v := 1) hx hb d_SF_markFollowed_37 (by decide) ?_
            refine va_zast hx hb hK hP hD hS 15 1 rfl rfl (sf_in (n := 24) c_3 c_4 (by omega)) d_SF_markFollowed_38 (fun H locs hP hD hS => ?_)
            rw [sf_nz1] at hP hD
            have hP : va_P D classes (sf_w q cI cZ fl sl tb np nt cp cc cb ch cm mp mc mb mh mm (upd vu u_2.toNatClampNeg 1) ta tp tl cu bl pf sh) H := hP
            have hD : va_D A (sf_w q cI cZ fl sl tb np nt cp cc cb ch cm mp mc mb mh mm (upd vu u_2.toNatClampNeg 1) ta tp tl cu bl pf sh) := hD
            refine lv_iinc (v := (nI (k + 1))) (lv' := [(1, .int (nI (k + 1))), (2, .int u_2), (0, .ref (q 0))]) hx hb d_SF_markFollowed_39 hl (k := 2) rfl (nI_1 k) (by decide) rfl (fun ls hl => ?_)
            refine lv_goto (tgt := 2) hx hb d_SF_markFollowed_42 (by decide) ?_
            exact ih2 (k + 1) (upd vu u_2.toNatClampNeg 1) (by omega) (by omega) (by rw [← heq2]; simp only [f_SF_markFollowed_l2, ← hu_2, eq_false c_1, eq_false c_3, eq_false c_4, ↓reduceIte]) _ _ hP hD hS ls (lv_sub hl [2, 0] rfl)
  exact loop2 (mc.toNatClampNeg + 1) 0 us (by omega) (by omega) (by simp only [f_SF_markFollowed, ↓reduceIte]) _ _ hP hD hS ls (lv_sub hl [1, 0] rfl)
def f_SF_markUsed_0_l28 (fl : Nat → Int32) (tb : Nat → Int32) : Nat → Nat → (Nat → Int32) → (Nat → Int32) → Int32 → Int32 → Int32 → Int32 → ((Nat → Int32) × (Nat → Int32) × Int32 × Int32 × Int32 × Int32)
  | 0, _, _, _, _, _, _, _ => ((fun _ => 0), (fun _ => 0), 0, 0, 0, 0)
  | fu + 1, k, xu, xp, xc, xb, xh, xm =>
    if 12 ≤ (nI k) then
      (xu, xp, xc, xb, xh, xm)
    else
      if (f_SF_firstOf tb (f_SF_countingTable tb) (nI k) 0) = 0 then
        f_SF_markUsed_0_l28 fl tb fu (k + 1) xu xp xc xb xh xm
      else
        f_SF_markUsed_0_l28 fl tb fu (k + 1) (f_SF_markFollowed (f_Ch_follow xp 768 fl 28 ((f_SF_firstOf tb (f_SF_countingTable tb) (nI k) 0) - 1)).1 (f_Ch_follow xp 768 fl 28 ((f_SF_firstOf tb (f_SF_countingTable tb) (nI k) 0) - 1)).2.1 xu) (f_Ch_follow xp 768 fl 28 ((f_SF_firstOf tb (f_SF_countingTable tb) (nI k) 0) - 1)).1 (f_Ch_follow xp 768 fl 28 ((f_SF_firstOf tb (f_SF_countingTable tb) (nI k) 0) - 1)).2.1 (f_Ch_follow xp 768 fl 28 ((f_SF_firstOf tb (f_SF_countingTable tb) (nI k) 0) - 1)).2.2.1 (f_Ch_follow xp 768 fl 28 ((f_SF_firstOf tb (f_SF_countingTable tb) (nI k) 0) - 1)).2.2.2.1 (f_Ch_follow xp 768 fl 28 ((f_SF_firstOf tb (f_SF_countingTable tb) (nI k) 0) - 1)).2.2.2.2
def f_SF_markUsed_0_l2 (fl : Nat → Int32) (tb : Nat → Int32) (mp : Nat → Int32) (mc : Int32) (mb : Int32) (mh : Int32) (mm : Int32) : Nat → Nat → (Nat → Int32) → ((Nat → Int32) × (Nat → Int32) × Int32 × Int32 × Int32 × Int32)
  | 0, _, _ => ((fun _ => 0), (fun _ => 0), 0, 0, 0, 0)
  | fu + 1, k, vu =>
    if 24 ≤ (nI k) then
      f_SF_markUsed_0_l28 fl tb (12 + 1) 0 vu mp mc mb mh mm
    else
      f_SF_markUsed_0_l2 fl tb mp mc mb mh mm fu (k + 1) (upd vu k 0)
def f_SF_markUsed_0 (fl : Nat → Int32) (tb : Nat → Int32) (mp : Nat → Int32) (mc : Int32) (mb : Int32) (mh : Int32) (mm : Int32) (us : Nat → Int32) : ((Nat → Int32) × (Nat → Int32) × Int32 × Int32 × Int32 × Int32) :=
  f_SF_markUsed_0_l2 fl tb mp mc mb mh mm (24 + 1) 0 us
set_option maxHeartbeats 1000000 in
set_option maxRecDepth 100000 in
/-- markUsed -/
theorem c_SF_markUsed_0 (l : Launch) (D : va_G) (cI cZ cJ : ClassId) (q : Nat → Nat) (fl : Nat → Int32) (sl : Nat → Int32) (tb : Nat → Int32) (np : Nat → Int32) (nt : Nat → Int32) (cp : Nat → Int32) (cc : Int32) (cb : Int32) (ch : Int32) (cm : Int32) (mp : Nat → Int32) (mc : Int32) (mb : Int32) (mh : Int32) (mm : Int32) (us : Nat → Int32) (ta : Nat → Int32) (tp : Nat → Int32) (tl : Int32) (cu : Int32) (bl : Int32) (pf : Int32) (sh : Int32) : sf_M (S := ((Nat → Int32) × (Nat → Int32) × Int32 × Int32 × Int32 × Int32)) l D classes (sf_tys cI cZ cJ) y_SF_markUsed (sf_ws y_SF_markUsed b_SF_markUsed 5 none) 4 97 [.ref (q 0), .int 0] (sf_w q cI cZ fl sl tb np nt cp cc cb ch cm mp mc mb mh mm us ta tp tl cu bl pf sh) (fun _ => none) (fun r => r = f_SF_markUsed_0 fl tb mp mc mb mh mm us) (fun r => (sf_w q cI cZ fl sl tb np nt cp cc cb ch cm r.2.1 r.2.2.1 r.2.2.2.1 r.2.2.2.2.1 r.2.2.2.2.2 r.1 ta tp tl cu bl pf sh)) := by
  refine sf_ofW (S := ((Nat → Int32) × (Nat → Int32) × Int32 × Int32 × Int32 × Int32)) (by decide) (Nat.le_of_ble_eq_true rfl) ?_
  intro p e s m below meth c A ls R args Q hR hArgs hQ hC0 hr hK hP hD hl
  obtain ⟨hx, hb, hml, hown, hts, hA, hlk⟩ := hC0
  have hS : va_S A s.heap s.heap [] := va_S.rf
  have hl : lv_has ls 5 [(0, .ref (q 0)), (1, .int 0)] := hl
  refine lv_iconst (v := 0) hx hb d_SF_markUsed_0 (by decide) ?_
  refine lv_istore_n (lv' := [(2, .int 0), (0, .ref (q 0)), (1, .int 0)]) hx hb d_SF_markUsed_1 rfl hl (by decide) rfl (fun ls hl => ?_)
  have loop2 : ∀ (fu k : Nat) (vu : (Nat → Int32)), k ≤ 24 → k + fu = 24 + 1 → f_SF_markUsed_0_l2 fl tb mp mc mb mh mm fu k vu = f_SF_markUsed_0 fl tb mp mc mb mh mm us → ∀ (H : Heap) (locs : List Loc), va_P D classes (sf_w q cI cZ fl sl tb np nt cp cc cb ch cm mp mc mb mh mm vu ta tp tl cu bl pf sh) H → va_D A (sf_w q cI cZ fl sl tb np nt cp cc cb ch cm mp mc mb mh mm vu ta tp tl cu bl pf sh) → va_S A s.heap H locs → ∀ (ls : Array Slot), lv_has ls 5 [(0, .ref (q 0)), (1, .int 0), (2, .int (nI k))] → W p l e R s m args below meth c H locs 0 0 Q (F0 m 2 ls []) := by
    intro fu
    induction fu with
    | zero =>
      intro k vu h1 h2
      exact absurd h2 (by omega)
    | succ fu ih2 =>
      intro k vu hk2 hkn2 heq2 H locs hP hD hS ls hl
      refine lv_iload_n hx hb d_SF_markUsed_2 rfl (lv_at hl 2 rfl) ?_
      refine lv_bipush (v := 24) hx hb d_SF_markUsed_3 (by decide) ?_
      refine lv_icmp_ge (tgt := 21) hx hb d_SF_markUsed_5 (by decide) (fun c_1 => ?_) (fun c_1 => ?_)
      · refine lv_aload_n hx hb d_SF_markUsed_21 rfl (lv_at hl 0 rfl) ?_
        refine sf_callVw (S := Int32) (rest := []) ⟨hx, hb, hml, hown, hts⟩ (c_SF_countingTable l D cI cZ cJ q fl sl tb np nt cp cc cb ch cm mp mc mb mh mm vu ta tp tl cu bl pf sh) (sf_cwV lk_SF_179 hts (fun _ h => h) (by rw [hR]; exact ⟨Nat.le_of_ble_eq_true rfl, Nat.le_of_ble_eq_true rfl⟩)) hK hP hD hS hA (fun _ => by simp only [sf_w_fst]) (ci := 2) (q0 := 0) rfl rfl rfl rfl rfl hl.1 (Nat.le_of_ble_eq_true rfl) d_SF_markUsed_22 ⟨Nat.zero_le _, Nat.zero_le _⟩ (fun u_2 H locs hu_2 hP hD hS => ?_)
        have hP : va_P D classes (sf_w q cI cZ fl sl tb np nt cp cc cb ch cm mp mc mb mh mm vu ta tp tl cu bl pf sh) H := hP
        have hD : va_D A (sf_w q cI cZ fl sl tb np nt cp cc cb ch cm mp mc mb mh mm vu ta tp tl cu bl pf sh) := hD
        refine lv_istore_n (lv' := [(2, .int u_2), (0, .ref (q 0)), (1, .int 0)]) hx hb d_SF_markUsed_25 rfl hl (by decide) rfl (fun ls hl => ?_)
        refine lv_iconst (v := 0) hx hb d_SF_markUsed_26 (by decide) ?_
        refine lv_istore_n (lv' := [(3, .int 0), (2, .int u_2), (0, .ref (q 0)), (1, .int 0)]) hx hb d_SF_markUsed_27 rfl hl (by decide) rfl (fun ls hl => ?_)
        have loop28 : ∀ (fu k : Nat) (xu : (Nat → Int32)) (xp : (Nat → Int32)) (xc : Int32) (xb : Int32) (xh : Int32) (xm : Int32), k ≤ 12 → k + fu = 12 + 1 → f_SF_markUsed_0_l28 fl tb fu k xu xp xc xb xh xm = f_SF_markUsed_0 fl tb mp mc mb mh mm us → ∀ (H : Heap) (locs : List Loc), va_P D classes (sf_w q cI cZ fl sl tb np nt cp cc cb ch cm xp xc xb xh xm xu ta tp tl cu bl pf sh) H → va_D A (sf_w q cI cZ fl sl tb np nt cp cc cb ch cm xp xc xb xh xm xu ta tp tl cu bl pf sh) → va_S A s.heap H locs → ∀ (ls : Array Slot), lv_has ls 5 [(0, .ref (q 0)), (1, .int 0), (2, .int u_2), (3, .int (nI k))] → W p l e R s m args below meth c H locs 0 0 Q (F0 m 28 ls []) := by
          intro fu
          induction fu with
          | zero =>
            intro k xu xp xc xb xh xm h1 h2
            exact absurd h2 (by omega)
          | succ fu ih28 =>
            intro k xu xp xc xb xh xm hk28 hkn28 heq28 H locs hP hD hS ls hl
            refine lv_iload_n hx hb d_SF_markUsed_28 rfl (lv_at hl 3 rfl) ?_
            refine lv_bipush (v := 12) hx hb d_SF_markUsed_29 (by decide) ?_
            refine lv_icmp_ge (tgt := 74) hx hb d_SF_markUsed_31 (by decide) (fun c_3 => ?_) (fun c_3 => ?_)
            · rw [hQ]
              exact sf_vret (xu, xp, xc, xb, xh, xm) hx hb hr hlk hS rfl (by rw [← heq28]; simp only [f_SF_markUsed_0_l28, ← hu_2, eq_true c_3, ↓reduceIte]) hP d_SF_markUsed_74
            · have hlt : k < 12 := sf_lt_of (N := 12) (by omega) (by omega) c_3
              refine lv_aload_n hx hb d_SF_markUsed_34 rfl (lv_at hl 0 rfl) ?_
              refine lv_iload_n hx hb d_SF_markUsed_35 rfl (lv_at hl 2 rfl) ?_
              refine lv_iload_n hx hb d_SF_markUsed_36 rfl (lv_at hl 3 rfl) ?_
              refine lv_iload_n hx hb d_SF_markUsed_37 rfl (lv_at hl 1 rfl) ?_
              refine sf_callVw (S := Int32) (rest := []) ⟨hx, hb, hml, hown, hts⟩ (c_SF_firstOf l D cI cZ cJ q fl sl tb np nt cp cc cb ch cm xp xc xb xh xm xu ta tp tl cu bl pf sh u_2 (nI k) 0) (sf_cwV lk_SF_224 hts (fun _ h => h) (by rw [hR]; exact ⟨Nat.le_of_ble_eq_true rfl, Nat.le_of_ble_eq_true rfl⟩)) hK hP hD hS hA (fun _ => by simp only [sf_w_fst]) (ci := 2) (q0 := 0) rfl rfl rfl rfl rfl hl.1 (Nat.le_of_ble_eq_true rfl) d_SF_markUsed_38 ⟨Nat.zero_le _, Nat.zero_le _⟩ (fun u_4 H locs hu_4 hP hD hS => ?_)
              have hP : va_P D classes (sf_w q cI cZ fl sl tb np nt cp cc cb ch cm xp xc xb xh xm xu ta tp tl cu bl pf sh) H := hP
              have hD : va_D A (sf_w q cI cZ fl sl tb np nt cp cc cb ch cm xp xc xb xh xm xu ta tp tl cu bl pf sh) := hD
              refine lv_istore (lv' := [(4, .int u_4), (0, .ref (q 0)), (1, .int 0), (2, .int u_2), (3, .int (nI k))]) hx hb d_SF_markUsed_41 hl (by decide) rfl (fun ls hl => ?_)
              refine lv_iload hx hb d_SF_markUsed_43 (lv_at hl 0 rfl) ?_
              refine lv_if_eq (tgt := 68) hx hb d_SF_markUsed_45 (by decide) (fun c_5 => ?_) (fun c_5 => ?_)
              · refine lv_iinc (v := (nI (k + 1))) (lv' := [(3, .int (nI (k + 1))), (4, .int u_4), (0, .ref (q 0)), (1, .int 0), (2, .int u_2)]) hx hb d_SF_markUsed_68 hl (k := 4) rfl (nI_1 k) (by decide) rfl (fun ls hl => ?_)
                refine lv_goto (tgt := 28) hx hb d_SF_markUsed_71 (by decide) ?_
                exact ih28 (k + 1) xu xp xc xb xh xm (by omega) (by omega) (by rw [← heq28]; simp only [f_SF_markUsed_0_l28, ← hu_2, ← hu_4, eq_false c_3, eq_true c_5, ↓reduceIte]) _ _ hP hD hS ls (lv_sub hl [2, 3, 4, 0] rfl)
              · refine lv_aload_n hx hb d_SF_markUsed_48 rfl (lv_at hl 1 rfl) ?_
                refine va_get (D := D) (ci := 2) (v := .ref (q 13)) (C := R_SF) (T := F_SF) (N := 15) hx hb hts i_SF hown hK hP 0 rfl rfl 6 (by decide) (hts _ wd_115) (fun _ h9 => h9) rfl d_SF_markUsed_49 ?_
                refine lv_aload_n hx hb d_SF_markUsed_52 rfl (lv_at hl 1 rfl) ?_
                refine lv_iload_n hx hb d_SF_markUsed_53 rfl (lv_at hl 2 rfl) ?_
                refine sf_callVw (S := Unit) (rest := [.ref (q 13)]) ⟨hx, hb, hml, hown, hts⟩ (c_SF_placesOf_0 l D cI cZ cJ q fl sl tb np nt cp cc cb ch cm xp xc xb xh xm xu ta tp tl cu bl pf sh) (sf_cwV lk_SF_160 hts (fun _ h => h) (by rw [hR]; exact ⟨Nat.le_of_ble_eq_true rfl, Nat.le_of_ble_eq_true rfl⟩)) hK hP hD hS hA (fun _ => by simp only [sf_w_fst]) (ci := 2) (q0 := 0) rfl rfl rfl rfl rfl hl.1 (Nat.le_of_ble_eq_true rfl) d_SF_markUsed_54 ⟨Nat.zero_le _, Nat.zero_le _⟩ (fun u H locs hu hP hD hS => ?_)
                have hP : va_P D classes (sf_w q cI cZ fl sl tb np nt cp cc cb ch cm xp xc xb xh xm xu ta tp tl cu bl pf sh) H := hP
                have hD : va_D A (sf_w q cI cZ fl sl tb np nt cp cc cb ch cm xp xc xb xh xm xu ta tp tl cu bl pf sh) := hD
                refine lv_iload hx hb d_SF_markUsed_57 (lv_at hl 0 rfl) ?_
                refine lv_iconst (v := 1) hx hb d_SF_markUsed_59 (by decide) ?_
                refine lv_isub hx hb d_SF_markUsed_60 ?_
                refine sf_callV (S := ((Nat → Int32) × Int32 × Int32 × Int32 × Int32)) (rest := []) ⟨hx, hb, hml, hown, hts⟩ (c_Ch_follow l D cI cZ cJ (q 13) (q 14) xp xc xb xh xm (q 1) (q 2) 768 fl 28 (u_4 - 1) (by omega) (by omega)) (sf_cwV lk_SF_228 hts (fun _ h => h) (by rw [hR]; exact ⟨Nat.le_of_ble_eq_true rfl, Nat.le_of_ble_eq_true rfl⟩)) hK hP hD hS hA [13, 14, 1, 2] rfl rfl (fun _ => rfl) (ci := 1) (q0 := 0) rfl rfl rfl rfl rfl hl.1 (Nat.le_of_ble_eq_true rfl) d_SF_markUsed_61 ⟨Nat.zero_le _, Nat.zero_le _⟩ (fun u_6 H locs hu_6 hP hD hS => ?_)
                have hP : va_P D classes (sf_w q cI cZ fl sl tb np nt cp cc cb ch cm u_6.1 u_6.2.1 u_6.2.2.1 u_6.2.2.2.1 u_6.2.2.2.2 xu ta tp tl cu bl pf sh) H := hP
                have hD : va_D A (sf_w q cI cZ fl sl tb np nt cp cc cb ch cm u_6.1 u_6.2.1 u_6.2.2.1 u_6.2.2.2.1 u_6.2.2.2.2 xu ta tp tl cu bl pf sh) := hD
                refine lv_aload_n hx hb d_SF_markUsed_64 rfl (lv_at hl 1 rfl) ?_
                refine sf_callVw (S := (Nat → Int32)) (rest := []) ⟨hx, hb, hml, hown, hts⟩ (c_SF_markFollowed l D cI cZ cJ q fl sl tb np nt cp cc cb ch cm u_6.1 u_6.2.1 u_6.2.2.1 u_6.2.2.2.1 u_6.2.2.2.2 xu ta tp tl cu bl pf sh) (sf_cwV lk_SF_231 hts (fun _ h => h) (by rw [hR]; exact ⟨Nat.le_of_ble_eq_true rfl, Nat.le_of_ble_eq_true rfl⟩)) hK hP hD hS hA (fun _ => by simp only [sf_w_fst]) (ci := 2) (q0 := 0) rfl rfl rfl rfl rfl hl.1 (Nat.le_of_ble_eq_true rfl) d_SF_markUsed_65 ⟨Nat.zero_le _, Nat.zero_le _⟩ (fun u_7 H locs hu_7 hP hD hS => ?_)
                have hP : va_P D classes (sf_w q cI cZ fl sl tb np nt cp cc cb ch cm u_6.1 u_6.2.1 u_6.2.2.1 u_6.2.2.2.1 u_6.2.2.2.2 u_7 ta tp tl cu bl pf sh) H := hP
                have hD : va_D A (sf_w q cI cZ fl sl tb np nt cp cc cb ch cm u_6.1 u_6.2.1 u_6.2.2.1 u_6.2.2.2.1 u_6.2.2.2.2 u_7 ta tp tl cu bl pf sh) := hD
                refine lv_iinc (v := (nI (k + 1))) (lv' := [(3, .int (nI (k + 1))), (4, .int u_4), (0, .ref (q 0)), (1, .int 0), (2, .int u_2)]) hx hb d_SF_markUsed_68 hl (k := 4) rfl (nI_1 k) (by decide) rfl (fun ls hl => ?_)
                refine lv_goto (tgt := 28) hx hb d_SF_markUsed_71 (by decide) ?_
                exact ih28 (k + 1) u_7 u_6.1 u_6.2.1 u_6.2.2.1 u_6.2.2.2.1 u_6.2.2.2.2 (by omega) (by omega) (by rw [← heq28]; simp only [f_SF_markUsed_0_l28, ← hu_2, ← hu_4, ← hu_6, ← hu_7, eq_false c_3, eq_false c_5, ↓reduceIte]) _ _ hP hD hS ls (lv_sub hl [2, 3, 4, 0] rfl)
        exact loop28 (12 + 1) 0 vu mp mc mb mh mm (by omega) (by omega) (by rw [← heq2]; simp only [f_SF_markUsed_0_l2, ← hu_2, eq_true c_1, ↓reduceIte]) _ _ hP hD hS ls (lv_sub hl [2, 3, 1, 0] rfl)
      · have hlt : k < 24 := sf_lt_of (N := 24) (by omega) (by omega) c_1
        refine lv_aload_n hx hb d_SF_markUsed_8 rfl (lv_at hl 0 rfl) ?_
        refine va_get (D := D) (ci := 2) (v := .ref (q 15)) (C := R_SF) (T := F_SF) (N := 15) hx hb hts i_SF hown hK hP 0 rfl rfl 7 (by decide) (hts _ wd_116) (fun _ h9 => h9) rfl d_SF_markUsed_9 ?_
        refine lv_iload_n hx hb d_SF_markUsed_12 rfl (lv_at hl 2 rfl) ?_
        refine lv_iconst (v := 0) hx hb d_SF_markUsed_13 (by decide) ?_
        refine va_zast hx hb hK hP hD hS 15 1 rfl rfl (vp_in_nI hlt (by omega)) d_SF_markUsed_14 (fun H locs hP hD hS => ?_)
        rw [nI_clamp (n := k) (by omega)] at hP hD
        rw [sf_nz0] at hP hD
        have hP : va_P D classes (sf_w q cI cZ fl sl tb np nt cp cc cb ch cm mp mc mb mh mm (upd vu k 0) ta tp tl cu bl pf sh) H := hP
        have hD : va_D A (sf_w q cI cZ fl sl tb np nt cp cc cb ch cm mp mc mb mh mm (upd vu k 0) ta tp tl cu bl pf sh) := hD
        refine lv_iinc (v := (nI (k + 1))) (lv' := [(2, .int (nI (k + 1))), (0, .ref (q 0)), (1, .int 0)]) hx hb d_SF_markUsed_15 hl (k := 2) rfl (nI_1 k) (by decide) rfl (fun ls hl => ?_)
        refine lv_goto (tgt := 2) hx hb d_SF_markUsed_18 (by decide) ?_
        exact ih2 (k + 1) (upd vu k 0) (by omega) (by omega) (by rw [← heq2]; simp only [f_SF_markUsed_0_l2, eq_false c_1, ↓reduceIte]) _ _ hP hD hS ls (lv_sub hl [1, 2, 0] rfl)
  exact loop2 (24 + 1) 0 us (by omega) (by omega) (by simp only [f_SF_markUsed_0, ↓reduceIte]) _ _ hP hD hS ls (lv_sub hl [1, 2, 0] rfl)
def f_SF_markUsed_1_l28 (sl : Nat → Int32) (tb : Nat → Int32) : Nat → Nat → (Nat → Int32) → (Nat → Int32) → Int32 → Int32 → Int32 → Int32 → ((Nat → Int32) × (Nat → Int32) × Int32 × Int32 × Int32 × Int32)
  | 0, _, _, _, _, _, _, _ => ((fun _ => 0), (fun _ => 0), 0, 0, 0, 0)
  | fu + 1, k, xu, xp, xc, xb, xh, xm =>
    if 12 ≤ (nI k) then
      (xu, xp, xc, xb, xh, xm)
    else
      if (f_SF_firstOf tb (f_SF_countingTable tb) (nI k) 1) = 0 then
        f_SF_markUsed_1_l28 sl tb fu (k + 1) xu xp xc xb xh xm
      else
        f_SF_markUsed_1_l28 sl tb fu (k + 1) (f_SF_markFollowed (f_Ch_follow xp 512 sl 28 ((f_SF_firstOf tb (f_SF_countingTable tb) (nI k) 1) - 1)).1 (f_Ch_follow xp 512 sl 28 ((f_SF_firstOf tb (f_SF_countingTable tb) (nI k) 1) - 1)).2.1 xu) (f_Ch_follow xp 512 sl 28 ((f_SF_firstOf tb (f_SF_countingTable tb) (nI k) 1) - 1)).1 (f_Ch_follow xp 512 sl 28 ((f_SF_firstOf tb (f_SF_countingTable tb) (nI k) 1) - 1)).2.1 (f_Ch_follow xp 512 sl 28 ((f_SF_firstOf tb (f_SF_countingTable tb) (nI k) 1) - 1)).2.2.1 (f_Ch_follow xp 512 sl 28 ((f_SF_firstOf tb (f_SF_countingTable tb) (nI k) 1) - 1)).2.2.2.1 (f_Ch_follow xp 512 sl 28 ((f_SF_firstOf tb (f_SF_countingTable tb) (nI k) 1) - 1)).2.2.2.2
def f_SF_markUsed_1_l2 (sl : Nat → Int32) (tb : Nat → Int32) (mp : Nat → Int32) (mc : Int32) (mb : Int32) (mh : Int32) (mm : Int32) : Nat → Nat → (Nat → Int32) → ((Nat → Int32) × (Nat → Int32) × Int32 × Int32 × Int32 × Int32)
  | 0, _, _ => ((fun _ => 0), (fun _ => 0), 0, 0, 0, 0)
  | fu + 1, k, vu =>
    if 24 ≤ (nI k) then
      f_SF_markUsed_1_l28 sl tb (12 + 1) 0 vu mp mc mb mh mm
    else
      f_SF_markUsed_1_l2 sl tb mp mc mb mh mm fu (k + 1) (upd vu k 0)
def f_SF_markUsed_1 (sl : Nat → Int32) (tb : Nat → Int32) (mp : Nat → Int32) (mc : Int32) (mb : Int32) (mh : Int32) (mm : Int32) (us : Nat → Int32) : ((Nat → Int32) × (Nat → Int32) × Int32 × Int32 × Int32 × Int32) :=
  f_SF_markUsed_1_l2 sl tb mp mc mb mh mm (24 + 1) 0 us
set_option maxHeartbeats 1000000 in
set_option maxRecDepth 100000 in
/-- markUsed -/
theorem c_SF_markUsed_1 (l : Launch) (D : va_G) (cI cZ cJ : ClassId) (q : Nat → Nat) (fl : Nat → Int32) (sl : Nat → Int32) (tb : Nat → Int32) (np : Nat → Int32) (nt : Nat → Int32) (cp : Nat → Int32) (cc : Int32) (cb : Int32) (ch : Int32) (cm : Int32) (mp : Nat → Int32) (mc : Int32) (mb : Int32) (mh : Int32) (mm : Int32) (us : Nat → Int32) (ta : Nat → Int32) (tp : Nat → Int32) (tl : Int32) (cu : Int32) (bl : Int32) (pf : Int32) (sh : Int32) : sf_M (S := ((Nat → Int32) × (Nat → Int32) × Int32 × Int32 × Int32 × Int32)) l D classes (sf_tys cI cZ cJ) y_SF_markUsed (sf_ws y_SF_markUsed b_SF_markUsed 5 none) 4 97 [.ref (q 0), .int 1] (sf_w q cI cZ fl sl tb np nt cp cc cb ch cm mp mc mb mh mm us ta tp tl cu bl pf sh) (fun _ => none) (fun r => r = f_SF_markUsed_1 sl tb mp mc mb mh mm us) (fun r => (sf_w q cI cZ fl sl tb np nt cp cc cb ch cm r.2.1 r.2.2.1 r.2.2.2.1 r.2.2.2.2.1 r.2.2.2.2.2 r.1 ta tp tl cu bl pf sh)) := by
  refine sf_ofW (S := ((Nat → Int32) × (Nat → Int32) × Int32 × Int32 × Int32 × Int32)) (by decide) (Nat.le_of_ble_eq_true rfl) ?_
  intro p e s m below meth c A ls R args Q hR hArgs hQ hC0 hr hK hP hD hl
  obtain ⟨hx, hb, hml, hown, hts, hA, hlk⟩ := hC0
  have hS : va_S A s.heap s.heap [] := va_S.rf
  have hl : lv_has ls 5 [(0, .ref (q 0)), (1, .int 1)] := hl
  refine lv_iconst (v := 0) hx hb d_SF_markUsed_0 (by decide) ?_
  refine lv_istore_n (lv' := [(2, .int 0), (0, .ref (q 0)), (1, .int 1)]) hx hb d_SF_markUsed_1 rfl hl (by decide) rfl (fun ls hl => ?_)
  have loop2 : ∀ (fu k : Nat) (vu : (Nat → Int32)), k ≤ 24 → k + fu = 24 + 1 → f_SF_markUsed_1_l2 sl tb mp mc mb mh mm fu k vu = f_SF_markUsed_1 sl tb mp mc mb mh mm us → ∀ (H : Heap) (locs : List Loc), va_P D classes (sf_w q cI cZ fl sl tb np nt cp cc cb ch cm mp mc mb mh mm vu ta tp tl cu bl pf sh) H → va_D A (sf_w q cI cZ fl sl tb np nt cp cc cb ch cm mp mc mb mh mm vu ta tp tl cu bl pf sh) → va_S A s.heap H locs → ∀ (ls : Array Slot), lv_has ls 5 [(0, .ref (q 0)), (1, .int 1), (2, .int (nI k))] → W p l e R s m args below meth c H locs 0 0 Q (F0 m 2 ls []) := by
    intro fu
    induction fu with
    | zero =>
      intro k vu h1 h2
      exact absurd h2 (by omega)
    | succ fu ih2 =>
      intro k vu hk2 hkn2 heq2 H locs hP hD hS ls hl
      refine lv_iload_n hx hb d_SF_markUsed_2 rfl (lv_at hl 2 rfl) ?_
      refine lv_bipush (v := 24) hx hb d_SF_markUsed_3 (by decide) ?_
      refine lv_icmp_ge (tgt := 21) hx hb d_SF_markUsed_5 (by decide) (fun c_1 => ?_) (fun c_1 => ?_)
      · refine lv_aload_n hx hb d_SF_markUsed_21 rfl (lv_at hl 0 rfl) ?_
        refine sf_callVw (S := Int32) (rest := []) ⟨hx, hb, hml, hown, hts⟩ (c_SF_countingTable l D cI cZ cJ q fl sl tb np nt cp cc cb ch cm mp mc mb mh mm vu ta tp tl cu bl pf sh) (sf_cwV lk_SF_179 hts (fun _ h => h) (by rw [hR]; exact ⟨Nat.le_of_ble_eq_true rfl, Nat.le_of_ble_eq_true rfl⟩)) hK hP hD hS hA (fun _ => by simp only [sf_w_fst]) (ci := 2) (q0 := 0) rfl rfl rfl rfl rfl hl.1 (Nat.le_of_ble_eq_true rfl) d_SF_markUsed_22 ⟨Nat.zero_le _, Nat.zero_le _⟩ (fun u_2 H locs hu_2 hP hD hS => ?_)
        have hP : va_P D classes (sf_w q cI cZ fl sl tb np nt cp cc cb ch cm mp mc mb mh mm vu ta tp tl cu bl pf sh) H := hP
        have hD : va_D A (sf_w q cI cZ fl sl tb np nt cp cc cb ch cm mp mc mb mh mm vu ta tp tl cu bl pf sh) := hD
        refine lv_istore_n (lv' := [(2, .int u_2), (0, .ref (q 0)), (1, .int 1)]) hx hb d_SF_markUsed_25 rfl hl (by decide) rfl (fun ls hl => ?_)
        refine lv_iconst (v := 0) hx hb d_SF_markUsed_26 (by decide) ?_
        refine lv_istore_n (lv' := [(3, .int 0), (2, .int u_2), (0, .ref (q 0)), (1, .int 1)]) hx hb d_SF_markUsed_27 rfl hl (by decide) rfl (fun ls hl => ?_)
        have loop28 : ∀ (fu k : Nat) (xu : (Nat → Int32)) (xp : (Nat → Int32)) (xc : Int32) (xb : Int32) (xh : Int32) (xm : Int32), k ≤ 12 → k + fu = 12 + 1 → f_SF_markUsed_1_l28 sl tb fu k xu xp xc xb xh xm = f_SF_markUsed_1 sl tb mp mc mb mh mm us → ∀ (H : Heap) (locs : List Loc), va_P D classes (sf_w q cI cZ fl sl tb np nt cp cc cb ch cm xp xc xb xh xm xu ta tp tl cu bl pf sh) H → va_D A (sf_w q cI cZ fl sl tb np nt cp cc cb ch cm xp xc xb xh xm xu ta tp tl cu bl pf sh) → va_S A s.heap H locs → ∀ (ls : Array Slot), lv_has ls 5 [(0, .ref (q 0)), (1, .int 1), (2, .int u_2), (3, .int (nI k))] → W p l e R s m args below meth c H locs 0 0 Q (F0 m 28 ls []) := by
          intro fu
          induction fu with
          | zero =>
            intro k xu xp xc xb xh xm h1 h2
            exact absurd h2 (by omega)
          | succ fu ih28 =>
            intro k xu xp xc xb xh xm hk28 hkn28 heq28 H locs hP hD hS ls hl
            refine lv_iload_n hx hb d_SF_markUsed_28 rfl (lv_at hl 3 rfl) ?_
            refine lv_bipush (v := 12) hx hb d_SF_markUsed_29 (by decide) ?_
            refine lv_icmp_ge (tgt := 74) hx hb d_SF_markUsed_31 (by decide) (fun c_3 => ?_) (fun c_3 => ?_)
            · rw [hQ]
              exact sf_vret (xu, xp, xc, xb, xh, xm) hx hb hr hlk hS rfl (by rw [← heq28]; simp only [f_SF_markUsed_1_l28, ← hu_2, eq_true c_3, ↓reduceIte]) hP d_SF_markUsed_74
            · have hlt : k < 12 := sf_lt_of (N := 12) (by omega) (by omega) c_3
              refine lv_aload_n hx hb d_SF_markUsed_34 rfl (lv_at hl 0 rfl) ?_
              refine lv_iload_n hx hb d_SF_markUsed_35 rfl (lv_at hl 2 rfl) ?_
              refine lv_iload_n hx hb d_SF_markUsed_36 rfl (lv_at hl 3 rfl) ?_
              refine lv_iload_n hx hb d_SF_markUsed_37 rfl (lv_at hl 1 rfl) ?_
              refine sf_callVw (S := Int32) (rest := []) ⟨hx, hb, hml, hown, hts⟩ (c_SF_firstOf l D cI cZ cJ q fl sl tb np nt cp cc cb ch cm xp xc xb xh xm xu ta tp tl cu bl pf sh u_2 (nI k) 1) (sf_cwV lk_SF_224 hts (fun _ h => h) (by rw [hR]; exact ⟨Nat.le_of_ble_eq_true rfl, Nat.le_of_ble_eq_true rfl⟩)) hK hP hD hS hA (fun _ => by simp only [sf_w_fst]) (ci := 2) (q0 := 0) rfl rfl rfl rfl rfl hl.1 (Nat.le_of_ble_eq_true rfl) d_SF_markUsed_38 ⟨Nat.zero_le _, Nat.zero_le _⟩ (fun u_4 H locs hu_4 hP hD hS => ?_)
              have hP : va_P D classes (sf_w q cI cZ fl sl tb np nt cp cc cb ch cm xp xc xb xh xm xu ta tp tl cu bl pf sh) H := hP
              have hD : va_D A (sf_w q cI cZ fl sl tb np nt cp cc cb ch cm xp xc xb xh xm xu ta tp tl cu bl pf sh) := hD
              refine lv_istore (lv' := [(4, .int u_4), (0, .ref (q 0)), (1, .int 1), (2, .int u_2), (3, .int (nI k))]) hx hb d_SF_markUsed_41 hl (by decide) rfl (fun ls hl => ?_)
              refine lv_iload hx hb d_SF_markUsed_43 (lv_at hl 0 rfl) ?_
              refine lv_if_eq (tgt := 68) hx hb d_SF_markUsed_45 (by decide) (fun c_5 => ?_) (fun c_5 => ?_)
              · refine lv_iinc (v := (nI (k + 1))) (lv' := [(3, .int (nI (k + 1))), (4, .int u_4), (0, .ref (q 0)), (1, .int 1), (2, .int u_2)]) hx hb d_SF_markUsed_68 hl (k := 4) rfl (nI_1 k) (by decide) rfl (fun ls hl => ?_)
                refine lv_goto (tgt := 28) hx hb d_SF_markUsed_71 (by decide) ?_
                exact ih28 (k + 1) xu xp xc xb xh xm (by omega) (by omega) (by rw [← heq28]; simp only [f_SF_markUsed_1_l28, ← hu_2, ← hu_4, eq_false c_3, eq_true c_5, ↓reduceIte]) _ _ hP hD hS ls (lv_sub hl [2, 3, 4, 0] rfl)
              · refine lv_aload_n hx hb d_SF_markUsed_48 rfl (lv_at hl 1 rfl) ?_
                refine va_get (D := D) (ci := 2) (v := .ref (q 13)) (C := R_SF) (T := F_SF) (N := 15) hx hb hts i_SF hown hK hP 0 rfl rfl 6 (by decide) (hts _ wd_115) (fun _ h9 => h9) rfl d_SF_markUsed_49 ?_
                refine lv_aload_n hx hb d_SF_markUsed_52 rfl (lv_at hl 1 rfl) ?_
                refine lv_iload_n hx hb d_SF_markUsed_53 rfl (lv_at hl 2 rfl) ?_
                refine sf_callVw (S := Unit) (rest := [.ref (q 13)]) ⟨hx, hb, hml, hown, hts⟩ (c_SF_placesOf_1 l D cI cZ cJ q fl sl tb np nt cp cc cb ch cm xp xc xb xh xm xu ta tp tl cu bl pf sh) (sf_cwV lk_SF_160 hts (fun _ h => h) (by rw [hR]; exact ⟨Nat.le_of_ble_eq_true rfl, Nat.le_of_ble_eq_true rfl⟩)) hK hP hD hS hA (fun _ => by simp only [sf_w_fst]) (ci := 2) (q0 := 0) rfl rfl rfl rfl rfl hl.1 (Nat.le_of_ble_eq_true rfl) d_SF_markUsed_54 ⟨Nat.zero_le _, Nat.zero_le _⟩ (fun u H locs hu hP hD hS => ?_)
                have hP : va_P D classes (sf_w q cI cZ fl sl tb np nt cp cc cb ch cm xp xc xb xh xm xu ta tp tl cu bl pf sh) H := hP
                have hD : va_D A (sf_w q cI cZ fl sl tb np nt cp cc cb ch cm xp xc xb xh xm xu ta tp tl cu bl pf sh) := hD
                refine lv_iload hx hb d_SF_markUsed_57 (lv_at hl 0 rfl) ?_
                refine lv_iconst (v := 1) hx hb d_SF_markUsed_59 (by decide) ?_
                refine lv_isub hx hb d_SF_markUsed_60 ?_
                refine sf_callV (S := ((Nat → Int32) × Int32 × Int32 × Int32 × Int32)) (rest := []) ⟨hx, hb, hml, hown, hts⟩ (c_Ch_follow l D cI cZ cJ (q 13) (q 14) xp xc xb xh xm (q 3) (q 4) 512 sl 28 (u_4 - 1) (by omega) (by omega)) (sf_cwV lk_SF_228 hts (fun _ h => h) (by rw [hR]; exact ⟨Nat.le_of_ble_eq_true rfl, Nat.le_of_ble_eq_true rfl⟩)) hK hP hD hS hA [13, 14, 3, 4] rfl rfl (fun _ => rfl) (ci := 1) (q0 := 0) rfl rfl rfl rfl rfl hl.1 (Nat.le_of_ble_eq_true rfl) d_SF_markUsed_61 ⟨Nat.zero_le _, Nat.zero_le _⟩ (fun u_6 H locs hu_6 hP hD hS => ?_)
                have hP : va_P D classes (sf_w q cI cZ fl sl tb np nt cp cc cb ch cm u_6.1 u_6.2.1 u_6.2.2.1 u_6.2.2.2.1 u_6.2.2.2.2 xu ta tp tl cu bl pf sh) H := hP
                have hD : va_D A (sf_w q cI cZ fl sl tb np nt cp cc cb ch cm u_6.1 u_6.2.1 u_6.2.2.1 u_6.2.2.2.1 u_6.2.2.2.2 xu ta tp tl cu bl pf sh) := hD
                refine lv_aload_n hx hb d_SF_markUsed_64 rfl (lv_at hl 1 rfl) ?_
                refine sf_callVw (S := (Nat → Int32)) (rest := []) ⟨hx, hb, hml, hown, hts⟩ (c_SF_markFollowed l D cI cZ cJ q fl sl tb np nt cp cc cb ch cm u_6.1 u_6.2.1 u_6.2.2.1 u_6.2.2.2.1 u_6.2.2.2.2 xu ta tp tl cu bl pf sh) (sf_cwV lk_SF_231 hts (fun _ h => h) (by rw [hR]; exact ⟨Nat.le_of_ble_eq_true rfl, Nat.le_of_ble_eq_true rfl⟩)) hK hP hD hS hA (fun _ => by simp only [sf_w_fst]) (ci := 2) (q0 := 0) rfl rfl rfl rfl rfl hl.1 (Nat.le_of_ble_eq_true rfl) d_SF_markUsed_65 ⟨Nat.zero_le _, Nat.zero_le _⟩ (fun u_7 H locs hu_7 hP hD hS => ?_)
                have hP : va_P D classes (sf_w q cI cZ fl sl tb np nt cp cc cb ch cm u_6.1 u_6.2.1 u_6.2.2.1 u_6.2.2.2.1 u_6.2.2.2.2 u_7 ta tp tl cu bl pf sh) H := hP
                have hD : va_D A (sf_w q cI cZ fl sl tb np nt cp cc cb ch cm u_6.1 u_6.2.1 u_6.2.2.1 u_6.2.2.2.1 u_6.2.2.2.2 u_7 ta tp tl cu bl pf sh) := hD
                refine lv_iinc (v := (nI (k + 1))) (lv' := [(3, .int (nI (k + 1))), (4, .int u_4), (0, .ref (q 0)), (1, .int 1), (2, .int u_2)]) hx hb d_SF_markUsed_68 hl (k := 4) rfl (nI_1 k) (by decide) rfl (fun ls hl => ?_)
                refine lv_goto (tgt := 28) hx hb d_SF_markUsed_71 (by decide) ?_
                exact ih28 (k + 1) u_7 u_6.1 u_6.2.1 u_6.2.2.1 u_6.2.2.2.1 u_6.2.2.2.2 (by omega) (by omega) (by rw [← heq28]; simp only [f_SF_markUsed_1_l28, ← hu_2, ← hu_4, ← hu_6, ← hu_7, eq_false c_3, eq_false c_5, ↓reduceIte]) _ _ hP hD hS ls (lv_sub hl [2, 3, 4, 0] rfl)
        exact loop28 (12 + 1) 0 vu mp mc mb mh mm (by omega) (by omega) (by rw [← heq2]; simp only [f_SF_markUsed_1_l2, ← hu_2, eq_true c_1, ↓reduceIte]) _ _ hP hD hS ls (lv_sub hl [2, 3, 1, 0] rfl)
      · have hlt : k < 24 := sf_lt_of (N := 24) (by omega) (by omega) c_1
        refine lv_aload_n hx hb d_SF_markUsed_8 rfl (lv_at hl 0 rfl) ?_
        refine va_get (D := D) (ci := 2) (v := .ref (q 15)) (C := R_SF) (T := F_SF) (N := 15) hx hb hts i_SF hown hK hP 0 rfl rfl 7 (by decide) (hts _ wd_116) (fun _ h9 => h9) rfl d_SF_markUsed_9 ?_
        refine lv_iload_n hx hb d_SF_markUsed_12 rfl (lv_at hl 2 rfl) ?_
        refine lv_iconst (v := 0) hx hb d_SF_markUsed_13 (by decide) ?_
        refine va_zast hx hb hK hP hD hS 15 1 rfl rfl (vp_in_nI hlt (by omega)) d_SF_markUsed_14 (fun H locs hP hD hS => ?_)
        rw [nI_clamp (n := k) (by omega)] at hP hD
        rw [sf_nz0] at hP hD
        have hP : va_P D classes (sf_w q cI cZ fl sl tb np nt cp cc cb ch cm mp mc mb mh mm (upd vu k 0) ta tp tl cu bl pf sh) H := hP
        have hD : va_D A (sf_w q cI cZ fl sl tb np nt cp cc cb ch cm mp mc mb mh mm (upd vu k 0) ta tp tl cu bl pf sh) := hD
        refine lv_iinc (v := (nI (k + 1))) (lv' := [(2, .int (nI (k + 1))), (0, .ref (q 0)), (1, .int 1)]) hx hb d_SF_markUsed_15 hl (k := 2) rfl (nI_1 k) (by decide) rfl (fun ls hl => ?_)
        refine lv_goto (tgt := 2) hx hb d_SF_markUsed_18 (by decide) ?_
        exact ih2 (k + 1) (upd vu k 0) (by omega) (by omega) (by rw [← heq2]; simp only [f_SF_markUsed_1_l2, eq_false c_1, ↓reduceIte]) _ _ hP hD hS ls (lv_sub hl [1, 2, 0] rfl)
  exact loop2 (24 + 1) 0 us (by omega) (by omega) (by simp only [f_SF_markUsed_1, ↓reduceIte]) _ _ hP hD hS ls (lv_sub hl [1, 2, 0] rfl)
def f_SF_countFree_0_l9 (fl : Nat → Int32) (tb : Nat → Int32) (mp : Nat → Int32) (mc : Int32) (mb : Int32) (mh : Int32) (mm : Int32) (us : Nat → Int32) : Nat → Nat → Int32 → (Int32 × (Nat → Int32) × (Nat → Int32) × Int32 × Int32 × Int32 × Int32)
  | 0, _, _ => (0, (fun _ => 0), (fun _ => 0), 0, 0, 0, 0)
  | fu + 1, k, vr =>
    if (f_SF_countPlaces 0) ≤ (nI k) then
      (vr, (f_SF_markUsed_0 fl tb mp mc mb mh mm us).1, (f_SF_markUsed_0 fl tb mp mc mb mh mm us).2.1, (f_SF_markUsed_0 fl tb mp mc mb mh mm us).2.2.1, (f_SF_markUsed_0 fl tb mp mc mb mh mm us).2.2.2.1, (f_SF_markUsed_0 fl tb mp mc mb mh mm us).2.2.2.2.1, (f_SF_markUsed_0 fl tb mp mc mb mh mm us).2.2.2.2.2)
    else
      if 24 ≤ (nI k) then
        (vr, (f_SF_markUsed_0 fl tb mp mc mb mh mm us).1, (f_SF_markUsed_0 fl tb mp mc mb mh mm us).2.1, (f_SF_markUsed_0 fl tb mp mc mb mh mm us).2.2.1, (f_SF_markUsed_0 fl tb mp mc mb mh mm us).2.2.2.1, (f_SF_markUsed_0 fl tb mp mc mb mh mm us).2.2.2.2.1, (f_SF_markUsed_0 fl tb mp mc mb mh mm us).2.2.2.2.2)
      else
        if ((f_SF_markUsed_0 fl tb mp mc mb mh mm us).1 k) = 0 then
          f_SF_countFree_0_l9 fl tb mp mc mb mh mm us fu (k + 1) (vr + 1)
        else
          f_SF_countFree_0_l9 fl tb mp mc mb mh mm us fu (k + 1) vr
def f_SF_countFree_0 (fl : Nat → Int32) (tb : Nat → Int32) (mp : Nat → Int32) (mc : Int32) (mb : Int32) (mh : Int32) (mm : Int32) (us : Nat → Int32) : (Int32 × (Nat → Int32) × (Nat → Int32) × Int32 × Int32 × Int32 × Int32) :=
  f_SF_countFree_0_l9 fl tb mp mc mb mh mm us (24 + 1) 0 0
set_option maxHeartbeats 1000000 in
set_option maxRecDepth 100000 in
/-- countFree -/
theorem c_SF_countFree_0 (l : Launch) (D : va_G) (cI cZ cJ : ClassId) (q : Nat → Nat) (fl : Nat → Int32) (sl : Nat → Int32) (tb : Nat → Int32) (np : Nat → Int32) (nt : Nat → Int32) (cp : Nat → Int32) (cc : Int32) (cb : Int32) (ch : Int32) (cm : Int32) (mp : Nat → Int32) (mc : Int32) (mb : Int32) (mh : Int32) (mm : Int32) (us : Nat → Int32) (ta : Nat → Int32) (tp : Nat → Int32) (tl : Int32) (cu : Int32) (bl : Int32) (pf : Int32) (sh : Int32) : sf_M (S := (Int32 × (Nat → Int32) × (Nat → Int32) × Int32 × Int32 × Int32 × Int32)) l D classes (sf_tys cI cZ cJ) y_SF_countFree (sf_ws y_SF_countFree b_SF_countFree 4 (some .int)) 5 121 [.ref (q 0), .int 0] (sf_w q cI cZ fl sl tb np nt cp cc cb ch cm mp mc mb mh mm us ta tp tl cu bl pf sh) (fun r => some (.int r.1)) (fun r => r = f_SF_countFree_0 fl tb mp mc mb mh mm us) (fun r => (sf_w q cI cZ fl sl tb np nt cp cc cb ch cm r.2.2.1 r.2.2.2.1 r.2.2.2.2.1 r.2.2.2.2.2.1 r.2.2.2.2.2.2 r.2.1 ta tp tl cu bl pf sh)) := by
  refine sf_ofW (S := (Int32 × (Nat → Int32) × (Nat → Int32) × Int32 × Int32 × Int32 × Int32)) (by decide) (Nat.le_of_ble_eq_true rfl) ?_
  intro p e s m below meth c A ls R args Q hR hArgs hQ hC0 hr hK hP hD hl
  obtain ⟨hx, hb, hml, hown, hts, hA, hlk⟩ := hC0
  have hS : va_S A s.heap s.heap [] := va_S.rf
  have hl : lv_has ls 4 [(0, .ref (q 0)), (1, .int 0)] := hl
  refine lv_aload_n hx hb d_SF_countFree_0 rfl (lv_at hl 0 rfl) ?_
  refine lv_iload_n hx hb d_SF_countFree_1 rfl (lv_at hl 1 rfl) ?_
  refine sf_callVw (S := ((Nat → Int32) × (Nat → Int32) × Int32 × Int32 × Int32 × Int32)) (rest := []) ⟨hx, hb, hml, hown, hts⟩ (c_SF_markUsed_0 l D cI cZ cJ q fl sl tb np nt cp cc cb ch cm mp mc mb mh mm us ta tp tl cu bl pf sh) (sf_cwV lk_SF_237 hts (fun _ h => h) (by rw [hR]; exact ⟨Nat.le_of_ble_eq_true rfl, Nat.le_of_ble_eq_true rfl⟩)) hK hP hD hS hA (fun _ => by simp only [sf_w_fst]) (ci := 2) (q0 := 0) rfl rfl rfl rfl rfl hl.1 (Nat.le_of_ble_eq_true rfl) d_SF_countFree_2 ⟨Nat.zero_le _, Nat.zero_le _⟩ (fun u_1 H locs hu_1 hP hD hS => ?_)
  have hP : va_P D classes (sf_w q cI cZ fl sl tb np nt cp cc cb ch cm u_1.2.1 u_1.2.2.1 u_1.2.2.2.1 u_1.2.2.2.2.1 u_1.2.2.2.2.2 u_1.1 ta tp tl cu bl pf sh) H := hP
  have hD : va_D A (sf_w q cI cZ fl sl tb np nt cp cc cb ch cm u_1.2.1 u_1.2.2.1 u_1.2.2.2.1 u_1.2.2.2.2.1 u_1.2.2.2.2.2 u_1.1 ta tp tl cu bl pf sh) := hD
  refine lv_iconst (v := 0) hx hb d_SF_countFree_5 (by decide) ?_
  refine lv_istore_n (lv' := [(2, .int 0), (0, .ref (q 0)), (1, .int 0)]) hx hb d_SF_countFree_6 rfl hl (by decide) rfl (fun ls hl => ?_)
  refine lv_iconst (v := 0) hx hb d_SF_countFree_7 (by decide) ?_
  refine lv_istore_n (lv' := [(3, .int 0), (2, .int 0), (0, .ref (q 0)), (1, .int 0)]) hx hb d_SF_countFree_8 rfl hl (by decide) rfl (fun ls hl => ?_)
  have loop9 : ∀ (fu k : Nat) (vr : Int32), k ≤ 24 → k + fu = 24 + 1 → f_SF_countFree_0_l9 fl tb mp mc mb mh mm us fu k vr = f_SF_countFree_0 fl tb mp mc mb mh mm us → ∀ (H : Heap) (locs : List Loc), va_P D classes (sf_w q cI cZ fl sl tb np nt cp cc cb ch cm u_1.2.1 u_1.2.2.1 u_1.2.2.2.1 u_1.2.2.2.2.1 u_1.2.2.2.2.2 u_1.1 ta tp tl cu bl pf sh) H → va_D A (sf_w q cI cZ fl sl tb np nt cp cc cb ch cm u_1.2.1 u_1.2.2.1 u_1.2.2.2.1 u_1.2.2.2.2.1 u_1.2.2.2.2.2 u_1.1 ta tp tl cu bl pf sh) → va_S A s.heap H locs → ∀ (ls : Array Slot), lv_has ls 4 [(0, .ref (q 0)), (1, .int 0), (2, .int vr), (3, .int (nI k))] → W p l e R s m args below meth c H locs 0 0 Q (F0 m 9 ls []) := by
    intro fu
    induction fu with
    | zero =>
      intro k vr h1 h2
      exact absurd h2 (by omega)
    | succ fu ih9 =>
      intro k vr hk9 hkn9 heq9 H locs hP hD hS ls hl
      refine lv_iload_n hx hb d_SF_countFree_9 rfl (lv_at hl 3 rfl) ?_
      refine lv_iload_n hx hb d_SF_countFree_10 rfl (lv_at hl 1 rfl) ?_
      refine sf_callSr (S := Int32) (rest := [.int (nI k)]) ⟨hx, hb, hml, hown, hts⟩ (c_SF_countPlaces l D cI cZ cJ 0) (sf_cwS lk_SF_241 hts (fun _ h => h) (by rw [hR]; exact ⟨Nat.le_of_ble_eq_true rfl, Nat.le_of_ble_eq_true rfl⟩)) hK hP hD hS hA [] rfl rfl (fun _ => rfl) rfl rfl hl.1 (Nat.le_of_ble_eq_true rfl) d_SF_countFree_11 ⟨Nat.zero_le _, Nat.zero_le _⟩ (fun u_2 H locs hu_2 hP hS => ?_)
      refine lv_icmp_ge (tgt := 41) hx hb d_SF_countFree_14 (by decide) (fun c_3 => ?_) (fun c_3 => ?_)
      · refine lv_iload_n hx hb d_SF_countFree_41 rfl (lv_at hl 2 rfl) ?_
        rw [hQ]
        exact sf_iret (vr, u_1.1, u_1.2.1, u_1.2.2.1, u_1.2.2.2.1, u_1.2.2.2.2.1, u_1.2.2.2.2.2) hx hb hr hlk hS rfl rfl (by rw [← heq9]; simp only [f_SF_countFree_0_l9, ← hu_1, ← hu_2, eq_true c_3, ↓reduceIte]) hP d_SF_countFree_42
      · refine lv_iload_n hx hb d_SF_countFree_17 rfl (lv_at hl 3 rfl) ?_
        refine lv_bipush (v := 24) hx hb d_SF_countFree_18 (by decide) ?_
        refine lv_icmp_ge (tgt := 41) hx hb d_SF_countFree_20 (by decide) (fun c_4 => ?_) (fun c_4 => ?_)
        · refine lv_iload_n hx hb d_SF_countFree_41 rfl (lv_at hl 2 rfl) ?_
          rw [hQ]
          exact sf_iret (vr, u_1.1, u_1.2.1, u_1.2.2.1, u_1.2.2.2.1, u_1.2.2.2.2.1, u_1.2.2.2.2.2) hx hb hr hlk hS rfl rfl (by rw [← heq9]; simp only [f_SF_countFree_0_l9, ← hu_1, ← hu_2, eq_false c_3, eq_true c_4, ↓reduceIte]) hP d_SF_countFree_42
        · have hlt : k < 24 := sf_lt_of (N := 24) (by omega) (by omega) c_4
          refine lv_aload_n hx hb d_SF_countFree_23 rfl (lv_at hl 0 rfl) ?_
          refine va_get (D := D) (ci := 2) (v := .ref (q 15)) (C := R_SF) (T := F_SF) (N := 15) hx hb hts i_SF hown hK hP 0 rfl rfl 7 (by decide) (hts _ wd_116) (fun _ h9 => h9) rfl d_SF_countFree_24 ?_
          refine lv_iload_n hx hb d_SF_countFree_27 rfl (lv_at hl 3 rfl) ?_
          refine va_zald hx hb hK hP 15 1 rfl rfl (vp_in_nI hlt (by omega)) d_SF_countFree_28 ?_
          rw [nI_clamp (n := k) (by omega)]
          refine lv_if_ne (tgt := 35) hx hb d_SF_countFree_29 (by decide) (fun c_5 => ?_) (fun c_5 => ?_)
          · refine lv_iinc (v := (nI (k + 1))) (lv' := [(3, .int (nI (k + 1))), (0, .ref (q 0)), (1, .int 0), (2, .int vr)]) hx hb d_SF_countFree_35 hl (k := 3) rfl (nI_1 k) (by decide) rfl (fun ls hl => ?_)
            refine lv_goto (tgt := 9) hx hb d_SF_countFree_38 (by decide) ?_
            exact ih9 (k + 1) vr (by omega) (by omega) (by rw [← heq9]; simp only [f_SF_countFree_0_l9, ← hu_1, ← hu_2, eq_false c_3, eq_false c_4, eq_false c_5, ↓reduceIte]) _ _ hP hD hS ls (lv_sub hl [1, 2, 3, 0] rfl)
          · refine lv_iinc (v := (vr + 1)) (lv' := [(2, .int (vr + 1)), (0, .ref (q 0)), (1, .int 0), (3, .int (nI k))]) hx hb d_SF_countFree_32 hl (k := 2) rfl rfl (by decide) rfl (fun ls hl => ?_)
            refine lv_iinc (v := (nI (k + 1))) (lv' := [(3, .int (nI (k + 1))), (2, .int (vr + 1)), (0, .ref (q 0)), (1, .int 0)]) hx hb d_SF_countFree_35 hl (k := 3) rfl (nI_1 k) (by decide) rfl (fun ls hl => ?_)
            refine lv_goto (tgt := 9) hx hb d_SF_countFree_38 (by decide) ?_
            exact ih9 (k + 1) (vr + 1) (by omega) (by omega) (by rw [← heq9]; simp only [f_SF_countFree_0_l9, ← hu_1, ← hu_2, eq_false c_3, eq_false c_4, eq_true c_5, ↓reduceIte]) _ _ hP hD hS ls (lv_sub hl [2, 3, 1, 0] rfl)
  exact loop9 (24 + 1) 0 0 (by omega) (by omega) (by simp only [f_SF_countFree_0, ← hu_1, ↓reduceIte]) _ _ hP hD hS ls (lv_sub hl [2, 3, 1, 0] rfl)
def f_SF_countFree_1_l9 (sl : Nat → Int32) (tb : Nat → Int32) (mp : Nat → Int32) (mc : Int32) (mb : Int32) (mh : Int32) (mm : Int32) (us : Nat → Int32) : Nat → Nat → Int32 → (Int32 × (Nat → Int32) × (Nat → Int32) × Int32 × Int32 × Int32 × Int32)
  | 0, _, _ => (0, (fun _ => 0), (fun _ => 0), 0, 0, 0, 0)
  | fu + 1, k, vr =>
    if (f_SF_countPlaces 1) ≤ (nI k) then
      (vr, (f_SF_markUsed_1 sl tb mp mc mb mh mm us).1, (f_SF_markUsed_1 sl tb mp mc mb mh mm us).2.1, (f_SF_markUsed_1 sl tb mp mc mb mh mm us).2.2.1, (f_SF_markUsed_1 sl tb mp mc mb mh mm us).2.2.2.1, (f_SF_markUsed_1 sl tb mp mc mb mh mm us).2.2.2.2.1, (f_SF_markUsed_1 sl tb mp mc mb mh mm us).2.2.2.2.2)
    else
      if 24 ≤ (nI k) then
        (vr, (f_SF_markUsed_1 sl tb mp mc mb mh mm us).1, (f_SF_markUsed_1 sl tb mp mc mb mh mm us).2.1, (f_SF_markUsed_1 sl tb mp mc mb mh mm us).2.2.1, (f_SF_markUsed_1 sl tb mp mc mb mh mm us).2.2.2.1, (f_SF_markUsed_1 sl tb mp mc mb mh mm us).2.2.2.2.1, (f_SF_markUsed_1 sl tb mp mc mb mh mm us).2.2.2.2.2)
      else
        if ((f_SF_markUsed_1 sl tb mp mc mb mh mm us).1 k) = 0 then
          f_SF_countFree_1_l9 sl tb mp mc mb mh mm us fu (k + 1) (vr + 1)
        else
          f_SF_countFree_1_l9 sl tb mp mc mb mh mm us fu (k + 1) vr
def f_SF_countFree_1 (sl : Nat → Int32) (tb : Nat → Int32) (mp : Nat → Int32) (mc : Int32) (mb : Int32) (mh : Int32) (mm : Int32) (us : Nat → Int32) : (Int32 × (Nat → Int32) × (Nat → Int32) × Int32 × Int32 × Int32 × Int32) :=
  f_SF_countFree_1_l9 sl tb mp mc mb mh mm us (24 + 1) 0 0
set_option maxHeartbeats 1000000 in
set_option maxRecDepth 100000 in
/-- countFree -/
theorem c_SF_countFree_1 (l : Launch) (D : va_G) (cI cZ cJ : ClassId) (q : Nat → Nat) (fl : Nat → Int32) (sl : Nat → Int32) (tb : Nat → Int32) (np : Nat → Int32) (nt : Nat → Int32) (cp : Nat → Int32) (cc : Int32) (cb : Int32) (ch : Int32) (cm : Int32) (mp : Nat → Int32) (mc : Int32) (mb : Int32) (mh : Int32) (mm : Int32) (us : Nat → Int32) (ta : Nat → Int32) (tp : Nat → Int32) (tl : Int32) (cu : Int32) (bl : Int32) (pf : Int32) (sh : Int32) : sf_M (S := (Int32 × (Nat → Int32) × (Nat → Int32) × Int32 × Int32 × Int32 × Int32)) l D classes (sf_tys cI cZ cJ) y_SF_countFree (sf_ws y_SF_countFree b_SF_countFree 4 (some .int)) 5 121 [.ref (q 0), .int 1] (sf_w q cI cZ fl sl tb np nt cp cc cb ch cm mp mc mb mh mm us ta tp tl cu bl pf sh) (fun r => some (.int r.1)) (fun r => r = f_SF_countFree_1 sl tb mp mc mb mh mm us) (fun r => (sf_w q cI cZ fl sl tb np nt cp cc cb ch cm r.2.2.1 r.2.2.2.1 r.2.2.2.2.1 r.2.2.2.2.2.1 r.2.2.2.2.2.2 r.2.1 ta tp tl cu bl pf sh)) := by
  refine sf_ofW (S := (Int32 × (Nat → Int32) × (Nat → Int32) × Int32 × Int32 × Int32 × Int32)) (by decide) (Nat.le_of_ble_eq_true rfl) ?_
  intro p e s m below meth c A ls R args Q hR hArgs hQ hC0 hr hK hP hD hl
  obtain ⟨hx, hb, hml, hown, hts, hA, hlk⟩ := hC0
  have hS : va_S A s.heap s.heap [] := va_S.rf
  have hl : lv_has ls 4 [(0, .ref (q 0)), (1, .int 1)] := hl
  refine lv_aload_n hx hb d_SF_countFree_0 rfl (lv_at hl 0 rfl) ?_
  refine lv_iload_n hx hb d_SF_countFree_1 rfl (lv_at hl 1 rfl) ?_
  refine sf_callVw (S := ((Nat → Int32) × (Nat → Int32) × Int32 × Int32 × Int32 × Int32)) (rest := []) ⟨hx, hb, hml, hown, hts⟩ (c_SF_markUsed_1 l D cI cZ cJ q fl sl tb np nt cp cc cb ch cm mp mc mb mh mm us ta tp tl cu bl pf sh) (sf_cwV lk_SF_237 hts (fun _ h => h) (by rw [hR]; exact ⟨Nat.le_of_ble_eq_true rfl, Nat.le_of_ble_eq_true rfl⟩)) hK hP hD hS hA (fun _ => by simp only [sf_w_fst]) (ci := 2) (q0 := 0) rfl rfl rfl rfl rfl hl.1 (Nat.le_of_ble_eq_true rfl) d_SF_countFree_2 ⟨Nat.zero_le _, Nat.zero_le _⟩ (fun u_1 H locs hu_1 hP hD hS => ?_)
  have hP : va_P D classes (sf_w q cI cZ fl sl tb np nt cp cc cb ch cm u_1.2.1 u_1.2.2.1 u_1.2.2.2.1 u_1.2.2.2.2.1 u_1.2.2.2.2.2 u_1.1 ta tp tl cu bl pf sh) H := hP
  have hD : va_D A (sf_w q cI cZ fl sl tb np nt cp cc cb ch cm u_1.2.1 u_1.2.2.1 u_1.2.2.2.1 u_1.2.2.2.2.1 u_1.2.2.2.2.2 u_1.1 ta tp tl cu bl pf sh) := hD
  refine lv_iconst (v := 0) hx hb d_SF_countFree_5 (by decide) ?_
  refine lv_istore_n (lv' := [(2, .int 0), (0, .ref (q 0)), (1, .int 1)]) hx hb d_SF_countFree_6 rfl hl (by decide) rfl (fun ls hl => ?_)
  refine lv_iconst (v := 0) hx hb d_SF_countFree_7 (by decide) ?_
  refine lv_istore_n (lv' := [(3, .int 0), (2, .int 0), (0, .ref (q 0)), (1, .int 1)]) hx hb d_SF_countFree_8 rfl hl (by decide) rfl (fun ls hl => ?_)
  have loop9 : ∀ (fu k : Nat) (vr : Int32), k ≤ 24 → k + fu = 24 + 1 → f_SF_countFree_1_l9 sl tb mp mc mb mh mm us fu k vr = f_SF_countFree_1 sl tb mp mc mb mh mm us → ∀ (H : Heap) (locs : List Loc), va_P D classes (sf_w q cI cZ fl sl tb np nt cp cc cb ch cm u_1.2.1 u_1.2.2.1 u_1.2.2.2.1 u_1.2.2.2.2.1 u_1.2.2.2.2.2 u_1.1 ta tp tl cu bl pf sh) H → va_D A (sf_w q cI cZ fl sl tb np nt cp cc cb ch cm u_1.2.1 u_1.2.2.1 u_1.2.2.2.1 u_1.2.2.2.2.1 u_1.2.2.2.2.2 u_1.1 ta tp tl cu bl pf sh) → va_S A s.heap H locs → ∀ (ls : Array Slot), lv_has ls 4 [(0, .ref (q 0)), (1, .int 1), (2, .int vr), (3, .int (nI k))] → W p l e R s m args below meth c H locs 0 0 Q (F0 m 9 ls []) := by
    intro fu
    induction fu with
    | zero =>
      intro k vr h1 h2
      exact absurd h2 (by omega)
    | succ fu ih9 =>
      intro k vr hk9 hkn9 heq9 H locs hP hD hS ls hl
      refine lv_iload_n hx hb d_SF_countFree_9 rfl (lv_at hl 3 rfl) ?_
      refine lv_iload_n hx hb d_SF_countFree_10 rfl (lv_at hl 1 rfl) ?_
      refine sf_callSr (S := Int32) (rest := [.int (nI k)]) ⟨hx, hb, hml, hown, hts⟩ (c_SF_countPlaces l D cI cZ cJ 1) (sf_cwS lk_SF_241 hts (fun _ h => h) (by rw [hR]; exact ⟨Nat.le_of_ble_eq_true rfl, Nat.le_of_ble_eq_true rfl⟩)) hK hP hD hS hA [] rfl rfl (fun _ => rfl) rfl rfl hl.1 (Nat.le_of_ble_eq_true rfl) d_SF_countFree_11 ⟨Nat.zero_le _, Nat.zero_le _⟩ (fun u_2 H locs hu_2 hP hS => ?_)
      refine lv_icmp_ge (tgt := 41) hx hb d_SF_countFree_14 (by decide) (fun c_3 => ?_) (fun c_3 => ?_)
      · refine lv_iload_n hx hb d_SF_countFree_41 rfl (lv_at hl 2 rfl) ?_
        rw [hQ]
        exact sf_iret (vr, u_1.1, u_1.2.1, u_1.2.2.1, u_1.2.2.2.1, u_1.2.2.2.2.1, u_1.2.2.2.2.2) hx hb hr hlk hS rfl rfl (by rw [← heq9]; simp only [f_SF_countFree_1_l9, ← hu_1, ← hu_2, eq_true c_3, ↓reduceIte]) hP d_SF_countFree_42
      · refine lv_iload_n hx hb d_SF_countFree_17 rfl (lv_at hl 3 rfl) ?_
        refine lv_bipush (v := 24) hx hb d_SF_countFree_18 (by decide) ?_
        refine lv_icmp_ge (tgt := 41) hx hb d_SF_countFree_20 (by decide) (fun c_4 => ?_) (fun c_4 => ?_)
        · refine lv_iload_n hx hb d_SF_countFree_41 rfl (lv_at hl 2 rfl) ?_
          rw [hQ]
          exact sf_iret (vr, u_1.1, u_1.2.1, u_1.2.2.1, u_1.2.2.2.1, u_1.2.2.2.2.1, u_1.2.2.2.2.2) hx hb hr hlk hS rfl rfl (by rw [← heq9]; simp only [f_SF_countFree_1_l9, ← hu_1, ← hu_2, eq_false c_3, eq_true c_4, ↓reduceIte]) hP d_SF_countFree_42
        · have hlt : k < 24 := sf_lt_of (N := 24) (by omega) (by omega) c_4
          refine lv_aload_n hx hb d_SF_countFree_23 rfl (lv_at hl 0 rfl) ?_
          refine va_get (D := D) (ci := 2) (v := .ref (q 15)) (C := R_SF) (T := F_SF) (N := 15) hx hb hts i_SF hown hK hP 0 rfl rfl 7 (by decide) (hts _ wd_116) (fun _ h9 => h9) rfl d_SF_countFree_24 ?_
          refine lv_iload_n hx hb d_SF_countFree_27 rfl (lv_at hl 3 rfl) ?_
          refine va_zald hx hb hK hP 15 1 rfl rfl (vp_in_nI hlt (by omega)) d_SF_countFree_28 ?_
          rw [nI_clamp (n := k) (by omega)]
          refine lv_if_ne (tgt := 35) hx hb d_SF_countFree_29 (by decide) (fun c_5 => ?_) (fun c_5 => ?_)
          · refine lv_iinc (v := (nI (k + 1))) (lv' := [(3, .int (nI (k + 1))), (0, .ref (q 0)), (1, .int 1), (2, .int vr)]) hx hb d_SF_countFree_35 hl (k := 3) rfl (nI_1 k) (by decide) rfl (fun ls hl => ?_)
            refine lv_goto (tgt := 9) hx hb d_SF_countFree_38 (by decide) ?_
            exact ih9 (k + 1) vr (by omega) (by omega) (by rw [← heq9]; simp only [f_SF_countFree_1_l9, ← hu_1, ← hu_2, eq_false c_3, eq_false c_4, eq_false c_5, ↓reduceIte]) _ _ hP hD hS ls (lv_sub hl [1, 2, 3, 0] rfl)
          · refine lv_iinc (v := (vr + 1)) (lv' := [(2, .int (vr + 1)), (0, .ref (q 0)), (1, .int 1), (3, .int (nI k))]) hx hb d_SF_countFree_32 hl (k := 2) rfl rfl (by decide) rfl (fun ls hl => ?_)
            refine lv_iinc (v := (nI (k + 1))) (lv' := [(3, .int (nI (k + 1))), (2, .int (vr + 1)), (0, .ref (q 0)), (1, .int 1)]) hx hb d_SF_countFree_35 hl (k := 3) rfl (nI_1 k) (by decide) rfl (fun ls hl => ?_)
            refine lv_goto (tgt := 9) hx hb d_SF_countFree_38 (by decide) ?_
            exact ih9 (k + 1) (vr + 1) (by omega) (by omega) (by rw [← heq9]; simp only [f_SF_countFree_1_l9, ← hu_1, ← hu_2, eq_false c_3, eq_false c_4, eq_true c_5, ↓reduceIte]) _ _ hP hD hS ls (lv_sub hl [2, 3, 1, 0] rfl)
  exact loop9 (24 + 1) 0 0 (by omega) (by omega) (by simp only [f_SF_countFree_1, ← hu_1, ↓reduceIte]) _ _ hP hD hS ls (lv_sub hl [2, 3, 1, 0] rfl)
def f_SF_takePlaces_0_l10 (fl : Nat → Int32) (tb : Nat → Int32) (mp : Nat → Int32) (mc : Int32) (mb : Int32) (mh : Int32) (mm : Int32) (us : Nat → Int32) (pn : Int32) : Nat → Nat → Nat → (Nat → Int32) → (Int32 × (Nat → Int32) × (Nat → Int32) × Int32 × Int32 × Int32 × Int32 × (Nat → Int32))
  | 0, _, _, _ => (0, (fun _ => 0), (fun _ => 0), 0, 0, 0, 0, (fun _ => 0))
  | fu + 1, k, vo, vt =>
    if (f_SF_countPlaces 0) ≤ (nI k) then
      if (nI vo) = pn then
        (1, (f_SF_markUsed_0 fl tb mp mc mb mh mm us).1, (f_SF_markUsed_0 fl tb mp mc mb mh mm us).2.1, (f_SF_markUsed_0 fl tb mp mc mb mh mm us).2.2.1, (f_SF_markUsed_0 fl tb mp mc mb mh mm us).2.2.2.1, (f_SF_markUsed_0 fl tb mp mc mb mh mm us).2.2.2.2.1, (f_SF_markUsed_0 fl tb mp mc mb mh mm us).2.2.2.2.2, vt)
      else
        (0, (f_SF_markUsed_0 fl tb mp mc mb mh mm us).1, (f_SF_markUsed_0 fl tb mp mc mb mh mm us).2.1, (f_SF_markUsed_0 fl tb mp mc mb mh mm us).2.2.1, (f_SF_markUsed_0 fl tb mp mc mb mh mm us).2.2.2.1, (f_SF_markUsed_0 fl tb mp mc mb mh mm us).2.2.2.2.1, (f_SF_markUsed_0 fl tb mp mc mb mh mm us).2.2.2.2.2, vt)
    else
      if 24 ≤ (nI k) then
        if (nI vo) = pn then
          (1, (f_SF_markUsed_0 fl tb mp mc mb mh mm us).1, (f_SF_markUsed_0 fl tb mp mc mb mh mm us).2.1, (f_SF_markUsed_0 fl tb mp mc mb mh mm us).2.2.1, (f_SF_markUsed_0 fl tb mp mc mb mh mm us).2.2.2.1, (f_SF_markUsed_0 fl tb mp mc mb mh mm us).2.2.2.2.1, (f_SF_markUsed_0 fl tb mp mc mb mh mm us).2.2.2.2.2, vt)
        else
          (0, (f_SF_markUsed_0 fl tb mp mc mb mh mm us).1, (f_SF_markUsed_0 fl tb mp mc mb mh mm us).2.1, (f_SF_markUsed_0 fl tb mp mc mb mh mm us).2.2.1, (f_SF_markUsed_0 fl tb mp mc mb mh mm us).2.2.2.1, (f_SF_markUsed_0 fl tb mp mc mb mh mm us).2.2.2.2.1, (f_SF_markUsed_0 fl tb mp mc mb mh mm us).2.2.2.2.2, vt)
      else
        if ((f_SF_markUsed_0 fl tb mp mc mb mh mm us).1 k) = 0 then
          if pn ≤ (nI vo) then
            f_SF_takePlaces_0_l10 fl tb mp mc mb mh mm us pn fu (k + 1) vo vt
          else
            if 3 ≤ (nI vo) then
              f_SF_takePlaces_0_l10 fl tb mp mc mb mh mm us pn fu (k + 1) vo vt
            else
              f_SF_takePlaces_0_l10 fl tb mp mc mb mh mm us pn fu (k + 1) (vo + 1) (upd vt vo (nI k))
        else
          f_SF_takePlaces_0_l10 fl tb mp mc mb mh mm us pn fu (k + 1) vo vt
def f_SF_takePlaces_0 (fl : Nat → Int32) (tb : Nat → Int32) (mp : Nat → Int32) (mc : Int32) (mb : Int32) (mh : Int32) (mm : Int32) (us : Nat → Int32) (ta : Nat → Int32) (pn : Int32) : (Int32 × (Nat → Int32) × (Nat → Int32) × Int32 × Int32 × Int32 × Int32 × (Nat → Int32)) :=
  f_SF_takePlaces_0_l10 fl tb mp mc mb mh mm us pn (24 + 1) 0 0 ta
set_option maxHeartbeats 1000000 in
set_option maxRecDepth 100000 in
/-- takePlaces -/
theorem c_SF_takePlaces_0 (l : Launch) (D : va_G) (cI cZ cJ : ClassId) (q : Nat → Nat) (fl : Nat → Int32) (sl : Nat → Int32) (tb : Nat → Int32) (np : Nat → Int32) (nt : Nat → Int32) (cp : Nat → Int32) (cc : Int32) (cb : Int32) (ch : Int32) (cm : Int32) (mp : Nat → Int32) (mc : Int32) (mb : Int32) (mh : Int32) (mm : Int32) (us : Nat → Int32) (ta : Nat → Int32) (tp : Nat → Int32) (tl : Int32) (cu : Int32) (bl : Int32) (pf : Int32) (sh : Int32) (pn : Int32) : sf_M (S := (Int32 × (Nat → Int32) × (Nat → Int32) × Int32 × Int32 × Int32 × Int32 × (Nat → Int32))) l D classes (sf_tys cI cZ cJ) y_SF_takePlaces (sf_ws y_SF_takePlaces b_SF_takePlaces 5 (some .boolean)) 5 121 [.ref (q 0), .int 0, .int pn] (sf_w q cI cZ fl sl tb np nt cp cc cb ch cm mp mc mb mh mm us ta tp tl cu bl pf sh) (fun r => some (.int r.1)) (fun r => r = f_SF_takePlaces_0 fl tb mp mc mb mh mm us ta pn) (fun r => (sf_w q cI cZ fl sl tb np nt cp cc cb ch cm r.2.2.1 r.2.2.2.1 r.2.2.2.2.1 r.2.2.2.2.2.1 r.2.2.2.2.2.2.1 r.2.1 r.2.2.2.2.2.2.2 tp tl cu bl pf sh)) := by
  refine sf_ofW (S := (Int32 × (Nat → Int32) × (Nat → Int32) × Int32 × Int32 × Int32 × Int32 × (Nat → Int32))) (by decide) (Nat.le_of_ble_eq_true rfl) ?_
  intro p e s m below meth c A ls R args Q hR hArgs hQ hC0 hr hK hP hD hl
  obtain ⟨hx, hb, hml, hown, hts, hA, hlk⟩ := hC0
  have hS : va_S A s.heap s.heap [] := va_S.rf
  have hl : lv_has ls 5 [(0, .ref (q 0)), (1, .int 0), (2, .int pn)] := hl
  refine lv_aload_n hx hb d_SF_takePlaces_0 rfl (lv_at hl 0 rfl) ?_
  refine lv_iload_n hx hb d_SF_takePlaces_1 rfl (lv_at hl 1 rfl) ?_
  refine sf_callVw (S := ((Nat → Int32) × (Nat → Int32) × Int32 × Int32 × Int32 × Int32)) (rest := []) ⟨hx, hb, hml, hown, hts⟩ (c_SF_markUsed_0 l D cI cZ cJ q fl sl tb np nt cp cc cb ch cm mp mc mb mh mm us ta tp tl cu bl pf sh) (sf_cwV lk_SF_237 hts (fun _ h => h) (by rw [hR]; exact ⟨Nat.le_of_ble_eq_true rfl, Nat.le_of_ble_eq_true rfl⟩)) hK hP hD hS hA (fun _ => by simp only [sf_w_fst]) (ci := 2) (q0 := 0) rfl rfl rfl rfl rfl hl.1 (Nat.le_of_ble_eq_true rfl) d_SF_takePlaces_2 ⟨Nat.zero_le _, Nat.zero_le _⟩ (fun u_1 H locs hu_1 hP hD hS => ?_)
  have hP : va_P D classes (sf_w q cI cZ fl sl tb np nt cp cc cb ch cm u_1.2.1 u_1.2.2.1 u_1.2.2.2.1 u_1.2.2.2.2.1 u_1.2.2.2.2.2 u_1.1 ta tp tl cu bl pf sh) H := hP
  have hD : va_D A (sf_w q cI cZ fl sl tb np nt cp cc cb ch cm u_1.2.1 u_1.2.2.1 u_1.2.2.2.1 u_1.2.2.2.2.1 u_1.2.2.2.2.2 u_1.1 ta tp tl cu bl pf sh) := hD
  refine lv_iconst (v := 0) hx hb d_SF_takePlaces_5 (by decide) ?_
  refine lv_istore_n (lv' := [(3, .int 0), (0, .ref (q 0)), (1, .int 0), (2, .int pn)]) hx hb d_SF_takePlaces_6 rfl hl (by decide) rfl (fun ls hl => ?_)
  refine lv_iconst (v := 0) hx hb d_SF_takePlaces_7 (by decide) ?_
  refine lv_istore (lv' := [(4, .int 0), (3, .int 0), (0, .ref (q 0)), (1, .int 0), (2, .int pn)]) hx hb d_SF_takePlaces_8 hl (by decide) rfl (fun ls hl => ?_)
  have loop10 : ∀ (fu k : Nat) (vo : Nat) (vt : (Nat → Int32)), k ≤ 24 → k + fu = 24 + 1 → vo ≤ 3 → f_SF_takePlaces_0_l10 fl tb mp mc mb mh mm us pn fu k vo vt = f_SF_takePlaces_0 fl tb mp mc mb mh mm us ta pn → ∀ (H : Heap) (locs : List Loc), va_P D classes (sf_w q cI cZ fl sl tb np nt cp cc cb ch cm u_1.2.1 u_1.2.2.1 u_1.2.2.2.1 u_1.2.2.2.2.1 u_1.2.2.2.2.2 u_1.1 vt tp tl cu bl pf sh) H → va_D A (sf_w q cI cZ fl sl tb np nt cp cc cb ch cm u_1.2.1 u_1.2.2.1 u_1.2.2.2.1 u_1.2.2.2.2.1 u_1.2.2.2.2.2 u_1.1 vt tp tl cu bl pf sh) → va_S A s.heap H locs → ∀ (ls : Array Slot), lv_has ls 5 [(0, .ref (q 0)), (1, .int 0), (2, .int pn), (3, .int (nI vo)), (4, .int (nI k))] → W p l e R s m args below meth c H locs 0 0 Q (F0 m 10 ls []) := by
    intro fu
    induction fu with
    | zero =>
      intro k vo vt h1 h2
      exact absurd h2 (by omega)
    | succ fu ih10 =>
      intro k vo vt hk10 hkn10 hi100 heq10 H locs hP hD hS ls hl
      refine lv_iload hx hb d_SF_takePlaces_10 (lv_at hl 4 rfl) ?_
      refine lv_iload_n hx hb d_SF_takePlaces_12 rfl (lv_at hl 1 rfl) ?_
      refine sf_callSr (S := Int32) (rest := [.int (nI k)]) ⟨hx, hb, hml, hown, hts⟩ (c_SF_countPlaces l D cI cZ cJ 0) (sf_cwS lk_SF_241 hts (fun _ h => h) (by rw [hR]; exact ⟨Nat.le_of_ble_eq_true rfl, Nat.le_of_ble_eq_true rfl⟩)) hK hP hD hS hA [] rfl rfl (fun _ => rfl) rfl rfl hl.1 (Nat.le_of_ble_eq_true rfl) d_SF_takePlaces_13 ⟨Nat.zero_le _, Nat.zero_le _⟩ (fun u_2 H locs hu_2 hP hS => ?_)
      refine lv_icmp_ge (tgt := 63) hx hb d_SF_takePlaces_16 (by decide) (fun c_3 => ?_) (fun c_3 => ?_)
      · refine lv_iload_n hx hb d_SF_takePlaces_63 rfl (lv_at hl 3 rfl) ?_
        refine lv_iload_n hx hb d_SF_takePlaces_64 rfl (lv_at hl 2 rfl) ?_
        refine lv_icmp_ne (tgt := 72) hx hb d_SF_takePlaces_65 (by decide) (fun c_4 => ?_) (fun c_4 => ?_)
        · refine lv_iconst (v := 0) hx hb d_SF_takePlaces_72 (by decide) ?_
          rw [hQ]
          exact sf_iret (0, u_1.1, u_1.2.1, u_1.2.2.1, u_1.2.2.2.1, u_1.2.2.2.2.1, u_1.2.2.2.2.2, vt) hx hb hr hlk hS sf_b0 rfl (by rw [← heq10]; simp only [f_SF_takePlaces_0_l10, ← hu_1, ← hu_2, eq_true c_3, eq_false c_4, ↓reduceIte]) hP d_SF_takePlaces_73
        · refine lv_iconst (v := 1) hx hb d_SF_takePlaces_68 (by decide) ?_
          refine lv_goto (tgt := 73) hx hb d_SF_takePlaces_69 (by decide) ?_
          rw [hQ]
          exact sf_iret (1, u_1.1, u_1.2.1, u_1.2.2.1, u_1.2.2.2.1, u_1.2.2.2.2.1, u_1.2.2.2.2.2, vt) hx hb hr hlk hS sf_b1 rfl (by rw [← heq10]; simp only [f_SF_takePlaces_0_l10, ← hu_1, ← hu_2, eq_true c_3, eq_true c_4, ↓reduceIte]) hP d_SF_takePlaces_73
      · refine lv_iload hx hb d_SF_takePlaces_19 (lv_at hl 4 rfl) ?_
        refine lv_bipush (v := 24) hx hb d_SF_takePlaces_21 (by decide) ?_
        refine lv_icmp_ge (tgt := 63) hx hb d_SF_takePlaces_23 (by decide) (fun c_5 => ?_) (fun c_5 => ?_)
        · refine lv_iload_n hx hb d_SF_takePlaces_63 rfl (lv_at hl 3 rfl) ?_
          refine lv_iload_n hx hb d_SF_takePlaces_64 rfl (lv_at hl 2 rfl) ?_
          refine lv_icmp_ne (tgt := 72) hx hb d_SF_takePlaces_65 (by decide) (fun c_6 => ?_) (fun c_6 => ?_)
          · refine lv_iconst (v := 0) hx hb d_SF_takePlaces_72 (by decide) ?_
            rw [hQ]
            exact sf_iret (0, u_1.1, u_1.2.1, u_1.2.2.1, u_1.2.2.2.1, u_1.2.2.2.2.1, u_1.2.2.2.2.2, vt) hx hb hr hlk hS sf_b0 rfl (by rw [← heq10]; simp only [f_SF_takePlaces_0_l10, ← hu_1, ← hu_2, eq_false c_3, eq_true c_5, eq_false c_6, ↓reduceIte]) hP d_SF_takePlaces_73
          · refine lv_iconst (v := 1) hx hb d_SF_takePlaces_68 (by decide) ?_
            refine lv_goto (tgt := 73) hx hb d_SF_takePlaces_69 (by decide) ?_
            rw [hQ]
            exact sf_iret (1, u_1.1, u_1.2.1, u_1.2.2.1, u_1.2.2.2.1, u_1.2.2.2.2.1, u_1.2.2.2.2.2, vt) hx hb hr hlk hS sf_b1 rfl (by rw [← heq10]; simp only [f_SF_takePlaces_0_l10, ← hu_1, ← hu_2, eq_false c_3, eq_true c_5, eq_true c_6, ↓reduceIte]) hP d_SF_takePlaces_73
        · have hlt : k < 24 := sf_lt_of (N := 24) (by omega) (by omega) c_5
          refine lv_aload_n hx hb d_SF_takePlaces_26 rfl (lv_at hl 0 rfl) ?_
          refine va_get (D := D) (ci := 2) (v := .ref (q 15)) (C := R_SF) (T := F_SF) (N := 15) hx hb hts i_SF hown hK hP 0 rfl rfl 7 (by decide) (hts _ wd_116) (fun _ h9 => h9) rfl d_SF_takePlaces_27 ?_
          refine lv_iload hx hb d_SF_takePlaces_30 (lv_at hl 4 rfl) ?_
          refine va_zald hx hb hK hP 15 1 rfl rfl (vp_in_nI hlt (by omega)) d_SF_takePlaces_32 ?_
          rw [nI_clamp (n := k) (by omega)]
          refine lv_if_ne (tgt := 57) hx hb d_SF_takePlaces_33 (by decide) (fun c_7 => ?_) (fun c_7 => ?_)
          · refine lv_iinc (v := (nI (k + 1))) (lv' := [(4, .int (nI (k + 1))), (0, .ref (q 0)), (1, .int 0), (2, .int pn), (3, .int (nI vo))]) hx hb d_SF_takePlaces_57 hl (k := 4) rfl (nI_1 k) (by decide) rfl (fun ls hl => ?_)
            refine lv_goto (tgt := 10) hx hb d_SF_takePlaces_60 (by decide) ?_
            exact ih10 (k + 1) vo vt (by omega) (by omega) (by omega) (by rw [← heq10]; simp only [f_SF_takePlaces_0_l10, ← hu_1, ← hu_2, eq_false c_3, eq_false c_5, eq_false c_7, ↓reduceIte]) _ _ hP hD hS ls (lv_sub hl [1, 2, 3, 4, 0] rfl)
          · refine lv_iload_n hx hb d_SF_takePlaces_36 rfl (lv_at hl 3 rfl) ?_
            refine lv_iload_n hx hb d_SF_takePlaces_37 rfl (lv_at hl 2 rfl) ?_
            refine lv_icmp_ge (tgt := 57) hx hb d_SF_takePlaces_38 (by decide) (fun c_8 => ?_) (fun c_8 => ?_)
            · refine lv_iinc (v := (nI (k + 1))) (lv' := [(4, .int (nI (k + 1))), (0, .ref (q 0)), (1, .int 0), (2, .int pn), (3, .int (nI vo))]) hx hb d_SF_takePlaces_57 hl (k := 4) rfl (nI_1 k) (by decide) rfl (fun ls hl => ?_)
              refine lv_goto (tgt := 10) hx hb d_SF_takePlaces_60 (by decide) ?_
              exact ih10 (k + 1) vo vt (by omega) (by omega) (by omega) (by rw [← heq10]; simp only [f_SF_takePlaces_0_l10, ← hu_1, ← hu_2, eq_false c_3, eq_false c_5, eq_true c_7, eq_true c_8, ↓reduceIte]) _ _ hP hD hS ls (lv_sub hl [1, 2, 3, 4, 0] rfl)
            · refine lv_iload_n hx hb d_SF_takePlaces_41 rfl (lv_at hl 3 rfl) ?_
              refine lv_iconst (v := 3) hx hb d_SF_takePlaces_42 (by decide) ?_
              refine lv_icmp_ge (tgt := 57) hx hb d_SF_takePlaces_43 (by decide) (fun c_9 => ?_) (fun c_9 => ?_)
              · refine lv_iinc (v := (nI (k + 1))) (lv' := [(4, .int (nI (k + 1))), (0, .ref (q 0)), (1, .int 0), (2, .int pn), (3, .int (nI vo))]) hx hb d_SF_takePlaces_57 hl (k := 4) rfl (nI_1 k) (by decide) rfl (fun ls hl => ?_)
                refine lv_goto (tgt := 10) hx hb d_SF_takePlaces_60 (by decide) ?_
                exact ih10 (k + 1) vo vt (by omega) (by omega) (by omega) (by rw [← heq10]; simp only [f_SF_takePlaces_0_l10, ← hu_1, ← hu_2, eq_false c_3, eq_false c_5, eq_true c_7, eq_false c_8, eq_true c_9, ↓reduceIte]) _ _ hP hD hS ls (lv_sub hl [1, 2, 3, 4, 0] rfl)
              · have hv3 : vo < 3 := sf_lt_of (N := 3) (by omega) (by omega) c_9
                refine lv_aload_n hx hb d_SF_takePlaces_46 rfl (lv_at hl 0 rfl) ?_
                refine va_get (D := D) (ci := 2) (v := .ref (q 16)) (C := R_SF) (T := F_SF) (N := 15) hx hb hts i_SF hown hK hP 0 rfl rfl 8 (by decide) (hts _ wd_117) (fun _ h9 => h9) rfl d_SF_takePlaces_47 ?_
                refine lv_iload_n hx hb d_SF_takePlaces_50 rfl (lv_at hl 3 rfl) ?_
                refine lv_iload hx hb d_SF_takePlaces_51 (lv_at hl 4 rfl) ?_
                refine va_iast hx hb hK hP hD hS 16 0 rfl rfl (vp_in_nI hv3 (by omega)) d_SF_takePlaces_53 (fun H locs hP hD hS => ?_)
                rw [nI_clamp (n := vo) (by omega)] at hP hD
                have hP : va_P D classes (sf_w q cI cZ fl sl tb np nt cp cc cb ch cm u_1.2.1 u_1.2.2.1 u_1.2.2.2.1 u_1.2.2.2.2.1 u_1.2.2.2.2.2 u_1.1 (upd vt vo (nI k)) tp tl cu bl pf sh) H := hP
                have hD : va_D A (sf_w q cI cZ fl sl tb np nt cp cc cb ch cm u_1.2.1 u_1.2.2.1 u_1.2.2.2.1 u_1.2.2.2.2.1 u_1.2.2.2.2.2 u_1.1 (upd vt vo (nI k)) tp tl cu bl pf sh) := hD
                refine lv_iinc (v := (nI (vo + 1))) (lv' := [(3, .int (nI (vo + 1))), (0, .ref (q 0)), (1, .int 0), (2, .int pn), (4, .int (nI k))]) hx hb d_SF_takePlaces_54 hl (k := 3) rfl (nI_1 vo) (by decide) rfl (fun ls hl => ?_)
                refine lv_iinc (v := (nI (k + 1))) (lv' := [(4, .int (nI (k + 1))), (3, .int (nI (vo + 1))), (0, .ref (q 0)), (1, .int 0), (2, .int pn)]) hx hb d_SF_takePlaces_57 hl (k := 4) rfl (nI_1 k) (by decide) rfl (fun ls hl => ?_)
                refine lv_goto (tgt := 10) hx hb d_SF_takePlaces_60 (by decide) ?_
                exact ih10 (k + 1) (vo + 1) (upd vt vo (nI k)) (by omega) (by omega) (by omega) (by rw [← heq10]; simp only [f_SF_takePlaces_0_l10, ← hu_1, ← hu_2, eq_false c_3, eq_false c_5, eq_true c_7, eq_false c_8, eq_false c_9, ↓reduceIte]) _ _ hP hD hS ls (lv_sub hl [2, 3, 4, 1, 0] rfl)
  exact loop10 (24 + 1) 0 0 ta (by omega) (by omega) (by omega) (by simp only [f_SF_takePlaces_0, ← hu_1, ↓reduceIte]) _ _ hP hD hS ls (lv_sub hl [2, 3, 4, 1, 0] rfl)
def f_SF_takePlaces_1_l10 (sl : Nat → Int32) (tb : Nat → Int32) (mp : Nat → Int32) (mc : Int32) (mb : Int32) (mh : Int32) (mm : Int32) (us : Nat → Int32) (pn : Int32) : Nat → Nat → Nat → (Nat → Int32) → (Int32 × (Nat → Int32) × (Nat → Int32) × Int32 × Int32 × Int32 × Int32 × (Nat → Int32))
  | 0, _, _, _ => (0, (fun _ => 0), (fun _ => 0), 0, 0, 0, 0, (fun _ => 0))
  | fu + 1, k, vo, vt =>
    if (f_SF_countPlaces 1) ≤ (nI k) then
      if (nI vo) = pn then
        (1, (f_SF_markUsed_1 sl tb mp mc mb mh mm us).1, (f_SF_markUsed_1 sl tb mp mc mb mh mm us).2.1, (f_SF_markUsed_1 sl tb mp mc mb mh mm us).2.2.1, (f_SF_markUsed_1 sl tb mp mc mb mh mm us).2.2.2.1, (f_SF_markUsed_1 sl tb mp mc mb mh mm us).2.2.2.2.1, (f_SF_markUsed_1 sl tb mp mc mb mh mm us).2.2.2.2.2, vt)
      else
        (0, (f_SF_markUsed_1 sl tb mp mc mb mh mm us).1, (f_SF_markUsed_1 sl tb mp mc mb mh mm us).2.1, (f_SF_markUsed_1 sl tb mp mc mb mh mm us).2.2.1, (f_SF_markUsed_1 sl tb mp mc mb mh mm us).2.2.2.1, (f_SF_markUsed_1 sl tb mp mc mb mh mm us).2.2.2.2.1, (f_SF_markUsed_1 sl tb mp mc mb mh mm us).2.2.2.2.2, vt)
    else
      if 24 ≤ (nI k) then
        if (nI vo) = pn then
          (1, (f_SF_markUsed_1 sl tb mp mc mb mh mm us).1, (f_SF_markUsed_1 sl tb mp mc mb mh mm us).2.1, (f_SF_markUsed_1 sl tb mp mc mb mh mm us).2.2.1, (f_SF_markUsed_1 sl tb mp mc mb mh mm us).2.2.2.1, (f_SF_markUsed_1 sl tb mp mc mb mh mm us).2.2.2.2.1, (f_SF_markUsed_1 sl tb mp mc mb mh mm us).2.2.2.2.2, vt)
        else
          (0, (f_SF_markUsed_1 sl tb mp mc mb mh mm us).1, (f_SF_markUsed_1 sl tb mp mc mb mh mm us).2.1, (f_SF_markUsed_1 sl tb mp mc mb mh mm us).2.2.1, (f_SF_markUsed_1 sl tb mp mc mb mh mm us).2.2.2.1, (f_SF_markUsed_1 sl tb mp mc mb mh mm us).2.2.2.2.1, (f_SF_markUsed_1 sl tb mp mc mb mh mm us).2.2.2.2.2, vt)
      else
        if ((f_SF_markUsed_1 sl tb mp mc mb mh mm us).1 k) = 0 then
          if pn ≤ (nI vo) then
            f_SF_takePlaces_1_l10 sl tb mp mc mb mh mm us pn fu (k + 1) vo vt
          else
            if 3 ≤ (nI vo) then
              f_SF_takePlaces_1_l10 sl tb mp mc mb mh mm us pn fu (k + 1) vo vt
            else
              f_SF_takePlaces_1_l10 sl tb mp mc mb mh mm us pn fu (k + 1) (vo + 1) (upd vt vo (nI k))
        else
          f_SF_takePlaces_1_l10 sl tb mp mc mb mh mm us pn fu (k + 1) vo vt
def f_SF_takePlaces_1 (sl : Nat → Int32) (tb : Nat → Int32) (mp : Nat → Int32) (mc : Int32) (mb : Int32) (mh : Int32) (mm : Int32) (us : Nat → Int32) (ta : Nat → Int32) (pn : Int32) : (Int32 × (Nat → Int32) × (Nat → Int32) × Int32 × Int32 × Int32 × Int32 × (Nat → Int32)) :=
  f_SF_takePlaces_1_l10 sl tb mp mc mb mh mm us pn (24 + 1) 0 0 ta
set_option maxHeartbeats 1000000 in
set_option maxRecDepth 100000 in
/-- takePlaces -/
theorem c_SF_takePlaces_1 (l : Launch) (D : va_G) (cI cZ cJ : ClassId) (q : Nat → Nat) (fl : Nat → Int32) (sl : Nat → Int32) (tb : Nat → Int32) (np : Nat → Int32) (nt : Nat → Int32) (cp : Nat → Int32) (cc : Int32) (cb : Int32) (ch : Int32) (cm : Int32) (mp : Nat → Int32) (mc : Int32) (mb : Int32) (mh : Int32) (mm : Int32) (us : Nat → Int32) (ta : Nat → Int32) (tp : Nat → Int32) (tl : Int32) (cu : Int32) (bl : Int32) (pf : Int32) (sh : Int32) (pn : Int32) : sf_M (S := (Int32 × (Nat → Int32) × (Nat → Int32) × Int32 × Int32 × Int32 × Int32 × (Nat → Int32))) l D classes (sf_tys cI cZ cJ) y_SF_takePlaces (sf_ws y_SF_takePlaces b_SF_takePlaces 5 (some .boolean)) 5 121 [.ref (q 0), .int 1, .int pn] (sf_w q cI cZ fl sl tb np nt cp cc cb ch cm mp mc mb mh mm us ta tp tl cu bl pf sh) (fun r => some (.int r.1)) (fun r => r = f_SF_takePlaces_1 sl tb mp mc mb mh mm us ta pn) (fun r => (sf_w q cI cZ fl sl tb np nt cp cc cb ch cm r.2.2.1 r.2.2.2.1 r.2.2.2.2.1 r.2.2.2.2.2.1 r.2.2.2.2.2.2.1 r.2.1 r.2.2.2.2.2.2.2 tp tl cu bl pf sh)) := by
  refine sf_ofW (S := (Int32 × (Nat → Int32) × (Nat → Int32) × Int32 × Int32 × Int32 × Int32 × (Nat → Int32))) (by decide) (Nat.le_of_ble_eq_true rfl) ?_
  intro p e s m below meth c A ls R args Q hR hArgs hQ hC0 hr hK hP hD hl
  obtain ⟨hx, hb, hml, hown, hts, hA, hlk⟩ := hC0
  have hS : va_S A s.heap s.heap [] := va_S.rf
  have hl : lv_has ls 5 [(0, .ref (q 0)), (1, .int 1), (2, .int pn)] := hl
  refine lv_aload_n hx hb d_SF_takePlaces_0 rfl (lv_at hl 0 rfl) ?_
  refine lv_iload_n hx hb d_SF_takePlaces_1 rfl (lv_at hl 1 rfl) ?_
  refine sf_callVw (S := ((Nat → Int32) × (Nat → Int32) × Int32 × Int32 × Int32 × Int32)) (rest := []) ⟨hx, hb, hml, hown, hts⟩ (c_SF_markUsed_1 l D cI cZ cJ q fl sl tb np nt cp cc cb ch cm mp mc mb mh mm us ta tp tl cu bl pf sh) (sf_cwV lk_SF_237 hts (fun _ h => h) (by rw [hR]; exact ⟨Nat.le_of_ble_eq_true rfl, Nat.le_of_ble_eq_true rfl⟩)) hK hP hD hS hA (fun _ => by simp only [sf_w_fst]) (ci := 2) (q0 := 0) rfl rfl rfl rfl rfl hl.1 (Nat.le_of_ble_eq_true rfl) d_SF_takePlaces_2 ⟨Nat.zero_le _, Nat.zero_le _⟩ (fun u_1 H locs hu_1 hP hD hS => ?_)
  have hP : va_P D classes (sf_w q cI cZ fl sl tb np nt cp cc cb ch cm u_1.2.1 u_1.2.2.1 u_1.2.2.2.1 u_1.2.2.2.2.1 u_1.2.2.2.2.2 u_1.1 ta tp tl cu bl pf sh) H := hP
  have hD : va_D A (sf_w q cI cZ fl sl tb np nt cp cc cb ch cm u_1.2.1 u_1.2.2.1 u_1.2.2.2.1 u_1.2.2.2.2.1 u_1.2.2.2.2.2 u_1.1 ta tp tl cu bl pf sh) := hD
  refine lv_iconst (v := 0) hx hb d_SF_takePlaces_5 (by decide) ?_
  refine lv_istore_n (lv' := [(3, .int 0), (0, .ref (q 0)), (1, .int 1), (2, .int pn)]) hx hb d_SF_takePlaces_6 rfl hl (by decide) rfl (fun ls hl => ?_)
  refine lv_iconst (v := 0) hx hb d_SF_takePlaces_7 (by decide) ?_
  refine lv_istore (lv' := [(4, .int 0), (3, .int 0), (0, .ref (q 0)), (1, .int 1), (2, .int pn)]) hx hb d_SF_takePlaces_8 hl (by decide) rfl (fun ls hl => ?_)
  have loop10 : ∀ (fu k : Nat) (vo : Nat) (vt : (Nat → Int32)), k ≤ 24 → k + fu = 24 + 1 → vo ≤ 3 → f_SF_takePlaces_1_l10 sl tb mp mc mb mh mm us pn fu k vo vt = f_SF_takePlaces_1 sl tb mp mc mb mh mm us ta pn → ∀ (H : Heap) (locs : List Loc), va_P D classes (sf_w q cI cZ fl sl tb np nt cp cc cb ch cm u_1.2.1 u_1.2.2.1 u_1.2.2.2.1 u_1.2.2.2.2.1 u_1.2.2.2.2.2 u_1.1 vt tp tl cu bl pf sh) H → va_D A (sf_w q cI cZ fl sl tb np nt cp cc cb ch cm u_1.2.1 u_1.2.2.1 u_1.2.2.2.1 u_1.2.2.2.2.1 u_1.2.2.2.2.2 u_1.1 vt tp tl cu bl pf sh) → va_S A s.heap H locs → ∀ (ls : Array Slot), lv_has ls 5 [(0, .ref (q 0)), (1, .int 1), (2, .int pn), (3, .int (nI vo)), (4, .int (nI k))] → W p l e R s m args below meth c H locs 0 0 Q (F0 m 10 ls []) := by
    intro fu
    induction fu with
    | zero =>
      intro k vo vt h1 h2
      exact absurd h2 (by omega)
    | succ fu ih10 =>
      intro k vo vt hk10 hkn10 hi100 heq10 H locs hP hD hS ls hl
      refine lv_iload hx hb d_SF_takePlaces_10 (lv_at hl 4 rfl) ?_
      refine lv_iload_n hx hb d_SF_takePlaces_12 rfl (lv_at hl 1 rfl) ?_
      refine sf_callSr (S := Int32) (rest := [.int (nI k)]) ⟨hx, hb, hml, hown, hts⟩ (c_SF_countPlaces l D cI cZ cJ 1) (sf_cwS lk_SF_241 hts (fun _ h => h) (by rw [hR]; exact ⟨Nat.le_of_ble_eq_true rfl, Nat.le_of_ble_eq_true rfl⟩)) hK hP hD hS hA [] rfl rfl (fun _ => rfl) rfl rfl hl.1 (Nat.le_of_ble_eq_true rfl) d_SF_takePlaces_13 ⟨Nat.zero_le _, Nat.zero_le _⟩ (fun u_2 H locs hu_2 hP hS => ?_)
      refine lv_icmp_ge (tgt := 63) hx hb d_SF_takePlaces_16 (by decide) (fun c_3 => ?_) (fun c_3 => ?_)
      · refine lv_iload_n hx hb d_SF_takePlaces_63 rfl (lv_at hl 3 rfl) ?_
        refine lv_iload_n hx hb d_SF_takePlaces_64 rfl (lv_at hl 2 rfl) ?_
        refine lv_icmp_ne (tgt := 72) hx hb d_SF_takePlaces_65 (by decide) (fun c_4 => ?_) (fun c_4 => ?_)
        · refine lv_iconst (v := 0) hx hb d_SF_takePlaces_72 (by decide) ?_
          rw [hQ]
          exact sf_iret (0, u_1.1, u_1.2.1, u_1.2.2.1, u_1.2.2.2.1, u_1.2.2.2.2.1, u_1.2.2.2.2.2, vt) hx hb hr hlk hS sf_b0 rfl (by rw [← heq10]; simp only [f_SF_takePlaces_1_l10, ← hu_1, ← hu_2, eq_true c_3, eq_false c_4, ↓reduceIte]) hP d_SF_takePlaces_73
        · refine lv_iconst (v := 1) hx hb d_SF_takePlaces_68 (by decide) ?_
          refine lv_goto (tgt := 73) hx hb d_SF_takePlaces_69 (by decide) ?_
          rw [hQ]
          exact sf_iret (1, u_1.1, u_1.2.1, u_1.2.2.1, u_1.2.2.2.1, u_1.2.2.2.2.1, u_1.2.2.2.2.2, vt) hx hb hr hlk hS sf_b1 rfl (by rw [← heq10]; simp only [f_SF_takePlaces_1_l10, ← hu_1, ← hu_2, eq_true c_3, eq_true c_4, ↓reduceIte]) hP d_SF_takePlaces_73
      · refine lv_iload hx hb d_SF_takePlaces_19 (lv_at hl 4 rfl) ?_
        refine lv_bipush (v := 24) hx hb d_SF_takePlaces_21 (by decide) ?_
        refine lv_icmp_ge (tgt := 63) hx hb d_SF_takePlaces_23 (by decide) (fun c_5 => ?_) (fun c_5 => ?_)
        · refine lv_iload_n hx hb d_SF_takePlaces_63 rfl (lv_at hl 3 rfl) ?_
          refine lv_iload_n hx hb d_SF_takePlaces_64 rfl (lv_at hl 2 rfl) ?_
          refine lv_icmp_ne (tgt := 72) hx hb d_SF_takePlaces_65 (by decide) (fun c_6 => ?_) (fun c_6 => ?_)
          · refine lv_iconst (v := 0) hx hb d_SF_takePlaces_72 (by decide) ?_
            rw [hQ]
            exact sf_iret (0, u_1.1, u_1.2.1, u_1.2.2.1, u_1.2.2.2.1, u_1.2.2.2.2.1, u_1.2.2.2.2.2, vt) hx hb hr hlk hS sf_b0 rfl (by rw [← heq10]; simp only [f_SF_takePlaces_1_l10, ← hu_1, ← hu_2, eq_false c_3, eq_true c_5, eq_false c_6, ↓reduceIte]) hP d_SF_takePlaces_73
          · refine lv_iconst (v := 1) hx hb d_SF_takePlaces_68 (by decide) ?_
            refine lv_goto (tgt := 73) hx hb d_SF_takePlaces_69 (by decide) ?_
            rw [hQ]
            exact sf_iret (1, u_1.1, u_1.2.1, u_1.2.2.1, u_1.2.2.2.1, u_1.2.2.2.2.1, u_1.2.2.2.2.2, vt) hx hb hr hlk hS sf_b1 rfl (by rw [← heq10]; simp only [f_SF_takePlaces_1_l10, ← hu_1, ← hu_2, eq_false c_3, eq_true c_5, eq_true c_6, ↓reduceIte]) hP d_SF_takePlaces_73
        · have hlt : k < 24 := sf_lt_of (N := 24) (by omega) (by omega) c_5
          refine lv_aload_n hx hb d_SF_takePlaces_26 rfl (lv_at hl 0 rfl) ?_
          refine va_get (D := D) (ci := 2) (v := .ref (q 15)) (C := R_SF) (T := F_SF) (N := 15) hx hb hts i_SF hown hK hP 0 rfl rfl 7 (by decide) (hts _ wd_116) (fun _ h9 => h9) rfl d_SF_takePlaces_27 ?_
          refine lv_iload hx hb d_SF_takePlaces_30 (lv_at hl 4 rfl) ?_
          refine va_zald hx hb hK hP 15 1 rfl rfl (vp_in_nI hlt (by omega)) d_SF_takePlaces_32 ?_
          rw [nI_clamp (n := k) (by omega)]
          refine lv_if_ne (tgt := 57) hx hb d_SF_takePlaces_33 (by decide) (fun c_7 => ?_) (fun c_7 => ?_)
          · refine lv_iinc (v := (nI (k + 1))) (lv' := [(4, .int (nI (k + 1))), (0, .ref (q 0)), (1, .int 1), (2, .int pn), (3, .int (nI vo))]) hx hb d_SF_takePlaces_57 hl (k := 4) rfl (nI_1 k) (by decide) rfl (fun ls hl => ?_)
            refine lv_goto (tgt := 10) hx hb d_SF_takePlaces_60 (by decide) ?_
            exact ih10 (k + 1) vo vt (by omega) (by omega) (by omega) (by rw [← heq10]; simp only [f_SF_takePlaces_1_l10, ← hu_1, ← hu_2, eq_false c_3, eq_false c_5, eq_false c_7, ↓reduceIte]) _ _ hP hD hS ls (lv_sub hl [1, 2, 3, 4, 0] rfl)
          · refine lv_iload_n hx hb d_SF_takePlaces_36 rfl (lv_at hl 3 rfl) ?_
            refine lv_iload_n hx hb d_SF_takePlaces_37 rfl (lv_at hl 2 rfl) ?_
            refine lv_icmp_ge (tgt := 57) hx hb d_SF_takePlaces_38 (by decide) (fun c_8 => ?_) (fun c_8 => ?_)
            · refine lv_iinc (v := (nI (k + 1))) (lv' := [(4, .int (nI (k + 1))), (0, .ref (q 0)), (1, .int 1), (2, .int pn), (3, .int (nI vo))]) hx hb d_SF_takePlaces_57 hl (k := 4) rfl (nI_1 k) (by decide) rfl (fun ls hl => ?_)
              refine lv_goto (tgt := 10) hx hb d_SF_takePlaces_60 (by decide) ?_
              exact ih10 (k + 1) vo vt (by omega) (by omega) (by omega) (by rw [← heq10]; simp only [f_SF_takePlaces_1_l10, ← hu_1, ← hu_2, eq_false c_3, eq_false c_5, eq_true c_7, eq_true c_8, ↓reduceIte]) _ _ hP hD hS ls (lv_sub hl [1, 2, 3, 4, 0] rfl)
            · refine lv_iload_n hx hb d_SF_takePlaces_41 rfl (lv_at hl 3 rfl) ?_
              refine lv_iconst (v := 3) hx hb d_SF_takePlaces_42 (by decide) ?_
              refine lv_icmp_ge (tgt := 57) hx hb d_SF_takePlaces_43 (by decide) (fun c_9 => ?_) (fun c_9 => ?_)
              · refine lv_iinc (v := (nI (k + 1))) (lv' := [(4, .int (nI (k + 1))), (0, .ref (q 0)), (1, .int 1), (2, .int pn), (3, .int (nI vo))]) hx hb d_SF_takePlaces_57 hl (k := 4) rfl (nI_1 k) (by decide) rfl (fun ls hl => ?_)
                refine lv_goto (tgt := 10) hx hb d_SF_takePlaces_60 (by decide) ?_
                exact ih10 (k + 1) vo vt (by omega) (by omega) (by omega) (by rw [← heq10]; simp only [f_SF_takePlaces_1_l10, ← hu_1, ← hu_2, eq_false c_3, eq_false c_5, eq_true c_7, eq_false c_8, eq_true c_9, ↓reduceIte]) _ _ hP hD hS ls (lv_sub hl [1, 2, 3, 4, 0] rfl)
              · have hv3 : vo < 3 := sf_lt_of (N := 3) (by omega) (by omega) c_9
                refine lv_aload_n hx hb d_SF_takePlaces_46 rfl (lv_at hl 0 rfl) ?_
                refine va_get (D := D) (ci := 2) (v := .ref (q 16)) (C := R_SF) (T := F_SF) (N := 15) hx hb hts i_SF hown hK hP 0 rfl rfl 8 (by decide) (hts _ wd_117) (fun _ h9 => h9) rfl d_SF_takePlaces_47 ?_
                refine lv_iload_n hx hb d_SF_takePlaces_50 rfl (lv_at hl 3 rfl) ?_
                refine lv_iload hx hb d_SF_takePlaces_51 (lv_at hl 4 rfl) ?_
                refine va_iast hx hb hK hP hD hS 16 0 rfl rfl (vp_in_nI hv3 (by omega)) d_SF_takePlaces_53 (fun H locs hP hD hS => ?_)
                rw [nI_clamp (n := vo) (by omega)] at hP hD
                have hP : va_P D classes (sf_w q cI cZ fl sl tb np nt cp cc cb ch cm u_1.2.1 u_1.2.2.1 u_1.2.2.2.1 u_1.2.2.2.2.1 u_1.2.2.2.2.2 u_1.1 (upd vt vo (nI k)) tp tl cu bl pf sh) H := hP
                have hD : va_D A (sf_w q cI cZ fl sl tb np nt cp cc cb ch cm u_1.2.1 u_1.2.2.1 u_1.2.2.2.1 u_1.2.2.2.2.1 u_1.2.2.2.2.2 u_1.1 (upd vt vo (nI k)) tp tl cu bl pf sh) := hD
                refine lv_iinc (v := (nI (vo + 1))) (lv' := [(3, .int (nI (vo + 1))), (0, .ref (q 0)), (1, .int 1), (2, .int pn), (4, .int (nI k))]) hx hb d_SF_takePlaces_54 hl (k := 3) rfl (nI_1 vo) (by decide) rfl (fun ls hl => ?_)
                refine lv_iinc (v := (nI (k + 1))) (lv' := [(4, .int (nI (k + 1))), (3, .int (nI (vo + 1))), (0, .ref (q 0)), (1, .int 1), (2, .int pn)]) hx hb d_SF_takePlaces_57 hl (k := 4) rfl (nI_1 k) (by decide) rfl (fun ls hl => ?_)
                refine lv_goto (tgt := 10) hx hb d_SF_takePlaces_60 (by decide) ?_
                exact ih10 (k + 1) (vo + 1) (upd vt vo (nI k)) (by omega) (by omega) (by omega) (by rw [← heq10]; simp only [f_SF_takePlaces_1_l10, ← hu_1, ← hu_2, eq_false c_3, eq_false c_5, eq_true c_7, eq_false c_8, eq_false c_9, ↓reduceIte]) _ _ hP hD hS ls (lv_sub hl [2, 3, 4, 1, 0] rfl)
  exact loop10 (24 + 1) 0 0 ta (by omega) (by omega) (by omega) (by simp only [f_SF_takePlaces_1, ← hu_1, ↓reduceIte]) _ _ hP hD hS ls (lv_sub hl [2, 3, 4, 1, 0] rfl)
def f_SF_wrongPlace_0_l17 (fl : Nat → Int32) (tb : Nat → Int32) (mp : Nat → Int32) (mc : Int32) (mb : Int32) (mh : Int32) (mm : Int32) (us : Nat → Int32) (wk : Int32) : Nat → Nat → Int32 → (Int32 × (Nat → Int32) × (Nat → Int32) × Int32 × Int32 × Int32 × Int32)
  | 0, _, _ => (0, (fun _ => 0), (fun _ => 0), 0, 0, 0, 0)
  | fu + 1, k, vs =>
    if (f_SF_countPlaces 0) ≤ (nI k) then
      ((-1), (f_SF_markUsed_0 fl tb mp mc mb mh mm us).1, (f_SF_markUsed_0 fl tb mp mc mb mh mm us).2.1, (f_SF_markUsed_0 fl tb mp mc mb mh mm us).2.2.1, (f_SF_markUsed_0 fl tb mp mc mb mh mm us).2.2.2.1, (f_SF_markUsed_0 fl tb mp mc mb mh mm us).2.2.2.2.1, (f_SF_markUsed_0 fl tb mp mc mb mh mm us).2.2.2.2.2)
    else
      if 24 ≤ (nI k) then
        ((-1), (f_SF_markUsed_0 fl tb mp mc mb mh mm us).1, (f_SF_markUsed_0 fl tb mp mc mb mh mm us).2.1, (f_SF_markUsed_0 fl tb mp mc mb mh mm us).2.2.1, (f_SF_markUsed_0 fl tb mp mc mb mh mm us).2.2.2.1, (f_SF_markUsed_0 fl tb mp mc mb mh mm us).2.2.2.2.1, (f_SF_markUsed_0 fl tb mp mc mb mh mm us).2.2.2.2.2)
      else
        if ((f_SF_markUsed_0 fl tb mp mc mb mh mm us).1 k) = 0 then
          f_SF_wrongPlace_0_l17 fl tb mp mc mb mh mm us wk fu (k + 1) vs
        else
          if (f_Bl_sumIsRight 768 fl (nI k) 28) = 0 then
            if vs = wk then
              ((nI k), (f_SF_markUsed_0 fl tb mp mc mb mh mm us).1, (f_SF_markUsed_0 fl tb mp mc mb mh mm us).2.1, (f_SF_markUsed_0 fl tb mp mc mb mh mm us).2.2.1, (f_SF_markUsed_0 fl tb mp mc mb mh mm us).2.2.2.1, (f_SF_markUsed_0 fl tb mp mc mb mh mm us).2.2.2.2.1, (f_SF_markUsed_0 fl tb mp mc mb mh mm us).2.2.2.2.2)
            else
              f_SF_wrongPlace_0_l17 fl tb mp mc mb mh mm us wk fu (k + 1) (vs + 1)
          else
            f_SF_wrongPlace_0_l17 fl tb mp mc mb mh mm us wk fu (k + 1) vs
def f_SF_wrongPlace_0 (fl : Nat → Int32) (tb : Nat → Int32) (mp : Nat → Int32) (mc : Int32) (mb : Int32) (mh : Int32) (mm : Int32) (us : Nat → Int32) (wk : Int32) : (Int32 × (Nat → Int32) × (Nat → Int32) × Int32 × Int32 × Int32 × Int32) :=
  f_SF_wrongPlace_0_l17 fl tb mp mc mb mh mm us wk (24 + 1) 0 0
set_option maxHeartbeats 1000000 in
set_option maxRecDepth 100000 in
/-- wrongPlace -/
theorem c_SF_wrongPlace_0 (l : Launch) (D : va_G) (cI cZ cJ : ClassId) (q : Nat → Nat) (fl : Nat → Int32) (sl : Nat → Int32) (tb : Nat → Int32) (np : Nat → Int32) (nt : Nat → Int32) (cp : Nat → Int32) (cc : Int32) (cb : Int32) (ch : Int32) (cm : Int32) (mp : Nat → Int32) (mc : Int32) (mb : Int32) (mh : Int32) (mm : Int32) (us : Nat → Int32) (ta : Nat → Int32) (tp : Nat → Int32) (tl : Int32) (cu : Int32) (bl : Int32) (pf : Int32) (sh : Int32) (wk : Int32) : sf_M (S := (Int32 × (Nat → Int32) × (Nat → Int32) × Int32 × Int32 × Int32 × Int32)) l D classes (sf_tys cI cZ cJ) y_SF_wrongPlace (sf_ws y_SF_wrongPlace b_SF_wrongPlace 6 (some .int)) 5 121 [.ref (q 0), .int 0, .int wk] (sf_w q cI cZ fl sl tb np nt cp cc cb ch cm mp mc mb mh mm us ta tp tl cu bl pf sh) (fun r => some (.int r.1)) (fun r => r = f_SF_wrongPlace_0 fl tb mp mc mb mh mm us wk) (fun r => (sf_w q cI cZ fl sl tb np nt cp cc cb ch cm r.2.2.1 r.2.2.2.1 r.2.2.2.2.1 r.2.2.2.2.2.1 r.2.2.2.2.2.2 r.2.1 ta tp tl cu bl pf sh)) := by
  refine sf_ofW (S := (Int32 × (Nat → Int32) × (Nat → Int32) × Int32 × Int32 × Int32 × Int32)) (by decide) (Nat.le_of_ble_eq_true rfl) ?_
  intro p e s m below meth c A ls R args Q hR hArgs hQ hC0 hr hK hP hD hl
  obtain ⟨hx, hb, hml, hown, hts, hA, hlk⟩ := hC0
  have hS : va_S A s.heap s.heap [] := va_S.rf
  have hl : lv_has ls 6 [(0, .ref (q 0)), (1, .int 0), (2, .int wk)] := hl
  refine lv_aload_n hx hb d_SF_wrongPlace_0 rfl (lv_at hl 0 rfl) ?_
  refine lv_iload_n hx hb d_SF_wrongPlace_1 rfl (lv_at hl 1 rfl) ?_
  refine sf_callVw (S := ((Nat → Int32) × (Nat → Int32) × Int32 × Int32 × Int32 × Int32)) (rest := []) ⟨hx, hb, hml, hown, hts⟩ (c_SF_markUsed_0 l D cI cZ cJ q fl sl tb np nt cp cc cb ch cm mp mc mb mh mm us ta tp tl cu bl pf sh) (sf_cwV lk_SF_237 hts (fun _ h => h) (by rw [hR]; exact ⟨Nat.le_of_ble_eq_true rfl, Nat.le_of_ble_eq_true rfl⟩)) hK hP hD hS hA (fun _ => by simp only [sf_w_fst]) (ci := 2) (q0 := 0) rfl rfl rfl rfl rfl hl.1 (Nat.le_of_ble_eq_true rfl) d_SF_wrongPlace_2 ⟨Nat.zero_le _, Nat.zero_le _⟩ (fun u_1 H locs hu_1 hP hD hS => ?_)
  have hP : va_P D classes (sf_w q cI cZ fl sl tb np nt cp cc cb ch cm u_1.2.1 u_1.2.2.1 u_1.2.2.2.1 u_1.2.2.2.2.1 u_1.2.2.2.2.2 u_1.1 ta tp tl cu bl pf sh) H := hP
  have hD : va_D A (sf_w q cI cZ fl sl tb np nt cp cc cb ch cm u_1.2.1 u_1.2.2.1 u_1.2.2.2.1 u_1.2.2.2.2.1 u_1.2.2.2.2.2 u_1.1 ta tp tl cu bl pf sh) := hD
  refine lv_aload_n hx hb d_SF_wrongPlace_5 rfl (lv_at hl 0 rfl) ?_
  refine lv_iload_n hx hb d_SF_wrongPlace_6 rfl (lv_at hl 1 rfl) ?_
  refine sf_callVw (S := Unit) (rest := []) ⟨hx, hb, hml, hown, hts⟩ (c_SF_placesOf_0 l D cI cZ cJ q fl sl tb np nt cp cc cb ch cm u_1.2.1 u_1.2.2.1 u_1.2.2.2.1 u_1.2.2.2.2.1 u_1.2.2.2.2.2 u_1.1 ta tp tl cu bl pf sh) (sf_cwV lk_SF_160 hts (fun _ h => h) (by rw [hR]; exact ⟨Nat.le_of_ble_eq_true rfl, Nat.le_of_ble_eq_true rfl⟩)) hK hP hD hS hA (fun _ => by simp only [sf_w_fst]) (ci := 2) (q0 := 0) rfl rfl rfl rfl rfl hl.1 (Nat.le_of_ble_eq_true rfl) d_SF_wrongPlace_7 ⟨Nat.zero_le _, Nat.zero_le _⟩ (fun u H locs hu hP hD hS => ?_)
  have hP : va_P D classes (sf_w q cI cZ fl sl tb np nt cp cc cb ch cm u_1.2.1 u_1.2.2.1 u_1.2.2.2.1 u_1.2.2.2.2.1 u_1.2.2.2.2.2 u_1.1 ta tp tl cu bl pf sh) H := hP
  have hD : va_D A (sf_w q cI cZ fl sl tb np nt cp cc cb ch cm u_1.2.1 u_1.2.2.1 u_1.2.2.2.1 u_1.2.2.2.2.1 u_1.2.2.2.2.2 u_1.1 ta tp tl cu bl pf sh) := hD
  refine lv_astore_n (lv' := [(3, .ref (q 1)), (0, .ref (q 0)), (1, .int 0), (2, .int wk)]) hx hb d_SF_wrongPlace_10 rfl hl (by decide) rfl (fun ls hl => ?_)
  refine lv_iconst (v := 0) hx hb d_SF_wrongPlace_11 (by decide) ?_
  refine lv_istore (lv' := [(4, .int 0), (3, .ref (q 1)), (0, .ref (q 0)), (1, .int 0), (2, .int wk)]) hx hb d_SF_wrongPlace_12 hl (by decide) rfl (fun ls hl => ?_)
  refine lv_iconst (v := 0) hx hb d_SF_wrongPlace_14 (by decide) ?_
  refine lv_istore (lv' := [(5, .int 0), (4, .int 0), (3, .ref (q 1)), (0, .ref (q 0)), (1, .int 0), (2, .int wk)]) hx hb d_SF_wrongPlace_15 hl (by decide) rfl (fun ls hl => ?_)
  have loop17 : ∀ (fu k : Nat) (vs : Int32), k ≤ 24 → k + fu = 24 + 1 → f_SF_wrongPlace_0_l17 fl tb mp mc mb mh mm us wk fu k vs = f_SF_wrongPlace_0 fl tb mp mc mb mh mm us wk → ∀ (H : Heap) (locs : List Loc), va_P D classes (sf_w q cI cZ fl sl tb np nt cp cc cb ch cm u_1.2.1 u_1.2.2.1 u_1.2.2.2.1 u_1.2.2.2.2.1 u_1.2.2.2.2.2 u_1.1 ta tp tl cu bl pf sh) H → va_D A (sf_w q cI cZ fl sl tb np nt cp cc cb ch cm u_1.2.1 u_1.2.2.1 u_1.2.2.2.1 u_1.2.2.2.2.1 u_1.2.2.2.2.2 u_1.1 ta tp tl cu bl pf sh) → va_S A s.heap H locs → ∀ (ls : Array Slot), lv_has ls 6 [(0, .ref (q 0)), (1, .int 0), (2, .int wk), (3, .ref (q 1)), (4, .int vs), (5, .int (nI k))] → W p l e R s m args below meth c H locs 0 0 Q (F0 m 17 ls []) := by
    intro fu
    induction fu with
    | zero =>
      intro k vs h1 h2
      exact absurd h2 (by omega)
    | succ fu ih17 =>
      intro k vs hk17 hkn17 heq17 H locs hP hD hS ls hl
      refine lv_iload hx hb d_SF_wrongPlace_17 (lv_at hl 5 rfl) ?_
      refine lv_iload_n hx hb d_SF_wrongPlace_19 rfl (lv_at hl 1 rfl) ?_
      refine sf_callSr (S := Int32) (rest := [.int (nI k)]) ⟨hx, hb, hml, hown, hts⟩ (c_SF_countPlaces l D cI cZ cJ 0) (sf_cwS lk_SF_241 hts (fun _ h => h) (by rw [hR]; exact ⟨Nat.le_of_ble_eq_true rfl, Nat.le_of_ble_eq_true rfl⟩)) hK hP hD hS hA [] rfl rfl (fun _ => rfl) rfl rfl hl.1 (Nat.le_of_ble_eq_true rfl) d_SF_wrongPlace_20 ⟨Nat.zero_le _, Nat.zero_le _⟩ (fun u_2 H locs hu_2 hP hS => ?_)
      refine lv_icmp_ge (tgt := 70) hx hb d_SF_wrongPlace_23 (by decide) (fun c_3 => ?_) (fun c_3 => ?_)
      · refine lv_iconst (v := (-1)) hx hb d_SF_wrongPlace_70 (by decide) ?_
        rw [hQ]
        exact sf_iret ((-1), u_1.1, u_1.2.1, u_1.2.2.1, u_1.2.2.2.1, u_1.2.2.2.2.1, u_1.2.2.2.2.2) hx hb hr hlk hS rfl rfl (by rw [← heq17]; simp only [f_SF_wrongPlace_0_l17, ← hu_1, ← hu_2, eq_true c_3, ↓reduceIte]) hP d_SF_wrongPlace_71
      · refine lv_iload hx hb d_SF_wrongPlace_26 (lv_at hl 5 rfl) ?_
        refine lv_bipush (v := 24) hx hb d_SF_wrongPlace_28 (by decide) ?_
        refine lv_icmp_ge (tgt := 70) hx hb d_SF_wrongPlace_30 (by decide) (fun c_4 => ?_) (fun c_4 => ?_)
        · refine lv_iconst (v := (-1)) hx hb d_SF_wrongPlace_70 (by decide) ?_
          rw [hQ]
          exact sf_iret ((-1), u_1.1, u_1.2.1, u_1.2.2.1, u_1.2.2.2.1, u_1.2.2.2.2.1, u_1.2.2.2.2.2) hx hb hr hlk hS rfl rfl (by rw [← heq17]; simp only [f_SF_wrongPlace_0_l17, ← hu_1, ← hu_2, eq_false c_3, eq_true c_4, ↓reduceIte]) hP d_SF_wrongPlace_71
        · have hlt : k < 24 := sf_lt_of (N := 24) (by omega) (by omega) c_4
          refine lv_aload_n hx hb d_SF_wrongPlace_33 rfl (lv_at hl 0 rfl) ?_
          refine va_get (D := D) (ci := 2) (v := .ref (q 15)) (C := R_SF) (T := F_SF) (N := 15) hx hb hts i_SF hown hK hP 0 rfl rfl 7 (by decide) (hts _ wd_116) (fun _ h9 => h9) rfl d_SF_wrongPlace_34 ?_
          refine lv_iload hx hb d_SF_wrongPlace_37 (lv_at hl 5 rfl) ?_
          refine va_zald hx hb hK hP 15 1 rfl rfl (vp_in_nI hlt (by omega)) d_SF_wrongPlace_39 ?_
          rw [nI_clamp (n := k) (by omega)]
          refine lv_if_eq (tgt := 64) hx hb d_SF_wrongPlace_40 (by decide) (fun c_5 => ?_) (fun c_5 => ?_)
          · refine lv_iinc (v := (nI (k + 1))) (lv' := [(5, .int (nI (k + 1))), (0, .ref (q 0)), (1, .int 0), (2, .int wk), (3, .ref (q 1)), (4, .int vs)]) hx hb d_SF_wrongPlace_64 hl (k := 5) rfl (nI_1 k) (by decide) rfl (fun ls hl => ?_)
            refine lv_goto (tgt := 17) hx hb d_SF_wrongPlace_67 (by decide) ?_
            exact ih17 (k + 1) vs (by omega) (by omega) (by rw [← heq17]; simp only [f_SF_wrongPlace_0_l17, ← hu_1, ← hu_2, eq_false c_3, eq_false c_4, eq_true c_5, ↓reduceIte]) _ _ hP hD hS ls (lv_sub hl [1, 2, 3, 4, 5, 0] rfl)
          · refine lv_aload_n hx hb d_SF_wrongPlace_43 rfl (lv_at hl 3 rfl) ?_
            refine lv_iload hx hb d_SF_wrongPlace_44 (lv_at hl 5 rfl) ?_
            refine sf_callVr (S := Int32) (rest := []) ⟨hx, hb, hml, hown, hts⟩ (c_Bl_sumIsRight l D cI cZ cJ (q 1) (q 2) 768 fl (nI k) 28 (by omega) (by omega)) (sf_cwV lk_SF_215 hts (fun _ h => h) (by rw [hR]; exact ⟨Nat.le_of_ble_eq_true rfl, Nat.le_of_ble_eq_true rfl⟩)) hK hP hD hS hA [1, 2] rfl rfl (fun _ => rfl) (ci := 0) (q0 := 0) rfl rfl rfl rfl rfl hl.1 (Nat.le_of_ble_eq_true rfl) d_SF_wrongPlace_46 ⟨Nat.zero_le _, Nat.zero_le _⟩ (fun u_6 H locs hu_6 hP hS => ?_)
            refine lv_if_ne (tgt := 64) hx hb d_SF_wrongPlace_49 (by decide) (fun c_7 => ?_) (fun c_7 => ?_)
            · refine lv_iinc (v := (nI (k + 1))) (lv' := [(5, .int (nI (k + 1))), (0, .ref (q 0)), (1, .int 0), (2, .int wk), (3, .ref (q 1)), (4, .int vs)]) hx hb d_SF_wrongPlace_64 hl (k := 5) rfl (nI_1 k) (by decide) rfl (fun ls hl => ?_)
              refine lv_goto (tgt := 17) hx hb d_SF_wrongPlace_67 (by decide) ?_
              exact ih17 (k + 1) vs (by omega) (by omega) (by rw [← heq17]; simp only [f_SF_wrongPlace_0_l17, ← hu_1, ← hu_2, ← hu_6, eq_false c_3, eq_false c_4, eq_false c_5, eq_false c_7, ↓reduceIte]) _ _ hP hD hS ls (lv_sub hl [1, 2, 3, 4, 5, 0] rfl)
            · refine lv_iload hx hb d_SF_wrongPlace_52 (lv_at hl 4 rfl) ?_
              refine lv_iload_n hx hb d_SF_wrongPlace_54 rfl (lv_at hl 2 rfl) ?_
              refine lv_icmp_ne (tgt := 61) hx hb d_SF_wrongPlace_55 (by decide) (fun c_8 => ?_) (fun c_8 => ?_)
              · refine lv_iinc (v := (vs + 1)) (lv' := [(4, .int (vs + 1)), (0, .ref (q 0)), (1, .int 0), (2, .int wk), (3, .ref (q 1)), (5, .int (nI k))]) hx hb d_SF_wrongPlace_61 hl (k := 4) rfl rfl (by decide) rfl (fun ls hl => ?_)
                refine lv_iinc (v := (nI (k + 1))) (lv' := [(5, .int (nI (k + 1))), (4, .int (vs + 1)), (0, .ref (q 0)), (1, .int 0), (2, .int wk), (3, .ref (q 1))]) hx hb d_SF_wrongPlace_64 hl (k := 5) rfl (nI_1 k) (by decide) rfl (fun ls hl => ?_)
                refine lv_goto (tgt := 17) hx hb d_SF_wrongPlace_67 (by decide) ?_
                exact ih17 (k + 1) (vs + 1) (by omega) (by omega) (by rw [← heq17]; simp only [f_SF_wrongPlace_0_l17, ← hu_1, ← hu_2, ← hu_6, eq_false c_3, eq_false c_4, eq_false c_5, eq_true c_7, eq_false c_8, ↓reduceIte]) _ _ hP hD hS ls (lv_sub hl [2, 3, 4, 5, 1, 0] rfl)
              · refine lv_iload hx hb d_SF_wrongPlace_58 (lv_at hl 5 rfl) ?_
                rw [hQ]
                exact sf_iret ((nI k), u_1.1, u_1.2.1, u_1.2.2.1, u_1.2.2.2.1, u_1.2.2.2.2.1, u_1.2.2.2.2.2) hx hb hr hlk hS rfl rfl (by rw [← heq17]; simp only [f_SF_wrongPlace_0_l17, ← hu_1, ← hu_2, ← hu_6, eq_false c_3, eq_false c_4, eq_false c_5, eq_true c_7, eq_true c_8, ↓reduceIte]) hP d_SF_wrongPlace_60
  exact loop17 (24 + 1) 0 0 (by omega) (by omega) (by simp only [f_SF_wrongPlace_0, ← hu_1, ↓reduceIte]) _ _ hP hD hS ls (lv_sub hl [3, 4, 5, 2, 1, 0] rfl)
def f_SF_wrongPlace_1_l17 (sl : Nat → Int32) (tb : Nat → Int32) (mp : Nat → Int32) (mc : Int32) (mb : Int32) (mh : Int32) (mm : Int32) (us : Nat → Int32) (wk : Int32) : Nat → Nat → Int32 → (Int32 × (Nat → Int32) × (Nat → Int32) × Int32 × Int32 × Int32 × Int32)
  | 0, _, _ => (0, (fun _ => 0), (fun _ => 0), 0, 0, 0, 0)
  | fu + 1, k, vs =>
    if (f_SF_countPlaces 1) ≤ (nI k) then
      ((-1), (f_SF_markUsed_1 sl tb mp mc mb mh mm us).1, (f_SF_markUsed_1 sl tb mp mc mb mh mm us).2.1, (f_SF_markUsed_1 sl tb mp mc mb mh mm us).2.2.1, (f_SF_markUsed_1 sl tb mp mc mb mh mm us).2.2.2.1, (f_SF_markUsed_1 sl tb mp mc mb mh mm us).2.2.2.2.1, (f_SF_markUsed_1 sl tb mp mc mb mh mm us).2.2.2.2.2)
    else
      if 24 ≤ (nI k) then
        ((-1), (f_SF_markUsed_1 sl tb mp mc mb mh mm us).1, (f_SF_markUsed_1 sl tb mp mc mb mh mm us).2.1, (f_SF_markUsed_1 sl tb mp mc mb mh mm us).2.2.1, (f_SF_markUsed_1 sl tb mp mc mb mh mm us).2.2.2.1, (f_SF_markUsed_1 sl tb mp mc mb mh mm us).2.2.2.2.1, (f_SF_markUsed_1 sl tb mp mc mb mh mm us).2.2.2.2.2)
      else
        if ((f_SF_markUsed_1 sl tb mp mc mb mh mm us).1 k) = 0 then
          f_SF_wrongPlace_1_l17 sl tb mp mc mb mh mm us wk fu (k + 1) vs
        else
          if (f_Bl_sumIsRight 512 sl (nI k) 28) = 0 then
            if vs = wk then
              ((nI k), (f_SF_markUsed_1 sl tb mp mc mb mh mm us).1, (f_SF_markUsed_1 sl tb mp mc mb mh mm us).2.1, (f_SF_markUsed_1 sl tb mp mc mb mh mm us).2.2.1, (f_SF_markUsed_1 sl tb mp mc mb mh mm us).2.2.2.1, (f_SF_markUsed_1 sl tb mp mc mb mh mm us).2.2.2.2.1, (f_SF_markUsed_1 sl tb mp mc mb mh mm us).2.2.2.2.2)
            else
              f_SF_wrongPlace_1_l17 sl tb mp mc mb mh mm us wk fu (k + 1) (vs + 1)
          else
            f_SF_wrongPlace_1_l17 sl tb mp mc mb mh mm us wk fu (k + 1) vs
def f_SF_wrongPlace_1 (sl : Nat → Int32) (tb : Nat → Int32) (mp : Nat → Int32) (mc : Int32) (mb : Int32) (mh : Int32) (mm : Int32) (us : Nat → Int32) (wk : Int32) : (Int32 × (Nat → Int32) × (Nat → Int32) × Int32 × Int32 × Int32 × Int32) :=
  f_SF_wrongPlace_1_l17 sl tb mp mc mb mh mm us wk (24 + 1) 0 0
set_option maxHeartbeats 1000000 in
set_option maxRecDepth 100000 in
/-- wrongPlace -/
theorem c_SF_wrongPlace_1 (l : Launch) (D : va_G) (cI cZ cJ : ClassId) (q : Nat → Nat) (fl : Nat → Int32) (sl : Nat → Int32) (tb : Nat → Int32) (np : Nat → Int32) (nt : Nat → Int32) (cp : Nat → Int32) (cc : Int32) (cb : Int32) (ch : Int32) (cm : Int32) (mp : Nat → Int32) (mc : Int32) (mb : Int32) (mh : Int32) (mm : Int32) (us : Nat → Int32) (ta : Nat → Int32) (tp : Nat → Int32) (tl : Int32) (cu : Int32) (bl : Int32) (pf : Int32) (sh : Int32) (wk : Int32) : sf_M (S := (Int32 × (Nat → Int32) × (Nat → Int32) × Int32 × Int32 × Int32 × Int32)) l D classes (sf_tys cI cZ cJ) y_SF_wrongPlace (sf_ws y_SF_wrongPlace b_SF_wrongPlace 6 (some .int)) 5 121 [.ref (q 0), .int 1, .int wk] (sf_w q cI cZ fl sl tb np nt cp cc cb ch cm mp mc mb mh mm us ta tp tl cu bl pf sh) (fun r => some (.int r.1)) (fun r => r = f_SF_wrongPlace_1 sl tb mp mc mb mh mm us wk) (fun r => (sf_w q cI cZ fl sl tb np nt cp cc cb ch cm r.2.2.1 r.2.2.2.1 r.2.2.2.2.1 r.2.2.2.2.2.1 r.2.2.2.2.2.2 r.2.1 ta tp tl cu bl pf sh)) := by
  refine sf_ofW (S := (Int32 × (Nat → Int32) × (Nat → Int32) × Int32 × Int32 × Int32 × Int32)) (by decide) (Nat.le_of_ble_eq_true rfl) ?_
  intro p e s m below meth c A ls R args Q hR hArgs hQ hC0 hr hK hP hD hl
  obtain ⟨hx, hb, hml, hown, hts, hA, hlk⟩ := hC0
  have hS : va_S A s.heap s.heap [] := va_S.rf
  have hl : lv_has ls 6 [(0, .ref (q 0)), (1, .int 1), (2, .int wk)] := hl
  refine lv_aload_n hx hb d_SF_wrongPlace_0 rfl (lv_at hl 0 rfl) ?_
  refine lv_iload_n hx hb d_SF_wrongPlace_1 rfl (lv_at hl 1 rfl) ?_
  refine sf_callVw (S := ((Nat → Int32) × (Nat → Int32) × Int32 × Int32 × Int32 × Int32)) (rest := []) ⟨hx, hb, hml, hown, hts⟩ (c_SF_markUsed_1 l D cI cZ cJ q fl sl tb np nt cp cc cb ch cm mp mc mb mh mm us ta tp tl cu bl pf sh) (sf_cwV lk_SF_237 hts (fun _ h => h) (by rw [hR]; exact ⟨Nat.le_of_ble_eq_true rfl, Nat.le_of_ble_eq_true rfl⟩)) hK hP hD hS hA (fun _ => by simp only [sf_w_fst]) (ci := 2) (q0 := 0) rfl rfl rfl rfl rfl hl.1 (Nat.le_of_ble_eq_true rfl) d_SF_wrongPlace_2 ⟨Nat.zero_le _, Nat.zero_le _⟩ (fun u_1 H locs hu_1 hP hD hS => ?_)
  have hP : va_P D classes (sf_w q cI cZ fl sl tb np nt cp cc cb ch cm u_1.2.1 u_1.2.2.1 u_1.2.2.2.1 u_1.2.2.2.2.1 u_1.2.2.2.2.2 u_1.1 ta tp tl cu bl pf sh) H := hP
  have hD : va_D A (sf_w q cI cZ fl sl tb np nt cp cc cb ch cm u_1.2.1 u_1.2.2.1 u_1.2.2.2.1 u_1.2.2.2.2.1 u_1.2.2.2.2.2 u_1.1 ta tp tl cu bl pf sh) := hD
  refine lv_aload_n hx hb d_SF_wrongPlace_5 rfl (lv_at hl 0 rfl) ?_
  refine lv_iload_n hx hb d_SF_wrongPlace_6 rfl (lv_at hl 1 rfl) ?_
  refine sf_callVw (S := Unit) (rest := []) ⟨hx, hb, hml, hown, hts⟩ (c_SF_placesOf_1 l D cI cZ cJ q fl sl tb np nt cp cc cb ch cm u_1.2.1 u_1.2.2.1 u_1.2.2.2.1 u_1.2.2.2.2.1 u_1.2.2.2.2.2 u_1.1 ta tp tl cu bl pf sh) (sf_cwV lk_SF_160 hts (fun _ h => h) (by rw [hR]; exact ⟨Nat.le_of_ble_eq_true rfl, Nat.le_of_ble_eq_true rfl⟩)) hK hP hD hS hA (fun _ => by simp only [sf_w_fst]) (ci := 2) (q0 := 0) rfl rfl rfl rfl rfl hl.1 (Nat.le_of_ble_eq_true rfl) d_SF_wrongPlace_7 ⟨Nat.zero_le _, Nat.zero_le _⟩ (fun u H locs hu hP hD hS => ?_)
  have hP : va_P D classes (sf_w q cI cZ fl sl tb np nt cp cc cb ch cm u_1.2.1 u_1.2.2.1 u_1.2.2.2.1 u_1.2.2.2.2.1 u_1.2.2.2.2.2 u_1.1 ta tp tl cu bl pf sh) H := hP
  have hD : va_D A (sf_w q cI cZ fl sl tb np nt cp cc cb ch cm u_1.2.1 u_1.2.2.1 u_1.2.2.2.1 u_1.2.2.2.2.1 u_1.2.2.2.2.2 u_1.1 ta tp tl cu bl pf sh) := hD
  refine lv_astore_n (lv' := [(3, .ref (q 3)), (0, .ref (q 0)), (1, .int 1), (2, .int wk)]) hx hb d_SF_wrongPlace_10 rfl hl (by decide) rfl (fun ls hl => ?_)
  refine lv_iconst (v := 0) hx hb d_SF_wrongPlace_11 (by decide) ?_
  refine lv_istore (lv' := [(4, .int 0), (3, .ref (q 3)), (0, .ref (q 0)), (1, .int 1), (2, .int wk)]) hx hb d_SF_wrongPlace_12 hl (by decide) rfl (fun ls hl => ?_)
  refine lv_iconst (v := 0) hx hb d_SF_wrongPlace_14 (by decide) ?_
  refine lv_istore (lv' := [(5, .int 0), (4, .int 0), (3, .ref (q 3)), (0, .ref (q 0)), (1, .int 1), (2, .int wk)]) hx hb d_SF_wrongPlace_15 hl (by decide) rfl (fun ls hl => ?_)
  have loop17 : ∀ (fu k : Nat) (vs : Int32), k ≤ 24 → k + fu = 24 + 1 → f_SF_wrongPlace_1_l17 sl tb mp mc mb mh mm us wk fu k vs = f_SF_wrongPlace_1 sl tb mp mc mb mh mm us wk → ∀ (H : Heap) (locs : List Loc), va_P D classes (sf_w q cI cZ fl sl tb np nt cp cc cb ch cm u_1.2.1 u_1.2.2.1 u_1.2.2.2.1 u_1.2.2.2.2.1 u_1.2.2.2.2.2 u_1.1 ta tp tl cu bl pf sh) H → va_D A (sf_w q cI cZ fl sl tb np nt cp cc cb ch cm u_1.2.1 u_1.2.2.1 u_1.2.2.2.1 u_1.2.2.2.2.1 u_1.2.2.2.2.2 u_1.1 ta tp tl cu bl pf sh) → va_S A s.heap H locs → ∀ (ls : Array Slot), lv_has ls 6 [(0, .ref (q 0)), (1, .int 1), (2, .int wk), (3, .ref (q 3)), (4, .int vs), (5, .int (nI k))] → W p l e R s m args below meth c H locs 0 0 Q (F0 m 17 ls []) := by
    intro fu
    induction fu with
    | zero =>
      intro k vs h1 h2
      exact absurd h2 (by omega)
    | succ fu ih17 =>
      intro k vs hk17 hkn17 heq17 H locs hP hD hS ls hl
      refine lv_iload hx hb d_SF_wrongPlace_17 (lv_at hl 5 rfl) ?_
      refine lv_iload_n hx hb d_SF_wrongPlace_19 rfl (lv_at hl 1 rfl) ?_
      refine sf_callSr (S := Int32) (rest := [.int (nI k)]) ⟨hx, hb, hml, hown, hts⟩ (c_SF_countPlaces l D cI cZ cJ 1) (sf_cwS lk_SF_241 hts (fun _ h => h) (by rw [hR]; exact ⟨Nat.le_of_ble_eq_true rfl, Nat.le_of_ble_eq_true rfl⟩)) hK hP hD hS hA [] rfl rfl (fun _ => rfl) rfl rfl hl.1 (Nat.le_of_ble_eq_true rfl) d_SF_wrongPlace_20 ⟨Nat.zero_le _, Nat.zero_le _⟩ (fun u_2 H locs hu_2 hP hS => ?_)
      refine lv_icmp_ge (tgt := 70) hx hb d_SF_wrongPlace_23 (by decide) (fun c_3 => ?_) (fun c_3 => ?_)
      · refine lv_iconst (v := (-1)) hx hb d_SF_wrongPlace_70 (by decide) ?_
        rw [hQ]
        exact sf_iret ((-1), u_1.1, u_1.2.1, u_1.2.2.1, u_1.2.2.2.1, u_1.2.2.2.2.1, u_1.2.2.2.2.2) hx hb hr hlk hS rfl rfl (by rw [← heq17]; simp only [f_SF_wrongPlace_1_l17, ← hu_1, ← hu_2, eq_true c_3, ↓reduceIte]) hP d_SF_wrongPlace_71
      · refine lv_iload hx hb d_SF_wrongPlace_26 (lv_at hl 5 rfl) ?_
        refine lv_bipush (v := 24) hx hb d_SF_wrongPlace_28 (by decide) ?_
        refine lv_icmp_ge (tgt := 70) hx hb d_SF_wrongPlace_30 (by decide) (fun c_4 => ?_) (fun c_4 => ?_)
        · refine lv_iconst (v := (-1)) hx hb d_SF_wrongPlace_70 (by decide) ?_
          rw [hQ]
          exact sf_iret ((-1), u_1.1, u_1.2.1, u_1.2.2.1, u_1.2.2.2.1, u_1.2.2.2.2.1, u_1.2.2.2.2.2) hx hb hr hlk hS rfl rfl (by rw [← heq17]; simp only [f_SF_wrongPlace_1_l17, ← hu_1, ← hu_2, eq_false c_3, eq_true c_4, ↓reduceIte]) hP d_SF_wrongPlace_71
        · have hlt : k < 24 := sf_lt_of (N := 24) (by omega) (by omega) c_4
          refine lv_aload_n hx hb d_SF_wrongPlace_33 rfl (lv_at hl 0 rfl) ?_
          refine va_get (D := D) (ci := 2) (v := .ref (q 15)) (C := R_SF) (T := F_SF) (N := 15) hx hb hts i_SF hown hK hP 0 rfl rfl 7 (by decide) (hts _ wd_116) (fun _ h9 => h9) rfl d_SF_wrongPlace_34 ?_
          refine lv_iload hx hb d_SF_wrongPlace_37 (lv_at hl 5 rfl) ?_
          refine va_zald hx hb hK hP 15 1 rfl rfl (vp_in_nI hlt (by omega)) d_SF_wrongPlace_39 ?_
          rw [nI_clamp (n := k) (by omega)]
          refine lv_if_eq (tgt := 64) hx hb d_SF_wrongPlace_40 (by decide) (fun c_5 => ?_) (fun c_5 => ?_)
          · refine lv_iinc (v := (nI (k + 1))) (lv' := [(5, .int (nI (k + 1))), (0, .ref (q 0)), (1, .int 1), (2, .int wk), (3, .ref (q 3)), (4, .int vs)]) hx hb d_SF_wrongPlace_64 hl (k := 5) rfl (nI_1 k) (by decide) rfl (fun ls hl => ?_)
            refine lv_goto (tgt := 17) hx hb d_SF_wrongPlace_67 (by decide) ?_
            exact ih17 (k + 1) vs (by omega) (by omega) (by rw [← heq17]; simp only [f_SF_wrongPlace_1_l17, ← hu_1, ← hu_2, eq_false c_3, eq_false c_4, eq_true c_5, ↓reduceIte]) _ _ hP hD hS ls (lv_sub hl [1, 2, 3, 4, 5, 0] rfl)
          · refine lv_aload_n hx hb d_SF_wrongPlace_43 rfl (lv_at hl 3 rfl) ?_
            refine lv_iload hx hb d_SF_wrongPlace_44 (lv_at hl 5 rfl) ?_
            refine sf_callVr (S := Int32) (rest := []) ⟨hx, hb, hml, hown, hts⟩ (c_Bl_sumIsRight l D cI cZ cJ (q 3) (q 4) 512 sl (nI k) 28 (by omega) (by omega)) (sf_cwV lk_SF_215 hts (fun _ h => h) (by rw [hR]; exact ⟨Nat.le_of_ble_eq_true rfl, Nat.le_of_ble_eq_true rfl⟩)) hK hP hD hS hA [3, 4] rfl rfl (fun _ => rfl) (ci := 0) (q0 := 0) rfl rfl rfl rfl rfl hl.1 (Nat.le_of_ble_eq_true rfl) d_SF_wrongPlace_46 ⟨Nat.zero_le _, Nat.zero_le _⟩ (fun u_6 H locs hu_6 hP hS => ?_)
            refine lv_if_ne (tgt := 64) hx hb d_SF_wrongPlace_49 (by decide) (fun c_7 => ?_) (fun c_7 => ?_)
            · refine lv_iinc (v := (nI (k + 1))) (lv' := [(5, .int (nI (k + 1))), (0, .ref (q 0)), (1, .int 1), (2, .int wk), (3, .ref (q 3)), (4, .int vs)]) hx hb d_SF_wrongPlace_64 hl (k := 5) rfl (nI_1 k) (by decide) rfl (fun ls hl => ?_)
              refine lv_goto (tgt := 17) hx hb d_SF_wrongPlace_67 (by decide) ?_
              exact ih17 (k + 1) vs (by omega) (by omega) (by rw [← heq17]; simp only [f_SF_wrongPlace_1_l17, ← hu_1, ← hu_2, ← hu_6, eq_false c_3, eq_false c_4, eq_false c_5, eq_false c_7, ↓reduceIte]) _ _ hP hD hS ls (lv_sub hl [1, 2, 3, 4, 5, 0] rfl)
            · refine lv_iload hx hb d_SF_wrongPlace_52 (lv_at hl 4 rfl) ?_
              refine lv_iload_n hx hb d_SF_wrongPlace_54 rfl (lv_at hl 2 rfl) ?_
              refine lv_icmp_ne (tgt := 61) hx hb d_SF_wrongPlace_55 (by decide) (fun c_8 => ?_) (fun c_8 => ?_)
              · refine lv_iinc (v := (vs + 1)) (lv' := [(4, .int (vs + 1)), (0, .ref (q 0)), (1, .int 1), (2, .int wk), (3, .ref (q 3)), (5, .int (nI k))]) hx hb d_SF_wrongPlace_61 hl (k := 4) rfl rfl (by decide) rfl (fun ls hl => ?_)
                refine lv_iinc (v := (nI (k + 1))) (lv' := [(5, .int (nI (k + 1))), (4, .int (vs + 1)), (0, .ref (q 0)), (1, .int 1), (2, .int wk), (3, .ref (q 3))]) hx hb d_SF_wrongPlace_64 hl (k := 5) rfl (nI_1 k) (by decide) rfl (fun ls hl => ?_)
                refine lv_goto (tgt := 17) hx hb d_SF_wrongPlace_67 (by decide) ?_
                exact ih17 (k + 1) (vs + 1) (by omega) (by omega) (by rw [← heq17]; simp only [f_SF_wrongPlace_1_l17, ← hu_1, ← hu_2, ← hu_6, eq_false c_3, eq_false c_4, eq_false c_5, eq_true c_7, eq_false c_8, ↓reduceIte]) _ _ hP hD hS ls (lv_sub hl [2, 3, 4, 5, 1, 0] rfl)
              · refine lv_iload hx hb d_SF_wrongPlace_58 (lv_at hl 5 rfl) ?_
                rw [hQ]
                exact sf_iret ((nI k), u_1.1, u_1.2.1, u_1.2.2.1, u_1.2.2.2.1, u_1.2.2.2.2.1, u_1.2.2.2.2.2) hx hb hr hlk hS rfl rfl (by rw [← heq17]; simp only [f_SF_wrongPlace_1_l17, ← hu_1, ← hu_2, ← hu_6, eq_false c_3, eq_false c_4, eq_false c_5, eq_true c_7, eq_true c_8, ↓reduceIte]) hP d_SF_wrongPlace_60
  exact loop17 (24 + 1) 0 0 (by omega) (by omega) (by simp only [f_SF_wrongPlace_1, ← hu_1, ↓reduceIte]) _ _ hP hD hS ls (lv_sub hl [3, 4, 5, 2, 1, 0] rfl)
def f_SF_wrongTable_l4 (tb : Nat → Int32) (wk : Int32) : Nat → Nat → Int32 → Int32
  | 0, _, _ => 0
  | fu + 1, k, vs =>
    if 2 ≤ (nI k) then
      (-1)
    else
      if (f_Bl_sumIsRight 80 tb (nI k) 36) = 0 then
        if vs = wk then
          (nI k)
        else
          f_SF_wrongTable_l4 tb wk fu (k + 1) (vs + 1)
      else
        f_SF_wrongTable_l4 tb wk fu (k + 1) vs
def f_SF_wrongTable (tb : Nat → Int32) (wk : Int32) : Int32 :=
  f_SF_wrongTable_l4 tb wk (2 + 1) 0 0
set_option maxHeartbeats 1000000 in
set_option maxRecDepth 100000 in
/-- wrongTable -/
theorem c_SF_wrongTable (l : Launch) (D : va_G) (cI cZ cJ : ClassId) (q : Nat → Nat) (fl : Nat → Int32) (sl : Nat → Int32) (tb : Nat → Int32) (np : Nat → Int32) (nt : Nat → Int32) (cp : Nat → Int32) (cc : Int32) (cb : Int32) (ch : Int32) (cm : Int32) (mp : Nat → Int32) (mc : Int32) (mb : Int32) (mh : Int32) (mm : Int32) (us : Nat → Int32) (ta : Nat → Int32) (tp : Nat → Int32) (tl : Int32) (cu : Int32) (bl : Int32) (pf : Int32) (sh : Int32) (wk : Int32) : sf_M (S := Int32) l D classes (sf_tys cI cZ cJ) y_SF_wrongTable (sf_ws y_SF_wrongTable b_SF_wrongTable 4 (some .int)) 2 49 [.ref (q 0), .int wk] (sf_w q cI cZ fl sl tb np nt cp cc cb ch cm mp mc mb mh mm us ta tp tl cu bl pf sh) (fun r => some (.int r)) (fun r => r = f_SF_wrongTable tb wk) (fun r => (sf_w q cI cZ fl sl tb np nt cp cc cb ch cm mp mc mb mh mm us ta tp tl cu bl pf sh)) := by
  refine sf_ofW (S := Int32) (by decide) (Nat.le_of_ble_eq_true rfl) ?_
  intro p e s m below meth c A ls R args Q hR hArgs hQ hC0 hr hK hP hD hl
  obtain ⟨hx, hb, hml, hown, hts, hA, hlk⟩ := hC0
  have hS : va_S A s.heap s.heap [] := va_S.rf
  have hl : lv_has ls 4 [(0, .ref (q 0)), (1, .int wk)] := hl
  refine lv_iconst (v := 0) hx hb d_SF_wrongTable_0 (by decide) ?_
  refine lv_istore_n (lv' := [(2, .int 0), (0, .ref (q 0)), (1, .int wk)]) hx hb d_SF_wrongTable_1 rfl hl (by decide) rfl (fun ls hl => ?_)
  refine lv_iconst (v := 0) hx hb d_SF_wrongTable_2 (by decide) ?_
  refine lv_istore_n (lv' := [(3, .int 0), (2, .int 0), (0, .ref (q 0)), (1, .int wk)]) hx hb d_SF_wrongTable_3 rfl hl (by decide) rfl (fun ls hl => ?_)
  have loop4 : ∀ (fu k : Nat) (vs : Int32), k ≤ 2 → k + fu = 2 + 1 → f_SF_wrongTable_l4 tb wk fu k vs = f_SF_wrongTable tb wk → ∀ (H : Heap) (locs : List Loc), va_P D classes (sf_w q cI cZ fl sl tb np nt cp cc cb ch cm mp mc mb mh mm us ta tp tl cu bl pf sh) H → va_D A (sf_w q cI cZ fl sl tb np nt cp cc cb ch cm mp mc mb mh mm us ta tp tl cu bl pf sh) → va_S A s.heap H locs → ∀ (ls : Array Slot), lv_has ls 4 [(0, .ref (q 0)), (1, .int wk), (2, .int vs), (3, .int (nI k))] → W p l e R s m args below meth c H locs 0 0 Q (F0 m 4 ls []) := by
    intro fu
    induction fu with
    | zero =>
      intro k vs h1 h2
      exact absurd h2 (by omega)
    | succ fu ih4 =>
      intro k vs hk4 hkn4 heq4 H locs hP hD hS ls hl
      refine lv_iload_n hx hb d_SF_wrongTable_4 rfl (lv_at hl 3 rfl) ?_
      refine lv_iconst (v := 2) hx hb d_SF_wrongTable_5 (by decide) ?_
      refine lv_icmp_ge (tgt := 36) hx hb d_SF_wrongTable_6 (by decide) (fun c_1 => ?_) (fun c_1 => ?_)
      · refine lv_iconst (v := (-1)) hx hb d_SF_wrongTable_36 (by decide) ?_
        rw [hQ]
        exact sf_iret (-1) hx hb hr hlk hS rfl rfl (by rw [← heq4]; simp only [f_SF_wrongTable_l4, eq_true c_1, ↓reduceIte]) hP d_SF_wrongTable_37
      · have hlt : k < 2 := sf_lt_of (N := 2) (by omega) (by omega) c_1
        refine lv_aload_n hx hb d_SF_wrongTable_9 rfl (lv_at hl 0 rfl) ?_
        refine va_get (D := D) (ci := 2) (v := .ref (q 5)) (C := R_SF) (T := F_SF) (N := 15) hx hb hts i_SF hown hK hP 0 rfl rfl 2 (by decide) (hts _ wd_111) (fun _ h9 => h9) rfl d_SF_wrongTable_10 ?_
        refine lv_iload_n hx hb d_SF_wrongTable_13 rfl (lv_at hl 3 rfl) ?_
        refine sf_callVr (S := Int32) (rest := []) ⟨hx, hb, hml, hown, hts⟩ (c_Bl_sumIsRight l D cI cZ cJ (q 5) (q 6) 80 tb (nI k) 36 (by omega) (by omega)) (sf_cwV lk_SF_215 hts (fun _ h => h) (by rw [hR]; exact ⟨Nat.le_of_ble_eq_true rfl, Nat.le_of_ble_eq_true rfl⟩)) hK hP hD hS hA [5, 6] rfl rfl (fun _ => rfl) (ci := 0) (q0 := 0) rfl rfl rfl rfl rfl hl.1 (Nat.le_of_ble_eq_true rfl) d_SF_wrongTable_14 ⟨Nat.zero_le _, Nat.zero_le _⟩ (fun u_2 H locs hu_2 hP hS => ?_)
        refine lv_if_ne (tgt := 30) hx hb d_SF_wrongTable_17 (by decide) (fun c_3 => ?_) (fun c_3 => ?_)
        · refine lv_iinc (v := (nI (k + 1))) (lv' := [(3, .int (nI (k + 1))), (0, .ref (q 0)), (1, .int wk), (2, .int vs)]) hx hb d_SF_wrongTable_30 hl (k := 3) rfl (nI_1 k) (by decide) rfl (fun ls hl => ?_)
          refine lv_goto (tgt := 4) hx hb d_SF_wrongTable_33 (by decide) ?_
          exact ih4 (k + 1) vs (by omega) (by omega) (by rw [← heq4]; simp only [f_SF_wrongTable_l4, ← hu_2, eq_false c_1, eq_false c_3, ↓reduceIte]) _ _ hP hD hS ls (lv_sub hl [1, 2, 3, 0] rfl)
        · refine lv_iload_n hx hb d_SF_wrongTable_20 rfl (lv_at hl 2 rfl) ?_
          refine lv_iload_n hx hb d_SF_wrongTable_21 rfl (lv_at hl 1 rfl) ?_
          refine lv_icmp_ne (tgt := 27) hx hb d_SF_wrongTable_22 (by decide) (fun c_4 => ?_) (fun c_4 => ?_)
          · refine lv_iinc (v := (vs + 1)) (lv' := [(2, .int (vs + 1)), (0, .ref (q 0)), (1, .int wk), (3, .int (nI k))]) hx hb d_SF_wrongTable_27 hl (k := 2) rfl rfl (by decide) rfl (fun ls hl => ?_)
            refine lv_iinc (v := (nI (k + 1))) (lv' := [(3, .int (nI (k + 1))), (2, .int (vs + 1)), (0, .ref (q 0)), (1, .int wk)]) hx hb d_SF_wrongTable_30 hl (k := 3) rfl (nI_1 k) (by decide) rfl (fun ls hl => ?_)
            refine lv_goto (tgt := 4) hx hb d_SF_wrongTable_33 (by decide) ?_
            exact ih4 (k + 1) (vs + 1) (by omega) (by omega) (by rw [← heq4]; simp only [f_SF_wrongTable_l4, ← hu_2, eq_false c_1, eq_true c_3, eq_false c_4, ↓reduceIte]) _ _ hP hD hS ls (lv_sub hl [2, 3, 1, 0] rfl)
          · refine lv_iload_n hx hb d_SF_wrongTable_25 rfl (lv_at hl 3 rfl) ?_
            rw [hQ]
            exact sf_iret (nI k) hx hb hr hlk hS rfl rfl (by rw [← heq4]; simp only [f_SF_wrongTable_l4, ← hu_2, eq_false c_1, eq_true c_3, eq_true c_4, ↓reduceIte]) hP d_SF_wrongTable_26
  exact loop4 (2 + 1) 0 0 (by omega) (by omega) (by simp only [f_SF_wrongTable, ↓reduceIte]) _ _ hP hD hS ls (lv_sub hl [2, 3, 1, 0] rfl)
end
section
/-! sf4: contracts, with the pure functions that they speak of (printed by wip/gen) -/
set_option maxRecDepth 20000 in
theorem wd_389 : Cond.methodLink R_SF 103 y_SF_beginWriting ∈ sf_tb := sf_tb_in 389 rfl rfl
set_option maxRecDepth 20000 in
theorem wd_392 : Cond.code y_SF_beginWriting b_SF_beginWriting 3 none ∈ sf_tb := sf_tb_in 392 rfl rfl
set_option maxRecDepth 20000 in
theorem wd_391 : Cond.instanceMethod y_SF_beginWriting ∈ sf_tb := sf_tb_in 391 rfl rfl
set_option maxRecDepth 20000 in
theorem wd_13 : Cond.selects R_SF y_SF_beginWriting y_SF_beginWriting ∈ sf_tb := sf_tb_in 13 rfl rfl
set_option maxRecDepth 20000 in
theorem wd_416 : Cond.methodLink R_SF 114 y_SF_putPlace ∈ sf_tb := sf_tb_in 416 rfl rfl
set_option maxRecDepth 20000 in
theorem wd_419 : Cond.code y_SF_putPlace b_SF_putPlace 3 none ∈ sf_tb := sf_tb_in 419 rfl rfl
set_option maxRecDepth 20000 in
theorem wd_418 : Cond.instanceMethod y_SF_putPlace ∈ sf_tb := sf_tb_in 418 rfl rfl
set_option maxRecDepth 20000 in
theorem wd_18 : Cond.selects R_SF y_SF_putPlace y_SF_putPlace ∈ sf_tb := sf_tb_in 18 rfl rfl
set_option maxRecDepth 20000 in
theorem wd_428 : Cond.methodLink R_SF 118 y_SF_putTable ∈ sf_tb := sf_tb_in 428 rfl rfl
set_option maxRecDepth 20000 in
theorem wd_431 : Cond.code y_SF_putTable b_SF_putTable 6 none ∈ sf_tb := sf_tb_in 431 rfl rfl
set_option maxRecDepth 20000 in
theorem wd_430 : Cond.instanceMethod y_SF_putTable ∈ sf_tb := sf_tb_in 430 rfl rfl
set_option maxRecDepth 20000 in
theorem wd_20 : Cond.selects R_SF y_SF_putTable y_SF_putTable ∈ sf_tb := sf_tb_in 20 rfl rfl
set_option maxRecDepth 20000 in
theorem wd_432 : Cond.methodLink R_SF 121 y_SF_endWriting ∈ sf_tb := sf_tb_in 432 rfl rfl
set_option maxRecDepth 20000 in
theorem wd_435 : Cond.code y_SF_endWriting b_SF_endWriting 1 (some .boolean) ∈ sf_tb := sf_tb_in 435 rfl rfl
set_option maxRecDepth 20000 in
theorem wd_434 : Cond.instanceMethod y_SF_endWriting ∈ sf_tb := sf_tb_in 434 rfl rfl
set_option maxRecDepth 20000 in
theorem wd_21 : Cond.selects R_SF y_SF_endWriting y_SF_endWriting ∈ sf_tb := sf_tb_in 21 rfl rfl
set_option maxRecDepth 20000 in
theorem wd_160 : Cond.methodLink R_SF 125 y_SF_isThere ∈ sf_tb := sf_tb_in 160 rfl rfl
set_option maxRecDepth 20000 in
theorem wd_163 : Cond.code y_SF_isThere b_SF_isThere 3 (some .boolean) ∈ sf_tb := sf_tb_in 163 rfl rfl
set_option maxRecDepth 20000 in
theorem wd_162 : Cond.instanceMethod y_SF_isThere ∈ sf_tb := sf_tb_in 162 rfl rfl
set_option maxRecDepth 20000 in
theorem wd_0 : Cond.selects R_SF y_SF_isThere y_SF_isThere ∈ sf_tb := sf_tb_in 0 rfl rfl
set_option maxRecDepth 20000 in
theorem wd_460 : Cond.methodLink R_SF 148 y_SF_followRow ∈ sf_tb := sf_tb_in 460 rfl rfl
set_option maxRecDepth 20000 in
theorem wd_463 : Cond.code y_SF_followRow b_SF_followRow 4 none ∈ sf_tb := sf_tb_in 463 rfl rfl
set_option maxRecDepth 20000 in
theorem wd_462 : Cond.instanceMethod y_SF_followRow ∈ sf_tb := sf_tb_in 462 rfl rfl
set_option maxRecDepth 20000 in
theorem wd_24 : Cond.selects R_SF y_SF_followRow y_SF_followRow ∈ sf_tb := sf_tb_in 24 rfl rfl
set_option maxRecDepth 20000 in
theorem wd_456 : Cond.methodLink R_SF 157 y_SF_isSlow ∈ sf_tb := sf_tb_in 456 rfl rfl
set_option maxRecDepth 20000 in
theorem wd_459 : Cond.code y_SF_isSlow b_SF_isSlow 2 (some .boolean) ∈ sf_tb := sf_tb_in 459 rfl rfl
set_option maxRecDepth 20000 in
theorem wd_458 : Cond.instanceMethod y_SF_isSlow ∈ sf_tb := sf_tb_in 458 rfl rfl
set_option maxRecDepth 20000 in
theorem wd_23 : Cond.selects R_SF y_SF_isSlow y_SF_isSlow ∈ sf_tb := sf_tb_in 23 rfl rfl
set_option maxRecDepth 20000 in
theorem wd_464 : Cond.methodLink R_SF 170 y_Ch_monthOrNone ∈ sf_tb := sf_tb_in 464 rfl rfl
set_option maxRecDepth 20000 in
theorem wd_467 : Cond.code y_Ch_monthOrNone b_Ch_monthOrNone 1 (some .int) ∈ sf_tb := sf_tb_in 467 rfl rfl
set_option maxRecDepth 20000 in
theorem wd_465 : Cond.instanceMethod y_Ch_monthOrNone ∈ sf_tb := sf_tb_in 465 rfl rfl
set_option maxRecDepth 20000 in
theorem wd_466 : Cond.selects R_Ch y_Ch_monthOrNone y_Ch_monthOrNone ∈ sf_tb := sf_tb_in 466 rfl rfl
set_option maxRecDepth 20000 in
theorem wd_550 : Cond.methodLink R_SF 199 y_SF_partOf ∈ sf_tb := sf_tb_in 550 rfl rfl
set_option maxRecDepth 20000 in
theorem wd_553 : Cond.code y_SF_partOf b_SF_partOf 2 (some (.object "ShadowFiles$Blocks")) ∈ sf_tb := sf_tb_in 553 rfl rfl
set_option maxRecDepth 20000 in
theorem wd_552 : Cond.instanceMethod y_SF_partOf ∈ sf_tb := sf_tb_in 552 rfl rfl
set_option maxRecDepth 20000 in
theorem wd_31 : Cond.selects R_SF y_SF_partOf y_SF_partOf ∈ sf_tb := sf_tb_in 31 rfl rfl
set_option maxRecDepth 20000 in
theorem wd_554 : Cond.methodLink R_SF 212 y_Bl_hasCell ∈ sf_tb := sf_tb_in 554 rfl rfl
set_option maxRecDepth 20000 in
theorem wd_473 : Cond.methodLink R_SF 275 y_SF_preparePlaceFromChain ∈ sf_tb := sf_tb_in 473 rfl rfl
set_option maxRecDepth 20000 in
theorem wd_476 : Cond.code y_SF_preparePlaceFromChain b_SF_preparePlaceFromChain 3 none ∈ sf_tb := sf_tb_in 476 rfl rfl
set_option maxRecDepth 20000 in
theorem wd_475 : Cond.instanceMethod y_SF_preparePlaceFromChain ∈ sf_tb := sf_tb_in 475 rfl rfl
set_option maxRecDepth 20000 in
theorem wd_26 : Cond.selects R_SF y_SF_preparePlaceFromChain y_SF_preparePlaceFromChain ∈ sf_tb := sf_tb_in 26 rfl rfl
theorem lk_SF_103 : sf_LV R_SF 103 y_SF_beginWriting b_SF_beginWriting 3 none 1 := ⟨wd_392, wd_389, wd_391, wd_13, wd_51, by decide +kernel⟩
theorem lk_SF_114 : sf_LV R_SF 114 y_SF_putPlace b_SF_putPlace 3 none 2 := ⟨wd_419, wd_416, wd_418, wd_18, wd_51, by decide +kernel⟩
theorem lk_SF_118 : sf_LV R_SF 118 y_SF_putTable b_SF_putTable 6 none 3 := ⟨wd_431, wd_428, wd_430, wd_20, wd_51, by decide +kernel⟩
theorem lk_SF_121 : sf_LV R_SF 121 y_SF_endWriting b_SF_endWriting 1 (some .boolean) 0 := ⟨wd_435, wd_432, wd_434, wd_21, wd_51, by decide +kernel⟩
theorem lk_SF_125 : sf_LV R_SF 125 y_SF_isThere b_SF_isThere 3 (some .boolean) 1 := ⟨wd_163, wd_160, wd_162, wd_0, wd_51, by decide +kernel⟩
theorem lk_SF_148 : sf_LV R_SF 148 y_SF_followRow b_SF_followRow 4 none 1 := ⟨wd_463, wd_460, wd_462, wd_24, wd_51, by decide +kernel⟩
theorem lk_SF_157 : sf_LV R_SF 157 y_SF_isSlow b_SF_isSlow 2 (some .boolean) 1 := ⟨wd_459, wd_456, wd_458, wd_23, wd_51, by decide +kernel⟩
theorem lk_SF_170 : sf_LV R_SF 170 y_Ch_monthOrNone b_Ch_monthOrNone 1 (some .int) 0 := ⟨wd_467, wd_464, wd_465, wd_466, wd_53, by decide +kernel⟩
theorem lk_SF_199 : sf_LV R_SF 199 y_SF_partOf b_SF_partOf 2 (some (.object "ShadowFiles$Blocks")) 1 := ⟨wd_553, wd_550, wd_552, wd_31, wd_51, by decide +kernel⟩
theorem lk_SF_212 : sf_LV R_SF 212 y_Bl_hasCell b_Bl_hasCell 2 (some .boolean) 1 := ⟨wd_367, wd_554, wd_365, wd_366, wd_52, by decide +kernel⟩
theorem lk_SF_275 : sf_LV R_SF 275 y_SF_preparePlaceFromChain b_SF_preparePlaceFromChain 3 none 1 := ⟨wd_476, wd_473, wd_475, wd_26, wd_51, by decide +kernel⟩
theorem d_SF_partOf_0 : decode b_SF_partOf 0 = .ok (.iload_n 1, 1) := by decide +kernel
theorem d_SF_partOf_1 : decode b_SF_partOf 1 = .ok (.ifCond .ne 8, 3) := by decide +kernel
theorem d_SF_partOf_4 : decode b_SF_partOf 4 = .ok (.aload_n 0, 1) := by decide +kernel
theorem d_SF_partOf_5 : decode b_SF_partOf 5 = .ok (.getfield 14, 3) := by decide +kernel
theorem d_SF_partOf_8 : decode b_SF_partOf 8 = .ok (.areturn, 1) := by decide +kernel
theorem d_SF_partOf_9 : decode b_SF_partOf 9 = .ok (.iload_n 1, 1) := by decide +kernel
theorem d_SF_partOf_10 : decode b_SF_partOf 10 = .ok (.iconst 1, 1) := by decide +kernel
theorem d_SF_partOf_11 : decode b_SF_partOf 11 = .ok (.if_icmp .ne 10, 3) := by decide +kernel
theorem d_SF_partOf_14 : decode b_SF_partOf 14 = .ok (.aload_n 0, 1) := by decide +kernel
theorem d_SF_partOf_15 : decode b_SF_partOf 15 = .ok (.getfield 18, 3) := by decide +kernel
theorem d_SF_partOf_18 : decode b_SF_partOf 18 = .ok (.goto 7, 3) := by decide +kernel
theorem d_SF_partOf_21 : decode b_SF_partOf 21 = .ok (.aload_n 0, 1) := by decide +kernel
theorem d_SF_partOf_22 : decode b_SF_partOf 22 = .ok (.getfield 21, 3) := by decide +kernel
theorem d_SF_partOf_25 : decode b_SF_partOf 25 = .ok (.areturn, 1) := by decide +kernel
theorem d_SF_hasByte_0 : decode b_SF_hasByte 0 = .ok (.iload_n 1, 1) := by decide +kernel
theorem d_SF_hasByte_1 : decode b_SF_hasByte 1 = .ok (.ifCond .lt 24, 3) := by decide +kernel
theorem d_SF_hasByte_4 : decode b_SF_hasByte 4 = .ok (.iload_n 1, 1) := by decide +kernel
theorem d_SF_hasByte_5 : decode b_SF_hasByte 5 = .ok (.iconst 2, 1) := by decide +kernel
theorem d_SF_hasByte_6 : decode b_SF_hasByte 6 = .ok (.if_icmp .gt 19, 3) := by decide +kernel
theorem d_SF_hasByte_9 : decode b_SF_hasByte 9 = .ok (.aload_n 0, 1) := by decide +kernel
theorem d_SF_hasByte_10 : decode b_SF_hasByte 10 = .ok (.iload_n 1, 1) := by decide +kernel
theorem d_SF_hasByte_11 : decode b_SF_hasByte 11 = .ok (.invokevirtual 199, 3) := by decide +kernel
theorem d_SF_hasByte_14 : decode b_SF_hasByte 14 = .ok (.iload_n 2, 1) := by decide +kernel
theorem d_SF_hasByte_15 : decode b_SF_hasByte 15 = .ok (.invokevirtual 212, 3) := by decide +kernel
theorem d_SF_hasByte_18 : decode b_SF_hasByte 18 = .ok (.ifCond .eq 7, 3) := by decide +kernel
theorem d_SF_hasByte_21 : decode b_SF_hasByte 21 = .ok (.iconst 1, 1) := by decide +kernel
theorem d_SF_hasByte_22 : decode b_SF_hasByte 22 = .ok (.goto 4, 3) := by decide +kernel
theorem d_SF_hasByte_25 : decode b_SF_hasByte 25 = .ok (.iconst 0, 1) := by decide +kernel
theorem d_SF_hasByte_26 : decode b_SF_hasByte 26 = .ok (.ireturn, 1) := by decide +kernel
theorem d_SF_followToMove_0 : decode b_SF_followToMove 0 = .ok (.aload_n 0, 1) := by decide +kernel
theorem d_SF_followToMove_1 : decode b_SF_followToMove 1 = .ok (.iload_n 1, 1) := by decide +kernel
theorem d_SF_followToMove_2 : decode b_SF_followToMove 2 = .ok (.invokevirtual 125, 3) := by decide +kernel
theorem d_SF_followToMove_5 : decode b_SF_followToMove 5 = .ok (.ifCond .eq 11, 3) := by decide +kernel
theorem d_SF_followToMove_8 : decode b_SF_followToMove 8 = .ok (.aload_n 0, 1) := by decide +kernel
theorem d_SF_followToMove_9 : decode b_SF_followToMove 9 = .ok (.iload_n 1, 1) := by decide +kernel
theorem d_SF_followToMove_10 : decode b_SF_followToMove 10 = .ok (.invokevirtual 157, 3) := by decide +kernel
theorem d_SF_followToMove_13 : decode b_SF_followToMove 13 = .ok (.ifCond .eq 5, 3) := by decide +kernel
theorem d_SF_followToMove_16 : decode b_SF_followToMove 16 = .ok (.iconst 0, 1) := by decide +kernel
theorem d_SF_followToMove_17 : decode b_SF_followToMove 17 = .ok (.ireturn, 1) := by decide +kernel
theorem d_SF_followToMove_18 : decode b_SF_followToMove 18 = .ok (.aload_n 0, 1) := by decide +kernel
theorem d_SF_followToMove_19 : decode b_SF_followToMove 19 = .ok (.iload_n 1, 1) := by decide +kernel
theorem d_SF_followToMove_20 : decode b_SF_followToMove 20 = .ok (.invokevirtual 148, 3) := by decide +kernel
theorem d_SF_followToMove_23 : decode b_SF_followToMove 23 = .ok (.aload_n 0, 1) := by decide +kernel
theorem d_SF_followToMove_24 : decode b_SF_followToMove 24 = .ok (.getfield 33, 3) := by decide +kernel
theorem d_SF_followToMove_27 : decode b_SF_followToMove 27 = .ok (.invokevirtual 170, 3) := by decide +kernel
theorem d_SF_followToMove_30 : decode b_SF_followToMove 30 = .ok (.iload_n 2, 1) := by decide +kernel
theorem d_SF_followToMove_31 : decode b_SF_followToMove 31 = .ok (.if_icmp .ne 7, 3) := by decide +kernel
theorem d_SF_followToMove_34 : decode b_SF_followToMove 34 = .ok (.iconst 1, 1) := by decide +kernel
theorem d_SF_followToMove_35 : decode b_SF_followToMove 35 = .ok (.goto 4, 3) := by decide +kernel
theorem d_SF_followToMove_38 : decode b_SF_followToMove 38 = .ok (.iconst 0, 1) := by decide +kernel
theorem d_SF_followToMove_39 : decode b_SF_followToMove 39 = .ok (.ireturn, 1) := by decide +kernel
theorem d_SF_moveFollowed_0 : decode b_SF_moveFollowed 0 = .ok (.aload_n 0, 1) := by decide +kernel
theorem d_SF_moveFollowed_1 : decode b_SF_moveFollowed 1 = .ok (.aload_n 0, 1) := by decide +kernel
theorem d_SF_moveFollowed_2 : decode b_SF_moveFollowed 2 = .ok (.getfield 33, 3) := by decide +kernel
theorem d_SF_moveFollowed_5 : decode b_SF_moveFollowed 5 = .ok (.getfield 136, 3) := by decide +kernel
theorem d_SF_moveFollowed_8 : decode b_SF_moveFollowed 8 = .ok (.invokevirtual 103, 3) := by decide +kernel
theorem d_SF_moveFollowed_11 : decode b_SF_moveFollowed 11 = .ok (.iconst 0, 1) := by decide +kernel
theorem d_SF_moveFollowed_12 : decode b_SF_moveFollowed 12 = .ok (.istore_n 2, 1) := by decide +kernel
theorem d_SF_moveFollowed_13 : decode b_SF_moveFollowed 13 = .ok (.iload_n 2, 1) := by decide +kernel
theorem d_SF_moveFollowed_14 : decode b_SF_moveFollowed 14 = .ok (.aload_n 0, 1) := by decide +kernel
theorem d_SF_moveFollowed_15 : decode b_SF_moveFollowed 15 = .ok (.getfield 33, 3) := by decide +kernel
theorem d_SF_moveFollowed_18 : decode b_SF_moveFollowed 18 = .ok (.getfield 136, 3) := by decide +kernel
theorem d_SF_moveFollowed_21 : decode b_SF_moveFollowed 21 = .ok (.if_icmp .ge 27, 3) := by decide +kernel
theorem d_SF_moveFollowed_24 : decode b_SF_moveFollowed 24 = .ok (.aload_n 0, 1) := by decide +kernel
theorem d_SF_moveFollowed_25 : decode b_SF_moveFollowed 25 = .ok (.iload_n 2, 1) := by decide +kernel
theorem d_SF_moveFollowed_26 : decode b_SF_moveFollowed 26 = .ok (.invokevirtual 275, 3) := by decide +kernel
theorem d_SF_moveFollowed_29 : decode b_SF_moveFollowed 29 = .ok (.aload_n 0, 1) := by decide +kernel
theorem d_SF_moveFollowed_30 : decode b_SF_moveFollowed 30 = .ok (.aload_n 0, 1) := by decide +kernel
theorem d_SF_moveFollowed_31 : decode b_SF_moveFollowed 31 = .ok (.getfield 18, 3) := by decide +kernel
theorem d_SF_moveFollowed_34 : decode b_SF_moveFollowed 34 = .ok (.aload_n 0, 1) := by decide +kernel
theorem d_SF_moveFollowed_35 : decode b_SF_moveFollowed 35 = .ok (.iload_n 2, 1) := by decide +kernel
theorem d_SF_moveFollowed_36 : decode b_SF_moveFollowed 36 = .ok (.invokevirtual 110, 3) := by decide +kernel
theorem d_SF_moveFollowed_39 : decode b_SF_moveFollowed 39 = .ok (.invokevirtual 114, 3) := by decide +kernel
theorem d_SF_moveFollowed_42 : decode b_SF_moveFollowed 42 = .ok (.iinc 2 1, 3) := by decide +kernel
theorem d_SF_moveFollowed_45 : decode b_SF_moveFollowed 45 = .ok (.goto (-32), 3) := by decide +kernel
theorem d_SF_moveFollowed_48 : decode b_SF_moveFollowed 48 = .ok (.aload_n 0, 1) := by decide +kernel
theorem d_SF_moveFollowed_49 : decode b_SF_moveFollowed 49 = .ok (.iload_n 1, 1) := by decide +kernel
theorem d_SF_moveFollowed_50 : decode b_SF_moveFollowed 50 = .ok (.iconst 0, 1) := by decide +kernel
theorem d_SF_moveFollowed_51 : decode b_SF_moveFollowed 51 = .ok (.aload_n 0, 1) := by decide +kernel
theorem d_SF_moveFollowed_52 : decode b_SF_moveFollowed 52 = .ok (.iconst 0, 1) := by decide +kernel
theorem d_SF_moveFollowed_53 : decode b_SF_moveFollowed 53 = .ok (.invokevirtual 110, 3) := by decide +kernel
theorem d_SF_moveFollowed_56 : decode b_SF_moveFollowed 56 = .ok (.iconst 1, 1) := by decide +kernel
theorem d_SF_moveFollowed_57 : decode b_SF_moveFollowed 57 = .ok (.iadd, 1) := by decide +kernel
theorem d_SF_moveFollowed_58 : decode b_SF_moveFollowed 58 = .ok (.invokevirtual 118, 3) := by decide +kernel
theorem d_SF_moveFollowed_61 : decode b_SF_moveFollowed 61 = .ok (.aload_n 0, 1) := by decide +kernel
theorem d_SF_moveFollowed_62 : decode b_SF_moveFollowed 62 = .ok (.invokevirtual 121, 3) := by decide +kernel
theorem d_SF_moveFollowed_65 : decode b_SF_moveFollowed 65 = .ok (.ireturn, 1) := by decide +kernel
theorem d_SF_open_0 : decode b_SF_open 0 = .ok (.aload_n 0, 1) := by decide +kernel
theorem d_SF_open_1 : decode b_SF_open 1 = .ok (.iconst 0, 1) := by decide +kernel
theorem d_SF_open_2 : decode b_SF_open 2 = .ok (.putfield 83, 3) := by decide +kernel
theorem d_SF_open_5 : decode b_SF_open 5 = .ok (.iconst 0, 1) := by decide +kernel
theorem d_SF_open_6 : decode b_SF_open 6 = .ok (.istore_n 1, 1) := by decide +kernel
theorem d_SF_open_7 : decode b_SF_open 7 = .ok (.iconst 0, 1) := by decide +kernel
theorem d_SF_open_8 : decode b_SF_open 8 = .ok (.istore_n 2, 1) := by decide +kernel
theorem d_SF_open_9 : decode b_SF_open 9 = .ok (.iload_n 2, 1) := by decide +kernel
theorem d_SF_open_10 : decode b_SF_open 10 = .ok (.bipush 12, 2) := by decide +kernel
theorem d_SF_open_12 : decode b_SF_open 12 = .ok (.if_icmp .ge 20, 3) := by decide +kernel
theorem d_SF_open_15 : decode b_SF_open 15 = .ok (.aload_n 0, 1) := by decide +kernel
theorem d_SF_open_16 : decode b_SF_open 16 = .ok (.iload_n 2, 1) := by decide +kernel
theorem d_SF_open_17 : decode b_SF_open 17 = .ok (.invokevirtual 125, 3) := by decide +kernel
theorem d_SF_open_20 : decode b_SF_open 20 = .ok (.ifCond .eq 6, 3) := by decide +kernel
theorem d_SF_open_23 : decode b_SF_open 23 = .ok (.iinc 1 1, 3) := by decide +kernel
theorem d_SF_open_26 : decode b_SF_open 26 = .ok (.iinc 2 1, 3) := by decide +kernel
theorem d_SF_open_29 : decode b_SF_open 29 = .ok (.goto (-20), 3) := by decide +kernel
theorem d_SF_open_32 : decode b_SF_open 32 = .ok (.iload_n 1, 1) := by decide +kernel
theorem d_SF_open_33 : decode b_SF_open 33 = .ok (.ireturn, 1) := by decide +kernel
theorem f_SF_endWriting_b (pf sh : Int32) : (f_SF_endWriting pf sh).1 = 0 ∨ (f_SF_endWriting pf sh).1 = 1 := by
  unfold f_SF_endWriting
  split
  · exact Or.inr rfl
  · exact Or.inl rfl
set_option maxHeartbeats 1000000 in
set_option maxRecDepth 100000 in
/-- partOf -/
theorem c_SF_partOf_0 (l : Launch) (D : va_G) (cI cZ cJ : ClassId) (q : Nat → Nat) (fl : Nat → Int32) (sl : Nat → Int32) (tb : Nat → Int32) (np : Nat → Int32) (nt : Nat → Int32) (cp : Nat → Int32) (cc : Int32) (cb : Int32) (ch : Int32) (cm : Int32) (mp : Nat → Int32) (mc : Int32) (mb : Int32) (mh : Int32) (mm : Int32) (us : Nat → Int32) (ta : Nat → Int32) (tp : Nat → Int32) (tl : Int32) (cu : Int32) (bl : Int32) (pf : Int32) (sh : Int32) : sf_M (S := Unit) l D classes (sf_tys cI cZ cJ) y_SF_partOf (sf_ws y_SF_partOf b_SF_partOf 2 (some (.object "ShadowFiles$Blocks"))) 0 0 [.ref (q 0), .int 0] (sf_w q cI cZ fl sl tb np nt cp cc cb ch cm mp mc mb mh mm us ta tp tl cu bl pf sh) (fun _ => some (.ref (q 1))) (fun _ => True) (fun _ => (sf_w q cI cZ fl sl tb np nt cp cc cb ch cm mp mc mb mh mm us ta tp tl cu bl pf sh)) := by
  refine sf_ofW (S := Unit) (by decide) (Nat.le_of_ble_eq_true rfl) ?_
  intro p e s m below meth c A ls R args Q hR hArgs hQ hC0 hr hK hP hD hl
  obtain ⟨hx, hb, hml, hown, hts, hA, hlk⟩ := hC0
  have hS : va_S A s.heap s.heap [] := va_S.rf
  have hl : lv_has ls 2 [(0, .ref (q 0)), (1, .int 0)] := hl
  refine lv_iload_n hx hb d_SF_partOf_0 rfl (lv_at hl 1 rfl) ?_
  refine lv_if_ne (tgt := 9) hx hb d_SF_partOf_1 (by decide) (fun c_1 => absurd (by decide) c_1) (fun c_1 => ?_)
  refine lv_aload_n hx hb d_SF_partOf_4 rfl (lv_at hl 0 rfl) ?_
  refine va_get (D := D) (ci := 2) (v := .ref (q 1)) (C := R_SF) (T := F_SF) (N := 15) hx hb hts i_SF hown hK hP 0 rfl rfl 0 (by decide) (hts _ wd_109) (fun _ h9 => h9) rfl d_SF_partOf_5 ?_
  rw [hQ]
  exact sf_aret () hx hb hr hlk hS rfl trivial hP d_SF_partOf_8
set_option maxHeartbeats 1000000 in
set_option maxRecDepth 100000 in
/-- partOf -/
theorem c_SF_partOf_1 (l : Launch) (D : va_G) (cI cZ cJ : ClassId) (q : Nat → Nat) (fl : Nat → Int32) (sl : Nat → Int32) (tb : Nat → Int32) (np : Nat → Int32) (nt : Nat → Int32) (cp : Nat → Int32) (cc : Int32) (cb : Int32) (ch : Int32) (cm : Int32) (mp : Nat → Int32) (mc : Int32) (mb : Int32) (mh : Int32) (mm : Int32) (us : Nat → Int32) (ta : Nat → Int32) (tp : Nat → Int32) (tl : Int32) (cu : Int32) (bl : Int32) (pf : Int32) (sh : Int32) : sf_M (S := Unit) l D classes (sf_tys cI cZ cJ) y_SF_partOf (sf_ws y_SF_partOf b_SF_partOf 2 (some (.object "ShadowFiles$Blocks"))) 0 0 [.ref (q 0), .int 1] (sf_w q cI cZ fl sl tb np nt cp cc cb ch cm mp mc mb mh mm us ta tp tl cu bl pf sh) (fun _ => some (.ref (q 3))) (fun _ => True) (fun _ => (sf_w q cI cZ fl sl tb np nt cp cc cb ch cm mp mc mb mh mm us ta tp tl cu bl pf sh)) := by
  refine sf_ofW (S := Unit) (by decide) (Nat.le_of_ble_eq_true rfl) ?_
  intro p e s m below meth c A ls R args Q hR hArgs hQ hC0 hr hK hP hD hl
  obtain ⟨hx, hb, hml, hown, hts, hA, hlk⟩ := hC0
  have hS : va_S A s.heap s.heap [] := va_S.rf
  have hl : lv_has ls 2 [(0, .ref (q 0)), (1, .int 1)] := hl
  refine lv_iload_n hx hb d_SF_partOf_0 rfl (lv_at hl 1 rfl) ?_
  refine lv_if_ne (tgt := 9) hx hb d_SF_partOf_1 (by decide) (fun c_1 => ?_) (fun c_1 => absurd c_1 (by decide))
  refine lv_iload_n hx hb d_SF_partOf_9 rfl (lv_at hl 1 rfl) ?_
  refine lv_iconst (v := 1) hx hb d_SF_partOf_10 (by decide) ?_
  refine lv_icmp_ne (tgt := 21) hx hb d_SF_partOf_11 (by decide) (fun c_2 => absurd (by decide) c_2) (fun c_2 => ?_)
  refine lv_aload_n hx hb d_SF_partOf_14 rfl (lv_at hl 0 rfl) ?_
  refine va_get (D := D) (ci := 2) (v := .ref (q 3)) (C := R_SF) (T := F_SF) (N := 15) hx hb hts i_SF hown hK hP 0 rfl rfl 1 (by decide) (hts _ wd_110) (fun _ h9 => h9) rfl d_SF_partOf_15 ?_
  refine lv_goto (tgt := 25) hx hb d_SF_partOf_18 (by decide) ?_
  rw [hQ]
  exact sf_aret () hx hb hr hlk hS rfl trivial hP d_SF_partOf_25
set_option maxHeartbeats 1000000 in
set_option maxRecDepth 100000 in
/-- partOf -/
theorem c_SF_partOf_2 (l : Launch) (D : va_G) (cI cZ cJ : ClassId) (q : Nat → Nat) (fl : Nat → Int32) (sl : Nat → Int32) (tb : Nat → Int32) (np : Nat → Int32) (nt : Nat → Int32) (cp : Nat → Int32) (cc : Int32) (cb : Int32) (ch : Int32) (cm : Int32) (mp : Nat → Int32) (mc : Int32) (mb : Int32) (mh : Int32) (mm : Int32) (us : Nat → Int32) (ta : Nat → Int32) (tp : Nat → Int32) (tl : Int32) (cu : Int32) (bl : Int32) (pf : Int32) (sh : Int32) : sf_M (S := Unit) l D classes (sf_tys cI cZ cJ) y_SF_partOf (sf_ws y_SF_partOf b_SF_partOf 2 (some (.object "ShadowFiles$Blocks"))) 0 0 [.ref (q 0), .int 2] (sf_w q cI cZ fl sl tb np nt cp cc cb ch cm mp mc mb mh mm us ta tp tl cu bl pf sh) (fun _ => some (.ref (q 5))) (fun _ => True) (fun _ => (sf_w q cI cZ fl sl tb np nt cp cc cb ch cm mp mc mb mh mm us ta tp tl cu bl pf sh)) := by
  refine sf_ofW (S := Unit) (by decide) (Nat.le_of_ble_eq_true rfl) ?_
  intro p e s m below meth c A ls R args Q hR hArgs hQ hC0 hr hK hP hD hl
  obtain ⟨hx, hb, hml, hown, hts, hA, hlk⟩ := hC0
  have hS : va_S A s.heap s.heap [] := va_S.rf
  have hl : lv_has ls 2 [(0, .ref (q 0)), (1, .int 2)] := hl
  refine lv_iload_n hx hb d_SF_partOf_0 rfl (lv_at hl 1 rfl) ?_
  refine lv_if_ne (tgt := 9) hx hb d_SF_partOf_1 (by decide) (fun c_1 => ?_) (fun c_1 => absurd c_1 (by decide))
  refine lv_iload_n hx hb d_SF_partOf_9 rfl (lv_at hl 1 rfl) ?_
  refine lv_iconst (v := 1) hx hb d_SF_partOf_10 (by decide) ?_
  refine lv_icmp_ne (tgt := 21) hx hb d_SF_partOf_11 (by decide) (fun c_2 => ?_) (fun c_2 => absurd c_2 (by decide))
  refine lv_aload_n hx hb d_SF_partOf_21 rfl (lv_at hl 0 rfl) ?_
  refine va_get (D := D) (ci := 2) (v := .ref (q 5)) (C := R_SF) (T := F_SF) (N := 15) hx hb hts i_SF hown hK hP 0 rfl rfl 2 (by decide) (hts _ wd_111) (fun _ h9 => h9) rfl d_SF_partOf_22 ?_
  rw [hQ]
  exact sf_aret () hx hb hr hlk hS rfl trivial hP d_SF_partOf_25
def f_SF_hasByte (wt : Int32) (i : Int32) : Int32 :=
  if wt < 0 then
    0
  else
    if 2 < wt then
      0
    else
      if wt = 0 then
        if (f_Bl_hasCell 768 i) = 0 then
          0
        else
          1
      else
        if wt = 1 then
          if (f_Bl_hasCell 512 i) = 0 then
            0
          else
            1
        else
          if (f_Bl_hasCell 80 i) = 0 then
            0
          else
            1
set_option maxHeartbeats 1000000 in
set_option maxRecDepth 100000 in
/-- hasByte -/
theorem c_SF_hasByte (l : Launch) (D : va_G) (cI cZ cJ : ClassId) (q : Nat → Nat) (fl : Nat → Int32) (sl : Nat → Int32) (tb : Nat → Int32) (np : Nat → Int32) (nt : Nat → Int32) (cp : Nat → Int32) (cc : Int32) (cb : Int32) (ch : Int32) (cm : Int32) (mp : Nat → Int32) (mc : Int32) (mb : Int32) (mh : Int32) (mm : Int32) (us : Nat → Int32) (ta : Nat → Int32) (tp : Nat → Int32) (tl : Int32) (cu : Int32) (bl : Int32) (pf : Int32) (sh : Int32) (wt : Int32) (i : Int32) : sf_M (S := Int32) l D classes (sf_tys cI cZ cJ) y_SF_hasByte (sf_ws y_SF_hasByte b_SF_hasByte 3 (some .boolean)) 1 21 [.ref (q 0), .int wt, .int i] (sf_w q cI cZ fl sl tb np nt cp cc cb ch cm mp mc mb mh mm us ta tp tl cu bl pf sh) (fun r => some (.int r)) (fun r => r = f_SF_hasByte wt i) (fun r => (sf_w q cI cZ fl sl tb np nt cp cc cb ch cm mp mc mb mh mm us ta tp tl cu bl pf sh)) := by
  refine sf_ofW (S := Int32) (by decide) (Nat.le_of_ble_eq_true rfl) ?_
  intro p e s m below meth c A ls R args Q hR hArgs hQ hC0 hr hK hP hD hl
  obtain ⟨hx, hb, hml, hown, hts, hA, hlk⟩ := hC0
  have hS : va_S A s.heap s.heap [] := va_S.rf
  have hl : lv_has ls 3 [(0, .ref (q 0)), (1, .int wt), (2, .int i)] := hl
  refine lv_iload_n hx hb d_SF_hasByte_0 rfl (lv_at hl 1 rfl) ?_
  refine lv_if_lt (tgt := 25) hx hb d_SF_hasByte_1 (by decide) (fun c_1 => ?_) (fun c_1 => ?_)
  · refine lv_iconst (v := 0) hx hb d_SF_hasByte_25 (by decide) ?_
    rw [hQ]
    exact sf_iret 0 hx hb hr hlk hS sf_b0 rfl (by simp only [f_SF_hasByte, eq_true c_1, ↓reduceIte]) hP d_SF_hasByte_26
  · refine lv_iload_n hx hb d_SF_hasByte_4 rfl (lv_at hl 1 rfl) ?_
    refine lv_iconst (v := 2) hx hb d_SF_hasByte_5 (by decide) ?_
    refine lv_icmp_gt (tgt := 25) hx hb d_SF_hasByte_6 (by decide) (fun c_2 => ?_) (fun c_2 => ?_)
    · refine lv_iconst (v := 0) hx hb d_SF_hasByte_25 (by decide) ?_
      rw [hQ]
      exact sf_iret 0 hx hb hr hlk hS sf_b0 rfl (by simp only [f_SF_hasByte, eq_false c_1, eq_true c_2, ↓reduceIte]) hP d_SF_hasByte_26
    · refine lv_aload_n hx hb d_SF_hasByte_9 rfl (lv_at hl 0 rfl) ?_
      refine lv_iload_n hx hb d_SF_hasByte_10 rfl (lv_at hl 1 rfl) ?_
      rcases sf_three c_1 c_2 with hw | hw | hw
      · rw [hw]
        refine sf_callVw (S := Unit) (rest := []) ⟨hx, hb, hml, hown, hts⟩ (c_SF_partOf_0 l D cI cZ cJ q fl sl tb np nt cp cc cb ch cm mp mc mb mh mm us ta tp tl cu bl pf sh) (sf_cwV lk_SF_199 hts (fun _ h => h) (by rw [hR]; exact ⟨Nat.le_of_ble_eq_true rfl, Nat.le_of_ble_eq_true rfl⟩)) hK hP hD hS hA (fun _ => by simp only [sf_w_fst]) (ci := 2) (q0 := 0) rfl rfl rfl rfl rfl hl.1 (Nat.le_of_ble_eq_true rfl) d_SF_hasByte_11 ⟨Nat.zero_le _, Nat.zero_le _⟩ (fun u H locs hu hP hD hS => ?_)
        have hP : va_P D classes (sf_w q cI cZ fl sl tb np nt cp cc cb ch cm mp mc mb mh mm us ta tp tl cu bl pf sh) H := hP
        have hD : va_D A (sf_w q cI cZ fl sl tb np nt cp cc cb ch cm mp mc mb mh mm us ta tp tl cu bl pf sh) := hD
        refine lv_iload_n hx hb d_SF_hasByte_14 rfl (lv_at hl 2 rfl) ?_
        refine sf_callVr (S := Int32) (rest := []) ⟨hx, hb, hml, hown, hts⟩ (c_Bl_hasCell l D cI cZ cJ (q 1) (q 2) 768 fl (nI 32) i (by omega)) (sf_cwV lk_SF_212 hts (fun _ h => h) (by rw [hR]; exact ⟨Nat.le_of_ble_eq_true rfl, Nat.le_of_ble_eq_true rfl⟩)) hK hP hD hS hA [1, 2] rfl rfl (fun _ => rfl) (ci := 0) (q0 := 0) rfl rfl rfl rfl rfl hl.1 (Nat.le_of_ble_eq_true rfl) d_SF_hasByte_15 ⟨Nat.zero_le _, Nat.zero_le _⟩ (fun u_3 H locs hu_3 hP hS => ?_)
        refine lv_if_eq (tgt := 25) hx hb d_SF_hasByte_18 (by decide) (fun c_4 => ?_) (fun c_4 => ?_)
        · refine lv_iconst (v := 0) hx hb d_SF_hasByte_25 (by decide) ?_
          rw [hQ]
          exact sf_iret 0 hx hb hr hlk hS sf_b0 rfl (by simp only [f_SF_hasByte, ← hu_3, eq_false c_1, eq_false c_2, eq_true hw, eq_true c_4, ↓reduceIte]) hP d_SF_hasByte_26
        · refine lv_iconst (v := 1) hx hb d_SF_hasByte_21 (by decide) ?_
          refine lv_goto (tgt := 26) hx hb d_SF_hasByte_22 (by decide) ?_
          rw [hQ]
          exact sf_iret 1 hx hb hr hlk hS sf_b1 rfl (by simp only [f_SF_hasByte, ← hu_3, eq_false c_1, eq_false c_2, eq_true hw, eq_false c_4, ↓reduceIte]) hP d_SF_hasByte_26
      · rw [hw]
        have hw0 : ¬ wt = 0 := by rw [hw]; decide
        refine sf_callVw (S := Unit) (rest := []) ⟨hx, hb, hml, hown, hts⟩ (c_SF_partOf_1 l D cI cZ cJ q fl sl tb np nt cp cc cb ch cm mp mc mb mh mm us ta tp tl cu bl pf sh) (sf_cwV lk_SF_199 hts (fun _ h => h) (by rw [hR]; exact ⟨Nat.le_of_ble_eq_true rfl, Nat.le_of_ble_eq_true rfl⟩)) hK hP hD hS hA (fun _ => by simp only [sf_w_fst]) (ci := 2) (q0 := 0) rfl rfl rfl rfl rfl hl.1 (Nat.le_of_ble_eq_true rfl) d_SF_hasByte_11 ⟨Nat.zero_le _, Nat.zero_le _⟩ (fun u H locs hu hP hD hS => ?_)
        have hP : va_P D classes (sf_w q cI cZ fl sl tb np nt cp cc cb ch cm mp mc mb mh mm us ta tp tl cu bl pf sh) H := hP
        have hD : va_D A (sf_w q cI cZ fl sl tb np nt cp cc cb ch cm mp mc mb mh mm us ta tp tl cu bl pf sh) := hD
        refine lv_iload_n hx hb d_SF_hasByte_14 rfl (lv_at hl 2 rfl) ?_
        refine sf_callVr (S := Int32) (rest := []) ⟨hx, hb, hml, hown, hts⟩ (c_Bl_hasCell l D cI cZ cJ (q 3) (q 4) 512 sl (nI 32) i (by omega)) (sf_cwV lk_SF_212 hts (fun _ h => h) (by rw [hR]; exact ⟨Nat.le_of_ble_eq_true rfl, Nat.le_of_ble_eq_true rfl⟩)) hK hP hD hS hA [3, 4] rfl rfl (fun _ => rfl) (ci := 0) (q0 := 0) rfl rfl rfl rfl rfl hl.1 (Nat.le_of_ble_eq_true rfl) d_SF_hasByte_15 ⟨Nat.zero_le _, Nat.zero_le _⟩ (fun u_5 H locs hu_5 hP hS => ?_)
        refine lv_if_eq (tgt := 25) hx hb d_SF_hasByte_18 (by decide) (fun c_6 => ?_) (fun c_6 => ?_)
        · refine lv_iconst (v := 0) hx hb d_SF_hasByte_25 (by decide) ?_
          rw [hQ]
          exact sf_iret 0 hx hb hr hlk hS sf_b0 rfl (by simp only [f_SF_hasByte, ← hu_5, eq_false c_1, eq_false c_2, eq_false hw0, eq_true hw, eq_true c_6, ↓reduceIte]) hP d_SF_hasByte_26
        · refine lv_iconst (v := 1) hx hb d_SF_hasByte_21 (by decide) ?_
          refine lv_goto (tgt := 26) hx hb d_SF_hasByte_22 (by decide) ?_
          rw [hQ]
          exact sf_iret 1 hx hb hr hlk hS sf_b1 rfl (by simp only [f_SF_hasByte, ← hu_5, eq_false c_1, eq_false c_2, eq_false hw0, eq_true hw, eq_false c_6, ↓reduceIte]) hP d_SF_hasByte_26
      · rw [hw]
        have hw0 : ¬ wt = 0 := by rw [hw]; decide
        have hw1 : ¬ wt = 1 := by rw [hw]; decide
        refine sf_callVw (S := Unit) (rest := []) ⟨hx, hb, hml, hown, hts⟩ (c_SF_partOf_2 l D cI cZ cJ q fl sl tb np nt cp cc cb ch cm mp mc mb mh mm us ta tp tl cu bl pf sh) (sf_cwV lk_SF_199 hts (fun _ h => h) (by rw [hR]; exact ⟨Nat.le_of_ble_eq_true rfl, Nat.le_of_ble_eq_true rfl⟩)) hK hP hD hS hA (fun _ => by simp only [sf_w_fst]) (ci := 2) (q0 := 0) rfl rfl rfl rfl rfl hl.1 (Nat.le_of_ble_eq_true rfl) d_SF_hasByte_11 ⟨Nat.zero_le _, Nat.zero_le _⟩ (fun u H locs hu hP hD hS => ?_)
        have hP : va_P D classes (sf_w q cI cZ fl sl tb np nt cp cc cb ch cm mp mc mb mh mm us ta tp tl cu bl pf sh) H := hP
        have hD : va_D A (sf_w q cI cZ fl sl tb np nt cp cc cb ch cm mp mc mb mh mm us ta tp tl cu bl pf sh) := hD
        refine lv_iload_n hx hb d_SF_hasByte_14 rfl (lv_at hl 2 rfl) ?_
        refine sf_callVr (S := Int32) (rest := []) ⟨hx, hb, hml, hown, hts⟩ (c_Bl_hasCell l D cI cZ cJ (q 5) (q 6) 80 tb (nI 40) i (by omega)) (sf_cwV lk_SF_212 hts (fun _ h => h) (by rw [hR]; exact ⟨Nat.le_of_ble_eq_true rfl, Nat.le_of_ble_eq_true rfl⟩)) hK hP hD hS hA [5, 6] rfl rfl (fun _ => rfl) (ci := 0) (q0 := 0) rfl rfl rfl rfl rfl hl.1 (Nat.le_of_ble_eq_true rfl) d_SF_hasByte_15 ⟨Nat.zero_le _, Nat.zero_le _⟩ (fun u_7 H locs hu_7 hP hS => ?_)
        refine lv_if_eq (tgt := 25) hx hb d_SF_hasByte_18 (by decide) (fun c_8 => ?_) (fun c_8 => ?_)
        · refine lv_iconst (v := 0) hx hb d_SF_hasByte_25 (by decide) ?_
          rw [hQ]
          exact sf_iret 0 hx hb hr hlk hS sf_b0 rfl (by simp only [f_SF_hasByte, ← hu_7, eq_false c_1, eq_false c_2, eq_false hw0, eq_false hw1, eq_true c_8, ↓reduceIte]) hP d_SF_hasByte_26
        · refine lv_iconst (v := 1) hx hb d_SF_hasByte_21 (by decide) ?_
          refine lv_goto (tgt := 26) hx hb d_SF_hasByte_22 (by decide) ?_
          rw [hQ]
          exact sf_iret 1 hx hb hr hlk hS sf_b1 rfl (by simp only [f_SF_hasByte, ← hu_7, eq_false c_1, eq_false c_2, eq_false hw0, eq_false hw1, eq_false c_8, ↓reduceIte]) hP d_SF_hasByte_26
def f_SF_followToMove (fl : Nat → Int32) (sl : Nat → Int32) (tb : Nat → Int32) (cp : Nat → Int32) (cc : Int32) (cb : Int32) (ch : Int32) (cm : Int32) (ro : Int32) (mo : Int32) : (Int32 × (Nat → Int32) × Int32 × Int32 × Int32 × Int32) :=
  if (f_SF_isThere tb ro) = 0 then
    (0, cp, cc, cb, ch, cm)
  else
    if (f_SF_isSlow tb ro) = 0 then
      if (f_Ch_monthOrNone (f_SF_followRow fl sl tb cp ro).2.2.1 (f_SF_followRow fl sl tb cp ro).2.2.2.2) = mo then
        (1, (f_SF_followRow fl sl tb cp ro).1, (f_SF_followRow fl sl tb cp ro).2.1, (f_SF_followRow fl sl tb cp ro).2.2.1, (f_SF_followRow fl sl tb cp ro).2.2.2.1, (f_SF_followRow fl sl tb cp ro).2.2.2.2)
      else
        (0, (f_SF_followRow fl sl tb cp ro).1, (f_SF_followRow fl sl tb cp ro).2.1, (f_SF_followRow fl sl tb cp ro).2.2.1, (f_SF_followRow fl sl tb cp ro).2.2.2.1, (f_SF_followRow fl sl tb cp ro).2.2.2.2)
    else
      (0, cp, cc, cb, ch, cm)
set_option maxHeartbeats 1000000 in
set_option maxRecDepth 100000 in
/-- followToMove -/
theorem c_SF_followToMove (l : Launch) (D : va_G) (cI cZ cJ : ClassId) (q : Nat → Nat) (fl : Nat → Int32) (sl : Nat → Int32) (tb : Nat → Int32) (np : Nat → Int32) (nt : Nat → Int32) (cp : Nat → Int32) (cc : Int32) (cb : Int32) (ch : Int32) (cm : Int32) (mp : Nat → Int32) (mc : Int32) (mb : Int32) (mh : Int32) (mm : Int32) (us : Nat → Int32) (ta : Nat → Int32) (tp : Nat → Int32) (tl : Int32) (cu : Int32) (bl : Int32) (pf : Int32) (sh : Int32) (ro : Int32) (mo : Int32) : sf_M (S := (Int32 × (Nat → Int32) × Int32 × Int32 × Int32 × Int32)) l D classes (sf_tys cI cZ cJ) y_SF_followToMove (sf_ws y_SF_followToMove b_SF_followToMove 3 (some .boolean)) 5 120 [.ref (q 0), .int ro, .int mo] (sf_w q cI cZ fl sl tb np nt cp cc cb ch cm mp mc mb mh mm us ta tp tl cu bl pf sh) (fun r => some (.int r.1)) (fun r => r = f_SF_followToMove fl sl tb cp cc cb ch cm ro mo) (fun r => (sf_w q cI cZ fl sl tb np nt r.2.1 r.2.2.1 r.2.2.2.1 r.2.2.2.2.1 r.2.2.2.2.2 mp mc mb mh mm us ta tp tl cu bl pf sh)) := by
  refine sf_ofW (S := (Int32 × (Nat → Int32) × Int32 × Int32 × Int32 × Int32)) (by decide) (Nat.le_of_ble_eq_true rfl) ?_
  intro p e s m below meth c A ls R args Q hR hArgs hQ hC0 hr hK hP hD hl
  obtain ⟨hx, hb, hml, hown, hts, hA, hlk⟩ := hC0
  have hS : va_S A s.heap s.heap [] := va_S.rf
  have hl : lv_has ls 3 [(0, .ref (q 0)), (1, .int ro), (2, .int mo)] := hl
  refine lv_aload_n hx hb d_SF_followToMove_0 rfl (lv_at hl 0 rfl) ?_
  refine lv_iload_n hx hb d_SF_followToMove_1 rfl (lv_at hl 1 rfl) ?_
  refine sf_callVw (S := Int32) (rest := []) ⟨hx, hb, hml, hown, hts⟩ (c_SF_isThere l D cI cZ cJ q fl sl tb np nt cp cc cb ch cm mp mc mb mh mm us ta tp tl cu bl pf sh ro) (sf_cwV lk_SF_125 hts (fun _ h => h) (by rw [hR]; exact ⟨Nat.le_of_ble_eq_true rfl, Nat.le_of_ble_eq_true rfl⟩)) hK hP hD hS hA (fun _ => by simp only [sf_w_fst]) (ci := 2) (q0 := 0) rfl rfl rfl rfl rfl hl.1 (Nat.le_of_ble_eq_true rfl) d_SF_followToMove_2 ⟨Nat.zero_le _, Nat.zero_le _⟩ (fun u_1 H locs hu_1 hP hD hS => ?_)
  have hP : va_P D classes (sf_w q cI cZ fl sl tb np nt cp cc cb ch cm mp mc mb mh mm us ta tp tl cu bl pf sh) H := hP
  have hD : va_D A (sf_w q cI cZ fl sl tb np nt cp cc cb ch cm mp mc mb mh mm us ta tp tl cu bl pf sh) := hD
  refine lv_if_eq (tgt := 16) hx hb d_SF_followToMove_5 (by decide) (fun c_2 => ?_) (fun c_2 => ?_)
  · refine lv_iconst (v := 0) hx hb d_SF_followToMove_16 (by decide) ?_
    rw [hQ]
    exact sf_iret (0, cp, cc, cb, ch, cm) hx hb hr hlk hS sf_b0 rfl (by simp only [f_SF_followToMove, ← hu_1, eq_true c_2, ↓reduceIte]) hP d_SF_followToMove_17
  · refine lv_aload_n hx hb d_SF_followToMove_8 rfl (lv_at hl 0 rfl) ?_
    refine lv_iload_n hx hb d_SF_followToMove_9 rfl (lv_at hl 1 rfl) ?_
    refine sf_callVw (S := Int32) (rest := []) ⟨hx, hb, hml, hown, hts⟩ (c_SF_isSlow l D cI cZ cJ q fl sl tb np nt cp cc cb ch cm mp mc mb mh mm us ta tp tl cu bl pf sh ro) (sf_cwV lk_SF_157 hts (fun _ h => h) (by rw [hR]; exact ⟨Nat.le_of_ble_eq_true rfl, Nat.le_of_ble_eq_true rfl⟩)) hK hP hD hS hA (fun _ => by simp only [sf_w_fst]) (ci := 2) (q0 := 0) rfl rfl rfl rfl rfl hl.1 (Nat.le_of_ble_eq_true rfl) d_SF_followToMove_10 ⟨Nat.zero_le _, Nat.zero_le _⟩ (fun u_3 H locs hu_3 hP hD hS => ?_)
    have hP : va_P D classes (sf_w q cI cZ fl sl tb np nt cp cc cb ch cm mp mc mb mh mm us ta tp tl cu bl pf sh) H := hP
    have hD : va_D A (sf_w q cI cZ fl sl tb np nt cp cc cb ch cm mp mc mb mh mm us ta tp tl cu bl pf sh) := hD
    refine lv_if_eq (tgt := 18) hx hb d_SF_followToMove_13 (by decide) (fun c_4 => ?_) (fun c_4 => ?_)
    · refine lv_aload_n hx hb d_SF_followToMove_18 rfl (lv_at hl 0 rfl) ?_
      refine lv_iload_n hx hb d_SF_followToMove_19 rfl (lv_at hl 1 rfl) ?_
      refine sf_callVw (S := ((Nat → Int32) × Int32 × Int32 × Int32 × Int32)) (rest := []) ⟨hx, hb, hml, hown, hts⟩ (c_SF_followRow l D cI cZ cJ q fl sl tb np nt cp cc cb ch cm mp mc mb mh mm us ta tp tl cu bl pf sh ro) (sf_cwV lk_SF_148 hts (fun _ h => h) (by rw [hR]; exact ⟨Nat.le_of_ble_eq_true rfl, Nat.le_of_ble_eq_true rfl⟩)) hK hP hD hS hA (fun _ => by simp only [sf_w_fst]) (ci := 2) (q0 := 0) rfl rfl rfl rfl rfl hl.1 (Nat.le_of_ble_eq_true rfl) d_SF_followToMove_20 ⟨Nat.zero_le _, Nat.zero_le _⟩ (fun u_5 H locs hu_5 hP hD hS => ?_)
      have hP : va_P D classes (sf_w q cI cZ fl sl tb np nt u_5.1 u_5.2.1 u_5.2.2.1 u_5.2.2.2.1 u_5.2.2.2.2 mp mc mb mh mm us ta tp tl cu bl pf sh) H := hP
      have hD : va_D A (sf_w q cI cZ fl sl tb np nt u_5.1 u_5.2.1 u_5.2.2.1 u_5.2.2.2.1 u_5.2.2.2.2 mp mc mb mh mm us ta tp tl cu bl pf sh) := hD
      refine lv_aload_n hx hb d_SF_followToMove_23 rfl (lv_at hl 0 rfl) ?_
      refine va_get (D := D) (ci := 2) (v := .ref (q 11)) (C := R_SF) (T := F_SF) (N := 15) hx hb hts i_SF hown hK hP 0 rfl rfl 5 (by decide) (hts _ wd_114) (fun _ h9 => h9) rfl d_SF_followToMove_24 ?_
      refine sf_callVr (S := Int32) (rest := []) ⟨hx, hb, hml, hown, hts⟩ (c_Ch_monthOrNone l D cI cZ cJ (q 11) (q 12) u_5.1 u_5.2.1 u_5.2.2.1 u_5.2.2.2.1 u_5.2.2.2.2) (sf_cwV lk_SF_170 hts (fun _ h => h) (by rw [hR]; exact ⟨Nat.le_of_ble_eq_true rfl, Nat.le_of_ble_eq_true rfl⟩)) hK hP hD hS hA [11, 12] rfl rfl (fun _ => rfl) (ci := 1) (q0 := 0) rfl rfl rfl rfl rfl hl.1 (Nat.le_of_ble_eq_true rfl) d_SF_followToMove_27 ⟨Nat.zero_le _, Nat.zero_le _⟩ (fun u_6 H locs hu_6 hP hS => ?_)
      refine lv_iload_n hx hb d_SF_followToMove_30 rfl (lv_at hl 2 rfl) ?_
      refine lv_icmp_ne (tgt := 38) hx hb d_SF_followToMove_31 (by decide) (fun c_7 => ?_) (fun c_7 => ?_)
      · refine lv_iconst (v := 0) hx hb d_SF_followToMove_38 (by decide) ?_
        rw [hQ]
        exact sf_iret (0, u_5.1, u_5.2.1, u_5.2.2.1, u_5.2.2.2.1, u_5.2.2.2.2) hx hb hr hlk hS sf_b0 rfl (by simp only [f_SF_followToMove, ← hu_1, ← hu_3, ← hu_5, ← hu_6, eq_false c_2, eq_true c_4, eq_false c_7, ↓reduceIte]) hP d_SF_followToMove_39
      · refine lv_iconst (v := 1) hx hb d_SF_followToMove_34 (by decide) ?_
        refine lv_goto (tgt := 39) hx hb d_SF_followToMove_35 (by decide) ?_
        rw [hQ]
        exact sf_iret (1, u_5.1, u_5.2.1, u_5.2.2.1, u_5.2.2.2.1, u_5.2.2.2.2) hx hb hr hlk hS sf_b1 rfl (by simp only [f_SF_followToMove, ← hu_1, ← hu_3, ← hu_5, ← hu_6, eq_false c_2, eq_true c_4, eq_true c_7, ↓reduceIte]) hP d_SF_followToMove_39
    · refine lv_iconst (v := 0) hx hb d_SF_followToMove_16 (by decide) ?_
      rw [hQ]
      exact sf_iret (0, cp, cc, cb, ch, cm) hx hb hr hlk hS sf_b0 rfl (by simp only [f_SF_followToMove, ← hu_1, ← hu_3, eq_false c_2, eq_false c_4, ↓reduceIte]) hP d_SF_followToMove_17
def f_SF_moveFollowed_l13 (fl : Nat → Int32) (tb : Nat → Int32) (nt : Nat → Int32) (cp : Nat → Int32) (cc : Int32) (ta : Nat → Int32) (cu : Int32) (sh : Int32) (ro : Int32) : Nat → Nat → (Nat → Int32) → (Nat → Int32) → Int32 → (Int32 × (Nat → Int32) × (Nat → Int32) × (Nat → Int32) × (Nat → Int32) × Int32 × Int32 × Int32 × Int32)
  | 0, _, _, _, _ => (0, (fun _ => 0), (fun _ => 0), (fun _ => 0), (fun _ => 0), 0, 0, 0, 0)
  | fu + 1, k, vn, vs, vb =>
    if cc ≤ (nI k) then
      ((f_SF_endWriting (f_SF_beginWriting cu cc).2.2 sh).1, vs, (f_SF_putTable tb nt vb ro 0 ((f_SF_takenAt ta 0) + 1)).2.1, vn, (f_SF_putTable tb nt vb ro 0 ((f_SF_takenAt ta 0) + 1)).1, (f_SF_beginWriting cu cc).1, (f_SF_putTable tb nt vb ro 0 ((f_SF_takenAt ta 0) + 1)).2.2, (f_SF_beginWriting cu cc).2.2, (f_SF_endWriting (f_SF_beginWriting cu cc).2.2 sh).2)
    else
      f_SF_moveFollowed_l13 fl tb nt cp cc ta cu sh ro fu (k + 1) (f_SF_putPlace_s vs (f_SF_preparePlaceFromChain fl vn cp cc ta (nI k)) vb (f_SF_takenAt ta (nI k))).1 (f_SF_putPlace_s vs (f_SF_preparePlaceFromChain fl vn cp cc ta (nI k)) vb (f_SF_takenAt ta (nI k))).2.1 (f_SF_putPlace_s vs (f_SF_preparePlaceFromChain fl vn cp cc ta (nI k)) vb (f_SF_takenAt ta (nI k))).2.2
def f_SF_moveFollowed (fl : Nat → Int32) (sl : Nat → Int32) (tb : Nat → Int32) (np : Nat → Int32) (nt : Nat → Int32) (cp : Nat → Int32) (cc : Int32) (ta : Nat → Int32) (cu : Int32) (sh : Int32) (ro : Int32) : (Int32 × (Nat → Int32) × (Nat → Int32) × (Nat → Int32) × (Nat → Int32) × Int32 × Int32 × Int32 × Int32) :=
  f_SF_moveFollowed_l13 fl tb nt cp cc ta cu sh ro (cc.toNatClampNeg + 1) 0 np sl (f_SF_beginWriting cu cc).2.1
set_option maxHeartbeats 1000000 in
set_option maxRecDepth 100000 in
/-- moveFollowed -/
theorem c_SF_moveFollowed (l : Launch) (D : va_G) (cI cZ cJ : ClassId) (q : Nat → Nat) (fl : Nat → Int32) (sl : Nat → Int32) (tb : Nat → Int32) (np : Nat → Int32) (nt : Nat → Int32) (cp : Nat → Int32) (cc : Int32) (cb : Int32) (ch : Int32) (cm : Int32) (mp : Nat → Int32) (mc : Int32) (mb : Int32) (mh : Int32) (mm : Int32) (us : Nat → Int32) (ta : Nat → Int32) (tp : Nat → Int32) (tl : Int32) (cu : Int32) (bl : Int32) (pf : Int32) (sh : Int32) (ro : Int32) : sf_M (S := (Int32 × (Nat → Int32) × (Nat → Int32) × (Nat → Int32) × (Nat → Int32) × Int32 × Int32 × Int32 × Int32)) l D classes (sf_tys cI cZ cJ) y_SF_moveFollowed (sf_ws y_SF_moveFollowed b_SF_moveFollowed 3 (some .boolean)) 5 118 [.ref (q 0), .int ro] (sf_w q cI cZ fl sl tb np nt cp cc cb ch cm mp mc mb mh mm us ta tp tl cu bl pf sh) (fun r => some (.int r.1)) (fun r => r = f_SF_moveFollowed fl sl tb np nt cp cc ta cu sh ro) (fun r => (sf_w q cI cZ fl r.2.1 r.2.2.1 r.2.2.2.1 r.2.2.2.2.1 cp cc cb ch cm mp mc mb mh mm us ta tp tl r.2.2.2.2.2.1 r.2.2.2.2.2.2.1 r.2.2.2.2.2.2.2.1 r.2.2.2.2.2.2.2.2)) := by
  refine sf_ofW (S := (Int32 × (Nat → Int32) × (Nat → Int32) × (Nat → Int32) × (Nat → Int32) × Int32 × Int32 × Int32 × Int32)) (by decide) (Nat.le_of_ble_eq_true rfl) ?_
  intro p e s m below meth c A ls R args Q hR hArgs hQ hC0 hr hK hP hD hl
  obtain ⟨hx, hb, hml, hown, hts, hA, hlk⟩ := hC0
  have hS : va_S A s.heap s.heap [] := va_S.rf
  have hl : lv_has ls 3 [(0, .ref (q 0)), (1, .int ro)] := hl
  have hcl := sf_clt cc
  refine lv_aload_n hx hb d_SF_moveFollowed_0 rfl (lv_at hl 0 rfl) ?_
  refine lv_aload_n hx hb d_SF_moveFollowed_1 rfl (lv_at hl 0 rfl) ?_
  refine va_get (D := D) (ci := 2) (v := .ref (q 11)) (C := R_SF) (T := F_SF) (N := 15) hx hb hts i_SF hown hK hP 0 rfl rfl 5 (by decide) (hts _ wd_114) (fun _ h9 => h9) rfl d_SF_moveFollowed_2 ?_
  refine va_get (D := D) (ci := 1) (v := .int cc) (C := R_Ch) (T := F_Ch) (N := 5) hx hb hts i_Ch hown hK hP 11 rfl rfl 1 (by decide) (hts _ wd_94) (fun _ h9 => h9) rfl d_SF_moveFollowed_5 ?_
  refine sf_callVw (S := (Int32 × Int32 × Int32)) (rest := []) ⟨hx, hb, hml, hown, hts⟩ (c_SF_beginWriting l D cI cZ cJ q fl sl tb np nt cp cc cb ch cm mp mc mb mh mm us ta tp tl cu bl pf sh cc) (sf_cwV lk_SF_103 hts (fun _ h => h) (by rw [hR]; exact ⟨Nat.le_of_ble_eq_true rfl, Nat.le_of_ble_eq_true rfl⟩)) hK hP hD hS hA (fun _ => by simp only [sf_w_fst]) (ci := 2) (q0 := 0) rfl rfl rfl rfl rfl hl.1 (Nat.le_of_ble_eq_true rfl) d_SF_moveFollowed_8 ⟨Nat.zero_le _, Nat.zero_le _⟩ (fun u_1 H locs hu_1 hP hD hS => ?_)
  have hP : va_P D classes (sf_w q cI cZ fl sl tb np nt cp cc cb ch cm mp mc mb mh mm us ta tp tl u_1.1 u_1.2.1 u_1.2.2 sh) H := hP
  have hD : va_D A (sf_w q cI cZ fl sl tb np nt cp cc cb ch cm mp mc mb mh mm us ta tp tl u_1.1 u_1.2.1 u_1.2.2 sh) := hD
  refine lv_iconst (v := 0) hx hb d_SF_moveFollowed_11 (by decide) ?_
  refine lv_istore_n (lv' := [(2, .int 0), (0, .ref (q 0)), (1, .int ro)]) hx hb d_SF_moveFollowed_12 rfl hl (by decide) rfl (fun ls hl => ?_)
  have loop13 : ∀ (fu k : Nat) (vn : (Nat → Int32)) (vs : (Nat → Int32)) (vb : Int32), k ≤ cc.toNatClampNeg → k + fu = cc.toNatClampNeg + 1 → f_SF_moveFollowed_l13 fl tb nt cp cc ta cu sh ro fu k vn vs vb = f_SF_moveFollowed fl sl tb np nt cp cc ta cu sh ro → ∀ (H : Heap) (locs : List Loc), va_P D classes (sf_w q cI cZ fl vs tb vn nt cp cc cb ch cm mp mc mb mh mm us ta tp tl u_1.1 vb u_1.2.2 sh) H → va_D A (sf_w q cI cZ fl vs tb vn nt cp cc cb ch cm mp mc mb mh mm us ta tp tl u_1.1 vb u_1.2.2 sh) → va_S A s.heap H locs → ∀ (ls : Array Slot), lv_has ls 3 [(0, .ref (q 0)), (1, .int ro), (2, .int (nI k))] → W p l e R s m args below meth c H locs 0 0 Q (F0 m 13 ls []) := by
    intro fu
    induction fu with
    | zero =>
      intro k vn vs vb h1 h2
      exact absurd h2 (by omega)
    | succ fu ih13 =>
      intro k vn vs vb hk13 hkn13 heq13 H locs hP hD hS ls hl
      have hcl := sf_clt cc
      refine lv_iload_n hx hb d_SF_moveFollowed_13 rfl (lv_at hl 2 rfl) ?_
      refine lv_aload_n hx hb d_SF_moveFollowed_14 rfl (lv_at hl 0 rfl) ?_
      refine va_get (D := D) (ci := 2) (v := .ref (q 11)) (C := R_SF) (T := F_SF) (N := 15) hx hb hts i_SF hown hK hP 0 rfl rfl 5 (by decide) (hts _ wd_114) (fun _ h9 => h9) rfl d_SF_moveFollowed_15 ?_
      refine va_get (D := D) (ci := 1) (v := .int cc) (C := R_Ch) (T := F_Ch) (N := 5) hx hb hts i_Ch hown hK hP 11 rfl rfl 1 (by decide) (hts _ wd_94) (fun _ h9 => h9) rfl d_SF_moveFollowed_18 ?_
      refine lv_icmp_ge (tgt := 48) hx hb d_SF_moveFollowed_21 (by decide) (fun c_2 => ?_) (fun c_2 => ?_)
      · refine lv_aload_n hx hb d_SF_moveFollowed_48 rfl (lv_at hl 0 rfl) ?_
        refine lv_iload_n hx hb d_SF_moveFollowed_49 rfl (lv_at hl 1 rfl) ?_
        refine lv_iconst (v := 0) hx hb d_SF_moveFollowed_50 (by decide) ?_
        refine lv_aload_n hx hb d_SF_moveFollowed_51 rfl (lv_at hl 0 rfl) ?_
        refine lv_iconst (v := 0) hx hb d_SF_moveFollowed_52 (by decide) ?_
        refine sf_callVw (S := Int32) (rest := [.int 0, .int ro, .ref (q 0)]) ⟨hx, hb, hml, hown, hts⟩ (c_SF_takenAt l D cI cZ cJ q fl vs tb vn nt cp cc cb ch cm mp mc mb mh mm us ta tp tl u_1.1 vb u_1.2.2 sh 0) (sf_cwV lk_SF_110 hts (fun _ h => h) (by rw [hR]; exact ⟨Nat.le_of_ble_eq_true rfl, Nat.le_of_ble_eq_true rfl⟩)) hK hP hD hS hA (fun _ => by simp only [sf_w_fst]) (ci := 2) (q0 := 0) rfl rfl rfl rfl rfl hl.1 (Nat.le_of_ble_eq_true rfl) d_SF_moveFollowed_53 ⟨Nat.zero_le _, Nat.zero_le _⟩ (fun u_3 H locs hu_3 hP hD hS => ?_)
        have hP : va_P D classes (sf_w q cI cZ fl vs tb vn nt cp cc cb ch cm mp mc mb mh mm us ta tp tl u_1.1 vb u_1.2.2 sh) H := hP
        have hD : va_D A (sf_w q cI cZ fl vs tb vn nt cp cc cb ch cm mp mc mb mh mm us ta tp tl u_1.1 vb u_1.2.2 sh) := hD
        refine lv_iconst (v := 1) hx hb d_SF_moveFollowed_56 (by decide) ?_
        refine lv_iadd hx hb d_SF_moveFollowed_57 ?_
        refine sf_callVw (S := ((Nat → Int32) × (Nat → Int32) × Int32)) (rest := []) ⟨hx, hb, hml, hown, hts⟩ (c_SF_putTable l D cI cZ cJ q fl vs tb vn nt cp cc cb ch cm mp mc mb mh mm us ta tp tl u_1.1 vb u_1.2.2 sh ro 0 (u_3 + 1)) (sf_cwV lk_SF_118 hts (fun _ h => h) (by rw [hR]; exact ⟨Nat.le_of_ble_eq_true rfl, Nat.le_of_ble_eq_true rfl⟩)) hK hP hD hS hA (fun _ => by simp only [sf_w_fst]) (ci := 2) (q0 := 0) rfl rfl rfl rfl rfl hl.1 (Nat.le_of_ble_eq_true rfl) d_SF_moveFollowed_58 ⟨Nat.zero_le _, Nat.zero_le _⟩ (fun u_4 H locs hu_4 hP hD hS => ?_)
        have hP : va_P D classes (sf_w q cI cZ fl vs u_4.2.1 vn u_4.1 cp cc cb ch cm mp mc mb mh mm us ta tp tl u_1.1 u_4.2.2 u_1.2.2 sh) H := hP
        have hD : va_D A (sf_w q cI cZ fl vs u_4.2.1 vn u_4.1 cp cc cb ch cm mp mc mb mh mm us ta tp tl u_1.1 u_4.2.2 u_1.2.2 sh) := hD
        refine lv_aload_n hx hb d_SF_moveFollowed_61 rfl (lv_at hl 0 rfl) ?_
        refine sf_callVw (S := (Int32 × Int32)) (rest := []) ⟨hx, hb, hml, hown, hts⟩ (c_SF_endWriting l D cI cZ cJ q fl vs u_4.2.1 vn u_4.1 cp cc cb ch cm mp mc mb mh mm us ta tp tl u_1.1 u_4.2.2 u_1.2.2 sh) (sf_cwV lk_SF_121 hts (fun _ h => h) (by rw [hR]; exact ⟨Nat.le_of_ble_eq_true rfl, Nat.le_of_ble_eq_true rfl⟩)) hK hP hD hS hA (fun _ => by simp only [sf_w_fst]) (ci := 2) (q0 := 0) rfl rfl rfl rfl rfl hl.1 (Nat.le_of_ble_eq_true rfl) d_SF_moveFollowed_62 ⟨Nat.zero_le _, Nat.zero_le _⟩ (fun u_5 H locs hu_5 hP hD hS => ?_)
        have hP : va_P D classes (sf_w q cI cZ fl vs u_4.2.1 vn u_4.1 cp cc cb ch cm mp mc mb mh mm us ta tp tl u_1.1 u_4.2.2 u_1.2.2 u_5.2) H := hP
        have hD : va_D A (sf_w q cI cZ fl vs u_4.2.1 vn u_4.1 cp cc cb ch cm mp mc mb mh mm us ta tp tl u_1.1 u_4.2.2 u_1.2.2 u_5.2) := hD
        rw [hQ]
        exact sf_iret (u_5.1, vs, u_4.2.1, vn, u_4.1, u_1.1, u_4.2.2, u_1.2.2, u_5.2) hx hb hr hlk hS (sf_nb (by rw [hu_5]; exact f_SF_endWriting_b _ _)) rfl (by rw [← heq13]; simp only [f_SF_moveFollowed_l13, ← hu_1, ← hu_3, ← hu_4, ← hu_5, eq_true c_2, ↓reduceIte]) hP d_SF_moveFollowed_65
      · have hlt : k < cc.toNatClampNeg := sf_ltc (by omega) c_2
        refine lv_aload_n hx hb d_SF_moveFollowed_24 rfl (lv_at hl 0 rfl) ?_
        refine lv_iload_n hx hb d_SF_moveFollowed_25 rfl (lv_at hl 2 rfl) ?_
        refine sf_callVw (S := (Nat → Int32)) (rest := []) ⟨hx, hb, hml, hown, hts⟩ (c_SF_preparePlaceFromChain l D cI cZ cJ q fl vs tb vn nt cp cc cb ch cm mp mc mb mh mm us ta tp tl u_1.1 vb u_1.2.2 sh (nI k)) (sf_cwV lk_SF_275 hts (fun _ h => h) (by rw [hR]; exact ⟨Nat.le_of_ble_eq_true rfl, Nat.le_of_ble_eq_true rfl⟩)) hK hP hD hS hA (fun _ => by simp only [sf_w_fst]) (ci := 2) (q0 := 0) rfl rfl rfl rfl rfl hl.1 (Nat.le_of_ble_eq_true rfl) d_SF_moveFollowed_26 ⟨Nat.zero_le _, Nat.zero_le _⟩ (fun u_6 H locs hu_6 hP hD hS => ?_)
        have hP : va_P D classes (sf_w q cI cZ fl vs tb u_6 nt cp cc cb ch cm mp mc mb mh mm us ta tp tl u_1.1 vb u_1.2.2 sh) H := hP
        have hD : va_D A (sf_w q cI cZ fl vs tb u_6 nt cp cc cb ch cm mp mc mb mh mm us ta tp tl u_1.1 vb u_1.2.2 sh) := hD
        refine lv_aload_n hx hb d_SF_moveFollowed_29 rfl (lv_at hl 0 rfl) ?_
        refine lv_aload_n hx hb d_SF_moveFollowed_30 rfl (lv_at hl 0 rfl) ?_
        refine va_get (D := D) (ci := 2) (v := .ref (q 3)) (C := R_SF) (T := F_SF) (N := 15) hx hb hts i_SF hown hK hP 0 rfl rfl 1 (by decide) (hts _ wd_110) (fun _ h9 => h9) rfl d_SF_moveFollowed_31 ?_
        refine lv_aload_n hx hb d_SF_moveFollowed_34 rfl (lv_at hl 0 rfl) ?_
        refine lv_iload_n hx hb d_SF_moveFollowed_35 rfl (lv_at hl 2 rfl) ?_
        refine sf_callVw (S := Int32) (rest := [.ref (q 3), .ref (q 0)]) ⟨hx, hb, hml, hown, hts⟩ (c_SF_takenAt l D cI cZ cJ q fl vs tb u_6 nt cp cc cb ch cm mp mc mb mh mm us ta tp tl u_1.1 vb u_1.2.2 sh (nI k)) (sf_cwV lk_SF_110 hts (fun _ h => h) (by rw [hR]; exact ⟨Nat.le_of_ble_eq_true rfl, Nat.le_of_ble_eq_true rfl⟩)) hK hP hD hS hA (fun _ => by simp only [sf_w_fst]) (ci := 2) (q0 := 0) rfl rfl rfl rfl rfl hl.1 (Nat.le_of_ble_eq_true rfl) d_SF_moveFollowed_36 ⟨Nat.zero_le _, Nat.zero_le _⟩ (fun u_7 H locs hu_7 hP hD hS => ?_)
        have hP : va_P D classes (sf_w q cI cZ fl vs tb u_6 nt cp cc cb ch cm mp mc mb mh mm us ta tp tl u_1.1 vb u_1.2.2 sh) H := hP
        have hD : va_D A (sf_w q cI cZ fl vs tb u_6 nt cp cc cb ch cm mp mc mb mh mm us ta tp tl u_1.1 vb u_1.2.2 sh) := hD
        refine sf_callVw (S := ((Nat → Int32) × (Nat → Int32) × Int32)) (rest := []) ⟨hx, hb, hml, hown, hts⟩ (c_SF_putPlace_s l D cI cZ cJ q fl vs tb u_6 nt cp cc cb ch cm mp mc mb mh mm us ta tp tl u_1.1 vb u_1.2.2 sh u_7) (sf_cwV lk_SF_114 hts (fun _ h => h) (by rw [hR]; exact ⟨Nat.le_of_ble_eq_true rfl, Nat.le_of_ble_eq_true rfl⟩)) hK hP hD hS hA (fun _ => by simp only [sf_w_fst]) (ci := 2) (q0 := 0) rfl rfl rfl rfl rfl hl.1 (Nat.le_of_ble_eq_true rfl) d_SF_moveFollowed_39 ⟨Nat.zero_le _, Nat.zero_le _⟩ (fun u_8 H locs hu_8 hP hD hS => ?_)
        have hP : va_P D classes (sf_w q cI cZ fl u_8.2.1 tb u_8.1 nt cp cc cb ch cm mp mc mb mh mm us ta tp tl u_1.1 u_8.2.2 u_1.2.2 sh) H := hP
        have hD : va_D A (sf_w q cI cZ fl u_8.2.1 tb u_8.1 nt cp cc cb ch cm mp mc mb mh mm us ta tp tl u_1.1 u_8.2.2 u_1.2.2 sh) := hD
        refine lv_iinc (v := (nI (k + 1))) (lv' := [(2, .int (nI (k + 1))), (0, .ref (q 0)), (1, .int ro)]) hx hb d_SF_moveFollowed_42 hl (k := 2) rfl (nI_1 k) (by decide) rfl (fun ls hl => ?_)
        refine lv_goto (tgt := 13) hx hb d_SF_moveFollowed_45 (by decide) ?_
        exact ih13 (k + 1) u_8.1 u_8.2.1 u_8.2.2 (by omega) (by omega) (by rw [← heq13]; simp only [f_SF_moveFollowed_l13, ← hu_1, ← hu_6, ← hu_7, ← hu_8, eq_false c_2, ↓reduceIte]) _ _ hP hD hS ls (lv_sub hl [1, 2, 0] rfl)
  exact loop13 (cc.toNatClampNeg + 1) 0 np sl u_1.2.1 (by omega) (by omega) (by simp only [f_SF_moveFollowed, ← hu_1, ↓reduceIte]) _ _ hP hD hS ls (lv_sub hl [1, 2, 0] rfl)
def f_SF_open_l9 (tb : Nat → Int32) : Nat → Nat → Int32 → (Int32 × Int32)
  | 0, _, _ => (0, 0)
  | fu + 1, k, vr =>
    if 12 ≤ (nI k) then
      (vr, 0)
    else
      if (f_SF_isThere tb (nI k)) = 0 then
        f_SF_open_l9 tb fu (k + 1) vr
      else
        f_SF_open_l9 tb fu (k + 1) (vr + 1)
def f_SF_open (tb : Nat → Int32) : (Int32 × Int32) :=
  f_SF_open_l9 tb (12 + 1) 0 0
set_option maxHeartbeats 1000000 in
set_option maxRecDepth 100000 in
/-- open -/
theorem c_SF_open (l : Launch) (D : va_G) (cI cZ cJ : ClassId) (q : Nat → Nat) (fl : Nat → Int32) (sl : Nat → Int32) (tb : Nat → Int32) (np : Nat → Int32) (nt : Nat → Int32) (cp : Nat → Int32) (cc : Int32) (cb : Int32) (ch : Int32) (cm : Int32) (mp : Nat → Int32) (mc : Int32) (mb : Int32) (mh : Int32) (mm : Int32) (us : Nat → Int32) (ta : Nat → Int32) (tp : Nat → Int32) (tl : Int32) (cu : Int32) (bl : Int32) (pf : Int32) (sh : Int32) : sf_M (S := (Int32 × Int32)) l D classes (sf_tys cI cZ cJ) y_SF_open (sf_ws y_SF_open b_SF_open 3 (some .int)) 5 115 [.ref (q 0)] (sf_w q cI cZ fl sl tb np nt cp cc cb ch cm mp mc mb mh mm us ta tp tl cu bl pf sh) (fun r => some (.int r.1)) (fun r => r = f_SF_open tb) (fun r => (sf_w q cI cZ fl sl tb np nt cp cc cb ch cm mp mc mb mh mm us ta tp tl cu bl pf r.2)) := by
  refine sf_ofW (S := (Int32 × Int32)) (by decide) (Nat.le_of_ble_eq_true rfl) ?_
  intro p e s m below meth c A ls R args Q hR hArgs hQ hC0 hr hK hP hD hl
  obtain ⟨hx, hb, hml, hown, hts, hA, hlk⟩ := hC0
  have hS : va_S A s.heap s.heap [] := va_S.rf
  have hl : lv_has ls 3 [(0, .ref (q 0))] := hl
  refine lv_aload_n hx hb d_SF_open_0 rfl (lv_at hl 0 rfl) ?_
  refine lv_iconst (v := 0) hx hb d_SF_open_1 (by decide) ?_
  refine va_put (D := D) (ci := 2) (v := .int 0) (ty := .boolean) (C := R_SF) (T := F_SF) (N := 15) hx hb hts i_SF t_SF t_SF_ok n_SF hown hK hP hD hS 0 rfl rfl 14 (by decide) (hts _ wd_123) (fun _ h9 => h9) rfl (by decide +kernel) (sf_bp0).1 (sf_bp0).2 (Nat.le_of_ble_eq_true rfl) d_SF_open_2 (fun H locs hP hD hS => ?_)
  have hP : va_P D classes (sf_w q cI cZ fl sl tb np nt cp cc cb ch cm mp mc mb mh mm us ta tp tl cu bl pf 0) H := hP
  have hD : va_D A (sf_w q cI cZ fl sl tb np nt cp cc cb ch cm mp mc mb mh mm us ta tp tl cu bl pf 0) := hD
  refine lv_iconst (v := 0) hx hb d_SF_open_5 (by decide) ?_
  refine lv_istore_n (lv' := [(1, .int 0), (0, .ref (q 0))]) hx hb d_SF_open_6 rfl hl (by decide) rfl (fun ls hl => ?_)
  refine lv_iconst (v := 0) hx hb d_SF_open_7 (by decide) ?_
  refine lv_istore_n (lv' := [(2, .int 0), (1, .int 0), (0, .ref (q 0))]) hx hb d_SF_open_8 rfl hl (by decide) rfl (fun ls hl => ?_)
  have loop9 : ∀ (fu k : Nat) (vr : Int32), k ≤ 12 → k + fu = 12 + 1 → f_SF_open_l9 tb fu k vr = f_SF_open tb → ∀ (H : Heap) (locs : List Loc), va_P D classes (sf_w q cI cZ fl sl tb np nt cp cc cb ch cm mp mc mb mh mm us ta tp tl cu bl pf 0) H → va_D A (sf_w q cI cZ fl sl tb np nt cp cc cb ch cm mp mc mb mh mm us ta tp tl cu bl pf 0) → va_S A s.heap H locs → ∀ (ls : Array Slot), lv_has ls 3 [(0, .ref (q 0)), (1, .int vr), (2, .int (nI k))] → W p l e R s m args below meth c H locs 0 0 Q (F0 m 9 ls []) := by
    intro fu
    induction fu with
    | zero =>
      intro k vr h1 h2
      exact absurd h2 (by omega)
    | succ fu ih9 =>
      intro k vr hk9 hkn9 heq9 H locs hP hD hS ls hl
      refine lv_iload_n hx hb d_SF_open_9 rfl (lv_at hl 2 rfl) ?_
      refine lv_bipush (v := 12) hx hb d_SF_open_10 (by decide) ?_
      refine lv_icmp_ge (tgt := 32) hx hb d_SF_open_12 (by decide) (fun c_1 => ?_) (fun c_1 => ?_)
      · refine lv_iload_n hx hb d_SF_open_32 rfl (lv_at hl 1 rfl) ?_
        rw [hQ]
        exact sf_iret (vr, 0) hx hb hr hlk hS rfl rfl (by rw [← heq9]; simp only [f_SF_open_l9, eq_true c_1, ↓reduceIte]) hP d_SF_open_33
      · have hlt : k < 12 := sf_lt_of (N := 12) (by omega) (by omega) c_1
        refine lv_aload_n hx hb d_SF_open_15 rfl (lv_at hl 0 rfl) ?_
        refine lv_iload_n hx hb d_SF_open_16 rfl (lv_at hl 2 rfl) ?_
        refine sf_callVw (S := Int32) (rest := []) ⟨hx, hb, hml, hown, hts⟩ (c_SF_isThere l D cI cZ cJ q fl sl tb np nt cp cc cb ch cm mp mc mb mh mm us ta tp tl cu bl pf 0 (nI k)) (sf_cwV lk_SF_125 hts (fun _ h => h) (by rw [hR]; exact ⟨Nat.le_of_ble_eq_true rfl, Nat.le_of_ble_eq_true rfl⟩)) hK hP hD hS hA (fun _ => by simp only [sf_w_fst]) (ci := 2) (q0 := 0) rfl rfl rfl rfl rfl hl.1 (Nat.le_of_ble_eq_true rfl) d_SF_open_17 ⟨Nat.zero_le _, Nat.zero_le _⟩ (fun u_2 H locs hu_2 hP hD hS => ?_)
        have hP : va_P D classes (sf_w q cI cZ fl sl tb np nt cp cc cb ch cm mp mc mb mh mm us ta tp tl cu bl pf 0) H := hP
        have hD : va_D A (sf_w q cI cZ fl sl tb np nt cp cc cb ch cm mp mc mb mh mm us ta tp tl cu bl pf 0) := hD
        refine lv_if_eq (tgt := 26) hx hb d_SF_open_20 (by decide) (fun c_3 => ?_) (fun c_3 => ?_)
        · refine lv_iinc (v := (nI (k + 1))) (lv' := [(2, .int (nI (k + 1))), (0, .ref (q 0)), (1, .int vr)]) hx hb d_SF_open_26 hl (k := 2) rfl (nI_1 k) (by decide) rfl (fun ls hl => ?_)
          refine lv_goto (tgt := 9) hx hb d_SF_open_29 (by decide) ?_
          exact ih9 (k + 1) vr (by omega) (by omega) (by rw [← heq9]; simp only [f_SF_open_l9, ← hu_2, eq_false c_1, eq_true c_3, ↓reduceIte]) _ _ hP hD hS ls (lv_sub hl [1, 2, 0] rfl)
        · refine lv_iinc (v := (vr + 1)) (lv' := [(1, .int (vr + 1)), (0, .ref (q 0)), (2, .int (nI k))]) hx hb d_SF_open_23 hl (k := 1) rfl rfl (by decide) rfl (fun ls hl => ?_)
          refine lv_iinc (v := (nI (k + 1))) (lv' := [(2, .int (nI (k + 1))), (1, .int (vr + 1)), (0, .ref (q 0))]) hx hb d_SF_open_26 hl (k := 2) rfl (nI_1 k) (by decide) rfl (fun ls hl => ?_)
          refine lv_goto (tgt := 9) hx hb d_SF_open_29 (by decide) ?_
          exact ih9 (k + 1) (vr + 1) (by omega) (by omega) (by rw [← heq9]; simp only [f_SF_open_l9, ← hu_2, eq_false c_1, eq_false c_3, ↓reduceIte]) _ _ hP hD hS ls (lv_sub hl [2, 1, 0] rfl)
  exact loop9 (12 + 1) 0 0 (by omega) (by omega) (by simp only [f_SF_open, ↓reduceIte]) _ _ hP hD hS ls (lv_sub hl [2, 1, 0] rfl)
end
section
/-! ===== BEGIN exceptions that leave a method, and their catching by the caller (launches without stack traces) ===== -/
section VXA
/-! The laws vx_back, vx_callV, vx_callS, vx_callSW, vx_throw0, vx_throwS follow proofs of the library, with one case more: JvmDerived/Free/Laws.lean (Back.of_free), Shelf42/LK1.lean (callV, callS), Shelf/KitTraced.lean (throwNew0V, throwNewS). -/
/-- where a method has thrown q: the class by its name, the cell, what was written, the world -/
def vx_T (XC : String → State → State → Prop) (st : State) (q : Addr) (t : State) (mc ms : Nat) (free : Addr → Prop) : Prop :=
  ∃ (E : String) (ce : Cell) (L : List Loc), XC E st t ∧ t.heap[q]? = some ce ∧ ce.vm = .none ∧ st.vm.findClass E = some ce.cls ∧ st.WarmedH t.vm ∧ st.sameButNew ({ t with vm := st.vm } : State) L mc ms ∧ ∀ z ∈ L, free z.base
def vx_Q (Qc : Array Value → State → Outcome → State → Prop) (XC : String → State → State → Prop) (mc ms : Nat) (free : Addr → Prop) : Array Value → State → Outcome → State → Prop := fun a st o t =>
  (Qc a st o t ∧ ∃ L, FrameEnd st o t L mc ms ∧ ∀ q ∈ L, free q.base) ∨ ∃ q, o = .threw q ∧ vx_T XC st q t mc ms free
/-- a callee that returns or throws -/
def vx_Met (l : Launch) (y : MethodName) (ws : List Cond) (rm : Room) (Pc : Array Value → State → Prop) (Qc : Array Value → State → Outcome → State → Prop) (XC : String → State → State → Prop) (mc ms : Nat) (free : Addr → Prop) : Prop :=
  MetFree l y (headSpec ws rm) Pc (fun _ _ _ _ _ => True) (vx_Q Qc XC mc ms free)
def vx_Post (XC : String → State → State → Prop) (mc ms : Nat) (free : Addr → Prop) : Pt → Array Value → Addr → Pt → Prop := fun A a q B =>
  ∃ (g : JFrame) (mk : MethodId) (t : State) (L : List Loc) (E : String) (ce : Cell), B.U.heap = t.heap ∧ B.U.vm = t.vm ∧ XC E (A.U.calling g mk a) t ∧ t.heap[q]? = some ce ∧ ce.vm = .none ∧ A.U.vm.findClass E = some ce.cls ∧ B.locs = A.locs ++ L ∧ (∀ z ∈ L, free z.base) ∧ B.cells = A.cells + mc ∧ B.slots = A.slots + ms
def vx_Back (l : Launch) (R : Room) (p : Program) (e : Env) (below : List Frame) (s : State) (sargs : Array Value) (y : MethodName) (len W9 : Nat)
    (Pre : Pt → Array Value → Prop) (Post : Pt → Array Value → Option Value → Pt → Prop) (PostX : Pt → Array Value → Addr → Pt → Prop) : Prop :=
  ∀ (m : MethodId) (meth : Method) (c : Code) (A : Pt) (g : JFrame) (ig : Instr) (mk : MethodId) (a : Array Value),
    Stand p l e R s m sargs below meth c A.U A.locs A.cells A.slots → g.method = m → g.locals.size = c.maxLocals → decode c.code g.pc = .ok (ig, len) →
    2 * g.monitorRoom + (g.stack.map fun v => v.category).sum ≤ W9 → A.U.methodNamed? y = some mk → Pre A a →
    (∃ (v : Option Value) (B : Pt), Stand p l e R s m sargs below meth c B.U B.locs B.cells B.slots ∧ Post A a v B ∧
      Steps p.tables e below (doInvoke e (A.U.setTop g) [] mk a).1 (B.U.setTop { g with pc := g.pc + len, stack := v.toList ++ g.stack })) ∨
    (∃ (q : Addr) (B : Pt), Stand p l e R s m sargs below meth c B.U B.locs B.cells B.slots ∧ PostX A a q B ∧
      Steps p.tables e below (doInvoke e (A.U.setTop g) [] mk a).1 ((B.U.setTop g).pushFrame (.throwing q)))
section Payer
variable {l : Launch} {R : Room} {p : Program} {e : Env} {below : List Frame} {s : State} {sargs : Array Value} {y : MethodName} {len W9 : Nat}
theorem vx_back {ws : List Cond} {rm : Room} {Pc : Array Value → State → Prop} {Qc : Array Value → State → Outcome → State → Prop} {XC : String → State → State → Prop} {mc ms : Nat} {free : Addr → Prop} {bytes : ByteArray} {maxL : Nat} {ret : Option FieldType}
    (hM : vx_Met l y ws rm Pc Qc XC mc ms free) (hblind : FrameBlind Pc) (hrc : rm.cells = mc) (hrs : rm.slots = ms)
    (hframes : rm.frames + 1 ≤ R.frames) (hlocals : W9 + (maxL + 11) + rm.locals ≤ R.locals)
    (hws : ∀ w ∈ ws, ∀ a' U, s.WarmedH U.vm → w.before a' U = true) (hcode : Cond.code y bytes maxL ret ∈ ws) (hinit : ∀ a' U, s.WarmedH U.vm → (Cond.initialized y.cls).before a' U = true) :
    vx_Back l R p e below s sargs y len W9 (PreOf R mc ms Pc) (PostOf Qc mc ms free) (vx_Post XC mc ms free) := by
  intro m meth c A g ig mk a X hg hsize hdg hW hn hp
  have h1 : (headSpec ws rm).pre.before a A.U = true := atoms_intro fun w hw => hws w hw _ _ X.warmed
  have h2 : (Cond.code y bytes maxL ret).before a A.U = true := hws _ hcode _ _ X.warmed
  have h3 : (Cond.initialized y.cls).before a A.U = true := hinit _ _ X.warmed
  have h4 : A.cells + (headSpec ws rm).room.cells ≤ R.cells := by rw [show (headSpec ws rm).room.cells = mc from hrc]; exact hp.1
  have h5 : A.slots + (headSpec ws rm).room.slots ≤ R.slots := by rw [show (headSpec ws rm).room.slots = ms from hrs]; exact hp.2.1
  have hPc : Pc a (A.U.calling g mk a) := hblind _ _ _ _ hp.2.2
  obtain ⟨U, Ls, c0, s0⟩ := A
  dsimp only [Pt.U, Pt.locs, Pt.cells, Pt.slots] at h1 h2 h3 h4 h5 X hn hPc ⊢
  obtain ⟨methY, cY, hmY, hcY, -, hlY, -, -, -, -⟩ := Cond.code_spec hn h2
  obtain ⟨kY, hkY, -⟩ := className_of_methodNamed hn
  have hinitY : kY.init = .initialized := Cond.initialized_spec (findClass_of_methodNamed hn) hkY h3
  have h : At U g.method c below := by rw [hg]; exact X.here
  have hlocals9 : W9 + (maxL + 11) + (headSpec ws rm).room.locals ≤ R.locals := hlocals
  have happ : (headSpec ws rm).appliesLoose y e.platform (U.calling g mk a) = true :=
    Spec.appliesLoose_calling (g := g) h hdg hn hkY hinitY
      (X.room_calling (g := g) (R' := (headSpec ws rm).room) hsize hmY hcY hframes (by rw [hlY]; omega) h4 h5) h1
  obtain ⟨mid, hmid⟩ := h.above
  have hfr : (U.setTop g).frames = (.java g :: mid) ++ below := by rw [State.frames_setTop' g h.top, hmid]; rfl
  obtain ⟨o, s₂, hsteps, -, hend, hq⟩ := Steps.callFree hM p X.admits X.cas X.clock (acts := []) hfr happ hPc trivial
  have hq' : vx_Q Qc XC mc ms free a (U.calling g mk a) o s₂ := hq
  rw [State.frames_setTop' g h.top] at hend
  obtain ⟨g₀, hg0⟩ := Option.isSome_iff_exists.mp h.top
  obtain ⟨r, hr⟩ := State.topJava?_eq_some.mp hg0
  have hr' : (({ U with heap := s₂.heap, slotsUsed := s₂.slotsUsed } : State).setVm s₂.vm).frames = .java g₀ :: r := hr
  rcases hq' with ⟨hqc, L, hfe, hL⟩ | ⟨q, rfl, E, ce, L, hx, hce, hcv, hcl, hW₂, hsm, hL⟩
  · obtain ⟨⟨v, rfl⟩, hW₂, e2, q2, q3, q4, q5, q6⟩ := id hfe
    have e3 : s₂ = ({ (U.calling g mk a).setFrames s₂.frames with heap := s₂.heap, slotsUsed := s₂.slotsUsed } : State).setVm s₂.vm := by
      have : s₂ = ({ s₂ with vm := (U.calling g mk a).vm } : State).setVm s₂.vm := rfl
      rw [e2] at this
      exact this
    obtain ⟨c₂, i₂, len₂, hc₂, hd₂, hf₂⟩ := hend
    have hW' : U.WarmedH s₂.vm := hW₂
    have hcc : c₂ = c := by
      have h1 : s₂.code? g.method = U.code? g.method := by
        rw [State.code?_eq, State.code?_eq, hW'.alike.method?]
      exact Option.some.inj (hc₂.symm.trans (h1.trans h.code))
    subst hcc
    have hlen : len₂ = len := by rw [hdg] at hd₂; cases hd₂; rfl
    subst hlen
    have hs₂ : s₂ = (({ U with heap := s₂.heap, slotsUsed := s₂.slotsUsed } : State).setVm s₂.vm).setTop { g with pc := g.pc + len₂, stack := v.toList ++ g.stack } := by
      refine e3.trans ?_
      rw [hf₂, State.calling_eq h.top, State.setFrames_setFrames, State.setTop_of_frames _ hr', hr]
      rfl
    have hsame : U.sameButNew ({ U with heap := s₂.heap, slotsUsed := s₂.slotsUsed } : State) L mc ms := by
      refine ⟨?_, q2, q3, q4, q5, q6⟩
      obtain ⟨t, ht, -⟩ := State.frames_cons hr
      show ({ U with heap := s₂.heap, slotsUsed := s₂.slotsUsed } : State) = { U.setFrames U.frames with heap := s₂.heap, slotsUsed := s₂.slotsUsed }
      rw [State.setFrames_self ht]
    subst hg
    refine Or.inl ⟨v, ⟨(({ U with heap := s₂.heap, slotsUsed := s₂.slotsUsed } : State).setVm s₂.vm), Ls ++ L, c0 + mc, s0 + ms⟩,
      ⟨X.admits, X.cas, X.clock, X.frames, X.room, X.hears, X.method, X.code, (X.here.setHeapUsed s₂.heap s₂.slotsUsed).setVm hW'.alike, X.tail, State.WarmedH.trans X.warmed hW', X.limits, X.bytes, X.same.trans (hsame.setVm s.vm)⟩,
      ⟨g, mk, s₂, L, rfl, rfl, hqc, rfl, hL, rfl, rfl⟩, ?_⟩
    show Steps p.tables e below _ ((({ U with heap := s₂.heap, slotsUsed := s₂.slotsUsed } : State).setVm s₂.vm).setTop { g with pc := g.pc + len₂, stack := v.toList ++ g.stack })
    rw [← hs₂]
    exact hsteps
  · obtain ⟨e2, q2, q3, q4, q5, q6⟩ := id hsm
    have e3 : s₂ = ({ (U.calling g mk a).setFrames s₂.frames with heap := s₂.heap, slotsUsed := s₂.slotsUsed } : State).setVm s₂.vm := by
      have : s₂ = ({ s₂ with vm := (U.calling g mk a).vm } : State).setVm s₂.vm := rfl
      rw [e2] at this
      exact this
    have hf₂ : s₂.frames = .throwing q :: .java g :: U.frames.tail := hend
    have hW' : U.WarmedH s₂.vm := hW₂
    have hs₂ : s₂ = ((({ U with heap := s₂.heap, slotsUsed := s₂.slotsUsed } : State).setVm s₂.vm).setTop g).pushFrame (.throwing q) := by
      refine e3.trans ?_
      rw [hf₂, State.calling_eq h.top, State.setFrames_setFrames, State.pushFrame, State.frames_setTop _ hr', State.setTop_of_frames _ hr', State.setFrames_setFrames, hr]
      rfl
    have hsame : U.sameButNew ({ U with heap := s₂.heap, slotsUsed := s₂.slotsUsed } : State) L mc ms := by
      refine ⟨?_, q2, q3, q4, q5, q6⟩
      obtain ⟨t, ht, -⟩ := State.frames_cons hr
      show ({ U with heap := s₂.heap, slotsUsed := s₂.slotsUsed } : State) = { U.setFrames U.frames with heap := s₂.heap, slotsUsed := s₂.slotsUsed }
      rw [State.setFrames_self ht]
    subst hg
    refine Or.inr ⟨q, ⟨(({ U with heap := s₂.heap, slotsUsed := s₂.slotsUsed } : State).setVm s₂.vm), Ls ++ L, c0 + mc, s0 + ms⟩,
      ⟨X.admits, X.cas, X.clock, X.frames, X.room, X.hears, X.method, X.code, (X.here.setHeapUsed s₂.heap s₂.slotsUsed).setVm hW'.alike, X.tail, State.WarmedH.trans X.warmed hW', X.limits, X.bytes, X.same.trans (hsame.setVm s.vm)⟩,
      ⟨g, mk, s₂, L, E, ce, rfl, rfl, hx, hce, hcv, hcl, rfl, hL, rfl, rfl⟩, ?_⟩
    show Steps p.tables e below _ (((({ U with heap := s₂.heap, slotsUsed := s₂.slotsUsed } : State).setVm s₂.vm).setTop g).pushFrame (.throwing q))
    rw [← hs₂]
    exact hsteps
end Payer
section Calls
variable {p : Program} {l : Launch} {e : Env} {R : Room} {s : State} {m : MethodId} {args : Array Value} {below : List Frame} {meth : Method} {c : Code} {T : State} {locs : List Loc} {cells slots : Nat}
theorem vx_callV (X : Stand p l e R s m args below meth c T locs cells slots) (hexec : p.tables.exec = Jvm.exec) {own C : String} {index : Nat} {y : MethodName} {bytes : ByteArray} {maxL : Nat} {ret : Option FieldType}
    (hown : s.vm.findClass own = some m.cls) (hlink : (Cond.methodLink own index y).before args s = true) (hinst : (Cond.instanceMethod y).before args s = true) (hsel : (Cond.selects C y y).before args s = true)
    (hcode : (Cond.code y bytes maxL ret).before args s = true) (hy : y.cls ≠ "java/lang/invoke/MethodHandle" ∧ y.cls ≠ "java/lang/invoke/VarHandle")
    {W9 : Nat} {Pre : Pt → Array Value → Prop} {Post : Pt → Array Value → Option Value → Pt → Prop} {PostX : Pt → Array Value → Addr → Pt → Prop} (hK : vx_Back l R p e below s args y 3 W9 Pre Post PostX)
    {b : Addr} {cellB : Cell} (hcell : T.heap[b]? = some cellB) (hobj : cellB.vm.isStatics = false) (hcls : s.vm.findClass C = some cellB.cls)
    {g : JFrame} (hg : g.method = m) (hsize : g.locals.size = c.maxLocals) {argsL rest : List Value} (hlen : ∀ sig, parseMethodDescriptor y.desc = some sig → argsL.length = sig.parameters.length)
    (hstack : g.stack = argsL.reverse ++ .ref b :: rest) (hW : 2 * g.monitorRoom + (rest.map fun v => v.category).sum ≤ W9) (hdg : decode c.code g.pc = .ok (.invokevirtual index, 3))
    (hpre : ∀ vm₁, s.WarmedH vm₁ → Pre ⟨T.setVm vm₁, locs, cells, slots⟩ (Value.ref b :: argsL).toArray) :
    (∃ (v : Option Value) (vm₁ : Vm) (B : Pt), s.WarmedH vm₁ ∧ Stand p l e R s m args below meth c B.U B.locs B.cells B.slots ∧ Post ⟨T.setVm vm₁, locs, cells, slots⟩ (Value.ref b :: argsL).toArray v B ∧
      ∀ target, Steps p.tables e below (B.U.setTop { g with pc := g.pc + 3, stack := v.toList ++ rest }) target → Steps p.tables e below (T.setTop g) target) ∨
    (∃ (q : Addr) (vm₁ : Vm) (B : Pt), s.WarmedH vm₁ ∧ Stand p l e R s m args below meth c B.U B.locs B.cells B.slots ∧ PostX ⟨T.setVm vm₁, locs, cells, slots⟩ (Value.ref b :: argsL).toArray q B ∧
      Steps p.tables e below (T.setTop g) ((B.U.setTop { g with stack := rest }).pushFrame (.throwing q))) := by
  obtain ⟨mk, methM, hnamed, hmethM, hstM, habM⟩ := Cond.instanceMethod_spec hinst
  obtain ⟨methM', cM, hmethM', -, -, -, -, -, -, hsigM⟩ := Cond.code_spec hnamed hcode
  cases hmethM.symm.trans hmethM'
  obtain ⟨c2, r2, m2, q1, q2, q3, q4, kP, hkP, hkPi⟩ := Cond.selects_spec hsel
  cases hcls.symm.trans q1
  cases (State.methodFound?_of_named hnamed hy).symm.trans q2
  cases hnamed.symm.trans q3
  have hselP : selectMethod e.platform s.vm cellB.cls mk = .method mk := by rw [Launch.admits_selectMethod X.admits]; exact q4
  obtain ⟨vm₁, X₁, hstep₁⟩ := X.invokevirtual hexec hown hlink hnamed hmethM hstM hkP hkPi hy (a := b) (cell := cellB) hcell
    (fun z h => by rw [h] at hobj; cases hobj) hselP hmethM habM hkP hkPi (g := g) hg (argsL := argsL) (rest := rest) (hlen _ hsigM) hstack hdg
  rcases hK m meth c ⟨T.setVm vm₁, locs, cells, slots⟩ { g with stack := rest } (.invokevirtual index) mk (Value.ref b :: argsL).toArray X₁ hg hsize hdg hW (X₁.named hnamed) (hpre vm₁ X₁.warmed) with ⟨v, B, X', hpost, hsteps⟩ | ⟨q, B, X', hpost, hsteps⟩
  · exact Or.inl ⟨v, vm₁, B, X₁.warmed, X', hpost, fun target h => hstep₁ _ fun acts => by rw [doInvoke_state]; exact hsteps.trans h⟩
  · exact Or.inr ⟨q, vm₁, B, X₁.warmed, X', hpost, hstep₁ _ fun acts => by rw [doInvoke_state]; exact hsteps⟩
theorem vx_callS (X : Stand p l e R s m args below meth c T locs cells slots) (hexec : p.tables.exec = Jvm.exec) {own : String} {index : Nat} {y : MethodName} {bytes : ByteArray} {maxL : Nat} {ret : Option FieldType}
    (hown : s.vm.findClass own = some m.cls) (hlink : (Cond.methodLink own index y).before args s = true) (hstat : (Cond.static y).before args s = true) (hinit : (Cond.initialized y.cls).before args s = true)
    (hcode : (Cond.code y bytes maxL ret).before args s = true) (hy : y.cls ≠ "java/lang/invoke/MethodHandle" ∧ y.cls ≠ "java/lang/invoke/VarHandle")
    {W9 : Nat} {Pre : Pt → Array Value → Prop} {Post : Pt → Array Value → Option Value → Pt → Prop} {PostX : Pt → Array Value → Addr → Pt → Prop} (hK : vx_Back l R p e below s args y 3 W9 Pre Post PostX)
    {g : JFrame} (hg : g.method = m) (hsize : g.locals.size = c.maxLocals) {argsL rest : List Value} (hlen : ∀ sig, parseMethodDescriptor y.desc = some sig → argsL.length = sig.parameters.length)
    (hstack : g.stack = argsL.reverse ++ rest) (hW : 2 * g.monitorRoom + (rest.map fun v => v.category).sum ≤ W9) (hdg : decode c.code g.pc = .ok (.invokestatic index, 3))
    (hpre : ∀ vm₁, s.WarmedH vm₁ → Pre ⟨T.setVm vm₁, locs, cells, slots⟩ argsL.toArray) :
    (∃ (v : Option Value) (vm₁ : Vm) (B : Pt), s.WarmedH vm₁ ∧ Stand p l e R s m args below meth c B.U B.locs B.cells B.slots ∧ Post ⟨T.setVm vm₁, locs, cells, slots⟩ argsL.toArray v B ∧
      ∀ target, Steps p.tables e below (B.U.setTop { g with pc := g.pc + 3, stack := v.toList ++ rest }) target → Steps p.tables e below (T.setTop g) target) ∨
    (∃ (q : Addr) (vm₁ : Vm) (B : Pt), s.WarmedH vm₁ ∧ Stand p l e R s m args below meth c B.U B.locs B.cells B.slots ∧ PostX ⟨T.setVm vm₁, locs, cells, slots⟩ argsL.toArray q B ∧
      Steps p.tables e below (T.setTop g) ((B.U.setTop { g with stack := rest }).pushFrame (.throwing q))) := by
  obtain ⟨mk, hnamed⟩ := Cond.code_named hcode
  obtain ⟨methM, cM, hmethM, -, -, -, -, -, -, hsigM⟩ := Cond.code_spec hnamed hcode
  have hstatic : methM.isStatic = true := Cond.static_spec hnamed hmethM hstat
  obtain ⟨kP, hkP, -⟩ := className_of_methodNamed hnamed
  have hinitP : kP.init = .initialized := Cond.initialized_spec (findClass_of_methodNamed hnamed) hkP hinit
  obtain ⟨vm₁, X₁, hstep₁⟩ := X.invokestatic hexec hown hlink hnamed hmethM hstatic hkP hinitP hy (g := g) hg (argsL := argsL) (rest := rest) (hlen _ hsigM) hstack hdg
  rcases hK m meth c ⟨T.setVm vm₁, locs, cells, slots⟩ { g with stack := rest } (.invokestatic index) mk argsL.toArray X₁ hg hsize hdg hW (X₁.named hnamed) (hpre vm₁ X₁.warmed) with ⟨v, B, X', hpost, hsteps⟩ | ⟨q, B, X', hpost, hsteps⟩
  · exact Or.inl ⟨v, vm₁, B, X₁.warmed, X', hpost, fun target h => hstep₁ _ fun acts => by rw [doInvoke_state]; exact hsteps.trans h⟩
  · exact Or.inr ⟨q, vm₁, B, X₁.warmed, X', hpost, hstep₁ _ fun acts => by rw [doInvoke_state]; exact hsteps⟩
end Calls
theorem vx_cls {s : State} {T : State} {vm₁ : Vm} {E : String} {k : ClassId} (hW : s.WarmedH vm₁) (h : (T.setVm vm₁).vm.findClass E = some k) : s.vm.findClass E = some k := by
  have h1 : vm₁.findClass E = some k := h
  rw [hW.alike.findClass] at h1
  exact h1
/-- the method's frame g, with q thrown over it -/
def vx_W (p : Program) (l : Launch) (e : Env) (R : Room) (s : State) (m : MethodId) (args : Array Value) (below : List Frame) (meth : Method) (c : Code) (H : Heap) (locs : List Loc) (cells slots : Nat) (Q : State → Prop) (g : JFrame) (q : Addr) : Prop :=
  ∀ T : State, T.heap = H → Stand p l e R s m args below meth c T locs cells slots → ∃ t, Steps p.tables e below ((T.setTop g).pushFrame (.throwing q)) t ∧ Q t
def vx_Run (p : Program) (l : Launch) (e : Env) (R : Room) (s : State) (m : MethodId) (args : Array Value) (below : List Frame) (meth : Method) (c : Code) (H : Heap) (locs : List Loc) (cells slots mc ms : Nat) (g : JFrame) (rest : List Value) (Qa : State → Outcome → State → Prop) (XC : String → State → State → Prop) (free : Addr → Prop) : Prop :=
  ∀ T : State, T.heap = H → Stand p l e R s m args below meth c T locs cells slots →
    (∃ (v : Option Value) (st₀ t T' : State) (L : List Loc), st₀.heap = H ∧ Stand p l e R s m args below meth c T' (locs ++ L) (cells + mc) (slots + ms) ∧ (∀ q ∈ L, free q.base) ∧ T'.heap = t.heap ∧ T'.vm = t.vm ∧ Qa st₀ (.returned v) t ∧
      Goes p e below T g T' { g with pc := g.pc + 3, stack := v.toList ++ rest }) ∨
    (∃ (q : Addr) (st₀ t T' : State) (L : List Loc) (E : String) (ce : Cell), st₀.heap = H ∧ Stand p l e R s m args below meth c T' (locs ++ L) (cells + mc) (slots + ms) ∧ (∀ z ∈ L, free z.base) ∧ T'.heap = t.heap ∧ T'.vm = t.vm ∧ XC E st₀ t ∧ t.heap[q]? = some ce ∧ ce.vm = .none ∧ s.vm.findClass E = some ce.cls ∧
      Steps p.tables e below (T.setTop g) ((T'.setTop { g with stack := rest }).pushFrame (.throwing q)))
def vx_X {S : Type} (px : S → Prop) (B : String → S → State → Prop) (A : Nat → Prop) : String → State → State → Prop := fun E st t => ∃ u : S, px u ∧ B E u t ∧ va_F A st t
section Runs
variable {p : Program} {l : Launch} {e : Env} {R : Room} {s : State} {m : MethodId} {args : Array Value} {below : List Frame} {meth : Method} {c : Code} {H : Heap} {locs : List Loc} {cells slots : Nat}
variable {y : MethodName} {bytes cc : ByteArray} {maxL nL mc ms n index : Nat} {ret : Option FieldType} {ws : List Cond} {rm : Room} {Pc : Array Value → State → Prop} {Qc : Array Value → State → Outcome → State → Prop} {XC : String → State → State → Prop} {free : Addr → Prop} {Ts : List Cond} {own C : String} {b : Addr} {As rest : List Value} {g : JFrame}
theorem vx_callBack (cb : CallB R s args own index y bytes maxL ret ws rm mc ms n) (hM : vx_Met l y ws rm Pc Qc XC mc ms free) (hbl : FrameBlind Pc) : vx_Back l R p e below s args y 3 8 (PreOf R mc ms Pc) (PostOf Qc mc ms free) (vx_Post XC mc ms free) := by
  obtain ⟨hrc, hrs, hfr, hlo, hws, hcw, -, hini, -⟩ := cb
  exact vx_back (bytes := bytes) (maxL := maxL) (ret := ret) hM hbl hrc hrs hfr hlo hws hcw (fun a' U hW => word_at hW (Or.inl (by first | rfl | simp [Cond.onTables, Cond.keeps, Cond.steady])) hini)
theorem vx_runV (S : CallFix p m c cc nL s args Ts own) (hM : vx_Met l y ws rm Pc Qc XC mc ms free) (cw : CallW R s args own C index y bytes maxL ret ws rm mc ms n) (hp : PreV s H C b Pc As)
    (hg : g.method = m) (hn : As.length = n) (hsize : g.locals.size = nL) (hstack : g.stack = As.reverse ++ .ref b :: rest) (hW : 2 * g.monitorRoom + (rest.map fun v => v.category).sum ≤ 8) (hdg : decode cc g.pc = .ok (.invokevirtual index, 3)) (hf : cells + mc ≤ R.cells ∧ slots + ms ≤ R.slots) :
    vx_Run p l e R s m args below meth c H locs cells slots mc ms g rest (Qc (Value.ref b :: As).toArray) XC free := by
  have hK : vx_Back l R p e below s args y 3 8 (PreOf R mc ms Pc) (PostOf Qc mc ms free) (vx_Post XC mc ms free) := vx_callBack cw.1 hM hp.1
  obtain ⟨⟨-, -, -, -, -, -, hcode, -, hy, hlen, hl⟩, hin, hse⟩ := cw
  obtain ⟨hx, hb, hml, ho, -⟩ := S
  obtain ⟨-, ⟨cellB, hcB, hoB, hclB⟩, hPc⟩ := hp
  intro T hT X
  rcases vx_callV X hx (C := C) (bytes := bytes) (maxL := maxL) (ret := ret) ho hl hin hse hcode hy hK (by rw [hT]; exact hcB) hoB hclB hg (hsize.trans hml.symm) (argsL := As) (rest := rest) (fun sig h => hn.trans (hlen sig h)) hstack hW (by rw [hb]; exact hdg)
    (fun vm₁ hW₁ => ⟨hf.1, hf.2, hPc (T.setVm vm₁) hT hW₁⟩) with ⟨v, vm₁, ⟨U', l2, c2, s2⟩, hW₁, X', ⟨g', mk, t, L, e1, e2, hq, h1, hL, h2, h3⟩, st⟩ | ⟨q, vm₁, ⟨U', l2, c2, s2⟩, hW₁, X', ⟨g', mk, t, L, E, ce, e1, e2, hq, hce, hcv, hcl, h1, hL, h2, h3⟩, st⟩
  · dsimp only [Pt.U, Pt.locs, Pt.cells, Pt.slots] at X' e1 e2 h1 h2 h3 st
    subst h1; subst h2; subst h3
    exact Or.inl ⟨v, (T.setVm vm₁).calling g' mk (Value.ref b :: As).toArray, t, U', L, hT, X', hL, e1, e2, hq, st⟩
  · dsimp only [Pt.U, Pt.locs, Pt.cells, Pt.slots] at X' e1 e2 h1 h2 h3 st hcl
    subst h1; subst h2; subst h3
    exact Or.inr ⟨q, (T.setVm vm₁).calling g' mk (Value.ref b :: As).toArray, t, U', L, E, ce, hT, X', hL, e1, e2, hq, hce, hcv, vx_cls hW₁ hcl, st⟩
theorem vx_runS (S : CallFix p m c cc nL s args Ts own) (hM : vx_Met l y ws rm Pc Qc XC mc ms free) (cw : CallB R s args own index y bytes maxL ret ws rm mc ms n ∧ (Cond.static y).before args s = true) (hp : PreS s H Pc As)
    (hg : g.method = m) (hn : As.length = n) (hsize : g.locals.size = nL) (hstack : g.stack = As.reverse ++ rest) (hW : 2 * g.monitorRoom + (rest.map fun v => v.category).sum ≤ 8) (hdg : decode cc g.pc = .ok (.invokestatic index, 3)) (hf : cells + mc ≤ R.cells ∧ slots + ms ≤ R.slots) :
    vx_Run p l e R s m args below meth c H locs cells slots mc ms g rest (Qc As.toArray) XC free := by
  have hK : vx_Back l R p e below s args y 3 8 (PreOf R mc ms Pc) (PostOf Qc mc ms free) (vx_Post XC mc ms free) := vx_callBack cw.1 hM hp.1
  obtain ⟨⟨-, -, -, -, -, -, hcode, hini, hy, hlen, hl⟩, hstt⟩ := cw
  obtain ⟨hx, hb, hml, ho, -⟩ := S
  intro T hT X
  rcases vx_callS X hx (bytes := bytes) (maxL := maxL) (ret := ret) ho hl hstt hini hcode hy hK hg (hsize.trans hml.symm) (argsL := As) (rest := rest) (fun sig h => hn.trans (hlen sig h)) hstack hW (by rw [hb]; exact hdg)
    (fun vm₁ hW₁ => ⟨hf.1, hf.2, hp.2 (T.setVm vm₁) hT hW₁⟩) with ⟨v, vm₁, ⟨U', l2, c2, s2⟩, hW₁, X', ⟨g', mk, t, L, e1, e2, hq, h1, hL, h2, h3⟩, st⟩ | ⟨q, vm₁, ⟨U', l2, c2, s2⟩, hW₁, X', ⟨g', mk, t, L, E, ce, e1, e2, hq, hce, hcv, hcl, h1, hL, h2, h3⟩, st⟩
  · dsimp only [Pt.U, Pt.locs, Pt.cells, Pt.slots] at X' e1 e2 h1 h2 h3 st
    subst h1; subst h2; subst h3
    exact Or.inl ⟨v, (T.setVm vm₁).calling g' mk As.toArray, t, U', L, hT, X', hL, e1, e2, hq, st⟩
  · dsimp only [Pt.U, Pt.locs, Pt.cells, Pt.slots] at X' e1 e2 h1 h2 h3 st hcl
    subst h1; subst h2; subst h3
    exact Or.inr ⟨q, (T.setVm vm₁).calling g' mk As.toArray, t, U', L, E, ce, hT, X', hL, e1, e2, hq, hce, hcv, vx_cls hW₁ hcl, st⟩
end Runs
section Rows
variable {p : Program} {l : Launch} {e : Env} {R : Room} {s : State} {m : MethodId} {args : Array Value} {below : List Frame} {meth : Method} {c : Code} {H : Heap} {locs : List Loc} {cells slots : Nat} {Q : State → Prop}
variable {mc ms : Nat} {free : Addr → Prop} {A0 A1 : Nat → Prop} {H0 : Heap} {a : Array Value} {pc : Nat} {ls : Array Slot} {st0 rest : List Value}
theorem vx_keep {st₀ t T' : State} {L : List Loc} (h0 : st₀.heap = H) (e1 : T'.heap = t.heap) (hS : va_S A0 H0 H locs) (hA : ∀ q, q < H.size → A1 q → A0 q) (hf : ∀ q, free q → A0 q) (hL : ∀ q ∈ L, free q.base) (hF : va_F A1 st₀ t) :
    H.size ≤ T'.heap.size ∧ (∀ q : Nat, q < H.size → ¬ A1 q → T'.heap[q]? = H[q]?) ∧ va_S A0 H0 T'.heap (locs ++ L) := by
  obtain ⟨hz, hk⟩ := hF
  rw [h0] at hz hk
  exact ⟨by rw [e1]; exact hz, fun q h1 h2 => by rw [e1]; exact hk q h1 h2,
    ⟨Nat.le_trans hS.1 (by rw [e1]; exact hz), fun q h1 h2 => by rw [e1, hk q (Nat.lt_of_lt_of_le h1 hS.1) (fun z => h2 (hA q (Nat.lt_of_lt_of_le h1 hS.1) z))]; exact hS.2.1 q h1 h2, fun q hq => by
      rcases List.mem_append.mp hq with h | h
      · exact hS.2.2 q h
      · exact hf _ (hL q h)⟩⟩
theorem vx_calli {S SX : Type} {post : Int32 → S → Prop} {px : SX → Prop} {B : S → State → Prop} {BX : String → SX → State → Prop} {AX : Nat → Prop} (hr : vx_Run p l e R s m args below meth c H locs cells slots mc ms (F0 m pc ls st0) rest (va_Qi post B A1 a) (vx_X px BX AX) free) (hS : va_S A0 H0 H locs) (hA : ∀ q, q < H.size → A1 q → A0 q) (hf : ∀ q, free q → A0 q) (hAX : ∀ q, q < H.size → AX q → A0 q)
    (kx : ∀ (E : String) (ce : Cell) (q9 : Addr) (u : SX) (t : State) (H1 : Heap) (locs1 : List Loc), t.heap = H1 → s.vm.Alike t.vm → px u → BX E u t → H.size ≤ H1.size → (∀ q : Nat, q < H.size → ¬ AX q → H1[q]? = H[q]?) → va_S A0 H0 H1 locs1 → H1[q9]? = some ce → ce.vm = .none → s.vm.findClass E = some ce.cls → vx_W p l e R s m args below meth c H1 locs1 (cells + mc) (slots + ms) Q (F0 m pc ls rest) q9)
    (kk : ∀ (r : Int32) (u : S) (t : State) (H1 : Heap) (locs1 : List Loc), t.heap = H1 → s.vm.Alike t.vm → post r u → B u t → H.size ≤ H1.size → (∀ q : Nat, q < H.size → ¬ A1 q → H1[q]? = H[q]?) → va_S A0 H0 H1 locs1 → W p l e R s m args below meth c H1 locs1 (cells + mc) (slots + ms) Q (F0 m (pc + 3) ls (.int r :: rest))) : W p l e R s m args below meth c H locs cells slots Q (F0 m pc ls st0) := by
  intro T hT X
  rcases hr T hT X with ⟨v, st₀, t, T', L, h0, X', hL, e1, e2, ⟨⟨r, u, hv, hp, hb⟩, hF⟩, st⟩ | ⟨q, st₀, t, T', L, E, ce, h0, X', hL, e1, e2, ⟨u, hp, hb, hF⟩, hce, hcv, hcl, st⟩
  · cases hv
    obtain ⟨k1, k2, k3⟩ := vx_keep h0 e1 hS hA hf hL hF
    obtain ⟨t2, a1, b1⟩ := kk r u t T'.heap (locs ++ L) e1.symm (by rw [← e2]; exact X'.warmed.alike) hp hb k1 k2 k3 T' rfl X'
    exact ⟨t2, st t2 a1, b1⟩
  · obtain ⟨k1, k2, k3⟩ := vx_keep h0 e1 hS hAX hf hL hF
    obtain ⟨t2, a1, b1⟩ := kx E ce q u t T'.heap (locs ++ L) e1.symm (by rw [← e2]; exact X'.warmed.alike) hp hb k1 k2 k3 (by rw [e1]; exact hce) hcv hcl T' rfl X'
    exact ⟨t2, st.trans a1, b1⟩
theorem vx_calll {S SX : Type} {post : Int64 → S → Prop} {px : SX → Prop} {B : S → State → Prop} {BX : String → SX → State → Prop} {AX : Nat → Prop} (hr : vx_Run p l e R s m args below meth c H locs cells slots mc ms (F0 m pc ls st0) rest (va_Ql post B A1 a) (vx_X px BX AX) free) (hS : va_S A0 H0 H locs) (hA : ∀ q, q < H.size → A1 q → A0 q) (hf : ∀ q, free q → A0 q) (hAX : ∀ q, q < H.size → AX q → A0 q)
    (kx : ∀ (E : String) (ce : Cell) (q9 : Addr) (u : SX) (t : State) (H1 : Heap) (locs1 : List Loc), t.heap = H1 → s.vm.Alike t.vm → px u → BX E u t → H.size ≤ H1.size → (∀ q : Nat, q < H.size → ¬ AX q → H1[q]? = H[q]?) → va_S A0 H0 H1 locs1 → H1[q9]? = some ce → ce.vm = .none → s.vm.findClass E = some ce.cls → vx_W p l e R s m args below meth c H1 locs1 (cells + mc) (slots + ms) Q (F0 m pc ls rest) q9)
    (kk : ∀ (r : Int64) (u : S) (t : State) (H1 : Heap) (locs1 : List Loc), t.heap = H1 → s.vm.Alike t.vm → post r u → B u t → H.size ≤ H1.size → (∀ q : Nat, q < H.size → ¬ A1 q → H1[q]? = H[q]?) → va_S A0 H0 H1 locs1 → W p l e R s m args below meth c H1 locs1 (cells + mc) (slots + ms) Q (F0 m (pc + 3) ls (.long r :: rest))) : W p l e R s m args below meth c H locs cells slots Q (F0 m pc ls st0) := by
  intro T hT X
  rcases hr T hT X with ⟨v, st₀, t, T', L, h0, X', hL, e1, e2, ⟨⟨r, u, hv, hp, hb⟩, hF⟩, st⟩ | ⟨q, st₀, t, T', L, E, ce, h0, X', hL, e1, e2, ⟨u, hp, hb, hF⟩, hce, hcv, hcl, st⟩
  · cases hv
    obtain ⟨k1, k2, k3⟩ := vx_keep h0 e1 hS hA hf hL hF
    obtain ⟨t2, a1, b1⟩ := kk r u t T'.heap (locs ++ L) e1.symm (by rw [← e2]; exact X'.warmed.alike) hp hb k1 k2 k3 T' rfl X'
    exact ⟨t2, st t2 a1, b1⟩
  · obtain ⟨k1, k2, k3⟩ := vx_keep h0 e1 hS hAX hf hL hF
    obtain ⟨t2, a1, b1⟩ := kx E ce q u t T'.heap (locs ++ L) e1.symm (by rw [← e2]; exact X'.warmed.alike) hp hb k1 k2 k3 (by rw [e1]; exact hce) hcv hcl T' rfl X'
    exact ⟨t2, st.trans a1, b1⟩
theorem vx_callf {S SX : Type} {post : UInt32 → S → Prop} {px : SX → Prop} {B : S → State → Prop} {BX : String → SX → State → Prop} {AX : Nat → Prop} (hr : vx_Run p l e R s m args below meth c H locs cells slots mc ms (F0 m pc ls st0) rest (va_Qf post B A1 a) (vx_X px BX AX) free) (hS : va_S A0 H0 H locs) (hA : ∀ q, q < H.size → A1 q → A0 q) (hf : ∀ q, free q → A0 q) (hAX : ∀ q, q < H.size → AX q → A0 q)
    (kx : ∀ (E : String) (ce : Cell) (q9 : Addr) (u : SX) (t : State) (H1 : Heap) (locs1 : List Loc), t.heap = H1 → s.vm.Alike t.vm → px u → BX E u t → H.size ≤ H1.size → (∀ q : Nat, q < H.size → ¬ AX q → H1[q]? = H[q]?) → va_S A0 H0 H1 locs1 → H1[q9]? = some ce → ce.vm = .none → s.vm.findClass E = some ce.cls → vx_W p l e R s m args below meth c H1 locs1 (cells + mc) (slots + ms) Q (F0 m pc ls rest) q9)
    (kk : ∀ (r : UInt32) (u : S) (t : State) (H1 : Heap) (locs1 : List Loc), t.heap = H1 → s.vm.Alike t.vm → post r u → B u t → H.size ≤ H1.size → (∀ q : Nat, q < H.size → ¬ A1 q → H1[q]? = H[q]?) → va_S A0 H0 H1 locs1 → W p l e R s m args below meth c H1 locs1 (cells + mc) (slots + ms) Q (F0 m (pc + 3) ls (.float r :: rest))) : W p l e R s m args below meth c H locs cells slots Q (F0 m pc ls st0) := by
  intro T hT X
  rcases hr T hT X with ⟨v, st₀, t, T', L, h0, X', hL, e1, e2, ⟨⟨r, u, hv, hp, hb⟩, hF⟩, st⟩ | ⟨q, st₀, t, T', L, E, ce, h0, X', hL, e1, e2, ⟨u, hp, hb, hF⟩, hce, hcv, hcl, st⟩
  · cases hv
    obtain ⟨k1, k2, k3⟩ := vx_keep h0 e1 hS hA hf hL hF
    obtain ⟨t2, a1, b1⟩ := kk r u t T'.heap (locs ++ L) e1.symm (by rw [← e2]; exact X'.warmed.alike) hp hb k1 k2 k3 T' rfl X'
    exact ⟨t2, st t2 a1, b1⟩
  · obtain ⟨k1, k2, k3⟩ := vx_keep h0 e1 hS hAX hf hL hF
    obtain ⟨t2, a1, b1⟩ := kx E ce q u t T'.heap (locs ++ L) e1.symm (by rw [← e2]; exact X'.warmed.alike) hp hb k1 k2 k3 (by rw [e1]; exact hce) hcv hcl T' rfl X'
    exact ⟨t2, st.trans a1, b1⟩
theorem vx_calld {S SX : Type} {post : UInt64 → S → Prop} {px : SX → Prop} {B : S → State → Prop} {BX : String → SX → State → Prop} {AX : Nat → Prop} (hr : vx_Run p l e R s m args below meth c H locs cells slots mc ms (F0 m pc ls st0) rest (va_Qd post B A1 a) (vx_X px BX AX) free) (hS : va_S A0 H0 H locs) (hA : ∀ q, q < H.size → A1 q → A0 q) (hf : ∀ q, free q → A0 q) (hAX : ∀ q, q < H.size → AX q → A0 q)
    (kx : ∀ (E : String) (ce : Cell) (q9 : Addr) (u : SX) (t : State) (H1 : Heap) (locs1 : List Loc), t.heap = H1 → s.vm.Alike t.vm → px u → BX E u t → H.size ≤ H1.size → (∀ q : Nat, q < H.size → ¬ AX q → H1[q]? = H[q]?) → va_S A0 H0 H1 locs1 → H1[q9]? = some ce → ce.vm = .none → s.vm.findClass E = some ce.cls → vx_W p l e R s m args below meth c H1 locs1 (cells + mc) (slots + ms) Q (F0 m pc ls rest) q9)
    (kk : ∀ (r : UInt64) (u : S) (t : State) (H1 : Heap) (locs1 : List Loc), t.heap = H1 → s.vm.Alike t.vm → post r u → B u t → H.size ≤ H1.size → (∀ q : Nat, q < H.size → ¬ A1 q → H1[q]? = H[q]?) → va_S A0 H0 H1 locs1 → W p l e R s m args below meth c H1 locs1 (cells + mc) (slots + ms) Q (F0 m (pc + 3) ls (.double r :: rest))) : W p l e R s m args below meth c H locs cells slots Q (F0 m pc ls st0) := by
  intro T hT X
  rcases hr T hT X with ⟨v, st₀, t, T', L, h0, X', hL, e1, e2, ⟨⟨r, u, hv, hp, hb⟩, hF⟩, st⟩ | ⟨q, st₀, t, T', L, E, ce, h0, X', hL, e1, e2, ⟨u, hp, hb, hF⟩, hce, hcv, hcl, st⟩
  · cases hv
    obtain ⟨k1, k2, k3⟩ := vx_keep h0 e1 hS hA hf hL hF
    obtain ⟨t2, a1, b1⟩ := kk r u t T'.heap (locs ++ L) e1.symm (by rw [← e2]; exact X'.warmed.alike) hp hb k1 k2 k3 T' rfl X'
    exact ⟨t2, st t2 a1, b1⟩
  · obtain ⟨k1, k2, k3⟩ := vx_keep h0 e1 hS hAX hf hL hF
    obtain ⟨t2, a1, b1⟩ := kx E ce q u t T'.heap (locs ++ L) e1.symm (by rw [← e2]; exact X'.warmed.alike) hp hb k1 k2 k3 (by rw [e1]; exact hce) hcv hcl T' rfl X'
    exact ⟨t2, st.trans a1, b1⟩
theorem vx_callv {S SX : Type} {post : S → Prop} {px : SX → Prop} {B : S → State → Prop} {BX : String → SX → State → Prop} {AX : Nat → Prop} (hr : vx_Run p l e R s m args below meth c H locs cells slots mc ms (F0 m pc ls st0) rest (va_Qv post B A1 a) (vx_X px BX AX) free) (hS : va_S A0 H0 H locs) (hA : ∀ q, q < H.size → A1 q → A0 q) (hf : ∀ q, free q → A0 q) (hAX : ∀ q, q < H.size → AX q → A0 q)
    (kx : ∀ (E : String) (ce : Cell) (q9 : Addr) (u : SX) (t : State) (H1 : Heap) (locs1 : List Loc), t.heap = H1 → s.vm.Alike t.vm → px u → BX E u t → H.size ≤ H1.size → (∀ q : Nat, q < H.size → ¬ AX q → H1[q]? = H[q]?) → va_S A0 H0 H1 locs1 → H1[q9]? = some ce → ce.vm = .none → s.vm.findClass E = some ce.cls → vx_W p l e R s m args below meth c H1 locs1 (cells + mc) (slots + ms) Q (F0 m pc ls rest) q9)
    (kk : ∀ (u : S) (t : State) (H1 : Heap) (locs1 : List Loc), t.heap = H1 → s.vm.Alike t.vm → post u → B u t → H.size ≤ H1.size → (∀ q : Nat, q < H.size → ¬ A1 q → H1[q]? = H[q]?) → va_S A0 H0 H1 locs1 → W p l e R s m args below meth c H1 locs1 (cells + mc) (slots + ms) Q (F0 m (pc + 3) ls (rest))) : W p l e R s m args below meth c H locs cells slots Q (F0 m pc ls st0) := by
  intro T hT X
  rcases hr T hT X with ⟨v, st₀, t, T', L, h0, X', hL, e1, e2, ⟨⟨u, hv, hp, hb⟩, hF⟩, st⟩ | ⟨q, st₀, t, T', L, E, ce, h0, X', hL, e1, e2, ⟨u, hp, hb, hF⟩, hce, hcv, hcl, st⟩
  · cases hv
    obtain ⟨k1, k2, k3⟩ := vx_keep h0 e1 hS hA hf hL hF
    obtain ⟨t2, a1, b1⟩ := kk u t T'.heap (locs ++ L) e1.symm (by rw [← e2]; exact X'.warmed.alike) hp hb k1 k2 k3 T' rfl X'
    exact ⟨t2, st t2 a1, b1⟩
  · obtain ⟨k1, k2, k3⟩ := vx_keep h0 e1 hS hAX hf hL hF
    obtain ⟨t2, a1, b1⟩ := kx E ce q u t T'.heap (locs ++ L) e1.symm (by rw [← e2]; exact X'.warmed.alike) hp hb k1 k2 k3 (by rw [e1]; exact hce) hcv hcl T' rfl X'
    exact ⟨t2, st.trans a1, b1⟩
/-- caught by the row x of this method's table; the rows ahead don't take it -/
theorem vx_catch {own name : String} {E : String} {ce : Cell} {q : Addr} (hown : s.vm.findClass own = some m.cls) (pre : List ExceptionTableEntry) (x : ExceptionTableEntry) (suf : List ExceptionTableEntry) (hsplit : c.exceptionTable.toList = pre ++ x :: suf)
    (hpass : ∀ z ∈ pre, covers z pc = false ∨ (z.catchType ≠ 0 ∧ ∃ nm : String, (Cond.classLink own z.catchType nm).before args s = true ∧ va_Nc E nm s)) (hx : covers x pc = true) (h0 : x.catchType ≠ 0)
    (hlink : (Cond.classLink own x.catchType name).before args s = true) (hcast : (Cond.castable E name).before args s = true) (hcell : H[q]? = some ce) (hv : ce.vm = .none) (hcl : s.vm.findClass E = some ce.cls)
    (kk : W p l e R s m args below meth c H locs cells slots Q (F0 m x.handlerPc ls [.ref q])) : vx_W p l e R s m args below meth c H locs cells slots Q (F0 m pc ls rest) q := by
  intro T hT X
  have hpl : e.platform.magicAccessors = ({} : Platform).magicAccessors := by rw [X.admits.platform]
  obtain ⟨c3, c4, hc3, hc4, hasg⟩ := Cond.castable_spec hcast
  cases Option.some.inj (hc3.symm.trans hcl)
  obtain ⟨c5, hc5, hcl5⟩ := Cond.classLink_spec hown hlink e.platform hpl
  cases Option.some.inj (hc4.symm.trans hc5)
  obtain ⟨vm', X', st⟩ := X.thenCaughtThrough q (g := F0 m pc ls rest) rfl (Steps.refl _) (by rw [hT]; exact hcell) (by rw [hv]; rfl) (by obtain ⟨k9, h9, -⟩ := Vm.findClass_spec hcl; exact ⟨k9, h9⟩) pre x suf hsplit
    (fun z hz => by
      rcases hpass z hz with h | ⟨hz0, nm, hl1, hn1⟩
      · exact Or.inl h
      · obtain ⟨c6, hc6, hcl6⟩ := Cond.classLink_spec hown hl1 e.platform hpl
        obtain ⟨a8, b8, h1, h2, h3⟩ := hn1
        cases Option.some.inj (h1.symm.trans hcl)
        cases Option.some.inj (h2.symm.trans hc6)
        exact Or.inr ⟨hz0, _, hcl6, h3⟩) hx (Or.inr ⟨h0, c4, hcl5, hasg⟩)
  obtain ⟨t, a1, b1⟩ := kk (T.setVm vm') hT X'
  exact ⟨t, st.trans a1, b1⟩
end Rows
section Ends
variable {p : Program} {l : Launch} {e : Env} {R : Room} {s : State} {m : MethodId} {args : Array Value} {below : List Frame} {meth : Method} {c : Code} {H : Heap} {locs : List Loc} {cells slots : Nat} {Q : State → Prop}
variable {mc ms : Nat} {free : Addr → Prop} {A0 A1 : Nat → Prop} {H0 : Heap} {a : Array Value} {ls : Array Slot} {st0 rest : List Value}
variable {Qc : Array Value → State → Outcome → State → Prop} {XC : String → State → State → Prop}
/-- what a body that may throw owes at its end -/
def vx_MQ (below : List Frame) (Qc : Array Value → State → Outcome → State → Prop) (XC : String → State → State → Prop) (a : Array Value) (s : State) (mc ms : Nat) (free : Addr → Prop) : State → Prop := fun t =>
  ∃ o, t.status = .running ∧ Ended t below o ∧ vx_Q Qc XC mc ms free a s o t
theorem vx_ret {g : JFrame} {mc ms : Nat} (k : W p l e R s m args below meth c H locs cells slots (MQ below Qc args s mc ms free) g) : W p l e R s m args below meth c H locs cells slots (vx_MQ below Qc XC args s mc ms free) g := by
  intro T hT X
  obtain ⟨t, a1, o, b1, b2, b3, b4⟩ := k T hT X
  exact ⟨t, a1, o, b1, b2, Or.inl ⟨b3, b4⟩⟩
/-- not caught here: it goes on to the caller -/
theorem vx_widen {g : JFrame} {q : Addr} {k n : Nat} (h1 : cells ≤ k) (h2 : slots ≤ n) (kk : vx_W p l e R s m args below meth c H locs k n Q g q) : vx_W p l e R s m args below meth c H locs cells slots Q g q := fun T hT X => kk T hT (stand_widen X h1 h2)
theorem vx_out {pc : Nat} {E : String} {ce : Cell} {q : Addr} {mc ms : Nat} (hout : ∀ x ∈ c.exceptionTable.toList, covers x pc = false) (hlocks : meth.locks = false) (hcell : H[q]? = some ce) (hv : ce.vm = .none) (hcl : s.vm.findClass E = some ce.cls)
    (hx : ∀ t : State, t.heap = H → s.vm.Alike t.vm → XC E s t) (hf : ∀ z ∈ locs, free z.base) (hc : cells ≤ mc) (hs : slots ≤ ms) :
    vx_W p l e R s m args below meth c H locs cells slots (vx_MQ below Qc XC args s mc ms free) (F0 m pc ls rest) q := by
  intro T hT X
  obtain ⟨st1, hrun, hend, hW, hsm⟩ := X.leaveThrown q (g := F0 m pc ls rest) rfl rfl rfl hout hlocks
  have hcell9 : (T.setFrames (.throwing q :: below)).heap[q]? = some ce := by
    show T.heap[q]? = some ce
    rw [hT]; exact hcell
  exact ⟨_, st1, .threw q, hrun, hend, Or.inr ⟨q, rfl, E, ce, locs, hx _ hT hW.alike, hcell9, hv, hcl, hW, hsm.mono hc hs, hf⟩⟩
theorem vx_frame {U : State} {k n : Nat} (h : s.sameButNew ({ U with vm := s.vm } : State) locs k n) : s.heap.size ≤ U.heap.size ∧ ∀ q : Nat, q < s.heap.size → (∀ z ∈ locs, z.base ≠ q) → U.heap[q]? = s.heap[q]? := by
  obtain ⟨-, h2, -, -, -, h6⟩ := h
  refine ⟨h2, fun q hq hz => ?_⟩
  obtain ⟨c9, e1, e2, e3, e4⟩ := h6 q _ (Array.getElem?_eq_getElem hq)
  have hs : c9.slots = (s.heap[q]).slots := Array.ext_getElem? fun i => e4 i fun hm => hz _ hm rfl
  have h9 : c9 = s.heap[q] := by
    rw [hs] at e2
    exact e2
  have e5 : U.heap[q]? = some c9 := e1
  rw [e5, h9, Array.getElem?_eq_getElem hq]
/-- the words of a throw but the four that speak of the heap -/
def vx_no (w : Cond) : Bool := decide (w ≠ .isRef (.static Bundle.tN "UNASSIGNED_STACK" Bundle.steD)) && decide (w ≠ .isRef (.static Bundle.tN "SUPPRESSED_SENTINEL" Bundle.listD)) && decide (w ≠ .laysStatic Bundle.tN "UNASSIGNED_STACK" Bundle.steD) && decide (w ≠ .laysStatic Bundle.tN "SUPPRESSED_SENTINEL" Bundle.listD)
def vx_at0 (own : String) (ic : Nat) (X : String) (names : List String) : List Cond := (Bundle.ownAtoms0 own ic X names).filter vx_no
def vx_atS (own : String) (ic : Nat) (X : String) (names : List String) : List Cond := (Bundle.ownAtoms own ic X names).filter vx_no
/-- a word that the tables alone decide, or a good one -/
def vx_ot (w : Cond) : Bool := w.onTables || goodWord w
theorem vx_ot_at {args a' : Array Value} {s U : State} {w : Cond} (hW : s.WarmedH U.vm) (hvm : s.vm = U.vm) (hg : vx_ot w = true) (h : w.before args s = true) : w.before a' U = true := by
  simp only [vx_ot, Bool.or_eq_true] at hg
  rcases hg with hg | hg
  · exact va_tabs hg hvm h
  · exact word_at hW (good_of_word hg) h
/-- a list's words: the good ones out of the method's own list, the others by premises of their own -/
theorem vx_hat {args : Array Value} {s : State} {L B : List Cond} (h1 : ∀ w ∈ L.filter goodWord, w.before args s = true) (h2 : ∀ w ∈ L.filter (fun w => !goodWord w), w ∈ B) (h3 : ∀ w ∈ B, w.before args s = true) : ∀ w ∈ L, w.before args s = true := by
  intro w hw
  by_cases g : goodWord w = true
  · exact h1 w (List.mem_filter.mpr ⟨hw, g⟩)
  · refine h3 w (h2 w (List.mem_filter.mpr ⟨hw, ?_⟩))
    show (!goodWord w) = true
    cases hgw : goodWord w
    · rfl
    · exact absurd hgw g
theorem vx_c {args : Array Value} {s : State} {w : Cond} {B : List Cond} (h : w.before args s = true) (t : ∀ w ∈ B, w.before args s = true) : ∀ w' ∈ w :: B, w'.before args s = true := fun w' h' => (List.mem_cons.mp h').elim (fun e => by rw [e]; exact h) (t w')
theorem vx_n {args : Array Value} {s : State} : ∀ w ∈ ([] : List Cond), w.before args s = true := fun _ h => nomatch h
theorem vx_own {args : Array Value} {s : State} {L : List Cond} (h1 : ∀ w ∈ L.filter vx_no, w.before args s = true)
    (hU : (Cond.isRef (.static Bundle.tN "UNASSIGNED_STACK" Bundle.steD)).before args s = true) (hN : (Cond.isRef (.static Bundle.tN "SUPPRESSED_SENTINEL" Bundle.listD)).before args s = true)
    (lU : (Cond.laysStatic Bundle.tN "UNASSIGNED_STACK" Bundle.steD).before args s = true) (lN : (Cond.laysStatic Bundle.tN "SUPPRESSED_SENTINEL" Bundle.listD).before args s = true) : ∀ w ∈ L, w.before args s = true := by
  intro w hw
  by_cases e1 : w = .isRef (.static Bundle.tN "UNASSIGNED_STACK" Bundle.steD)
  · rw [e1]; exact hU
  · by_cases e2 : w = .isRef (.static Bundle.tN "SUPPRESSED_SENTINEL" Bundle.listD)
    · rw [e2]; exact hN
    · by_cases e3 : w = .laysStatic Bundle.tN "UNASSIGNED_STACK" Bundle.steD
      · rw [e3]; exact lU
      · by_cases e4 : w = .laysStatic Bundle.tN "SUPPRESSED_SENTINEL" Bundle.listD
        · rw [e4]; exact lN
        · exact h1 w (List.mem_filter.mpr ⟨hw, by unfold vx_no; rw [decide_eq_true e1, decide_eq_true e2, decide_eq_true e3, decide_eq_true e4]; rfl⟩)
/-- where a static field lies, its class's statics cell in H -/
def vx_L (C n d : String) (A : Nat → Prop) (U : State) (H : Heap) : Prop := ∃ (c : ClassId) (k : Class) (i : Nat) (f : Field) (a : Nat) (cell : Cell), U.vm.findClass C = some c ∧ U.fieldFound? C n d = some (c, k, i, f) ∧ f.isStatic = true ∧ k.statics = some a ∧ H[a]? = some cell ∧ cell.vm.isStatics = true ∧ cell.cls = c ∧ f.slot < cell.slots.size ∧ k.staticTypes[f.slot]? = some f.type ∧ ¬ A a
theorem vx_L.moved {C n d : String} {A : Nat → Prop} {u U : State} {H : Heap} (hvm : u.vm.Alike U.vm) (h : vx_L C n d A u H) : vx_L C n d A U H := by
  obtain ⟨c, k, i, f, a, cell, h1, h2, h3, h4, h5, h6, h7, h8, h9, h10⟩ := h
  obtain ⟨k', hi', he⟩ := State.fieldFound?_setVm hvm h2
  exact ⟨c, k', i, f, a, cell, by rw [hvm.findClass]; exact h1, hi', h3, by rw [he]; exact h4, h5, h6, h7, h8, by rw [he]; exact h9, h10⟩
theorem vx_L.kept {C n d : String} {A : Nat → Prop} {U : State} {H H1 : Heap} (h : vx_L C n d A U H) (hq : ∀ a : Nat, a < H.size → ¬ A a → H1[a]? = H[a]?) : vx_L C n d A U H1 := by
  obtain ⟨c, k, i, f, a, cell, h1, h2, h3, h4, h5, h6, h7, h8, h9, h10⟩ := h
  exact ⟨c, k, i, f, a, cell, h1, h2, h3, h4, by rw [hq a (Array.getElem?_eq_some_iff.mp h5).1 h10]; exact h5, h6, h7, h8, h9, h10⟩
theorem vx_L.narrow {C n d : String} {A B : Nat → Prop} {U : State} {H : Heap} (h : vx_L C n d A U H) (hAB : ∀ q, B q → A q) : vx_L C n d B U H := by
  obtain ⟨c, k, i, f, a, cell, h1, h2, h3, h4, h5, h6, h7, h8, h9, h10⟩ := h
  exact ⟨c, k, i, f, a, cell, h1, h2, h3, h4, h5, h6, h7, h8, h9, fun z => h10 (hAB _ z)⟩
theorem vx_L.word {C n d : String} {A : Nat → Prop} {s : State} {args : Array Value} (h : vx_L C n d A s s.heap) : (Cond.laysStatic C n d).before args s = true := by
  obtain ⟨c, k, i, f, a, cell, h1, h2, h3, h4, h5, h6, h7, h8, h9, -⟩ := h
  show (Cond.laysStatic C n d).holds args s none s [] = true
  exact Cond.laysStatic_of h1 h2 h3 h4 h5 h6 h7 h8 h9
/-- .. and what it holds: null or some reference -/
def vx_Zq (C n d : String) (A : Nat → Prop) (U : State) (H : Heap) : Prop := va_Zq C n d A U H ∧ vx_L C n d A U H
theorem vx_Zq.moved {C n d : String} {A : Nat → Prop} {u U : State} {H : Heap} (hvm : u.vm.Alike U.vm) (h : vx_Zq C n d A u H) : vx_Zq C n d A U H := ⟨va_Zq.moved hvm h.1, vx_L.moved hvm h.2⟩
theorem vx_Zq.kept {C n d : String} {A : Nat → Prop} {U : State} {H H1 : Heap} (h : vx_Zq C n d A U H) (hq : ∀ a : Nat, a < H.size → ¬ A a → H1[a]? = H[a]?) : vx_Zq C n d A U H1 := ⟨va_Zq.kept h.1 hq, vx_L.kept h.2 hq⟩
theorem vx_Zq.narrow {C n d : String} {A B : Nat → Prop} {U : State} {H : Heap} (h : vx_Zq C n d A U H) (hAB : ∀ q, B q → A q) : vx_Zq C n d B U H := ⟨va_Zq.narrow h.1 hAB, vx_L.narrow h.2 hAB⟩
theorem vx_Zqof {args : Array Value} {s : State} {C n d : String} {A : Nat → Prop} (hl : (Cond.laysStatic C n d).before args s = true) (hini : (Cond.initialized C).before args s = true) (h : (Cond.isRef (.static C n d)).before args s = true) (hA : ∀ a : Nat, a < s.heap.size → ¬ A a) : vx_Zq C n d A s s.heap := by
  refine ⟨va_Zqof hl hini h hA, ?_⟩
  obtain ⟨c, k, i, f, a, cell, h1, h2, h3, h4, h5, h6, h7, h8, h9⟩ := Cond.laysStatic_spec hl
  exact ⟨c, k, i, f, a, cell, h1, h2, h3, h4, h5, h6, h7, h8, h9, hA a (Array.getElem?_eq_some_iff.mp h5).1⟩
theorem vx_isRef {C n d : String} {v : Value} {A : Nat → Prop} {s : State} {args : Array Value} (h : va_Z C n d v A s s.heap) (hv : v.isRef = true) : (Cond.isRef (.static C n d)).before args s = true := by
  obtain ⟨cf, kf, fi, f, a, cell, h1, h2, h3, h4, h5, h6, h7, -⟩ := h
  have he : (Term.static C n d).eval args s none [] s = some v := by
    simp [Term.eval, State.fieldNamed?, h1, h2, h4, h5, h6, h7]
  simp only [Cond.before, Cond.holds, Cond.value, he]
  cases v <;> simp_all [Value.isRef]
theorem vx_isRefq {C n d : String} {A : Nat → Prop} {s : State} {args : Array Value} (h : va_Zq C n d A s s.heap) : (Cond.isRef (.static C n d)).before args s = true := by
  rcases h with h | ⟨t, h⟩
  · exact vx_isRef h rfl
  · exact vx_isRef h rfl
/-- the same frame, seen from here: as if the method were called anew in this heap -/
theorem vx_rebase {T : State} (X : Stand p l e R s m args below meth c T locs cells slots) {R' : Room} (hf : R'.frames ≤ R.frames) (hl : R'.locals ≤ R.locals) (hc : cells + R'.cells ≤ R.cells) (hs : slots + R'.slots ≤ R.slots) :
    Stand p l e R' ((T.setVm s.vm).setFrames (.invoking m args :: below)) m args below meth c T [] 0 0 := by
  have htop : (T.setVm s.vm).topJava?.isSome := X.here.top
  have hF : ((T.setVm s.vm).setFrames (.invoking m args :: below)).frames = .invoking m args :: below := State.frames_setFrames _ (State.cur_lt_of_top htop)
  obtain ⟨g₀, hg0⟩ := Option.isSome_iff_exists.mp htop
  obtain ⟨r, hr⟩ := State.topJava?_eq_some.mp hg0
  have hl9 : e.platform.stackLimits (T.setVm s.vm).me = e.platform.stackLimits s.me := X.limits
  have hb9 : (T.setVm s.vm).me.stackBytes = s.me.stackBytes := X.bytes
  refine ⟨X.admits, X.cas, X.clock, hF, ?_, X.hears, X.method, X.code, X.here, X.tail, X.warmed, ?_, ?_, ?_⟩
  · have h := X.room
    have hU : ((T.setVm s.vm).setFrames (.invoking m args :: below)).localsInUse = s.localsInUse := by
      rw [State.localsInUse_invoking hF (meth := meth) (c := c) X.method X.code, State.localsInUse_invoking X.frames X.method X.code]
    simp only [State.hasRoom, Bool.and_eq_true, decide_eq_true_eq] at h ⊢
    obtain ⟨⟨⟨⟨h1, h2, h3, h4, h5, h6⟩, h7⟩, h8⟩, h9⟩ := h
    rw [X.frames, List.length_cons] at h2 h3
    have q1 := X.heapSize
    have q2 := X.used
    simp only [hF, hU, List.length_cons, State.stackLimits_setFrames, State.stackBytes_setFrames, hl9, hb9]
    refine ⟨⟨⟨⟨by omega, by omega, by omega, by omega, by omega, h6⟩, ?_⟩, ?_⟩, X.book⟩
    · show T.heap.size + R'.cells ≤ e.platform.maxCells
      omega
    · show T.slotsUsed + R'.slots ≤ e.platform.maxSlots
      omega
  · rw [State.stackLimits_setFrames]; rfl
  · rw [State.stackBytes_setFrames]; rfl
  · refine ⟨?_, Nat.le_refl _, Nat.le_refl _, ?_, ?_, fun a c9 h9 => ⟨c9, h9, rfl, rfl, fun _ _ => rfl⟩⟩
    · obtain ⟨t, ht, -⟩ := State.frames_cons hr
      show T.setVm s.vm = { ((T.setVm s.vm).setFrames (.invoking m args :: below)).setFrames (T.setVm s.vm).frames with heap := T.heap, slotsUsed := T.slotsUsed }
      rw [State.setFrames_setFrames, State.setFrames_self ht]
      rfl
    · show T.slotsUsed = T.slotsUsed + ((T.heap.toList.drop T.heap.size).map (·.slots.size)).sum
      rw [List.drop_eq_nil_of_le (Nat.le_of_eq Array.length_toList)]
      rfl
    · show ((T.heap.toList.drop T.heap.size).map (·.slots.size)).sum ≤ 0
      rw [List.drop_eq_nil_of_le (Nat.le_of_eq Array.length_toList)]
      exact Nat.le_refl _
/-- 'throw new E()': new; dup; invokespecial; athrow -/
theorem vx_throw0 {cc : ByteArray} {pc : Nat} (hexec : p.tables.exec = Jvm.exec) (hb : c.code = cc) (hl : l.stackTraces = false) {own cls : String} {names : List String} {ik ic mc ms : Nat} {A : Nat → Prop}
    (hown : s.vm.findClass own = some m.cls) (hcls : Bundle.fit cls = true) (hnames : ∀ n ∈ names, Bundle.fit n = true)
    (hk : (Cond.classLink own ik cls).before args s = true) (hini : (Cond.initialized cls).before args s = true) (hat : ∀ w ∈ vx_at0 own ic cls names, w.before args s = true)
    (hgood : ∀ w ∈ Cond.classLink own ik cls :: Cond.initialized cls :: vx_at0 own ic cls names, vx_ot w = true)
    (hU : vx_Zq Bundle.tN "UNASSIGNED_STACK" Bundle.steD A s s.heap) (hN : vx_Zq Bundle.tN "SUPPRESSED_SENTINEL" Bundle.listD A s s.heap) (hS : va_S A s.heap H locs) (hsize : ls.size = c.maxLocals)
    (d0 : decode cc pc = .ok (.new ik, 3)) (d3 : decode cc (pc + 3) = .ok (.dup, 1)) (d4 : decode cc (pc + 4) = .ok (.invokespecial ic, 3)) (d7 : decode cc (pc + 7) = .ok (.athrow, 1))
    (hout : ∀ x ∈ c.exceptionTable.toList, covers x (pc + 7) = false)
    (hRframes : names.length + 3 < R.frames) (hRlocals : (rest.map fun v => v.category).sum + (13 * (names.length + 1) + 42) ≤ R.locals) (hRcells : cells + 1 ≤ R.cells) (hRslots : slots + 6 ≤ R.slots) (hlocks : meth.locks = false)
    (hx : ∀ t : State, s.vm.Alike t.vm → H.size ≤ t.heap.size → (∀ q : Nat, q < H.size → t.heap[q]? = H[q]?) → XC cls s t)
    (hf : ∀ z ∈ locs, free z.base) (hc : cells + 1 ≤ mc) (hs : slots + 6 ≤ ms) :
    W p l e R s m args below meth c H locs cells slots (vx_MQ below Qc XC args s mc ms free) (F0 m pc ls rest) := by
  intro T hT X
  have htr : e.platform.stackTraces = false := (show e.platform.stackTraces = l.stackTraces by rw [X.admits.platform]).trans hl
  have Y := vx_rebase X (R' := { frames := R.frames, locals := R.locals, cells := 1, slots := 6 }) (Nat.le_refl _) (Nat.le_refl _) hRcells hRslots
  obtain ⟨s', hA⟩ : ∃ z, z = (T.setVm s.vm).setFrames (.invoking m args :: below) := ⟨_, rfl⟩
  rw [← hA] at Y
  have hvm : s'.vm = s.vm := by rw [hA]; rfl
  have hhp : s'.heap = H := by rw [hA]; exact hT
  have hW0 : s.WarmedH s'.vm := by rw [hvm]; exact State.WarmedH.refl s
  have hat' : ∀ w ∈ vx_at0 own ic cls names, w.before args s' = true := fun w hw => vx_ot_at hW0 hvm.symm (hgood w (List.mem_cons_of_mem _ (List.mem_cons_of_mem _ hw))) (hat w hw)
  have hk' : (Cond.classLink own ik cls).before args s' = true := vx_ot_at hW0 hvm.symm (hgood _ List.mem_cons_self) hk
  have hini' : (Cond.initialized cls).before args s' = true := vx_ot_at hW0 hvm.symm (hgood _ (List.mem_cons_of_mem _ List.mem_cons_self)) hini
  have hU' : vx_Zq Bundle.tN "UNASSIGNED_STACK" Bundle.steD A s' s'.heap := by rw [hhp]; exact vx_Zq.moved hW0.alike (hU.kept hS.2.1)
  have hN' : vx_Zq Bundle.tN "SUPPRESSED_SENTINEL" Bundle.listD A s' s'.heap := by rw [hhp]; exact vx_Zq.moved hW0.alike (hN.kept hS.2.1)
  have h : ∀ w ∈ Bundle.ownAtoms0 own ic cls names, w.before args s' = true := vx_own hat' (vx_isRefq hU'.1) (vx_isRefq hN'.1) hU'.2.word hN'.2.word
  have hown' : s'.vm.findClass own = some m.cls := by rw [hvm]; exact hown
  have hins : (Cond.instantiable cls 6).before args s' = true := h _ (by simp [Bundle.ownAtoms0])
  obtain ⟨vm₁, cX, kX, hfX, hkX, -, -, X₁, st1⟩ := Y.newCold hexec (own := own) (C := cls) (index := ik) (n := 6) hown' hk' hins hini'
    (g := F0 m pc ls rest) rfl (by rw [hb]; exact d0) (Nat.le_refl _) (Nat.le_refl _)
  generalize hT1 : (T.setVm vm₁).pushCell { cls := cX, slots := kX.instanceTypes.map defaultValue, vm := .none } = T1 at X₁ st1
  have hcat : (Value.ref T.heap.size).category = 1 := rfl
  have hcellA : T1.heap[T.heap.size]? = some (freshCell cX kX) := by rw [← hT1]; exact State.heap_pushCell_size _ _
  have d3' : decode c.code (pc + 3) = .ok (.dup, 1) := by rw [hb]; exact d3
  obtain ⟨U, hsteps, hrun, hend, hW, hsame, ce, hce, hO⟩ := X₁.ctorThrow0 hexec htr (own := own) (cls := cls) (names := names) (ic := ic) hown' hcls hnames h (fun x hx => nomatch hx) hfX hkX hcellA (by rw [hhp, hT]; exact Nat.le_refl _)
    (g := { method := m, pc := pc + 4, locals := ls, stack := .ref T.heap.size :: .ref T.heap.size :: rest, locked := none }) rfl hsize rfl rfl (rest := rest) rfl
    (by rw [hb]; exact d4) (by rw [hb]; exact d7) hout hRframes (by simp only [List.map_cons, List.sum_cons, hcat]; omega) hlocks
  obtain ⟨f1, f2⟩ := vx_frame hsame
  rw [hhp] at f1 f2
  have hWs : s.WarmedH U.vm := State.WarmedH.trans hW0 hW
  have hcl : s.vm.findClass cls = some ce.cls := by
    have h9 := hO.cls
    rw [hvm] at h9
    exact h9
  have hall : s.sameButNew ({ U with vm := s.vm } : State) locs mc ms := by
    subst hA
    obtain ⟨e1, e2⟩ := hsame
    rw [State.setFrames_setFrames] at e1
    have h2 : (T.setVm s.vm).sameButNew ({ U with vm := s.vm } : State) [] (0 + 1) (0 + 6) := ⟨e1, e2⟩
    have h3 := X.same.trans h2
    rw [List.append_nil] at h3
    exact h3.mono hc hs
  refine ⟨U, ?_, .threw T.heap.size, hrun, hend, Or.inr ⟨T.heap.size, rfl, cls, ce, locs, hx U hWs.alike f1 (fun q hq => f2 q hq (fun z hz => nomatch hz)), hce, hO.vm, hcl, hWs, hall, hf⟩⟩
  refine st1 _ ?_
  show Steps p.tables e below (T1.setTop { method := m, pc := pc + 3, locals := ls, stack := .ref T.heap.size :: rest, locked := none }) _
  jvm_step X₁.here [X₁.here.top, hexec, d3', Value.category]
  exact hsteps
/-- 'throw new E("text")': new; dup; ldc; invokespecial; athrow -/
theorem vx_throwS {cc : ByteArray} {pc : Nat} (hexec : p.tables.exec = Jvm.exec) (hb : c.code = cc) (hl : l.stackTraces = false) {own cls text : String} {names : List String} {ik is ic mc ms sa : Nat} {A : Nat → Prop}
    (hown : s.vm.findClass own = some m.cls) (hcls : Bundle.fit cls = true) (hnames : ∀ n ∈ names, Bundle.fit n = true)
    (hk : (Cond.classLink own ik cls).before args s = true) (hini : (Cond.initialized cls).before args s = true) (hstr : vk_R own is text sa s) (hat : ∀ w ∈ vx_atS own ic cls names, w.before args s = true)
    (hgood : ∀ w ∈ Cond.classLink own ik cls :: Cond.initialized cls :: vx_atS own ic cls names, vx_ot w = true)
    (hU : vx_Zq Bundle.tN "UNASSIGNED_STACK" Bundle.steD A s s.heap) (hN : vx_Zq Bundle.tN "SUPPRESSED_SENTINEL" Bundle.listD A s s.heap) (hS : va_S A s.heap H locs) (hsize : ls.size = c.maxLocals)
    (d0 : decode cc pc = .ok (.new ik, 3)) (d3 : decode cc (pc + 3) = .ok (.dup, 1)) (d4 : decode cc (pc + 4) = .ok (.ldc is, 2)) (d6 : decode cc (pc + 6) = .ok (.invokespecial ic, 3)) (d9 : decode cc (pc + 9) = .ok (.athrow, 1))
    (hout : ∀ x ∈ c.exceptionTable.toList, covers x (pc + 9) = false)
    (hRframes : names.length + 3 < R.frames) (hRlocals : (rest.map fun v => v.category).sum + (13 * (names.length + 1) + 43) ≤ R.locals) (hRcells : cells + 1 ≤ R.cells) (hRslots : slots + 6 ≤ R.slots) (hlocks : meth.locks = false)
    (hx : ∀ t : State, s.vm.Alike t.vm → H.size ≤ t.heap.size → (∀ q : Nat, q < H.size → t.heap[q]? = H[q]?) → XC cls s t)
    (hf : ∀ z ∈ locs, free z.base) (hc : cells + 1 ≤ mc) (hs : slots + 6 ≤ ms) :
    W p l e R s m args below meth c H locs cells slots (vx_MQ below Qc XC args s mc ms free) (F0 m pc ls rest) := by
  intro T hT X
  have htr : e.platform.stackTraces = false := (show e.platform.stackTraces = l.stackTraces by rw [X.admits.platform]).trans hl
  have Y := vx_rebase X (R' := { frames := R.frames, locals := R.locals, cells := 1, slots := 6 }) (Nat.le_refl _) (Nat.le_refl _) hRcells hRslots
  obtain ⟨s', hA⟩ : ∃ z, z = (T.setVm s.vm).setFrames (.invoking m args :: below) := ⟨_, rfl⟩
  rw [← hA] at Y
  have hvm : s'.vm = s.vm := by rw [hA]; rfl
  have hhp : s'.heap = H := by rw [hA]; exact hT
  have hW0 : s.WarmedH s'.vm := by rw [hvm]; exact State.WarmedH.refl s
  have hat' : ∀ w ∈ vx_atS own ic cls names, w.before args s' = true := fun w hw => vx_ot_at hW0 hvm.symm (hgood w (List.mem_cons_of_mem _ (List.mem_cons_of_mem _ hw))) (hat w hw)
  have hk' : (Cond.classLink own ik cls).before args s' = true := vx_ot_at hW0 hvm.symm (hgood _ List.mem_cons_self) hk
  have hini' : (Cond.initialized cls).before args s' = true := vx_ot_at hW0 hvm.symm (hgood _ (List.mem_cons_of_mem _ List.mem_cons_self)) hini
  have hU' : vx_Zq Bundle.tN "UNASSIGNED_STACK" Bundle.steD A s' s'.heap := by rw [hhp]; exact vx_Zq.moved hW0.alike (hU.kept hS.2.1)
  have hN' : vx_Zq Bundle.tN "SUPPRESSED_SENTINEL" Bundle.listD A s' s'.heap := by rw [hhp]; exact vx_Zq.moved hW0.alike (hN.kept hS.2.1)
  have h : ∀ w ∈ Bundle.ownAtoms own ic cls names, w.before args s' = true := vx_own hat' (vx_isRefq hU'.1) (vx_isRefq hN'.1) hU'.2.word hN'.2.word
  have hown' : s'.vm.findClass own = some m.cls := by rw [hvm]; exact hown
  have hins : (Cond.instantiable cls 6).before args s' = true := h _ (by simp [Bundle.ownAtoms])
  obtain ⟨vm₁, cX, kX, hfX, hkX, -, -, X₁, st1⟩ := Y.newCold hexec (own := own) (C := cls) (index := ik) (n := 6) hown' hk' hins hini'
    (g := F0 m pc ls rest) rfl (by rw [hb]; exact d0) (Nat.le_refl _) (Nat.le_refl _)
  generalize hT1 : (T.setVm vm₁).pushCell { cls := cX, slots := kX.instanceTypes.map defaultValue, vm := .none } = T1 at X₁ st1
  have hcat : (Value.ref T.heap.size).category = 1 := rfl
  have hcellA : T1.heap[T.heap.size]? = some (freshCell cX kX) := by rw [← hT1]; exact State.heap_pushCell_size _ _
  have d3' : decode c.code (pc + 3) = .ok (.dup, 1) := by rw [hb]; exact d3
  have d4' : decode c.code (pc + 4) = .ok (.ldc is, 2) := by rw [hb]; exact d4
  have hstr' : vk_R own is text sa s' := vk_R.warm hW0 hstr
  obtain ⟨U, hsteps, hrun, hend, hW, hsame, ce, hce, hO⟩ := X₁.ctorThrowS hexec htr (own := own) (cls := cls) (names := names) (ic := ic) hown' hcls hnames h (fun x hx => nomatch hx) hfX hkX hcellA (by rw [hhp, hT]; exact Nat.le_refl _) (msg := .ref sa) rfl
    (g := { method := m, pc := pc + 6, locals := ls, stack := .ref sa :: .ref T.heap.size :: .ref T.heap.size :: rest, locked := none }) rfl hsize rfl rfl (rest := rest) rfl
    (by rw [hb]; exact d6) (by rw [hb]; exact d9) hout hRframes (by simp only [List.map_cons, List.sum_cons, hcat]; omega) hlocks
  obtain ⟨f1, f2⟩ := vx_frame hsame
  rw [hhp] at f1 f2
  have hWs : s.WarmedH U.vm := State.WarmedH.trans hW0 hW
  have hcl : s.vm.findClass cls = some ce.cls := by
    have h9 := hO.cls
    rw [hvm] at h9
    exact h9
  have hall : s.sameButNew ({ U with vm := s.vm } : State) locs mc ms := by
    subst hA
    obtain ⟨e1, e2⟩ := hsame
    rw [State.setFrames_setFrames] at e1
    have h2 : (T.setVm s.vm).sameButNew ({ U with vm := s.vm } : State) [] (0 + 1) (0 + 6) := ⟨e1, e2⟩
    have h3 := X.same.trans h2
    rw [List.append_nil] at h3
    exact h3.mono hc hs
  refine ⟨U, ?_, .threw T.heap.size, hrun, hend, Or.inr ⟨T.heap.size, rfl, cls, ce, locs, hx U hWs.alike f1 (fun q hq => f2 q hq (fun z hz => nomatch hz)), hce, hO.vm, hcl, hWs, hall, hf⟩⟩
  refine st1 _ ?_
  show Steps p.tables e below (T1.setTop { method := m, pc := pc + 3, locals := ls, stack := .ref T.heap.size :: rest, locked := none }) _
  jvm_step X₁.here [X₁.here.top, hexec, d3', Value.category]
  exact X₁.ldcString hexec (own := own) (text := text) (index := is) (a := sa) hown' hstr'.1 hstr'.2
    (g := { method := m, pc := pc + 4, locals := ls, stack := .ref T.heap.size :: .ref T.heap.size :: rest, locked := none }) rfl d4' _ hsteps
/-- 'throw new E("text")', the text by a wide index -/
theorem vx_throwSW {cc : ByteArray} {pc : Nat} (hexec : p.tables.exec = Jvm.exec) (hb : c.code = cc) (hl : l.stackTraces = false) {own cls text : String} {names : List String} {ik is ic mc ms sa : Nat} {A : Nat → Prop}
    (hown : s.vm.findClass own = some m.cls) (hcls : Bundle.fit cls = true) (hnames : ∀ n ∈ names, Bundle.fit n = true)
    (hk : (Cond.classLink own ik cls).before args s = true) (hini : (Cond.initialized cls).before args s = true) (hstr : vk_R own is text sa s) (hat : ∀ w ∈ vx_atS own ic cls names, w.before args s = true)
    (hgood : ∀ w ∈ Cond.classLink own ik cls :: Cond.initialized cls :: vx_atS own ic cls names, vx_ot w = true)
    (hU : vx_Zq Bundle.tN "UNASSIGNED_STACK" Bundle.steD A s s.heap) (hN : vx_Zq Bundle.tN "SUPPRESSED_SENTINEL" Bundle.listD A s s.heap) (hS : va_S A s.heap H locs) (hsize : ls.size = c.maxLocals)
    (d0 : decode cc pc = .ok (.new ik, 3)) (d3 : decode cc (pc + 3) = .ok (.dup, 1)) (d4 : decode cc (pc + 4) = .ok (.ldc_w is, 3)) (d7 : decode cc (pc + 7) = .ok (.invokespecial ic, 3)) (d10 : decode cc (pc + 10) = .ok (.athrow, 1))
    (hout : ∀ x ∈ c.exceptionTable.toList, covers x (pc + 10) = false)
    (hRframes : names.length + 3 < R.frames) (hRlocals : (rest.map fun v => v.category).sum + (13 * (names.length + 1) + 43) ≤ R.locals) (hRcells : cells + 1 ≤ R.cells) (hRslots : slots + 6 ≤ R.slots) (hlocks : meth.locks = false)
    (hx : ∀ t : State, s.vm.Alike t.vm → H.size ≤ t.heap.size → (∀ q : Nat, q < H.size → t.heap[q]? = H[q]?) → XC cls s t)
    (hf : ∀ z ∈ locs, free z.base) (hc : cells + 1 ≤ mc) (hs : slots + 6 ≤ ms) :
    W p l e R s m args below meth c H locs cells slots (vx_MQ below Qc XC args s mc ms free) (F0 m pc ls rest) := by
  intro T hT X
  have htr : e.platform.stackTraces = false := (show e.platform.stackTraces = l.stackTraces by rw [X.admits.platform]).trans hl
  have Y := vx_rebase X (R' := { frames := R.frames, locals := R.locals, cells := 1, slots := 6 }) (Nat.le_refl _) (Nat.le_refl _) hRcells hRslots
  obtain ⟨s', hA⟩ : ∃ z, z = (T.setVm s.vm).setFrames (.invoking m args :: below) := ⟨_, rfl⟩
  rw [← hA] at Y
  have hvm : s'.vm = s.vm := by rw [hA]; rfl
  have hhp : s'.heap = H := by rw [hA]; exact hT
  have hW0 : s.WarmedH s'.vm := by rw [hvm]; exact State.WarmedH.refl s
  have hat' : ∀ w ∈ vx_atS own ic cls names, w.before args s' = true := fun w hw => vx_ot_at hW0 hvm.symm (hgood w (List.mem_cons_of_mem _ (List.mem_cons_of_mem _ hw))) (hat w hw)
  have hk' : (Cond.classLink own ik cls).before args s' = true := vx_ot_at hW0 hvm.symm (hgood _ List.mem_cons_self) hk
  have hini' : (Cond.initialized cls).before args s' = true := vx_ot_at hW0 hvm.symm (hgood _ (List.mem_cons_of_mem _ List.mem_cons_self)) hini
  have hU' : vx_Zq Bundle.tN "UNASSIGNED_STACK" Bundle.steD A s' s'.heap := by rw [hhp]; exact vx_Zq.moved hW0.alike (hU.kept hS.2.1)
  have hN' : vx_Zq Bundle.tN "SUPPRESSED_SENTINEL" Bundle.listD A s' s'.heap := by rw [hhp]; exact vx_Zq.moved hW0.alike (hN.kept hS.2.1)
  have h : ∀ w ∈ Bundle.ownAtoms own ic cls names, w.before args s' = true := vx_own hat' (vx_isRefq hU'.1) (vx_isRefq hN'.1) hU'.2.word hN'.2.word
  have hown' : s'.vm.findClass own = some m.cls := by rw [hvm]; exact hown
  have hins : (Cond.instantiable cls 6).before args s' = true := h _ (by simp [Bundle.ownAtoms])
  obtain ⟨vm₁, cX, kX, hfX, hkX, -, -, X₁, st1⟩ := Y.newCold hexec (own := own) (C := cls) (index := ik) (n := 6) hown' hk' hins hini'
    (g := F0 m pc ls rest) rfl (by rw [hb]; exact d0) (Nat.le_refl _) (Nat.le_refl _)
  generalize hT1 : (T.setVm vm₁).pushCell { cls := cX, slots := kX.instanceTypes.map defaultValue, vm := .none } = T1 at X₁ st1
  have hcat : (Value.ref T.heap.size).category = 1 := rfl
  have hcellA : T1.heap[T.heap.size]? = some (freshCell cX kX) := by rw [← hT1]; exact State.heap_pushCell_size _ _
  have d3' : decode c.code (pc + 3) = .ok (.dup, 1) := by rw [hb]; exact d3
  have d4' : decode c.code (pc + 4) = .ok (.ldc_w is, 3) := by rw [hb]; exact d4
  have hstr' : vk_R own is text sa s' := vk_R.warm hW0 hstr
  obtain ⟨U, hsteps, hrun, hend, hW, hsame, ce, hce, hO⟩ := X₁.ctorThrowS hexec htr (own := own) (cls := cls) (names := names) (ic := ic) hown' hcls hnames h (fun x hx => nomatch hx) hfX hkX hcellA (by rw [hhp, hT]; exact Nat.le_refl _) (msg := .ref sa) rfl
    (g := { method := m, pc := pc + 7, locals := ls, stack := .ref sa :: .ref T.heap.size :: .ref T.heap.size :: rest, locked := none }) rfl hsize rfl rfl (rest := rest) rfl
    (by rw [hb]; exact d7) (by rw [hb]; exact d10) hout hRframes (by simp only [List.map_cons, List.sum_cons, hcat]; omega) hlocks
  obtain ⟨f1, f2⟩ := vx_frame hsame
  rw [hhp] at f1 f2
  have hWs : s.WarmedH U.vm := State.WarmedH.trans hW0 hW
  have hcl : s.vm.findClass cls = some ce.cls := by
    have h9 := hO.cls
    rw [hvm] at h9
    exact h9
  have hall : s.sameButNew ({ U with vm := s.vm } : State) locs mc ms := by
    subst hA
    obtain ⟨e1, e2⟩ := hsame
    rw [State.setFrames_setFrames] at e1
    have h2 : (T.setVm s.vm).sameButNew ({ U with vm := s.vm } : State) [] (0 + 1) (0 + 6) := ⟨e1, e2⟩
    have h3 := X.same.trans h2
    rw [List.append_nil] at h3
    exact h3.mono hc hs
  refine ⟨U, ?_, .threw T.heap.size, hrun, hend, Or.inr ⟨T.heap.size, rfl, cls, ce, locs, hx U hWs.alike f1 (fun q hq => f2 q hq (fun z hz => nomatch hz)), hce, hO.vm, hcl, hWs, hall, hf⟩⟩
  refine st1 _ ?_
  show Steps p.tables e below (T1.setTop { method := m, pc := pc + 3, locals := ls, stack := .ref T.heap.size :: rest, locked := none }) _
  jvm_step X₁.here [X₁.here.top, hexec, d3', Value.category]
  exact X₁.ldcStringW hexec (own := own) (text := text) (index := is) (a := sa) hown' hstr'.1 hstr'.2
    (g := { method := m, pc := pc + 4, locals := ls, stack := .ref T.heap.size :: .ref T.heap.size :: rest, locked := none }) rfl d4' _ hsteps
end Ends
section Bodies
variable {l : Launch}
theorem vx_ofW {y : MethodName} {ws ws' : List Cond} {rm : Room} {Pc : Array Value → State → Prop} {Qc : Array Value → State → Outcome → State → Prop} {XC : String → State → State → Prop} {mc ms : Nat} {free : Addr → Prop} {cc : ByteArray} {maxL : Nat} {ret : Option FieldType}
    (hy : plainName y.cls = true) (hw : ws = Cond.code y cc maxL ret :: ws')
    (body : ∀ p e s m args below meth c s₁, BodyLoose p l y (headSpec ws rm) cc maxL ret e s m args below meth c s₁ → c.maxLocals = maxL → (∀ x ∈ c.exceptionTable.toList, False) → Pc args s →
      W p l e (headSpec ws rm).room s m args below meth c s.heap [] 0 0 (vx_MQ below Qc XC args s mc ms free) (entryFrame m args maxL)) : vx_Met l y ws rm Pc Qc XC mc ms free := by
  refine MetFree.of_bodyS (code := cc) (maxLocals := maxL) (ret := ret) hy ?_ ?_
  · intro args s m h hn
    obtain ⟨meth, c, h1, h2, h3, h4, h5, h6, -, -⟩ := Cond.code_spec hn (atoms_spec (ws := ws) h _ (by rw [hw]; exact List.mem_cons_self))
    exact ⟨meth, c, h1, h2, h3, h4, h5, h6⟩
  · intro p e s m args below meth c s₁ B hml hP _
    have hh0 : s₁.heap = s.heap := by rw [B.state]; rfl
    have ht : ∀ x ∈ c.exceptionTable.toList, False := by
      obtain ⟨meth9, c9, h1, h2, -, -, -, -, h7, -⟩ := Cond.code_spec B.named (atoms_spec (ws := ws) B.pre _ (by rw [hw]; exact List.mem_cons_self))
      cases Option.some.inj (h1.symm.trans B.method)
      cases Option.some.inj (h2.symm.trans (Stand.of_body B).code)
      intro x hx
      rw [Array.isEmpty_iff.mp h7] at hx
      cases hx
    obtain ⟨t, a1, o, b1, b2, b3⟩ := body p e s m args below meth c s₁ B hml ht hP s₁ hh0 (Stand.of_body B)
    exact ⟨t, o, a1, b1, b2, b3⟩
/-- the table of a body with handlers -/
theorem vx_table {p : Program} {x y : MethodName} {S : Spec} {cc bytes : ByteArray} {maxL maxL' : Nat} {ret ret' : Option FieldType} {e : Env} {s s₁ : State} {m : MethodId} {args : Array Value} {below : List Frame} {meth : Method} {c : Code} {hh : List (Nat × Nat × Nat × Nat)}
    (B : BodyLoose p l y S cc maxL ret e s m args below meth c s₁) (h : (Cond.codeWith y bytes maxL' ret' hh).before args s = true) : c.exceptionTable.toList = tableOf hh := by
  obtain ⟨m9, meth9, c9, hn9, h1, h2, -, -, h6, -⟩ := Cond.codeWith_spec h
  cases Option.some.inj (hn9.symm.trans B.named)
  cases Option.some.inj (h1.symm.trans B.method)
  cases Option.some.inj (h2.symm.trans (Stand.of_body B).code)
  rw [← h6, table_eq]
end Bodies
end VXA
/-! ===== END ===== -/
/-! ===== BEGIN a static call of a method with an exception table ===== -/
section VXS
variable {p : Program} {l : Launch} {e : Env} {R : Room} {s : State} {m : MethodId} {args : Array Value} {below : List Frame} {meth : Method} {c : Code} {T : State} {H : Heap} {locs : List Loc} {cells slots : Nat}
abbrev vx_CSW (R : Room) (s : State) (args : Array Value) (own : String) (index : Nat) (y : MethodName) (bytes : ByteArray) (maxL : Nat) (ret : Option FieldType) (hh : List (Nat × Nat × Nat × Nat)) (ws : List Cond) (rm : Room) (mc ms n : Nat) : Prop :=
  (rm.cells = mc ∧ rm.slots = ms ∧ rm.frames + 1 ≤ R.frames ∧ 8 + (maxL + 11) + rm.locals ≤ R.locals ∧ (∀ w ∈ ws, ∀ (a' : Array Value) (U : State), s.WarmedH U.vm → w.before a' U = true) ∧ Cond.codeWith y bytes maxL ret hh ∈ ws) ∧
  (Cond.codeWith y bytes maxL ret hh).before args s = true ∧ (Cond.initialized y.cls).before args s = true ∧ (y.cls ≠ "java/lang/invoke/MethodHandle" ∧ y.cls ≠ "java/lang/invoke/VarHandle") ∧
  (∀ sig, parseMethodDescriptor y.desc = some sig → n = sig.parameters.length) ∧ (Cond.methodLink own index y).before args s = true ∧ (Cond.static y).before args s = true
theorem vx_cwSW {own : String} {index maxL mc ms : Nat} {y : MethodName} {bytes : ByteArray} {ret : Option FieldType} {hh : List (Nat × Nat × Nat × Nat)} {Ts ws ws' : List Cond} {rm : Room} (n : Nat) (ht : ∀ w ∈ Ts, w.before args s = true) (hT : GoodIn Ts (va_wsS own index y ws)) (hw : ws = Cond.codeWith y bytes maxL ret hh :: ws') (hrc : rm.cells = mc) (hrs : rm.slots = ms)
    (hd : y.cls ≠ "java/lang/invoke/MethodHandle" ∧ y.cls ≠ "java/lang/invoke/VarHandle" ∧ (parseMethodDescriptor y.desc).map (fun d => d.parameters.length) = some n) (hR : rm.frames + 1 ≤ R.frames ∧ 8 + (maxL + 11) + rm.locals ≤ R.locals) :
    vx_CSW R s args own index y bytes maxL ret hh ws rm mc ms n := by
  have ok : ∀ w ∈ va_wsS own index y ws, w.before args s = true := fun w h => ht w (hT w h).1
  have hG : GoodIn Ts ws := fun w h => hT w (by unfold va_wsS; exact List.mem_append_right _ h)
  have hc : Cond.codeWith y bytes maxL ret hh ∈ ws := by rw [hw]; exact List.mem_cons_self
  refine ⟨⟨hrc, hrs, hR.1, hR.2, pay_in ht hG, hc⟩, ht _ (hG _ hc).1, ok _ (by simp [va_wsS]), ⟨hd.1, hd.2.1⟩, fun sig h => ?_, ok _ (by simp [va_wsS]), ok _ (by simp [va_wsS])⟩
  have h2 := hd.2.2
  rw [h] at h2
  exact (Option.some.inj h2).symm
theorem vx_callSW (X : Stand p l e R s m args below meth c T locs cells slots) (hexec : p.tables.exec = Jvm.exec) {own : String} {index : Nat} {y : MethodName} {bytes : ByteArray} {maxL : Nat} {ret : Option FieldType} {hh : List (Nat × Nat × Nat × Nat)}
    (hown : s.vm.findClass own = some m.cls) (hlink : (Cond.methodLink own index y).before args s = true) (hstat : (Cond.static y).before args s = true) (hinit : (Cond.initialized y.cls).before args s = true)
    (hcode : (Cond.codeWith y bytes maxL ret hh).before args s = true) (hy : y.cls ≠ "java/lang/invoke/MethodHandle" ∧ y.cls ≠ "java/lang/invoke/VarHandle")
    {W9 : Nat} {Pre : Pt → Array Value → Prop} {Post : Pt → Array Value → Option Value → Pt → Prop} (hK : Back l R p e below s args y 3 W9 Pre Post)
    {g : JFrame} (hg : g.method = m) (hsize : g.locals.size = c.maxLocals) {argsL rest : List Value} (hlen : ∀ sig, parseMethodDescriptor y.desc = some sig → argsL.length = sig.parameters.length)
    (hstack : g.stack = argsL.reverse ++ rest) (hW : 2 * g.monitorRoom + (rest.map fun v => v.category).sum ≤ W9) (hdg : decode c.code g.pc = .ok (.invokestatic index, 3))
    (hpre : ∀ vm₁, s.WarmedH vm₁ → Pre ⟨T.setVm vm₁, locs, cells, slots⟩ argsL.toArray) :
    ∃ (v : Option Value) (vm₁ : Vm) (B : Pt), s.WarmedH vm₁ ∧ Stand p l e R s m args below meth c B.U B.locs B.cells B.slots ∧ Post ⟨T.setVm vm₁, locs, cells, slots⟩ argsL.toArray v B ∧
      ∀ target, Steps p.tables e below (B.U.setTop { g with pc := g.pc + 3, stack := v.toList ++ rest }) target → Steps p.tables e below (T.setTop g) target := by
  obtain ⟨mk, methM, cM, hnamed, hmethM, -, -, -, -, -, -, hsigM⟩ := Cond.codeWith_spec hcode
  have hstatic : methM.isStatic = true := Cond.static_spec hnamed hmethM hstat
  obtain ⟨kP, hkP, -⟩ := className_of_methodNamed hnamed
  have hinitP : kP.init = .initialized := Cond.initialized_spec (findClass_of_methodNamed hnamed) hkP hinit
  obtain ⟨vm₁, X₁, hstep₁⟩ := X.invokestatic hexec hown hlink hnamed hmethM hstatic hkP hinitP hy (g := g) hg (argsL := argsL) (rest := rest) (hlen _ hsigM) hstack hdg
  obtain ⟨v, B, X', hpost, hsteps⟩ := hK m meth c ⟨T.setVm vm₁, locs, cells, slots⟩ { g with stack := rest } (.invokestatic index) mk argsL.toArray X₁ hg hsize hdg hW (X₁.named hnamed) (hpre vm₁ X₁.warmed)
  exact ⟨v, vm₁, B, X₁.warmed, X', hpost, fun target h => hstep₁ _ fun acts => by rw [doInvoke_state]; exact hsteps.trans h⟩
theorem vx_runSW {y : MethodName} {bytes cc : ByteArray} {maxL nL mc ms n index : Nat} {ret : Option FieldType} {hh : List (Nat × Nat × Nat × Nat)} {ws : List Cond} {rm : Room} {Pc : Array Value → State → Prop} {Qc : Array Value → State → Outcome → State → Prop} {free : Addr → Prop} {Ts : List Cond} {own : String} {As rest : List Value} {g : JFrame}
    (S : CallFix p m c cc nL s args Ts own) (hM : Met l y ws rm Pc Qc mc ms free) (cw : vx_CSW R s args own index y bytes maxL ret hh ws rm mc ms n) (hp : PreS s H Pc As)
    (hg : g.method = m) (hn : As.length = n) (hsize : g.locals.size = nL) (hstack : g.stack = As.reverse ++ rest) (hW : 2 * g.monitorRoom + (rest.map fun v => v.category).sum ≤ 8) (hdg : decode cc g.pc = .ok (.invokestatic index, 3)) (hf : cells + mc ≤ R.cells ∧ slots + ms ≤ R.slots) :
    va_Run p l e R s m args below meth c H locs cells slots mc ms g rest (Qc As.toArray) (free) := by
  obtain ⟨⟨hrc, hrs, hfr, hlo, hws, hcw⟩, hcode, hini, hy, hlen, hl, hstt⟩ := cw
  have hK : Back l R p e below s args y 3 8 (PreOf R mc ms Pc) (PostOf Qc mc ms free) := va_backW (hh := hh) (bytes := bytes) (maxL := maxL) (ret := ret) hM hp.1 hrc hrs hfr hlo hws hcw (fun a' U hW => word_at hW (Or.inl (by first | rfl | simp [Cond.onTables, Cond.keeps, Cond.steady])) hini)
  obtain ⟨hx, hb, hml, ho, -⟩ := S
  intro T hT X
  obtain ⟨v, vm₁, ⟨U', l2, c2, s2⟩, hW₁, X', ⟨g', mk, t, L, e1, e2, hq, h1, hL, h2, h3⟩, st⟩ := vx_callSW X hx (hh := hh) (bytes := bytes) (maxL := maxL) (ret := ret) ho hl hstt hini hcode hy hK hg (hsize.trans hml.symm) (argsL := As) (rest := rest) (fun sig h => hn.trans (hlen sig h)) hstack hW (by rw [hb]; exact hdg)
    (fun vm₁ hW₁ => ⟨hf.1, hf.2, hp.2 (T.setVm vm₁) hT hW₁⟩)
  dsimp only [Pt.U, Pt.locs, Pt.cells, Pt.slots] at X' e1 e2 h1 h2 h3 st
  subst h1; subst h2; subst h3
  exact ⟨v, (T.setVm vm₁).calling g' mk As.toArray, t, U', L, hT, X', hL, e1, e2, hq, st⟩
/-- not caught here, past rows that name other classes: it goes on to the caller -/
theorem vx_outP {p : Program} {l : Launch} {e : Env} {R : Room} {s : State} {m : MethodId} {args : Array Value} {below : List Frame} {meth : Method} {c : Code} {H : Heap} {locs : List Loc} {cells slots : Nat} {free : Addr → Prop} {ls : Array Slot} {rest : List Value} {Qc : Array Value → State → Outcome → State → Prop} {XC : String → State → State → Prop}
    {pc : Nat} {own E : String} {ce : Cell} {q : Addr} {mc ms : Nat} (hown : s.vm.findClass own = some m.cls) (hlocks : meth.locks = false)
    (hpass : ∀ z ∈ c.exceptionTable.toList, covers z pc = false ∨ (z.catchType ≠ 0 ∧ ∃ nm : String, (Cond.classLink own z.catchType nm).before args s = true ∧ va_Nc E nm s)) (hcell : H[q]? = some ce) (hv : ce.vm = .none) (hcl : s.vm.findClass E = some ce.cls)
    (hx : ∀ t : State, t.heap = H → s.vm.Alike t.vm → XC E s t) (hf : ∀ z ∈ locs, free z.base) (hc : cells ≤ mc) (hs : slots ≤ ms) :
    vx_W p l e R s m args below meth c H locs cells slots (vx_MQ below Qc XC args s mc ms free) (F0 m pc ls rest) q := by
  intro T hT X
  have hpl : e.platform.magicAccessors = ({} : Platform).magicAccessors := by rw [X.admits.platform]
  obtain ⟨vm', hW', X', st⟩ := X.outThrough hlocks q (g := F0 m pc ls rest) rfl rfl rfl (cell := ce) (by rw [hT]; exact hcell) (by rw [hv]; rfl)
    (by obtain ⟨k9, h9, -⟩ := Vm.findClass_spec hcl; exact ⟨k9, h9⟩) (fun z hz => by
      rcases hpass z hz with h | ⟨hz0, nm, hl1, hn1⟩
      · exact Or.inl h
      · obtain ⟨c6, hc6, hcl6⟩ := Cond.classLink_spec hown hl1 e.platform hpl
        obtain ⟨a8, b8, h1, h2, h3⟩ := hn1
        cases Option.some.inj (h1.symm.trans hcl)
        cases Option.some.inj (h2.symm.trans hc6)
        exact Or.inr ⟨hz0, _, hcl6, h3⟩)
  obtain ⟨g₀, hfr⟩ := X'.frames_eq
  have hcell9 : ((T.setVm vm').setFrames (.throwing q :: below)).heap[q]? = some ce := by
    show T.heap[q]? = some ce
    rw [hT]; exact hcell
  have hend : Ended ((T.setVm vm').setFrames (.throwing q :: below)) below (.threw q) := State.frames_setFrames _ (State.cur_lt_of_frames hfr)
  refine ⟨(T.setVm vm').setFrames (.throwing q :: below), ?_, .threw q, X'.here.running, hend, Or.inr ⟨q, rfl, E, ce, locs, hx _ hT (X'.ends _).1.alike, hcell9, hv, hcl, (X'.ends _).1, (X'.ends _).2.mono hc hs, hf⟩⟩
  rw [X.pushThrowing_eq]
  exact st
/-- a thing of a world lies in the heap -/
theorem vx_lt {D : va_G} {cl : List vw_C} {ws : va_W} {H1 : Heap} (h : va_P D cl ws H1) {k : Nat} {q : Nat × va_E} (hk : ws[k]? = some q) : q.1 < H1.size := (h k q hk).lt
end VXS
/-! ===== END ===== -/
/-! ===== BEGIN methods with a table of their own: called by a name, returning or throwing ===== -/
section VXH
/-! vx_backW, vx_callVX, vx_callSX, vx_callVW, vx_runVW, vx_runVX, vx_runSX, vx_ofWH follow the same proofs as their sisters above (Free/Laws.lean, Shelf42/LK1.lean); vx_outP calls Shelf42/NT130.lean (outThrough). -/
section
variable {l : Launch} {R : Room} {p : Program} {e : Env} {below : List Frame} {s : State} {sargs : Array Value} {y : MethodName} {len W9 : Nat}
theorem vx_backW {ws : List Cond} {rm : Room} {Pc : Array Value → State → Prop} {Qc : Array Value → State → Outcome → State → Prop} {XC : String → State → State → Prop} {mc ms : Nat} {free : Addr → Prop} {bytes : ByteArray} {maxL : Nat} {ret : Option FieldType} {hh : List (Nat × Nat × Nat × Nat)}
    (hM : vx_Met l y ws rm Pc Qc XC mc ms free) (hblind : FrameBlind Pc) (hrc : rm.cells = mc) (hrs : rm.slots = ms)
    (hframes : rm.frames + 1 ≤ R.frames) (hlocals : W9 + (maxL + 11) + rm.locals ≤ R.locals)
    (hws : ∀ w ∈ ws, ∀ a' U, s.WarmedH U.vm → w.before a' U = true) (hcode : Cond.codeWith y bytes maxL ret hh ∈ ws) (hinit : ∀ a' U, s.WarmedH U.vm → (Cond.initialized y.cls).before a' U = true) :
    vx_Back l R p e below s sargs y len W9 (PreOf R mc ms Pc) (PostOf Qc mc ms free) (vx_Post XC mc ms free) := by
  intro m meth c A g ig mk a X hg hsize hdg hW hn hp
  have h1 : (headSpec ws rm).pre.before a A.U = true := atoms_intro fun w hw => hws w hw _ _ X.warmed
  have h2 : (Cond.codeWith y bytes maxL ret hh).before a A.U = true := hws _ hcode _ _ X.warmed
  have h3 : (Cond.initialized y.cls).before a A.U = true := hinit _ _ X.warmed
  have h4 : A.cells + (headSpec ws rm).room.cells ≤ R.cells := by rw [show (headSpec ws rm).room.cells = mc from hrc]; exact hp.1
  have h5 : A.slots + (headSpec ws rm).room.slots ≤ R.slots := by rw [show (headSpec ws rm).room.slots = ms from hrs]; exact hp.2.1
  have hPc : Pc a (A.U.calling g mk a) := hblind _ _ _ _ hp.2.2
  obtain ⟨U, Ls, c0, s0⟩ := A
  dsimp only [Pt.U, Pt.locs, Pt.cells, Pt.slots] at h1 h2 h3 h4 h5 X hn hPc ⊢
  obtain ⟨m9, methY, cY, hn9, hmY, hcY, -, hlY, -⟩ := Cond.codeWith_spec h2
  cases Option.some.inj (hn9.symm.trans hn)
  obtain ⟨kY, hkY, -⟩ := className_of_methodNamed hn
  have hinitY : kY.init = .initialized := Cond.initialized_spec (findClass_of_methodNamed hn) hkY h3
  have h : At U g.method c below := by rw [hg]; exact X.here
  have hlocals9 : W9 + (maxL + 11) + (headSpec ws rm).room.locals ≤ R.locals := hlocals
  have happ : (headSpec ws rm).appliesLoose y e.platform (U.calling g mk a) = true :=
    Spec.appliesLoose_calling (g := g) h hdg hn hkY hinitY
      (X.room_calling (g := g) (R' := (headSpec ws rm).room) hsize hmY hcY hframes (by rw [hlY]; omega) h4 h5) h1
  obtain ⟨mid, hmid⟩ := h.above
  have hfr : (U.setTop g).frames = (.java g :: mid) ++ below := by rw [State.frames_setTop' g h.top, hmid]; rfl
  obtain ⟨o, s₂, hsteps, -, hend, hq⟩ := Steps.callFree hM p X.admits X.cas X.clock (acts := []) hfr happ hPc trivial
  have hq' : vx_Q Qc XC mc ms free a (U.calling g mk a) o s₂ := hq
  rw [State.frames_setTop' g h.top] at hend
  obtain ⟨g₀, hg0⟩ := Option.isSome_iff_exists.mp h.top
  obtain ⟨r, hr⟩ := State.topJava?_eq_some.mp hg0
  have hr' : (({ U with heap := s₂.heap, slotsUsed := s₂.slotsUsed } : State).setVm s₂.vm).frames = .java g₀ :: r := hr
  rcases hq' with ⟨hqc, L, hfe, hL⟩ | ⟨q, rfl, E, ce, L, hx, hce, hcv, hcl, hW₂, hsm, hL⟩
  · obtain ⟨⟨v, rfl⟩, hW₂, e2, q2, q3, q4, q5, q6⟩ := id hfe
    have e3 : s₂ = ({ (U.calling g mk a).setFrames s₂.frames with heap := s₂.heap, slotsUsed := s₂.slotsUsed } : State).setVm s₂.vm := by
      have : s₂ = ({ s₂ with vm := (U.calling g mk a).vm } : State).setVm s₂.vm := rfl
      rw [e2] at this
      exact this
    obtain ⟨c₂, i₂, len₂, hc₂, hd₂, hf₂⟩ := hend
    have hW' : U.WarmedH s₂.vm := hW₂
    have hcc : c₂ = c := by
      have h1 : s₂.code? g.method = U.code? g.method := by
        rw [State.code?_eq, State.code?_eq, hW'.alike.method?]
      exact Option.some.inj (hc₂.symm.trans (h1.trans h.code))
    subst hcc
    have hlen : len₂ = len := by rw [hdg] at hd₂; cases hd₂; rfl
    subst hlen
    have hs₂ : s₂ = (({ U with heap := s₂.heap, slotsUsed := s₂.slotsUsed } : State).setVm s₂.vm).setTop { g with pc := g.pc + len₂, stack := v.toList ++ g.stack } := by
      refine e3.trans ?_
      rw [hf₂, State.calling_eq h.top, State.setFrames_setFrames, State.setTop_of_frames _ hr', hr]
      rfl
    have hsame : U.sameButNew ({ U with heap := s₂.heap, slotsUsed := s₂.slotsUsed } : State) L mc ms := by
      refine ⟨?_, q2, q3, q4, q5, q6⟩
      obtain ⟨t, ht, -⟩ := State.frames_cons hr
      show ({ U with heap := s₂.heap, slotsUsed := s₂.slotsUsed } : State) = { U.setFrames U.frames with heap := s₂.heap, slotsUsed := s₂.slotsUsed }
      rw [State.setFrames_self ht]
    subst hg
    refine Or.inl ⟨v, ⟨(({ U with heap := s₂.heap, slotsUsed := s₂.slotsUsed } : State).setVm s₂.vm), Ls ++ L, c0 + mc, s0 + ms⟩,
      ⟨X.admits, X.cas, X.clock, X.frames, X.room, X.hears, X.method, X.code, (X.here.setHeapUsed s₂.heap s₂.slotsUsed).setVm hW'.alike, X.tail, State.WarmedH.trans X.warmed hW', X.limits, X.bytes, X.same.trans (hsame.setVm s.vm)⟩,
      ⟨g, mk, s₂, L, rfl, rfl, hqc, rfl, hL, rfl, rfl⟩, ?_⟩
    show Steps p.tables e below _ ((({ U with heap := s₂.heap, slotsUsed := s₂.slotsUsed } : State).setVm s₂.vm).setTop { g with pc := g.pc + len₂, stack := v.toList ++ g.stack })
    rw [← hs₂]
    exact hsteps
  · obtain ⟨e2, q2, q3, q4, q5, q6⟩ := id hsm
    have e3 : s₂ = ({ (U.calling g mk a).setFrames s₂.frames with heap := s₂.heap, slotsUsed := s₂.slotsUsed } : State).setVm s₂.vm := by
      have : s₂ = ({ s₂ with vm := (U.calling g mk a).vm } : State).setVm s₂.vm := rfl
      rw [e2] at this
      exact this
    have hf₂ : s₂.frames = .throwing q :: .java g :: U.frames.tail := hend
    have hW' : U.WarmedH s₂.vm := hW₂
    have hs₂ : s₂ = ((({ U with heap := s₂.heap, slotsUsed := s₂.slotsUsed } : State).setVm s₂.vm).setTop g).pushFrame (.throwing q) := by
      refine e3.trans ?_
      rw [hf₂, State.calling_eq h.top, State.setFrames_setFrames, State.pushFrame, State.frames_setTop _ hr', State.setTop_of_frames _ hr', State.setFrames_setFrames, hr]
      rfl
    have hsame : U.sameButNew ({ U with heap := s₂.heap, slotsUsed := s₂.slotsUsed } : State) L mc ms := by
      refine ⟨?_, q2, q3, q4, q5, q6⟩
      obtain ⟨t, ht, -⟩ := State.frames_cons hr
      show ({ U with heap := s₂.heap, slotsUsed := s₂.slotsUsed } : State) = { U.setFrames U.frames with heap := s₂.heap, slotsUsed := s₂.slotsUsed }
      rw [State.setFrames_self ht]
    subst hg
    refine Or.inr ⟨q, ⟨(({ U with heap := s₂.heap, slotsUsed := s₂.slotsUsed } : State).setVm s₂.vm), Ls ++ L, c0 + mc, s0 + ms⟩,
      ⟨X.admits, X.cas, X.clock, X.frames, X.room, X.hears, X.method, X.code, (X.here.setHeapUsed s₂.heap s₂.slotsUsed).setVm hW'.alike, X.tail, State.WarmedH.trans X.warmed hW', X.limits, X.bytes, X.same.trans (hsame.setVm s.vm)⟩,
      ⟨g, mk, s₂, L, E, ce, rfl, rfl, hx, hce, hcv, hcl, rfl, hL, rfl, rfl⟩, ?_⟩
    show Steps p.tables e below _ (((({ U with heap := s₂.heap, slotsUsed := s₂.slotsUsed } : State).setVm s₂.vm).setTop g).pushFrame (.throwing q))
    rw [← hs₂]
    exact hsteps
end
variable {p : Program} {l : Launch} {e : Env} {R : Room} {s : State} {m : MethodId} {args : Array Value} {below : List Frame} {meth : Method} {c : Code} {T : State} {H : Heap} {locs : List Loc} {cells slots : Nat}
theorem vx_callVX (X : Stand p l e R s m args below meth c T locs cells slots) (hexec : p.tables.exec = Jvm.exec) {own C : String} {index : Nat} {y : MethodName} {bytes : ByteArray} {maxL : Nat} {ret : Option FieldType} {hh : List (Nat × Nat × Nat × Nat)}
    (hown : s.vm.findClass own = some m.cls) (hlink : (Cond.methodLink own index y).before args s = true) (hinst : (Cond.instanceMethod y).before args s = true) (hsel : (Cond.selects C y y).before args s = true)
    (hcode : (Cond.codeWith y bytes maxL ret hh).before args s = true) (hy : y.cls ≠ "java/lang/invoke/MethodHandle" ∧ y.cls ≠ "java/lang/invoke/VarHandle")
    {W9 : Nat} {Pre : Pt → Array Value → Prop} {Post : Pt → Array Value → Option Value → Pt → Prop} {PostX : Pt → Array Value → Addr → Pt → Prop} (hK : vx_Back l R p e below s args y 3 W9 Pre Post PostX)
    {b : Addr} {cellB : Cell} (hcell : T.heap[b]? = some cellB) (hobj : cellB.vm.isStatics = false) (hcls : s.vm.findClass C = some cellB.cls)
    {g : JFrame} (hg : g.method = m) (hsize : g.locals.size = c.maxLocals) {argsL rest : List Value} (hlen : ∀ sig, parseMethodDescriptor y.desc = some sig → argsL.length = sig.parameters.length)
    (hstack : g.stack = argsL.reverse ++ .ref b :: rest) (hW : 2 * g.monitorRoom + (rest.map fun v => v.category).sum ≤ W9) (hdg : decode c.code g.pc = .ok (.invokevirtual index, 3))
    (hpre : ∀ vm₁, s.WarmedH vm₁ → Pre ⟨T.setVm vm₁, locs, cells, slots⟩ (Value.ref b :: argsL).toArray) :
    (∃ (v : Option Value) (vm₁ : Vm) (B : Pt), s.WarmedH vm₁ ∧ Stand p l e R s m args below meth c B.U B.locs B.cells B.slots ∧ Post ⟨T.setVm vm₁, locs, cells, slots⟩ (Value.ref b :: argsL).toArray v B ∧
      ∀ target, Steps p.tables e below (B.U.setTop { g with pc := g.pc + 3, stack := v.toList ++ rest }) target → Steps p.tables e below (T.setTop g) target) ∨
    (∃ (q : Addr) (vm₁ : Vm) (B : Pt), s.WarmedH vm₁ ∧ Stand p l e R s m args below meth c B.U B.locs B.cells B.slots ∧ PostX ⟨T.setVm vm₁, locs, cells, slots⟩ (Value.ref b :: argsL).toArray q B ∧
      Steps p.tables e below (T.setTop g) ((B.U.setTop { g with stack := rest }).pushFrame (.throwing q))) := by
  obtain ⟨mk, methM, hnamed, hmethM, hstM, habM⟩ := Cond.instanceMethod_spec hinst
  obtain ⟨m8, methM', cM, hn8, hmethM', -, -, -, -, -, -, hsigM⟩ := Cond.codeWith_spec hcode
  cases Option.some.inj (hn8.symm.trans hnamed)
  cases hmethM.symm.trans hmethM'
  obtain ⟨c2, r2, m2, q1, q2, q3, q4, kP, hkP, hkPi⟩ := Cond.selects_spec hsel
  cases hcls.symm.trans q1
  cases (State.methodFound?_of_named hnamed hy).symm.trans q2
  cases hnamed.symm.trans q3
  have hselP : selectMethod e.platform s.vm cellB.cls mk = .method mk := by rw [Launch.admits_selectMethod X.admits]; exact q4
  obtain ⟨vm₁, X₁, hstep₁⟩ := X.invokevirtual hexec hown hlink hnamed hmethM hstM hkP hkPi hy (a := b) (cell := cellB) hcell
    (fun z h => by rw [h] at hobj; cases hobj) hselP hmethM habM hkP hkPi (g := g) hg (argsL := argsL) (rest := rest) (hlen _ hsigM) hstack hdg
  rcases hK m meth c ⟨T.setVm vm₁, locs, cells, slots⟩ { g with stack := rest } (.invokevirtual index) mk (Value.ref b :: argsL).toArray X₁ hg hsize hdg hW (X₁.named hnamed) (hpre vm₁ X₁.warmed) with ⟨v, B, X', hpost, hsteps⟩ | ⟨q, B, X', hpost, hsteps⟩
  · exact Or.inl ⟨v, vm₁, B, X₁.warmed, X', hpost, fun target h => hstep₁ _ fun acts => by rw [doInvoke_state]; exact hsteps.trans h⟩
  · exact Or.inr ⟨q, vm₁, B, X₁.warmed, X', hpost, hstep₁ _ fun acts => by rw [doInvoke_state]; exact hsteps⟩
theorem vx_callSX (X : Stand p l e R s m args below meth c T locs cells slots) (hexec : p.tables.exec = Jvm.exec) {own : String} {index : Nat} {y : MethodName} {bytes : ByteArray} {maxL : Nat} {ret : Option FieldType} {hh : List (Nat × Nat × Nat × Nat)}
    (hown : s.vm.findClass own = some m.cls) (hlink : (Cond.methodLink own index y).before args s = true) (hstat : (Cond.static y).before args s = true) (hinit : (Cond.initialized y.cls).before args s = true)
    (hcode : (Cond.codeWith y bytes maxL ret hh).before args s = true) (hy : y.cls ≠ "java/lang/invoke/MethodHandle" ∧ y.cls ≠ "java/lang/invoke/VarHandle")
    {W9 : Nat} {Pre : Pt → Array Value → Prop} {Post : Pt → Array Value → Option Value → Pt → Prop} {PostX : Pt → Array Value → Addr → Pt → Prop} (hK : vx_Back l R p e below s args y 3 W9 Pre Post PostX)
    {g : JFrame} (hg : g.method = m) (hsize : g.locals.size = c.maxLocals) {argsL rest : List Value} (hlen : ∀ sig, parseMethodDescriptor y.desc = some sig → argsL.length = sig.parameters.length)
    (hstack : g.stack = argsL.reverse ++ rest) (hW : 2 * g.monitorRoom + (rest.map fun v => v.category).sum ≤ W9) (hdg : decode c.code g.pc = .ok (.invokestatic index, 3))
    (hpre : ∀ vm₁, s.WarmedH vm₁ → Pre ⟨T.setVm vm₁, locs, cells, slots⟩ argsL.toArray) :
    (∃ (v : Option Value) (vm₁ : Vm) (B : Pt), s.WarmedH vm₁ ∧ Stand p l e R s m args below meth c B.U B.locs B.cells B.slots ∧ Post ⟨T.setVm vm₁, locs, cells, slots⟩ argsL.toArray v B ∧
      ∀ target, Steps p.tables e below (B.U.setTop { g with pc := g.pc + 3, stack := v.toList ++ rest }) target → Steps p.tables e below (T.setTop g) target) ∨
    (∃ (q : Addr) (vm₁ : Vm) (B : Pt), s.WarmedH vm₁ ∧ Stand p l e R s m args below meth c B.U B.locs B.cells B.slots ∧ PostX ⟨T.setVm vm₁, locs, cells, slots⟩ argsL.toArray q B ∧
      Steps p.tables e below (T.setTop g) ((B.U.setTop { g with stack := rest }).pushFrame (.throwing q))) := by
  obtain ⟨mk, methM, cM, hnamed, hmethM, -, -, -, -, -, -, hsigM⟩ := Cond.codeWith_spec hcode
  have hstatic : methM.isStatic = true := Cond.static_spec hnamed hmethM hstat
  obtain ⟨kP, hkP, -⟩ := className_of_methodNamed hnamed
  have hinitP : kP.init = .initialized := Cond.initialized_spec (findClass_of_methodNamed hnamed) hkP hinit
  obtain ⟨vm₁, X₁, hstep₁⟩ := X.invokestatic hexec hown hlink hnamed hmethM hstatic hkP hinitP hy (g := g) hg (argsL := argsL) (rest := rest) (hlen _ hsigM) hstack hdg
  rcases hK m meth c ⟨T.setVm vm₁, locs, cells, slots⟩ { g with stack := rest } (.invokestatic index) mk argsL.toArray X₁ hg hsize hdg hW (X₁.named hnamed) (hpre vm₁ X₁.warmed) with ⟨v, B, X', hpost, hsteps⟩ | ⟨q, B, X', hpost, hsteps⟩
  · exact Or.inl ⟨v, vm₁, B, X₁.warmed, X', hpost, fun target h => hstep₁ _ fun acts => by rw [doInvoke_state]; exact hsteps.trans h⟩
  · exact Or.inr ⟨q, vm₁, B, X₁.warmed, X', hpost, hstep₁ _ fun acts => by rw [doInvoke_state]; exact hsteps⟩
theorem vx_callVW (X : Stand p l e R s m args below meth c T locs cells slots) (hexec : p.tables.exec = Jvm.exec) {own C : String} {index : Nat} {y : MethodName} {bytes : ByteArray} {maxL : Nat} {ret : Option FieldType} {hh : List (Nat × Nat × Nat × Nat)}
    (hown : s.vm.findClass own = some m.cls) (hlink : (Cond.methodLink own index y).before args s = true) (hinst : (Cond.instanceMethod y).before args s = true) (hsel : (Cond.selects C y y).before args s = true)
    (hcode : (Cond.codeWith y bytes maxL ret hh).before args s = true) (hy : y.cls ≠ "java/lang/invoke/MethodHandle" ∧ y.cls ≠ "java/lang/invoke/VarHandle")
    {W9 : Nat} {Pre : Pt → Array Value → Prop} {Post : Pt → Array Value → Option Value → Pt → Prop} (hK : Back l R p e below s args y 3 W9 Pre Post)
    {b : Addr} {cellB : Cell} (hcell : T.heap[b]? = some cellB) (hobj : cellB.vm.isStatics = false) (hcls : s.vm.findClass C = some cellB.cls)
    {g : JFrame} (hg : g.method = m) (hsize : g.locals.size = c.maxLocals) {argsL rest : List Value} (hlen : ∀ sig, parseMethodDescriptor y.desc = some sig → argsL.length = sig.parameters.length)
    (hstack : g.stack = argsL.reverse ++ .ref b :: rest) (hW : 2 * g.monitorRoom + (rest.map fun v => v.category).sum ≤ W9) (hdg : decode c.code g.pc = .ok (.invokevirtual index, 3))
    (hpre : ∀ vm₁, s.WarmedH vm₁ → Pre ⟨T.setVm vm₁, locs, cells, slots⟩ (Value.ref b :: argsL).toArray) :
    ∃ (v : Option Value) (vm₁ : Vm) (B : Pt), s.WarmedH vm₁ ∧ Stand p l e R s m args below meth c B.U B.locs B.cells B.slots ∧ Post ⟨T.setVm vm₁, locs, cells, slots⟩ (Value.ref b :: argsL).toArray v B ∧
      ∀ target, Steps p.tables e below (B.U.setTop { g with pc := g.pc + 3, stack := v.toList ++ rest }) target → Steps p.tables e below (T.setTop g) target := by
  obtain ⟨mk, methM, hnamed, hmethM, hstM, habM⟩ := Cond.instanceMethod_spec hinst
  obtain ⟨m8, methM', cM, hn8, hmethM', -, -, -, -, -, -, hsigM⟩ := Cond.codeWith_spec hcode
  cases Option.some.inj (hn8.symm.trans hnamed)
  cases hmethM.symm.trans hmethM'
  obtain ⟨c2, r2, m2, q1, q2, q3, q4, kP, hkP, hkPi⟩ := Cond.selects_spec hsel
  cases hcls.symm.trans q1
  cases (State.methodFound?_of_named hnamed hy).symm.trans q2
  cases hnamed.symm.trans q3
  have hselP : selectMethod e.platform s.vm cellB.cls mk = .method mk := by rw [Launch.admits_selectMethod X.admits]; exact q4
  obtain ⟨vm₁, X₁, hstep₁⟩ := X.invokevirtual hexec hown hlink hnamed hmethM hstM hkP hkPi hy (a := b) (cell := cellB) hcell
    (fun z h => by rw [h] at hobj; cases hobj) hselP hmethM habM hkP hkPi (g := g) hg (argsL := argsL) (rest := rest) (hlen _ hsigM) hstack hdg
  obtain ⟨v, B, X', hpost, hsteps⟩ := hK m meth c ⟨T.setVm vm₁, locs, cells, slots⟩ { g with stack := rest } (.invokevirtual index) mk (Value.ref b :: argsL).toArray X₁ hg hsize hdg hW (X₁.named hnamed) (hpre vm₁ X₁.warmed)
  exact ⟨v, vm₁, B, X₁.warmed, X', hpost, fun target h => hstep₁ _ fun acts => by rw [doInvoke_state]; exact hsteps.trans h⟩
abbrev vx_CVW (R : Room) (s : State) (args : Array Value) (own C : String) (index : Nat) (y : MethodName) (bytes : ByteArray) (maxL : Nat) (ret : Option FieldType) (hh : List (Nat × Nat × Nat × Nat)) (ws : List Cond) (rm : Room) (mc ms n : Nat) : Prop :=
  (rm.cells = mc ∧ rm.slots = ms ∧ rm.frames + 1 ≤ R.frames ∧ 8 + (maxL + 11) + rm.locals ≤ R.locals ∧ (∀ w ∈ ws, ∀ (a' : Array Value) (U : State), s.WarmedH U.vm → w.before a' U = true) ∧ Cond.codeWith y bytes maxL ret hh ∈ ws) ∧
  (Cond.codeWith y bytes maxL ret hh).before args s = true ∧ (Cond.initialized y.cls).before args s = true ∧ (y.cls ≠ "java/lang/invoke/MethodHandle" ∧ y.cls ≠ "java/lang/invoke/VarHandle") ∧
  (∀ sig, parseMethodDescriptor y.desc = some sig → n = sig.parameters.length) ∧ (Cond.methodLink own index y).before args s = true ∧ (Cond.instanceMethod y).before args s = true ∧ (Cond.selects C y y).before args s = true
theorem vx_cwVW {own C : String} {index maxL mc ms : Nat} {y : MethodName} {bytes : ByteArray} {ret : Option FieldType} {hh : List (Nat × Nat × Nat × Nat)} {Ts ws ws' : List Cond} {rm : Room} (n : Nat) (ht : ∀ w ∈ Ts, w.before args s = true) (hT : GoodIn Ts (wsV own index C y ws)) (hw : ws = Cond.codeWith y bytes maxL ret hh :: ws') (hrc : rm.cells = mc) (hrs : rm.slots = ms)
    (hd : y.cls = C ∧ y.cls ≠ "java/lang/invoke/MethodHandle" ∧ y.cls ≠ "java/lang/invoke/VarHandle" ∧ (parseMethodDescriptor y.desc).map (fun d => d.parameters.length) = some n) (hR : rm.frames + 1 ≤ R.frames ∧ 8 + (maxL + 11) + rm.locals ≤ R.locals) :
    vx_CVW R s args own C index y bytes maxL ret hh ws rm mc ms n := by
  obtain ⟨hC, hd⟩ := hd
  subst hC
  have ok : ∀ w ∈ wsV own index y.cls y ws, w.before args s = true := fun w h => ht w (hT w h).1
  have hG : GoodIn Ts ws := fun w h => hT w (by unfold wsV; exact List.mem_append_right _ h)
  have hc : Cond.codeWith y bytes maxL ret hh ∈ ws := by rw [hw]; exact List.mem_cons_self
  refine ⟨⟨hrc, hrs, hR.1, hR.2, pay_in ht hG, hc⟩, ht _ (hG _ hc).1, ok _ (by simp [wsV]), ⟨hd.1, hd.2.1⟩, fun sig h => ?_, ok _ (by simp [wsV]), ok _ (by simp [wsV]), ok _ (by simp [wsV])⟩
  have h2 := hd.2.2
  rw [h] at h2
  exact (Option.some.inj h2).symm
theorem vx_runVW {y : MethodName} {bytes cc : ByteArray} {maxL nL mc ms n index : Nat} {ret : Option FieldType} {hh : List (Nat × Nat × Nat × Nat)} {ws : List Cond} {rm : Room} {Pc : Array Value → State → Prop} {Qc : Array Value → State → Outcome → State → Prop} {free : Addr → Prop} {Ts : List Cond} {own C : String} {b : Addr} {As rest : List Value} {g : JFrame}
    (S : CallFix p m c cc nL s args Ts own) (hM : Met l y ws rm Pc Qc mc ms free) (cw : vx_CVW R s args own C index y bytes maxL ret hh ws rm mc ms n) (hp : PreV s H C b Pc As)
    (hg : g.method = m) (hn : As.length = n) (hsize : g.locals.size = nL) (hstack : g.stack = As.reverse ++ .ref b :: rest) (hW : 2 * g.monitorRoom + (rest.map fun v => v.category).sum ≤ 8) (hdg : decode cc g.pc = .ok (.invokevirtual index, 3)) (hf : cells + mc ≤ R.cells ∧ slots + ms ≤ R.slots) :
    va_Run p l e R s m args below meth c H locs cells slots mc ms g rest (Qc (Value.ref b :: As).toArray) free := by
  obtain ⟨⟨hrc, hrs, hfr, hlo, hws, hcw⟩, hcode, hini, hy, hlen, hl, hin, hse⟩ := cw
  have hK : Back l R p e below s args y 3 8 (PreOf R mc ms Pc) (PostOf Qc mc ms free) := va_backW (hh := hh) (bytes := bytes) (maxL := maxL) (ret := ret) hM hp.1 hrc hrs hfr hlo hws hcw (fun a' U hW => word_at hW (Or.inl (by first | rfl | simp [Cond.onTables, Cond.keeps, Cond.steady])) hini)
  obtain ⟨hx, hb, hml, ho, -⟩ := S
  obtain ⟨-, ⟨cellB, hcB, hoB, hclB⟩, hPc⟩ := hp
  intro T hT X
  obtain ⟨v, vm₁, ⟨U', l2, c2, s2⟩, hW₁, X', ⟨g', mk, t, L, e1, e2, hq, h1, hL, h2, h3⟩, st⟩ := vx_callVW X hx (C := C) (hh := hh) (bytes := bytes) (maxL := maxL) (ret := ret) ho hl hin hse hcode hy hK (by rw [hT]; exact hcB) hoB hclB hg (hsize.trans hml.symm) (argsL := As) (rest := rest) (fun sig h => hn.trans (hlen sig h)) hstack hW (by rw [hb]; exact hdg)
    (fun vm₁ hW₁ => ⟨hf.1, hf.2, hPc (T.setVm vm₁) hT hW₁⟩)
  dsimp only [Pt.U, Pt.locs, Pt.cells, Pt.slots] at X' e1 e2 h1 h2 h3 st
  subst h1; subst h2; subst h3
  exact ⟨v, (T.setVm vm₁).calling g' mk (Value.ref b :: As).toArray, t, U', L, hT, X', hL, e1, e2, hq, st⟩
section
variable {y : MethodName} {bytes cc : ByteArray} {maxL nL mc ms n index : Nat} {ret : Option FieldType} {ws : List Cond} {rm : Room} {Pc : Array Value → State → Prop} {Qc : Array Value → State → Outcome → State → Prop} {XC : String → State → State → Prop} {free : Addr → Prop} {Ts : List Cond} {own C : String} {b : Addr} {As rest : List Value} {g : JFrame}
theorem vx_runVX {hh : List (Nat × Nat × Nat × Nat)} (S : CallFix p m c cc nL s args Ts own) (hM : vx_Met l y ws rm Pc Qc XC mc ms free) (cw : vx_CVW R s args own C index y bytes maxL ret hh ws rm mc ms n) (hp : PreV s H C b Pc As)
    (hg : g.method = m) (hn : As.length = n) (hsize : g.locals.size = nL) (hstack : g.stack = As.reverse ++ .ref b :: rest) (hW : 2 * g.monitorRoom + (rest.map fun v => v.category).sum ≤ 8) (hdg : decode cc g.pc = .ok (.invokevirtual index, 3)) (hf : cells + mc ≤ R.cells ∧ slots + ms ≤ R.slots) :
    vx_Run p l e R s m args below meth c H locs cells slots mc ms g rest (Qc (Value.ref b :: As).toArray) XC free := by
  obtain ⟨⟨hrc, hrs, hfr, hlo, hws, hcw⟩, hcode, hini, hy, hlen, hl, hin, hse⟩ := cw
  have hK : vx_Back l R p e below s args y 3 8 (PreOf R mc ms Pc) (PostOf Qc mc ms free) (vx_Post XC mc ms free) := vx_backW (hh := hh) (bytes := bytes) (maxL := maxL) (ret := ret) hM hp.1 hrc hrs hfr hlo hws hcw (fun a' U hW => word_at hW (Or.inl (by first | rfl | simp [Cond.onTables, Cond.keeps, Cond.steady])) hini)
  obtain ⟨hx, hb, hml, ho, -⟩ := S
  obtain ⟨-, ⟨cellB, hcB, hoB, hclB⟩, hPc⟩ := hp
  intro T hT X
  rcases vx_callVX X hx (C := C) (hh := hh) (bytes := bytes) (maxL := maxL) (ret := ret) ho hl hin hse hcode hy hK (by rw [hT]; exact hcB) hoB hclB hg (hsize.trans hml.symm) (argsL := As) (rest := rest) (fun sig h => hn.trans (hlen sig h)) hstack hW (by rw [hb]; exact hdg)
    (fun vm₁ hW₁ => ⟨hf.1, hf.2, hPc (T.setVm vm₁) hT hW₁⟩) with ⟨v, vm₁, ⟨U', l2, c2, s2⟩, hW₁, X', ⟨g', mk, t, L, e1, e2, hq, h1, hL, h2, h3⟩, st⟩ | ⟨q, vm₁, ⟨U', l2, c2, s2⟩, hW₁, X', ⟨g', mk, t, L, E, ce, e1, e2, hq, hce, hcv, hcl, h1, hL, h2, h3⟩, st⟩
  · dsimp only [Pt.U, Pt.locs, Pt.cells, Pt.slots] at X' e1 e2 h1 h2 h3 st
    subst h1; subst h2; subst h3
    exact Or.inl ⟨v, (T.setVm vm₁).calling g' mk (Value.ref b :: As).toArray, t, U', L, hT, X', hL, e1, e2, hq, st⟩
  · dsimp only [Pt.U, Pt.locs, Pt.cells, Pt.slots] at X' e1 e2 h1 h2 h3 st hcl
    subst h1; subst h2; subst h3
    exact Or.inr ⟨q, (T.setVm vm₁).calling g' mk (Value.ref b :: As).toArray, t, U', L, E, ce, hT, X', hL, e1, e2, hq, hce, hcv, vx_cls hW₁ hcl, st⟩
theorem vx_runSX {hh : List (Nat × Nat × Nat × Nat)} (S : CallFix p m c cc nL s args Ts own) (hM : vx_Met l y ws rm Pc Qc XC mc ms free) (cw : vx_CSW R s args own index y bytes maxL ret hh ws rm mc ms n) (hp : PreS s H Pc As)
    (hg : g.method = m) (hn : As.length = n) (hsize : g.locals.size = nL) (hstack : g.stack = As.reverse ++ rest) (hW : 2 * g.monitorRoom + (rest.map fun v => v.category).sum ≤ 8) (hdg : decode cc g.pc = .ok (.invokestatic index, 3)) (hf : cells + mc ≤ R.cells ∧ slots + ms ≤ R.slots) :
    vx_Run p l e R s m args below meth c H locs cells slots mc ms g rest (Qc As.toArray) XC free := by
  obtain ⟨⟨hrc, hrs, hfr, hlo, hws, hcw⟩, hcode, hini, hy, hlen, hl, hstt⟩ := cw
  have hK : vx_Back l R p e below s args y 3 8 (PreOf R mc ms Pc) (PostOf Qc mc ms free) (vx_Post XC mc ms free) := vx_backW (hh := hh) (bytes := bytes) (maxL := maxL) (ret := ret) hM hp.1 hrc hrs hfr hlo hws hcw (fun a' U hW => word_at hW (Or.inl (by first | rfl | simp [Cond.onTables, Cond.keeps, Cond.steady])) hini)
  obtain ⟨hx, hb, hml, ho, -⟩ := S
  intro T hT X
  rcases vx_callSX X hx (hh := hh) (bytes := bytes) (maxL := maxL) (ret := ret) ho hl hstt hini hcode hy hK hg (hsize.trans hml.symm) (argsL := As) (rest := rest) (fun sig h => hn.trans (hlen sig h)) hstack hW (by rw [hb]; exact hdg)
    (fun vm₁ hW₁ => ⟨hf.1, hf.2, hp.2 (T.setVm vm₁) hT hW₁⟩) with ⟨v, vm₁, ⟨U', l2, c2, s2⟩, hW₁, X', ⟨g', mk, t, L, e1, e2, hq, h1, hL, h2, h3⟩, st⟩ | ⟨q, vm₁, ⟨U', l2, c2, s2⟩, hW₁, X', ⟨g', mk, t, L, E, ce, e1, e2, hq, hce, hcv, hcl, h1, hL, h2, h3⟩, st⟩
  · dsimp only [Pt.U, Pt.locs, Pt.cells, Pt.slots] at X' e1 e2 h1 h2 h3 st
    subst h1; subst h2; subst h3
    exact Or.inl ⟨v, (T.setVm vm₁).calling g' mk As.toArray, t, U', L, hT, X', hL, e1, e2, hq, st⟩
  · dsimp only [Pt.U, Pt.locs, Pt.cells, Pt.slots] at X' e1 e2 h1 h2 h3 st hcl
    subst h1; subst h2; subst h3
    exact Or.inr ⟨q, (T.setVm vm₁).calling g' mk As.toArray, t, U', L, E, ce, hT, X', hL, e1, e2, hq, hce, hcv, vx_cls hW₁ hcl, st⟩
end
end VXH
theorem vx_ofWH {l : Launch} {y : MethodName} {ws ws' : List Cond} {rm : Room} {Pc : Array Value → State → Prop} {Qc : Array Value → State → Outcome → State → Prop} {XC : String → State → State → Prop} {mc ms : Nat} {free : Addr → Prop} {cc : ByteArray} {maxL : Nat} {ret : Option FieldType} {hh : List (Nat × Nat × Nat × Nat)}
    (hy : plainName y.cls = true) (hw : ws = Cond.codeWith y cc maxL ret hh :: ws')
    (body : ∀ p e s m args below meth c s₁, BodyLoose p l y (headSpec ws rm) cc maxL ret e s m args below meth c s₁ → c.maxLocals = maxL → Pc args s →
      W p l e (headSpec ws rm).room s m args below meth c s.heap [] 0 0 (vx_MQ below Qc XC args s mc ms free) (entryFrame m args maxL)) : vx_Met l y ws rm Pc Qc XC mc ms free := by
  refine MetFree.of_bodyS (code := cc) (maxLocals := maxL) (ret := ret) hy ?_ ?_
  · intro args s m h hn
    obtain ⟨m9, meth, c, hn9, h1, h2, h3, h4, -, h5, h6, -⟩ := Cond.codeWith_spec (atoms_spec (ws := ws) h _ (by rw [hw]; exact List.mem_cons_self))
    cases hn.symm.trans hn9
    exact ⟨meth, c, h1, h2, h3, h4, h5, h6⟩
  · intro p e s m args below meth c s₁ B hml hP _
    have hh0 : s₁.heap = s.heap := by rw [B.state]; rfl
    obtain ⟨t, a1, o, b1, b2, b3⟩ := body p e s m args below meth c s₁ B hml hP s₁ hh0 (Stand.of_body B)
    exact ⟨t, o, a1, b1, b2, b3⟩
/-! ===== END ===== -/
end
section
/-! THE BASE FOR METHODS THAT MAY THROW: what an exception's making needs of the tables and of Throwable's statics ('sf_EX'), contracts of methods that return or throw ('sf_XM') -/
/-- the class of an exception by its number: 1 index, 2 turn, 3 range, 4 meaning -/
def sf_en (n : Int32) : String := if n = 1 then "java/lang/IndexOutOfBoundsException" else if n = 2 then "java/lang/IllegalStateException" else if n = 3 then "java/lang/IllegalArgumentException" else "java/lang/UnsupportedOperationException"
/-- words of the tables that stay under warmer tables, though not 'good' -/
def sf_xg (w : Cond) : Bool := w.onTables && w.keepsFace
def sf_XW (U : State) : Prop := ∀ w ∈ lw_tbl, sf_xg w = true → w.before #[] U = true
def sf_STR (U : State) : Prop := ∀ (own : String) (k : Nat) (tx : String), Cond.stringRef own k tx ∈ lw_tbl → ∃ a : Nat, vk_R own k tx a U
def sf_EX (A : Nat → Prop) (U : State) (H : Heap) : Prop := sf_XW U ∧ sf_STR U ∧ vx_Zq Bundle.tN "UNASSIGNED_STACK" Bundle.steD A U H ∧ vx_Zq Bundle.tN "SUPPRESSED_SENTINEL" Bundle.listD A U H
theorem sf_XW.warm {s U : State} (hW : s.WarmedH U.vm) (h : sf_XW s) : sf_XW U := by
  intro w hw hg
  have h1 := h w hw hg
  have hg2 := hg
  simp only [sf_xg, Bool.and_eq_true] at hg
  have h2 := Cond.before_shiftedFace (State.Shifted.of_warmed hW) w hg.2 h1
  exact va_tabs hg.1 (u := s.setVm U.vm) (U := U) rfl h2
theorem sf_STR.warm {s U : State} (hW : s.WarmedH U.vm) (h : sf_STR s) : sf_STR U := fun own k tx hw => by
  obtain ⟨a, ha⟩ := h own k tx hw
  exact ⟨a, vk_R.warm hW ha⟩
theorem sf_EX.warm {A : Nat → Prop} {s U : State} {H : Heap} (hW : s.WarmedH U.vm) (h : sf_EX A s H) : sf_EX A U H := ⟨h.1.warm hW, h.2.1.warm hW, h.2.2.1.moved hW.alike, h.2.2.2.moved hW.alike⟩
theorem sf_EX.same {A : Nat → Prop} {s U : State} {H : Heap} (hv : U.vm = s.vm) (h : sf_EX A s H) : sf_EX A U H := by
  have hW : s.WarmedH U.vm := by rw [hv]; exact State.WarmedH.refl s
  exact h.warm hW
theorem sf_EX.kept {A : Nat → Prop} {U : State} {H H1 : Heap} (h : sf_EX A U H) (hq : ∀ a : Nat, a < H.size → ¬ A a → H1[a]? = H[a]?) : sf_EX A U H1 := ⟨h.1, h.2.1, h.2.2.1.kept hq, h.2.2.2.kept hq⟩
theorem sf_EX.narrow {A B : Nat → Prop} {U : State} {H : Heap} (h : sf_EX A U H) (hAB : ∀ q, B q → A q) : sf_EX B U H := ⟨h.1, h.2.1, h.2.2.1.narrow hAB, h.2.2.2.narrow hAB⟩
/-- what the tables must say for a 'new cls(text)' of own's -/
def sf_names : List String := ["java/lang/RuntimeException", "java/lang/Exception"]
def sf_XOK (own : String) (ik ic : Nat) (cls : String) : Prop :=
  Bundle.fit cls = true ∧ (Cond.classLink own ik cls ∈ sf_tb ∧ Cond.initialized cls ∈ sf_tb) ∧ (∀ w ∈ vx_atS own ic cls sf_names, w ∈ lw_tbl ∧ (goodWord w || sf_xg w) = true) ∧ ∀ w ∈ Cond.classLink own ik cls :: Cond.initialized cls :: vx_atS own ic cls sf_names, vx_ot w = true
theorem sf_names_fit : ∀ n ∈ sf_names, Bundle.fit n = true := by decide +kernel
theorem sf_xhat {s : State} {args : Array Value} (hts : ∀ w ∈ sf_tb, w.before args s = true) (hxw : sf_XW s) {L : List Cond} (h : ∀ w ∈ L, w ∈ lw_tbl ∧ (goodWord w || sf_xg w) = true) : ∀ w ∈ L, w.before args s = true := by
  intro w hw
  obtain ⟨h1, h2⟩ := h w hw
  rcases Bool.or_eq_true _ _ |>.mp h2 with g | g
  · exact hts w (List.mem_filter.mpr ⟨h1, g⟩)
  · have h3 := hxw w h1 g
    simp only [sf_xg, Bool.and_eq_true] at g
    exact va_tabs g.1 (u := s) (U := s) rfl h3
section SXA
variable {S : Type} {l : Launch} {D : va_G} {cl : List vw_C} {tys : List (ClassId × FieldType)} {y : MethodName} {fr lo : Nat} {As : List Value} {wc : va_W} {thr : S → Int32} {ov : S → Option Value} {post : S → Prop} {w1 : S → va_W}
def sf_XQc {S : Type} (D : va_G) (cl : List vw_C) (A : Nat → Prop) (thr : S → Int32) (ov : S → Option Value) (post : S → Prop) (w1 : S → va_W) : Array Value → State → Outcome → State → Prop := fun _ st o t => (∃ u : S, o = .returned (ov u) ∧ thr u = 0 ∧ post u ∧ va_P D cl (w1 u) t.heap) ∧ va_F A st t
def sf_XXc {S : Type} (D : va_G) (cl : List vw_C) (A : Nat → Prop) (thr : S → Int32) (post : S → Prop) (w1 : S → va_W) : String → State → State → Prop := fun E st t => (∃ u : S, E = sf_en (thr u) ∧ ¬ thr u = 0 ∧ post u ∧ va_P D cl (w1 u) t.heap) ∧ va_F A st t
/-- THE CONTRACT of a method that returns or throws: which of the two, and what, the number 'thr' says (0: it returns) -/
def sf_XM {S : Type} (l : Launch) (D : va_G) (cl : List vw_C) (tys : List (ClassId × FieldType)) (y : MethodName) (ws : List Cond) (fr lo : Nat) (As : List Value) (wc : va_W) (thr : S → Int32) (ov : S → Option Value) (post : S → Prop) (w1 : S → va_W) : Prop :=
  ∀ sz : Nat, vx_Met l y ws ({ frames := fr, cells := 1, slots := 6, locals := lo }) (va_Pc As (fun U => (U.heap.size = sz ∧ va_P D cl wc U.heap ∧ va_K D cl tys U ∧ va_D (fun _ => True) wc) ∧ sf_EX (va_A wc sz) U U.heap))
    (sf_XQc D cl (va_A wc sz) thr ov post w1) (sf_XXc D cl (va_A wc sz) thr post w1) 1 6 (va_A wc sz)
def sf_XQ {S : Type} (s : State) (args : Array Value) (below : List Frame) (D : va_G) (cl : List vw_C) (A : Nat → Prop) (thr : S → Int32) (ov : S → Option Value) (post : S → Prop) (w1 : S → va_W) : State → Prop :=
  vx_MQ below (sf_XQc D cl A thr ov post w1) (sf_XXc D cl A thr post w1) args s 1 6 A
theorem sf_xofW {cc : ByteArray} {maxL : Nat} {ret : Option FieldType} (hy : plainName y.cls = true) (hlen : (lg_sl As).length ≤ maxL)
    (body : ∀ (p : Program) (e : Env) (s : State) (m : MethodId) (below : List Frame) (meth : Method) (c : Code) (A : Nat → Prop) (ls : Array Slot) (R : Room) (args : Array Value) (Q : State → Prop), R = { frames := fr, cells := 1, slots := 6, locals := lo } → args = As.toArray → Q = sf_XQ s args below D cl A thr ov post w1 → sf_C p s m meth c cc maxL y args A → meth.sig.returnType = ret → (∀ x ∈ c.exceptionTable.toList, False) → sf_EX A s s.heap → va_K D cl tys s → va_P D cl wc s.heap → va_D A wc → lv_has ls maxL (lv_args 0 As) →
      W p l e R s m args below meth c s.heap [] 0 0 Q (F0 m 0 ls [])) : sf_XM l D cl tys y (sf_ws y cc maxL ret) fr lo As wc thr ov post w1 := by
  intro sz
  refine vx_ofW (cc := cc) (maxL := maxL) (ret := ret) hy rfl ?_
  intro p e s m args below meth c s₁ B hml hex hv
  obtain ⟨rfl, ⟨hsz, hP, hK, hD0⟩, hE⟩ := hv
  have hts := atoms_spec (ws := sf_ws y cc maxL ret) B.pre
  have hown : s.vm.findClass y.cls = some m.cls := findClass_of_methodNamed B.named
  subst hsz
  have hD := hD0.self (sz := s.heap.size)
  have hl := lv_entry As (n := maxL) hlen
  rw [lg_entry_eq]
  exact body p e s m below meth c _ _ _ _ _ rfl rfl rfl ⟨B.exec, B.bytes, hml, hown, fun w h => hts w (List.mem_cons_of_mem _ h), fun q h => Or.inr h, B.notSynchronized⟩ B.returns hex hE hK hP hD hl
end SXA
section SXB
variable {S : Type} {p : Program} {l : Launch} {e : Env} {R : Room} {s : State} {m : MethodId} {args : Array Value} {below : List Frame} {meth : Method} {c : Code} {H : Heap} {locs : List Loc} {D : va_G} {cl : List vw_C} {A : Nat → Prop} {thr : S → Int32} {ov : S → Option Value} {post : S → Prop} {w1 : S → va_W} {cc : ByteArray}
theorem sf_xiret (u : S) {v : Int32} {ty : FieldType} (hexec : p.tables.exec = Jvm.exec) (hb : c.code = cc) (hr : meth.sig.returnType = some ty) (hlocks : meth.locks = false) (hS : va_S A s.heap H locs) (hn : narrow ty (.int v) = .int v) (ht0 : thr u = 0) (ho : ov u = some (.int v)) (hp : post u) (hP : va_P D cl (w1 u) H)
    {pc : Nat} {ls : Array Slot} (hdg : decode cc pc = .ok (.ireturn, 1)) : W p l e R s m args below meth c H locs 0 0 (sf_XQ s args below D cl A thr ov post w1) (F0 m pc ls [.int v]) :=
  W.widen (k := 1) (n := 6) (by omega) (by omega) (vx_ret (W.zret hexec hb hr hn (fun t ht _ => ⟨⟨u, by rw [ho], ht0, hp, by rw [ht]; exact hP⟩, hS.F ht⟩) hS.2.2 hdg hlocks))
theorem sf_xvret (u : S) (hexec : p.tables.exec = Jvm.exec) (hb : c.code = cc) (hr : meth.sig.returnType = none) (hlocks : meth.locks = false) (hS : va_S A s.heap H locs) (ht0 : thr u = 0) (ho : ov u = none) (hp : post u) (hP : va_P D cl (w1 u) H)
    {pc : Nat} {ls : Array Slot} (hdg : decode cc pc = .ok (.return_, 1)) : W p l e R s m args below meth c H locs 0 0 (sf_XQ s args below D cl A thr ov post w1) (F0 m pc ls []) :=
  W.widen (k := 1) (n := 6) (by omega) (by omega) (vx_ret (W.vret hexec hb hr (fun t ht _ => ⟨⟨u, by rw [ho], ht0, hp, by rw [ht]; exact hP⟩, hS.F ht⟩) hS.2.2 hdg hlocks))
/-- new E("text"), thrown: the whole row of it -/
theorem sf_xthrow (u : S) {nL : Nat} {own cls text : String} {ik ic is : Nat} (hexec : p.tables.exec = Jvm.exec) (hb : c.code = cc) (hst : l.stackTraces = false) (hml : c.maxLocals = nL) (hown : s.vm.findClass own = some m.cls) (hts : ∀ w ∈ sf_tb, w.before args s = true) (hE : sf_EX A s s.heap) (hex : ∀ x ∈ c.exceptionTable.toList, False)
    (hok : sf_XOK own ik ic cls) (hstr : Cond.stringRef own is text ∈ lw_tbl) (hlocks : meth.locks = false) (hS : va_S A s.heap H locs) (hne : ¬ thr u = 0) (hcls : cls = sf_en (thr u)) (hp : post u) (hP : va_P D cl (w1 u) H)
    {pc : Nat} {ls : Array Slot} (hsize : ls.size = nL) (hR : 6 ≤ R.frames ∧ 82 ≤ R.locals ∧ 1 ≤ R.cells ∧ 6 ≤ R.slots)
    (d0 : decode cc pc = .ok (.new ik, 3)) (d3 : decode cc (pc + 3) = .ok (.dup, 1)) (d4 : decode cc (pc + 4) = .ok (.ldc is, 2)) (d6 : decode cc (pc + 6) = .ok (.invokespecial ic, 3)) (d9 : decode cc (pc + 9) = .ok (.athrow, 1)) :
    W p l e R s m args below meth c H locs 0 0 (sf_XQ s args below D cl A thr ov post w1) (F0 m pc ls []) := by
  obtain ⟨hfit, ⟨hk, hi⟩, hat, hgood⟩ := hok
  obtain ⟨sa, hsa⟩ := hE.2.1 own is text hstr
  refine vx_throwS hexec hb hst (names := sf_names) hown hfit sf_names_fit (hts _ hk) (hts _ hi) hsa (sf_xhat hts hE.1 hat) hgood hE.2.2.1 hE.2.2.2 hS (hsize.trans hml.symm) d0 d3 d4 d6 d9 (fun x hx => (hex x hx).elim)
    (show 2 + 3 < R.frames by omega) (by show 0 + (13 * (2 + 1) + 43) ≤ R.locals; omega) (by omega) (by omega) hlocks ?_ hS.2.2 (Nat.le_refl _) (Nat.le_refl _)
  intro t _ hz hk
  refine ⟨⟨u, hcls, hne, hp, hP.kept (fun k q hq => hk q.1 (hP k q hq).lt)⟩, Nat.le_trans hS.1 hz, fun q h1 h2 => ?_⟩
  rw [hk q (Nat.lt_of_lt_of_le h1 hS.1)]
  exact hS.2.1 q h1 h2
end SXB
end
section
/-! sfx: contracts, with the pure functions that they speak of (printed by wip/gen) -/
set_option maxRecDepth 20000 in
theorem wd_206 : Cond.classLink R_SF 55 "java/lang/IllegalArgumentException" ∈ sf_tb := sf_tb_in 206 rfl rfl
set_option maxRecDepth 20000 in
theorem wd_58 : Cond.initialized "java/lang/IllegalArgumentException" ∈ sf_tb := sf_tb_in 58 rfl rfl
set_option maxRecDepth 20000 in
theorem wd_275 : Cond.classLink R_SF 65 "java/lang/UnsupportedOperationException" ∈ sf_tb := sf_tb_in 275 rfl rfl
set_option maxRecDepth 20000 in
theorem wd_59 : Cond.initialized "java/lang/UnsupportedOperationException" ∈ sf_tb := sf_tb_in 59 rfl rfl
set_option maxRecDepth 20000 in
theorem wd_307 : Cond.classLink R_SF 78 "java/lang/IndexOutOfBoundsException" ∈ sf_tb := sf_tb_in 307 rfl rfl
set_option maxRecDepth 20000 in
theorem wd_60 : Cond.initialized "java/lang/IndexOutOfBoundsException" ∈ sf_tb := sf_tb_in 60 rfl rfl
set_option maxRecDepth 20000 in
theorem wd_323 : Cond.classLink R_SF 87 "java/lang/IllegalStateException" ∈ sf_tb := sf_tb_in 323 rfl rfl
set_option maxRecDepth 20000 in
theorem wd_61 : Cond.initialized "java/lang/IllegalStateException" ∈ sf_tb := sf_tb_in 61 rfl rfl
set_option maxRecDepth 20000 in
theorem wd_291 : Cond.methodLink R_SF 70 y_SF_addToTape ∈ sf_tb := sf_tb_in 291 rfl rfl
set_option maxRecDepth 20000 in
theorem wd_294 : Cond.code y_SF_addToTape b_SF_addToTape 2 none ∈ sf_tb := sf_tb_in 294 rfl rfl
set_option maxRecDepth 20000 in
theorem wd_293 : Cond.instanceMethod y_SF_addToTape ∈ sf_tb := sf_tb_in 293 rfl rfl
set_option maxRecDepth 20000 in
theorem wd_6 : Cond.selects R_SF y_SF_addToTape y_SF_addToTape ∈ sf_tb := sf_tb_in 6 rfl rfl
set_option maxRecDepth 20000 in
theorem wd_304 : Cond.methodLink R_SF 74 y_SF_isRow ∈ sf_tb := sf_tb_in 304 rfl rfl
set_option maxRecDepth 20000 in
theorem wd_306 : Cond.code y_SF_isRow b_SF_isRow 1 (some .boolean) ∈ sf_tb := sf_tb_in 306 rfl rfl
set_option maxRecDepth 20000 in
theorem wd_305 : Cond.static y_SF_isRow ∈ sf_tb := sf_tb_in 305 rfl rfl
set_option maxRecDepth 20000 in
theorem wd_339 : Cond.methodLink R_SF 92 y_SF_isMonth ∈ sf_tb := sf_tb_in 339 rfl rfl
set_option maxRecDepth 20000 in
theorem wd_341 : Cond.code y_SF_isMonth b_SF_isMonth 1 (some .boolean) ∈ sf_tb := sf_tb_in 341 rfl rfl
set_option maxRecDepth 20000 in
theorem wd_340 : Cond.static y_SF_isMonth ∈ sf_tb := sf_tb_in 340 rfl rfl
set_option maxRecDepth 20000 in
theorem wd_343 : Cond.methodLink R_SF 97 y_SF_takePlaces ∈ sf_tb := sf_tb_in 343 rfl rfl
set_option maxRecDepth 20000 in
theorem wd_346 : Cond.code y_SF_takePlaces b_SF_takePlaces 5 (some .boolean) ∈ sf_tb := sf_tb_in 346 rfl rfl
set_option maxRecDepth 20000 in
theorem wd_345 : Cond.instanceMethod y_SF_takePlaces ∈ sf_tb := sf_tb_in 345 rfl rfl
set_option maxRecDepth 20000 in
theorem wd_7 : Cond.selects R_SF y_SF_takePlaces y_SF_takePlaces ∈ sf_tb := sf_tb_in 7 rfl rfl
set_option maxRecDepth 20000 in
theorem wd_393 : Cond.methodLink R_SF 106 y_SF_preparePlaceFromTape ∈ sf_tb := sf_tb_in 393 rfl rfl
set_option maxRecDepth 20000 in
theorem wd_396 : Cond.code y_SF_preparePlaceFromTape b_SF_preparePlaceFromTape 7 none ∈ sf_tb := sf_tb_in 396 rfl rfl
set_option maxRecDepth 20000 in
theorem wd_395 : Cond.instanceMethod y_SF_preparePlaceFromTape ∈ sf_tb := sf_tb_in 395 rfl rfl
set_option maxRecDepth 20000 in
theorem wd_14 : Cond.selects R_SF y_SF_preparePlaceFromTape y_SF_preparePlaceFromTape ∈ sf_tb := sf_tb_in 14 rfl rfl
set_option maxRecDepth 20000 in
theorem wd_452 : Cond.methodLink R_SF 132 y_SF_followToMove ∈ sf_tb := sf_tb_in 452 rfl rfl
set_option maxRecDepth 20000 in
theorem wd_455 : Cond.code y_SF_followToMove b_SF_followToMove 3 (some .boolean) ∈ sf_tb := sf_tb_in 455 rfl rfl
set_option maxRecDepth 20000 in
theorem wd_454 : Cond.instanceMethod y_SF_followToMove ∈ sf_tb := sf_tb_in 454 rfl rfl
set_option maxRecDepth 20000 in
theorem wd_22 : Cond.selects R_SF y_SF_followToMove y_SF_followToMove ∈ sf_tb := sf_tb_in 22 rfl rfl
set_option maxRecDepth 20000 in
theorem wd_469 : Cond.methodLink R_SF 141 y_SF_moveFollowed ∈ sf_tb := sf_tb_in 469 rfl rfl
set_option maxRecDepth 20000 in
theorem wd_472 : Cond.code y_SF_moveFollowed b_SF_moveFollowed 3 (some .boolean) ∈ sf_tb := sf_tb_in 472 rfl rfl
set_option maxRecDepth 20000 in
theorem wd_471 : Cond.instanceMethod y_SF_moveFollowed ∈ sf_tb := sf_tb_in 471 rfl rfl
set_option maxRecDepth 20000 in
theorem wd_25 : Cond.selects R_SF y_SF_moveFollowed y_SF_moveFollowed ∈ sf_tb := sf_tb_in 25 rfl rfl
set_option maxRecDepth 20000 in
theorem wd_493 : Cond.methodLink R_SF 151 y_Ch_bytes ∈ sf_tb := sf_tb_in 493 rfl rfl
set_option maxRecDepth 20000 in
theorem wd_496 : Cond.code y_Ch_bytes b_Ch_bytes 1 (some .int) ∈ sf_tb := sf_tb_in 496 rfl rfl
set_option maxRecDepth 20000 in
theorem wd_494 : Cond.instanceMethod y_Ch_bytes ∈ sf_tb := sf_tb_in 494 rfl rfl
set_option maxRecDepth 20000 in
theorem wd_495 : Cond.selects R_Ch y_Ch_bytes y_Ch_bytes ∈ sf_tb := sf_tb_in 495 rfl rfl
set_option maxRecDepth 20000 in
theorem wd_498 : Cond.methodLink R_SF 164 y_Ch_dataAt ∈ sf_tb := sf_tb_in 498 rfl rfl
set_option maxRecDepth 20000 in
theorem wd_501 : Cond.code y_Ch_dataAt b_Ch_dataAt 7 (some .int) ∈ sf_tb := sf_tb_in 501 rfl rfl
set_option maxRecDepth 20000 in
theorem wd_499 : Cond.instanceMethod y_Ch_dataAt ∈ sf_tb := sf_tb_in 499 rfl rfl
set_option maxRecDepth 20000 in
theorem wd_500 : Cond.selects R_Ch y_Ch_dataAt y_Ch_dataAt ∈ sf_tb := sf_tb_in 500 rfl rfl
set_option maxRecDepth 20000 in
theorem wd_519 : Cond.methodLink R_SF 175 y_SF_countFree ∈ sf_tb := sf_tb_in 519 rfl rfl
set_option maxRecDepth 20000 in
theorem wd_522 : Cond.code y_SF_countFree b_SF_countFree 4 (some .int) ∈ sf_tb := sf_tb_in 522 rfl rfl
set_option maxRecDepth 20000 in
theorem wd_521 : Cond.instanceMethod y_SF_countFree ∈ sf_tb := sf_tb_in 521 rfl rfl
set_option maxRecDepth 20000 in
theorem wd_27 : Cond.selects R_SF y_SF_countFree y_SF_countFree ∈ sf_tb := sf_tb_in 27 rfl rfl
set_option maxRecDepth 20000 in
theorem wd_531 : Cond.methodLink R_SF 187 y_SF_wrongTable ∈ sf_tb := sf_tb_in 531 rfl rfl
set_option maxRecDepth 20000 in
theorem wd_534 : Cond.code y_SF_wrongTable b_SF_wrongTable 4 (some .int) ∈ sf_tb := sf_tb_in 534 rfl rfl
set_option maxRecDepth 20000 in
theorem wd_533 : Cond.instanceMethod y_SF_wrongTable ∈ sf_tb := sf_tb_in 533 rfl rfl
set_option maxRecDepth 20000 in
theorem wd_28 : Cond.selects R_SF y_SF_wrongTable y_SF_wrongTable ∈ sf_tb := sf_tb_in 28 rfl rfl
set_option maxRecDepth 20000 in
theorem wd_535 : Cond.methodLink R_SF 190 y_SF_wrongPlace ∈ sf_tb := sf_tb_in 535 rfl rfl
set_option maxRecDepth 20000 in
theorem wd_538 : Cond.code y_SF_wrongPlace b_SF_wrongPlace 6 (some .int) ∈ sf_tb := sf_tb_in 538 rfl rfl
set_option maxRecDepth 20000 in
theorem wd_537 : Cond.instanceMethod y_SF_wrongPlace ∈ sf_tb := sf_tb_in 537 rfl rfl
set_option maxRecDepth 20000 in
theorem wd_29 : Cond.selects R_SF y_SF_wrongPlace y_SF_wrongPlace ∈ sf_tb := sf_tb_in 29 rfl rfl
set_option maxRecDepth 20000 in
theorem wd_546 : Cond.methodLink R_SF 194 y_SF_hasByte ∈ sf_tb := sf_tb_in 546 rfl rfl
set_option maxRecDepth 20000 in
theorem wd_549 : Cond.code y_SF_hasByte b_SF_hasByte 3 (some .boolean) ∈ sf_tb := sf_tb_in 549 rfl rfl
set_option maxRecDepth 20000 in
theorem wd_548 : Cond.instanceMethod y_SF_hasByte ∈ sf_tb := sf_tb_in 548 rfl rfl
set_option maxRecDepth 20000 in
theorem wd_30 : Cond.selects R_SF y_SF_hasByte y_SF_hasByte ∈ sf_tb := sf_tb_in 30 rfl rfl
theorem lk_SF_70 : sf_LV R_SF 70 y_SF_addToTape b_SF_addToTape 2 none 1 := ⟨wd_294, wd_291, wd_293, wd_6, wd_51, by decide +kernel⟩
theorem lk_SF_74 : sf_LS R_SF 74 y_SF_isRow b_SF_isRow 1 (some .boolean) 1 := ⟨wd_306, wd_304, wd_305, wd_51, by decide +kernel⟩
theorem lk_SF_92 : sf_LS R_SF 92 y_SF_isMonth b_SF_isMonth 1 (some .boolean) 1 := ⟨wd_341, wd_339, wd_340, wd_51, by decide +kernel⟩
theorem lk_SF_97 : sf_LV R_SF 97 y_SF_takePlaces b_SF_takePlaces 5 (some .boolean) 2 := ⟨wd_346, wd_343, wd_345, wd_7, wd_51, by decide +kernel⟩
theorem lk_SF_106 : sf_LV R_SF 106 y_SF_preparePlaceFromTape b_SF_preparePlaceFromTape 7 none 3 := ⟨wd_396, wd_393, wd_395, wd_14, wd_51, by decide +kernel⟩
theorem lk_SF_132 : sf_LV R_SF 132 y_SF_followToMove b_SF_followToMove 3 (some .boolean) 2 := ⟨wd_455, wd_452, wd_454, wd_22, wd_51, by decide +kernel⟩
theorem lk_SF_141 : sf_LV R_SF 141 y_SF_moveFollowed b_SF_moveFollowed 3 (some .boolean) 1 := ⟨wd_472, wd_469, wd_471, wd_25, wd_51, by decide +kernel⟩
theorem lk_SF_151 : sf_LV R_SF 151 y_Ch_bytes b_Ch_bytes 1 (some .int) 0 := ⟨wd_496, wd_493, wd_494, wd_495, wd_53, by decide +kernel⟩
theorem lk_SF_164 : sf_LV R_SF 164 y_Ch_dataAt b_Ch_dataAt 7 (some .int) 2 := ⟨wd_501, wd_498, wd_499, wd_500, wd_53, by decide +kernel⟩
theorem lk_SF_175 : sf_LV R_SF 175 y_SF_countFree b_SF_countFree 4 (some .int) 1 := ⟨wd_522, wd_519, wd_521, wd_27, wd_51, by decide +kernel⟩
theorem lk_SF_187 : sf_LV R_SF 187 y_SF_wrongTable b_SF_wrongTable 4 (some .int) 1 := ⟨wd_534, wd_531, wd_533, wd_28, wd_51, by decide +kernel⟩
theorem lk_SF_190 : sf_LV R_SF 190 y_SF_wrongPlace b_SF_wrongPlace 6 (some .int) 2 := ⟨wd_538, wd_535, wd_537, wd_29, wd_51, by decide +kernel⟩
theorem lk_SF_194 : sf_LV R_SF 194 y_SF_hasByte b_SF_hasByte 3 (some .boolean) 2 := ⟨wd_549, wd_546, wd_548, wd_30, wd_51, by decide +kernel⟩
theorem d_SF_cut_0 : decode b_SF_cut 0 = .ok (.iload_n 1, 1) := by decide +kernel
theorem d_SF_cut_1 : decode b_SF_cut 1 = .ok (.iconst (-1), 1) := by decide +kernel
theorem d_SF_cut_2 : decode b_SF_cut 2 = .ok (.if_icmp .lt 10, 3) := by decide +kernel
theorem d_SF_cut_5 : decode b_SF_cut 5 = .ok (.iload_n 1, 1) := by decide +kernel
theorem d_SF_cut_6 : decode b_SF_cut 6 = .ok (.sipush 200, 3) := by decide +kernel
theorem d_SF_cut_9 : decode b_SF_cut 9 = .ok (.if_icmp .le 13, 3) := by decide +kernel
theorem d_SF_cut_12 : decode b_SF_cut 12 = .ok (.new 55, 3) := by decide +kernel
theorem d_SF_cut_15 : decode b_SF_cut 15 = .ok (.dup, 1) := by decide +kernel
theorem d_SF_cut_16 : decode b_SF_cut 16 = .ok (.ldc 144, 2) := by decide +kernel
theorem d_SF_cut_18 : decode b_SF_cut 18 = .ok (.invokespecial 59, 3) := by decide +kernel
theorem d_SF_cut_21 : decode b_SF_cut 21 = .ok (.athrow, 1) := by decide +kernel
theorem d_SF_cut_22 : decode b_SF_cut 22 = .ok (.aload_n 0, 1) := by decide +kernel
theorem d_SF_cut_23 : decode b_SF_cut 23 = .ok (.iload_n 1, 1) := by decide +kernel
theorem d_SF_cut_24 : decode b_SF_cut 24 = .ok (.putfield 51, 3) := by decide +kernel
theorem d_SF_cut_27 : decode b_SF_cut 27 = .ok (.return_, 1) := by decide +kernel
theorem d_SF_remove_0 : decode b_SF_remove 0 = .ok (.iload_n 1, 1) := by decide +kernel
theorem d_SF_remove_1 : decode b_SF_remove 1 = .ok (.invokestatic 74, 3) := by decide +kernel
theorem d_SF_remove_4 : decode b_SF_remove 4 = .ok (.ifCond .ne 13, 3) := by decide +kernel
theorem d_SF_remove_7 : decode b_SF_remove 7 = .ok (.new 78, 3) := by decide +kernel
theorem d_SF_remove_10 : decode b_SF_remove 10 = .ok (.dup, 1) := by decide +kernel
theorem d_SF_remove_11 : decode b_SF_remove 11 = .ok (.ldc 80, 2) := by decide +kernel
theorem d_SF_remove_13 : decode b_SF_remove 13 = .ok (.invokespecial 82, 3) := by decide +kernel
theorem d_SF_remove_16 : decode b_SF_remove 16 = .ok (.athrow, 1) := by decide +kernel
theorem d_SF_remove_17 : decode b_SF_remove 17 = .ok (.aload_n 0, 1) := by decide +kernel
theorem d_SF_remove_18 : decode b_SF_remove 18 = .ok (.getfield 83, 3) := by decide +kernel
theorem d_SF_remove_21 : decode b_SF_remove 21 = .ok (.ifCond .ne 11, 3) := by decide +kernel
theorem d_SF_remove_24 : decode b_SF_remove 24 = .ok (.aload_n 0, 1) := by decide +kernel
theorem d_SF_remove_25 : decode b_SF_remove 25 = .ok (.iload_n 1, 1) := by decide +kernel
theorem d_SF_remove_26 : decode b_SF_remove 26 = .ok (.invokevirtual 125, 3) := by decide +kernel
theorem d_SF_remove_29 : decode b_SF_remove 29 = .ok (.ifCond .ne 13, 3) := by decide +kernel
theorem d_SF_remove_32 : decode b_SF_remove 32 = .ok (.new 87, 3) := by decide +kernel
theorem d_SF_remove_35 : decode b_SF_remove 35 = .ok (.dup, 1) := by decide +kernel
theorem d_SF_remove_36 : decode b_SF_remove 36 = .ok (.ldc 128, 2) := by decide +kernel
theorem d_SF_remove_38 : decode b_SF_remove 38 = .ok (.invokespecial 91, 3) := by decide +kernel
theorem d_SF_remove_41 : decode b_SF_remove 41 = .ok (.athrow, 1) := by decide +kernel
theorem d_SF_remove_42 : decode b_SF_remove 42 = .ok (.aload_n 0, 1) := by decide +kernel
theorem d_SF_remove_43 : decode b_SF_remove 43 = .ok (.iconst 0, 1) := by decide +kernel
theorem d_SF_remove_44 : decode b_SF_remove 44 = .ok (.invokevirtual 103, 3) := by decide +kernel
theorem d_SF_remove_47 : decode b_SF_remove 47 = .ok (.aload_n 0, 1) := by decide +kernel
theorem d_SF_remove_48 : decode b_SF_remove 48 = .ok (.iload_n 1, 1) := by decide +kernel
theorem d_SF_remove_49 : decode b_SF_remove 49 = .ok (.iconst 0, 1) := by decide +kernel
theorem d_SF_remove_50 : decode b_SF_remove 50 = .ok (.iconst 0, 1) := by decide +kernel
theorem d_SF_remove_51 : decode b_SF_remove 51 = .ok (.invokevirtual 118, 3) := by decide +kernel
theorem d_SF_remove_54 : decode b_SF_remove 54 = .ok (.aload_n 0, 1) := by decide +kernel
theorem d_SF_remove_55 : decode b_SF_remove 55 = .ok (.invokevirtual 121, 3) := by decide +kernel
theorem d_SF_remove_58 : decode b_SF_remove 58 = .ok (.ifCond .eq 7, 3) := by decide +kernel
theorem d_SF_remove_61 : decode b_SF_remove 61 = .ok (.iconst 0, 1) := by decide +kernel
theorem d_SF_remove_62 : decode b_SF_remove 62 = .ok (.goto 4, 3) := by decide +kernel
theorem d_SF_remove_65 : decode b_SF_remove 65 = .ok (.iconst (-1), 1) := by decide +kernel
theorem d_SF_remove_66 : decode b_SF_remove 66 = .ok (.ireturn, 1) := by decide +kernel
theorem d_SF_write_0 : decode b_SF_write 0 = .ok (.iload_n 1, 1) := by decide +kernel
theorem d_SF_write_1 : decode b_SF_write 1 = .ok (.invokestatic 74, 3) := by decide +kernel
theorem d_SF_write_4 : decode b_SF_write 4 = .ok (.ifCond .ne 13, 3) := by decide +kernel
theorem d_SF_write_7 : decode b_SF_write 7 = .ok (.new 78, 3) := by decide +kernel
theorem d_SF_write_10 : decode b_SF_write 10 = .ok (.dup, 1) := by decide +kernel
theorem d_SF_write_11 : decode b_SF_write 11 = .ok (.ldc 80, 2) := by decide +kernel
theorem d_SF_write_13 : decode b_SF_write 13 = .ok (.invokespecial 82, 3) := by decide +kernel
theorem d_SF_write_16 : decode b_SF_write 16 = .ok (.athrow, 1) := by decide +kernel
theorem d_SF_write_17 : decode b_SF_write 17 = .ok (.aload_n 0, 1) := by decide +kernel
theorem d_SF_write_18 : decode b_SF_write 18 = .ok (.getfield 83, 3) := by decide +kernel
theorem d_SF_write_21 : decode b_SF_write 21 = .ok (.ifCond .ne 10, 3) := by decide +kernel
theorem d_SF_write_24 : decode b_SF_write 24 = .ok (.aload_n 0, 1) := by decide +kernel
theorem d_SF_write_25 : decode b_SF_write 25 = .ok (.getfield 62, 3) := by decide +kernel
theorem d_SF_write_28 : decode b_SF_write 28 = .ok (.ifCond .ne 13, 3) := by decide +kernel
theorem d_SF_write_31 : decode b_SF_write 31 = .ok (.new 87, 3) := by decide +kernel
theorem d_SF_write_34 : decode b_SF_write 34 = .ok (.dup, 1) := by decide +kernel
theorem d_SF_write_35 : decode b_SF_write 35 = .ok (.ldc 89, 2) := by decide +kernel
theorem d_SF_write_37 : decode b_SF_write 37 = .ok (.invokespecial 91, 3) := by decide +kernel
theorem d_SF_write_40 : decode b_SF_write 40 = .ok (.athrow, 1) := by decide +kernel
theorem d_SF_write_41 : decode b_SF_write 41 = .ok (.iload_n 2, 1) := by decide +kernel
theorem d_SF_write_42 : decode b_SF_write 42 = .ok (.invokestatic 92, 3) := by decide +kernel
theorem d_SF_write_45 : decode b_SF_write 45 = .ok (.ifCond .ne 13, 3) := by decide +kernel
theorem d_SF_write_48 : decode b_SF_write 48 = .ok (.new 55, 3) := by decide +kernel
theorem d_SF_write_51 : decode b_SF_write 51 = .ok (.dup, 1) := by decide +kernel
theorem d_SF_write_52 : decode b_SF_write 52 = .ok (.ldc 95, 2) := by decide +kernel
theorem d_SF_write_54 : decode b_SF_write 54 = .ok (.invokespecial 59, 3) := by decide +kernel
theorem d_SF_write_57 : decode b_SF_write 57 = .ok (.athrow, 1) := by decide +kernel
theorem d_SF_write_58 : decode b_SF_write 58 = .ok (.aload_n 0, 1) := by decide +kernel
theorem d_SF_write_59 : decode b_SF_write 59 = .ok (.getfield 62, 3) := by decide +kernel
theorem d_SF_write_62 : decode b_SF_write 62 = .ok (.bipush 25, 2) := by decide +kernel
theorem d_SF_write_64 : decode b_SF_write 64 = .ok (.iadd, 1) := by decide +kernel
theorem d_SF_write_65 : decode b_SF_write 65 = .ok (.iconst 1, 1) := by decide +kernel
theorem d_SF_write_66 : decode b_SF_write 66 = .ok (.isub, 1) := by decide +kernel
theorem d_SF_write_67 : decode b_SF_write 67 = .ok (.bipush 25, 2) := by decide +kernel
theorem d_SF_write_69 : decode b_SF_write 69 = .ok (.idiv, 1) := by decide +kernel
theorem d_SF_write_70 : decode b_SF_write 70 = .ok (.istore_n 3, 1) := by decide +kernel
theorem d_SF_write_71 : decode b_SF_write 71 = .ok (.aload_n 0, 1) := by decide +kernel
theorem d_SF_write_72 : decode b_SF_write 72 = .ok (.iconst 0, 1) := by decide +kernel
theorem d_SF_write_73 : decode b_SF_write 73 = .ok (.iload_n 3, 1) := by decide +kernel
theorem d_SF_write_74 : decode b_SF_write 74 = .ok (.invokevirtual 97, 3) := by decide +kernel
theorem d_SF_write_77 : decode b_SF_write 77 = .ok (.ifCond .ne 13, 3) := by decide +kernel
theorem d_SF_write_80 : decode b_SF_write 80 = .ok (.new 65, 3) := by decide +kernel
theorem d_SF_write_83 : decode b_SF_write 83 = .ok (.dup, 1) := by decide +kernel
theorem d_SF_write_84 : decode b_SF_write 84 = .ok (.ldc 101, 2) := by decide +kernel
theorem d_SF_write_86 : decode b_SF_write 86 = .ok (.invokespecial 69, 3) := by decide +kernel
theorem d_SF_write_89 : decode b_SF_write 89 = .ok (.athrow, 1) := by decide +kernel
theorem d_SF_write_90 : decode b_SF_write 90 = .ok (.aload_n 0, 1) := by decide +kernel
theorem d_SF_write_91 : decode b_SF_write 91 = .ok (.iload_n 3, 1) := by decide +kernel
theorem d_SF_write_92 : decode b_SF_write 92 = .ok (.invokevirtual 103, 3) := by decide +kernel
theorem d_SF_write_95 : decode b_SF_write 95 = .ok (.iconst 0, 1) := by decide +kernel
theorem d_SF_write_96 : decode b_SF_write 96 = .ok (.istore 4, 2) := by decide +kernel
theorem d_SF_write_98 : decode b_SF_write 98 = .ok (.iload 4, 2) := by decide +kernel
theorem d_SF_write_100 : decode b_SF_write 100 = .ok (.iload_n 3, 1) := by decide +kernel
theorem d_SF_write_101 : decode b_SF_write 101 = .ok (.if_icmp .ge 31, 3) := by decide +kernel
theorem d_SF_write_104 : decode b_SF_write 104 = .ok (.aload_n 0, 1) := by decide +kernel
theorem d_SF_write_105 : decode b_SF_write 105 = .ok (.iload 4, 2) := by decide +kernel
theorem d_SF_write_107 : decode b_SF_write 107 = .ok (.iload_n 3, 1) := by decide +kernel
theorem d_SF_write_108 : decode b_SF_write 108 = .ok (.iload_n 2, 1) := by decide +kernel
theorem d_SF_write_109 : decode b_SF_write 109 = .ok (.invokevirtual 106, 3) := by decide +kernel
theorem d_SF_write_112 : decode b_SF_write 112 = .ok (.aload_n 0, 1) := by decide +kernel
theorem d_SF_write_113 : decode b_SF_write 113 = .ok (.aload_n 0, 1) := by decide +kernel
theorem d_SF_write_114 : decode b_SF_write 114 = .ok (.getfield 14, 3) := by decide +kernel
theorem d_SF_write_117 : decode b_SF_write 117 = .ok (.aload_n 0, 1) := by decide +kernel
theorem d_SF_write_118 : decode b_SF_write 118 = .ok (.iload 4, 2) := by decide +kernel
theorem d_SF_write_120 : decode b_SF_write 120 = .ok (.invokevirtual 110, 3) := by decide +kernel
theorem d_SF_write_123 : decode b_SF_write 123 = .ok (.invokevirtual 114, 3) := by decide +kernel
theorem d_SF_write_126 : decode b_SF_write 126 = .ok (.iinc 4 1, 3) := by decide +kernel
theorem d_SF_write_129 : decode b_SF_write 129 = .ok (.goto (-31), 3) := by decide +kernel
theorem d_SF_write_132 : decode b_SF_write 132 = .ok (.aload_n 0, 1) := by decide +kernel
theorem d_SF_write_133 : decode b_SF_write 133 = .ok (.iconst 0, 1) := by decide +kernel
theorem d_SF_write_134 : decode b_SF_write 134 = .ok (.putfield 62, 3) := by decide +kernel
theorem d_SF_write_137 : decode b_SF_write 137 = .ok (.aload_n 0, 1) := by decide +kernel
theorem d_SF_write_138 : decode b_SF_write 138 = .ok (.iload_n 1, 1) := by decide +kernel
theorem d_SF_write_139 : decode b_SF_write 139 = .ok (.aload_n 0, 1) := by decide +kernel
theorem d_SF_write_140 : decode b_SF_write 140 = .ok (.iconst 0, 1) := by decide +kernel
theorem d_SF_write_141 : decode b_SF_write 141 = .ok (.invokevirtual 110, 3) := by decide +kernel
theorem d_SF_write_144 : decode b_SF_write 144 = .ok (.iconst 1, 1) := by decide +kernel
theorem d_SF_write_145 : decode b_SF_write 145 = .ok (.iadd, 1) := by decide +kernel
theorem d_SF_write_146 : decode b_SF_write 146 = .ok (.iconst 0, 1) := by decide +kernel
theorem d_SF_write_147 : decode b_SF_write 147 = .ok (.invokevirtual 118, 3) := by decide +kernel
theorem d_SF_write_150 : decode b_SF_write 150 = .ok (.aload_n 0, 1) := by decide +kernel
theorem d_SF_write_151 : decode b_SF_write 151 = .ok (.invokevirtual 121, 3) := by decide +kernel
theorem d_SF_write_154 : decode b_SF_write 154 = .ok (.ifCond .eq 7, 3) := by decide +kernel
theorem d_SF_write_157 : decode b_SF_write 157 = .ok (.iload_n 3, 1) := by decide +kernel
theorem d_SF_write_158 : decode b_SF_write 158 = .ok (.goto 4, 3) := by decide +kernel
theorem d_SF_write_161 : decode b_SF_write 161 = .ok (.iconst (-1), 1) := by decide +kernel
theorem d_SF_write_162 : decode b_SF_write 162 = .ok (.ireturn, 1) := by decide +kernel
theorem d_SF_row_0 : decode b_SF_row 0 = .ok (.iload_n 1, 1) := by decide +kernel
theorem d_SF_row_1 : decode b_SF_row 1 = .ok (.invokestatic 74, 3) := by decide +kernel
theorem d_SF_row_4 : decode b_SF_row 4 = .ok (.ifCond .eq 8, 3) := by decide +kernel
theorem d_SF_row_7 : decode b_SF_row 7 = .ok (.iload_n 2, 1) := by decide +kernel
theorem d_SF_row_8 : decode b_SF_row 8 = .ok (.iconst (-1), 1) := by decide +kernel
theorem d_SF_row_9 : decode b_SF_row 9 = .ok (.if_icmp .ge 13, 3) := by decide +kernel
theorem d_SF_row_12 : decode b_SF_row 12 = .ok (.new 78, 3) := by decide +kernel
theorem d_SF_row_15 : decode b_SF_row 15 = .ok (.dup, 1) := by decide +kernel
theorem d_SF_row_16 : decode b_SF_row 16 = .ok (.ldc 146, 2) := by decide +kernel
theorem d_SF_row_18 : decode b_SF_row 18 = .ok (.invokespecial 82, 3) := by decide +kernel
theorem d_SF_row_21 : decode b_SF_row 21 = .ok (.athrow, 1) := by decide +kernel
theorem d_SF_row_22 : decode b_SF_row 22 = .ok (.aload_n 0, 1) := by decide +kernel
theorem d_SF_row_23 : decode b_SF_row 23 = .ok (.getfield 83, 3) := by decide +kernel
theorem d_SF_row_26 : decode b_SF_row 26 = .ok (.ifCond .ne 11, 3) := by decide +kernel
theorem d_SF_row_29 : decode b_SF_row 29 = .ok (.aload_n 0, 1) := by decide +kernel
theorem d_SF_row_30 : decode b_SF_row 30 = .ok (.iload_n 1, 1) := by decide +kernel
theorem d_SF_row_31 : decode b_SF_row 31 = .ok (.invokevirtual 125, 3) := by decide +kernel
theorem d_SF_row_34 : decode b_SF_row 34 = .ok (.ifCond .ne 13, 3) := by decide +kernel
theorem d_SF_row_37 : decode b_SF_row 37 = .ok (.new 87, 3) := by decide +kernel
theorem d_SF_row_40 : decode b_SF_row 40 = .ok (.dup, 1) := by decide +kernel
theorem d_SF_row_41 : decode b_SF_row 41 = .ok (.ldc 128, 2) := by decide +kernel
theorem d_SF_row_43 : decode b_SF_row 43 = .ok (.invokespecial 91, 3) := by decide +kernel
theorem d_SF_row_46 : decode b_SF_row 46 = .ok (.athrow, 1) := by decide +kernel
theorem d_SF_row_47 : decode b_SF_row 47 = .ok (.aload_n 0, 1) := by decide +kernel
theorem d_SF_row_48 : decode b_SF_row 48 = .ok (.iload_n 1, 1) := by decide +kernel
theorem d_SF_row_49 : decode b_SF_row 49 = .ok (.invokevirtual 148, 3) := by decide +kernel
theorem d_SF_row_52 : decode b_SF_row 52 = .ok (.iload_n 2, 1) := by decide +kernel
theorem d_SF_row_53 : decode b_SF_row 53 = .ok (.iconst (-1), 1) := by decide +kernel
theorem d_SF_row_54 : decode b_SF_row 54 = .ok (.if_icmp .ne 11, 3) := by decide +kernel
theorem d_SF_row_57 : decode b_SF_row 57 = .ok (.aload_n 0, 1) := by decide +kernel
theorem d_SF_row_58 : decode b_SF_row 58 = .ok (.getfield 33, 3) := by decide +kernel
theorem d_SF_row_61 : decode b_SF_row 61 = .ok (.invokevirtual 151, 3) := by decide +kernel
theorem d_SF_row_64 : decode b_SF_row 64 = .ok (.ireturn, 1) := by decide +kernel
theorem d_SF_row_65 : decode b_SF_row 65 = .ok (.iload_n 2, 1) := by decide +kernel
theorem d_SF_row_66 : decode b_SF_row 66 = .ok (.aload_n 0, 1) := by decide +kernel
theorem d_SF_row_67 : decode b_SF_row 67 = .ok (.getfield 33, 3) := by decide +kernel
theorem d_SF_row_70 : decode b_SF_row 70 = .ok (.invokevirtual 151, 3) := by decide +kernel
theorem d_SF_row_73 : decode b_SF_row 73 = .ok (.if_icmp .lt 13, 3) := by decide +kernel
theorem d_SF_row_76 : decode b_SF_row 76 = .ok (.new 78, 3) := by decide +kernel
theorem d_SF_row_79 : decode b_SF_row 79 = .ok (.dup, 1) := by decide +kernel
theorem d_SF_row_80 : decode b_SF_row 80 = .ok (.ldc 155, 2) := by decide +kernel
theorem d_SF_row_82 : decode b_SF_row 82 = .ok (.invokespecial 82, 3) := by decide +kernel
theorem d_SF_row_85 : decode b_SF_row 85 = .ok (.athrow, 1) := by decide +kernel
theorem d_SF_row_86 : decode b_SF_row 86 = .ok (.aload_n 0, 1) := by decide +kernel
theorem d_SF_row_87 : decode b_SF_row 87 = .ok (.getfield 33, 3) := by decide +kernel
theorem d_SF_row_90 : decode b_SF_row 90 = .ok (.aload_n 0, 1) := by decide +kernel
theorem d_SF_row_91 : decode b_SF_row 91 = .ok (.aload_n 0, 1) := by decide +kernel
theorem d_SF_row_92 : decode b_SF_row 92 = .ok (.iload_n 1, 1) := by decide +kernel
theorem d_SF_row_93 : decode b_SF_row 93 = .ok (.invokevirtual 157, 3) := by decide +kernel
theorem d_SF_row_96 : decode b_SF_row 96 = .ok (.invokevirtual 160, 3) := by decide +kernel
theorem d_SF_row_99 : decode b_SF_row 99 = .ok (.iload_n 2, 1) := by decide +kernel
theorem d_SF_row_100 : decode b_SF_row 100 = .ok (.invokevirtual 164, 3) := by decide +kernel
theorem d_SF_row_103 : decode b_SF_row 103 = .ok (.ireturn, 1) := by decide +kernel
theorem d_SF_at_0 : decode b_SF_at 0 = .ok (.iload_n 1, 1) := by decide +kernel
theorem d_SF_at_1 : decode b_SF_at 1 = .ok (.invokestatic 74, 3) := by decide +kernel
theorem d_SF_at_4 : decode b_SF_at 4 = .ok (.ifCond .eq 12, 3) := by decide +kernel
theorem d_SF_at_7 : decode b_SF_at 7 = .ok (.iload_n 2, 1) := by decide +kernel
theorem d_SF_at_8 : decode b_SF_at 8 = .ok (.ifCond .lt 8, 3) := by decide +kernel
theorem d_SF_at_11 : decode b_SF_at 11 = .ok (.iload_n 2, 1) := by decide +kernel
theorem d_SF_at_12 : decode b_SF_at 12 = .ok (.iconst 3, 1) := by decide +kernel
theorem d_SF_at_13 : decode b_SF_at 13 = .ok (.if_icmp .le 13, 3) := by decide +kernel
theorem d_SF_at_16 : decode b_SF_at 16 = .ok (.new 78, 3) := by decide +kernel
theorem d_SF_at_19 : decode b_SF_at 19 = .ok (.dup, 1) := by decide +kernel
theorem d_SF_at_20 : decode b_SF_at 20 = .ok (.ldc 168, 2) := by decide +kernel
theorem d_SF_at_22 : decode b_SF_at 22 = .ok (.invokespecial 82, 3) := by decide +kernel
theorem d_SF_at_25 : decode b_SF_at 25 = .ok (.athrow, 1) := by decide +kernel
theorem d_SF_at_26 : decode b_SF_at 26 = .ok (.aload_n 0, 1) := by decide +kernel
theorem d_SF_at_27 : decode b_SF_at 27 = .ok (.getfield 83, 3) := by decide +kernel
theorem d_SF_at_30 : decode b_SF_at 30 = .ok (.ifCond .ne 15, 3) := by decide +kernel
theorem d_SF_at_33 : decode b_SF_at 33 = .ok (.iload_n 2, 1) := by decide +kernel
theorem d_SF_at_34 : decode b_SF_at 34 = .ok (.ifCond .eq 21, 3) := by decide +kernel
theorem d_SF_at_37 : decode b_SF_at 37 = .ok (.aload_n 0, 1) := by decide +kernel
theorem d_SF_at_38 : decode b_SF_at 38 = .ok (.iload_n 1, 1) := by decide +kernel
theorem d_SF_at_39 : decode b_SF_at 39 = .ok (.invokevirtual 125, 3) := by decide +kernel
theorem d_SF_at_42 : decode b_SF_at 42 = .ok (.ifCond .ne 13, 3) := by decide +kernel
theorem d_SF_at_45 : decode b_SF_at 45 = .ok (.new 87, 3) := by decide +kernel
theorem d_SF_at_48 : decode b_SF_at 48 = .ok (.dup, 1) := by decide +kernel
theorem d_SF_at_49 : decode b_SF_at 49 = .ok (.ldc 128, 2) := by decide +kernel
theorem d_SF_at_51 : decode b_SF_at 51 = .ok (.invokespecial 91, 3) := by decide +kernel
theorem d_SF_at_54 : decode b_SF_at 54 = .ok (.athrow, 1) := by decide +kernel
theorem d_SF_at_55 : decode b_SF_at 55 = .ok (.iload_n 2, 1) := by decide +kernel
theorem d_SF_at_56 : decode b_SF_at 56 = .ok (.ifCond .ne 17, 3) := by decide +kernel
theorem d_SF_at_59 : decode b_SF_at 59 = .ok (.aload_n 0, 1) := by decide +kernel
theorem d_SF_at_60 : decode b_SF_at 60 = .ok (.iload_n 1, 1) := by decide +kernel
theorem d_SF_at_61 : decode b_SF_at 61 = .ok (.invokevirtual 125, 3) := by decide +kernel
theorem d_SF_at_64 : decode b_SF_at 64 = .ok (.ifCond .eq 7, 3) := by decide +kernel
theorem d_SF_at_67 : decode b_SF_at 67 = .ok (.iconst 1, 1) := by decide +kernel
theorem d_SF_at_68 : decode b_SF_at 68 = .ok (.goto 4, 3) := by decide +kernel
theorem d_SF_at_71 : decode b_SF_at 71 = .ok (.iconst 0, 1) := by decide +kernel
theorem d_SF_at_72 : decode b_SF_at 72 = .ok (.ireturn, 1) := by decide +kernel
theorem d_SF_at_73 : decode b_SF_at 73 = .ok (.iload_n 2, 1) := by decide +kernel
theorem d_SF_at_74 : decode b_SF_at 74 = .ok (.iconst 1, 1) := by decide +kernel
theorem d_SF_at_75 : decode b_SF_at 75 = .ok (.if_icmp .ne 17, 3) := by decide +kernel
theorem d_SF_at_78 : decode b_SF_at 78 = .ok (.aload_n 0, 1) := by decide +kernel
theorem d_SF_at_79 : decode b_SF_at 79 = .ok (.iload_n 1, 1) := by decide +kernel
theorem d_SF_at_80 : decode b_SF_at 80 = .ok (.invokevirtual 157, 3) := by decide +kernel
theorem d_SF_at_83 : decode b_SF_at 83 = .ok (.ifCond .eq 7, 3) := by decide +kernel
theorem d_SF_at_86 : decode b_SF_at 86 = .ok (.iconst 1, 1) := by decide +kernel
theorem d_SF_at_87 : decode b_SF_at 87 = .ok (.goto 4, 3) := by decide +kernel
theorem d_SF_at_90 : decode b_SF_at 90 = .ok (.iconst 0, 1) := by decide +kernel
theorem d_SF_at_91 : decode b_SF_at 91 = .ok (.ireturn, 1) := by decide +kernel
theorem d_SF_at_92 : decode b_SF_at 92 = .ok (.aload_n 0, 1) := by decide +kernel
theorem d_SF_at_93 : decode b_SF_at 93 = .ok (.iload_n 1, 1) := by decide +kernel
theorem d_SF_at_94 : decode b_SF_at 94 = .ok (.invokevirtual 148, 3) := by decide +kernel
theorem d_SF_at_97 : decode b_SF_at 97 = .ok (.iload_n 2, 1) := by decide +kernel
theorem d_SF_at_98 : decode b_SF_at 98 = .ok (.iconst 2, 1) := by decide +kernel
theorem d_SF_at_99 : decode b_SF_at 99 = .ok (.if_icmp .ne 13, 3) := by decide +kernel
theorem d_SF_at_102 : decode b_SF_at 102 = .ok (.aload_n 0, 1) := by decide +kernel
theorem d_SF_at_103 : decode b_SF_at 103 = .ok (.getfield 33, 3) := by decide +kernel
theorem d_SF_at_106 : decode b_SF_at 106 = .ok (.invokevirtual 170, 3) := by decide +kernel
theorem d_SF_at_109 : decode b_SF_at 109 = .ok (.goto 10, 3) := by decide +kernel
theorem d_SF_at_112 : decode b_SF_at 112 = .ok (.aload_n 0, 1) := by decide +kernel
theorem d_SF_at_113 : decode b_SF_at 113 = .ok (.getfield 33, 3) := by decide +kernel
theorem d_SF_at_116 : decode b_SF_at 116 = .ok (.getfield 136, 3) := by decide +kernel
theorem d_SF_at_119 : decode b_SF_at 119 = .ok (.ireturn, 1) := by decide +kernel
theorem d_SF_told_0 : decode b_SF_told 0 = .ok (.iload_n 1, 1) := by decide +kernel
theorem d_SF_told_1 : decode b_SF_told 1 = .ok (.ifCond .lt 8, 3) := by decide +kernel
theorem d_SF_told_4 : decode b_SF_told 4 = .ok (.iload_n 1, 1) := by decide +kernel
theorem d_SF_told_5 : decode b_SF_told 5 = .ok (.iconst 4, 1) := by decide +kernel
theorem d_SF_told_6 : decode b_SF_told 6 = .ok (.if_icmp .le 13, 3) := by decide +kernel
theorem d_SF_told_9 : decode b_SF_told 9 = .ok (.new 78, 3) := by decide +kernel
theorem d_SF_told_12 : decode b_SF_told 12 = .ok (.dup, 1) := by decide +kernel
theorem d_SF_told_13 : decode b_SF_told 13 = .ok (.ldc 173, 2) := by decide +kernel
theorem d_SF_told_15 : decode b_SF_told 15 = .ok (.invokespecial 82, 3) := by decide +kernel
theorem d_SF_told_18 : decode b_SF_told 18 = .ok (.athrow, 1) := by decide +kernel
theorem d_SF_told_19 : decode b_SF_told 19 = .ok (.aload_n 0, 1) := by decide +kernel
theorem d_SF_told_20 : decode b_SF_told 20 = .ok (.getfield 83, 3) := by decide +kernel
theorem d_SF_told_23 : decode b_SF_told 23 = .ok (.ifCond .eq 18, 3) := by decide +kernel
theorem d_SF_told_26 : decode b_SF_told 26 = .ok (.iload_n 1, 1) := by decide +kernel
theorem d_SF_told_27 : decode b_SF_told 27 = .ok (.iconst 4, 1) := by decide +kernel
theorem d_SF_told_28 : decode b_SF_told 28 = .ok (.if_icmp .eq 13, 3) := by decide +kernel
theorem d_SF_told_31 : decode b_SF_told 31 = .ok (.new 87, 3) := by decide +kernel
theorem d_SF_told_34 : decode b_SF_told 34 = .ok (.dup, 1) := by decide +kernel
theorem d_SF_told_35 : decode b_SF_told 35 = .ok (.ldc 130, 2) := by decide +kernel
theorem d_SF_told_37 : decode b_SF_told 37 = .ok (.invokespecial 91, 3) := by decide +kernel
theorem d_SF_told_40 : decode b_SF_told 40 = .ok (.athrow, 1) := by decide +kernel
theorem d_SF_told_41 : decode b_SF_told 41 = .ok (.iload_n 1, 1) := by decide +kernel
theorem d_SF_told_72 : decode b_SF_told 72 = .ok (.aload_n 0, 1) := by decide +kernel
theorem d_SF_told_73 : decode b_SF_told 73 = .ok (.iconst 0, 1) := by decide +kernel
theorem d_SF_told_74 : decode b_SF_told 74 = .ok (.invokevirtual 175, 3) := by decide +kernel
theorem d_SF_told_77 : decode b_SF_told 77 = .ok (.ireturn, 1) := by decide +kernel
theorem d_SF_told_78 : decode b_SF_told 78 = .ok (.aload_n 0, 1) := by decide +kernel
theorem d_SF_told_79 : decode b_SF_told 79 = .ok (.iconst 1, 1) := by decide +kernel
theorem d_SF_told_80 : decode b_SF_told 80 = .ok (.invokevirtual 175, 3) := by decide +kernel
theorem d_SF_told_83 : decode b_SF_told 83 = .ok (.ireturn, 1) := by decide +kernel
theorem d_SF_told_84 : decode b_SF_told 84 = .ok (.aload_n 0, 1) := by decide +kernel
theorem d_SF_told_85 : decode b_SF_told 85 = .ok (.aload_n 0, 1) := by decide +kernel
theorem d_SF_told_86 : decode b_SF_told 86 = .ok (.invokevirtual 179, 3) := by decide +kernel
theorem d_SF_told_89 : decode b_SF_told 89 = .ok (.invokevirtual 182, 3) := by decide +kernel
theorem d_SF_told_92 : decode b_SF_told 92 = .ok (.ireturn, 1) := by decide +kernel
theorem d_SF_told_93 : decode b_SF_told 93 = .ok (.aload_n 0, 1) := by decide +kernel
theorem d_SF_told_94 : decode b_SF_told 94 = .ok (.invokevirtual 179, 3) := by decide +kernel
theorem d_SF_told_97 : decode b_SF_told 97 = .ok (.ireturn, 1) := by decide +kernel
theorem d_SF_told_98 : decode b_SF_told 98 = .ok (.aload_n 0, 1) := by decide +kernel
theorem d_SF_told_99 : decode b_SF_told 99 = .ok (.getfield 62, 3) := by decide +kernel
theorem d_SF_told_102 : decode b_SF_told 102 = .ok (.ireturn, 1) := by decide +kernel
theorem d_SF_wrong_0 : decode b_SF_wrong 0 = .ok (.iload_n 1, 1) := by decide +kernel
theorem d_SF_wrong_1 : decode b_SF_wrong 1 = .ok (.ifCond .lt 12, 3) := by decide +kernel
theorem d_SF_wrong_4 : decode b_SF_wrong 4 = .ok (.iload_n 1, 1) := by decide +kernel
theorem d_SF_wrong_5 : decode b_SF_wrong 5 = .ok (.iconst 2, 1) := by decide +kernel
theorem d_SF_wrong_6 : decode b_SF_wrong 6 = .ok (.if_icmp .gt 7, 3) := by decide +kernel
theorem d_SF_wrong_9 : decode b_SF_wrong 9 = .ok (.iload_n 2, 1) := by decide +kernel
theorem d_SF_wrong_10 : decode b_SF_wrong 10 = .ok (.ifCond .ge 13, 3) := by decide +kernel
theorem d_SF_wrong_13 : decode b_SF_wrong 13 = .ok (.new 78, 3) := by decide +kernel
theorem d_SF_wrong_16 : decode b_SF_wrong 16 = .ok (.dup, 1) := by decide +kernel
theorem d_SF_wrong_17 : decode b_SF_wrong 17 = .ok (.ldc 185, 2) := by decide +kernel
theorem d_SF_wrong_19 : decode b_SF_wrong 19 = .ok (.invokespecial 82, 3) := by decide +kernel
theorem d_SF_wrong_22 : decode b_SF_wrong 22 = .ok (.athrow, 1) := by decide +kernel
theorem d_SF_wrong_23 : decode b_SF_wrong 23 = .ok (.iload_n 1, 1) := by decide +kernel
theorem d_SF_wrong_24 : decode b_SF_wrong 24 = .ok (.iconst 2, 1) := by decide +kernel
theorem d_SF_wrong_25 : decode b_SF_wrong 25 = .ok (.if_icmp .ne 11, 3) := by decide +kernel
theorem d_SF_wrong_28 : decode b_SF_wrong 28 = .ok (.aload_n 0, 1) := by decide +kernel
theorem d_SF_wrong_29 : decode b_SF_wrong 29 = .ok (.iload_n 2, 1) := by decide +kernel
theorem d_SF_wrong_30 : decode b_SF_wrong 30 = .ok (.invokevirtual 187, 3) := by decide +kernel
theorem d_SF_wrong_33 : decode b_SF_wrong 33 = .ok (.goto 18, 3) := by decide +kernel
theorem d_SF_wrong_36 : decode b_SF_wrong 36 = .ok (.aload_n 0, 1) := by decide +kernel
theorem d_SF_wrong_37 : decode b_SF_wrong 37 = .ok (.iload_n 1, 1) := by decide +kernel
theorem d_SF_wrong_38 : decode b_SF_wrong 38 = .ok (.iconst 1, 1) := by decide +kernel
theorem d_SF_wrong_39 : decode b_SF_wrong 39 = .ok (.if_icmp .ne 7, 3) := by decide +kernel
theorem d_SF_wrong_42 : decode b_SF_wrong 42 = .ok (.iconst 1, 1) := by decide +kernel
theorem d_SF_wrong_43 : decode b_SF_wrong 43 = .ok (.goto 4, 3) := by decide +kernel
theorem d_SF_wrong_46 : decode b_SF_wrong 46 = .ok (.iconst 0, 1) := by decide +kernel
theorem d_SF_wrong_47 : decode b_SF_wrong 47 = .ok (.iload_n 2, 1) := by decide +kernel
theorem d_SF_wrong_48 : decode b_SF_wrong 48 = .ok (.invokevirtual 190, 3) := by decide +kernel
theorem d_SF_wrong_51 : decode b_SF_wrong 51 = .ok (.ireturn, 1) := by decide +kernel
theorem d_SF_byteAt_0 : decode b_SF_byteAt 0 = .ok (.aload_n 0, 1) := by decide +kernel
theorem d_SF_byteAt_1 : decode b_SF_byteAt 1 = .ok (.iload_n 1, 1) := by decide +kernel
theorem d_SF_byteAt_2 : decode b_SF_byteAt 2 = .ok (.iload_n 2, 1) := by decide +kernel
theorem d_SF_byteAt_3 : decode b_SF_byteAt 3 = .ok (.invokevirtual 194, 3) := by decide +kernel
theorem d_SF_byteAt_6 : decode b_SF_byteAt 6 = .ok (.ifCond .ne 13, 3) := by decide +kernel
theorem d_SF_byteAt_9 : decode b_SF_byteAt 9 = .ok (.new 78, 3) := by decide +kernel
theorem d_SF_byteAt_12 : decode b_SF_byteAt 12 = .ok (.dup, 1) := by decide +kernel
theorem d_SF_byteAt_13 : decode b_SF_byteAt 13 = .ok (.ldc 197, 2) := by decide +kernel
theorem d_SF_byteAt_15 : decode b_SF_byteAt 15 = .ok (.invokespecial 82, 3) := by decide +kernel
theorem d_SF_byteAt_18 : decode b_SF_byteAt 18 = .ok (.athrow, 1) := by decide +kernel
theorem d_SF_byteAt_19 : decode b_SF_byteAt 19 = .ok (.aload_n 0, 1) := by decide +kernel
theorem d_SF_byteAt_20 : decode b_SF_byteAt 20 = .ok (.iload_n 1, 1) := by decide +kernel
theorem d_SF_byteAt_21 : decode b_SF_byteAt 21 = .ok (.invokevirtual 199, 3) := by decide +kernel
theorem d_SF_byteAt_24 : decode b_SF_byteAt 24 = .ok (.iconst 0, 1) := by decide +kernel
theorem d_SF_byteAt_25 : decode b_SF_byteAt 25 = .ok (.iload_n 2, 1) := by decide +kernel
theorem d_SF_byteAt_26 : decode b_SF_byteAt 26 = .ok (.invokevirtual 203, 3) := by decide +kernel
theorem d_SF_byteAt_29 : decode b_SF_byteAt 29 = .ok (.ireturn, 1) := by decide +kernel
theorem d_SF_poke_0 : decode b_SF_poke 0 = .ok (.aload_n 0, 1) := by decide +kernel
theorem d_SF_poke_1 : decode b_SF_poke 1 = .ok (.iload_n 1, 1) := by decide +kernel
theorem d_SF_poke_2 : decode b_SF_poke 2 = .ok (.iload_n 2, 1) := by decide +kernel
theorem d_SF_poke_3 : decode b_SF_poke 3 = .ok (.invokevirtual 194, 3) := by decide +kernel
theorem d_SF_poke_6 : decode b_SF_poke 6 = .ok (.ifCond .ne 13, 3) := by decide +kernel
theorem d_SF_poke_9 : decode b_SF_poke 9 = .ok (.new 78, 3) := by decide +kernel
theorem d_SF_poke_12 : decode b_SF_poke 12 = .ok (.dup, 1) := by decide +kernel
theorem d_SF_poke_13 : decode b_SF_poke 13 = .ok (.ldc 197, 2) := by decide +kernel
theorem d_SF_poke_15 : decode b_SF_poke 15 = .ok (.invokespecial 82, 3) := by decide +kernel
theorem d_SF_poke_18 : decode b_SF_poke 18 = .ok (.athrow, 1) := by decide +kernel
theorem d_SF_poke_19 : decode b_SF_poke 19 = .ok (.iload_n 3, 1) := by decide +kernel
theorem d_SF_poke_20 : decode b_SF_poke 20 = .ok (.iconst 1, 1) := by decide +kernel
theorem d_SF_poke_21 : decode b_SF_poke 21 = .ok (.if_icmp .lt 10, 3) := by decide +kernel
theorem d_SF_poke_24 : decode b_SF_poke 24 = .ok (.iload_n 3, 1) := by decide +kernel
theorem d_SF_poke_25 : decode b_SF_poke 25 = .ok (.sipush 255, 3) := by decide +kernel
theorem d_SF_poke_28 : decode b_SF_poke 28 = .ok (.if_icmp .le 13, 3) := by decide +kernel
theorem d_SF_poke_31 : decode b_SF_poke 31 = .ok (.new 55, 3) := by decide +kernel
theorem d_SF_poke_34 : decode b_SF_poke 34 = .ok (.dup, 1) := by decide +kernel
theorem d_SF_poke_35 : decode b_SF_poke 35 = .ok (.ldc 207, 2) := by decide +kernel
theorem d_SF_poke_37 : decode b_SF_poke 37 = .ok (.invokespecial 59, 3) := by decide +kernel
theorem d_SF_poke_40 : decode b_SF_poke 40 = .ok (.athrow, 1) := by decide +kernel
theorem d_SF_poke_41 : decode b_SF_poke 41 = .ok (.aload_n 0, 1) := by decide +kernel
theorem d_SF_poke_42 : decode b_SF_poke 42 = .ok (.iload_n 1, 1) := by decide +kernel
theorem d_SF_poke_43 : decode b_SF_poke 43 = .ok (.invokevirtual 199, 3) := by decide +kernel
theorem d_SF_poke_46 : decode b_SF_poke 46 = .ok (.astore 4, 2) := by decide +kernel
theorem d_SF_poke_48 : decode b_SF_poke 48 = .ok (.aload 4, 2) := by decide +kernel
theorem d_SF_poke_50 : decode b_SF_poke 50 = .ok (.iconst 0, 1) := by decide +kernel
theorem d_SF_poke_51 : decode b_SF_poke 51 = .ok (.iload_n 2, 1) := by decide +kernel
theorem d_SF_poke_52 : decode b_SF_poke 52 = .ok (.aload 4, 2) := by decide +kernel
theorem d_SF_poke_54 : decode b_SF_poke 54 = .ok (.iconst 0, 1) := by decide +kernel
theorem d_SF_poke_55 : decode b_SF_poke 55 = .ok (.iload_n 2, 1) := by decide +kernel
theorem d_SF_poke_56 : decode b_SF_poke 56 = .ok (.invokevirtual 203, 3) := by decide +kernel
theorem d_SF_poke_59 : decode b_SF_poke 59 = .ok (.iload_n 3, 1) := by decide +kernel
theorem d_SF_poke_60 : decode b_SF_poke 60 = .ok (.ixor, 1) := by decide +kernel
theorem d_SF_poke_61 : decode b_SF_poke 61 = .ok (.invokevirtual 209, 3) := by decide +kernel
theorem d_SF_poke_64 : decode b_SF_poke 64 = .ok (.aload_n 0, 1) := by decide +kernel
theorem d_SF_poke_65 : decode b_SF_poke 65 = .ok (.iconst 1, 1) := by decide +kernel
theorem d_SF_poke_66 : decode b_SF_poke 66 = .ok (.putfield 83, 3) := by decide +kernel
theorem d_SF_poke_69 : decode b_SF_poke 69 = .ok (.return_, 1) := by decide +kernel
theorem d_SF_move_0 : decode b_SF_move 0 = .ok (.aload_n 0, 1) := by decide +kernel
theorem d_SF_move_1 : decode b_SF_move 1 = .ok (.getfield 83, 3) := by decide +kernel
theorem d_SF_move_4 : decode b_SF_move 4 = .ok (.ifCond .eq 13, 3) := by decide +kernel
theorem d_SF_move_7 : decode b_SF_move 7 = .ok (.new 87, 3) := by decide +kernel
theorem d_SF_move_10 : decode b_SF_move 10 = .ok (.dup, 1) := by decide +kernel
theorem d_SF_move_11 : decode b_SF_move 11 = .ok (.ldc 130, 2) := by decide +kernel
theorem d_SF_move_13 : decode b_SF_move 13 = .ok (.invokespecial 91, 3) := by decide +kernel
theorem d_SF_move_16 : decode b_SF_move 16 = .ok (.athrow, 1) := by decide +kernel
theorem d_SF_move_17 : decode b_SF_move 17 = .ok (.iload_n 1, 1) := by decide +kernel
theorem d_SF_move_18 : decode b_SF_move 18 = .ok (.invokestatic 92, 3) := by decide +kernel
theorem d_SF_move_21 : decode b_SF_move 21 = .ok (.ifCond .ne 13, 3) := by decide +kernel
theorem d_SF_move_24 : decode b_SF_move 24 = .ok (.new 55, 3) := by decide +kernel
theorem d_SF_move_27 : decode b_SF_move 27 = .ok (.dup, 1) := by decide +kernel
theorem d_SF_move_28 : decode b_SF_move 28 = .ok (.ldc 95, 2) := by decide +kernel
theorem d_SF_move_30 : decode b_SF_move 30 = .ok (.invokespecial 59, 3) := by decide +kernel
theorem d_SF_move_33 : decode b_SF_move 33 = .ok (.athrow, 1) := by decide +kernel
theorem d_SF_move_34 : decode b_SF_move 34 = .ok (.iconst 0, 1) := by decide +kernel
theorem d_SF_move_35 : decode b_SF_move 35 = .ok (.istore_n 2, 1) := by decide +kernel
theorem d_SF_move_36 : decode b_SF_move 36 = .ok (.iconst 0, 1) := by decide +kernel
theorem d_SF_move_37 : decode b_SF_move 37 = .ok (.istore_n 3, 1) := by decide +kernel
theorem d_SF_move_38 : decode b_SF_move 38 = .ok (.iload_n 3, 1) := by decide +kernel
theorem d_SF_move_39 : decode b_SF_move 39 = .ok (.bipush 12, 2) := by decide +kernel
theorem d_SF_move_41 : decode b_SF_move 41 = .ok (.if_icmp .ge 59, 3) := by decide +kernel
theorem d_SF_move_44 : decode b_SF_move 44 = .ok (.aload_n 0, 1) := by decide +kernel
theorem d_SF_move_45 : decode b_SF_move 45 = .ok (.iload_n 3, 1) := by decide +kernel
theorem d_SF_move_46 : decode b_SF_move 46 = .ok (.iload_n 1, 1) := by decide +kernel
theorem d_SF_move_47 : decode b_SF_move 47 = .ok (.invokevirtual 132, 3) := by decide +kernel
theorem d_SF_move_50 : decode b_SF_move 50 = .ok (.ifCond .ne 6, 3) := by decide +kernel
theorem d_SF_move_53 : decode b_SF_move 53 = .ok (.goto 41, 3) := by decide +kernel
theorem d_SF_move_56 : decode b_SF_move 56 = .ok (.aload_n 0, 1) := by decide +kernel
theorem d_SF_move_57 : decode b_SF_move 57 = .ok (.iconst 1, 1) := by decide +kernel
theorem d_SF_move_58 : decode b_SF_move 58 = .ok (.aload_n 0, 1) := by decide +kernel
theorem d_SF_move_59 : decode b_SF_move 59 = .ok (.getfield 33, 3) := by decide +kernel
theorem d_SF_move_62 : decode b_SF_move 62 = .ok (.getfield 136, 3) := by decide +kernel
theorem d_SF_move_65 : decode b_SF_move 65 = .ok (.invokevirtual 97, 3) := by decide +kernel
theorem d_SF_move_68 : decode b_SF_move 68 = .ok (.ifCond .ne 13, 3) := by decide +kernel
theorem d_SF_move_71 : decode b_SF_move 71 = .ok (.new 65, 3) := by decide +kernel
theorem d_SF_move_74 : decode b_SF_move 74 = .ok (.dup, 1) := by decide +kernel
theorem d_SF_move_75 : decode b_SF_move 75 = .ok (.ldc 139, 2) := by decide +kernel
theorem d_SF_move_77 : decode b_SF_move 77 = .ok (.invokespecial 69, 3) := by decide +kernel
theorem d_SF_move_80 : decode b_SF_move 80 = .ok (.athrow, 1) := by decide +kernel
theorem d_SF_move_81 : decode b_SF_move 81 = .ok (.aload_n 0, 1) := by decide +kernel
theorem d_SF_move_82 : decode b_SF_move 82 = .ok (.iload_n 3, 1) := by decide +kernel
theorem d_SF_move_83 : decode b_SF_move 83 = .ok (.invokevirtual 141, 3) := by decide +kernel
theorem d_SF_move_86 : decode b_SF_move 86 = .ok (.ifCond .ne 5, 3) := by decide +kernel
theorem d_SF_move_89 : decode b_SF_move 89 = .ok (.iconst (-1), 1) := by decide +kernel
theorem d_SF_move_90 : decode b_SF_move 90 = .ok (.ireturn, 1) := by decide +kernel
theorem d_SF_move_91 : decode b_SF_move 91 = .ok (.iinc 2 1, 3) := by decide +kernel
theorem d_SF_move_94 : decode b_SF_move 94 = .ok (.iinc 3 1, 3) := by decide +kernel
theorem d_SF_move_97 : decode b_SF_move 97 = .ok (.goto (-59), 3) := by decide +kernel
theorem d_SF_move_100 : decode b_SF_move 100 = .ok (.iload_n 2, 1) := by decide +kernel
theorem d_SF_move_101 : decode b_SF_move 101 = .ok (.ireturn, 1) := by decide +kernel
set_option maxRecDepth 20000 in
theorem xk_55_59 : sf_XOK R_SF 55 59 "java/lang/IllegalArgumentException" := ⟨by decide +kernel, ⟨wd_206, wd_58⟩, by decide +kernel, by decide +kernel⟩
set_option maxRecDepth 20000 in
theorem xk_65_69 : sf_XOK R_SF 65 69 "java/lang/UnsupportedOperationException" := ⟨by decide +kernel, ⟨wd_275, wd_59⟩, by decide +kernel, by decide +kernel⟩
set_option maxRecDepth 20000 in
theorem xk_78_82 : sf_XOK R_SF 78 82 "java/lang/IndexOutOfBoundsException" := ⟨by decide +kernel, ⟨wd_307, wd_60⟩, by decide +kernel, by decide +kernel⟩
set_option maxRecDepth 20000 in
theorem xk_87_91 : sf_XOK R_SF 87 91 "java/lang/IllegalStateException" := ⟨by decide +kernel, ⟨wd_323, wd_61⟩, by decide +kernel, by decide +kernel⟩
set_option maxRecDepth 20000 in
theorem xs_101 : Cond.stringRef R_SF 101 "not so many free places" ∈ lw_tbl := List.mem_of_getElem? (i := 388) rfl
set_option maxRecDepth 20000 in
theorem xs_128 : Cond.stringRef R_SF 128 "the file is shut or the row is not there" ∈ lw_tbl := List.mem_of_getElem? (i := 443) rfl
set_option maxRecDepth 20000 in
theorem xs_130 : Cond.stringRef R_SF 130 "the file is shut" ∈ lw_tbl := List.mem_of_getElem? (i := 451) rfl
set_option maxRecDepth 20000 in
theorem xs_139 : Cond.stringRef R_SF 139 "no room in the slow file" ∈ lw_tbl := List.mem_of_getElem? (i := 468) rfl
set_option maxRecDepth 20000 in
theorem xs_144 : Cond.stringRef R_SF 144 "a cut is behind 0 to 200 bytes, or -1" ∈ lw_tbl := List.mem_of_getElem? (i := 484) rfl
set_option maxRecDepth 20000 in
theorem xs_146 : Cond.stringRef R_SF 146 "no such row or byte" ∈ lw_tbl := List.mem_of_getElem? (i := 492) rfl
set_option maxRecDepth 20000 in
theorem xs_155 : Cond.stringRef R_SF 155 "the row has no such byte" ∈ lw_tbl := List.mem_of_getElem? (i := 497) rfl
set_option maxRecDepth 20000 in
theorem xs_168 : Cond.stringRef R_SF 168 "no such row or what" ∈ lw_tbl := List.mem_of_getElem? (i := 510) rfl
set_option maxRecDepth 20000 in
theorem xs_173 : Cond.stringRef R_SF 173 "no such what" ∈ lw_tbl := List.mem_of_getElem? (i := 518) rfl
set_option maxRecDepth 20000 in
theorem xs_185 : Cond.stringRef R_SF 185 "no such what, or k is below 0" ∈ lw_tbl := List.mem_of_getElem? (i := 530) rfl
set_option maxRecDepth 20000 in
theorem xs_197 : Cond.stringRef R_SF 197 "no such byte" ∈ lw_tbl := List.mem_of_getElem? (i := 555) rfl
set_option maxRecDepth 20000 in
theorem xs_207 : Cond.stringRef R_SF 207 "a mask is 1 to 255" ∈ lw_tbl := List.mem_of_getElem? (i := 563) rfl
set_option maxRecDepth 20000 in
theorem xs_57 : Cond.stringRef R_SF 57 "1 to 8 bytes are fed at once" ∈ lw_tbl := List.mem_of_getElem? (i := 248) rfl
set_option maxRecDepth 20000 in
theorem xs_67 : Cond.stringRef R_SF 67 "the tape holds 60 bytes" ∈ lw_tbl := List.mem_of_getElem? (i := 284) rfl
set_option maxRecDepth 20000 in
theorem xs_80 : Cond.stringRef R_SF 80 "no such row" ∈ lw_tbl := List.mem_of_getElem? (i := 316) rfl
set_option maxRecDepth 20000 in
theorem xs_89 : Cond.stringRef R_SF 89 "the file is shut or the tape is empty" ∈ lw_tbl := List.mem_of_getElem? (i := 332) rfl
set_option maxRecDepth 20000 in
theorem xs_95 : Cond.stringRef R_SF 95 "no such month" ∈ lw_tbl := List.mem_of_getElem? (i := 342) rfl
theorem f_SF_isSlow_b (tb : Nat → Int32) (ro : Int32) : f_SF_isSlow tb ro = 0 ∨ f_SF_isSlow tb ro = 1 := by
  unfold f_SF_isSlow
  split
  · exact Or.inl rfl
  · exact Or.inr rfl
theorem f_SF_hasByte_3 {wt i : Int32} (h : ¬ f_SF_hasByte wt i = 0) : wt = 0 ∨ wt = 1 ∨ wt = 2 := by
  by_cases h1 : wt < 0
  · exact absurd (by simp only [f_SF_hasByte, eq_true h1, ↓reduceIte]) h
  · by_cases h2 : 2 < wt
    · exact absurd (by simp only [f_SF_hasByte, eq_false h1, eq_true h2, ↓reduceIte]) h
    · exact sf_three h1 h2
theorem sf_five {x : Int32} (h1 : ¬ x < 0) (h2 : x ≤ 4) : x = 0 ∨ x = 1 ∨ x = 2 ∨ x = 3 ∨ x = 4 := by
  obtain ⟨j, hj, rfl⟩ := nI_of h1
  have h3 : nI j ≤ nI 4 := h2
  rw [nI_leI hj (by omega)] at h3
  rcases (show j = 0 ∨ j = 1 ∨ j = 2 ∨ j = 3 ∨ j = 4 by omega) with rfl | rfl | rfl | rfl | rfl
  · exact Or.inl rfl
  · exact Or.inr (Or.inl rfl)
  · exact Or.inr (Or.inr (Or.inl rfl))
  · exact Or.inr (Or.inr (Or.inr (Or.inl rfl)))
  · exact Or.inr (Or.inr (Or.inr (Or.inr rfl)))
theorem d_SF_told_42 : decode b_SF_told 42 = .ok (.tableswitch 56 0 3 #[30, 36, 42, 51], 30) := by decide +kernel
def f_SF_cut (cu : Int32) (bt : Int32) : (Int32 × Int32) :=
  if bt < (-1) then
    (3, cu)
  else
    if bt ≤ 200 then
      (0, bt)
    else
      (3, cu)
set_option maxHeartbeats 1000000 in
set_option maxRecDepth 100000 in
/-- cut -/
theorem c_SF_cut (l : Launch) (D : va_G) (cI cZ cJ : ClassId) (hst : l.stackTraces = false) (q : Nat → Nat) (fl : Nat → Int32) (sl : Nat → Int32) (tb : Nat → Int32) (np : Nat → Int32) (nt : Nat → Int32) (cp : Nat → Int32) (cc : Int32) (cb : Int32) (ch : Int32) (cm : Int32) (mp : Nat → Int32) (mc : Int32) (mb : Int32) (mh : Int32) (mm : Int32) (us : Nat → Int32) (ta : Nat → Int32) (tp : Nat → Int32) (tl : Int32) (cu : Int32) (bl : Int32) (pf : Int32) (sh : Int32) (bt : Int32) : sf_XM (S := (Int32 × Int32)) l D classes (sf_tys cI cZ cJ) y_SF_cut (sf_ws y_SF_cut b_SF_cut 2 none) 6 90 [.ref (q 0), .int bt] (sf_w q cI cZ fl sl tb np nt cp cc cb ch cm mp mc mb mh mm us ta tp tl cu bl pf sh) (fun r => r.1) (fun _ => none) (fun r => r = f_SF_cut cu bt) (fun r => (sf_w q cI cZ fl sl tb np nt cp cc cb ch cm mp mc mb mh mm us ta tp tl r.2 bl pf sh)) := by
  refine sf_xofW (S := (Int32 × Int32)) (by decide) (Nat.le_of_ble_eq_true rfl) ?_
  intro p e s m below meth c A ls R args Q hR hArgs hQ hC0 hr hex hE hK hP hD hl
  obtain ⟨hx, hb, hml, hown, hts, hA, hlk⟩ := hC0
  have hS : va_S A s.heap s.heap [] := va_S.rf
  have hl : lv_has ls 2 [(0, .ref (q 0)), (1, .int bt)] := hl
  refine lv_iload_n hx hb d_SF_cut_0 rfl (lv_at hl 1 rfl) ?_
  refine lv_iconst (v := (-1)) hx hb d_SF_cut_1 (by decide) ?_
  refine lv_icmp_lt (tgt := 12) hx hb d_SF_cut_2 (by decide) (fun c_1 => ?_) (fun c_1 => ?_)
  · rw [hQ]
    exact sf_xthrow (text := "a cut is behind 0 to 200 bytes, or -1") (u := (3, cu)) hx hb hst hml hown hts hE hex xk_55_59 xs_144 hlk hS (show ¬ (3 : Int32) = 0 by decide) (show _ = sf_en 3 by decide) (by simp only [f_SF_cut, eq_true c_1, ↓reduceIte]) hP hl.1 (by rw [hR]; exact ⟨Nat.le_of_ble_eq_true rfl, Nat.le_of_ble_eq_true rfl, Nat.le_refl _, Nat.le_refl _⟩) d_SF_cut_12 d_SF_cut_15 d_SF_cut_16 d_SF_cut_18 d_SF_cut_21
  · refine lv_iload_n hx hb d_SF_cut_5 rfl (lv_at hl 1 rfl) ?_
    refine lv_sipush (v := 200) hx hb d_SF_cut_6 (by decide) ?_
    refine lv_icmp_le (tgt := 22) hx hb d_SF_cut_9 (by decide) (fun c_2 => ?_) (fun c_2 => ?_)
    · refine lv_aload_n hx hb d_SF_cut_22 rfl (lv_at hl 0 rfl) ?_
      refine lv_iload_n hx hb d_SF_cut_23 rfl (lv_at hl 1 rfl) ?_
      refine va_put (D := D) (ci := 2) (v := .int bt) (ty := .int) (C := R_SF) (T := F_SF) (N := 15) hx hb hts i_SF t_SF t_SF_ok n_SF hown hK hP hD hS 0 rfl rfl 11 (by decide) (hts _ wd_120) (fun _ h9 => h9) rfl (by decide +kernel) rfl rfl (Nat.le_of_ble_eq_true rfl) d_SF_cut_24 (fun H locs hP hD hS => ?_)
      have hP : va_P D classes (sf_w q cI cZ fl sl tb np nt cp cc cb ch cm mp mc mb mh mm us ta tp tl bt bl pf sh) H := hP
      have hD : va_D A (sf_w q cI cZ fl sl tb np nt cp cc cb ch cm mp mc mb mh mm us ta tp tl bt bl pf sh) := hD
      rw [hQ]
      exact sf_xvret (0, bt) hx hb hr hlk hS rfl rfl (by simp only [f_SF_cut, eq_false c_1, eq_true c_2, ↓reduceIte]) hP d_SF_cut_27
    · rw [hQ]
      exact sf_xthrow (text := "a cut is behind 0 to 200 bytes, or -1") (u := (3, cu)) hx hb hst hml hown hts hE hex xk_55_59 xs_144 hlk hS (show ¬ (3 : Int32) = 0 by decide) (show _ = sf_en 3 by decide) (by simp only [f_SF_cut, eq_false c_1, eq_false c_2, ↓reduceIte]) hP hl.1 (by rw [hR]; exact ⟨Nat.le_of_ble_eq_true rfl, Nat.le_of_ble_eq_true rfl, Nat.le_refl _, Nat.le_refl _⟩) d_SF_cut_12 d_SF_cut_15 d_SF_cut_16 d_SF_cut_18 d_SF_cut_21
def f_SF_remove (tb : Nat → Int32) (nt : Nat → Int32) (cu : Int32) (bl : Int32) (pf : Int32) (sh : Int32) (ro : Int32) : (Int32 × Int32 × (Nat → Int32) × (Nat → Int32) × Int32 × Int32 × Int32 × Int32) :=
  if (f_SF_isRow ro) = 0 then
    (1, 0, tb, nt, cu, bl, pf, sh)
  else
    if sh = 0 then
      if (f_SF_isThere tb ro) = 0 then
        (2, 0, tb, nt, cu, bl, pf, sh)
      else
        if (f_SF_endWriting (f_SF_beginWriting cu 0).2.2 sh).1 = 0 then
          (0, (-1), (f_SF_putTable tb nt (f_SF_beginWriting cu 0).2.1 ro 0 0).2.1, (f_SF_putTable tb nt (f_SF_beginWriting cu 0).2.1 ro 0 0).1, (f_SF_beginWriting cu 0).1, (f_SF_putTable tb nt (f_SF_beginWriting cu 0).2.1 ro 0 0).2.2, (f_SF_beginWriting cu 0).2.2, (f_SF_endWriting (f_SF_beginWriting cu 0).2.2 sh).2)
        else
          (0, 0, (f_SF_putTable tb nt (f_SF_beginWriting cu 0).2.1 ro 0 0).2.1, (f_SF_putTable tb nt (f_SF_beginWriting cu 0).2.1 ro 0 0).1, (f_SF_beginWriting cu 0).1, (f_SF_putTable tb nt (f_SF_beginWriting cu 0).2.1 ro 0 0).2.2, (f_SF_beginWriting cu 0).2.2, (f_SF_endWriting (f_SF_beginWriting cu 0).2.2 sh).2)
    else
      (2, 0, tb, nt, cu, bl, pf, sh)
set_option maxHeartbeats 1000000 in
set_option maxRecDepth 100000 in
/-- remove -/
theorem c_SF_remove (l : Launch) (D : va_G) (cI cZ cJ : ClassId) (hst : l.stackTraces = false) (q : Nat → Nat) (fl : Nat → Int32) (sl : Nat → Int32) (tb : Nat → Int32) (np : Nat → Int32) (nt : Nat → Int32) (cp : Nat → Int32) (cc : Int32) (cb : Int32) (ch : Int32) (cm : Int32) (mp : Nat → Int32) (mc : Int32) (mb : Int32) (mh : Int32) (mm : Int32) (us : Nat → Int32) (ta : Nat → Int32) (tp : Nat → Int32) (tl : Int32) (cu : Int32) (bl : Int32) (pf : Int32) (sh : Int32) (ro : Int32) : sf_XM (S := (Int32 × Int32 × (Nat → Int32) × (Nat → Int32) × Int32 × Int32 × Int32 × Int32)) l D classes (sf_tys cI cZ cJ) y_SF_remove (sf_ws y_SF_remove b_SF_remove 2 (some .int)) 6 118 [.ref (q 0), .int ro] (sf_w q cI cZ fl sl tb np nt cp cc cb ch cm mp mc mb mh mm us ta tp tl cu bl pf sh) (fun r => r.1) (fun r => some (.int r.2.1)) (fun r => r = f_SF_remove tb nt cu bl pf sh ro) (fun r => (sf_w q cI cZ fl sl r.2.2.1 np r.2.2.2.1 cp cc cb ch cm mp mc mb mh mm us ta tp tl r.2.2.2.2.1 r.2.2.2.2.2.1 r.2.2.2.2.2.2.1 r.2.2.2.2.2.2.2)) := by
  refine sf_xofW (S := (Int32 × Int32 × (Nat → Int32) × (Nat → Int32) × Int32 × Int32 × Int32 × Int32)) (by decide) (Nat.le_of_ble_eq_true rfl) ?_
  intro p e s m below meth c A ls R args Q hR hArgs hQ hC0 hr hex hE hK hP hD hl
  obtain ⟨hx, hb, hml, hown, hts, hA, hlk⟩ := hC0
  have hS : va_S A s.heap s.heap [] := va_S.rf
  have hl : lv_has ls 2 [(0, .ref (q 0)), (1, .int ro)] := hl
  refine lv_iload_n hx hb d_SF_remove_0 rfl (lv_at hl 1 rfl) ?_
  refine sf_callSr (S := Int32) (rest := []) ⟨hx, hb, hml, hown, hts⟩ (c_SF_isRow l D cI cZ cJ ro) (sf_cwS lk_SF_74 hts (fun _ h => h) (by rw [hR]; exact ⟨Nat.le_of_ble_eq_true rfl, Nat.le_of_ble_eq_true rfl⟩)) hK hP hD hS hA [] rfl rfl (fun _ => rfl) rfl rfl hl.1 (Nat.le_of_ble_eq_true rfl) d_SF_remove_1 ⟨Nat.zero_le _, Nat.zero_le _⟩ (fun u_1 H locs hu_1 hP hS => ?_)
  refine lv_if_ne (tgt := 17) hx hb d_SF_remove_4 (by decide) (fun c_2 => ?_) (fun c_2 => ?_)
  · refine lv_aload_n hx hb d_SF_remove_17 rfl (lv_at hl 0 rfl) ?_
    refine va_get (D := D) (ci := 2) (v := .int sh) (C := R_SF) (T := F_SF) (N := 15) hx hb hts i_SF hown hK hP 0 rfl rfl 14 (by decide) (hts _ wd_123) (fun _ h9 => h9) rfl d_SF_remove_18 ?_
    refine lv_if_ne (tgt := 32) hx hb d_SF_remove_21 (by decide) (fun c_3 => ?_) (fun c_3 => ?_)
    · rw [hQ]
      exact sf_xthrow (text := "the file is shut or the row is not there") (u := (2, 0, tb, nt, cu, bl, pf, sh)) hx hb hst hml hown hts hE hex xk_87_91 xs_128 hlk hS (show ¬ (2 : Int32) = 0 by decide) (show _ = sf_en 2 by decide) (by simp only [f_SF_remove, ← hu_1, eq_false c_2, eq_false c_3, ↓reduceIte]) hP hl.1 (by rw [hR]; exact ⟨Nat.le_of_ble_eq_true rfl, Nat.le_of_ble_eq_true rfl, Nat.le_refl _, Nat.le_refl _⟩) d_SF_remove_32 d_SF_remove_35 d_SF_remove_36 d_SF_remove_38 d_SF_remove_41
    · refine lv_aload_n hx hb d_SF_remove_24 rfl (lv_at hl 0 rfl) ?_
      refine lv_iload_n hx hb d_SF_remove_25 rfl (lv_at hl 1 rfl) ?_
      refine sf_callVw (S := Int32) (rest := []) ⟨hx, hb, hml, hown, hts⟩ (c_SF_isThere l D cI cZ cJ q fl sl tb np nt cp cc cb ch cm mp mc mb mh mm us ta tp tl cu bl pf sh ro) (sf_cwV lk_SF_125 hts (fun _ h => h) (by rw [hR]; exact ⟨Nat.le_of_ble_eq_true rfl, Nat.le_of_ble_eq_true rfl⟩)) hK hP hD hS hA (fun _ => by simp only [sf_w_fst]) (ci := 2) (q0 := 0) rfl rfl rfl rfl rfl hl.1 (Nat.le_of_ble_eq_true rfl) d_SF_remove_26 ⟨Nat.zero_le _, Nat.zero_le _⟩ (fun u_4 H locs hu_4 hP hD hS => ?_)
      have hP : va_P D classes (sf_w q cI cZ fl sl tb np nt cp cc cb ch cm mp mc mb mh mm us ta tp tl cu bl pf sh) H := hP
      have hD : va_D A (sf_w q cI cZ fl sl tb np nt cp cc cb ch cm mp mc mb mh mm us ta tp tl cu bl pf sh) := hD
      refine lv_if_ne (tgt := 42) hx hb d_SF_remove_29 (by decide) (fun c_5 => ?_) (fun c_5 => ?_)
      · refine lv_aload_n hx hb d_SF_remove_42 rfl (lv_at hl 0 rfl) ?_
        refine lv_iconst (v := 0) hx hb d_SF_remove_43 (by decide) ?_
        refine sf_callVw (S := (Int32 × Int32 × Int32)) (rest := []) ⟨hx, hb, hml, hown, hts⟩ (c_SF_beginWriting l D cI cZ cJ q fl sl tb np nt cp cc cb ch cm mp mc mb mh mm us ta tp tl cu bl pf sh 0) (sf_cwV lk_SF_103 hts (fun _ h => h) (by rw [hR]; exact ⟨Nat.le_of_ble_eq_true rfl, Nat.le_of_ble_eq_true rfl⟩)) hK hP hD hS hA (fun _ => by simp only [sf_w_fst]) (ci := 2) (q0 := 0) rfl rfl rfl rfl rfl hl.1 (Nat.le_of_ble_eq_true rfl) d_SF_remove_44 ⟨Nat.zero_le _, Nat.zero_le _⟩ (fun u_6 H locs hu_6 hP hD hS => ?_)
        have hP : va_P D classes (sf_w q cI cZ fl sl tb np nt cp cc cb ch cm mp mc mb mh mm us ta tp tl u_6.1 u_6.2.1 u_6.2.2 sh) H := hP
        have hD : va_D A (sf_w q cI cZ fl sl tb np nt cp cc cb ch cm mp mc mb mh mm us ta tp tl u_6.1 u_6.2.1 u_6.2.2 sh) := hD
        refine lv_aload_n hx hb d_SF_remove_47 rfl (lv_at hl 0 rfl) ?_
        refine lv_iload_n hx hb d_SF_remove_48 rfl (lv_at hl 1 rfl) ?_
        refine lv_iconst (v := 0) hx hb d_SF_remove_49 (by decide) ?_
        refine lv_iconst (v := 0) hx hb d_SF_remove_50 (by decide) ?_
        refine sf_callVw (S := ((Nat → Int32) × (Nat → Int32) × Int32)) (rest := []) ⟨hx, hb, hml, hown, hts⟩ (c_SF_putTable l D cI cZ cJ q fl sl tb np nt cp cc cb ch cm mp mc mb mh mm us ta tp tl u_6.1 u_6.2.1 u_6.2.2 sh ro 0 0) (sf_cwV lk_SF_118 hts (fun _ h => h) (by rw [hR]; exact ⟨Nat.le_of_ble_eq_true rfl, Nat.le_of_ble_eq_true rfl⟩)) hK hP hD hS hA (fun _ => by simp only [sf_w_fst]) (ci := 2) (q0 := 0) rfl rfl rfl rfl rfl hl.1 (Nat.le_of_ble_eq_true rfl) d_SF_remove_51 ⟨Nat.zero_le _, Nat.zero_le _⟩ (fun u_7 H locs hu_7 hP hD hS => ?_)
        have hP : va_P D classes (sf_w q cI cZ fl sl u_7.2.1 np u_7.1 cp cc cb ch cm mp mc mb mh mm us ta tp tl u_6.1 u_7.2.2 u_6.2.2 sh) H := hP
        have hD : va_D A (sf_w q cI cZ fl sl u_7.2.1 np u_7.1 cp cc cb ch cm mp mc mb mh mm us ta tp tl u_6.1 u_7.2.2 u_6.2.2 sh) := hD
        refine lv_aload_n hx hb d_SF_remove_54 rfl (lv_at hl 0 rfl) ?_
        refine sf_callVw (S := (Int32 × Int32)) (rest := []) ⟨hx, hb, hml, hown, hts⟩ (c_SF_endWriting l D cI cZ cJ q fl sl u_7.2.1 np u_7.1 cp cc cb ch cm mp mc mb mh mm us ta tp tl u_6.1 u_7.2.2 u_6.2.2 sh) (sf_cwV lk_SF_121 hts (fun _ h => h) (by rw [hR]; exact ⟨Nat.le_of_ble_eq_true rfl, Nat.le_of_ble_eq_true rfl⟩)) hK hP hD hS hA (fun _ => by simp only [sf_w_fst]) (ci := 2) (q0 := 0) rfl rfl rfl rfl rfl hl.1 (Nat.le_of_ble_eq_true rfl) d_SF_remove_55 ⟨Nat.zero_le _, Nat.zero_le _⟩ (fun u_8 H locs hu_8 hP hD hS => ?_)
        have hP : va_P D classes (sf_w q cI cZ fl sl u_7.2.1 np u_7.1 cp cc cb ch cm mp mc mb mh mm us ta tp tl u_6.1 u_7.2.2 u_6.2.2 u_8.2) H := hP
        have hD : va_D A (sf_w q cI cZ fl sl u_7.2.1 np u_7.1 cp cc cb ch cm mp mc mb mh mm us ta tp tl u_6.1 u_7.2.2 u_6.2.2 u_8.2) := hD
        refine lv_if_eq (tgt := 65) hx hb d_SF_remove_58 (by decide) (fun c_9 => ?_) (fun c_9 => ?_)
        · refine lv_iconst (v := (-1)) hx hb d_SF_remove_65 (by decide) ?_
          rw [hQ]
          exact sf_xiret (0, (-1), u_7.2.1, u_7.1, u_6.1, u_7.2.2, u_6.2.2, u_8.2) hx hb hr hlk hS rfl rfl rfl (by simp only [f_SF_remove, ← hu_1, ← hu_4, ← hu_6, ← hu_7, ← hu_8, eq_false c_2, eq_true c_3, eq_false c_5, eq_true c_9, ↓reduceIte]) hP d_SF_remove_66
        · refine lv_iconst (v := 0) hx hb d_SF_remove_61 (by decide) ?_
          refine lv_goto (tgt := 66) hx hb d_SF_remove_62 (by decide) ?_
          rw [hQ]
          exact sf_xiret (0, 0, u_7.2.1, u_7.1, u_6.1, u_7.2.2, u_6.2.2, u_8.2) hx hb hr hlk hS rfl rfl rfl (by simp only [f_SF_remove, ← hu_1, ← hu_4, ← hu_6, ← hu_7, ← hu_8, eq_false c_2, eq_true c_3, eq_false c_5, eq_false c_9, ↓reduceIte]) hP d_SF_remove_66
      · rw [hQ]
        exact sf_xthrow (text := "the file is shut or the row is not there") (u := (2, 0, tb, nt, cu, bl, pf, sh)) hx hb hst hml hown hts hE hex xk_87_91 xs_128 hlk hS (show ¬ (2 : Int32) = 0 by decide) (show _ = sf_en 2 by decide) (by simp only [f_SF_remove, ← hu_1, ← hu_4, eq_false c_2, eq_true c_3, eq_true c_5, ↓reduceIte]) hP hl.1 (by rw [hR]; exact ⟨Nat.le_of_ble_eq_true rfl, Nat.le_of_ble_eq_true rfl, Nat.le_refl _, Nat.le_refl _⟩) d_SF_remove_32 d_SF_remove_35 d_SF_remove_36 d_SF_remove_38 d_SF_remove_41
  · rw [hQ]
    exact sf_xthrow (text := "no such row") (u := (1, 0, tb, nt, cu, bl, pf, sh)) hx hb hst hml hown hts hE hex xk_78_82 xs_80 hlk hS (show ¬ (1 : Int32) = 0 by decide) (show _ = sf_en 1 by decide) (by simp only [f_SF_remove, ← hu_1, eq_true c_2, ↓reduceIte]) hP hl.1 (by rw [hR]; exact ⟨Nat.le_of_ble_eq_true rfl, Nat.le_of_ble_eq_true rfl, Nat.le_refl _, Nat.le_refl _⟩) d_SF_remove_7 d_SF_remove_10 d_SF_remove_11 d_SF_remove_13 d_SF_remove_16
def f_SF_write_l98 (fl : Nat → Int32) (tb : Nat → Int32) (nt : Nat → Int32) (mp : Nat → Int32) (mc : Int32) (mb : Int32) (mh : Int32) (mm : Int32) (us : Nat → Int32) (ta : Nat → Int32) (tp : Nat → Int32) (tl : Int32) (cu : Int32) (sh : Int32) (ro : Int32) (mo : Int32) : Nat → Nat → (Nat → Int32) → (Nat → Int32) → Int32 → (Int32 × Int32 × (Nat → Int32) × (Nat → Int32) × (Nat → Int32) × (Nat → Int32) × (Nat → Int32) × (Nat → Int32) × Int32 × Int32 × Int32 × Int32 × (Nat → Int32) × Int32 × Int32 × Int32 × Int32 × Int32)
  | 0, _, _, _, _ => (0, 0, (fun _ => 0), (fun _ => 0), (fun _ => 0), (fun _ => 0), (fun _ => 0), (fun _ => 0), 0, 0, 0, 0, (fun _ => 0), 0, 0, 0, 0, 0)
  | fu + 1, k, vn, vf, vb =>
    if (((tl + 25) - 1) / 25) ≤ (nI k) then
      if (f_SF_endWriting (f_SF_beginWriting cu (((tl + 25) - 1) / 25)).2.2 sh).1 = 0 then
        (0, (-1), vf, (f_SF_putTable tb nt vb ro ((f_SF_takenAt (f_SF_takePlaces_0 fl tb mp mc mb mh mm us ta (((tl + 25) - 1) / 25)).2.2.2.2.2.2.2 0) + 1) 0).2.1, vn, (f_SF_putTable tb nt vb ro ((f_SF_takenAt (f_SF_takePlaces_0 fl tb mp mc mb mh mm us ta (((tl + 25) - 1) / 25)).2.2.2.2.2.2.2 0) + 1) 0).1, (f_SF_takePlaces_0 fl tb mp mc mb mh mm us ta (((tl + 25) - 1) / 25)).2.1, (f_SF_takePlaces_0 fl tb mp mc mb mh mm us ta (((tl + 25) - 1) / 25)).2.2.1, (f_SF_takePlaces_0 fl tb mp mc mb mh mm us ta (((tl + 25) - 1) / 25)).2.2.2.1, (f_SF_takePlaces_0 fl tb mp mc mb mh mm us ta (((tl + 25) - 1) / 25)).2.2.2.2.1, (f_SF_takePlaces_0 fl tb mp mc mb mh mm us ta (((tl + 25) - 1) / 25)).2.2.2.2.2.1, (f_SF_takePlaces_0 fl tb mp mc mb mh mm us ta (((tl + 25) - 1) / 25)).2.2.2.2.2.2.1, (f_SF_takePlaces_0 fl tb mp mc mb mh mm us ta (((tl + 25) - 1) / 25)).2.2.2.2.2.2.2, 0, (f_SF_beginWriting cu (((tl + 25) - 1) / 25)).1, (f_SF_putTable tb nt vb ro ((f_SF_takenAt (f_SF_takePlaces_0 fl tb mp mc mb mh mm us ta (((tl + 25) - 1) / 25)).2.2.2.2.2.2.2 0) + 1) 0).2.2, (f_SF_beginWriting cu (((tl + 25) - 1) / 25)).2.2, (f_SF_endWriting (f_SF_beginWriting cu (((tl + 25) - 1) / 25)).2.2 sh).2)
      else
        (0, (((tl + 25) - 1) / 25), vf, (f_SF_putTable tb nt vb ro ((f_SF_takenAt (f_SF_takePlaces_0 fl tb mp mc mb mh mm us ta (((tl + 25) - 1) / 25)).2.2.2.2.2.2.2 0) + 1) 0).2.1, vn, (f_SF_putTable tb nt vb ro ((f_SF_takenAt (f_SF_takePlaces_0 fl tb mp mc mb mh mm us ta (((tl + 25) - 1) / 25)).2.2.2.2.2.2.2 0) + 1) 0).1, (f_SF_takePlaces_0 fl tb mp mc mb mh mm us ta (((tl + 25) - 1) / 25)).2.1, (f_SF_takePlaces_0 fl tb mp mc mb mh mm us ta (((tl + 25) - 1) / 25)).2.2.1, (f_SF_takePlaces_0 fl tb mp mc mb mh mm us ta (((tl + 25) - 1) / 25)).2.2.2.1, (f_SF_takePlaces_0 fl tb mp mc mb mh mm us ta (((tl + 25) - 1) / 25)).2.2.2.2.1, (f_SF_takePlaces_0 fl tb mp mc mb mh mm us ta (((tl + 25) - 1) / 25)).2.2.2.2.2.1, (f_SF_takePlaces_0 fl tb mp mc mb mh mm us ta (((tl + 25) - 1) / 25)).2.2.2.2.2.2.1, (f_SF_takePlaces_0 fl tb mp mc mb mh mm us ta (((tl + 25) - 1) / 25)).2.2.2.2.2.2.2, 0, (f_SF_beginWriting cu (((tl + 25) - 1) / 25)).1, (f_SF_putTable tb nt vb ro ((f_SF_takenAt (f_SF_takePlaces_0 fl tb mp mc mb mh mm us ta (((tl + 25) - 1) / 25)).2.2.2.2.2.2.2 0) + 1) 0).2.2, (f_SF_beginWriting cu (((tl + 25) - 1) / 25)).2.2, (f_SF_endWriting (f_SF_beginWriting cu (((tl + 25) - 1) / 25)).2.2 sh).2)
    else
      f_SF_write_l98 fl tb nt mp mc mb mh mm us ta tp tl cu sh ro mo fu (k + 1) (f_SF_putPlace_f vf (f_SF_preparePlaceFromTape vn (f_SF_takePlaces_0 fl tb mp mc mb mh mm us ta (((tl + 25) - 1) / 25)).2.2.2.2.2.2.2 tp tl (nI k) (((tl + 25) - 1) / 25) mo) vb (f_SF_takenAt (f_SF_takePlaces_0 fl tb mp mc mb mh mm us ta (((tl + 25) - 1) / 25)).2.2.2.2.2.2.2 (nI k))).1 (f_SF_putPlace_f vf (f_SF_preparePlaceFromTape vn (f_SF_takePlaces_0 fl tb mp mc mb mh mm us ta (((tl + 25) - 1) / 25)).2.2.2.2.2.2.2 tp tl (nI k) (((tl + 25) - 1) / 25) mo) vb (f_SF_takenAt (f_SF_takePlaces_0 fl tb mp mc mb mh mm us ta (((tl + 25) - 1) / 25)).2.2.2.2.2.2.2 (nI k))).2.1 (f_SF_putPlace_f vf (f_SF_preparePlaceFromTape vn (f_SF_takePlaces_0 fl tb mp mc mb mh mm us ta (((tl + 25) - 1) / 25)).2.2.2.2.2.2.2 tp tl (nI k) (((tl + 25) - 1) / 25) mo) vb (f_SF_takenAt (f_SF_takePlaces_0 fl tb mp mc mb mh mm us ta (((tl + 25) - 1) / 25)).2.2.2.2.2.2.2 (nI k))).2.2
def f_SF_write (fl : Nat → Int32) (tb : Nat → Int32) (np : Nat → Int32) (nt : Nat → Int32) (mp : Nat → Int32) (mc : Int32) (mb : Int32) (mh : Int32) (mm : Int32) (us : Nat → Int32) (ta : Nat → Int32) (tp : Nat → Int32) (tl : Int32) (cu : Int32) (bl : Int32) (pf : Int32) (sh : Int32) (ro : Int32) (mo : Int32) : (Int32 × Int32 × (Nat → Int32) × (Nat → Int32) × (Nat → Int32) × (Nat → Int32) × (Nat → Int32) × (Nat → Int32) × Int32 × Int32 × Int32 × Int32 × (Nat → Int32) × Int32 × Int32 × Int32 × Int32 × Int32) :=
  if (f_SF_isRow ro) = 0 then
    (1, 0, fl, tb, np, nt, us, mp, mc, mb, mh, mm, ta, tl, cu, bl, pf, sh)
  else
    if sh = 0 then
      if tl = 0 then
        (2, 0, fl, tb, np, nt, us, mp, mc, mb, mh, mm, ta, tl, cu, bl, pf, sh)
      else
        if (f_SF_isMonth mo) = 0 then
          (3, 0, fl, tb, np, nt, us, mp, mc, mb, mh, mm, ta, tl, cu, bl, pf, sh)
        else
          if (f_SF_takePlaces_0 fl tb mp mc mb mh mm us ta (((tl + 25) - 1) / 25)).1 = 0 then
            (4, 0, fl, tb, np, nt, (f_SF_takePlaces_0 fl tb mp mc mb mh mm us ta (((tl + 25) - 1) / 25)).2.1, (f_SF_takePlaces_0 fl tb mp mc mb mh mm us ta (((tl + 25) - 1) / 25)).2.2.1, (f_SF_takePlaces_0 fl tb mp mc mb mh mm us ta (((tl + 25) - 1) / 25)).2.2.2.1, (f_SF_takePlaces_0 fl tb mp mc mb mh mm us ta (((tl + 25) - 1) / 25)).2.2.2.2.1, (f_SF_takePlaces_0 fl tb mp mc mb mh mm us ta (((tl + 25) - 1) / 25)).2.2.2.2.2.1, (f_SF_takePlaces_0 fl tb mp mc mb mh mm us ta (((tl + 25) - 1) / 25)).2.2.2.2.2.2.1, (f_SF_takePlaces_0 fl tb mp mc mb mh mm us ta (((tl + 25) - 1) / 25)).2.2.2.2.2.2.2, tl, cu, bl, pf, sh)
          else
            f_SF_write_l98 fl tb nt mp mc mb mh mm us ta tp tl cu sh ro mo ((((tl + 25) - 1) / 25).toNatClampNeg + 1) 0 np fl (f_SF_beginWriting cu (((tl + 25) - 1) / 25)).2.1
    else
      (2, 0, fl, tb, np, nt, us, mp, mc, mb, mh, mm, ta, tl, cu, bl, pf, sh)
set_option maxHeartbeats 1000000 in
set_option maxRecDepth 100000 in
/-- write -/
theorem c_SF_write (l : Launch) (D : va_G) (cI cZ cJ : ClassId) (hst : l.stackTraces = false) (q : Nat → Nat) (fl : Nat → Int32) (sl : Nat → Int32) (tb : Nat → Int32) (np : Nat → Int32) (nt : Nat → Int32) (cp : Nat → Int32) (cc : Int32) (cb : Int32) (ch : Int32) (cm : Int32) (mp : Nat → Int32) (mc : Int32) (mb : Int32) (mh : Int32) (mm : Int32) (us : Nat → Int32) (ta : Nat → Int32) (tp : Nat → Int32) (tl : Int32) (cu : Int32) (bl : Int32) (pf : Int32) (sh : Int32) (ro : Int32) (mo : Int32) : sf_XM (S := (Int32 × Int32 × (Nat → Int32) × (Nat → Int32) × (Nat → Int32) × (Nat → Int32) × (Nat → Int32) × (Nat → Int32) × Int32 × Int32 × Int32 × Int32 × (Nat → Int32) × Int32 × Int32 × Int32 × Int32 × Int32)) l D classes (sf_tys cI cZ cJ) y_SF_write (sf_ws y_SF_write b_SF_write 5 (some .int)) 6 145 [.ref (q 0), .int ro, .int mo] (sf_w q cI cZ fl sl tb np nt cp cc cb ch cm mp mc mb mh mm us ta tp tl cu bl pf sh) (fun r => r.1) (fun r => some (.int r.2.1)) (fun r => r = f_SF_write fl tb np nt mp mc mb mh mm us ta tp tl cu bl pf sh ro mo) (fun r => (sf_w q cI cZ r.2.2.1 sl r.2.2.2.1 r.2.2.2.2.1 r.2.2.2.2.2.1 cp cc cb ch cm r.2.2.2.2.2.2.2.1 r.2.2.2.2.2.2.2.2.1 r.2.2.2.2.2.2.2.2.2.1 r.2.2.2.2.2.2.2.2.2.2.1 r.2.2.2.2.2.2.2.2.2.2.2.1 r.2.2.2.2.2.2.1 r.2.2.2.2.2.2.2.2.2.2.2.2.1 tp r.2.2.2.2.2.2.2.2.2.2.2.2.2.1 r.2.2.2.2.2.2.2.2.2.2.2.2.2.2.1 r.2.2.2.2.2.2.2.2.2.2.2.2.2.2.2.1 r.2.2.2.2.2.2.2.2.2.2.2.2.2.2.2.2.1 r.2.2.2.2.2.2.2.2.2.2.2.2.2.2.2.2.2)) := by
  refine sf_xofW (S := (Int32 × Int32 × (Nat → Int32) × (Nat → Int32) × (Nat → Int32) × (Nat → Int32) × (Nat → Int32) × (Nat → Int32) × Int32 × Int32 × Int32 × Int32 × (Nat → Int32) × Int32 × Int32 × Int32 × Int32 × Int32)) (by decide) (Nat.le_of_ble_eq_true rfl) ?_
  intro p e s m below meth c A ls R args Q hR hArgs hQ hC0 hr hex hE hK hP hD hl
  obtain ⟨hx, hb, hml, hown, hts, hA, hlk⟩ := hC0
  have hS : va_S A s.heap s.heap [] := va_S.rf
  have hl : lv_has ls 5 [(0, .ref (q 0)), (1, .int ro), (2, .int mo)] := hl
  have hcl := sf_clt (((tl + 25) - 1) / 25)
  refine lv_iload_n hx hb d_SF_write_0 rfl (lv_at hl 1 rfl) ?_
  refine sf_callSr (S := Int32) (rest := []) ⟨hx, hb, hml, hown, hts⟩ (c_SF_isRow l D cI cZ cJ ro) (sf_cwS lk_SF_74 hts (fun _ h => h) (by rw [hR]; exact ⟨Nat.le_of_ble_eq_true rfl, Nat.le_of_ble_eq_true rfl⟩)) hK hP hD hS hA [] rfl rfl (fun _ => rfl) rfl rfl hl.1 (Nat.le_of_ble_eq_true rfl) d_SF_write_1 ⟨Nat.zero_le _, Nat.zero_le _⟩ (fun u_1 H locs hu_1 hP hS => ?_)
  refine lv_if_ne (tgt := 17) hx hb d_SF_write_4 (by decide) (fun c_2 => ?_) (fun c_2 => ?_)
  · refine lv_aload_n hx hb d_SF_write_17 rfl (lv_at hl 0 rfl) ?_
    refine va_get (D := D) (ci := 2) (v := .int sh) (C := R_SF) (T := F_SF) (N := 15) hx hb hts i_SF hown hK hP 0 rfl rfl 14 (by decide) (hts _ wd_123) (fun _ h9 => h9) rfl d_SF_write_18 ?_
    refine lv_if_ne (tgt := 31) hx hb d_SF_write_21 (by decide) (fun c_3 => ?_) (fun c_3 => ?_)
    · rw [hQ]
      exact sf_xthrow (text := "the file is shut or the tape is empty") (u := (2, 0, fl, tb, np, nt, us, mp, mc, mb, mh, mm, ta, tl, cu, bl, pf, sh)) hx hb hst hml hown hts hE hex xk_87_91 xs_89 hlk hS (show ¬ (2 : Int32) = 0 by decide) (show _ = sf_en 2 by decide) (by simp only [f_SF_write, ← hu_1, eq_false c_2, eq_false c_3, ↓reduceIte]) hP hl.1 (by rw [hR]; exact ⟨Nat.le_of_ble_eq_true rfl, Nat.le_of_ble_eq_true rfl, Nat.le_refl _, Nat.le_refl _⟩) d_SF_write_31 d_SF_write_34 d_SF_write_35 d_SF_write_37 d_SF_write_40
    · refine lv_aload_n hx hb d_SF_write_24 rfl (lv_at hl 0 rfl) ?_
      refine va_get (D := D) (ci := 2) (v := .int tl) (C := R_SF) (T := F_SF) (N := 15) hx hb hts i_SF hown hK hP 0 rfl rfl 10 (by decide) (hts _ wd_119) (fun _ h9 => h9) rfl d_SF_write_25 ?_
      refine lv_if_ne (tgt := 41) hx hb d_SF_write_28 (by decide) (fun c_4 => ?_) (fun c_4 => ?_)
      · refine lv_iload_n hx hb d_SF_write_41 rfl (lv_at hl 2 rfl) ?_
        refine sf_callSr (S := Int32) (rest := []) ⟨hx, hb, hml, hown, hts⟩ (c_SF_isMonth l D cI cZ cJ mo) (sf_cwS lk_SF_92 hts (fun _ h => h) (by rw [hR]; exact ⟨Nat.le_of_ble_eq_true rfl, Nat.le_of_ble_eq_true rfl⟩)) hK hP hD hS hA [] rfl rfl (fun _ => rfl) rfl rfl hl.1 (Nat.le_of_ble_eq_true rfl) d_SF_write_42 ⟨Nat.zero_le _, Nat.zero_le _⟩ (fun u_5 H locs hu_5 hP hS => ?_)
        refine lv_if_ne (tgt := 58) hx hb d_SF_write_45 (by decide) (fun c_6 => ?_) (fun c_6 => ?_)
        · refine lv_aload_n hx hb d_SF_write_58 rfl (lv_at hl 0 rfl) ?_
          refine va_get (D := D) (ci := 2) (v := .int tl) (C := R_SF) (T := F_SF) (N := 15) hx hb hts i_SF hown hK hP 0 rfl rfl 10 (by decide) (hts _ wd_119) (fun _ h9 => h9) rfl d_SF_write_59 ?_
          refine lv_bipush (v := 25) hx hb d_SF_write_62 (by decide) ?_
          refine lv_iadd hx hb d_SF_write_64 ?_
          refine lv_iconst (v := 1) hx hb d_SF_write_65 (by decide) ?_
          refine lv_isub hx hb d_SF_write_66 ?_
          refine lv_bipush (v := 25) hx hb d_SF_write_67 (by decide) ?_
          refine lv_idiv hx hb d_SF_write_69 (by decide) ?_
          refine lv_istore_n (lv' := [(3, .int (((tl + 25) - 1) / 25)), (0, .ref (q 0)), (1, .int ro), (2, .int mo)]) hx hb d_SF_write_70 rfl hl (by decide) rfl (fun ls hl => ?_)
          refine lv_aload_n hx hb d_SF_write_71 rfl (lv_at hl 1 rfl) ?_
          refine lv_iconst (v := 0) hx hb d_SF_write_72 (by decide) ?_
          refine lv_iload_n hx hb d_SF_write_73 rfl (lv_at hl 0 rfl) ?_
          refine sf_callVw (S := (Int32 × (Nat → Int32) × (Nat → Int32) × Int32 × Int32 × Int32 × Int32 × (Nat → Int32))) (rest := []) ⟨hx, hb, hml, hown, hts⟩ (c_SF_takePlaces_0 l D cI cZ cJ q fl sl tb np nt cp cc cb ch cm mp mc mb mh mm us ta tp tl cu bl pf sh (((tl + 25) - 1) / 25)) (sf_cwV lk_SF_97 hts (fun _ h => h) (by rw [hR]; exact ⟨Nat.le_of_ble_eq_true rfl, Nat.le_of_ble_eq_true rfl⟩)) hK hP hD hS hA (fun _ => by simp only [sf_w_fst]) (ci := 2) (q0 := 0) rfl rfl rfl rfl rfl hl.1 (Nat.le_of_ble_eq_true rfl) d_SF_write_74 ⟨Nat.zero_le _, Nat.zero_le _⟩ (fun u_7 H locs hu_7 hP hD hS => ?_)
          have hP : va_P D classes (sf_w q cI cZ fl sl tb np nt cp cc cb ch cm u_7.2.2.1 u_7.2.2.2.1 u_7.2.2.2.2.1 u_7.2.2.2.2.2.1 u_7.2.2.2.2.2.2.1 u_7.2.1 u_7.2.2.2.2.2.2.2 tp tl cu bl pf sh) H := hP
          have hD : va_D A (sf_w q cI cZ fl sl tb np nt cp cc cb ch cm u_7.2.2.1 u_7.2.2.2.1 u_7.2.2.2.2.1 u_7.2.2.2.2.2.1 u_7.2.2.2.2.2.2.1 u_7.2.1 u_7.2.2.2.2.2.2.2 tp tl cu bl pf sh) := hD
          refine lv_if_ne (tgt := 90) hx hb d_SF_write_77 (by decide) (fun c_8 => ?_) (fun c_8 => ?_)
          · refine lv_aload_n hx hb d_SF_write_90 rfl (lv_at hl 1 rfl) ?_
            refine lv_iload_n hx hb d_SF_write_91 rfl (lv_at hl 0 rfl) ?_
            refine sf_callVw (S := (Int32 × Int32 × Int32)) (rest := []) ⟨hx, hb, hml, hown, hts⟩ (c_SF_beginWriting l D cI cZ cJ q fl sl tb np nt cp cc cb ch cm u_7.2.2.1 u_7.2.2.2.1 u_7.2.2.2.2.1 u_7.2.2.2.2.2.1 u_7.2.2.2.2.2.2.1 u_7.2.1 u_7.2.2.2.2.2.2.2 tp tl cu bl pf sh (((tl + 25) - 1) / 25)) (sf_cwV lk_SF_103 hts (fun _ h => h) (by rw [hR]; exact ⟨Nat.le_of_ble_eq_true rfl, Nat.le_of_ble_eq_true rfl⟩)) hK hP hD hS hA (fun _ => by simp only [sf_w_fst]) (ci := 2) (q0 := 0) rfl rfl rfl rfl rfl hl.1 (Nat.le_of_ble_eq_true rfl) d_SF_write_92 ⟨Nat.zero_le _, Nat.zero_le _⟩ (fun u_9 H locs hu_9 hP hD hS => ?_)
            have hP : va_P D classes (sf_w q cI cZ fl sl tb np nt cp cc cb ch cm u_7.2.2.1 u_7.2.2.2.1 u_7.2.2.2.2.1 u_7.2.2.2.2.2.1 u_7.2.2.2.2.2.2.1 u_7.2.1 u_7.2.2.2.2.2.2.2 tp tl u_9.1 u_9.2.1 u_9.2.2 sh) H := hP
            have hD : va_D A (sf_w q cI cZ fl sl tb np nt cp cc cb ch cm u_7.2.2.1 u_7.2.2.2.1 u_7.2.2.2.2.1 u_7.2.2.2.2.2.1 u_7.2.2.2.2.2.2.1 u_7.2.1 u_7.2.2.2.2.2.2.2 tp tl u_9.1 u_9.2.1 u_9.2.2 sh) := hD
            refine lv_iconst (v := 0) hx hb d_SF_write_95 (by decide) ?_
            refine lv_istore (lv' := [(4, .int 0), (3, .int (((tl + 25) - 1) / 25)), (0, .ref (q 0)), (1, .int ro), (2, .int mo)]) hx hb d_SF_write_96 hl (by decide) rfl (fun ls hl => ?_)
            have loop98 : ∀ (fu k : Nat) (vn : (Nat → Int32)) (vf : (Nat → Int32)) (vb : Int32), k ≤ (((tl + 25) - 1) / 25).toNatClampNeg → k + fu = (((tl + 25) - 1) / 25).toNatClampNeg + 1 → f_SF_write_l98 fl tb nt mp mc mb mh mm us ta tp tl cu sh ro mo fu k vn vf vb = f_SF_write fl tb np nt mp mc mb mh mm us ta tp tl cu bl pf sh ro mo → ∀ (H : Heap) (locs : List Loc), va_P D classes (sf_w q cI cZ vf sl tb vn nt cp cc cb ch cm u_7.2.2.1 u_7.2.2.2.1 u_7.2.2.2.2.1 u_7.2.2.2.2.2.1 u_7.2.2.2.2.2.2.1 u_7.2.1 u_7.2.2.2.2.2.2.2 tp tl u_9.1 vb u_9.2.2 sh) H → va_D A (sf_w q cI cZ vf sl tb vn nt cp cc cb ch cm u_7.2.2.1 u_7.2.2.2.1 u_7.2.2.2.2.1 u_7.2.2.2.2.2.1 u_7.2.2.2.2.2.2.1 u_7.2.1 u_7.2.2.2.2.2.2.2 tp tl u_9.1 vb u_9.2.2 sh) → va_S A s.heap H locs → ∀ (ls : Array Slot), lv_has ls 5 [(0, .ref (q 0)), (1, .int ro), (2, .int mo), (3, .int (((tl + 25) - 1) / 25)), (4, .int (nI k))] → W p l e R s m args below meth c H locs 0 0 Q (F0 m 98 ls []) := by
              intro fu
              induction fu with
              | zero =>
                intro k vn vf vb h1 h2
                exact absurd h2 (by omega)
              | succ fu ih98 =>
                intro k vn vf vb hk98 hkn98 heq98 H locs hP hD hS ls hl
                have hcl := sf_clt (((tl + 25) - 1) / 25)
                refine lv_iload hx hb d_SF_write_98 (lv_at hl 4 rfl) ?_
                refine lv_iload_n hx hb d_SF_write_100 rfl (lv_at hl 3 rfl) ?_
                refine lv_icmp_ge (tgt := 132) hx hb d_SF_write_101 (by decide) (fun c_10 => ?_) (fun c_10 => ?_)
                · refine lv_aload_n hx hb d_SF_write_132 rfl (lv_at hl 0 rfl) ?_
                  refine lv_iconst (v := 0) hx hb d_SF_write_133 (by decide) ?_
                  refine va_put (D := D) (ci := 2) (v := .int 0) (ty := .int) (C := R_SF) (T := F_SF) (N := 15) hx hb hts i_SF t_SF t_SF_ok n_SF hown hK hP hD hS 0 rfl rfl 10 (by decide) (hts _ wd_119) (fun _ h9 => h9) rfl (by decide +kernel) rfl rfl (Nat.le_of_ble_eq_true rfl) d_SF_write_134 (fun H locs hP hD hS => ?_)
                  have hP : va_P D classes (sf_w q cI cZ vf sl tb vn nt cp cc cb ch cm u_7.2.2.1 u_7.2.2.2.1 u_7.2.2.2.2.1 u_7.2.2.2.2.2.1 u_7.2.2.2.2.2.2.1 u_7.2.1 u_7.2.2.2.2.2.2.2 tp 0 u_9.1 vb u_9.2.2 sh) H := hP
                  have hD : va_D A (sf_w q cI cZ vf sl tb vn nt cp cc cb ch cm u_7.2.2.1 u_7.2.2.2.1 u_7.2.2.2.2.1 u_7.2.2.2.2.2.1 u_7.2.2.2.2.2.2.1 u_7.2.1 u_7.2.2.2.2.2.2.2 tp 0 u_9.1 vb u_9.2.2 sh) := hD
                  refine lv_aload_n hx hb d_SF_write_137 rfl (lv_at hl 0 rfl) ?_
                  refine lv_iload_n hx hb d_SF_write_138 rfl (lv_at hl 1 rfl) ?_
                  refine lv_aload_n hx hb d_SF_write_139 rfl (lv_at hl 0 rfl) ?_
                  refine lv_iconst (v := 0) hx hb d_SF_write_140 (by decide) ?_
                  refine sf_callVw (S := Int32) (rest := [.int ro, .ref (q 0)]) ⟨hx, hb, hml, hown, hts⟩ (c_SF_takenAt l D cI cZ cJ q vf sl tb vn nt cp cc cb ch cm u_7.2.2.1 u_7.2.2.2.1 u_7.2.2.2.2.1 u_7.2.2.2.2.2.1 u_7.2.2.2.2.2.2.1 u_7.2.1 u_7.2.2.2.2.2.2.2 tp 0 u_9.1 vb u_9.2.2 sh 0) (sf_cwV lk_SF_110 hts (fun _ h => h) (by rw [hR]; exact ⟨Nat.le_of_ble_eq_true rfl, Nat.le_of_ble_eq_true rfl⟩)) hK hP hD hS hA (fun _ => by simp only [sf_w_fst]) (ci := 2) (q0 := 0) rfl rfl rfl rfl rfl hl.1 (Nat.le_of_ble_eq_true rfl) d_SF_write_141 ⟨Nat.zero_le _, Nat.zero_le _⟩ (fun u_11 H locs hu_11 hP hD hS => ?_)
                  have hP : va_P D classes (sf_w q cI cZ vf sl tb vn nt cp cc cb ch cm u_7.2.2.1 u_7.2.2.2.1 u_7.2.2.2.2.1 u_7.2.2.2.2.2.1 u_7.2.2.2.2.2.2.1 u_7.2.1 u_7.2.2.2.2.2.2.2 tp 0 u_9.1 vb u_9.2.2 sh) H := hP
                  have hD : va_D A (sf_w q cI cZ vf sl tb vn nt cp cc cb ch cm u_7.2.2.1 u_7.2.2.2.1 u_7.2.2.2.2.1 u_7.2.2.2.2.2.1 u_7.2.2.2.2.2.2.1 u_7.2.1 u_7.2.2.2.2.2.2.2 tp 0 u_9.1 vb u_9.2.2 sh) := hD
                  refine lv_iconst (v := 1) hx hb d_SF_write_144 (by decide) ?_
                  refine lv_iadd hx hb d_SF_write_145 ?_
                  refine lv_iconst (v := 0) hx hb d_SF_write_146 (by decide) ?_
                  refine sf_callVw (S := ((Nat → Int32) × (Nat → Int32) × Int32)) (rest := []) ⟨hx, hb, hml, hown, hts⟩ (c_SF_putTable l D cI cZ cJ q vf sl tb vn nt cp cc cb ch cm u_7.2.2.1 u_7.2.2.2.1 u_7.2.2.2.2.1 u_7.2.2.2.2.2.1 u_7.2.2.2.2.2.2.1 u_7.2.1 u_7.2.2.2.2.2.2.2 tp 0 u_9.1 vb u_9.2.2 sh ro (u_11 + 1) 0) (sf_cwV lk_SF_118 hts (fun _ h => h) (by rw [hR]; exact ⟨Nat.le_of_ble_eq_true rfl, Nat.le_of_ble_eq_true rfl⟩)) hK hP hD hS hA (fun _ => by simp only [sf_w_fst]) (ci := 2) (q0 := 0) rfl rfl rfl rfl rfl hl.1 (Nat.le_of_ble_eq_true rfl) d_SF_write_147 ⟨Nat.zero_le _, Nat.zero_le _⟩ (fun u_12 H locs hu_12 hP hD hS => ?_)
                  have hP : va_P D classes (sf_w q cI cZ vf sl u_12.2.1 vn u_12.1 cp cc cb ch cm u_7.2.2.1 u_7.2.2.2.1 u_7.2.2.2.2.1 u_7.2.2.2.2.2.1 u_7.2.2.2.2.2.2.1 u_7.2.1 u_7.2.2.2.2.2.2.2 tp 0 u_9.1 u_12.2.2 u_9.2.2 sh) H := hP
                  have hD : va_D A (sf_w q cI cZ vf sl u_12.2.1 vn u_12.1 cp cc cb ch cm u_7.2.2.1 u_7.2.2.2.1 u_7.2.2.2.2.1 u_7.2.2.2.2.2.1 u_7.2.2.2.2.2.2.1 u_7.2.1 u_7.2.2.2.2.2.2.2 tp 0 u_9.1 u_12.2.2 u_9.2.2 sh) := hD
                  refine lv_aload_n hx hb d_SF_write_150 rfl (lv_at hl 0 rfl) ?_
                  refine sf_callVw (S := (Int32 × Int32)) (rest := []) ⟨hx, hb, hml, hown, hts⟩ (c_SF_endWriting l D cI cZ cJ q vf sl u_12.2.1 vn u_12.1 cp cc cb ch cm u_7.2.2.1 u_7.2.2.2.1 u_7.2.2.2.2.1 u_7.2.2.2.2.2.1 u_7.2.2.2.2.2.2.1 u_7.2.1 u_7.2.2.2.2.2.2.2 tp 0 u_9.1 u_12.2.2 u_9.2.2 sh) (sf_cwV lk_SF_121 hts (fun _ h => h) (by rw [hR]; exact ⟨Nat.le_of_ble_eq_true rfl, Nat.le_of_ble_eq_true rfl⟩)) hK hP hD hS hA (fun _ => by simp only [sf_w_fst]) (ci := 2) (q0 := 0) rfl rfl rfl rfl rfl hl.1 (Nat.le_of_ble_eq_true rfl) d_SF_write_151 ⟨Nat.zero_le _, Nat.zero_le _⟩ (fun u_13 H locs hu_13 hP hD hS => ?_)
                  have hP : va_P D classes (sf_w q cI cZ vf sl u_12.2.1 vn u_12.1 cp cc cb ch cm u_7.2.2.1 u_7.2.2.2.1 u_7.2.2.2.2.1 u_7.2.2.2.2.2.1 u_7.2.2.2.2.2.2.1 u_7.2.1 u_7.2.2.2.2.2.2.2 tp 0 u_9.1 u_12.2.2 u_9.2.2 u_13.2) H := hP
                  have hD : va_D A (sf_w q cI cZ vf sl u_12.2.1 vn u_12.1 cp cc cb ch cm u_7.2.2.1 u_7.2.2.2.1 u_7.2.2.2.2.1 u_7.2.2.2.2.2.1 u_7.2.2.2.2.2.2.1 u_7.2.1 u_7.2.2.2.2.2.2.2 tp 0 u_9.1 u_12.2.2 u_9.2.2 u_13.2) := hD
                  refine lv_if_eq (tgt := 161) hx hb d_SF_write_154 (by decide) (fun c_14 => ?_) (fun c_14 => ?_)
                  · refine lv_iconst (v := (-1)) hx hb d_SF_write_161 (by decide) ?_
                    rw [hQ]
                    exact sf_xiret (0, (-1), vf, u_12.2.1, vn, u_12.1, u_7.2.1, u_7.2.2.1, u_7.2.2.2.1, u_7.2.2.2.2.1, u_7.2.2.2.2.2.1, u_7.2.2.2.2.2.2.1, u_7.2.2.2.2.2.2.2, 0, u_9.1, u_12.2.2, u_9.2.2, u_13.2) hx hb hr hlk hS rfl rfl rfl (by rw [← heq98]; simp only [f_SF_write_l98, ← hu_1, ← hu_5, ← hu_7, ← hu_9, ← hu_11, ← hu_12, ← hu_13, eq_true c_10, eq_true c_14, ↓reduceIte]) hP d_SF_write_162
                  · refine lv_iload_n hx hb d_SF_write_157 rfl (lv_at hl 3 rfl) ?_
                    refine lv_goto (tgt := 162) hx hb d_SF_write_158 (by decide) ?_
                    rw [hQ]
                    exact sf_xiret (0, (((tl + 25) - 1) / 25), vf, u_12.2.1, vn, u_12.1, u_7.2.1, u_7.2.2.1, u_7.2.2.2.1, u_7.2.2.2.2.1, u_7.2.2.2.2.2.1, u_7.2.2.2.2.2.2.1, u_7.2.2.2.2.2.2.2, 0, u_9.1, u_12.2.2, u_9.2.2, u_13.2) hx hb hr hlk hS rfl rfl rfl (by rw [← heq98]; simp only [f_SF_write_l98, ← hu_1, ← hu_5, ← hu_7, ← hu_9, ← hu_11, ← hu_12, ← hu_13, eq_true c_10, eq_false c_14, ↓reduceIte]) hP d_SF_write_162
                · have hlt : k < (((tl + 25) - 1) / 25).toNatClampNeg := sf_ltc (by omega) c_10
                  refine lv_aload_n hx hb d_SF_write_104 rfl (lv_at hl 0 rfl) ?_
                  refine lv_iload hx hb d_SF_write_105 (lv_at hl 4 rfl) ?_
                  refine lv_iload_n hx hb d_SF_write_107 rfl (lv_at hl 3 rfl) ?_
                  refine lv_iload_n hx hb d_SF_write_108 rfl (lv_at hl 2 rfl) ?_
                  refine sf_callVw (S := (Nat → Int32)) (rest := []) ⟨hx, hb, hml, hown, hts⟩ (c_SF_preparePlaceFromTape l D cI cZ cJ q vf sl tb vn nt cp cc cb ch cm u_7.2.2.1 u_7.2.2.2.1 u_7.2.2.2.2.1 u_7.2.2.2.2.2.1 u_7.2.2.2.2.2.2.1 u_7.2.1 u_7.2.2.2.2.2.2.2 tp tl u_9.1 vb u_9.2.2 sh (nI k) (((tl + 25) - 1) / 25) mo) (sf_cwV lk_SF_106 hts (fun _ h => h) (by rw [hR]; exact ⟨Nat.le_of_ble_eq_true rfl, Nat.le_of_ble_eq_true rfl⟩)) hK hP hD hS hA (fun _ => by simp only [sf_w_fst]) (ci := 2) (q0 := 0) rfl rfl rfl rfl rfl hl.1 (Nat.le_of_ble_eq_true rfl) d_SF_write_109 ⟨Nat.zero_le _, Nat.zero_le _⟩ (fun u_15 H locs hu_15 hP hD hS => ?_)
                  have hP : va_P D classes (sf_w q cI cZ vf sl tb u_15 nt cp cc cb ch cm u_7.2.2.1 u_7.2.2.2.1 u_7.2.2.2.2.1 u_7.2.2.2.2.2.1 u_7.2.2.2.2.2.2.1 u_7.2.1 u_7.2.2.2.2.2.2.2 tp tl u_9.1 vb u_9.2.2 sh) H := hP
                  have hD : va_D A (sf_w q cI cZ vf sl tb u_15 nt cp cc cb ch cm u_7.2.2.1 u_7.2.2.2.1 u_7.2.2.2.2.1 u_7.2.2.2.2.2.1 u_7.2.2.2.2.2.2.1 u_7.2.1 u_7.2.2.2.2.2.2.2 tp tl u_9.1 vb u_9.2.2 sh) := hD
                  refine lv_aload_n hx hb d_SF_write_112 rfl (lv_at hl 0 rfl) ?_
                  refine lv_aload_n hx hb d_SF_write_113 rfl (lv_at hl 0 rfl) ?_
                  refine va_get (D := D) (ci := 2) (v := .ref (q 1)) (C := R_SF) (T := F_SF) (N := 15) hx hb hts i_SF hown hK hP 0 rfl rfl 0 (by decide) (hts _ wd_109) (fun _ h9 => h9) rfl d_SF_write_114 ?_
                  refine lv_aload_n hx hb d_SF_write_117 rfl (lv_at hl 0 rfl) ?_
                  refine lv_iload hx hb d_SF_write_118 (lv_at hl 4 rfl) ?_
                  refine sf_callVw (S := Int32) (rest := [.ref (q 1), .ref (q 0)]) ⟨hx, hb, hml, hown, hts⟩ (c_SF_takenAt l D cI cZ cJ q vf sl tb u_15 nt cp cc cb ch cm u_7.2.2.1 u_7.2.2.2.1 u_7.2.2.2.2.1 u_7.2.2.2.2.2.1 u_7.2.2.2.2.2.2.1 u_7.2.1 u_7.2.2.2.2.2.2.2 tp tl u_9.1 vb u_9.2.2 sh (nI k)) (sf_cwV lk_SF_110 hts (fun _ h => h) (by rw [hR]; exact ⟨Nat.le_of_ble_eq_true rfl, Nat.le_of_ble_eq_true rfl⟩)) hK hP hD hS hA (fun _ => by simp only [sf_w_fst]) (ci := 2) (q0 := 0) rfl rfl rfl rfl rfl hl.1 (Nat.le_of_ble_eq_true rfl) d_SF_write_120 ⟨Nat.zero_le _, Nat.zero_le _⟩ (fun u_16 H locs hu_16 hP hD hS => ?_)
                  have hP : va_P D classes (sf_w q cI cZ vf sl tb u_15 nt cp cc cb ch cm u_7.2.2.1 u_7.2.2.2.1 u_7.2.2.2.2.1 u_7.2.2.2.2.2.1 u_7.2.2.2.2.2.2.1 u_7.2.1 u_7.2.2.2.2.2.2.2 tp tl u_9.1 vb u_9.2.2 sh) H := hP
                  have hD : va_D A (sf_w q cI cZ vf sl tb u_15 nt cp cc cb ch cm u_7.2.2.1 u_7.2.2.2.1 u_7.2.2.2.2.1 u_7.2.2.2.2.2.1 u_7.2.2.2.2.2.2.1 u_7.2.1 u_7.2.2.2.2.2.2.2 tp tl u_9.1 vb u_9.2.2 sh) := hD
                  refine sf_callVw (S := ((Nat → Int32) × (Nat → Int32) × Int32)) (rest := []) ⟨hx, hb, hml, hown, hts⟩ (c_SF_putPlace_f l D cI cZ cJ q vf sl tb u_15 nt cp cc cb ch cm u_7.2.2.1 u_7.2.2.2.1 u_7.2.2.2.2.1 u_7.2.2.2.2.2.1 u_7.2.2.2.2.2.2.1 u_7.2.1 u_7.2.2.2.2.2.2.2 tp tl u_9.1 vb u_9.2.2 sh u_16) (sf_cwV lk_SF_114 hts (fun _ h => h) (by rw [hR]; exact ⟨Nat.le_of_ble_eq_true rfl, Nat.le_of_ble_eq_true rfl⟩)) hK hP hD hS hA (fun _ => by simp only [sf_w_fst]) (ci := 2) (q0 := 0) rfl rfl rfl rfl rfl hl.1 (Nat.le_of_ble_eq_true rfl) d_SF_write_123 ⟨Nat.zero_le _, Nat.zero_le _⟩ (fun u_17 H locs hu_17 hP hD hS => ?_)
                  have hP : va_P D classes (sf_w q cI cZ u_17.2.1 sl tb u_17.1 nt cp cc cb ch cm u_7.2.2.1 u_7.2.2.2.1 u_7.2.2.2.2.1 u_7.2.2.2.2.2.1 u_7.2.2.2.2.2.2.1 u_7.2.1 u_7.2.2.2.2.2.2.2 tp tl u_9.1 u_17.2.2 u_9.2.2 sh) H := hP
                  have hD : va_D A (sf_w q cI cZ u_17.2.1 sl tb u_17.1 nt cp cc cb ch cm u_7.2.2.1 u_7.2.2.2.1 u_7.2.2.2.2.1 u_7.2.2.2.2.2.1 u_7.2.2.2.2.2.2.1 u_7.2.1 u_7.2.2.2.2.2.2.2 tp tl u_9.1 u_17.2.2 u_9.2.2 sh) := hD
                  refine lv_iinc (v := (nI (k + 1))) (lv' := [(4, .int (nI (k + 1))), (0, .ref (q 0)), (1, .int ro), (2, .int mo), (3, .int (((tl + 25) - 1) / 25))]) hx hb d_SF_write_126 hl (k := 4) rfl (nI_1 k) (by decide) rfl (fun ls hl => ?_)
                  refine lv_goto (tgt := 98) hx hb d_SF_write_129 (by decide) ?_
                  exact ih98 (k + 1) u_17.1 u_17.2.1 u_17.2.2 (by omega) (by omega) (by rw [← heq98]; simp only [f_SF_write_l98, ← hu_1, ← hu_5, ← hu_7, ← hu_9, ← hu_15, ← hu_16, ← hu_17, eq_false c_10, ↓reduceIte]) _ _ hP hD hS ls (lv_sub hl [1, 2, 3, 4, 0] rfl)
            exact loop98 ((((tl + 25) - 1) / 25).toNatClampNeg + 1) 0 np fl u_9.2.1 (by omega) (by omega) (by simp only [f_SF_write, ← hu_1, ← hu_5, ← hu_7, ← hu_9, eq_false c_2, eq_true c_3, eq_false c_4, eq_false c_6, eq_false c_8, ↓reduceIte]) _ _ hP hD hS ls (lv_sub hl [2, 3, 4, 1, 0] rfl)
          · rw [hQ]
            exact sf_xthrow (text := "not so many free places") (u := (4, 0, fl, tb, np, nt, u_7.2.1, u_7.2.2.1, u_7.2.2.2.1, u_7.2.2.2.2.1, u_7.2.2.2.2.2.1, u_7.2.2.2.2.2.2.1, u_7.2.2.2.2.2.2.2, tl, cu, bl, pf, sh)) hx hb hst hml hown hts hE hex xk_65_69 xs_101 hlk hS (show ¬ (4 : Int32) = 0 by decide) (show _ = sf_en 4 by decide) (by simp only [f_SF_write, ← hu_1, ← hu_5, ← hu_7, eq_false c_2, eq_true c_3, eq_false c_4, eq_false c_6, eq_true c_8, ↓reduceIte]) hP hl.1 (by rw [hR]; exact ⟨Nat.le_of_ble_eq_true rfl, Nat.le_of_ble_eq_true rfl, Nat.le_refl _, Nat.le_refl _⟩) d_SF_write_80 d_SF_write_83 d_SF_write_84 d_SF_write_86 d_SF_write_89
        · rw [hQ]
          exact sf_xthrow (text := "no such month") (u := (3, 0, fl, tb, np, nt, us, mp, mc, mb, mh, mm, ta, tl, cu, bl, pf, sh)) hx hb hst hml hown hts hE hex xk_55_59 xs_95 hlk hS (show ¬ (3 : Int32) = 0 by decide) (show _ = sf_en 3 by decide) (by simp only [f_SF_write, ← hu_1, ← hu_5, eq_false c_2, eq_true c_3, eq_false c_4, eq_true c_6, ↓reduceIte]) hP hl.1 (by rw [hR]; exact ⟨Nat.le_of_ble_eq_true rfl, Nat.le_of_ble_eq_true rfl, Nat.le_refl _, Nat.le_refl _⟩) d_SF_write_48 d_SF_write_51 d_SF_write_52 d_SF_write_54 d_SF_write_57
      · rw [hQ]
        exact sf_xthrow (text := "the file is shut or the tape is empty") (u := (2, 0, fl, tb, np, nt, us, mp, mc, mb, mh, mm, ta, tl, cu, bl, pf, sh)) hx hb hst hml hown hts hE hex xk_87_91 xs_89 hlk hS (show ¬ (2 : Int32) = 0 by decide) (show _ = sf_en 2 by decide) (by simp only [f_SF_write, ← hu_1, eq_false c_2, eq_true c_3, eq_true c_4, ↓reduceIte]) hP hl.1 (by rw [hR]; exact ⟨Nat.le_of_ble_eq_true rfl, Nat.le_of_ble_eq_true rfl, Nat.le_refl _, Nat.le_refl _⟩) d_SF_write_31 d_SF_write_34 d_SF_write_35 d_SF_write_37 d_SF_write_40
  · rw [hQ]
    exact sf_xthrow (text := "no such row") (u := (1, 0, fl, tb, np, nt, us, mp, mc, mb, mh, mm, ta, tl, cu, bl, pf, sh)) hx hb hst hml hown hts hE hex xk_78_82 xs_80 hlk hS (show ¬ (1 : Int32) = 0 by decide) (show _ = sf_en 1 by decide) (by simp only [f_SF_write, ← hu_1, eq_true c_2, ↓reduceIte]) hP hl.1 (by rw [hR]; exact ⟨Nat.le_of_ble_eq_true rfl, Nat.le_of_ble_eq_true rfl, Nat.le_refl _, Nat.le_refl _⟩) d_SF_write_7 d_SF_write_10 d_SF_write_11 d_SF_write_13 d_SF_write_16
def f_SF_row (fl : Nat → Int32) (sl : Nat → Int32) (tb : Nat → Int32) (cp : Nat → Int32) (cc : Int32) (cb : Int32) (ch : Int32) (cm : Int32) (sh : Int32) (ro : Int32) (i : Int32) : (Int32 × Int32 × (Nat → Int32) × Int32 × Int32 × Int32 × Int32) :=
  if (f_SF_isRow ro) = 0 then
    (1, 0, cp, cc, cb, ch, cm)
  else
    if (-1) ≤ i then
      if sh = 0 then
        if (f_SF_isThere tb ro) = 0 then
          (2, 0, cp, cc, cb, ch, cm)
        else
          if i = (-1) then
            (0, (f_Ch_bytes (f_SF_followRow fl sl tb cp ro).2.2.1 (f_SF_followRow fl sl tb cp ro).2.2.2.1), (f_SF_followRow fl sl tb cp ro).1, (f_SF_followRow fl sl tb cp ro).2.1, (f_SF_followRow fl sl tb cp ro).2.2.1, (f_SF_followRow fl sl tb cp ro).2.2.2.1, (f_SF_followRow fl sl tb cp ro).2.2.2.2)
          else
            if i < (f_Ch_bytes (f_SF_followRow fl sl tb cp ro).2.2.1 (f_SF_followRow fl sl tb cp ro).2.2.2.1) then
              if (f_SF_isSlow tb ro) = 0 then
                (0, (f_Ch_dataAt (f_SF_followRow fl sl tb cp ro).1 (f_SF_followRow fl sl tb cp ro).2.1 768 fl 28 i), (f_SF_followRow fl sl tb cp ro).1, (f_SF_followRow fl sl tb cp ro).2.1, (f_SF_followRow fl sl tb cp ro).2.2.1, (f_SF_followRow fl sl tb cp ro).2.2.2.1, (f_SF_followRow fl sl tb cp ro).2.2.2.2)
              else
                (0, (f_Ch_dataAt (f_SF_followRow fl sl tb cp ro).1 (f_SF_followRow fl sl tb cp ro).2.1 512 sl 28 i), (f_SF_followRow fl sl tb cp ro).1, (f_SF_followRow fl sl tb cp ro).2.1, (f_SF_followRow fl sl tb cp ro).2.2.1, (f_SF_followRow fl sl tb cp ro).2.2.2.1, (f_SF_followRow fl sl tb cp ro).2.2.2.2)
            else
              (1, 0, (f_SF_followRow fl sl tb cp ro).1, (f_SF_followRow fl sl tb cp ro).2.1, (f_SF_followRow fl sl tb cp ro).2.2.1, (f_SF_followRow fl sl tb cp ro).2.2.2.1, (f_SF_followRow fl sl tb cp ro).2.2.2.2)
      else
        (2, 0, cp, cc, cb, ch, cm)
    else
      (1, 0, cp, cc, cb, ch, cm)
set_option maxHeartbeats 1000000 in
set_option maxRecDepth 100000 in
/-- row -/
theorem c_SF_row (l : Launch) (D : va_G) (cI cZ cJ : ClassId) (hst : l.stackTraces = false) (q : Nat → Nat) (fl : Nat → Int32) (sl : Nat → Int32) (tb : Nat → Int32) (np : Nat → Int32) (nt : Nat → Int32) (cp : Nat → Int32) (cc : Int32) (cb : Int32) (ch : Int32) (cm : Int32) (mp : Nat → Int32) (mc : Int32) (mb : Int32) (mh : Int32) (mm : Int32) (us : Nat → Int32) (ta : Nat → Int32) (tp : Nat → Int32) (tl : Int32) (cu : Int32) (bl : Int32) (pf : Int32) (sh : Int32) (ro : Int32) (i : Int32) : sf_XM (S := (Int32 × Int32 × (Nat → Int32) × Int32 × Int32 × Int32 × Int32)) l D classes (sf_tys cI cZ cJ) y_SF_row (sf_ws y_SF_row b_SF_row 3 (some .int)) 6 120 [.ref (q 0), .int ro, .int i] (sf_w q cI cZ fl sl tb np nt cp cc cb ch cm mp mc mb mh mm us ta tp tl cu bl pf sh) (fun r => r.1) (fun r => some (.int r.2.1)) (fun r => r = f_SF_row fl sl tb cp cc cb ch cm sh ro i) (fun r => (sf_w q cI cZ fl sl tb np nt r.2.2.1 r.2.2.2.1 r.2.2.2.2.1 r.2.2.2.2.2.1 r.2.2.2.2.2.2 mp mc mb mh mm us ta tp tl cu bl pf sh)) := by
  refine sf_xofW (S := (Int32 × Int32 × (Nat → Int32) × Int32 × Int32 × Int32 × Int32)) (by decide) (Nat.le_of_ble_eq_true rfl) ?_
  intro p e s m below meth c A ls R args Q hR hArgs hQ hC0 hr hex hE hK hP hD hl
  obtain ⟨hx, hb, hml, hown, hts, hA, hlk⟩ := hC0
  have hS : va_S A s.heap s.heap [] := va_S.rf
  have hl : lv_has ls 3 [(0, .ref (q 0)), (1, .int ro), (2, .int i)] := hl
  refine lv_iload_n hx hb d_SF_row_0 rfl (lv_at hl 1 rfl) ?_
  refine sf_callSr (S := Int32) (rest := []) ⟨hx, hb, hml, hown, hts⟩ (c_SF_isRow l D cI cZ cJ ro) (sf_cwS lk_SF_74 hts (fun _ h => h) (by rw [hR]; exact ⟨Nat.le_of_ble_eq_true rfl, Nat.le_of_ble_eq_true rfl⟩)) hK hP hD hS hA [] rfl rfl (fun _ => rfl) rfl rfl hl.1 (Nat.le_of_ble_eq_true rfl) d_SF_row_1 ⟨Nat.zero_le _, Nat.zero_le _⟩ (fun u_1 H locs hu_1 hP hS => ?_)
  refine lv_if_eq (tgt := 12) hx hb d_SF_row_4 (by decide) (fun c_2 => ?_) (fun c_2 => ?_)
  · rw [hQ]
    exact sf_xthrow (text := "no such row or byte") (u := (1, 0, cp, cc, cb, ch, cm)) hx hb hst hml hown hts hE hex xk_78_82 xs_146 hlk hS (show ¬ (1 : Int32) = 0 by decide) (show _ = sf_en 1 by decide) (by simp only [f_SF_row, ← hu_1, eq_true c_2, ↓reduceIte]) hP hl.1 (by rw [hR]; exact ⟨Nat.le_of_ble_eq_true rfl, Nat.le_of_ble_eq_true rfl, Nat.le_refl _, Nat.le_refl _⟩) d_SF_row_12 d_SF_row_15 d_SF_row_16 d_SF_row_18 d_SF_row_21
  · refine lv_iload_n hx hb d_SF_row_7 rfl (lv_at hl 2 rfl) ?_
    refine lv_iconst (v := (-1)) hx hb d_SF_row_8 (by decide) ?_
    refine lv_icmp_ge (tgt := 22) hx hb d_SF_row_9 (by decide) (fun c_3 => ?_) (fun c_3 => ?_)
    · refine lv_aload_n hx hb d_SF_row_22 rfl (lv_at hl 0 rfl) ?_
      refine va_get (D := D) (ci := 2) (v := .int sh) (C := R_SF) (T := F_SF) (N := 15) hx hb hts i_SF hown hK hP 0 rfl rfl 14 (by decide) (hts _ wd_123) (fun _ h9 => h9) rfl d_SF_row_23 ?_
      refine lv_if_ne (tgt := 37) hx hb d_SF_row_26 (by decide) (fun c_4 => ?_) (fun c_4 => ?_)
      · rw [hQ]
        exact sf_xthrow (text := "the file is shut or the row is not there") (u := (2, 0, cp, cc, cb, ch, cm)) hx hb hst hml hown hts hE hex xk_87_91 xs_128 hlk hS (show ¬ (2 : Int32) = 0 by decide) (show _ = sf_en 2 by decide) (by simp only [f_SF_row, ← hu_1, eq_false c_2, eq_true c_3, eq_false c_4, ↓reduceIte]) hP hl.1 (by rw [hR]; exact ⟨Nat.le_of_ble_eq_true rfl, Nat.le_of_ble_eq_true rfl, Nat.le_refl _, Nat.le_refl _⟩) d_SF_row_37 d_SF_row_40 d_SF_row_41 d_SF_row_43 d_SF_row_46
      · refine lv_aload_n hx hb d_SF_row_29 rfl (lv_at hl 0 rfl) ?_
        refine lv_iload_n hx hb d_SF_row_30 rfl (lv_at hl 1 rfl) ?_
        refine sf_callVw (S := Int32) (rest := []) ⟨hx, hb, hml, hown, hts⟩ (c_SF_isThere l D cI cZ cJ q fl sl tb np nt cp cc cb ch cm mp mc mb mh mm us ta tp tl cu bl pf sh ro) (sf_cwV lk_SF_125 hts (fun _ h => h) (by rw [hR]; exact ⟨Nat.le_of_ble_eq_true rfl, Nat.le_of_ble_eq_true rfl⟩)) hK hP hD hS hA (fun _ => by simp only [sf_w_fst]) (ci := 2) (q0 := 0) rfl rfl rfl rfl rfl hl.1 (Nat.le_of_ble_eq_true rfl) d_SF_row_31 ⟨Nat.zero_le _, Nat.zero_le _⟩ (fun u_5 H locs hu_5 hP hD hS => ?_)
        have hP : va_P D classes (sf_w q cI cZ fl sl tb np nt cp cc cb ch cm mp mc mb mh mm us ta tp tl cu bl pf sh) H := hP
        have hD : va_D A (sf_w q cI cZ fl sl tb np nt cp cc cb ch cm mp mc mb mh mm us ta tp tl cu bl pf sh) := hD
        refine lv_if_ne (tgt := 47) hx hb d_SF_row_34 (by decide) (fun c_6 => ?_) (fun c_6 => ?_)
        · refine lv_aload_n hx hb d_SF_row_47 rfl (lv_at hl 0 rfl) ?_
          refine lv_iload_n hx hb d_SF_row_48 rfl (lv_at hl 1 rfl) ?_
          refine sf_callVw (S := ((Nat → Int32) × Int32 × Int32 × Int32 × Int32)) (rest := []) ⟨hx, hb, hml, hown, hts⟩ (c_SF_followRow l D cI cZ cJ q fl sl tb np nt cp cc cb ch cm mp mc mb mh mm us ta tp tl cu bl pf sh ro) (sf_cwV lk_SF_148 hts (fun _ h => h) (by rw [hR]; exact ⟨Nat.le_of_ble_eq_true rfl, Nat.le_of_ble_eq_true rfl⟩)) hK hP hD hS hA (fun _ => by simp only [sf_w_fst]) (ci := 2) (q0 := 0) rfl rfl rfl rfl rfl hl.1 (Nat.le_of_ble_eq_true rfl) d_SF_row_49 ⟨Nat.zero_le _, Nat.zero_le _⟩ (fun u_7 H locs hu_7 hP hD hS => ?_)
          have hP : va_P D classes (sf_w q cI cZ fl sl tb np nt u_7.1 u_7.2.1 u_7.2.2.1 u_7.2.2.2.1 u_7.2.2.2.2 mp mc mb mh mm us ta tp tl cu bl pf sh) H := hP
          have hD : va_D A (sf_w q cI cZ fl sl tb np nt u_7.1 u_7.2.1 u_7.2.2.1 u_7.2.2.2.1 u_7.2.2.2.2 mp mc mb mh mm us ta tp tl cu bl pf sh) := hD
          refine lv_iload_n hx hb d_SF_row_52 rfl (lv_at hl 2 rfl) ?_
          refine lv_iconst (v := (-1)) hx hb d_SF_row_53 (by decide) ?_
          refine lv_icmp_ne (tgt := 65) hx hb d_SF_row_54 (by decide) (fun c_8 => ?_) (fun c_8 => ?_)
          · refine lv_iload_n hx hb d_SF_row_65 rfl (lv_at hl 2 rfl) ?_
            refine lv_aload_n hx hb d_SF_row_66 rfl (lv_at hl 0 rfl) ?_
            refine va_get (D := D) (ci := 2) (v := .ref (q 11)) (C := R_SF) (T := F_SF) (N := 15) hx hb hts i_SF hown hK hP 0 rfl rfl 5 (by decide) (hts _ wd_114) (fun _ h9 => h9) rfl d_SF_row_67 ?_
            refine sf_callVr (S := Int32) (rest := [.int i]) ⟨hx, hb, hml, hown, hts⟩ (c_Ch_bytes l D cI cZ cJ (q 11) (q 12) u_7.1 u_7.2.1 u_7.2.2.1 u_7.2.2.2.1 u_7.2.2.2.2) (sf_cwV lk_SF_151 hts (fun _ h => h) (by rw [hR]; exact ⟨Nat.le_of_ble_eq_true rfl, Nat.le_of_ble_eq_true rfl⟩)) hK hP hD hS hA [11, 12] rfl rfl (fun _ => rfl) (ci := 1) (q0 := 0) rfl rfl rfl rfl rfl hl.1 (Nat.le_of_ble_eq_true rfl) d_SF_row_70 ⟨Nat.zero_le _, Nat.zero_le _⟩ (fun u_9 H locs hu_9 hP hS => ?_)
            refine lv_icmp_lt (tgt := 86) hx hb d_SF_row_73 (by decide) (fun c_10 => ?_) (fun c_10 => ?_)
            · refine lv_aload_n hx hb d_SF_row_86 rfl (lv_at hl 0 rfl) ?_
              refine va_get (D := D) (ci := 2) (v := .ref (q 11)) (C := R_SF) (T := F_SF) (N := 15) hx hb hts i_SF hown hK hP 0 rfl rfl 5 (by decide) (hts _ wd_114) (fun _ h9 => h9) rfl d_SF_row_87 ?_
              refine lv_aload_n hx hb d_SF_row_90 rfl (lv_at hl 0 rfl) ?_
              refine lv_aload_n hx hb d_SF_row_91 rfl (lv_at hl 0 rfl) ?_
              refine lv_iload_n hx hb d_SF_row_92 rfl (lv_at hl 1 rfl) ?_
              refine sf_callVw (S := Int32) (rest := [.ref (q 0), .ref (q 11)]) ⟨hx, hb, hml, hown, hts⟩ (c_SF_isSlow l D cI cZ cJ q fl sl tb np nt u_7.1 u_7.2.1 u_7.2.2.1 u_7.2.2.2.1 u_7.2.2.2.2 mp mc mb mh mm us ta tp tl cu bl pf sh ro) (sf_cwV lk_SF_157 hts (fun _ h => h) (by rw [hR]; exact ⟨Nat.le_of_ble_eq_true rfl, Nat.le_of_ble_eq_true rfl⟩)) hK hP hD hS hA (fun _ => by simp only [sf_w_fst]) (ci := 2) (q0 := 0) rfl rfl rfl rfl rfl hl.1 (Nat.le_of_ble_eq_true rfl) d_SF_row_93 ⟨Nat.zero_le _, Nat.zero_le _⟩ (fun u_11 H locs hu_11 hP hD hS => ?_)
              have hP : va_P D classes (sf_w q cI cZ fl sl tb np nt u_7.1 u_7.2.1 u_7.2.2.1 u_7.2.2.2.1 u_7.2.2.2.2 mp mc mb mh mm us ta tp tl cu bl pf sh) H := hP
              have hD : va_D A (sf_w q cI cZ fl sl tb np nt u_7.1 u_7.2.1 u_7.2.2.1 u_7.2.2.2.1 u_7.2.2.2.2 mp mc mb mh mm us ta tp tl cu bl pf sh) := hD
              rcases (show u_11 = 0 ∨ u_11 = 1 by rw [hu_11]; exact f_SF_isSlow_b _ _) with hz | hz
              · have hz0 : u_11 = 0 := by rw [hz]
                rw [hz]
                refine sf_callVw (S := Unit) (rest := [.ref (q 11)]) ⟨hx, hb, hml, hown, hts⟩ (c_SF_placesOf_0 l D cI cZ cJ q fl sl tb np nt u_7.1 u_7.2.1 u_7.2.2.1 u_7.2.2.2.1 u_7.2.2.2.2 mp mc mb mh mm us ta tp tl cu bl pf sh) (sf_cwV lk_SF_160 hts (fun _ h => h) (by rw [hR]; exact ⟨Nat.le_of_ble_eq_true rfl, Nat.le_of_ble_eq_true rfl⟩)) hK hP hD hS hA (fun _ => by simp only [sf_w_fst]) (ci := 2) (q0 := 0) rfl rfl rfl rfl rfl hl.1 (Nat.le_of_ble_eq_true rfl) d_SF_row_96 ⟨Nat.zero_le _, Nat.zero_le _⟩ (fun u H locs hu hP hD hS => ?_)
                have hP : va_P D classes (sf_w q cI cZ fl sl tb np nt u_7.1 u_7.2.1 u_7.2.2.1 u_7.2.2.2.1 u_7.2.2.2.2 mp mc mb mh mm us ta tp tl cu bl pf sh) H := hP
                have hD : va_D A (sf_w q cI cZ fl sl tb np nt u_7.1 u_7.2.1 u_7.2.2.1 u_7.2.2.2.1 u_7.2.2.2.2 mp mc mb mh mm us ta tp tl cu bl pf sh) := hD
                refine lv_iload_n hx hb d_SF_row_99 rfl (lv_at hl 2 rfl) ?_
                refine sf_callVr (S := Int32) (rest := []) ⟨hx, hb, hml, hown, hts⟩ (c_Ch_dataAt l D cI cZ cJ (q 11) (q 12) u_7.1 u_7.2.1 u_7.2.2.1 u_7.2.2.2.1 u_7.2.2.2.2 (q 1) (q 2) 768 fl 28 i (by omega) (by omega)) (sf_cwV lk_SF_164 hts (fun _ h => h) (by rw [hR]; exact ⟨Nat.le_of_ble_eq_true rfl, Nat.le_of_ble_eq_true rfl⟩)) hK hP hD hS hA [11, 12, 1, 2] rfl rfl (fun _ => rfl) (ci := 1) (q0 := 0) rfl rfl rfl rfl rfl hl.1 (Nat.le_of_ble_eq_true rfl) d_SF_row_100 ⟨Nat.zero_le _, Nat.zero_le _⟩ (fun u_12 H locs hu_12 hP hS => ?_)
                rw [hQ]
                exact sf_xiret (0, u_12, u_7.1, u_7.2.1, u_7.2.2.1, u_7.2.2.2.1, u_7.2.2.2.2) hx hb hr hlk hS rfl rfl rfl (by simp only [f_SF_row, ← hu_1, ← hu_5, ← hu_7, ← hu_9, ← hu_11, ← hu_12, eq_false c_2, eq_true c_3, eq_true c_4, eq_false c_6, eq_false c_8, eq_true c_10, eq_true hz0, ↓reduceIte]) hP d_SF_row_103
              · have hz0 : ¬ u_11 = 0 := by rw [hz]; decide
                rw [hz]
                refine sf_callVw (S := Unit) (rest := [.ref (q 11)]) ⟨hx, hb, hml, hown, hts⟩ (c_SF_placesOf_1 l D cI cZ cJ q fl sl tb np nt u_7.1 u_7.2.1 u_7.2.2.1 u_7.2.2.2.1 u_7.2.2.2.2 mp mc mb mh mm us ta tp tl cu bl pf sh) (sf_cwV lk_SF_160 hts (fun _ h => h) (by rw [hR]; exact ⟨Nat.le_of_ble_eq_true rfl, Nat.le_of_ble_eq_true rfl⟩)) hK hP hD hS hA (fun _ => by simp only [sf_w_fst]) (ci := 2) (q0 := 0) rfl rfl rfl rfl rfl hl.1 (Nat.le_of_ble_eq_true rfl) d_SF_row_96 ⟨Nat.zero_le _, Nat.zero_le _⟩ (fun u H locs hu hP hD hS => ?_)
                have hP : va_P D classes (sf_w q cI cZ fl sl tb np nt u_7.1 u_7.2.1 u_7.2.2.1 u_7.2.2.2.1 u_7.2.2.2.2 mp mc mb mh mm us ta tp tl cu bl pf sh) H := hP
                have hD : va_D A (sf_w q cI cZ fl sl tb np nt u_7.1 u_7.2.1 u_7.2.2.1 u_7.2.2.2.1 u_7.2.2.2.2 mp mc mb mh mm us ta tp tl cu bl pf sh) := hD
                refine lv_iload_n hx hb d_SF_row_99 rfl (lv_at hl 2 rfl) ?_
                refine sf_callVr (S := Int32) (rest := []) ⟨hx, hb, hml, hown, hts⟩ (c_Ch_dataAt l D cI cZ cJ (q 11) (q 12) u_7.1 u_7.2.1 u_7.2.2.1 u_7.2.2.2.1 u_7.2.2.2.2 (q 3) (q 4) 512 sl 28 i (by omega) (by omega)) (sf_cwV lk_SF_164 hts (fun _ h => h) (by rw [hR]; exact ⟨Nat.le_of_ble_eq_true rfl, Nat.le_of_ble_eq_true rfl⟩)) hK hP hD hS hA [11, 12, 3, 4] rfl rfl (fun _ => rfl) (ci := 1) (q0 := 0) rfl rfl rfl rfl rfl hl.1 (Nat.le_of_ble_eq_true rfl) d_SF_row_100 ⟨Nat.zero_le _, Nat.zero_le _⟩ (fun u_13 H locs hu_13 hP hS => ?_)
                rw [hQ]
                exact sf_xiret (0, u_13, u_7.1, u_7.2.1, u_7.2.2.1, u_7.2.2.2.1, u_7.2.2.2.2) hx hb hr hlk hS rfl rfl rfl (by simp only [f_SF_row, ← hu_1, ← hu_5, ← hu_7, ← hu_9, ← hu_11, ← hu_13, eq_false c_2, eq_true c_3, eq_true c_4, eq_false c_6, eq_false c_8, eq_true c_10, eq_false hz0, ↓reduceIte]) hP d_SF_row_103
            · rw [hQ]
              exact sf_xthrow (text := "the row has no such byte") (u := (1, 0, u_7.1, u_7.2.1, u_7.2.2.1, u_7.2.2.2.1, u_7.2.2.2.2)) hx hb hst hml hown hts hE hex xk_78_82 xs_155 hlk hS (show ¬ (1 : Int32) = 0 by decide) (show _ = sf_en 1 by decide) (by simp only [f_SF_row, ← hu_1, ← hu_5, ← hu_7, ← hu_9, eq_false c_2, eq_true c_3, eq_true c_4, eq_false c_6, eq_false c_8, eq_false c_10, ↓reduceIte]) hP hl.1 (by rw [hR]; exact ⟨Nat.le_of_ble_eq_true rfl, Nat.le_of_ble_eq_true rfl, Nat.le_refl _, Nat.le_refl _⟩) d_SF_row_76 d_SF_row_79 d_SF_row_80 d_SF_row_82 d_SF_row_85
          · refine lv_aload_n hx hb d_SF_row_57 rfl (lv_at hl 0 rfl) ?_
            refine va_get (D := D) (ci := 2) (v := .ref (q 11)) (C := R_SF) (T := F_SF) (N := 15) hx hb hts i_SF hown hK hP 0 rfl rfl 5 (by decide) (hts _ wd_114) (fun _ h9 => h9) rfl d_SF_row_58 ?_
            refine sf_callVr (S := Int32) (rest := []) ⟨hx, hb, hml, hown, hts⟩ (c_Ch_bytes l D cI cZ cJ (q 11) (q 12) u_7.1 u_7.2.1 u_7.2.2.1 u_7.2.2.2.1 u_7.2.2.2.2) (sf_cwV lk_SF_151 hts (fun _ h => h) (by rw [hR]; exact ⟨Nat.le_of_ble_eq_true rfl, Nat.le_of_ble_eq_true rfl⟩)) hK hP hD hS hA [11, 12] rfl rfl (fun _ => rfl) (ci := 1) (q0 := 0) rfl rfl rfl rfl rfl hl.1 (Nat.le_of_ble_eq_true rfl) d_SF_row_61 ⟨Nat.zero_le _, Nat.zero_le _⟩ (fun u_14 H locs hu_14 hP hS => ?_)
            rw [hQ]
            exact sf_xiret (0, u_14, u_7.1, u_7.2.1, u_7.2.2.1, u_7.2.2.2.1, u_7.2.2.2.2) hx hb hr hlk hS rfl rfl rfl (by simp only [f_SF_row, ← hu_1, ← hu_5, ← hu_7, ← hu_14, eq_false c_2, eq_true c_3, eq_true c_4, eq_false c_6, eq_true c_8, ↓reduceIte]) hP d_SF_row_64
        · rw [hQ]
          exact sf_xthrow (text := "the file is shut or the row is not there") (u := (2, 0, cp, cc, cb, ch, cm)) hx hb hst hml hown hts hE hex xk_87_91 xs_128 hlk hS (show ¬ (2 : Int32) = 0 by decide) (show _ = sf_en 2 by decide) (by simp only [f_SF_row, ← hu_1, ← hu_5, eq_false c_2, eq_true c_3, eq_true c_4, eq_true c_6, ↓reduceIte]) hP hl.1 (by rw [hR]; exact ⟨Nat.le_of_ble_eq_true rfl, Nat.le_of_ble_eq_true rfl, Nat.le_refl _, Nat.le_refl _⟩) d_SF_row_37 d_SF_row_40 d_SF_row_41 d_SF_row_43 d_SF_row_46
    · rw [hQ]
      exact sf_xthrow (text := "no such row or byte") (u := (1, 0, cp, cc, cb, ch, cm)) hx hb hst hml hown hts hE hex xk_78_82 xs_146 hlk hS (show ¬ (1 : Int32) = 0 by decide) (show _ = sf_en 1 by decide) (by simp only [f_SF_row, ← hu_1, eq_false c_2, eq_false c_3, ↓reduceIte]) hP hl.1 (by rw [hR]; exact ⟨Nat.le_of_ble_eq_true rfl, Nat.le_of_ble_eq_true rfl, Nat.le_refl _, Nat.le_refl _⟩) d_SF_row_12 d_SF_row_15 d_SF_row_16 d_SF_row_18 d_SF_row_21
def f_SF_at (fl : Nat → Int32) (sl : Nat → Int32) (tb : Nat → Int32) (cp : Nat → Int32) (cc : Int32) (cb : Int32) (ch : Int32) (cm : Int32) (sh : Int32) (ro : Int32) (wt : Int32) : (Int32 × Int32 × (Nat → Int32) × Int32 × Int32 × Int32 × Int32) :=
  if (f_SF_isRow ro) = 0 then
    (1, 0, cp, cc, cb, ch, cm)
  else
    if wt < 0 then
      (1, 0, cp, cc, cb, ch, cm)
    else
      if wt ≤ 3 then
        if sh = 0 then
          if wt = 0 then
            if (f_SF_isThere tb ro) = 0 then
              (0, 0, cp, cc, cb, ch, cm)
            else
              (0, 1, cp, cc, cb, ch, cm)
          else
            if (f_SF_isThere tb ro) = 0 then
              (2, 0, cp, cc, cb, ch, cm)
            else
              if wt = 1 then
                if (f_SF_isSlow tb ro) = 0 then
                  (0, 0, cp, cc, cb, ch, cm)
                else
                  (0, 1, cp, cc, cb, ch, cm)
              else
                if wt = 2 then
                  (0, (f_Ch_monthOrNone (f_SF_followRow fl sl tb cp ro).2.2.1 (f_SF_followRow fl sl tb cp ro).2.2.2.2), (f_SF_followRow fl sl tb cp ro).1, (f_SF_followRow fl sl tb cp ro).2.1, (f_SF_followRow fl sl tb cp ro).2.2.1, (f_SF_followRow fl sl tb cp ro).2.2.2.1, (f_SF_followRow fl sl tb cp ro).2.2.2.2)
                else
                  (0, (f_SF_followRow fl sl tb cp ro).2.1, (f_SF_followRow fl sl tb cp ro).1, (f_SF_followRow fl sl tb cp ro).2.1, (f_SF_followRow fl sl tb cp ro).2.2.1, (f_SF_followRow fl sl tb cp ro).2.2.2.1, (f_SF_followRow fl sl tb cp ro).2.2.2.2)
        else
          (2, 0, cp, cc, cb, ch, cm)
      else
        (1, 0, cp, cc, cb, ch, cm)
set_option maxHeartbeats 1000000 in
set_option maxRecDepth 100000 in
/-- at -/
theorem c_SF_at (l : Launch) (D : va_G) (cI cZ cJ : ClassId) (hst : l.stackTraces = false) (q : Nat → Nat) (fl : Nat → Int32) (sl : Nat → Int32) (tb : Nat → Int32) (np : Nat → Int32) (nt : Nat → Int32) (cp : Nat → Int32) (cc : Int32) (cb : Int32) (ch : Int32) (cm : Int32) (mp : Nat → Int32) (mc : Int32) (mb : Int32) (mh : Int32) (mm : Int32) (us : Nat → Int32) (ta : Nat → Int32) (tp : Nat → Int32) (tl : Int32) (cu : Int32) (bl : Int32) (pf : Int32) (sh : Int32) (ro : Int32) (wt : Int32) : sf_XM (S := (Int32 × Int32 × (Nat → Int32) × Int32 × Int32 × Int32 × Int32)) l D classes (sf_tys cI cZ cJ) y_SF_at (sf_ws y_SF_at b_SF_at 3 (some .int)) 6 120 [.ref (q 0), .int ro, .int wt] (sf_w q cI cZ fl sl tb np nt cp cc cb ch cm mp mc mb mh mm us ta tp tl cu bl pf sh) (fun r => r.1) (fun r => some (.int r.2.1)) (fun r => r = f_SF_at fl sl tb cp cc cb ch cm sh ro wt) (fun r => (sf_w q cI cZ fl sl tb np nt r.2.2.1 r.2.2.2.1 r.2.2.2.2.1 r.2.2.2.2.2.1 r.2.2.2.2.2.2 mp mc mb mh mm us ta tp tl cu bl pf sh)) := by
  refine sf_xofW (S := (Int32 × Int32 × (Nat → Int32) × Int32 × Int32 × Int32 × Int32)) (by decide) (Nat.le_of_ble_eq_true rfl) ?_
  intro p e s m below meth c A ls R args Q hR hArgs hQ hC0 hr hex hE hK hP hD hl
  obtain ⟨hx, hb, hml, hown, hts, hA, hlk⟩ := hC0
  have hS : va_S A s.heap s.heap [] := va_S.rf
  have hl : lv_has ls 3 [(0, .ref (q 0)), (1, .int ro), (2, .int wt)] := hl
  refine lv_iload_n hx hb d_SF_at_0 rfl (lv_at hl 1 rfl) ?_
  refine sf_callSr (S := Int32) (rest := []) ⟨hx, hb, hml, hown, hts⟩ (c_SF_isRow l D cI cZ cJ ro) (sf_cwS lk_SF_74 hts (fun _ h => h) (by rw [hR]; exact ⟨Nat.le_of_ble_eq_true rfl, Nat.le_of_ble_eq_true rfl⟩)) hK hP hD hS hA [] rfl rfl (fun _ => rfl) rfl rfl hl.1 (Nat.le_of_ble_eq_true rfl) d_SF_at_1 ⟨Nat.zero_le _, Nat.zero_le _⟩ (fun u_1 H locs hu_1 hP hS => ?_)
  refine lv_if_eq (tgt := 16) hx hb d_SF_at_4 (by decide) (fun c_2 => ?_) (fun c_2 => ?_)
  · rw [hQ]
    exact sf_xthrow (text := "no such row or what") (u := (1, 0, cp, cc, cb, ch, cm)) hx hb hst hml hown hts hE hex xk_78_82 xs_168 hlk hS (show ¬ (1 : Int32) = 0 by decide) (show _ = sf_en 1 by decide) (by simp only [f_SF_at, ← hu_1, eq_true c_2, ↓reduceIte]) hP hl.1 (by rw [hR]; exact ⟨Nat.le_of_ble_eq_true rfl, Nat.le_of_ble_eq_true rfl, Nat.le_refl _, Nat.le_refl _⟩) d_SF_at_16 d_SF_at_19 d_SF_at_20 d_SF_at_22 d_SF_at_25
  · refine lv_iload_n hx hb d_SF_at_7 rfl (lv_at hl 2 rfl) ?_
    refine lv_if_lt (tgt := 16) hx hb d_SF_at_8 (by decide) (fun c_3 => ?_) (fun c_3 => ?_)
    · rw [hQ]
      exact sf_xthrow (text := "no such row or what") (u := (1, 0, cp, cc, cb, ch, cm)) hx hb hst hml hown hts hE hex xk_78_82 xs_168 hlk hS (show ¬ (1 : Int32) = 0 by decide) (show _ = sf_en 1 by decide) (by simp only [f_SF_at, ← hu_1, eq_false c_2, eq_true c_3, ↓reduceIte]) hP hl.1 (by rw [hR]; exact ⟨Nat.le_of_ble_eq_true rfl, Nat.le_of_ble_eq_true rfl, Nat.le_refl _, Nat.le_refl _⟩) d_SF_at_16 d_SF_at_19 d_SF_at_20 d_SF_at_22 d_SF_at_25
    · refine lv_iload_n hx hb d_SF_at_11 rfl (lv_at hl 2 rfl) ?_
      refine lv_iconst (v := 3) hx hb d_SF_at_12 (by decide) ?_
      refine lv_icmp_le (tgt := 26) hx hb d_SF_at_13 (by decide) (fun c_4 => ?_) (fun c_4 => ?_)
      · refine lv_aload_n hx hb d_SF_at_26 rfl (lv_at hl 0 rfl) ?_
        refine va_get (D := D) (ci := 2) (v := .int sh) (C := R_SF) (T := F_SF) (N := 15) hx hb hts i_SF hown hK hP 0 rfl rfl 14 (by decide) (hts _ wd_123) (fun _ h9 => h9) rfl d_SF_at_27 ?_
        refine lv_if_ne (tgt := 45) hx hb d_SF_at_30 (by decide) (fun c_5 => ?_) (fun c_5 => ?_)
        · rw [hQ]
          exact sf_xthrow (text := "the file is shut or the row is not there") (u := (2, 0, cp, cc, cb, ch, cm)) hx hb hst hml hown hts hE hex xk_87_91 xs_128 hlk hS (show ¬ (2 : Int32) = 0 by decide) (show _ = sf_en 2 by decide) (by simp only [f_SF_at, ← hu_1, eq_false c_2, eq_false c_3, eq_true c_4, eq_false c_5, ↓reduceIte]) hP hl.1 (by rw [hR]; exact ⟨Nat.le_of_ble_eq_true rfl, Nat.le_of_ble_eq_true rfl, Nat.le_refl _, Nat.le_refl _⟩) d_SF_at_45 d_SF_at_48 d_SF_at_49 d_SF_at_51 d_SF_at_54
        · refine lv_iload_n hx hb d_SF_at_33 rfl (lv_at hl 2 rfl) ?_
          refine lv_if_eq (tgt := 55) hx hb d_SF_at_34 (by decide) (fun c_6 => ?_) (fun c_6 => ?_)
          · refine lv_iload_n hx hb d_SF_at_55 rfl (lv_at hl 2 rfl) ?_
            refine lv_if_ne (tgt := 73) hx hb d_SF_at_56 (by decide) (fun c_7 => absurd c_6 c_7) (fun c_7 => ?_)
            refine lv_aload_n hx hb d_SF_at_59 rfl (lv_at hl 0 rfl) ?_
            refine lv_iload_n hx hb d_SF_at_60 rfl (lv_at hl 1 rfl) ?_
            refine sf_callVw (S := Int32) (rest := []) ⟨hx, hb, hml, hown, hts⟩ (c_SF_isThere l D cI cZ cJ q fl sl tb np nt cp cc cb ch cm mp mc mb mh mm us ta tp tl cu bl pf sh ro) (sf_cwV lk_SF_125 hts (fun _ h => h) (by rw [hR]; exact ⟨Nat.le_of_ble_eq_true rfl, Nat.le_of_ble_eq_true rfl⟩)) hK hP hD hS hA (fun _ => by simp only [sf_w_fst]) (ci := 2) (q0 := 0) rfl rfl rfl rfl rfl hl.1 (Nat.le_of_ble_eq_true rfl) d_SF_at_61 ⟨Nat.zero_le _, Nat.zero_le _⟩ (fun u_8 H locs hu_8 hP hD hS => ?_)
            have hP : va_P D classes (sf_w q cI cZ fl sl tb np nt cp cc cb ch cm mp mc mb mh mm us ta tp tl cu bl pf sh) H := hP
            have hD : va_D A (sf_w q cI cZ fl sl tb np nt cp cc cb ch cm mp mc mb mh mm us ta tp tl cu bl pf sh) := hD
            refine lv_if_eq (tgt := 71) hx hb d_SF_at_64 (by decide) (fun c_9 => ?_) (fun c_9 => ?_)
            · refine lv_iconst (v := 0) hx hb d_SF_at_71 (by decide) ?_
              rw [hQ]
              exact sf_xiret (0, 0, cp, cc, cb, ch, cm) hx hb hr hlk hS rfl rfl rfl (by simp only [f_SF_at, ← hu_1, ← hu_8, eq_false c_2, eq_false c_3, eq_true c_4, eq_true c_5, eq_true c_6, eq_true c_9, ↓reduceIte]) hP d_SF_at_72
            · refine lv_iconst (v := 1) hx hb d_SF_at_67 (by decide) ?_
              refine lv_goto (tgt := 72) hx hb d_SF_at_68 (by decide) ?_
              rw [hQ]
              exact sf_xiret (0, 1, cp, cc, cb, ch, cm) hx hb hr hlk hS rfl rfl rfl (by simp only [f_SF_at, ← hu_1, ← hu_8, eq_false c_2, eq_false c_3, eq_true c_4, eq_true c_5, eq_true c_6, eq_false c_9, ↓reduceIte]) hP d_SF_at_72
          · refine lv_aload_n hx hb d_SF_at_37 rfl (lv_at hl 0 rfl) ?_
            refine lv_iload_n hx hb d_SF_at_38 rfl (lv_at hl 1 rfl) ?_
            refine sf_callVw (S := Int32) (rest := []) ⟨hx, hb, hml, hown, hts⟩ (c_SF_isThere l D cI cZ cJ q fl sl tb np nt cp cc cb ch cm mp mc mb mh mm us ta tp tl cu bl pf sh ro) (sf_cwV lk_SF_125 hts (fun _ h => h) (by rw [hR]; exact ⟨Nat.le_of_ble_eq_true rfl, Nat.le_of_ble_eq_true rfl⟩)) hK hP hD hS hA (fun _ => by simp only [sf_w_fst]) (ci := 2) (q0 := 0) rfl rfl rfl rfl rfl hl.1 (Nat.le_of_ble_eq_true rfl) d_SF_at_39 ⟨Nat.zero_le _, Nat.zero_le _⟩ (fun u_10 H locs hu_10 hP hD hS => ?_)
            have hP : va_P D classes (sf_w q cI cZ fl sl tb np nt cp cc cb ch cm mp mc mb mh mm us ta tp tl cu bl pf sh) H := hP
            have hD : va_D A (sf_w q cI cZ fl sl tb np nt cp cc cb ch cm mp mc mb mh mm us ta tp tl cu bl pf sh) := hD
            refine lv_if_ne (tgt := 55) hx hb d_SF_at_42 (by decide) (fun c_11 => ?_) (fun c_11 => ?_)
            · refine lv_iload_n hx hb d_SF_at_55 rfl (lv_at hl 2 rfl) ?_
              refine lv_if_ne (tgt := 73) hx hb d_SF_at_56 (by decide) (fun c_12 => ?_) (fun c_12 => absurd c_12 c_6)
              refine lv_iload_n hx hb d_SF_at_73 rfl (lv_at hl 2 rfl) ?_
              refine lv_iconst (v := 1) hx hb d_SF_at_74 (by decide) ?_
              refine lv_icmp_ne (tgt := 92) hx hb d_SF_at_75 (by decide) (fun c_13 => ?_) (fun c_13 => ?_)
              · refine lv_aload_n hx hb d_SF_at_92 rfl (lv_at hl 0 rfl) ?_
                refine lv_iload_n hx hb d_SF_at_93 rfl (lv_at hl 1 rfl) ?_
                refine sf_callVw (S := ((Nat → Int32) × Int32 × Int32 × Int32 × Int32)) (rest := []) ⟨hx, hb, hml, hown, hts⟩ (c_SF_followRow l D cI cZ cJ q fl sl tb np nt cp cc cb ch cm mp mc mb mh mm us ta tp tl cu bl pf sh ro) (sf_cwV lk_SF_148 hts (fun _ h => h) (by rw [hR]; exact ⟨Nat.le_of_ble_eq_true rfl, Nat.le_of_ble_eq_true rfl⟩)) hK hP hD hS hA (fun _ => by simp only [sf_w_fst]) (ci := 2) (q0 := 0) rfl rfl rfl rfl rfl hl.1 (Nat.le_of_ble_eq_true rfl) d_SF_at_94 ⟨Nat.zero_le _, Nat.zero_le _⟩ (fun u_14 H locs hu_14 hP hD hS => ?_)
                have hP : va_P D classes (sf_w q cI cZ fl sl tb np nt u_14.1 u_14.2.1 u_14.2.2.1 u_14.2.2.2.1 u_14.2.2.2.2 mp mc mb mh mm us ta tp tl cu bl pf sh) H := hP
                have hD : va_D A (sf_w q cI cZ fl sl tb np nt u_14.1 u_14.2.1 u_14.2.2.1 u_14.2.2.2.1 u_14.2.2.2.2 mp mc mb mh mm us ta tp tl cu bl pf sh) := hD
                refine lv_iload_n hx hb d_SF_at_97 rfl (lv_at hl 2 rfl) ?_
                refine lv_iconst (v := 2) hx hb d_SF_at_98 (by decide) ?_
                refine lv_icmp_ne (tgt := 112) hx hb d_SF_at_99 (by decide) (fun c_15 => ?_) (fun c_15 => ?_)
                · refine lv_aload_n hx hb d_SF_at_112 rfl (lv_at hl 0 rfl) ?_
                  refine va_get (D := D) (ci := 2) (v := .ref (q 11)) (C := R_SF) (T := F_SF) (N := 15) hx hb hts i_SF hown hK hP 0 rfl rfl 5 (by decide) (hts _ wd_114) (fun _ h9 => h9) rfl d_SF_at_113 ?_
                  refine va_get (D := D) (ci := 1) (v := .int u_14.2.1) (C := R_Ch) (T := F_Ch) (N := 5) hx hb hts i_Ch hown hK hP 11 rfl rfl 1 (by decide) (hts _ wd_94) (fun _ h9 => h9) rfl d_SF_at_116 ?_
                  rw [hQ]
                  exact sf_xiret (0, u_14.2.1, u_14.1, u_14.2.1, u_14.2.2.1, u_14.2.2.2.1, u_14.2.2.2.2) hx hb hr hlk hS rfl rfl rfl (by simp only [f_SF_at, ← hu_1, ← hu_10, ← hu_14, eq_false c_2, eq_false c_3, eq_true c_4, eq_true c_5, eq_false c_6, eq_false c_11, eq_false c_13, eq_false c_15, ↓reduceIte]) hP d_SF_at_119
                · refine lv_aload_n hx hb d_SF_at_102 rfl (lv_at hl 0 rfl) ?_
                  refine va_get (D := D) (ci := 2) (v := .ref (q 11)) (C := R_SF) (T := F_SF) (N := 15) hx hb hts i_SF hown hK hP 0 rfl rfl 5 (by decide) (hts _ wd_114) (fun _ h9 => h9) rfl d_SF_at_103 ?_
                  refine sf_callVr (S := Int32) (rest := []) ⟨hx, hb, hml, hown, hts⟩ (c_Ch_monthOrNone l D cI cZ cJ (q 11) (q 12) u_14.1 u_14.2.1 u_14.2.2.1 u_14.2.2.2.1 u_14.2.2.2.2) (sf_cwV lk_SF_170 hts (fun _ h => h) (by rw [hR]; exact ⟨Nat.le_of_ble_eq_true rfl, Nat.le_of_ble_eq_true rfl⟩)) hK hP hD hS hA [11, 12] rfl rfl (fun _ => rfl) (ci := 1) (q0 := 0) rfl rfl rfl rfl rfl hl.1 (Nat.le_of_ble_eq_true rfl) d_SF_at_106 ⟨Nat.zero_le _, Nat.zero_le _⟩ (fun u_16 H locs hu_16 hP hS => ?_)
                  refine lv_goto (tgt := 119) hx hb d_SF_at_109 (by decide) ?_
                  rw [hQ]
                  exact sf_xiret (0, u_16, u_14.1, u_14.2.1, u_14.2.2.1, u_14.2.2.2.1, u_14.2.2.2.2) hx hb hr hlk hS rfl rfl rfl (by simp only [f_SF_at, ← hu_1, ← hu_10, ← hu_14, ← hu_16, eq_false c_2, eq_false c_3, eq_true c_4, eq_true c_5, eq_false c_6, eq_false c_11, eq_false c_13, eq_true c_15, ↓reduceIte]) hP d_SF_at_119
              · refine lv_aload_n hx hb d_SF_at_78 rfl (lv_at hl 0 rfl) ?_
                refine lv_iload_n hx hb d_SF_at_79 rfl (lv_at hl 1 rfl) ?_
                refine sf_callVw (S := Int32) (rest := []) ⟨hx, hb, hml, hown, hts⟩ (c_SF_isSlow l D cI cZ cJ q fl sl tb np nt cp cc cb ch cm mp mc mb mh mm us ta tp tl cu bl pf sh ro) (sf_cwV lk_SF_157 hts (fun _ h => h) (by rw [hR]; exact ⟨Nat.le_of_ble_eq_true rfl, Nat.le_of_ble_eq_true rfl⟩)) hK hP hD hS hA (fun _ => by simp only [sf_w_fst]) (ci := 2) (q0 := 0) rfl rfl rfl rfl rfl hl.1 (Nat.le_of_ble_eq_true rfl) d_SF_at_80 ⟨Nat.zero_le _, Nat.zero_le _⟩ (fun u_17 H locs hu_17 hP hD hS => ?_)
                have hP : va_P D classes (sf_w q cI cZ fl sl tb np nt cp cc cb ch cm mp mc mb mh mm us ta tp tl cu bl pf sh) H := hP
                have hD : va_D A (sf_w q cI cZ fl sl tb np nt cp cc cb ch cm mp mc mb mh mm us ta tp tl cu bl pf sh) := hD
                refine lv_if_eq (tgt := 90) hx hb d_SF_at_83 (by decide) (fun c_18 => ?_) (fun c_18 => ?_)
                · refine lv_iconst (v := 0) hx hb d_SF_at_90 (by decide) ?_
                  rw [hQ]
                  exact sf_xiret (0, 0, cp, cc, cb, ch, cm) hx hb hr hlk hS rfl rfl rfl (by simp only [f_SF_at, ← hu_1, ← hu_10, ← hu_17, eq_false c_2, eq_false c_3, eq_true c_4, eq_true c_5, eq_false c_6, eq_false c_11, eq_true c_13, eq_true c_18, ↓reduceIte]) hP d_SF_at_91
                · refine lv_iconst (v := 1) hx hb d_SF_at_86 (by decide) ?_
                  refine lv_goto (tgt := 91) hx hb d_SF_at_87 (by decide) ?_
                  rw [hQ]
                  exact sf_xiret (0, 1, cp, cc, cb, ch, cm) hx hb hr hlk hS rfl rfl rfl (by simp only [f_SF_at, ← hu_1, ← hu_10, ← hu_17, eq_false c_2, eq_false c_3, eq_true c_4, eq_true c_5, eq_false c_6, eq_false c_11, eq_true c_13, eq_false c_18, ↓reduceIte]) hP d_SF_at_91
            · rw [hQ]
              exact sf_xthrow (text := "the file is shut or the row is not there") (u := (2, 0, cp, cc, cb, ch, cm)) hx hb hst hml hown hts hE hex xk_87_91 xs_128 hlk hS (show ¬ (2 : Int32) = 0 by decide) (show _ = sf_en 2 by decide) (by simp only [f_SF_at, ← hu_1, ← hu_10, eq_false c_2, eq_false c_3, eq_true c_4, eq_true c_5, eq_false c_6, eq_true c_11, ↓reduceIte]) hP hl.1 (by rw [hR]; exact ⟨Nat.le_of_ble_eq_true rfl, Nat.le_of_ble_eq_true rfl, Nat.le_refl _, Nat.le_refl _⟩) d_SF_at_45 d_SF_at_48 d_SF_at_49 d_SF_at_51 d_SF_at_54
      · rw [hQ]
        exact sf_xthrow (text := "no such row or what") (u := (1, 0, cp, cc, cb, ch, cm)) hx hb hst hml hown hts hE hex xk_78_82 xs_168 hlk hS (show ¬ (1 : Int32) = 0 by decide) (show _ = sf_en 1 by decide) (by simp only [f_SF_at, ← hu_1, eq_false c_2, eq_false c_3, eq_false c_4, ↓reduceIte]) hP hl.1 (by rw [hR]; exact ⟨Nat.le_of_ble_eq_true rfl, Nat.le_of_ble_eq_true rfl, Nat.le_refl _, Nat.le_refl _⟩) d_SF_at_16 d_SF_at_19 d_SF_at_20 d_SF_at_22 d_SF_at_25
def f_SF_told (fl : Nat → Int32) (sl : Nat → Int32) (tb : Nat → Int32) (mp : Nat → Int32) (mc : Int32) (mb : Int32) (mh : Int32) (mm : Int32) (us : Nat → Int32) (tl : Int32) (sh : Int32) (wt : Int32) : (Int32 × Int32 × (Nat → Int32) × (Nat → Int32) × Int32 × Int32 × Int32 × Int32) :=
  if wt < 0 then
    (1, 0, us, mp, mc, mb, mh, mm)
  else
    if wt ≤ 4 then
      if sh = 0 then
        if wt = 0 then
          (0, (f_SF_countFree_0 fl tb mp mc mb mh mm us).1, (f_SF_countFree_0 fl tb mp mc mb mh mm us).2.1, (f_SF_countFree_0 fl tb mp mc mb mh mm us).2.2.1, (f_SF_countFree_0 fl tb mp mc mb mh mm us).2.2.2.1, (f_SF_countFree_0 fl tb mp mc mb mh mm us).2.2.2.2.1, (f_SF_countFree_0 fl tb mp mc mb mh mm us).2.2.2.2.2.1, (f_SF_countFree_0 fl tb mp mc mb mh mm us).2.2.2.2.2.2)
        else
          if wt = 1 then
            (0, (f_SF_countFree_1 sl tb mp mc mb mh mm us).1, (f_SF_countFree_1 sl tb mp mc mb mh mm us).2.1, (f_SF_countFree_1 sl tb mp mc mb mh mm us).2.2.1, (f_SF_countFree_1 sl tb mp mc mb mh mm us).2.2.2.1, (f_SF_countFree_1 sl tb mp mc mb mh mm us).2.2.2.2.1, (f_SF_countFree_1 sl tb mp mc mb mh mm us).2.2.2.2.2.1, (f_SF_countFree_1 sl tb mp mc mb mh mm us).2.2.2.2.2.2)
          else
            if wt = 2 then
              (0, (f_SF_numberOf tb (f_SF_countingTable tb)), us, mp, mc, mb, mh, mm)
            else
              if wt = 3 then
                (0, (f_SF_countingTable tb), us, mp, mc, mb, mh, mm)
              else
                (0, tl, us, mp, mc, mb, mh, mm)
      else
        if wt = 4 then
          if wt = 0 then
            (0, (f_SF_countFree_0 fl tb mp mc mb mh mm us).1, (f_SF_countFree_0 fl tb mp mc mb mh mm us).2.1, (f_SF_countFree_0 fl tb mp mc mb mh mm us).2.2.1, (f_SF_countFree_0 fl tb mp mc mb mh mm us).2.2.2.1, (f_SF_countFree_0 fl tb mp mc mb mh mm us).2.2.2.2.1, (f_SF_countFree_0 fl tb mp mc mb mh mm us).2.2.2.2.2.1, (f_SF_countFree_0 fl tb mp mc mb mh mm us).2.2.2.2.2.2)
          else
            if wt = 1 then
              (0, (f_SF_countFree_1 sl tb mp mc mb mh mm us).1, (f_SF_countFree_1 sl tb mp mc mb mh mm us).2.1, (f_SF_countFree_1 sl tb mp mc mb mh mm us).2.2.1, (f_SF_countFree_1 sl tb mp mc mb mh mm us).2.2.2.1, (f_SF_countFree_1 sl tb mp mc mb mh mm us).2.2.2.2.1, (f_SF_countFree_1 sl tb mp mc mb mh mm us).2.2.2.2.2.1, (f_SF_countFree_1 sl tb mp mc mb mh mm us).2.2.2.2.2.2)
            else
              if wt = 2 then
                (0, (f_SF_numberOf tb (f_SF_countingTable tb)), us, mp, mc, mb, mh, mm)
              else
                if wt = 3 then
                  (0, (f_SF_countingTable tb), us, mp, mc, mb, mh, mm)
                else
                  (0, tl, us, mp, mc, mb, mh, mm)
        else
          (2, 0, us, mp, mc, mb, mh, mm)
    else
      (1, 0, us, mp, mc, mb, mh, mm)
set_option maxHeartbeats 1000000 in
set_option maxRecDepth 100000 in
/-- told -/
theorem c_SF_told (l : Launch) (D : va_G) (cI cZ cJ : ClassId) (hst : l.stackTraces = false) (q : Nat → Nat) (fl : Nat → Int32) (sl : Nat → Int32) (tb : Nat → Int32) (np : Nat → Int32) (nt : Nat → Int32) (cp : Nat → Int32) (cc : Int32) (cb : Int32) (ch : Int32) (cm : Int32) (mp : Nat → Int32) (mc : Int32) (mb : Int32) (mh : Int32) (mm : Int32) (us : Nat → Int32) (ta : Nat → Int32) (tp : Nat → Int32) (tl : Int32) (cu : Int32) (bl : Int32) (pf : Int32) (sh : Int32) (wt : Int32) : sf_XM (S := (Int32 × Int32 × (Nat → Int32) × (Nat → Int32) × Int32 × Int32 × Int32 × Int32)) l D classes (sf_tys cI cZ cJ) y_SF_told (sf_ws y_SF_told b_SF_told 2 (some .int)) 6 144 [.ref (q 0), .int wt] (sf_w q cI cZ fl sl tb np nt cp cc cb ch cm mp mc mb mh mm us ta tp tl cu bl pf sh) (fun r => r.1) (fun r => some (.int r.2.1)) (fun r => r = f_SF_told fl sl tb mp mc mb mh mm us tl sh wt) (fun r => (sf_w q cI cZ fl sl tb np nt cp cc cb ch cm r.2.2.2.1 r.2.2.2.2.1 r.2.2.2.2.2.1 r.2.2.2.2.2.2.1 r.2.2.2.2.2.2.2 r.2.2.1 ta tp tl cu bl pf sh)) := by
  refine sf_xofW (S := (Int32 × Int32 × (Nat → Int32) × (Nat → Int32) × Int32 × Int32 × Int32 × Int32)) (by decide) (Nat.le_of_ble_eq_true rfl) ?_
  intro p e s m below meth c A ls R args Q hR hArgs hQ hC0 hr hex hE hK hP hD hl
  obtain ⟨hx, hb, hml, hown, hts, hA, hlk⟩ := hC0
  have hS : va_S A s.heap s.heap [] := va_S.rf
  have hl : lv_has ls 2 [(0, .ref (q 0)), (1, .int wt)] := hl
  refine lv_iload_n hx hb d_SF_told_0 rfl (lv_at hl 1 rfl) ?_
  refine lv_if_lt (tgt := 9) hx hb d_SF_told_1 (by decide) (fun c_1 => ?_) (fun c_1 => ?_)
  · rw [hQ]
    exact sf_xthrow (text := "no such what") (u := (1, 0, us, mp, mc, mb, mh, mm)) hx hb hst hml hown hts hE hex xk_78_82 xs_173 hlk hS (show ¬ (1 : Int32) = 0 by decide) (show _ = sf_en 1 by decide) (by simp only [f_SF_told, eq_true c_1, ↓reduceIte]) hP hl.1 (by rw [hR]; exact ⟨Nat.le_of_ble_eq_true rfl, Nat.le_of_ble_eq_true rfl, Nat.le_refl _, Nat.le_refl _⟩) d_SF_told_9 d_SF_told_12 d_SF_told_13 d_SF_told_15 d_SF_told_18
  · refine lv_iload_n hx hb d_SF_told_4 rfl (lv_at hl 1 rfl) ?_
    refine lv_iconst (v := 4) hx hb d_SF_told_5 (by decide) ?_
    refine lv_icmp_le (tgt := 19) hx hb d_SF_told_6 (by decide) (fun c_2 => ?_) (fun c_2 => ?_)
    · refine lv_aload_n hx hb d_SF_told_19 rfl (lv_at hl 0 rfl) ?_
      refine va_get (D := D) (ci := 2) (v := .int sh) (C := R_SF) (T := F_SF) (N := 15) hx hb hts i_SF hown hK hP 0 rfl rfl 14 (by decide) (hts _ wd_123) (fun _ h9 => h9) rfl d_SF_told_20 ?_
      refine lv_if_eq (tgt := 41) hx hb d_SF_told_23 (by decide) (fun c_3 => ?_) (fun c_3 => ?_)
      · refine lv_iload_n hx hb d_SF_told_41 rfl (lv_at hl 1 rfl) ?_
        rcases sf_five c_1 c_2 with hw | hw | hw | hw | hw
        · rw [hw]
          refine lv_tableIn (tgt := 72) (off := 30) hx hb d_SF_told_42 (by decide) (by decide) (by decide) (by decide) ?_
          refine lv_aload_n hx hb d_SF_told_72 rfl (lv_at hl 0 rfl) ?_
          refine lv_iconst (v := 0) hx hb d_SF_told_73 (by decide) ?_
          refine sf_callVw (S := (Int32 × (Nat → Int32) × (Nat → Int32) × Int32 × Int32 × Int32 × Int32)) (rest := []) ⟨hx, hb, hml, hown, hts⟩ (c_SF_countFree_0 l D cI cZ cJ q fl sl tb np nt cp cc cb ch cm mp mc mb mh mm us ta tp tl cu bl pf sh) (sf_cwV lk_SF_175 hts (fun _ h => h) (by rw [hR]; exact ⟨Nat.le_of_ble_eq_true rfl, Nat.le_of_ble_eq_true rfl⟩)) hK hP hD hS hA (fun _ => by simp only [sf_w_fst]) (ci := 2) (q0 := 0) rfl rfl rfl rfl rfl hl.1 (Nat.le_of_ble_eq_true rfl) d_SF_told_74 ⟨Nat.zero_le _, Nat.zero_le _⟩ (fun u_4 H locs hu_4 hP hD hS => ?_)
          have hP : va_P D classes (sf_w q cI cZ fl sl tb np nt cp cc cb ch cm u_4.2.2.1 u_4.2.2.2.1 u_4.2.2.2.2.1 u_4.2.2.2.2.2.1 u_4.2.2.2.2.2.2 u_4.2.1 ta tp tl cu bl pf sh) H := hP
          have hD : va_D A (sf_w q cI cZ fl sl tb np nt cp cc cb ch cm u_4.2.2.1 u_4.2.2.2.1 u_4.2.2.2.2.1 u_4.2.2.2.2.2.1 u_4.2.2.2.2.2.2 u_4.2.1 ta tp tl cu bl pf sh) := hD
          rw [hQ]
          exact sf_xiret (0, u_4.1, u_4.2.1, u_4.2.2.1, u_4.2.2.2.1, u_4.2.2.2.2.1, u_4.2.2.2.2.2.1, u_4.2.2.2.2.2.2) hx hb hr hlk hS rfl rfl rfl (by simp only [f_SF_told, ← hu_4, eq_false c_1, eq_true c_2, eq_true c_3, eq_true hw, ↓reduceIte]) hP d_SF_told_77
        · rw [hw]
          have hw0 : ¬ wt = 0 := by rw [hw]; decide
          refine lv_tableIn (tgt := 78) (off := 36) hx hb d_SF_told_42 (by decide) (by decide) (by decide) (by decide) ?_
          refine lv_aload_n hx hb d_SF_told_78 rfl (lv_at hl 0 rfl) ?_
          refine lv_iconst (v := 1) hx hb d_SF_told_79 (by decide) ?_
          refine sf_callVw (S := (Int32 × (Nat → Int32) × (Nat → Int32) × Int32 × Int32 × Int32 × Int32)) (rest := []) ⟨hx, hb, hml, hown, hts⟩ (c_SF_countFree_1 l D cI cZ cJ q fl sl tb np nt cp cc cb ch cm mp mc mb mh mm us ta tp tl cu bl pf sh) (sf_cwV lk_SF_175 hts (fun _ h => h) (by rw [hR]; exact ⟨Nat.le_of_ble_eq_true rfl, Nat.le_of_ble_eq_true rfl⟩)) hK hP hD hS hA (fun _ => by simp only [sf_w_fst]) (ci := 2) (q0 := 0) rfl rfl rfl rfl rfl hl.1 (Nat.le_of_ble_eq_true rfl) d_SF_told_80 ⟨Nat.zero_le _, Nat.zero_le _⟩ (fun u_5 H locs hu_5 hP hD hS => ?_)
          have hP : va_P D classes (sf_w q cI cZ fl sl tb np nt cp cc cb ch cm u_5.2.2.1 u_5.2.2.2.1 u_5.2.2.2.2.1 u_5.2.2.2.2.2.1 u_5.2.2.2.2.2.2 u_5.2.1 ta tp tl cu bl pf sh) H := hP
          have hD : va_D A (sf_w q cI cZ fl sl tb np nt cp cc cb ch cm u_5.2.2.1 u_5.2.2.2.1 u_5.2.2.2.2.1 u_5.2.2.2.2.2.1 u_5.2.2.2.2.2.2 u_5.2.1 ta tp tl cu bl pf sh) := hD
          rw [hQ]
          exact sf_xiret (0, u_5.1, u_5.2.1, u_5.2.2.1, u_5.2.2.2.1, u_5.2.2.2.2.1, u_5.2.2.2.2.2.1, u_5.2.2.2.2.2.2) hx hb hr hlk hS rfl rfl rfl (by simp only [f_SF_told, ← hu_5, eq_false c_1, eq_true c_2, eq_true c_3, eq_false hw0, eq_true hw, ↓reduceIte]) hP d_SF_told_83
        · rw [hw]
          have hw0 : ¬ wt = 0 := by rw [hw]; decide
          have hw1 : ¬ wt = 1 := by rw [hw]; decide
          refine lv_tableIn (tgt := 84) (off := 42) hx hb d_SF_told_42 (by decide) (by decide) (by decide) (by decide) ?_
          refine lv_aload_n hx hb d_SF_told_84 rfl (lv_at hl 0 rfl) ?_
          refine lv_aload_n hx hb d_SF_told_85 rfl (lv_at hl 0 rfl) ?_
          refine sf_callVw (S := Int32) (rest := [.ref (q 0)]) ⟨hx, hb, hml, hown, hts⟩ (c_SF_countingTable l D cI cZ cJ q fl sl tb np nt cp cc cb ch cm mp mc mb mh mm us ta tp tl cu bl pf sh) (sf_cwV lk_SF_179 hts (fun _ h => h) (by rw [hR]; exact ⟨Nat.le_of_ble_eq_true rfl, Nat.le_of_ble_eq_true rfl⟩)) hK hP hD hS hA (fun _ => by simp only [sf_w_fst]) (ci := 2) (q0 := 0) rfl rfl rfl rfl rfl hl.1 (Nat.le_of_ble_eq_true rfl) d_SF_told_86 ⟨Nat.zero_le _, Nat.zero_le _⟩ (fun u_6 H locs hu_6 hP hD hS => ?_)
          have hP : va_P D classes (sf_w q cI cZ fl sl tb np nt cp cc cb ch cm mp mc mb mh mm us ta tp tl cu bl pf sh) H := hP
          have hD : va_D A (sf_w q cI cZ fl sl tb np nt cp cc cb ch cm mp mc mb mh mm us ta tp tl cu bl pf sh) := hD
          refine sf_callVw (S := Int32) (rest := []) ⟨hx, hb, hml, hown, hts⟩ (c_SF_numberOf l D cI cZ cJ q fl sl tb np nt cp cc cb ch cm mp mc mb mh mm us ta tp tl cu bl pf sh u_6) (sf_cwV lk_SF_182 hts (fun _ h => h) (by rw [hR]; exact ⟨Nat.le_of_ble_eq_true rfl, Nat.le_of_ble_eq_true rfl⟩)) hK hP hD hS hA (fun _ => by simp only [sf_w_fst]) (ci := 2) (q0 := 0) rfl rfl rfl rfl rfl hl.1 (Nat.le_of_ble_eq_true rfl) d_SF_told_89 ⟨Nat.zero_le _, Nat.zero_le _⟩ (fun u_7 H locs hu_7 hP hD hS => ?_)
          have hP : va_P D classes (sf_w q cI cZ fl sl tb np nt cp cc cb ch cm mp mc mb mh mm us ta tp tl cu bl pf sh) H := hP
          have hD : va_D A (sf_w q cI cZ fl sl tb np nt cp cc cb ch cm mp mc mb mh mm us ta tp tl cu bl pf sh) := hD
          rw [hQ]
          exact sf_xiret (0, u_7, us, mp, mc, mb, mh, mm) hx hb hr hlk hS rfl rfl rfl (by simp only [f_SF_told, ← hu_6, ← hu_7, eq_false c_1, eq_true c_2, eq_true c_3, eq_false hw0, eq_false hw1, eq_true hw, ↓reduceIte]) hP d_SF_told_92
        · rw [hw]
          have hw0 : ¬ wt = 0 := by rw [hw]; decide
          have hw1 : ¬ wt = 1 := by rw [hw]; decide
          have hw2 : ¬ wt = 2 := by rw [hw]; decide
          refine lv_tableIn (tgt := 93) (off := 51) hx hb d_SF_told_42 (by decide) (by decide) (by decide) (by decide) ?_
          refine lv_aload_n hx hb d_SF_told_93 rfl (lv_at hl 0 rfl) ?_
          refine sf_callVw (S := Int32) (rest := []) ⟨hx, hb, hml, hown, hts⟩ (c_SF_countingTable l D cI cZ cJ q fl sl tb np nt cp cc cb ch cm mp mc mb mh mm us ta tp tl cu bl pf sh) (sf_cwV lk_SF_179 hts (fun _ h => h) (by rw [hR]; exact ⟨Nat.le_of_ble_eq_true rfl, Nat.le_of_ble_eq_true rfl⟩)) hK hP hD hS hA (fun _ => by simp only [sf_w_fst]) (ci := 2) (q0 := 0) rfl rfl rfl rfl rfl hl.1 (Nat.le_of_ble_eq_true rfl) d_SF_told_94 ⟨Nat.zero_le _, Nat.zero_le _⟩ (fun u_8 H locs hu_8 hP hD hS => ?_)
          have hP : va_P D classes (sf_w q cI cZ fl sl tb np nt cp cc cb ch cm mp mc mb mh mm us ta tp tl cu bl pf sh) H := hP
          have hD : va_D A (sf_w q cI cZ fl sl tb np nt cp cc cb ch cm mp mc mb mh mm us ta tp tl cu bl pf sh) := hD
          rw [hQ]
          exact sf_xiret (0, u_8, us, mp, mc, mb, mh, mm) hx hb hr hlk hS rfl rfl rfl (by simp only [f_SF_told, ← hu_8, eq_false c_1, eq_true c_2, eq_true c_3, eq_false hw0, eq_false hw1, eq_false hw2, eq_true hw, ↓reduceIte]) hP d_SF_told_97
        · rw [hw]
          have hw0 : ¬ wt = 0 := by rw [hw]; decide
          have hw1 : ¬ wt = 1 := by rw [hw]; decide
          have hw2 : ¬ wt = 2 := by rw [hw]; decide
          have hw3 : ¬ wt = 3 := by rw [hw]; decide
          refine lv_tableOut (tgt := 98) hx hb d_SF_told_42 (Or.inr (by decide)) (by decide) ?_
          refine lv_aload_n hx hb d_SF_told_98 rfl (lv_at hl 0 rfl) ?_
          refine va_get (D := D) (ci := 2) (v := .int tl) (C := R_SF) (T := F_SF) (N := 15) hx hb hts i_SF hown hK hP 0 rfl rfl 10 (by decide) (hts _ wd_119) (fun _ h9 => h9) rfl d_SF_told_99 ?_
          rw [hQ]
          exact sf_xiret (0, tl, us, mp, mc, mb, mh, mm) hx hb hr hlk hS rfl rfl rfl (by simp only [f_SF_told, eq_false c_1, eq_true c_2, eq_true c_3, eq_false hw0, eq_false hw1, eq_false hw2, eq_false hw3, ↓reduceIte]) hP d_SF_told_102
      · refine lv_iload_n hx hb d_SF_told_26 rfl (lv_at hl 1 rfl) ?_
        refine lv_iconst (v := 4) hx hb d_SF_told_27 (by decide) ?_
        refine lv_icmp_eq (tgt := 41) hx hb d_SF_told_28 (by decide) (fun c_9 => ?_) (fun c_9 => ?_)
        · refine lv_iload_n hx hb d_SF_told_41 rfl (lv_at hl 1 rfl) ?_
          rcases sf_five c_1 c_2 with hw | hw | hw | hw | hw
          · rw [hw]
            refine lv_tableIn (tgt := 72) (off := 30) hx hb d_SF_told_42 (by decide) (by decide) (by decide) (by decide) ?_
            refine lv_aload_n hx hb d_SF_told_72 rfl (lv_at hl 0 rfl) ?_
            refine lv_iconst (v := 0) hx hb d_SF_told_73 (by decide) ?_
            refine sf_callVw (S := (Int32 × (Nat → Int32) × (Nat → Int32) × Int32 × Int32 × Int32 × Int32)) (rest := []) ⟨hx, hb, hml, hown, hts⟩ (c_SF_countFree_0 l D cI cZ cJ q fl sl tb np nt cp cc cb ch cm mp mc mb mh mm us ta tp tl cu bl pf sh) (sf_cwV lk_SF_175 hts (fun _ h => h) (by rw [hR]; exact ⟨Nat.le_of_ble_eq_true rfl, Nat.le_of_ble_eq_true rfl⟩)) hK hP hD hS hA (fun _ => by simp only [sf_w_fst]) (ci := 2) (q0 := 0) rfl rfl rfl rfl rfl hl.1 (Nat.le_of_ble_eq_true rfl) d_SF_told_74 ⟨Nat.zero_le _, Nat.zero_le _⟩ (fun u_10 H locs hu_10 hP hD hS => ?_)
            have hP : va_P D classes (sf_w q cI cZ fl sl tb np nt cp cc cb ch cm u_10.2.2.1 u_10.2.2.2.1 u_10.2.2.2.2.1 u_10.2.2.2.2.2.1 u_10.2.2.2.2.2.2 u_10.2.1 ta tp tl cu bl pf sh) H := hP
            have hD : va_D A (sf_w q cI cZ fl sl tb np nt cp cc cb ch cm u_10.2.2.1 u_10.2.2.2.1 u_10.2.2.2.2.1 u_10.2.2.2.2.2.1 u_10.2.2.2.2.2.2 u_10.2.1 ta tp tl cu bl pf sh) := hD
            rw [hQ]
            exact sf_xiret (0, u_10.1, u_10.2.1, u_10.2.2.1, u_10.2.2.2.1, u_10.2.2.2.2.1, u_10.2.2.2.2.2.1, u_10.2.2.2.2.2.2) hx hb hr hlk hS rfl rfl rfl (by simp only [f_SF_told, ← hu_10, eq_false c_1, eq_true c_2, eq_false c_3, eq_true c_9, eq_true hw, ↓reduceIte]) hP d_SF_told_77
          · rw [hw]
            have hw0 : ¬ wt = 0 := by rw [hw]; decide
            refine lv_tableIn (tgt := 78) (off := 36) hx hb d_SF_told_42 (by decide) (by decide) (by decide) (by decide) ?_
            refine lv_aload_n hx hb d_SF_told_78 rfl (lv_at hl 0 rfl) ?_
            refine lv_iconst (v := 1) hx hb d_SF_told_79 (by decide) ?_
            refine sf_callVw (S := (Int32 × (Nat → Int32) × (Nat → Int32) × Int32 × Int32 × Int32 × Int32)) (rest := []) ⟨hx, hb, hml, hown, hts⟩ (c_SF_countFree_1 l D cI cZ cJ q fl sl tb np nt cp cc cb ch cm mp mc mb mh mm us ta tp tl cu bl pf sh) (sf_cwV lk_SF_175 hts (fun _ h => h) (by rw [hR]; exact ⟨Nat.le_of_ble_eq_true rfl, Nat.le_of_ble_eq_true rfl⟩)) hK hP hD hS hA (fun _ => by simp only [sf_w_fst]) (ci := 2) (q0 := 0) rfl rfl rfl rfl rfl hl.1 (Nat.le_of_ble_eq_true rfl) d_SF_told_80 ⟨Nat.zero_le _, Nat.zero_le _⟩ (fun u_11 H locs hu_11 hP hD hS => ?_)
            have hP : va_P D classes (sf_w q cI cZ fl sl tb np nt cp cc cb ch cm u_11.2.2.1 u_11.2.2.2.1 u_11.2.2.2.2.1 u_11.2.2.2.2.2.1 u_11.2.2.2.2.2.2 u_11.2.1 ta tp tl cu bl pf sh) H := hP
            have hD : va_D A (sf_w q cI cZ fl sl tb np nt cp cc cb ch cm u_11.2.2.1 u_11.2.2.2.1 u_11.2.2.2.2.1 u_11.2.2.2.2.2.1 u_11.2.2.2.2.2.2 u_11.2.1 ta tp tl cu bl pf sh) := hD
            rw [hQ]
            exact sf_xiret (0, u_11.1, u_11.2.1, u_11.2.2.1, u_11.2.2.2.1, u_11.2.2.2.2.1, u_11.2.2.2.2.2.1, u_11.2.2.2.2.2.2) hx hb hr hlk hS rfl rfl rfl (by simp only [f_SF_told, ← hu_11, eq_false c_1, eq_true c_2, eq_false c_3, eq_true c_9, eq_false hw0, eq_true hw, ↓reduceIte]) hP d_SF_told_83
          · rw [hw]
            have hw0 : ¬ wt = 0 := by rw [hw]; decide
            have hw1 : ¬ wt = 1 := by rw [hw]; decide
            refine lv_tableIn (tgt := 84) (off := 42) hx hb d_SF_told_42 (by decide) (by decide) (by decide) (by decide) ?_
            refine lv_aload_n hx hb d_SF_told_84 rfl (lv_at hl 0 rfl) ?_
            refine lv_aload_n hx hb d_SF_told_85 rfl (lv_at hl 0 rfl) ?_
            refine sf_callVw (S := Int32) (rest := [.ref (q 0)]) ⟨hx, hb, hml, hown, hts⟩ (c_SF_countingTable l D cI cZ cJ q fl sl tb np nt cp cc cb ch cm mp mc mb mh mm us ta tp tl cu bl pf sh) (sf_cwV lk_SF_179 hts (fun _ h => h) (by rw [hR]; exact ⟨Nat.le_of_ble_eq_true rfl, Nat.le_of_ble_eq_true rfl⟩)) hK hP hD hS hA (fun _ => by simp only [sf_w_fst]) (ci := 2) (q0 := 0) rfl rfl rfl rfl rfl hl.1 (Nat.le_of_ble_eq_true rfl) d_SF_told_86 ⟨Nat.zero_le _, Nat.zero_le _⟩ (fun u_12 H locs hu_12 hP hD hS => ?_)
            have hP : va_P D classes (sf_w q cI cZ fl sl tb np nt cp cc cb ch cm mp mc mb mh mm us ta tp tl cu bl pf sh) H := hP
            have hD : va_D A (sf_w q cI cZ fl sl tb np nt cp cc cb ch cm mp mc mb mh mm us ta tp tl cu bl pf sh) := hD
            refine sf_callVw (S := Int32) (rest := []) ⟨hx, hb, hml, hown, hts⟩ (c_SF_numberOf l D cI cZ cJ q fl sl tb np nt cp cc cb ch cm mp mc mb mh mm us ta tp tl cu bl pf sh u_12) (sf_cwV lk_SF_182 hts (fun _ h => h) (by rw [hR]; exact ⟨Nat.le_of_ble_eq_true rfl, Nat.le_of_ble_eq_true rfl⟩)) hK hP hD hS hA (fun _ => by simp only [sf_w_fst]) (ci := 2) (q0 := 0) rfl rfl rfl rfl rfl hl.1 (Nat.le_of_ble_eq_true rfl) d_SF_told_89 ⟨Nat.zero_le _, Nat.zero_le _⟩ (fun u_13 H locs hu_13 hP hD hS => ?_)
            have hP : va_P D classes (sf_w q cI cZ fl sl tb np nt cp cc cb ch cm mp mc mb mh mm us ta tp tl cu bl pf sh) H := hP
            have hD : va_D A (sf_w q cI cZ fl sl tb np nt cp cc cb ch cm mp mc mb mh mm us ta tp tl cu bl pf sh) := hD
            rw [hQ]
            exact sf_xiret (0, u_13, us, mp, mc, mb, mh, mm) hx hb hr hlk hS rfl rfl rfl (by simp only [f_SF_told, ← hu_12, ← hu_13, eq_false c_1, eq_true c_2, eq_false c_3, eq_true c_9, eq_false hw0, eq_false hw1, eq_true hw, ↓reduceIte]) hP d_SF_told_92
          · rw [hw]
            have hw0 : ¬ wt = 0 := by rw [hw]; decide
            have hw1 : ¬ wt = 1 := by rw [hw]; decide
            have hw2 : ¬ wt = 2 := by rw [hw]; decide
            refine lv_tableIn (tgt := 93) (off := 51) hx hb d_SF_told_42 (by decide) (by decide) (by decide) (by decide) ?_
            refine lv_aload_n hx hb d_SF_told_93 rfl (lv_at hl 0 rfl) ?_
            refine sf_callVw (S := Int32) (rest := []) ⟨hx, hb, hml, hown, hts⟩ (c_SF_countingTable l D cI cZ cJ q fl sl tb np nt cp cc cb ch cm mp mc mb mh mm us ta tp tl cu bl pf sh) (sf_cwV lk_SF_179 hts (fun _ h => h) (by rw [hR]; exact ⟨Nat.le_of_ble_eq_true rfl, Nat.le_of_ble_eq_true rfl⟩)) hK hP hD hS hA (fun _ => by simp only [sf_w_fst]) (ci := 2) (q0 := 0) rfl rfl rfl rfl rfl hl.1 (Nat.le_of_ble_eq_true rfl) d_SF_told_94 ⟨Nat.zero_le _, Nat.zero_le _⟩ (fun u_14 H locs hu_14 hP hD hS => ?_)
            have hP : va_P D classes (sf_w q cI cZ fl sl tb np nt cp cc cb ch cm mp mc mb mh mm us ta tp tl cu bl pf sh) H := hP
            have hD : va_D A (sf_w q cI cZ fl sl tb np nt cp cc cb ch cm mp mc mb mh mm us ta tp tl cu bl pf sh) := hD
            rw [hQ]
            exact sf_xiret (0, u_14, us, mp, mc, mb, mh, mm) hx hb hr hlk hS rfl rfl rfl (by simp only [f_SF_told, ← hu_14, eq_false c_1, eq_true c_2, eq_false c_3, eq_true c_9, eq_false hw0, eq_false hw1, eq_false hw2, eq_true hw, ↓reduceIte]) hP d_SF_told_97
          · rw [hw]
            have hw0 : ¬ wt = 0 := by rw [hw]; decide
            have hw1 : ¬ wt = 1 := by rw [hw]; decide
            have hw2 : ¬ wt = 2 := by rw [hw]; decide
            have hw3 : ¬ wt = 3 := by rw [hw]; decide
            refine lv_tableOut (tgt := 98) hx hb d_SF_told_42 (Or.inr (by decide)) (by decide) ?_
            refine lv_aload_n hx hb d_SF_told_98 rfl (lv_at hl 0 rfl) ?_
            refine va_get (D := D) (ci := 2) (v := .int tl) (C := R_SF) (T := F_SF) (N := 15) hx hb hts i_SF hown hK hP 0 rfl rfl 10 (by decide) (hts _ wd_119) (fun _ h9 => h9) rfl d_SF_told_99 ?_
            rw [hQ]
            exact sf_xiret (0, tl, us, mp, mc, mb, mh, mm) hx hb hr hlk hS rfl rfl rfl (by simp only [f_SF_told, eq_false c_1, eq_true c_2, eq_false c_3, eq_true c_9, eq_false hw0, eq_false hw1, eq_false hw2, eq_false hw3, ↓reduceIte]) hP d_SF_told_102
        · rw [hQ]
          exact sf_xthrow (text := "the file is shut") (u := (2, 0, us, mp, mc, mb, mh, mm)) hx hb hst hml hown hts hE hex xk_87_91 xs_130 hlk hS (show ¬ (2 : Int32) = 0 by decide) (show _ = sf_en 2 by decide) (by simp only [f_SF_told, eq_false c_1, eq_true c_2, eq_false c_3, eq_false c_9, ↓reduceIte]) hP hl.1 (by rw [hR]; exact ⟨Nat.le_of_ble_eq_true rfl, Nat.le_of_ble_eq_true rfl, Nat.le_refl _, Nat.le_refl _⟩) d_SF_told_31 d_SF_told_34 d_SF_told_35 d_SF_told_37 d_SF_told_40
    · rw [hQ]
      exact sf_xthrow (text := "no such what") (u := (1, 0, us, mp, mc, mb, mh, mm)) hx hb hst hml hown hts hE hex xk_78_82 xs_173 hlk hS (show ¬ (1 : Int32) = 0 by decide) (show _ = sf_en 1 by decide) (by simp only [f_SF_told, eq_false c_1, eq_false c_2, ↓reduceIte]) hP hl.1 (by rw [hR]; exact ⟨Nat.le_of_ble_eq_true rfl, Nat.le_of_ble_eq_true rfl, Nat.le_refl _, Nat.le_refl _⟩) d_SF_told_9 d_SF_told_12 d_SF_told_13 d_SF_told_15 d_SF_told_18
def f_SF_wrong (fl : Nat → Int32) (sl : Nat → Int32) (tb : Nat → Int32) (mp : Nat → Int32) (mc : Int32) (mb : Int32) (mh : Int32) (mm : Int32) (us : Nat → Int32) (wt : Int32) (wk : Int32) : (Int32 × Int32 × (Nat → Int32) × (Nat → Int32) × Int32 × Int32 × Int32 × Int32) :=
  if wt < 0 then
    (1, 0, us, mp, mc, mb, mh, mm)
  else
    if 2 < wt then
      (1, 0, us, mp, mc, mb, mh, mm)
    else
      if 0 ≤ wk then
        if wt = 2 then
          (0, (f_SF_wrongTable tb wk), us, mp, mc, mb, mh, mm)
        else
          if wt = 1 then
            (0, (f_SF_wrongPlace_1 sl tb mp mc mb mh mm us wk).1, (f_SF_wrongPlace_1 sl tb mp mc mb mh mm us wk).2.1, (f_SF_wrongPlace_1 sl tb mp mc mb mh mm us wk).2.2.1, (f_SF_wrongPlace_1 sl tb mp mc mb mh mm us wk).2.2.2.1, (f_SF_wrongPlace_1 sl tb mp mc mb mh mm us wk).2.2.2.2.1, (f_SF_wrongPlace_1 sl tb mp mc mb mh mm us wk).2.2.2.2.2.1, (f_SF_wrongPlace_1 sl tb mp mc mb mh mm us wk).2.2.2.2.2.2)
          else
            (0, (f_SF_wrongPlace_0 fl tb mp mc mb mh mm us wk).1, (f_SF_wrongPlace_0 fl tb mp mc mb mh mm us wk).2.1, (f_SF_wrongPlace_0 fl tb mp mc mb mh mm us wk).2.2.1, (f_SF_wrongPlace_0 fl tb mp mc mb mh mm us wk).2.2.2.1, (f_SF_wrongPlace_0 fl tb mp mc mb mh mm us wk).2.2.2.2.1, (f_SF_wrongPlace_0 fl tb mp mc mb mh mm us wk).2.2.2.2.2.1, (f_SF_wrongPlace_0 fl tb mp mc mb mh mm us wk).2.2.2.2.2.2)
      else
        (1, 0, us, mp, mc, mb, mh, mm)
set_option maxHeartbeats 1000000 in
set_option maxRecDepth 100000 in
/-- wrong -/
theorem c_SF_wrong (l : Launch) (D : va_G) (cI cZ cJ : ClassId) (hst : l.stackTraces = false) (q : Nat → Nat) (fl : Nat → Int32) (sl : Nat → Int32) (tb : Nat → Int32) (np : Nat → Int32) (nt : Nat → Int32) (cp : Nat → Int32) (cc : Int32) (cb : Int32) (ch : Int32) (cm : Int32) (mp : Nat → Int32) (mc : Int32) (mb : Int32) (mh : Int32) (mm : Int32) (us : Nat → Int32) (ta : Nat → Int32) (tp : Nat → Int32) (tl : Int32) (cu : Int32) (bl : Int32) (pf : Int32) (sh : Int32) (wt : Int32) (wk : Int32) : sf_XM (S := (Int32 × Int32 × (Nat → Int32) × (Nat → Int32) × Int32 × Int32 × Int32 × Int32)) l D classes (sf_tys cI cZ cJ) y_SF_wrong (sf_ws y_SF_wrong b_SF_wrong 3 (some .int)) 6 146 [.ref (q 0), .int wt, .int wk] (sf_w q cI cZ fl sl tb np nt cp cc cb ch cm mp mc mb mh mm us ta tp tl cu bl pf sh) (fun r => r.1) (fun r => some (.int r.2.1)) (fun r => r = f_SF_wrong fl sl tb mp mc mb mh mm us wt wk) (fun r => (sf_w q cI cZ fl sl tb np nt cp cc cb ch cm r.2.2.2.1 r.2.2.2.2.1 r.2.2.2.2.2.1 r.2.2.2.2.2.2.1 r.2.2.2.2.2.2.2 r.2.2.1 ta tp tl cu bl pf sh)) := by
  refine sf_xofW (S := (Int32 × Int32 × (Nat → Int32) × (Nat → Int32) × Int32 × Int32 × Int32 × Int32)) (by decide) (Nat.le_of_ble_eq_true rfl) ?_
  intro p e s m below meth c A ls R args Q hR hArgs hQ hC0 hr hex hE hK hP hD hl
  obtain ⟨hx, hb, hml, hown, hts, hA, hlk⟩ := hC0
  have hS : va_S A s.heap s.heap [] := va_S.rf
  have hl : lv_has ls 3 [(0, .ref (q 0)), (1, .int wt), (2, .int wk)] := hl
  refine lv_iload_n hx hb d_SF_wrong_0 rfl (lv_at hl 1 rfl) ?_
  refine lv_if_lt (tgt := 13) hx hb d_SF_wrong_1 (by decide) (fun c_1 => ?_) (fun c_1 => ?_)
  · rw [hQ]
    exact sf_xthrow (text := "no such what, or k is below 0") (u := (1, 0, us, mp, mc, mb, mh, mm)) hx hb hst hml hown hts hE hex xk_78_82 xs_185 hlk hS (show ¬ (1 : Int32) = 0 by decide) (show _ = sf_en 1 by decide) (by simp only [f_SF_wrong, eq_true c_1, ↓reduceIte]) hP hl.1 (by rw [hR]; exact ⟨Nat.le_of_ble_eq_true rfl, Nat.le_of_ble_eq_true rfl, Nat.le_refl _, Nat.le_refl _⟩) d_SF_wrong_13 d_SF_wrong_16 d_SF_wrong_17 d_SF_wrong_19 d_SF_wrong_22
  · refine lv_iload_n hx hb d_SF_wrong_4 rfl (lv_at hl 1 rfl) ?_
    refine lv_iconst (v := 2) hx hb d_SF_wrong_5 (by decide) ?_
    refine lv_icmp_gt (tgt := 13) hx hb d_SF_wrong_6 (by decide) (fun c_2 => ?_) (fun c_2 => ?_)
    · rw [hQ]
      exact sf_xthrow (text := "no such what, or k is below 0") (u := (1, 0, us, mp, mc, mb, mh, mm)) hx hb hst hml hown hts hE hex xk_78_82 xs_185 hlk hS (show ¬ (1 : Int32) = 0 by decide) (show _ = sf_en 1 by decide) (by simp only [f_SF_wrong, eq_false c_1, eq_true c_2, ↓reduceIte]) hP hl.1 (by rw [hR]; exact ⟨Nat.le_of_ble_eq_true rfl, Nat.le_of_ble_eq_true rfl, Nat.le_refl _, Nat.le_refl _⟩) d_SF_wrong_13 d_SF_wrong_16 d_SF_wrong_17 d_SF_wrong_19 d_SF_wrong_22
    · refine lv_iload_n hx hb d_SF_wrong_9 rfl (lv_at hl 2 rfl) ?_
      refine lv_if_ge (tgt := 23) hx hb d_SF_wrong_10 (by decide) (fun c_3 => ?_) (fun c_3 => ?_)
      · refine lv_iload_n hx hb d_SF_wrong_23 rfl (lv_at hl 1 rfl) ?_
        refine lv_iconst (v := 2) hx hb d_SF_wrong_24 (by decide) ?_
        refine lv_icmp_ne (tgt := 36) hx hb d_SF_wrong_25 (by decide) (fun c_4 => ?_) (fun c_4 => ?_)
        · refine lv_aload_n hx hb d_SF_wrong_36 rfl (lv_at hl 0 rfl) ?_
          refine lv_iload_n hx hb d_SF_wrong_37 rfl (lv_at hl 1 rfl) ?_
          refine lv_iconst (v := 1) hx hb d_SF_wrong_38 (by decide) ?_
          refine lv_icmp_ne (tgt := 46) hx hb d_SF_wrong_39 (by decide) (fun c_5 => ?_) (fun c_5 => ?_)
          · refine lv_iconst (v := 0) hx hb d_SF_wrong_46 (by decide) ?_
            refine lv_iload_n hx hb d_SF_wrong_47 rfl (lv_at hl 2 rfl) ?_
            refine sf_callVw (S := (Int32 × (Nat → Int32) × (Nat → Int32) × Int32 × Int32 × Int32 × Int32)) (rest := []) ⟨hx, hb, hml, hown, hts⟩ (c_SF_wrongPlace_0 l D cI cZ cJ q fl sl tb np nt cp cc cb ch cm mp mc mb mh mm us ta tp tl cu bl pf sh wk) (sf_cwV lk_SF_190 hts (fun _ h => h) (by rw [hR]; exact ⟨Nat.le_of_ble_eq_true rfl, Nat.le_of_ble_eq_true rfl⟩)) hK hP hD hS hA (fun _ => by simp only [sf_w_fst]) (ci := 2) (q0 := 0) rfl rfl rfl rfl rfl hl.1 (Nat.le_of_ble_eq_true rfl) d_SF_wrong_48 ⟨Nat.zero_le _, Nat.zero_le _⟩ (fun u_6 H locs hu_6 hP hD hS => ?_)
            have hP : va_P D classes (sf_w q cI cZ fl sl tb np nt cp cc cb ch cm u_6.2.2.1 u_6.2.2.2.1 u_6.2.2.2.2.1 u_6.2.2.2.2.2.1 u_6.2.2.2.2.2.2 u_6.2.1 ta tp tl cu bl pf sh) H := hP
            have hD : va_D A (sf_w q cI cZ fl sl tb np nt cp cc cb ch cm u_6.2.2.1 u_6.2.2.2.1 u_6.2.2.2.2.1 u_6.2.2.2.2.2.1 u_6.2.2.2.2.2.2 u_6.2.1 ta tp tl cu bl pf sh) := hD
            rw [hQ]
            exact sf_xiret (0, u_6.1, u_6.2.1, u_6.2.2.1, u_6.2.2.2.1, u_6.2.2.2.2.1, u_6.2.2.2.2.2.1, u_6.2.2.2.2.2.2) hx hb hr hlk hS rfl rfl rfl (by simp only [f_SF_wrong, ← hu_6, eq_false c_1, eq_false c_2, eq_true c_3, eq_false c_4, eq_false c_5, ↓reduceIte]) hP d_SF_wrong_51
          · refine lv_iconst (v := 1) hx hb d_SF_wrong_42 (by decide) ?_
            refine lv_goto (tgt := 47) hx hb d_SF_wrong_43 (by decide) ?_
            refine lv_iload_n hx hb d_SF_wrong_47 rfl (lv_at hl 2 rfl) ?_
            refine sf_callVw (S := (Int32 × (Nat → Int32) × (Nat → Int32) × Int32 × Int32 × Int32 × Int32)) (rest := []) ⟨hx, hb, hml, hown, hts⟩ (c_SF_wrongPlace_1 l D cI cZ cJ q fl sl tb np nt cp cc cb ch cm mp mc mb mh mm us ta tp tl cu bl pf sh wk) (sf_cwV lk_SF_190 hts (fun _ h => h) (by rw [hR]; exact ⟨Nat.le_of_ble_eq_true rfl, Nat.le_of_ble_eq_true rfl⟩)) hK hP hD hS hA (fun _ => by simp only [sf_w_fst]) (ci := 2) (q0 := 0) rfl rfl rfl rfl rfl hl.1 (Nat.le_of_ble_eq_true rfl) d_SF_wrong_48 ⟨Nat.zero_le _, Nat.zero_le _⟩ (fun u_7 H locs hu_7 hP hD hS => ?_)
            have hP : va_P D classes (sf_w q cI cZ fl sl tb np nt cp cc cb ch cm u_7.2.2.1 u_7.2.2.2.1 u_7.2.2.2.2.1 u_7.2.2.2.2.2.1 u_7.2.2.2.2.2.2 u_7.2.1 ta tp tl cu bl pf sh) H := hP
            have hD : va_D A (sf_w q cI cZ fl sl tb np nt cp cc cb ch cm u_7.2.2.1 u_7.2.2.2.1 u_7.2.2.2.2.1 u_7.2.2.2.2.2.1 u_7.2.2.2.2.2.2 u_7.2.1 ta tp tl cu bl pf sh) := hD
            rw [hQ]
            exact sf_xiret (0, u_7.1, u_7.2.1, u_7.2.2.1, u_7.2.2.2.1, u_7.2.2.2.2.1, u_7.2.2.2.2.2.1, u_7.2.2.2.2.2.2) hx hb hr hlk hS rfl rfl rfl (by simp only [f_SF_wrong, ← hu_7, eq_false c_1, eq_false c_2, eq_true c_3, eq_false c_4, eq_true c_5, ↓reduceIte]) hP d_SF_wrong_51
        · refine lv_aload_n hx hb d_SF_wrong_28 rfl (lv_at hl 0 rfl) ?_
          refine lv_iload_n hx hb d_SF_wrong_29 rfl (lv_at hl 2 rfl) ?_
          refine sf_callVw (S := Int32) (rest := []) ⟨hx, hb, hml, hown, hts⟩ (c_SF_wrongTable l D cI cZ cJ q fl sl tb np nt cp cc cb ch cm mp mc mb mh mm us ta tp tl cu bl pf sh wk) (sf_cwV lk_SF_187 hts (fun _ h => h) (by rw [hR]; exact ⟨Nat.le_of_ble_eq_true rfl, Nat.le_of_ble_eq_true rfl⟩)) hK hP hD hS hA (fun _ => by simp only [sf_w_fst]) (ci := 2) (q0 := 0) rfl rfl rfl rfl rfl hl.1 (Nat.le_of_ble_eq_true rfl) d_SF_wrong_30 ⟨Nat.zero_le _, Nat.zero_le _⟩ (fun u_8 H locs hu_8 hP hD hS => ?_)
          have hP : va_P D classes (sf_w q cI cZ fl sl tb np nt cp cc cb ch cm mp mc mb mh mm us ta tp tl cu bl pf sh) H := hP
          have hD : va_D A (sf_w q cI cZ fl sl tb np nt cp cc cb ch cm mp mc mb mh mm us ta tp tl cu bl pf sh) := hD
          refine lv_goto (tgt := 51) hx hb d_SF_wrong_33 (by decide) ?_
          rw [hQ]
          exact sf_xiret (0, u_8, us, mp, mc, mb, mh, mm) hx hb hr hlk hS rfl rfl rfl (by simp only [f_SF_wrong, ← hu_8, eq_false c_1, eq_false c_2, eq_true c_3, eq_true c_4, ↓reduceIte]) hP d_SF_wrong_51
      · rw [hQ]
        exact sf_xthrow (text := "no such what, or k is below 0") (u := (1, 0, us, mp, mc, mb, mh, mm)) hx hb hst hml hown hts hE hex xk_78_82 xs_185 hlk hS (show ¬ (1 : Int32) = 0 by decide) (show _ = sf_en 1 by decide) (by simp only [f_SF_wrong, eq_false c_1, eq_false c_2, eq_false c_3, ↓reduceIte]) hP hl.1 (by rw [hR]; exact ⟨Nat.le_of_ble_eq_true rfl, Nat.le_of_ble_eq_true rfl, Nat.le_refl _, Nat.le_refl _⟩) d_SF_wrong_13 d_SF_wrong_16 d_SF_wrong_17 d_SF_wrong_19 d_SF_wrong_22
def f_SF_byteAt (fl : Nat → Int32) (sl : Nat → Int32) (tb : Nat → Int32) (wt : Int32) (i : Int32) : (Int32 × Int32) :=
  if (f_SF_hasByte wt i) = 0 then
    (1, 0)
  else
    if wt = 0 then
      (0, (f_Bl_get 768 fl (nI 32) 0 i))
    else
      if wt = 1 then
        (0, (f_Bl_get 512 sl (nI 32) 0 i))
      else
        (0, (f_Bl_get 80 tb (nI 40) 0 i))
set_option maxHeartbeats 1000000 in
set_option maxRecDepth 100000 in
/-- byteAt -/
theorem c_SF_byteAt (l : Launch) (D : va_G) (cI cZ cJ : ClassId) (hst : l.stackTraces = false) (q : Nat → Nat) (fl : Nat → Int32) (sl : Nat → Int32) (tb : Nat → Int32) (np : Nat → Int32) (nt : Nat → Int32) (cp : Nat → Int32) (cc : Int32) (cb : Int32) (ch : Int32) (cm : Int32) (mp : Nat → Int32) (mc : Int32) (mb : Int32) (mh : Int32) (mm : Int32) (us : Nat → Int32) (ta : Nat → Int32) (tp : Nat → Int32) (tl : Int32) (cu : Int32) (bl : Int32) (pf : Int32) (sh : Int32) (wt : Int32) (i : Int32) : sf_XM (S := (Int32 × Int32)) l D classes (sf_tys cI cZ cJ) y_SF_byteAt (sf_ws y_SF_byteAt b_SF_byteAt 3 (some .int)) 6 90 [.ref (q 0), .int wt, .int i] (sf_w q cI cZ fl sl tb np nt cp cc cb ch cm mp mc mb mh mm us ta tp tl cu bl pf sh) (fun r => r.1) (fun r => some (.int r.2)) (fun r => r = f_SF_byteAt fl sl tb wt i) (fun r => (sf_w q cI cZ fl sl tb np nt cp cc cb ch cm mp mc mb mh mm us ta tp tl cu bl pf sh)) := by
  refine sf_xofW (S := (Int32 × Int32)) (by decide) (Nat.le_of_ble_eq_true rfl) ?_
  intro p e s m below meth c A ls R args Q hR hArgs hQ hC0 hr hex hE hK hP hD hl
  obtain ⟨hx, hb, hml, hown, hts, hA, hlk⟩ := hC0
  have hS : va_S A s.heap s.heap [] := va_S.rf
  have hl : lv_has ls 3 [(0, .ref (q 0)), (1, .int wt), (2, .int i)] := hl
  refine lv_aload_n hx hb d_SF_byteAt_0 rfl (lv_at hl 0 rfl) ?_
  refine lv_iload_n hx hb d_SF_byteAt_1 rfl (lv_at hl 1 rfl) ?_
  refine lv_iload_n hx hb d_SF_byteAt_2 rfl (lv_at hl 2 rfl) ?_
  refine sf_callVw (S := Int32) (rest := []) ⟨hx, hb, hml, hown, hts⟩ (c_SF_hasByte l D cI cZ cJ q fl sl tb np nt cp cc cb ch cm mp mc mb mh mm us ta tp tl cu bl pf sh wt i) (sf_cwV lk_SF_194 hts (fun _ h => h) (by rw [hR]; exact ⟨Nat.le_of_ble_eq_true rfl, Nat.le_of_ble_eq_true rfl⟩)) hK hP hD hS hA (fun _ => by simp only [sf_w_fst]) (ci := 2) (q0 := 0) rfl rfl rfl rfl rfl hl.1 (Nat.le_of_ble_eq_true rfl) d_SF_byteAt_3 ⟨Nat.zero_le _, Nat.zero_le _⟩ (fun u_1 H locs hu_1 hP hD hS => ?_)
  have hP : va_P D classes (sf_w q cI cZ fl sl tb np nt cp cc cb ch cm mp mc mb mh mm us ta tp tl cu bl pf sh) H := hP
  have hD : va_D A (sf_w q cI cZ fl sl tb np nt cp cc cb ch cm mp mc mb mh mm us ta tp tl cu bl pf sh) := hD
  refine lv_if_ne (tgt := 19) hx hb d_SF_byteAt_6 (by decide) (fun c_2 => ?_) (fun c_2 => ?_)
  · refine lv_aload_n hx hb d_SF_byteAt_19 rfl (lv_at hl 0 rfl) ?_
    refine lv_iload_n hx hb d_SF_byteAt_20 rfl (lv_at hl 1 rfl) ?_
    rcases f_SF_hasByte_3 (by rw [← hu_1]; exact c_2) with hw | hw | hw
    · rw [hw]
      refine sf_callVw (S := Unit) (rest := []) ⟨hx, hb, hml, hown, hts⟩ (c_SF_partOf_0 l D cI cZ cJ q fl sl tb np nt cp cc cb ch cm mp mc mb mh mm us ta tp tl cu bl pf sh) (sf_cwV lk_SF_199 hts (fun _ h => h) (by rw [hR]; exact ⟨Nat.le_of_ble_eq_true rfl, Nat.le_of_ble_eq_true rfl⟩)) hK hP hD hS hA (fun _ => by simp only [sf_w_fst]) (ci := 2) (q0 := 0) rfl rfl rfl rfl rfl hl.1 (Nat.le_of_ble_eq_true rfl) d_SF_byteAt_21 ⟨Nat.zero_le _, Nat.zero_le _⟩ (fun u H locs hu hP hD hS => ?_)
      have hP : va_P D classes (sf_w q cI cZ fl sl tb np nt cp cc cb ch cm mp mc mb mh mm us ta tp tl cu bl pf sh) H := hP
      have hD : va_D A (sf_w q cI cZ fl sl tb np nt cp cc cb ch cm mp mc mb mh mm us ta tp tl cu bl pf sh) := hD
      refine lv_iconst (v := 0) hx hb d_SF_byteAt_24 (by decide) ?_
      refine lv_iload_n hx hb d_SF_byteAt_25 rfl (lv_at hl 2 rfl) ?_
      refine sf_callVr (S := Int32) (rest := []) ⟨hx, hb, hml, hown, hts⟩ (c_Bl_get l D cI cZ cJ (q 1) (q 2) 768 fl (nI 32) 0 i (by omega)) (sf_cwV lk_SF_203 hts (fun _ h => h) (by rw [hR]; exact ⟨Nat.le_of_ble_eq_true rfl, Nat.le_of_ble_eq_true rfl⟩)) hK hP hD hS hA [1, 2] rfl rfl (fun _ => rfl) (ci := 0) (q0 := 0) rfl rfl rfl rfl rfl hl.1 (Nat.le_of_ble_eq_true rfl) d_SF_byteAt_26 ⟨Nat.zero_le _, Nat.zero_le _⟩ (fun u_3 H locs hu_3 hP hS => ?_)
      rw [hQ]
      exact sf_xiret (0, u_3) hx hb hr hlk hS rfl rfl rfl (by simp only [f_SF_byteAt, ← hu_1, ← hu_3, eq_false c_2, eq_true hw, ↓reduceIte]) hP d_SF_byteAt_29
    · rw [hw]
      have hw0 : ¬ wt = 0 := by rw [hw]; decide
      refine sf_callVw (S := Unit) (rest := []) ⟨hx, hb, hml, hown, hts⟩ (c_SF_partOf_1 l D cI cZ cJ q fl sl tb np nt cp cc cb ch cm mp mc mb mh mm us ta tp tl cu bl pf sh) (sf_cwV lk_SF_199 hts (fun _ h => h) (by rw [hR]; exact ⟨Nat.le_of_ble_eq_true rfl, Nat.le_of_ble_eq_true rfl⟩)) hK hP hD hS hA (fun _ => by simp only [sf_w_fst]) (ci := 2) (q0 := 0) rfl rfl rfl rfl rfl hl.1 (Nat.le_of_ble_eq_true rfl) d_SF_byteAt_21 ⟨Nat.zero_le _, Nat.zero_le _⟩ (fun u H locs hu hP hD hS => ?_)
      have hP : va_P D classes (sf_w q cI cZ fl sl tb np nt cp cc cb ch cm mp mc mb mh mm us ta tp tl cu bl pf sh) H := hP
      have hD : va_D A (sf_w q cI cZ fl sl tb np nt cp cc cb ch cm mp mc mb mh mm us ta tp tl cu bl pf sh) := hD
      refine lv_iconst (v := 0) hx hb d_SF_byteAt_24 (by decide) ?_
      refine lv_iload_n hx hb d_SF_byteAt_25 rfl (lv_at hl 2 rfl) ?_
      refine sf_callVr (S := Int32) (rest := []) ⟨hx, hb, hml, hown, hts⟩ (c_Bl_get l D cI cZ cJ (q 3) (q 4) 512 sl (nI 32) 0 i (by omega)) (sf_cwV lk_SF_203 hts (fun _ h => h) (by rw [hR]; exact ⟨Nat.le_of_ble_eq_true rfl, Nat.le_of_ble_eq_true rfl⟩)) hK hP hD hS hA [3, 4] rfl rfl (fun _ => rfl) (ci := 0) (q0 := 0) rfl rfl rfl rfl rfl hl.1 (Nat.le_of_ble_eq_true rfl) d_SF_byteAt_26 ⟨Nat.zero_le _, Nat.zero_le _⟩ (fun u_4 H locs hu_4 hP hS => ?_)
      rw [hQ]
      exact sf_xiret (0, u_4) hx hb hr hlk hS rfl rfl rfl (by simp only [f_SF_byteAt, ← hu_1, ← hu_4, eq_false c_2, eq_false hw0, eq_true hw, ↓reduceIte]) hP d_SF_byteAt_29
    · rw [hw]
      have hw0 : ¬ wt = 0 := by rw [hw]; decide
      have hw1 : ¬ wt = 1 := by rw [hw]; decide
      refine sf_callVw (S := Unit) (rest := []) ⟨hx, hb, hml, hown, hts⟩ (c_SF_partOf_2 l D cI cZ cJ q fl sl tb np nt cp cc cb ch cm mp mc mb mh mm us ta tp tl cu bl pf sh) (sf_cwV lk_SF_199 hts (fun _ h => h) (by rw [hR]; exact ⟨Nat.le_of_ble_eq_true rfl, Nat.le_of_ble_eq_true rfl⟩)) hK hP hD hS hA (fun _ => by simp only [sf_w_fst]) (ci := 2) (q0 := 0) rfl rfl rfl rfl rfl hl.1 (Nat.le_of_ble_eq_true rfl) d_SF_byteAt_21 ⟨Nat.zero_le _, Nat.zero_le _⟩ (fun u H locs hu hP hD hS => ?_)
      have hP : va_P D classes (sf_w q cI cZ fl sl tb np nt cp cc cb ch cm mp mc mb mh mm us ta tp tl cu bl pf sh) H := hP
      have hD : va_D A (sf_w q cI cZ fl sl tb np nt cp cc cb ch cm mp mc mb mh mm us ta tp tl cu bl pf sh) := hD
      refine lv_iconst (v := 0) hx hb d_SF_byteAt_24 (by decide) ?_
      refine lv_iload_n hx hb d_SF_byteAt_25 rfl (lv_at hl 2 rfl) ?_
      refine sf_callVr (S := Int32) (rest := []) ⟨hx, hb, hml, hown, hts⟩ (c_Bl_get l D cI cZ cJ (q 5) (q 6) 80 tb (nI 40) 0 i (by omega)) (sf_cwV lk_SF_203 hts (fun _ h => h) (by rw [hR]; exact ⟨Nat.le_of_ble_eq_true rfl, Nat.le_of_ble_eq_true rfl⟩)) hK hP hD hS hA [5, 6] rfl rfl (fun _ => rfl) (ci := 0) (q0 := 0) rfl rfl rfl rfl rfl hl.1 (Nat.le_of_ble_eq_true rfl) d_SF_byteAt_26 ⟨Nat.zero_le _, Nat.zero_le _⟩ (fun u_5 H locs hu_5 hP hS => ?_)
      rw [hQ]
      exact sf_xiret (0, u_5) hx hb hr hlk hS rfl rfl rfl (by simp only [f_SF_byteAt, ← hu_1, ← hu_5, eq_false c_2, eq_false hw0, eq_false hw1, ↓reduceIte]) hP d_SF_byteAt_29
  · rw [hQ]
    exact sf_xthrow (text := "no such byte") (u := (1, 0)) hx hb hst hml hown hts hE hex xk_78_82 xs_197 hlk hS (show ¬ (1 : Int32) = 0 by decide) (show _ = sf_en 1 by decide) (by simp only [f_SF_byteAt, ← hu_1, eq_true c_2, ↓reduceIte]) hP hl.1 (by rw [hR]; exact ⟨Nat.le_of_ble_eq_true rfl, Nat.le_of_ble_eq_true rfl, Nat.le_refl _, Nat.le_refl _⟩) d_SF_byteAt_9 d_SF_byteAt_12 d_SF_byteAt_13 d_SF_byteAt_15 d_SF_byteAt_18
def f_SF_poke (fl : Nat → Int32) (sl : Nat → Int32) (tb : Nat → Int32) (sh : Int32) (wt : Int32) (i : Int32) (ma : Int32) : (Int32 × (Nat → Int32) × (Nat → Int32) × (Nat → Int32) × Int32) :=
  if (f_SF_hasByte wt i) = 0 then
    (1, fl, sl, tb, sh)
  else
    if ma < 1 then
      (3, fl, sl, tb, sh)
    else
      if ma ≤ 255 then
        if wt = 0 then
          (0, (f_Bl_set 768 fl (nI 32) 0 i ((f_Bl_get 768 fl (nI 32) 0 i) ^^^ ma)), sl, tb, 1)
        else
          if wt = 1 then
            (0, fl, (f_Bl_set 512 sl (nI 32) 0 i ((f_Bl_get 512 sl (nI 32) 0 i) ^^^ ma)), tb, 1)
          else
            (0, fl, sl, (f_Bl_set 80 tb (nI 40) 0 i ((f_Bl_get 80 tb (nI 40) 0 i) ^^^ ma)), 1)
      else
        (3, fl, sl, tb, sh)
set_option maxHeartbeats 1000000 in
set_option maxRecDepth 100000 in
/-- poke -/
theorem c_SF_poke (l : Launch) (D : va_G) (cI cZ cJ : ClassId) (hst : l.stackTraces = false) (q : Nat → Nat) (fl : Nat → Int32) (sl : Nat → Int32) (tb : Nat → Int32) (np : Nat → Int32) (nt : Nat → Int32) (cp : Nat → Int32) (cc : Int32) (cb : Int32) (ch : Int32) (cm : Int32) (mp : Nat → Int32) (mc : Int32) (mb : Int32) (mh : Int32) (mm : Int32) (us : Nat → Int32) (ta : Nat → Int32) (tp : Nat → Int32) (tl : Int32) (cu : Int32) (bl : Int32) (pf : Int32) (sh : Int32) (wt : Int32) (i : Int32) (ma : Int32) : sf_XM (S := (Int32 × (Nat → Int32) × (Nat → Int32) × (Nat → Int32) × Int32)) l D classes (sf_tys cI cZ cJ) y_SF_poke (sf_ws y_SF_poke b_SF_poke 5 none) 6 90 [.ref (q 0), .int wt, .int i, .int ma] (sf_w q cI cZ fl sl tb np nt cp cc cb ch cm mp mc mb mh mm us ta tp tl cu bl pf sh) (fun r => r.1) (fun _ => none) (fun r => r = f_SF_poke fl sl tb sh wt i ma) (fun r => (sf_w q cI cZ r.2.1 r.2.2.1 r.2.2.2.1 np nt cp cc cb ch cm mp mc mb mh mm us ta tp tl cu bl pf r.2.2.2.2)) := by
  refine sf_xofW (S := (Int32 × (Nat → Int32) × (Nat → Int32) × (Nat → Int32) × Int32)) (by decide) (Nat.le_of_ble_eq_true rfl) ?_
  intro p e s m below meth c A ls R args Q hR hArgs hQ hC0 hr hex hE hK hP hD hl
  obtain ⟨hx, hb, hml, hown, hts, hA, hlk⟩ := hC0
  have hS : va_S A s.heap s.heap [] := va_S.rf
  have hl : lv_has ls 5 [(0, .ref (q 0)), (1, .int wt), (2, .int i), (3, .int ma)] := hl
  refine lv_aload_n hx hb d_SF_poke_0 rfl (lv_at hl 0 rfl) ?_
  refine lv_iload_n hx hb d_SF_poke_1 rfl (lv_at hl 1 rfl) ?_
  refine lv_iload_n hx hb d_SF_poke_2 rfl (lv_at hl 2 rfl) ?_
  refine sf_callVw (S := Int32) (rest := []) ⟨hx, hb, hml, hown, hts⟩ (c_SF_hasByte l D cI cZ cJ q fl sl tb np nt cp cc cb ch cm mp mc mb mh mm us ta tp tl cu bl pf sh wt i) (sf_cwV lk_SF_194 hts (fun _ h => h) (by rw [hR]; exact ⟨Nat.le_of_ble_eq_true rfl, Nat.le_of_ble_eq_true rfl⟩)) hK hP hD hS hA (fun _ => by simp only [sf_w_fst]) (ci := 2) (q0 := 0) rfl rfl rfl rfl rfl hl.1 (Nat.le_of_ble_eq_true rfl) d_SF_poke_3 ⟨Nat.zero_le _, Nat.zero_le _⟩ (fun u_1 H locs hu_1 hP hD hS => ?_)
  have hP : va_P D classes (sf_w q cI cZ fl sl tb np nt cp cc cb ch cm mp mc mb mh mm us ta tp tl cu bl pf sh) H := hP
  have hD : va_D A (sf_w q cI cZ fl sl tb np nt cp cc cb ch cm mp mc mb mh mm us ta tp tl cu bl pf sh) := hD
  refine lv_if_ne (tgt := 19) hx hb d_SF_poke_6 (by decide) (fun c_2 => ?_) (fun c_2 => ?_)
  · refine lv_iload_n hx hb d_SF_poke_19 rfl (lv_at hl 3 rfl) ?_
    refine lv_iconst (v := 1) hx hb d_SF_poke_20 (by decide) ?_
    refine lv_icmp_lt (tgt := 31) hx hb d_SF_poke_21 (by decide) (fun c_3 => ?_) (fun c_3 => ?_)
    · rw [hQ]
      exact sf_xthrow (text := "a mask is 1 to 255") (u := (3, fl, sl, tb, sh)) hx hb hst hml hown hts hE hex xk_55_59 xs_207 hlk hS (show ¬ (3 : Int32) = 0 by decide) (show _ = sf_en 3 by decide) (by simp only [f_SF_poke, ← hu_1, eq_false c_2, eq_true c_3, ↓reduceIte]) hP hl.1 (by rw [hR]; exact ⟨Nat.le_of_ble_eq_true rfl, Nat.le_of_ble_eq_true rfl, Nat.le_refl _, Nat.le_refl _⟩) d_SF_poke_31 d_SF_poke_34 d_SF_poke_35 d_SF_poke_37 d_SF_poke_40
    · refine lv_iload_n hx hb d_SF_poke_24 rfl (lv_at hl 3 rfl) ?_
      refine lv_sipush (v := 255) hx hb d_SF_poke_25 (by decide) ?_
      refine lv_icmp_le (tgt := 41) hx hb d_SF_poke_28 (by decide) (fun c_4 => ?_) (fun c_4 => ?_)
      · refine lv_aload_n hx hb d_SF_poke_41 rfl (lv_at hl 0 rfl) ?_
        refine lv_iload_n hx hb d_SF_poke_42 rfl (lv_at hl 1 rfl) ?_
        rcases f_SF_hasByte_3 (by rw [← hu_1]; exact c_2) with hw | hw | hw
        · rw [hw]
          refine sf_callVw (S := Unit) (rest := []) ⟨hx, hb, hml, hown, hts⟩ (c_SF_partOf_0 l D cI cZ cJ q fl sl tb np nt cp cc cb ch cm mp mc mb mh mm us ta tp tl cu bl pf sh) (sf_cwV lk_SF_199 hts (fun _ h => h) (by rw [hR]; exact ⟨Nat.le_of_ble_eq_true rfl, Nat.le_of_ble_eq_true rfl⟩)) hK hP hD hS hA (fun _ => by simp only [sf_w_fst]) (ci := 2) (q0 := 0) rfl rfl rfl rfl rfl hl.1 (Nat.le_of_ble_eq_true rfl) d_SF_poke_43 ⟨Nat.zero_le _, Nat.zero_le _⟩ (fun u H locs hu hP hD hS => ?_)
          have hP : va_P D classes (sf_w q cI cZ fl sl tb np nt cp cc cb ch cm mp mc mb mh mm us ta tp tl cu bl pf sh) H := hP
          have hD : va_D A (sf_w q cI cZ fl sl tb np nt cp cc cb ch cm mp mc mb mh mm us ta tp tl cu bl pf sh) := hD
          refine lv_astore (lv' := [(4, .ref (q 1)), (0, .ref (q 0)), (1, .int wt), (2, .int i), (3, .int ma)]) hx hb d_SF_poke_46 hl (by decide) rfl (fun ls hl => ?_)
          refine lv_aload hx hb d_SF_poke_48 (lv_at hl 0 rfl) ?_
          refine lv_iconst (v := 0) hx hb d_SF_poke_50 (by decide) ?_
          refine lv_iload_n hx hb d_SF_poke_51 rfl (lv_at hl 3 rfl) ?_
          refine lv_aload hx hb d_SF_poke_52 (lv_at hl 0 rfl) ?_
          refine lv_iconst (v := 0) hx hb d_SF_poke_54 (by decide) ?_
          refine lv_iload_n hx hb d_SF_poke_55 rfl (lv_at hl 3 rfl) ?_
          refine sf_callVr (S := Int32) (rest := [.int i, .int 0, .ref (q 1)]) ⟨hx, hb, hml, hown, hts⟩ (c_Bl_get l D cI cZ cJ (q 1) (q 2) 768 fl (nI 32) 0 i (by omega)) (sf_cwV lk_SF_203 hts (fun _ h => h) (by rw [hR]; exact ⟨Nat.le_of_ble_eq_true rfl, Nat.le_of_ble_eq_true rfl⟩)) hK hP hD hS hA [1, 2] rfl rfl (fun _ => rfl) (ci := 0) (q0 := 0) rfl rfl rfl rfl rfl hl.1 (Nat.le_of_ble_eq_true rfl) d_SF_poke_56 ⟨Nat.zero_le _, Nat.zero_le _⟩ (fun u_5 H locs hu_5 hP hS => ?_)
          refine lv_iload_n hx hb d_SF_poke_59 rfl (lv_at hl 4 rfl) ?_
          refine lv_ixor hx hb d_SF_poke_60 ?_
          refine sf_callV (S := (Nat → Int32)) (rest := []) ⟨hx, hb, hml, hown, hts⟩ (c_Bl_set l D cI cZ cJ (q 1) (q 2) 768 fl (nI 32) 0 i (u_5 ^^^ ma) (by omega)) (sf_cwV lk_SF_209 hts (fun _ h => h) (by rw [hR]; exact ⟨Nat.le_of_ble_eq_true rfl, Nat.le_of_ble_eq_true rfl⟩)) hK hP hD hS hA [1, 2] rfl rfl (fun _ => rfl) (ci := 0) (q0 := 0) rfl rfl rfl rfl rfl hl.1 (Nat.le_of_ble_eq_true rfl) d_SF_poke_61 ⟨Nat.zero_le _, Nat.zero_le _⟩ (fun u_6 H locs hu_6 hP hD hS => ?_)
          have hP : va_P D classes (sf_w q cI cZ u_6 sl tb np nt cp cc cb ch cm mp mc mb mh mm us ta tp tl cu bl pf sh) H := hP
          have hD : va_D A (sf_w q cI cZ u_6 sl tb np nt cp cc cb ch cm mp mc mb mh mm us ta tp tl cu bl pf sh) := hD
          refine lv_aload_n hx hb d_SF_poke_64 rfl (lv_at hl 1 rfl) ?_
          refine lv_iconst (v := 1) hx hb d_SF_poke_65 (by decide) ?_
          refine va_put (D := D) (ci := 2) (v := .int 1) (ty := .boolean) (C := R_SF) (T := F_SF) (N := 15) hx hb hts i_SF t_SF t_SF_ok n_SF hown hK hP hD hS 0 rfl rfl 14 (by decide) (hts _ wd_123) (fun _ h9 => h9) rfl (by decide +kernel) (sf_bp1).1 (sf_bp1).2 (Nat.le_of_ble_eq_true rfl) d_SF_poke_66 (fun H locs hP hD hS => ?_)
          have hP : va_P D classes (sf_w q cI cZ u_6 sl tb np nt cp cc cb ch cm mp mc mb mh mm us ta tp tl cu bl pf 1) H := hP
          have hD : va_D A (sf_w q cI cZ u_6 sl tb np nt cp cc cb ch cm mp mc mb mh mm us ta tp tl cu bl pf 1) := hD
          rw [hQ]
          exact sf_xvret (0, u_6, sl, tb, 1) hx hb hr hlk hS rfl rfl (by simp only [f_SF_poke, ← hu_1, ← hu_5, ← hu_6, eq_false c_2, eq_false c_3, eq_true c_4, eq_true hw, ↓reduceIte]) hP d_SF_poke_69
        · rw [hw]
          have hw0 : ¬ wt = 0 := by rw [hw]; decide
          refine sf_callVw (S := Unit) (rest := []) ⟨hx, hb, hml, hown, hts⟩ (c_SF_partOf_1 l D cI cZ cJ q fl sl tb np nt cp cc cb ch cm mp mc mb mh mm us ta tp tl cu bl pf sh) (sf_cwV lk_SF_199 hts (fun _ h => h) (by rw [hR]; exact ⟨Nat.le_of_ble_eq_true rfl, Nat.le_of_ble_eq_true rfl⟩)) hK hP hD hS hA (fun _ => by simp only [sf_w_fst]) (ci := 2) (q0 := 0) rfl rfl rfl rfl rfl hl.1 (Nat.le_of_ble_eq_true rfl) d_SF_poke_43 ⟨Nat.zero_le _, Nat.zero_le _⟩ (fun u H locs hu hP hD hS => ?_)
          have hP : va_P D classes (sf_w q cI cZ fl sl tb np nt cp cc cb ch cm mp mc mb mh mm us ta tp tl cu bl pf sh) H := hP
          have hD : va_D A (sf_w q cI cZ fl sl tb np nt cp cc cb ch cm mp mc mb mh mm us ta tp tl cu bl pf sh) := hD
          refine lv_astore (lv' := [(4, .ref (q 3)), (0, .ref (q 0)), (1, .int wt), (2, .int i), (3, .int ma)]) hx hb d_SF_poke_46 hl (by decide) rfl (fun ls hl => ?_)
          refine lv_aload hx hb d_SF_poke_48 (lv_at hl 0 rfl) ?_
          refine lv_iconst (v := 0) hx hb d_SF_poke_50 (by decide) ?_
          refine lv_iload_n hx hb d_SF_poke_51 rfl (lv_at hl 3 rfl) ?_
          refine lv_aload hx hb d_SF_poke_52 (lv_at hl 0 rfl) ?_
          refine lv_iconst (v := 0) hx hb d_SF_poke_54 (by decide) ?_
          refine lv_iload_n hx hb d_SF_poke_55 rfl (lv_at hl 3 rfl) ?_
          refine sf_callVr (S := Int32) (rest := [.int i, .int 0, .ref (q 3)]) ⟨hx, hb, hml, hown, hts⟩ (c_Bl_get l D cI cZ cJ (q 3) (q 4) 512 sl (nI 32) 0 i (by omega)) (sf_cwV lk_SF_203 hts (fun _ h => h) (by rw [hR]; exact ⟨Nat.le_of_ble_eq_true rfl, Nat.le_of_ble_eq_true rfl⟩)) hK hP hD hS hA [3, 4] rfl rfl (fun _ => rfl) (ci := 0) (q0 := 0) rfl rfl rfl rfl rfl hl.1 (Nat.le_of_ble_eq_true rfl) d_SF_poke_56 ⟨Nat.zero_le _, Nat.zero_le _⟩ (fun u_7 H locs hu_7 hP hS => ?_)
          refine lv_iload_n hx hb d_SF_poke_59 rfl (lv_at hl 4 rfl) ?_
          refine lv_ixor hx hb d_SF_poke_60 ?_
          refine sf_callV (S := (Nat → Int32)) (rest := []) ⟨hx, hb, hml, hown, hts⟩ (c_Bl_set l D cI cZ cJ (q 3) (q 4) 512 sl (nI 32) 0 i (u_7 ^^^ ma) (by omega)) (sf_cwV lk_SF_209 hts (fun _ h => h) (by rw [hR]; exact ⟨Nat.le_of_ble_eq_true rfl, Nat.le_of_ble_eq_true rfl⟩)) hK hP hD hS hA [3, 4] rfl rfl (fun _ => rfl) (ci := 0) (q0 := 0) rfl rfl rfl rfl rfl hl.1 (Nat.le_of_ble_eq_true rfl) d_SF_poke_61 ⟨Nat.zero_le _, Nat.zero_le _⟩ (fun u_8 H locs hu_8 hP hD hS => ?_)
          have hP : va_P D classes (sf_w q cI cZ fl u_8 tb np nt cp cc cb ch cm mp mc mb mh mm us ta tp tl cu bl pf sh) H := hP
          have hD : va_D A (sf_w q cI cZ fl u_8 tb np nt cp cc cb ch cm mp mc mb mh mm us ta tp tl cu bl pf sh) := hD
          refine lv_aload_n hx hb d_SF_poke_64 rfl (lv_at hl 1 rfl) ?_
          refine lv_iconst (v := 1) hx hb d_SF_poke_65 (by decide) ?_
          refine va_put (D := D) (ci := 2) (v := .int 1) (ty := .boolean) (C := R_SF) (T := F_SF) (N := 15) hx hb hts i_SF t_SF t_SF_ok n_SF hown hK hP hD hS 0 rfl rfl 14 (by decide) (hts _ wd_123) (fun _ h9 => h9) rfl (by decide +kernel) (sf_bp1).1 (sf_bp1).2 (Nat.le_of_ble_eq_true rfl) d_SF_poke_66 (fun H locs hP hD hS => ?_)
          have hP : va_P D classes (sf_w q cI cZ fl u_8 tb np nt cp cc cb ch cm mp mc mb mh mm us ta tp tl cu bl pf 1) H := hP
          have hD : va_D A (sf_w q cI cZ fl u_8 tb np nt cp cc cb ch cm mp mc mb mh mm us ta tp tl cu bl pf 1) := hD
          rw [hQ]
          exact sf_xvret (0, fl, u_8, tb, 1) hx hb hr hlk hS rfl rfl (by simp only [f_SF_poke, ← hu_1, ← hu_7, ← hu_8, eq_false c_2, eq_false c_3, eq_true c_4, eq_false hw0, eq_true hw, ↓reduceIte]) hP d_SF_poke_69
        · rw [hw]
          have hw0 : ¬ wt = 0 := by rw [hw]; decide
          have hw1 : ¬ wt = 1 := by rw [hw]; decide
          refine sf_callVw (S := Unit) (rest := []) ⟨hx, hb, hml, hown, hts⟩ (c_SF_partOf_2 l D cI cZ cJ q fl sl tb np nt cp cc cb ch cm mp mc mb mh mm us ta tp tl cu bl pf sh) (sf_cwV lk_SF_199 hts (fun _ h => h) (by rw [hR]; exact ⟨Nat.le_of_ble_eq_true rfl, Nat.le_of_ble_eq_true rfl⟩)) hK hP hD hS hA (fun _ => by simp only [sf_w_fst]) (ci := 2) (q0 := 0) rfl rfl rfl rfl rfl hl.1 (Nat.le_of_ble_eq_true rfl) d_SF_poke_43 ⟨Nat.zero_le _, Nat.zero_le _⟩ (fun u H locs hu hP hD hS => ?_)
          have hP : va_P D classes (sf_w q cI cZ fl sl tb np nt cp cc cb ch cm mp mc mb mh mm us ta tp tl cu bl pf sh) H := hP
          have hD : va_D A (sf_w q cI cZ fl sl tb np nt cp cc cb ch cm mp mc mb mh mm us ta tp tl cu bl pf sh) := hD
          refine lv_astore (lv' := [(4, .ref (q 5)), (0, .ref (q 0)), (1, .int wt), (2, .int i), (3, .int ma)]) hx hb d_SF_poke_46 hl (by decide) rfl (fun ls hl => ?_)
          refine lv_aload hx hb d_SF_poke_48 (lv_at hl 0 rfl) ?_
          refine lv_iconst (v := 0) hx hb d_SF_poke_50 (by decide) ?_
          refine lv_iload_n hx hb d_SF_poke_51 rfl (lv_at hl 3 rfl) ?_
          refine lv_aload hx hb d_SF_poke_52 (lv_at hl 0 rfl) ?_
          refine lv_iconst (v := 0) hx hb d_SF_poke_54 (by decide) ?_
          refine lv_iload_n hx hb d_SF_poke_55 rfl (lv_at hl 3 rfl) ?_
          refine sf_callVr (S := Int32) (rest := [.int i, .int 0, .ref (q 5)]) ⟨hx, hb, hml, hown, hts⟩ (c_Bl_get l D cI cZ cJ (q 5) (q 6) 80 tb (nI 40) 0 i (by omega)) (sf_cwV lk_SF_203 hts (fun _ h => h) (by rw [hR]; exact ⟨Nat.le_of_ble_eq_true rfl, Nat.le_of_ble_eq_true rfl⟩)) hK hP hD hS hA [5, 6] rfl rfl (fun _ => rfl) (ci := 0) (q0 := 0) rfl rfl rfl rfl rfl hl.1 (Nat.le_of_ble_eq_true rfl) d_SF_poke_56 ⟨Nat.zero_le _, Nat.zero_le _⟩ (fun u_9 H locs hu_9 hP hS => ?_)
          refine lv_iload_n hx hb d_SF_poke_59 rfl (lv_at hl 4 rfl) ?_
          refine lv_ixor hx hb d_SF_poke_60 ?_
          refine sf_callV (S := (Nat → Int32)) (rest := []) ⟨hx, hb, hml, hown, hts⟩ (c_Bl_set l D cI cZ cJ (q 5) (q 6) 80 tb (nI 40) 0 i (u_9 ^^^ ma) (by omega)) (sf_cwV lk_SF_209 hts (fun _ h => h) (by rw [hR]; exact ⟨Nat.le_of_ble_eq_true rfl, Nat.le_of_ble_eq_true rfl⟩)) hK hP hD hS hA [5, 6] rfl rfl (fun _ => rfl) (ci := 0) (q0 := 0) rfl rfl rfl rfl rfl hl.1 (Nat.le_of_ble_eq_true rfl) d_SF_poke_61 ⟨Nat.zero_le _, Nat.zero_le _⟩ (fun u_10 H locs hu_10 hP hD hS => ?_)
          have hP : va_P D classes (sf_w q cI cZ fl sl u_10 np nt cp cc cb ch cm mp mc mb mh mm us ta tp tl cu bl pf sh) H := hP
          have hD : va_D A (sf_w q cI cZ fl sl u_10 np nt cp cc cb ch cm mp mc mb mh mm us ta tp tl cu bl pf sh) := hD
          refine lv_aload_n hx hb d_SF_poke_64 rfl (lv_at hl 1 rfl) ?_
          refine lv_iconst (v := 1) hx hb d_SF_poke_65 (by decide) ?_
          refine va_put (D := D) (ci := 2) (v := .int 1) (ty := .boolean) (C := R_SF) (T := F_SF) (N := 15) hx hb hts i_SF t_SF t_SF_ok n_SF hown hK hP hD hS 0 rfl rfl 14 (by decide) (hts _ wd_123) (fun _ h9 => h9) rfl (by decide +kernel) (sf_bp1).1 (sf_bp1).2 (Nat.le_of_ble_eq_true rfl) d_SF_poke_66 (fun H locs hP hD hS => ?_)
          have hP : va_P D classes (sf_w q cI cZ fl sl u_10 np nt cp cc cb ch cm mp mc mb mh mm us ta tp tl cu bl pf 1) H := hP
          have hD : va_D A (sf_w q cI cZ fl sl u_10 np nt cp cc cb ch cm mp mc mb mh mm us ta tp tl cu bl pf 1) := hD
          rw [hQ]
          exact sf_xvret (0, fl, sl, u_10, 1) hx hb hr hlk hS rfl rfl (by simp only [f_SF_poke, ← hu_1, ← hu_9, ← hu_10, eq_false c_2, eq_false c_3, eq_true c_4, eq_false hw0, eq_false hw1, ↓reduceIte]) hP d_SF_poke_69
      · rw [hQ]
        exact sf_xthrow (text := "a mask is 1 to 255") (u := (3, fl, sl, tb, sh)) hx hb hst hml hown hts hE hex xk_55_59 xs_207 hlk hS (show ¬ (3 : Int32) = 0 by decide) (show _ = sf_en 3 by decide) (by simp only [f_SF_poke, ← hu_1, eq_false c_2, eq_false c_3, eq_false c_4, ↓reduceIte]) hP hl.1 (by rw [hR]; exact ⟨Nat.le_of_ble_eq_true rfl, Nat.le_of_ble_eq_true rfl, Nat.le_refl _, Nat.le_refl _⟩) d_SF_poke_31 d_SF_poke_34 d_SF_poke_35 d_SF_poke_37 d_SF_poke_40
  · rw [hQ]
    exact sf_xthrow (text := "no such byte") (u := (1, fl, sl, tb, sh)) hx hb hst hml hown hts hE hex xk_78_82 xs_197 hlk hS (show ¬ (1 : Int32) = 0 by decide) (show _ = sf_en 1 by decide) (by simp only [f_SF_poke, ← hu_1, eq_true c_2, ↓reduceIte]) hP hl.1 (by rw [hR]; exact ⟨Nat.le_of_ble_eq_true rfl, Nat.le_of_ble_eq_true rfl, Nat.le_refl _, Nat.le_refl _⟩) d_SF_poke_9 d_SF_poke_12 d_SF_poke_13 d_SF_poke_15 d_SF_poke_18
def f_SF_move_l38 (fl : Nat → Int32) (mo : Int32) : Nat → Nat → Int32 → (Nat → Int32) → (Nat → Int32) → (Nat → Int32) → (Nat → Int32) → (Nat → Int32) → Int32 → Int32 → Int32 → Int32 → (Nat → Int32) → (Nat → Int32) → Int32 → Int32 → Int32 → Int32 → (Nat → Int32) → Int32 → Int32 → Int32 → Int32 → (Int32 × Int32 × (Nat → Int32) × (Nat → Int32) × (Nat → Int32) × (Nat → Int32) × (Nat → Int32) × Int32 × Int32 × Int32 × Int32 × (Nat → Int32) × (Nat → Int32) × Int32 × Int32 × Int32 × Int32 × (Nat → Int32) × Int32 × Int32 × Int32 × Int32)
  | 0, _, _, _, _, _, _, _, _, _, _, _, _, _, _, _, _, _, _, _, _, _, _ => (0, 0, (fun _ => 0), (fun _ => 0), (fun _ => 0), (fun _ => 0), (fun _ => 0), 0, 0, 0, 0, (fun _ => 0), (fun _ => 0), 0, 0, 0, 0, (fun _ => 0), 0, 0, 0, 0)
  | fu + 1, k, vmo, xsl, xtb, xnp, xnt, xcp, xcc, xcb, xch, xcm, xus, xmp, xmc, xmb, xmh, xmm, xta, xcu, xbl, xpf, xsh =>
    if 12 ≤ (nI k) then
      (0, vmo, xsl, xtb, xnp, xnt, xcp, xcc, xcb, xch, xcm, xus, xmp, xmc, xmb, xmh, xmm, xta, xcu, xbl, xpf, xsh)
    else
      if (f_SF_followToMove fl xsl xtb xcp xcc xcb xch xcm (nI k) mo).1 = 0 then
        f_SF_move_l38 fl mo fu (k + 1) vmo xsl xtb xnp xnt (f_SF_followToMove fl xsl xtb xcp xcc xcb xch xcm (nI k) mo).2.1 (f_SF_followToMove fl xsl xtb xcp xcc xcb xch xcm (nI k) mo).2.2.1 (f_SF_followToMove fl xsl xtb xcp xcc xcb xch xcm (nI k) mo).2.2.2.1 (f_SF_followToMove fl xsl xtb xcp xcc xcb xch xcm (nI k) mo).2.2.2.2.1 (f_SF_followToMove fl xsl xtb xcp xcc xcb xch xcm (nI k) mo).2.2.2.2.2 xus xmp xmc xmb xmh xmm xta xcu xbl xpf xsh
      else
        if (f_SF_takePlaces_1 xsl xtb xmp xmc xmb xmh xmm xus xta (f_SF_followToMove fl xsl xtb xcp xcc xcb xch xcm (nI k) mo).2.2.1).1 = 0 then
          (4, 0, xsl, xtb, xnp, xnt, (f_SF_followToMove fl xsl xtb xcp xcc xcb xch xcm (nI k) mo).2.1, (f_SF_followToMove fl xsl xtb xcp xcc xcb xch xcm (nI k) mo).2.2.1, (f_SF_followToMove fl xsl xtb xcp xcc xcb xch xcm (nI k) mo).2.2.2.1, (f_SF_followToMove fl xsl xtb xcp xcc xcb xch xcm (nI k) mo).2.2.2.2.1, (f_SF_followToMove fl xsl xtb xcp xcc xcb xch xcm (nI k) mo).2.2.2.2.2, (f_SF_takePlaces_1 xsl xtb xmp xmc xmb xmh xmm xus xta (f_SF_followToMove fl xsl xtb xcp xcc xcb xch xcm (nI k) mo).2.2.1).2.1, (f_SF_takePlaces_1 xsl xtb xmp xmc xmb xmh xmm xus xta (f_SF_followToMove fl xsl xtb xcp xcc xcb xch xcm (nI k) mo).2.2.1).2.2.1, (f_SF_takePlaces_1 xsl xtb xmp xmc xmb xmh xmm xus xta (f_SF_followToMove fl xsl xtb xcp xcc xcb xch xcm (nI k) mo).2.2.1).2.2.2.1, (f_SF_takePlaces_1 xsl xtb xmp xmc xmb xmh xmm xus xta (f_SF_followToMove fl xsl xtb xcp xcc xcb xch xcm (nI k) mo).2.2.1).2.2.2.2.1, (f_SF_takePlaces_1 xsl xtb xmp xmc xmb xmh xmm xus xta (f_SF_followToMove fl xsl xtb xcp xcc xcb xch xcm (nI k) mo).2.2.1).2.2.2.2.2.1, (f_SF_takePlaces_1 xsl xtb xmp xmc xmb xmh xmm xus xta (f_SF_followToMove fl xsl xtb xcp xcc xcb xch xcm (nI k) mo).2.2.1).2.2.2.2.2.2.1, (f_SF_takePlaces_1 xsl xtb xmp xmc xmb xmh xmm xus xta (f_SF_followToMove fl xsl xtb xcp xcc xcb xch xcm (nI k) mo).2.2.1).2.2.2.2.2.2.2, xcu, xbl, xpf, xsh)
        else
          if (f_SF_moveFollowed fl xsl xtb xnp xnt (f_SF_followToMove fl xsl xtb xcp xcc xcb xch xcm (nI k) mo).2.1 (f_SF_followToMove fl xsl xtb xcp xcc xcb xch xcm (nI k) mo).2.2.1 (f_SF_takePlaces_1 xsl xtb xmp xmc xmb xmh xmm xus xta (f_SF_followToMove fl xsl xtb xcp xcc xcb xch xcm (nI k) mo).2.2.1).2.2.2.2.2.2.2 xcu xsh (nI k)).1 = 0 then
            (0, (-1), (f_SF_moveFollowed fl xsl xtb xnp xnt (f_SF_followToMove fl xsl xtb xcp xcc xcb xch xcm (nI k) mo).2.1 (f_SF_followToMove fl xsl xtb xcp xcc xcb xch xcm (nI k) mo).2.2.1 (f_SF_takePlaces_1 xsl xtb xmp xmc xmb xmh xmm xus xta (f_SF_followToMove fl xsl xtb xcp xcc xcb xch xcm (nI k) mo).2.2.1).2.2.2.2.2.2.2 xcu xsh (nI k)).2.1, (f_SF_moveFollowed fl xsl xtb xnp xnt (f_SF_followToMove fl xsl xtb xcp xcc xcb xch xcm (nI k) mo).2.1 (f_SF_followToMove fl xsl xtb xcp xcc xcb xch xcm (nI k) mo).2.2.1 (f_SF_takePlaces_1 xsl xtb xmp xmc xmb xmh xmm xus xta (f_SF_followToMove fl xsl xtb xcp xcc xcb xch xcm (nI k) mo).2.2.1).2.2.2.2.2.2.2 xcu xsh (nI k)).2.2.1, (f_SF_moveFollowed fl xsl xtb xnp xnt (f_SF_followToMove fl xsl xtb xcp xcc xcb xch xcm (nI k) mo).2.1 (f_SF_followToMove fl xsl xtb xcp xcc xcb xch xcm (nI k) mo).2.2.1 (f_SF_takePlaces_1 xsl xtb xmp xmc xmb xmh xmm xus xta (f_SF_followToMove fl xsl xtb xcp xcc xcb xch xcm (nI k) mo).2.2.1).2.2.2.2.2.2.2 xcu xsh (nI k)).2.2.2.1, (f_SF_moveFollowed fl xsl xtb xnp xnt (f_SF_followToMove fl xsl xtb xcp xcc xcb xch xcm (nI k) mo).2.1 (f_SF_followToMove fl xsl xtb xcp xcc xcb xch xcm (nI k) mo).2.2.1 (f_SF_takePlaces_1 xsl xtb xmp xmc xmb xmh xmm xus xta (f_SF_followToMove fl xsl xtb xcp xcc xcb xch xcm (nI k) mo).2.2.1).2.2.2.2.2.2.2 xcu xsh (nI k)).2.2.2.2.1, (f_SF_followToMove fl xsl xtb xcp xcc xcb xch xcm (nI k) mo).2.1, (f_SF_followToMove fl xsl xtb xcp xcc xcb xch xcm (nI k) mo).2.2.1, (f_SF_followToMove fl xsl xtb xcp xcc xcb xch xcm (nI k) mo).2.2.2.1, (f_SF_followToMove fl xsl xtb xcp xcc xcb xch xcm (nI k) mo).2.2.2.2.1, (f_SF_followToMove fl xsl xtb xcp xcc xcb xch xcm (nI k) mo).2.2.2.2.2, (f_SF_takePlaces_1 xsl xtb xmp xmc xmb xmh xmm xus xta (f_SF_followToMove fl xsl xtb xcp xcc xcb xch xcm (nI k) mo).2.2.1).2.1, (f_SF_takePlaces_1 xsl xtb xmp xmc xmb xmh xmm xus xta (f_SF_followToMove fl xsl xtb xcp xcc xcb xch xcm (nI k) mo).2.2.1).2.2.1, (f_SF_takePlaces_1 xsl xtb xmp xmc xmb xmh xmm xus xta (f_SF_followToMove fl xsl xtb xcp xcc xcb xch xcm (nI k) mo).2.2.1).2.2.2.1, (f_SF_takePlaces_1 xsl xtb xmp xmc xmb xmh xmm xus xta (f_SF_followToMove fl xsl xtb xcp xcc xcb xch xcm (nI k) mo).2.2.1).2.2.2.2.1, (f_SF_takePlaces_1 xsl xtb xmp xmc xmb xmh xmm xus xta (f_SF_followToMove fl xsl xtb xcp xcc xcb xch xcm (nI k) mo).2.2.1).2.2.2.2.2.1, (f_SF_takePlaces_1 xsl xtb xmp xmc xmb xmh xmm xus xta (f_SF_followToMove fl xsl xtb xcp xcc xcb xch xcm (nI k) mo).2.2.1).2.2.2.2.2.2.1, (f_SF_takePlaces_1 xsl xtb xmp xmc xmb xmh xmm xus xta (f_SF_followToMove fl xsl xtb xcp xcc xcb xch xcm (nI k) mo).2.2.1).2.2.2.2.2.2.2, (f_SF_moveFollowed fl xsl xtb xnp xnt (f_SF_followToMove fl xsl xtb xcp xcc xcb xch xcm (nI k) mo).2.1 (f_SF_followToMove fl xsl xtb xcp xcc xcb xch xcm (nI k) mo).2.2.1 (f_SF_takePlaces_1 xsl xtb xmp xmc xmb xmh xmm xus xta (f_SF_followToMove fl xsl xtb xcp xcc xcb xch xcm (nI k) mo).2.2.1).2.2.2.2.2.2.2 xcu xsh (nI k)).2.2.2.2.2.1, (f_SF_moveFollowed fl xsl xtb xnp xnt (f_SF_followToMove fl xsl xtb xcp xcc xcb xch xcm (nI k) mo).2.1 (f_SF_followToMove fl xsl xtb xcp xcc xcb xch xcm (nI k) mo).2.2.1 (f_SF_takePlaces_1 xsl xtb xmp xmc xmb xmh xmm xus xta (f_SF_followToMove fl xsl xtb xcp xcc xcb xch xcm (nI k) mo).2.2.1).2.2.2.2.2.2.2 xcu xsh (nI k)).2.2.2.2.2.2.1, (f_SF_moveFollowed fl xsl xtb xnp xnt (f_SF_followToMove fl xsl xtb xcp xcc xcb xch xcm (nI k) mo).2.1 (f_SF_followToMove fl xsl xtb xcp xcc xcb xch xcm (nI k) mo).2.2.1 (f_SF_takePlaces_1 xsl xtb xmp xmc xmb xmh xmm xus xta (f_SF_followToMove fl xsl xtb xcp xcc xcb xch xcm (nI k) mo).2.2.1).2.2.2.2.2.2.2 xcu xsh (nI k)).2.2.2.2.2.2.2.1, (f_SF_moveFollowed fl xsl xtb xnp xnt (f_SF_followToMove fl xsl xtb xcp xcc xcb xch xcm (nI k) mo).2.1 (f_SF_followToMove fl xsl xtb xcp xcc xcb xch xcm (nI k) mo).2.2.1 (f_SF_takePlaces_1 xsl xtb xmp xmc xmb xmh xmm xus xta (f_SF_followToMove fl xsl xtb xcp xcc xcb xch xcm (nI k) mo).2.2.1).2.2.2.2.2.2.2 xcu xsh (nI k)).2.2.2.2.2.2.2.2)
          else
            f_SF_move_l38 fl mo fu (k + 1) (vmo + 1) (f_SF_moveFollowed fl xsl xtb xnp xnt (f_SF_followToMove fl xsl xtb xcp xcc xcb xch xcm (nI k) mo).2.1 (f_SF_followToMove fl xsl xtb xcp xcc xcb xch xcm (nI k) mo).2.2.1 (f_SF_takePlaces_1 xsl xtb xmp xmc xmb xmh xmm xus xta (f_SF_followToMove fl xsl xtb xcp xcc xcb xch xcm (nI k) mo).2.2.1).2.2.2.2.2.2.2 xcu xsh (nI k)).2.1 (f_SF_moveFollowed fl xsl xtb xnp xnt (f_SF_followToMove fl xsl xtb xcp xcc xcb xch xcm (nI k) mo).2.1 (f_SF_followToMove fl xsl xtb xcp xcc xcb xch xcm (nI k) mo).2.2.1 (f_SF_takePlaces_1 xsl xtb xmp xmc xmb xmh xmm xus xta (f_SF_followToMove fl xsl xtb xcp xcc xcb xch xcm (nI k) mo).2.2.1).2.2.2.2.2.2.2 xcu xsh (nI k)).2.2.1 (f_SF_moveFollowed fl xsl xtb xnp xnt (f_SF_followToMove fl xsl xtb xcp xcc xcb xch xcm (nI k) mo).2.1 (f_SF_followToMove fl xsl xtb xcp xcc xcb xch xcm (nI k) mo).2.2.1 (f_SF_takePlaces_1 xsl xtb xmp xmc xmb xmh xmm xus xta (f_SF_followToMove fl xsl xtb xcp xcc xcb xch xcm (nI k) mo).2.2.1).2.2.2.2.2.2.2 xcu xsh (nI k)).2.2.2.1 (f_SF_moveFollowed fl xsl xtb xnp xnt (f_SF_followToMove fl xsl xtb xcp xcc xcb xch xcm (nI k) mo).2.1 (f_SF_followToMove fl xsl xtb xcp xcc xcb xch xcm (nI k) mo).2.2.1 (f_SF_takePlaces_1 xsl xtb xmp xmc xmb xmh xmm xus xta (f_SF_followToMove fl xsl xtb xcp xcc xcb xch xcm (nI k) mo).2.2.1).2.2.2.2.2.2.2 xcu xsh (nI k)).2.2.2.2.1 (f_SF_followToMove fl xsl xtb xcp xcc xcb xch xcm (nI k) mo).2.1 (f_SF_followToMove fl xsl xtb xcp xcc xcb xch xcm (nI k) mo).2.2.1 (f_SF_followToMove fl xsl xtb xcp xcc xcb xch xcm (nI k) mo).2.2.2.1 (f_SF_followToMove fl xsl xtb xcp xcc xcb xch xcm (nI k) mo).2.2.2.2.1 (f_SF_followToMove fl xsl xtb xcp xcc xcb xch xcm (nI k) mo).2.2.2.2.2 (f_SF_takePlaces_1 xsl xtb xmp xmc xmb xmh xmm xus xta (f_SF_followToMove fl xsl xtb xcp xcc xcb xch xcm (nI k) mo).2.2.1).2.1 (f_SF_takePlaces_1 xsl xtb xmp xmc xmb xmh xmm xus xta (f_SF_followToMove fl xsl xtb xcp xcc xcb xch xcm (nI k) mo).2.2.1).2.2.1 (f_SF_takePlaces_1 xsl xtb xmp xmc xmb xmh xmm xus xta (f_SF_followToMove fl xsl xtb xcp xcc xcb xch xcm (nI k) mo).2.2.1).2.2.2.1 (f_SF_takePlaces_1 xsl xtb xmp xmc xmb xmh xmm xus xta (f_SF_followToMove fl xsl xtb xcp xcc xcb xch xcm (nI k) mo).2.2.1).2.2.2.2.1 (f_SF_takePlaces_1 xsl xtb xmp xmc xmb xmh xmm xus xta (f_SF_followToMove fl xsl xtb xcp xcc xcb xch xcm (nI k) mo).2.2.1).2.2.2.2.2.1 (f_SF_takePlaces_1 xsl xtb xmp xmc xmb xmh xmm xus xta (f_SF_followToMove fl xsl xtb xcp xcc xcb xch xcm (nI k) mo).2.2.1).2.2.2.2.2.2.1 (f_SF_takePlaces_1 xsl xtb xmp xmc xmb xmh xmm xus xta (f_SF_followToMove fl xsl xtb xcp xcc xcb xch xcm (nI k) mo).2.2.1).2.2.2.2.2.2.2 (f_SF_moveFollowed fl xsl xtb xnp xnt (f_SF_followToMove fl xsl xtb xcp xcc xcb xch xcm (nI k) mo).2.1 (f_SF_followToMove fl xsl xtb xcp xcc xcb xch xcm (nI k) mo).2.2.1 (f_SF_takePlaces_1 xsl xtb xmp xmc xmb xmh xmm xus xta (f_SF_followToMove fl xsl xtb xcp xcc xcb xch xcm (nI k) mo).2.2.1).2.2.2.2.2.2.2 xcu xsh (nI k)).2.2.2.2.2.1 (f_SF_moveFollowed fl xsl xtb xnp xnt (f_SF_followToMove fl xsl xtb xcp xcc xcb xch xcm (nI k) mo).2.1 (f_SF_followToMove fl xsl xtb xcp xcc xcb xch xcm (nI k) mo).2.2.1 (f_SF_takePlaces_1 xsl xtb xmp xmc xmb xmh xmm xus xta (f_SF_followToMove fl xsl xtb xcp xcc xcb xch xcm (nI k) mo).2.2.1).2.2.2.2.2.2.2 xcu xsh (nI k)).2.2.2.2.2.2.1 (f_SF_moveFollowed fl xsl xtb xnp xnt (f_SF_followToMove fl xsl xtb xcp xcc xcb xch xcm (nI k) mo).2.1 (f_SF_followToMove fl xsl xtb xcp xcc xcb xch xcm (nI k) mo).2.2.1 (f_SF_takePlaces_1 xsl xtb xmp xmc xmb xmh xmm xus xta (f_SF_followToMove fl xsl xtb xcp xcc xcb xch xcm (nI k) mo).2.2.1).2.2.2.2.2.2.2 xcu xsh (nI k)).2.2.2.2.2.2.2.1 (f_SF_moveFollowed fl xsl xtb xnp xnt (f_SF_followToMove fl xsl xtb xcp xcc xcb xch xcm (nI k) mo).2.1 (f_SF_followToMove fl xsl xtb xcp xcc xcb xch xcm (nI k) mo).2.2.1 (f_SF_takePlaces_1 xsl xtb xmp xmc xmb xmh xmm xus xta (f_SF_followToMove fl xsl xtb xcp xcc xcb xch xcm (nI k) mo).2.2.1).2.2.2.2.2.2.2 xcu xsh (nI k)).2.2.2.2.2.2.2.2
def f_SF_move (fl : Nat → Int32) (sl : Nat → Int32) (tb : Nat → Int32) (np : Nat → Int32) (nt : Nat → Int32) (cp : Nat → Int32) (cc : Int32) (cb : Int32) (ch : Int32) (cm : Int32) (mp : Nat → Int32) (mc : Int32) (mb : Int32) (mh : Int32) (mm : Int32) (us : Nat → Int32) (ta : Nat → Int32) (cu : Int32) (bl : Int32) (pf : Int32) (sh : Int32) (mo : Int32) : (Int32 × Int32 × (Nat → Int32) × (Nat → Int32) × (Nat → Int32) × (Nat → Int32) × (Nat → Int32) × Int32 × Int32 × Int32 × Int32 × (Nat → Int32) × (Nat → Int32) × Int32 × Int32 × Int32 × Int32 × (Nat → Int32) × Int32 × Int32 × Int32 × Int32) :=
  if sh = 0 then
    if (f_SF_isMonth mo) = 0 then
      (3, 0, sl, tb, np, nt, cp, cc, cb, ch, cm, us, mp, mc, mb, mh, mm, ta, cu, bl, pf, sh)
    else
      f_SF_move_l38 fl mo (12 + 1) 0 0 sl tb np nt cp cc cb ch cm us mp mc mb mh mm ta cu bl pf sh
  else
    (2, 0, sl, tb, np, nt, cp, cc, cb, ch, cm, us, mp, mc, mb, mh, mm, ta, cu, bl, pf, sh)
set_option maxHeartbeats 1000000 in
set_option maxRecDepth 100000 in
/-- move -/
theorem c_SF_move (l : Launch) (D : va_G) (cI cZ cJ : ClassId) (hst : l.stackTraces = false) (q : Nat → Nat) (fl : Nat → Int32) (sl : Nat → Int32) (tb : Nat → Int32) (np : Nat → Int32) (nt : Nat → Int32) (cp : Nat → Int32) (cc : Int32) (cb : Int32) (ch : Int32) (cm : Int32) (mp : Nat → Int32) (mc : Int32) (mb : Int32) (mh : Int32) (mm : Int32) (us : Nat → Int32) (ta : Nat → Int32) (tp : Nat → Int32) (tl : Int32) (cu : Int32) (bl : Int32) (pf : Int32) (sh : Int32) (mo : Int32) : sf_XM (S := (Int32 × Int32 × (Nat → Int32) × (Nat → Int32) × (Nat → Int32) × (Nat → Int32) × (Nat → Int32) × Int32 × Int32 × Int32 × Int32 × (Nat → Int32) × (Nat → Int32) × Int32 × Int32 × Int32 × Int32 × (Nat → Int32) × Int32 × Int32 × Int32 × Int32)) l D classes (sf_tys cI cZ cJ) y_SF_move (sf_ws y_SF_move b_SF_move 4 (some .int)) 6 145 [.ref (q 0), .int mo] (sf_w q cI cZ fl sl tb np nt cp cc cb ch cm mp mc mb mh mm us ta tp tl cu bl pf sh) (fun r => r.1) (fun r => some (.int r.2.1)) (fun r => r = f_SF_move fl sl tb np nt cp cc cb ch cm mp mc mb mh mm us ta cu bl pf sh mo) (fun r => (sf_w q cI cZ fl r.2.2.1 r.2.2.2.1 r.2.2.2.2.1 r.2.2.2.2.2.1 r.2.2.2.2.2.2.1 r.2.2.2.2.2.2.2.1 r.2.2.2.2.2.2.2.2.1 r.2.2.2.2.2.2.2.2.2.1 r.2.2.2.2.2.2.2.2.2.2.1 r.2.2.2.2.2.2.2.2.2.2.2.2.1 r.2.2.2.2.2.2.2.2.2.2.2.2.2.1 r.2.2.2.2.2.2.2.2.2.2.2.2.2.2.1 r.2.2.2.2.2.2.2.2.2.2.2.2.2.2.2.1 r.2.2.2.2.2.2.2.2.2.2.2.2.2.2.2.2.1 r.2.2.2.2.2.2.2.2.2.2.2.1 r.2.2.2.2.2.2.2.2.2.2.2.2.2.2.2.2.2.1 tp tl r.2.2.2.2.2.2.2.2.2.2.2.2.2.2.2.2.2.2.1 r.2.2.2.2.2.2.2.2.2.2.2.2.2.2.2.2.2.2.2.1 r.2.2.2.2.2.2.2.2.2.2.2.2.2.2.2.2.2.2.2.2.1 r.2.2.2.2.2.2.2.2.2.2.2.2.2.2.2.2.2.2.2.2.2)) := by
  refine sf_xofW (S := (Int32 × Int32 × (Nat → Int32) × (Nat → Int32) × (Nat → Int32) × (Nat → Int32) × (Nat → Int32) × Int32 × Int32 × Int32 × Int32 × (Nat → Int32) × (Nat → Int32) × Int32 × Int32 × Int32 × Int32 × (Nat → Int32) × Int32 × Int32 × Int32 × Int32)) (by decide) (Nat.le_of_ble_eq_true rfl) ?_
  intro p e s m below meth c A ls R args Q hR hArgs hQ hC0 hr hex hE hK hP hD hl
  obtain ⟨hx, hb, hml, hown, hts, hA, hlk⟩ := hC0
  have hS : va_S A s.heap s.heap [] := va_S.rf
  have hl : lv_has ls 4 [(0, .ref (q 0)), (1, .int mo)] := hl
  refine lv_aload_n hx hb d_SF_move_0 rfl (lv_at hl 0 rfl) ?_
  refine va_get (D := D) (ci := 2) (v := .int sh) (C := R_SF) (T := F_SF) (N := 15) hx hb hts i_SF hown hK hP 0 rfl rfl 14 (by decide) (hts _ wd_123) (fun _ h9 => h9) rfl d_SF_move_1 ?_
  refine lv_if_eq (tgt := 17) hx hb d_SF_move_4 (by decide) (fun c_1 => ?_) (fun c_1 => ?_)
  · refine lv_iload_n hx hb d_SF_move_17 rfl (lv_at hl 1 rfl) ?_
    refine sf_callSr (S := Int32) (rest := []) ⟨hx, hb, hml, hown, hts⟩ (c_SF_isMonth l D cI cZ cJ mo) (sf_cwS lk_SF_92 hts (fun _ h => h) (by rw [hR]; exact ⟨Nat.le_of_ble_eq_true rfl, Nat.le_of_ble_eq_true rfl⟩)) hK hP hD hS hA [] rfl rfl (fun _ => rfl) rfl rfl hl.1 (Nat.le_of_ble_eq_true rfl) d_SF_move_18 ⟨Nat.zero_le _, Nat.zero_le _⟩ (fun u_2 H locs hu_2 hP hS => ?_)
    refine lv_if_ne (tgt := 34) hx hb d_SF_move_21 (by decide) (fun c_3 => ?_) (fun c_3 => ?_)
    · refine lv_iconst (v := 0) hx hb d_SF_move_34 (by decide) ?_
      refine lv_istore_n (lv' := [(2, .int 0), (0, .ref (q 0)), (1, .int mo)]) hx hb d_SF_move_35 rfl hl (by decide) rfl (fun ls hl => ?_)
      refine lv_iconst (v := 0) hx hb d_SF_move_36 (by decide) ?_
      refine lv_istore_n (lv' := [(3, .int 0), (2, .int 0), (0, .ref (q 0)), (1, .int mo)]) hx hb d_SF_move_37 rfl hl (by decide) rfl (fun ls hl => ?_)
      have loop38 : ∀ (fu k : Nat) (vmo : Int32) (xsl : (Nat → Int32)) (xtb : (Nat → Int32)) (xnp : (Nat → Int32)) (xnt : (Nat → Int32)) (xcp : (Nat → Int32)) (xcc : Int32) (xcb : Int32) (xch : Int32) (xcm : Int32) (xus : (Nat → Int32)) (xmp : (Nat → Int32)) (xmc : Int32) (xmb : Int32) (xmh : Int32) (xmm : Int32) (xta : (Nat → Int32)) (xcu : Int32) (xbl : Int32) (xpf : Int32) (xsh : Int32), k ≤ 12 → k + fu = 12 + 1 → f_SF_move_l38 fl mo fu k vmo xsl xtb xnp xnt xcp xcc xcb xch xcm xus xmp xmc xmb xmh xmm xta xcu xbl xpf xsh = f_SF_move fl sl tb np nt cp cc cb ch cm mp mc mb mh mm us ta cu bl pf sh mo → ∀ (H : Heap) (locs : List Loc), va_P D classes (sf_w q cI cZ fl xsl xtb xnp xnt xcp xcc xcb xch xcm xmp xmc xmb xmh xmm xus xta tp tl xcu xbl xpf xsh) H → va_D A (sf_w q cI cZ fl xsl xtb xnp xnt xcp xcc xcb xch xcm xmp xmc xmb xmh xmm xus xta tp tl xcu xbl xpf xsh) → va_S A s.heap H locs → ∀ (ls : Array Slot), lv_has ls 4 [(0, .ref (q 0)), (1, .int mo), (2, .int vmo), (3, .int (nI k))] → W p l e R s m args below meth c H locs 0 0 Q (F0 m 38 ls []) := by
        intro fu
        induction fu with
        | zero =>
          intro k vmo xsl xtb xnp xnt xcp xcc xcb xch xcm xus xmp xmc xmb xmh xmm xta xcu xbl xpf xsh h1 h2
          exact absurd h2 (by omega)
        | succ fu ih38 =>
          intro k vmo xsl xtb xnp xnt xcp xcc xcb xch xcm xus xmp xmc xmb xmh xmm xta xcu xbl xpf xsh hk38 hkn38 heq38 H locs hP hD hS ls hl
          refine lv_iload_n hx hb d_SF_move_38 rfl (lv_at hl 3 rfl) ?_
          refine lv_bipush (v := 12) hx hb d_SF_move_39 (by decide) ?_
          refine lv_icmp_ge (tgt := 100) hx hb d_SF_move_41 (by decide) (fun c_4 => ?_) (fun c_4 => ?_)
          · refine lv_iload_n hx hb d_SF_move_100 rfl (lv_at hl 2 rfl) ?_
            rw [hQ]
            exact sf_xiret (0, vmo, xsl, xtb, xnp, xnt, xcp, xcc, xcb, xch, xcm, xus, xmp, xmc, xmb, xmh, xmm, xta, xcu, xbl, xpf, xsh) hx hb hr hlk hS rfl rfl rfl (by rw [← heq38]; simp only [f_SF_move_l38, ← hu_2, eq_true c_4, ↓reduceIte]) hP d_SF_move_101
          · have hlt : k < 12 := sf_lt_of (N := 12) (by omega) (by omega) c_4
            refine lv_aload_n hx hb d_SF_move_44 rfl (lv_at hl 0 rfl) ?_
            refine lv_iload_n hx hb d_SF_move_45 rfl (lv_at hl 3 rfl) ?_
            refine lv_iload_n hx hb d_SF_move_46 rfl (lv_at hl 1 rfl) ?_
            refine sf_callVw (S := (Int32 × (Nat → Int32) × Int32 × Int32 × Int32 × Int32)) (rest := []) ⟨hx, hb, hml, hown, hts⟩ (c_SF_followToMove l D cI cZ cJ q fl xsl xtb xnp xnt xcp xcc xcb xch xcm xmp xmc xmb xmh xmm xus xta tp tl xcu xbl xpf xsh (nI k) mo) (sf_cwV lk_SF_132 hts (fun _ h => h) (by rw [hR]; exact ⟨Nat.le_of_ble_eq_true rfl, Nat.le_of_ble_eq_true rfl⟩)) hK hP hD hS hA (fun _ => by simp only [sf_w_fst]) (ci := 2) (q0 := 0) rfl rfl rfl rfl rfl hl.1 (Nat.le_of_ble_eq_true rfl) d_SF_move_47 ⟨Nat.zero_le _, Nat.zero_le _⟩ (fun u_5 H locs hu_5 hP hD hS => ?_)
            have hP : va_P D classes (sf_w q cI cZ fl xsl xtb xnp xnt u_5.2.1 u_5.2.2.1 u_5.2.2.2.1 u_5.2.2.2.2.1 u_5.2.2.2.2.2 xmp xmc xmb xmh xmm xus xta tp tl xcu xbl xpf xsh) H := hP
            have hD : va_D A (sf_w q cI cZ fl xsl xtb xnp xnt u_5.2.1 u_5.2.2.1 u_5.2.2.2.1 u_5.2.2.2.2.1 u_5.2.2.2.2.2 xmp xmc xmb xmh xmm xus xta tp tl xcu xbl xpf xsh) := hD
            refine lv_if_ne (tgt := 56) hx hb d_SF_move_50 (by decide) (fun c_6 => ?_) (fun c_6 => ?_)
            · refine lv_aload_n hx hb d_SF_move_56 rfl (lv_at hl 0 rfl) ?_
              refine lv_iconst (v := 1) hx hb d_SF_move_57 (by decide) ?_
              refine lv_aload_n hx hb d_SF_move_58 rfl (lv_at hl 0 rfl) ?_
              refine va_get (D := D) (ci := 2) (v := .ref (q 11)) (C := R_SF) (T := F_SF) (N := 15) hx hb hts i_SF hown hK hP 0 rfl rfl 5 (by decide) (hts _ wd_114) (fun _ h9 => h9) rfl d_SF_move_59 ?_
              refine va_get (D := D) (ci := 1) (v := .int u_5.2.2.1) (C := R_Ch) (T := F_Ch) (N := 5) hx hb hts i_Ch hown hK hP 11 rfl rfl 1 (by decide) (hts _ wd_94) (fun _ h9 => h9) rfl d_SF_move_62 ?_
              refine sf_callVw (S := (Int32 × (Nat → Int32) × (Nat → Int32) × Int32 × Int32 × Int32 × Int32 × (Nat → Int32))) (rest := []) ⟨hx, hb, hml, hown, hts⟩ (c_SF_takePlaces_1 l D cI cZ cJ q fl xsl xtb xnp xnt u_5.2.1 u_5.2.2.1 u_5.2.2.2.1 u_5.2.2.2.2.1 u_5.2.2.2.2.2 xmp xmc xmb xmh xmm xus xta tp tl xcu xbl xpf xsh u_5.2.2.1) (sf_cwV lk_SF_97 hts (fun _ h => h) (by rw [hR]; exact ⟨Nat.le_of_ble_eq_true rfl, Nat.le_of_ble_eq_true rfl⟩)) hK hP hD hS hA (fun _ => by simp only [sf_w_fst]) (ci := 2) (q0 := 0) rfl rfl rfl rfl rfl hl.1 (Nat.le_of_ble_eq_true rfl) d_SF_move_65 ⟨Nat.zero_le _, Nat.zero_le _⟩ (fun u_7 H locs hu_7 hP hD hS => ?_)
              have hP : va_P D classes (sf_w q cI cZ fl xsl xtb xnp xnt u_5.2.1 u_5.2.2.1 u_5.2.2.2.1 u_5.2.2.2.2.1 u_5.2.2.2.2.2 u_7.2.2.1 u_7.2.2.2.1 u_7.2.2.2.2.1 u_7.2.2.2.2.2.1 u_7.2.2.2.2.2.2.1 u_7.2.1 u_7.2.2.2.2.2.2.2 tp tl xcu xbl xpf xsh) H := hP
              have hD : va_D A (sf_w q cI cZ fl xsl xtb xnp xnt u_5.2.1 u_5.2.2.1 u_5.2.2.2.1 u_5.2.2.2.2.1 u_5.2.2.2.2.2 u_7.2.2.1 u_7.2.2.2.1 u_7.2.2.2.2.1 u_7.2.2.2.2.2.1 u_7.2.2.2.2.2.2.1 u_7.2.1 u_7.2.2.2.2.2.2.2 tp tl xcu xbl xpf xsh) := hD
              refine lv_if_ne (tgt := 81) hx hb d_SF_move_68 (by decide) (fun c_8 => ?_) (fun c_8 => ?_)
              · refine lv_aload_n hx hb d_SF_move_81 rfl (lv_at hl 0 rfl) ?_
                refine lv_iload_n hx hb d_SF_move_82 rfl (lv_at hl 3 rfl) ?_
                refine sf_callVw (S := (Int32 × (Nat → Int32) × (Nat → Int32) × (Nat → Int32) × (Nat → Int32) × Int32 × Int32 × Int32 × Int32)) (rest := []) ⟨hx, hb, hml, hown, hts⟩ (c_SF_moveFollowed l D cI cZ cJ q fl xsl xtb xnp xnt u_5.2.1 u_5.2.2.1 u_5.2.2.2.1 u_5.2.2.2.2.1 u_5.2.2.2.2.2 u_7.2.2.1 u_7.2.2.2.1 u_7.2.2.2.2.1 u_7.2.2.2.2.2.1 u_7.2.2.2.2.2.2.1 u_7.2.1 u_7.2.2.2.2.2.2.2 tp tl xcu xbl xpf xsh (nI k)) (sf_cwV lk_SF_141 hts (fun _ h => h) (by rw [hR]; exact ⟨Nat.le_of_ble_eq_true rfl, Nat.le_of_ble_eq_true rfl⟩)) hK hP hD hS hA (fun _ => by simp only [sf_w_fst]) (ci := 2) (q0 := 0) rfl rfl rfl rfl rfl hl.1 (Nat.le_of_ble_eq_true rfl) d_SF_move_83 ⟨Nat.zero_le _, Nat.zero_le _⟩ (fun u_9 H locs hu_9 hP hD hS => ?_)
                have hP : va_P D classes (sf_w q cI cZ fl u_9.2.1 u_9.2.2.1 u_9.2.2.2.1 u_9.2.2.2.2.1 u_5.2.1 u_5.2.2.1 u_5.2.2.2.1 u_5.2.2.2.2.1 u_5.2.2.2.2.2 u_7.2.2.1 u_7.2.2.2.1 u_7.2.2.2.2.1 u_7.2.2.2.2.2.1 u_7.2.2.2.2.2.2.1 u_7.2.1 u_7.2.2.2.2.2.2.2 tp tl u_9.2.2.2.2.2.1 u_9.2.2.2.2.2.2.1 u_9.2.2.2.2.2.2.2.1 u_9.2.2.2.2.2.2.2.2) H := hP
                have hD : va_D A (sf_w q cI cZ fl u_9.2.1 u_9.2.2.1 u_9.2.2.2.1 u_9.2.2.2.2.1 u_5.2.1 u_5.2.2.1 u_5.2.2.2.1 u_5.2.2.2.2.1 u_5.2.2.2.2.2 u_7.2.2.1 u_7.2.2.2.1 u_7.2.2.2.2.1 u_7.2.2.2.2.2.1 u_7.2.2.2.2.2.2.1 u_7.2.1 u_7.2.2.2.2.2.2.2 tp tl u_9.2.2.2.2.2.1 u_9.2.2.2.2.2.2.1 u_9.2.2.2.2.2.2.2.1 u_9.2.2.2.2.2.2.2.2) := hD
                refine lv_if_ne (tgt := 91) hx hb d_SF_move_86 (by decide) (fun c_10 => ?_) (fun c_10 => ?_)
                · refine lv_iinc (v := (vmo + 1)) (lv' := [(2, .int (vmo + 1)), (0, .ref (q 0)), (1, .int mo), (3, .int (nI k))]) hx hb d_SF_move_91 hl (k := 2) rfl rfl (by decide) rfl (fun ls hl => ?_)
                  refine lv_iinc (v := (nI (k + 1))) (lv' := [(3, .int (nI (k + 1))), (2, .int (vmo + 1)), (0, .ref (q 0)), (1, .int mo)]) hx hb d_SF_move_94 hl (k := 3) rfl (nI_1 k) (by decide) rfl (fun ls hl => ?_)
                  refine lv_goto (tgt := 38) hx hb d_SF_move_97 (by decide) ?_
                  exact ih38 (k + 1) (vmo + 1) u_9.2.1 u_9.2.2.1 u_9.2.2.2.1 u_9.2.2.2.2.1 u_5.2.1 u_5.2.2.1 u_5.2.2.2.1 u_5.2.2.2.2.1 u_5.2.2.2.2.2 u_7.2.1 u_7.2.2.1 u_7.2.2.2.1 u_7.2.2.2.2.1 u_7.2.2.2.2.2.1 u_7.2.2.2.2.2.2.1 u_7.2.2.2.2.2.2.2 u_9.2.2.2.2.2.1 u_9.2.2.2.2.2.2.1 u_9.2.2.2.2.2.2.2.1 u_9.2.2.2.2.2.2.2.2 (by omega) (by omega) (by rw [← heq38]; simp only [f_SF_move_l38, ← hu_2, ← hu_5, ← hu_7, ← hu_9, eq_false c_4, eq_false c_6, eq_false c_8, eq_false c_10, ↓reduceIte]) _ _ hP hD hS ls (lv_sub hl [2, 3, 1, 0] rfl)
                · refine lv_iconst (v := (-1)) hx hb d_SF_move_89 (by decide) ?_
                  rw [hQ]
                  exact sf_xiret (0, (-1), u_9.2.1, u_9.2.2.1, u_9.2.2.2.1, u_9.2.2.2.2.1, u_5.2.1, u_5.2.2.1, u_5.2.2.2.1, u_5.2.2.2.2.1, u_5.2.2.2.2.2, u_7.2.1, u_7.2.2.1, u_7.2.2.2.1, u_7.2.2.2.2.1, u_7.2.2.2.2.2.1, u_7.2.2.2.2.2.2.1, u_7.2.2.2.2.2.2.2, u_9.2.2.2.2.2.1, u_9.2.2.2.2.2.2.1, u_9.2.2.2.2.2.2.2.1, u_9.2.2.2.2.2.2.2.2) hx hb hr hlk hS rfl rfl rfl (by rw [← heq38]; simp only [f_SF_move_l38, ← hu_2, ← hu_5, ← hu_7, ← hu_9, eq_false c_4, eq_false c_6, eq_false c_8, eq_true c_10, ↓reduceIte]) hP d_SF_move_90
              · rw [hQ]
                exact sf_xthrow (text := "no room in the slow file") (u := (4, 0, xsl, xtb, xnp, xnt, u_5.2.1, u_5.2.2.1, u_5.2.2.2.1, u_5.2.2.2.2.1, u_5.2.2.2.2.2, u_7.2.1, u_7.2.2.1, u_7.2.2.2.1, u_7.2.2.2.2.1, u_7.2.2.2.2.2.1, u_7.2.2.2.2.2.2.1, u_7.2.2.2.2.2.2.2, xcu, xbl, xpf, xsh)) hx hb hst hml hown hts hE hex xk_65_69 xs_139 hlk hS (show ¬ (4 : Int32) = 0 by decide) (show _ = sf_en 4 by decide) (by rw [← heq38]; simp only [f_SF_move_l38, ← hu_2, ← hu_5, ← hu_7, eq_false c_4, eq_false c_6, eq_true c_8, ↓reduceIte]) hP hl.1 (by rw [hR]; exact ⟨Nat.le_of_ble_eq_true rfl, Nat.le_of_ble_eq_true rfl, Nat.le_refl _, Nat.le_refl _⟩) d_SF_move_71 d_SF_move_74 d_SF_move_75 d_SF_move_77 d_SF_move_80
            · refine lv_goto (tgt := 94) hx hb d_SF_move_53 (by decide) ?_
              refine lv_iinc (v := (nI (k + 1))) (lv' := [(3, .int (nI (k + 1))), (0, .ref (q 0)), (1, .int mo), (2, .int vmo)]) hx hb d_SF_move_94 hl (k := 3) rfl (nI_1 k) (by decide) rfl (fun ls hl => ?_)
              refine lv_goto (tgt := 38) hx hb d_SF_move_97 (by decide) ?_
              exact ih38 (k + 1) vmo xsl xtb xnp xnt u_5.2.1 u_5.2.2.1 u_5.2.2.2.1 u_5.2.2.2.2.1 u_5.2.2.2.2.2 xus xmp xmc xmb xmh xmm xta xcu xbl xpf xsh (by omega) (by omega) (by rw [← heq38]; simp only [f_SF_move_l38, ← hu_2, ← hu_5, eq_false c_4, eq_true c_6, ↓reduceIte]) _ _ hP hD hS ls (lv_sub hl [1, 2, 3, 0] rfl)
      exact loop38 (12 + 1) 0 0 sl tb np nt cp cc cb ch cm us mp mc mb mh mm ta cu bl pf sh (by omega) (by omega) (by simp only [f_SF_move, ← hu_2, eq_true c_1, eq_false c_3, ↓reduceIte]) _ _ hP hD hS ls (lv_sub hl [2, 3, 1, 0] rfl)
    · rw [hQ]
      exact sf_xthrow (text := "no such month") (u := (3, 0, sl, tb, np, nt, cp, cc, cb, ch, cm, us, mp, mc, mb, mh, mm, ta, cu, bl, pf, sh)) hx hb hst hml hown hts hE hex xk_55_59 xs_95 hlk hS (show ¬ (3 : Int32) = 0 by decide) (show _ = sf_en 3 by decide) (by simp only [f_SF_move, ← hu_2, eq_true c_1, eq_true c_3, ↓reduceIte]) hP hl.1 (by rw [hR]; exact ⟨Nat.le_of_ble_eq_true rfl, Nat.le_of_ble_eq_true rfl, Nat.le_refl _, Nat.le_refl _⟩) d_SF_move_24 d_SF_move_27 d_SF_move_28 d_SF_move_30 d_SF_move_33
  · rw [hQ]
    exact sf_xthrow (text := "the file is shut") (u := (2, 0, sl, tb, np, nt, cp, cc, cb, ch, cm, us, mp, mc, mb, mh, mm, ta, cu, bl, pf, sh)) hx hb hst hml hown hts hE hex xk_87_91 xs_130 hlk hS (show ¬ (2 : Int32) = 0 by decide) (show _ = sf_en 2 by decide) (by simp only [f_SF_move, eq_false c_1, ↓reduceIte]) hP hl.1 (by rw [hR]; exact ⟨Nat.le_of_ble_eq_true rfl, Nat.le_of_ble_eq_true rfl, Nat.le_refl _, Nat.le_refl _⟩) d_SF_move_7 d_SF_move_10 d_SF_move_11 d_SF_move_13 d_SF_move_16
end
section
/-! feed: contracts, with the pure functions that they speak of (printed by wip/gen) -/
theorem d_SF_feed_0 : decode b_SF_feed 0 = .ok (.iload_n 3, 1) := by decide +kernel
theorem d_SF_feed_1 : decode b_SF_feed 1 = .ok (.iconst 1, 1) := by decide +kernel
theorem d_SF_feed_2 : decode b_SF_feed 2 = .ok (.if_icmp .lt 9, 3) := by decide +kernel
theorem d_SF_feed_5 : decode b_SF_feed 5 = .ok (.iload_n 3, 1) := by decide +kernel
theorem d_SF_feed_6 : decode b_SF_feed 6 = .ok (.bipush 8, 2) := by decide +kernel
theorem d_SF_feed_8 : decode b_SF_feed 8 = .ok (.if_icmp .le 13, 3) := by decide +kernel
theorem d_SF_feed_11 : decode b_SF_feed 11 = .ok (.new 55, 3) := by decide +kernel
theorem d_SF_feed_14 : decode b_SF_feed 14 = .ok (.dup, 1) := by decide +kernel
theorem d_SF_feed_15 : decode b_SF_feed 15 = .ok (.ldc 57, 2) := by decide +kernel
theorem d_SF_feed_17 : decode b_SF_feed 17 = .ok (.invokespecial 59, 3) := by decide +kernel
theorem d_SF_feed_20 : decode b_SF_feed 20 = .ok (.athrow, 1) := by decide +kernel
theorem d_SF_feed_21 : decode b_SF_feed 21 = .ok (.aload_n 0, 1) := by decide +kernel
theorem d_SF_feed_22 : decode b_SF_feed 22 = .ok (.getfield 62, 3) := by decide +kernel
theorem d_SF_feed_25 : decode b_SF_feed 25 = .ok (.iload_n 3, 1) := by decide +kernel
theorem d_SF_feed_26 : decode b_SF_feed 26 = .ok (.iadd, 1) := by decide +kernel
theorem d_SF_feed_27 : decode b_SF_feed 27 = .ok (.bipush 60, 2) := by decide +kernel
theorem d_SF_feed_29 : decode b_SF_feed 29 = .ok (.if_icmp .le 13, 3) := by decide +kernel
theorem d_SF_feed_32 : decode b_SF_feed 32 = .ok (.new 65, 3) := by decide +kernel
theorem d_SF_feed_35 : decode b_SF_feed 35 = .ok (.dup, 1) := by decide +kernel
theorem d_SF_feed_36 : decode b_SF_feed 36 = .ok (.ldc 67, 2) := by decide +kernel
theorem d_SF_feed_38 : decode b_SF_feed 38 = .ok (.invokespecial 69, 3) := by decide +kernel
theorem d_SF_feed_41 : decode b_SF_feed 41 = .ok (.athrow, 1) := by decide +kernel
theorem d_SF_feed_42 : decode b_SF_feed 42 = .ok (.iload_n 3, 1) := by decide +kernel
theorem d_SF_feed_43 : decode b_SF_feed 43 = .ok (.iconst 1, 1) := by decide +kernel
theorem d_SF_feed_44 : decode b_SF_feed 44 = .ok (.isub, 1) := by decide +kernel
theorem d_SF_feed_45 : decode b_SF_feed 45 = .ok (.istore 4, 2) := by decide +kernel
theorem d_SF_feed_47 : decode b_SF_feed 47 = .ok (.iload 4, 2) := by decide +kernel
theorem d_SF_feed_49 : decode b_SF_feed 49 = .ok (.ifCond .lt 25, 3) := by decide +kernel
theorem d_SF_feed_52 : decode b_SF_feed 52 = .ok (.aload_n 0, 1) := by decide +kernel
theorem d_SF_feed_53 : decode b_SF_feed 53 = .ok (.lload_n 1, 1) := by decide +kernel
theorem d_SF_feed_54 : decode b_SF_feed 54 = .ok (.bipush 8, 2) := by decide +kernel
theorem d_SF_feed_56 : decode b_SF_feed 56 = .ok (.iload 4, 2) := by decide +kernel
theorem d_SF_feed_58 : decode b_SF_feed 58 = .ok (.imul, 1) := by decide +kernel
theorem d_SF_feed_59 : decode b_SF_feed 59 = .ok (.lushr, 1) := by decide +kernel
theorem d_SF_feed_60 : decode b_SF_feed 60 = .ok (.l2i, 1) := by decide +kernel
theorem d_SF_feed_61 : decode b_SF_feed 61 = .ok (.sipush 255, 3) := by decide +kernel
theorem d_SF_feed_64 : decode b_SF_feed 64 = .ok (.iand, 1) := by decide +kernel
theorem d_SF_feed_65 : decode b_SF_feed 65 = .ok (.invokevirtual 70, 3) := by decide +kernel
theorem d_SF_feed_68 : decode b_SF_feed 68 = .ok (.iinc 4 (-1), 3) := by decide +kernel
theorem d_SF_feed_71 : decode b_SF_feed 71 = .ok (.goto (-24), 3) := by decide +kernel
theorem d_SF_feed_74 : decode b_SF_feed 74 = .ok (.aload_n 0, 1) := by decide +kernel
theorem d_SF_feed_75 : decode b_SF_feed 75 = .ok (.getfield 62, 3) := by decide +kernel
theorem d_SF_feed_78 : decode b_SF_feed 78 = .ok (.ireturn, 1) := by decide +kernel

theorem sf_dm0 : nI 0 + (-1) = -1 := by decide +kernel
theorem sf_im1 (x : Int32) : x + Int32.ofInt (-1) = x + (-1) := rfl
theorem sf_feed1 {x : Int32} (h : ¬ x < 1) : x - 1 = nI x.toNatClampNeg + (-1) ∧ ∃ j, x = nI (j + 1) ∧ j + 1 < 2 ^ 31 := by
  have h0 : ¬ x < 0 := fun h1 => h (by simp only [Int32.lt_iff_toInt_lt] at h1 ⊢; have e1 : (1 : Int32).toInt = 1 := by decide
                                       have e0 : (0 : Int32).toInt = 0 := by decide
                                       omega)
  obtain ⟨k, hk, rfl⟩ := nI_of h0
  cases k with
  | zero => exact absurd (show nI 0 < 1 by decide) h
  | succ j => rw [nI_clamp hk, nI_pred, pk_m1]; exact ⟨rfl, j, rfl, hk⟩
theorem sf_feed8 {x : Int32} (h : ¬ x < 1) (h8 : x ≤ 8) : x.toNatClampNeg ≤ 8 := by
  obtain ⟨-, j, rfl, hj⟩ := sf_feed1 h
  have h9 : nI (j + 1) ≤ nI 8 := h8
  rw [nI_leI hj (by omega)] at h9
  rw [nI_clamp hj]; exact h9
def f_SF_feed_l47 (by0 : Int64) : Nat → (Nat → Int32) → Int32 → (Int32 × Int32 × (Nat → Int32) × Int32)
  | 0, vt, vl =>
    (0, vl, vt, vl)
  | j + 1, vt, vl =>
    f_SF_feed_l47 by0 j (f_SF_addToTape vt vl ((((sf_lushr by0 (8 * (nI j)))).toInt32) &&& 255)).1 (f_SF_addToTape vt vl ((((sf_lushr by0 (8 * (nI j)))).toInt32) &&& 255)).2
def f_SF_feed (tp : Nat → Int32) (tl : Int32) (by0 : Int64) (nn : Int32) : (Int32 × Int32 × (Nat → Int32) × Int32) :=
  if nn < 1 then
    (3, 0, tp, tl)
  else
    if nn ≤ 8 then
      if (tl + nn) ≤ 60 then
        f_SF_feed_l47 by0 nn.toNatClampNeg tp tl
      else
        (4, 0, tp, tl)
    else
      (3, 0, tp, tl)
set_option maxHeartbeats 1000000 in
set_option maxRecDepth 100000 in
/-- feed -/
theorem c_SF_feed (l : Launch) (D : va_G) (cI cZ cJ : ClassId) (hst : l.stackTraces = false) (q : Nat → Nat) (fl : Nat → Int32) (sl : Nat → Int32) (tb : Nat → Int32) (np : Nat → Int32) (nt : Nat → Int32) (cp : Nat → Int32) (cc : Int32) (cb : Int32) (ch : Int32) (cm : Int32) (mp : Nat → Int32) (mc : Int32) (mb : Int32) (mh : Int32) (mm : Int32) (us : Nat → Int32) (ta : Nat → Int32) (tp : Nat → Int32) (tl : Int32) (cu : Int32) (bl : Int32) (pf : Int32) (sh : Int32) (by0 : Int64) (nn : Int32) : sf_XM (S := (Int32 × Int32 × (Nat → Int32) × Int32)) l D classes (sf_tys cI cZ cJ) y_SF_feed (sf_ws y_SF_feed b_SF_feed 5 (some .int)) 6 90 [.ref (q 0), .long by0, .int nn] (sf_w q cI cZ fl sl tb np nt cp cc cb ch cm mp mc mb mh mm us ta tp tl cu bl pf sh) (fun r => r.1) (fun r => some (.int r.2.1)) (fun r => r = f_SF_feed tp tl by0 nn) (fun r => (sf_w q cI cZ fl sl tb np nt cp cc cb ch cm mp mc mb mh mm us ta r.2.2.1 r.2.2.2 cu bl pf sh)) := by
  refine sf_xofW (S := (Int32 × Int32 × (Nat → Int32) × Int32)) (by decide) (Nat.le_of_ble_eq_true rfl) ?_
  intro p e s m below meth c A ls R args Q hR hArgs hQ hC0 hr hex hE hK hP hD hl
  obtain ⟨hx, hb, hml, hown, hts, hA, hlk⟩ := hC0
  have hS : va_S A s.heap s.heap [] := va_S.rf
  have hl : lv_has ls 5 [(0, .ref (q 0)), (1, .long by0), (3, .int nn)] := hl
  refine lv_iload_n hx hb d_SF_feed_0 rfl (lv_at hl 2 rfl) ?_
  refine lv_iconst (v := 1) hx hb d_SF_feed_1 (by decide) ?_
  refine lv_icmp_lt (tgt := 11) hx hb d_SF_feed_2 (by decide) (fun c_1 => ?_) (fun c_1 => ?_)
  · rw [hQ]
    exact sf_xthrow (text := "1 to 8 bytes are fed at once") (u := (3, 0, tp, tl)) hx hb hst hml hown hts hE hex xk_55_59 xs_57 hlk hS (show ¬ (3 : Int32) = 0 by decide) (show _ = sf_en 3 by decide) (by simp only [f_SF_feed, eq_true c_1, ↓reduceIte]) hP hl.1 (by rw [hR]; exact ⟨Nat.le_of_ble_eq_true rfl, Nat.le_of_ble_eq_true rfl, Nat.le_refl _, Nat.le_refl _⟩) d_SF_feed_11 d_SF_feed_14 d_SF_feed_15 d_SF_feed_17 d_SF_feed_20
  · refine lv_iload_n hx hb d_SF_feed_5 rfl (lv_at hl 2 rfl) ?_
    refine lv_bipush (v := 8) hx hb d_SF_feed_6 (by decide) ?_
    refine lv_icmp_le (tgt := 21) hx hb d_SF_feed_8 (by decide) (fun c_2 => ?_) (fun c_2 => ?_)
    · refine lv_aload_n hx hb d_SF_feed_21 rfl (lv_at hl 0 rfl) ?_
      refine va_get (D := D) (ci := 2) (v := .int tl) (C := R_SF) (T := F_SF) (N := 15) hx hb hts i_SF hown hK hP 0 rfl rfl 10 (by decide) (hts _ wd_119) (fun _ h9 => h9) rfl d_SF_feed_22 ?_
      refine lv_iload_n hx hb d_SF_feed_25 rfl (lv_at hl 2 rfl) ?_
      refine lv_iadd hx hb d_SF_feed_26 ?_
      refine lv_bipush (v := 60) hx hb d_SF_feed_27 (by decide) ?_
      refine lv_icmp_le (tgt := 42) hx hb d_SF_feed_29 (by decide) (fun c_3 => ?_) (fun c_3 => ?_)
      · refine lv_iload_n hx hb d_SF_feed_42 rfl (lv_at hl 2 rfl) ?_
        refine lv_iconst (v := 1) hx hb d_SF_feed_43 (by decide) ?_
        refine lv_isub hx hb d_SF_feed_44 ?_
        refine lv_istore (lv' := [(4, .int (nn - 1)), (0, .ref (q 0)), (1, .long by0), (3, .int nn)]) hx hb d_SF_feed_45 hl (by decide) rfl (fun ls hl => ?_)
        have loop47 : ∀ (j : Nat) (vt : (Nat → Int32)) (vl : Int32), j ≤ 8 → f_SF_feed_l47 by0 j vt vl = f_SF_feed tp tl by0 nn → ∀ (H : Heap) (locs : List Loc), va_P D classes (sf_w q cI cZ fl sl tb np nt cp cc cb ch cm mp mc mb mh mm us ta vt vl cu bl pf sh) H → va_D A (sf_w q cI cZ fl sl tb np nt cp cc cb ch cm mp mc mb mh mm us ta vt vl cu bl pf sh) → va_S A s.heap H locs → ∀ (ls : Array Slot), lv_has ls 5 [(0, .ref (q 0)), (1, .long by0), (3, .int nn), (4, .int ((nI j) + (-1)))] → W p l e R s m args below meth c H locs 0 0 Q (F0 m 47 ls []) := by
          intro j
          induction j with
          | zero =>
            intro vt vl hj heq47 H locs hP hD hS ls hl
            rw [sf_dm0] at hl
            refine lv_iload hx hb d_SF_feed_47 (lv_at hl 3 rfl) ?_
            refine lv_if_lt (tgt := 74) hx hb d_SF_feed_49 (by decide) (fun c_4 => ?_) (fun c_4 => absurd (by decide) c_4)
            refine lv_aload_n hx hb d_SF_feed_74 rfl (lv_at hl 0 rfl) ?_
            refine va_get (D := D) (ci := 2) (v := .int vl) (C := R_SF) (T := F_SF) (N := 15) hx hb hts i_SF hown hK hP 0 rfl rfl 10 (by decide) (hts _ wd_119) (fun _ h9 => h9) rfl d_SF_feed_75 ?_
            rw [hQ]
            exact sf_xiret (0, vl, vt, vl) hx hb hr hlk hS rfl rfl rfl (by rw [← heq47]; simp only [f_SF_feed_l47, ↓reduceIte]) hP d_SF_feed_78
          | succ j ih47 =>
            intro vt vl hj heq47 H locs hP hD hS ls hl
            rw [pk_m1] at hl
            refine lv_iload hx hb d_SF_feed_47 (lv_at hl 3 rfl) ?_
            refine lv_if_lt (tgt := 74) hx hb d_SF_feed_49 (by decide) (fun c_5 => absurd c_5 (nI_pos (by omega))) (fun c_5 => ?_)
            refine lv_aload_n hx hb d_SF_feed_52 rfl (lv_at hl 0 rfl) ?_
            refine lv_lload_n hx hb d_SF_feed_53 rfl (lv_at hl 1 rfl) ?_
            refine lv_bipush (v := 8) hx hb d_SF_feed_54 (by decide) ?_
            refine lv_iload hx hb d_SF_feed_56 (lv_at hl 3 rfl) ?_
            refine lv_imul hx hb d_SF_feed_58 ?_
            refine lv_lushr (v := (sf_lushr by0 (8 * (nI j)))) hx hb d_SF_feed_59 rfl ?_
            refine lv_l2i (v := ((sf_lushr by0 (8 * (nI j)))).toInt32) hx hb d_SF_feed_60 rfl ?_
            refine lv_sipush (v := 255) hx hb d_SF_feed_61 (by decide) ?_
            refine lv_iand hx hb d_SF_feed_64 ?_
            refine sf_callVw (S := ((Nat → Int32) × Int32)) (rest := []) ⟨hx, hb, hml, hown, hts⟩ (c_SF_addToTape l D cI cZ cJ q fl sl tb np nt cp cc cb ch cm mp mc mb mh mm us ta vt vl cu bl pf sh ((((sf_lushr by0 (8 * (nI j)))).toInt32) &&& 255)) (sf_cwV lk_SF_70 hts (fun _ h => h) (by rw [hR]; exact ⟨Nat.le_of_ble_eq_true rfl, Nat.le_of_ble_eq_true rfl⟩)) hK hP hD hS hA (fun _ => by simp only [sf_w_fst]) (ci := 2) (q0 := 0) rfl rfl rfl rfl rfl hl.1 (Nat.le_of_ble_eq_true rfl) d_SF_feed_65 ⟨Nat.zero_le _, Nat.zero_le _⟩ (fun u_6 H locs hu_6 hP hD hS => ?_)
            have hP : va_P D classes (sf_w q cI cZ fl sl tb np nt cp cc cb ch cm mp mc mb mh mm us ta u_6.1 u_6.2 cu bl pf sh) H := hP
            have hD : va_D A (sf_w q cI cZ fl sl tb np nt cp cc cb ch cm mp mc mb mh mm us ta u_6.1 u_6.2 cu bl pf sh) := hD
            refine lv_iinc (v := ((nI j) + (-1))) (lv' := [(4, .int ((nI j) + (-1))), (0, .ref (q 0)), (1, .long by0), (3, .int nn)]) hx hb d_SF_feed_68 hl (k := 3) rfl (sf_im1 _) (by decide) rfl (fun ls hl => ?_)
            refine lv_goto (tgt := 47) hx hb d_SF_feed_71 (by decide) ?_
            exact ih47 u_6.1 u_6.2 (by omega) (by rw [← heq47]; simp only [f_SF_feed_l47, ← hu_6, ↓reduceIte]) _ _ hP hD hS ls (lv_sub hl [1, 2, 3, 0] rfl)
        rw [(sf_feed1 c_1).1] at hl
        exact loop47 nn.toNatClampNeg tp tl (sf_feed8 c_1 c_2) (by simp only [f_SF_feed, eq_false c_1, eq_true c_2, eq_true c_3, ↓reduceIte]) _ _ hP hD hS ls (lv_sub hl [1, 2, 3, 0] rfl)
      · rw [hQ]
        exact sf_xthrow (text := "the tape holds 60 bytes") (u := (4, 0, tp, tl)) hx hb hst hml hown hts hE hex xk_65_69 xs_67 hlk hS (show ¬ (4 : Int32) = 0 by decide) (show _ = sf_en 4 by decide) (by simp only [f_SF_feed, eq_false c_1, eq_true c_2, eq_false c_3, ↓reduceIte]) hP hl.1 (by rw [hR]; exact ⟨Nat.le_of_ble_eq_true rfl, Nat.le_of_ble_eq_true rfl, Nat.le_refl _, Nat.le_refl _⟩) d_SF_feed_32 d_SF_feed_35 d_SF_feed_36 d_SF_feed_38 d_SF_feed_41
    · rw [hQ]
      exact sf_xthrow (text := "1 to 8 bytes are fed at once") (u := (3, 0, tp, tl)) hx hb hst hml hown hts hE hex xk_55_59 xs_57 hlk hS (show ¬ (3 : Int32) = 0 by decide) (show _ = sf_en 3 by decide) (by simp only [f_SF_feed, eq_false c_1, eq_false c_2, ↓reduceIte]) hP hl.1 (by rw [hR]; exact ⟨Nat.le_of_ble_eq_true rfl, Nat.le_of_ble_eq_true rfl, Nat.le_refl _, Nat.le_refl _⟩) d_SF_feed_11 d_SF_feed_14 d_SF_feed_15 d_SF_feed_17 d_SF_feed_20
end
