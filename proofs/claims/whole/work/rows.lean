section
-- ===== PART A: goes FIRST, ahead of the names: the tables' words, and 'selects' of the private methods out of them =====
/-- a private method of a class that the tables say can be made, by its rows of tables_1 -/
def lw_okq (q : MethodName × Nat) : Prop := (q.1.cls ≠ "java/lang/invoke/MethodHandle" ∧ q.1.cls ≠ "java/lang/invoke/VarHandle") ∧ Cond.instantiable q.1.cls q.2 ∈ tables_1 ∧ Cond.privateMethod q.1 ∈ tables_1 ∧ Cond.instanceMethod q.1 ∈ tables_1
theorem lw_p0 : lw_okq (⟨"LineColours$Network", "clear", "(I)V"⟩, 8) := ⟨⟨by decide +kernel, by decide +kernel⟩, List.mem_of_getElem? (i := 26) (by decide +kernel), List.mem_of_getElem? (i := 330) (by decide +kernel), List.mem_of_getElem? (i := 331) (by decide +kernel)⟩
theorem lw_p1 : lw_okq (⟨"LineColours$Colouring", "clear", "()V"⟩, 3) := ⟨⟨by decide +kernel, by decide +kernel⟩, List.mem_of_getElem? (i := 84) (by decide +kernel), List.mem_of_getElem? (i := 335) (by decide +kernel), List.mem_of_getElem? (i := 336) (by decide +kernel)⟩
theorem lw_p2 : lw_okq (⟨"LineColours$Search", "forget", "()V"⟩, 8) := ⟨⟨by decide +kernel, by decide +kernel⟩, List.mem_of_getElem? (i := 192) (by decide +kernel), List.mem_of_getElem? (i := 339) (by decide +kernel), List.mem_of_getElem? (i := 340) (by decide +kernel)⟩
theorem lw_p3 : lw_okq (⟨"LineColours$Search", "forgetAnswer", "()V"⟩, 8) := ⟨⟨by decide +kernel, by decide +kernel⟩, List.mem_of_getElem? (i := 192) (by decide +kernel), List.mem_of_getElem? (i := 343) (by decide +kernel), List.mem_of_getElem? (i := 344) (by decide +kernel)⟩
theorem lw_p4 : lw_okq (⟨"LineColours$Network", "isPost", "(I)Z"⟩, 8) := ⟨⟨by decide +kernel, by decide +kernel⟩, List.mem_of_getElem? (i := 26) (by decide +kernel), List.mem_of_getElem? (i := 351) (by decide +kernel), List.mem_of_getElem? (i := 352) (by decide +kernel)⟩
theorem lw_p5 : lw_okq (⟨"LineColours$Network", "lineBetween", "(II)I"⟩, 8) := ⟨⟨by decide +kernel, by decide +kernel⟩, List.mem_of_getElem? (i := 26) (by decide +kernel), List.mem_of_getElem? (i := 355) (by decide +kernel), List.mem_of_getElem? (i := 356) (by decide +kernel)⟩
theorem lw_p6 : lw_okq (⟨"LineColours$Network", "add", "(II)V"⟩, 8) := ⟨⟨by decide +kernel, by decide +kernel⟩, List.mem_of_getElem? (i := 26) (by decide +kernel), List.mem_of_getElem? (i := 363) (by decide +kernel), List.mem_of_getElem? (i := 364) (by decide +kernel)⟩
theorem lw_p7 : lw_okq (⟨"LineColours$Network", "allLines", "()I"⟩, 8) := ⟨⟨by decide +kernel, by decide +kernel⟩, List.mem_of_getElem? (i := 26) (by decide +kernel), List.mem_of_getElem? (i := 373) (by decide +kernel), List.mem_of_getElem? (i := 374) (by decide +kernel)⟩
theorem lw_p8 : lw_okq (⟨"LineColours$Network", "mostAtOnePost", "(I)I"⟩, 8) := ⟨⟨by decide +kernel, by decide +kernel⟩, List.mem_of_getElem? (i := 26) (by decide +kernel), List.mem_of_getElem? (i := 377) (by decide +kernel), List.mem_of_getElem? (i := 378) (by decide +kernel)⟩
theorem lw_p9 : lw_okq (⟨"LineColours$Network", "isLine", "(I)Z"⟩, 8) := ⟨⟨by decide +kernel, by decide +kernel⟩, List.mem_of_getElem? (i := 26) (by decide +kernel), List.mem_of_getElem? (i := 391) (by decide +kernel), List.mem_of_getElem? (i := 392) (by decide +kernel)⟩
theorem lw_p10 : lw_okq (⟨"LineColours$Colouring", "isColour", "(I)Z"⟩, 3) := ⟨⟨by decide +kernel, by decide +kernel⟩, List.mem_of_getElem? (i := 84) (by decide +kernel), List.mem_of_getElem? (i := 395) (by decide +kernel), List.mem_of_getElem? (i := 396) (by decide +kernel)⟩
theorem lw_p11 : lw_okq (⟨"LineColours$Colouring", "colours", "()I"⟩, 3) := ⟨⟨by decide +kernel, by decide +kernel⟩, List.mem_of_getElem? (i := 84) (by decide +kernel), List.mem_of_getElem? (i := 399) (by decide +kernel), List.mem_of_getElem? (i := 400) (by decide +kernel)⟩
theorem lw_p12 : lw_okq (⟨"LineColours$Colouring", "freeAtBoth", "(I)I"⟩, 3) := ⟨⟨by decide +kernel, by decide +kernel⟩, List.mem_of_getElem? (i := 84) (by decide +kernel), List.mem_of_getElem? (i := 403) (by decide +kernel), List.mem_of_getElem? (i := 404) (by decide +kernel)⟩
theorem lw_p13 : lw_okq (⟨"LineColours$Colouring", "freeAt", "(I)I"⟩, 3) := ⟨⟨by decide +kernel, by decide +kernel⟩, List.mem_of_getElem? (i := 84) (by decide +kernel), List.mem_of_getElem? (i := 407) (by decide +kernel), List.mem_of_getElem? (i := 408) (by decide +kernel)⟩
theorem lw_p14 : lw_okq (⟨"LineColours$Colouring", "coloursAt", "(I)I"⟩, 3) := ⟨⟨by decide +kernel, by decide +kernel⟩, List.mem_of_getElem? (i := 84) (by decide +kernel), List.mem_of_getElem? (i := 411) (by decide +kernel), List.mem_of_getElem? (i := 412) (by decide +kernel)⟩
theorem lw_p15 : lw_okq (⟨"LineColours$Colouring", "give", "(II)V"⟩, 3) := ⟨⟨by decide +kernel, by decide +kernel⟩, List.mem_of_getElem? (i := 84) (by decide +kernel), List.mem_of_getElem? (i := 415) (by decide +kernel), List.mem_of_getElem? (i := 416) (by decide +kernel)⟩
def lw_privs_1 : List (MethodName × Nat) := [(⟨"LineColours$Network", "clear", "(I)V"⟩, 8), (⟨"LineColours$Colouring", "clear", "()V"⟩, 3), (⟨"LineColours$Search", "forget", "()V"⟩, 8), (⟨"LineColours$Search", "forgetAnswer", "()V"⟩, 8), (⟨"LineColours$Network", "isPost", "(I)Z"⟩, 8), (⟨"LineColours$Network", "lineBetween", "(II)I"⟩, 8), (⟨"LineColours$Network", "add", "(II)V"⟩, 8), (⟨"LineColours$Network", "allLines", "()I"⟩, 8), (⟨"LineColours$Network", "mostAtOnePost", "(I)I"⟩, 8), (⟨"LineColours$Network", "isLine", "(I)Z"⟩, 8), (⟨"LineColours$Colouring", "isColour", "(I)Z"⟩, 3), (⟨"LineColours$Colouring", "colours", "()I"⟩, 3), (⟨"LineColours$Colouring", "freeAtBoth", "(I)I"⟩, 3), (⟨"LineColours$Colouring", "freeAt", "(I)I"⟩, 3), (⟨"LineColours$Colouring", "coloursAt", "(I)I"⟩, 3), (⟨"LineColours$Colouring", "give", "(II)V"⟩, 3)]
theorem lw_r1 : ∀ q ∈ lw_privs_1, lw_okq q := List.forall_mem_cons.mpr ⟨lw_p0, List.forall_mem_cons.mpr ⟨lw_p1, List.forall_mem_cons.mpr ⟨lw_p2, List.forall_mem_cons.mpr ⟨lw_p3, List.forall_mem_cons.mpr ⟨lw_p4, List.forall_mem_cons.mpr ⟨lw_p5, List.forall_mem_cons.mpr ⟨lw_p6, List.forall_mem_cons.mpr ⟨lw_p7, List.forall_mem_cons.mpr ⟨lw_p8, List.forall_mem_cons.mpr ⟨lw_p9, List.forall_mem_cons.mpr ⟨lw_p10, List.forall_mem_cons.mpr ⟨lw_p11, List.forall_mem_cons.mpr ⟨lw_p12, List.forall_mem_cons.mpr ⟨lw_p13, List.forall_mem_cons.mpr ⟨lw_p14, List.forall_mem_cons.mpr ⟨lw_p15, fun _ h => absurd h List.not_mem_nil⟩⟩⟩⟩⟩⟩⟩⟩⟩⟩⟩⟩⟩⟩⟩⟩
theorem lw_p16 : lw_okq (⟨"LineColours$Colouring", "strip", "(I)V"⟩, 3) := ⟨⟨by decide +kernel, by decide +kernel⟩, List.mem_of_getElem? (i := 84) (by decide +kernel), List.mem_of_getElem? (i := 419) (by decide +kernel), List.mem_of_getElem? (i := 420) (by decide +kernel)⟩
theorem lw_p17 : lw_okq (⟨"LineColours$Colouring", "areUnlike", "(II)Z"⟩, 3) := ⟨⟨by decide +kernel, by decide +kernel⟩, List.mem_of_getElem? (i := 84) (by decide +kernel), List.mem_of_getElem? (i := 432) (by decide +kernel), List.mem_of_getElem? (i := 433) (by decide +kernel)⟩
theorem lw_p18 : lw_okq (⟨"LineColours$Colouring", "chainOf", "(III)I"⟩, 3) := ⟨⟨by decide +kernel, by decide +kernel⟩, List.mem_of_getElem? (i := 84) (by decide +kernel), List.mem_of_getElem? (i := 437) (by decide +kernel), List.mem_of_getElem? (i := 438) (by decide +kernel)⟩
theorem lw_p19 : lw_okq (⟨"LineColours$Network", "joined", "(II)I"⟩, 8) := ⟨⟨by decide +kernel, by decide +kernel⟩, List.mem_of_getElem? (i := 26) (by decide +kernel), List.mem_of_getElem? (i := 441) (by decide +kernel), List.mem_of_getElem? (i := 442) (by decide +kernel)⟩
theorem lw_p20 : lw_okq (⟨"LineColours$Colouring", "flip", "(III)V"⟩, 3) := ⟨⟨by decide +kernel, by decide +kernel⟩, List.mem_of_getElem? (i := 84) (by decide +kernel), List.mem_of_getElem? (i := 445) (by decide +kernel), List.mem_of_getElem? (i := 446) (by decide +kernel)⟩
theorem lw_p21 : lw_okq (⟨"LineColours$Grower", "raise", "(I)V"⟩, 5) := ⟨⟨by decide +kernel, by decide +kernel⟩, List.mem_of_getElem? (i := 130) (by decide +kernel), List.mem_of_getElem? (i := 458) (by decide +kernel), List.mem_of_getElem? (i := 459) (by decide +kernel)⟩
theorem lw_p22 : lw_okq (⟨"LineColours$Fan", "lay", "(II)V"⟩, 4) := ⟨⟨by decide +kernel, by decide +kernel⟩, List.mem_of_getElem? (i := 107) (by decide +kernel), List.mem_of_getElem? (i := 462) (by decide +kernel), List.mem_of_getElem? (i := 463) (by decide +kernel)⟩
theorem lw_p23 : lw_okq (⟨"LineColours$Network", "farEnd", "(II)I"⟩, 8) := ⟨⟨by decide +kernel, by decide +kernel⟩, List.mem_of_getElem? (i := 26) (by decide +kernel), List.mem_of_getElem? (i := 466) (by decide +kernel), List.mem_of_getElem? (i := 467) (by decide +kernel)⟩
theorem lw_p24 : lw_okq (⟨"LineColours$Fan", "follower", "(III)I"⟩, 4) := ⟨⟨by decide +kernel, by decide +kernel⟩, List.mem_of_getElem? (i := 107) (by decide +kernel), List.mem_of_getElem? (i := 470) (by decide +kernel), List.mem_of_getElem? (i := 471) (by decide +kernel)⟩
theorem lw_p25 : lw_okq (⟨"LineColours$Colouring", "lineWith", "(II)I"⟩, 3) := ⟨⟨by decide +kernel, by decide +kernel⟩, List.mem_of_getElem? (i := 84) (by decide +kernel), List.mem_of_getElem? (i := 475) (by decide +kernel), List.mem_of_getElem? (i := 476) (by decide +kernel)⟩
theorem lw_p26 : lw_okq (⟨"LineColours$Colouring", "leastFreeAt", "(I)I"⟩, 3) := ⟨⟨by decide +kernel, by decide +kernel⟩, List.mem_of_getElem? (i := 84) (by decide +kernel), List.mem_of_getElem? (i := 480) (by decide +kernel), List.mem_of_getElem? (i := 481) (by decide +kernel)⟩
theorem lw_p27 : lw_okq (⟨"LineColours$Colouring", "isFreeAt", "(II)Z"⟩, 3) := ⟨⟨by decide +kernel, by decide +kernel⟩, List.mem_of_getElem? (i := 84) (by decide +kernel), List.mem_of_getElem? (i := 484) (by decide +kernel), List.mem_of_getElem? (i := 485) (by decide +kernel)⟩
theorem lw_p28 : lw_okq (⟨"LineColours$Fan", "placeLacking", "(II)I"⟩, 4) := ⟨⟨by decide +kernel, by decide +kernel⟩, List.mem_of_getElem? (i := 107) (by decide +kernel), List.mem_of_getElem? (i := 491) (by decide +kernel), List.mem_of_getElem? (i := 492) (by decide +kernel)⟩
theorem lw_p29 : lw_okq (⟨"LineColours$Fan", "follows", "(II)Z"⟩, 4) := ⟨⟨by decide +kernel, by decide +kernel⟩, List.mem_of_getElem? (i := 107) (by decide +kernel), List.mem_of_getElem? (i := 495) (by decide +kernel), List.mem_of_getElem? (i := 496) (by decide +kernel)⟩
theorem lw_p30 : lw_okq (⟨"LineColours$Fan", "shift", "(III)V"⟩, 4) := ⟨⟨by decide +kernel, by decide +kernel⟩, List.mem_of_getElem? (i := 107) (by decide +kernel), List.mem_of_getElem? (i := 501) (by decide +kernel), List.mem_of_getElem? (i := 502) (by decide +kernel)⟩
theorem lw_p31 : lw_okq (⟨"LineColours$Network", "onePart", "()I"⟩, 8) := ⟨⟨by decide +kernel, by decide +kernel⟩, List.mem_of_getElem? (i := 26) (by decide +kernel), List.mem_of_getElem? (i := 515) (by decide +kernel), List.mem_of_getElem? (i := 516) (by decide +kernel)⟩
def lw_privs_2 : List (MethodName × Nat) := [(⟨"LineColours$Colouring", "strip", "(I)V"⟩, 3), (⟨"LineColours$Colouring", "areUnlike", "(II)Z"⟩, 3), (⟨"LineColours$Colouring", "chainOf", "(III)I"⟩, 3), (⟨"LineColours$Network", "joined", "(II)I"⟩, 8), (⟨"LineColours$Colouring", "flip", "(III)V"⟩, 3), (⟨"LineColours$Grower", "raise", "(I)V"⟩, 5), (⟨"LineColours$Fan", "lay", "(II)V"⟩, 4), (⟨"LineColours$Network", "farEnd", "(II)I"⟩, 8), (⟨"LineColours$Fan", "follower", "(III)I"⟩, 4), (⟨"LineColours$Colouring", "lineWith", "(II)I"⟩, 3), (⟨"LineColours$Colouring", "leastFreeAt", "(I)I"⟩, 3), (⟨"LineColours$Colouring", "isFreeAt", "(II)Z"⟩, 3), (⟨"LineColours$Fan", "placeLacking", "(II)I"⟩, 4), (⟨"LineColours$Fan", "follows", "(II)Z"⟩, 4), (⟨"LineColours$Fan", "shift", "(III)V"⟩, 4), (⟨"LineColours$Network", "onePart", "()I"⟩, 8)]
theorem lw_r2 : ∀ q ∈ lw_privs_2, lw_okq q := List.forall_mem_cons.mpr ⟨lw_p16, List.forall_mem_cons.mpr ⟨lw_p17, List.forall_mem_cons.mpr ⟨lw_p18, List.forall_mem_cons.mpr ⟨lw_p19, List.forall_mem_cons.mpr ⟨lw_p20, List.forall_mem_cons.mpr ⟨lw_p21, List.forall_mem_cons.mpr ⟨lw_p22, List.forall_mem_cons.mpr ⟨lw_p23, List.forall_mem_cons.mpr ⟨lw_p24, List.forall_mem_cons.mpr ⟨lw_p25, List.forall_mem_cons.mpr ⟨lw_p26, List.forall_mem_cons.mpr ⟨lw_p27, List.forall_mem_cons.mpr ⟨lw_p28, List.forall_mem_cons.mpr ⟨lw_p29, List.forall_mem_cons.mpr ⟨lw_p30, List.forall_mem_cons.mpr ⟨lw_p31, fun _ h => absurd h List.not_mem_nil⟩⟩⟩⟩⟩⟩⟩⟩⟩⟩⟩⟩⟩⟩⟩⟩
theorem lw_p32 : lw_okq (⟨"LineColours$Network", "neighbours", "(I)I"⟩, 8) := ⟨⟨by decide +kernel, by decide +kernel⟩, List.mem_of_getElem? (i := 26) (by decide +kernel), List.mem_of_getElem? (i := 519) (by decide +kernel), List.mem_of_getElem? (i := 520) (by decide +kernel)⟩
theorem lw_p33 : lw_okq (⟨"LineColours$Colouring", "giveBelowDegree", "(I)V"⟩, 3) := ⟨⟨by decide +kernel, by decide +kernel⟩, List.mem_of_getElem? (i := 84) (by decide +kernel), List.mem_of_getElem? (i := 523) (by decide +kernel), List.mem_of_getElem? (i := 524) (by decide +kernel)⟩
theorem lw_p34 : lw_okq (⟨"LineColours$ChainWalk", "makeEven", "()I"⟩, 2) := ⟨⟨by decide +kernel, by decide +kernel⟩, List.mem_of_getElem? (i := 154) (by decide +kernel), List.mem_of_getElem? (i := 536) (by decide +kernel), List.mem_of_getElem? (i := 537) (by decide +kernel)⟩
theorem lw_p35 : lw_okq (⟨"LineColours$ChainWalk", "greatestUsed", "()I"⟩, 2) := ⟨⟨by decide +kernel, by decide +kernel⟩, List.mem_of_getElem? (i := 154) (by decide +kernel), List.mem_of_getElem? (i := 540) (by decide +kernel), List.mem_of_getElem? (i := 541) (by decide +kernel)⟩
theorem lw_p36 : lw_okq (⟨"LineColours$ChainWalk", "howMany", "(I)I"⟩, 2) := ⟨⟨by decide +kernel, by decide +kernel⟩, List.mem_of_getElem? (i := 154) (by decide +kernel), List.mem_of_getElem? (i := 544) (by decide +kernel), List.mem_of_getElem? (i := 545) (by decide +kernel)⟩
theorem lw_p37 : lw_okq (⟨"LineColours$ChainWalk", "leaningChain", "(II)I"⟩, 2) := ⟨⟨by decide +kernel, by decide +kernel⟩, List.mem_of_getElem? (i := 154) (by decide +kernel), List.mem_of_getElem? (i := 549) (by decide +kernel), List.mem_of_getElem? (i := 550) (by decide +kernel)⟩
theorem lw_p38 : lw_okq (⟨"LineColours$Search", "findFirst", "(I)Z"⟩, 8) := ⟨⟨by decide +kernel, by decide +kernel⟩, List.mem_of_getElem? (i := 192) (by decide +kernel), List.mem_of_getElem? (i := 560) (by decide +kernel), List.mem_of_getElem? (i := 561) (by decide +kernel)⟩
theorem lw_p39 : lw_okq (⟨"LineColours$Search", "fewest", "()I"⟩, 8) := ⟨⟨by decide +kernel, by decide +kernel⟩, List.mem_of_getElem? (i := 192) (by decide +kernel), List.mem_of_getElem? (i := 564) (by decide +kernel), List.mem_of_getElem? (i := 565) (by decide +kernel)⟩
theorem lw_p40 : lw_okq (⟨"LineColours$Search", "canDo", "(II)Z"⟩, 8) := ⟨⟨by decide +kernel, by decide +kernel⟩, List.mem_of_getElem? (i := 192) (by decide +kernel), List.mem_of_getElem? (i := 569) (by decide +kernel), List.mem_of_getElem? (i := 570) (by decide +kernel)⟩
theorem lw_p41 : lw_okq (⟨"LineColours$Network", "crowdedSet", "(II)I"⟩, 8) := ⟨⟨by decide +kernel, by decide +kernel⟩, List.mem_of_getElem? (i := 26) (by decide +kernel), List.mem_of_getElem? (i := 574) (by decide +kernel), List.mem_of_getElem? (i := 575) (by decide +kernel)⟩
theorem lw_p42 : lw_okq (⟨"LineColours$Network", "allPosts", "()I"⟩, 8) := ⟨⟨by decide +kernel, by decide +kernel⟩, List.mem_of_getElem? (i := 26) (by decide +kernel), List.mem_of_getElem? (i := 578) (by decide +kernel), List.mem_of_getElem? (i := 579) (by decide +kernel)⟩
theorem lw_p43 : lw_okq (⟨"LineColours$Network", "linesWithin", "(II)I"⟩, 8) := ⟨⟨by decide +kernel, by decide +kernel⟩, List.mem_of_getElem? (i := 26) (by decide +kernel), List.mem_of_getElem? (i := 582) (by decide +kernel), List.mem_of_getElem? (i := 583) (by decide +kernel)⟩
theorem lw_p44 : lw_okq (⟨"LineColours$Search", "openBelow", "(I)V"⟩, 8) := ⟨⟨by decide +kernel, by decide +kernel⟩, List.mem_of_getElem? (i := 192) (by decide +kernel), List.mem_of_getElem? (i := 586) (by decide +kernel), List.mem_of_getElem? (i := 587) (by decide +kernel)⟩
theorem lw_p45 : lw_okq (⟨"LineColours$Search", "complete", "(II)Z"⟩, 8) := ⟨⟨by decide +kernel, by decide +kernel⟩, List.mem_of_getElem? (i := 192) (by decide +kernel), List.mem_of_getElem? (i := 590) (by decide +kernel), List.mem_of_getElem? (i := 591) (by decide +kernel)⟩
theorem lw_p46 : lw_okq (⟨"LineColours$Search", "tightest", "(I)I"⟩, 8) := ⟨⟨by decide +kernel, by decide +kernel⟩, List.mem_of_getElem? (i := 192) (by decide +kernel), List.mem_of_getElem? (i := 594) (by decide +kernel), List.mem_of_getElem? (i := 595) (by decide +kernel)⟩
theorem lw_p47 : lw_okq (⟨"LineColours$Search", "isHopeless", "(I)Z"⟩, 8) := ⟨⟨by decide +kernel, by decide +kernel⟩, List.mem_of_getElem? (i := 192) (by decide +kernel), List.mem_of_getElem? (i := 598) (by decide +kernel), List.mem_of_getElem? (i := 599) (by decide +kernel)⟩
def lw_privs_3 : List (MethodName × Nat) := [(⟨"LineColours$Network", "neighbours", "(I)I"⟩, 8), (⟨"LineColours$Colouring", "giveBelowDegree", "(I)V"⟩, 3), (⟨"LineColours$ChainWalk", "makeEven", "()I"⟩, 2), (⟨"LineColours$ChainWalk", "greatestUsed", "()I"⟩, 2), (⟨"LineColours$ChainWalk", "howMany", "(I)I"⟩, 2), (⟨"LineColours$ChainWalk", "leaningChain", "(II)I"⟩, 2), (⟨"LineColours$Search", "findFirst", "(I)Z"⟩, 8), (⟨"LineColours$Search", "fewest", "()I"⟩, 8), (⟨"LineColours$Search", "canDo", "(II)Z"⟩, 8), (⟨"LineColours$Network", "crowdedSet", "(II)I"⟩, 8), (⟨"LineColours$Network", "allPosts", "()I"⟩, 8), (⟨"LineColours$Network", "linesWithin", "(II)I"⟩, 8), (⟨"LineColours$Search", "openBelow", "(I)V"⟩, 8), (⟨"LineColours$Search", "complete", "(II)Z"⟩, 8), (⟨"LineColours$Search", "tightest", "(I)I"⟩, 8), (⟨"LineColours$Search", "isHopeless", "(I)Z"⟩, 8)]
theorem lw_r3 : ∀ q ∈ lw_privs_3, lw_okq q := List.forall_mem_cons.mpr ⟨lw_p32, List.forall_mem_cons.mpr ⟨lw_p33, List.forall_mem_cons.mpr ⟨lw_p34, List.forall_mem_cons.mpr ⟨lw_p35, List.forall_mem_cons.mpr ⟨lw_p36, List.forall_mem_cons.mpr ⟨lw_p37, List.forall_mem_cons.mpr ⟨lw_p38, List.forall_mem_cons.mpr ⟨lw_p39, List.forall_mem_cons.mpr ⟨lw_p40, List.forall_mem_cons.mpr ⟨lw_p41, List.forall_mem_cons.mpr ⟨lw_p42, List.forall_mem_cons.mpr ⟨lw_p43, List.forall_mem_cons.mpr ⟨lw_p44, List.forall_mem_cons.mpr ⟨lw_p45, List.forall_mem_cons.mpr ⟨lw_p46, List.forall_mem_cons.mpr ⟨lw_p47, fun _ h => absurd h List.not_mem_nil⟩⟩⟩⟩⟩⟩⟩⟩⟩⟩⟩⟩⟩⟩⟩⟩
theorem lw_p48 : lw_okq (⟨"LineColours$Search", "roomOfColours", "(I)I"⟩, 8) := ⟨⟨by decide +kernel, by decide +kernel⟩, List.mem_of_getElem? (i := 192) (by decide +kernel), List.mem_of_getElem? (i := 602) (by decide +kernel), List.mem_of_getElem? (i := 603) (by decide +kernel)⟩
theorem lw_p49 : lw_okq (⟨"LineColours$Network", "postsOf", "(I)I"⟩, 8) := ⟨⟨by decide +kernel, by decide +kernel⟩, List.mem_of_getElem? (i := 26) (by decide +kernel), List.mem_of_getElem? (i := 606) (by decide +kernel), List.mem_of_getElem? (i := 607) (by decide +kernel)⟩
theorem lw_p50 : lw_okq (⟨"LineColours$Search", "hasCrampedPost", "(I)Z"⟩, 8) := ⟨⟨by decide +kernel, by decide +kernel⟩, List.mem_of_getElem? (i := 192) (by decide +kernel), List.mem_of_getElem? (i := 611) (by decide +kernel), List.mem_of_getElem? (i := 612) (by decide +kernel)⟩
theorem lw_p51 : lw_okq (⟨"LineColours$Search", "hasTwin", "(II)Z"⟩, 8) := ⟨⟨by decide +kernel, by decide +kernel⟩, List.mem_of_getElem? (i := 192) (by decide +kernel), List.mem_of_getElem? (i := 615) (by decide +kernel), List.mem_of_getElem? (i := 616) (by decide +kernel)⟩
theorem lw_p52 : lw_okq (⟨"LineColours$Search", "completeWith", "(IIII)Z"⟩, 8) := ⟨⟨by decide +kernel, by decide +kernel⟩, List.mem_of_getElem? (i := 192) (by decide +kernel), List.mem_of_getElem? (i := 619) (by decide +kernel), List.mem_of_getElem? (i := 620) (by decide +kernel)⟩
theorem lw_p53 : lw_okq (⟨"LineColours$Search", "findLeast", "()Z"⟩, 8) := ⟨⟨by decide +kernel, by decide +kernel⟩, List.mem_of_getElem? (i := 192) (by decide +kernel), List.mem_of_getElem? (i := 623) (by decide +kernel), List.mem_of_getElem? (i := 624) (by decide +kernel)⟩
theorem lw_p54 : lw_okq (⟨"LineColours$Search", "fixLeast", "(II)V"⟩, 8) := ⟨⟨by decide +kernel, by decide +kernel⟩, List.mem_of_getElem? (i := 192) (by decide +kernel), List.mem_of_getElem? (i := 627) (by decide +kernel), List.mem_of_getElem? (i := 628) (by decide +kernel)⟩
theorem lw_p55 : lw_okq (⟨"LineColours", "countUnlike", "()I"⟩, 13) := ⟨⟨by decide +kernel, by decide +kernel⟩, List.mem_of_getElem? (i := 18) (by decide +kernel), List.mem_of_getElem? (i := 642) (by decide +kernel), List.mem_of_getElem? (i := 643) (by decide +kernel)⟩
theorem lw_p56 : lw_okq (⟨"LineColours$Calmer", "idleOfAll", "(II)I"⟩, 5) := ⟨⟨by decide +kernel, by decide +kernel⟩, List.mem_of_getElem? (i := 167) (by decide +kernel), List.mem_of_getElem? (i := 688) (by decide +kernel), List.mem_of_getElem? (i := 689) (by decide +kernel)⟩
theorem lw_p57 : lw_okq (⟨"LineColours$Calmer", "look", "()V"⟩, 5) := ⟨⟨by decide +kernel, by decide +kernel⟩, List.mem_of_getElem? (i := 167) (by decide +kernel), List.mem_of_getElem? (i := 702) (by decide +kernel), List.mem_of_getElem? (i := 703) (by decide +kernel)⟩
theorem lw_p58 : lw_okq (⟨"LineColours$Network", "leastPostAbove", "(I)I"⟩, 8) := ⟨⟨by decide +kernel, by decide +kernel⟩, List.mem_of_getElem? (i := 26) (by decide +kernel), List.mem_of_getElem? (i := 736) (by decide +kernel), List.mem_of_getElem? (i := 737) (by decide +kernel)⟩
theorem lw_p59 : lw_okq (⟨"LineColours$Search", "findListed", "([I)Z"⟩, 8) := ⟨⟨by decide +kernel, by decide +kernel⟩, List.mem_of_getElem? (i := 192) (by decide +kernel), List.mem_of_getElem? (i := 749) (by decide +kernel), List.mem_of_getElem? (i := 750) (by decide +kernel)⟩
theorem lw_p60 : lw_okq (⟨"LineColours$Search", "openListed", "([I)V"⟩, 8) := ⟨⟨by decide +kernel, by decide +kernel⟩, List.mem_of_getElem? (i := 192) (by decide +kernel), List.mem_of_getElem? (i := 753) (by decide +kernel), List.mem_of_getElem? (i := 754) (by decide +kernel)⟩
theorem lw_p61 : lw_okq (⟨"LineColours$ChainWalk", "longestChain", "(II)I"⟩, 2) := ⟨⟨by decide +kernel, by decide +kernel⟩, List.mem_of_getElem? (i := 154) (by decide +kernel), List.mem_of_getElem? (i := 765) (by decide +kernel), List.mem_of_getElem? (i := 766) (by decide +kernel)⟩
theorem lw_p62 : lw_okq (⟨"LineColours$Apart", "gatherAll", "()V"⟩, 3) := ⟨⟨by decide +kernel, by decide +kernel⟩, List.mem_of_getElem? (i := 224) (by decide +kernel), List.mem_of_getElem? (i := 773) (by decide +kernel), List.mem_of_getElem? (i := 774) (by decide +kernel)⟩
theorem lw_p63 : lw_okq (⟨"LineColours$Apart", "gather", "(IIII)V"⟩, 3) := ⟨⟨by decide +kernel, by decide +kernel⟩, List.mem_of_getElem? (i := 224) (by decide +kernel), List.mem_of_getElem? (i := 778) (by decide +kernel), List.mem_of_getElem? (i := 779) (by decide +kernel)⟩
def lw_privs_4 : List (MethodName × Nat) := [(⟨"LineColours$Search", "roomOfColours", "(I)I"⟩, 8), (⟨"LineColours$Network", "postsOf", "(I)I"⟩, 8), (⟨"LineColours$Search", "hasCrampedPost", "(I)Z"⟩, 8), (⟨"LineColours$Search", "hasTwin", "(II)Z"⟩, 8), (⟨"LineColours$Search", "completeWith", "(IIII)Z"⟩, 8), (⟨"LineColours$Search", "findLeast", "()Z"⟩, 8), (⟨"LineColours$Search", "fixLeast", "(II)V"⟩, 8), (⟨"LineColours", "countUnlike", "()I"⟩, 13), (⟨"LineColours$Calmer", "idleOfAll", "(II)I"⟩, 5), (⟨"LineColours$Calmer", "look", "()V"⟩, 5), (⟨"LineColours$Network", "leastPostAbove", "(I)I"⟩, 8), (⟨"LineColours$Search", "findListed", "([I)Z"⟩, 8), (⟨"LineColours$Search", "openListed", "([I)V"⟩, 8), (⟨"LineColours$ChainWalk", "longestChain", "(II)I"⟩, 2), (⟨"LineColours$Apart", "gatherAll", "()V"⟩, 3), (⟨"LineColours$Apart", "gather", "(IIII)V"⟩, 3)]
theorem lw_r4 : ∀ q ∈ lw_privs_4, lw_okq q := List.forall_mem_cons.mpr ⟨lw_p48, List.forall_mem_cons.mpr ⟨lw_p49, List.forall_mem_cons.mpr ⟨lw_p50, List.forall_mem_cons.mpr ⟨lw_p51, List.forall_mem_cons.mpr ⟨lw_p52, List.forall_mem_cons.mpr ⟨lw_p53, List.forall_mem_cons.mpr ⟨lw_p54, List.forall_mem_cons.mpr ⟨lw_p55, List.forall_mem_cons.mpr ⟨lw_p56, List.forall_mem_cons.mpr ⟨lw_p57, List.forall_mem_cons.mpr ⟨lw_p58, List.forall_mem_cons.mpr ⟨lw_p59, List.forall_mem_cons.mpr ⟨lw_p60, List.forall_mem_cons.mpr ⟨lw_p61, List.forall_mem_cons.mpr ⟨lw_p62, List.forall_mem_cons.mpr ⟨lw_p63, fun _ h => absurd h List.not_mem_nil⟩⟩⟩⟩⟩⟩⟩⟩⟩⟩⟩⟩⟩⟩⟩⟩
theorem lw_p64 : lw_okq (⟨"LineColours$Search", "dearLines", "()I"⟩, 8) := ⟨⟨by decide +kernel, by decide +kernel⟩, List.mem_of_getElem? (i := 192) (by decide +kernel), List.mem_of_getElem? (i := 786) (by decide +kernel), List.mem_of_getElem? (i := 787) (by decide +kernel)⟩
theorem lw_p65 : lw_okq (⟨"LineColours$Turning", "countKinds", "(I)I"⟩, 7) := ⟨⟨by decide +kernel, by decide +kernel⟩, List.mem_of_getElem? (i := 258) (by decide +kernel), List.mem_of_getElem? (i := 794) (by decide +kernel), List.mem_of_getElem? (i := 795) (by decide +kernel)⟩
theorem lw_p66 : lw_okq (⟨"LineColours$Turning", "prepare", "(I)V"⟩, 7) := ⟨⟨by decide +kernel, by decide +kernel⟩, List.mem_of_getElem? (i := 258) (by decide +kernel), List.mem_of_getElem? (i := 798) (by decide +kernel), List.mem_of_getElem? (i := 799) (by decide +kernel)⟩
theorem lw_p67 : lw_okq (⟨"LineColours$Turning", "place", "(II)V"⟩, 7) := ⟨⟨by decide +kernel, by decide +kernel⟩, List.mem_of_getElem? (i := 258) (by decide +kernel), List.mem_of_getElem? (i := 806) (by decide +kernel), List.mem_of_getElem? (i := 807) (by decide +kernel)⟩
theorem lw_p68 : lw_okq (⟨"LineColours$Turning", "isSeen", "(I)Z"⟩, 7) := ⟨⟨by decide +kernel, by decide +kernel⟩, List.mem_of_getElem? (i := 258) (by decide +kernel), List.mem_of_getElem? (i := 810) (by decide +kernel), List.mem_of_getElem? (i := 811) (by decide +kernel)⟩
theorem lw_p69 : lw_okq (⟨"LineColours$Turning", "mark", "(I)V"⟩, 7) := ⟨⟨by decide +kernel, by decide +kernel⟩, List.mem_of_getElem? (i := 258) (by decide +kernel), List.mem_of_getElem? (i := 814) (by decide +kernel), List.mem_of_getElem? (i := 815) (by decide +kernel)⟩
theorem lw_p70 : lw_okq (⟨"LineColours$Turning", "spreadKind", "()V"⟩, 7) := ⟨⟨by decide +kernel, by decide +kernel⟩, List.mem_of_getElem? (i := 258) (by decide +kernel), List.mem_of_getElem? (i := 818) (by decide +kernel), List.mem_of_getElem? (i := 819) (by decide +kernel)⟩
theorem lw_p71 : lw_okq (⟨"LineColours$Turning", "advance", "()Z"⟩, 7) := ⟨⟨by decide +kernel, by decide +kernel⟩, List.mem_of_getElem? (i := 258) (by decide +kernel), List.mem_of_getElem? (i := 822) (by decide +kernel), List.mem_of_getElem? (i := 823) (by decide +kernel)⟩
theorem lw_p72 : lw_okq (⟨"LineColours$Turning", "turnEach", "(I)V"⟩, 7) := ⟨⟨by decide +kernel, by decide +kernel⟩, List.mem_of_getElem? (i := 258) (by decide +kernel), List.mem_of_getElem? (i := 827) (by decide +kernel), List.mem_of_getElem? (i := 828) (by decide +kernel)⟩
theorem lw_p73 : lw_okq (⟨"LineColours$Turning", "linesWith", "(II)I"⟩, 7) := ⟨⟨by decide +kernel, by decide +kernel⟩, List.mem_of_getElem? (i := 258) (by decide +kernel), List.mem_of_getElem? (i := 831) (by decide +kernel), List.mem_of_getElem? (i := 832) (by decide +kernel)⟩
theorem lw_p74 : lw_okq (⟨"LineColours$Turning", "joinedIn", "(II)I"⟩, 7) := ⟨⟨by decide +kernel, by decide +kernel⟩, List.mem_of_getElem? (i := 258) (by decide +kernel), List.mem_of_getElem? (i := 838) (by decide +kernel), List.mem_of_getElem? (i := 839) (by decide +kernel)⟩
theorem lw_p75 : lw_okq (⟨"LineColours", "areAllBelow", "([II)Z"⟩, 13) := ⟨⟨by decide +kernel, by decide +kernel⟩, List.mem_of_getElem? (i := 18) (by decide +kernel), List.mem_of_getElem? (i := 847) (by decide +kernel), List.mem_of_getElem? (i := 848) (by decide +kernel)⟩
theorem lw_p76 : lw_okq (⟨"LineColours$Turning", "fewestTurns", "([I[II)I"⟩, 7) := ⟨⟨by decide +kernel, by decide +kernel⟩, List.mem_of_getElem? (i := 258) (by decide +kernel), List.mem_of_getElem? (i := 851) (by decide +kernel), List.mem_of_getElem? (i := 852) (by decide +kernel)⟩
theorem lw_p77 : lw_okq (⟨"LineColours$Turning", "codeOf", "([I)I"⟩, 7) := ⟨⟨by decide +kernel, by decide +kernel⟩, List.mem_of_getElem? (i := 258) (by decide +kernel), List.mem_of_getElem? (i := 855) (by decide +kernel), List.mem_of_getElem? (i := 856) (by decide +kernel)⟩
theorem lw_p78 : lw_okq (⟨"LineColours$ChainWalk", "countChains", "(II)I"⟩, 2) := ⟨⟨by decide +kernel, by decide +kernel⟩, List.mem_of_getElem? (i := 154) (by decide +kernel), List.mem_of_getElem? (i := 863) (by decide +kernel), List.mem_of_getElem? (i := 864) (by decide +kernel)⟩
theorem lw_p79 : lw_okq (⟨"LineColours$Network", "leastOddRound", "()I"⟩, 8) := ⟨⟨by decide +kernel, by decide +kernel⟩, List.mem_of_getElem? (i := 26) (by decide +kernel), List.mem_of_getElem? (i := 871) (by decide +kernel), List.mem_of_getElem? (i := 872) (by decide +kernel)⟩
def lw_privs_5 : List (MethodName × Nat) := [(⟨"LineColours$Search", "dearLines", "()I"⟩, 8), (⟨"LineColours$Turning", "countKinds", "(I)I"⟩, 7), (⟨"LineColours$Turning", "prepare", "(I)V"⟩, 7), (⟨"LineColours$Turning", "place", "(II)V"⟩, 7), (⟨"LineColours$Turning", "isSeen", "(I)Z"⟩, 7), (⟨"LineColours$Turning", "mark", "(I)V"⟩, 7), (⟨"LineColours$Turning", "spreadKind", "()V"⟩, 7), (⟨"LineColours$Turning", "advance", "()Z"⟩, 7), (⟨"LineColours$Turning", "turnEach", "(I)V"⟩, 7), (⟨"LineColours$Turning", "linesWith", "(II)I"⟩, 7), (⟨"LineColours$Turning", "joinedIn", "(II)I"⟩, 7), (⟨"LineColours", "areAllBelow", "([II)Z"⟩, 13), (⟨"LineColours$Turning", "fewestTurns", "([I[II)I"⟩, 7), (⟨"LineColours$Turning", "codeOf", "([I)I"⟩, 7), (⟨"LineColours$ChainWalk", "countChains", "(II)I"⟩, 2), (⟨"LineColours$Network", "leastOddRound", "()I"⟩, 8)]
theorem lw_r5 : ∀ q ∈ lw_privs_5, lw_okq q := List.forall_mem_cons.mpr ⟨lw_p64, List.forall_mem_cons.mpr ⟨lw_p65, List.forall_mem_cons.mpr ⟨lw_p66, List.forall_mem_cons.mpr ⟨lw_p67, List.forall_mem_cons.mpr ⟨lw_p68, List.forall_mem_cons.mpr ⟨lw_p69, List.forall_mem_cons.mpr ⟨lw_p70, List.forall_mem_cons.mpr ⟨lw_p71, List.forall_mem_cons.mpr ⟨lw_p72, List.forall_mem_cons.mpr ⟨lw_p73, List.forall_mem_cons.mpr ⟨lw_p74, List.forall_mem_cons.mpr ⟨lw_p75, List.forall_mem_cons.mpr ⟨lw_p76, List.forall_mem_cons.mpr ⟨lw_p77, List.forall_mem_cons.mpr ⟨lw_p78, List.forall_mem_cons.mpr ⟨lw_p79, fun _ h => absurd h List.not_mem_nil⟩⟩⟩⟩⟩⟩⟩⟩⟩⟩⟩⟩⟩⟩⟩⟩
theorem lw_p80 : lw_okq (⟨"LineColours$Apart", "most", "()I"⟩, 3) := ⟨⟨by decide +kernel, by decide +kernel⟩, List.mem_of_getElem? (i := 224) (by decide +kernel), List.mem_of_getElem? (i := 879) (by decide +kernel), List.mem_of_getElem? (i := 880) (by decide +kernel)⟩
theorem lw_p81 : lw_okq (⟨"LineColours$Sharing", "countColourings", "(I)J"⟩, 3) := ⟨⟨by decide +kernel, by decide +kernel⟩, List.mem_of_getElem? (i := 242) (by decide +kernel), List.mem_of_getElem? (i := 889) (by decide +kernel), List.mem_of_getElem? (i := 890) (by decide +kernel)⟩
theorem lw_p82 : lw_okq (⟨"LineColours$Sharing", "share", "(II)V"⟩, 3) := ⟨⟨by decide +kernel, by decide +kernel⟩, List.mem_of_getElem? (i := 242) (by decide +kernel), List.mem_of_getElem? (i := 894) (by decide +kernel), List.mem_of_getElem? (i := 895) (by decide +kernel)⟩
theorem lw_p83 : lw_okq (⟨"LineColours", "isLikeKept", "()Z"⟩, 13) := ⟨⟨by decide +kernel, by decide +kernel⟩, List.mem_of_getElem? (i := 18) (by decide +kernel), List.mem_of_getElem? (i := 903) (by decide +kernel), List.mem_of_getElem? (i := 904) (by decide +kernel)⟩
theorem lw_p84 : lw_okq (⟨"LineColours$Colouring", "bareLines", "()I"⟩, 3) := ⟨⟨by decide +kernel, by decide +kernel⟩, List.mem_of_getElem? (i := 84) (by decide +kernel), List.mem_of_getElem? (i := 911) (by decide +kernel), List.mem_of_getElem? (i := 912) (by decide +kernel)⟩
theorem lw_p85 : lw_okq (⟨"LineColours$Colouring", "usedColours", "()I"⟩, 3) := ⟨⟨by decide +kernel, by decide +kernel⟩, List.mem_of_getElem? (i := 84) (by decide +kernel), List.mem_of_getElem? (i := 916) (by decide +kernel), List.mem_of_getElem? (i := 917) (by decide +kernel)⟩
theorem lw_p86 : lw_okq (⟨"LineColours$Colouring", "unevenness", "()I"⟩, 3) := ⟨⟨by decide +kernel, by decide +kernel⟩, List.mem_of_getElem? (i := 84) (by decide +kernel), List.mem_of_getElem? (i := 920) (by decide +kernel), List.mem_of_getElem? (i := 921) (by decide +kernel)⟩
theorem lw_p87 : lw_okq (⟨"LineColours", "countEasy", "()I"⟩, 13) := ⟨⟨by decide +kernel, by decide +kernel⟩, List.mem_of_getElem? (i := 18) (by decide +kernel), List.mem_of_getElem? (i := 927) (by decide +kernel), List.mem_of_getElem? (i := 928) (by decide +kernel)⟩
theorem lw_p88 : lw_okq (⟨"LineColoursModel", "isPost", "(I)Z"⟩, 31) := ⟨⟨by decide +kernel, by decide +kernel⟩, List.mem_of_getElem? (i := 931) (by decide +kernel), List.mem_of_getElem? (i := 1042) (by decide +kernel), List.mem_of_getElem? (i := 1043) (by decide +kernel)⟩
theorem lw_p89 : lw_okq (⟨"LineColoursModel", "lineOf", "(II)I"⟩, 31) := ⟨⟨by decide +kernel, by decide +kernel⟩, List.mem_of_getElem? (i := 931) (by decide +kernel), List.mem_of_getElem? (i := 1046) (by decide +kernel), List.mem_of_getElem? (i := 1047) (by decide +kernel)⟩
theorem lw_p90 : lw_okq (⟨"LineColoursModel", "isLine", "(I)Z"⟩, 31) := ⟨⟨by decide +kernel, by decide +kernel⟩, List.mem_of_getElem? (i := 931) (by decide +kernel), List.mem_of_getElem? (i := 1054) (by decide +kernel), List.mem_of_getElem? (i := 1055) (by decide +kernel)⟩
theorem lw_p91 : lw_okq (⟨"LineColoursModel", "isColour", "(I)Z"⟩, 31) := ⟨⟨by decide +kernel, by decide +kernel⟩, List.mem_of_getElem? (i := 931) (by decide +kernel), List.mem_of_getElem? (i := 1058) (by decide +kernel), List.mem_of_getElem? (i := 1059) (by decide +kernel)⟩
theorem lw_p92 : lw_okq (⟨"LineColoursModel", "degree", "()I"⟩, 31) := ⟨⟨by decide +kernel, by decide +kernel⟩, List.mem_of_getElem? (i := 931) (by decide +kernel), List.mem_of_getElem? (i := 1062) (by decide +kernel), List.mem_of_getElem? (i := 1063) (by decide +kernel)⟩
theorem lw_p93 : lw_okq (⟨"LineColoursModel", "allLines", "()I"⟩, 31) := ⟨⟨by decide +kernel, by decide +kernel⟩, List.mem_of_getElem? (i := 931) (by decide +kernel), List.mem_of_getElem? (i := 1066) (by decide +kernel), List.mem_of_getElem? (i := 1067) (by decide +kernel)⟩
theorem lw_p94 : lw_okq (⟨"LineColoursModel", "degreeOf", "(I)I"⟩, 31) := ⟨⟨by decide +kernel, by decide +kernel⟩, List.mem_of_getElem? (i := 931) (by decide +kernel), List.mem_of_getElem? (i := 1070) (by decide +kernel), List.mem_of_getElem? (i := 1071) (by decide +kernel)⟩
theorem lw_p95 : lw_okq (⟨"LineColoursModel", "linesAt", "(II)I"⟩, 31) := ⟨⟨by decide +kernel, by decide +kernel⟩, List.mem_of_getElem? (i := 931) (by decide +kernel), List.mem_of_getElem? (i := 1074) (by decide +kernel), List.mem_of_getElem? (i := 1075) (by decide +kernel)⟩
def lw_privs_6 : List (MethodName × Nat) := [(⟨"LineColours$Apart", "most", "()I"⟩, 3), (⟨"LineColours$Sharing", "countColourings", "(I)J"⟩, 3), (⟨"LineColours$Sharing", "share", "(II)V"⟩, 3), (⟨"LineColours", "isLikeKept", "()Z"⟩, 13), (⟨"LineColours$Colouring", "bareLines", "()I"⟩, 3), (⟨"LineColours$Colouring", "usedColours", "()I"⟩, 3), (⟨"LineColours$Colouring", "unevenness", "()I"⟩, 3), (⟨"LineColours", "countEasy", "()I"⟩, 13), (⟨"LineColoursModel", "isPost", "(I)Z"⟩, 31), (⟨"LineColoursModel", "lineOf", "(II)I"⟩, 31), (⟨"LineColoursModel", "isLine", "(I)Z"⟩, 31), (⟨"LineColoursModel", "isColour", "(I)Z"⟩, 31), (⟨"LineColoursModel", "degree", "()I"⟩, 31), (⟨"LineColoursModel", "allLines", "()I"⟩, 31), (⟨"LineColoursModel", "degreeOf", "(I)I"⟩, 31), (⟨"LineColoursModel", "linesAt", "(II)I"⟩, 31)]
theorem lw_r6 : ∀ q ∈ lw_privs_6, lw_okq q := List.forall_mem_cons.mpr ⟨lw_p80, List.forall_mem_cons.mpr ⟨lw_p81, List.forall_mem_cons.mpr ⟨lw_p82, List.forall_mem_cons.mpr ⟨lw_p83, List.forall_mem_cons.mpr ⟨lw_p84, List.forall_mem_cons.mpr ⟨lw_p85, List.forall_mem_cons.mpr ⟨lw_p86, List.forall_mem_cons.mpr ⟨lw_p87, List.forall_mem_cons.mpr ⟨lw_p88, List.forall_mem_cons.mpr ⟨lw_p89, List.forall_mem_cons.mpr ⟨lw_p90, List.forall_mem_cons.mpr ⟨lw_p91, List.forall_mem_cons.mpr ⟨lw_p92, List.forall_mem_cons.mpr ⟨lw_p93, List.forall_mem_cons.mpr ⟨lw_p94, List.forall_mem_cons.mpr ⟨lw_p95, fun _ h => absurd h List.not_mem_nil⟩⟩⟩⟩⟩⟩⟩⟩⟩⟩⟩⟩⟩⟩⟩⟩
theorem lw_p96 : lw_okq (⟨"LineColoursModel", "isAt", "(II)Z"⟩, 31) := ⟨⟨by decide +kernel, by decide +kernel⟩, List.mem_of_getElem? (i := 931) (by decide +kernel), List.mem_of_getElem? (i := 1081) (by decide +kernel), List.mem_of_getElem? (i := 1082) (by decide +kernel)⟩
theorem lw_p97 : lw_okq (⟨"LineColoursModel", "isFreeAt", "(II)Z"⟩, 31) := ⟨⟨by decide +kernel, by decide +kernel⟩, List.mem_of_getElem? (i := 931) (by decide +kernel), List.mem_of_getElem? (i := 1085) (by decide +kernel), List.mem_of_getElem? (i := 1086) (by decide +kernel)⟩
theorem lw_p98 : lw_okq (⟨"LineColoursModel", "lineWith", "(II)I"⟩, 31) := ⟨⟨by decide +kernel, by decide +kernel⟩, List.mem_of_getElem? (i := 931) (by decide +kernel), List.mem_of_getElem? (i := 1089) (by decide +kernel), List.mem_of_getElem? (i := 1090) (by decide +kernel)⟩
theorem lw_p99 : lw_okq (⟨"LineColoursModel", "isChain", "(III)Z"⟩, 31) := ⟨⟨by decide +kernel, by decide +kernel⟩, List.mem_of_getElem? (i := 931) (by decide +kernel), List.mem_of_getElem? (i := 1101) (by decide +kernel), List.mem_of_getElem? (i := 1102) (by decide +kernel)⟩
theorem lw_p100 : lw_okq (⟨"LineColoursModel", "areColours", "(II)Z"⟩, 31) := ⟨⟨by decide +kernel, by decide +kernel⟩, List.mem_of_getElem? (i := 931) (by decide +kernel), List.mem_of_getElem? (i := 1105) (by decide +kernel), List.mem_of_getElem? (i := 1106) (by decide +kernel)⟩
theorem lw_p101 : lw_okq (⟨"LineColoursModel", "chainIn", "([IIII)I"⟩, 31) := ⟨⟨by decide +kernel, by decide +kernel⟩, List.mem_of_getElem? (i := 931) (by decide +kernel), List.mem_of_getElem? (i := 1109) (by decide +kernel), List.mem_of_getElem? (i := 1110) (by decide +kernel)⟩
theorem lw_p102 : lw_okq (⟨"LineColoursModel", "manyWith", "(II)I"⟩, 31) := ⟨⟨by decide +kernel, by decide +kernel⟩, List.mem_of_getElem? (i := 931) (by decide +kernel), List.mem_of_getElem? (i := 1127) (by decide +kernel), List.mem_of_getElem? (i := 1128) (by decide +kernel)⟩
theorem lw_p103 : lw_okq (⟨"LineColoursModel", "swaps", "(II)I"⟩, 31) := ⟨⟨by decide +kernel, by decide +kernel⟩, List.mem_of_getElem? (i := 931) (by decide +kernel), List.mem_of_getElem? (i := 1146) (by decide +kernel), List.mem_of_getElem? (i := 1147) (by decide +kernel)⟩
theorem lw_p104 : lw_okq (⟨"LineColoursModel", "laysFan", "(II)V"⟩, 31) := ⟨⟨by decide +kernel, by decide +kernel⟩, List.mem_of_getElem? (i := 931) (by decide +kernel), List.mem_of_getElem? (i := 1154) (by decide +kernel), List.mem_of_getElem? (i := 1155) (by decide +kernel)⟩
theorem lw_p105 : lw_okq (⟨"LineColoursModel", "otherEnd", "(II)I"⟩, 31) := ⟨⟨by decide +kernel, by decide +kernel⟩, List.mem_of_getElem? (i := 931) (by decide +kernel), List.mem_of_getElem? (i := 1158) (by decide +kernel), List.mem_of_getElem? (i := 1159) (by decide +kernel)⟩
theorem lw_p106 : lw_okq (⟨"LineColoursModel", "grows", "(I)I"⟩, 31) := ⟨⟨by decide +kernel, by decide +kernel⟩, List.mem_of_getElem? (i := 931) (by decide +kernel), List.mem_of_getElem? (i := 1166) (by decide +kernel), List.mem_of_getElem? (i := 1167) (by decide +kernel)⟩
theorem lw_p107 : lw_okq (⟨"LineColoursModel", "leastFreeAt", "(I)I"⟩, 31) := ⟨⟨by decide +kernel, by decide +kernel⟩, List.mem_of_getElem? (i := 931) (by decide +kernel), List.mem_of_getElem? (i := 1170) (by decide +kernel), List.mem_of_getElem? (i := 1171) (by decide +kernel)⟩
theorem lw_p108 : lw_okq (⟨"LineColoursModel", "oddRound", "()I"⟩, 31) := ⟨⟨by decide +kernel, by decide +kernel⟩, List.mem_of_getElem? (i := 931) (by decide +kernel), List.mem_of_getElem? (i := 1186) (by decide +kernel), List.mem_of_getElem? (i := 1187) (by decide +kernel)⟩
theorem lw_p109 : lw_okq (⟨"LineColoursModel", "laysSides", "()Z"⟩, 31) := ⟨⟨by decide +kernel, by decide +kernel⟩, List.mem_of_getElem? (i := 931) (by decide +kernel), List.mem_of_getElem? (i := 1190) (by decide +kernel), List.mem_of_getElem? (i := 1191) (by decide +kernel)⟩
theorem lw_p110 : lw_okq (⟨"LineColoursModel", "usedAt", "(I)I"⟩, 31) := ⟨⟨by decide +kernel, by decide +kernel⟩, List.mem_of_getElem? (i := 931) (by decide +kernel), List.mem_of_getElem? (i := 1198) (by decide +kernel), List.mem_of_getElem? (i := 1199) (by decide +kernel)⟩
theorem lw_p111 : lw_okq (⟨"LineColoursModel", "evens", "()Z"⟩, 31) := ⟨⟨by decide +kernel, by decide +kernel⟩, List.mem_of_getElem? (i := 931) (by decide +kernel), List.mem_of_getElem? (i := 1206) (by decide +kernel), List.mem_of_getElem? (i := 1207) (by decide +kernel)⟩
def lw_privs_7 : List (MethodName × Nat) := [(⟨"LineColoursModel", "isAt", "(II)Z"⟩, 31), (⟨"LineColoursModel", "isFreeAt", "(II)Z"⟩, 31), (⟨"LineColoursModel", "lineWith", "(II)I"⟩, 31), (⟨"LineColoursModel", "isChain", "(III)Z"⟩, 31), (⟨"LineColoursModel", "areColours", "(II)Z"⟩, 31), (⟨"LineColoursModel", "chainIn", "([IIII)I"⟩, 31), (⟨"LineColoursModel", "manyWith", "(II)I"⟩, 31), (⟨"LineColoursModel", "swaps", "(II)I"⟩, 31), (⟨"LineColoursModel", "laysFan", "(II)V"⟩, 31), (⟨"LineColoursModel", "otherEnd", "(II)I"⟩, 31), (⟨"LineColoursModel", "grows", "(I)I"⟩, 31), (⟨"LineColoursModel", "leastFreeAt", "(I)I"⟩, 31), (⟨"LineColoursModel", "oddRound", "()I"⟩, 31), (⟨"LineColoursModel", "laysSides", "()Z"⟩, 31), (⟨"LineColoursModel", "usedAt", "(I)I"⟩, 31), (⟨"LineColoursModel", "evens", "()Z"⟩, 31)]
theorem lw_r7 : ∀ q ∈ lw_privs_7, lw_okq q := List.forall_mem_cons.mpr ⟨lw_p96, List.forall_mem_cons.mpr ⟨lw_p97, List.forall_mem_cons.mpr ⟨lw_p98, List.forall_mem_cons.mpr ⟨lw_p99, List.forall_mem_cons.mpr ⟨lw_p100, List.forall_mem_cons.mpr ⟨lw_p101, List.forall_mem_cons.mpr ⟨lw_p102, List.forall_mem_cons.mpr ⟨lw_p103, List.forall_mem_cons.mpr ⟨lw_p104, List.forall_mem_cons.mpr ⟨lw_p105, List.forall_mem_cons.mpr ⟨lw_p106, List.forall_mem_cons.mpr ⟨lw_p107, List.forall_mem_cons.mpr ⟨lw_p108, List.forall_mem_cons.mpr ⟨lw_p109, List.forall_mem_cons.mpr ⟨lw_p110, List.forall_mem_cons.mpr ⟨lw_p111, fun _ h => absurd h List.not_mem_nil⟩⟩⟩⟩⟩⟩⟩⟩⟩⟩⟩⟩⟩⟩⟩⟩
theorem lw_p112 : lw_okq (⟨"LineColoursModel", "greatestUsed", "()I"⟩, 31) := ⟨⟨by decide +kernel, by decide +kernel⟩, List.mem_of_getElem? (i := 931) (by decide +kernel), List.mem_of_getElem? (i := 1210) (by decide +kernel), List.mem_of_getElem? (i := 1211) (by decide +kernel)⟩
theorem lw_p113 : lw_okq (⟨"LineColoursModel", "longerChain", "(II)I"⟩, 31) := ⟨⟨by decide +kernel, by decide +kernel⟩, List.mem_of_getElem? (i := 931) (by decide +kernel), List.mem_of_getElem? (i := 1214) (by decide +kernel), List.mem_of_getElem? (i := 1215) (by decide +kernel)⟩
theorem lw_p114 : lw_okq (⟨"LineColoursModel", "indexOf", "(I)I"⟩, 31) := ⟨⟨by decide +kernel, by decide +kernel⟩, List.mem_of_getElem? (i := 931) (by decide +kernel), List.mem_of_getElem? (i := 1222) (by decide +kernel), List.mem_of_getElem? (i := 1223) (by decide +kernel)⟩
theorem lw_p115 : lw_okq (⟨"LineColoursModel", "laysFirst", "(II)Z"⟩, 31) := ⟨⟨by decide +kernel, by decide +kernel⟩, List.mem_of_getElem? (i := 931) (by decide +kernel), List.mem_of_getElem? (i := 1226) (by decide +kernel), List.mem_of_getElem? (i := 1227) (by decide +kernel)⟩
theorem lw_p116 : lw_okq (⟨"LineColoursModel", "picksFirst", "(I)Z"⟩, 31) := ⟨⟨by decide +kernel, by decide +kernel⟩, List.mem_of_getElem? (i := 931) (by decide +kernel), List.mem_of_getElem? (i := 1230) (by decide +kernel), List.mem_of_getElem? (i := 1231) (by decide +kernel)⟩
theorem lw_p117 : lw_okq (⟨"LineColoursModel", "canGoOn", "(I)Z"⟩, 31) := ⟨⟨by decide +kernel, by decide +kernel⟩, List.mem_of_getElem? (i := 931) (by decide +kernel), List.mem_of_getElem? (i := 1234) (by decide +kernel), List.mem_of_getElem? (i := 1235) (by decide +kernel)⟩
theorem lw_p118 : lw_okq (⟨"LineColoursModel", "waysOf", "(I)I"⟩, 31) := ⟨⟨by decide +kernel, by decide +kernel⟩, List.mem_of_getElem? (i := 931) (by decide +kernel), List.mem_of_getElem? (i := 1238) (by decide +kernel), List.mem_of_getElem? (i := 1239) (by decide +kernel)⟩
theorem lw_p119 : lw_okq (⟨"LineColoursModel", "picks", "(II)V"⟩, 31) := ⟨⟨by decide +kernel, by decide +kernel⟩, List.mem_of_getElem? (i := 931) (by decide +kernel), List.mem_of_getElem? (i := 1242) (by decide +kernel), List.mem_of_getElem? (i := 1243) (by decide +kernel)⟩
theorem lw_p120 : lw_okq (⟨"LineColoursModel", "laysParts", "(I)V"⟩, 31) := ⟨⟨by decide +kernel, by decide +kernel⟩, List.mem_of_getElem? (i := 931) (by decide +kernel), List.mem_of_getElem? (i := 1246) (by decide +kernel), List.mem_of_getElem? (i := 1247) (by decide +kernel)⟩
theorem lw_p121 : lw_okq (⟨"LineColoursModel", "fewestWays", "(I)I"⟩, 31) := ⟨⟨by decide +kernel, by decide +kernel⟩, List.mem_of_getElem? (i := 931) (by decide +kernel), List.mem_of_getElem? (i := 1250) (by decide +kernel), List.mem_of_getElem? (i := 1251) (by decide +kernel)⟩
theorem lw_p122 : lw_okq (⟨"LineColoursModel", "canBeEnough", "(I)Z"⟩, 31) := ⟨⟨by decide +kernel, by decide +kernel⟩, List.mem_of_getElem? (i := 931) (by decide +kernel), List.mem_of_getElem? (i := 1254) (by decide +kernel), List.mem_of_getElem? (i := 1255) (by decide +kernel)⟩
theorem lw_p123 : lw_okq (⟨"LineColoursModel", "canBeAt", "(II)Z"⟩, 31) := ⟨⟨by decide +kernel, by decide +kernel⟩, List.mem_of_getElem? (i := 931) (by decide +kernel), List.mem_of_getElem? (i := 1258) (by decide +kernel), List.mem_of_getElem? (i := 1259) (by decide +kernel)⟩
theorem lw_p124 : lw_okq (⟨"LineColoursModel", "triesOf", "(I)I"⟩, 31) := ⟨⟨by decide +kernel, by decide +kernel⟩, List.mem_of_getElem? (i := 931) (by decide +kernel), List.mem_of_getElem? (i := 1262) (by decide +kernel), List.mem_of_getElem? (i := 1263) (by decide +kernel)⟩
theorem lw_p125 : lw_okq (⟨"LineColoursModel", "fullSet", "(I)I"⟩, 31) := ⟨⟨by decide +kernel, by decide +kernel⟩, List.mem_of_getElem? (i := 931) (by decide +kernel), List.mem_of_getElem? (i := 1291) (by decide +kernel), List.mem_of_getElem? (i := 1292) (by decide +kernel)⟩
theorem lw_p126 : lw_okq (⟨"LineColoursModel", "allPosts", "()I"⟩, 31) := ⟨⟨by decide +kernel, by decide +kernel⟩, List.mem_of_getElem? (i := 931) (by decide +kernel), List.mem_of_getElem? (i := 1295) (by decide +kernel), List.mem_of_getElem? (i := 1296) (by decide +kernel)⟩
theorem lw_p127 : lw_okq (⟨"LineColoursModel", "linesWithin", "(I)I"⟩, 31) := ⟨⟨by decide +kernel, by decide +kernel⟩, List.mem_of_getElem? (i := 931) (by decide +kernel), List.mem_of_getElem? (i := 1299) (by decide +kernel), List.mem_of_getElem? (i := 1300) (by decide +kernel)⟩
def lw_privs_8 : List (MethodName × Nat) := [(⟨"LineColoursModel", "greatestUsed", "()I"⟩, 31), (⟨"LineColoursModel", "longerChain", "(II)I"⟩, 31), (⟨"LineColoursModel", "indexOf", "(I)I"⟩, 31), (⟨"LineColoursModel", "laysFirst", "(II)Z"⟩, 31), (⟨"LineColoursModel", "picksFirst", "(I)Z"⟩, 31), (⟨"LineColoursModel", "canGoOn", "(I)Z"⟩, 31), (⟨"LineColoursModel", "waysOf", "(I)I"⟩, 31), (⟨"LineColoursModel", "picks", "(II)V"⟩, 31), (⟨"LineColoursModel", "laysParts", "(I)V"⟩, 31), (⟨"LineColoursModel", "fewestWays", "(I)I"⟩, 31), (⟨"LineColoursModel", "canBeEnough", "(I)Z"⟩, 31), (⟨"LineColoursModel", "canBeAt", "(II)Z"⟩, 31), (⟨"LineColoursModel", "triesOf", "(I)I"⟩, 31), (⟨"LineColoursModel", "fullSet", "(I)I"⟩, 31), (⟨"LineColoursModel", "allPosts", "()I"⟩, 31), (⟨"LineColoursModel", "linesWithin", "(I)I"⟩, 31)]
theorem lw_r8 : ∀ q ∈ lw_privs_8, lw_okq q := List.forall_mem_cons.mpr ⟨lw_p112, List.forall_mem_cons.mpr ⟨lw_p113, List.forall_mem_cons.mpr ⟨lw_p114, List.forall_mem_cons.mpr ⟨lw_p115, List.forall_mem_cons.mpr ⟨lw_p116, List.forall_mem_cons.mpr ⟨lw_p117, List.forall_mem_cons.mpr ⟨lw_p118, List.forall_mem_cons.mpr ⟨lw_p119, List.forall_mem_cons.mpr ⟨lw_p120, List.forall_mem_cons.mpr ⟨lw_p121, List.forall_mem_cons.mpr ⟨lw_p122, List.forall_mem_cons.mpr ⟨lw_p123, List.forall_mem_cons.mpr ⟨lw_p124, List.forall_mem_cons.mpr ⟨lw_p125, List.forall_mem_cons.mpr ⟨lw_p126, List.forall_mem_cons.mpr ⟨lw_p127, fun _ h => absurd h List.not_mem_nil⟩⟩⟩⟩⟩⟩⟩⟩⟩⟩⟩⟩⟩⟩⟩⟩
theorem lw_p128 : lw_okq (⟨"LineColoursModel", "laysParted", "()V"⟩, 31) := ⟨⟨by decide +kernel, by decide +kernel⟩, List.mem_of_getElem? (i := 931) (by decide +kernel), List.mem_of_getElem? (i := 1313) (by decide +kernel), List.mem_of_getElem? (i := 1314) (by decide +kernel)⟩
theorem lw_p129 : lw_okq (⟨"LineColoursModel", "partsAhead", "(I)I"⟩, 31) := ⟨⟨by decide +kernel, by decide +kernel⟩, List.mem_of_getElem? (i := 931) (by decide +kernel), List.mem_of_getElem? (i := 1317) (by decide +kernel), List.mem_of_getElem? (i := 1318) (by decide +kernel)⟩
theorem lw_p130 : lw_okq (⟨"LineColoursModel", "canBePart", "(I)Z"⟩, 31) := ⟨⟨by decide +kernel, by decide +kernel⟩, List.mem_of_getElem? (i := 931) (by decide +kernel), List.mem_of_getElem? (i := 1321) (by decide +kernel), List.mem_of_getElem? (i := 1322) (by decide +kernel)⟩
theorem lw_p131 : lw_okq (⟨"LineColoursModel", "doMeet", "(II)Z"⟩, 31) := ⟨⟨by decide +kernel, by decide +kernel⟩, List.mem_of_getElem? (i := 931) (by decide +kernel), List.mem_of_getElem? (i := 1325) (by decide +kernel), List.mem_of_getElem? (i := 1326) (by decide +kernel)⟩
theorem lw_p132 : lw_okq (⟨"LineColoursModel", "codes", "(I)I"⟩, 31) := ⟨⟨by decide +kernel, by decide +kernel⟩, List.mem_of_getElem? (i := 931) (by decide +kernel), List.mem_of_getElem? (i := 1333) (by decide +kernel), List.mem_of_getElem? (i := 1334) (by decide +kernel)⟩
theorem lw_p133 : lw_okq (⟨"LineColoursModel", "laysTrial", "(II)V"⟩, 31) := ⟨⟨by decide +kernel, by decide +kernel⟩, List.mem_of_getElem? (i := 931) (by decide +kernel), List.mem_of_getElem? (i := 1337) (by decide +kernel), List.mem_of_getElem? (i := 1338) (by decide +kernel)⟩
theorem lw_p134 : lw_okq (⟨"LineColoursModel", "isTrialFit", "()Z"⟩, 31) := ⟨⟨by decide +kernel, by decide +kernel⟩, List.mem_of_getElem? (i := 931) (by decide +kernel), List.mem_of_getElem? (i := 1341) (by decide +kernel), List.mem_of_getElem? (i := 1342) (by decide +kernel)⟩
theorem lw_p135 : lw_okq (⟨"LineColoursModel", "spreads", "(III)V"⟩, 31) := ⟨⟨by decide +kernel, by decide +kernel⟩, List.mem_of_getElem? (i := 931) (by decide +kernel), List.mem_of_getElem? (i := 1345) (by decide +kernel), List.mem_of_getElem? (i := 1346) (by decide +kernel)⟩
theorem lw_p136 : lw_okq (⟨"LineColoursModel", "codeOf", "([II)I"⟩, 31) := ⟨⟨by decide +kernel, by decide +kernel⟩, List.mem_of_getElem? (i := 931) (by decide +kernel), List.mem_of_getElem? (i := 1349) (by decide +kernel), List.mem_of_getElem? (i := 1350) (by decide +kernel)⟩
theorem lw_p137 : lw_okq (⟨"LineColoursModel", "areBelow", "([II)Z"⟩, 31) := ⟨⟨by decide +kernel, by decide +kernel⟩, List.mem_of_getElem? (i := 931) (by decide +kernel), List.mem_of_getElem? (i := 1357) (by decide +kernel), List.mem_of_getElem? (i := 1358) (by decide +kernel)⟩
theorem lw_p138 : lw_okq (⟨"LineColoursModel", "laysApart", "()V"⟩, 31) := ⟨⟨by decide +kernel, by decide +kernel⟩, List.mem_of_getElem? (i := 931) (by decide +kernel), List.mem_of_getElem? (i := 1365) (by decide +kernel), List.mem_of_getElem? (i := 1366) (by decide +kernel)⟩
theorem lw_p139 : lw_okq (⟨"LineColoursModel", "apartBy", "(II)I"⟩, 31) := ⟨⟨by decide +kernel, by decide +kernel⟩, List.mem_of_getElem? (i := 931) (by decide +kernel), List.mem_of_getElem? (i := 1369) (by decide +kernel), List.mem_of_getElem? (i := 1370) (by decide +kernel)⟩
theorem lw_p140 : lw_okq (⟨"LineColoursModel", "areThere", "(II)Z"⟩, 31) := ⟨⟨by decide +kernel, by decide +kernel⟩, List.mem_of_getElem? (i := 931) (by decide +kernel), List.mem_of_getElem? (i := 1373) (by decide +kernel), List.mem_of_getElem? (i := 1374) (by decide +kernel)⟩
theorem lw_p141 : lw_okq (⟨"LineColoursModel", "without", "(II)I"⟩, 31) := ⟨⟨by decide +kernel, by decide +kernel⟩, List.mem_of_getElem? (i := 931) (by decide +kernel), List.mem_of_getElem? (i := 1377) (by decide +kernel), List.mem_of_getElem? (i := 1378) (by decide +kernel)⟩
theorem lw_p142 : lw_okq (⟨"LineColoursModel", "idleAll", "()I"⟩, 31) := ⟨⟨by decide +kernel, by decide +kernel⟩, List.mem_of_getElem? (i := 931) (by decide +kernel), List.mem_of_getElem? (i := 1409) (by decide +kernel), List.mem_of_getElem? (i := 1410) (by decide +kernel)⟩
theorem lw_p143 : lw_okq (⟨"LineColoursModel", "idleAt", "(I)I"⟩, 31) := ⟨⟨by decide +kernel, by decide +kernel⟩, List.mem_of_getElem? (i := 931) (by decide +kernel), List.mem_of_getElem? (i := 1413) (by decide +kernel), List.mem_of_getElem? (i := 1414) (by decide +kernel)⟩
def lw_privs_9 : List (MethodName × Nat) := [(⟨"LineColoursModel", "laysParted", "()V"⟩, 31), (⟨"LineColoursModel", "partsAhead", "(I)I"⟩, 31), (⟨"LineColoursModel", "canBePart", "(I)Z"⟩, 31), (⟨"LineColoursModel", "doMeet", "(II)Z"⟩, 31), (⟨"LineColoursModel", "codes", "(I)I"⟩, 31), (⟨"LineColoursModel", "laysTrial", "(II)V"⟩, 31), (⟨"LineColoursModel", "isTrialFit", "()Z"⟩, 31), (⟨"LineColoursModel", "spreads", "(III)V"⟩, 31), (⟨"LineColoursModel", "codeOf", "([II)I"⟩, 31), (⟨"LineColoursModel", "areBelow", "([II)Z"⟩, 31), (⟨"LineColoursModel", "laysApart", "()V"⟩, 31), (⟨"LineColoursModel", "apartBy", "(II)I"⟩, 31), (⟨"LineColoursModel", "areThere", "(II)Z"⟩, 31), (⟨"LineColoursModel", "without", "(II)I"⟩, 31), (⟨"LineColoursModel", "idleAll", "()I"⟩, 31), (⟨"LineColoursModel", "idleAt", "(I)I"⟩, 31)]
theorem lw_r9 : ∀ q ∈ lw_privs_9, lw_okq q := List.forall_mem_cons.mpr ⟨lw_p128, List.forall_mem_cons.mpr ⟨lw_p129, List.forall_mem_cons.mpr ⟨lw_p130, List.forall_mem_cons.mpr ⟨lw_p131, List.forall_mem_cons.mpr ⟨lw_p132, List.forall_mem_cons.mpr ⟨lw_p133, List.forall_mem_cons.mpr ⟨lw_p134, List.forall_mem_cons.mpr ⟨lw_p135, List.forall_mem_cons.mpr ⟨lw_p136, List.forall_mem_cons.mpr ⟨lw_p137, List.forall_mem_cons.mpr ⟨lw_p138, List.forall_mem_cons.mpr ⟨lw_p139, List.forall_mem_cons.mpr ⟨lw_p140, List.forall_mem_cons.mpr ⟨lw_p141, List.forall_mem_cons.mpr ⟨lw_p142, List.forall_mem_cons.mpr ⟨lw_p143, fun _ h => absurd h List.not_mem_nil⟩⟩⟩⟩⟩⟩⟩⟩⟩⟩⟩⟩⟩⟩⟩⟩
theorem lw_p144 : lw_okq (⟨"LineColoursModel", "unlikeMany", "()I"⟩, 31) := ⟨⟨by decide +kernel, by decide +kernel⟩, List.mem_of_getElem? (i := 931) (by decide +kernel), List.mem_of_getElem? (i := 1429) (by decide +kernel), List.mem_of_getElem? (i := 1430) (by decide +kernel)⟩
theorem lw_p145 : lw_okq (⟨"LineColoursModel", "areLike", "()Z"⟩, 31) := ⟨⟨by decide +kernel, by decide +kernel⟩, List.mem_of_getElem? (i := 931) (by decide +kernel), List.mem_of_getElem? (i := 1437) (by decide +kernel), List.mem_of_getElem? (i := 1438) (by decide +kernel)⟩
theorem lw_p146 : lw_okq (⟨"LineColoursModel", "bareMany", "()I"⟩, 31) := ⟨⟨by decide +kernel, by decide +kernel⟩, List.mem_of_getElem? (i := 931) (by decide +kernel), List.mem_of_getElem? (i := 1445) (by decide +kernel), List.mem_of_getElem? (i := 1446) (by decide +kernel)⟩
theorem lw_p147 : lw_okq (⟨"LineColoursModel", "usedColours", "()I"⟩, 31) := ⟨⟨by decide +kernel, by decide +kernel⟩, List.mem_of_getElem? (i := 931) (by decide +kernel), List.mem_of_getElem? (i := 1449) (by decide +kernel), List.mem_of_getElem? (i := 1450) (by decide +kernel)⟩
theorem lw_p148 : lw_okq (⟨"LineColoursModel", "uneven", "()I"⟩, 31) := ⟨⟨by decide +kernel, by decide +kernel⟩, List.mem_of_getElem? (i := 931) (by decide +kernel), List.mem_of_getElem? (i := 1453) (by decide +kernel), List.mem_of_getElem? (i := 1454) (by decide +kernel)⟩
theorem lw_p149 : lw_okq (⟨"LineColoursModel", "easyMany", "()I"⟩, 31) := ⟨⟨by decide +kernel, by decide +kernel⟩, List.mem_of_getElem? (i := 931) (by decide +kernel), List.mem_of_getElem? (i := 1457) (by decide +kernel), List.mem_of_getElem? (i := 1458) (by decide +kernel)⟩
def lw_privs_10 : List (MethodName × Nat) := [(⟨"LineColoursModel", "unlikeMany", "()I"⟩, 31), (⟨"LineColoursModel", "areLike", "()Z"⟩, 31), (⟨"LineColoursModel", "bareMany", "()I"⟩, 31), (⟨"LineColoursModel", "usedColours", "()I"⟩, 31), (⟨"LineColoursModel", "uneven", "()I"⟩, 31), (⟨"LineColoursModel", "easyMany", "()I"⟩, 31)]
theorem lw_r10 : ∀ q ∈ lw_privs_10, lw_okq q := List.forall_mem_cons.mpr ⟨lw_p144, List.forall_mem_cons.mpr ⟨lw_p145, List.forall_mem_cons.mpr ⟨lw_p146, List.forall_mem_cons.mpr ⟨lw_p147, List.forall_mem_cons.mpr ⟨lw_p148, List.forall_mem_cons.mpr ⟨lw_p149, fun _ h => absurd h List.not_mem_nil⟩⟩⟩⟩⟩⟩
def lw_privs : List (MethodName × Nat) := lw_privs_1 ++ (lw_privs_2 ++ (lw_privs_3 ++ (lw_privs_4 ++ (lw_privs_5 ++ (lw_privs_6 ++ (lw_privs_7 ++ (lw_privs_8 ++ (lw_privs_9 ++ (lw_privs_10)))))))))
def lw_tbl : List Cond := k2_sels lw_privs ++ tables_1
theorem lw_privs_ok : ∀ q ∈ lw_privs, lw_okq q := by
  show ∀ q ∈ lw_privs_1 ++ (lw_privs_2 ++ (lw_privs_3 ++ (lw_privs_4 ++ (lw_privs_5 ++ (lw_privs_6 ++ (lw_privs_7 ++ (lw_privs_8 ++ (lw_privs_9 ++ (lw_privs_10))))))))), lw_okq q
  exact List.forall_mem_append.mpr ⟨lw_r1, List.forall_mem_append.mpr ⟨lw_r2, List.forall_mem_append.mpr ⟨lw_r3, List.forall_mem_append.mpr ⟨lw_r4, List.forall_mem_append.mpr ⟨lw_r5, List.forall_mem_append.mpr ⟨lw_r6, List.forall_mem_append.mpr ⟨lw_r7, List.forall_mem_append.mpr ⟨lw_r8, List.forall_mem_append.mpr ⟨lw_r9, lw_r10⟩⟩⟩⟩⟩⟩⟩⟩⟩
-- ===== end of PART A; then your names; then what follows =====
end
section
/-! ===== BEGIN printed: names, fields, word lists, decode rows ===== -/
def RX0 : String := "LineColours$Apart"
def TX0 : u_T := fun k => match k with
  | 0 => ("LineColours$Apart", "net", "LLineColours$Network;", true)
  | 1 => ("LineColours$Apart", "howMany", "[I", true)
  | _ => ("LineColours$Apart", "least", "[I", true)
def tyX0 : Nat → FieldType := fun k => match k with
  | 0 => .object "LineColours$Network"
  | 1 => .array .int
  | _ => .array .int
abbrev wsX00 : List Cond := u_ws RX0 TX0 3
theorem nmX0 : ∀ a, a < 3 → ∀ b, b < 3 → a ≠ b → (TX0 a).2.1 ≠ (TX0 b).2.1 := by decide +kernel
theorem tyX0_ok : ∀ k, k < 3 → parseFieldDescriptor (TX0 k).2.2.1 = some (tyX0 k) := by decide +kernel
abbrev cX0_init : ByteArray := prog_2_method_1_code
def yX0_init : MethodName := ⟨RX0, "<init>", "(LLineColours$Network;)V"⟩
abbrev cX0_gatherAll : ByteArray := prog_2_method_2_code
def yX0_gatherAll : MethodName := ⟨RX0, "gatherAll", "()V"⟩
abbrev cX0_gather : ByteArray := prog_2_method_3_code
def yX0_gather : MethodName := ⟨RX0, "gather", "(IIII)V"⟩
abbrev cX0_most : ByteArray := prog_2_method_4_code
def yX0_most : MethodName := ⟨RX0, "most", "()I"⟩
def RX1 : String := "LineColours$Calmer"
def TX1 : u_T := fun k => match k with
  | 0 => ("LineColours$Calmer", "net", "LLineColours$Network;", true)
  | 1 => ("LineColours$Calmer", "now", "LLineColours$Colouring;", true)
  | 2 => ("LineColours$Calmer", "less", "I", false)
  | 3 => ("LineColours$Calmer", "one", "I", false)
  | _ => ("LineColours$Calmer", "other", "I", false)
def tyX1 : Nat → FieldType := fun k => match k with
  | 0 => .object "LineColours$Network"
  | 1 => .object "LineColours$Colouring"
  | 2 => .int
  | 3 => .int
  | _ => .int
abbrev wsX10 : List Cond := u_ws RX1 TX1 5
theorem nmX1 : ∀ a, a < 5 → ∀ b, b < 5 → a ≠ b → (TX1 a).2.1 ≠ (TX1 b).2.1 := by decide +kernel
theorem tyX1_ok : ∀ k, k < 5 → parseFieldDescriptor (TX1 k).2.2.1 = some (tyX1 k) := by decide +kernel
abbrev cX1_init : ByteArray := prog_3_method_1_code
def yX1_init : MethodName := ⟨RX1, "<init>", "(LLineColours$Network;LLineColours$Colouring;)V"⟩
abbrev cX1_idleOfAll : ByteArray := prog_3_method_2_code
def yX1_idleOfAll : MethodName := ⟨RX1, "idleOfAll", "(II)I"⟩
abbrev cX1_look : ByteArray := prog_3_method_3_code
def yX1_look : MethodName := ⟨RX1, "look", "()V"⟩
def RX2 : String := "LineColours$ChainWalk"
def TX2 : u_T := fun k => match k with
  | 0 => ("LineColours$ChainWalk", "net", "LLineColours$Network;", true)
  | _ => ("LineColours$ChainWalk", "now", "LLineColours$Colouring;", true)
def tyX2 : Nat → FieldType := fun k => match k with
  | 0 => .object "LineColours$Network"
  | _ => .object "LineColours$Colouring"
abbrev wsX20 : List Cond := u_ws RX2 TX2 2
theorem nmX2 : ∀ a, a < 2 → ∀ b, b < 2 → a ≠ b → (TX2 a).2.1 ≠ (TX2 b).2.1 := by decide +kernel
theorem tyX2_ok : ∀ k, k < 2 → parseFieldDescriptor (TX2 k).2.2.1 = some (tyX2 k) := by decide +kernel
abbrev cX2_init : ByteArray := prog_4_method_1_code
def yX2_init : MethodName := ⟨RX2, "<init>", "(LLineColours$Network;LLineColours$Colouring;)V"⟩
abbrev cX2_countChains : ByteArray := prog_4_method_2_code
def yX2_countChains : MethodName := ⟨RX2, "countChains", "(II)I"⟩
abbrev cX2_longestChain : ByteArray := prog_4_method_3_code
def yX2_longestChain : MethodName := ⟨RX2, "longestChain", "(II)I"⟩
abbrev cX2_leaningChain : ByteArray := prog_4_method_4_code
def yX2_leaningChain : MethodName := ⟨RX2, "leaningChain", "(II)I"⟩
abbrev cX2_makeEven : ByteArray := prog_4_method_5_code
def yX2_makeEven : MethodName := ⟨RX2, "makeEven", "()I"⟩
abbrev cX2_howMany : ByteArray := prog_4_method_6_code
def yX2_howMany : MethodName := ⟨RX2, "howMany", "(I)I"⟩
abbrev cX2_greatestUsed : ByteArray := prog_4_method_7_code
def yX2_greatestUsed : MethodName := ⟨RX2, "greatestUsed", "()I"⟩
def RX3 : String := "LineColours$Colouring"
def TX3 : u_T := fun k => match k with
  | 0 => ("LineColours$Colouring", "net", "LLineColours$Network;", true)
  | 1 => ("LineColours$Colouring", "colourOf", "[I", true)
  | _ => ("LineColours$Colouring", "linesOf", "[I", true)
def tyX3 : Nat → FieldType := fun k => match k with
  | 0 => .object "LineColours$Network"
  | 1 => .array .int
  | _ => .array .int
abbrev wsX30 : List Cond := u_ws RX3 TX3 3
theorem nmX3 : ∀ a, a < 3 → ∀ b, b < 3 → a ≠ b → (TX3 a).2.1 ≠ (TX3 b).2.1 := by decide +kernel
theorem tyX3_ok : ∀ k, k < 3 → parseFieldDescriptor (TX3 k).2.2.1 = some (tyX3 k) := by decide +kernel
abbrev cX3_init : ByteArray := prog_5_method_1_code
def yX3_init : MethodName := ⟨RX3, "<init>", "(LLineColours$Network;)V"⟩
abbrev cX3_clear : ByteArray := prog_5_method_2_code
def yX3_clear : MethodName := ⟨RX3, "clear", "()V"⟩
abbrev cX3_colours : ByteArray := prog_5_method_3_code
def yX3_colours : MethodName := ⟨RX3, "colours", "()I"⟩
abbrev cX3_isColour : ByteArray := prog_5_method_4_code
def yX3_isColour : MethodName := ⟨RX3, "isColour", "(I)Z"⟩
abbrev cX3_areUnlike : ByteArray := prog_5_method_5_code
def yX3_areUnlike : MethodName := ⟨RX3, "areUnlike", "(II)Z"⟩
abbrev cX3_bareLines : ByteArray := prog_5_method_6_code
def yX3_bareLines : MethodName := ⟨RX3, "bareLines", "()I"⟩
abbrev cX3_usedColours : ByteArray := prog_5_method_7_code
def yX3_usedColours : MethodName := ⟨RX3, "usedColours", "()I"⟩
abbrev cX3_unevenness : ByteArray := prog_5_method_8_code
def yX3_unevenness : MethodName := ⟨RX3, "unevenness", "()I"⟩
abbrev cX3_coloursAt : ByteArray := prog_5_method_9_code
def yX3_coloursAt : MethodName := ⟨RX3, "coloursAt", "(I)I"⟩
abbrev cX3_freeAt : ByteArray := prog_5_method_10_code
def yX3_freeAt : MethodName := ⟨RX3, "freeAt", "(I)I"⟩
abbrev cX3_freeAtBoth : ByteArray := prog_5_method_11_code
def yX3_freeAtBoth : MethodName := ⟨RX3, "freeAtBoth", "(I)I"⟩
abbrev cX3_leastFreeAt : ByteArray := prog_5_method_12_code
def yX3_leastFreeAt : MethodName := ⟨RX3, "leastFreeAt", "(I)I"⟩
abbrev cX3_isFreeAt : ByteArray := prog_5_method_13_code
def yX3_isFreeAt : MethodName := ⟨RX3, "isFreeAt", "(II)Z"⟩
abbrev cX3_lineWith : ByteArray := prog_5_method_14_code
def yX3_lineWith : MethodName := ⟨RX3, "lineWith", "(II)I"⟩
abbrev cX3_strip : ByteArray := prog_5_method_15_code
def yX3_strip : MethodName := ⟨RX3, "strip", "(I)V"⟩
abbrev cX3_give : ByteArray := prog_5_method_16_code
def yX3_give : MethodName := ⟨RX3, "give", "(II)V"⟩
abbrev cX3_chainOf : ByteArray := prog_5_method_17_code
def yX3_chainOf : MethodName := ⟨RX3, "chainOf", "(III)I"⟩
abbrev cX3_flip : ByteArray := prog_5_method_18_code
def yX3_flip : MethodName := ⟨RX3, "flip", "(III)V"⟩
abbrev cX3_giveBelowDegree : ByteArray := prog_5_method_19_code
def yX3_giveBelowDegree : MethodName := ⟨RX3, "giveBelowDegree", "(I)V"⟩
def RX4 : String := "LineColours$Fan"
def TX4 : u_T := fun k => match k with
  | 0 => ("LineColours$Fan", "net", "LLineColours$Network;", true)
  | 1 => ("LineColours$Fan", "now", "LLineColours$Colouring;", true)
  | 2 => ("LineColours$Fan", "row", "[I", true)
  | _ => ("LineColours$Fan", "size", "I", false)
def tyX4 : Nat → FieldType := fun k => match k with
  | 0 => .object "LineColours$Network"
  | 1 => .object "LineColours$Colouring"
  | 2 => .array .int
  | _ => .int
abbrev wsX40 : List Cond := u_ws RX4 TX4 4
theorem nmX4 : ∀ a, a < 4 → ∀ b, b < 4 → a ≠ b → (TX4 a).2.1 ≠ (TX4 b).2.1 := by decide +kernel
theorem tyX4_ok : ∀ k, k < 4 → parseFieldDescriptor (TX4 k).2.2.1 = some (tyX4 k) := by decide +kernel
abbrev cX4_init : ByteArray := prog_6_method_1_code
def yX4_init : MethodName := ⟨RX4, "<init>", "(LLineColours$Network;LLineColours$Colouring;)V"⟩
abbrev cX4_lay : ByteArray := prog_6_method_2_code
def yX4_lay : MethodName := ⟨RX4, "lay", "(II)V"⟩
abbrev cX4_follower : ByteArray := prog_6_method_3_code
def yX4_follower : MethodName := ⟨RX4, "follower", "(III)I"⟩
abbrev cX4_placeLacking : ByteArray := prog_6_method_4_code
def yX4_placeLacking : MethodName := ⟨RX4, "placeLacking", "(II)I"⟩
abbrev cX4_follows : ByteArray := prog_6_method_5_code
def yX4_follows : MethodName := ⟨RX4, "follows", "(II)Z"⟩
abbrev cX4_shift : ByteArray := prog_6_method_6_code
def yX4_shift : MethodName := ⟨RX4, "shift", "(III)V"⟩
def RX5 : String := "LineColours$Grower"
def TX5 : u_T := fun k => match k with
  | 0 => ("LineColours$Grower", "net", "LLineColours$Network;", true)
  | 1 => ("LineColours$Grower", "now", "LLineColours$Colouring;", true)
  | 2 => ("LineColours$Grower", "fan", "LLineColours$Fan;", true)
  | 3 => ("LineColours$Grower", "last", "[I", true)
  | _ => ("LineColours$Grower", "any", "Z", false)
def tyX5 : Nat → FieldType := fun k => match k with
  | 0 => .object "LineColours$Network"
  | 1 => .object "LineColours$Colouring"
  | 2 => .object "LineColours$Fan"
  | 3 => .array .int
  | _ => .boolean
abbrev wsX50 : List Cond := u_ws RX5 TX5 5
theorem nmX5 : ∀ a, a < 5 → ∀ b, b < 5 → a ≠ b → (TX5 a).2.1 ≠ (TX5 b).2.1 := by decide +kernel
theorem tyX5_ok : ∀ k, k < 5 → parseFieldDescriptor (TX5 k).2.2.1 = some (tyX5 k) := by decide +kernel
abbrev cX5_init : ByteArray := prog_7_method_1_code
def yX5_init : MethodName := ⟨RX5, "<init>", "(LLineColours$Network;LLineColours$Colouring;LLineColours$Fan;)V"⟩
abbrev cX5_raise : ByteArray := prog_7_method_2_code
def yX5_raise : MethodName := ⟨RX5, "raise", "(I)V"⟩
def RX6 : String := "LineColours$Network"
def TX6 : u_T := fun k => match k with
  | 0 => ("LineColours$Network", "low", "[I", true)
  | 1 => ("LineColours$Network", "high", "[I", true)
  | 2 => ("LineColours$Network", "meeting", "[I", true)
  | 3 => ("LineColours$Network", "linesAt", "[I", true)
  | 4 => ("LineColours$Network", "nextTo", "[I", true)
  | 5 => ("LineColours$Network", "posts", "I", false)
  | 6 => ("LineColours$Network", "lines", "I", false)
  | _ => ("LineColours$Network", "degree", "I", false)
def tyX6 : Nat → FieldType := fun k => match k with
  | 0 => .array .int
  | 1 => .array .int
  | 2 => .array .int
  | 3 => .array .int
  | 4 => .array .int
  | 5 => .int
  | 6 => .int
  | _ => .int
abbrev wsX60 : List Cond := u_ws RX6 TX6 8
theorem nmX6 : ∀ a, a < 8 → ∀ b, b < 8 → a ≠ b → (TX6 a).2.1 ≠ (TX6 b).2.1 := by decide +kernel
theorem tyX6_ok : ∀ k, k < 8 → parseFieldDescriptor (TX6 k).2.2.1 = some (tyX6 k) := by decide +kernel
abbrev cX6_init : ByteArray := prog_8_method_1_code
def yX6_init : MethodName := ⟨RX6, "<init>", "()V"⟩
abbrev cX6_clear : ByteArray := prog_8_method_2_code
def yX6_clear : MethodName := ⟨RX6, "clear", "(I)V"⟩
abbrev cX6_add : ByteArray := prog_8_method_3_code
def yX6_add : MethodName := ⟨RX6, "add", "(II)V"⟩
abbrev cX6_isPost : ByteArray := prog_8_method_4_code
def yX6_isPost : MethodName := ⟨RX6, "isPost", "(I)Z"⟩
abbrev cX6_isLine : ByteArray := prog_8_method_5_code
def yX6_isLine : MethodName := ⟨RX6, "isLine", "(I)Z"⟩
abbrev cX6_allPosts : ByteArray := prog_8_method_6_code
def yX6_allPosts : MethodName := ⟨RX6, "allPosts", "()I"⟩
abbrev cX6_allLines : ByteArray := prog_8_method_7_code
def yX6_allLines : MethodName := ⟨RX6, "allLines", "()I"⟩
abbrev cX6_farEnd : ByteArray := prog_8_method_8_code
def yX6_farEnd : MethodName := ⟨RX6, "farEnd", "(II)I"⟩
abbrev cX6_lineBetween : ByteArray := prog_8_method_9_code
def yX6_lineBetween : MethodName := ⟨RX6, "lineBetween", "(II)I"⟩
abbrev cX6_mostAtOnePost : ByteArray := prog_8_method_10_code
def yX6_mostAtOnePost : MethodName := ⟨RX6, "mostAtOnePost", "(I)I"⟩
abbrev cX6_leastPostAbove : ByteArray := prog_8_method_11_code
def yX6_leastPostAbove : MethodName := ⟨RX6, "leastPostAbove", "(I)I"⟩
abbrev cX6_postsOf : ByteArray := prog_8_method_12_code
def yX6_postsOf : MethodName := ⟨RX6, "postsOf", "(I)I"⟩
abbrev cX6_linesWithin : ByteArray := prog_8_method_13_code
def yX6_linesWithin : MethodName := ⟨RX6, "linesWithin", "(II)I"⟩
abbrev cX6_crowdedSet : ByteArray := prog_8_method_14_code
def yX6_crowdedSet : MethodName := ⟨RX6, "crowdedSet", "(II)I"⟩
abbrev cX6_joined : ByteArray := prog_8_method_15_code
def yX6_joined : MethodName := ⟨RX6, "joined", "(II)I"⟩
abbrev cX6_neighbours : ByteArray := prog_8_method_16_code
def yX6_neighbours : MethodName := ⟨RX6, "neighbours", "(I)I"⟩
abbrev cX6_onePart : ByteArray := prog_8_method_17_code
def yX6_onePart : MethodName := ⟨RX6, "onePart", "()I"⟩
abbrev cX6_leastOddRound : ByteArray := prog_8_method_18_code
def yX6_leastOddRound : MethodName := ⟨RX6, "leastOddRound", "()I"⟩
def RX7 : String := "LineColours$Search"
def TX7 : u_T := fun k => match k with
  | 0 => ("LineColours$Search", "net", "LLineColours$Network;", true)
  | 1 => ("LineColours$Search", "open", "[I", true)
  | 2 => ("LineColours$Search", "chosen", "[I", true)
  | 3 => ("LineColours$Search", "answer", "[I", true)
  | 4 => ("LineColours$Search", "answerFor", "I", false)
  | 5 => ("LineColours$Search", "hasAnswer", "Z", false)
  | 6 => ("LineColours$Search", "fewestKnown", "I", false)
  | _ => ("LineColours$Search", "dearKnown", "I", false)
def tyX7 : Nat → FieldType := fun k => match k with
  | 0 => .object "LineColours$Network"
  | 1 => .array .int
  | 2 => .array .int
  | 3 => .array .int
  | 4 => .int
  | 5 => .boolean
  | 6 => .int
  | _ => .int
abbrev wsX70 : List Cond := u_ws RX7 TX7 8
theorem nmX7 : ∀ a, a < 8 → ∀ b, b < 8 → a ≠ b → (TX7 a).2.1 ≠ (TX7 b).2.1 := by decide +kernel
theorem tyX7_ok : ∀ k, k < 8 → parseFieldDescriptor (TX7 k).2.2.1 = some (tyX7 k) := by decide +kernel
abbrev cX7_init : ByteArray := prog_9_method_1_code
def yX7_init : MethodName := ⟨RX7, "<init>", "(LLineColours$Network;)V"⟩
abbrev cX7_forget : ByteArray := prog_9_method_2_code
def yX7_forget : MethodName := ⟨RX7, "forget", "()V"⟩
abbrev cX7_forgetAnswer : ByteArray := prog_9_method_3_code
def yX7_forgetAnswer : MethodName := ⟨RX7, "forgetAnswer", "()V"⟩
abbrev cX7_fewest : ByteArray := prog_9_method_4_code
def yX7_fewest : MethodName := ⟨RX7, "fewest", "()I"⟩
abbrev cX7_dearLines : ByteArray := prog_9_method_5_code
def yX7_dearLines : MethodName := ⟨RX7, "dearLines", "()I"⟩
abbrev cX7_canDo : ByteArray := prog_9_method_6_code
def yX7_canDo : MethodName := ⟨RX7, "canDo", "(II)Z"⟩
abbrev cX7_findFirst : ByteArray := prog_9_method_7_code
def yX7_findFirst : MethodName := ⟨RX7, "findFirst", "(I)Z"⟩
abbrev cX7_findListed : ByteArray := prog_9_method_8_code
def yX7_findListed : MethodName := ⟨RX7, "findListed", "([I)Z"⟩
abbrev cX7_openBelow : ByteArray := prog_9_method_9_code
def yX7_openBelow : MethodName := ⟨RX7, "openBelow", "(I)V"⟩
abbrev cX7_openListed : ByteArray := prog_9_method_10_code
def yX7_openListed : MethodName := ⟨RX7, "openListed", "([I)V"⟩
abbrev cX7_findLeast : ByteArray := prog_9_method_11_code
def yX7_findLeast : MethodName := ⟨RX7, "findLeast", "()Z"⟩
abbrev cX7_fixLeast : ByteArray := prog_9_method_12_code
def yX7_fixLeast : MethodName := ⟨RX7, "fixLeast", "(II)V"⟩
abbrev cX7_completeWith : ByteArray := prog_9_method_13_code
def yX7_completeWith : MethodName := ⟨RX7, "completeWith", "(IIII)Z"⟩
abbrev cX7_complete : ByteArray := prog_9_method_14_code
def yX7_complete : MethodName := ⟨RX7, "complete", "(II)Z"⟩
abbrev cX7_hasTwin : ByteArray := prog_9_method_15_code
def yX7_hasTwin : MethodName := ⟨RX7, "hasTwin", "(II)Z"⟩
abbrev cX7_tightest : ByteArray := prog_9_method_16_code
def yX7_tightest : MethodName := ⟨RX7, "tightest", "(I)I"⟩
abbrev cX7_isHopeless : ByteArray := prog_9_method_17_code
def yX7_isHopeless : MethodName := ⟨RX7, "isHopeless", "(I)Z"⟩
abbrev cX7_roomOfColours : ByteArray := prog_9_method_18_code
def yX7_roomOfColours : MethodName := ⟨RX7, "roomOfColours", "(I)I"⟩
abbrev cX7_hasCrampedPost : ByteArray := prog_9_method_19_code
def yX7_hasCrampedPost : MethodName := ⟨RX7, "hasCrampedPost", "(I)Z"⟩
def RX8 : String := "LineColours$Sharing"
def TX8 : u_T := fun k => match k with
  | 0 => ("LineColours$Sharing", "net", "LLineColours$Network;", true)
  | 1 => ("LineColours$Sharing", "groups", "[I", true)
  | _ => ("LineColours$Sharing", "howMany", "[I", true)
def tyX8 : Nat → FieldType := fun k => match k with
  | 0 => .object "LineColours$Network"
  | 1 => .array .int
  | _ => .array .int
abbrev wsX80 : List Cond := u_ws RX8 TX8 3
theorem nmX8 : ∀ a, a < 3 → ∀ b, b < 3 → a ≠ b → (TX8 a).2.1 ≠ (TX8 b).2.1 := by decide +kernel
theorem tyX8_ok : ∀ k, k < 3 → parseFieldDescriptor (TX8 k).2.2.1 = some (tyX8 k) := by decide +kernel
abbrev cX8_init : ByteArray := prog_10_method_1_code
def yX8_init : MethodName := ⟨RX8, "<init>", "(LLineColours$Network;)V"⟩
abbrev cX8_countColourings : ByteArray := prog_10_method_2_code
def yX8_countColourings : MethodName := ⟨RX8, "countColourings", "(I)J"⟩
abbrev cX8_share : ByteArray := prog_10_method_3_code
def yX8_share : MethodName := ⟨RX8, "share", "(II)V"⟩
def RX9 : String := "LineColours$Turning"
def TX9 : u_T := fun k => match k with
  | 0 => ("LineColours$Turning", "net", "LLineColours$Network;", true)
  | 1 => ("LineColours$Turning", "meets", "[I", true)
  | 2 => ("LineColours$Turning", "seen", "[I", true)
  | 3 => ("LineColours$Turning", "edge", "[I", true)
  | 4 => ("LineColours$Turning", "next", "[I", true)
  | 5 => ("LineColours$Turning", "colours", "I", false)
  | _ => ("LineColours$Turning", "kindsFound", "I", false)
def tyX9 : Nat → FieldType := fun k => match k with
  | 0 => .object "LineColours$Network"
  | 1 => .array .int
  | 2 => .array .int
  | 3 => .array .int
  | 4 => .array .int
  | 5 => .int
  | _ => .int
abbrev wsX90 : List Cond := u_ws RX9 TX9 7
theorem nmX9 : ∀ a, a < 7 → ∀ b, b < 7 → a ≠ b → (TX9 a).2.1 ≠ (TX9 b).2.1 := by decide +kernel
theorem tyX9_ok : ∀ k, k < 7 → parseFieldDescriptor (TX9 k).2.2.1 = some (tyX9 k) := by decide +kernel
abbrev cX9_init : ByteArray := prog_11_method_1_code
def yX9_init : MethodName := ⟨RX9, "<init>", "(LLineColours$Network;)V"⟩
abbrev cX9_countKinds : ByteArray := prog_11_method_2_code
def yX9_countKinds : MethodName := ⟨RX9, "countKinds", "(I)I"⟩
abbrev cX9_fewestTurns : ByteArray := prog_11_method_3_code
def yX9_fewestTurns : MethodName := ⟨RX9, "fewestTurns", "([I[II)I"⟩
abbrev cX9_prepare : ByteArray := prog_11_method_4_code
def yX9_prepare : MethodName := ⟨RX9, "prepare", "(I)V"⟩
abbrev cX9_spread : ByteArray := prog_11_method_5_code
def yX9_spread : MethodName := ⟨RX9, "spread", "(I)I"⟩
abbrev cX9_codeOf : ByteArray := prog_11_method_6_code
def yX9_codeOf : MethodName := ⟨RX9, "codeOf", "([I)I"⟩
abbrev cX9_place : ByteArray := prog_11_method_7_code
def yX9_place : MethodName := ⟨RX9, "place", "(II)V"⟩
abbrev cX9_spreadKind : ByteArray := prog_11_method_8_code
def yX9_spreadKind : MethodName := ⟨RX9, "spreadKind", "()V"⟩
abbrev cX9_isSeen : ByteArray := prog_11_method_9_code
def yX9_isSeen : MethodName := ⟨RX9, "isSeen", "(I)Z"⟩
abbrev cX9_mark : ByteArray := prog_11_method_10_code
def yX9_mark : MethodName := ⟨RX9, "mark", "(I)V"⟩
abbrev cX9_advance : ByteArray := prog_11_method_11_code
def yX9_advance : MethodName := ⟨RX9, "advance", "()Z"⟩
abbrev cX9_turnEach : ByteArray := prog_11_method_12_code
def yX9_turnEach : MethodName := ⟨RX9, "turnEach", "(I)V"⟩
abbrev cX9_linesWith : ByteArray := prog_11_method_13_code
def yX9_linesWith : MethodName := ⟨RX9, "linesWith", "(II)I"⟩
abbrev cX9_joinedIn : ByteArray := prog_11_method_14_code
def yX9_joinedIn : MethodName := ⟨RX9, "joinedIn", "(II)I"⟩
def RX10 : String := "LineColours"
def TX10 : u_T := fun k => match k with
  | 0 => ("LineColours", "net", "LLineColours$Network;", true)
  | 1 => ("LineColours", "now", "LLineColours$Colouring;", true)
  | 2 => ("LineColours", "fan", "LLineColours$Fan;", true)
  | 3 => ("LineColours", "grower", "LLineColours$Grower;", true)
  | 4 => ("LineColours", "walk", "LLineColours$ChainWalk;", true)
  | 5 => ("LineColours", "calmer", "LLineColours$Calmer;", true)
  | 6 => ("LineColours", "search", "LLineColours$Search;", true)
  | 7 => ("LineColours", "apart", "LLineColours$Apart;", true)
  | 8 => ("LineColours", "sharing", "LLineColours$Sharing;", true)
  | 9 => ("LineColours", "turning", "LLineColours$Turning;", true)
  | 10 => ("LineColours", "kept", "[I", true)
  | 11 => ("LineColours", "lists", "[I", true)
  | _ => ("LineColours", "anyKept", "Z", false)
def tyX10 : Nat → FieldType := fun k => match k with
  | 0 => .object "LineColours$Network"
  | 1 => .object "LineColours$Colouring"
  | 2 => .object "LineColours$Fan"
  | 3 => .object "LineColours$Grower"
  | 4 => .object "LineColours$ChainWalk"
  | 5 => .object "LineColours$Calmer"
  | 6 => .object "LineColours$Search"
  | 7 => .object "LineColours$Apart"
  | 8 => .object "LineColours$Sharing"
  | 9 => .object "LineColours$Turning"
  | 10 => .array .int
  | 11 => .array .int
  | _ => .boolean
abbrev wsX100 : List Cond := u_ws RX10 TX10 13
theorem nmX10 : ∀ a, a < 13 → ∀ b, b < 13 → a ≠ b → (TX10 a).2.1 ≠ (TX10 b).2.1 := by decide +kernel
theorem tyX10_ok : ∀ k, k < 13 → parseFieldDescriptor (TX10 k).2.2.1 = some (tyX10 k) := by decide +kernel
abbrev cX10_init : ByteArray := prog_1_method_1_code
def yX10_init : MethodName := ⟨RX10, "<init>", "()V"⟩
abbrev cX10_begin : ByteArray := prog_1_method_2_code
def yX10_begin : MethodName := ⟨RX10, "begin", "(I)Z"⟩
abbrev cX10_line : ByteArray := prog_1_method_3_code
def yX10_line : MethodName := ⟨RX10, "line", "(II)I"⟩
abbrev cX10_paint : ByteArray := prog_1_method_4_code
def yX10_paint : MethodName := ⟨RX10, "paint", "(II)Z"⟩
abbrev cX10_bare : ByteArray := prog_1_method_5_code
def yX10_bare : MethodName := ⟨RX10, "bare", "(I)I"⟩
abbrev cX10_turn : ByteArray := prog_1_method_6_code
def yX10_turn : MethodName := ⟨RX10, "turn", "(III)I"⟩
abbrev cX10_swap : ByteArray := prog_1_method_7_code
def yX10_swap : MethodName := ⟨RX10, "swap", "(II)I"⟩
abbrev cX10_grow : ByteArray := prog_1_method_8_code
def yX10_grow : MethodName := ⟨RX10, "grow", "(I)I"⟩
abbrev cX10_growAll : ByteArray := prog_1_method_9_code
def yX10_growAll : MethodName := ⟨RX10, "growAll", "()I"⟩
abbrev cX10_pair : ByteArray := prog_1_method_10_code
def yX10_pair : MethodName := ⟨RX10, "pair", "()I"⟩
abbrev cX10_even : ByteArray := prog_1_method_11_code
def yX10_even : MethodName := ⟨RX10, "even", "()I"⟩
abbrev cX10_take : ByteArray := prog_1_method_12_code
def yX10_take : MethodName := ⟨RX10, "take", "(I)Z"⟩
abbrev cX10_keep : ByteArray := prog_1_method_13_code
def yX10_keep : MethodName := ⟨RX10, "keep", "()Z"⟩
abbrev cX10_back : ByteArray := prog_1_method_14_code
def yX10_back : MethodName := ⟨RX10, "back", "()I"⟩
abbrev cX10_grown : ByteArray := prog_1_method_15_code
def yX10_grown : MethodName := ⟨RX10, "grown", "(I)I"⟩
abbrev cX10_of : ByteArray := prog_1_method_16_code
def yX10_of : MethodName := ⟨RX10, "of", "(II)I"⟩
abbrev cX10_clash : ByteArray := prog_1_method_17_code
def yX10_clash : MethodName := ⟨RX10, "clash", "(II)I"⟩
abbrev cX10_post : ByteArray := prog_1_method_18_code
def yX10_post : MethodName := ⟨RX10, "post", "(II)I"⟩
abbrev cX10_colour : ByteArray := prog_1_method_19_code
def yX10_colour : MethodName := ⟨RX10, "colour", "(II)I"⟩
abbrev cX10_chain : ByteArray := prog_1_method_20_code
def yX10_chain : MethodName := ⟨RX10, "chain", "(IIII)I"⟩
abbrev cX10_idle : ByteArray := prog_1_method_21_code
def yX10_idle : MethodName := ⟨RX10, "idle", "(I)I"⟩
abbrev cX10_calmer : ByteArray := prog_1_method_22_code
def yX10_calmer : MethodName := ⟨RX10, "calmer", "(I)I"⟩
abbrev cX10_fan : ByteArray := prog_1_method_23_code
def yX10_fan : MethodName := ⟨RX10, "fan", "(III)I"⟩
abbrev cX10_index : ByteArray := prog_1_method_24_code
def yX10_index : MethodName := ⟨RX10, "index", "()I"⟩
abbrev cX10_first : ByteArray := prog_1_method_25_code
def yX10_first : MethodName := ⟨RX10, "first", "(II)I"⟩
abbrev cX10_overfull : ByteArray := prog_1_method_26_code
def yX10_overfull : MethodName := ⟨RX10, "overfull", "(I)I"⟩
abbrev cX10_refused : ByteArray := prog_1_method_27_code
def yX10_refused : MethodName := ⟨RX10, "refused", "(II)I"⟩
abbrev cX10_list : ByteArray := prog_1_method_28_code
def yX10_list : MethodName := ⟨RX10, "list", "(II)I"⟩
abbrev cX10_listed : ByteArray := prog_1_method_29_code
def yX10_listed : MethodName := ⟨RX10, "listed", "(I)I"⟩
abbrev cX10_free : ByteArray := prog_1_method_30_code
def yX10_free : MethodName := ⟨RX10, "free", "(I)I"⟩
abbrev cX10_longest : ByteArray := prog_1_method_31_code
def yX10_longest : MethodName := ⟨RX10, "longest", "(I)I"⟩
abbrev cX10_sets : ByteArray := prog_1_method_32_code
def yX10_sets : MethodName := ⟨RX10, "sets", "(I)I"⟩
abbrev cX10_critical : ByteArray := prog_1_method_33_code
def yX10_critical : MethodName := ⟨RX10, "critical", "()I"⟩
abbrev cX10_kinds : ByteArray := prog_1_method_34_code
def yX10_kinds : MethodName := ⟨RX10, "kinds", "(I)I"⟩
abbrev cX10_turns : ByteArray := prog_1_method_35_code
def yX10_turns : MethodName := ⟨RX10, "turns", "(I)I"⟩
abbrev cX10_chains : ByteArray := prog_1_method_36_code
def yX10_chains : MethodName := ⟨RX10, "chains", "(II)I"⟩
abbrev cX10_sides : ByteArray := prog_1_method_37_code
def yX10_sides : MethodName := ⟨RX10, "sides", "(I)I"⟩
abbrev cX10_apart : ByteArray := prog_1_method_38_code
def yX10_apart : MethodName := ⟨RX10, "apart", "(I)I"⟩
abbrev cX10_ways : ByteArray := prog_1_method_39_code
def yX10_ways : MethodName := ⟨RX10, "ways", "(I)J"⟩
abbrev cX10_unlike : ByteArray := prog_1_method_40_code
def yX10_unlike : MethodName := ⟨RX10, "unlike", "(I)I"⟩
abbrev cX10_count : ByteArray := prog_1_method_41_code
def yX10_count : MethodName := ⟨RX10, "count", "(I)I"⟩
abbrev cX10_isFew : ByteArray := prog_1_method_42_code
def yX10_isFew : MethodName := ⟨RX10, "isFew", "(I)Z"⟩
abbrev cX10_greatestBit : ByteArray := prog_1_method_43_code
def yX10_greatestBit : MethodName := ⟨RX10, "greatestBit", "(I)I"⟩
abbrev cX10_idleOf : ByteArray := prog_1_method_44_code
def yX10_idleOf : MethodName := ⟨RX10, "idleOf", "(I)I"⟩
abbrev cX10_countUnlike : ByteArray := prog_1_method_45_code
def yX10_countUnlike : MethodName := ⟨RX10, "countUnlike", "()I"⟩
abbrev cX10_isLikeKept : ByteArray := prog_1_method_46_code
def yX10_isLikeKept : MethodName := ⟨RX10, "isLikeKept", "()Z"⟩
abbrev cX10_areAllBelow : ByteArray := prog_1_method_47_code
def yX10_areAllBelow : MethodName := ⟨RX10, "areAllBelow", "([II)Z"⟩
abbrev cX10_countEasy : ByteArray := prog_1_method_48_code
def yX10_countEasy : MethodName := ⟨RX10, "countEasy", "()I"⟩
def RX11 : String := "LineColoursModel"
def TX11 : u_T := fun k => match k with
  | 0 => ("LineColoursModel", "thrown", "I", false)
  | 1 => ("LineColoursModel", "n", "I", false)
  | 2 => ("LineColoursModel", "many", "I", false)
  | 3 => ("LineColoursModel", "lineA", "[I", true)
  | 4 => ("LineColoursModel", "lineB", "[I", true)
  | 5 => ("LineColoursModel", "has0", "[I", true)
  | 6 => ("LineColoursModel", "lists", "[I", true)
  | 7 => ("LineColoursModel", "kept", "[I", true)
  | 8 => ("LineColoursModel", "isKept", "Z", false)
  | 9 => ("LineColoursModel", "chainPosts", "I", false)
  | 10 => ("LineColoursModel", "fanRow", "[I", true)
  | 11 => ("LineColoursModel", "fanMany", "I", false)
  | 12 => ("LineColoursModel", "isGrown", "Z", false)
  | 13 => ("LineColoursModel", "grownBy", "[I", true)
  | 14 => ("LineColoursModel", "side", "[I", true)
  | 15 => ("LineColoursModel", "far", "[I", true)
  | 16 => ("LineColoursModel", "allow", "[I", true)
  | 17 => ("LineColoursModel", "areAlike", "Z", false)
  | 18 => ("LineColoursModel", "pick", "[I", true)
  | 19 => ("LineColoursModel", "used", "[I", true)
  | 20 => ("LineColoursModel", "goLine", "[I", true)
  | 21 => ("LineColoursModel", "goLeft", "[I", true)
  | 22 => ("LineColoursModel", "partPosts", "[I", true)
  | 23 => ("LineColoursModel", "partMany", "I", false)
  | 24 => ("LineColoursModel", "part", "[I", true)
  | 25 => ("LineColoursModel", "parted", "[J", true)
  | 26 => ("LineColoursModel", "trial", "[I", true)
  | 27 => ("LineColoursModel", "kindOf", "[I", true)
  | 28 => ("LineColoursModel", "queue", "[I", true)
  | 29 => ("LineColoursModel", "mostApart", "[I", true)
  | _ => ("LineColoursModel", "setsBy", "[I", true)
def tyX11 : Nat → FieldType := fun k => match k with
  | 0 => .int
  | 1 => .int
  | 2 => .int
  | 3 => .array .int
  | 4 => .array .int
  | 5 => .array .int
  | 6 => .array .int
  | 7 => .array .int
  | 8 => .boolean
  | 9 => .int
  | 10 => .array .int
  | 11 => .int
  | 12 => .boolean
  | 13 => .array .int
  | 14 => .array .int
  | 15 => .array .int
  | 16 => .array .int
  | 17 => .boolean
  | 18 => .array .int
  | 19 => .array .int
  | 20 => .array .int
  | 21 => .array .int
  | 22 => .array .int
  | 23 => .int
  | 24 => .array .int
  | 25 => .array .long
  | 26 => .array .int
  | 27 => .array .int
  | 28 => .array .int
  | 29 => .array .int
  | _ => .array .int
abbrev wsX110 : List Cond := u_ws RX11 TX11 31
theorem nmX11 : ∀ a, a < 31 → ∀ b, b < 31 → a ≠ b → (TX11 a).2.1 ≠ (TX11 b).2.1 := by decide +kernel
theorem tyX11_ok : ∀ k, k < 31 → parseFieldDescriptor (TX11 k).2.2.1 = some (tyX11 k) := by decide +kernel
abbrev cX11_in : ByteArray := prog_13_method_2_code
def yX11_in : MethodName := ⟨RX11, "in", "(III)Z"⟩
abbrev cX11_has : ByteArray := prog_13_method_3_code
def yX11_has : MethodName := ⟨RX11, "has", "(II)Z"⟩
abbrev cX11_bitsOf : ByteArray := prog_13_method_4_code
def yX11_bitsOf : MethodName := ⟨RX11, "bitsOf", "(I)I"⟩
abbrev cX11_lowestOf : ByteArray := prog_13_method_5_code
def yX11_lowestOf : MethodName := ⟨RX11, "lowestOf", "(I)I"⟩
abbrev cX11_init : ByteArray := prog_13_method_6_code
def yX11_init : MethodName := ⟨RX11, "<init>", "()V"⟩
abbrev cX11_isPost : ByteArray := prog_13_method_7_code
def yX11_isPost : MethodName := ⟨RX11, "isPost", "(I)Z"⟩
abbrev cX11_isLine : ByteArray := prog_13_method_8_code
def yX11_isLine : MethodName := ⟨RX11, "isLine", "(I)Z"⟩
abbrev cX11_allLines : ByteArray := prog_13_method_9_code
def yX11_allLines : MethodName := ⟨RX11, "allLines", "()I"⟩
abbrev cX11_allPosts : ByteArray := prog_13_method_10_code
def yX11_allPosts : MethodName := ⟨RX11, "allPosts", "()I"⟩
abbrev cX11_begin : ByteArray := prog_13_method_11_code
def yX11_begin : MethodName := ⟨RX11, "begin", "(I)Z"⟩
abbrev cX11_lineOf : ByteArray := prog_13_method_12_code
def yX11_lineOf : MethodName := ⟨RX11, "lineOf", "(II)I"⟩
abbrev cX11_isAt : ByteArray := prog_13_method_13_code
def yX11_isAt : MethodName := ⟨RX11, "isAt", "(II)Z"⟩
abbrev cX11_otherEnd : ByteArray := prog_13_method_14_code
def yX11_otherEnd : MethodName := ⟨RX11, "otherEnd", "(II)I"⟩
abbrev cX11_line : ByteArray := prog_13_method_15_code
def yX11_line : MethodName := ⟨RX11, "line", "(II)I"⟩
abbrev cX11_linesAt : ByteArray := prog_13_method_16_code
def yX11_linesAt : MethodName := ⟨RX11, "linesAt", "(II)I"⟩
abbrev cX11_degreeOf : ByteArray := prog_13_method_17_code
def yX11_degreeOf : MethodName := ⟨RX11, "degreeOf", "(I)I"⟩
abbrev cX11_degree : ByteArray := prog_13_method_18_code
def yX11_degree : MethodName := ⟨RX11, "degree", "()I"⟩
abbrev cX11_isColour : ByteArray := prog_13_method_19_code
def yX11_isColour : MethodName := ⟨RX11, "isColour", "(I)Z"⟩
abbrev cX11_areColours : ByteArray := prog_13_method_20_code
def yX11_areColours : MethodName := ⟨RX11, "areColours", "(II)Z"⟩
abbrev cX11_isChain : ByteArray := prog_13_method_21_code
def yX11_isChain : MethodName := ⟨RX11, "isChain", "(III)Z"⟩
abbrev cX11_usedAt : ByteArray := prog_13_method_22_code
def yX11_usedAt : MethodName := ⟨RX11, "usedAt", "(I)I"⟩
abbrev cX11_lineWith : ByteArray := prog_13_method_23_code
def yX11_lineWith : MethodName := ⟨RX11, "lineWith", "(II)I"⟩
abbrev cX11_isFreeAt : ByteArray := prog_13_method_24_code
def yX11_isFreeAt : MethodName := ⟨RX11, "isFreeAt", "(II)Z"⟩
abbrev cX11_leastFreeAt : ByteArray := prog_13_method_25_code
def yX11_leastFreeAt : MethodName := ⟨RX11, "leastFreeAt", "(I)I"⟩
abbrev cX11_paint : ByteArray := prog_13_method_26_code
def yX11_paint : MethodName := ⟨RX11, "paint", "(II)Z"⟩
abbrev cX11_bare : ByteArray := prog_13_method_27_code
def yX11_bare : MethodName := ⟨RX11, "bare", "(I)I"⟩
abbrev cX11_chainIn : ByteArray := prog_13_method_28_code
def yX11_chainIn : MethodName := ⟨RX11, "chainIn", "([IIII)I"⟩
abbrev cX11_flips : ByteArray := prog_13_method_29_code
def yX11_flips : MethodName := ⟨RX11, "flips", "([IIII)V"⟩
abbrev cX11_manyWith : ByteArray := prog_13_method_30_code
def yX11_manyWith : MethodName := ⟨RX11, "manyWith", "(II)I"⟩
abbrev cX11_turn : ByteArray := prog_13_method_31_code
def yX11_turn : MethodName := ⟨RX11, "turn", "(III)I"⟩
abbrev cX11_chain : ByteArray := prog_13_method_32_code
def yX11_chain : MethodName := ⟨RX11, "chain", "(IIII)I"⟩
abbrev cX11_chains : ByteArray := prog_13_method_33_code
def yX11_chains : MethodName := ⟨RX11, "chains", "(II)I"⟩
abbrev cX11_longest : ByteArray := prog_13_method_34_code
def yX11_longest : MethodName := ⟨RX11, "longest", "(I)I"⟩
abbrev cX11_swap : ByteArray := prog_13_method_35_code
def yX11_swap : MethodName := ⟨RX11, "swap", "(II)I"⟩
abbrev cX11_swaps : ByteArray := prog_13_method_36_code
def yX11_swaps : MethodName := ⟨RX11, "swaps", "(II)I"⟩
abbrev cX11_laysFan : ByteArray := prog_13_method_37_code
def yX11_laysFan : MethodName := ⟨RX11, "laysFan", "(II)V"⟩
abbrev cX11_fan : ByteArray := prog_13_method_38_code
def yX11_fan : MethodName := ⟨RX11, "fan", "(III)I"⟩
abbrev cX11_grows : ByteArray := prog_13_method_39_code
def yX11_grows : MethodName := ⟨RX11, "grows", "(I)I"⟩
abbrev cX11_grow : ByteArray := prog_13_method_40_code
def yX11_grow : MethodName := ⟨RX11, "grow", "(I)I"⟩
abbrev cX11_growAll : ByteArray := prog_13_method_41_code
def yX11_growAll : MethodName := ⟨RX11, "growAll", "()I"⟩
abbrev cX11_grown : ByteArray := prog_13_method_42_code
def yX11_grown : MethodName := ⟨RX11, "grown", "(I)I"⟩
abbrev cX11_laysSides : ByteArray := prog_13_method_43_code
def yX11_laysSides : MethodName := ⟨RX11, "laysSides", "()Z"⟩
abbrev cX11_oddRound : ByteArray := prog_13_method_44_code
def yX11_oddRound : MethodName := ⟨RX11, "oddRound", "()I"⟩
abbrev cX11_sides : ByteArray := prog_13_method_45_code
def yX11_sides : MethodName := ⟨RX11, "sides", "(I)I"⟩
abbrev cX11_pair : ByteArray := prog_13_method_46_code
def yX11_pair : MethodName := ⟨RX11, "pair", "()I"⟩
abbrev cX11_greatestUsed : ByteArray := prog_13_method_47_code
def yX11_greatestUsed : MethodName := ⟨RX11, "greatestUsed", "()I"⟩
abbrev cX11_longerChain : ByteArray := prog_13_method_48_code
def yX11_longerChain : MethodName := ⟨RX11, "longerChain", "(II)I"⟩
abbrev cX11_evens : ByteArray := prog_13_method_49_code
def yX11_evens : MethodName := ⟨RX11, "evens", "()Z"⟩
abbrev cX11_even : ByteArray := prog_13_method_50_code
def yX11_even : MethodName := ⟨RX11, "even", "()I"⟩
abbrev cX11_waysOf : ByteArray := prog_13_method_51_code
def yX11_waysOf : MethodName := ⟨RX11, "waysOf", "(I)I"⟩
abbrev cX11_picks : ByteArray := prog_13_method_52_code
def yX11_picks : MethodName := ⟨RX11, "picks", "(II)V"⟩
abbrev cX11_fewestWays : ByteArray := prog_13_method_53_code
def yX11_fewestWays : MethodName := ⟨RX11, "fewestWays", "(I)I"⟩
abbrev cX11_laysParts : ByteArray := prog_13_method_54_code
def yX11_laysParts : MethodName := ⟨RX11, "laysParts", "(I)V"⟩
abbrev cX11_triesOf : ByteArray := prog_13_method_55_code
def yX11_triesOf : MethodName := ⟨RX11, "triesOf", "(I)I"⟩
abbrev cX11_canBeAt : ByteArray := prog_13_method_56_code
def yX11_canBeAt : MethodName := ⟨RX11, "canBeAt", "(II)Z"⟩
abbrev cX11_canBeEnough : ByteArray := prog_13_method_57_code
def yX11_canBeEnough : MethodName := ⟨RX11, "canBeEnough", "(I)Z"⟩
abbrev cX11_canGoOn : ByteArray := prog_13_method_58_code
def yX11_canGoOn : MethodName := ⟨RX11, "canGoOn", "(I)Z"⟩
abbrev cX11_picksFirst : ByteArray := prog_13_method_59_code
def yX11_picksFirst : MethodName := ⟨RX11, "picksFirst", "(I)Z"⟩
abbrev cX11_linesWithin : ByteArray := prog_13_method_60_code
def yX11_linesWithin : MethodName := ⟨RX11, "linesWithin", "(I)I"⟩
abbrev cX11_fullSet : ByteArray := prog_13_method_61_code
def yX11_fullSet : MethodName := ⟨RX11, "fullSet", "(I)I"⟩
abbrev cX11_laysFirst : ByteArray := prog_13_method_62_code
def yX11_laysFirst : MethodName := ⟨RX11, "laysFirst", "(II)Z"⟩
abbrev cX11_indexOf : ByteArray := prog_13_method_63_code
def yX11_indexOf : MethodName := ⟨RX11, "indexOf", "(I)I"⟩
abbrev cX11_index : ByteArray := prog_13_method_64_code
def yX11_index : MethodName := ⟨RX11, "index", "()I"⟩
abbrev cX11_first : ByteArray := prog_13_method_65_code
def yX11_first : MethodName := ⟨RX11, "first", "(II)I"⟩
abbrev cX11_take : ByteArray := prog_13_method_66_code
def yX11_take : MethodName := ⟨RX11, "take", "(I)Z"⟩
abbrev cX11_critical : ByteArray := prog_13_method_67_code
def yX11_critical : MethodName := ⟨RX11, "critical", "()I"⟩
abbrev cX11_list : ByteArray := prog_13_method_68_code
def yX11_list : MethodName := ⟨RX11, "list", "(II)I"⟩
abbrev cX11_listed : ByteArray := prog_13_method_69_code
def yX11_listed : MethodName := ⟨RX11, "listed", "(I)I"⟩
abbrev cX11_overfull : ByteArray := prog_13_method_70_code
def yX11_overfull : MethodName := ⟨RX11, "overfull", "(I)I"⟩
abbrev cX11_refused : ByteArray := prog_13_method_71_code
def yX11_refused : MethodName := ⟨RX11, "refused", "(II)I"⟩
abbrev cX11_doMeet : ByteArray := prog_13_method_72_code
def yX11_doMeet : MethodName := ⟨RX11, "doMeet", "(II)Z"⟩
abbrev cX11_canBePart : ByteArray := prog_13_method_73_code
def yX11_canBePart : MethodName := ⟨RX11, "canBePart", "(I)Z"⟩
abbrev cX11_partsAhead : ByteArray := prog_13_method_74_code
def yX11_partsAhead : MethodName := ⟨RX11, "partsAhead", "(I)I"⟩
abbrev cX11_laysParted : ByteArray := prog_13_method_75_code
def yX11_laysParted : MethodName := ⟨RX11, "laysParted", "()V"⟩
abbrev cX11_ways : ByteArray := prog_13_method_76_code
def yX11_ways : MethodName := ⟨RX11, "ways", "(I)J"⟩
abbrev cX11_laysTrial : ByteArray := prog_13_method_77_code
def yX11_laysTrial : MethodName := ⟨RX11, "laysTrial", "(II)V"⟩
abbrev cX11_codeOf : ByteArray := prog_13_method_78_code
def yX11_codeOf : MethodName := ⟨RX11, "codeOf", "([II)I"⟩
abbrev cX11_codes : ByteArray := prog_13_method_79_code
def yX11_codes : MethodName := ⟨RX11, "codes", "(I)I"⟩
abbrev cX11_isTrialFit : ByteArray := prog_13_method_80_code
def yX11_isTrialFit : MethodName := ⟨RX11, "isTrialFit", "()Z"⟩
abbrev cX11_spreads : ByteArray := prog_13_method_81_code
def yX11_spreads : MethodName := ⟨RX11, "spreads", "(III)V"⟩
abbrev cX11_kinds : ByteArray := prog_13_method_82_code
def yX11_kinds : MethodName := ⟨RX11, "kinds", "(I)I"⟩
abbrev cX11_areBelow : ByteArray := prog_13_method_83_code
def yX11_areBelow : MethodName := ⟨RX11, "areBelow", "([II)Z"⟩
abbrev cX11_turns : ByteArray := prog_13_method_84_code
def yX11_turns : MethodName := ⟨RX11, "turns", "(I)I"⟩
abbrev cX11_apartBy : ByteArray := prog_13_method_85_code
def yX11_apartBy : MethodName := ⟨RX11, "apartBy", "(II)I"⟩
abbrev cX11_without : ByteArray := prog_13_method_86_code
def yX11_without : MethodName := ⟨RX11, "without", "(II)I"⟩
abbrev cX11_areThere : ByteArray := prog_13_method_87_code
def yX11_areThere : MethodName := ⟨RX11, "areThere", "(II)Z"⟩
abbrev cX11_laysApart : ByteArray := prog_13_method_88_code
def yX11_laysApart : MethodName := ⟨RX11, "laysApart", "()V"⟩
abbrev cX11_apart : ByteArray := prog_13_method_89_code
def yX11_apart : MethodName := ⟨RX11, "apart", "(I)I"⟩
abbrev cX11_sets : ByteArray := prog_13_method_90_code
def yX11_sets : MethodName := ⟨RX11, "sets", "(I)I"⟩
abbrev cX11_of : ByteArray := prog_13_method_91_code
def yX11_of : MethodName := ⟨RX11, "of", "(II)I"⟩
abbrev cX11_clash : ByteArray := prog_13_method_92_code
def yX11_clash : MethodName := ⟨RX11, "clash", "(II)I"⟩
abbrev cX11_post : ByteArray := prog_13_method_93_code
def yX11_post : MethodName := ⟨RX11, "post", "(II)I"⟩
abbrev cX11_colour : ByteArray := prog_13_method_94_code
def yX11_colour : MethodName := ⟨RX11, "colour", "(II)I"⟩
abbrev cX11_free : ByteArray := prog_13_method_95_code
def yX11_free : MethodName := ⟨RX11, "free", "(I)I"⟩
abbrev cX11_idleAt : ByteArray := prog_13_method_96_code
def yX11_idleAt : MethodName := ⟨RX11, "idleAt", "(I)I"⟩
abbrev cX11_idleAll : ByteArray := prog_13_method_97_code
def yX11_idleAll : MethodName := ⟨RX11, "idleAll", "()I"⟩
abbrev cX11_idle : ByteArray := prog_13_method_98_code
def yX11_idle : MethodName := ⟨RX11, "idle", "(I)I"⟩
abbrev cX11_calmer : ByteArray := prog_13_method_99_code
def yX11_calmer : MethodName := ⟨RX11, "calmer", "(I)I"⟩
abbrev cX11_keep : ByteArray := prog_13_method_100_code
def yX11_keep : MethodName := ⟨RX11, "keep", "()Z"⟩
abbrev cX11_unlikeMany : ByteArray := prog_13_method_101_code
def yX11_unlikeMany : MethodName := ⟨RX11, "unlikeMany", "()I"⟩
abbrev cX11_back : ByteArray := prog_13_method_102_code
def yX11_back : MethodName := ⟨RX11, "back", "()I"⟩
abbrev cX11_areLike : ByteArray := prog_13_method_103_code
def yX11_areLike : MethodName := ⟨RX11, "areLike", "()Z"⟩
abbrev cX11_unlike : ByteArray := prog_13_method_104_code
def yX11_unlike : MethodName := ⟨RX11, "unlike", "(I)I"⟩
abbrev cX11_bareMany : ByteArray := prog_13_method_105_code
def yX11_bareMany : MethodName := ⟨RX11, "bareMany", "()I"⟩
abbrev cX11_usedColours : ByteArray := prog_13_method_106_code
def yX11_usedColours : MethodName := ⟨RX11, "usedColours", "()I"⟩
abbrev cX11_uneven : ByteArray := prog_13_method_107_code
def yX11_uneven : MethodName := ⟨RX11, "uneven", "()I"⟩
abbrev cX11_easyMany : ByteArray := prog_13_method_108_code
def yX11_easyMany : MethodName := ⟨RX11, "easyMany", "()I"⟩
abbrev cX11_count : ByteArray := prog_13_method_109_code
def yX11_count : MethodName := ⟨RX11, "count", "(I)I"⟩
def RJ6 : String := "java/lang/Integer"
def TJ6 : u_T := fun k => match k with
  | _ => ("", "", "", false)
def tyJ6 : Nat → FieldType := fun k => match k with
  | _ => .int
abbrev wsJ60 : List Cond := u_ws RJ6 TJ6 0
theorem nmJ6 : ∀ a, a < 0 → ∀ b, b < 0 → a ≠ b → (TJ6 a).2.1 ≠ (TJ6 b).2.1 := by decide +kernel
theorem tyJ6_ok : ∀ k, k < 0 → parseFieldDescriptor (TJ6 k).2.2.1 = some (tyJ6 k) := by decide +kernel
abbrev cJ6_compare_7cf53 : ByteArray := prog_14_method_40_code
def yJ6_compare_7cf53 : MethodName := ⟨RJ6, "compare", "(II)I"⟩
abbrev cJ6_lowestOneBit_0f7a4 : ByteArray := prog_14_method_46_code
def yJ6_lowestOneBit_0f7a4 : MethodName := ⟨RJ6, "lowestOneBit", "(I)I"⟩
abbrev cJ6_numberOfLeadingZeros_0f7a4 : ByteArray := prog_14_method_47_code
def yJ6_numberOfLeadingZeros_0f7a4 : MethodName := ⟨RJ6, "numberOfLeadingZeros", "(I)I"⟩
abbrev cJ6_numberOfTrailingZeros_0f7a4 : ByteArray := prog_14_method_48_code
def yJ6_numberOfTrailingZeros_0f7a4 : MethodName := ⟨RJ6, "numberOfTrailingZeros", "(I)I"⟩
abbrev cJ6_bitCount_0f7a4 : ByteArray := prog_14_method_49_code
def yJ6_bitCount_0f7a4 : MethodName := ⟨RJ6, "bitCount", "(I)I"⟩
def RJ9 : String := "java/lang/Math"
def TJ9 : u_T := fun k => match k with
  | _ => ("", "", "", false)
def tyJ9 : Nat → FieldType := fun k => match k with
  | _ => .int
abbrev wsJ90 : List Cond := u_ws RJ9 TJ9 0
theorem nmJ9 : ∀ a, a < 0 → ∀ b, b < 0 → a ≠ b → (TJ9 a).2.1 ≠ (TJ9 b).2.1 := by decide +kernel
theorem tyJ9_ok : ∀ k, k < 0 → parseFieldDescriptor (TJ9 k).2.2.1 = some (tyJ9 k) := by decide +kernel
abbrev cJ9_max_7cf53 : ByteArray := prog_15_method_65_code
def yJ9_max_7cf53 : MethodName := ⟨RJ9, "max", "(II)I"⟩
abbrev cJ9_min_7cf53 : ByteArray := prog_15_method_69_code
def yJ9_min_7cf53 : MethodName := ⟨RJ9, "min", "(II)I"⟩
def RJ10 : String := "java/lang/System"
def TJ10 : u_T := fun k => match k with
  | _ => ("", "", "", false)
def tyJ10 : Nat → FieldType := fun k => match k with
  | _ => .int
abbrev wsJ100 : List Cond := u_ws RJ10 TJ10 0
theorem nmJ10 : ∀ a, a < 0 → ∀ b, b < 0 → a ≠ b → (TJ10 a).2.1 ≠ (TJ10 b).2.1 := by decide +kernel
theorem tyJ10_ok : ∀ k, k < 0 → parseFieldDescriptor (TJ10 k).2.2.1 = some (tyJ10 k) := by decide +kernel
def RJ7 : String := "java/util/Arrays"
def TJ7 : u_T := fun k => match k with
  | _ => ("", "", "", false)
def tyJ7 : Nat → FieldType := fun k => match k with
  | _ => .int
abbrev wsJ70 : List Cond := u_ws RJ7 TJ7 0
theorem nmJ7 : ∀ a, a < 0 → ∀ b, b < 0 → a ≠ b → (TJ7 a).2.1 ≠ (TJ7 b).2.1 := by decide +kernel
theorem tyJ7_ok : ∀ k, k < 0 → parseFieldDescriptor (TJ7 k).2.2.1 = some (tyJ7 k) := by decide +kernel
abbrev cJ7_fill_53178 : ByteArray := prog_17_method_103_code
def yJ7_fill_53178 : MethodName := ⟨RJ7, "fill", "([II)V"⟩
def RL : String := "LineColoursLaw"
abbrev cL_law : ByteArray := code
def yL_law : MethodName := ⟨RL, "law", "([I)Z"⟩
abbrev vwCl : List vw_C := [(RX0, TX0, 3), (RX1, TX1, 5), (RX2, TX2, 2), (RX3, TX3, 3), (RX4, TX4, 4), (RX5, TX5, 5), (RX6, TX6, 8), (RX7, TX7, 8), (RX8, TX8, 3), (RX9, TX9, 7), (RX10, TX10, 13), (RX11, TX11, 31)]
end
section
/-! the layer of this claim: worlds of a fixed shape; KK: a method's body at a pc; kk_M: a method's contract -/
abbrev kk_St : Type := (Nat → Nat → Int32) × (Nat → Int64)
abbrev kk_Fd : Type := Option Nat
abbrev kk_Sh : Type := (Bool × Nat) ⊕ (Nat × List kk_Fd)
abbrev kk_Z : Type := Launch × (Nat → Nat) × va_G × ClassId × ClassId
def kk_fv (q : Nat → Nat) (f : Nat → Int32) (i : Nat) (d : kk_Fd) : Value := match d with
  | some j => .ref (q j)
  | none => .int (f i)
def kk_fvs (q : Nat → Nat) (f : Nat → Int32) : Nat → List kk_Fd → List Value
  | _, [] => []
  | i, d :: ds => kk_fv q f i d :: kk_fvs q f (i + 1) ds
def kk_ent (Z : kk_Z) (σ : kk_St) (k : Nat) (s : kk_Sh) : Nat × va_E := match s with
  | .inl (false, n) => (Z.2.1 k, .inl (Z.2.2.2.1, n, .inl (σ.1 k)))
  | .inl (true, n) => (Z.2.1 k, .inl (Z.2.2.2.2, n, .inr (.inl σ.2)))
  | .inr (ci, fs) => (Z.2.1 k, .inr (ci, kk_fvs Z.2.1 (σ.1 k) 0 fs))
def kk_ws (Z : kk_Z) (sh : List kk_Sh) (σ : kk_St) : va_W := sh.mapIdx (fun k s => kk_ent Z σ k s)
def kk_wr (σ : kk_St) (k i : Nat) (x : Int32) : kk_St := (fun c => if c = k then upd (σ.1 k) i x else σ.1 c, σ.2)
def kk_wrL (σ : kk_St) (i : Nat) (x : Int64) : kk_St := (σ.1, vp_updL σ.2 i x)
def kk_wrF (σ : kk_St) (k : Nat) (f : Nat → Int32) : kk_St := (fun c => if c = k then f else σ.1 c, σ.2)
abbrev kk_rd (σ : kk_St) (k : Nat) (i : Int32) : Int32 := σ.1 k i.toNatClampNeg
theorem kk_fvs_get (q : Nat → Nat) (f : Nat → Int32) : ∀ (fs : List kk_Fd) (i j : Nat), (kk_fvs q f i fs)[j]? = (fs[j]?).map (kk_fv q f (i + j))
  | [], i, j => by simp [kk_fvs]
  | d :: ds, i, 0 => by simp [kk_fvs]
  | d :: ds, i, j + 1 => by
    simp only [kk_fvs, List.getElem?_cons_succ]
    rw [kk_fvs_get q f ds (i + 1) j]
    congr 2
    omega
theorem kk_fvs_len (q : Nat → Nat) (f : Nat → Int32) : ∀ (fs : List kk_Fd) (i : Nat), (kk_fvs q f i fs).length = fs.length
  | [], i => rfl
  | d :: ds, i => by simp [kk_fvs, kk_fvs_len q f ds (i + 1)]
theorem kk_fvs_set (q : Nat → Nat) (f : Nat → Int32) {fs : List kk_Fd} {j : Nat} (x : Int32) (h : fs[j]? = some none) : (kk_fvs q f 0 fs).set j (.int x) = kk_fvs q (upd f j x) 0 fs := by
  apply List.ext_getElem?
  intro t
  rw [kk_fvs_get]
  by_cases ht : j = t
  · subst ht
    have hl : j < (kk_fvs q f 0 fs).length := by rw [kk_fvs_len]; exact (List.getElem?_eq_some_iff.mp h).1
    rw [List.getElem?_set_self hl, h]
    simp [kk_fv, upd]
  · rw [List.getElem?_set_ne ht, kk_fvs_get]
    cases fs[t]? with
    | none => rfl
    | some d =>
      cases d with
      | none => simp [kk_fv, upd, Ne.symm ht]
      | some c => rfl
theorem kk_ws_get {Z : kk_Z} {sh : List kk_Sh} {σ : kk_St} {k : Nat} {s : kk_Sh} (h : sh[k]? = some s) : (kk_ws Z sh σ)[k]? = some (kk_ent Z σ k s) := by
  simp [kk_ws, List.getElem?_mapIdx, h]
theorem kk_ws_len {Z : kk_Z} {sh : List kk_Sh} {σ : kk_St} : (kk_ws Z sh σ).length = sh.length := by simp [kk_ws]
theorem kk_ws_setA {Z : kk_Z} {sh : List kk_Sh} {σ : kk_St} {k n : Nat} (h : sh[k]? = some (.inl (false, n))) (f : Nat → Int32) : (kk_ws Z sh σ).set k (Z.2.1 k, .inl (Z.2.2.2.1, n, .inl f)) = kk_ws Z sh (kk_wrF σ k f) := by
  apply List.ext_getElem?
  intro t
  by_cases ht : k = t
  · subst ht
    have hl : k < (kk_ws Z sh σ).length := by rw [kk_ws_len]; exact (List.getElem?_eq_some_iff.mp h).1
    rw [List.getElem?_set_self hl, kk_ws_get h]
    simp [kk_ent, kk_wrF]
  · rw [List.getElem?_set_ne ht]
    simp only [kk_ws, List.getElem?_mapIdx]
    cases sh[t]? with
    | none => rfl
    | some s => simp [kk_ent, kk_wrF, Ne.symm ht]
theorem kk_wr_F (σ : kk_St) (k i : Nat) (x : Int32) : kk_wrF σ k (upd (σ.1 k) i x) = kk_wr σ k i x := rfl
theorem kk_ws_setL {Z : kk_Z} {sh : List kk_Sh} {σ : kk_St} {k n : Nat} (h : sh[k]? = some (.inl (true, n))) (hu : ∀ t m, sh[t]? = some (.inl (true, m)) → t = k) (f : Nat → Int64) : (kk_ws Z sh σ).set k (Z.2.1 k, .inl (Z.2.2.2.2, n, .inr (.inl f))) = kk_ws Z sh (σ.1, f) := by
  apply List.ext_getElem?
  intro t
  by_cases ht : k = t
  · subst ht
    have hl : k < (kk_ws Z sh σ).length := by rw [kk_ws_len]; exact (List.getElem?_eq_some_iff.mp h).1
    rw [List.getElem?_set_self hl, kk_ws_get h]
    simp [kk_ent]
  · rw [List.getElem?_set_ne ht]
    simp only [kk_ws, List.getElem?_mapIdx]
    cases hs : sh[t]? with
    | none => rfl
    | some s =>
      rcases s with ⟨b, m⟩ | ⟨ci, fs⟩
      · cases b with
        | true => exact absurd (hu t m hs).symm ht
        | false => rfl
      · rfl
theorem kk_ws_setO {Z : kk_Z} {sh : List kk_Sh} {σ : kk_St} {k ci j : Nat} {fs : List kk_Fd} (h : sh[k]? = some (.inr (ci, fs))) (hj : fs[j]? = some none) (x : Int32) : (kk_ws Z sh σ).set k (Z.2.1 k, .inr (ci, (kk_fvs Z.2.1 (σ.1 k) 0 fs).set j (.int x))) = kk_ws Z sh (kk_wr σ k j x) := by
  apply List.ext_getElem?
  intro t
  by_cases ht : k = t
  · subst ht
    have hl : k < (kk_ws Z sh σ).length := by rw [kk_ws_len]; exact (List.getElem?_eq_some_iff.mp h).1
    rw [List.getElem?_set_self hl, kk_ws_get h, kk_fvs_set _ _ _ hj]
    simp [kk_ent, kk_wr]
  · rw [List.getElem?_set_ne ht]
    simp only [kk_ws, List.getElem?_mapIdx]
    cases sh[t]? with
    | none => rfl
    | some s => simp [kk_ent, kk_wr, Ne.symm ht]
def kk_isN (w : Cond) : Bool := match w with
  | .fieldLinkNest _ _ _ _ _ _ => true
  | .methodLinkNest _ _ _ _ => true
  | _ => false
def kk_good : List Cond := lw_tbl.filter goodWord
def kk_nest : List Cond := lw_tbl.filter kk_isN
theorem kk_gm {w : Cond} (i : Nat) (h : lw_tbl[i]? = some w) (hg : goodWord w = true) : w ∈ kk_good := List.mem_filter.mpr ⟨List.mem_of_getElem? h, hg⟩
theorem kk_nm {w : Cond} (i : Nat) (h : lw_tbl[i]? = some w) (hg : kk_isN w = true) : w ∈ kk_nest := List.mem_filter.mpr ⟨List.mem_of_getElem? h, hg⟩
theorem kk_gall {ws : List Cond} (h : ws.all (fun w => decide (w ∈ lw_tbl) && goodWord w) = true) : ∀ w ∈ ws, w ∈ kk_good := by
  intro w hw
  have h1 := List.all_eq_true.mp h w hw
  simp only [Bool.and_eq_true, decide_eq_true_eq] at h1
  exact List.mem_filter.mpr h1
theorem kk_isN_on {w : Cond} (h : kk_isN w = true) : w.onTables = true := by
  unfold kk_isN at h
  split at h
  · rfl
  · rfl
  · cases h
theorem kk_isN_warm {w : Cond} (h : kk_isN w = true) {s U : State} (hW : s.WarmedH U.vm) (hZ : va_Nw w s) : va_Nw w U := by
  unfold kk_isN at h
  split at h
  · exact va_Nw.warmF hW hZ
  · exact va_Nw.warmM hW hZ
  · cases h
def kk_NW (U : State) : Prop := ∀ w ∈ kk_nest, va_Nw w U
def kk_tys (Z : kk_Z) : List (ClassId × FieldType) := [(Z.2.2.2.1, .int), (Z.2.2.2.2, .long)]
def kk_P (Z : kk_Z) (sh : List kk_Sh) (σ : kk_St) (H : Heap) : Prop := va_P Z.2.2.1 vwCl (kk_ws Z sh σ) H
def kk_inj (Z : kk_Z) (sh : List kk_Sh) : Prop := ∀ i j, i < sh.length → j < sh.length → Z.2.1 i = Z.2.1 j → i = j
def kk_K (Z : kk_Z) (sh : List kk_Sh) (U : State) : Prop := va_K Z.2.2.1 vwCl (kk_tys Z) U ∧ kk_NW U ∧ kk_inj Z sh
def kk_A (Z : kk_Z) (sh : List kk_Sh) (sz : Nat) : Nat → Prop := fun a => (∃ k, k < sh.length ∧ a = Z.2.1 k) ∨ sz ≤ a
theorem kk_ent_addr (Z : kk_Z) (σ : kk_St) (k : Nat) (s : kk_Sh) : (kk_ent Z σ k s).1 = Z.2.1 k := by
  rcases s with ⟨b, m⟩ | ⟨ci, fs⟩
  · cases b <;> rfl
  · rfl
theorem kk_ws_some {Z : kk_Z} {sh : List kk_Sh} {σ : kk_St} {k : Nat} {q : Nat × va_E} (h : (kk_ws Z sh σ)[k]? = some q) : k < sh.length ∧ q.1 = Z.2.1 k := by
  have hl := (List.getElem?_eq_some_iff.mp h).1
  rw [kk_ws_len] at hl
  refine ⟨hl, ?_⟩
  rw [kk_ws_get (List.getElem?_eq_getElem hl)] at h
  obtain rfl := Option.some.inj h
  exact kk_ent_addr _ _ _ _
theorem kk_D {Z : kk_Z} {sh : List kk_Sh} (σ : kk_St) (sz : Nat) (h : kk_inj Z sh) : va_D (kk_A Z sh sz) (kk_ws Z sh σ) := by
  refine ⟨fun i j p q hi hj hpq => ?_, fun k q hk => ?_⟩
  · obtain ⟨l1, a1⟩ := kk_ws_some hi
    obtain ⟨l2, a2⟩ := kk_ws_some hj
    exact h i j l1 l2 (by rw [← a1, ← a2]; exact hpq)
  · obtain ⟨l1, a1⟩ := kk_ws_some hk
    exact Or.inl ⟨k, l1, a1⟩
/-- what holds all through a method's body -/
def kk_C (Z : kk_Z) (sh : List kk_Sh) (own : String) (cc : ByteArray) (nL : Nat) (ret : Option FieldType) (p : Program) (s : State) (m : MethodId) (args : Array Value) (meth : Method) (c : Code) : Prop :=
  p.tables.exec = Jvm.exec ∧ c.code = cc ∧ meth.sig.returnType = ret ∧ c.maxLocals = nL ∧ s.vm.findClass own = some m.cls ∧ (∀ w ∈ kk_good, w.before args s = true) ∧ meth.locks = false ∧ kk_K Z sh s
abbrev kk_Qt : Type := (Nat → Prop) → Array Value → State → Outcome → State → Prop
def KK (Z : kk_Z) (sh : List kk_Sh) (own : String) (cc : ByteArray) (nL : Nat) (ret : Option FieldType) (R : Room) (Qc : kk_Qt) (pc : Nat) (lv : List (Nat × Value)) (st : List Value) (σ : kk_St) : Prop :=
  ∀ (p : Program) (e : Env) (s : State) (m : MethodId) (args : Array Value) (below : List Frame) (meth : Method) (c : Code), kk_C Z sh own cc nL ret p s m args meth c → ∀ (H : Heap) (locs : List Loc) (ls : Array Slot), kk_P Z sh σ H → va_S (kk_A Z sh s.heap.size) s.heap H locs → lv_has ls nL lv →
    W p Z.1 e R s m args below meth c H locs 0 0 (MQ below (Qc (kk_A Z sh s.heap.size)) args s 0 0 (kk_A Z sh s.heap.size)) (F0 m pc ls st)
def kk_M (Z : kk_Z) (sh : List kk_Sh) (y : MethodName) (cc : ByteArray) (nL : Nat) (ret : Option FieldType) (R : Room) (av : List Value) (σ : kk_St) (Qc : kk_Qt) : Prop :=
  ∀ sz : Nat, Met Z.1 y (.code y cc nL ret :: kk_good) R (va_Pc av (fun U => U.heap.size = sz ∧ kk_P Z sh σ U.heap ∧ kk_K Z sh U)) (Qc (kk_A Z sh sz)) 0 0 (kk_A Z sh sz)
def kk_Qi (Z : kk_Z) (sh : List kk_Sh) (Q : Int32 → kk_St → Prop) : kk_Qt := fun A => va_Qi Q (fun σ t => kk_P Z sh σ t.heap) A
def kk_Ql (Z : kk_Z) (sh : List kk_Sh) (Q : Int64 → kk_St → Prop) : kk_Qt := fun A => va_Ql Q (fun σ t => kk_P Z sh σ t.heap) A
def kk_Qv (Z : kk_Z) (sh : List kk_Sh) (Q : kk_St → Prop) : kk_Qt := fun A => va_Qv Q (fun σ t => kk_P Z sh σ t.heap) A
def kk_R (d : Nat) : Room := { frames := d, cells := 0, slots := 0, locals := 64 * d }
/-- a row of the code -/
def kk_d (cc : ByteArray) (pc : Nat) (I : Instr) (n b : Nat) : Prop := decode cc pc = .ok (I, n) ∧ pc + n = b
def kk_dj (cc : ByteArray) (pc : Nat) (I : Instr) (n : Nat) (off : Int) (b tgt : Nat) : Prop := decode cc pc = .ok (I, n) ∧ pc + n = b ∧ (pc : Int) + off = (tgt : Int)
end
section
section
variable {Z : kk_Z} {sh : List kk_Sh} {own : String} {cc : ByteArray} {nL : Nat} {ret : Option FieldType} {R : Room} {Qc : kk_Qt} {pc b tgt : Nat} {lv lv' : List (Nat × Value)} {st : List Value} {σ : kk_St} {off : Int}
theorem kk_iadd {x y : Int32} (hd : kk_d cc pc .iadd 1 b) (k : KK Z sh own cc nL ret R Qc b lv (.int (x + y) :: st) σ) : KK Z sh own cc nL ret R Qc pc lv (.int y :: .int x :: st) σ := by
  obtain ⟨hd, rfl⟩ := hd
  intro p e s m args below meth c C H locs ls hP hS hl
  exact lv_iadd C.1 C.2.1 hd  (k p e s m args below meth c C H locs ls hP hS hl)
theorem kk_isub {x y : Int32} (hd : kk_d cc pc .isub 1 b) (k : KK Z sh own cc nL ret R Qc b lv (.int (x - y) :: st) σ) : KK Z sh own cc nL ret R Qc pc lv (.int y :: .int x :: st) σ := by
  obtain ⟨hd, rfl⟩ := hd
  intro p e s m args below meth c C H locs ls hP hS hl
  exact lv_isub C.1 C.2.1 hd  (k p e s m args below meth c C H locs ls hP hS hl)
theorem kk_imul {x y : Int32} (hd : kk_d cc pc .imul 1 b) (k : KK Z sh own cc nL ret R Qc b lv (.int (x * y) :: st) σ) : KK Z sh own cc nL ret R Qc pc lv (.int y :: .int x :: st) σ := by
  obtain ⟨hd, rfl⟩ := hd
  intro p e s m args below meth c C H locs ls hP hS hl
  exact lv_imul C.1 C.2.1 hd  (k p e s m args below meth c C H locs ls hP hS hl)
theorem kk_iand {x y : Int32} (hd : kk_d cc pc .iand 1 b) (k : KK Z sh own cc nL ret R Qc b lv (.int (x &&& y) :: st) σ) : KK Z sh own cc nL ret R Qc pc lv (.int y :: .int x :: st) σ := by
  obtain ⟨hd, rfl⟩ := hd
  intro p e s m args below meth c C H locs ls hP hS hl
  exact lv_iand C.1 C.2.1 hd  (k p e s m args below meth c C H locs ls hP hS hl)
theorem kk_ior {x y : Int32} (hd : kk_d cc pc .ior 1 b) (k : KK Z sh own cc nL ret R Qc b lv (.int (x ||| y) :: st) σ) : KK Z sh own cc nL ret R Qc pc lv (.int y :: .int x :: st) σ := by
  obtain ⟨hd, rfl⟩ := hd
  intro p e s m args below meth c C H locs ls hP hS hl
  exact lv_ior C.1 C.2.1 hd  (k p e s m args below meth c C H locs ls hP hS hl)
theorem kk_ixor {x y : Int32} (hd : kk_d cc pc .ixor 1 b) (k : KK Z sh own cc nL ret R Qc b lv (.int (x ^^^ y) :: st) σ) : KK Z sh own cc nL ret R Qc pc lv (.int y :: .int x :: st) σ := by
  obtain ⟨hd, rfl⟩ := hd
  intro p e s m args below meth c C H locs ls hP hS hl
  exact lv_ixor C.1 C.2.1 hd  (k p e s m args below meth c C H locs ls hP hS hl)
theorem kk_ishl {x y : Int32} (hd : kk_d cc pc .ishl 1 b) (k : KK Z sh own cc nL ret R Qc b lv (.int (x <<< (y &&& 31)) :: st) σ) : KK Z sh own cc nL ret R Qc pc lv (.int y :: .int x :: st) σ := by
  obtain ⟨hd, rfl⟩ := hd
  intro p e s m args below meth c C H locs ls hP hS hl
  exact lv_ishl C.1 C.2.1 hd  (k p e s m args below meth c C H locs ls hP hS hl)
theorem kk_ishr {x y : Int32} (hd : kk_d cc pc .ishr 1 b) (k : KK Z sh own cc nL ret R Qc b lv (.int (x >>> (y &&& 31)) :: st) σ) : KK Z sh own cc nL ret R Qc pc lv (.int y :: .int x :: st) σ := by
  obtain ⟨hd, rfl⟩ := hd
  intro p e s m args below meth c C H locs ls hP hS hl
  exact lv_ishr C.1 C.2.1 hd  (k p e s m args below meth c C H locs ls hP hS hl)
theorem kk_ladd {x y : Int64} (hd : kk_d cc pc .ladd 1 b) (k : KK Z sh own cc nL ret R Qc b lv (.long (x + y) :: st) σ) : KK Z sh own cc nL ret R Qc pc lv (.long y :: .long x :: st) σ := by
  obtain ⟨hd, rfl⟩ := hd
  intro p e s m args below meth c C H locs ls hP hS hl
  exact lv_ladd C.1 C.2.1 hd  (k p e s m args below meth c C H locs ls hP hS hl)
theorem kk_lmul {x y : Int64} (hd : kk_d cc pc .lmul 1 b) (k : KK Z sh own cc nL ret R Qc b lv (.long (x * y) :: st) σ) : KK Z sh own cc nL ret R Qc pc lv (.long y :: .long x :: st) σ := by
  obtain ⟨hd, rfl⟩ := hd
  intro p e s m args below meth c C H locs ls hP hS hl
  exact lv_lmul C.1 C.2.1 hd  (k p e s m args below meth c C H locs ls hP hS hl)
theorem kk_lsub {x y : Int64} (hd : kk_d cc pc .lsub 1 b) (k : KK Z sh own cc nL ret R Qc b lv (.long (x - y) :: st) σ) : KK Z sh own cc nL ret R Qc pc lv (.long y :: .long x :: st) σ := by
  obtain ⟨hd, rfl⟩ := hd
  intro p e s m args below meth c C H locs ls hP hS hl
  exact lv_lsub C.1 C.2.1 hd  (k p e s m args below meth c C H locs ls hP hS hl)
theorem kk_ineg {x : Int32} (hd : kk_d cc pc .ineg 1 b) (k : KK Z sh own cc nL ret R Qc b lv (.int (-x) :: st) σ) : KK Z sh own cc nL ret R Qc pc lv (.int x :: st) σ := by
  obtain ⟨hd, rfl⟩ := hd
  intro p e s m args below meth c C H locs ls hP hS hl
  exact lv_ineg C.1 C.2.1 hd  (k p e s m args below meth c C H locs ls hP hS hl)
def kk_ushr (x y : Int32) : Int32 := (x.toUInt32 >>> (y.toUInt32 &&& Int32.toUInt32 31)).toInt32
theorem kk_iushr {x y : Int32} (hd : kk_d cc pc .iushr 1 b) (k : KK Z sh own cc nL ret R Qc b lv (.int (kk_ushr x y) :: st) σ) : KK Z sh own cc nL ret R Qc pc lv (.int y :: .int x :: st) σ := by
  obtain ⟨hd, rfl⟩ := hd
  intro p e s m args below meth c C H locs ls hP hS hl
  exact lv_iushr C.1 C.2.1 hd rfl (k p e s m args below meth c C H locs ls hP hS hl)
theorem kk_i2l {x : Int32} (hd : kk_d cc pc .i2l 1 b) (k : KK Z sh own cc nL ret R Qc b lv (.long x.toInt64 :: st) σ) : KK Z sh own cc nL ret R Qc pc lv (.int x :: st) σ := by
  obtain ⟨hd, rfl⟩ := hd
  intro p e s m args below meth c C H locs ls hP hS hl
  exact lv_i2l C.1 C.2.1 hd rfl (k p e s m args below meth c C H locs ls hP hS hl)
theorem kk_idiv {x y : Int32} (hy : ¬ y = 0) (hd : kk_d cc pc .idiv 1 b) (k : KK Z sh own cc nL ret R Qc b lv (.int (x / y) :: st) σ) : KK Z sh own cc nL ret R Qc pc lv (.int y :: .int x :: st) σ := by
  obtain ⟨hd, rfl⟩ := hd
  intro p e s m args below meth c C H locs ls hP hS hl
  exact lv_idiv C.1 C.2.1 hd hy (k p e s m args below meth c C H locs ls hP hS hl)
theorem kk_irem {x y : Int32} (hy : ¬ y = 0) (hd : kk_d cc pc .irem 1 b) (k : KK Z sh own cc nL ret R Qc b lv (.int (x - x / y * y) :: st) σ) : KK Z sh own cc nL ret R Qc pc lv (.int y :: .int x :: st) σ := by
  obtain ⟨hd, rfl⟩ := hd
  intro p e s m args below meth c C H locs ls hP hS hl
  exact lv_irem C.1 C.2.1 hd hy (k p e s m args below meth c C H locs ls hP hS hl)
theorem kk_lcmp {x y : Int64} (hd : kk_d cc pc .lcmp 1 b) (k : KK Z sh own cc nL ret R Qc b lv (.int (lg_cmp x y) :: st) σ) : KK Z sh own cc nL ret R Qc pc lv (.long y :: .long x :: st) σ := by
  obtain ⟨hd, rfl⟩ := hd
  intro p e s m args below meth c C H locs ls hP hS hl
  exact W.lcmp C.1 C.2.1 hd  (k p e s m args below meth c C H locs ls hP hS hl)
theorem kk_dup {va : Value} (hv : va.category = 1) (hd : kk_d cc pc .dup 1 b) (k : KK Z sh own cc nL ret R Qc b lv (va :: va :: st) σ) : KK Z sh own cc nL ret R Qc pc lv (va :: st) σ := by
  obtain ⟨hd, rfl⟩ := hd
  intro p e s m args below meth c C H locs ls hP hS hl
  exact lv_dup C.1 C.2.1 hd hv (k p e s m args below meth c C H locs ls hP hS hl)
theorem kk_dup2 {va vb : Value} (hv : va.category = 1) (hw : vb.category = 1) (hd : kk_d cc pc .dup2 1 b) (k : KK Z sh own cc nL ret R Qc b lv (va :: vb :: va :: vb :: st) σ) : KK Z sh own cc nL ret R Qc pc lv (va :: vb :: st) σ := by
  obtain ⟨hd, rfl⟩ := hd
  intro p e s m args below meth c C H locs ls hP hS hl
  exact lv_dup2_11 C.1 C.2.1 hd hv hw (k p e s m args below meth c C H locs ls hP hS hl)
theorem kk_iconst {n : Int} {v : Int32} (hv : Int32.ofInt n = v) (hd : kk_d cc pc (.iconst n) 1 b) (k : KK Z sh own cc nL ret R Qc b lv (.int v :: st) σ) : KK Z sh own cc nL ret R Qc pc lv (st) σ := by
  obtain ⟨hd, rfl⟩ := hd
  intro p e s m args below meth c C H locs ls hP hS hl
  exact lv_iconst C.1 C.2.1 hd hv (k p e s m args below meth c C H locs ls hP hS hl)
theorem kk_bipush {n : Int} {v : Int32} (hv : (Int8.ofInt n).toInt32 = v) (hd : kk_d cc pc (.bipush n) 2 b) (k : KK Z sh own cc nL ret R Qc b lv (.int v :: st) σ) : KK Z sh own cc nL ret R Qc pc lv (st) σ := by
  obtain ⟨hd, rfl⟩ := hd
  intro p e s m args below meth c C H locs ls hP hS hl
  exact lv_bipush C.1 C.2.1 hd hv (k p e s m args below meth c C H locs ls hP hS hl)
theorem kk_sipush {n : Int} {v : Int32} (hv : (Int16.ofInt n).toInt32 = v) (hd : kk_d cc pc (.sipush n) 3 b) (k : KK Z sh own cc nL ret R Qc b lv (.int v :: st) σ) : KK Z sh own cc nL ret R Qc pc lv (st) σ := by
  obtain ⟨hd, rfl⟩ := hd
  intro p e s m args below meth c C H locs ls hP hS hl
  exact lv_sipush C.1 C.2.1 hd hv (k p e s m args below meth c C H locs ls hP hS hl)
theorem kk_lconst {n : Fin 2} {v : Int64} (hv : Int64.ofNat (n : Nat) = v) (hd : kk_d cc pc (.lconst n) 1 b) (k : KK Z sh own cc nL ret R Qc b lv (.long v :: st) σ) : KK Z sh own cc nL ret R Qc pc lv (st) σ := by
  obtain ⟨hd, rfl⟩ := hd
  intro p e s m args below meth c C H locs ls hP hS hl
  exact lv_lconst C.1 C.2.1 hd hv (k p e s m args below meth c C H locs ls hP hS hl)
theorem kk_iload_n {q : Fin 4} {x : Int32} (j : Nat) (hj : lv[j]? = some ((q : Nat), .int x)) (hd : kk_d cc pc (.iload_n q) 1 b) (k : KK Z sh own cc nL ret R Qc b lv (.int x :: st) σ) : KK Z sh own cc nL ret R Qc pc lv (st) σ := by
  obtain ⟨hd, rfl⟩ := hd
  intro p e s m args below meth c C H locs ls hP hS hl
  exact lv_iload_n C.1 C.2.1 hd rfl (lv_at hl j hj) (k p e s m args below meth c C H locs ls hP hS hl)
theorem kk_iload {i : Nat} {x : Int32} (j : Nat) (hj : lv[j]? = some (i, .int x)) (hd : kk_d cc pc (.iload i) 2 b) (k : KK Z sh own cc nL ret R Qc b lv (.int x :: st) σ) : KK Z sh own cc nL ret R Qc pc lv (st) σ := by
  obtain ⟨hd, rfl⟩ := hd
  intro p e s m args below meth c C H locs ls hP hS hl
  exact lv_iload C.1 C.2.1 hd (lv_at hl j hj) (k p e s m args below meth c C H locs ls hP hS hl)
theorem kk_aload_n {q : Fin 4} {x : Nat} (j : Nat) (hj : lv[j]? = some ((q : Nat), .ref x)) (hd : kk_d cc pc (.aload_n q) 1 b) (k : KK Z sh own cc nL ret R Qc b lv (.ref x :: st) σ) : KK Z sh own cc nL ret R Qc pc lv (st) σ := by
  obtain ⟨hd, rfl⟩ := hd
  intro p e s m args below meth c C H locs ls hP hS hl
  exact lv_aload_n C.1 C.2.1 hd rfl (lv_at hl j hj) (k p e s m args below meth c C H locs ls hP hS hl)
theorem kk_aload {i : Nat} {x : Nat} (j : Nat) (hj : lv[j]? = some (i, .ref x)) (hd : kk_d cc pc (.aload i) 2 b) (k : KK Z sh own cc nL ret R Qc b lv (.ref x :: st) σ) : KK Z sh own cc nL ret R Qc pc lv (st) σ := by
  obtain ⟨hd, rfl⟩ := hd
  intro p e s m args below meth c C H locs ls hP hS hl
  exact lv_aload C.1 C.2.1 hd (lv_at hl j hj) (k p e s m args below meth c C H locs ls hP hS hl)
theorem kk_lload_n {q : Fin 4} {x : Int64} (j : Nat) (hj : lv[j]? = some ((q : Nat), .long x)) (hd : kk_d cc pc (.lload_n q) 1 b) (k : KK Z sh own cc nL ret R Qc b lv (.long x :: st) σ) : KK Z sh own cc nL ret R Qc pc lv (st) σ := by
  obtain ⟨hd, rfl⟩ := hd
  intro p e s m args below meth c C H locs ls hP hS hl
  exact lv_lload_n C.1 C.2.1 hd rfl (lv_at hl j hj) (k p e s m args below meth c C H locs ls hP hS hl)
theorem kk_lload {i : Nat} {x : Int64} (j : Nat) (hj : lv[j]? = some (i, .long x)) (hd : kk_d cc pc (.lload i) 2 b) (k : KK Z sh own cc nL ret R Qc b lv (.long x :: st) σ) : KK Z sh own cc nL ret R Qc pc lv (st) σ := by
  obtain ⟨hd, rfl⟩ := hd
  intro p e s m args below meth c C H locs ls hP hS hl
  exact lv_lload C.1 C.2.1 hd (lv_at hl j hj) (k p e s m args below meth c C H locs ls hP hS hl)
theorem kk_istore_n {q : Fin 4} {i : Nat} {x : Int32} (hd : kk_d cc pc (.istore_n q) 1 b) (hi : (q : Nat) = i) (hn : i < nL) (hl' : (i, Value.int x) :: lv.filter (fun q => !(q.1 == i) && !(q.1 + 1 == i && q.2.category == 2)) = lv') (k : KK Z sh own cc nL ret R Qc b lv' (st) σ) : KK Z sh own cc nL ret R Qc pc lv (.int x :: st) σ := by
  obtain ⟨hd, rfl⟩ := hd
  intro p e s m args below meth c C H locs ls hP hS hl
  exact lv_istore_n C.1 C.2.1 hd hi hl hn hl' (fun ls hl => k p e s m args below meth c C H locs ls hP hS hl)
theorem kk_istore {i : Nat} {x : Int32} (hd : kk_d cc pc (.istore i) 2 b) (hn : i < nL) (hl' : (i, Value.int x) :: lv.filter (fun q => !(q.1 == i) && !(q.1 + 1 == i && q.2.category == 2)) = lv') (k : KK Z sh own cc nL ret R Qc b lv' (st) σ) : KK Z sh own cc nL ret R Qc pc lv (.int x :: st) σ := by
  obtain ⟨hd, rfl⟩ := hd
  intro p e s m args below meth c C H locs ls hP hS hl
  exact lv_istore C.1 C.2.1 hd hl hn hl' (fun ls hl => k p e s m args below meth c C H locs ls hP hS hl)
theorem kk_lstore_n {q : Fin 4} {i : Nat} {x : Int64} (hd : kk_d cc pc (.lstore_n q) 1 b) (hi : (q : Nat) = i) (hn : i + 1 < nL) (hl' : (i, Value.long x) :: lv.filter (fun q => !(q.1 == i) && (!(q.1 == i + 1) && !(q.1 + 1 == i && q.2.category == 2))) = lv') (k : KK Z sh own cc nL ret R Qc b lv' (st) σ) : KK Z sh own cc nL ret R Qc pc lv (.long x :: st) σ := by
  obtain ⟨hd, rfl⟩ := hd
  intro p e s m args below meth c C H locs ls hP hS hl
  exact lv_lstore_n C.1 C.2.1 hd hi hl hn hl' (fun ls hl => k p e s m args below meth c C H locs ls hP hS hl)
theorem kk_lstore {i : Nat} {x : Int64} (hd : kk_d cc pc (.lstore i) 2 b) (hn : i + 1 < nL) (hl' : (i, Value.long x) :: lv.filter (fun q => !(q.1 == i) && (!(q.1 == i + 1) && !(q.1 + 1 == i && q.2.category == 2))) = lv') (k : KK Z sh own cc nL ret R Qc b lv' (st) σ) : KK Z sh own cc nL ret R Qc pc lv (.long x :: st) σ := by
  obtain ⟨hd, rfl⟩ := hd
  intro p e s m args below meth c C H locs ls hP hS hl
  exact lv_lstore C.1 C.2.1 hd hl hn hl' (fun ls hl => k p e s m args below meth c C H locs ls hP hS hl)
theorem kk_iinc {i j : Nat} {n : Int} {x v : Int32} (hd : kk_d cc pc (.iinc i n) 3 b) (hj : lv[j]? = some (i, .int x)) (hv : x + Int32.ofInt n = v) (hn : i < nL) (hl' : (i, Value.int v) :: lv.filter (fun q => !(q.1 == i) && !(q.1 + 1 == i && q.2.category == 2)) = lv') (k : KK Z sh own cc nL ret R Qc b lv' (st) σ) : KK Z sh own cc nL ret R Qc pc lv (st) σ := by
  obtain ⟨hd, rfl⟩ := hd
  intro p e s m args below meth c C H locs ls hP hS hl
  exact lv_iinc C.1 C.2.1 hd hl hj hv hn hl' (fun ls hl => k p e s m args below meth c C H locs ls hP hS hl)
theorem kk_sub (ks : List Nat) (h : lv_pick lv ks = lv') (k : KK Z sh own cc nL ret R Qc pc lv' (st) σ) : KK Z sh own cc nL ret R Qc pc lv (st) σ := by
  intro p e s m args below meth c C H locs ls hP hS hl
  exact k p e s m args below meth c C H locs ls hP hS (lv_sub hl ks h)
theorem kk_goto (hd : kk_dj cc pc (.goto off) 3 off b tgt) (k : KK Z sh own cc nL ret R Qc tgt lv (st) σ) : KK Z sh own cc nL ret R Qc pc lv (st) σ := by
  obtain ⟨hd, rfl, ht⟩ := hd
  intro p e s m args below meth c C H locs ls hP hS hl
  exact lv_goto C.1 C.2.1 hd ht (k p e s m args below meth c C H locs ls hP hS hl)
theorem kk_if_eq {x : Int32} (hd : kk_dj cc pc (.ifCond .eq off) 3 off b tgt) (kt : x = 0 → KK Z sh own cc nL ret R Qc tgt lv (st) σ) (kf : ¬ x = 0 → KK Z sh own cc nL ret R Qc b lv (st) σ) : KK Z sh own cc nL ret R Qc pc lv (.int x :: st) σ := by
  obtain ⟨hd, rfl, ht⟩ := hd
  intro p e s m args below meth c C H locs ls hP hS hl
  exact lv_if_eq C.1 C.2.1 hd ht (fun z => kt z p e s m args below meth c C H locs ls hP hS hl) (fun z => kf z p e s m args below meth c C H locs ls hP hS hl)
theorem kk_icmp_eq {x y : Int32} (hd : kk_dj cc pc (.if_icmp .eq off) 3 off b tgt) (kt : x = y → KK Z sh own cc nL ret R Qc tgt lv (st) σ) (kf : ¬ x = y → KK Z sh own cc nL ret R Qc b lv (st) σ) : KK Z sh own cc nL ret R Qc pc lv (.int y :: .int x :: st) σ := by
  obtain ⟨hd, rfl, ht⟩ := hd
  intro p e s m args below meth c C H locs ls hP hS hl
  exact lv_icmp_eq C.1 C.2.1 hd ht (fun z => kt z p e s m args below meth c C H locs ls hP hS hl) (fun z => kf z p e s m args below meth c C H locs ls hP hS hl)
theorem kk_if_ne {x : Int32} (hd : kk_dj cc pc (.ifCond .ne off) 3 off b tgt) (kt : ¬ x = 0 → KK Z sh own cc nL ret R Qc tgt lv (st) σ) (kf : x = 0 → KK Z sh own cc nL ret R Qc b lv (st) σ) : KK Z sh own cc nL ret R Qc pc lv (.int x :: st) σ := by
  obtain ⟨hd, rfl, ht⟩ := hd
  intro p e s m args below meth c C H locs ls hP hS hl
  exact lv_if_ne C.1 C.2.1 hd ht (fun z => kt z p e s m args below meth c C H locs ls hP hS hl) (fun z => kf z p e s m args below meth c C H locs ls hP hS hl)
theorem kk_icmp_ne {x y : Int32} (hd : kk_dj cc pc (.if_icmp .ne off) 3 off b tgt) (kt : ¬ x = y → KK Z sh own cc nL ret R Qc tgt lv (st) σ) (kf : x = y → KK Z sh own cc nL ret R Qc b lv (st) σ) : KK Z sh own cc nL ret R Qc pc lv (.int y :: .int x :: st) σ := by
  obtain ⟨hd, rfl, ht⟩ := hd
  intro p e s m args below meth c C H locs ls hP hS hl
  exact lv_icmp_ne C.1 C.2.1 hd ht (fun z => kt z p e s m args below meth c C H locs ls hP hS hl) (fun z => kf z p e s m args below meth c C H locs ls hP hS hl)
theorem kk_if_lt {x : Int32} (hd : kk_dj cc pc (.ifCond .lt off) 3 off b tgt) (kt : x < 0 → KK Z sh own cc nL ret R Qc tgt lv (st) σ) (kf : ¬ x < 0 → KK Z sh own cc nL ret R Qc b lv (st) σ) : KK Z sh own cc nL ret R Qc pc lv (.int x :: st) σ := by
  obtain ⟨hd, rfl, ht⟩ := hd
  intro p e s m args below meth c C H locs ls hP hS hl
  exact lv_if_lt C.1 C.2.1 hd ht (fun z => kt z p e s m args below meth c C H locs ls hP hS hl) (fun z => kf z p e s m args below meth c C H locs ls hP hS hl)
theorem kk_icmp_lt {x y : Int32} (hd : kk_dj cc pc (.if_icmp .lt off) 3 off b tgt) (kt : x < y → KK Z sh own cc nL ret R Qc tgt lv (st) σ) (kf : ¬ x < y → KK Z sh own cc nL ret R Qc b lv (st) σ) : KK Z sh own cc nL ret R Qc pc lv (.int y :: .int x :: st) σ := by
  obtain ⟨hd, rfl, ht⟩ := hd
  intro p e s m args below meth c C H locs ls hP hS hl
  exact lv_icmp_lt C.1 C.2.1 hd ht (fun z => kt z p e s m args below meth c C H locs ls hP hS hl) (fun z => kf z p e s m args below meth c C H locs ls hP hS hl)
theorem kk_if_ge {x : Int32} (hd : kk_dj cc pc (.ifCond .ge off) 3 off b tgt) (kt : 0 ≤ x → KK Z sh own cc nL ret R Qc tgt lv (st) σ) (kf : ¬ 0 ≤ x → KK Z sh own cc nL ret R Qc b lv (st) σ) : KK Z sh own cc nL ret R Qc pc lv (.int x :: st) σ := by
  obtain ⟨hd, rfl, ht⟩ := hd
  intro p e s m args below meth c C H locs ls hP hS hl
  exact lv_if_ge C.1 C.2.1 hd ht (fun z => kt z p e s m args below meth c C H locs ls hP hS hl) (fun z => kf z p e s m args below meth c C H locs ls hP hS hl)
theorem kk_icmp_ge {x y : Int32} (hd : kk_dj cc pc (.if_icmp .ge off) 3 off b tgt) (kt : y ≤ x → KK Z sh own cc nL ret R Qc tgt lv (st) σ) (kf : ¬ y ≤ x → KK Z sh own cc nL ret R Qc b lv (st) σ) : KK Z sh own cc nL ret R Qc pc lv (.int y :: .int x :: st) σ := by
  obtain ⟨hd, rfl, ht⟩ := hd
  intro p e s m args below meth c C H locs ls hP hS hl
  exact lv_icmp_ge C.1 C.2.1 hd ht (fun z => kt z p e s m args below meth c C H locs ls hP hS hl) (fun z => kf z p e s m args below meth c C H locs ls hP hS hl)
theorem kk_if_gt {x : Int32} (hd : kk_dj cc pc (.ifCond .gt off) 3 off b tgt) (kt : 0 < x → KK Z sh own cc nL ret R Qc tgt lv (st) σ) (kf : ¬ 0 < x → KK Z sh own cc nL ret R Qc b lv (st) σ) : KK Z sh own cc nL ret R Qc pc lv (.int x :: st) σ := by
  obtain ⟨hd, rfl, ht⟩ := hd
  intro p e s m args below meth c C H locs ls hP hS hl
  exact lv_if_gt C.1 C.2.1 hd ht (fun z => kt z p e s m args below meth c C H locs ls hP hS hl) (fun z => kf z p e s m args below meth c C H locs ls hP hS hl)
theorem kk_icmp_gt {x y : Int32} (hd : kk_dj cc pc (.if_icmp .gt off) 3 off b tgt) (kt : y < x → KK Z sh own cc nL ret R Qc tgt lv (st) σ) (kf : ¬ y < x → KK Z sh own cc nL ret R Qc b lv (st) σ) : KK Z sh own cc nL ret R Qc pc lv (.int y :: .int x :: st) σ := by
  obtain ⟨hd, rfl, ht⟩ := hd
  intro p e s m args below meth c C H locs ls hP hS hl
  exact lv_icmp_gt C.1 C.2.1 hd ht (fun z => kt z p e s m args below meth c C H locs ls hP hS hl) (fun z => kf z p e s m args below meth c C H locs ls hP hS hl)
theorem kk_if_le {x : Int32} (hd : kk_dj cc pc (.ifCond .le off) 3 off b tgt) (kt : x ≤ 0 → KK Z sh own cc nL ret R Qc tgt lv (st) σ) (kf : ¬ x ≤ 0 → KK Z sh own cc nL ret R Qc b lv (st) σ) : KK Z sh own cc nL ret R Qc pc lv (.int x :: st) σ := by
  obtain ⟨hd, rfl, ht⟩ := hd
  intro p e s m args below meth c C H locs ls hP hS hl
  exact lv_if_le C.1 C.2.1 hd ht (fun z => kt z p e s m args below meth c C H locs ls hP hS hl) (fun z => kf z p e s m args below meth c C H locs ls hP hS hl)
theorem kk_icmp_le {x y : Int32} (hd : kk_dj cc pc (.if_icmp .le off) 3 off b tgt) (kt : x ≤ y → KK Z sh own cc nL ret R Qc tgt lv (st) σ) (kf : ¬ x ≤ y → KK Z sh own cc nL ret R Qc b lv (st) σ) : KK Z sh own cc nL ret R Qc pc lv (.int y :: .int x :: st) σ := by
  obtain ⟨hd, rfl, ht⟩ := hd
  intro p e s m args below meth c C H locs ls hP hS hl
  exact lv_icmp_le C.1 C.2.1 hd ht (fun z => kt z p e s m args below meth c C H locs ls hP hS hl) (fun z => kf z p e s m args below meth c C H locs ls hP hS hl)
theorem kk_topi {x : Int32} (k : ∀ y : Int32, y = x → KK Z sh own cc nL ret R Qc pc lv (.int y :: st) σ) : KK Z sh own cc nL ret R Qc pc lv (.int x :: st) σ := k x rfl
theorem kk_topl {x : Int64} (k : ∀ y : Int64, y = x → KK Z sh own cc nL ret R Qc pc lv (.long y :: st) σ) : KK Z sh own cc nL ret R Qc pc lv (.long x :: st) σ := k x rfl
theorem kk_ldc {i : Nat} {v : Int32} (hd : kk_d cc pc (.ldc i) 2 b) (hw : Cond.constant own i v ∈ kk_good) (k : KK Z sh own cc nL ret R Qc b lv (.int v :: st) σ) : KK Z sh own cc nL ret R Qc pc lv (st) σ := by
  obtain ⟨hd, rfl⟩ := hd
  intro p e s m args below meth c C H locs ls hP hS hl
  exact lv_ldc C.1 C.2.1 C.2.2.2.2.1 (C.2.2.2.2.2.1 _ hw) hd (k p e s m args below meth c C H locs ls hP hS hl)
theorem kk_ldcw {i : Nat} {v : Int32} (hd : kk_d cc pc (.ldc_w i) 3 b) (hw : Cond.constant own i v ∈ kk_good) (k : KK Z sh own cc nL ret R Qc b lv (.int v :: st) σ) : KK Z sh own cc nL ret R Qc pc lv (st) σ := by
  obtain ⟨hd, rfl⟩ := hd
  intro p e s m args below meth c C H locs ls hP hS hl
  exact lv_ldcw C.1 C.2.1 C.2.2.2.2.1 (C.2.2.2.2.2.1 _ hw) hd (k p e s m args below meth c C H locs ls hP hS hl)
theorem kk_ldc2 {i : Nat} {v : Int64} (hd : kk_d cc pc (.ldc2_w i) 3 b) (hw : Cond.constantLong own i v ∈ kk_good) (k : KK Z sh own cc nL ret R Qc b lv (.long v :: st) σ) : KK Z sh own cc nL ret R Qc pc lv (st) σ := by
  obtain ⟨hd, rfl⟩ := hd
  intro p e s m args below meth c C H locs ls hP hS hl
  exact lv_ldc2 C.1 C.2.1 C.2.2.2.2.1 (C.2.2.2.2.2.1 _ hw) hd (k p e s m args below meth c C H locs ls hP hS hl)
theorem kk_swc (x : Int32) (n : Nat) (hn : n < 2 ^ 31) : (∃ i, i < n ∧ x = nI i) ∨ (x.toInt < 0 ∨ (n : Int) ≤ x.toInt) := by
  by_cases h0 : x < 0
  · right; left
    exact Int32.lt_iff_toInt_lt.mp h0
  · obtain ⟨j, hj, rfl⟩ := nI_of h0
    rw [nI_toInt hj]
    by_cases h : j < n
    · exact Or.inl ⟨j, h, rfl⟩
    · right; right; omega
theorem kk_swIn {dflt hi : Int} {offs : Array Int} {len : Nat} {x : Int32} (hd : decode cc pc = .ok (.tableswitch dflt 0 hi offs, len)) (i : Nat) (hx : x = nI i) (hi' : (i : Int) ≤ hi) (hs : i < 1000) (ho : offs[i]? = some off) (ht : (pc : Int) + off = (tgt : Int)) (k : KK Z sh own cc nL ret R Qc tgt lv (st) σ) : KK Z sh own cc nL ret R Qc pc lv (.int x :: st) σ := by
  intro p e s m args below meth c C H locs ls hP hS hl
  have hxi : x.toInt = (i : Int) := by rw [hx, nI_toInt (by omega)]
  exact lv_tableIn C.1 C.2.1 hd (by rw [hxi]; omega) (by rw [hxi]; omega) (by rw [hxi]; simpa using ho) ht (k p e s m args below meth c C H locs ls hP hS hl)
theorem kk_swOut {dflt hi : Int} {offs : Array Int} {len : Nat} {x : Int32} (hd : decode cc pc = .ok (.tableswitch dflt 0 hi offs, len)) (hx : x.toInt < 0 ∨ hi < x.toInt) (ht : (pc : Int) + dflt = (tgt : Int)) (k : KK Z sh own cc nL ret R Qc tgt lv (st) σ) : KK Z sh own cc nL ret R Qc pc lv (.int x :: st) σ := by
  intro p e s m args below meth c C H locs ls hP hS hl
  exact lv_tableOut C.1 C.2.1 hd hx ht (k p e s m args below meth c C H locs ls hP hS hl)
/-- a field's link: own class, entry, class number, place of the field; by itself or by the nest -/
def kk_FL (own : String) (idx ci j : Nat) (ty : FieldType) : Prop := ∃ (C : String) (T : u_T) (N : Nat) (ty0 : Nat → FieldType), vwCl[ci]? = some (C, T, N) ∧ j < N ∧ (∀ w ∈ u_ws C T N, w ∈ kk_good) ∧ (∀ k, k < N → parseFieldDescriptor (T k).2.2.1 = some (ty0 k)) ∧ (∀ a, a < N → ∀ b, b < N → a ≠ b → (T a).2.1 ≠ (T b).2.1) ∧ (T j).1 = C ∧ parseFieldDescriptor (T j).2.2.1 = some ty ∧ (Cond.fieldLink own idx C (T j).2.1 (T j).2.2.1 ∈ kk_good ∨ ∃ host, Cond.fieldLinkNest own idx C (T j).2.1 (T j).2.2.1 host ∈ kk_nest)
def kk_FN (ci j : Nat) : Prop := ∃ (C : String) (T : u_T) (N : Nat), vwCl[ci]? = some (C, T, N) ∧ (T j).2.2.2 = false
theorem kk_getv {idx ci j : Nat} {ty : FieldType} {fs : List kk_Fd} {v : Value} (hd : kk_d cc pc (.getfield idx) 3 b) (hf : kk_FL own idx ci j ty) (k0 : Nat) (hs : sh[k0]? = some (.inr (ci, fs))) (hv : (kk_fvs Z.2.1 (σ.1 k0) 0 fs)[j]? = some v) (k : KK Z sh own cc nL ret R Qc b lv (v :: st) σ) : KK Z sh own cc nL ret R Qc pc lv (.ref (Z.2.1 k0) :: st) σ := by
  obtain ⟨hd, rfl⟩ := hd
  intro p e s m args below meth c C H locs ls hP hS hl
  obtain ⟨C', T, N, ty0, hc, hj, hin, hty, hnm, hTC, hdsc, hlink⟩ := hf
  rcases hlink with h | ⟨host, h⟩
  · exact va_get C.1 C.2.1 C.2.2.2.2.2.1 hin C.2.2.2.2.1 C.2.2.2.2.2.2.2.1 hP k0 (kk_ws_get hs) hc j hj (C.2.2.2.2.2.1 _ h) (fun _ h9 => by rw [hTC] at h9; exact h9) hv hd (k p e s m args below meth c C H locs ls hP hS hl)
  · exact va_getN C.1 C.2.1 C.2.2.2.2.2.1 hin C.2.2.2.2.1 C.2.2.2.2.2.2.2.1 hP k0 (kk_ws_get hs) hc j hj (va_Nw.use (kk_isN_on rfl) (C.2.2.2.2.2.2.2.2.1 _ h)) (fun _ h9 => by rw [hTC] at h9; exact h9) hv hd (k p e s m args below meth c C H locs ls hP hS hl)
theorem kk_geti {idx ci j : Nat} {ty : FieldType} {fs : List kk_Fd} (hd : kk_d cc pc (.getfield idx) 3 b) (hf : kk_FL own idx ci j ty) {k0 : Nat} (hs : sh[k0]? = some (.inr (ci, fs))) (hj : fs[j]? = some none) (k : KK Z sh own cc nL ret R Qc b lv (.int (σ.1 k0 j) :: st) σ) : KK Z sh own cc nL ret R Qc pc lv (.ref (Z.2.1 k0) :: st) σ :=
  kk_getv hd hf k0 hs (by rw [kk_fvs_get, hj, Nat.zero_add]; rfl) k
theorem kk_getr {idx ci j r : Nat} {ty : FieldType} {fs : List kk_Fd} (hd : kk_d cc pc (.getfield idx) 3 b) (hf : kk_FL own idx ci j ty) {k0 : Nat} (hs : sh[k0]? = some (.inr (ci, fs))) (hj : fs[j]? = some (some r)) (k : KK Z sh own cc nL ret R Qc b lv (.ref (Z.2.1 r) :: st) σ) : KK Z sh own cc nL ret R Qc pc lv (.ref (Z.2.1 k0) :: st) σ :=
  kk_getv hd hf k0 hs (by rw [kk_fvs_get, hj]; rfl) k
theorem kk_putv {idx ci j : Nat} {ty : FieldType} {fs : List kk_Fd} {x : Int32} (hd : kk_d cc pc (.putfield idx) 3 b) (hf : kk_FL own idx ci j ty) (hfin : kk_FN ci j) (hn : narrow ty (.int x) = .int x) (hfit : fits ty (.int x) = true) {k0 : Nat} (hs : sh[k0]? = some (.inr (ci, fs))) (hj' : fs[j]? = some none) (k : KK Z sh own cc nL ret R Qc b lv (st) (kk_wr σ k0 j x)) : KK Z sh own cc nL ret R Qc pc lv (.int x :: .ref (Z.2.1 k0) :: st) σ := by
  obtain ⟨hd, rfl⟩ := hd
  intro p e s m args below meth c C H locs ls hP hS hl
  obtain ⟨C', T, N, ty0, hc, hj, hin, hty, hnm, hTC, hdsc, hlink⟩ := hf
  obtain ⟨C2, T2, N2, hc2, hfn⟩ := hfin
  obtain ⟨rfl, rfl, rfl⟩ : C' = C2 ∧ T = T2 ∧ N = N2 := by
    have h := hc.symm.trans hc2
    simp only [Option.some.injEq, Prod.mk.injEq] at h
    exact h
  have hlen : j < (kk_fvs Z.2.1 (σ.1 k0) 0 fs).length := by rw [kk_fvs_len]; exact (List.getElem?_eq_some_iff.mp hj').1
  rcases hlink with h | ⟨host, h⟩
  · exact va_put C.1 C.2.1 C.2.2.2.2.2.1 hin ty0 hty hnm C.2.2.2.2.1 C.2.2.2.2.2.2.2.1 hP (kk_D σ _ C.2.2.2.2.2.2.2.2.2) hS k0 (kk_ws_get hs) hc j hj (C.2.2.2.2.2.1 _ h) (fun _ h9 => by rw [hTC] at h9; exact h9) hfn hdsc hn hfit hlen hd (fun H locs hP _ hS => by rw [kk_ws_setO hs hj'] at hP; exact k p e s m args below meth c C H locs ls hP hS hl)
  · exact va_putN C.1 C.2.1 C.2.2.2.2.2.1 hin ty0 hty hnm C.2.2.2.2.1 C.2.2.2.2.2.2.2.1 hP (kk_D σ _ C.2.2.2.2.2.2.2.2.2) hS k0 (kk_ws_get hs) hc j hj (va_Nw.use (kk_isN_on rfl) (C.2.2.2.2.2.2.2.2.1 _ h)) (fun _ h9 => by rw [hTC] at h9; exact h9) hfn hdsc hn hfit hlen hd (fun H locs hP _ hS => by rw [kk_ws_setO hs hj'] at hP; exact k p e s m args below meth c C H locs ls hP hS hl)
theorem kk_puti {idx ci j : Nat} {fs : List kk_Fd} {x : Int32} (hd : kk_d cc pc (.putfield idx) 3 b) (hf : kk_FL own idx ci j .int) (hfin : kk_FN ci j) {k0 : Nat} (hs : sh[k0]? = some (.inr (ci, fs))) (hj' : fs[j]? = some none) (k : KK Z sh own cc nL ret R Qc b lv (st) (kk_wr σ k0 j x)) : KK Z sh own cc nL ret R Qc pc lv (.int x :: .ref (Z.2.1 k0) :: st) σ :=
  kk_putv hd hf hfin rfl rfl hs hj' k
theorem kk_putz {idx ci j : Nat} {fs : List kk_Fd} {x : Int32} (hd : kk_d cc pc (.putfield idx) 3 b) (hf : kk_FL own idx ci j .boolean) (hfin : kk_FN ci j) (hx : x = 0 ∨ x = 1) {k0 : Nat} (hs : sh[k0]? = some (.inr (ci, fs))) (hj' : fs[j]? = some none) (k : KK Z sh own cc nL ret R Qc b lv (st) (kk_wr σ k0 j x)) : KK Z sh own cc nL ret R Qc pc lv (.int x :: .ref (Z.2.1 k0) :: st) σ :=
  kk_putv hd hf hfin (by rcases hx with rfl | rfl <;> rfl) (by rcases hx with rfl | rfl <;> rfl) hs hj' k
theorem kk_iald {i : Int32} {k0 n : Nat} (hd : kk_d cc pc .iaload 1 b) (hs : sh[k0]? = some (.inl (false, n))) (hin : vp_in i n) (k : KK Z sh own cc nL ret R Qc b lv (.int (kk_rd σ k0 i) :: st) σ) : KK Z sh own cc nL ret R Qc pc lv (.int i :: .ref (Z.2.1 k0) :: st) σ := by
  obtain ⟨hd, rfl⟩ := hd
  intro p e s m args below meth c C H locs ls hP hS hl
  exact va_iald C.1 C.2.1 C.2.2.2.2.2.2.2.1 hP k0 0 (kk_ws_get hs) rfl hin hd (k p e s m args below meth c C H locs ls hP hS hl)
theorem kk_iast {i x : Int32} {k0 n : Nat} (hd : kk_d cc pc .iastore 1 b) (hs : sh[k0]? = some (.inl (false, n))) (hin : vp_in i n) (k : KK Z sh own cc nL ret R Qc b lv (st) (kk_wr σ k0 i.toNatClampNeg x)) : KK Z sh own cc nL ret R Qc pc lv (.int x :: .int i :: .ref (Z.2.1 k0) :: st) σ := by
  obtain ⟨hd, rfl⟩ := hd
  intro p e s m args below meth c C H locs ls hP hS hl
  exact va_iast C.1 C.2.1 C.2.2.2.2.2.2.2.1 hP (kk_D σ _ C.2.2.2.2.2.2.2.2.2) hS k0 0 (kk_ws_get hs) rfl hin hd (fun H locs hP _ hS => by rw [kk_ws_setA hs] at hP; exact k p e s m args below meth c C H locs ls hP hS hl)
theorem kk_lald {i : Int32} {k0 n : Nat} (hd : kk_d cc pc .laload 1 b) (hs : sh[k0]? = some (.inl (true, n))) (hin : vp_in i n) (k : KK Z sh own cc nL ret R Qc b lv (.long (σ.2 i.toNatClampNeg) :: st) σ) : KK Z sh own cc nL ret R Qc pc lv (.int i :: .ref (Z.2.1 k0) :: st) σ := by
  obtain ⟨hd, rfl⟩ := hd
  intro p e s m args below meth c C H locs ls hP hS hl
  exact va_lald C.1 C.2.1 C.2.2.2.2.2.2.2.1 hP k0 1 (kk_ws_get hs) rfl hin hd (k p e s m args below meth c C H locs ls hP hS hl)
theorem kk_last {i : Int32} {x : Int64} {k0 n : Nat} (hd : kk_d cc pc .lastore 1 b) (hs : sh[k0]? = some (.inl (true, n))) (hu : ∀ t m, sh[t]? = some (.inl (true, m)) → t = k0) (hin : vp_in i n) (k : KK Z sh own cc nL ret R Qc b lv (st) (kk_wrL σ i.toNatClampNeg x)) : KK Z sh own cc nL ret R Qc pc lv (.long x :: .int i :: .ref (Z.2.1 k0) :: st) σ := by
  obtain ⟨hd, rfl⟩ := hd
  intro p e s m args below meth c C H locs ls hP hS hl
  exact va_last C.1 C.2.1 C.2.2.2.2.2.2.2.1 hP (kk_D σ _ C.2.2.2.2.2.2.2.2.2) hS k0 1 (kk_ws_get hs) rfl hin hd (fun H locs hP _ hS => by rw [kk_ws_setL hs hu] at hP; exact k p e s m args below meth c C H locs ls hP hS hl)
theorem kk_alen {k0 n : Nat} {v : Int32} (hd : kk_d cc pc .arraylength 1 b) (hs : sh[k0]? = some (.inl (false, n))) (hv : Int32.ofNat n = v) (k : KK Z sh own cc nL ret R Qc b lv (.int v :: st) σ) : KK Z sh own cc nL ret R Qc pc lv (.ref (Z.2.1 k0) :: st) σ := by
  obtain ⟨hd, rfl⟩ := hd
  intro p e s m args below meth c C H locs ls hP hS hl
  exact va_alen C.1 C.2.1 C.2.2.2.2.2.2.2.1 hP k0 0 (kk_ws_get hs) rfl hv hd (k p e s m args below meth c C H locs ls hP hS hl)
theorem kk_copy {idx : Nat} {k0 k1 n0 n1 : Nat} {n : Int32} (hd : kk_d cc pc (.invokestatic idx) 3 b) (hw1 : Cond.methodLink own idx arraycopyName ∈ kk_good) (hw2 : Cond.native arraycopyName ∈ kk_good) (hw3 : Cond.static arraycopyName ∈ kk_good) (hw4 : Cond.initialized "java/lang/System" ∈ kk_good) (hs0 : sh[k0]? = some (.inl (false, n0))) (hs1 : sh[k1]? = some (.inl (false, n1))) (h3 : ¬ n < 0) (h4 : n.toNatClampNeg ≤ n0) (h5 : n.toNatClampNeg ≤ n1) (hR : 1 ≤ R.frames ∧ (st.map fun v => v.category).sum + (nativeFrameWords "java/lang/System" "arraycopy" 5 + 11) ≤ R.locals) (k : KK Z sh own cc nL ret R Qc b lv (st) (kk_wrF σ k1 (va_cpy (σ.1 k0) (σ.1 k1) 0 0 n.toNatClampNeg))) : KK Z sh own cc nL ret R Qc pc lv (.int n :: .int 0 :: .ref (Z.2.1 k1) :: .int 0 :: .ref (Z.2.1 k0) :: st) σ := by
  obtain ⟨hd, rfl⟩ := hd
  intro p e s m args below meth c C H locs ls hP hS hl
  exact va_copyi C.1 C.2.1 (by rw [C.2.2.2.1]; exact hl.1.symm) C.2.2.2.2.1 (C.2.2.2.2.2.1 _ hw1) (C.2.2.2.2.2.1 _ hw2) (C.2.2.2.2.2.1 _ hw3) (C.2.2.2.2.2.1 _ hw4) C.2.2.2.2.2.2.2.1 hP (kk_D σ _ C.2.2.2.2.2.2.2.2.2) hS k0 k1 0 0 (kk_ws_get hs0) (kk_ws_get hs1) rfl rfl rfl (by decide) (by decide) h3 (by show 0 + _ ≤ _; omega) (by show 0 + _ ≤ _; omega) (fun _ _ => rfl) hR.1 hR.2 hd (fun H locs hP _ hS => by rw [kk_ws_setA hs1] at hP; exact k p e s m args below meth c C H locs ls hP hS hl)
theorem kk_iret {Q : Int32 → kk_St → Prop} {v : Int32} (hd : kk_d cc pc .ireturn 1 b) (h : Q v σ) : KK Z sh own cc nL (some .int) R (kk_Qi Z sh Q) pc lv [.int v] σ := by
  obtain ⟨hd, rfl⟩ := hd
  intro p e s m args below meth c C H locs ls hP hS hl
  exact W.iret (v := v) C.1 C.2.1 C.2.2.1 (fun t ht hW => ⟨⟨v, σ, rfl, h, by show kk_P Z sh σ t.heap; rw [ht]; exact hP⟩, hS.F ht⟩) hS.2.2 hd C.2.2.2.2.2.2.1
theorem kk_zret {Q : Int32 → kk_St → Prop} {v : Int32} (hd : kk_d cc pc .ireturn 1 b) (hv : v = 0 ∨ v = 1) (h : Q v σ) : KK Z sh own cc nL (some .boolean) R (kk_Qi Z sh Q) pc lv [.int v] σ := by
  obtain ⟨hd, rfl⟩ := hd
  intro p e s m args below meth c C H locs ls hP hS hl
  exact W.zret (v := v) C.1 C.2.1 C.2.2.1 (by rcases hv with rfl | rfl <;> rfl) (fun t ht hW => ⟨⟨v, σ, rfl, h, by show kk_P Z sh σ t.heap; rw [ht]; exact hP⟩, hS.F ht⟩) hS.2.2 hd C.2.2.2.2.2.2.1
theorem kk_lret {Q : Int64 → kk_St → Prop} {v : Int64} (hd : kk_d cc pc .lreturn 1 b) (h : Q v σ) : KK Z sh own cc nL (some .long) R (kk_Ql Z sh Q) pc lv [.long v] σ := by
  obtain ⟨hd, rfl⟩ := hd
  intro p e s m args below meth c C H locs ls hP hS hl
  exact W.lret (v := v) C.1 C.2.1 C.2.2.1 (fun t ht hW => ⟨⟨v, σ, rfl, h, by show kk_P Z sh σ t.heap; rw [ht]; exact hP⟩, hS.F ht⟩) hS.2.2 hd C.2.2.2.2.2.2.1
theorem kk_vret {Q : kk_St → Prop} (hd : kk_d cc pc .return_ 1 b) (h : Q σ) : KK Z sh own cc nL none R (kk_Qv Z sh Q) pc lv [] σ := by
  obtain ⟨hd, rfl⟩ := hd
  intro p e s m args below meth c C H locs ls hP hS hl
  exact W.vret C.1 C.2.1 C.2.2.1 (fun t ht hW => ⟨⟨σ, rfl, h, by show kk_P Z sh σ t.heap; rw [ht]; exact hP⟩, hS.F ht⟩) hS.2.2 hd C.2.2.2.2.2.2.1
theorem kk_met {y : MethodName} {av : List Value} (hy : plainName y.cls = true) (hown : y.cls = own) (hlen : (lg_sl av).length ≤ nL) (hlv : lv_args 0 av = lv) (k : KK Z sh own cc nL ret R Qc 0 lv [] σ) : kk_M Z sh y cc nL ret R av σ Qc := by
  intro sz
  refine Met.ofW (cc := cc) (maxL := nL) (ret := ret) hy rfl ?_
  intro p e s m args below meth c s₁ B hml hv
  obtain ⟨rfl, hsz, hP, hK⟩ := hv
  subst hsz
  have hts := atoms_spec (ws := .code y cc nL ret :: kk_good) B.pre
  have hown' : s.vm.findClass own = some m.cls := by rw [← hown]; exact findClass_of_methodNamed B.named
  have hl := lv_entry av (n := nL) hlen
  rw [lg_entry_eq]
  generalize (lg_sl av ++ List.replicate (nL - (lg_sl av).length) Slot.unset).toArray = ls at hl ⊢
  rw [hlv] at hl
  exact k p e s m _ below meth c ⟨B.exec, B.bytes, B.returns, hml, hown', fun w hw => hts w (List.mem_cons_of_mem _ hw), B.notSynchronized, hK⟩ s.heap [] ls hP va_S.rf hl
def kk_ML (own : String) (idx : Nat) (y : MethodName) (cc : ByteArray) (nL : Nat) (ret : Option FieldType) (n : Nat) (stat : Bool) : Prop :=
  Cond.code y cc nL ret ∈ kk_good ∧ Cond.initialized y.cls ∈ kk_good ∧ (y.cls ≠ "java/lang/invoke/MethodHandle" ∧ y.cls ≠ "java/lang/invoke/VarHandle" ∧ (parseMethodDescriptor y.desc).map (fun d => d.parameters.length) = some n) ∧ (match stat with
    | true => Cond.static y ∈ kk_good
    | false => Cond.instanceMethod y ∈ kk_good ∧ Cond.selects y.cls y y ∈ kk_good) ∧ (Cond.methodLink own idx y ∈ kk_good ∨ ∃ host, Cond.methodLinkNest own idx y host ∈ kk_nest)
def kk_fit (nL : Nat) (R' R : Room) : Prop := R'.cells = 0 ∧ R'.slots = 0 ∧ R'.frames + 1 ≤ R.frames ∧ 8 + (nL + 11) + R'.locals ≤ R.locals
def kk_rcv (sh : List kk_Sh) (k : Nat) (y : MethodName) : Prop := ∃ (ci : Nat) (fs : List kk_Fd) (T : u_T) (N : Nat), sh[k]? = some (.inr (ci, fs)) ∧ vwCl[ci]? = some (y.cls, T, N)
theorem kk_goodW {w : Cond} (h : w ∈ kk_good) : (w.onTables && w.keeps) = true ∨ ∃ ty, w = .arrayClass ty := good_of_word (List.mem_filter.mp h).2
theorem kk_goodIn {w : Cond} (h : w ∈ kk_good) : GoodIn kk_good (w :: kk_good) := fun v hv => by
  rcases List.mem_cons.mp hv with rfl | hv
  · exact ⟨h, kk_goodW h⟩
  · exact ⟨hv, kk_goodW hv⟩
theorem kk_K.warm {s U : State} (h : kk_K Z sh s) (hW : s.WarmedH U.vm) : kk_K Z sh U := ⟨va_K.moved hW.alike h.1, fun w hw => kk_isN_warm (List.mem_filter.mp hw).2 hW (h.2.1 w hw), h.2.2⟩
theorem kk_blind {av : List Value} {sz : Nat} : FrameBlind (va_Pc av (fun U => U.heap.size = sz ∧ kk_P Z sh σ U.heap ∧ kk_K Z sh U)) := by
  intro a U g mk q
  obtain ⟨q0, q1, qP, qK, qN, qI⟩ := q
  exact ⟨q0, q1, qP, va_K.moved (u := U) (U := U.calling g mk a) (Vm.Alike.refl U.vm) qK, fun w hw => va_Nw.same (u := U) (U := U.calling g mk a) (kk_isN_on (List.mem_filter.mp hw).2) rfl (qN w hw), qI⟩
theorem kk_A_mono {sz sz' : Nat} (h : sz ≤ sz') : ∀ q, kk_A Z sh sz' q → kk_A Z sh sz q := by
  intro q hq
  rcases hq with h1 | h1
  · exact Or.inl h1
  · exact Or.inr (Nat.le_trans h h1)
theorem kk_runV {p : Program} {e : Env} {s : State} {m : MethodId} {args : Array Value} {below : List Frame} {meth : Method} {c : Code} {H : Heap} {locs : List Loc} {ls : Array Slot}
    {y : MethodName} {cc' : ByteArray} {nL' : Nat} {ret' : Option FieldType} {R' : Room} {Qc' : kk_Qt} {idx n k0 : Nat} {As rest st0 : List Value}
    (hM : kk_M Z sh y cc' nL' ret' R' (.ref (Z.2.1 k0) :: As) σ Qc') (hml : kk_ML own idx y cc' nL' ret' n false) (hrc : kk_rcv sh k0 y) (hn : As.length = n) (hR : kk_fit nL' R' R) (hcat : (rest.map fun v => v.category).sum ≤ 8) (hst : st0 = As.reverse ++ .ref (Z.2.1 k0) :: rest)
    (C : kk_C Z sh own cc nL ret p s m args meth c) (hP : kk_P Z sh σ H) (hl : lv_has ls nL lv) (hd : decode cc pc = .ok (.invokevirtual idx, 3)) :
    va_Run p Z.1 e R s m args below meth c H locs 0 0 0 0 (F0 m pc ls st0) rest (Qc' (kk_A Z sh H.size) (Value.ref (Z.2.1 k0) :: As).toArray) (kk_A Z sh H.size) := by
  obtain ⟨hx, hb, hr, hmx, hown, hts, hlocks, hK⟩ := C
  obtain ⟨hcode, hini, hdd, ⟨hinst, hsel⟩, hlink⟩ := hml
  obtain ⟨ci, fs, T, N, hs, hc⟩ := hrc
  obtain ⟨r1, r2, r3, r4⟩ := hR
  have hpre : PreV s H y.cls (Z.2.1 k0) (va_Pc (.ref (Z.2.1 k0) :: As) (fun U => U.heap.size = H.size ∧ kk_P Z sh σ U.heap ∧ kk_K Z sh U)) As :=
    ⟨kk_blind, va_recv hK.1 hP (ci := ci) (q0 := k0) hc (kk_ws_get hs), fun U hU hW => ⟨rfl, by rw [hU], by rw [hU]; exact hP, hK.warm hW⟩⟩
  rcases hlink with h | ⟨host, h⟩
  · exact va_runV ⟨hx, hb, hmx, hown, hts⟩ (hM H.size) ⟨callB_of n hts (kk_goodIn hcode) rfl r1 r2 (hts _ hini) (hts _ h) hdd ⟨r3, r4⟩, hts _ hinst, hts _ hsel⟩ hpre rfl hn hl.1 hst (lv_room hcat) hd ⟨Nat.zero_le _, Nat.zero_le _⟩
  · exact va_runVN ⟨hx, hb, hmx, hown, hts⟩ (hM H.size) ⟨va_cnB n hts (kk_goodIn hcode) rfl r1 r2 (hK.2.1 _ h) (hts _ hini) hdd ⟨r3, r4⟩, hts _ hinst, hts _ hsel⟩ hpre rfl hn hl.1 hst (lv_room hcat) hd ⟨Nat.zero_le _, Nat.zero_le _⟩
theorem kk_runS {p : Program} {e : Env} {s : State} {m : MethodId} {args : Array Value} {below : List Frame} {meth : Method} {c : Code} {H : Heap} {locs : List Loc} {ls : Array Slot}
    {y : MethodName} {cc' : ByteArray} {nL' : Nat} {ret' : Option FieldType} {R' : Room} {Qc' : kk_Qt} {idx n : Nat} {As rest st0 : List Value}
    (hM : kk_M Z sh y cc' nL' ret' R' As σ Qc') (hml : kk_ML own idx y cc' nL' ret' n true) (hn : As.length = n) (hR : kk_fit nL' R' R) (hcat : (rest.map fun v => v.category).sum ≤ 8) (hst : st0 = As.reverse ++ rest)
    (C : kk_C Z sh own cc nL ret p s m args meth c) (hP : kk_P Z sh σ H) (hl : lv_has ls nL lv) (hd : decode cc pc = .ok (.invokestatic idx, 3)) :
    va_Run p Z.1 e R s m args below meth c H locs 0 0 0 0 (F0 m pc ls st0) rest (Qc' (kk_A Z sh H.size) As.toArray) (kk_A Z sh H.size) := by
  obtain ⟨hx, hb, hr, hmx, hown, hts, hlocks, hK⟩ := C
  obtain ⟨hcode, hini, hdd, hstat, hlink⟩ := hml
  obtain ⟨r1, r2, r3, r4⟩ := hR
  have hpre : PreS s H (va_Pc As (fun U => U.heap.size = H.size ∧ kk_P Z sh σ U.heap ∧ kk_K Z sh U)) As :=
    ⟨kk_blind, fun U hU hW => ⟨rfl, by rw [hU], by rw [hU]; exact hP, hK.warm hW⟩⟩
  rcases hlink with h | ⟨host, h⟩
  · exact va_runS ⟨hx, hb, hmx, hown, hts⟩ (hM H.size) ⟨callB_of n hts (kk_goodIn hcode) rfl r1 r2 (hts _ hini) (hts _ h) hdd ⟨r3, r4⟩, hts _ hstat⟩ hpre rfl hn hl.1 hst (lv_room hcat) hd ⟨Nat.zero_le _, Nat.zero_le _⟩
  · exact va_runSN ⟨hx, hb, hmx, hown, hts⟩ (hM H.size) ⟨va_cnB n hts (kk_goodIn hcode) rfl r1 r2 (hK.2.1 _ h) (hts _ hini) hdd ⟨r3, r4⟩, hts _ hstat, trivial⟩ hpre rfl hn hl.1 hst (lv_room hcat) hd ⟨Nat.zero_le _, Nat.zero_le _⟩
theorem kk_callVi {y : MethodName} {cc' : ByteArray} {nL' : Nat} {ret' : Option FieldType} {R' : Room} {idx n k0 : Nat} {As rest st0 : List Value} {Q : Int32 → kk_St → Prop} (hd : kk_d cc pc (.invokevirtual idx) 3 b) (hml : kk_ML own idx y cc' nL' ret' n false) (hrc : kk_rcv sh k0 y) (hn : As.length = n) (hR : kk_fit nL' R' R) (hcat : (rest.map fun v => v.category).sum ≤ 8) (hst : st0 = As.reverse ++ .ref (Z.2.1 k0) :: rest) (hM : kk_M Z sh y cc' nL' ret' R' (.ref (Z.2.1 k0) :: As) σ (kk_Qi Z sh Q)) (k : ∀ (r : Int32) (σ' : kk_St), Q r σ' → KK Z sh own cc nL ret R Qc b lv (.int r :: rest) σ') : KK Z sh own cc nL ret R Qc pc lv (st0) σ := by
  obtain ⟨hd, rfl⟩ := hd
  intro p e s m args below meth c C H locs ls hP hS hl
  exact va_calli (kk_runV hM hml hrc hn hR hcat hst C hP hl hd) hS (fun q _ h => kk_A_mono hS.1 q h) (kk_A_mono hS.1) (fun r u t H1 locs1 ht hvm hw hB hz1 hk1 hS => k r u hw p e s m args below meth c C H1 locs1 ls (by rw [← ht]; exact hB) hS hl)
theorem kk_callVip {y : MethodName} {cc' : ByteArray} {nL' : Nat} {ret' : Option FieldType} {R' : Room} {idx n k0 : Nat} {As rest st0 : List Value} {Q : Int32 → Prop} (hd : kk_d cc pc (.invokevirtual idx) 3 b) (hml : kk_ML own idx y cc' nL' ret' n false) (hrc : kk_rcv sh k0 y) (hn : As.length = n) (hR : kk_fit nL' R' R) (hcat : (rest.map fun v => v.category).sum ≤ 8) (hst : st0 = As.reverse ++ .ref (Z.2.1 k0) :: rest) (hM : kk_M Z sh y cc' nL' ret' R' (.ref (Z.2.1 k0) :: As) σ (kk_Qi Z sh (fun r σ' => σ' = σ ∧ Q r))) (k : ∀ (r : Int32), Q r → KK Z sh own cc nL ret R Qc b lv (.int r :: rest) σ) : KK Z sh own cc nL ret R Qc pc lv (st0) σ := kk_callVi hd hml hrc hn hR hcat hst hM (fun r σ' h => by obtain ⟨rfl, h⟩ := h; exact k r h)
theorem kk_callVl {y : MethodName} {cc' : ByteArray} {nL' : Nat} {ret' : Option FieldType} {R' : Room} {idx n k0 : Nat} {As rest st0 : List Value} {Q : Int64 → kk_St → Prop} (hd : kk_d cc pc (.invokevirtual idx) 3 b) (hml : kk_ML own idx y cc' nL' ret' n false) (hrc : kk_rcv sh k0 y) (hn : As.length = n) (hR : kk_fit nL' R' R) (hcat : (rest.map fun v => v.category).sum ≤ 8) (hst : st0 = As.reverse ++ .ref (Z.2.1 k0) :: rest) (hM : kk_M Z sh y cc' nL' ret' R' (.ref (Z.2.1 k0) :: As) σ (kk_Ql Z sh Q)) (k : ∀ (r : Int64) (σ' : kk_St), Q r σ' → KK Z sh own cc nL ret R Qc b lv (.long r :: rest) σ') : KK Z sh own cc nL ret R Qc pc lv (st0) σ := by
  obtain ⟨hd, rfl⟩ := hd
  intro p e s m args below meth c C H locs ls hP hS hl
  exact va_calll (kk_runV hM hml hrc hn hR hcat hst C hP hl hd) hS (fun q _ h => kk_A_mono hS.1 q h) (kk_A_mono hS.1) (fun r u t H1 locs1 ht hvm hw hB hz1 hk1 hS => k r u hw p e s m args below meth c C H1 locs1 ls (by rw [← ht]; exact hB) hS hl)
theorem kk_callVlp {y : MethodName} {cc' : ByteArray} {nL' : Nat} {ret' : Option FieldType} {R' : Room} {idx n k0 : Nat} {As rest st0 : List Value} {Q : Int64 → Prop} (hd : kk_d cc pc (.invokevirtual idx) 3 b) (hml : kk_ML own idx y cc' nL' ret' n false) (hrc : kk_rcv sh k0 y) (hn : As.length = n) (hR : kk_fit nL' R' R) (hcat : (rest.map fun v => v.category).sum ≤ 8) (hst : st0 = As.reverse ++ .ref (Z.2.1 k0) :: rest) (hM : kk_M Z sh y cc' nL' ret' R' (.ref (Z.2.1 k0) :: As) σ (kk_Ql Z sh (fun r σ' => σ' = σ ∧ Q r))) (k : ∀ (r : Int64), Q r → KK Z sh own cc nL ret R Qc b lv (.long r :: rest) σ) : KK Z sh own cc nL ret R Qc pc lv (st0) σ := kk_callVl hd hml hrc hn hR hcat hst hM (fun r σ' h => by obtain ⟨rfl, h⟩ := h; exact k r h)
theorem kk_callVv {y : MethodName} {cc' : ByteArray} {nL' : Nat} {ret' : Option FieldType} {R' : Room} {idx n k0 : Nat} {As rest st0 : List Value} {Q : kk_St → Prop} (hd : kk_d cc pc (.invokevirtual idx) 3 b) (hml : kk_ML own idx y cc' nL' ret' n false) (hrc : kk_rcv sh k0 y) (hn : As.length = n) (hR : kk_fit nL' R' R) (hcat : (rest.map fun v => v.category).sum ≤ 8) (hst : st0 = As.reverse ++ .ref (Z.2.1 k0) :: rest) (hM : kk_M Z sh y cc' nL' ret' R' (.ref (Z.2.1 k0) :: As) σ (kk_Qv Z sh Q)) (k : ∀ (σ' : kk_St), Q σ' → KK Z sh own cc nL ret R Qc b lv (rest) σ') : KK Z sh own cc nL ret R Qc pc lv (st0) σ := by
  obtain ⟨hd, rfl⟩ := hd
  intro p e s m args below meth c C H locs ls hP hS hl
  exact va_callv (kk_runV hM hml hrc hn hR hcat hst C hP hl hd) hS (fun q _ h => kk_A_mono hS.1 q h) (kk_A_mono hS.1) (fun u t H1 locs1 ht hvm hw hB hz1 hk1 hS => k u hw p e s m args below meth c C H1 locs1 ls (by rw [← ht]; exact hB) hS hl)
theorem kk_callVvp {y : MethodName} {cc' : ByteArray} {nL' : Nat} {ret' : Option FieldType} {R' : Room} {idx n k0 : Nat} {As rest st0 : List Value} {Q : Prop} (hd : kk_d cc pc (.invokevirtual idx) 3 b) (hml : kk_ML own idx y cc' nL' ret' n false) (hrc : kk_rcv sh k0 y) (hn : As.length = n) (hR : kk_fit nL' R' R) (hcat : (rest.map fun v => v.category).sum ≤ 8) (hst : st0 = As.reverse ++ .ref (Z.2.1 k0) :: rest) (hM : kk_M Z sh y cc' nL' ret' R' (.ref (Z.2.1 k0) :: As) σ (kk_Qv Z sh (fun σ' => σ' = σ ∧ Q))) (k : Q → KK Z sh own cc nL ret R Qc b lv (rest) σ) : KK Z sh own cc nL ret R Qc pc lv (st0) σ := kk_callVv hd hml hrc hn hR hcat hst hM (fun σ' h => by obtain ⟨rfl, h⟩ := h; exact k h)
theorem kk_callSi {y : MethodName} {cc' : ByteArray} {nL' : Nat} {ret' : Option FieldType} {R' : Room} {idx n : Nat} {As rest st0 : List Value} {Q : Int32 → kk_St → Prop} (hd : kk_d cc pc (.invokestatic idx) 3 b) (hml : kk_ML own idx y cc' nL' ret' n true) (hn : As.length = n) (hR : kk_fit nL' R' R) (hcat : (rest.map fun v => v.category).sum ≤ 8) (hst : st0 = As.reverse ++ rest) (hM : kk_M Z sh y cc' nL' ret' R' As σ (kk_Qi Z sh Q)) (k : ∀ (r : Int32) (σ' : kk_St), Q r σ' → KK Z sh own cc nL ret R Qc b lv (.int r :: rest) σ') : KK Z sh own cc nL ret R Qc pc lv (st0) σ := by
  obtain ⟨hd, rfl⟩ := hd
  intro p e s m args below meth c C H locs ls hP hS hl
  exact va_calli (kk_runS hM hml hn hR hcat hst C hP hl hd) hS (fun q _ h => kk_A_mono hS.1 q h) (kk_A_mono hS.1) (fun r u t H1 locs1 ht hvm hw hB hz1 hk1 hS => k r u hw p e s m args below meth c C H1 locs1 ls (by rw [← ht]; exact hB) hS hl)
theorem kk_callSip {y : MethodName} {cc' : ByteArray} {nL' : Nat} {ret' : Option FieldType} {R' : Room} {idx n : Nat} {As rest st0 : List Value} {Q : Int32 → Prop} (hd : kk_d cc pc (.invokestatic idx) 3 b) (hml : kk_ML own idx y cc' nL' ret' n true) (hn : As.length = n) (hR : kk_fit nL' R' R) (hcat : (rest.map fun v => v.category).sum ≤ 8) (hst : st0 = As.reverse ++ rest) (hM : kk_M Z sh y cc' nL' ret' R' As σ (kk_Qi Z sh (fun r σ' => σ' = σ ∧ Q r))) (k : ∀ (r : Int32), Q r → KK Z sh own cc nL ret R Qc b lv (.int r :: rest) σ) : KK Z sh own cc nL ret R Qc pc lv (st0) σ := kk_callSi hd hml hn hR hcat hst hM (fun r σ' h => by obtain ⟨rfl, h⟩ := h; exact k r h)
theorem kk_callSl {y : MethodName} {cc' : ByteArray} {nL' : Nat} {ret' : Option FieldType} {R' : Room} {idx n : Nat} {As rest st0 : List Value} {Q : Int64 → kk_St → Prop} (hd : kk_d cc pc (.invokestatic idx) 3 b) (hml : kk_ML own idx y cc' nL' ret' n true) (hn : As.length = n) (hR : kk_fit nL' R' R) (hcat : (rest.map fun v => v.category).sum ≤ 8) (hst : st0 = As.reverse ++ rest) (hM : kk_M Z sh y cc' nL' ret' R' As σ (kk_Ql Z sh Q)) (k : ∀ (r : Int64) (σ' : kk_St), Q r σ' → KK Z sh own cc nL ret R Qc b lv (.long r :: rest) σ') : KK Z sh own cc nL ret R Qc pc lv (st0) σ := by
  obtain ⟨hd, rfl⟩ := hd
  intro p e s m args below meth c C H locs ls hP hS hl
  exact va_calll (kk_runS hM hml hn hR hcat hst C hP hl hd) hS (fun q _ h => kk_A_mono hS.1 q h) (kk_A_mono hS.1) (fun r u t H1 locs1 ht hvm hw hB hz1 hk1 hS => k r u hw p e s m args below meth c C H1 locs1 ls (by rw [← ht]; exact hB) hS hl)
theorem kk_callSlp {y : MethodName} {cc' : ByteArray} {nL' : Nat} {ret' : Option FieldType} {R' : Room} {idx n : Nat} {As rest st0 : List Value} {Q : Int64 → Prop} (hd : kk_d cc pc (.invokestatic idx) 3 b) (hml : kk_ML own idx y cc' nL' ret' n true) (hn : As.length = n) (hR : kk_fit nL' R' R) (hcat : (rest.map fun v => v.category).sum ≤ 8) (hst : st0 = As.reverse ++ rest) (hM : kk_M Z sh y cc' nL' ret' R' As σ (kk_Ql Z sh (fun r σ' => σ' = σ ∧ Q r))) (k : ∀ (r : Int64), Q r → KK Z sh own cc nL ret R Qc b lv (.long r :: rest) σ) : KK Z sh own cc nL ret R Qc pc lv (st0) σ := kk_callSl hd hml hn hR hcat hst hM (fun r σ' h => by obtain ⟨rfl, h⟩ := h; exact k r h)
theorem kk_callSv {y : MethodName} {cc' : ByteArray} {nL' : Nat} {ret' : Option FieldType} {R' : Room} {idx n : Nat} {As rest st0 : List Value} {Q : kk_St → Prop} (hd : kk_d cc pc (.invokestatic idx) 3 b) (hml : kk_ML own idx y cc' nL' ret' n true) (hn : As.length = n) (hR : kk_fit nL' R' R) (hcat : (rest.map fun v => v.category).sum ≤ 8) (hst : st0 = As.reverse ++ rest) (hM : kk_M Z sh y cc' nL' ret' R' As σ (kk_Qv Z sh Q)) (k : ∀ (σ' : kk_St), Q σ' → KK Z sh own cc nL ret R Qc b lv (rest) σ') : KK Z sh own cc nL ret R Qc pc lv (st0) σ := by
  obtain ⟨hd, rfl⟩ := hd
  intro p e s m args below meth c C H locs ls hP hS hl
  exact va_callv (kk_runS hM hml hn hR hcat hst C hP hl hd) hS (fun q _ h => kk_A_mono hS.1 q h) (kk_A_mono hS.1) (fun u t H1 locs1 ht hvm hw hB hz1 hk1 hS => k u hw p e s m args below meth c C H1 locs1 ls (by rw [← ht]; exact hB) hS hl)
theorem kk_callSvp {y : MethodName} {cc' : ByteArray} {nL' : Nat} {ret' : Option FieldType} {R' : Room} {idx n : Nat} {As rest st0 : List Value} {Q : Prop} (hd : kk_d cc pc (.invokestatic idx) 3 b) (hml : kk_ML own idx y cc' nL' ret' n true) (hn : As.length = n) (hR : kk_fit nL' R' R) (hcat : (rest.map fun v => v.category).sum ≤ 8) (hst : st0 = As.reverse ++ rest) (hM : kk_M Z sh y cc' nL' ret' R' As σ (kk_Qv Z sh (fun σ' => σ' = σ ∧ Q))) (k : Q → KK Z sh own cc nL ret R Qc b lv (rest) σ) : KK Z sh own cc nL ret R Qc pc lv (st0) σ := kk_callSv hd hml hn hR hcat hst hM (fun σ' h => by obtain ⟨rfl, h⟩ := h; exact k h)
end
end
