section
-- ===== PART A: goes FIRST, ahead of the names: the tables' words, and 'selects' of the private methods out of them =====
/-- a private method of a class that the tables say can be made, by its rows of tables_1 -/
def lw_okq (q : MethodName × Nat) : Prop := (q.1.cls ≠ "java/lang/invoke/MethodHandle" ∧ q.1.cls ≠ "java/lang/invoke/VarHandle") ∧ Cond.instantiable q.1.cls q.2 ∈ tables_1 ∧ Cond.privateMethod q.1 ∈ tables_1 ∧ Cond.instanceMethod q.1 ∈ tables_1
theorem lw_p0 : lw_okq (⟨"LineColours$Network", "clear", "(I)V"⟩, 8) := ⟨⟨by decide +kernel, by decide +kernel⟩, List.mem_of_getElem? (i := 26) (by decide +kernel), List.mem_of_getElem? (i := 330) (by decide +kernel), List.mem_of_getElem? (i := 331) (by decide +kernel)⟩
theorem lw_p1 : lw_okq (⟨"LineColours$Colouring", "clear", "()V"⟩, 3) := ⟨⟨by decide +kernel, by decide +kernel⟩, List.mem_of_getElem? (i := 84) (by decide +kernel), List.mem_of_getElem? (i := 335) (by decide +kernel), List.mem_of_getElem? (i := 336) (by decide +kernel)⟩
theorem lw_p2 : lw_okq (⟨"LineColours$Search", "forget", "()V"⟩, 8) := ⟨⟨by decide +kernel, by decide +kernel⟩, List.mem_of_getElem? (i := 192) (by decide +kernel), List.mem_of_getElem? (i := 339) (by decide +kernel), List.mem_of_getElem? (i := 340) (by decide +kernel)⟩
theorem lw_p3 : lw_okq (⟨"LineColours$Search", "forgetAnswer", "()V"⟩, 8) := ⟨⟨by decide +kernel, by decide +kernel⟩, List.mem_of_getElem? (i := 192) (by decide +kernel), List.mem_of_getElem? (i := 343) (by decide +kernel), List.mem_of_getElem? (i := 344) (by decide +kernel)⟩
theorem lw_p4 : lw_okq (⟨"LineColours$Network", "isPost", "(I)Z"⟩, 8) := ⟨⟨by decide +kernel, by decide +kernel⟩, List.mem_of_getElem? (i := 26) (by decide +kernel), List.mem_of_getElem? (i := 351) (by decide +kernel), List.mem_of_getElem? (i := 352) (by decide +kernel)⟩
theorem lw_p5 : lw_okq (⟨"LineColours$Network", "lineBetween", "(II)I"⟩, 8) := ⟨⟨by decide +kernel, by decide +kernel⟩, List.mem_of_getElem? (i := 26) (by decide +kernel), List.mem_of_getElem? (i := 355) (by decide +kernel), List.mem_of_getElem? (i := 356) (by decide +kernel)⟩
theorem lw_p6 : lw_okq (⟨"LineColours$Network", "add", "(II)V"⟩, 8) := ⟨⟨by decide +kernel, by decide +kernel⟩, List.mem_of_getElem? (i := 26) (by decide +kernel), List.mem_of_getElem? (i := 363) (by decide +kernel), List.mem_of_getElem? (i := 364) (by decide +kernel)⟩
theorem lw_p7 : lw_okq (⟨"LineColours$Network", "allLines", "()I"⟩, 8) := ⟨⟨by decide +kernel, by decide +kernel⟩, List.mem_of_getElem? (i := 26) (by decide +kernel), List.mem_of_getElem? (i := 373) (by decide +kernel), List.mem_of_getElem? (i := 374) (by decide +kernel)⟩
theorem lw_p8 : lw_okq (⟨"LineColours$Network", "mostAtOnePost", "(I)I"⟩, 8) := ⟨⟨by decide +kernel, by decide +kernel⟩, List.mem_of_getElem? (i := 26) (by decide +kernel), List.mem_of_getElem? (i := 377) (by decide +kernel), List.mem_of_getElem? (i := 378) (by decide +kernel)⟩
theorem lw_p9 : lw_okq (⟨"LineColours$Network", "isLine", "(I)Z"⟩, 8) := ⟨⟨by decide +kernel, by decide +kernel⟩, List.mem_of_getElem? (i := 26) (by decide +kernel), List.mem_of_getElem? (i := 391) (by decide +kernel), List.mem_of_getElem? (i := 392) (by decide +kernel)⟩
theorem lw_p10 : lw_okq (⟨"LineColours$Colouring", "isColour", "(I)Z"⟩, 3) := ⟨⟨by decide +kernel, by decide +kernel⟩, List.mem_of_getElem? (i := 84) (by decide +kernel), List.mem_of_getElem? (i := 395) (by decide +kernel), List.mem_of_getElem? (i := 396) (by decide +kernel)⟩
theorem lw_p11 : lw_okq (⟨"LineColours$Colouring", "colours", "()I"⟩, 3) := ⟨⟨by decide +kernel, by decide +kernel⟩, List.mem_of_getElem? (i := 84) (by decide +kernel), List.mem_of_getElem? (i := 399) (by decide +kernel), List.mem_of_getElem? (i := 400) (by decide +kernel)⟩
theorem lw_p12 : lw_okq (⟨"LineColours$Colouring", "freeAtBoth", "(I)I"⟩, 3) := ⟨⟨by decide +kernel, by decide +kernel⟩, List.mem_of_getElem? (i := 84) (by decide +kernel), List.mem_of_getElem? (i := 403) (by decide +kernel), List.mem_of_getElem? (i := 404) (by decide +kernel)⟩
theorem lw_p13 : lw_okq (⟨"LineColours$Colouring", "freeAt", "(I)I"⟩, 3) := ⟨⟨by decide +kernel, by decide +kernel⟩, List.mem_of_getElem? (i := 84) (by decide +kernel), List.mem_of_getElem? (i := 407) (by decide +kernel), List.mem_of_getElem? (i := 408) (by decide +kernel)⟩
theorem lw_p14 : lw_okq (⟨"LineColours$Colouring", "coloursAt", "(I)I"⟩, 3) := ⟨⟨by decide +kernel, by decide +kernel⟩, List.mem_of_getElem? (i := 84) (by decide +kernel), List.mem_of_getElem? (i := 411) (by decide +kernel), List.mem_of_getElem? (i := 412) (by decide +kernel)⟩
theorem lw_p15 : lw_okq (⟨"LineColours$Colouring", "give", "(II)V"⟩, 3) := ⟨⟨by decide +kernel, by decide +kernel⟩, List.mem_of_getElem? (i := 84) (by decide +kernel), List.mem_of_getElem? (i := 415) (by decide +kernel), List.mem_of_getElem? (i := 416) (by decide +kernel)⟩
def lw_privs_1 : List (MethodName × Nat) := [(⟨"LineColours$Network", "clear", "(I)V"⟩, 8), (⟨"LineColours$Colouring", "clear", "()V"⟩, 3), (⟨"LineColours$Search", "forget", "()V"⟩, 8), (⟨"LineColours$Search", "forgetAnswer", "()V"⟩, 8), (⟨"LineColours$Network", "isPost", "(I)Z"⟩, 8), (⟨"LineColours$Network", "lineBetween", "(II)I"⟩, 8), (⟨"LineColours$Network", "add", "(II)V"⟩, 8), (⟨"LineColours$Network", "allLines", "()I"⟩, 8), (⟨"LineColours$Network", "mostAtOnePost", "(I)I"⟩, 8), (⟨"LineColours$Network", "isLine", "(I)Z"⟩, 8), (⟨"LineColours$Colouring", "isColour", "(I)Z"⟩, 3), (⟨"LineColours$Colouring", "colours", "()I"⟩, 3), (⟨"LineColours$Colouring", "freeAtBoth", "(I)I"⟩, 3), (⟨"LineColours$Colouring", "freeAt", "(I)I"⟩, 3), (⟨"LineColours$Colouring", "coloursAt", "(I)I"⟩, 3), (⟨"LineColours$Colouring", "give", "(II)V"⟩, 3)]
theorem lw_r1 : ∀ q ∈ lw_privs_1, lw_okq q := List.forall_mem_cons.mpr ⟨lw_p0, List.forall_mem_cons.mpr ⟨lw_p1, List.forall_mem_cons.mpr ⟨lw_p2, List.forall_mem_cons.mpr ⟨lw_p3, List.forall_mem_cons.mpr ⟨lw_p4, List.forall_mem_cons.mpr ⟨lw_p5, List.forall_mem_cons.mpr ⟨lw_p6, List.forall_mem_cons.mpr ⟨lw_p7, List.forall_mem_cons.mpr ⟨lw_p8, List.forall_mem_cons.mpr ⟨lw_p9, List.forall_mem_cons.mpr ⟨lw_p10, List.forall_mem_cons.mpr ⟨lw_p11, List.forall_mem_cons.mpr ⟨lw_p12, List.forall_mem_cons.mpr ⟨lw_p13, List.forall_mem_cons.mpr ⟨lw_p14, List.forall_mem_cons.mpr ⟨lw_p15, fun _ h => absurd h List.not_mem_nil⟩⟩⟩⟩⟩⟩⟩⟩⟩⟩⟩⟩⟩⟩⟩⟩
theorem lw_p16 : lw_okq (⟨"LineColours$Colouring", "strip", "(I)V"⟩, 3) := ⟨⟨by decide +kernel, by decide +kernel⟩, List.mem_of_getElem? (i := 84) (by decide +kernel), List.mem_of_getElem? (i := 419) (by decide +kernel), List.mem_of_getElem? (i := 420) (by decide +kernel)⟩
theorem lw_p17 : lw_okq (⟨"LineColours$Colouring", "areUnlike", "(II)Z"⟩, 3) := ⟨⟨by decide +kernel, by decide +kernel⟩, List.mem_of_getElem? (i := 84) (by decide +kernel), List.mem_of_getElem? (i := 432) (by decide +kernel), List.mem_of_getElem? (i := 433) (by decide +kernel)⟩
theorem lw_p18 : lw_okq (⟨"LineColours$Colouring", "chainOf", "(III)I"⟩, 3) := ⟨⟨by decide +kernel, by decide +kernel⟩, List.mem_of_getElem? (i := 84) (by decide +kernel), List.mem_of_getElem? (i := 437) (by decide +kernel), List.mem_of_getElem? (i := 438) (by decide +kernel)⟩
theorem lw_p19 : lw_okq (⟨"LineColours$Network", "joined", "(II)I"⟩, 8) := ⟨⟨by decide +kernel, by decide +kernel⟩, List.mem_of_getElem? (i := 26) (by decide +kernel), List.mem_of_getElem? (i := 441) (by decide +kernel), List.mem_of_getElem? (i := 442) (by decide +kernel)⟩
theorem lw_p20 : lw_okq (⟨"LineColours$Colouring", "flip", "(III)V"⟩, 3) := ⟨⟨by decide +kernel, by decide +kernel⟩, List.mem_of_getElem? (i := 84) (by decide +kernel), List.mem_of_getElem? (i := 445) (by decide +kernel), List.mem_of_getElem? (i := 446) (by decide +kernel)⟩
theorem lw_p21 : lw_okq (⟨"LineColours$Grower", "raise", "(I)V"⟩, 5) := ⟨⟨by decide +kernel, by decide +kernel⟩, List.mem_of_getElem? (i := 130) (by decide +kernel), List.mem_of_getElem? (i := 458) (by decide +kernel), List.mem_of_getElem? (i := 459) (by decide +kernel)⟩
theorem lw_p22 : lw_okq (⟨"LineColours$Fan", "lay", "(II)V"⟩, 4) := ⟨⟨by decide +kernel, by decide +kernel⟩, List.mem_of_getElem? (i := 107) (by decide +kernel), List.mem_of_getElem? (i := 462) (by decide +kernel), List.mem_of_getElem? (i := 463) (by decide +kernel)⟩
theorem lw_p23 : lw_okq (⟨"LineColours$Network", "farEnd", "(II)I"⟩, 8) := ⟨⟨by decide +kernel, by decide +kernel⟩, List.mem_of_getElem? (i := 26) (by decide +kernel), List.mem_of_getElem? (i := 466) (by decide +kernel), List.mem_of_getElem? (i := 467) (by decide +kernel)⟩
theorem lw_p24 : lw_okq (⟨"LineColours$Fan", "follower", "(III)I"⟩, 4) := ⟨⟨by decide +kernel, by decide +kernel⟩, List.mem_of_getElem? (i := 107) (by decide +kernel), List.mem_of_getElem? (i := 470) (by decide +kernel), List.mem_of_getElem? (i := 471) (by decide +kernel)⟩
theorem lw_p25 : lw_okq (⟨"LineColours$Colouring", "lineWith", "(II)I"⟩, 3) := ⟨⟨by decide +kernel, by decide +kernel⟩, List.mem_of_getElem? (i := 84) (by decide +kernel), List.mem_of_getElem? (i := 475) (by decide +kernel), List.mem_of_getElem? (i := 476) (by decide +kernel)⟩
theorem lw_p26 : lw_okq (⟨"LineColours$Colouring", "leastFreeAt", "(I)I"⟩, 3) := ⟨⟨by decide +kernel, by decide +kernel⟩, List.mem_of_getElem? (i := 84) (by decide +kernel), List.mem_of_getElem? (i := 480) (by decide +kernel), List.mem_of_getElem? (i := 481) (by decide +kernel)⟩
theorem lw_p27 : lw_okq (⟨"LineColours$Colouring", "isFreeAt", "(II)Z"⟩, 3) := ⟨⟨by decide +kernel, by decide +kernel⟩, List.mem_of_getElem? (i := 84) (by decide +kernel), List.mem_of_getElem? (i := 484) (by decide +kernel), List.mem_of_getElem? (i := 485) (by decide +kernel)⟩
theorem lw_p28 : lw_okq (⟨"LineColours$Fan", "placeLacking", "(II)I"⟩, 4) := ⟨⟨by decide +kernel, by decide +kernel⟩, List.mem_of_getElem? (i := 107) (by decide +kernel), List.mem_of_getElem? (i := 491) (by decide +kernel), List.mem_of_getElem? (i := 492) (by decide +kernel)⟩
theorem lw_p29 : lw_okq (⟨"LineColours$Fan", "follows", "(II)Z"⟩, 4) := ⟨⟨by decide +kernel, by decide +kernel⟩, List.mem_of_getElem? (i := 107) (by decide +kernel), List.mem_of_getElem? (i := 495) (by decide +kernel), List.mem_of_getElem? (i := 496) (by decide +kernel)⟩
theorem lw_p30 : lw_okq (⟨"LineColours$Fan", "shift", "(III)V"⟩, 4) := ⟨⟨by decide +kernel, by decide +kernel⟩, List.mem_of_getElem? (i := 107) (by decide +kernel), List.mem_of_getElem? (i := 501) (by decide +kernel), List.mem_of_getElem? (i := 502) (by decide +kernel)⟩
theorem lw_p31 : lw_okq (⟨"LineColours$Network", "onePart", "()I"⟩, 8) := ⟨⟨by decide +kernel, by decide +kernel⟩, List.mem_of_getElem? (i := 26) (by decide +kernel), List.mem_of_getElem? (i := 515) (by decide +kernel), List.mem_of_getElem? (i := 516) (by decide +kernel)⟩
def lw_privs_2 : List (MethodName × Nat) := [(⟨"LineColours$Colouring", "strip", "(I)V"⟩, 3), (⟨"LineColours$Colouring", "areUnlike", "(II)Z"⟩, 3), (⟨"LineColours$Colouring", "chainOf", "(III)I"⟩, 3), (⟨"LineColours$Network", "joined", "(II)I"⟩, 8), (⟨"LineColours$Colouring", "flip", "(III)V"⟩, 3), (⟨"LineColours$Grower", "raise", "(I)V"⟩, 5), (⟨"LineColours$Fan", "lay", "(II)V"⟩, 4), (⟨"LineColours$Network", "farEnd", "(II)I"⟩, 8), (⟨"LineColours$Fan", "follower", "(III)I"⟩, 4), (⟨"LineColours$Colouring", "lineWith", "(II)I"⟩, 3), (⟨"LineColours$Colouring", "leastFreeAt", "(I)I"⟩, 3), (⟨"LineColours$Colouring", "isFreeAt", "(II)Z"⟩, 3), (⟨"LineColours$Fan", "placeLacking", "(II)I"⟩, 4), (⟨"LineColours$Fan", "follows", "(II)Z"⟩, 4), (⟨"LineColours$Fan", "shift", "(III)V"⟩, 4), (⟨"LineColours$Network", "onePart", "()I"⟩, 8)]
theorem lw_r2 : ∀ q ∈ lw_privs_2, lw_okq q := List.forall_mem_cons.mpr ⟨lw_p16, List.forall_mem_cons.mpr ⟨lw_p17, List.forall_mem_cons.mpr ⟨lw_p18, List.forall_mem_cons.mpr ⟨lw_p19, List.forall_mem_cons.mpr ⟨lw_p20, List.forall_mem_cons.mpr ⟨lw_p21, List.forall_mem_cons.mpr ⟨lw_p22, List.forall_mem_cons.mpr ⟨lw_p23, List.forall_mem_cons.mpr ⟨lw_p24, List.forall_mem_cons.mpr ⟨lw_p25, List.forall_mem_cons.mpr ⟨lw_p26, List.forall_mem_cons.mpr ⟨lw_p27, List.forall_mem_cons.mpr ⟨lw_p28, List.forall_mem_cons.mpr ⟨lw_p29, List.forall_mem_cons.mpr ⟨lw_p30, List.forall_mem_cons.mpr ⟨lw_p31, fun _ h => absurd h List.not_mem_nil⟩⟩⟩⟩⟩⟩⟩⟩⟩⟩⟩⟩⟩⟩⟩⟩
theorem lw_p32 : lw_okq (⟨"LineColours$Network", "neighbours", "(I)I"⟩, 8) := ⟨⟨by decide +kernel, by decide +kernel⟩, List.mem_of_getElem? (i := 26) (by decide +kernel), List.mem_of_getElem? (i := 519) (by decide +kernel), List.mem_of_getElem? (i := 520) (by decide +kernel)⟩
theorem lw_p33 : lw_okq (⟨"LineColours$Colouring", "giveBelowDegree", "(I)V"⟩, 3) := ⟨⟨by decide +kernel, by decide +kernel⟩, List.mem_of_getElem? (i := 84) (by decide +kernel), List.mem_of_getElem? (i := 523) (by decide +kernel), List.mem_of_getElem? (i := 524) (by decide +kernel)⟩
theorem lw_p34 : lw_okq (⟨"LineColours$ChainWalk", "makeEven", "()I"⟩, 2) := ⟨⟨by decide +kernel, by decide +kernel⟩, List.mem_of_getElem? (i := 154) (by decide +kernel), List.mem_of_getElem? (i := 536) (by decide +kernel), List.mem_of_getElem? (i := 537) (by decide +kernel)⟩
theorem lw_p35 : lw_okq (⟨"LineColours$ChainWalk", "greatestUsed", "()I"⟩, 2) := ⟨⟨by decide +kernel, by decide +kernel⟩, List.mem_of_getElem? (i := 154) (by decide +kernel), List.mem_of_getElem? (i := 540) (by decide +kernel), List.mem_of_getElem? (i := 541) (by decide +kernel)⟩
theorem lw_p36 : lw_okq (⟨"LineColours$ChainWalk", "howMany", "(I)I"⟩, 2) := ⟨⟨by decide +kernel, by decide +kernel⟩, List.mem_of_getElem? (i := 154) (by decide +kernel), List.mem_of_getElem? (i := 544) (by decide +kernel), List.mem_of_getElem? (i := 545) (by decide +kernel)⟩
theorem lw_p37 : lw_okq (⟨"LineColours$ChainWalk", "leaningChain", "(II)I"⟩, 2) := ⟨⟨by decide +kernel, by decide +kernel⟩, List.mem_of_getElem? (i := 154) (by decide +kernel), List.mem_of_getElem? (i := 549) (by decide +kernel), List.mem_of_getElem? (i := 550) (by decide +kernel)⟩
theorem lw_p38 : lw_okq (⟨"LineColours$Search", "findFirst", "(I)Z"⟩, 8) := ⟨⟨by decide +kernel, by decide +kernel⟩, List.mem_of_getElem? (i := 192) (by decide +kernel), List.mem_of_getElem? (i := 560) (by decide +kernel), List.mem_of_getElem? (i := 561) (by decide +kernel)⟩
theorem lw_p39 : lw_okq (⟨"LineColours$Search", "fewest", "()I"⟩, 8) := ⟨⟨by decide +kernel, by decide +kernel⟩, List.mem_of_getElem? (i := 192) (by decide +kernel), List.mem_of_getElem? (i := 564) (by decide +kernel), List.mem_of_getElem? (i := 565) (by decide +kernel)⟩
theorem lw_p40 : lw_okq (⟨"LineColours$Search", "canDo", "(II)Z"⟩, 8) := ⟨⟨by decide +kernel, by decide +kernel⟩, List.mem_of_getElem? (i := 192) (by decide +kernel), List.mem_of_getElem? (i := 569) (by decide +kernel), List.mem_of_getElem? (i := 570) (by decide +kernel)⟩
theorem lw_p41 : lw_okq (⟨"LineColours$Network", "crowdedSet", "(II)I"⟩, 8) := ⟨⟨by decide +kernel, by decide +kernel⟩, List.mem_of_getElem? (i := 26) (by decide +kernel), List.mem_of_getElem? (i := 574) (by decide +kernel), List.mem_of_getElem? (i := 575) (by decide +kernel)⟩
theorem lw_p42 : lw_okq (⟨"LineColours$Network", "allPosts", "()I"⟩, 8) := ⟨⟨by decide +kernel, by decide +kernel⟩, List.mem_of_getElem? (i := 26) (by decide +kernel), List.mem_of_getElem? (i := 578) (by decide +kernel), List.mem_of_getElem? (i := 579) (by decide +kernel)⟩
theorem lw_p43 : lw_okq (⟨"LineColours$Network", "linesWithin", "(II)I"⟩, 8) := ⟨⟨by decide +kernel, by decide +kernel⟩, List.mem_of_getElem? (i := 26) (by decide +kernel), List.mem_of_getElem? (i := 582) (by decide +kernel), List.mem_of_getElem? (i := 583) (by decide +kernel)⟩
theorem lw_p44 : lw_okq (⟨"LineColours$Search", "openBelow", "(I)V"⟩, 8) := ⟨⟨by decide +kernel, by decide +kernel⟩, List.mem_of_getElem? (i := 192) (by decide +kernel), List.mem_of_getElem? (i := 586) (by decide +kernel), List.mem_of_getElem? (i := 587) (by decide +kernel)⟩
theorem lw_p45 : lw_okq (⟨"LineColours$Search", "complete", "(II)Z"⟩, 8) := ⟨⟨by decide +kernel, by decide +kernel⟩, List.mem_of_getElem? (i := 192) (by decide +kernel), List.mem_of_getElem? (i := 590) (by decide +kernel), List.mem_of_getElem? (i := 591) (by decide +kernel)⟩
theorem lw_p46 : lw_okq (⟨"LineColours$Search", "tightest", "(I)I"⟩, 8) := ⟨⟨by decide +kernel, by decide +kernel⟩, List.mem_of_getElem? (i := 192) (by decide +kernel), List.mem_of_getElem? (i := 594) (by decide +kernel), List.mem_of_getElem? (i := 595) (by decide +kernel)⟩
theorem lw_p47 : lw_okq (⟨"LineColours$Search", "isHopeless", "(I)Z"⟩, 8) := ⟨⟨by decide +kernel, by decide +kernel⟩, List.mem_of_getElem? (i := 192) (by decide +kernel), List.mem_of_getElem? (i := 598) (by decide +kernel), List.mem_of_getElem? (i := 599) (by decide +kernel)⟩
def lw_privs_3 : List (MethodName × Nat) := [(⟨"LineColours$Network", "neighbours", "(I)I"⟩, 8), (⟨"LineColours$Colouring", "giveBelowDegree", "(I)V"⟩, 3), (⟨"LineColours$ChainWalk", "makeEven", "()I"⟩, 2), (⟨"LineColours$ChainWalk", "greatestUsed", "()I"⟩, 2), (⟨"LineColours$ChainWalk", "howMany", "(I)I"⟩, 2), (⟨"LineColours$ChainWalk", "leaningChain", "(II)I"⟩, 2), (⟨"LineColours$Search", "findFirst", "(I)Z"⟩, 8), (⟨"LineColours$Search", "fewest", "()I"⟩, 8), (⟨"LineColours$Search", "canDo", "(II)Z"⟩, 8), (⟨"LineColours$Network", "crowdedSet", "(II)I"⟩, 8), (⟨"LineColours$Network", "allPosts", "()I"⟩, 8), (⟨"LineColours$Network", "linesWithin", "(II)I"⟩, 8), (⟨"LineColours$Search", "openBelow", "(I)V"⟩, 8), (⟨"LineColours$Search", "complete", "(II)Z"⟩, 8), (⟨"LineColours$Search", "tightest", "(I)I"⟩, 8), (⟨"LineColours$Search", "isHopeless", "(I)Z"⟩, 8)]
theorem lw_r3 : ∀ q ∈ lw_privs_3, lw_okq q := List.forall_mem_cons.mpr ⟨lw_p32, List.forall_mem_cons.mpr ⟨lw_p33, List.forall_mem_cons.mpr ⟨lw_p34, List.forall_mem_cons.mpr ⟨lw_p35, List.forall_mem_cons.mpr ⟨lw_p36, List.forall_mem_cons.mpr ⟨lw_p37, List.forall_mem_cons.mpr ⟨lw_p38, List.forall_mem_cons.mpr ⟨lw_p39, List.forall_mem_cons.mpr ⟨lw_p40, List.forall_mem_cons.mpr ⟨lw_p41, List.forall_mem_cons.mpr ⟨lw_p42, List.forall_mem_cons.mpr ⟨lw_p43, List.forall_mem_cons.mpr ⟨lw_p44, List.forall_mem_cons.mpr ⟨lw_p45, List.forall_mem_cons.mpr ⟨lw_p46, List.forall_mem_cons.mpr ⟨lw_p47, fun _ h => absurd h List.not_mem_nil⟩⟩⟩⟩⟩⟩⟩⟩⟩⟩⟩⟩⟩⟩⟩⟩
theorem lw_p48 : lw_okq (⟨"LineColours$Search", "roomOfColours", "(I)I"⟩, 8) := ⟨⟨by decide +kernel, by decide +kernel⟩, List.mem_of_getElem? (i := 192) (by decide +kernel), List.mem_of_getElem? (i := 602) (by decide +kernel), List.mem_of_getElem? (i := 603) (by decide +kernel)⟩
theorem lw_p49 : lw_okq (⟨"LineColours$Network", "postsOf", "(I)I"⟩, 8) := ⟨⟨by decide +kernel, by decide +kernel⟩, List.mem_of_getElem? (i := 26) (by decide +kernel), List.mem_of_getElem? (i := 606) (by decide +kernel), List.mem_of_getElem? (i := 607) (by decide +kernel)⟩
theorem lw_p50 : lw_okq (⟨"LineColours$Search", "hasCrampedPost", "(I)Z"⟩, 8) := ⟨⟨by decide +kernel, by decide +kernel⟩, List.mem_of_getElem? (i := 192) (by decide +kernel), List.mem_of_getElem? (i := 611) (by decide +kernel), List.mem_of_getElem? (i := 612) (by decide +kernel)⟩
theorem lw_p51 : lw_okq (⟨"LineColours$Search", "hasTwin", "(II)Z"⟩, 8) := ⟨⟨by decide +kernel, by decide +kernel⟩, List.mem_of_getElem? (i := 192) (by decide +kernel), List.mem_of_getElem? (i := 615) (by decide +kernel), List.mem_of_getElem? (i := 616) (by decide +kernel)⟩
theorem lw_p52 : lw_okq (⟨"LineColours$Search", "completeWith", "(IIII)Z"⟩, 8) := ⟨⟨by decide +kernel, by decide +kernel⟩, List.mem_of_getElem? (i := 192) (by decide +kernel), List.mem_of_getElem? (i := 619) (by decide +kernel), List.mem_of_getElem? (i := 620) (by decide +kernel)⟩
theorem lw_p53 : lw_okq (⟨"LineColours$Search", "findLeast", "()Z"⟩, 8) := ⟨⟨by decide +kernel, by decide +kernel⟩, List.mem_of_getElem? (i := 192) (by decide +kernel), List.mem_of_getElem? (i := 623) (by decide +kernel), List.mem_of_getElem? (i := 624) (by decide +kernel)⟩
theorem lw_p54 : lw_okq (⟨"LineColours$Search", "fixLeast", "(II)V"⟩, 8) := ⟨⟨by decide +kernel, by decide +kernel⟩, List.mem_of_getElem? (i := 192) (by decide +kernel), List.mem_of_getElem? (i := 627) (by decide +kernel), List.mem_of_getElem? (i := 628) (by decide +kernel)⟩
theorem lw_p55 : lw_okq (⟨"LineColours", "countUnlike", "()I"⟩, 13) := ⟨⟨by decide +kernel, by decide +kernel⟩, List.mem_of_getElem? (i := 18) (by decide +kernel), List.mem_of_getElem? (i := 642) (by decide +kernel), List.mem_of_getElem? (i := 643) (by decide +kernel)⟩
theorem lw_p56 : lw_okq (⟨"LineColours$Calmer", "idleOfAll", "(II)I"⟩, 5) := ⟨⟨by decide +kernel, by decide +kernel⟩, List.mem_of_getElem? (i := 167) (by decide +kernel), List.mem_of_getElem? (i := 688) (by decide +kernel), List.mem_of_getElem? (i := 689) (by decide +kernel)⟩
theorem lw_p57 : lw_okq (⟨"LineColours$Calmer", "look", "()V"⟩, 5) := ⟨⟨by decide +kernel, by decide +kernel⟩, List.mem_of_getElem? (i := 167) (by decide +kernel), List.mem_of_getElem? (i := 702) (by decide +kernel), List.mem_of_getElem? (i := 703) (by decide +kernel)⟩
theorem lw_p58 : lw_okq (⟨"LineColours$Network", "leastPostAbove", "(I)I"⟩, 8) := ⟨⟨by decide +kernel, by decide +kernel⟩, List.mem_of_getElem? (i := 26) (by decide +kernel), List.mem_of_getElem? (i := 736) (by decide +kernel), List.mem_of_getElem? (i := 737) (by decide +kernel)⟩
theorem lw_p59 : lw_okq (⟨"LineColours$Search", "findListed", "([I)Z"⟩, 8) := ⟨⟨by decide +kernel, by decide +kernel⟩, List.mem_of_getElem? (i := 192) (by decide +kernel), List.mem_of_getElem? (i := 749) (by decide +kernel), List.mem_of_getElem? (i := 750) (by decide +kernel)⟩
theorem lw_p60 : lw_okq (⟨"LineColours$Search", "openListed", "([I)V"⟩, 8) := ⟨⟨by decide +kernel, by decide +kernel⟩, List.mem_of_getElem? (i := 192) (by decide +kernel), List.mem_of_getElem? (i := 753) (by decide +kernel), List.mem_of_getElem? (i := 754) (by decide +kernel)⟩
theorem lw_p61 : lw_okq (⟨"LineColours$ChainWalk", "longestChain", "(II)I"⟩, 2) := ⟨⟨by decide +kernel, by decide +kernel⟩, List.mem_of_getElem? (i := 154) (by decide +kernel), List.mem_of_getElem? (i := 765) (by decide +kernel), List.mem_of_getElem? (i := 766) (by decide +kernel)⟩
theorem lw_p62 : lw_okq (⟨"LineColours$Apart", "gatherAll", "()V"⟩, 3) := ⟨⟨by decide +kernel, by decide +kernel⟩, List.mem_of_getElem? (i := 224) (by decide +kernel), List.mem_of_getElem? (i := 773) (by decide +kernel), List.mem_of_getElem? (i := 774) (by decide +kernel)⟩
theorem lw_p63 : lw_okq (⟨"LineColours$Apart", "gather", "(IIII)V"⟩, 3) := ⟨⟨by decide +kernel, by decide +kernel⟩, List.mem_of_getElem? (i := 224) (by decide +kernel), List.mem_of_getElem? (i := 778) (by decide +kernel), List.mem_of_getElem? (i := 779) (by decide +kernel)⟩
def lw_privs_4 : List (MethodName × Nat) := [(⟨"LineColours$Search", "roomOfColours", "(I)I"⟩, 8), (⟨"LineColours$Network", "postsOf", "(I)I"⟩, 8), (⟨"LineColours$Search", "hasCrampedPost", "(I)Z"⟩, 8), (⟨"LineColours$Search", "hasTwin", "(II)Z"⟩, 8), (⟨"LineColours$Search", "completeWith", "(IIII)Z"⟩, 8), (⟨"LineColours$Search", "findLeast", "()Z"⟩, 8), (⟨"LineColours$Search", "fixLeast", "(II)V"⟩, 8), (⟨"LineColours", "countUnlike", "()I"⟩, 13), (⟨"LineColours$Calmer", "idleOfAll", "(II)I"⟩, 5), (⟨"LineColours$Calmer", "look", "()V"⟩, 5), (⟨"LineColours$Network", "leastPostAbove", "(I)I"⟩, 8), (⟨"LineColours$Search", "findListed", "([I)Z"⟩, 8), (⟨"LineColours$Search", "openListed", "([I)V"⟩, 8), (⟨"LineColours$ChainWalk", "longestChain", "(II)I"⟩, 2), (⟨"LineColours$Apart", "gatherAll", "()V"⟩, 3), (⟨"LineColours$Apart", "gather", "(IIII)V"⟩, 3)]
theorem lw_r4 : ∀ q ∈ lw_privs_4, lw_okq q := List.forall_mem_cons.mpr ⟨lw_p48, List.forall_mem_cons.mpr ⟨lw_p49, List.forall_mem_cons.mpr ⟨lw_p50, List.forall_mem_cons.mpr ⟨lw_p51, List.forall_mem_cons.mpr ⟨lw_p52, List.forall_mem_cons.mpr ⟨lw_p53, List.forall_mem_cons.mpr ⟨lw_p54, List.forall_mem_cons.mpr ⟨lw_p55, List.forall_mem_cons.mpr ⟨lw_p56, List.forall_mem_cons.mpr ⟨lw_p57, List.forall_mem_cons.mpr ⟨lw_p58, List.forall_mem_cons.mpr ⟨lw_p59, List.forall_mem_cons.mpr ⟨lw_p60, List.forall_mem_cons.mpr ⟨lw_p61, List.forall_mem_cons.mpr ⟨lw_p62, List.forall_mem_cons.mpr ⟨lw_p63, fun _ h => absurd h List.not_mem_nil⟩⟩⟩⟩⟩⟩⟩⟩⟩⟩⟩⟩⟩⟩⟩⟩
theorem lw_p64 : lw_okq (⟨"LineColours$Search", "dearLines", "()I"⟩, 8) := ⟨⟨by decide +kernel, by decide +kernel⟩, List.mem_of_getElem? (i := 192) (by decide +kernel), List.mem_of_getElem? (i := 786) (by decide +kernel), List.mem_of_getElem? (i := 787) (by decide +kernel)⟩
theorem lw_p65 : lw_okq (⟨"LineColours$Turning", "countKinds", "(I)I"⟩, 7) := ⟨⟨by decide +kernel, by decide +kernel⟩, List.mem_of_getElem? (i := 258) (by decide +kernel), List.mem_of_getElem? (i := 794) (by decide +kernel), List.mem_of_getElem? (i := 795) (by decide +kernel)⟩
theorem lw_p66 : lw_okq (⟨"LineColours$Turning", "prepare", "(I)V"⟩, 7) := ⟨⟨by decide +kernel, by decide +kernel⟩, List.mem_of_getElem? (i := 258) (by decide +kernel), List.mem_of_getElem? (i := 798) (by decide +kernel), List.mem_of_getElem? (i := 799) (by decide +kernel)⟩
theorem lw_p67 : lw_okq (⟨"LineColours$Turning", "place", "(II)V"⟩, 7) := ⟨⟨by decide +kernel, by decide +kernel⟩, List.mem_of_getElem? (i := 258) (by decide +kernel), List.mem_of_getElem? (i := 806) (by decide +kernel), List.mem_of_getElem? (i := 807) (by decide +kernel)⟩
theorem lw_p68 : lw_okq (⟨"LineColours$Turning", "isSeen", "(I)Z"⟩, 7) := ⟨⟨by decide +kernel, by decide +kernel⟩, List.mem_of_getElem? (i := 258) (by decide +kernel), List.mem_of_getElem? (i := 810) (by decide +kernel), List.mem_of_getElem? (i := 811) (by decide +kernel)⟩
theorem lw_p69 : lw_okq (⟨"LineColours$Turning", "mark", "(I)V"⟩, 7) := ⟨⟨by decide +kernel, by decide +kernel⟩, List.mem_of_getElem? (i := 258) (by decide +kernel), List.mem_of_getElem? (i := 814) (by decide +kernel), List.mem_of_getElem? (i := 815) (by decide +kernel)⟩
theorem lw_p70 : lw_okq (⟨"LineColours$Turning", "spreadKind", "()V"⟩, 7) := ⟨⟨by decide +kernel, by decide +kernel⟩, List.mem_of_getElem? (i := 258) (by decide +kernel), List.mem_of_getElem? (i := 818) (by decide +kernel), List.mem_of_getElem? (i := 819) (by decide +kernel)⟩
theorem lw_p71 : lw_okq (⟨"LineColours$Turning", "advance", "()Z"⟩, 7) := ⟨⟨by decide +kernel, by decide +kernel⟩, List.mem_of_getElem? (i := 258) (by decide +kernel), List.mem_of_getElem? (i := 822) (by decide +kernel), List.mem_of_getElem? (i := 823) (by decide +kernel)⟩
theorem lw_p72 : lw_okq (⟨"LineColours$Turning", "turnEach", "(I)V"⟩, 7) := ⟨⟨by decide +kernel, by decide +kernel⟩, List.mem_of_getElem? (i := 258) (by decide +kernel), List.mem_of_getElem? (i := 827) (by decide +kernel), List.mem_of_getElem? (i := 828) (by decide +kernel)⟩
theorem lw_p73 : lw_okq (⟨"LineColours$Turning", "linesWith", "(II)I"⟩, 7) := ⟨⟨by decide +kernel, by decide +kernel⟩, List.mem_of_getElem? (i := 258) (by decide +kernel), List.mem_of_getElem? (i := 831) (by decide +kernel), List.mem_of_getElem? (i := 832) (by decide +kernel)⟩
theorem lw_p74 : lw_okq (⟨"LineColours$Turning", "joinedIn", "(II)I"⟩, 7) := ⟨⟨by decide +kernel, by decide +kernel⟩, List.mem_of_getElem? (i := 258) (by decide +kernel), List.mem_of_getElem? (i := 838) (by decide +kernel), List.mem_of_getElem? (i := 839) (by decide +kernel)⟩
theorem lw_p75 : lw_okq (⟨"LineColours", "areAllBelow", "([II)Z"⟩, 13) := ⟨⟨by decide +kernel, by decide +kernel⟩, List.mem_of_getElem? (i := 18) (by decide +kernel), List.mem_of_getElem? (i := 847) (by decide +kernel), List.mem_of_getElem? (i := 848) (by decide +kernel)⟩
theorem lw_p76 : lw_okq (⟨"LineColours$Turning", "fewestTurns", "([I[II)I"⟩, 7) := ⟨⟨by decide +kernel, by decide +kernel⟩, List.mem_of_getElem? (i := 258) (by decide +kernel), List.mem_of_getElem? (i := 851) (by decide +kernel), List.mem_of_getElem? (i := 852) (by decide +kernel)⟩
theorem lw_p77 : lw_okq (⟨"LineColours$Turning", "codeOf", "([I)I"⟩, 7) := ⟨⟨by decide +kernel, by decide +kernel⟩, List.mem_of_getElem? (i := 258) (by decide +kernel), List.mem_of_getElem? (i := 855) (by decide +kernel), List.mem_of_getElem? (i := 856) (by decide +kernel)⟩
theorem lw_p78 : lw_okq (⟨"LineColours$ChainWalk", "countChains", "(II)I"⟩, 2) := ⟨⟨by decide +kernel, by decide +kernel⟩, List.mem_of_getElem? (i := 154) (by decide +kernel), List.mem_of_getElem? (i := 863) (by decide +kernel), List.mem_of_getElem? (i := 864) (by decide +kernel)⟩
theorem lw_p79 : lw_okq (⟨"LineColours$Network", "leastOddRound", "()I"⟩, 8) := ⟨⟨by decide +kernel, by decide +kernel⟩, List.mem_of_getElem? (i := 26) (by decide +kernel), List.mem_of_getElem? (i := 871) (by decide +kernel), List.mem_of_getElem? (i := 872) (by decide +kernel)⟩
def lw_privs_5 : List (MethodName × Nat) := [(⟨"LineColours$Search", "dearLines", "()I"⟩, 8), (⟨"LineColours$Turning", "countKinds", "(I)I"⟩, 7), (⟨"LineColours$Turning", "prepare", "(I)V"⟩, 7), (⟨"LineColours$Turning", "place", "(II)V"⟩, 7), (⟨"LineColours$Turning", "isSeen", "(I)Z"⟩, 7), (⟨"LineColours$Turning", "mark", "(I)V"⟩, 7), (⟨"LineColours$Turning", "spreadKind", "()V"⟩, 7), (⟨"LineColours$Turning", "advance", "()Z"⟩, 7), (⟨"LineColours$Turning", "turnEach", "(I)V"⟩, 7), (⟨"LineColours$Turning", "linesWith", "(II)I"⟩, 7), (⟨"LineColours$Turning", "joinedIn", "(II)I"⟩, 7), (⟨"LineColours", "areAllBelow", "([II)Z"⟩, 13), (⟨"LineColours$Turning", "fewestTurns", "([I[II)I"⟩, 7), (⟨"LineColours$Turning", "codeOf", "([I)I"⟩, 7), (⟨"LineColours$ChainWalk", "countChains", "(II)I"⟩, 2), (⟨"LineColours$Network", "leastOddRound", "()I"⟩, 8)]
theorem lw_r5 : ∀ q ∈ lw_privs_5, lw_okq q := List.forall_mem_cons.mpr ⟨lw_p64, List.forall_mem_cons.mpr ⟨lw_p65, List.forall_mem_cons.mpr ⟨lw_p66, List.forall_mem_cons.mpr ⟨lw_p67, List.forall_mem_cons.mpr ⟨lw_p68, List.forall_mem_cons.mpr ⟨lw_p69, List.forall_mem_cons.mpr ⟨lw_p70, List.forall_mem_cons.mpr ⟨lw_p71, List.forall_mem_cons.mpr ⟨lw_p72, List.forall_mem_cons.mpr ⟨lw_p73, List.forall_mem_cons.mpr ⟨lw_p74, List.forall_mem_cons.mpr ⟨lw_p75, List.forall_mem_cons.mpr ⟨lw_p76, List.forall_mem_cons.mpr ⟨lw_p77, List.forall_mem_cons.mpr ⟨lw_p78, List.forall_mem_cons.mpr ⟨lw_p79, fun _ h => absurd h List.not_mem_nil⟩⟩⟩⟩⟩⟩⟩⟩⟩⟩⟩⟩⟩⟩⟩⟩
theorem lw_p80 : lw_okq (⟨"LineColours$Apart", "most", "()I"⟩, 3) := ⟨⟨by decide +kernel, by decide +kernel⟩, List.mem_of_getElem? (i := 224) (by decide +kernel), List.mem_of_getElem? (i := 879) (by decide +kernel), List.mem_of_getElem? (i := 880) (by decide +kernel)⟩
theorem lw_p81 : lw_okq (⟨"LineColours$Sharing", "countColourings", "(I)J"⟩, 3) := ⟨⟨by decide +kernel, by decide +kernel⟩, List.mem_of_getElem? (i := 242) (by decide +kernel), List.mem_of_getElem? (i := 889) (by decide +kernel), List.mem_of_getElem? (i := 890) (by decide +kernel)⟩
theorem lw_p82 : lw_okq (⟨"LineColours$Sharing", "share", "(II)V"⟩, 3) := ⟨⟨by decide +kernel, by decide +kernel⟩, List.mem_of_getElem? (i := 242) (by decide +kernel), List.mem_of_getElem? (i := 894) (by decide +kernel), List.mem_of_getElem? (i := 895) (by decide +kernel)⟩
theorem lw_p83 : lw_okq (⟨"LineColours", "isLikeKept", "()Z"⟩, 13) := ⟨⟨by decide +kernel, by decide +kernel⟩, List.mem_of_getElem? (i := 18) (by decide +kernel), List.mem_of_getElem? (i := 903) (by decide +kernel), List.mem_of_getElem? (i := 904) (by decide +kernel)⟩
theorem lw_p84 : lw_okq (⟨"LineColours$Colouring", "bareLines", "()I"⟩, 3) := ⟨⟨by decide +kernel, by decide +kernel⟩, List.mem_of_getElem? (i := 84) (by decide +kernel), List.mem_of_getElem? (i := 911) (by decide +kernel), List.mem_of_getElem? (i := 912) (by decide +kernel)⟩
theorem lw_p85 : lw_okq (⟨"LineColours$Colouring", "usedColours", "()I"⟩, 3) := ⟨⟨by decide +kernel, by decide +kernel⟩, List.mem_of_getElem? (i := 84) (by decide +kernel), List.mem_of_getElem? (i := 916) (by decide +kernel), List.mem_of_getElem? (i := 917) (by decide +kernel)⟩
theorem lw_p86 : lw_okq (⟨"LineColours$Colouring", "unevenness", "()I"⟩, 3) := ⟨⟨by decide +kernel, by decide +kernel⟩, List.mem_of_getElem? (i := 84) (by decide +kernel), List.mem_of_getElem? (i := 920) (by decide +kernel), List.mem_of_getElem? (i := 921) (by decide +kernel)⟩
theorem lw_p87 : lw_okq (⟨"LineColours", "countEasy", "()I"⟩, 13) := ⟨⟨by decide +kernel, by decide +kernel⟩, List.mem_of_getElem? (i := 18) (by decide +kernel), List.mem_of_getElem? (i := 927) (by decide +kernel), List.mem_of_getElem? (i := 928) (by decide +kernel)⟩
theorem lw_p88 : lw_okq (⟨"LineColoursModel", "isPost", "(I)Z"⟩, 31) := ⟨⟨by decide +kernel, by decide +kernel⟩, List.mem_of_getElem? (i := 931) (by decide +kernel), List.mem_of_getElem? (i := 1042) (by decide +kernel), List.mem_of_getElem? (i := 1043) (by decide +kernel)⟩
theorem lw_p89 : lw_okq (⟨"LineColoursModel", "lineOf", "(II)I"⟩, 31) := ⟨⟨by decide +kernel, by decide +kernel⟩, List.mem_of_getElem? (i := 931) (by decide +kernel), List.mem_of_getElem? (i := 1046) (by decide +kernel), List.mem_of_getElem? (i := 1047) (by decide +kernel)⟩
theorem lw_p90 : lw_okq (⟨"LineColoursModel", "isLine", "(I)Z"⟩, 31) := ⟨⟨by decide +kernel, by decide +kernel⟩, List.mem_of_getElem? (i := 931) (by decide +kernel), List.mem_of_getElem? (i := 1054) (by decide +kernel), List.mem_of_getElem? (i := 1055) (by decide +kernel)⟩
theorem lw_p91 : lw_okq (⟨"LineColoursModel", "isColour", "(I)Z"⟩, 31) := ⟨⟨by decide +kernel, by decide +kernel⟩, List.mem_of_getElem? (i := 931) (by decide +kernel), List.mem_of_getElem? (i := 1058) (by decide +kernel), List.mem_of_getElem? (i := 1059) (by decide +kernel)⟩
theorem lw_p92 : lw_okq (⟨"LineColoursModel", "degree", "()I"⟩, 31) := ⟨⟨by decide +kernel, by decide +kernel⟩, List.mem_of_getElem? (i := 931) (by decide +kernel), List.mem_of_getElem? (i := 1062) (by decide +kernel), List.mem_of_getElem? (i := 1063) (by decide +kernel)⟩
theorem lw_p93 : lw_okq (⟨"LineColoursModel", "allLines", "()I"⟩, 31) := ⟨⟨by decide +kernel, by decide +kernel⟩, List.mem_of_getElem? (i := 931) (by decide +kernel), List.mem_of_getElem? (i := 1066) (by decide +kernel), List.mem_of_getElem? (i := 1067) (by decide +kernel)⟩
theorem lw_p94 : lw_okq (⟨"LineColoursModel", "degreeOf", "(I)I"⟩, 31) := ⟨⟨by decide +kernel, by decide +kernel⟩, List.mem_of_getElem? (i := 931) (by decide +kernel), List.mem_of_getElem? (i := 1070) (by decide +kernel), List.mem_of_getElem? (i := 1071) (by decide +kernel)⟩
theorem lw_p95 : lw_okq (⟨"LineColoursModel", "linesAt", "(II)I"⟩, 31) := ⟨⟨by decide +kernel, by decide +kernel⟩, List.mem_of_getElem? (i := 931) (by decide +kernel), List.mem_of_getElem? (i := 1074) (by decide +kernel), List.mem_of_getElem? (i := 1075) (by decide +kernel)⟩
def lw_privs_6 : List (MethodName × Nat) := [(⟨"LineColours$Apart", "most", "()I"⟩, 3), (⟨"LineColours$Sharing", "countColourings", "(I)J"⟩, 3), (⟨"LineColours$Sharing", "share", "(II)V"⟩, 3), (⟨"LineColours", "isLikeKept", "()Z"⟩, 13), (⟨"LineColours$Colouring", "bareLines", "()I"⟩, 3), (⟨"LineColours$Colouring", "usedColours", "()I"⟩, 3), (⟨"LineColours$Colouring", "unevenness", "()I"⟩, 3), (⟨"LineColours", "countEasy", "()I"⟩, 13), (⟨"LineColoursModel", "isPost", "(I)Z"⟩, 31), (⟨"LineColoursModel", "lineOf", "(II)I"⟩, 31), (⟨"LineColoursModel", "isLine", "(I)Z"⟩, 31), (⟨"LineColoursModel", "isColour", "(I)Z"⟩, 31), (⟨"LineColoursModel", "degree", "()I"⟩, 31), (⟨"LineColoursModel", "allLines", "()I"⟩, 31), (⟨"LineColoursModel", "degreeOf", "(I)I"⟩, 31), (⟨"LineColoursModel", "linesAt", "(II)I"⟩, 31)]
theorem lw_r6 : ∀ q ∈ lw_privs_6, lw_okq q := List.forall_mem_cons.mpr ⟨lw_p80, List.forall_mem_cons.mpr ⟨lw_p81, List.forall_mem_cons.mpr ⟨lw_p82, List.forall_mem_cons.mpr ⟨lw_p83, List.forall_mem_cons.mpr ⟨lw_p84, List.forall_mem_cons.mpr ⟨lw_p85, List.forall_mem_cons.mpr ⟨lw_p86, List.forall_mem_cons.mpr ⟨lw_p87, List.forall_mem_cons.mpr ⟨lw_p88, List.forall_mem_cons.mpr ⟨lw_p89, List.forall_mem_cons.mpr ⟨lw_p90, List.forall_mem_cons.mpr ⟨lw_p91, List.forall_mem_cons.mpr ⟨lw_p92, List.forall_mem_cons.mpr ⟨lw_p93, List.forall_mem_cons.mpr ⟨lw_p94, List.forall_mem_cons.mpr ⟨lw_p95, fun _ h => absurd h List.not_mem_nil⟩⟩⟩⟩⟩⟩⟩⟩⟩⟩⟩⟩⟩⟩⟩⟩
theorem lw_p96 : lw_okq (⟨"LineColoursModel", "isAt", "(II)Z"⟩, 31) := ⟨⟨by decide +kernel, by decide +kernel⟩, List.mem_of_getElem? (i := 931) (by decide +kernel), List.mem_of_getElem? (i := 1081) (by decide +kernel), List.mem_of_getElem? (i := 1082) (by decide +kernel)⟩
theorem lw_p97 : lw_okq (⟨"LineColoursModel", "isFreeAt", "(II)Z"⟩, 31) := ⟨⟨by decide +kernel, by decide +kernel⟩, List.mem_of_getElem? (i := 931) (by decide +kernel), List.mem_of_getElem? (i := 1085) (by decide +kernel), List.mem_of_getElem? (i := 1086) (by decide +kernel)⟩
theorem lw_p98 : lw_okq (⟨"LineColoursModel", "lineWith", "(II)I"⟩, 31) := ⟨⟨by decide +kernel, by decide +kernel⟩, List.mem_of_getElem? (i := 931) (by decide +kernel), List.mem_of_getElem? (i := 1089) (by decide +kernel), List.mem_of_getElem? (i := 1090) (by decide +kernel)⟩
theorem lw_p99 : lw_okq (⟨"LineColoursModel", "isChain", "(III)Z"⟩, 31) := ⟨⟨by decide +kernel, by decide +kernel⟩, List.mem_of_getElem? (i := 931) (by decide +kernel), List.mem_of_getElem? (i := 1101) (by decide +kernel), List.mem_of_getElem? (i := 1102) (by decide +kernel)⟩
theorem lw_p100 : lw_okq (⟨"LineColoursModel", "areColours", "(II)Z"⟩, 31) := ⟨⟨by decide +kernel, by decide +kernel⟩, List.mem_of_getElem? (i := 931) (by decide +kernel), List.mem_of_getElem? (i := 1105) (by decide +kernel), List.mem_of_getElem? (i := 1106) (by decide +kernel)⟩
theorem lw_p101 : lw_okq (⟨"LineColoursModel", "chainIn", "([IIII)I"⟩, 31) := ⟨⟨by decide +kernel, by decide +kernel⟩, List.mem_of_getElem? (i := 931) (by decide +kernel), List.mem_of_getElem? (i := 1109) (by decide +kernel), List.mem_of_getElem? (i := 1110) (by decide +kernel)⟩
theorem lw_p102 : lw_okq (⟨"LineColoursModel", "manyWith", "(II)I"⟩, 31) := ⟨⟨by decide +kernel, by decide +kernel⟩, List.mem_of_getElem? (i := 931) (by decide +kernel), List.mem_of_getElem? (i := 1127) (by decide +kernel), List.mem_of_getElem? (i := 1128) (by decide +kernel)⟩
theorem lw_p103 : lw_okq (⟨"LineColoursModel", "swaps", "(II)I"⟩, 31) := ⟨⟨by decide +kernel, by decide +kernel⟩, List.mem_of_getElem? (i := 931) (by decide +kernel), List.mem_of_getElem? (i := 1146) (by decide +kernel), List.mem_of_getElem? (i := 1147) (by decide +kernel)⟩
theorem lw_p104 : lw_okq (⟨"LineColoursModel", "laysFan", "(II)V"⟩, 31) := ⟨⟨by decide +kernel, by decide +kernel⟩, List.mem_of_getElem? (i := 931) (by decide +kernel), List.mem_of_getElem? (i := 1154) (by decide +kernel), List.mem_of_getElem? (i := 1155) (by decide +kernel)⟩
theorem lw_p105 : lw_okq (⟨"LineColoursModel", "otherEnd", "(II)I"⟩, 31) := ⟨⟨by decide +kernel, by decide +kernel⟩, List.mem_of_getElem? (i := 931) (by decide +kernel), List.mem_of_getElem? (i := 1158) (by decide +kernel), List.mem_of_getElem? (i := 1159) (by decide +kernel)⟩
theorem lw_p106 : lw_okq (⟨"LineColoursModel", "grows", "(I)I"⟩, 31) := ⟨⟨by decide +kernel, by decide +kernel⟩, List.mem_of_getElem? (i := 931) (by decide +kernel), List.mem_of_getElem? (i := 1166) (by decide +kernel), List.mem_of_getElem? (i := 1167) (by decide +kernel)⟩
theorem lw_p107 : lw_okq (⟨"LineColoursModel", "leastFreeAt", "(I)I"⟩, 31) := ⟨⟨by decide +kernel, by decide +kernel⟩, List.mem_of_getElem? (i := 931) (by decide +kernel), List.mem_of_getElem? (i := 1170) (by decide +kernel), List.mem_of_getElem? (i := 1171) (by decide +kernel)⟩
theorem lw_p108 : lw_okq (⟨"LineColoursModel", "oddRound", "()I"⟩, 31) := ⟨⟨by decide +kernel, by decide +kernel⟩, List.mem_of_getElem? (i := 931) (by decide +kernel), List.mem_of_getElem? (i := 1186) (by decide +kernel), List.mem_of_getElem? (i := 1187) (by decide +kernel)⟩
theorem lw_p109 : lw_okq (⟨"LineColoursModel", "laysSides", "()Z"⟩, 31) := ⟨⟨by decide +kernel, by decide +kernel⟩, List.mem_of_getElem? (i := 931) (by decide +kernel), List.mem_of_getElem? (i := 1190) (by decide +kernel), List.mem_of_getElem? (i := 1191) (by decide +kernel)⟩
theorem lw_p110 : lw_okq (⟨"LineColoursModel", "usedAt", "(I)I"⟩, 31) := ⟨⟨by decide +kernel, by decide +kernel⟩, List.mem_of_getElem? (i := 931) (by decide +kernel), List.mem_of_getElem? (i := 1198) (by decide +kernel), List.mem_of_getElem? (i := 1199) (by decide +kernel)⟩
theorem lw_p111 : lw_okq (⟨"LineColoursModel", "evens", "()Z"⟩, 31) := ⟨⟨by decide +kernel, by decide +kernel⟩, List.mem_of_getElem? (i := 931) (by decide +kernel), List.mem_of_getElem? (i := 1206) (by decide +kernel), List.mem_of_getElem? (i := 1207) (by decide +kernel)⟩
def lw_privs_7 : List (MethodName × Nat) := [(⟨"LineColoursModel", "isAt", "(II)Z"⟩, 31), (⟨"LineColoursModel", "isFreeAt", "(II)Z"⟩, 31), (⟨"LineColoursModel", "lineWith", "(II)I"⟩, 31), (⟨"LineColoursModel", "isChain", "(III)Z"⟩, 31), (⟨"LineColoursModel", "areColours", "(II)Z"⟩, 31), (⟨"LineColoursModel", "chainIn", "([IIII)I"⟩, 31), (⟨"LineColoursModel", "manyWith", "(II)I"⟩, 31), (⟨"LineColoursModel", "swaps", "(II)I"⟩, 31), (⟨"LineColoursModel", "laysFan", "(II)V"⟩, 31), (⟨"LineColoursModel", "otherEnd", "(II)I"⟩, 31), (⟨"LineColoursModel", "grows", "(I)I"⟩, 31), (⟨"LineColoursModel", "leastFreeAt", "(I)I"⟩, 31), (⟨"LineColoursModel", "oddRound", "()I"⟩, 31), (⟨"LineColoursModel", "laysSides", "()Z"⟩, 31), (⟨"LineColoursModel", "usedAt", "(I)I"⟩, 31), (⟨"LineColoursModel", "evens", "()Z"⟩, 31)]
theorem lw_r7 : ∀ q ∈ lw_privs_7, lw_okq q := List.forall_mem_cons.mpr ⟨lw_p96, List.forall_mem_cons.mpr ⟨lw_p97, List.forall_mem_cons.mpr ⟨lw_p98, List.forall_mem_cons.mpr ⟨lw_p99, List.forall_mem_cons.mpr ⟨lw_p100, List.forall_mem_cons.mpr ⟨lw_p101, List.forall_mem_cons.mpr ⟨lw_p102, List.forall_mem_cons.mpr ⟨lw_p103, List.forall_mem_cons.mpr ⟨lw_p104, List.forall_mem_cons.mpr ⟨lw_p105, List.forall_mem_cons.mpr ⟨lw_p106, List.forall_mem_cons.mpr ⟨lw_p107, List.forall_mem_cons.mpr ⟨lw_p108, List.forall_mem_cons.mpr ⟨lw_p109, List.forall_mem_cons.mpr ⟨lw_p110, List.forall_mem_cons.mpr ⟨lw_p111, fun _ h => absurd h List.not_mem_nil⟩⟩⟩⟩⟩⟩⟩⟩⟩⟩⟩⟩⟩⟩⟩⟩
theorem lw_p112 : lw_okq (⟨"LineColoursModel", "greatestUsed", "()I"⟩, 31) := ⟨⟨by decide +kernel, by decide +kernel⟩, List.mem_of_getElem? (i := 931) (by decide +kernel), List.mem_of_getElem? (i := 1210) (by decide +kernel), List.mem_of_getElem? (i := 1211) (by decide +kernel)⟩
theorem lw_p113 : lw_okq (⟨"LineColoursModel", "longerChain", "(II)I"⟩, 31) := ⟨⟨by decide +kernel, by decide +kernel⟩, List.mem_of_getElem? (i := 931) (by decide +kernel), List.mem_of_getElem? (i := 1214) (by decide +kernel), List.mem_of_getElem? (i := 1215) (by decide +kernel)⟩
theorem lw_p114 : lw_okq (⟨"LineColoursModel", "indexOf", "(I)I"⟩, 31) := ⟨⟨by decide +kernel, by decide +kernel⟩, List.mem_of_getElem? (i := 931) (by decide +kernel), List.mem_of_getElem? (i := 1222) (by decide +kernel), List.mem_of_getElem? (i := 1223) (by decide +kernel)⟩
theorem lw_p115 : lw_okq (⟨"LineColoursModel", "laysFirst", "(II)Z"⟩, 31) := ⟨⟨by decide +kernel, by decide +kernel⟩, List.mem_of_getElem? (i := 931) (by decide +kernel), List.mem_of_getElem? (i := 1226) (by decide +kernel), List.mem_of_getElem? (i := 1227) (by decide +kernel)⟩
theorem lw_p116 : lw_okq (⟨"LineColoursModel", "picksFirst", "(I)Z"⟩, 31) := ⟨⟨by decide +kernel, by decide +kernel⟩, List.mem_of_getElem? (i := 931) (by decide +kernel), List.mem_of_getElem? (i := 1230) (by decide +kernel), List.mem_of_getElem? (i := 1231) (by decide +kernel)⟩
theorem lw_p117 : lw_okq (⟨"LineColoursModel", "canGoOn", "(I)Z"⟩, 31) := ⟨⟨by decide +kernel, by decide +kernel⟩, List.mem_of_getElem? (i := 931) (by decide +kernel), List.mem_of_getElem? (i := 1234) (by decide +kernel), List.mem_of_getElem? (i := 1235) (by decide +kernel)⟩
theorem lw_p118 : lw_okq (⟨"LineColoursModel", "waysOf", "(I)I"⟩, 31) := ⟨⟨by decide +kernel, by decide +kernel⟩, List.mem_of_getElem? (i := 931) (by decide +kernel), List.mem_of_getElem? (i := 1238) (by decide +kernel), List.mem_of_getElem? (i := 1239) (by decide +kernel)⟩
theorem lw_p119 : lw_okq (⟨"LineColoursModel", "picks", "(II)V"⟩, 31) := ⟨⟨by decide +kernel, by decide +kernel⟩, List.mem_of_getElem? (i := 931) (by decide +kernel), List.mem_of_getElem? (i := 1242) (by decide +kernel), List.mem_of_getElem? (i := 1243) (by decide +kernel)⟩
theorem lw_p120 : lw_okq (⟨"LineColoursModel", "laysParts", "(I)V"⟩, 31) := ⟨⟨by decide +kernel, by decide +kernel⟩, List.mem_of_getElem? (i := 931) (by decide +kernel), List.mem_of_getElem? (i := 1246) (by decide +kernel), List.mem_of_getElem? (i := 1247) (by decide +kernel)⟩
theorem lw_p121 : lw_okq (⟨"LineColoursModel", "fewestWays", "(I)I"⟩, 31) := ⟨⟨by decide +kernel, by decide +kernel⟩, List.mem_of_getElem? (i := 931) (by decide +kernel), List.mem_of_getElem? (i := 1250) (by decide +kernel), List.mem_of_getElem? (i := 1251) (by decide +kernel)⟩
theorem lw_p122 : lw_okq (⟨"LineColoursModel", "canBeEnough", "(I)Z"⟩, 31) := ⟨⟨by decide +kernel, by decide +kernel⟩, List.mem_of_getElem? (i := 931) (by decide +kernel), List.mem_of_getElem? (i := 1254) (by decide +kernel), List.mem_of_getElem? (i := 1255) (by decide +kernel)⟩
theorem lw_p123 : lw_okq (⟨"LineColoursModel", "canBeAt", "(II)Z"⟩, 31) := ⟨⟨by decide +kernel, by decide +kernel⟩, List.mem_of_getElem? (i := 931) (by decide +kernel), List.mem_of_getElem? (i := 1258) (by decide +kernel), List.mem_of_getElem? (i := 1259) (by decide +kernel)⟩
theorem lw_p124 : lw_okq (⟨"LineColoursModel", "triesOf", "(I)I"⟩, 31) := ⟨⟨by decide +kernel, by decide +kernel⟩, List.mem_of_getElem? (i := 931) (by decide +kernel), List.mem_of_getElem? (i := 1262) (by decide +kernel), List.mem_of_getElem? (i := 1263) (by decide +kernel)⟩
theorem lw_p125 : lw_okq (⟨"LineColoursModel", "fullSet", "(I)I"⟩, 31) := ⟨⟨by decide +kernel, by decide +kernel⟩, List.mem_of_getElem? (i := 931) (by decide +kernel), List.mem_of_getElem? (i := 1291) (by decide +kernel), List.mem_of_getElem? (i := 1292) (by decide +kernel)⟩
theorem lw_p126 : lw_okq (⟨"LineColoursModel", "allPosts", "()I"⟩, 31) := ⟨⟨by decide +kernel, by decide +kernel⟩, List.mem_of_getElem? (i := 931) (by decide +kernel), List.mem_of_getElem? (i := 1295) (by decide +kernel), List.mem_of_getElem? (i := 1296) (by decide +kernel)⟩
theorem lw_p127 : lw_okq (⟨"LineColoursModel", "linesWithin", "(I)I"⟩, 31) := ⟨⟨by decide +kernel, by decide +kernel⟩, List.mem_of_getElem? (i := 931) (by decide +kernel), List.mem_of_getElem? (i := 1299) (by decide +kernel), List.mem_of_getElem? (i := 1300) (by decide +kernel)⟩
def lw_privs_8 : List (MethodName × Nat) := [(⟨"LineColoursModel", "greatestUsed", "()I"⟩, 31), (⟨"LineColoursModel", "longerChain", "(II)I"⟩, 31), (⟨"LineColoursModel", "indexOf", "(I)I"⟩, 31), (⟨"LineColoursModel", "laysFirst", "(II)Z"⟩, 31), (⟨"LineColoursModel", "picksFirst", "(I)Z"⟩, 31), (⟨"LineColoursModel", "canGoOn", "(I)Z"⟩, 31), (⟨"LineColoursModel", "waysOf", "(I)I"⟩, 31), (⟨"LineColoursModel", "picks", "(II)V"⟩, 31), (⟨"LineColoursModel", "laysParts", "(I)V"⟩, 31), (⟨"LineColoursModel", "fewestWays", "(I)I"⟩, 31), (⟨"LineColoursModel", "canBeEnough", "(I)Z"⟩, 31), (⟨"LineColoursModel", "canBeAt", "(II)Z"⟩, 31), (⟨"LineColoursModel", "triesOf", "(I)I"⟩, 31), (⟨"LineColoursModel", "fullSet", "(I)I"⟩, 31), (⟨"LineColoursModel", "allPosts", "()I"⟩, 31), (⟨"LineColoursModel", "linesWithin", "(I)I"⟩, 31)]
theorem lw_r8 : ∀ q ∈ lw_privs_8, lw_okq q := List.forall_mem_cons.mpr ⟨lw_p112, List.forall_mem_cons.mpr ⟨lw_p113, List.forall_mem_cons.mpr ⟨lw_p114, List.forall_mem_cons.mpr ⟨lw_p115, List.forall_mem_cons.mpr ⟨lw_p116, List.forall_mem_cons.mpr ⟨lw_p117, List.forall_mem_cons.mpr ⟨lw_p118, List.forall_mem_cons.mpr ⟨lw_p119, List.forall_mem_cons.mpr ⟨lw_p120, List.forall_mem_cons.mpr ⟨lw_p121, List.forall_mem_cons.mpr ⟨lw_p122, List.forall_mem_cons.mpr ⟨lw_p123, List.forall_mem_cons.mpr ⟨lw_p124, List.forall_mem_cons.mpr ⟨lw_p125, List.forall_mem_cons.mpr ⟨lw_p126, List.forall_mem_cons.mpr ⟨lw_p127, fun _ h => absurd h List.not_mem_nil⟩⟩⟩⟩⟩⟩⟩⟩⟩⟩⟩⟩⟩⟩⟩⟩
theorem lw_p128 : lw_okq (⟨"LineColoursModel", "laysParted", "()V"⟩, 31) := ⟨⟨by decide +kernel, by decide +kernel⟩, List.mem_of_getElem? (i := 931) (by decide +kernel), List.mem_of_getElem? (i := 1313) (by decide +kernel), List.mem_of_getElem? (i := 1314) (by decide +kernel)⟩
theorem lw_p129 : lw_okq (⟨"LineColoursModel", "partsAhead", "(I)I"⟩, 31) := ⟨⟨by decide +kernel, by decide +kernel⟩, List.mem_of_getElem? (i := 931) (by decide +kernel), List.mem_of_getElem? (i := 1317) (by decide +kernel), List.mem_of_getElem? (i := 1318) (by decide +kernel)⟩
theorem lw_p130 : lw_okq (⟨"LineColoursModel", "canBePart", "(I)Z"⟩, 31) := ⟨⟨by decide +kernel, by decide +kernel⟩, List.mem_of_getElem? (i := 931) (by decide +kernel), List.mem_of_getElem? (i := 1321) (by decide +kernel), List.mem_of_getElem? (i := 1322) (by decide +kernel)⟩
theorem lw_p131 : lw_okq (⟨"LineColoursModel", "doMeet", "(II)Z"⟩, 31) := ⟨⟨by decide +kernel, by decide +kernel⟩, List.mem_of_getElem? (i := 931) (by decide +kernel), List.mem_of_getElem? (i := 1325) (by decide +kernel), List.mem_of_getElem? (i := 1326) (by decide +kernel)⟩
theorem lw_p132 : lw_okq (⟨"LineColoursModel", "codes", "(I)I"⟩, 31) := ⟨⟨by decide +kernel, by decide +kernel⟩, List.mem_of_getElem? (i := 931) (by decide +kernel), List.mem_of_getElem? (i := 1333) (by decide +kernel), List.mem_of_getElem? (i := 1334) (by decide +kernel)⟩
theorem lw_p133 : lw_okq (⟨"LineColoursModel", "laysTrial", "(II)V"⟩, 31) := ⟨⟨by decide +kernel, by decide +kernel⟩, List.mem_of_getElem? (i := 931) (by decide +kernel), List.mem_of_getElem? (i := 1337) (by decide +kernel), List.mem_of_getElem? (i := 1338) (by decide +kernel)⟩
theorem lw_p134 : lw_okq (⟨"LineColoursModel", "isTrialFit", "()Z"⟩, 31) := ⟨⟨by decide +kernel, by decide +kernel⟩, List.mem_of_getElem? (i := 931) (by decide +kernel), List.mem_of_getElem? (i := 1341) (by decide +kernel), List.mem_of_getElem? (i := 1342) (by decide +kernel)⟩
theorem lw_p135 : lw_okq (⟨"LineColoursModel", "spreads", "(III)V"⟩, 31) := ⟨⟨by decide +kernel, by decide +kernel⟩, List.mem_of_getElem? (i := 931) (by decide +kernel), List.mem_of_getElem? (i := 1345) (by decide +kernel), List.mem_of_getElem? (i := 1346) (by decide +kernel)⟩
theorem lw_p136 : lw_okq (⟨"LineColoursModel", "codeOf", "([II)I"⟩, 31) := ⟨⟨by decide +kernel, by decide +kernel⟩, List.mem_of_getElem? (i := 931) (by decide +kernel), List.mem_of_getElem? (i := 1349) (by decide +kernel), List.mem_of_getElem? (i := 1350) (by decide +kernel)⟩
theorem lw_p137 : lw_okq (⟨"LineColoursModel", "areBelow", "([II)Z"⟩, 31) := ⟨⟨by decide +kernel, by decide +kernel⟩, List.mem_of_getElem? (i := 931) (by decide +kernel), List.mem_of_getElem? (i := 1357) (by decide +kernel), List.mem_of_getElem? (i := 1358) (by decide +kernel)⟩
theorem lw_p138 : lw_okq (⟨"LineColoursModel", "laysApart", "()V"⟩, 31) := ⟨⟨by decide +kernel, by decide +kernel⟩, List.mem_of_getElem? (i := 931) (by decide +kernel), List.mem_of_getElem? (i := 1365) (by decide +kernel), List.mem_of_getElem? (i := 1366) (by decide +kernel)⟩
theorem lw_p139 : lw_okq (⟨"LineColoursModel", "apartBy", "(II)I"⟩, 31) := ⟨⟨by decide +kernel, by decide +kernel⟩, List.mem_of_getElem? (i := 931) (by decide +kernel), List.mem_of_getElem? (i := 1369) (by decide +kernel), List.mem_of_getElem? (i := 1370) (by decide +kernel)⟩
theorem lw_p140 : lw_okq (⟨"LineColoursModel", "areThere", "(II)Z"⟩, 31) := ⟨⟨by decide +kernel, by decide +kernel⟩, List.mem_of_getElem? (i := 931) (by decide +kernel), List.mem_of_getElem? (i := 1373) (by decide +kernel), List.mem_of_getElem? (i := 1374) (by decide +kernel)⟩
theorem lw_p141 : lw_okq (⟨"LineColoursModel", "without", "(II)I"⟩, 31) := ⟨⟨by decide +kernel, by decide +kernel⟩, List.mem_of_getElem? (i := 931) (by decide +kernel), List.mem_of_getElem? (i := 1377) (by decide +kernel), List.mem_of_getElem? (i := 1378) (by decide +kernel)⟩
theorem lw_p142 : lw_okq (⟨"LineColoursModel", "idleAll", "()I"⟩, 31) := ⟨⟨by decide +kernel, by decide +kernel⟩, List.mem_of_getElem? (i := 931) (by decide +kernel), List.mem_of_getElem? (i := 1409) (by decide +kernel), List.mem_of_getElem? (i := 1410) (by decide +kernel)⟩
theorem lw_p143 : lw_okq (⟨"LineColoursModel", "idleAt", "(I)I"⟩, 31) := ⟨⟨by decide +kernel, by decide +kernel⟩, List.mem_of_getElem? (i := 931) (by decide +kernel), List.mem_of_getElem? (i := 1413) (by decide +kernel), List.mem_of_getElem? (i := 1414) (by decide +kernel)⟩
def lw_privs_9 : List (MethodName × Nat) := [(⟨"LineColoursModel", "laysParted", "()V"⟩, 31), (⟨"LineColoursModel", "partsAhead", "(I)I"⟩, 31), (⟨"LineColoursModel", "canBePart", "(I)Z"⟩, 31), (⟨"LineColoursModel", "doMeet", "(II)Z"⟩, 31), (⟨"LineColoursModel", "codes", "(I)I"⟩, 31), (⟨"LineColoursModel", "laysTrial", "(II)V"⟩, 31), (⟨"LineColoursModel", "isTrialFit", "()Z"⟩, 31), (⟨"LineColoursModel", "spreads", "(III)V"⟩, 31), (⟨"LineColoursModel", "codeOf", "([II)I"⟩, 31), (⟨"LineColoursModel", "areBelow", "([II)Z"⟩, 31), (⟨"LineColoursModel", "laysApart", "()V"⟩, 31), (⟨"LineColoursModel", "apartBy", "(II)I"⟩, 31), (⟨"LineColoursModel", "areThere", "(II)Z"⟩, 31), (⟨"LineColoursModel", "without", "(II)I"⟩, 31), (⟨"LineColoursModel", "idleAll", "()I"⟩, 31), (⟨"LineColoursModel", "idleAt", "(I)I"⟩, 31)]
theorem lw_r9 : ∀ q ∈ lw_privs_9, lw_okq q := List.forall_mem_cons.mpr ⟨lw_p128, List.forall_mem_cons.mpr ⟨lw_p129, List.forall_mem_cons.mpr ⟨lw_p130, List.forall_mem_cons.mpr ⟨lw_p131, List.forall_mem_cons.mpr ⟨lw_p132, List.forall_mem_cons.mpr ⟨lw_p133, List.forall_mem_cons.mpr ⟨lw_p134, List.forall_mem_cons.mpr ⟨lw_p135, List.forall_mem_cons.mpr ⟨lw_p136, List.forall_mem_cons.mpr ⟨lw_p137, List.forall_mem_cons.mpr ⟨lw_p138, List.forall_mem_cons.mpr ⟨lw_p139, List.forall_mem_cons.mpr ⟨lw_p140, List.forall_mem_cons.mpr ⟨lw_p141, List.forall_mem_cons.mpr ⟨lw_p142, List.forall_mem_cons.mpr ⟨lw_p143, fun _ h => absurd h List.not_mem_nil⟩⟩⟩⟩⟩⟩⟩⟩⟩⟩⟩⟩⟩⟩⟩⟩
theorem lw_p144 : lw_okq (⟨"LineColoursModel", "unlikeMany", "()I"⟩, 31) := ⟨⟨by decide +kernel, by decide +kernel⟩, List.mem_of_getElem? (i := 931) (by decide +kernel), List.mem_of_getElem? (i := 1429) (by decide +kernel), List.mem_of_getElem? (i := 1430) (by decide +kernel)⟩
theorem lw_p145 : lw_okq (⟨"LineColoursModel", "areLike", "()Z"⟩, 31) := ⟨⟨by decide +kernel, by decide +kernel⟩, List.mem_of_getElem? (i := 931) (by decide +kernel), List.mem_of_getElem? (i := 1437) (by decide +kernel), List.mem_of_getElem? (i := 1438) (by decide +kernel)⟩
theorem lw_p146 : lw_okq (⟨"LineColoursModel", "bareMany", "()I"⟩, 31) := ⟨⟨by decide +kernel, by decide +kernel⟩, List.mem_of_getElem? (i := 931) (by decide +kernel), List.mem_of_getElem? (i := 1445) (by decide +kernel), List.mem_of_getElem? (i := 1446) (by decide +kernel)⟩
theorem lw_p147 : lw_okq (⟨"LineColoursModel", "usedColours", "()I"⟩, 31) := ⟨⟨by decide +kernel, by decide +kernel⟩, List.mem_of_getElem? (i := 931) (by decide +kernel), List.mem_of_getElem? (i := 1449) (by decide +kernel), List.mem_of_getElem? (i := 1450) (by decide +kernel)⟩
theorem lw_p148 : lw_okq (⟨"LineColoursModel", "uneven", "()I"⟩, 31) := ⟨⟨by decide +kernel, by decide +kernel⟩, List.mem_of_getElem? (i := 931) (by decide +kernel), List.mem_of_getElem? (i := 1453) (by decide +kernel), List.mem_of_getElem? (i := 1454) (by decide +kernel)⟩
theorem lw_p149 : lw_okq (⟨"LineColoursModel", "easyMany", "()I"⟩, 31) := ⟨⟨by decide +kernel, by decide +kernel⟩, List.mem_of_getElem? (i := 931) (by decide +kernel), List.mem_of_getElem? (i := 1457) (by decide +kernel), List.mem_of_getElem? (i := 1458) (by decide +kernel)⟩
def lw_privs_10 : List (MethodName × Nat) := [(⟨"LineColoursModel", "unlikeMany", "()I"⟩, 31), (⟨"LineColoursModel", "areLike", "()Z"⟩, 31), (⟨"LineColoursModel", "bareMany", "()I"⟩, 31), (⟨"LineColoursModel", "usedColours", "()I"⟩, 31), (⟨"LineColoursModel", "uneven", "()I"⟩, 31), (⟨"LineColoursModel", "easyMany", "()I"⟩, 31)]
theorem lw_r10 : ∀ q ∈ lw_privs_10, lw_okq q := List.forall_mem_cons.mpr ⟨lw_p144, List.forall_mem_cons.mpr ⟨lw_p145, List.forall_mem_cons.mpr ⟨lw_p146, List.forall_mem_cons.mpr ⟨lw_p147, List.forall_mem_cons.mpr ⟨lw_p148, List.forall_mem_cons.mpr ⟨lw_p149, fun _ h => absurd h List.not_mem_nil⟩⟩⟩⟩⟩⟩
def lw_privs : List (MethodName × Nat) := lw_privs_1 ++ (lw_privs_2 ++ (lw_privs_3 ++ (lw_privs_4 ++ (lw_privs_5 ++ (lw_privs_6 ++ (lw_privs_7 ++ (lw_privs_8 ++ (lw_privs_9 ++ (lw_privs_10)))))))))
def lw_tbl : List Cond := k2_sels lw_privs ++ tables_1
theorem lw_privs_ok : ∀ q ∈ lw_privs, lw_okq q := by
  show ∀ q ∈ lw_privs_1 ++ (lw_privs_2 ++ (lw_privs_3 ++ (lw_privs_4 ++ (lw_privs_5 ++ (lw_privs_6 ++ (lw_privs_7 ++ (lw_privs_8 ++ (lw_privs_9 ++ (lw_privs_10))))))))), lw_okq q
  exact List.forall_mem_append.mpr ⟨lw_r1, List.forall_mem_append.mpr ⟨lw_r2, List.forall_mem_append.mpr ⟨lw_r3, List.forall_mem_append.mpr ⟨lw_r4, List.forall_mem_append.mpr ⟨lw_r5, List.forall_mem_append.mpr ⟨lw_r6, List.forall_mem_append.mpr ⟨lw_r7, List.forall_mem_append.mpr ⟨lw_r8, List.forall_mem_append.mpr ⟨lw_r9, lw_r10⟩⟩⟩⟩⟩⟩⟩⟩⟩
-- ===== end of PART A; then your names; then what follows =====
end
section
/-! ===== BEGIN printed: names, fields, word lists, decode rows ===== -/
def RX0 : String := "LineColours$Apart"
def TX0 : u_T := fun k => match k with
  | 0 => ("LineColours$Apart", "net", "LLineColours$Network;", true)
  | 1 => ("LineColours$Apart", "howMany", "[I", true)
  | _ => ("LineColours$Apart", "least", "[I", true)
def tyX0 : Nat → FieldType := fun k => match k with
  | 0 => .object "LineColours$Network"
  | 1 => .array .int
  | _ => .array .int
abbrev wsX00 : List Cond := u_ws RX0 TX0 3
theorem nmX0 : ∀ a, a < 3 → ∀ b, b < 3 → a ≠ b → (TX0 a).2.1 ≠ (TX0 b).2.1 := by decide +kernel
theorem tyX0_ok : ∀ k, k < 3 → parseFieldDescriptor (TX0 k).2.2.1 = some (tyX0 k) := by decide +kernel
abbrev cX0_init : ByteArray := prog_2_method_1_code
def yX0_init : MethodName := ⟨RX0, "<init>", "(LLineColours$Network;)V"⟩
abbrev cX0_gatherAll : ByteArray := prog_2_method_2_code
def yX0_gatherAll : MethodName := ⟨RX0, "gatherAll", "()V"⟩
abbrev cX0_gather : ByteArray := prog_2_method_3_code
def yX0_gather : MethodName := ⟨RX0, "gather", "(IIII)V"⟩
abbrev cX0_most : ByteArray := prog_2_method_4_code
def yX0_most : MethodName := ⟨RX0, "most", "()I"⟩
def RX1 : String := "LineColours$Calmer"
def TX1 : u_T := fun k => match k with
  | 0 => ("LineColours$Calmer", "net", "LLineColours$Network;", true)
  | 1 => ("LineColours$Calmer", "now", "LLineColours$Colouring;", true)
  | 2 => ("LineColours$Calmer", "less", "I", false)
  | 3 => ("LineColours$Calmer", "one", "I", false)
  | _ => ("LineColours$Calmer", "other", "I", false)
def tyX1 : Nat → FieldType := fun k => match k with
  | 0 => .object "LineColours$Network"
  | 1 => .object "LineColours$Colouring"
  | 2 => .int
  | 3 => .int
  | _ => .int
abbrev wsX10 : List Cond := u_ws RX1 TX1 5
theorem nmX1 : ∀ a, a < 5 → ∀ b, b < 5 → a ≠ b → (TX1 a).2.1 ≠ (TX1 b).2.1 := by decide +kernel
theorem tyX1_ok : ∀ k, k < 5 → parseFieldDescriptor (TX1 k).2.2.1 = some (tyX1 k) := by decide +kernel
abbrev cX1_init : ByteArray := prog_3_method_1_code
def yX1_init : MethodName := ⟨RX1, "<init>", "(LLineColours$Network;LLineColours$Colouring;)V"⟩
abbrev cX1_idleOfAll : ByteArray := prog_3_method_2_code
def yX1_idleOfAll : MethodName := ⟨RX1, "idleOfAll", "(II)I"⟩
abbrev cX1_look : ByteArray := prog_3_method_3_code
def yX1_look : MethodName := ⟨RX1, "look", "()V"⟩
def RX2 : String := "LineColours$ChainWalk"
def TX2 : u_T := fun k => match k with
  | 0 => ("LineColours$ChainWalk", "net", "LLineColours$Network;", true)
  | _ => ("LineColours$ChainWalk", "now", "LLineColours$Colouring;", true)
def tyX2 : Nat → FieldType := fun k => match k with
  | 0 => .object "LineColours$Network"
  | _ => .object "LineColours$Colouring"
abbrev wsX20 : List Cond := u_ws RX2 TX2 2
theorem nmX2 : ∀ a, a < 2 → ∀ b, b < 2 → a ≠ b → (TX2 a).2.1 ≠ (TX2 b).2.1 := by decide +kernel
theorem tyX2_ok : ∀ k, k < 2 → parseFieldDescriptor (TX2 k).2.2.1 = some (tyX2 k) := by decide +kernel
abbrev cX2_init : ByteArray := prog_4_method_1_code
def yX2_init : MethodName := ⟨RX2, "<init>", "(LLineColours$Network;LLineColours$Colouring;)V"⟩
abbrev cX2_countChains : ByteArray := prog_4_method_2_code
def yX2_countChains : MethodName := ⟨RX2, "countChains", "(II)I"⟩
abbrev cX2_longestChain : ByteArray := prog_4_method_3_code
def yX2_longestChain : MethodName := ⟨RX2, "longestChain", "(II)I"⟩
abbrev cX2_leaningChain : ByteArray := prog_4_method_4_code
def yX2_leaningChain : MethodName := ⟨RX2, "leaningChain", "(II)I"⟩
abbrev cX2_makeEven : ByteArray := prog_4_method_5_code
def yX2_makeEven : MethodName := ⟨RX2, "makeEven", "()I"⟩
abbrev cX2_howMany : ByteArray := prog_4_method_6_code
def yX2_howMany : MethodName := ⟨RX2, "howMany", "(I)I"⟩
abbrev cX2_greatestUsed : ByteArray := prog_4_method_7_code
def yX2_greatestUsed : MethodName := ⟨RX2, "greatestUsed", "()I"⟩
def RX3 : String := "LineColours$Colouring"
def TX3 : u_T := fun k => match k with
  | 0 => ("LineColours$Colouring", "net", "LLineColours$Network;", true)
  | 1 => ("LineColours$Colouring", "colourOf", "[I", true)
  | _ => ("LineColours$Colouring", "linesOf", "[I", true)
def tyX3 : Nat → FieldType := fun k => match k with
  | 0 => .object "LineColours$Network"
  | 1 => .array .int
  | _ => .array .int
abbrev wsX30 : List Cond := u_ws RX3 TX3 3
theorem nmX3 : ∀ a, a < 3 → ∀ b, b < 3 → a ≠ b → (TX3 a).2.1 ≠ (TX3 b).2.1 := by decide +kernel
theorem tyX3_ok : ∀ k, k < 3 → parseFieldDescriptor (TX3 k).2.2.1 = some (tyX3 k) := by decide +kernel
abbrev cX3_init : ByteArray := prog_5_method_1_code
def yX3_init : MethodName := ⟨RX3, "<init>", "(LLineColours$Network;)V"⟩
abbrev cX3_clear : ByteArray := prog_5_method_2_code
def yX3_clear : MethodName := ⟨RX3, "clear", "()V"⟩
abbrev cX3_colours : ByteArray := prog_5_method_3_code
def yX3_colours : MethodName := ⟨RX3, "colours", "()I"⟩
abbrev cX3_isColour : ByteArray := prog_5_method_4_code
def yX3_isColour : MethodName := ⟨RX3, "isColour", "(I)Z"⟩
abbrev cX3_areUnlike : ByteArray := prog_5_method_5_code
def yX3_areUnlike : MethodName := ⟨RX3, "areUnlike", "(II)Z"⟩
abbrev cX3_bareLines : ByteArray := prog_5_method_6_code
def yX3_bareLines : MethodName := ⟨RX3, "bareLines", "()I"⟩
abbrev cX3_usedColours : ByteArray := prog_5_method_7_code
def yX3_usedColours : MethodName := ⟨RX3, "usedColours", "()I"⟩
abbrev cX3_unevenness : ByteArray := prog_5_method_8_code
def yX3_unevenness : MethodName := ⟨RX3, "unevenness", "()I"⟩
abbrev cX3_coloursAt : ByteArray := prog_5_method_9_code
def yX3_coloursAt : MethodName := ⟨RX3, "coloursAt", "(I)I"⟩
abbrev cX3_freeAt : ByteArray := prog_5_method_10_code
def yX3_freeAt : MethodName := ⟨RX3, "freeAt", "(I)I"⟩
abbrev cX3_freeAtBoth : ByteArray := prog_5_method_11_code
def yX3_freeAtBoth : MethodName := ⟨RX3, "freeAtBoth", "(I)I"⟩
abbrev cX3_leastFreeAt : ByteArray := prog_5_method_12_code
def yX3_leastFreeAt : MethodName := ⟨RX3, "leastFreeAt", "(I)I"⟩
abbrev cX3_isFreeAt : ByteArray := prog_5_method_13_code
def yX3_isFreeAt : MethodName := ⟨RX3, "isFreeAt", "(II)Z"⟩
abbrev cX3_lineWith : ByteArray := prog_5_method_14_code
def yX3_lineWith : MethodName := ⟨RX3, "lineWith", "(II)I"⟩
abbrev cX3_strip : ByteArray := prog_5_method_15_code
def yX3_strip : MethodName := ⟨RX3, "strip", "(I)V"⟩
abbrev cX3_give : ByteArray := prog_5_method_16_code
def yX3_give : MethodName := ⟨RX3, "give", "(II)V"⟩
abbrev cX3_chainOf : ByteArray := prog_5_method_17_code
def yX3_chainOf : MethodName := ⟨RX3, "chainOf", "(III)I"⟩
abbrev cX3_flip : ByteArray := prog_5_method_18_code
def yX3_flip : MethodName := ⟨RX3, "flip", "(III)V"⟩
abbrev cX3_giveBelowDegree : ByteArray := prog_5_method_19_code
def yX3_giveBelowDegree : MethodName := ⟨RX3, "giveBelowDegree", "(I)V"⟩
def RX4 : String := "LineColours$Fan"
def TX4 : u_T := fun k => match k with
  | 0 => ("LineColours$Fan", "net", "LLineColours$Network;", true)
  | 1 => ("LineColours$Fan", "now", "LLineColours$Colouring;", true)
  | 2 => ("LineColours$Fan", "row", "[I", true)
  | _ => ("LineColours$Fan", "size", "I", false)
def tyX4 : Nat → FieldType := fun k => match k with
  | 0 => .object "LineColours$Network"
  | 1 => .object "LineColours$Colouring"
  | 2 => .array .int
  | _ => .int
abbrev wsX40 : List Cond := u_ws RX4 TX4 4
theorem nmX4 : ∀ a, a < 4 → ∀ b, b < 4 → a ≠ b → (TX4 a).2.1 ≠ (TX4 b).2.1 := by decide +kernel
theorem tyX4_ok : ∀ k, k < 4 → parseFieldDescriptor (TX4 k).2.2.1 = some (tyX4 k) := by decide +kernel
abbrev cX4_init : ByteArray := prog_6_method_1_code
def yX4_init : MethodName := ⟨RX4, "<init>", "(LLineColours$Network;LLineColours$Colouring;)V"⟩
abbrev cX4_lay : ByteArray := prog_6_method_2_code
def yX4_lay : MethodName := ⟨RX4, "lay", "(II)V"⟩
abbrev cX4_follower : ByteArray := prog_6_method_3_code
def yX4_follower : MethodName := ⟨RX4, "follower", "(III)I"⟩
abbrev cX4_placeLacking : ByteArray := prog_6_method_4_code
def yX4_placeLacking : MethodName := ⟨RX4, "placeLacking", "(II)I"⟩
abbrev cX4_follows : ByteArray := prog_6_method_5_code
def yX4_follows : MethodName := ⟨RX4, "follows", "(II)Z"⟩
abbrev cX4_shift : ByteArray := prog_6_method_6_code
def yX4_shift : MethodName := ⟨RX4, "shift", "(III)V"⟩
def RX5 : String := "LineColours$Grower"
def TX5 : u_T := fun k => match k with
  | 0 => ("LineColours$Grower", "net", "LLineColours$Network;", true)
  | 1 => ("LineColours$Grower", "now", "LLineColours$Colouring;", true)
  | 2 => ("LineColours$Grower", "fan", "LLineColours$Fan;", true)
  | 3 => ("LineColours$Grower", "last", "[I", true)
  | _ => ("LineColours$Grower", "any", "Z", false)
def tyX5 : Nat → FieldType := fun k => match k with
  | 0 => .object "LineColours$Network"
  | 1 => .object "LineColours$Colouring"
  | 2 => .object "LineColours$Fan"
  | 3 => .array .int
  | _ => .boolean
abbrev wsX50 : List Cond := u_ws RX5 TX5 5
theorem nmX5 : ∀ a, a < 5 → ∀ b, b < 5 → a ≠ b → (TX5 a).2.1 ≠ (TX5 b).2.1 := by decide +kernel
theorem tyX5_ok : ∀ k, k < 5 → parseFieldDescriptor (TX5 k).2.2.1 = some (tyX5 k) := by decide +kernel
abbrev cX5_init : ByteArray := prog_7_method_1_code
def yX5_init : MethodName := ⟨RX5, "<init>", "(LLineColours$Network;LLineColours$Colouring;LLineColours$Fan;)V"⟩
abbrev cX5_raise : ByteArray := prog_7_method_2_code
def yX5_raise : MethodName := ⟨RX5, "raise", "(I)V"⟩
def RX6 : String := "LineColours$Network"
def TX6 : u_T := fun k => match k with
  | 0 => ("LineColours$Network", "low", "[I", true)
  | 1 => ("LineColours$Network", "high", "[I", true)
  | 2 => ("LineColours$Network", "meeting", "[I", true)
  | 3 => ("LineColours$Network", "linesAt", "[I", true)
  | 4 => ("LineColours$Network", "nextTo", "[I", true)
  | 5 => ("LineColours$Network", "posts", "I", false)
  | 6 => ("LineColours$Network", "lines", "I", false)
  | _ => ("LineColours$Network", "degree", "I", false)
def tyX6 : Nat → FieldType := fun k => match k with
  | 0 => .array .int
  | 1 => .array .int
  | 2 => .array .int
  | 3 => .array .int
  | 4 => .array .int
  | 5 => .int
  | 6 => .int
  | _ => .int
abbrev wsX60 : List Cond := u_ws RX6 TX6 8
theorem nmX6 : ∀ a, a < 8 → ∀ b, b < 8 → a ≠ b → (TX6 a).2.1 ≠ (TX6 b).2.1 := by decide +kernel
theorem tyX6_ok : ∀ k, k < 8 → parseFieldDescriptor (TX6 k).2.2.1 = some (tyX6 k) := by decide +kernel
abbrev cX6_init : ByteArray := prog_8_method_1_code
def yX6_init : MethodName := ⟨RX6, "<init>", "()V"⟩
abbrev cX6_clear : ByteArray := prog_8_method_2_code
def yX6_clear : MethodName := ⟨RX6, "clear", "(I)V"⟩
abbrev cX6_add : ByteArray := prog_8_method_3_code
def yX6_add : MethodName := ⟨RX6, "add", "(II)V"⟩
abbrev cX6_isPost : ByteArray := prog_8_method_4_code
def yX6_isPost : MethodName := ⟨RX6, "isPost", "(I)Z"⟩
abbrev cX6_isLine : ByteArray := prog_8_method_5_code
def yX6_isLine : MethodName := ⟨RX6, "isLine", "(I)Z"⟩
abbrev cX6_allPosts : ByteArray := prog_8_method_6_code
def yX6_allPosts : MethodName := ⟨RX6, "allPosts", "()I"⟩
abbrev cX6_allLines : ByteArray := prog_8_method_7_code
def yX6_allLines : MethodName := ⟨RX6, "allLines", "()I"⟩
abbrev cX6_farEnd : ByteArray := prog_8_method_8_code
def yX6_farEnd : MethodName := ⟨RX6, "farEnd", "(II)I"⟩
abbrev cX6_lineBetween : ByteArray := prog_8_method_9_code
def yX6_lineBetween : MethodName := ⟨RX6, "lineBetween", "(II)I"⟩
abbrev cX6_mostAtOnePost : ByteArray := prog_8_method_10_code
def yX6_mostAtOnePost : MethodName := ⟨RX6, "mostAtOnePost", "(I)I"⟩
abbrev cX6_leastPostAbove : ByteArray := prog_8_method_11_code
def yX6_leastPostAbove : MethodName := ⟨RX6, "leastPostAbove", "(I)I"⟩
abbrev cX6_postsOf : ByteArray := prog_8_method_12_code
def yX6_postsOf : MethodName := ⟨RX6, "postsOf", "(I)I"⟩
abbrev cX6_linesWithin : ByteArray := prog_8_method_13_code
def yX6_linesWithin : MethodName := ⟨RX6, "linesWithin", "(II)I"⟩
abbrev cX6_crowdedSet : ByteArray := prog_8_method_14_code
def yX6_crowdedSet : MethodName := ⟨RX6, "crowdedSet", "(II)I"⟩
abbrev cX6_joined : ByteArray := prog_8_method_15_code
def yX6_joined : MethodName := ⟨RX6, "joined", "(II)I"⟩
abbrev cX6_neighbours : ByteArray := prog_8_method_16_code
def yX6_neighbours : MethodName := ⟨RX6, "neighbours", "(I)I"⟩
abbrev cX6_onePart : ByteArray := prog_8_method_17_code
def yX6_onePart : MethodName := ⟨RX6, "onePart", "()I"⟩
abbrev cX6_leastOddRound : ByteArray := prog_8_method_18_code
def yX6_leastOddRound : MethodName := ⟨RX6, "leastOddRound", "()I"⟩
def RX7 : String := "LineColours$Search"
def TX7 : u_T := fun k => match k with
  | 0 => ("LineColours$Search", "net", "LLineColours$Network;", true)
  | 1 => ("LineColours$Search", "open", "[I", true)
  | 2 => ("LineColours$Search", "chosen", "[I", true)
  | 3 => ("LineColours$Search", "answer", "[I", true)
  | 4 => ("LineColours$Search", "answerFor", "I", false)
  | 5 => ("LineColours$Search", "hasAnswer", "Z", false)
  | 6 => ("LineColours$Search", "fewestKnown", "I", false)
  | _ => ("LineColours$Search", "dearKnown", "I", false)
def tyX7 : Nat → FieldType := fun k => match k with
  | 0 => .object "LineColours$Network"
  | 1 => .array .int
  | 2 => .array .int
  | 3 => .array .int
  | 4 => .int
  | 5 => .boolean
  | 6 => .int
  | _ => .int
abbrev wsX70 : List Cond := u_ws RX7 TX7 8
theorem nmX7 : ∀ a, a < 8 → ∀ b, b < 8 → a ≠ b → (TX7 a).2.1 ≠ (TX7 b).2.1 := by decide +kernel
theorem tyX7_ok : ∀ k, k < 8 → parseFieldDescriptor (TX7 k).2.2.1 = some (tyX7 k) := by decide +kernel
abbrev cX7_init : ByteArray := prog_9_method_1_code
def yX7_init : MethodName := ⟨RX7, "<init>", "(LLineColours$Network;)V"⟩
abbrev cX7_forget : ByteArray := prog_9_method_2_code
def yX7_forget : MethodName := ⟨RX7, "forget", "()V"⟩
abbrev cX7_forgetAnswer : ByteArray := prog_9_method_3_code
def yX7_forgetAnswer : MethodName := ⟨RX7, "forgetAnswer", "()V"⟩
abbrev cX7_fewest : ByteArray := prog_9_method_4_code
def yX7_fewest : MethodName := ⟨RX7, "fewest", "()I"⟩
abbrev cX7_dearLines : ByteArray := prog_9_method_5_code
def yX7_dearLines : MethodName := ⟨RX7, "dearLines", "()I"⟩
abbrev cX7_canDo : ByteArray := prog_9_method_6_code
def yX7_canDo : MethodName := ⟨RX7, "canDo", "(II)Z"⟩
abbrev cX7_findFirst : ByteArray := prog_9_method_7_code
def yX7_findFirst : MethodName := ⟨RX7, "findFirst", "(I)Z"⟩
abbrev cX7_findListed : ByteArray := prog_9_method_8_code
def yX7_findListed : MethodName := ⟨RX7, "findListed", "([I)Z"⟩
abbrev cX7_openBelow : ByteArray := prog_9_method_9_code
def yX7_openBelow : MethodName := ⟨RX7, "openBelow", "(I)V"⟩
abbrev cX7_openListed : ByteArray := prog_9_method_10_code
def yX7_openListed : MethodName := ⟨RX7, "openListed", "([I)V"⟩
abbrev cX7_findLeast : ByteArray := prog_9_method_11_code
def yX7_findLeast : MethodName := ⟨RX7, "findLeast", "()Z"⟩
abbrev cX7_fixLeast : ByteArray := prog_9_method_12_code
def yX7_fixLeast : MethodName := ⟨RX7, "fixLeast", "(II)V"⟩
abbrev cX7_completeWith : ByteArray := prog_9_method_13_code
def yX7_completeWith : MethodName := ⟨RX7, "completeWith", "(IIII)Z"⟩
abbrev cX7_complete : ByteArray := prog_9_method_14_code
def yX7_complete : MethodName := ⟨RX7, "complete", "(II)Z"⟩
abbrev cX7_hasTwin : ByteArray := prog_9_method_15_code
def yX7_hasTwin : MethodName := ⟨RX7, "hasTwin", "(II)Z"⟩
abbrev cX7_tightest : ByteArray := prog_9_method_16_code
def yX7_tightest : MethodName := ⟨RX7, "tightest", "(I)I"⟩
abbrev cX7_isHopeless : ByteArray := prog_9_method_17_code
def yX7_isHopeless : MethodName := ⟨RX7, "isHopeless", "(I)Z"⟩
abbrev cX7_roomOfColours : ByteArray := prog_9_method_18_code
def yX7_roomOfColours : MethodName := ⟨RX7, "roomOfColours", "(I)I"⟩
abbrev cX7_hasCrampedPost : ByteArray := prog_9_method_19_code
def yX7_hasCrampedPost : MethodName := ⟨RX7, "hasCrampedPost", "(I)Z"⟩
def RX8 : String := "LineColours$Sharing"
def TX8 : u_T := fun k => match k with
  | 0 => ("LineColours$Sharing", "net", "LLineColours$Network;", true)
  | 1 => ("LineColours$Sharing", "groups", "[I", true)
  | _ => ("LineColours$Sharing", "howMany", "[I", true)
def tyX8 : Nat → FieldType := fun k => match k with
  | 0 => .object "LineColours$Network"
  | 1 => .array .int
  | _ => .array .int
abbrev wsX80 : List Cond := u_ws RX8 TX8 3
theorem nmX8 : ∀ a, a < 3 → ∀ b, b < 3 → a ≠ b → (TX8 a).2.1 ≠ (TX8 b).2.1 := by decide +kernel
theorem tyX8_ok : ∀ k, k < 3 → parseFieldDescriptor (TX8 k).2.2.1 = some (tyX8 k) := by decide +kernel
abbrev cX8_init : ByteArray := prog_10_method_1_code
def yX8_init : MethodName := ⟨RX8, "<init>", "(LLineColours$Network;)V"⟩
abbrev cX8_countColourings : ByteArray := prog_10_method_2_code
def yX8_countColourings : MethodName := ⟨RX8, "countColourings", "(I)J"⟩
abbrev cX8_share : ByteArray := prog_10_method_3_code
def yX8_share : MethodName := ⟨RX8, "share", "(II)V"⟩
def RX9 : String := "LineColours$Turning"
def TX9 : u_T := fun k => match k with
  | 0 => ("LineColours$Turning", "net", "LLineColours$Network;", true)
  | 1 => ("LineColours$Turning", "meets", "[I", true)
  | 2 => ("LineColours$Turning", "seen", "[I", true)
  | 3 => ("LineColours$Turning", "edge", "[I", true)
  | 4 => ("LineColours$Turning", "next", "[I", true)
  | 5 => ("LineColours$Turning", "colours", "I", false)
  | _ => ("LineColours$Turning", "kindsFound", "I", false)
def tyX9 : Nat → FieldType := fun k => match k with
  | 0 => .object "LineColours$Network"
  | 1 => .array .int
  | 2 => .array .int
  | 3 => .array .int
  | 4 => .array .int
  | 5 => .int
  | _ => .int
abbrev wsX90 : List Cond := u_ws RX9 TX9 7
theorem nmX9 : ∀ a, a < 7 → ∀ b, b < 7 → a ≠ b → (TX9 a).2.1 ≠ (TX9 b).2.1 := by decide +kernel
theorem tyX9_ok : ∀ k, k < 7 → parseFieldDescriptor (TX9 k).2.2.1 = some (tyX9 k) := by decide +kernel
abbrev cX9_init : ByteArray := prog_11_method_1_code
def yX9_init : MethodName := ⟨RX9, "<init>", "(LLineColours$Network;)V"⟩
abbrev cX9_countKinds : ByteArray := prog_11_method_2_code
def yX9_countKinds : MethodName := ⟨RX9, "countKinds", "(I)I"⟩
abbrev cX9_fewestTurns : ByteArray := prog_11_method_3_code
def yX9_fewestTurns : MethodName := ⟨RX9, "fewestTurns", "([I[II)I"⟩
abbrev cX9_prepare : ByteArray := prog_11_method_4_code
def yX9_prepare : MethodName := ⟨RX9, "prepare", "(I)V"⟩
abbrev cX9_spread : ByteArray := prog_11_method_5_code
def yX9_spread : MethodName := ⟨RX9, "spread", "(I)I"⟩
abbrev cX9_codeOf : ByteArray := prog_11_method_6_code
def yX9_codeOf : MethodName := ⟨RX9, "codeOf", "([I)I"⟩
abbrev cX9_place : ByteArray := prog_11_method_7_code
def yX9_place : MethodName := ⟨RX9, "place", "(II)V"⟩
abbrev cX9_spreadKind : ByteArray := prog_11_method_8_code
def yX9_spreadKind : MethodName := ⟨RX9, "spreadKind", "()V"⟩
abbrev cX9_isSeen : ByteArray := prog_11_method_9_code
def yX9_isSeen : MethodName := ⟨RX9, "isSeen", "(I)Z"⟩
abbrev cX9_mark : ByteArray := prog_11_method_10_code
def yX9_mark : MethodName := ⟨RX9, "mark", "(I)V"⟩
abbrev cX9_advance : ByteArray := prog_11_method_11_code
def yX9_advance : MethodName := ⟨RX9, "advance", "()Z"⟩
abbrev cX9_turnEach : ByteArray := prog_11_method_12_code
def yX9_turnEach : MethodName := ⟨RX9, "turnEach", "(I)V"⟩
abbrev cX9_linesWith : ByteArray := prog_11_method_13_code
def yX9_linesWith : MethodName := ⟨RX9, "linesWith", "(II)I"⟩
abbrev cX9_joinedIn : ByteArray := prog_11_method_14_code
def yX9_joinedIn : MethodName := ⟨RX9, "joinedIn", "(II)I"⟩
def RX10 : String := "LineColours"
def TX10 : u_T := fun k => match k with
  | 0 => ("LineColours", "net", "LLineColours$Network;", true)
  | 1 => ("LineColours", "now", "LLineColours$Colouring;", true)
  | 2 => ("LineColours", "fan", "LLineColours$Fan;", true)
  | 3 => ("LineColours", "grower", "LLineColours$Grower;", true)
  | 4 => ("LineColours", "walk", "LLineColours$ChainWalk;", true)
  | 5 => ("LineColours", "calmer", "LLineColours$Calmer;", true)
  | 6 => ("LineColours", "search", "LLineColours$Search;", true)
  | 7 => ("LineColours", "apart", "LLineColours$Apart;", true)
  | 8 => ("LineColours", "sharing", "LLineColours$Sharing;", true)
  | 9 => ("LineColours", "turning", "LLineColours$Turning;", true)
  | 10 => ("LineColours", "kept", "[I", true)
  | 11 => ("LineColours", "lists", "[I", true)
  | _ => ("LineColours", "anyKept", "Z", false)
def tyX10 : Nat → FieldType := fun k => match k with
  | 0 => .object "LineColours$Network"
  | 1 => .object "LineColours$Colouring"
  | 2 => .object "LineColours$Fan"
  | 3 => .object "LineColours$Grower"
  | 4 => .object "LineColours$ChainWalk"
  | 5 => .object "LineColours$Calmer"
  | 6 => .object "LineColours$Search"
  | 7 => .object "LineColours$Apart"
  | 8 => .object "LineColours$Sharing"
  | 9 => .object "LineColours$Turning"
  | 10 => .array .int
  | 11 => .array .int
  | _ => .boolean
abbrev wsX100 : List Cond := u_ws RX10 TX10 13
theorem nmX10 : ∀ a, a < 13 → ∀ b, b < 13 → a ≠ b → (TX10 a).2.1 ≠ (TX10 b).2.1 := by decide +kernel
theorem tyX10_ok : ∀ k, k < 13 → parseFieldDescriptor (TX10 k).2.2.1 = some (tyX10 k) := by decide +kernel
abbrev cX10_init : ByteArray := prog_1_method_1_code
def yX10_init : MethodName := ⟨RX10, "<init>", "()V"⟩
abbrev cX10_begin : ByteArray := prog_1_method_2_code
def yX10_begin : MethodName := ⟨RX10, "begin", "(I)Z"⟩
abbrev cX10_line : ByteArray := prog_1_method_3_code
def yX10_line : MethodName := ⟨RX10, "line", "(II)I"⟩
abbrev cX10_paint : ByteArray := prog_1_method_4_code
def yX10_paint : MethodName := ⟨RX10, "paint", "(II)Z"⟩
abbrev cX10_bare : ByteArray := prog_1_method_5_code
def yX10_bare : MethodName := ⟨RX10, "bare", "(I)I"⟩
abbrev cX10_turn : ByteArray := prog_1_method_6_code
def yX10_turn : MethodName := ⟨RX10, "turn", "(III)I"⟩
abbrev cX10_swap : ByteArray := prog_1_method_7_code
def yX10_swap : MethodName := ⟨RX10, "swap", "(II)I"⟩
abbrev cX10_grow : ByteArray := prog_1_method_8_code
def yX10_grow : MethodName := ⟨RX10, "grow", "(I)I"⟩
abbrev cX10_growAll : ByteArray := prog_1_method_9_code
def yX10_growAll : MethodName := ⟨RX10, "growAll", "()I"⟩
abbrev cX10_pair : ByteArray := prog_1_method_10_code
def yX10_pair : MethodName := ⟨RX10, "pair", "()I"⟩
abbrev cX10_even : ByteArray := prog_1_method_11_code
def yX10_even : MethodName := ⟨RX10, "even", "()I"⟩
abbrev cX10_take : ByteArray := prog_1_method_12_code
def yX10_take : MethodName := ⟨RX10, "take", "(I)Z"⟩
abbrev cX10_keep : ByteArray := prog_1_method_13_code
def yX10_keep : MethodName := ⟨RX10, "keep", "()Z"⟩
abbrev cX10_back : ByteArray := prog_1_method_14_code
def yX10_back : MethodName := ⟨RX10, "back", "()I"⟩
abbrev cX10_grown : ByteArray := prog_1_method_15_code
def yX10_grown : MethodName := ⟨RX10, "grown", "(I)I"⟩
abbrev cX10_of : ByteArray := prog_1_method_16_code
def yX10_of : MethodName := ⟨RX10, "of", "(II)I"⟩
abbrev cX10_clash : ByteArray := prog_1_method_17_code
def yX10_clash : MethodName := ⟨RX10, "clash", "(II)I"⟩
abbrev cX10_post : ByteArray := prog_1_method_18_code
def yX10_post : MethodName := ⟨RX10, "post", "(II)I"⟩
abbrev cX10_colour : ByteArray := prog_1_method_19_code
def yX10_colour : MethodName := ⟨RX10, "colour", "(II)I"⟩
abbrev cX10_chain : ByteArray := prog_1_method_20_code
def yX10_chain : MethodName := ⟨RX10, "chain", "(IIII)I"⟩
abbrev cX10_idle : ByteArray := prog_1_method_21_code
def yX10_idle : MethodName := ⟨RX10, "idle", "(I)I"⟩
abbrev cX10_calmer : ByteArray := prog_1_method_22_code
def yX10_calmer : MethodName := ⟨RX10, "calmer", "(I)I"⟩
abbrev cX10_fan : ByteArray := prog_1_method_23_code
def yX10_fan : MethodName := ⟨RX10, "fan", "(III)I"⟩
abbrev cX10_index : ByteArray := prog_1_method_24_code
def yX10_index : MethodName := ⟨RX10, "index", "()I"⟩
abbrev cX10_first : ByteArray := prog_1_method_25_code
def yX10_first : MethodName := ⟨RX10, "first", "(II)I"⟩
abbrev cX10_overfull : ByteArray := prog_1_method_26_code
def yX10_overfull : MethodName := ⟨RX10, "overfull", "(I)I"⟩
abbrev cX10_refused : ByteArray := prog_1_method_27_code
def yX10_refused : MethodName := ⟨RX10, "refused", "(II)I"⟩
abbrev cX10_list : ByteArray := prog_1_method_28_code
def yX10_list : MethodName := ⟨RX10, "list", "(II)I"⟩
abbrev cX10_listed : ByteArray := prog_1_method_29_code
def yX10_listed : MethodName := ⟨RX10, "listed", "(I)I"⟩
abbrev cX10_free : ByteArray := prog_1_method_30_code
def yX10_free : MethodName := ⟨RX10, "free", "(I)I"⟩
abbrev cX10_longest : ByteArray := prog_1_method_31_code
def yX10_longest : MethodName := ⟨RX10, "longest", "(I)I"⟩
abbrev cX10_sets : ByteArray := prog_1_method_32_code
def yX10_sets : MethodName := ⟨RX10, "sets", "(I)I"⟩
abbrev cX10_critical : ByteArray := prog_1_method_33_code
def yX10_critical : MethodName := ⟨RX10, "critical", "()I"⟩
abbrev cX10_kinds : ByteArray := prog_1_method_34_code
def yX10_kinds : MethodName := ⟨RX10, "kinds", "(I)I"⟩
abbrev cX10_turns : ByteArray := prog_1_method_35_code
def yX10_turns : MethodName := ⟨RX10, "turns", "(I)I"⟩
abbrev cX10_chains : ByteArray := prog_1_method_36_code
def yX10_chains : MethodName := ⟨RX10, "chains", "(II)I"⟩
abbrev cX10_sides : ByteArray := prog_1_method_37_code
def yX10_sides : MethodName := ⟨RX10, "sides", "(I)I"⟩
abbrev cX10_apart : ByteArray := prog_1_method_38_code
def yX10_apart : MethodName := ⟨RX10, "apart", "(I)I"⟩
abbrev cX10_ways : ByteArray := prog_1_method_39_code
def yX10_ways : MethodName := ⟨RX10, "ways", "(I)J"⟩
abbrev cX10_unlike : ByteArray := prog_1_method_40_code
def yX10_unlike : MethodName := ⟨RX10, "unlike", "(I)I"⟩
abbrev cX10_count : ByteArray := prog_1_method_41_code
def yX10_count : MethodName := ⟨RX10, "count", "(I)I"⟩
abbrev cX10_isFew : ByteArray := prog_1_method_42_code
def yX10_isFew : MethodName := ⟨RX10, "isFew", "(I)Z"⟩
abbrev cX10_greatestBit : ByteArray := prog_1_method_43_code
def yX10_greatestBit : MethodName := ⟨RX10, "greatestBit", "(I)I"⟩
abbrev cX10_idleOf : ByteArray := prog_1_method_44_code
def yX10_idleOf : MethodName := ⟨RX10, "idleOf", "(I)I"⟩
abbrev cX10_countUnlike : ByteArray := prog_1_method_45_code
def yX10_countUnlike : MethodName := ⟨RX10, "countUnlike", "()I"⟩
abbrev cX10_isLikeKept : ByteArray := prog_1_method_46_code
def yX10_isLikeKept : MethodName := ⟨RX10, "isLikeKept", "()Z"⟩
abbrev cX10_areAllBelow : ByteArray := prog_1_method_47_code
def yX10_areAllBelow : MethodName := ⟨RX10, "areAllBelow", "([II)Z"⟩
abbrev cX10_countEasy : ByteArray := prog_1_method_48_code
def yX10_countEasy : MethodName := ⟨RX10, "countEasy", "()I"⟩
def RX11 : String := "LineColoursModel"
def TX11 : u_T := fun k => match k with
  | 0 => ("LineColoursModel", "thrown", "I", false)
  | 1 => ("LineColoursModel", "n", "I", false)
  | 2 => ("LineColoursModel", "many", "I", false)
  | 3 => ("LineColoursModel", "lineA", "[I", true)
  | 4 => ("LineColoursModel", "lineB", "[I", true)
  | 5 => ("LineColoursModel", "has0", "[I", true)
  | 6 => ("LineColoursModel", "lists", "[I", true)
  | 7 => ("LineColoursModel", "kept", "[I", true)
  | 8 => ("LineColoursModel", "isKept", "Z", false)
  | 9 => ("LineColoursModel", "chainPosts", "I", false)
  | 10 => ("LineColoursModel", "fanRow", "[I", true)
  | 11 => ("LineColoursModel", "fanMany", "I", false)
  | 12 => ("LineColoursModel", "isGrown", "Z", false)
  | 13 => ("LineColoursModel", "grownBy", "[I", true)
  | 14 => ("LineColoursModel", "side", "[I", true)
  | 15 => ("LineColoursModel", "far", "[I", true)
  | 16 => ("LineColoursModel", "allow", "[I", true)
  | 17 => ("LineColoursModel", "areAlike", "Z", false)
  | 18 => ("LineColoursModel", "pick", "[I", true)
  | 19 => ("LineColoursModel", "used", "[I", true)
  | 20 => ("LineColoursModel", "goLine", "[I", true)
  | 21 => ("LineColoursModel", "goLeft", "[I", true)
  | 22 => ("LineColoursModel", "partPosts", "[I", true)
  | 23 => ("LineColoursModel", "partMany", "I", false)
  | 24 => ("LineColoursModel", "part", "[I", true)
  | 25 => ("LineColoursModel", "parted", "[J", true)
  | 26 => ("LineColoursModel", "trial", "[I", true)
  | 27 => ("LineColoursModel", "kindOf", "[I", true)
  | 28 => ("LineColoursModel", "queue", "[I", true)
  | 29 => ("LineColoursModel", "mostApart", "[I", true)
  | _ => ("LineColoursModel", "setsBy", "[I", true)
def tyX11 : Nat → FieldType := fun k => match k with
  | 0 => .int
  | 1 => .int
  | 2 => .int
  | 3 => .array .int
  | 4 => .array .int
  | 5 => .array .int
  | 6 => .array .int
  | 7 => .array .int
  | 8 => .boolean
  | 9 => .int
  | 10 => .array .int
  | 11 => .int
  | 12 => .boolean
  | 13 => .array .int
  | 14 => .array .int
  | 15 => .array .int
  | 16 => .array .int
  | 17 => .boolean
  | 18 => .array .int
  | 19 => .array .int
  | 20 => .array .int
  | 21 => .array .int
  | 22 => .array .int
  | 23 => .int
  | 24 => .array .int
  | 25 => .array .long
  | 26 => .array .int
  | 27 => .array .int
  | 28 => .array .int
  | 29 => .array .int
  | _ => .array .int
abbrev wsX110 : List Cond := u_ws RX11 TX11 31
theorem nmX11 : ∀ a, a < 31 → ∀ b, b < 31 → a ≠ b → (TX11 a).2.1 ≠ (TX11 b).2.1 := by decide +kernel
theorem tyX11_ok : ∀ k, k < 31 → parseFieldDescriptor (TX11 k).2.2.1 = some (tyX11 k) := by decide +kernel
abbrev cX11_in : ByteArray := prog_13_method_2_code
def yX11_in : MethodName := ⟨RX11, "in", "(III)Z"⟩
abbrev cX11_has : ByteArray := prog_13_method_3_code
def yX11_has : MethodName := ⟨RX11, "has", "(II)Z"⟩
abbrev cX11_bitsOf : ByteArray := prog_13_method_4_code
def yX11_bitsOf : MethodName := ⟨RX11, "bitsOf", "(I)I"⟩
abbrev cX11_lowestOf : ByteArray := prog_13_method_5_code
def yX11_lowestOf : MethodName := ⟨RX11, "lowestOf", "(I)I"⟩
abbrev cX11_init : ByteArray := prog_13_method_6_code
def yX11_init : MethodName := ⟨RX11, "<init>", "()V"⟩
abbrev cX11_isPost : ByteArray := prog_13_method_7_code
def yX11_isPost : MethodName := ⟨RX11, "isPost", "(I)Z"⟩
abbrev cX11_isLine : ByteArray := prog_13_method_8_code
def yX11_isLine : MethodName := ⟨RX11, "isLine", "(I)Z"⟩
abbrev cX11_allLines : ByteArray := prog_13_method_9_code
def yX11_allLines : MethodName := ⟨RX11, "allLines", "()I"⟩
abbrev cX11_allPosts : ByteArray := prog_13_method_10_code
def yX11_allPosts : MethodName := ⟨RX11, "allPosts", "()I"⟩
abbrev cX11_begin : ByteArray := prog_13_method_11_code
def yX11_begin : MethodName := ⟨RX11, "begin", "(I)Z"⟩
abbrev cX11_lineOf : ByteArray := prog_13_method_12_code
def yX11_lineOf : MethodName := ⟨RX11, "lineOf", "(II)I"⟩
abbrev cX11_isAt : ByteArray := prog_13_method_13_code
def yX11_isAt : MethodName := ⟨RX11, "isAt", "(II)Z"⟩
abbrev cX11_otherEnd : ByteArray := prog_13_method_14_code
def yX11_otherEnd : MethodName := ⟨RX11, "otherEnd", "(II)I"⟩
abbrev cX11_line : ByteArray := prog_13_method_15_code
def yX11_line : MethodName := ⟨RX11, "line", "(II)I"⟩
abbrev cX11_linesAt : ByteArray := prog_13_method_16_code
def yX11_linesAt : MethodName := ⟨RX11, "linesAt", "(II)I"⟩
abbrev cX11_degreeOf : ByteArray := prog_13_method_17_code
def yX11_degreeOf : MethodName := ⟨RX11, "degreeOf", "(I)I"⟩
abbrev cX11_degree : ByteArray := prog_13_method_18_code
def yX11_degree : MethodName := ⟨RX11, "degree", "()I"⟩
abbrev cX11_isColour : ByteArray := prog_13_method_19_code
def yX11_isColour : MethodName := ⟨RX11, "isColour", "(I)Z"⟩
abbrev cX11_areColours : ByteArray := prog_13_method_20_code
def yX11_areColours : MethodName := ⟨RX11, "areColours", "(II)Z"⟩
abbrev cX11_isChain : ByteArray := prog_13_method_21_code
def yX11_isChain : MethodName := ⟨RX11, "isChain", "(III)Z"⟩
abbrev cX11_usedAt : ByteArray := prog_13_method_22_code
def yX11_usedAt : MethodName := ⟨RX11, "usedAt", "(I)I"⟩
abbrev cX11_lineWith : ByteArray := prog_13_method_23_code
def yX11_lineWith : MethodName := ⟨RX11, "lineWith", "(II)I"⟩
abbrev cX11_isFreeAt : ByteArray := prog_13_method_24_code
def yX11_isFreeAt : MethodName := ⟨RX11, "isFreeAt", "(II)Z"⟩
abbrev cX11_leastFreeAt : ByteArray := prog_13_method_25_code
def yX11_leastFreeAt : MethodName := ⟨RX11, "leastFreeAt", "(I)I"⟩
abbrev cX11_paint : ByteArray := prog_13_method_26_code
def yX11_paint : MethodName := ⟨RX11, "paint", "(II)Z"⟩
abbrev cX11_bare : ByteArray := prog_13_method_27_code
def yX11_bare : MethodName := ⟨RX11, "bare", "(I)I"⟩
abbrev cX11_chainIn : ByteArray := prog_13_method_28_code
def yX11_chainIn : MethodName := ⟨RX11, "chainIn", "([IIII)I"⟩
abbrev cX11_flips : ByteArray := prog_13_method_29_code
def yX11_flips : MethodName := ⟨RX11, "flips", "([IIII)V"⟩
abbrev cX11_manyWith : ByteArray := prog_13_method_30_code
def yX11_manyWith : MethodName := ⟨RX11, "manyWith", "(II)I"⟩
abbrev cX11_turn : ByteArray := prog_13_method_31_code
def yX11_turn : MethodName := ⟨RX11, "turn", "(III)I"⟩
abbrev cX11_chain : ByteArray := prog_13_method_32_code
def yX11_chain : MethodName := ⟨RX11, "chain", "(IIII)I"⟩
abbrev cX11_chains : ByteArray := prog_13_method_33_code
def yX11_chains : MethodName := ⟨RX11, "chains", "(II)I"⟩
abbrev cX11_longest : ByteArray := prog_13_method_34_code
def yX11_longest : MethodName := ⟨RX11, "longest", "(I)I"⟩
abbrev cX11_swap : ByteArray := prog_13_method_35_code
def yX11_swap : MethodName := ⟨RX11, "swap", "(II)I"⟩
abbrev cX11_swaps : ByteArray := prog_13_method_36_code
def yX11_swaps : MethodName := ⟨RX11, "swaps", "(II)I"⟩
abbrev cX11_laysFan : ByteArray := prog_13_method_37_code
def yX11_laysFan : MethodName := ⟨RX11, "laysFan", "(II)V"⟩
abbrev cX11_fan : ByteArray := prog_13_method_38_code
def yX11_fan : MethodName := ⟨RX11, "fan", "(III)I"⟩
abbrev cX11_grows : ByteArray := prog_13_method_39_code
def yX11_grows : MethodName := ⟨RX11, "grows", "(I)I"⟩
abbrev cX11_grow : ByteArray := prog_13_method_40_code
def yX11_grow : MethodName := ⟨RX11, "grow", "(I)I"⟩
abbrev cX11_growAll : ByteArray := prog_13_method_41_code
def yX11_growAll : MethodName := ⟨RX11, "growAll", "()I"⟩
abbrev cX11_grown : ByteArray := prog_13_method_42_code
def yX11_grown : MethodName := ⟨RX11, "grown", "(I)I"⟩
abbrev cX11_laysSides : ByteArray := prog_13_method_43_code
def yX11_laysSides : MethodName := ⟨RX11, "laysSides", "()Z"⟩
abbrev cX11_oddRound : ByteArray := prog_13_method_44_code
def yX11_oddRound : MethodName := ⟨RX11, "oddRound", "()I"⟩
abbrev cX11_sides : ByteArray := prog_13_method_45_code
def yX11_sides : MethodName := ⟨RX11, "sides", "(I)I"⟩
abbrev cX11_pair : ByteArray := prog_13_method_46_code
def yX11_pair : MethodName := ⟨RX11, "pair", "()I"⟩
abbrev cX11_greatestUsed : ByteArray := prog_13_method_47_code
def yX11_greatestUsed : MethodName := ⟨RX11, "greatestUsed", "()I"⟩
abbrev cX11_longerChain : ByteArray := prog_13_method_48_code
def yX11_longerChain : MethodName := ⟨RX11, "longerChain", "(II)I"⟩
abbrev cX11_evens : ByteArray := prog_13_method_49_code
def yX11_evens : MethodName := ⟨RX11, "evens", "()Z"⟩
abbrev cX11_even : ByteArray := prog_13_method_50_code
def yX11_even : MethodName := ⟨RX11, "even", "()I"⟩
abbrev cX11_waysOf : ByteArray := prog_13_method_51_code
def yX11_waysOf : MethodName := ⟨RX11, "waysOf", "(I)I"⟩
abbrev cX11_picks : ByteArray := prog_13_method_52_code
def yX11_picks : MethodName := ⟨RX11, "picks", "(II)V"⟩
abbrev cX11_fewestWays : ByteArray := prog_13_method_53_code
def yX11_fewestWays : MethodName := ⟨RX11, "fewestWays", "(I)I"⟩
abbrev cX11_laysParts : ByteArray := prog_13_method_54_code
def yX11_laysParts : MethodName := ⟨RX11, "laysParts", "(I)V"⟩
abbrev cX11_triesOf : ByteArray := prog_13_method_55_code
def yX11_triesOf : MethodName := ⟨RX11, "triesOf", "(I)I"⟩
abbrev cX11_canBeAt : ByteArray := prog_13_method_56_code
def yX11_canBeAt : MethodName := ⟨RX11, "canBeAt", "(II)Z"⟩
abbrev cX11_canBeEnough : ByteArray := prog_13_method_57_code
def yX11_canBeEnough : MethodName := ⟨RX11, "canBeEnough", "(I)Z"⟩
abbrev cX11_canGoOn : ByteArray := prog_13_method_58_code
def yX11_canGoOn : MethodName := ⟨RX11, "canGoOn", "(I)Z"⟩
abbrev cX11_picksFirst : ByteArray := prog_13_method_59_code
def yX11_picksFirst : MethodName := ⟨RX11, "picksFirst", "(I)Z"⟩
abbrev cX11_linesWithin : ByteArray := prog_13_method_60_code
def yX11_linesWithin : MethodName := ⟨RX11, "linesWithin", "(I)I"⟩
abbrev cX11_fullSet : ByteArray := prog_13_method_61_code
def yX11_fullSet : MethodName := ⟨RX11, "fullSet", "(I)I"⟩
abbrev cX11_laysFirst : ByteArray := prog_13_method_62_code
def yX11_laysFirst : MethodName := ⟨RX11, "laysFirst", "(II)Z"⟩
abbrev cX11_indexOf : ByteArray := prog_13_method_63_code
def yX11_indexOf : MethodName := ⟨RX11, "indexOf", "(I)I"⟩
abbrev cX11_index : ByteArray := prog_13_method_64_code
def yX11_index : MethodName := ⟨RX11, "index", "()I"⟩
abbrev cX11_first : ByteArray := prog_13_method_65_code
def yX11_first : MethodName := ⟨RX11, "first", "(II)I"⟩
abbrev cX11_take : ByteArray := prog_13_method_66_code
def yX11_take : MethodName := ⟨RX11, "take", "(I)Z"⟩
abbrev cX11_critical : ByteArray := prog_13_method_67_code
def yX11_critical : MethodName := ⟨RX11, "critical", "()I"⟩
abbrev cX11_list : ByteArray := prog_13_method_68_code
def yX11_list : MethodName := ⟨RX11, "list", "(II)I"⟩
abbrev cX11_listed : ByteArray := prog_13_method_69_code
def yX11_listed : MethodName := ⟨RX11, "listed", "(I)I"⟩
abbrev cX11_overfull : ByteArray := prog_13_method_70_code
def yX11_overfull : MethodName := ⟨RX11, "overfull", "(I)I"⟩
abbrev cX11_refused : ByteArray := prog_13_method_71_code
def yX11_refused : MethodName := ⟨RX11, "refused", "(II)I"⟩
abbrev cX11_doMeet : ByteArray := prog_13_method_72_code
def yX11_doMeet : MethodName := ⟨RX11, "doMeet", "(II)Z"⟩
abbrev cX11_canBePart : ByteArray := prog_13_method_73_code
def yX11_canBePart : MethodName := ⟨RX11, "canBePart", "(I)Z"⟩
abbrev cX11_partsAhead : ByteArray := prog_13_method_74_code
def yX11_partsAhead : MethodName := ⟨RX11, "partsAhead", "(I)I"⟩
abbrev cX11_laysParted : ByteArray := prog_13_method_75_code
def yX11_laysParted : MethodName := ⟨RX11, "laysParted", "()V"⟩
abbrev cX11_ways : ByteArray := prog_13_method_76_code
def yX11_ways : MethodName := ⟨RX11, "ways", "(I)J"⟩
abbrev cX11_laysTrial : ByteArray := prog_13_method_77_code
def yX11_laysTrial : MethodName := ⟨RX11, "laysTrial", "(II)V"⟩
abbrev cX11_codeOf : ByteArray := prog_13_method_78_code
def yX11_codeOf : MethodName := ⟨RX11, "codeOf", "([II)I"⟩
abbrev cX11_codes : ByteArray := prog_13_method_79_code
def yX11_codes : MethodName := ⟨RX11, "codes", "(I)I"⟩
abbrev cX11_isTrialFit : ByteArray := prog_13_method_80_code
def yX11_isTrialFit : MethodName := ⟨RX11, "isTrialFit", "()Z"⟩
abbrev cX11_spreads : ByteArray := prog_13_method_81_code
def yX11_spreads : MethodName := ⟨RX11, "spreads", "(III)V"⟩
abbrev cX11_kinds : ByteArray := prog_13_method_82_code
def yX11_kinds : MethodName := ⟨RX11, "kinds", "(I)I"⟩
abbrev cX11_areBelow : ByteArray := prog_13_method_83_code
def yX11_areBelow : MethodName := ⟨RX11, "areBelow", "([II)Z"⟩
abbrev cX11_turns : ByteArray := prog_13_method_84_code
def yX11_turns : MethodName := ⟨RX11, "turns", "(I)I"⟩
abbrev cX11_apartBy : ByteArray := prog_13_method_85_code
def yX11_apartBy : MethodName := ⟨RX11, "apartBy", "(II)I"⟩
abbrev cX11_without : ByteArray := prog_13_method_86_code
def yX11_without : MethodName := ⟨RX11, "without", "(II)I"⟩
abbrev cX11_areThere : ByteArray := prog_13_method_87_code
def yX11_areThere : MethodName := ⟨RX11, "areThere", "(II)Z"⟩
abbrev cX11_laysApart : ByteArray := prog_13_method_88_code
def yX11_laysApart : MethodName := ⟨RX11, "laysApart", "()V"⟩
abbrev cX11_apart : ByteArray := prog_13_method_89_code
def yX11_apart : MethodName := ⟨RX11, "apart", "(I)I"⟩
abbrev cX11_sets : ByteArray := prog_13_method_90_code
def yX11_sets : MethodName := ⟨RX11, "sets", "(I)I"⟩
abbrev cX11_of : ByteArray := prog_13_method_91_code
def yX11_of : MethodName := ⟨RX11, "of", "(II)I"⟩
abbrev cX11_clash : ByteArray := prog_13_method_92_code
def yX11_clash : MethodName := ⟨RX11, "clash", "(II)I"⟩
abbrev cX11_post : ByteArray := prog_13_method_93_code
def yX11_post : MethodName := ⟨RX11, "post", "(II)I"⟩
abbrev cX11_colour : ByteArray := prog_13_method_94_code
def yX11_colour : MethodName := ⟨RX11, "colour", "(II)I"⟩
abbrev cX11_free : ByteArray := prog_13_method_95_code
def yX11_free : MethodName := ⟨RX11, "free", "(I)I"⟩
abbrev cX11_idleAt : ByteArray := prog_13_method_96_code
def yX11_idleAt : MethodName := ⟨RX11, "idleAt", "(I)I"⟩
abbrev cX11_idleAll : ByteArray := prog_13_method_97_code
def yX11_idleAll : MethodName := ⟨RX11, "idleAll", "()I"⟩
abbrev cX11_idle : ByteArray := prog_13_method_98_code
def yX11_idle : MethodName := ⟨RX11, "idle", "(I)I"⟩
abbrev cX11_calmer : ByteArray := prog_13_method_99_code
def yX11_calmer : MethodName := ⟨RX11, "calmer", "(I)I"⟩
abbrev cX11_keep : ByteArray := prog_13_method_100_code
def yX11_keep : MethodName := ⟨RX11, "keep", "()Z"⟩
abbrev cX11_unlikeMany : ByteArray := prog_13_method_101_code
def yX11_unlikeMany : MethodName := ⟨RX11, "unlikeMany", "()I"⟩
abbrev cX11_back : ByteArray := prog_13_method_102_code
def yX11_back : MethodName := ⟨RX11, "back", "()I"⟩
abbrev cX11_areLike : ByteArray := prog_13_method_103_code
def yX11_areLike : MethodName := ⟨RX11, "areLike", "()Z"⟩
abbrev cX11_unlike : ByteArray := prog_13_method_104_code
def yX11_unlike : MethodName := ⟨RX11, "unlike", "(I)I"⟩
abbrev cX11_bareMany : ByteArray := prog_13_method_105_code
def yX11_bareMany : MethodName := ⟨RX11, "bareMany", "()I"⟩
abbrev cX11_usedColours : ByteArray := prog_13_method_106_code
def yX11_usedColours : MethodName := ⟨RX11, "usedColours", "()I"⟩
abbrev cX11_uneven : ByteArray := prog_13_method_107_code
def yX11_uneven : MethodName := ⟨RX11, "uneven", "()I"⟩
abbrev cX11_easyMany : ByteArray := prog_13_method_108_code
def yX11_easyMany : MethodName := ⟨RX11, "easyMany", "()I"⟩
abbrev cX11_count : ByteArray := prog_13_method_109_code
def yX11_count : MethodName := ⟨RX11, "count", "(I)I"⟩
def RJ6 : String := "java/lang/Integer"
def TJ6 : u_T := fun k => match k with
  | _ => ("", "", "", false)
def tyJ6 : Nat → FieldType := fun k => match k with
  | _ => .int
abbrev wsJ60 : List Cond := u_ws RJ6 TJ6 0
theorem nmJ6 : ∀ a, a < 0 → ∀ b, b < 0 → a ≠ b → (TJ6 a).2.1 ≠ (TJ6 b).2.1 := by decide +kernel
theorem tyJ6_ok : ∀ k, k < 0 → parseFieldDescriptor (TJ6 k).2.2.1 = some (tyJ6 k) := by decide +kernel
abbrev cJ6_compare_7cf53 : ByteArray := prog_14_method_40_code
def yJ6_compare_7cf53 : MethodName := ⟨RJ6, "compare", "(II)I"⟩
abbrev cJ6_lowestOneBit_0f7a4 : ByteArray := prog_14_method_46_code
def yJ6_lowestOneBit_0f7a4 : MethodName := ⟨RJ6, "lowestOneBit", "(I)I"⟩
abbrev cJ6_numberOfLeadingZeros_0f7a4 : ByteArray := prog_14_method_47_code
def yJ6_numberOfLeadingZeros_0f7a4 : MethodName := ⟨RJ6, "numberOfLeadingZeros", "(I)I"⟩
abbrev cJ6_numberOfTrailingZeros_0f7a4 : ByteArray := prog_14_method_48_code
def yJ6_numberOfTrailingZeros_0f7a4 : MethodName := ⟨RJ6, "numberOfTrailingZeros", "(I)I"⟩
abbrev cJ6_bitCount_0f7a4 : ByteArray := prog_14_method_49_code
def yJ6_bitCount_0f7a4 : MethodName := ⟨RJ6, "bitCount", "(I)I"⟩
def RJ9 : String := "java/lang/Math"
def TJ9 : u_T := fun k => match k with
  | _ => ("", "", "", false)
def tyJ9 : Nat → FieldType := fun k => match k with
  | _ => .int
abbrev wsJ90 : List Cond := u_ws RJ9 TJ9 0
theorem nmJ9 : ∀ a, a < 0 → ∀ b, b < 0 → a ≠ b → (TJ9 a).2.1 ≠ (TJ9 b).2.1 := by decide +kernel
theorem tyJ9_ok : ∀ k, k < 0 → parseFieldDescriptor (TJ9 k).2.2.1 = some (tyJ9 k) := by decide +kernel
abbrev cJ9_max_7cf53 : ByteArray := prog_15_method_65_code
def yJ9_max_7cf53 : MethodName := ⟨RJ9, "max", "(II)I"⟩
abbrev cJ9_min_7cf53 : ByteArray := prog_15_method_69_code
def yJ9_min_7cf53 : MethodName := ⟨RJ9, "min", "(II)I"⟩
def RJ10 : String := "java/lang/System"
def TJ10 : u_T := fun k => match k with
  | _ => ("", "", "", false)
def tyJ10 : Nat → FieldType := fun k => match k with
  | _ => .int
abbrev wsJ100 : List Cond := u_ws RJ10 TJ10 0
theorem nmJ10 : ∀ a, a < 0 → ∀ b, b < 0 → a ≠ b → (TJ10 a).2.1 ≠ (TJ10 b).2.1 := by decide +kernel
theorem tyJ10_ok : ∀ k, k < 0 → parseFieldDescriptor (TJ10 k).2.2.1 = some (tyJ10 k) := by decide +kernel
def RJ7 : String := "java/util/Arrays"
def TJ7 : u_T := fun k => match k with
  | _ => ("", "", "", false)
def tyJ7 : Nat → FieldType := fun k => match k with
  | _ => .int
abbrev wsJ70 : List Cond := u_ws RJ7 TJ7 0
theorem nmJ7 : ∀ a, a < 0 → ∀ b, b < 0 → a ≠ b → (TJ7 a).2.1 ≠ (TJ7 b).2.1 := by decide +kernel
theorem tyJ7_ok : ∀ k, k < 0 → parseFieldDescriptor (TJ7 k).2.2.1 = some (tyJ7 k) := by decide +kernel
abbrev cJ7_fill_53178 : ByteArray := prog_17_method_103_code
def yJ7_fill_53178 : MethodName := ⟨RJ7, "fill", "([II)V"⟩
def RL : String := "LineColoursLaw"
abbrev cL_law : ByteArray := code
def yL_law : MethodName := ⟨RL, "law", "([I)Z"⟩
abbrev vwCl : List vw_C := [(RX0, TX0, 3), (RX1, TX1, 5), (RX2, TX2, 2), (RX3, TX3, 3), (RX4, TX4, 4), (RX5, TX5, 5), (RX6, TX6, 8), (RX7, TX7, 8), (RX8, TX8, 3), (RX9, TX9, 7), (RX10, TX10, 13), (RX11, TX11, 31)]
end
section
/-! the layer of this claim: worlds of a fixed shape; KK: a method's body at a pc; kk_M: a method's contract -/
abbrev kk_St : Type := (Nat → Nat → Int32) × (Nat → Int64)
abbrev kk_Fd : Type := Option Nat
abbrev kk_Sh : Type := (Bool × Nat) ⊕ (Nat × List kk_Fd)
abbrev kk_Z : Type := Launch × (Nat → Nat) × va_G × ClassId × ClassId
def kk_fv (q : Nat → Nat) (f : Nat → Int32) (i : Nat) (d : kk_Fd) : Value := match d with
  | some j => .ref (q j)
  | none => .int (f i)
def kk_fvs (q : Nat → Nat) (f : Nat → Int32) : Nat → List kk_Fd → List Value
  | _, [] => []
  | i, d :: ds => kk_fv q f i d :: kk_fvs q f (i + 1) ds
def kk_ent (Z : kk_Z) (σ : kk_St) (k : Nat) (s : kk_Sh) : Nat × va_E := match s with
  | .inl (false, n) => (Z.2.1 k, .inl (Z.2.2.2.1, n, .inl (σ.1 k)))
  | .inl (true, n) => (Z.2.1 k, .inl (Z.2.2.2.2, n, .inr (.inl σ.2)))
  | .inr (ci, fs) => (Z.2.1 k, .inr (ci, kk_fvs Z.2.1 (σ.1 k) 0 fs))
def kk_ws (Z : kk_Z) (sh : List kk_Sh) (σ : kk_St) : va_W := sh.mapIdx (fun k s => kk_ent Z σ k s)
def kk_wr (σ : kk_St) (k i : Nat) (x : Int32) : kk_St := (fun c => if c = k then upd (σ.1 k) i x else σ.1 c, σ.2)
def kk_wrL (σ : kk_St) (i : Nat) (x : Int64) : kk_St := (σ.1, vp_updL σ.2 i x)
def kk_wrF (σ : kk_St) (k : Nat) (f : Nat → Int32) : kk_St := (fun c => if c = k then f else σ.1 c, σ.2)
abbrev kk_rd (σ : kk_St) (k : Nat) (i : Int32) : Int32 := σ.1 k i.toNatClampNeg
theorem kk_fvs_get (q : Nat → Nat) (f : Nat → Int32) : ∀ (fs : List kk_Fd) (i j : Nat), (kk_fvs q f i fs)[j]? = (fs[j]?).map (kk_fv q f (i + j))
  | [], i, j => by simp [kk_fvs]
  | d :: ds, i, 0 => by simp [kk_fvs]
  | d :: ds, i, j + 1 => by
    simp only [kk_fvs, List.getElem?_cons_succ]
    rw [kk_fvs_get q f ds (i + 1) j]
    congr 2
    omega
theorem kk_fvs_len (q : Nat → Nat) (f : Nat → Int32) : ∀ (fs : List kk_Fd) (i : Nat), (kk_fvs q f i fs).length = fs.length
  | [], i => rfl
  | d :: ds, i => by simp [kk_fvs, kk_fvs_len q f ds (i + 1)]
theorem kk_fvs_set (q : Nat → Nat) (f : Nat → Int32) {fs : List kk_Fd} {j : Nat} (x : Int32) (h : fs[j]? = some none) : (kk_fvs q f 0 fs).set j (.int x) = kk_fvs q (upd f j x) 0 fs := by
  apply List.ext_getElem?
  intro t
  rw [kk_fvs_get]
  by_cases ht : j = t
  · subst ht
    have hl : j < (kk_fvs q f 0 fs).length := by rw [kk_fvs_len]; exact (List.getElem?_eq_some_iff.mp h).1
    rw [List.getElem?_set_self hl, h]
    simp [kk_fv, upd]
  · rw [List.getElem?_set_ne ht, kk_fvs_get]
    cases fs[t]? with
    | none => rfl
    | some d =>
      cases d with
      | none => simp [kk_fv, upd, Ne.symm ht]
      | some c => rfl
theorem kk_ws_get {Z : kk_Z} {sh : List kk_Sh} {σ : kk_St} {k : Nat} {s : kk_Sh} (h : sh[k]? = some s) : (kk_ws Z sh σ)[k]? = some (kk_ent Z σ k s) := by
  simp [kk_ws, List.getElem?_mapIdx, h]
theorem kk_ws_len {Z : kk_Z} {sh : List kk_Sh} {σ : kk_St} : (kk_ws Z sh σ).length = sh.length := by simp [kk_ws]
theorem kk_ws_setA {Z : kk_Z} {sh : List kk_Sh} {σ : kk_St} {k n : Nat} (h : sh[k]? = some (.inl (false, n))) (f : Nat → Int32) : (kk_ws Z sh σ).set k (Z.2.1 k, .inl (Z.2.2.2.1, n, .inl f)) = kk_ws Z sh (kk_wrF σ k f) := by
  apply List.ext_getElem?
  intro t
  by_cases ht : k = t
  · subst ht
    have hl : k < (kk_ws Z sh σ).length := by rw [kk_ws_len]; exact (List.getElem?_eq_some_iff.mp h).1
    rw [List.getElem?_set_self hl, kk_ws_get h]
    simp [kk_ent, kk_wrF]
  · rw [List.getElem?_set_ne ht]
    simp only [kk_ws, List.getElem?_mapIdx]
    cases sh[t]? with
    | none => rfl
    | some s => simp [kk_ent, kk_wrF, Ne.symm ht]
theorem kk_wr_F (σ : kk_St) (k i : Nat) (x : Int32) : kk_wrF σ k (upd (σ.1 k) i x) = kk_wr σ k i x := rfl
theorem kk_ws_setL {Z : kk_Z} {sh : List kk_Sh} {σ : kk_St} {k n : Nat} (h : sh[k]? = some (.inl (true, n))) (hu : ∀ t m, sh[t]? = some (.inl (true, m)) → t = k) (f : Nat → Int64) : (kk_ws Z sh σ).set k (Z.2.1 k, .inl (Z.2.2.2.2, n, .inr (.inl f))) = kk_ws Z sh (σ.1, f) := by
  apply List.ext_getElem?
  intro t
  by_cases ht : k = t
  · subst ht
    have hl : k < (kk_ws Z sh σ).length := by rw [kk_ws_len]; exact (List.getElem?_eq_some_iff.mp h).1
    rw [List.getElem?_set_self hl, kk_ws_get h]
    simp [kk_ent]
  · rw [List.getElem?_set_ne ht]
    simp only [kk_ws, List.getElem?_mapIdx]
    cases hs : sh[t]? with
    | none => rfl
    | some s =>
      rcases s with ⟨b, m⟩ | ⟨ci, fs⟩
      · cases b with
        | true => exact absurd (hu t m hs).symm ht
        | false => rfl
      · rfl
theorem kk_ws_setO {Z : kk_Z} {sh : List kk_Sh} {σ : kk_St} {k ci j : Nat} {fs : List kk_Fd} (h : sh[k]? = some (.inr (ci, fs))) (hj : fs[j]? = some none) (x : Int32) : (kk_ws Z sh σ).set k (Z.2.1 k, .inr (ci, (kk_fvs Z.2.1 (σ.1 k) 0 fs).set j (.int x))) = kk_ws Z sh (kk_wr σ k j x) := by
  apply List.ext_getElem?
  intro t
  by_cases ht : k = t
  · subst ht
    have hl : k < (kk_ws Z sh σ).length := by rw [kk_ws_len]; exact (List.getElem?_eq_some_iff.mp h).1
    rw [List.getElem?_set_self hl, kk_ws_get h, kk_fvs_set _ _ _ hj]
    simp [kk_ent, kk_wr]
  · rw [List.getElem?_set_ne ht]
    simp only [kk_ws, List.getElem?_mapIdx]
    cases sh[t]? with
    | none => rfl
    | some s => simp [kk_ent, kk_wr, Ne.symm ht]
def kk_isN (w : Cond) : Bool := match w with
  | .fieldLinkNest _ _ _ _ _ _ => true
  | .methodLinkNest _ _ _ _ => true
  | _ => false
def kk_good : List Cond := lw_tbl.filter goodWord
def kk_nest : List Cond := lw_tbl.filter kk_isN
theorem kk_gm {w : Cond} (i : Nat) (h : lw_tbl[i]? = some w) (hg : goodWord w = true) : w ∈ kk_good := List.mem_filter.mpr ⟨List.mem_of_getElem? h, hg⟩
theorem kk_nm {w : Cond} (i : Nat) (h : lw_tbl[i]? = some w) (hg : kk_isN w = true) : w ∈ kk_nest := List.mem_filter.mpr ⟨List.mem_of_getElem? h, hg⟩
theorem kk_gall {ws : List Cond} (h : ws.all (fun w => decide (w ∈ lw_tbl) && goodWord w) = true) : ∀ w ∈ ws, w ∈ kk_good := by
  intro w hw
  have h1 := List.all_eq_true.mp h w hw
  simp only [Bool.and_eq_true, decide_eq_true_eq] at h1
  exact List.mem_filter.mpr h1
theorem kk_isN_on {w : Cond} (h : kk_isN w = true) : w.onTables = true := by
  unfold kk_isN at h
  split at h
  · rfl
  · rfl
  · cases h
theorem kk_isN_warm {w : Cond} (h : kk_isN w = true) {s U : State} (hW : s.WarmedH U.vm) (hZ : va_Nw w s) : va_Nw w U := by
  unfold kk_isN at h
  split at h
  · exact va_Nw.warmF hW hZ
  · exact va_Nw.warmM hW hZ
  · cases h
def kk_NW (U : State) : Prop := ∀ w ∈ kk_nest, va_Nw w U
def kk_tys (Z : kk_Z) : List (ClassId × FieldType) := [(Z.2.2.2.1, .int), (Z.2.2.2.2, .long)]
def kk_P (Z : kk_Z) (sh : List kk_Sh) (σ : kk_St) (H : Heap) : Prop := va_P Z.2.2.1 vwCl (kk_ws Z sh σ) H
def kk_inj (Z : kk_Z) (sh : List kk_Sh) : Prop := ∀ i j, i < sh.length → j < sh.length → Z.2.1 i = Z.2.1 j → i = j
def kk_K (Z : kk_Z) (sh : List kk_Sh) (U : State) : Prop := va_K Z.2.2.1 vwCl (kk_tys Z) U ∧ kk_NW U ∧ kk_inj Z sh
def kk_A (Z : kk_Z) (sh : List kk_Sh) (sz : Nat) : Nat → Prop := fun a => (∃ k, k < sh.length ∧ a = Z.2.1 k) ∨ sz ≤ a
theorem kk_ent_addr (Z : kk_Z) (σ : kk_St) (k : Nat) (s : kk_Sh) : (kk_ent Z σ k s).1 = Z.2.1 k := by
  rcases s with ⟨b, m⟩ | ⟨ci, fs⟩
  · cases b <;> rfl
  · rfl
theorem kk_ws_some {Z : kk_Z} {sh : List kk_Sh} {σ : kk_St} {k : Nat} {q : Nat × va_E} (h : (kk_ws Z sh σ)[k]? = some q) : k < sh.length ∧ q.1 = Z.2.1 k := by
  have hl := (List.getElem?_eq_some_iff.mp h).1
  rw [kk_ws_len] at hl
  refine ⟨hl, ?_⟩
  rw [kk_ws_get (List.getElem?_eq_getElem hl)] at h
  obtain rfl := Option.some.inj h
  exact kk_ent_addr _ _ _ _
theorem kk_D {Z : kk_Z} {sh : List kk_Sh} (σ : kk_St) (sz : Nat) (h : kk_inj Z sh) : va_D (kk_A Z sh sz) (kk_ws Z sh σ) := by
  refine ⟨fun i j p q hi hj hpq => ?_, fun k q hk => ?_⟩
  · obtain ⟨l1, a1⟩ := kk_ws_some hi
    obtain ⟨l2, a2⟩ := kk_ws_some hj
    exact h i j l1 l2 (by rw [← a1, ← a2]; exact hpq)
  · obtain ⟨l1, a1⟩ := kk_ws_some hk
    exact Or.inl ⟨k, l1, a1⟩
/-- what holds all through a method's body -/
def kk_C (Z : kk_Z) (sh : List kk_Sh) (own : String) (cc : ByteArray) (nL : Nat) (ret : Option FieldType) (p : Program) (s : State) (m : MethodId) (args : Array Value) (meth : Method) (c : Code) : Prop :=
  p.tables.exec = Jvm.exec ∧ c.code = cc ∧ meth.sig.returnType = ret ∧ c.maxLocals = nL ∧ s.vm.findClass own = some m.cls ∧ (∀ w ∈ kk_good, w.before args s = true) ∧ meth.locks = false ∧ kk_K Z sh s
abbrev kk_Qt : Type := (Nat → Prop) → Array Value → State → Outcome → State → Prop
def KK (Z : kk_Z) (sh : List kk_Sh) (own : String) (cc : ByteArray) (nL : Nat) (ret : Option FieldType) (R : Room) (Qc : kk_Qt) (pc : Nat) (lv : List (Nat × Value)) (st : List Value) (σ : kk_St) : Prop :=
  ∀ (p : Program) (e : Env) (s : State) (m : MethodId) (args : Array Value) (below : List Frame) (meth : Method) (c : Code), kk_C Z sh own cc nL ret p s m args meth c → ∀ (H : Heap) (locs : List Loc) (ls : Array Slot), kk_P Z sh σ H → va_S (kk_A Z sh s.heap.size) s.heap H locs → lv_has ls nL lv →
    W p Z.1 e R s m args below meth c H locs 0 0 (MQ below (Qc (kk_A Z sh s.heap.size)) args s 0 0 (kk_A Z sh s.heap.size)) (F0 m pc ls st)
def kk_M (Z : kk_Z) (sh : List kk_Sh) (y : MethodName) (cc : ByteArray) (nL : Nat) (ret : Option FieldType) (R : Room) (av : List Value) (σ : kk_St) (Qc : kk_Qt) : Prop :=
  ∀ sz : Nat, Met Z.1 y (.code y cc nL ret :: kk_good) R (va_Pc av (fun U => U.heap.size = sz ∧ kk_P Z sh σ U.heap ∧ kk_K Z sh U)) (Qc (kk_A Z sh sz)) 0 0 (kk_A Z sh sz)
def kk_Qi (Z : kk_Z) (sh : List kk_Sh) (Q : Int32 → kk_St → Prop) : kk_Qt := fun A => va_Qi Q (fun σ t => kk_P Z sh σ t.heap) A
def kk_Ql (Z : kk_Z) (sh : List kk_Sh) (Q : Int64 → kk_St → Prop) : kk_Qt := fun A => va_Ql Q (fun σ t => kk_P Z sh σ t.heap) A
def kk_Qv (Z : kk_Z) (sh : List kk_Sh) (Q : kk_St → Prop) : kk_Qt := fun A => va_Qv Q (fun σ t => kk_P Z sh σ t.heap) A
def kk_R (d : Nat) : Room := { frames := d, cells := 0, slots := 0, locals := 64 * d }
/-- a row of the code -/
def kk_d (cc : ByteArray) (pc : Nat) (I : Instr) (n b : Nat) : Prop := decode cc pc = .ok (I, n) ∧ pc + n = b
def kk_dj (cc : ByteArray) (pc : Nat) (I : Instr) (n : Nat) (off : Int) (b tgt : Nat) : Prop := decode cc pc = .ok (I, n) ∧ pc + n = b ∧ (pc : Int) + off = (tgt : Int)
end
section
section
variable {Z : kk_Z} {sh : List kk_Sh} {own : String} {cc : ByteArray} {nL : Nat} {ret : Option FieldType} {R : Room} {Qc : kk_Qt} {pc b tgt : Nat} {lv lv' : List (Nat × Value)} {st : List Value} {σ : kk_St} {off : Int}
theorem kk_iadd {x y : Int32} (hd : kk_d cc pc .iadd 1 b) (k : KK Z sh own cc nL ret R Qc b lv (.int (x + y) :: st) σ) : KK Z sh own cc nL ret R Qc pc lv (.int y :: .int x :: st) σ := by
  obtain ⟨hd, rfl⟩ := hd
  intro p e s m args below meth c C H locs ls hP hS hl
  exact lv_iadd C.1 C.2.1 hd  (k p e s m args below meth c C H locs ls hP hS hl)
theorem kk_isub {x y : Int32} (hd : kk_d cc pc .isub 1 b) (k : KK Z sh own cc nL ret R Qc b lv (.int (x - y) :: st) σ) : KK Z sh own cc nL ret R Qc pc lv (.int y :: .int x :: st) σ := by
  obtain ⟨hd, rfl⟩ := hd
  intro p e s m args below meth c C H locs ls hP hS hl
  exact lv_isub C.1 C.2.1 hd  (k p e s m args below meth c C H locs ls hP hS hl)
theorem kk_imul {x y : Int32} (hd : kk_d cc pc .imul 1 b) (k : KK Z sh own cc nL ret R Qc b lv (.int (x * y) :: st) σ) : KK Z sh own cc nL ret R Qc pc lv (.int y :: .int x :: st) σ := by
  obtain ⟨hd, rfl⟩ := hd
  intro p e s m args below meth c C H locs ls hP hS hl
  exact lv_imul C.1 C.2.1 hd  (k p e s m args below meth c C H locs ls hP hS hl)
theorem kk_iand {x y : Int32} (hd : kk_d cc pc .iand 1 b) (k : KK Z sh own cc nL ret R Qc b lv (.int (x &&& y) :: st) σ) : KK Z sh own cc nL ret R Qc pc lv (.int y :: .int x :: st) σ := by
  obtain ⟨hd, rfl⟩ := hd
  intro p e s m args below meth c C H locs ls hP hS hl
  exact lv_iand C.1 C.2.1 hd  (k p e s m args below meth c C H locs ls hP hS hl)
theorem kk_ior {x y : Int32} (hd : kk_d cc pc .ior 1 b) (k : KK Z sh own cc nL ret R Qc b lv (.int (x ||| y) :: st) σ) : KK Z sh own cc nL ret R Qc pc lv (.int y :: .int x :: st) σ := by
  obtain ⟨hd, rfl⟩ := hd
  intro p e s m args below meth c C H locs ls hP hS hl
  exact lv_ior C.1 C.2.1 hd  (k p e s m args below meth c C H locs ls hP hS hl)
theorem kk_ixor {x y : Int32} (hd : kk_d cc pc .ixor 1 b) (k : KK Z sh own cc nL ret R Qc b lv (.int (x ^^^ y) :: st) σ) : KK Z sh own cc nL ret R Qc pc lv (.int y :: .int x :: st) σ := by
  obtain ⟨hd, rfl⟩ := hd
  intro p e s m args below meth c C H locs ls hP hS hl
  exact lv_ixor C.1 C.2.1 hd  (k p e s m args below meth c C H locs ls hP hS hl)
theorem kk_ishl {x y : Int32} (hd : kk_d cc pc .ishl 1 b) (k : KK Z sh own cc nL ret R Qc b lv (.int (x <<< (y &&& 31)) :: st) σ) : KK Z sh own cc nL ret R Qc pc lv (.int y :: .int x :: st) σ := by
  obtain ⟨hd, rfl⟩ := hd
  intro p e s m args below meth c C H locs ls hP hS hl
  exact lv_ishl C.1 C.2.1 hd  (k p e s m args below meth c C H locs ls hP hS hl)
theorem kk_ishr {x y : Int32} (hd : kk_d cc pc .ishr 1 b) (k : KK Z sh own cc nL ret R Qc b lv (.int (x >>> (y &&& 31)) :: st) σ) : KK Z sh own cc nL ret R Qc pc lv (.int y :: .int x :: st) σ := by
  obtain ⟨hd, rfl⟩ := hd
  intro p e s m args below meth c C H locs ls hP hS hl
  exact lv_ishr C.1 C.2.1 hd  (k p e s m args below meth c C H locs ls hP hS hl)
theorem kk_ladd {x y : Int64} (hd : kk_d cc pc .ladd 1 b) (k : KK Z sh own cc nL ret R Qc b lv (.long (x + y) :: st) σ) : KK Z sh own cc nL ret R Qc pc lv (.long y :: .long x :: st) σ := by
  obtain ⟨hd, rfl⟩ := hd
  intro p e s m args below meth c C H locs ls hP hS hl
  exact lv_ladd C.1 C.2.1 hd  (k p e s m args below meth c C H locs ls hP hS hl)
theorem kk_lmul {x y : Int64} (hd : kk_d cc pc .lmul 1 b) (k : KK Z sh own cc nL ret R Qc b lv (.long (x * y) :: st) σ) : KK Z sh own cc nL ret R Qc pc lv (.long y :: .long x :: st) σ := by
  obtain ⟨hd, rfl⟩ := hd
  intro p e s m args below meth c C H locs ls hP hS hl
  exact lv_lmul C.1 C.2.1 hd  (k p e s m args below meth c C H locs ls hP hS hl)
theorem kk_lsub {x y : Int64} (hd : kk_d cc pc .lsub 1 b) (k : KK Z sh own cc nL ret R Qc b lv (.long (x - y) :: st) σ) : KK Z sh own cc nL ret R Qc pc lv (.long y :: .long x :: st) σ := by
  obtain ⟨hd, rfl⟩ := hd
  intro p e s m args below meth c C H locs ls hP hS hl
  exact lv_lsub C.1 C.2.1 hd  (k p e s m args below meth c C H locs ls hP hS hl)
theorem kk_ineg {x : Int32} (hd : kk_d cc pc .ineg 1 b) (k : KK Z sh own cc nL ret R Qc b lv (.int (-x) :: st) σ) : KK Z sh own cc nL ret R Qc pc lv (.int x :: st) σ := by
  obtain ⟨hd, rfl⟩ := hd
  intro p e s m args below meth c C H locs ls hP hS hl
  exact lv_ineg C.1 C.2.1 hd  (k p e s m args below meth c C H locs ls hP hS hl)
def kk_ushr (x y : Int32) : Int32 := (x.toUInt32 >>> (y.toUInt32 &&& Int32.toUInt32 31)).toInt32
theorem kk_iushr {x y : Int32} (hd : kk_d cc pc .iushr 1 b) (k : KK Z sh own cc nL ret R Qc b lv (.int (kk_ushr x y) :: st) σ) : KK Z sh own cc nL ret R Qc pc lv (.int y :: .int x :: st) σ := by
  obtain ⟨hd, rfl⟩ := hd
  intro p e s m args below meth c C H locs ls hP hS hl
  exact lv_iushr C.1 C.2.1 hd rfl (k p e s m args below meth c C H locs ls hP hS hl)
theorem kk_i2l {x : Int32} (hd : kk_d cc pc .i2l 1 b) (k : KK Z sh own cc nL ret R Qc b lv (.long x.toInt64 :: st) σ) : KK Z sh own cc nL ret R Qc pc lv (.int x :: st) σ := by
  obtain ⟨hd, rfl⟩ := hd
  intro p e s m args below meth c C H locs ls hP hS hl
  exact lv_i2l C.1 C.2.1 hd rfl (k p e s m args below meth c C H locs ls hP hS hl)
theorem kk_idiv {x y : Int32} (hy : ¬ y = 0) (hd : kk_d cc pc .idiv 1 b) (k : KK Z sh own cc nL ret R Qc b lv (.int (x / y) :: st) σ) : KK Z sh own cc nL ret R Qc pc lv (.int y :: .int x :: st) σ := by
  obtain ⟨hd, rfl⟩ := hd
  intro p e s m args below meth c C H locs ls hP hS hl
  exact lv_idiv C.1 C.2.1 hd hy (k p e s m args below meth c C H locs ls hP hS hl)
theorem kk_irem {x y : Int32} (hy : ¬ y = 0) (hd : kk_d cc pc .irem 1 b) (k : KK Z sh own cc nL ret R Qc b lv (.int (x - x / y * y) :: st) σ) : KK Z sh own cc nL ret R Qc pc lv (.int y :: .int x :: st) σ := by
  obtain ⟨hd, rfl⟩ := hd
  intro p e s m args below meth c C H locs ls hP hS hl
  exact lv_irem C.1 C.2.1 hd hy (k p e s m args below meth c C H locs ls hP hS hl)
theorem kk_lcmp {x y : Int64} (hd : kk_d cc pc .lcmp 1 b) (k : KK Z sh own cc nL ret R Qc b lv (.int (lg_cmp x y) :: st) σ) : KK Z sh own cc nL ret R Qc pc lv (.long y :: .long x :: st) σ := by
  obtain ⟨hd, rfl⟩ := hd
  intro p e s m args below meth c C H locs ls hP hS hl
  exact W.lcmp C.1 C.2.1 hd  (k p e s m args below meth c C H locs ls hP hS hl)
theorem kk_dup {va : Value} (hv : va.category = 1) (hd : kk_d cc pc .dup 1 b) (k : KK Z sh own cc nL ret R Qc b lv (va :: va :: st) σ) : KK Z sh own cc nL ret R Qc pc lv (va :: st) σ := by
  obtain ⟨hd, rfl⟩ := hd
  intro p e s m args below meth c C H locs ls hP hS hl
  exact lv_dup C.1 C.2.1 hd hv (k p e s m args below meth c C H locs ls hP hS hl)
theorem kk_dup2 {va vb : Value} (hv : va.category = 1) (hw : vb.category = 1) (hd : kk_d cc pc .dup2 1 b) (k : KK Z sh own cc nL ret R Qc b lv (va :: vb :: va :: vb :: st) σ) : KK Z sh own cc nL ret R Qc pc lv (va :: vb :: st) σ := by
  obtain ⟨hd, rfl⟩ := hd
  intro p e s m args below meth c C H locs ls hP hS hl
  exact lv_dup2_11 C.1 C.2.1 hd hv hw (k p e s m args below meth c C H locs ls hP hS hl)
theorem kk_iconst {n : Int} {v : Int32} (hv : Int32.ofInt n = v) (hd : kk_d cc pc (.iconst n) 1 b) (k : KK Z sh own cc nL ret R Qc b lv (.int v :: st) σ) : KK Z sh own cc nL ret R Qc pc lv (st) σ := by
  obtain ⟨hd, rfl⟩ := hd
  intro p e s m args below meth c C H locs ls hP hS hl
  exact lv_iconst C.1 C.2.1 hd hv (k p e s m args below meth c C H locs ls hP hS hl)
theorem kk_bipush {n : Int} {v : Int32} (hv : (Int8.ofInt n).toInt32 = v) (hd : kk_d cc pc (.bipush n) 2 b) (k : KK Z sh own cc nL ret R Qc b lv (.int v :: st) σ) : KK Z sh own cc nL ret R Qc pc lv (st) σ := by
  obtain ⟨hd, rfl⟩ := hd
  intro p e s m args below meth c C H locs ls hP hS hl
  exact lv_bipush C.1 C.2.1 hd hv (k p e s m args below meth c C H locs ls hP hS hl)
theorem kk_sipush {n : Int} {v : Int32} (hv : (Int16.ofInt n).toInt32 = v) (hd : kk_d cc pc (.sipush n) 3 b) (k : KK Z sh own cc nL ret R Qc b lv (.int v :: st) σ) : KK Z sh own cc nL ret R Qc pc lv (st) σ := by
  obtain ⟨hd, rfl⟩ := hd
  intro p e s m args below meth c C H locs ls hP hS hl
  exact lv_sipush C.1 C.2.1 hd hv (k p e s m args below meth c C H locs ls hP hS hl)
theorem kk_lconst {n : Fin 2} {v : Int64} (hv : Int64.ofNat (n : Nat) = v) (hd : kk_d cc pc (.lconst n) 1 b) (k : KK Z sh own cc nL ret R Qc b lv (.long v :: st) σ) : KK Z sh own cc nL ret R Qc pc lv (st) σ := by
  obtain ⟨hd, rfl⟩ := hd
  intro p e s m args below meth c C H locs ls hP hS hl
  exact lv_lconst C.1 C.2.1 hd hv (k p e s m args below meth c C H locs ls hP hS hl)
theorem kk_iload_n {q : Fin 4} {x : Int32} (j : Nat) (hj : lv[j]? = some ((q : Nat), .int x)) (hd : kk_d cc pc (.iload_n q) 1 b) (k : KK Z sh own cc nL ret R Qc b lv (.int x :: st) σ) : KK Z sh own cc nL ret R Qc pc lv (st) σ := by
  obtain ⟨hd, rfl⟩ := hd
  intro p e s m args below meth c C H locs ls hP hS hl
  exact lv_iload_n C.1 C.2.1 hd rfl (lv_at hl j hj) (k p e s m args below meth c C H locs ls hP hS hl)
theorem kk_iload {i : Nat} {x : Int32} (j : Nat) (hj : lv[j]? = some (i, .int x)) (hd : kk_d cc pc (.iload i) 2 b) (k : KK Z sh own cc nL ret R Qc b lv (.int x :: st) σ) : KK Z sh own cc nL ret R Qc pc lv (st) σ := by
  obtain ⟨hd, rfl⟩ := hd
  intro p e s m args below meth c C H locs ls hP hS hl
  exact lv_iload C.1 C.2.1 hd (lv_at hl j hj) (k p e s m args below meth c C H locs ls hP hS hl)
theorem kk_aload_n {q : Fin 4} {x : Nat} (j : Nat) (hj : lv[j]? = some ((q : Nat), .ref x)) (hd : kk_d cc pc (.aload_n q) 1 b) (k : KK Z sh own cc nL ret R Qc b lv (.ref x :: st) σ) : KK Z sh own cc nL ret R Qc pc lv (st) σ := by
  obtain ⟨hd, rfl⟩ := hd
  intro p e s m args below meth c C H locs ls hP hS hl
  exact lv_aload_n C.1 C.2.1 hd rfl (lv_at hl j hj) (k p e s m args below meth c C H locs ls hP hS hl)
theorem kk_aload {i : Nat} {x : Nat} (j : Nat) (hj : lv[j]? = some (i, .ref x)) (hd : kk_d cc pc (.aload i) 2 b) (k : KK Z sh own cc nL ret R Qc b lv (.ref x :: st) σ) : KK Z sh own cc nL ret R Qc pc lv (st) σ := by
  obtain ⟨hd, rfl⟩ := hd
  intro p e s m args below meth c C H locs ls hP hS hl
  exact lv_aload C.1 C.2.1 hd (lv_at hl j hj) (k p e s m args below meth c C H locs ls hP hS hl)
theorem kk_lload_n {q : Fin 4} {x : Int64} (j : Nat) (hj : lv[j]? = some ((q : Nat), .long x)) (hd : kk_d cc pc (.lload_n q) 1 b) (k : KK Z sh own cc nL ret R Qc b lv (.long x :: st) σ) : KK Z sh own cc nL ret R Qc pc lv (st) σ := by
  obtain ⟨hd, rfl⟩ := hd
  intro p e s m args below meth c C H locs ls hP hS hl
  exact lv_lload_n C.1 C.2.1 hd rfl (lv_at hl j hj) (k p e s m args below meth c C H locs ls hP hS hl)
theorem kk_lload {i : Nat} {x : Int64} (j : Nat) (hj : lv[j]? = some (i, .long x)) (hd : kk_d cc pc (.lload i) 2 b) (k : KK Z sh own cc nL ret R Qc b lv (.long x :: st) σ) : KK Z sh own cc nL ret R Qc pc lv (st) σ := by
  obtain ⟨hd, rfl⟩ := hd
  intro p e s m args below meth c C H locs ls hP hS hl
  exact lv_lload C.1 C.2.1 hd (lv_at hl j hj) (k p e s m args below meth c C H locs ls hP hS hl)
theorem kk_istore_n {q : Fin 4} {i : Nat} {x : Int32} (hd : kk_d cc pc (.istore_n q) 1 b) (hi : (q : Nat) = i) (hn : i < nL) (hl' : (i, Value.int x) :: lv.filter (fun q => !(q.1 == i) && !(q.1 + 1 == i && q.2.category == 2)) = lv') (k : KK Z sh own cc nL ret R Qc b lv' (st) σ) : KK Z sh own cc nL ret R Qc pc lv (.int x :: st) σ := by
  obtain ⟨hd, rfl⟩ := hd
  intro p e s m args below meth c C H locs ls hP hS hl
  exact lv_istore_n C.1 C.2.1 hd hi hl hn hl' (fun ls hl => k p e s m args below meth c C H locs ls hP hS hl)
theorem kk_istore {i : Nat} {x : Int32} (hd : kk_d cc pc (.istore i) 2 b) (hn : i < nL) (hl' : (i, Value.int x) :: lv.filter (fun q => !(q.1 == i) && !(q.1 + 1 == i && q.2.category == 2)) = lv') (k : KK Z sh own cc nL ret R Qc b lv' (st) σ) : KK Z sh own cc nL ret R Qc pc lv (.int x :: st) σ := by
  obtain ⟨hd, rfl⟩ := hd
  intro p e s m args below meth c C H locs ls hP hS hl
  exact lv_istore C.1 C.2.1 hd hl hn hl' (fun ls hl => k p e s m args below meth c C H locs ls hP hS hl)
theorem kk_lstore_n {q : Fin 4} {i : Nat} {x : Int64} (hd : kk_d cc pc (.lstore_n q) 1 b) (hi : (q : Nat) = i) (hn : i + 1 < nL) (hl' : (i, Value.long x) :: lv.filter (fun q => !(q.1 == i) && (!(q.1 == i + 1) && !(q.1 + 1 == i && q.2.category == 2))) = lv') (k : KK Z sh own cc nL ret R Qc b lv' (st) σ) : KK Z sh own cc nL ret R Qc pc lv (.long x :: st) σ := by
  obtain ⟨hd, rfl⟩ := hd
  intro p e s m args below meth c C H locs ls hP hS hl
  exact lv_lstore_n C.1 C.2.1 hd hi hl hn hl' (fun ls hl => k p e s m args below meth c C H locs ls hP hS hl)
theorem kk_lstore {i : Nat} {x : Int64} (hd : kk_d cc pc (.lstore i) 2 b) (hn : i + 1 < nL) (hl' : (i, Value.long x) :: lv.filter (fun q => !(q.1 == i) && (!(q.1 == i + 1) && !(q.1 + 1 == i && q.2.category == 2))) = lv') (k : KK Z sh own cc nL ret R Qc b lv' (st) σ) : KK Z sh own cc nL ret R Qc pc lv (.long x :: st) σ := by
  obtain ⟨hd, rfl⟩ := hd
  intro p e s m args below meth c C H locs ls hP hS hl
  exact lv_lstore C.1 C.2.1 hd hl hn hl' (fun ls hl => k p e s m args below meth c C H locs ls hP hS hl)
theorem kk_iinc {i j : Nat} {n : Int} {x v : Int32} (hd : kk_d cc pc (.iinc i n) 3 b) (hj : lv[j]? = some (i, .int x)) (hv : x + Int32.ofInt n = v) (hn : i < nL) (hl' : (i, Value.int v) :: lv.filter (fun q => !(q.1 == i) && !(q.1 + 1 == i && q.2.category == 2)) = lv') (k : KK Z sh own cc nL ret R Qc b lv' (st) σ) : KK Z sh own cc nL ret R Qc pc lv (st) σ := by
  obtain ⟨hd, rfl⟩ := hd
  intro p e s m args below meth c C H locs ls hP hS hl
  exact lv_iinc C.1 C.2.1 hd hl hj hv hn hl' (fun ls hl => k p e s m args below meth c C H locs ls hP hS hl)
theorem kk_sub (ks : List Nat) (h : lv_pick lv ks = lv') (k : KK Z sh own cc nL ret R Qc pc lv' (st) σ) : KK Z sh own cc nL ret R Qc pc lv (st) σ := by
  intro p e s m args below meth c C H locs ls hP hS hl
  exact k p e s m args below meth c C H locs ls hP hS (lv_sub hl ks h)
theorem kk_goto (hd : kk_dj cc pc (.goto off) 3 off b tgt) (k : KK Z sh own cc nL ret R Qc tgt lv (st) σ) : KK Z sh own cc nL ret R Qc pc lv (st) σ := by
  obtain ⟨hd, rfl, ht⟩ := hd
  intro p e s m args below meth c C H locs ls hP hS hl
  exact lv_goto C.1 C.2.1 hd ht (k p e s m args below meth c C H locs ls hP hS hl)
theorem kk_if_eq {x : Int32} (hd : kk_dj cc pc (.ifCond .eq off) 3 off b tgt) (kt : x = 0 → KK Z sh own cc nL ret R Qc tgt lv (st) σ) (kf : ¬ x = 0 → KK Z sh own cc nL ret R Qc b lv (st) σ) : KK Z sh own cc nL ret R Qc pc lv (.int x :: st) σ := by
  obtain ⟨hd, rfl, ht⟩ := hd
  intro p e s m args below meth c C H locs ls hP hS hl
  exact lv_if_eq C.1 C.2.1 hd ht (fun z => kt z p e s m args below meth c C H locs ls hP hS hl) (fun z => kf z p e s m args below meth c C H locs ls hP hS hl)
theorem kk_icmp_eq {x y : Int32} (hd : kk_dj cc pc (.if_icmp .eq off) 3 off b tgt) (kt : x = y → KK Z sh own cc nL ret R Qc tgt lv (st) σ) (kf : ¬ x = y → KK Z sh own cc nL ret R Qc b lv (st) σ) : KK Z sh own cc nL ret R Qc pc lv (.int y :: .int x :: st) σ := by
  obtain ⟨hd, rfl, ht⟩ := hd
  intro p e s m args below meth c C H locs ls hP hS hl
  exact lv_icmp_eq C.1 C.2.1 hd ht (fun z => kt z p e s m args below meth c C H locs ls hP hS hl) (fun z => kf z p e s m args below meth c C H locs ls hP hS hl)
theorem kk_if_ne {x : Int32} (hd : kk_dj cc pc (.ifCond .ne off) 3 off b tgt) (kt : ¬ x = 0 → KK Z sh own cc nL ret R Qc tgt lv (st) σ) (kf : x = 0 → KK Z sh own cc nL ret R Qc b lv (st) σ) : KK Z sh own cc nL ret R Qc pc lv (.int x :: st) σ := by
  obtain ⟨hd, rfl, ht⟩ := hd
  intro p e s m args below meth c C H locs ls hP hS hl
  exact lv_if_ne C.1 C.2.1 hd ht (fun z => kt z p e s m args below meth c C H locs ls hP hS hl) (fun z => kf z p e s m args below meth c C H locs ls hP hS hl)
theorem kk_icmp_ne {x y : Int32} (hd : kk_dj cc pc (.if_icmp .ne off) 3 off b tgt) (kt : ¬ x = y → KK Z sh own cc nL ret R Qc tgt lv (st) σ) (kf : x = y → KK Z sh own cc nL ret R Qc b lv (st) σ) : KK Z sh own cc nL ret R Qc pc lv (.int y :: .int x :: st) σ := by
  obtain ⟨hd, rfl, ht⟩ := hd
  intro p e s m args below meth c C H locs ls hP hS hl
  exact lv_icmp_ne C.1 C.2.1 hd ht (fun z => kt z p e s m args below meth c C H locs ls hP hS hl) (fun z => kf z p e s m args below meth c C H locs ls hP hS hl)
theorem kk_if_lt {x : Int32} (hd : kk_dj cc pc (.ifCond .lt off) 3 off b tgt) (kt : x < 0 → KK Z sh own cc nL ret R Qc tgt lv (st) σ) (kf : ¬ x < 0 → KK Z sh own cc nL ret R Qc b lv (st) σ) : KK Z sh own cc nL ret R Qc pc lv (.int x :: st) σ := by
  obtain ⟨hd, rfl, ht⟩ := hd
  intro p e s m args below meth c C H locs ls hP hS hl
  exact lv_if_lt C.1 C.2.1 hd ht (fun z => kt z p e s m args below meth c C H locs ls hP hS hl) (fun z => kf z p e s m args below meth c C H locs ls hP hS hl)
theorem kk_icmp_lt {x y : Int32} (hd : kk_dj cc pc (.if_icmp .lt off) 3 off b tgt) (kt : x < y → KK Z sh own cc nL ret R Qc tgt lv (st) σ) (kf : ¬ x < y → KK Z sh own cc nL ret R Qc b lv (st) σ) : KK Z sh own cc nL ret R Qc pc lv (.int y :: .int x :: st) σ := by
  obtain ⟨hd, rfl, ht⟩ := hd
  intro p e s m args below meth c C H locs ls hP hS hl
  exact lv_icmp_lt C.1 C.2.1 hd ht (fun z => kt z p e s m args below meth c C H locs ls hP hS hl) (fun z => kf z p e s m args below meth c C H locs ls hP hS hl)
theorem kk_if_ge {x : Int32} (hd : kk_dj cc pc (.ifCond .ge off) 3 off b tgt) (kt : 0 ≤ x → KK Z sh own cc nL ret R Qc tgt lv (st) σ) (kf : ¬ 0 ≤ x → KK Z sh own cc nL ret R Qc b lv (st) σ) : KK Z sh own cc nL ret R Qc pc lv (.int x :: st) σ := by
  obtain ⟨hd, rfl, ht⟩ := hd
  intro p e s m args below meth c C H locs ls hP hS hl
  exact lv_if_ge C.1 C.2.1 hd ht (fun z => kt z p e s m args below meth c C H locs ls hP hS hl) (fun z => kf z p e s m args below meth c C H locs ls hP hS hl)
theorem kk_icmp_ge {x y : Int32} (hd : kk_dj cc pc (.if_icmp .ge off) 3 off b tgt) (kt : y ≤ x → KK Z sh own cc nL ret R Qc tgt lv (st) σ) (kf : ¬ y ≤ x → KK Z sh own cc nL ret R Qc b lv (st) σ) : KK Z sh own cc nL ret R Qc pc lv (.int y :: .int x :: st) σ := by
  obtain ⟨hd, rfl, ht⟩ := hd
  intro p e s m args below meth c C H locs ls hP hS hl
  exact lv_icmp_ge C.1 C.2.1 hd ht (fun z => kt z p e s m args below meth c C H locs ls hP hS hl) (fun z => kf z p e s m args below meth c C H locs ls hP hS hl)
theorem kk_if_gt {x : Int32} (hd : kk_dj cc pc (.ifCond .gt off) 3 off b tgt) (kt : 0 < x → KK Z sh own cc nL ret R Qc tgt lv (st) σ) (kf : ¬ 0 < x → KK Z sh own cc nL ret R Qc b lv (st) σ) : KK Z sh own cc nL ret R Qc pc lv (.int x :: st) σ := by
  obtain ⟨hd, rfl, ht⟩ := hd
  intro p e s m args below meth c C H locs ls hP hS hl
  exact lv_if_gt C.1 C.2.1 hd ht (fun z => kt z p e s m args below meth c C H locs ls hP hS hl) (fun z => kf z p e s m args below meth c C H locs ls hP hS hl)
theorem kk_icmp_gt {x y : Int32} (hd : kk_dj cc pc (.if_icmp .gt off) 3 off b tgt) (kt : y < x → KK Z sh own cc nL ret R Qc tgt lv (st) σ) (kf : ¬ y < x → KK Z sh own cc nL ret R Qc b lv (st) σ) : KK Z sh own cc nL ret R Qc pc lv (.int y :: .int x :: st) σ := by
  obtain ⟨hd, rfl, ht⟩ := hd
  intro p e s m args below meth c C H locs ls hP hS hl
  exact lv_icmp_gt C.1 C.2.1 hd ht (fun z => kt z p e s m args below meth c C H locs ls hP hS hl) (fun z => kf z p e s m args below meth c C H locs ls hP hS hl)
theorem kk_if_le {x : Int32} (hd : kk_dj cc pc (.ifCond .le off) 3 off b tgt) (kt : x ≤ 0 → KK Z sh own cc nL ret R Qc tgt lv (st) σ) (kf : ¬ x ≤ 0 → KK Z sh own cc nL ret R Qc b lv (st) σ) : KK Z sh own cc nL ret R Qc pc lv (.int x :: st) σ := by
  obtain ⟨hd, rfl, ht⟩ := hd
  intro p e s m args below meth c C H locs ls hP hS hl
  exact lv_if_le C.1 C.2.1 hd ht (fun z => kt z p e s m args below meth c C H locs ls hP hS hl) (fun z => kf z p e s m args below meth c C H locs ls hP hS hl)
theorem kk_icmp_le {x y : Int32} (hd : kk_dj cc pc (.if_icmp .le off) 3 off b tgt) (kt : x ≤ y → KK Z sh own cc nL ret R Qc tgt lv (st) σ) (kf : ¬ x ≤ y → KK Z sh own cc nL ret R Qc b lv (st) σ) : KK Z sh own cc nL ret R Qc pc lv (.int y :: .int x :: st) σ := by
  obtain ⟨hd, rfl, ht⟩ := hd
  intro p e s m args below meth c C H locs ls hP hS hl
  exact lv_icmp_le C.1 C.2.1 hd ht (fun z => kt z p e s m args below meth c C H locs ls hP hS hl) (fun z => kf z p e s m args below meth c C H locs ls hP hS hl)
theorem kk_topi {x : Int32} (k : ∀ y : Int32, y = x → KK Z sh own cc nL ret R Qc pc lv (.int y :: st) σ) : KK Z sh own cc nL ret R Qc pc lv (.int x :: st) σ := k x rfl
theorem kk_topl {x : Int64} (k : ∀ y : Int64, y = x → KK Z sh own cc nL ret R Qc pc lv (.long y :: st) σ) : KK Z sh own cc nL ret R Qc pc lv (.long x :: st) σ := k x rfl
theorem kk_ldc {i : Nat} {v : Int32} (hd : kk_d cc pc (.ldc i) 2 b) (hw : Cond.constant own i v ∈ kk_good) (k : KK Z sh own cc nL ret R Qc b lv (.int v :: st) σ) : KK Z sh own cc nL ret R Qc pc lv (st) σ := by
  obtain ⟨hd, rfl⟩ := hd
  intro p e s m args below meth c C H locs ls hP hS hl
  exact lv_ldc C.1 C.2.1 C.2.2.2.2.1 (C.2.2.2.2.2.1 _ hw) hd (k p e s m args below meth c C H locs ls hP hS hl)
theorem kk_ldcw {i : Nat} {v : Int32} (hd : kk_d cc pc (.ldc_w i) 3 b) (hw : Cond.constant own i v ∈ kk_good) (k : KK Z sh own cc nL ret R Qc b lv (.int v :: st) σ) : KK Z sh own cc nL ret R Qc pc lv (st) σ := by
  obtain ⟨hd, rfl⟩ := hd
  intro p e s m args below meth c C H locs ls hP hS hl
  exact lv_ldcw C.1 C.2.1 C.2.2.2.2.1 (C.2.2.2.2.2.1 _ hw) hd (k p e s m args below meth c C H locs ls hP hS hl)
theorem kk_ldc2 {i : Nat} {v : Int64} (hd : kk_d cc pc (.ldc2_w i) 3 b) (hw : Cond.constantLong own i v ∈ kk_good) (k : KK Z sh own cc nL ret R Qc b lv (.long v :: st) σ) : KK Z sh own cc nL ret R Qc pc lv (st) σ := by
  obtain ⟨hd, rfl⟩ := hd
  intro p e s m args below meth c C H locs ls hP hS hl
  exact lv_ldc2 C.1 C.2.1 C.2.2.2.2.1 (C.2.2.2.2.2.1 _ hw) hd (k p e s m args below meth c C H locs ls hP hS hl)
theorem kk_swc (x : Int32) (n : Nat) (hn : n < 2 ^ 31) : (∃ i, i < n ∧ x = nI i) ∨ (x.toInt < 0 ∨ (n : Int) ≤ x.toInt) := by
  by_cases h0 : x < 0
  · right; left
    exact Int32.lt_iff_toInt_lt.mp h0
  · obtain ⟨j, hj, rfl⟩ := nI_of h0
    rw [nI_toInt hj]
    by_cases h : j < n
    · exact Or.inl ⟨j, h, rfl⟩
    · right; right; omega
theorem kk_swIn {dflt hi : Int} {offs : Array Int} {len : Nat} {x : Int32} (hd : decode cc pc = .ok (.tableswitch dflt 0 hi offs, len)) (i : Nat) (hx : x = nI i) (hi' : (i : Int) ≤ hi) (hs : i < 1000) (ho : offs[i]? = some off) (ht : (pc : Int) + off = (tgt : Int)) (k : KK Z sh own cc nL ret R Qc tgt lv (st) σ) : KK Z sh own cc nL ret R Qc pc lv (.int x :: st) σ := by
  intro p e s m args below meth c C H locs ls hP hS hl
  have hxi : x.toInt = (i : Int) := by rw [hx, nI_toInt (by omega)]
  exact lv_tableIn C.1 C.2.1 hd (by rw [hxi]; omega) (by rw [hxi]; omega) (by rw [hxi]; simpa using ho) ht (k p e s m args below meth c C H locs ls hP hS hl)
theorem kk_swOut {dflt hi : Int} {offs : Array Int} {len : Nat} {x : Int32} (hd : decode cc pc = .ok (.tableswitch dflt 0 hi offs, len)) (hx : x.toInt < 0 ∨ hi < x.toInt) (ht : (pc : Int) + dflt = (tgt : Int)) (k : KK Z sh own cc nL ret R Qc tgt lv (st) σ) : KK Z sh own cc nL ret R Qc pc lv (.int x :: st) σ := by
  intro p e s m args below meth c C H locs ls hP hS hl
  exact lv_tableOut C.1 C.2.1 hd hx ht (k p e s m args below meth c C H locs ls hP hS hl)
/-- a field's link: own class, entry, class number, place of the field; by itself or by the nest -/
def kk_FL (own : String) (idx ci j : Nat) (ty : FieldType) : Prop := ∃ (C : String) (T : u_T) (N : Nat) (ty0 : Nat → FieldType), vwCl[ci]? = some (C, T, N) ∧ j < N ∧ (∀ w ∈ u_ws C T N, w ∈ kk_good) ∧ (∀ k, k < N → parseFieldDescriptor (T k).2.2.1 = some (ty0 k)) ∧ (∀ a, a < N → ∀ b, b < N → a ≠ b → (T a).2.1 ≠ (T b).2.1) ∧ (T j).1 = C ∧ parseFieldDescriptor (T j).2.2.1 = some ty ∧ (Cond.fieldLink own idx C (T j).2.1 (T j).2.2.1 ∈ kk_good ∨ ∃ host, Cond.fieldLinkNest own idx C (T j).2.1 (T j).2.2.1 host ∈ kk_nest)
def kk_FN (ci j : Nat) : Prop := ∃ (C : String) (T : u_T) (N : Nat), vwCl[ci]? = some (C, T, N) ∧ (T j).2.2.2 = false
theorem kk_getv {idx ci j : Nat} {ty : FieldType} {fs : List kk_Fd} {v : Value} (hd : kk_d cc pc (.getfield idx) 3 b) (hf : kk_FL own idx ci j ty) (k0 : Nat) (hs : sh[k0]? = some (.inr (ci, fs))) (hv : (kk_fvs Z.2.1 (σ.1 k0) 0 fs)[j]? = some v) (k : KK Z sh own cc nL ret R Qc b lv (v :: st) σ) : KK Z sh own cc nL ret R Qc pc lv (.ref (Z.2.1 k0) :: st) σ := by
  obtain ⟨hd, rfl⟩ := hd
  intro p e s m args below meth c C H locs ls hP hS hl
  obtain ⟨C', T, N, ty0, hc, hj, hin, hty, hnm, hTC, hdsc, hlink⟩ := hf
  rcases hlink with h | ⟨host, h⟩
  · exact va_get C.1 C.2.1 C.2.2.2.2.2.1 hin C.2.2.2.2.1 C.2.2.2.2.2.2.2.1 hP k0 (kk_ws_get hs) hc j hj (C.2.2.2.2.2.1 _ h) (fun _ h9 => by rw [hTC] at h9; exact h9) hv hd (k p e s m args below meth c C H locs ls hP hS hl)
  · exact va_getN C.1 C.2.1 C.2.2.2.2.2.1 hin C.2.2.2.2.1 C.2.2.2.2.2.2.2.1 hP k0 (kk_ws_get hs) hc j hj (va_Nw.use (kk_isN_on rfl) (C.2.2.2.2.2.2.2.2.1 _ h)) (fun _ h9 => by rw [hTC] at h9; exact h9) hv hd (k p e s m args below meth c C H locs ls hP hS hl)
theorem kk_geti {idx ci j : Nat} {ty : FieldType} {fs : List kk_Fd} (hd : kk_d cc pc (.getfield idx) 3 b) (hf : kk_FL own idx ci j ty) {k0 : Nat} (hs : sh[k0]? = some (.inr (ci, fs))) (hj : fs[j]? = some none) (k : KK Z sh own cc nL ret R Qc b lv (.int (σ.1 k0 j) :: st) σ) : KK Z sh own cc nL ret R Qc pc lv (.ref (Z.2.1 k0) :: st) σ :=
  kk_getv hd hf k0 hs (by rw [kk_fvs_get, hj, Nat.zero_add]; rfl) k
theorem kk_getr {idx ci j r : Nat} {ty : FieldType} {fs : List kk_Fd} (hd : kk_d cc pc (.getfield idx) 3 b) (hf : kk_FL own idx ci j ty) {k0 : Nat} (hs : sh[k0]? = some (.inr (ci, fs))) (hj : fs[j]? = some (some r)) (k : KK Z sh own cc nL ret R Qc b lv (.ref (Z.2.1 r) :: st) σ) : KK Z sh own cc nL ret R Qc pc lv (.ref (Z.2.1 k0) :: st) σ :=
  kk_getv hd hf k0 hs (by rw [kk_fvs_get, hj]; rfl) k
theorem kk_putv {idx ci j : Nat} {ty : FieldType} {fs : List kk_Fd} {x : Int32} (hd : kk_d cc pc (.putfield idx) 3 b) (hf : kk_FL own idx ci j ty) (hfin : kk_FN ci j) (hn : narrow ty (.int x) = .int x) (hfit : fits ty (.int x) = true) {k0 : Nat} (hs : sh[k0]? = some (.inr (ci, fs))) (hj' : fs[j]? = some none) (k : KK Z sh own cc nL ret R Qc b lv (st) (kk_wr σ k0 j x)) : KK Z sh own cc nL ret R Qc pc lv (.int x :: .ref (Z.2.1 k0) :: st) σ := by
  obtain ⟨hd, rfl⟩ := hd
  intro p e s m args below meth c C H locs ls hP hS hl
  obtain ⟨C', T, N, ty0, hc, hj, hin, hty, hnm, hTC, hdsc, hlink⟩ := hf
  obtain ⟨C2, T2, N2, hc2, hfn⟩ := hfin
  obtain ⟨rfl, rfl, rfl⟩ : C' = C2 ∧ T = T2 ∧ N = N2 := by
    have h := hc.symm.trans hc2
    simp only [Option.some.injEq, Prod.mk.injEq] at h
    exact h
  have hlen : j < (kk_fvs Z.2.1 (σ.1 k0) 0 fs).length := by rw [kk_fvs_len]; exact (List.getElem?_eq_some_iff.mp hj').1
  rcases hlink with h | ⟨host, h⟩
  · exact va_put C.1 C.2.1 C.2.2.2.2.2.1 hin ty0 hty hnm C.2.2.2.2.1 C.2.2.2.2.2.2.2.1 hP (kk_D σ _ C.2.2.2.2.2.2.2.2.2) hS k0 (kk_ws_get hs) hc j hj (C.2.2.2.2.2.1 _ h) (fun _ h9 => by rw [hTC] at h9; exact h9) hfn hdsc hn hfit hlen hd (fun H locs hP _ hS => by rw [kk_ws_setO hs hj'] at hP; exact k p e s m args below meth c C H locs ls hP hS hl)
  · exact va_putN C.1 C.2.1 C.2.2.2.2.2.1 hin ty0 hty hnm C.2.2.2.2.1 C.2.2.2.2.2.2.2.1 hP (kk_D σ _ C.2.2.2.2.2.2.2.2.2) hS k0 (kk_ws_get hs) hc j hj (va_Nw.use (kk_isN_on rfl) (C.2.2.2.2.2.2.2.2.1 _ h)) (fun _ h9 => by rw [hTC] at h9; exact h9) hfn hdsc hn hfit hlen hd (fun H locs hP _ hS => by rw [kk_ws_setO hs hj'] at hP; exact k p e s m args below meth c C H locs ls hP hS hl)
theorem kk_puti {idx ci j : Nat} {fs : List kk_Fd} {x : Int32} (hd : kk_d cc pc (.putfield idx) 3 b) (hf : kk_FL own idx ci j .int) (hfin : kk_FN ci j) {k0 : Nat} (hs : sh[k0]? = some (.inr (ci, fs))) (hj' : fs[j]? = some none) (k : KK Z sh own cc nL ret R Qc b lv (st) (kk_wr σ k0 j x)) : KK Z sh own cc nL ret R Qc pc lv (.int x :: .ref (Z.2.1 k0) :: st) σ :=
  kk_putv hd hf hfin rfl rfl hs hj' k
theorem kk_putz {idx ci j : Nat} {fs : List kk_Fd} {x : Int32} (hd : kk_d cc pc (.putfield idx) 3 b) (hf : kk_FL own idx ci j .boolean) (hfin : kk_FN ci j) (hx : x = 0 ∨ x = 1) {k0 : Nat} (hs : sh[k0]? = some (.inr (ci, fs))) (hj' : fs[j]? = some none) (k : KK Z sh own cc nL ret R Qc b lv (st) (kk_wr σ k0 j x)) : KK Z sh own cc nL ret R Qc pc lv (.int x :: .ref (Z.2.1 k0) :: st) σ :=
  kk_putv hd hf hfin (by rcases hx with rfl | rfl <;> rfl) (by rcases hx with rfl | rfl <;> rfl) hs hj' k
theorem kk_iald {i : Int32} {k0 n : Nat} (hd : kk_d cc pc .iaload 1 b) (hs : sh[k0]? = some (.inl (false, n))) (hin : vp_in i n) (k : KK Z sh own cc nL ret R Qc b lv (.int (kk_rd σ k0 i) :: st) σ) : KK Z sh own cc nL ret R Qc pc lv (.int i :: .ref (Z.2.1 k0) :: st) σ := by
  obtain ⟨hd, rfl⟩ := hd
  intro p e s m args below meth c C H locs ls hP hS hl
  exact va_iald C.1 C.2.1 C.2.2.2.2.2.2.2.1 hP k0 0 (kk_ws_get hs) rfl hin hd (k p e s m args below meth c C H locs ls hP hS hl)
theorem kk_iast {i x : Int32} {k0 n : Nat} (hd : kk_d cc pc .iastore 1 b) (hs : sh[k0]? = some (.inl (false, n))) (hin : vp_in i n) (k : KK Z sh own cc nL ret R Qc b lv (st) (kk_wr σ k0 i.toNatClampNeg x)) : KK Z sh own cc nL ret R Qc pc lv (.int x :: .int i :: .ref (Z.2.1 k0) :: st) σ := by
  obtain ⟨hd, rfl⟩ := hd
  intro p e s m args below meth c C H locs ls hP hS hl
  exact va_iast C.1 C.2.1 C.2.2.2.2.2.2.2.1 hP (kk_D σ _ C.2.2.2.2.2.2.2.2.2) hS k0 0 (kk_ws_get hs) rfl hin hd (fun H locs hP _ hS => by rw [kk_ws_setA hs] at hP; exact k p e s m args below meth c C H locs ls hP hS hl)
theorem kk_lald {i : Int32} {k0 n : Nat} (hd : kk_d cc pc .laload 1 b) (hs : sh[k0]? = some (.inl (true, n))) (hin : vp_in i n) (k : KK Z sh own cc nL ret R Qc b lv (.long (σ.2 i.toNatClampNeg) :: st) σ) : KK Z sh own cc nL ret R Qc pc lv (.int i :: .ref (Z.2.1 k0) :: st) σ := by
  obtain ⟨hd, rfl⟩ := hd
  intro p e s m args below meth c C H locs ls hP hS hl
  exact va_lald C.1 C.2.1 C.2.2.2.2.2.2.2.1 hP k0 1 (kk_ws_get hs) rfl hin hd (k p e s m args below meth c C H locs ls hP hS hl)
theorem kk_last {i : Int32} {x : Int64} {k0 n : Nat} (hd : kk_d cc pc .lastore 1 b) (hs : sh[k0]? = some (.inl (true, n))) (hu : ∀ t m, sh[t]? = some (.inl (true, m)) → t = k0) (hin : vp_in i n) (k : KK Z sh own cc nL ret R Qc b lv (st) (kk_wrL σ i.toNatClampNeg x)) : KK Z sh own cc nL ret R Qc pc lv (.long x :: .int i :: .ref (Z.2.1 k0) :: st) σ := by
  obtain ⟨hd, rfl⟩ := hd
  intro p e s m args below meth c C H locs ls hP hS hl
  exact va_last C.1 C.2.1 C.2.2.2.2.2.2.2.1 hP (kk_D σ _ C.2.2.2.2.2.2.2.2.2) hS k0 1 (kk_ws_get hs) rfl hin hd (fun H locs hP _ hS => by rw [kk_ws_setL hs hu] at hP; exact k p e s m args below meth c C H locs ls hP hS hl)
theorem kk_alen {k0 n : Nat} {v : Int32} (hd : kk_d cc pc .arraylength 1 b) (hs : sh[k0]? = some (.inl (false, n))) (hv : Int32.ofNat n = v) (k : KK Z sh own cc nL ret R Qc b lv (.int v :: st) σ) : KK Z sh own cc nL ret R Qc pc lv (.ref (Z.2.1 k0) :: st) σ := by
  obtain ⟨hd, rfl⟩ := hd
  intro p e s m args below meth c C H locs ls hP hS hl
  exact va_alen C.1 C.2.1 C.2.2.2.2.2.2.2.1 hP k0 0 (kk_ws_get hs) rfl hv hd (k p e s m args below meth c C H locs ls hP hS hl)
theorem kk_copy {idx : Nat} {k0 k1 n0 n1 : Nat} {n : Int32} (hd : kk_d cc pc (.invokestatic idx) 3 b) (hw1 : Cond.methodLink own idx arraycopyName ∈ kk_good) (hw2 : Cond.native arraycopyName ∈ kk_good) (hw3 : Cond.static arraycopyName ∈ kk_good) (hw4 : Cond.initialized "java/lang/System" ∈ kk_good) (hs0 : sh[k0]? = some (.inl (false, n0))) (hs1 : sh[k1]? = some (.inl (false, n1))) (h3 : ¬ n < 0) (h4 : n.toNatClampNeg ≤ n0) (h5 : n.toNatClampNeg ≤ n1) (hR : 1 ≤ R.frames ∧ (st.map fun v => v.category).sum + (nativeFrameWords "java/lang/System" "arraycopy" 5 + 11) ≤ R.locals) (k : KK Z sh own cc nL ret R Qc b lv (st) (kk_wrF σ k1 (va_cpy (σ.1 k0) (σ.1 k1) 0 0 n.toNatClampNeg))) : KK Z sh own cc nL ret R Qc pc lv (.int n :: .int 0 :: .ref (Z.2.1 k1) :: .int 0 :: .ref (Z.2.1 k0) :: st) σ := by
  obtain ⟨hd, rfl⟩ := hd
  intro p e s m args below meth c C H locs ls hP hS hl
  exact va_copyi C.1 C.2.1 (by rw [C.2.2.2.1]; exact hl.1.symm) C.2.2.2.2.1 (C.2.2.2.2.2.1 _ hw1) (C.2.2.2.2.2.1 _ hw2) (C.2.2.2.2.2.1 _ hw3) (C.2.2.2.2.2.1 _ hw4) C.2.2.2.2.2.2.2.1 hP (kk_D σ _ C.2.2.2.2.2.2.2.2.2) hS k0 k1 0 0 (kk_ws_get hs0) (kk_ws_get hs1) rfl rfl rfl (by decide) (by decide) h3 (by show 0 + _ ≤ _; omega) (by show 0 + _ ≤ _; omega) (fun _ _ => rfl) hR.1 hR.2 hd (fun H locs hP _ hS => by rw [kk_ws_setA hs1] at hP; exact k p e s m args below meth c C H locs ls hP hS hl)
theorem kk_iret {Q : Int32 → kk_St → Prop} {v : Int32} (hd : kk_d cc pc .ireturn 1 b) (h : Q v σ) : KK Z sh own cc nL (some .int) R (kk_Qi Z sh Q) pc lv [.int v] σ := by
  obtain ⟨hd, rfl⟩ := hd
  intro p e s m args below meth c C H locs ls hP hS hl
  exact W.iret (v := v) C.1 C.2.1 C.2.2.1 (fun t ht hW => ⟨⟨v, σ, rfl, h, by show kk_P Z sh σ t.heap; rw [ht]; exact hP⟩, hS.F ht⟩) hS.2.2 hd C.2.2.2.2.2.2.1
theorem kk_zret {Q : Int32 → kk_St → Prop} {v : Int32} (hd : kk_d cc pc .ireturn 1 b) (hv : v = 0 ∨ v = 1) (h : Q v σ) : KK Z sh own cc nL (some .boolean) R (kk_Qi Z sh Q) pc lv [.int v] σ := by
  obtain ⟨hd, rfl⟩ := hd
  intro p e s m args below meth c C H locs ls hP hS hl
  exact W.zret (v := v) C.1 C.2.1 C.2.2.1 (by rcases hv with rfl | rfl <;> rfl) (fun t ht hW => ⟨⟨v, σ, rfl, h, by show kk_P Z sh σ t.heap; rw [ht]; exact hP⟩, hS.F ht⟩) hS.2.2 hd C.2.2.2.2.2.2.1
theorem kk_lret {Q : Int64 → kk_St → Prop} {v : Int64} (hd : kk_d cc pc .lreturn 1 b) (h : Q v σ) : KK Z sh own cc nL (some .long) R (kk_Ql Z sh Q) pc lv [.long v] σ := by
  obtain ⟨hd, rfl⟩ := hd
  intro p e s m args below meth c C H locs ls hP hS hl
  exact W.lret (v := v) C.1 C.2.1 C.2.2.1 (fun t ht hW => ⟨⟨v, σ, rfl, h, by show kk_P Z sh σ t.heap; rw [ht]; exact hP⟩, hS.F ht⟩) hS.2.2 hd C.2.2.2.2.2.2.1
theorem kk_vret {Q : kk_St → Prop} (hd : kk_d cc pc .return_ 1 b) (h : Q σ) : KK Z sh own cc nL none R (kk_Qv Z sh Q) pc lv [] σ := by
  obtain ⟨hd, rfl⟩ := hd
  intro p e s m args below meth c C H locs ls hP hS hl
  exact W.vret C.1 C.2.1 C.2.2.1 (fun t ht hW => ⟨⟨σ, rfl, h, by show kk_P Z sh σ t.heap; rw [ht]; exact hP⟩, hS.F ht⟩) hS.2.2 hd C.2.2.2.2.2.2.1
theorem kk_met {y : MethodName} {av : List Value} (hy : plainName y.cls = true) (hown : y.cls = own) (hlen : (lg_sl av).length ≤ nL) (hlv : lv_args 0 av = lv) (k : KK Z sh own cc nL ret R Qc 0 lv [] σ) : kk_M Z sh y cc nL ret R av σ Qc := by
  intro sz
  refine Met.ofW (cc := cc) (maxL := nL) (ret := ret) hy rfl ?_
  intro p e s m args below meth c s₁ B hml hv
  obtain ⟨rfl, hsz, hP, hK⟩ := hv
  subst hsz
  have hts := atoms_spec (ws := .code y cc nL ret :: kk_good) B.pre
  have hown' : s.vm.findClass own = some m.cls := by rw [← hown]; exact findClass_of_methodNamed B.named
  have hl := lv_entry av (n := nL) hlen
  rw [lg_entry_eq]
  generalize (lg_sl av ++ List.replicate (nL - (lg_sl av).length) Slot.unset).toArray = ls at hl ⊢
  rw [hlv] at hl
  exact k p e s m _ below meth c ⟨B.exec, B.bytes, B.returns, hml, hown', fun w hw => hts w (List.mem_cons_of_mem _ hw), B.notSynchronized, hK⟩ s.heap [] ls hP va_S.rf hl
def kk_ML (own : String) (idx : Nat) (y : MethodName) (cc : ByteArray) (nL : Nat) (ret : Option FieldType) (n : Nat) (stat : Bool) : Prop :=
  Cond.code y cc nL ret ∈ kk_good ∧ Cond.initialized y.cls ∈ kk_good ∧ (y.cls ≠ "java/lang/invoke/MethodHandle" ∧ y.cls ≠ "java/lang/invoke/VarHandle" ∧ (parseMethodDescriptor y.desc).map (fun d => d.parameters.length) = some n) ∧ (match stat with
    | true => Cond.static y ∈ kk_good
    | false => Cond.instanceMethod y ∈ kk_good ∧ Cond.selects y.cls y y ∈ kk_good) ∧ (Cond.methodLink own idx y ∈ kk_good ∨ ∃ host, Cond.methodLinkNest own idx y host ∈ kk_nest)
def kk_fit (nL : Nat) (R' R : Room) : Prop := R'.cells = 0 ∧ R'.slots = 0 ∧ R'.frames + 1 ≤ R.frames ∧ 8 + (nL + 11) + R'.locals ≤ R.locals
def kk_rcv (sh : List kk_Sh) (k : Nat) (y : MethodName) : Prop := ∃ (ci : Nat) (fs : List kk_Fd) (T : u_T) (N : Nat), sh[k]? = some (.inr (ci, fs)) ∧ vwCl[ci]? = some (y.cls, T, N)
theorem kk_goodW {w : Cond} (h : w ∈ kk_good) : (w.onTables && w.keeps) = true ∨ ∃ ty, w = .arrayClass ty := good_of_word (List.mem_filter.mp h).2
theorem kk_goodIn {w : Cond} (h : w ∈ kk_good) : GoodIn kk_good (w :: kk_good) := fun v hv => by
  rcases List.mem_cons.mp hv with rfl | hv
  · exact ⟨h, kk_goodW h⟩
  · exact ⟨hv, kk_goodW hv⟩
theorem kk_K.warm {s U : State} (h : kk_K Z sh s) (hW : s.WarmedH U.vm) : kk_K Z sh U := ⟨va_K.moved hW.alike h.1, fun w hw => kk_isN_warm (List.mem_filter.mp hw).2 hW (h.2.1 w hw), h.2.2⟩
theorem kk_blind {av : List Value} {sz : Nat} : FrameBlind (va_Pc av (fun U => U.heap.size = sz ∧ kk_P Z sh σ U.heap ∧ kk_K Z sh U)) := by
  intro a U g mk q
  obtain ⟨q0, q1, qP, qK, qN, qI⟩ := q
  exact ⟨q0, q1, qP, va_K.moved (u := U) (U := U.calling g mk a) (Vm.Alike.refl U.vm) qK, fun w hw => va_Nw.same (u := U) (U := U.calling g mk a) (kk_isN_on (List.mem_filter.mp hw).2) rfl (qN w hw), qI⟩
theorem kk_A_mono {sz sz' : Nat} (h : sz ≤ sz') : ∀ q, kk_A Z sh sz' q → kk_A Z sh sz q := by
  intro q hq
  rcases hq with h1 | h1
  · exact Or.inl h1
  · exact Or.inr (Nat.le_trans h h1)
theorem kk_runV {p : Program} {e : Env} {s : State} {m : MethodId} {args : Array Value} {below : List Frame} {meth : Method} {c : Code} {H : Heap} {locs : List Loc} {ls : Array Slot}
    {y : MethodName} {cc' : ByteArray} {nL' : Nat} {ret' : Option FieldType} {R' : Room} {Qc' : kk_Qt} {idx n k0 : Nat} {As rest st0 : List Value}
    (hM : kk_M Z sh y cc' nL' ret' R' (.ref (Z.2.1 k0) :: As) σ Qc') (hml : kk_ML own idx y cc' nL' ret' n false) (hrc : kk_rcv sh k0 y) (hn : As.length = n) (hR : kk_fit nL' R' R) (hcat : (rest.map fun v => v.category).sum ≤ 8) (hst : st0 = As.reverse ++ .ref (Z.2.1 k0) :: rest)
    (C : kk_C Z sh own cc nL ret p s m args meth c) (hP : kk_P Z sh σ H) (hl : lv_has ls nL lv) (hd : decode cc pc = .ok (.invokevirtual idx, 3)) :
    va_Run p Z.1 e R s m args below meth c H locs 0 0 0 0 (F0 m pc ls st0) rest (Qc' (kk_A Z sh H.size) (Value.ref (Z.2.1 k0) :: As).toArray) (kk_A Z sh H.size) := by
  obtain ⟨hx, hb, hr, hmx, hown, hts, hlocks, hK⟩ := C
  obtain ⟨hcode, hini, hdd, ⟨hinst, hsel⟩, hlink⟩ := hml
  obtain ⟨ci, fs, T, N, hs, hc⟩ := hrc
  obtain ⟨r1, r2, r3, r4⟩ := hR
  have hpre : PreV s H y.cls (Z.2.1 k0) (va_Pc (.ref (Z.2.1 k0) :: As) (fun U => U.heap.size = H.size ∧ kk_P Z sh σ U.heap ∧ kk_K Z sh U)) As :=
    ⟨kk_blind, va_recv hK.1 hP (ci := ci) (q0 := k0) hc (kk_ws_get hs), fun U hU hW => ⟨rfl, by rw [hU], by rw [hU]; exact hP, hK.warm hW⟩⟩
  rcases hlink with h | ⟨host, h⟩
  · exact va_runV ⟨hx, hb, hmx, hown, hts⟩ (hM H.size) ⟨callB_of n hts (kk_goodIn hcode) rfl r1 r2 (hts _ hini) (hts _ h) hdd ⟨r3, r4⟩, hts _ hinst, hts _ hsel⟩ hpre rfl hn hl.1 hst (lv_room hcat) hd ⟨Nat.zero_le _, Nat.zero_le _⟩
  · exact va_runVN ⟨hx, hb, hmx, hown, hts⟩ (hM H.size) ⟨va_cnB n hts (kk_goodIn hcode) rfl r1 r2 (hK.2.1 _ h) (hts _ hini) hdd ⟨r3, r4⟩, hts _ hinst, hts _ hsel⟩ hpre rfl hn hl.1 hst (lv_room hcat) hd ⟨Nat.zero_le _, Nat.zero_le _⟩
theorem kk_runS {p : Program} {e : Env} {s : State} {m : MethodId} {args : Array Value} {below : List Frame} {meth : Method} {c : Code} {H : Heap} {locs : List Loc} {ls : Array Slot}
    {y : MethodName} {cc' : ByteArray} {nL' : Nat} {ret' : Option FieldType} {R' : Room} {Qc' : kk_Qt} {idx n : Nat} {As rest st0 : List Value}
    (hM : kk_M Z sh y cc' nL' ret' R' As σ Qc') (hml : kk_ML own idx y cc' nL' ret' n true) (hn : As.length = n) (hR : kk_fit nL' R' R) (hcat : (rest.map fun v => v.category).sum ≤ 8) (hst : st0 = As.reverse ++ rest)
    (C : kk_C Z sh own cc nL ret p s m args meth c) (hP : kk_P Z sh σ H) (hl : lv_has ls nL lv) (hd : decode cc pc = .ok (.invokestatic idx, 3)) :
    va_Run p Z.1 e R s m args below meth c H locs 0 0 0 0 (F0 m pc ls st0) rest (Qc' (kk_A Z sh H.size) As.toArray) (kk_A Z sh H.size) := by
  obtain ⟨hx, hb, hr, hmx, hown, hts, hlocks, hK⟩ := C
  obtain ⟨hcode, hini, hdd, hstat, hlink⟩ := hml
  obtain ⟨r1, r2, r3, r4⟩ := hR
  have hpre : PreS s H (va_Pc As (fun U => U.heap.size = H.size ∧ kk_P Z sh σ U.heap ∧ kk_K Z sh U)) As :=
    ⟨kk_blind, fun U hU hW => ⟨rfl, by rw [hU], by rw [hU]; exact hP, hK.warm hW⟩⟩
  rcases hlink with h | ⟨host, h⟩
  · exact va_runS ⟨hx, hb, hmx, hown, hts⟩ (hM H.size) ⟨callB_of n hts (kk_goodIn hcode) rfl r1 r2 (hts _ hini) (hts _ h) hdd ⟨r3, r4⟩, hts _ hstat⟩ hpre rfl hn hl.1 hst (lv_room hcat) hd ⟨Nat.zero_le _, Nat.zero_le _⟩
  · exact va_runSN ⟨hx, hb, hmx, hown, hts⟩ (hM H.size) ⟨va_cnB n hts (kk_goodIn hcode) rfl r1 r2 (hK.2.1 _ h) (hts _ hini) hdd ⟨r3, r4⟩, hts _ hstat, trivial⟩ hpre rfl hn hl.1 hst (lv_room hcat) hd ⟨Nat.zero_le _, Nat.zero_le _⟩
theorem kk_callVi {y : MethodName} {cc' : ByteArray} {nL' : Nat} {ret' : Option FieldType} {R' : Room} {idx n k0 : Nat} {As rest st0 : List Value} {Q : Int32 → kk_St → Prop} (hd : kk_d cc pc (.invokevirtual idx) 3 b) (hml : kk_ML own idx y cc' nL' ret' n false) (hrc : kk_rcv sh k0 y) (hn : As.length = n) (hR : kk_fit nL' R' R) (hcat : (rest.map fun v => v.category).sum ≤ 8) (hst : st0 = As.reverse ++ .ref (Z.2.1 k0) :: rest) (hM : kk_M Z sh y cc' nL' ret' R' (.ref (Z.2.1 k0) :: As) σ (kk_Qi Z sh Q)) (k : ∀ (r : Int32) (σ' : kk_St), Q r σ' → KK Z sh own cc nL ret R Qc b lv (.int r :: rest) σ') : KK Z sh own cc nL ret R Qc pc lv (st0) σ := by
  obtain ⟨hd, rfl⟩ := hd
  intro p e s m args below meth c C H locs ls hP hS hl
  exact va_calli (kk_runV hM hml hrc hn hR hcat hst C hP hl hd) hS (fun q _ h => kk_A_mono hS.1 q h) (kk_A_mono hS.1) (fun r u t H1 locs1 ht hvm hw hB hz1 hk1 hS => k r u hw p e s m args below meth c C H1 locs1 ls (by rw [← ht]; exact hB) hS hl)
theorem kk_callVip {y : MethodName} {cc' : ByteArray} {nL' : Nat} {ret' : Option FieldType} {R' : Room} {idx n k0 : Nat} {As rest st0 : List Value} {Q : Int32 → Prop} (hd : kk_d cc pc (.invokevirtual idx) 3 b) (hml : kk_ML own idx y cc' nL' ret' n false) (hrc : kk_rcv sh k0 y) (hn : As.length = n) (hR : kk_fit nL' R' R) (hcat : (rest.map fun v => v.category).sum ≤ 8) (hst : st0 = As.reverse ++ .ref (Z.2.1 k0) :: rest) (hM : kk_M Z sh y cc' nL' ret' R' (.ref (Z.2.1 k0) :: As) σ (kk_Qi Z sh (fun r σ' => σ' = σ ∧ Q r))) (k : ∀ (r : Int32), Q r → KK Z sh own cc nL ret R Qc b lv (.int r :: rest) σ) : KK Z sh own cc nL ret R Qc pc lv (st0) σ := kk_callVi hd hml hrc hn hR hcat hst hM (fun r σ' h => by obtain ⟨rfl, h⟩ := h; exact k r h)
theorem kk_callVl {y : MethodName} {cc' : ByteArray} {nL' : Nat} {ret' : Option FieldType} {R' : Room} {idx n k0 : Nat} {As rest st0 : List Value} {Q : Int64 → kk_St → Prop} (hd : kk_d cc pc (.invokevirtual idx) 3 b) (hml : kk_ML own idx y cc' nL' ret' n false) (hrc : kk_rcv sh k0 y) (hn : As.length = n) (hR : kk_fit nL' R' R) (hcat : (rest.map fun v => v.category).sum ≤ 8) (hst : st0 = As.reverse ++ .ref (Z.2.1 k0) :: rest) (hM : kk_M Z sh y cc' nL' ret' R' (.ref (Z.2.1 k0) :: As) σ (kk_Ql Z sh Q)) (k : ∀ (r : Int64) (σ' : kk_St), Q r σ' → KK Z sh own cc nL ret R Qc b lv (.long r :: rest) σ') : KK Z sh own cc nL ret R Qc pc lv (st0) σ := by
  obtain ⟨hd, rfl⟩ := hd
  intro p e s m args below meth c C H locs ls hP hS hl
  exact va_calll (kk_runV hM hml hrc hn hR hcat hst C hP hl hd) hS (fun q _ h => kk_A_mono hS.1 q h) (kk_A_mono hS.1) (fun r u t H1 locs1 ht hvm hw hB hz1 hk1 hS => k r u hw p e s m args below meth c C H1 locs1 ls (by rw [← ht]; exact hB) hS hl)
theorem kk_callVlp {y : MethodName} {cc' : ByteArray} {nL' : Nat} {ret' : Option FieldType} {R' : Room} {idx n k0 : Nat} {As rest st0 : List Value} {Q : Int64 → Prop} (hd : kk_d cc pc (.invokevirtual idx) 3 b) (hml : kk_ML own idx y cc' nL' ret' n false) (hrc : kk_rcv sh k0 y) (hn : As.length = n) (hR : kk_fit nL' R' R) (hcat : (rest.map fun v => v.category).sum ≤ 8) (hst : st0 = As.reverse ++ .ref (Z.2.1 k0) :: rest) (hM : kk_M Z sh y cc' nL' ret' R' (.ref (Z.2.1 k0) :: As) σ (kk_Ql Z sh (fun r σ' => σ' = σ ∧ Q r))) (k : ∀ (r : Int64), Q r → KK Z sh own cc nL ret R Qc b lv (.long r :: rest) σ) : KK Z sh own cc nL ret R Qc pc lv (st0) σ := kk_callVl hd hml hrc hn hR hcat hst hM (fun r σ' h => by obtain ⟨rfl, h⟩ := h; exact k r h)
theorem kk_callVv {y : MethodName} {cc' : ByteArray} {nL' : Nat} {ret' : Option FieldType} {R' : Room} {idx n k0 : Nat} {As rest st0 : List Value} {Q : kk_St → Prop} (hd : kk_d cc pc (.invokevirtual idx) 3 b) (hml : kk_ML own idx y cc' nL' ret' n false) (hrc : kk_rcv sh k0 y) (hn : As.length = n) (hR : kk_fit nL' R' R) (hcat : (rest.map fun v => v.category).sum ≤ 8) (hst : st0 = As.reverse ++ .ref (Z.2.1 k0) :: rest) (hM : kk_M Z sh y cc' nL' ret' R' (.ref (Z.2.1 k0) :: As) σ (kk_Qv Z sh Q)) (k : ∀ (σ' : kk_St), Q σ' → KK Z sh own cc nL ret R Qc b lv (rest) σ') : KK Z sh own cc nL ret R Qc pc lv (st0) σ := by
  obtain ⟨hd, rfl⟩ := hd
  intro p e s m args below meth c C H locs ls hP hS hl
  exact va_callv (kk_runV hM hml hrc hn hR hcat hst C hP hl hd) hS (fun q _ h => kk_A_mono hS.1 q h) (kk_A_mono hS.1) (fun u t H1 locs1 ht hvm hw hB hz1 hk1 hS => k u hw p e s m args below meth c C H1 locs1 ls (by rw [← ht]; exact hB) hS hl)
theorem kk_callVvp {y : MethodName} {cc' : ByteArray} {nL' : Nat} {ret' : Option FieldType} {R' : Room} {idx n k0 : Nat} {As rest st0 : List Value} {Q : Prop} (hd : kk_d cc pc (.invokevirtual idx) 3 b) (hml : kk_ML own idx y cc' nL' ret' n false) (hrc : kk_rcv sh k0 y) (hn : As.length = n) (hR : kk_fit nL' R' R) (hcat : (rest.map fun v => v.category).sum ≤ 8) (hst : st0 = As.reverse ++ .ref (Z.2.1 k0) :: rest) (hM : kk_M Z sh y cc' nL' ret' R' (.ref (Z.2.1 k0) :: As) σ (kk_Qv Z sh (fun σ' => σ' = σ ∧ Q))) (k : Q → KK Z sh own cc nL ret R Qc b lv (rest) σ) : KK Z sh own cc nL ret R Qc pc lv (st0) σ := kk_callVv hd hml hrc hn hR hcat hst hM (fun σ' h => by obtain ⟨rfl, h⟩ := h; exact k h)
theorem kk_callSi {y : MethodName} {cc' : ByteArray} {nL' : Nat} {ret' : Option FieldType} {R' : Room} {idx n : Nat} {As rest st0 : List Value} {Q : Int32 → kk_St → Prop} (hd : kk_d cc pc (.invokestatic idx) 3 b) (hml : kk_ML own idx y cc' nL' ret' n true) (hn : As.length = n) (hR : kk_fit nL' R' R) (hcat : (rest.map fun v => v.category).sum ≤ 8) (hst : st0 = As.reverse ++ rest) (hM : kk_M Z sh y cc' nL' ret' R' As σ (kk_Qi Z sh Q)) (k : ∀ (r : Int32) (σ' : kk_St), Q r σ' → KK Z sh own cc nL ret R Qc b lv (.int r :: rest) σ') : KK Z sh own cc nL ret R Qc pc lv (st0) σ := by
  obtain ⟨hd, rfl⟩ := hd
  intro p e s m args below meth c C H locs ls hP hS hl
  exact va_calli (kk_runS hM hml hn hR hcat hst C hP hl hd) hS (fun q _ h => kk_A_mono hS.1 q h) (kk_A_mono hS.1) (fun r u t H1 locs1 ht hvm hw hB hz1 hk1 hS => k r u hw p e s m args below meth c C H1 locs1 ls (by rw [← ht]; exact hB) hS hl)
theorem kk_callSip {y : MethodName} {cc' : ByteArray} {nL' : Nat} {ret' : Option FieldType} {R' : Room} {idx n : Nat} {As rest st0 : List Value} {Q : Int32 → Prop} (hd : kk_d cc pc (.invokestatic idx) 3 b) (hml : kk_ML own idx y cc' nL' ret' n true) (hn : As.length = n) (hR : kk_fit nL' R' R) (hcat : (rest.map fun v => v.category).sum ≤ 8) (hst : st0 = As.reverse ++ rest) (hM : kk_M Z sh y cc' nL' ret' R' As σ (kk_Qi Z sh (fun r σ' => σ' = σ ∧ Q r))) (k : ∀ (r : Int32), Q r → KK Z sh own cc nL ret R Qc b lv (.int r :: rest) σ) : KK Z sh own cc nL ret R Qc pc lv (st0) σ := kk_callSi hd hml hn hR hcat hst hM (fun r σ' h => by obtain ⟨rfl, h⟩ := h; exact k r h)
theorem kk_callSl {y : MethodName} {cc' : ByteArray} {nL' : Nat} {ret' : Option FieldType} {R' : Room} {idx n : Nat} {As rest st0 : List Value} {Q : Int64 → kk_St → Prop} (hd : kk_d cc pc (.invokestatic idx) 3 b) (hml : kk_ML own idx y cc' nL' ret' n true) (hn : As.length = n) (hR : kk_fit nL' R' R) (hcat : (rest.map fun v => v.category).sum ≤ 8) (hst : st0 = As.reverse ++ rest) (hM : kk_M Z sh y cc' nL' ret' R' As σ (kk_Ql Z sh Q)) (k : ∀ (r : Int64) (σ' : kk_St), Q r σ' → KK Z sh own cc nL ret R Qc b lv (.long r :: rest) σ') : KK Z sh own cc nL ret R Qc pc lv (st0) σ := by
  obtain ⟨hd, rfl⟩ := hd
  intro p e s m args below meth c C H locs ls hP hS hl
  exact va_calll (kk_runS hM hml hn hR hcat hst C hP hl hd) hS (fun q _ h => kk_A_mono hS.1 q h) (kk_A_mono hS.1) (fun r u t H1 locs1 ht hvm hw hB hz1 hk1 hS => k r u hw p e s m args below meth c C H1 locs1 ls (by rw [← ht]; exact hB) hS hl)
theorem kk_callSlp {y : MethodName} {cc' : ByteArray} {nL' : Nat} {ret' : Option FieldType} {R' : Room} {idx n : Nat} {As rest st0 : List Value} {Q : Int64 → Prop} (hd : kk_d cc pc (.invokestatic idx) 3 b) (hml : kk_ML own idx y cc' nL' ret' n true) (hn : As.length = n) (hR : kk_fit nL' R' R) (hcat : (rest.map fun v => v.category).sum ≤ 8) (hst : st0 = As.reverse ++ rest) (hM : kk_M Z sh y cc' nL' ret' R' As σ (kk_Ql Z sh (fun r σ' => σ' = σ ∧ Q r))) (k : ∀ (r : Int64), Q r → KK Z sh own cc nL ret R Qc b lv (.long r :: rest) σ) : KK Z sh own cc nL ret R Qc pc lv (st0) σ := kk_callSl hd hml hn hR hcat hst hM (fun r σ' h => by obtain ⟨rfl, h⟩ := h; exact k r h)
theorem kk_callSv {y : MethodName} {cc' : ByteArray} {nL' : Nat} {ret' : Option FieldType} {R' : Room} {idx n : Nat} {As rest st0 : List Value} {Q : kk_St → Prop} (hd : kk_d cc pc (.invokestatic idx) 3 b) (hml : kk_ML own idx y cc' nL' ret' n true) (hn : As.length = n) (hR : kk_fit nL' R' R) (hcat : (rest.map fun v => v.category).sum ≤ 8) (hst : st0 = As.reverse ++ rest) (hM : kk_M Z sh y cc' nL' ret' R' As σ (kk_Qv Z sh Q)) (k : ∀ (σ' : kk_St), Q σ' → KK Z sh own cc nL ret R Qc b lv (rest) σ') : KK Z sh own cc nL ret R Qc pc lv (st0) σ := by
  obtain ⟨hd, rfl⟩ := hd
  intro p e s m args below meth c C H locs ls hP hS hl
  exact va_callv (kk_runS hM hml hn hR hcat hst C hP hl hd) hS (fun q _ h => kk_A_mono hS.1 q h) (kk_A_mono hS.1) (fun u t H1 locs1 ht hvm hw hB hz1 hk1 hS => k u hw p e s m args below meth c C H1 locs1 ls (by rw [← ht]; exact hB) hS hl)
theorem kk_callSvp {y : MethodName} {cc' : ByteArray} {nL' : Nat} {ret' : Option FieldType} {R' : Room} {idx n : Nat} {As rest st0 : List Value} {Q : Prop} (hd : kk_d cc pc (.invokestatic idx) 3 b) (hml : kk_ML own idx y cc' nL' ret' n true) (hn : As.length = n) (hR : kk_fit nL' R' R) (hcat : (rest.map fun v => v.category).sum ≤ 8) (hst : st0 = As.reverse ++ rest) (hM : kk_M Z sh y cc' nL' ret' R' As σ (kk_Qv Z sh (fun σ' => σ' = σ ∧ Q))) (k : Q → KK Z sh own cc nL ret R Qc b lv (rest) σ) : KK Z sh own cc nL ret R Qc pc lv (st0) σ := kk_callSv hd hml hn hR hcat hst hM (fun σ' h => by obtain ⟨rfl, h⟩ := h; exact k h)
end
end
section
def kk_j0  (K : Prop) (B : (Prop) → Prop) : Prop := B K
theorem kk_jW0  {K P : Prop} {B : (Prop) → Prop} {G : Prop} (h : kk_j0 K B) (hJ : K → P) (hb : ∀ J : Prop, (J → P) → B J → G) : G := hb K hJ h
def kk_j1 {α0 : Type} (K : α0 → Prop) (B : (α0 → Prop) → Prop) : Prop := B K
theorem kk_jW1 {α0 : Type} {K P : α0 → Prop} {B : (α0 → Prop) → Prop} {G : Prop} (h : kk_j1 K B) (hJ : ∀ (x0 : α0), K x0 → P x0) (hb : ∀ J : α0 → Prop, (∀ (x0 : α0), J x0 → P x0) → B J → G) : G := hb K hJ h
def kk_it1 {α0 : Type} (F : (α0 → Prop) → α0 → Prop) : Nat → α0 → Prop
  | 0 => fun _ => False
  | n + 1 => F (kk_it1 F n)
def kk_lp1 {α0 : Type} (F : (α0 → Prop) → α0 → Prop) (x0 : α0) : Prop := ∃ n, kk_it1 F n x0
theorem kk_lpW1 {α0 : Type} {F : (α0 → Prop) → α0 → Prop} {P : α0 → Prop} (hs : ∀ rec : α0 → Prop, (∀ (x0 : α0), rec x0 → P x0) → ∀ (x0 : α0), F rec x0 → P x0) {x0 : α0} (h : kk_lp1 F x0) : P x0 := by
  obtain ⟨n, h⟩ := h
  revert h
  revert x0
  induction n with
  | zero => intro x0 h; exact h.elim
  | succ n ih => intro x0 h; exact hs (kk_it1 F n) (fun x0 h => ih h) x0 h
/-- a loop: an invariant and a measure that falls -/
theorem kk_lpI1 {α0 : Type} {F : (α0 → Prop) → α0 → Prop} (I : α0 → Prop) (μ : α0 → Nat) (hs : ∀ rec : α0 → Prop, ∀ (x0 : α0), I x0 → (∀ (x0' : α0), I x0' → μ x0' < μ x0 → rec x0') → F rec x0) {x0 : α0} (h : I x0) : kk_lp1 F x0 := by
  have key : ∀ n, ∀ (x0 : α0), I x0 → μ x0 < n → kk_it1 F n x0 := by
    intro n
    induction n with
    | zero => intro x0 _ h0; exact absurd h0 (Nat.not_lt_zero _)
    | succ n ih => exact fun x0 h1 h2 => hs (kk_it1 F n) x0 h1 (fun x0' h3 h4 => ih x0' h3 (by omega))
  exact ⟨μ x0 + 1, key _ x0 h (Nat.lt_succ_self _)⟩
def kk_j2 {α0 : Type} {α1 : Type} (K : α0 → α1 → Prop) (B : (α0 → α1 → Prop) → Prop) : Prop := B K
theorem kk_jW2 {α0 : Type} {α1 : Type} {K P : α0 → α1 → Prop} {B : (α0 → α1 → Prop) → Prop} {G : Prop} (h : kk_j2 K B) (hJ : ∀ (x0 : α0) (x1 : α1), K x0 x1 → P x0 x1) (hb : ∀ J : α0 → α1 → Prop, (∀ (x0 : α0) (x1 : α1), J x0 x1 → P x0 x1) → B J → G) : G := hb K hJ h
def kk_it2 {α0 : Type} {α1 : Type} (F : (α0 → α1 → Prop) → α0 → α1 → Prop) : Nat → α0 → α1 → Prop
  | 0 => fun _ _ => False
  | n + 1 => F (kk_it2 F n)
def kk_lp2 {α0 : Type} {α1 : Type} (F : (α0 → α1 → Prop) → α0 → α1 → Prop) (x0 : α0) (x1 : α1) : Prop := ∃ n, kk_it2 F n x0 x1
theorem kk_lpW2 {α0 : Type} {α1 : Type} {F : (α0 → α1 → Prop) → α0 → α1 → Prop} {P : α0 → α1 → Prop} (hs : ∀ rec : α0 → α1 → Prop, (∀ (x0 : α0) (x1 : α1), rec x0 x1 → P x0 x1) → ∀ (x0 : α0) (x1 : α1), F rec x0 x1 → P x0 x1) {x0 : α0} {x1 : α1} (h : kk_lp2 F x0 x1) : P x0 x1 := by
  obtain ⟨n, h⟩ := h
  revert h
  revert x0 x1
  induction n with
  | zero => intro x0 x1 h; exact h.elim
  | succ n ih => intro x0 x1 h; exact hs (kk_it2 F n) (fun x0 x1 h => ih h) x0 x1 h
/-- a loop: an invariant and a measure that falls -/
theorem kk_lpI2 {α0 : Type} {α1 : Type} {F : (α0 → α1 → Prop) → α0 → α1 → Prop} (I : α0 → α1 → Prop) (μ : α0 → α1 → Nat) (hs : ∀ rec : α0 → α1 → Prop, ∀ (x0 : α0) (x1 : α1), I x0 x1 → (∀ (x0' : α0) (x1' : α1), I x0' x1' → μ x0' x1' < μ x0 x1 → rec x0' x1') → F rec x0 x1) {x0 : α0} {x1 : α1} (h : I x0 x1) : kk_lp2 F x0 x1 := by
  have key : ∀ n, ∀ (x0 : α0) (x1 : α1), I x0 x1 → μ x0 x1 < n → kk_it2 F n x0 x1 := by
    intro n
    induction n with
    | zero => intro x0 x1 _ h0; exact absurd h0 (Nat.not_lt_zero _)
    | succ n ih => exact fun x0 x1 h1 h2 => hs (kk_it2 F n) x0 x1 h1 (fun x0' x1' h3 h4 => ih x0' x1' h3 (by omega))
  exact ⟨μ x0 x1 + 1, key _ x0 x1 h (Nat.lt_succ_self _)⟩
def kk_j3 {α0 : Type} {α1 : Type} {α2 : Type} (K : α0 → α1 → α2 → Prop) (B : (α0 → α1 → α2 → Prop) → Prop) : Prop := B K
theorem kk_jW3 {α0 : Type} {α1 : Type} {α2 : Type} {K P : α0 → α1 → α2 → Prop} {B : (α0 → α1 → α2 → Prop) → Prop} {G : Prop} (h : kk_j3 K B) (hJ : ∀ (x0 : α0) (x1 : α1) (x2 : α2), K x0 x1 x2 → P x0 x1 x2) (hb : ∀ J : α0 → α1 → α2 → Prop, (∀ (x0 : α0) (x1 : α1) (x2 : α2), J x0 x1 x2 → P x0 x1 x2) → B J → G) : G := hb K hJ h
def kk_it3 {α0 : Type} {α1 : Type} {α2 : Type} (F : (α0 → α1 → α2 → Prop) → α0 → α1 → α2 → Prop) : Nat → α0 → α1 → α2 → Prop
  | 0 => fun _ _ _ => False
  | n + 1 => F (kk_it3 F n)
def kk_lp3 {α0 : Type} {α1 : Type} {α2 : Type} (F : (α0 → α1 → α2 → Prop) → α0 → α1 → α2 → Prop) (x0 : α0) (x1 : α1) (x2 : α2) : Prop := ∃ n, kk_it3 F n x0 x1 x2
theorem kk_lpW3 {α0 : Type} {α1 : Type} {α2 : Type} {F : (α0 → α1 → α2 → Prop) → α0 → α1 → α2 → Prop} {P : α0 → α1 → α2 → Prop} (hs : ∀ rec : α0 → α1 → α2 → Prop, (∀ (x0 : α0) (x1 : α1) (x2 : α2), rec x0 x1 x2 → P x0 x1 x2) → ∀ (x0 : α0) (x1 : α1) (x2 : α2), F rec x0 x1 x2 → P x0 x1 x2) {x0 : α0} {x1 : α1} {x2 : α2} (h : kk_lp3 F x0 x1 x2) : P x0 x1 x2 := by
  obtain ⟨n, h⟩ := h
  revert h
  revert x0 x1 x2
  induction n with
  | zero => intro x0 x1 x2 h; exact h.elim
  | succ n ih => intro x0 x1 x2 h; exact hs (kk_it3 F n) (fun x0 x1 x2 h => ih h) x0 x1 x2 h
/-- a loop: an invariant and a measure that falls -/
theorem kk_lpI3 {α0 : Type} {α1 : Type} {α2 : Type} {F : (α0 → α1 → α2 → Prop) → α0 → α1 → α2 → Prop} (I : α0 → α1 → α2 → Prop) (μ : α0 → α1 → α2 → Nat) (hs : ∀ rec : α0 → α1 → α2 → Prop, ∀ (x0 : α0) (x1 : α1) (x2 : α2), I x0 x1 x2 → (∀ (x0' : α0) (x1' : α1) (x2' : α2), I x0' x1' x2' → μ x0' x1' x2' < μ x0 x1 x2 → rec x0' x1' x2') → F rec x0 x1 x2) {x0 : α0} {x1 : α1} {x2 : α2} (h : I x0 x1 x2) : kk_lp3 F x0 x1 x2 := by
  have key : ∀ n, ∀ (x0 : α0) (x1 : α1) (x2 : α2), I x0 x1 x2 → μ x0 x1 x2 < n → kk_it3 F n x0 x1 x2 := by
    intro n
    induction n with
    | zero => intro x0 x1 x2 _ h0; exact absurd h0 (Nat.not_lt_zero _)
    | succ n ih => exact fun x0 x1 x2 h1 h2 => hs (kk_it3 F n) x0 x1 x2 h1 (fun x0' x1' x2' h3 h4 => ih x0' x1' x2' h3 (by omega))
  exact ⟨μ x0 x1 x2 + 1, key _ x0 x1 x2 h (Nat.lt_succ_self _)⟩
def kk_j4 {α0 : Type} {α1 : Type} {α2 : Type} {α3 : Type} (K : α0 → α1 → α2 → α3 → Prop) (B : (α0 → α1 → α2 → α3 → Prop) → Prop) : Prop := B K
theorem kk_jW4 {α0 : Type} {α1 : Type} {α2 : Type} {α3 : Type} {K P : α0 → α1 → α2 → α3 → Prop} {B : (α0 → α1 → α2 → α3 → Prop) → Prop} {G : Prop} (h : kk_j4 K B) (hJ : ∀ (x0 : α0) (x1 : α1) (x2 : α2) (x3 : α3), K x0 x1 x2 x3 → P x0 x1 x2 x3) (hb : ∀ J : α0 → α1 → α2 → α3 → Prop, (∀ (x0 : α0) (x1 : α1) (x2 : α2) (x3 : α3), J x0 x1 x2 x3 → P x0 x1 x2 x3) → B J → G) : G := hb K hJ h
def kk_it4 {α0 : Type} {α1 : Type} {α2 : Type} {α3 : Type} (F : (α0 → α1 → α2 → α3 → Prop) → α0 → α1 → α2 → α3 → Prop) : Nat → α0 → α1 → α2 → α3 → Prop
  | 0 => fun _ _ _ _ => False
  | n + 1 => F (kk_it4 F n)
def kk_lp4 {α0 : Type} {α1 : Type} {α2 : Type} {α3 : Type} (F : (α0 → α1 → α2 → α3 → Prop) → α0 → α1 → α2 → α3 → Prop) (x0 : α0) (x1 : α1) (x2 : α2) (x3 : α3) : Prop := ∃ n, kk_it4 F n x0 x1 x2 x3
theorem kk_lpW4 {α0 : Type} {α1 : Type} {α2 : Type} {α3 : Type} {F : (α0 → α1 → α2 → α3 → Prop) → α0 → α1 → α2 → α3 → Prop} {P : α0 → α1 → α2 → α3 → Prop} (hs : ∀ rec : α0 → α1 → α2 → α3 → Prop, (∀ (x0 : α0) (x1 : α1) (x2 : α2) (x3 : α3), rec x0 x1 x2 x3 → P x0 x1 x2 x3) → ∀ (x0 : α0) (x1 : α1) (x2 : α2) (x3 : α3), F rec x0 x1 x2 x3 → P x0 x1 x2 x3) {x0 : α0} {x1 : α1} {x2 : α2} {x3 : α3} (h : kk_lp4 F x0 x1 x2 x3) : P x0 x1 x2 x3 := by
  obtain ⟨n, h⟩ := h
  revert h
  revert x0 x1 x2 x3
  induction n with
  | zero => intro x0 x1 x2 x3 h; exact h.elim
  | succ n ih => intro x0 x1 x2 x3 h; exact hs (kk_it4 F n) (fun x0 x1 x2 x3 h => ih h) x0 x1 x2 x3 h
/-- a loop: an invariant and a measure that falls -/
theorem kk_lpI4 {α0 : Type} {α1 : Type} {α2 : Type} {α3 : Type} {F : (α0 → α1 → α2 → α3 → Prop) → α0 → α1 → α2 → α3 → Prop} (I : α0 → α1 → α2 → α3 → Prop) (μ : α0 → α1 → α2 → α3 → Nat) (hs : ∀ rec : α0 → α1 → α2 → α3 → Prop, ∀ (x0 : α0) (x1 : α1) (x2 : α2) (x3 : α3), I x0 x1 x2 x3 → (∀ (x0' : α0) (x1' : α1) (x2' : α2) (x3' : α3), I x0' x1' x2' x3' → μ x0' x1' x2' x3' < μ x0 x1 x2 x3 → rec x0' x1' x2' x3') → F rec x0 x1 x2 x3) {x0 : α0} {x1 : α1} {x2 : α2} {x3 : α3} (h : I x0 x1 x2 x3) : kk_lp4 F x0 x1 x2 x3 := by
  have key : ∀ n, ∀ (x0 : α0) (x1 : α1) (x2 : α2) (x3 : α3), I x0 x1 x2 x3 → μ x0 x1 x2 x3 < n → kk_it4 F n x0 x1 x2 x3 := by
    intro n
    induction n with
    | zero => intro x0 x1 x2 x3 _ h0; exact absurd h0 (Nat.not_lt_zero _)
    | succ n ih => exact fun x0 x1 x2 x3 h1 h2 => hs (kk_it4 F n) x0 x1 x2 x3 h1 (fun x0' x1' x2' x3' h3 h4 => ih x0' x1' x2' x3' h3 (by omega))
  exact ⟨μ x0 x1 x2 x3 + 1, key _ x0 x1 x2 x3 h (Nat.lt_succ_self _)⟩
def kk_j5 {α0 : Type} {α1 : Type} {α2 : Type} {α3 : Type} {α4 : Type} (K : α0 → α1 → α2 → α3 → α4 → Prop) (B : (α0 → α1 → α2 → α3 → α4 → Prop) → Prop) : Prop := B K
theorem kk_jW5 {α0 : Type} {α1 : Type} {α2 : Type} {α3 : Type} {α4 : Type} {K P : α0 → α1 → α2 → α3 → α4 → Prop} {B : (α0 → α1 → α2 → α3 → α4 → Prop) → Prop} {G : Prop} (h : kk_j5 K B) (hJ : ∀ (x0 : α0) (x1 : α1) (x2 : α2) (x3 : α3) (x4 : α4), K x0 x1 x2 x3 x4 → P x0 x1 x2 x3 x4) (hb : ∀ J : α0 → α1 → α2 → α3 → α4 → Prop, (∀ (x0 : α0) (x1 : α1) (x2 : α2) (x3 : α3) (x4 : α4), J x0 x1 x2 x3 x4 → P x0 x1 x2 x3 x4) → B J → G) : G := hb K hJ h
def kk_it5 {α0 : Type} {α1 : Type} {α2 : Type} {α3 : Type} {α4 : Type} (F : (α0 → α1 → α2 → α3 → α4 → Prop) → α0 → α1 → α2 → α3 → α4 → Prop) : Nat → α0 → α1 → α2 → α3 → α4 → Prop
  | 0 => fun _ _ _ _ _ => False
  | n + 1 => F (kk_it5 F n)
def kk_lp5 {α0 : Type} {α1 : Type} {α2 : Type} {α3 : Type} {α4 : Type} (F : (α0 → α1 → α2 → α3 → α4 → Prop) → α0 → α1 → α2 → α3 → α4 → Prop) (x0 : α0) (x1 : α1) (x2 : α2) (x3 : α3) (x4 : α4) : Prop := ∃ n, kk_it5 F n x0 x1 x2 x3 x4
theorem kk_lpW5 {α0 : Type} {α1 : Type} {α2 : Type} {α3 : Type} {α4 : Type} {F : (α0 → α1 → α2 → α3 → α4 → Prop) → α0 → α1 → α2 → α3 → α4 → Prop} {P : α0 → α1 → α2 → α3 → α4 → Prop} (hs : ∀ rec : α0 → α1 → α2 → α3 → α4 → Prop, (∀ (x0 : α0) (x1 : α1) (x2 : α2) (x3 : α3) (x4 : α4), rec x0 x1 x2 x3 x4 → P x0 x1 x2 x3 x4) → ∀ (x0 : α0) (x1 : α1) (x2 : α2) (x3 : α3) (x4 : α4), F rec x0 x1 x2 x3 x4 → P x0 x1 x2 x3 x4) {x0 : α0} {x1 : α1} {x2 : α2} {x3 : α3} {x4 : α4} (h : kk_lp5 F x0 x1 x2 x3 x4) : P x0 x1 x2 x3 x4 := by
  obtain ⟨n, h⟩ := h
  revert h
  revert x0 x1 x2 x3 x4
  induction n with
  | zero => intro x0 x1 x2 x3 x4 h; exact h.elim
  | succ n ih => intro x0 x1 x2 x3 x4 h; exact hs (kk_it5 F n) (fun x0 x1 x2 x3 x4 h => ih h) x0 x1 x2 x3 x4 h
/-- a loop: an invariant and a measure that falls -/
theorem kk_lpI5 {α0 : Type} {α1 : Type} {α2 : Type} {α3 : Type} {α4 : Type} {F : (α0 → α1 → α2 → α3 → α4 → Prop) → α0 → α1 → α2 → α3 → α4 → Prop} (I : α0 → α1 → α2 → α3 → α4 → Prop) (μ : α0 → α1 → α2 → α3 → α4 → Nat) (hs : ∀ rec : α0 → α1 → α2 → α3 → α4 → Prop, ∀ (x0 : α0) (x1 : α1) (x2 : α2) (x3 : α3) (x4 : α4), I x0 x1 x2 x3 x4 → (∀ (x0' : α0) (x1' : α1) (x2' : α2) (x3' : α3) (x4' : α4), I x0' x1' x2' x3' x4' → μ x0' x1' x2' x3' x4' < μ x0 x1 x2 x3 x4 → rec x0' x1' x2' x3' x4') → F rec x0 x1 x2 x3 x4) {x0 : α0} {x1 : α1} {x2 : α2} {x3 : α3} {x4 : α4} (h : I x0 x1 x2 x3 x4) : kk_lp5 F x0 x1 x2 x3 x4 := by
  have key : ∀ n, ∀ (x0 : α0) (x1 : α1) (x2 : α2) (x3 : α3) (x4 : α4), I x0 x1 x2 x3 x4 → μ x0 x1 x2 x3 x4 < n → kk_it5 F n x0 x1 x2 x3 x4 := by
    intro n
    induction n with
    | zero => intro x0 x1 x2 x3 x4 _ h0; exact absurd h0 (Nat.not_lt_zero _)
    | succ n ih => exact fun x0 x1 x2 x3 x4 h1 h2 => hs (kk_it5 F n) x0 x1 x2 x3 x4 h1 (fun x0' x1' x2' x3' x4' h3 h4 => ih x0' x1' x2' x3' x4' h3 (by omega))
  exact ⟨μ x0 x1 x2 x3 x4 + 1, key _ x0 x1 x2 x3 x4 h (Nat.lt_succ_self _)⟩
def kk_j6 {α0 : Type} {α1 : Type} {α2 : Type} {α3 : Type} {α4 : Type} {α5 : Type} (K : α0 → α1 → α2 → α3 → α4 → α5 → Prop) (B : (α0 → α1 → α2 → α3 → α4 → α5 → Prop) → Prop) : Prop := B K
theorem kk_jW6 {α0 : Type} {α1 : Type} {α2 : Type} {α3 : Type} {α4 : Type} {α5 : Type} {K P : α0 → α1 → α2 → α3 → α4 → α5 → Prop} {B : (α0 → α1 → α2 → α3 → α4 → α5 → Prop) → Prop} {G : Prop} (h : kk_j6 K B) (hJ : ∀ (x0 : α0) (x1 : α1) (x2 : α2) (x3 : α3) (x4 : α4) (x5 : α5), K x0 x1 x2 x3 x4 x5 → P x0 x1 x2 x3 x4 x5) (hb : ∀ J : α0 → α1 → α2 → α3 → α4 → α5 → Prop, (∀ (x0 : α0) (x1 : α1) (x2 : α2) (x3 : α3) (x4 : α4) (x5 : α5), J x0 x1 x2 x3 x4 x5 → P x0 x1 x2 x3 x4 x5) → B J → G) : G := hb K hJ h
def kk_it6 {α0 : Type} {α1 : Type} {α2 : Type} {α3 : Type} {α4 : Type} {α5 : Type} (F : (α0 → α1 → α2 → α3 → α4 → α5 → Prop) → α0 → α1 → α2 → α3 → α4 → α5 → Prop) : Nat → α0 → α1 → α2 → α3 → α4 → α5 → Prop
  | 0 => fun _ _ _ _ _ _ => False
  | n + 1 => F (kk_it6 F n)
def kk_lp6 {α0 : Type} {α1 : Type} {α2 : Type} {α3 : Type} {α4 : Type} {α5 : Type} (F : (α0 → α1 → α2 → α3 → α4 → α5 → Prop) → α0 → α1 → α2 → α3 → α4 → α5 → Prop) (x0 : α0) (x1 : α1) (x2 : α2) (x3 : α3) (x4 : α4) (x5 : α5) : Prop := ∃ n, kk_it6 F n x0 x1 x2 x3 x4 x5
theorem kk_lpW6 {α0 : Type} {α1 : Type} {α2 : Type} {α3 : Type} {α4 : Type} {α5 : Type} {F : (α0 → α1 → α2 → α3 → α4 → α5 → Prop) → α0 → α1 → α2 → α3 → α4 → α5 → Prop} {P : α0 → α1 → α2 → α3 → α4 → α5 → Prop} (hs : ∀ rec : α0 → α1 → α2 → α3 → α4 → α5 → Prop, (∀ (x0 : α0) (x1 : α1) (x2 : α2) (x3 : α3) (x4 : α4) (x5 : α5), rec x0 x1 x2 x3 x4 x5 → P x0 x1 x2 x3 x4 x5) → ∀ (x0 : α0) (x1 : α1) (x2 : α2) (x3 : α3) (x4 : α4) (x5 : α5), F rec x0 x1 x2 x3 x4 x5 → P x0 x1 x2 x3 x4 x5) {x0 : α0} {x1 : α1} {x2 : α2} {x3 : α3} {x4 : α4} {x5 : α5} (h : kk_lp6 F x0 x1 x2 x3 x4 x5) : P x0 x1 x2 x3 x4 x5 := by
  obtain ⟨n, h⟩ := h
  revert h
  revert x0 x1 x2 x3 x4 x5
  induction n with
  | zero => intro x0 x1 x2 x3 x4 x5 h; exact h.elim
  | succ n ih => intro x0 x1 x2 x3 x4 x5 h; exact hs (kk_it6 F n) (fun x0 x1 x2 x3 x4 x5 h => ih h) x0 x1 x2 x3 x4 x5 h
/-- a loop: an invariant and a measure that falls -/
theorem kk_lpI6 {α0 : Type} {α1 : Type} {α2 : Type} {α3 : Type} {α4 : Type} {α5 : Type} {F : (α0 → α1 → α2 → α3 → α4 → α5 → Prop) → α0 → α1 → α2 → α3 → α4 → α5 → Prop} (I : α0 → α1 → α2 → α3 → α4 → α5 → Prop) (μ : α0 → α1 → α2 → α3 → α4 → α5 → Nat) (hs : ∀ rec : α0 → α1 → α2 → α3 → α4 → α5 → Prop, ∀ (x0 : α0) (x1 : α1) (x2 : α2) (x3 : α3) (x4 : α4) (x5 : α5), I x0 x1 x2 x3 x4 x5 → (∀ (x0' : α0) (x1' : α1) (x2' : α2) (x3' : α3) (x4' : α4) (x5' : α5), I x0' x1' x2' x3' x4' x5' → μ x0' x1' x2' x3' x4' x5' < μ x0 x1 x2 x3 x4 x5 → rec x0' x1' x2' x3' x4' x5') → F rec x0 x1 x2 x3 x4 x5) {x0 : α0} {x1 : α1} {x2 : α2} {x3 : α3} {x4 : α4} {x5 : α5} (h : I x0 x1 x2 x3 x4 x5) : kk_lp6 F x0 x1 x2 x3 x4 x5 := by
  have key : ∀ n, ∀ (x0 : α0) (x1 : α1) (x2 : α2) (x3 : α3) (x4 : α4) (x5 : α5), I x0 x1 x2 x3 x4 x5 → μ x0 x1 x2 x3 x4 x5 < n → kk_it6 F n x0 x1 x2 x3 x4 x5 := by
    intro n
    induction n with
    | zero => intro x0 x1 x2 x3 x4 x5 _ h0; exact absurd h0 (Nat.not_lt_zero _)
    | succ n ih => exact fun x0 x1 x2 x3 x4 x5 h1 h2 => hs (kk_it6 F n) x0 x1 x2 x3 x4 x5 h1 (fun x0' x1' x2' x3' x4' x5' h3 h4 => ih x0' x1' x2' x3' x4' x5' h3 (by omega))
  exact ⟨μ x0 x1 x2 x3 x4 x5 + 1, key _ x0 x1 x2 x3 x4 x5 h (Nat.lt_succ_self _)⟩
def kk_j7 {α0 : Type} {α1 : Type} {α2 : Type} {α3 : Type} {α4 : Type} {α5 : Type} {α6 : Type} (K : α0 → α1 → α2 → α3 → α4 → α5 → α6 → Prop) (B : (α0 → α1 → α2 → α3 → α4 → α5 → α6 → Prop) → Prop) : Prop := B K
theorem kk_jW7 {α0 : Type} {α1 : Type} {α2 : Type} {α3 : Type} {α4 : Type} {α5 : Type} {α6 : Type} {K P : α0 → α1 → α2 → α3 → α4 → α5 → α6 → Prop} {B : (α0 → α1 → α2 → α3 → α4 → α5 → α6 → Prop) → Prop} {G : Prop} (h : kk_j7 K B) (hJ : ∀ (x0 : α0) (x1 : α1) (x2 : α2) (x3 : α3) (x4 : α4) (x5 : α5) (x6 : α6), K x0 x1 x2 x3 x4 x5 x6 → P x0 x1 x2 x3 x4 x5 x6) (hb : ∀ J : α0 → α1 → α2 → α3 → α4 → α5 → α6 → Prop, (∀ (x0 : α0) (x1 : α1) (x2 : α2) (x3 : α3) (x4 : α4) (x5 : α5) (x6 : α6), J x0 x1 x2 x3 x4 x5 x6 → P x0 x1 x2 x3 x4 x5 x6) → B J → G) : G := hb K hJ h
def kk_it7 {α0 : Type} {α1 : Type} {α2 : Type} {α3 : Type} {α4 : Type} {α5 : Type} {α6 : Type} (F : (α0 → α1 → α2 → α3 → α4 → α5 → α6 → Prop) → α0 → α1 → α2 → α3 → α4 → α5 → α6 → Prop) : Nat → α0 → α1 → α2 → α3 → α4 → α5 → α6 → Prop
  | 0 => fun _ _ _ _ _ _ _ => False
  | n + 1 => F (kk_it7 F n)
def kk_lp7 {α0 : Type} {α1 : Type} {α2 : Type} {α3 : Type} {α4 : Type} {α5 : Type} {α6 : Type} (F : (α0 → α1 → α2 → α3 → α4 → α5 → α6 → Prop) → α0 → α1 → α2 → α3 → α4 → α5 → α6 → Prop) (x0 : α0) (x1 : α1) (x2 : α2) (x3 : α3) (x4 : α4) (x5 : α5) (x6 : α6) : Prop := ∃ n, kk_it7 F n x0 x1 x2 x3 x4 x5 x6
theorem kk_lpW7 {α0 : Type} {α1 : Type} {α2 : Type} {α3 : Type} {α4 : Type} {α5 : Type} {α6 : Type} {F : (α0 → α1 → α2 → α3 → α4 → α5 → α6 → Prop) → α0 → α1 → α2 → α3 → α4 → α5 → α6 → Prop} {P : α0 → α1 → α2 → α3 → α4 → α5 → α6 → Prop} (hs : ∀ rec : α0 → α1 → α2 → α3 → α4 → α5 → α6 → Prop, (∀ (x0 : α0) (x1 : α1) (x2 : α2) (x3 : α3) (x4 : α4) (x5 : α5) (x6 : α6), rec x0 x1 x2 x3 x4 x5 x6 → P x0 x1 x2 x3 x4 x5 x6) → ∀ (x0 : α0) (x1 : α1) (x2 : α2) (x3 : α3) (x4 : α4) (x5 : α5) (x6 : α6), F rec x0 x1 x2 x3 x4 x5 x6 → P x0 x1 x2 x3 x4 x5 x6) {x0 : α0} {x1 : α1} {x2 : α2} {x3 : α3} {x4 : α4} {x5 : α5} {x6 : α6} (h : kk_lp7 F x0 x1 x2 x3 x4 x5 x6) : P x0 x1 x2 x3 x4 x5 x6 := by
  obtain ⟨n, h⟩ := h
  revert h
  revert x0 x1 x2 x3 x4 x5 x6
  induction n with
  | zero => intro x0 x1 x2 x3 x4 x5 x6 h; exact h.elim
  | succ n ih => intro x0 x1 x2 x3 x4 x5 x6 h; exact hs (kk_it7 F n) (fun x0 x1 x2 x3 x4 x5 x6 h => ih h) x0 x1 x2 x3 x4 x5 x6 h
/-- a loop: an invariant and a measure that falls -/
theorem kk_lpI7 {α0 : Type} {α1 : Type} {α2 : Type} {α3 : Type} {α4 : Type} {α5 : Type} {α6 : Type} {F : (α0 → α1 → α2 → α3 → α4 → α5 → α6 → Prop) → α0 → α1 → α2 → α3 → α4 → α5 → α6 → Prop} (I : α0 → α1 → α2 → α3 → α4 → α5 → α6 → Prop) (μ : α0 → α1 → α2 → α3 → α4 → α5 → α6 → Nat) (hs : ∀ rec : α0 → α1 → α2 → α3 → α4 → α5 → α6 → Prop, ∀ (x0 : α0) (x1 : α1) (x2 : α2) (x3 : α3) (x4 : α4) (x5 : α5) (x6 : α6), I x0 x1 x2 x3 x4 x5 x6 → (∀ (x0' : α0) (x1' : α1) (x2' : α2) (x3' : α3) (x4' : α4) (x5' : α5) (x6' : α6), I x0' x1' x2' x3' x4' x5' x6' → μ x0' x1' x2' x3' x4' x5' x6' < μ x0 x1 x2 x3 x4 x5 x6 → rec x0' x1' x2' x3' x4' x5' x6') → F rec x0 x1 x2 x3 x4 x5 x6) {x0 : α0} {x1 : α1} {x2 : α2} {x3 : α3} {x4 : α4} {x5 : α5} {x6 : α6} (h : I x0 x1 x2 x3 x4 x5 x6) : kk_lp7 F x0 x1 x2 x3 x4 x5 x6 := by
  have key : ∀ n, ∀ (x0 : α0) (x1 : α1) (x2 : α2) (x3 : α3) (x4 : α4) (x5 : α5) (x6 : α6), I x0 x1 x2 x3 x4 x5 x6 → μ x0 x1 x2 x3 x4 x5 x6 < n → kk_it7 F n x0 x1 x2 x3 x4 x5 x6 := by
    intro n
    induction n with
    | zero => intro x0 x1 x2 x3 x4 x5 x6 _ h0; exact absurd h0 (Nat.not_lt_zero _)
    | succ n ih => exact fun x0 x1 x2 x3 x4 x5 x6 h1 h2 => hs (kk_it7 F n) x0 x1 x2 x3 x4 x5 x6 h1 (fun x0' x1' x2' x3' x4' x5' x6' h3 h4 => ih x0' x1' x2' x3' x4' x5' x6' h3 (by omega))
  exact ⟨μ x0 x1 x2 x3 x4 x5 x6 + 1, key _ x0 x1 x2 x3 x4 x5 x6 h (Nat.lt_succ_self _)⟩
def kk_j8 {α0 : Type} {α1 : Type} {α2 : Type} {α3 : Type} {α4 : Type} {α5 : Type} {α6 : Type} {α7 : Type} (K : α0 → α1 → α2 → α3 → α4 → α5 → α6 → α7 → Prop) (B : (α0 → α1 → α2 → α3 → α4 → α5 → α6 → α7 → Prop) → Prop) : Prop := B K
theorem kk_jW8 {α0 : Type} {α1 : Type} {α2 : Type} {α3 : Type} {α4 : Type} {α5 : Type} {α6 : Type} {α7 : Type} {K P : α0 → α1 → α2 → α3 → α4 → α5 → α6 → α7 → Prop} {B : (α0 → α1 → α2 → α3 → α4 → α5 → α6 → α7 → Prop) → Prop} {G : Prop} (h : kk_j8 K B) (hJ : ∀ (x0 : α0) (x1 : α1) (x2 : α2) (x3 : α3) (x4 : α4) (x5 : α5) (x6 : α6) (x7 : α7), K x0 x1 x2 x3 x4 x5 x6 x7 → P x0 x1 x2 x3 x4 x5 x6 x7) (hb : ∀ J : α0 → α1 → α2 → α3 → α4 → α5 → α6 → α7 → Prop, (∀ (x0 : α0) (x1 : α1) (x2 : α2) (x3 : α3) (x4 : α4) (x5 : α5) (x6 : α6) (x7 : α7), J x0 x1 x2 x3 x4 x5 x6 x7 → P x0 x1 x2 x3 x4 x5 x6 x7) → B J → G) : G := hb K hJ h
def kk_it8 {α0 : Type} {α1 : Type} {α2 : Type} {α3 : Type} {α4 : Type} {α5 : Type} {α6 : Type} {α7 : Type} (F : (α0 → α1 → α2 → α3 → α4 → α5 → α6 → α7 → Prop) → α0 → α1 → α2 → α3 → α4 → α5 → α6 → α7 → Prop) : Nat → α0 → α1 → α2 → α3 → α4 → α5 → α6 → α7 → Prop
  | 0 => fun _ _ _ _ _ _ _ _ => False
  | n + 1 => F (kk_it8 F n)
def kk_lp8 {α0 : Type} {α1 : Type} {α2 : Type} {α3 : Type} {α4 : Type} {α5 : Type} {α6 : Type} {α7 : Type} (F : (α0 → α1 → α2 → α3 → α4 → α5 → α6 → α7 → Prop) → α0 → α1 → α2 → α3 → α4 → α5 → α6 → α7 → Prop) (x0 : α0) (x1 : α1) (x2 : α2) (x3 : α3) (x4 : α4) (x5 : α5) (x6 : α6) (x7 : α7) : Prop := ∃ n, kk_it8 F n x0 x1 x2 x3 x4 x5 x6 x7
theorem kk_lpW8 {α0 : Type} {α1 : Type} {α2 : Type} {α3 : Type} {α4 : Type} {α5 : Type} {α6 : Type} {α7 : Type} {F : (α0 → α1 → α2 → α3 → α4 → α5 → α6 → α7 → Prop) → α0 → α1 → α2 → α3 → α4 → α5 → α6 → α7 → Prop} {P : α0 → α1 → α2 → α3 → α4 → α5 → α6 → α7 → Prop} (hs : ∀ rec : α0 → α1 → α2 → α3 → α4 → α5 → α6 → α7 → Prop, (∀ (x0 : α0) (x1 : α1) (x2 : α2) (x3 : α3) (x4 : α4) (x5 : α5) (x6 : α6) (x7 : α7), rec x0 x1 x2 x3 x4 x5 x6 x7 → P x0 x1 x2 x3 x4 x5 x6 x7) → ∀ (x0 : α0) (x1 : α1) (x2 : α2) (x3 : α3) (x4 : α4) (x5 : α5) (x6 : α6) (x7 : α7), F rec x0 x1 x2 x3 x4 x5 x6 x7 → P x0 x1 x2 x3 x4 x5 x6 x7) {x0 : α0} {x1 : α1} {x2 : α2} {x3 : α3} {x4 : α4} {x5 : α5} {x6 : α6} {x7 : α7} (h : kk_lp8 F x0 x1 x2 x3 x4 x5 x6 x7) : P x0 x1 x2 x3 x4 x5 x6 x7 := by
  obtain ⟨n, h⟩ := h
  revert h
  revert x0 x1 x2 x3 x4 x5 x6 x7
  induction n with
  | zero => intro x0 x1 x2 x3 x4 x5 x6 x7 h; exact h.elim
  | succ n ih => intro x0 x1 x2 x3 x4 x5 x6 x7 h; exact hs (kk_it8 F n) (fun x0 x1 x2 x3 x4 x5 x6 x7 h => ih h) x0 x1 x2 x3 x4 x5 x6 x7 h
/-- a loop: an invariant and a measure that falls -/
theorem kk_lpI8 {α0 : Type} {α1 : Type} {α2 : Type} {α3 : Type} {α4 : Type} {α5 : Type} {α6 : Type} {α7 : Type} {F : (α0 → α1 → α2 → α3 → α4 → α5 → α6 → α7 → Prop) → α0 → α1 → α2 → α3 → α4 → α5 → α6 → α7 → Prop} (I : α0 → α1 → α2 → α3 → α4 → α5 → α6 → α7 → Prop) (μ : α0 → α1 → α2 → α3 → α4 → α5 → α6 → α7 → Nat) (hs : ∀ rec : α0 → α1 → α2 → α3 → α4 → α5 → α6 → α7 → Prop, ∀ (x0 : α0) (x1 : α1) (x2 : α2) (x3 : α3) (x4 : α4) (x5 : α5) (x6 : α6) (x7 : α7), I x0 x1 x2 x3 x4 x5 x6 x7 → (∀ (x0' : α0) (x1' : α1) (x2' : α2) (x3' : α3) (x4' : α4) (x5' : α5) (x6' : α6) (x7' : α7), I x0' x1' x2' x3' x4' x5' x6' x7' → μ x0' x1' x2' x3' x4' x5' x6' x7' < μ x0 x1 x2 x3 x4 x5 x6 x7 → rec x0' x1' x2' x3' x4' x5' x6' x7') → F rec x0 x1 x2 x3 x4 x5 x6 x7) {x0 : α0} {x1 : α1} {x2 : α2} {x3 : α3} {x4 : α4} {x5 : α5} {x6 : α6} {x7 : α7} (h : I x0 x1 x2 x3 x4 x5 x6 x7) : kk_lp8 F x0 x1 x2 x3 x4 x5 x6 x7 := by
  have key : ∀ n, ∀ (x0 : α0) (x1 : α1) (x2 : α2) (x3 : α3) (x4 : α4) (x5 : α5) (x6 : α6) (x7 : α7), I x0 x1 x2 x3 x4 x5 x6 x7 → μ x0 x1 x2 x3 x4 x5 x6 x7 < n → kk_it8 F n x0 x1 x2 x3 x4 x5 x6 x7 := by
    intro n
    induction n with
    | zero => intro x0 x1 x2 x3 x4 x5 x6 x7 _ h0; exact absurd h0 (Nat.not_lt_zero _)
    | succ n ih => exact fun x0 x1 x2 x3 x4 x5 x6 x7 h1 h2 => hs (kk_it8 F n) x0 x1 x2 x3 x4 x5 x6 x7 h1 (fun x0' x1' x2' x3' x4' x5' x6' x7' h3 h4 => ih x0' x1' x2' x3' x4' x5' x6' x7' h3 (by omega))
  exact ⟨μ x0 x1 x2 x3 x4 x5 x6 x7 + 1, key _ x0 x1 x2 x3 x4 x5 x6 x7 h (Nat.lt_succ_self _)⟩
def kk_j9 {α0 : Type} {α1 : Type} {α2 : Type} {α3 : Type} {α4 : Type} {α5 : Type} {α6 : Type} {α7 : Type} {α8 : Type} (K : α0 → α1 → α2 → α3 → α4 → α5 → α6 → α7 → α8 → Prop) (B : (α0 → α1 → α2 → α3 → α4 → α5 → α6 → α7 → α8 → Prop) → Prop) : Prop := B K
theorem kk_jW9 {α0 : Type} {α1 : Type} {α2 : Type} {α3 : Type} {α4 : Type} {α5 : Type} {α6 : Type} {α7 : Type} {α8 : Type} {K P : α0 → α1 → α2 → α3 → α4 → α5 → α6 → α7 → α8 → Prop} {B : (α0 → α1 → α2 → α3 → α4 → α5 → α6 → α7 → α8 → Prop) → Prop} {G : Prop} (h : kk_j9 K B) (hJ : ∀ (x0 : α0) (x1 : α1) (x2 : α2) (x3 : α3) (x4 : α4) (x5 : α5) (x6 : α6) (x7 : α7) (x8 : α8), K x0 x1 x2 x3 x4 x5 x6 x7 x8 → P x0 x1 x2 x3 x4 x5 x6 x7 x8) (hb : ∀ J : α0 → α1 → α2 → α3 → α4 → α5 → α6 → α7 → α8 → Prop, (∀ (x0 : α0) (x1 : α1) (x2 : α2) (x3 : α3) (x4 : α4) (x5 : α5) (x6 : α6) (x7 : α7) (x8 : α8), J x0 x1 x2 x3 x4 x5 x6 x7 x8 → P x0 x1 x2 x3 x4 x5 x6 x7 x8) → B J → G) : G := hb K hJ h
def kk_it9 {α0 : Type} {α1 : Type} {α2 : Type} {α3 : Type} {α4 : Type} {α5 : Type} {α6 : Type} {α7 : Type} {α8 : Type} (F : (α0 → α1 → α2 → α3 → α4 → α5 → α6 → α7 → α8 → Prop) → α0 → α1 → α2 → α3 → α4 → α5 → α6 → α7 → α8 → Prop) : Nat → α0 → α1 → α2 → α3 → α4 → α5 → α6 → α7 → α8 → Prop
  | 0 => fun _ _ _ _ _ _ _ _ _ => False
  | n + 1 => F (kk_it9 F n)
def kk_lp9 {α0 : Type} {α1 : Type} {α2 : Type} {α3 : Type} {α4 : Type} {α5 : Type} {α6 : Type} {α7 : Type} {α8 : Type} (F : (α0 → α1 → α2 → α3 → α4 → α5 → α6 → α7 → α8 → Prop) → α0 → α1 → α2 → α3 → α4 → α5 → α6 → α7 → α8 → Prop) (x0 : α0) (x1 : α1) (x2 : α2) (x3 : α3) (x4 : α4) (x5 : α5) (x6 : α6) (x7 : α7) (x8 : α8) : Prop := ∃ n, kk_it9 F n x0 x1 x2 x3 x4 x5 x6 x7 x8
theorem kk_lpW9 {α0 : Type} {α1 : Type} {α2 : Type} {α3 : Type} {α4 : Type} {α5 : Type} {α6 : Type} {α7 : Type} {α8 : Type} {F : (α0 → α1 → α2 → α3 → α4 → α5 → α6 → α7 → α8 → Prop) → α0 → α1 → α2 → α3 → α4 → α5 → α6 → α7 → α8 → Prop} {P : α0 → α1 → α2 → α3 → α4 → α5 → α6 → α7 → α8 → Prop} (hs : ∀ rec : α0 → α1 → α2 → α3 → α4 → α5 → α6 → α7 → α8 → Prop, (∀ (x0 : α0) (x1 : α1) (x2 : α2) (x3 : α3) (x4 : α4) (x5 : α5) (x6 : α6) (x7 : α7) (x8 : α8), rec x0 x1 x2 x3 x4 x5 x6 x7 x8 → P x0 x1 x2 x3 x4 x5 x6 x7 x8) → ∀ (x0 : α0) (x1 : α1) (x2 : α2) (x3 : α3) (x4 : α4) (x5 : α5) (x6 : α6) (x7 : α7) (x8 : α8), F rec x0 x1 x2 x3 x4 x5 x6 x7 x8 → P x0 x1 x2 x3 x4 x5 x6 x7 x8) {x0 : α0} {x1 : α1} {x2 : α2} {x3 : α3} {x4 : α4} {x5 : α5} {x6 : α6} {x7 : α7} {x8 : α8} (h : kk_lp9 F x0 x1 x2 x3 x4 x5 x6 x7 x8) : P x0 x1 x2 x3 x4 x5 x6 x7 x8 := by
  obtain ⟨n, h⟩ := h
  revert h
  revert x0 x1 x2 x3 x4 x5 x6 x7 x8
  induction n with
  | zero => intro x0 x1 x2 x3 x4 x5 x6 x7 x8 h; exact h.elim
  | succ n ih => intro x0 x1 x2 x3 x4 x5 x6 x7 x8 h; exact hs (kk_it9 F n) (fun x0 x1 x2 x3 x4 x5 x6 x7 x8 h => ih h) x0 x1 x2 x3 x4 x5 x6 x7 x8 h
/-- a loop: an invariant and a measure that falls -/
theorem kk_lpI9 {α0 : Type} {α1 : Type} {α2 : Type} {α3 : Type} {α4 : Type} {α5 : Type} {α6 : Type} {α7 : Type} {α8 : Type} {F : (α0 → α1 → α2 → α3 → α4 → α5 → α6 → α7 → α8 → Prop) → α0 → α1 → α2 → α3 → α4 → α5 → α6 → α7 → α8 → Prop} (I : α0 → α1 → α2 → α3 → α4 → α5 → α6 → α7 → α8 → Prop) (μ : α0 → α1 → α2 → α3 → α4 → α5 → α6 → α7 → α8 → Nat) (hs : ∀ rec : α0 → α1 → α2 → α3 → α4 → α5 → α6 → α7 → α8 → Prop, ∀ (x0 : α0) (x1 : α1) (x2 : α2) (x3 : α3) (x4 : α4) (x5 : α5) (x6 : α6) (x7 : α7) (x8 : α8), I x0 x1 x2 x3 x4 x5 x6 x7 x8 → (∀ (x0' : α0) (x1' : α1) (x2' : α2) (x3' : α3) (x4' : α4) (x5' : α5) (x6' : α6) (x7' : α7) (x8' : α8), I x0' x1' x2' x3' x4' x5' x6' x7' x8' → μ x0' x1' x2' x3' x4' x5' x6' x7' x8' < μ x0 x1 x2 x3 x4 x5 x6 x7 x8 → rec x0' x1' x2' x3' x4' x5' x6' x7' x8') → F rec x0 x1 x2 x3 x4 x5 x6 x7 x8) {x0 : α0} {x1 : α1} {x2 : α2} {x3 : α3} {x4 : α4} {x5 : α5} {x6 : α6} {x7 : α7} {x8 : α8} (h : I x0 x1 x2 x3 x4 x5 x6 x7 x8) : kk_lp9 F x0 x1 x2 x3 x4 x5 x6 x7 x8 := by
  have key : ∀ n, ∀ (x0 : α0) (x1 : α1) (x2 : α2) (x3 : α3) (x4 : α4) (x5 : α5) (x6 : α6) (x7 : α7) (x8 : α8), I x0 x1 x2 x3 x4 x5 x6 x7 x8 → μ x0 x1 x2 x3 x4 x5 x6 x7 x8 < n → kk_it9 F n x0 x1 x2 x3 x4 x5 x6 x7 x8 := by
    intro n
    induction n with
    | zero => intro x0 x1 x2 x3 x4 x5 x6 x7 x8 _ h0; exact absurd h0 (Nat.not_lt_zero _)
    | succ n ih => exact fun x0 x1 x2 x3 x4 x5 x6 x7 x8 h1 h2 => hs (kk_it9 F n) x0 x1 x2 x3 x4 x5 x6 x7 x8 h1 (fun x0' x1' x2' x3' x4' x5' x6' x7' x8' h3 h4 => ih x0' x1' x2' x3' x4' x5' x6' x7' x8' h3 (by omega))
  exact ⟨μ x0 x1 x2 x3 x4 x5 x6 x7 x8 + 1, key _ x0 x1 x2 x3 x4 x5 x6 x7 x8 h (Nat.lt_succ_self _)⟩
def kk_j10 {α0 : Type} {α1 : Type} {α2 : Type} {α3 : Type} {α4 : Type} {α5 : Type} {α6 : Type} {α7 : Type} {α8 : Type} {α9 : Type} (K : α0 → α1 → α2 → α3 → α4 → α5 → α6 → α7 → α8 → α9 → Prop) (B : (α0 → α1 → α2 → α3 → α4 → α5 → α6 → α7 → α8 → α9 → Prop) → Prop) : Prop := B K
theorem kk_jW10 {α0 : Type} {α1 : Type} {α2 : Type} {α3 : Type} {α4 : Type} {α5 : Type} {α6 : Type} {α7 : Type} {α8 : Type} {α9 : Type} {K P : α0 → α1 → α2 → α3 → α4 → α5 → α6 → α7 → α8 → α9 → Prop} {B : (α0 → α1 → α2 → α3 → α4 → α5 → α6 → α7 → α8 → α9 → Prop) → Prop} {G : Prop} (h : kk_j10 K B) (hJ : ∀ (x0 : α0) (x1 : α1) (x2 : α2) (x3 : α3) (x4 : α4) (x5 : α5) (x6 : α6) (x7 : α7) (x8 : α8) (x9 : α9), K x0 x1 x2 x3 x4 x5 x6 x7 x8 x9 → P x0 x1 x2 x3 x4 x5 x6 x7 x8 x9) (hb : ∀ J : α0 → α1 → α2 → α3 → α4 → α5 → α6 → α7 → α8 → α9 → Prop, (∀ (x0 : α0) (x1 : α1) (x2 : α2) (x3 : α3) (x4 : α4) (x5 : α5) (x6 : α6) (x7 : α7) (x8 : α8) (x9 : α9), J x0 x1 x2 x3 x4 x5 x6 x7 x8 x9 → P x0 x1 x2 x3 x4 x5 x6 x7 x8 x9) → B J → G) : G := hb K hJ h
def kk_it10 {α0 : Type} {α1 : Type} {α2 : Type} {α3 : Type} {α4 : Type} {α5 : Type} {α6 : Type} {α7 : Type} {α8 : Type} {α9 : Type} (F : (α0 → α1 → α2 → α3 → α4 → α5 → α6 → α7 → α8 → α9 → Prop) → α0 → α1 → α2 → α3 → α4 → α5 → α6 → α7 → α8 → α9 → Prop) : Nat → α0 → α1 → α2 → α3 → α4 → α5 → α6 → α7 → α8 → α9 → Prop
  | 0 => fun _ _ _ _ _ _ _ _ _ _ => False
  | n + 1 => F (kk_it10 F n)
def kk_lp10 {α0 : Type} {α1 : Type} {α2 : Type} {α3 : Type} {α4 : Type} {α5 : Type} {α6 : Type} {α7 : Type} {α8 : Type} {α9 : Type} (F : (α0 → α1 → α2 → α3 → α4 → α5 → α6 → α7 → α8 → α9 → Prop) → α0 → α1 → α2 → α3 → α4 → α5 → α6 → α7 → α8 → α9 → Prop) (x0 : α0) (x1 : α1) (x2 : α2) (x3 : α3) (x4 : α4) (x5 : α5) (x6 : α6) (x7 : α7) (x8 : α8) (x9 : α9) : Prop := ∃ n, kk_it10 F n x0 x1 x2 x3 x4 x5 x6 x7 x8 x9
theorem kk_lpW10 {α0 : Type} {α1 : Type} {α2 : Type} {α3 : Type} {α4 : Type} {α5 : Type} {α6 : Type} {α7 : Type} {α8 : Type} {α9 : Type} {F : (α0 → α1 → α2 → α3 → α4 → α5 → α6 → α7 → α8 → α9 → Prop) → α0 → α1 → α2 → α3 → α4 → α5 → α6 → α7 → α8 → α9 → Prop} {P : α0 → α1 → α2 → α3 → α4 → α5 → α6 → α7 → α8 → α9 → Prop} (hs : ∀ rec : α0 → α1 → α2 → α3 → α4 → α5 → α6 → α7 → α8 → α9 → Prop, (∀ (x0 : α0) (x1 : α1) (x2 : α2) (x3 : α3) (x4 : α4) (x5 : α5) (x6 : α6) (x7 : α7) (x8 : α8) (x9 : α9), rec x0 x1 x2 x3 x4 x5 x6 x7 x8 x9 → P x0 x1 x2 x3 x4 x5 x6 x7 x8 x9) → ∀ (x0 : α0) (x1 : α1) (x2 : α2) (x3 : α3) (x4 : α4) (x5 : α5) (x6 : α6) (x7 : α7) (x8 : α8) (x9 : α9), F rec x0 x1 x2 x3 x4 x5 x6 x7 x8 x9 → P x0 x1 x2 x3 x4 x5 x6 x7 x8 x9) {x0 : α0} {x1 : α1} {x2 : α2} {x3 : α3} {x4 : α4} {x5 : α5} {x6 : α6} {x7 : α7} {x8 : α8} {x9 : α9} (h : kk_lp10 F x0 x1 x2 x3 x4 x5 x6 x7 x8 x9) : P x0 x1 x2 x3 x4 x5 x6 x7 x8 x9 := by
  obtain ⟨n, h⟩ := h
  revert h
  revert x0 x1 x2 x3 x4 x5 x6 x7 x8 x9
  induction n with
  | zero => intro x0 x1 x2 x3 x4 x5 x6 x7 x8 x9 h; exact h.elim
  | succ n ih => intro x0 x1 x2 x3 x4 x5 x6 x7 x8 x9 h; exact hs (kk_it10 F n) (fun x0 x1 x2 x3 x4 x5 x6 x7 x8 x9 h => ih h) x0 x1 x2 x3 x4 x5 x6 x7 x8 x9 h
/-- a loop: an invariant and a measure that falls -/
theorem kk_lpI10 {α0 : Type} {α1 : Type} {α2 : Type} {α3 : Type} {α4 : Type} {α5 : Type} {α6 : Type} {α7 : Type} {α8 : Type} {α9 : Type} {F : (α0 → α1 → α2 → α3 → α4 → α5 → α6 → α7 → α8 → α9 → Prop) → α0 → α1 → α2 → α3 → α4 → α5 → α6 → α7 → α8 → α9 → Prop} (I : α0 → α1 → α2 → α3 → α4 → α5 → α6 → α7 → α8 → α9 → Prop) (μ : α0 → α1 → α2 → α3 → α4 → α5 → α6 → α7 → α8 → α9 → Nat) (hs : ∀ rec : α0 → α1 → α2 → α3 → α4 → α5 → α6 → α7 → α8 → α9 → Prop, ∀ (x0 : α0) (x1 : α1) (x2 : α2) (x3 : α3) (x4 : α4) (x5 : α5) (x6 : α6) (x7 : α7) (x8 : α8) (x9 : α9), I x0 x1 x2 x3 x4 x5 x6 x7 x8 x9 → (∀ (x0' : α0) (x1' : α1) (x2' : α2) (x3' : α3) (x4' : α4) (x5' : α5) (x6' : α6) (x7' : α7) (x8' : α8) (x9' : α9), I x0' x1' x2' x3' x4' x5' x6' x7' x8' x9' → μ x0' x1' x2' x3' x4' x5' x6' x7' x8' x9' < μ x0 x1 x2 x3 x4 x5 x6 x7 x8 x9 → rec x0' x1' x2' x3' x4' x5' x6' x7' x8' x9') → F rec x0 x1 x2 x3 x4 x5 x6 x7 x8 x9) {x0 : α0} {x1 : α1} {x2 : α2} {x3 : α3} {x4 : α4} {x5 : α5} {x6 : α6} {x7 : α7} {x8 : α8} {x9 : α9} (h : I x0 x1 x2 x3 x4 x5 x6 x7 x8 x9) : kk_lp10 F x0 x1 x2 x3 x4 x5 x6 x7 x8 x9 := by
  have key : ∀ n, ∀ (x0 : α0) (x1 : α1) (x2 : α2) (x3 : α3) (x4 : α4) (x5 : α5) (x6 : α6) (x7 : α7) (x8 : α8) (x9 : α9), I x0 x1 x2 x3 x4 x5 x6 x7 x8 x9 → μ x0 x1 x2 x3 x4 x5 x6 x7 x8 x9 < n → kk_it10 F n x0 x1 x2 x3 x4 x5 x6 x7 x8 x9 := by
    intro n
    induction n with
    | zero => intro x0 x1 x2 x3 x4 x5 x6 x7 x8 x9 _ h0; exact absurd h0 (Nat.not_lt_zero _)
    | succ n ih => exact fun x0 x1 x2 x3 x4 x5 x6 x7 x8 x9 h1 h2 => hs (kk_it10 F n) x0 x1 x2 x3 x4 x5 x6 x7 x8 x9 h1 (fun x0' x1' x2' x3' x4' x5' x6' x7' x8' x9' h3 h4 => ih x0' x1' x2' x3' x4' x5' x6' x7' x8' x9' h3 (by omega))
  exact ⟨μ x0 x1 x2 x3 x4 x5 x6 x7 x8 x9 + 1, key _ x0 x1 x2 x3 x4 x5 x6 x7 x8 x9 h (Nat.lt_succ_self _)⟩
def kk_j11 {α0 : Type} {α1 : Type} {α2 : Type} {α3 : Type} {α4 : Type} {α5 : Type} {α6 : Type} {α7 : Type} {α8 : Type} {α9 : Type} {α10 : Type} (K : α0 → α1 → α2 → α3 → α4 → α5 → α6 → α7 → α8 → α9 → α10 → Prop) (B : (α0 → α1 → α2 → α3 → α4 → α5 → α6 → α7 → α8 → α9 → α10 → Prop) → Prop) : Prop := B K
theorem kk_jW11 {α0 : Type} {α1 : Type} {α2 : Type} {α3 : Type} {α4 : Type} {α5 : Type} {α6 : Type} {α7 : Type} {α8 : Type} {α9 : Type} {α10 : Type} {K P : α0 → α1 → α2 → α3 → α4 → α5 → α6 → α7 → α8 → α9 → α10 → Prop} {B : (α0 → α1 → α2 → α3 → α4 → α5 → α6 → α7 → α8 → α9 → α10 → Prop) → Prop} {G : Prop} (h : kk_j11 K B) (hJ : ∀ (x0 : α0) (x1 : α1) (x2 : α2) (x3 : α3) (x4 : α4) (x5 : α5) (x6 : α6) (x7 : α7) (x8 : α8) (x9 : α9) (x10 : α10), K x0 x1 x2 x3 x4 x5 x6 x7 x8 x9 x10 → P x0 x1 x2 x3 x4 x5 x6 x7 x8 x9 x10) (hb : ∀ J : α0 → α1 → α2 → α3 → α4 → α5 → α6 → α7 → α8 → α9 → α10 → Prop, (∀ (x0 : α0) (x1 : α1) (x2 : α2) (x3 : α3) (x4 : α4) (x5 : α5) (x6 : α6) (x7 : α7) (x8 : α8) (x9 : α9) (x10 : α10), J x0 x1 x2 x3 x4 x5 x6 x7 x8 x9 x10 → P x0 x1 x2 x3 x4 x5 x6 x7 x8 x9 x10) → B J → G) : G := hb K hJ h
def kk_it11 {α0 : Type} {α1 : Type} {α2 : Type} {α3 : Type} {α4 : Type} {α5 : Type} {α6 : Type} {α7 : Type} {α8 : Type} {α9 : Type} {α10 : Type} (F : (α0 → α1 → α2 → α3 → α4 → α5 → α6 → α7 → α8 → α9 → α10 → Prop) → α0 → α1 → α2 → α3 → α4 → α5 → α6 → α7 → α8 → α9 → α10 → Prop) : Nat → α0 → α1 → α2 → α3 → α4 → α5 → α6 → α7 → α8 → α9 → α10 → Prop
  | 0 => fun _ _ _ _ _ _ _ _ _ _ _ => False
  | n + 1 => F (kk_it11 F n)
def kk_lp11 {α0 : Type} {α1 : Type} {α2 : Type} {α3 : Type} {α4 : Type} {α5 : Type} {α6 : Type} {α7 : Type} {α8 : Type} {α9 : Type} {α10 : Type} (F : (α0 → α1 → α2 → α3 → α4 → α5 → α6 → α7 → α8 → α9 → α10 → Prop) → α0 → α1 → α2 → α3 → α4 → α5 → α6 → α7 → α8 → α9 → α10 → Prop) (x0 : α0) (x1 : α1) (x2 : α2) (x3 : α3) (x4 : α4) (x5 : α5) (x6 : α6) (x7 : α7) (x8 : α8) (x9 : α9) (x10 : α10) : Prop := ∃ n, kk_it11 F n x0 x1 x2 x3 x4 x5 x6 x7 x8 x9 x10
theorem kk_lpW11 {α0 : Type} {α1 : Type} {α2 : Type} {α3 : Type} {α4 : Type} {α5 : Type} {α6 : Type} {α7 : Type} {α8 : Type} {α9 : Type} {α10 : Type} {F : (α0 → α1 → α2 → α3 → α4 → α5 → α6 → α7 → α8 → α9 → α10 → Prop) → α0 → α1 → α2 → α3 → α4 → α5 → α6 → α7 → α8 → α9 → α10 → Prop} {P : α0 → α1 → α2 → α3 → α4 → α5 → α6 → α7 → α8 → α9 → α10 → Prop} (hs : ∀ rec : α0 → α1 → α2 → α3 → α4 → α5 → α6 → α7 → α8 → α9 → α10 → Prop, (∀ (x0 : α0) (x1 : α1) (x2 : α2) (x3 : α3) (x4 : α4) (x5 : α5) (x6 : α6) (x7 : α7) (x8 : α8) (x9 : α9) (x10 : α10), rec x0 x1 x2 x3 x4 x5 x6 x7 x8 x9 x10 → P x0 x1 x2 x3 x4 x5 x6 x7 x8 x9 x10) → ∀ (x0 : α0) (x1 : α1) (x2 : α2) (x3 : α3) (x4 : α4) (x5 : α5) (x6 : α6) (x7 : α7) (x8 : α8) (x9 : α9) (x10 : α10), F rec x0 x1 x2 x3 x4 x5 x6 x7 x8 x9 x10 → P x0 x1 x2 x3 x4 x5 x6 x7 x8 x9 x10) {x0 : α0} {x1 : α1} {x2 : α2} {x3 : α3} {x4 : α4} {x5 : α5} {x6 : α6} {x7 : α7} {x8 : α8} {x9 : α9} {x10 : α10} (h : kk_lp11 F x0 x1 x2 x3 x4 x5 x6 x7 x8 x9 x10) : P x0 x1 x2 x3 x4 x5 x6 x7 x8 x9 x10 := by
  obtain ⟨n, h⟩ := h
  revert h
  revert x0 x1 x2 x3 x4 x5 x6 x7 x8 x9 x10
  induction n with
  | zero => intro x0 x1 x2 x3 x4 x5 x6 x7 x8 x9 x10 h; exact h.elim
  | succ n ih => intro x0 x1 x2 x3 x4 x5 x6 x7 x8 x9 x10 h; exact hs (kk_it11 F n) (fun x0 x1 x2 x3 x4 x5 x6 x7 x8 x9 x10 h => ih h) x0 x1 x2 x3 x4 x5 x6 x7 x8 x9 x10 h
/-- a loop: an invariant and a measure that falls -/
theorem kk_lpI11 {α0 : Type} {α1 : Type} {α2 : Type} {α3 : Type} {α4 : Type} {α5 : Type} {α6 : Type} {α7 : Type} {α8 : Type} {α9 : Type} {α10 : Type} {F : (α0 → α1 → α2 → α3 → α4 → α5 → α6 → α7 → α8 → α9 → α10 → Prop) → α0 → α1 → α2 → α3 → α4 → α5 → α6 → α7 → α8 → α9 → α10 → Prop} (I : α0 → α1 → α2 → α3 → α4 → α5 → α6 → α7 → α8 → α9 → α10 → Prop) (μ : α0 → α1 → α2 → α3 → α4 → α5 → α6 → α7 → α8 → α9 → α10 → Nat) (hs : ∀ rec : α0 → α1 → α2 → α3 → α4 → α5 → α6 → α7 → α8 → α9 → α10 → Prop, ∀ (x0 : α0) (x1 : α1) (x2 : α2) (x3 : α3) (x4 : α4) (x5 : α5) (x6 : α6) (x7 : α7) (x8 : α8) (x9 : α9) (x10 : α10), I x0 x1 x2 x3 x4 x5 x6 x7 x8 x9 x10 → (∀ (x0' : α0) (x1' : α1) (x2' : α2) (x3' : α3) (x4' : α4) (x5' : α5) (x6' : α6) (x7' : α7) (x8' : α8) (x9' : α9) (x10' : α10), I x0' x1' x2' x3' x4' x5' x6' x7' x8' x9' x10' → μ x0' x1' x2' x3' x4' x5' x6' x7' x8' x9' x10' < μ x0 x1 x2 x3 x4 x5 x6 x7 x8 x9 x10 → rec x0' x1' x2' x3' x4' x5' x6' x7' x8' x9' x10') → F rec x0 x1 x2 x3 x4 x5 x6 x7 x8 x9 x10) {x0 : α0} {x1 : α1} {x2 : α2} {x3 : α3} {x4 : α4} {x5 : α5} {x6 : α6} {x7 : α7} {x8 : α8} {x9 : α9} {x10 : α10} (h : I x0 x1 x2 x3 x4 x5 x6 x7 x8 x9 x10) : kk_lp11 F x0 x1 x2 x3 x4 x5 x6 x7 x8 x9 x10 := by
  have key : ∀ n, ∀ (x0 : α0) (x1 : α1) (x2 : α2) (x3 : α3) (x4 : α4) (x5 : α5) (x6 : α6) (x7 : α7) (x8 : α8) (x9 : α9) (x10 : α10), I x0 x1 x2 x3 x4 x5 x6 x7 x8 x9 x10 → μ x0 x1 x2 x3 x4 x5 x6 x7 x8 x9 x10 < n → kk_it11 F n x0 x1 x2 x3 x4 x5 x6 x7 x8 x9 x10 := by
    intro n
    induction n with
    | zero => intro x0 x1 x2 x3 x4 x5 x6 x7 x8 x9 x10 _ h0; exact absurd h0 (Nat.not_lt_zero _)
    | succ n ih => exact fun x0 x1 x2 x3 x4 x5 x6 x7 x8 x9 x10 h1 h2 => hs (kk_it11 F n) x0 x1 x2 x3 x4 x5 x6 x7 x8 x9 x10 h1 (fun x0' x1' x2' x3' x4' x5' x6' x7' x8' x9' x10' h3 h4 => ih x0' x1' x2' x3' x4' x5' x6' x7' x8' x9' x10' h3 (by omega))
  exact ⟨μ x0 x1 x2 x3 x4 x5 x6 x7 x8 x9 x10 + 1, key _ x0 x1 x2 x3 x4 x5 x6 x7 x8 x9 x10 h (Nat.lt_succ_self _)⟩
def kk_j12 {α0 : Type} {α1 : Type} {α2 : Type} {α3 : Type} {α4 : Type} {α5 : Type} {α6 : Type} {α7 : Type} {α8 : Type} {α9 : Type} {α10 : Type} {α11 : Type} (K : α0 → α1 → α2 → α3 → α4 → α5 → α6 → α7 → α8 → α9 → α10 → α11 → Prop) (B : (α0 → α1 → α2 → α3 → α4 → α5 → α6 → α7 → α8 → α9 → α10 → α11 → Prop) → Prop) : Prop := B K
theorem kk_jW12 {α0 : Type} {α1 : Type} {α2 : Type} {α3 : Type} {α4 : Type} {α5 : Type} {α6 : Type} {α7 : Type} {α8 : Type} {α9 : Type} {α10 : Type} {α11 : Type} {K P : α0 → α1 → α2 → α3 → α4 → α5 → α6 → α7 → α8 → α9 → α10 → α11 → Prop} {B : (α0 → α1 → α2 → α3 → α4 → α5 → α6 → α7 → α8 → α9 → α10 → α11 → Prop) → Prop} {G : Prop} (h : kk_j12 K B) (hJ : ∀ (x0 : α0) (x1 : α1) (x2 : α2) (x3 : α3) (x4 : α4) (x5 : α5) (x6 : α6) (x7 : α7) (x8 : α8) (x9 : α9) (x10 : α10) (x11 : α11), K x0 x1 x2 x3 x4 x5 x6 x7 x8 x9 x10 x11 → P x0 x1 x2 x3 x4 x5 x6 x7 x8 x9 x10 x11) (hb : ∀ J : α0 → α1 → α2 → α3 → α4 → α5 → α6 → α7 → α8 → α9 → α10 → α11 → Prop, (∀ (x0 : α0) (x1 : α1) (x2 : α2) (x3 : α3) (x4 : α4) (x5 : α5) (x6 : α6) (x7 : α7) (x8 : α8) (x9 : α9) (x10 : α10) (x11 : α11), J x0 x1 x2 x3 x4 x5 x6 x7 x8 x9 x10 x11 → P x0 x1 x2 x3 x4 x5 x6 x7 x8 x9 x10 x11) → B J → G) : G := hb K hJ h
def kk_it12 {α0 : Type} {α1 : Type} {α2 : Type} {α3 : Type} {α4 : Type} {α5 : Type} {α6 : Type} {α7 : Type} {α8 : Type} {α9 : Type} {α10 : Type} {α11 : Type} (F : (α0 → α1 → α2 → α3 → α4 → α5 → α6 → α7 → α8 → α9 → α10 → α11 → Prop) → α0 → α1 → α2 → α3 → α4 → α5 → α6 → α7 → α8 → α9 → α10 → α11 → Prop) : Nat → α0 → α1 → α2 → α3 → α4 → α5 → α6 → α7 → α8 → α9 → α10 → α11 → Prop
  | 0 => fun _ _ _ _ _ _ _ _ _ _ _ _ => False
  | n + 1 => F (kk_it12 F n)
def kk_lp12 {α0 : Type} {α1 : Type} {α2 : Type} {α3 : Type} {α4 : Type} {α5 : Type} {α6 : Type} {α7 : Type} {α8 : Type} {α9 : Type} {α10 : Type} {α11 : Type} (F : (α0 → α1 → α2 → α3 → α4 → α5 → α6 → α7 → α8 → α9 → α10 → α11 → Prop) → α0 → α1 → α2 → α3 → α4 → α5 → α6 → α7 → α8 → α9 → α10 → α11 → Prop) (x0 : α0) (x1 : α1) (x2 : α2) (x3 : α3) (x4 : α4) (x5 : α5) (x6 : α6) (x7 : α7) (x8 : α8) (x9 : α9) (x10 : α10) (x11 : α11) : Prop := ∃ n, kk_it12 F n x0 x1 x2 x3 x4 x5 x6 x7 x8 x9 x10 x11
theorem kk_lpW12 {α0 : Type} {α1 : Type} {α2 : Type} {α3 : Type} {α4 : Type} {α5 : Type} {α6 : Type} {α7 : Type} {α8 : Type} {α9 : Type} {α10 : Type} {α11 : Type} {F : (α0 → α1 → α2 → α3 → α4 → α5 → α6 → α7 → α8 → α9 → α10 → α11 → Prop) → α0 → α1 → α2 → α3 → α4 → α5 → α6 → α7 → α8 → α9 → α10 → α11 → Prop} {P : α0 → α1 → α2 → α3 → α4 → α5 → α6 → α7 → α8 → α9 → α10 → α11 → Prop} (hs : ∀ rec : α0 → α1 → α2 → α3 → α4 → α5 → α6 → α7 → α8 → α9 → α10 → α11 → Prop, (∀ (x0 : α0) (x1 : α1) (x2 : α2) (x3 : α3) (x4 : α4) (x5 : α5) (x6 : α6) (x7 : α7) (x8 : α8) (x9 : α9) (x10 : α10) (x11 : α11), rec x0 x1 x2 x3 x4 x5 x6 x7 x8 x9 x10 x11 → P x0 x1 x2 x3 x4 x5 x6 x7 x8 x9 x10 x11) → ∀ (x0 : α0) (x1 : α1) (x2 : α2) (x3 : α3) (x4 : α4) (x5 : α5) (x6 : α6) (x7 : α7) (x8 : α8) (x9 : α9) (x10 : α10) (x11 : α11), F rec x0 x1 x2 x3 x4 x5 x6 x7 x8 x9 x10 x11 → P x0 x1 x2 x3 x4 x5 x6 x7 x8 x9 x10 x11) {x0 : α0} {x1 : α1} {x2 : α2} {x3 : α3} {x4 : α4} {x5 : α5} {x6 : α6} {x7 : α7} {x8 : α8} {x9 : α9} {x10 : α10} {x11 : α11} (h : kk_lp12 F x0 x1 x2 x3 x4 x5 x6 x7 x8 x9 x10 x11) : P x0 x1 x2 x3 x4 x5 x6 x7 x8 x9 x10 x11 := by
  obtain ⟨n, h⟩ := h
  revert h
  revert x0 x1 x2 x3 x4 x5 x6 x7 x8 x9 x10 x11
  induction n with
  | zero => intro x0 x1 x2 x3 x4 x5 x6 x7 x8 x9 x10 x11 h; exact h.elim
  | succ n ih => intro x0 x1 x2 x3 x4 x5 x6 x7 x8 x9 x10 x11 h; exact hs (kk_it12 F n) (fun x0 x1 x2 x3 x4 x5 x6 x7 x8 x9 x10 x11 h => ih h) x0 x1 x2 x3 x4 x5 x6 x7 x8 x9 x10 x11 h
/-- a loop: an invariant and a measure that falls -/
theorem kk_lpI12 {α0 : Type} {α1 : Type} {α2 : Type} {α3 : Type} {α4 : Type} {α5 : Type} {α6 : Type} {α7 : Type} {α8 : Type} {α9 : Type} {α10 : Type} {α11 : Type} {F : (α0 → α1 → α2 → α3 → α4 → α5 → α6 → α7 → α8 → α9 → α10 → α11 → Prop) → α0 → α1 → α2 → α3 → α4 → α5 → α6 → α7 → α8 → α9 → α10 → α11 → Prop} (I : α0 → α1 → α2 → α3 → α4 → α5 → α6 → α7 → α8 → α9 → α10 → α11 → Prop) (μ : α0 → α1 → α2 → α3 → α4 → α5 → α6 → α7 → α8 → α9 → α10 → α11 → Nat) (hs : ∀ rec : α0 → α1 → α2 → α3 → α4 → α5 → α6 → α7 → α8 → α9 → α10 → α11 → Prop, ∀ (x0 : α0) (x1 : α1) (x2 : α2) (x3 : α3) (x4 : α4) (x5 : α5) (x6 : α6) (x7 : α7) (x8 : α8) (x9 : α9) (x10 : α10) (x11 : α11), I x0 x1 x2 x3 x4 x5 x6 x7 x8 x9 x10 x11 → (∀ (x0' : α0) (x1' : α1) (x2' : α2) (x3' : α3) (x4' : α4) (x5' : α5) (x6' : α6) (x7' : α7) (x8' : α8) (x9' : α9) (x10' : α10) (x11' : α11), I x0' x1' x2' x3' x4' x5' x6' x7' x8' x9' x10' x11' → μ x0' x1' x2' x3' x4' x5' x6' x7' x8' x9' x10' x11' < μ x0 x1 x2 x3 x4 x5 x6 x7 x8 x9 x10 x11 → rec x0' x1' x2' x3' x4' x5' x6' x7' x8' x9' x10' x11') → F rec x0 x1 x2 x3 x4 x5 x6 x7 x8 x9 x10 x11) {x0 : α0} {x1 : α1} {x2 : α2} {x3 : α3} {x4 : α4} {x5 : α5} {x6 : α6} {x7 : α7} {x8 : α8} {x9 : α9} {x10 : α10} {x11 : α11} (h : I x0 x1 x2 x3 x4 x5 x6 x7 x8 x9 x10 x11) : kk_lp12 F x0 x1 x2 x3 x4 x5 x6 x7 x8 x9 x10 x11 := by
  have key : ∀ n, ∀ (x0 : α0) (x1 : α1) (x2 : α2) (x3 : α3) (x4 : α4) (x5 : α5) (x6 : α6) (x7 : α7) (x8 : α8) (x9 : α9) (x10 : α10) (x11 : α11), I x0 x1 x2 x3 x4 x5 x6 x7 x8 x9 x10 x11 → μ x0 x1 x2 x3 x4 x5 x6 x7 x8 x9 x10 x11 < n → kk_it12 F n x0 x1 x2 x3 x4 x5 x6 x7 x8 x9 x10 x11 := by
    intro n
    induction n with
    | zero => intro x0 x1 x2 x3 x4 x5 x6 x7 x8 x9 x10 x11 _ h0; exact absurd h0 (Nat.not_lt_zero _)
    | succ n ih => exact fun x0 x1 x2 x3 x4 x5 x6 x7 x8 x9 x10 x11 h1 h2 => hs (kk_it12 F n) x0 x1 x2 x3 x4 x5 x6 x7 x8 x9 x10 x11 h1 (fun x0' x1' x2' x3' x4' x5' x6' x7' x8' x9' x10' x11' h3 h4 => ih x0' x1' x2' x3' x4' x5' x6' x7' x8' x9' x10' x11' h3 (by omega))
  exact ⟨μ x0 x1 x2 x3 x4 x5 x6 x7 x8 x9 x10 x11 + 1, key _ x0 x1 x2 x3 x4 x5 x6 x7 x8 x9 x10 x11 h (Nat.lt_succ_self _)⟩
abbrev sh_C : List kk_Sh := [.inr (10, [some 1, some 2, some 3, some 4, some 5, some 6, some 7, some 8, some 9, some 10, some 31, some 32, none]), .inr (6, [some 11, some 12, some 13, some 14, some 15, none, none, none]), .inr (3, [some 1, some 16, some 17]), .inr (4, [some 1, some 2, some 18, none]), .inr (5, [some 1, some 2, some 3, some 19, none]), .inr (2, [some 1, some 2]), .inr (1, [some 1, some 2, none, none, none]), .inr (7, [some 1, some 20, some 21, some 22, none, none, none, none]), .inr (0, [some 1, some 23, some 24]), .inr (8, [some 1, some 25, some 26]), .inr (9, [some 1, some 27, some 28, some 29, some 30, none, none]), .inl (false, 20), .inl (false, 20), .inl (false, 20), .inl (false, 9), .inl (false, 9), .inl (false, 20), .inl (false, 9), .inl (false, 9), .inl (false, 5), .inl (false, 9), .inl (false, 20), .inl (false, 20), .inl (false, 5), .inl (false, 5), .inl (false, 9), .inl (false, 10), .inl (false, 6), .inl (false, 128), .inl (false, 128), .inl (false, 128), .inl (false, 20), .inl (false, 20)]
abbrev sh_M : List kk_Sh := [.inr (11, [none, none, none, some 1, some 2, some 3, some 4, some 5, none, none, some 6, none, none, some 7, some 8, some 9, some 10, none, some 11, some 12, some 13, some 14, some 15, none, some 16, some 17, some 18, some 19, some 20, some 21, some 22]), .inl (false, 20), .inl (false, 20), .inl (false, 20), .inl (false, 20), .inl (false, 20), .inl (false, 9), .inl (false, 5), .inl (false, 9), .inl (false, 18), .inl (false, 20), .inl (false, 20), .inl (false, 9), .inl (false, 20), .inl (false, 20), .inl (false, 9), .inl (false, 10), .inl (true, 10), .inl (false, 20), .inl (false, 4096), .inl (false, 4096), .inl (false, 10752), .inl (false, 2560)]
theorem ic_m1 : Int32.ofInt (-1) = (-1 : Int32) := by decide +kernel
theorem ic_0 : Int32.ofInt (0) = (0 : Int32) := by decide +kernel
theorem ic_1 : Int32.ofInt (1) = (1 : Int32) := by decide +kernel
theorem ic_2 : Int32.ofInt (2) = (2 : Int32) := by decide +kernel
theorem ic_3 : Int32.ofInt (3) = (3 : Int32) := by decide +kernel
theorem ic_4 : Int32.ofInt (4) = (4 : Int32) := by decide +kernel
theorem ic_5 : Int32.ofInt (5) = (5 : Int32) := by decide +kernel
theorem bp_m3 : (Int8.ofInt (-3)).toInt32 = (-3 : Int32) := by decide +kernel
theorem bp_m2 : (Int8.ofInt (-2)).toInt32 = (-2 : Int32) := by decide +kernel
theorem bp_6 : (Int8.ofInt (6)).toInt32 = (6 : Int32) := by decide +kernel
theorem bp_7 : (Int8.ofInt (7)).toInt32 = (7 : Int32) := by decide +kernel
theorem bp_8 : (Int8.ofInt (8)).toInt32 = (8 : Int32) := by decide +kernel
theorem bp_9 : (Int8.ofInt (9)).toInt32 = (9 : Int32) := by decide +kernel
theorem bp_10 : (Int8.ofInt (10)).toInt32 = (10 : Int32) := by decide +kernel
theorem bp_16 : (Int8.ofInt (16)).toInt32 = (16 : Int32) := by decide +kernel
theorem bp_18 : (Int8.ofInt (18)).toInt32 = (18 : Int32) := by decide +kernel
theorem bp_19 : (Int8.ofInt (19)).toInt32 = (19 : Int32) := by decide +kernel
theorem bp_20 : (Int8.ofInt (20)).toInt32 = (20 : Int32) := by decide +kernel
theorem bp_21 : (Int8.ofInt (21)).toInt32 = (21 : Int32) := by decide +kernel
theorem bp_24 : (Int8.ofInt (24)).toInt32 = (24 : Int32) := by decide +kernel
theorem bp_31 : (Int8.ofInt (31)).toInt32 = (31 : Int32) := by decide +kernel
theorem bp_32 : (Int8.ofInt (32)).toInt32 = (32 : Int32) := by decide +kernel
theorem bp_63 : (Int8.ofInt (63)).toInt32 = (63 : Int32) := by decide +kernel
theorem bp_99 : (Int8.ofInt (99)).toInt32 = (99 : Int32) := by decide +kernel
theorem sp_128 : (Int16.ofInt (128)).toInt32 = (128 : Int32) := by decide +kernel
theorem sp_256 : (Int16.ofInt (256)).toInt32 = (256 : Int32) := by decide +kernel
theorem sp_511 : (Int16.ofInt (511)).toInt32 = (511 : Int32) := by decide +kernel
theorem sp_512 : (Int16.ofInt (512)).toInt32 = (512 : Int32) := by decide +kernel
theorem sp_1000 : (Int16.ofInt (1000)).toInt32 = (1000 : Int32) := by decide +kernel
theorem sp_1365 : (Int16.ofInt (1365)).toInt32 = (1365 : Int32) := by decide +kernel
theorem sp_2560 : (Int16.ofInt (2560)).toInt32 = (2560 : Int32) := by decide +kernel
theorem sp_4096 : (Int16.ofInt (4096)).toInt32 = (4096 : Int32) := by decide +kernel
theorem lc_0 : Int64.ofNat ((0 : Fin 2) : Nat) = (0 : Int64) := by decide +kernel
theorem lc_1 : Int64.ofNat ((1 : Fin 2) : Nat) = (1 : Int64) := by decide +kernel
theorem ii_m16 (x : Int32) : x + Int32.ofInt (-16) = x + (-16 : Int32) := congrArg (fun z => x + z) (show Int32.ofInt (-16) = (-16 : Int32) by decide +kernel)
theorem ii_m8 (x : Int32) : x + Int32.ofInt (-8) = x + (-8 : Int32) := congrArg (fun z => x + z) (show Int32.ofInt (-8) = (-8 : Int32) by decide +kernel)
theorem ii_m4 (x : Int32) : x + Int32.ofInt (-4) = x + (-4 : Int32) := congrArg (fun z => x + z) (show Int32.ofInt (-4) = (-4 : Int32) by decide +kernel)
theorem ii_m2 (x : Int32) : x + Int32.ofInt (-2) = x + (-2 : Int32) := congrArg (fun z => x + z) (show Int32.ofInt (-2) = (-2 : Int32) by decide +kernel)
theorem ii_m1 (x : Int32) : x + Int32.ofInt (-1) = x + (-1 : Int32) := congrArg (fun z => x + z) (show Int32.ofInt (-1) = (-1 : Int32) by decide +kernel)
theorem ii_1 (x : Int32) : x + Int32.ofInt (1) = x + (1 : Int32) := congrArg (fun z => x + z) (show Int32.ofInt (1) = (1 : Int32) by decide +kernel)
theorem ii_2 (x : Int32) : x + Int32.ofInt (2) = x + (2 : Int32) := congrArg (fun z => x + z) (show Int32.ofInt (2) = (2 : Int32) by decide +kernel)
theorem ii_4 (x : Int32) : x + Int32.ofInt (4) = x + (4 : Int32) := congrArg (fun z => x + z) (show Int32.ofInt (4) = (4 : Int32) by decide +kernel)
theorem ii_8 (x : Int32) : x + Int32.ofInt (8) = x + (8 : Int32) := congrArg (fun z => x + z) (show Int32.ofInt (8) = (8 : Int32) by decide +kernel)
theorem ii_16 (x : Int32) : x + Int32.ofInt (16) = x + (16 : Int32) := congrArg (fun z => x + z) (show Int32.ofInt (16) = (16 : Int32) by decide +kernel)
theorem nz_2 : ¬ (2 : Int32) = 0 := by decide +kernel
theorem nz_9 : ¬ (9 : Int32) = 0 := by decide +kernel
theorem shM_long : ∀ t m, sh_M[t]? = some (.inl (true, m)) → t = 17 := by
  intro t m h
  have hl := (List.getElem?_eq_some_iff.mp h).1
  have key : ∀ t, t < sh_M.length → (match sh_M[t]? with | some (.inl (true, _)) => decide (t = 17) | _ => true) = true := by decide
  have h2 := key t hl
  rw [h] at h2
  simpa using h2
def f_J6_bitCount_0f7a4 (v0 : Int32) (Q : Int32 → Prop) : Prop :=
 (∀ v0_1 : Int32, v0_1 = (v0 - ((kk_ushr v0 (1 : Int32)) &&& (1431655765 : Int32))) → (∀ v0_2 : Int32, v0_2 = ((v0_1 &&& (858993459 : Int32)) + ((kk_ushr v0_1 (2 : Int32)) &&& (858993459 : Int32))) → (∀ v0_3 : Int32, v0_3 = ((v0_2 + (kk_ushr v0_2 (4 : Int32))) &&& (252645135 : Int32)) → (∀ v0_4 : Int32, v0_4 = (v0_3 + (kk_ushr v0_3 (8 : Int32))) → (∀ v0_5 : Int32, v0_5 = (v0_4 + (kk_ushr v0_4 (16 : Int32))) → Q (v0_5 &&& (63 : Int32)))))))
def f_J6_compare_7cf53 (v0 : Int32) (v1 : Int32) (Q : Int32 → Prop) : Prop :=
 (kk_j1 (fun (t_1 : Int32) => Q t_1)
 (fun (J_2 : Int32 → Prop) => ((v1 ≤ v0 → ((¬ v0 = v1 → J_2 (1 : Int32)) ∧
 (v0 = v1 → J_2 (0 : Int32)))) ∧
 (¬ v1 ≤ v0 → J_2 (-1 : Int32)))))
def f_J6_lowestOneBit_0f7a4 (v0 : Int32) (Q : Int32 → Prop) : Prop :=
 Q (v0 &&& (-v0))
def f_J6_numberOfLeadingZeros_0f7a4 (v0 : Int32) (Q : Int32 → Prop) : Prop :=
 ((0 < v0 → (kk_j2 (fun (v0_1 : Int32) (v1_2 : Int32) => (kk_j2 (fun (v0_4 : Int32) (v1_5 : Int32) => (kk_j2 (fun (v0_7 : Int32) (v1_8 : Int32) => (kk_j2 (fun (v0_10 : Int32) (v1_11 : Int32) => Q (v1_11 - (kk_ushr v0_10 (1 : Int32))))
 (fun (J_12 : Int32 → Int32 → Prop) => ((v0_7 < (4 : Int32) → J_12 v0_7 v1_8) ∧
 (¬ v0_7 < (4 : Int32) → J_12 (kk_ushr v0_7 (2 : Int32)) (v1_8 + (-2 : Int32)))))))
 (fun (J_9 : Int32 → Int32 → Prop) => ((v0_4 < (16 : Int32) → J_9 v0_4 v1_5) ∧
 (¬ v0_4 < (16 : Int32) → J_9 (kk_ushr v0_4 (4 : Int32)) (v1_5 + (-4 : Int32)))))))
 (fun (J_6 : Int32 → Int32 → Prop) => ((v0_1 < (256 : Int32) → J_6 v0_1 v1_2) ∧
 (¬ v0_1 < (256 : Int32) → J_6 (kk_ushr v0_1 (8 : Int32)) (v1_2 + (-8 : Int32)))))))
 (fun (J_3 : Int32 → Int32 → Prop) => ((v0 < (65536 : Int32) → J_3 v0 (31 : Int32)) ∧
 (¬ v0 < (65536 : Int32) → J_3 (kk_ushr v0 (16 : Int32)) ((31 : Int32) + (-16 : Int32))))))) ∧
 (¬ 0 < v0 → (kk_j1 (fun (t_17 : Int32) => Q t_17)
 (fun (J_18 : Int32 → Prop) => ((¬ v0 = 0 → J_18 (0 : Int32)) ∧
 (v0 = 0 → J_18 (32 : Int32)))))))
def f_J6_numberOfTrailingZeros_0f7a4 (v0 : Int32) (Q : Int32 → Prop) : Prop :=
 (∀ v0_1 : Int32, v0_1 = ((v0 ^^^ (-1 : Int32)) &&& (v0 - (1 : Int32))) → ((0 < v0_1 → (kk_j2 (fun (v0_2 : Int32) (v1_3 : Int32) => (kk_j2 (fun (v0_5 : Int32) (v1_6 : Int32) => (kk_j2 (fun (v0_8 : Int32) (v1_9 : Int32) => (kk_j2 (fun (v0_11 : Int32) (v1_12 : Int32) => Q (v1_12 + (kk_ushr v0_11 (1 : Int32))))
 (fun (J_13 : Int32 → Int32 → Prop) => ((v0_8 ≤ (4 : Int32) → J_13 v0_8 v1_9) ∧
 (¬ v0_8 ≤ (4 : Int32) → J_13 (kk_ushr v0_8 (2 : Int32)) (v1_9 + (2 : Int32)))))))
 (fun (J_10 : Int32 → Int32 → Prop) => ((v0_5 ≤ (16 : Int32) → J_10 v0_5 v1_6) ∧
 (¬ v0_5 ≤ (16 : Int32) → J_10 (kk_ushr v0_5 (4 : Int32)) (v1_6 + (4 : Int32)))))))
 (fun (J_7 : Int32 → Int32 → Prop) => ((v0_2 ≤ (256 : Int32) → J_7 v0_2 v1_3) ∧
 (¬ v0_2 ≤ (256 : Int32) → J_7 (kk_ushr v0_2 (8 : Int32)) (v1_3 + (8 : Int32)))))))
 (fun (J_4 : Int32 → Int32 → Prop) => ((v0_1 ≤ (65536 : Int32) → J_4 v0_1 (1 : Int32)) ∧
 (¬ v0_1 ≤ (65536 : Int32) → (∀ v0_17 : Int32, v0_17 = (kk_ushr v0_1 (16 : Int32)) → J_4 v0_17 ((1 : Int32) + (16 : Int32)))))))) ∧
 (¬ 0 < v0_1 → Q (v0_1 &&& (32 : Int32)))))
def f_J7_fill_53178 (a0 : Nat) (n0 : Nat) (v1 : Int32) (σ : kk_St) (Q : kk_St → Prop) : Prop :=
 (kk_lp2 (fun (rec_3 : Int32 → kk_St → Prop) (v2_1 : Int32) (σ_2 : kk_St) =>
 (((Int32.ofNat n0) ≤ v2_1 → Q σ_2) ∧
 (¬ (Int32.ofNat n0) ≤ v2_1 → (vp_in v2_1 n0 ∧
 (∀ σ_4 : kk_St, σ_4 = (kk_wr σ_2 a0 (Int32.toNatClampNeg v2_1) v1) → rec_3 (v2_1 + (1 : Int32)) σ_4))))) (0 : Int32) σ)
def f_J9_max_7cf53 (v0 : Int32) (v1 : Int32) (Q : Int32 → Prop) : Prop :=
 (kk_j1 (fun (t_1 : Int32) => Q t_1)
 (fun (J_2 : Int32 → Prop) => ((v0 < v1 → J_2 v1) ∧
 (¬ v0 < v1 → J_2 v0))))
def f_J9_min_7cf53 (v0 : Int32) (v1 : Int32) (Q : Int32 → Prop) : Prop :=
 (kk_j1 (fun (t_1 : Int32) => Q t_1)
 (fun (J_2 : Int32 → Prop) => ((v1 < v0 → J_2 v1) ∧
 (¬ v1 < v0 → J_2 v0))))
def f_X0_gather : Nat → Int32 → Int32 → Int32 → Int32 → kk_St → (kk_St → Prop) → Prop
| 0, _, _, _, _, _, _ => False
| n + 1, v1, v2, v3, v4, σ, Q =>
 (vp_in v4 5 ∧
 (kk_j1 (fun (σ_1 : kk_St) => (vp_in v4 5 ∧
 (vp_in v4 5 ∧
 (∀ σ_3 : kk_St, σ_3 = (kk_wr σ_1 23 (Int32.toNatClampNeg v4) ((kk_rd σ_1 23 v4) + (1 : Int32))) → ((v4 < (4 : Int32) → (kk_lp2 (fun (rec_6 : Int32 → kk_St → Prop) (v5_4 : Int32) (σ_5 : kk_St) =>
 (((σ_5.1 1 6) ≤ v5_4 → Q σ_5) ∧
 (¬ (σ_5.1 1 6) ≤ v5_4 → (kk_j1 (fun (σ_7 : kk_St) => rec_6 (v5_4 + (1 : Int32)) σ_7)
 (fun (J_8 : kk_St → Prop) => ((¬ ((v2 >>> (v5_4 &&& 31)) &&& (1 : Int32)) = 0 → J_8 σ_5) ∧
 (((v2 >>> (v5_4 &&& 31)) &&& (1 : Int32)) = 0 → (vp_in v5_4 20 ∧
 (f_X0_gather n (v5_4 + (1 : Int32)) (v2 ||| (kk_rd σ_5 13 v5_4)) (v3 ||| ((1 : Int32) <<< (v5_4 &&& 31))) (v4 + (1 : Int32)) σ_5 (fun (σ_9 : kk_St) =>
 J_8 σ_9)))))))))) v1 σ_3)) ∧
 (¬ v4 < (4 : Int32) → Q σ_3))))))
 (fun (J_2 : kk_St → Prop) => (kk_j0 ((vp_in v4 5 ∧
 (∀ σ_14 : kk_St, σ_14 = (kk_wr σ 24 (Int32.toNatClampNeg v4) v3) → J_2 σ_14)))
 (fun (J_13 : Prop) => (((kk_rd σ 23 v4) = 0 → J_13) ∧
 (¬ (kk_rd σ 23 v4) = 0 → (vp_in v4 5 ∧
 (((kk_rd σ 24 v4) ≤ v3 → J_2 σ) ∧
 (¬ (kk_rd σ 24 v4) ≤ v3 → J_13))))))))))
def f_X0_gatherAll (σ : kk_St) (Q : kk_St → Prop) : Prop :=
 (f_J7_fill_53178 23 5 (0 : Int32) σ (fun (σ_1 : kk_St) =>
 (f_X0_gather 30 (0 : Int32) (0 : Int32) (0 : Int32) (0 : Int32) σ_1 (fun (σ_2 : kk_St) =>
 Q σ_2))))
def f_X0_most (σ : kk_St) (Q : Int32 → Prop) : Prop :=
 (kk_lp2 (fun (rec_3 : Int32 → Int32 → Prop) (v1_1 : Int32) (v2_2 : Int32) =>
 (((4 : Int32) < v2_2 → Q v1_1) ∧
 (¬ (4 : Int32) < v2_2 → (vp_in v2_2 5 ∧
 (kk_j1 (fun (v1_4 : Int32) => rec_3 v1_4 (v2_2 + (1 : Int32)))
 (fun (J_5 : Int32 → Prop) => (((kk_rd σ 23 v2_2) ≤ 0 → J_5 v1_1) ∧
 (¬ (kk_rd σ 23 v2_2) ≤ 0 → J_5 v2_2)))))))) (0 : Int32) (0 : Int32))
def f_X10_apart (v1 : Int32) (σ : kk_St) (Q : Int32 → kk_St → Prop) : Prop :=
 (kk_j0 (Q (-1 : Int32) σ)
 (fun (J_1 : Prop) => ((v1 < 0 → J_1) ∧
 (¬ v1 < 0 → ((v1 ≤ (1 : Int32) → (f_X0_gatherAll σ (fun (σ_2 : kk_St) =>
 (f_X0_most σ_2 (fun (r_3 : Int32) =>
 (kk_j1 (fun (t_4 : Int32) => Q t_4 σ_2)
 (fun (J_5 : Int32 → Prop) => ((¬ v1 = 0 → (vp_in r_3 5 ∧
 J_5 (kk_rd σ_2 24 r_3))) ∧
 (v1 = 0 → J_5 r_3))))))))) ∧
 (¬ v1 ≤ (1 : Int32) → J_1))))))
def f_X10_areAllBelow (a1 : Nat) (n1 : Nat) (v2 : Int32) (σ : kk_St) (Q : Int32 → Prop) : Prop :=
 (kk_j0 (Q (0 : Int32))
 (fun (J_1 : Prop) => (kk_lp1 (fun (rec_3 : Int32 → Prop) (v3_2 : Int32) =>
 (((σ.1 1 6) ≤ v3_2 → Q (1 : Int32)) ∧
 (¬ (σ.1 1 6) ≤ v3_2 → (vp_in v3_2 n1 ∧
 (((kk_rd σ a1 v3_2) = (-1 : Int32) → J_1) ∧
 (¬ (kk_rd σ a1 v3_2) = (-1 : Int32) → (vp_in v3_2 n1 ∧
 (((kk_rd σ a1 v3_2) < v2 → rec_3 (v3_2 + (1 : Int32))) ∧
 (¬ (kk_rd σ a1 v3_2) < v2 → J_1))))))))) (0 : Int32))))
def f_X10_countUnlike (σ : kk_St) (Q : Int32 → Prop) : Prop :=
 (kk_lp2 (fun (rec_3 : Int32 → Int32 → Prop) (v1_1 : Int32) (v2_2 : Int32) =>
 (((σ.1 1 6) ≤ v2_2 → Q v1_1) ∧
 (¬ (σ.1 1 6) ≤ v2_2 → (vp_in v2_2 20 ∧
 (vp_in v2_2 20 ∧
 (kk_j1 (fun (v1_4 : Int32) => rec_3 v1_4 (v2_2 + (1 : Int32)))
 (fun (J_5 : Int32 → Prop) => (((kk_rd σ 31 v2_2) = (kk_rd σ 16 v2_2) → J_5 v1_1) ∧
 (¬ (kk_rd σ 31 v2_2) = (kk_rd σ 16 v2_2) → J_5 (v1_1 + (1 : Int32))))))))))) (0 : Int32) (0 : Int32))
def f_X3_clear (σ : kk_St) (Q : kk_St → Prop) : Prop :=
 (f_J7_fill_53178 16 20 (-1 : Int32) σ (fun (σ_1 : kk_St) =>
 (f_J7_fill_53178 17 9 (0 : Int32) σ_1 (fun (σ_2 : kk_St) =>
 Q σ_2))))
def f_X3_strip (v1 : Int32) (σ : kk_St) (Q : kk_St → Prop) : Prop :=
 (vp_in v1 20 ∧
 (kk_j1 (fun (σ_1 : kk_St) => Q σ_1)
 (fun (J_2 : kk_St → Prop) => (((kk_rd σ 16 v1) = (-1 : Int32) → J_2 σ) ∧
 (¬ (kk_rd σ 16 v1) = (-1 : Int32) → (vp_in (kk_rd σ 16 v1) 9 ∧
 (vp_in (kk_rd σ 16 v1) 9 ∧
 (∀ σ_3 : kk_St, σ_3 = (kk_wr σ 17 (Int32.toNatClampNeg (kk_rd σ 16 v1)) ((kk_rd σ 17 (kk_rd σ 16 v1)) &&& (((1 : Int32) <<< (v1 &&& 31)) ^^^ (-1 : Int32)))) → (vp_in v1 20 ∧
 (∀ σ_4 : kk_St, σ_4 = (kk_wr σ_3 16 (Int32.toNatClampNeg v1) (-1 : Int32)) → J_2 σ_4))))))))))
def f_X3_give (v1 : Int32) (v2 : Int32) (σ : kk_St) (Q : kk_St → Prop) : Prop :=
 (f_X3_strip v1 σ (fun (σ_1 : kk_St) =>
 (vp_in v2 9 ∧
 (vp_in v2 9 ∧
 (∀ σ_2 : kk_St, σ_2 = (kk_wr σ_1 17 (Int32.toNatClampNeg v2) ((kk_rd σ_1 17 v2) ||| ((1 : Int32) <<< (v1 &&& 31)))) → (vp_in v1 20 ∧
 (∀ σ_3 : kk_St, σ_3 = (kk_wr σ_2 16 (Int32.toNatClampNeg v1) v2) → Q σ_3)))))))
def f_X10_back (σ : kk_St) (Q : Int32 → kk_St → Prop) : Prop :=
 ((¬ (σ.1 0 12) = 0 → (f_X10_countUnlike σ (fun (r_1 : Int32) =>
 (f_X3_clear σ (fun (σ_2 : kk_St) =>
 (kk_lp2 (fun (rec_5 : Int32 → kk_St → Prop) (v2_3 : Int32) (σ_4 : kk_St) =>
 (((σ_4.1 1 6) ≤ v2_3 → Q r_1 σ_4) ∧
 (¬ (σ_4.1 1 6) ≤ v2_3 → (vp_in v2_3 20 ∧
 (kk_j1 (fun (σ_6 : kk_St) => rec_5 (v2_3 + (1 : Int32)) σ_6)
 (fun (J_7 : kk_St → Prop) => (((kk_rd σ_4 31 v2_3) = (-1 : Int32) → J_7 σ_4) ∧
 (¬ (kk_rd σ_4 31 v2_3) = (-1 : Int32) → (vp_in v2_3 20 ∧
 (f_X3_give v2_3 (kk_rd σ_4 31 v2_3) σ_4 (fun (σ_8 : kk_St) =>
 J_7 σ_8))))))))))) (0 : Int32) σ_2)))))) ∧
 ((σ.1 0 12) = 0 → Q (-1 : Int32) σ))
def f_X6_isLine (v1 : Int32) (σ : kk_St) (Q : Int32 → Prop) : Prop :=
 (kk_j1 (fun (t_1 : Int32) => ((t_1 = 0 ∨ t_1 = 1) ∧ Q t_1))
 (fun (J_2 : Int32 → Prop) => (kk_j0 (J_2 (0 : Int32))
 (fun (J_3 : Prop) => ((v1 < 0 → J_3) ∧
 (¬ v1 < 0 → (((σ.1 1 6) ≤ v1 → J_3) ∧
 (¬ (σ.1 1 6) ≤ v1 → J_2 (1 : Int32)))))))))
def f_X10_bare (v1 : Int32) (σ : kk_St) (Q : Int32 → kk_St → Prop) : Prop :=
 (f_X6_isLine v1 σ (fun (r_1 : Int32) =>
 (kk_j0 (Q (-1 : Int32) σ)
 (fun (J_2 : Prop) => ((r_1 = 0 → J_2) ∧
 (¬ r_1 = 0 → (vp_in v1 20 ∧
 ((¬ (kk_rd σ 16 v1) = (-1 : Int32) → (vp_in v1 20 ∧
 (f_X3_strip v1 σ (fun (σ_3 : kk_St) =>
 Q (kk_rd σ 16 v1) σ_3)))) ∧
 ((kk_rd σ 16 v1) = (-1 : Int32) → J_2)))))))))
def f_X6_clear (v1 : Int32) (σ : kk_St) (Q : kk_St → Prop) : Prop :=
 (∀ σ_1 : kk_St, σ_1 = (kk_wr σ 1 5 v1) → (∀ σ_2 : kk_St, σ_2 = (kk_wr σ_1 1 6 (0 : Int32)) → (∀ σ_3 : kk_St, σ_3 = (kk_wr σ_2 1 7 (0 : Int32)) → (f_J7_fill_53178 14 9 (0 : Int32) σ_3 (fun (σ_4 : kk_St) =>
 (f_J7_fill_53178 15 9 (0 : Int32) σ_4 (fun (σ_5 : kk_St) =>
 Q σ_5)))))))
def f_X7_forgetAnswer (σ : kk_St) (Q : kk_St → Prop) : Prop :=
 (∀ σ_1 : kk_St, σ_1 = (kk_wr σ 7 4 (-1 : Int32)) → Q σ_1)
def f_X7_forget (σ : kk_St) (Q : kk_St → Prop) : Prop :=
 (∀ σ_1 : kk_St, σ_1 = (kk_wr σ 7 6 (-1 : Int32)) → (∀ σ_2 : kk_St, σ_2 = (kk_wr σ_1 7 7 (-1 : Int32)) → (f_X7_forgetAnswer σ_2 (fun (σ_3 : kk_St) =>
 Q σ_3))))
def f_X10_begin (v1 : Int32) (σ : kk_St) (Q : Int32 → kk_St → Prop) : Prop :=
 (kk_j0 (Q (0 : Int32) σ)
 (fun (J_1 : Prop) => ((v1 < (1 : Int32) → J_1) ∧
 (¬ v1 < (1 : Int32) → ((v1 ≤ (9 : Int32) → (f_X6_clear v1 σ (fun (σ_2 : kk_St) =>
 (f_X3_clear σ_2 (fun (σ_3 : kk_St) =>
 (∀ σ_4 : kk_St, σ_4 = (kk_wr σ_3 4 4 (0 : Int32)) → (f_X7_forget σ_4 (fun (σ_5 : kk_St) =>
 (∀ σ_6 : kk_St, σ_6 = (kk_wr σ_5 0 12 (0 : Int32)) → Q (1 : Int32) σ_6))))))))) ∧
 (¬ v1 ≤ (9 : Int32) → J_1))))))
def f_X10_greatestBit (v0 : Int32) (Q : Int32 → Prop) : Prop :=
 (f_J6_numberOfLeadingZeros_0f7a4 v0 (fun (r_1 : Int32) =>
 Q ((31 : Int32) - r_1)))
def f_X10_idleOf (v0 : Int32) (Q : Int32 → Prop) : Prop :=
 ((¬ v0 = 0 → (f_X10_greatestBit v0 (fun (r_1 : Int32) =>
 (f_J6_numberOfTrailingZeros_0f7a4 v0 (fun (r_2 : Int32) =>
 (f_J6_bitCount_0f7a4 v0 (fun (r_3 : Int32) =>
 Q (((r_1 - r_2) - r_3) + (1 : Int32))))))))) ∧
 (v0 = 0 → Q (0 : Int32)))
def f_X3_coloursAt (v1 : Int32) (σ : kk_St) (Q : Int32 → Prop) : Prop :=
 (kk_lp2 (fun (rec_3 : Int32 → Int32 → Prop) (v2_1 : Int32) (v3_2 : Int32) =>
 (((9 : Int32) ≤ v3_2 → Q v2_1) ∧
 (¬ (9 : Int32) ≤ v3_2 → (vp_in v3_2 9 ∧
 (vp_in v1 9 ∧
 (kk_j1 (fun (v2_4 : Int32) => rec_3 v2_4 (v3_2 + (1 : Int32)))
 (fun (J_5 : Int32 → Prop) => ((((kk_rd σ 17 v3_2) &&& (kk_rd σ 14 v1)) = 0 → J_5 v2_1) ∧
 (¬ ((kk_rd σ 17 v3_2) &&& (kk_rd σ 14 v1)) = 0 → (∀ v2_6 : Int32, v2_6 = (v2_1 ||| ((1 : Int32) <<< (v3_2 &&& 31))) → J_5 v2_6)))))))))) (0 : Int32) (0 : Int32))
def f_X1_idleOfAll (v1 : Int32) (v2 : Int32) (σ : kk_St) (Q : Int32 → Prop) : Prop :=
 (kk_lp2 (fun (rec_3 : Int32 → Int32 → Prop) (v3_1 : Int32) (v4_2 : Int32) =>
 (((σ.1 1 5) ≤ v4_2 → Q v3_1) ∧
 (¬ (σ.1 1 5) ≤ v4_2 → (f_X3_coloursAt v4_2 σ (fun (r_4 : Int32) =>
 (kk_j1 (fun (t_5 : Int32) => (kk_j1 (fun (t_7 : Int32) => (f_X10_idleOf t_7 (fun (r_9 : Int32) =>
 rec_3 (v3_1 + r_9) (v4_2 + (1 : Int32)))))
 (fun (J_8 : Int32 → Prop) => ((t_5 = 0 → J_8 r_4) ∧
 (¬ t_5 = 0 → J_8 (r_4 ^^^ (((1 : Int32) <<< (v1 &&& 31)) ||| ((1 : Int32) <<< (v2 &&& 31)))))))))
 (fun (J_6 : Int32 → Prop) => ((((r_4 >>> (v1 &&& 31)) &&& (1 : Int32)) = ((r_4 >>> (v2 &&& 31)) &&& (1 : Int32)) → J_6 (0 : Int32)) ∧
 (¬ ((r_4 >>> (v1 &&& 31)) &&& (1 : Int32)) = ((r_4 >>> (v2 &&& 31)) &&& (1 : Int32)) → J_6 (1 : Int32)))))))))) (0 : Int32) (0 : Int32))
def f_X3_colours (σ : kk_St) (Q : Int32 → Prop) : Prop :=
 Q ((σ.1 1 7) + (1 : Int32))
def f_X1_look (σ : kk_St) (Q : kk_St → Prop) : Prop :=
 (f_X1_idleOfAll (0 : Int32) (0 : Int32) σ (fun (r_1 : Int32) =>
 (∀ σ_2 : kk_St, σ_2 = (kk_wr σ 6 2 (0 : Int32)) → (kk_lp2 (fun (rec_5 : Int32 → kk_St → Prop) (v2_3 : Int32) (σ_4 : kk_St) =>
 (f_X3_colours σ_4 (fun (r_6 : Int32) =>
 ((r_6 ≤ v2_3 → Q σ_4) ∧
 (¬ r_6 ≤ v2_3 → (kk_lp2 (fun (rec_9 : Int32 → kk_St → Prop) (v3_7 : Int32) (σ_8 : kk_St) =>
 (f_X3_colours σ_8 (fun (r_10 : Int32) =>
 ((r_10 ≤ v3_7 → rec_5 (v2_3 + (1 : Int32)) σ_8) ∧
 (¬ r_10 ≤ v3_7 → (f_X1_idleOfAll v2_3 v3_7 σ_8 (fun (r_11 : Int32) =>
 (kk_j1 (fun (σ_12 : kk_St) => rec_9 (v3_7 + (1 : Int32)) σ_12)
 (fun (J_13 : kk_St → Prop) => (((r_1 - r_11) ≤ (σ_8.1 6 2) → J_13 σ_8) ∧
 (¬ (r_1 - r_11) ≤ (σ_8.1 6 2) → (∀ σ_14 : kk_St, σ_14 = (kk_wr σ_8 6 2 (r_1 - r_11)) → (∀ σ_15 : kk_St, σ_15 = (kk_wr σ_14 6 3 v2_3) → (∀ σ_16 : kk_St, σ_16 = (kk_wr σ_15 6 4 v3_7) → J_13 σ_16)))))))))))))) (v2_3 + (1 : Int32)) σ_4)))))) (0 : Int32) σ_2))))
def f_X10_calmer (v1 : Int32) (σ : kk_St) (Q : Int32 → kk_St → Prop) : Prop :=
 (kk_j0 (Q (-1 : Int32) σ)
 (fun (J_1 : Prop) => ((v1 < 0 → J_1) ∧
 (¬ v1 < 0 → ((v1 ≤ (2 : Int32) → (f_X1_look σ (fun (σ_2 : kk_St) =>
 ((0 < (σ_2.1 6 2) → ((¬ v1 = 0 → (kk_j1 (fun (t_3 : Int32) => Q t_3 σ_2)
 (fun (J_4 : Int32 → Prop) => ((¬ v1 = (1 : Int32) → J_4 (σ_2.1 6 4)) ∧
 (v1 = (1 : Int32) → J_4 (σ_2.1 6 3)))))) ∧
 (v1 = 0 → Q (σ_2.1 6 2) σ_2))) ∧
 (¬ 0 < (σ_2.1 6 2) → Q (-2 : Int32) σ_2))))) ∧
 (¬ v1 ≤ (2 : Int32) → J_1))))))
def f_X3_isColour (v1 : Int32) (σ : kk_St) (Q : Int32 → Prop) : Prop :=
 (kk_j1 (fun (t_1 : Int32) => ((t_1 = 0 ∨ t_1 = 1) ∧ Q t_1))
 (fun (J_2 : Int32 → Prop) => (kk_j0 (J_2 (0 : Int32))
 (fun (J_3 : Prop) => ((v1 < 0 → J_3) ∧
 (¬ v1 < 0 → (f_X3_colours σ (fun (r_4 : Int32) =>
 ((r_4 ≤ v1 → J_3) ∧
 (¬ r_4 ≤ v1 → J_2 (1 : Int32)))))))))))
def f_X3_areUnlike (v1 : Int32) (v2 : Int32) (σ : kk_St) (Q : Int32 → Prop) : Prop :=
 (f_X3_isColour v1 σ (fun (r_1 : Int32) =>
 (kk_j1 (fun (t_2 : Int32) => ((t_2 = 0 ∨ t_2 = 1) ∧ Q t_2))
 (fun (J_3 : Int32 → Prop) => (kk_j0 (J_3 (0 : Int32))
 (fun (J_4 : Prop) => ((r_1 = 0 → J_4) ∧
 (¬ r_1 = 0 → (f_X3_isColour v2 σ (fun (r_5 : Int32) =>
 ((r_5 = 0 → J_4) ∧
 (¬ r_5 = 0 → ((v1 = v2 → J_4) ∧
 (¬ v1 = v2 → J_3 (1 : Int32)))))))))))))))
def f_X6_joined (v1 : Int32) (v2 : Int32) (σ : kk_St) (Q : Int32 → Prop) : Prop :=
 (kk_j1 (fun (v3_1 : Int32) => Q v3_1)
 (fun (J_2 : Int32 → Prop) => (kk_lp3 (fun (rec_6 : Int32 → Int32 → Int32 → Prop) (v3_3 : Int32) (v4_4 : Int32) (v5_5 : Int32) =>
 (((20 : Int32) ≤ v5_5 → J_2 v3_3) ∧
 (¬ (20 : Int32) ≤ v5_5 → ((v4_4 = 0 → J_2 v3_3) ∧
 (¬ v4_4 = 0 → (f_J6_numberOfTrailingZeros_0f7a4 v4_4 (fun (r_7 : Int32) =>
 (vp_in r_7 20 ∧
 (∀ v7_8 : Int32, v7_8 = (((kk_rd σ 13 r_7) &&& v2) &&& (v3_3 ^^^ (-1 : Int32))) → (∀ v4_9 : Int32, v4_9 = ((v4_4 &&& (((1 : Int32) <<< (r_7 &&& 31)) ^^^ (-1 : Int32))) ||| v7_8) → rec_6 (v3_3 ||| v7_8) v4_9 (v5_5 + (1 : Int32)))))))))))) (v1 &&& v2) (v1 &&& v2) (0 : Int32))))
def f_X3_chainOf (v1 : Int32) (v2 : Int32) (v3 : Int32) (σ : kk_St) (Q : Int32 → Prop) : Prop :=
 (vp_in v1 9 ∧
 (vp_in v2 9 ∧
 (vp_in v3 9 ∧
 (f_X6_joined (kk_rd σ 14 v1) ((kk_rd σ 17 v2) ||| (kk_rd σ 17 v3)) σ (fun (r_1 : Int32) =>
 Q r_1)))))
def f_X6_isPost (v1 : Int32) (σ : kk_St) (Q : Int32 → Prop) : Prop :=
 (kk_j1 (fun (t_1 : Int32) => ((t_1 = 0 ∨ t_1 = 1) ∧ Q t_1))
 (fun (J_2 : Int32 → Prop) => (kk_j0 (J_2 (0 : Int32))
 (fun (J_3 : Prop) => ((v1 < 0 → J_3) ∧
 (¬ v1 < 0 → (((σ.1 1 5) ≤ v1 → J_3) ∧
 (¬ (σ.1 1 5) ≤ v1 → J_2 (1 : Int32)))))))))
def f_X6_postsOf (v1 : Int32) (σ : kk_St) (Q : Int32 → Prop) : Prop :=
 (kk_lp2 (fun (rec_3 : Int32 → Int32 → Prop) (v2_1 : Int32) (v3_2 : Int32) =>
 (((σ.1 1 5) ≤ v3_2 → Q v2_1) ∧
 (¬ (σ.1 1 5) ≤ v3_2 → (vp_in v3_2 9 ∧
 (kk_j1 (fun (v2_4 : Int32) => rec_3 v2_4 (v3_2 + (1 : Int32)))
 (fun (J_5 : Int32 → Prop) => ((((kk_rd σ 14 v3_2) &&& v1) = 0 → J_5 v2_1) ∧
 (¬ ((kk_rd σ 14 v3_2) &&& v1) = 0 → (∀ v2_6 : Int32, v2_6 = (v2_1 ||| ((1 : Int32) <<< (v3_2 &&& 31))) → J_5 v2_6))))))))) (0 : Int32) (0 : Int32))
def f_X10_chain (v1 : Int32) (v2 : Int32) (v3 : Int32) (v4 : Int32) (σ : kk_St) (Q : Int32 → Prop) : Prop :=
 (f_X6_isPost v1 σ (fun (r_1 : Int32) =>
 (kk_j0 (Q (-1 : Int32))
 (fun (J_2 : Prop) => ((r_1 = 0 → J_2) ∧
 (¬ r_1 = 0 → (f_X3_areUnlike v2 v3 σ (fun (r_3 : Int32) =>
 ((¬ r_3 = 0 → (f_X3_chainOf v1 v2 v3 σ (fun (r_4 : Int32) =>
 (f_X6_postsOf r_4 σ (fun (r_5 : Int32) =>
 (∀ v6_6 : Int32, v6_6 = (r_5 ||| ((1 : Int32) <<< (v1 &&& 31))) → ((v4 = nI 0 → Q r_4) ∧
 (v4 = nI 1 → Q v6_6) ∧
 (v4 = nI 2 → (f_J6_bitCount_0f7a4 r_4 (fun (r_7 : Int32) =>
 (f_J6_bitCount_0f7a4 v6_6 (fun (r_8 : Int32) =>
 (kk_j1 (fun (t_9 : Int32) => Q t_9)
 (fun (J_10 : Int32 → Prop) => ((¬ r_7 = r_8 → J_10 (0 : Int32)) ∧
 (r_7 = r_8 → J_10 (1 : Int32)))))))))) ∧
 (v4 = nI 3 → (vp_in v2 9 ∧
 (f_J6_bitCount_0f7a4 (r_4 &&& (kk_rd σ 17 v2)) (fun (r_12 : Int32) =>
 (vp_in v3 9 ∧
 (f_J6_bitCount_0f7a4 (r_4 &&& (kk_rd σ 17 v3)) (fun (r_13 : Int32) =>
 (f_J6_compare_7cf53 r_12 r_13 (fun (r_14 : Int32) =>
 Q r_14))))))))) ∧
 (v4.toInt < 0 ∨ (4 : Int) ≤ v4.toInt → Q (-2 : Int32))))))))) ∧
 (r_3 = 0 → J_2))))))))))
def f_X2_countChains (v1 : Int32) (v2 : Int32) (σ : kk_St) (Q : Int32 → Prop) : Prop :=
 (vp_in v1 9 ∧
 (vp_in v2 9 ∧
 (∀ v3_1 : Int32, v3_1 = ((kk_rd σ 17 v1) ||| (kk_rd σ 17 v2)) → (kk_lp3 (fun (rec_5 : Int32 → Int32 → Int32 → Prop) (v4_2 : Int32) (v5_3 : Int32) (v6_4 : Int32) =>
 (((σ.1 1 6) ≤ v6_4 → Q v5_3) ∧
 (¬ (σ.1 1 6) ≤ v6_4 → (kk_j2 (fun (v4_6 : Int32) (v5_7 : Int32) => rec_5 v4_6 v5_7 (v6_4 + (1 : Int32)))
 (fun (J_8 : Int32 → Int32 → Prop) => ((((v4_2 >>> (v6_4 &&& 31)) &&& (1 : Int32)) = 0 → J_8 v4_2 v5_3) ∧
 (¬ ((v4_2 >>> (v6_4 &&& 31)) &&& (1 : Int32)) = 0 → (f_X6_joined ((1 : Int32) <<< (v6_4 &&& 31)) v3_1 σ (fun (r_9 : Int32) =>
 (∀ v4_10 : Int32, v4_10 = (v4_2 &&& (r_9 ^^^ (-1 : Int32))) → J_8 v4_10 (v5_3 + (1 : Int32)))))))))))) v3_1 (0 : Int32) (0 : Int32)))))
def f_X10_chains (v1 : Int32) (v2 : Int32) (σ : kk_St) (Q : Int32 → Prop) : Prop :=
 (f_X3_areUnlike v1 v2 σ (fun (r_1 : Int32) =>
 (kk_j1 (fun (t_2 : Int32) => Q t_2)
 (fun (J_3 : Int32 → Prop) => ((r_1 = 0 → J_3 (-1 : Int32)) ∧
 (¬ r_1 = 0 → (f_X2_countChains v1 v2 σ (fun (r_4 : Int32) =>
 J_3 r_4))))))))
def f_X3_lineWith (v1 : Int32) (v2 : Int32) (σ : kk_St) (Q : Int32 → Prop) : Prop :=
 (vp_in v1 9 ∧
 (vp_in v2 9 ∧
 (∀ v3_1 : Int32, v3_1 = ((kk_rd σ 14 v1) &&& (kk_rd σ 17 v2)) → (kk_j1 (fun (t_2 : Int32) => Q t_2)
 (fun (J_3 : Int32 → Prop) => ((¬ v3_1 = 0 → (f_J6_numberOfTrailingZeros_0f7a4 v3_1 (fun (r_4 : Int32) =>
 J_3 r_4))) ∧
 (v3_1 = 0 → J_3 (-1 : Int32))))))))
def f_X10_clash (v1 : Int32) (v2 : Int32) (σ : kk_St) (Q : Int32 → Prop) : Prop :=
 (f_X6_isLine v1 σ (fun (r_1 : Int32) =>
 (kk_j0 (Q (-1 : Int32))
 (fun (J_2 : Prop) => ((r_1 = 0 → J_2) ∧
 (¬ r_1 = 0 → (f_X3_isColour v2 σ (fun (r_3 : Int32) =>
 ((¬ r_3 = 0 → (vp_in v1 20 ∧
 ((¬ (kk_rd σ 16 v1) = v2 → (vp_in v1 20 ∧
 (f_X3_lineWith (kk_rd σ 11 v1) v2 σ (fun (r_4 : Int32) =>
 ((r_4 = (-1 : Int32) → (vp_in v1 20 ∧
 (f_X3_lineWith (kk_rd σ 12 v1) v2 σ (fun (r_5 : Int32) =>
 (kk_j1 (fun (t_6 : Int32) => Q t_6)
 (fun (J_7 : Int32 → Prop) => ((r_5 = (-1 : Int32) → J_7 (-2 : Int32)) ∧
 (¬ r_5 = (-1 : Int32) → J_7 r_5)))))))) ∧
 (¬ r_4 = (-1 : Int32) → Q r_4)))))) ∧
 ((kk_rd σ 16 v1) = v2 → Q v1)))) ∧
 (r_3 = 0 → J_2))))))))))
def f_X6_allPosts (σ : kk_St) (Q : Int32 → Prop) : Prop :=
 Q (((1 : Int32) <<< ((σ.1 1 5) &&& 31)) - (1 : Int32))
def f_X10_colour (v1 : Int32) (v2 : Int32) (σ : kk_St) (Q : Int32 → Prop) : Prop :=
 (f_X3_isColour v1 σ (fun (r_1 : Int32) =>
 ((¬ r_1 = 0 → (vp_in v1 9 ∧
 ((v2 = nI 0 → (f_J6_bitCount_0f7a4 (kk_rd σ 17 v1) (fun (r_2 : Int32) =>
 Q r_2))) ∧
 (v2 = nI 1 → Q (kk_rd σ 17 v1)) ∧
 (v2 = nI 2 → (f_X6_allPosts σ (fun (r_3 : Int32) =>
 (f_X6_postsOf (kk_rd σ 17 v1) σ (fun (r_4 : Int32) =>
 Q (r_3 &&& (r_4 ^^^ (-1 : Int32)))))))) ∧
 (v2.toInt < 0 ∨ (3 : Int) ≤ v2.toInt → Q (-1 : Int32))))) ∧
 (r_1 = 0 → Q (-1 : Int32)))))
def f_X3_freeAt (v1 : Int32) (σ : kk_St) (Q : Int32 → Prop) : Prop :=
 (f_X3_colours σ (fun (r_1 : Int32) =>
 (f_X3_coloursAt v1 σ (fun (r_2 : Int32) =>
 Q ((((1 : Int32) <<< (r_1 &&& 31)) - (1 : Int32)) &&& (r_2 ^^^ (-1 : Int32)))))))
def f_X3_freeAtBoth (v1 : Int32) (σ : kk_St) (Q : Int32 → Prop) : Prop :=
 (vp_in v1 20 ∧
 (f_X3_freeAt (kk_rd σ 11 v1) σ (fun (r_1 : Int32) =>
 (vp_in v1 20 ∧
 (f_X3_freeAt (kk_rd σ 12 v1) σ (fun (r_2 : Int32) =>
 Q (r_1 &&& r_2)))))))
def f_X10_countEasy (σ : kk_St) (Q : Int32 → Prop) : Prop :=
 (∀ v1_1 : Int32, v1_1 = (((1 : Int32) <<< ((σ.1 1 7) &&& 31)) - (1 : Int32)) → (kk_lp2 (fun (rec_4 : Int32 → Int32 → Prop) (v2_2 : Int32) (v3_3 : Int32) =>
 (((σ.1 1 6) ≤ v3_3 → Q v2_2) ∧
 (¬ (σ.1 1 6) ≤ v3_3 → (vp_in v3_3 20 ∧
 (kk_j1 (fun (v2_5 : Int32) => rec_4 v2_5 (v3_3 + (1 : Int32)))
 (fun (J_6 : Int32 → Prop) => ((¬ (kk_rd σ 16 v3_3) = (-1 : Int32) → J_6 v2_2) ∧
 ((kk_rd σ 16 v3_3) = (-1 : Int32) → (f_X3_freeAtBoth v3_3 σ (fun (r_7 : Int32) =>
 (((r_7 &&& v1_1) = 0 → J_6 v2_2) ∧
 (¬ (r_7 &&& v1_1) = 0 → J_6 (v2_2 + (1 : Int32)))))))))))))) (0 : Int32) (0 : Int32)))
def f_X6_allLines (σ : kk_St) (Q : Int32 → Prop) : Prop :=
 Q (((1 : Int32) <<< ((σ.1 1 6) &&& 31)) - (1 : Int32))
def f_X3_bareLines (σ : kk_St) (Q : Int32 → Prop) : Prop :=
 (f_X6_allLines σ (fun (r_1 : Int32) =>
 (kk_lp2 (fun (rec_4 : Int32 → Int32 → Prop) (v1_2 : Int32) (v2_3 : Int32) =>
 (((9 : Int32) ≤ v2_3 → Q v1_2) ∧
 (¬ (9 : Int32) ≤ v2_3 → (vp_in v2_3 9 ∧
 (∀ v1_5 : Int32, v1_5 = (v1_2 &&& ((kk_rd σ 17 v2_3) ^^^ (-1 : Int32))) → rec_4 v1_5 (v2_3 + (1 : Int32))))))) r_1 (0 : Int32))))
def f_X3_unevenness (σ : kk_St) (Q : Int32 → Prop) : Prop :=
 (kk_lp3 (fun (rec_4 : Int32 → Int32 → Int32 → Prop) (v1_1 : Int32) (v2_2 : Int32) (v3_3 : Int32) =>
 (((9 : Int32) ≤ v3_3 → (f_J9_max_7cf53 (0 : Int32) (v1_1 - v2_2) (fun (r_5 : Int32) =>
 Q r_5))) ∧
 (¬ (9 : Int32) ≤ v3_3 → (vp_in v3_3 9 ∧
 (kk_j2 (fun (v1_6 : Int32) (v2_7 : Int32) => rec_4 v1_6 v2_7 (v3_3 + (1 : Int32)))
 (fun (J_8 : Int32 → Int32 → Prop) => (((kk_rd σ 17 v3_3) = 0 → J_8 v1_1 v2_2) ∧
 (¬ (kk_rd σ 17 v3_3) = 0 → (vp_in v3_3 9 ∧
 (f_J6_bitCount_0f7a4 (kk_rd σ 17 v3_3) (fun (r_9 : Int32) =>
 (f_J9_max_7cf53 v1_1 r_9 (fun (r_10 : Int32) =>
 (vp_in v3_3 9 ∧
 (f_J6_bitCount_0f7a4 (kk_rd σ 17 v3_3) (fun (r_11 : Int32) =>
 (f_J9_min_7cf53 v2_2 r_11 (fun (r_12 : Int32) =>
 J_8 r_10 r_12)))))))))))))))))) (0 : Int32) (20 : Int32) (0 : Int32))
def f_X3_usedColours (σ : kk_St) (Q : Int32 → Prop) : Prop :=
 (kk_lp2 (fun (rec_3 : Int32 → Int32 → Prop) (v1_1 : Int32) (v2_2 : Int32) =>
 (((9 : Int32) ≤ v2_2 → Q v1_1) ∧
 (¬ (9 : Int32) ≤ v2_2 → (vp_in v2_2 9 ∧
 (kk_j1 (fun (v1_4 : Int32) => rec_3 v1_4 (v2_2 + (1 : Int32)))
 (fun (J_5 : Int32 → Prop) => (((kk_rd σ 17 v2_2) = 0 → J_5 v1_1) ∧
 (¬ (kk_rd σ 17 v2_2) = 0 → J_5 (v1_1 + (1 : Int32)))))))))) (0 : Int32) (0 : Int32))
def f_X10_count (v1 : Int32) (σ : kk_St) (Q : Int32 → Prop) : Prop :=
 ((v1 = nI 0 → Q (σ.1 1 5)) ∧
 (v1 = nI 1 → Q (σ.1 1 6)) ∧
 (v1 = nI 2 → Q (σ.1 1 7)) ∧
 (v1 = nI 3 → (f_X3_bareLines σ (fun (r_1 : Int32) =>
 (f_J6_bitCount_0f7a4 r_1 (fun (r_2 : Int32) =>
 Q r_2))))) ∧
 (v1 = nI 4 → (f_X3_usedColours σ (fun (r_3 : Int32) =>
 Q r_3))) ∧
 (v1 = nI 5 → (f_X3_unevenness σ (fun (r_4 : Int32) =>
 Q r_4))) ∧
 (v1 = nI 6 → (kk_j1 (fun (t_5 : Int32) => Q t_5)
 (fun (J_6 : Int32 → Prop) => (((σ.1 0 12) = 0 → J_6 (0 : Int32)) ∧
 (¬ (σ.1 0 12) = 0 → J_6 (1 : Int32)))))) ∧
 (v1 = nI 7 → (f_X10_countEasy σ (fun (r_8 : Int32) =>
 Q r_8))) ∧
 (v1.toInt < 0 ∨ (8 : Int) ≤ v1.toInt → Q (-1 : Int32)))
def f_X6_linesWithin (v1 : Int32) (v2 : Int32) (σ : kk_St) (Q : Int32 → Prop) : Prop :=
 (kk_lp2 (fun (rec_3 : Int32 → Int32 → Prop) (v3_1 : Int32) (v4_2 : Int32) =>
 (((σ.1 1 5) ≤ v4_2 → (f_J6_bitCount_0f7a4 (v2 &&& (v3_1 ^^^ (-1 : Int32))) (fun (r_4 : Int32) =>
 Q r_4))) ∧
 (¬ (σ.1 1 5) ≤ v4_2 → (kk_j1 (fun (v3_5 : Int32) => rec_3 v3_5 (v4_2 + (1 : Int32)))
 (fun (J_6 : Int32 → Prop) => ((¬ ((v1 >>> (v4_2 &&& 31)) &&& (1 : Int32)) = 0 → J_6 v3_1) ∧
 (((v1 >>> (v4_2 &&& 31)) &&& (1 : Int32)) = 0 → (vp_in v4_2 9 ∧
 (∀ v3_7 : Int32, v3_7 = (v3_1 ||| (kk_rd σ 14 v4_2)) → J_6 v3_7))))))))) (0 : Int32) (0 : Int32))
def f_X6_crowdedSet (v1 : Int32) (v2 : Int32) (σ : kk_St) (Q : Int32 → Prop) : Prop :=
 (kk_lp1 (fun (rec_2 : Int32 → Prop) (v3_1 : Int32) =>
 (f_X6_allPosts σ (fun (r_3 : Int32) =>
 ((r_3 < v3_1 → Q (0 : Int32)) ∧
 (¬ r_3 < v3_1 → (f_J6_bitCount_0f7a4 v3_1 (fun (r_4 : Int32) =>
 (kk_j0 (rec_2 (v3_1 + (1 : Int32)))
 (fun (J_5 : Prop) => ((r_4 < (3 : Int32) → J_5) ∧
 (¬ r_4 < (3 : Int32) → ((¬ (r_4 - r_4 / (2 : Int32) * (2 : Int32)) = (1 : Int32) → J_5) ∧
 ((r_4 - r_4 / (2 : Int32) * (2 : Int32)) = (1 : Int32) → (f_X6_linesWithin v3_1 v1 σ (fun (r_6 : Int32) =>
 ((r_6 ≤ (v2 * (r_4 / (2 : Int32))) → J_5) ∧
 (¬ r_6 ≤ (v2 * (r_4 / (2 : Int32))) → Q v3_1))))))))))))))))) (7 : Int32))
def f_X6_mostAtOnePost (v1 : Int32) (σ : kk_St) (Q : Int32 → Prop) : Prop :=
 (kk_lp2 (fun (rec_3 : Int32 → Int32 → Prop) (v2_1 : Int32) (v3_2 : Int32) =>
 (((σ.1 1 5) ≤ v3_2 → Q v2_1) ∧
 (¬ (σ.1 1 5) ≤ v3_2 → (vp_in v3_2 9 ∧
 (f_J6_bitCount_0f7a4 ((kk_rd σ 14 v3_2) &&& v1) (fun (r_4 : Int32) =>
 (f_J9_max_7cf53 v2_1 r_4 (fun (r_5 : Int32) =>
 rec_3 r_5 (v3_2 + (1 : Int32)))))))))) (0 : Int32) (0 : Int32))
def f_X7_completeWith (fr : Int32 → Int32 → kk_St → (Int32 → kk_St → Prop) → Prop) (v1 : Int32) (v2 : Int32) (v3 : Int32) (v4 : Int32) (σ : kk_St) (Q : Int32 → kk_St → Prop) : Prop :=
 (vp_in v2 9 ∧
 (vp_in v1 20 ∧
 (vp_in v2 9 ∧
 (∀ σ_1 : kk_St, σ_1 = (kk_wr σ 20 (Int32.toNatClampNeg v2) ((kk_rd σ 20 v2) &&& ((kk_rd σ 13 v1) ^^^ (-1 : Int32)))) → (fr v3 v4 σ_1 (fun (r_2 : Int32) (σ_3 : kk_St) =>
 (vp_in v2 9 ∧
 (∀ σ_4 : kk_St, σ_4 = (kk_wr σ_3 20 (Int32.toNatClampNeg v2) (kk_rd σ 20 v2)) → (kk_j1 (fun (σ_5 : kk_St) => ((r_2 = 0 ∨ r_2 = 1) ∧ Q r_2 σ_5))
 (fun (J_6 : kk_St → Prop) => ((r_2 = 0 → J_6 σ_4) ∧
 (¬ r_2 = 0 → (vp_in v1 20 ∧
 (∀ σ_7 : kk_St, σ_7 = (kk_wr σ_4 21 (Int32.toNatClampNeg v1) v2) → J_6 σ_7))))))))))))))
def f_X7_hasTwin (v1 : Int32) (v2 : Int32) (σ : kk_St) (Q : Int32 → Prop) : Prop :=
 (kk_lp1 (fun (rec_2 : Int32 → Prop) (v3_1 : Int32) =>
 ((v1 ≤ v3_1 → Q (0 : Int32)) ∧
 (¬ v1 ≤ v3_1 → (vp_in v3_1 9 ∧
 (vp_in v1 9 ∧
 ((¬ (((kk_rd σ 20 v3_1) ^^^ (kk_rd σ 20 v1)) &&& v2) = 0 → rec_2 (v3_1 + (1 : Int32))) ∧
 ((((kk_rd σ 20 v3_1) ^^^ (kk_rd σ 20 v1)) &&& v2) = 0 → Q (1 : Int32)))))))) (0 : Int32))
def f_X7_hasCrampedPost (v1 : Int32) (σ : kk_St) (Q : Int32 → Prop) : Prop :=
 (kk_lp1 (fun (rec_2 : Int32 → Prop) (v2_1 : Int32) =>
 (((σ.1 1 5) ≤ v2_1 → Q (0 : Int32)) ∧
 (¬ (σ.1 1 5) ≤ v2_1 → (vp_in v2_1 9 ∧
 (kk_lp2 (fun (rec_5 : Int32 → Int32 → Prop) (v4_3 : Int32) (v5_4 : Int32) =>
 (((9 : Int32) ≤ v5_4 → (f_J6_bitCount_0f7a4 (v1 &&& (kk_rd σ 14 v2_1)) (fun (r_6 : Int32) =>
 ((r_6 ≤ v4_3 → rec_2 (v2_1 + (1 : Int32))) ∧
 (¬ r_6 ≤ v4_3 → Q (1 : Int32)))))) ∧
 (¬ (9 : Int32) ≤ v5_4 → (vp_in v5_4 9 ∧
 (kk_j1 (fun (v4_8 : Int32) => rec_5 v4_8 (v5_4 + (1 : Int32)))
 (fun (J_9 : Int32 → Prop) => ((((kk_rd σ 20 v5_4) &&& (v1 &&& (kk_rd σ 14 v2_1))) = 0 → J_9 v4_3) ∧
 (¬ ((kk_rd σ 20 v5_4) &&& (v1 &&& (kk_rd σ 14 v2_1))) = 0 → J_9 (v4_3 + (1 : Int32)))))))))) (0 : Int32) (0 : Int32)))))) (0 : Int32))
def f_X7_roomOfColours (v1 : Int32) (σ : kk_St) (Q : Int32 → Prop) : Prop :=
 (kk_lp2 (fun (rec_3 : Int32 → Int32 → Prop) (v2_1 : Int32) (v3_2 : Int32) =>
 (((9 : Int32) ≤ v3_2 → Q v2_1) ∧
 (¬ (9 : Int32) ≤ v3_2 → (vp_in v3_2 9 ∧
 (f_X6_postsOf ((kk_rd σ 20 v3_2) &&& v1) σ (fun (r_4 : Int32) =>
 (f_J6_bitCount_0f7a4 r_4 (fun (r_5 : Int32) =>
 (∀ v2_6 : Int32, v2_6 = (v2_1 + (r_5 / (2 : Int32))) → rec_3 v2_6 (v3_2 + (1 : Int32))))))))))) (0 : Int32) (0 : Int32))
def f_X7_isHopeless (v1 : Int32) (σ : kk_St) (Q : Int32 → Prop) : Prop :=
 (f_X7_roomOfColours v1 σ (fun (r_1 : Int32) =>
 (f_J6_bitCount_0f7a4 v1 (fun (r_2 : Int32) =>
 (kk_j1 (fun (t_3 : Int32) => ((t_3 = 0 ∨ t_3 = 1) ∧ Q t_3))
 (fun (J_4 : Int32 → Prop) => (kk_j0 (J_4 (1 : Int32))
 (fun (J_5 : Prop) => ((r_1 < r_2 → J_5) ∧
 (¬ r_1 < r_2 → (f_X7_hasCrampedPost v1 σ (fun (r_6 : Int32) =>
 ((r_6 = 0 → J_4 (0 : Int32)) ∧
 (¬ r_6 = 0 → J_5))))))))))))))
def f_X7_tightest (v1 : Int32) (σ : kk_St) (Q : Int32 → Prop) : Prop :=
 (kk_lp3 (fun (rec_4 : Int32 → Int32 → Int32 → Prop) (v2_1 : Int32) (v3_2 : Int32) (v4_3 : Int32) =>
 (((σ.1 1 6) ≤ v4_3 → (kk_j1 (fun (t_5 : Int32) => Q t_5)
 (fun (J_6 : Int32 → Prop) => ((¬ v3_2 = 0 → J_6 v2_1) ∧
 (v3_2 = 0 → J_6 (-1 : Int32)))))) ∧
 (¬ (σ.1 1 6) ≤ v4_3 → (kk_j2 (fun (v2_8 : Int32) (v3_9 : Int32) => rec_4 v2_8 v3_9 (v4_3 + (1 : Int32)))
 (fun (J_10 : Int32 → Int32 → Prop) => ((((v1 >>> (v4_3 &&& 31)) &&& (1 : Int32)) = 0 → J_10 v2_1 v3_2) ∧
 (¬ ((v1 >>> (v4_3 &&& 31)) &&& (1 : Int32)) = 0 → (kk_lp2 (fun (rec_13 : Int32 → Int32 → Prop) (v5_11 : Int32) (v6_12 : Int32) =>
 (((9 : Int32) ≤ v6_12 → ((v3_2 ≤ v5_11 → J_10 v2_1 v3_2) ∧
 (¬ v3_2 ≤ v5_11 → J_10 v4_3 v5_11))) ∧
 (¬ (9 : Int32) ≤ v6_12 → (vp_in v6_12 9 ∧
 (∀ v5_15 : Int32, v5_15 = (v5_11 + (((kk_rd σ 20 v6_12) >>> (v4_3 &&& 31)) &&& (1 : Int32))) → rec_13 v5_15 (v6_12 + (1 : Int32))))))) (0 : Int32) (0 : Int32))))))))) (-1 : Int32) (10 : Int32) (0 : Int32))
def f_X7_complete : Nat → Int32 → Int32 → kk_St → (Int32 → kk_St → Prop) → Prop
| 0, _, _, _, _ => False
| n + 1, v1, v2, σ, Q =>
 ((¬ v1 = 0 → (f_X7_tightest v1 σ (fun (r_1 : Int32) =>
 (kk_j0 (Q (0 : Int32) σ)
 (fun (J_2 : Prop) => (((20 : Int32) ≤ v2 → J_2) ∧
 (¬ (20 : Int32) ≤ v2 → ((r_1 = (-1 : Int32) → J_2) ∧
 (¬ r_1 = (-1 : Int32) → (f_X7_isHopeless v1 σ (fun (r_3 : Int32) =>
 ((r_3 = 0 → (∀ v4_4 : Int32, v4_4 = (v1 &&& (((1 : Int32) <<< (r_1 &&& 31)) ^^^ (-1 : Int32))) → (kk_lp2 (fun (rec_7 : Int32 → kk_St → Prop) (v5_5 : Int32) (σ_6 : kk_St) =>
 (((9 : Int32) ≤ v5_5 → Q (0 : Int32) σ_6) ∧
 (¬ (9 : Int32) ≤ v5_5 → (vp_in v5_5 9 ∧
 (kk_j1 (fun (t_8 : Int32) => (kk_j1 (fun (σ_10 : kk_St) => rec_7 (v5_5 + (1 : Int32)) σ_10)
 (fun (J_11 : kk_St → Prop) => ((t_8 = 0 → J_11 σ_6) ∧
 (¬ t_8 = 0 → (f_X7_completeWith (f_X7_complete n) r_1 v5_5 v4_4 (v2 + (1 : Int32)) σ_6 (fun (r_12 : Int32) (σ_13 : kk_St) =>
 ((r_12 = 0 → J_11 σ_13) ∧
 (¬ r_12 = 0 → Q (1 : Int32) σ_13)))))))))
 (fun (J_9 : Int32 → Prop) => (kk_j2 (fun (v5_16 : Int32) (σ_17 : kk_St) => J_9 (0 : Int32))
 (fun (J_18 : Int32 → kk_St → Prop) => (((((kk_rd σ_6 20 v5_5) >>> (r_1 &&& 31)) &&& (1 : Int32)) = 0 → J_18 v5_5 σ_6) ∧
 (¬ (((kk_rd σ_6 20 v5_5) >>> (r_1 &&& 31)) &&& (1 : Int32)) = 0 → (f_X7_hasTwin v5_5 v1 σ_6 (fun (r_19 : Int32) =>
 ((¬ r_19 = 0 → J_18 v5_5 σ_6) ∧
 (r_19 = 0 → J_9 (1 : Int32))))))))))))))) (0 : Int32) σ))) ∧
 (¬ r_3 = 0 → J_2))))))))))))) ∧
 (v1 = 0 → Q (1 : Int32) σ))
def f_X7_openBelow (v1 : Int32) (σ : kk_St) (Q : kk_St → Prop) : Prop :=
 (kk_lp2 (fun (rec_3 : Int32 → kk_St → Prop) (v2_1 : Int32) (σ_2 : kk_St) =>
 (((9 : Int32) ≤ v2_1 → Q σ_2) ∧
 (¬ (9 : Int32) ≤ v2_1 → (kk_j1 (fun (t_4 : Int32) => (vp_in v2_1 9 ∧
 (∀ σ_6 : kk_St, σ_6 = (kk_wr σ_2 20 (Int32.toNatClampNeg v2_1) t_4) → rec_3 (v2_1 + (1 : Int32)) σ_6)))
 (fun (J_5 : Int32 → Prop) => ((v1 ≤ v2_1 → J_5 (0 : Int32)) ∧
 (¬ v1 ≤ v2_1 → (f_X6_allLines σ_2 (fun (r_7 : Int32) =>
 J_5 r_7))))))))) (0 : Int32) σ)
def f_X7_canDo (v1 : Int32) (v2 : Int32) (σ : kk_St) (Q : Int32 → kk_St → Prop) : Prop :=
 (f_X6_mostAtOnePost v1 σ (fun (r_1 : Int32) =>
 ((r_1 = v2 → (f_X6_crowdedSet v1 v2 σ (fun (r_2 : Int32) =>
 ((r_2 = 0 → (f_X7_openBelow v2 σ (fun (σ_3 : kk_St) =>
 (f_X7_complete 30 v1 (0 : Int32) σ_3 (fun (r_4 : Int32) (σ_5 : kk_St) =>
 ((r_4 = 0 ∨ r_4 = 1) ∧ Q r_4 σ_5)))))) ∧
 (¬ r_2 = 0 → Q (0 : Int32) σ))))) ∧
 (¬ r_1 = v2 → (kk_j1 (fun (t_7 : Int32) => ((t_7 = 0 ∨ t_7 = 1) ∧ Q t_7 σ))
 (fun (J_8 : Int32 → Prop) => ((v2 ≤ r_1 → J_8 (0 : Int32)) ∧
 (¬ v2 ≤ r_1 → J_8 (1 : Int32)))))))))
def f_X7_fewest (σ : kk_St) (Q : Int32 → kk_St → Prop) : Prop :=
 (kk_j1 (fun (σ_1 : kk_St) => Q (σ_1.1 7 6) σ_1)
 (fun (J_2 : kk_St → Prop) => ((¬ (σ.1 7 6) = (-1 : Int32) → J_2 σ) ∧
 ((σ.1 7 6) = (-1 : Int32) → (f_X6_allLines σ (fun (r_3 : Int32) =>
 (f_X7_canDo r_3 (σ.1 1 7) σ (fun (r_4 : Int32) (σ_5 : kk_St) =>
 (kk_j1 (fun (t_6 : Int32) => (∀ σ_8 : kk_St, σ_8 = (kk_wr σ_5 7 6 t_6) → J_2 σ_8))
 (fun (J_7 : Int32 → Prop) => ((r_4 = 0 → J_7 ((σ_5.1 1 7) + (1 : Int32))) ∧
 (¬ r_4 = 0 → J_7 (σ_5.1 1 7)))))))))))))
def f_X7_dearLines (σ : kk_St) (Q : Int32 → kk_St → Prop) : Prop :=
 (kk_j1 (fun (σ_1 : kk_St) => Q (σ_1.1 7 7) σ_1)
 (fun (J_2 : kk_St → Prop) => ((¬ (σ.1 7 7) = (-1 : Int32) → J_2 σ) ∧
 ((σ.1 7 7) = (-1 : Int32) → (kk_lp3 (fun (rec_6 : Int32 → Int32 → kk_St → Prop) (v1_3 : Int32) (v2_4 : Int32) (σ_5 : kk_St) =>
 (((σ_5.1 1 6) ≤ v2_4 → (∀ σ_7 : kk_St, σ_7 = (kk_wr σ_5 7 7 v1_3) → J_2 σ_7)) ∧
 (¬ (σ_5.1 1 6) ≤ v2_4 → (f_X6_allLines σ_5 (fun (r_8 : Int32) =>
 (f_X7_fewest σ_5 (fun (r_9 : Int32) (σ_10 : kk_St) =>
 (f_X7_canDo (r_8 &&& (((1 : Int32) <<< (v2_4 &&& 31)) ^^^ (-1 : Int32))) (r_9 - (1 : Int32)) σ_10 (fun (r_11 : Int32) (σ_12 : kk_St) =>
 (kk_j1 (fun (v1_13 : Int32) => rec_6 v1_13 (v2_4 + (1 : Int32)) σ_12)
 (fun (J_14 : Int32 → Prop) => ((r_11 = 0 → J_14 v1_3) ∧
 (¬ r_11 = 0 → (∀ v1_15 : Int32, v1_15 = (v1_3 ||| ((1 : Int32) <<< (v2_4 &&& 31))) → J_14 v1_15)))))))))))))) (0 : Int32) (0 : Int32) σ)))))
def f_X10_critical (σ : kk_St) (Q : Int32 → kk_St → Prop) : Prop :=
 (f_X7_dearLines σ (fun (r_1 : Int32) (σ_2 : kk_St) =>
 Q r_1 σ_2))
def f_X2_greatestUsed (σ : kk_St) (Q : Int32 → Prop) : Prop :=
 (kk_lp2 (fun (rec_3 : Int32 → Int32 → Prop) (v1_1 : Int32) (v2_2 : Int32) =>
 (((9 : Int32) ≤ v2_2 → Q v1_1) ∧
 (¬ (9 : Int32) ≤ v2_2 → (vp_in v2_2 9 ∧
 (kk_j1 (fun (v1_4 : Int32) => rec_3 v1_4 (v2_2 + (1 : Int32)))
 (fun (J_5 : Int32 → Prop) => (((kk_rd σ 17 v2_2) = 0 → J_5 v1_1) ∧
 (¬ (kk_rd σ 17 v2_2) = 0 → J_5 v2_2)))))))) (-1 : Int32) (0 : Int32))
def f_X2_howMany (v1 : Int32) (σ : kk_St) (Q : Int32 → Prop) : Prop :=
 (vp_in v1 9 ∧
 (f_J6_bitCount_0f7a4 (kk_rd σ 17 v1) (fun (r_1 : Int32) =>
 Q r_1)))
def f_X2_leaningChain (v1 : Int32) (v2 : Int32) (σ : kk_St) (Q : Int32 → Prop) : Prop :=
 (vp_in v1 9 ∧
 (vp_in v2 9 ∧
 (∀ v3_1 : Int32, v3_1 = ((kk_rd σ 17 v1) ||| (kk_rd σ 17 v2)) → (kk_lp2 (fun (rec_4 : Int32 → Int32 → Prop) (v4_2 : Int32) (v5_3 : Int32) =>
 (((σ.1 1 6) ≤ v5_3 → Q (0 : Int32)) ∧
 (¬ (σ.1 1 6) ≤ v5_3 → (kk_j1 (fun (v4_5 : Int32) => rec_4 v4_5 (v5_3 + (1 : Int32)))
 (fun (J_6 : Int32 → Prop) => ((((v4_2 >>> (v5_3 &&& 31)) &&& (1 : Int32)) = 0 → J_6 v4_2) ∧
 (¬ ((v4_2 >>> (v5_3 &&& 31)) &&& (1 : Int32)) = 0 → (f_X6_joined ((1 : Int32) <<< (v5_3 &&& 31)) v3_1 σ (fun (r_7 : Int32) =>
 (∀ v4_8 : Int32, v4_8 = (v4_2 &&& (r_7 ^^^ (-1 : Int32))) → (vp_in v1 9 ∧
 (f_J6_bitCount_0f7a4 (r_7 &&& (kk_rd σ 17 v1)) (fun (r_9 : Int32) =>
 (vp_in v2 9 ∧
 (f_J6_bitCount_0f7a4 (r_7 &&& (kk_rd σ 17 v2)) (fun (r_10 : Int32) =>
 ((r_9 ≤ r_10 → J_6 v4_8) ∧
 (¬ r_9 ≤ r_10 → Q r_7)))))))))))))))))) v3_1 (0 : Int32)))))
def f_X3_flip (v1 : Int32) (v2 : Int32) (v3 : Int32) (σ : kk_St) (Q : kk_St → Prop) : Prop :=
 (vp_in v2 9 ∧
 (vp_in v2 9 ∧
 (∀ σ_1 : kk_St, σ_1 = (kk_wr σ 17 (Int32.toNatClampNeg v2) ((kk_rd σ 17 v2) ^^^ v1)) → (vp_in v3 9 ∧
 (vp_in v3 9 ∧
 (∀ σ_2 : kk_St, σ_2 = (kk_wr σ_1 17 (Int32.toNatClampNeg v3) ((kk_rd σ_1 17 v3) ^^^ v1)) → (kk_lp2 (fun (rec_5 : Int32 → kk_St → Prop) (v4_3 : Int32) (σ_4 : kk_St) =>
 (((σ_4.1 1 6) ≤ v4_3 → Q σ_4) ∧
 (¬ (σ_4.1 1 6) ≤ v4_3 → (kk_j1 (fun (σ_6 : kk_St) => rec_5 (v4_3 + (1 : Int32)) σ_6)
 (fun (J_7 : kk_St → Prop) => ((((v1 >>> (v4_3 &&& 31)) &&& (1 : Int32)) = 0 → J_7 σ_4) ∧
 (¬ ((v1 >>> (v4_3 &&& 31)) &&& (1 : Int32)) = 0 → (vp_in v4_3 20 ∧
 (kk_j1 (fun (t_8 : Int32) => (vp_in v4_3 20 ∧
 (∀ σ_10 : kk_St, σ_10 = (kk_wr σ_4 16 (Int32.toNatClampNeg v4_3) t_8) → J_7 σ_10)))
 (fun (J_9 : Int32 → Prop) => ((¬ (kk_rd σ_4 16 v4_3) = v2 → J_9 v2) ∧
 ((kk_rd σ_4 16 v4_3) = v2 → J_9 v3)))))))))))) (0 : Int32) σ_2)))))))
def f_X2_makeEven (σ : kk_St) (Q : Int32 → kk_St → Prop) : Prop :=
 (kk_lp2 (fun (rec_3 : Int32 → kk_St → Prop) (v1_1 : Int32) (σ_2 : kk_St) =>
 (((1000 : Int32) ≤ v1_1 → Q (1000 : Int32) σ_2) ∧
 (¬ (1000 : Int32) ≤ v1_1 → (kk_lp3 (fun (rec_7 : Int32 → Int32 → Int32 → Prop) (v2_4 : Int32) (v3_5 : Int32) (v4_6 : Int32) =>
 (f_X2_greatestUsed σ_2 (fun (r_8 : Int32) =>
 ((r_8 < v4_6 → (f_X2_howMany v2_4 σ_2 (fun (r_9 : Int32) =>
 (f_X2_howMany v3_5 σ_2 (fun (r_10 : Int32) =>
 (((r_10 + (2 : Int32)) ≤ r_9 → (f_X2_leaningChain v2_4 v3_5 σ_2 (fun (r_11 : Int32) =>
 (f_X3_flip r_11 v2_4 v3_5 σ_2 (fun (σ_12 : kk_St) =>
 rec_3 (v1_1 + (1 : Int32)) σ_12))))) ∧
 (¬ (r_10 + (2 : Int32)) ≤ r_9 → Q v1_1 σ_2))))))) ∧
 (¬ r_8 < v4_6 → (f_X2_howMany v4_6 σ_2 (fun (r_14 : Int32) =>
 (f_X2_howMany v2_4 σ_2 (fun (r_15 : Int32) =>
 (kk_j1 (fun (t_16 : Int32) => (f_X2_howMany v4_6 σ_2 (fun (r_18 : Int32) =>
 (f_X2_howMany v3_5 σ_2 (fun (r_19 : Int32) =>
 (kk_j1 (fun (t_20 : Int32) => rec_7 t_16 t_20 (v4_6 + (1 : Int32)))
 (fun (J_21 : Int32 → Prop) => ((r_19 ≤ r_18 → J_21 v3_5) ∧
 (¬ r_19 ≤ r_18 → J_21 v4_6)))))))))
 (fun (J_17 : Int32 → Prop) => ((r_14 ≤ r_15 → J_17 v2_4) ∧
 (¬ r_14 ≤ r_15 → J_17 v4_6))))))))))))) (0 : Int32) (0 : Int32) (1 : Int32))))) (0 : Int32) σ)
def f_X10_even (σ : kk_St) (Q : Int32 → kk_St → Prop) : Prop :=
 (f_X2_makeEven σ (fun (r_1 : Int32) (σ_2 : kk_St) =>
 Q r_1 σ_2))
def f_X6_farEnd (v1 : Int32) (v2 : Int32) (σ : kk_St) (Q : Int32 → Prop) : Prop :=
 (vp_in v1 20 ∧
 (kk_j1 (fun (t_1 : Int32) => Q t_1)
 (fun (J_2 : Int32 → Prop) => ((¬ (kk_rd σ 11 v1) = v2 → (vp_in v1 20 ∧
 J_2 (kk_rd σ 11 v1))) ∧
 ((kk_rd σ 11 v1) = v2 → (vp_in v1 20 ∧
 J_2 (kk_rd σ 12 v1)))))))
def f_X4_follower (v1 : Int32) (v2 : Int32) (v3 : Int32) (σ : kk_St) (Q : Int32 → Prop) : Prop :=
 (f_X3_freeAt v2 σ (fun (r_1 : Int32) =>
 (kk_lp1 (fun (rec_3 : Int32 → Prop) (v5_2 : Int32) =>
 (((9 : Int32) ≤ v5_2 → Q (-1 : Int32)) ∧
 (¬ (9 : Int32) ≤ v5_2 → (f_X3_lineWith v1 v5_2 σ (fun (r_4 : Int32) =>
 (kk_j0 (rec_3 (v5_2 + (1 : Int32)))
 (fun (J_5 : Prop) => ((((r_1 >>> (v5_2 &&& 31)) &&& (1 : Int32)) = 0 → J_5) ∧
 (¬ ((r_1 >>> (v5_2 &&& 31)) &&& (1 : Int32)) = 0 → ((r_4 = (-1 : Int32) → J_5) ∧
 (¬ r_4 = (-1 : Int32) → (f_X6_farEnd r_4 v1 σ (fun (r_6 : Int32) =>
 ((¬ ((v3 >>> (r_6 &&& 31)) &&& (1 : Int32)) = 0 → J_5) ∧
 (((v3 >>> (r_6 &&& 31)) &&& (1 : Int32)) = 0 → Q r_6))))))))))))))) (0 : Int32))))
def f_X4_lay (v1 : Int32) (v2 : Int32) (σ : kk_St) (Q : kk_St → Prop) : Prop :=
 (f_X6_farEnd v1 v2 σ (fun (r_1 : Int32) =>
 (vp_in (0 : Int32) 9 ∧
 (∀ σ_2 : kk_St, σ_2 = (kk_wr σ 18 (Int32.toNatClampNeg (0 : Int32)) r_1) → (∀ σ_3 : kk_St, σ_3 = (kk_wr σ_2 3 3 (1 : Int32)) → (vp_in (0 : Int32) 9 ∧
 (∀ v3_4 : Int32, v3_4 = ((1 : Int32) <<< ((kk_rd σ_3 18 (0 : Int32)) &&& 31)) → (kk_lp3 (fun (rec_8 : Int32 → Int32 → kk_St → Prop) (v3_5 : Int32) (v4_6 : Int32) (σ_7 : kk_St) =>
 (((9 : Int32) ≤ v4_6 → Q σ_7) ∧
 (¬ (9 : Int32) ≤ v4_6 → (vp_in (v4_6 - (1 : Int32)) 9 ∧
 (f_X4_follower v2 (kk_rd σ_7 18 (v4_6 - (1 : Int32))) v3_5 σ_7 (fun (r_9 : Int32) =>
 ((¬ r_9 = (-1 : Int32) → (vp_in v4_6 9 ∧
 (∀ σ_10 : kk_St, σ_10 = (kk_wr σ_7 18 (Int32.toNatClampNeg v4_6) r_9) → (∀ v3_11 : Int32, v3_11 = (v3_5 ||| ((1 : Int32) <<< (r_9 &&& 31))) → (∀ σ_12 : kk_St, σ_12 = (kk_wr σ_10 3 3 (v4_6 + (1 : Int32))) → rec_8 v3_11 (v4_6 + (1 : Int32)) σ_12))))) ∧
 (r_9 = (-1 : Int32) → Q σ_7)))))))) v3_4 (1 : Int32) σ_3))))))))
def f_X10_fan (v1 : Int32) (v2 : Int32) (v3 : Int32) (σ : kk_St) (Q : Int32 → kk_St → Prop) : Prop :=
 (f_X6_isLine v1 σ (fun (r_1 : Int32) =>
 (kk_j0 (Q (-1 : Int32) σ)
 (fun (J_2 : Prop) => ((r_1 = 0 → J_2) ∧
 (¬ r_1 = 0 → ((v3 < (-1 : Int32) → J_2) ∧
 (¬ v3 < (-1 : Int32) → (vp_in v1 20 ∧
 (kk_j0 ((vp_in v1 20 ∧
 (((kk_rd σ 16 v1) = (-1 : Int32) → (f_X4_lay v1 v2 σ (fun (σ_4 : kk_St) =>
 ((¬ v3 = (-1 : Int32) → (kk_j1 (fun (t_5 : Int32) => Q t_5 σ_4)
 (fun (J_6 : Int32 → Prop) => (((σ_4.1 3 3) ≤ v3 → J_6 (-1 : Int32)) ∧
 (¬ (σ_4.1 3 3) ≤ v3 → (vp_in v3 9 ∧
 J_6 (kk_rd σ_4 18 v3))))))) ∧
 (v3 = (-1 : Int32) → Q (σ_4.1 3 3) σ_4))))) ∧
 (¬ (kk_rd σ 16 v1) = (-1 : Int32) → Q (-2 : Int32) σ))))
 (fun (J_3 : Prop) => (((kk_rd σ 11 v1) = v2 → J_3) ∧
 (¬ (kk_rd σ 11 v1) = v2 → (vp_in v1 20 ∧
 (((kk_rd σ 12 v1) = v2 → J_3) ∧
 (¬ (kk_rd σ 12 v1) = v2 → J_2))))))))))))))))
def f_X10_isFew (v0 : Int32) (Q : Int32 → Prop) : Prop :=
 (kk_j1 (fun (t_1 : Int32) => ((t_1 = 0 ∨ t_1 = 1) ∧ Q t_1))
 (fun (J_2 : Int32 → Prop) => (kk_j0 (J_2 (0 : Int32))
 (fun (J_3 : Prop) => ((v0 < 0 → J_3) ∧
 (¬ v0 < 0 → (((9 : Int32) < v0 → J_3) ∧
 (¬ (9 : Int32) < v0 → J_2 (1 : Int32)))))))))
def f_X7_fixLeast (v1 : Int32) (v2 : Int32) (σ : kk_St) (Q : kk_St → Prop) : Prop :=
 (kk_lp2 (fun (rec_3 : Int32 → kk_St → Prop) (v3_1 : Int32) (σ_2 : kk_St) =>
 (vp_in v1 20 ∧
 (((kk_rd σ_2 21 v1) ≤ v3_1 → Q σ_2) ∧
 (¬ (kk_rd σ_2 21 v1) ≤ v3_1 → (vp_in v3_1 9 ∧
 (kk_j1 (fun (σ_4 : kk_St) => rec_3 (v3_1 + (1 : Int32)) σ_4)
 (fun (J_5 : kk_St → Prop) => (((((kk_rd σ_2 20 v3_1) >>> (v1 &&& 31)) &&& (1 : Int32)) = 0 → J_5 σ_2) ∧
 (¬ (((kk_rd σ_2 20 v3_1) >>> (v1 &&& 31)) &&& (1 : Int32)) = 0 → (f_X7_completeWith (f_X7_complete 30) v1 v3_1 v2 (0 : Int32) σ_2 (fun (r_6 : Int32) (σ_7 : kk_St) =>
 ((r_6 = 0 → J_5 σ_7) ∧
 (¬ r_6 = 0 → Q σ_7))))))))))))) (0 : Int32) σ)
def f_X7_findLeast (σ : kk_St) (Q : Int32 → kk_St → Prop) : Prop :=
 (f_X6_allLines σ (fun (r_1 : Int32) =>
 (f_X7_complete 30 r_1 (0 : Int32) σ (fun (r_2 : Int32) (σ_3 : kk_St) =>
 ((¬ r_2 = 0 → (kk_lp3 (fun (rec_7 : Int32 → Int32 → kk_St → Prop) (v1_4 : Int32) (v2_5 : Int32) (σ_6 : kk_St) =>
 (((σ_6.1 1 6) ≤ v2_5 → Q (1 : Int32) σ_6) ∧
 (¬ (σ_6.1 1 6) ≤ v2_5 → (∀ v1_8 : Int32, v1_8 = (v1_4 &&& (((1 : Int32) <<< (v2_5 &&& 31)) ^^^ (-1 : Int32))) → (f_X7_fixLeast v2_5 v1_8 σ_6 (fun (σ_9 : kk_St) =>
 (vp_in v2_5 20 ∧
 (vp_in v2_5 20 ∧
 (∀ σ_10 : kk_St, σ_10 = (kk_wr σ_9 22 (Int32.toNatClampNeg v2_5) (kk_rd σ_9 21 v2_5)) → (vp_in v2_5 20 ∧
 (vp_in (kk_rd σ_10 21 v2_5) 9 ∧
 (vp_in v2_5 20 ∧
 (vp_in (kk_rd σ_10 21 v2_5) 9 ∧
 (∀ σ_11 : kk_St, σ_11 = (kk_wr σ_10 20 (Int32.toNatClampNeg (kk_rd σ_10 21 v2_5)) ((kk_rd σ_10 20 (kk_rd σ_10 21 v2_5)) &&& ((kk_rd σ_10 13 v2_5) ^^^ (-1 : Int32)))) → rec_7 v1_8 (v2_5 + (1 : Int32)) σ_11)))))))))))))) r_1 (0 : Int32) σ_3)) ∧
 (r_2 = 0 → Q (0 : Int32) σ_3))))))
def f_X7_findFirst (v1 : Int32) (σ : kk_St) (Q : Int32 → kk_St → Prop) : Prop :=
 (kk_j1 (fun (σ_1 : kk_St) => (((σ_1.1 7 5) = 0 ∨ (σ_1.1 7 5) = 1) ∧ Q (σ_1.1 7 5) σ_1))
 (fun (J_2 : kk_St → Prop) => (((σ.1 7 4) = v1 → J_2 σ) ∧
 (¬ (σ.1 7 4) = v1 → (∀ σ_3 : kk_St, σ_3 = (kk_wr σ 7 4 v1) → (f_X7_fewest σ_3 (fun (r_4 : Int32) (σ_5 : kk_St) =>
 (kk_j1 (fun (t_6 : Int32) => ((t_6 = 0 ∨ t_6 = 1) ∧ (∀ σ_8 : kk_St, σ_8 = (kk_wr σ_5 7 5 t_6) → (((σ_8.1 7 5) = 0 → J_2 σ_8) ∧
 (¬ (σ_8.1 7 5) = 0 → (f_X7_openBelow v1 σ_8 (fun (σ_9 : kk_St) =>
 (f_X7_findLeast σ_9 (fun (r_10 : Int32) (σ_11 : kk_St) =>
 ((r_10 = 0 ∨ r_10 = 1) ∧ (∀ σ_12 : kk_St, σ_12 = (kk_wr σ_11 7 5 r_10) → J_2 σ_12)))))))))))
 (fun (J_7 : Int32 → Prop) => ((v1 < r_4 → J_7 (0 : Int32)) ∧
 (¬ v1 < r_4 → J_7 (1 : Int32))))))))))))
def f_X10_first (v1 : Int32) (v2 : Int32) (σ : kk_St) (Q : Int32 → kk_St → Prop) : Prop :=
 (f_X10_isFew v1 (fun (r_1 : Int32) =>
 (kk_j0 (Q (-1 : Int32) σ)
 (fun (J_2 : Prop) => ((r_1 = 0 → J_2) ∧
 (¬ r_1 = 0 → (f_X6_isLine v2 σ (fun (r_3 : Int32) =>
 ((¬ r_3 = 0 → (f_X7_findFirst v1 σ (fun (r_4 : Int32) (σ_5 : kk_St) =>
 (kk_j1 (fun (t_6 : Int32) => Q t_6 σ_5)
 (fun (J_7 : Int32 → Prop) => ((r_4 = 0 → J_7 (-2 : Int32)) ∧
 (¬ r_4 = 0 → (vp_in v2 20 ∧
 J_7 (kk_rd σ_5 22 v2))))))))) ∧
 (r_3 = 0 → J_2))))))))))
def f_X10_free (v1 : Int32) (σ : kk_St) (Q : Int32 → Prop) : Prop :=
 (f_X6_isLine v1 σ (fun (r_1 : Int32) =>
 (kk_j1 (fun (t_2 : Int32) => Q t_2)
 (fun (J_3 : Int32 → Prop) => ((r_1 = 0 → J_3 (-1 : Int32)) ∧
 (¬ r_1 = 0 → (f_X3_freeAtBoth v1 σ (fun (r_4 : Int32) =>
 J_3 r_4))))))))
def f_X3_isFreeAt (v1 : Int32) (v2 : Int32) (σ : kk_St) (Q : Int32 → Prop) : Prop :=
 (f_X3_freeAt v1 σ (fun (r_1 : Int32) =>
 (kk_j1 (fun (t_2 : Int32) => ((t_2 = 0 ∨ t_2 = 1) ∧ Q t_2))
 (fun (J_3 : Int32 → Prop) => ((((r_1 >>> (v2 &&& 31)) &&& (1 : Int32)) = 0 → J_3 (0 : Int32)) ∧
 (¬ ((r_1 >>> (v2 &&& 31)) &&& (1 : Int32)) = 0 → J_3 (1 : Int32)))))))
def f_X3_leastFreeAt (v1 : Int32) (σ : kk_St) (Q : Int32 → Prop) : Prop :=
 (f_X3_freeAt v1 σ (fun (r_1 : Int32) =>
 (f_J6_numberOfTrailingZeros_0f7a4 r_1 (fun (r_2 : Int32) =>
 Q r_2))))
def f_X6_lineBetween (v1 : Int32) (v2 : Int32) (σ : kk_St) (Q : Int32 → Prop) : Prop :=
 (vp_in v1 9 ∧
 (vp_in v2 9 ∧
 (∀ v3_1 : Int32, v3_1 = ((kk_rd σ 14 v1) &&& (kk_rd σ 14 v2)) → (kk_j1 (fun (t_2 : Int32) => Q t_2)
 (fun (J_3 : Int32 → Prop) => ((¬ v3_1 = 0 → (f_J6_numberOfTrailingZeros_0f7a4 v3_1 (fun (r_4 : Int32) =>
 J_3 r_4))) ∧
 (v3_1 = 0 → J_3 (-1 : Int32))))))))
def f_X4_follows (v1 : Int32) (v2 : Int32) (σ : kk_St) (Q : Int32 → Prop) : Prop :=
 (vp_in v2 9 ∧
 (f_X6_lineBetween v1 (kk_rd σ 18 v2) σ (fun (r_1 : Int32) =>
 (kk_j0 (Q (0 : Int32))
 (fun (J_2 : Prop) => ((r_1 = (-1 : Int32) → J_2) ∧
 (¬ r_1 = (-1 : Int32) → (vp_in r_1 20 ∧
 ((¬ (kk_rd σ 16 r_1) = (-1 : Int32) → (vp_in (v2 - (1 : Int32)) 9 ∧
 (vp_in r_1 20 ∧
 (f_X3_isFreeAt (kk_rd σ 18 (v2 - (1 : Int32))) (kk_rd σ 16 r_1) σ (fun (r_3 : Int32) =>
 ((r_3 = 0 ∨ r_3 = 1) ∧ Q r_3)))))) ∧
 ((kk_rd σ 16 r_1) = (-1 : Int32) → J_2))))))))))
def f_X4_placeLacking (v1 : Int32) (v2 : Int32) (σ : kk_St) (Q : Int32 → Prop) : Prop :=
 (kk_lp1 (fun (rec_2 : Int32 → Prop) (v3_1 : Int32) =>
 (((σ.1 3 3) ≤ v3_1 → Q (-1 : Int32)) ∧
 (¬ (σ.1 3 3) ≤ v3_1 → (kk_j0 ((vp_in v3_1 9 ∧
 (f_X3_isFreeAt (kk_rd σ 18 v3_1) v2 σ (fun (r_4 : Int32) =>
 ((r_4 = 0 → rec_2 (v3_1 + (1 : Int32))) ∧
 (¬ r_4 = 0 → Q v3_1))))))
 (fun (J_3 : Prop) => ((v3_1 ≤ 0 → J_3) ∧
 (¬ v3_1 ≤ 0 → (f_X4_follows v1 v3_1 σ (fun (r_6 : Int32) =>
 ((¬ r_6 = 0 → J_3) ∧
 (r_6 = 0 → Q (-1 : Int32)))))))))))) (0 : Int32))
def f_X4_shift (v1 : Int32) (v2 : Int32) (v3 : Int32) (σ : kk_St) (Q : kk_St → Prop) : Prop :=
 (vp_in (0 : Int32) 9 ∧
 (f_X6_lineBetween v1 (kk_rd σ 18 (0 : Int32)) σ (fun (r_1 : Int32) =>
 (kk_j2 (fun (v4_2 : Int32) (σ_3 : kk_St) => (kk_j1 (fun (σ_5 : kk_St) => Q σ_5)
 (fun (J_6 : kk_St → Prop) => ((v4_2 = (-1 : Int32) → J_6 σ_3) ∧
 (¬ v4_2 = (-1 : Int32) → (f_X3_give v4_2 v3 σ_3 (fun (σ_7 : kk_St) =>
 J_6 σ_7)))))))
 (fun (J_4 : Int32 → kk_St → Prop) => (kk_lp3 (fun (rec_12 : Int32 → Int32 → kk_St → Prop) (v4_9 : Int32) (v5_10 : Int32) (σ_11 : kk_St) =>
 ((v2 < v5_10 → J_4 v4_9 σ_11) ∧
 (¬ v2 < v5_10 → ((v4_9 = (-1 : Int32) → J_4 v4_9 σ_11) ∧
 (¬ v4_9 = (-1 : Int32) → (vp_in v5_10 9 ∧
 (f_X6_lineBetween v1 (kk_rd σ_11 18 v5_10) σ_11 (fun (r_13 : Int32) =>
 (kk_j1 (fun (σ_14 : kk_St) => rec_12 r_13 (v5_10 + (1 : Int32)) σ_14)
 (fun (J_15 : kk_St → Prop) => ((r_13 = (-1 : Int32) → J_15 σ_11) ∧
 (¬ r_13 = (-1 : Int32) → (vp_in r_13 20 ∧
 (((kk_rd σ_11 16 r_13) = (-1 : Int32) → J_15 σ_11) ∧
 (¬ (kk_rd σ_11 16 r_13) = (-1 : Int32) → (vp_in r_13 20 ∧
 (f_X3_strip r_13 σ_11 (fun (σ_16 : kk_St) =>
 (f_X3_give v4_9 (kk_rd σ_11 16 r_13) σ_16 (fun (σ_17 : kk_St) =>
 J_15 σ_17)))))))))))))))))))) r_1 (1 : Int32) σ))))))
def f_X5_raise (v1 : Int32) (σ : kk_St) (Q : kk_St → Prop) : Prop :=
 (vp_in v1 20 ∧
 (f_X4_lay v1 (kk_rd σ 11 v1) σ (fun (σ_1 : kk_St) =>
 (f_X3_leastFreeAt (kk_rd σ 11 v1) σ_1 (fun (r_2 : Int32) =>
 (vp_in ((σ_1.1 3 3) - (1 : Int32)) 9 ∧
 (f_X3_leastFreeAt (kk_rd σ_1 18 ((σ_1.1 3 3) - (1 : Int32))) σ_1 (fun (r_3 : Int32) =>
 (f_X3_isFreeAt (kk_rd σ 11 v1) r_3 σ_1 (fun (r_4 : Int32) =>
 (kk_j2 (fun (v5_5 : Int32) (σ_6 : kk_St) => (f_X4_placeLacking (kk_rd σ 11 v1) r_3 σ_6 (fun (r_8 : Int32) =>
 (kk_j1 (fun (σ_9 : kk_St) => (vp_in (0 : Int32) 5 ∧
 (∀ σ_11 : kk_St, σ_11 = (kk_wr σ_9 19 (Int32.toNatClampNeg (0 : Int32)) r_2) → (vp_in (1 : Int32) 5 ∧
 (∀ σ_12 : kk_St, σ_12 = (kk_wr σ_11 19 (Int32.toNatClampNeg (1 : Int32)) r_3) → (vp_in (2 : Int32) 5 ∧
 (∀ σ_13 : kk_St, σ_13 = (kk_wr σ_12 19 (Int32.toNatClampNeg (2 : Int32)) (σ_12.1 3 3)) → (vp_in (3 : Int32) 5 ∧
 (∀ σ_14 : kk_St, σ_14 = (kk_wr σ_13 19 (Int32.toNatClampNeg (3 : Int32)) r_8) → (vp_in (4 : Int32) 5 ∧
 (∀ σ_15 : kk_St, σ_15 = (kk_wr σ_14 19 (Int32.toNatClampNeg (4 : Int32)) v5_5) → (∀ σ_16 : kk_St, σ_16 = (kk_wr σ_15 4 4 (1 : Int32)) → Q σ_16))))))))))))
 (fun (J_10 : kk_St → Prop) => ((r_8 = (-1 : Int32) → J_10 σ_6) ∧
 (¬ r_8 = (-1 : Int32) → (f_X4_shift (kk_rd σ 11 v1) r_8 r_3 σ_6 (fun (σ_17 : kk_St) =>
 J_10 σ_17)))))))))
 (fun (J_7 : Int32 → kk_St → Prop) => ((¬ r_4 = 0 → J_7 (0 : Int32) σ_1) ∧
 (r_4 = 0 → (f_X3_chainOf (kk_rd σ 11 v1) r_2 r_3 σ_1 (fun (r_19 : Int32) =>
 (f_X3_flip r_19 r_2 r_3 σ_1 (fun (σ_20 : kk_St) =>
 (f_J6_bitCount_0f7a4 r_19 (fun (r_21 : Int32) =>
 J_7 r_21 σ_20))))))))))))))))))))
def f_X10_grow (v1 : Int32) (σ : kk_St) (Q : Int32 → kk_St → Prop) : Prop :=
 (f_X6_isLine v1 σ (fun (r_1 : Int32) =>
 ((¬ r_1 = 0 → (vp_in v1 20 ∧
 (((kk_rd σ 16 v1) = (-1 : Int32) → (f_X5_raise v1 σ (fun (σ_2 : kk_St) =>
 (vp_in v1 20 ∧
 Q (kk_rd σ_2 16 v1) σ_2)))) ∧
 (¬ (kk_rd σ 16 v1) = (-1 : Int32) → Q (-2 : Int32) σ)))) ∧
 (r_1 = 0 → Q (-1 : Int32) σ))))
def f_X10_growAll (σ : kk_St) (Q : Int32 → kk_St → Prop) : Prop :=
 (kk_lp3 (fun (rec_4 : Int32 → Int32 → kk_St → Prop) (v1_1 : Int32) (v2_2 : Int32) (σ_3 : kk_St) =>
 (((σ_3.1 1 6) ≤ v2_2 → Q v1_1 σ_3) ∧
 (¬ (σ_3.1 1 6) ≤ v2_2 → (vp_in v2_2 20 ∧
 (kk_j2 (fun (v1_5 : Int32) (σ_6 : kk_St) => rec_4 v1_5 (v2_2 + (1 : Int32)) σ_6)
 (fun (J_7 : Int32 → kk_St → Prop) => ((¬ (kk_rd σ_3 16 v2_2) = (-1 : Int32) → J_7 v1_1 σ_3) ∧
 ((kk_rd σ_3 16 v2_2) = (-1 : Int32) → (f_X5_raise v2_2 σ_3 (fun (σ_8 : kk_St) =>
 J_7 (v1_1 + (1 : Int32)) σ_8)))))))))) (0 : Int32) (0 : Int32) σ)
def f_X10_grown (v1 : Int32) (σ : kk_St) (Q : Int32 → Prop) : Prop :=
 (kk_j0 (Q (-1 : Int32))
 (fun (J_1 : Prop) => (((σ.1 4 4) = 0 → J_1) ∧
 (¬ (σ.1 4 4) = 0 → ((v1 < 0 → J_1) ∧
 (¬ v1 < 0 → ((v1 < (5 : Int32) → (vp_in v1 5 ∧
 Q (kk_rd σ 19 v1))) ∧
 (¬ v1 < (5 : Int32) → J_1))))))))
def f_X10_idle (v1 : Int32) (σ : kk_St) (Q : Int32 → Prop) : Prop :=
 ((¬ v1 = (-1 : Int32) → (f_X6_isPost v1 σ (fun (r_1 : Int32) =>
 (kk_j1 (fun (t_2 : Int32) => Q t_2)
 (fun (J_3 : Int32 → Prop) => ((r_1 = 0 → J_3 (-2 : Int32)) ∧
 (¬ r_1 = 0 → (f_X3_coloursAt v1 σ (fun (r_4 : Int32) =>
 (f_X10_idleOf r_4 (fun (r_5 : Int32) =>
 J_3 r_5))))))))))) ∧
 (v1 = (-1 : Int32) → (f_X1_idleOfAll (0 : Int32) (0 : Int32) σ (fun (r_7 : Int32) =>
 Q r_7))))
def f_X10_index (σ : kk_St) (Q : Int32 → kk_St → Prop) : Prop :=
 (f_X7_fewest σ (fun (r_1 : Int32) (σ_2 : kk_St) =>
 Q r_1 σ_2))
def f_X10_isLikeKept (σ : kk_St) (Q : Int32 → Prop) : Prop :=
 (kk_lp1 (fun (rec_2 : Int32 → Prop) (v1_1 : Int32) =>
 (((σ.1 1 6) ≤ v1_1 → Q (1 : Int32)) ∧
 (¬ (σ.1 1 6) ≤ v1_1 → (vp_in v1_1 20 ∧
 (kk_j1 (fun (t_3 : Int32) => (vp_in v1_1 20 ∧
 (kk_j1 (fun (t_5 : Int32) => ((t_3 = t_5 → (kk_lp1 (fun (rec_8 : Int32 → Prop) (v2_7 : Int32) =>
 ((v1_1 ≤ v2_7 → rec_2 (v1_1 + (1 : Int32))) ∧
 (¬ v1_1 ≤ v2_7 → (vp_in v1_1 20 ∧
 (vp_in v2_7 20 ∧
 (kk_j1 (fun (t_9 : Int32) => (vp_in v1_1 20 ∧
 (vp_in v2_7 20 ∧
 (kk_j1 (fun (t_11 : Int32) => ((t_9 = t_11 → rec_8 (v2_7 + (1 : Int32))) ∧
 (¬ t_9 = t_11 → Q (0 : Int32))))
 (fun (J_12 : Int32 → Prop) => ((¬ (kk_rd σ 16 v1_1) = (kk_rd σ 16 v2_7) → J_12 (0 : Int32)) ∧
 ((kk_rd σ 16 v1_1) = (kk_rd σ 16 v2_7) → J_12 (1 : Int32))))))))
 (fun (J_10 : Int32 → Prop) => ((¬ (kk_rd σ 31 v1_1) = (kk_rd σ 31 v2_7) → J_10 (0 : Int32)) ∧
 ((kk_rd σ 31 v1_1) = (kk_rd σ 31 v2_7) → J_10 (1 : Int32)))))))))) (0 : Int32))) ∧
 (¬ t_3 = t_5 → Q (0 : Int32))))
 (fun (J_6 : Int32 → Prop) => ((¬ (kk_rd σ 16 v1_1) = (-1 : Int32) → J_6 (0 : Int32)) ∧
 ((kk_rd σ 16 v1_1) = (-1 : Int32) → J_6 (1 : Int32)))))))
 (fun (J_4 : Int32 → Prop) => ((¬ (kk_rd σ 31 v1_1) = (-1 : Int32) → J_4 (0 : Int32)) ∧
 ((kk_rd σ 31 v1_1) = (-1 : Int32) → J_4 (1 : Int32))))))))) (0 : Int32))
def f_X10_keep (σ : kk_St) (Q : Int32 → kk_St → Prop) : Prop :=
 (∀ σ_1 : kk_St, σ_1 = (kk_wrF σ 31 (va_cpy (σ.1 16) (σ.1 31) 0 0 (Int32.toNatClampNeg (20 : Int32)))) → (∀ σ_2 : kk_St, σ_2 = (kk_wr σ_1 0 12 (1 : Int32)) → Q (1 : Int32) σ_2))
def f_X9_isSeen (v1 : Int32) (σ : kk_St) (Q : Int32 → Prop) : Prop :=
 (vp_in (v1 >>> ((5 : Int32) &&& 31)) 128 ∧
 (kk_j1 (fun (t_1 : Int32) => ((t_1 = 0 ∨ t_1 = 1) ∧ Q t_1))
 (fun (J_2 : Int32 → Prop) => (((((kk_rd σ 28 (v1 >>> ((5 : Int32) &&& 31))) >>> ((v1 &&& (31 : Int32)) &&& 31)) &&& (1 : Int32)) = 0 → J_2 (0 : Int32)) ∧
 (¬ (((kk_rd σ 28 (v1 >>> ((5 : Int32) &&& 31))) >>> ((v1 &&& (31 : Int32)) &&& 31)) &&& (1 : Int32)) = 0 → J_2 (1 : Int32))))))
def f_X9_linesWith (v1 : Int32) (v2 : Int32) (σ : kk_St) (Q : Int32 → Prop) : Prop :=
 (∀ v3_1 : Int32, v3_1 = (v1 ^^^ (v2 * (1365 : Int32))) → Q ((((v3_1 ||| (v3_1 >>> ((1 : Int32) &&& 31))) ^^^ (-1 : Int32)) &&& (1365 : Int32)) &&& (((1 : Int32) <<< (((2 : Int32) * (σ.1 1 6)) &&& 31)) - (1 : Int32))))
def f_X9_mark (v1 : Int32) (σ : kk_St) (Q : kk_St → Prop) : Prop :=
 (f_X9_isSeen v1 σ (fun (r_1 : Int32) =>
 (kk_j1 (fun (σ_2 : kk_St) => Q σ_2)
 (fun (J_3 : kk_St → Prop) => ((¬ r_1 = 0 → J_3 σ) ∧
 (r_1 = 0 → (vp_in (v1 >>> ((5 : Int32) &&& 31)) 128 ∧
 (vp_in (v1 >>> ((5 : Int32) &&& 31)) 128 ∧
 (∀ σ_4 : kk_St, σ_4 = (kk_wr σ 28 (Int32.toNatClampNeg (v1 >>> ((5 : Int32) &&& 31))) ((kk_rd σ 28 (v1 >>> ((5 : Int32) &&& 31))) ||| ((1 : Int32) <<< ((v1 &&& (31 : Int32)) &&& 31)))) → (vp_in (v1 >>> ((5 : Int32) &&& 31)) 128 ∧
 (vp_in (v1 >>> ((5 : Int32) &&& 31)) 128 ∧
 (∀ σ_5 : kk_St, σ_5 = (kk_wr σ_4 30 (Int32.toNatClampNeg (v1 >>> ((5 : Int32) &&& 31))) ((kk_rd σ_4 30 (v1 >>> ((5 : Int32) &&& 31))) ||| ((1 : Int32) <<< ((v1 &&& (31 : Int32)) &&& 31)))) → J_3 σ_5))))))))))))
def f_X9_joinedIn (v1 : Int32) (v2 : Int32) (σ : kk_St) (Q : Int32 → Prop) : Prop :=
 (kk_j1 (fun (v3_1 : Int32) => Q v3_1)
 (fun (J_2 : Int32 → Prop) => (kk_lp3 (fun (rec_6 : Int32 → Int32 → Int32 → Prop) (v3_3 : Int32) (v4_4 : Int32) (v5_5 : Int32) =>
 (((6 : Int32) ≤ v5_5 → J_2 v3_3) ∧
 (¬ (6 : Int32) ≤ v5_5 → ((v4_4 = 0 → J_2 v3_3) ∧
 (¬ v4_4 = 0 → (f_J6_lowestOneBit_0f7a4 v4_4 (fun (r_7 : Int32) =>
 (f_J6_numberOfTrailingZeros_0f7a4 r_7 (fun (r_8 : Int32) =>
 (vp_in (r_8 / (2 : Int32)) 6 ∧
 (∀ v7_9 : Int32, v7_9 = (((kk_rd σ 27 (r_8 / (2 : Int32))) &&& v2) &&& (v3_3 ^^^ (-1 : Int32))) → (∀ v4_10 : Int32, v4_10 = ((v4_4 &&& (r_7 ^^^ (-1 : Int32))) ||| v7_9) → rec_6 (v3_3 ||| v7_9) v4_10 (v5_5 + (1 : Int32)))))))))))))) v1 v1 (0 : Int32))))
def f_X9_turnEach (v1 : Int32) (σ : kk_St) (Q : kk_St → Prop) : Prop :=
 (kk_lp2 (fun (rec_3 : Int32 → kk_St → Prop) (v2_1 : Int32) (σ_2 : kk_St) =>
 (((σ_2.1 10 5) ≤ v2_1 → Q σ_2) ∧
 (¬ (σ_2.1 10 5) ≤ v2_1 → (kk_lp2 (fun (rec_6 : Int32 → kk_St → Prop) (v3_4 : Int32) (σ_5 : kk_St) =>
 (((σ_5.1 10 5) ≤ v3_4 → rec_3 (v2_1 + (1 : Int32)) σ_5) ∧
 (¬ (σ_5.1 10 5) ≤ v3_4 → (f_X9_linesWith v1 v2_1 σ_5 (fun (r_7 : Int32) =>
 (f_X9_linesWith v1 v3_4 σ_5 (fun (r_8 : Int32) =>
 (kk_j1 (fun (σ_9 : kk_St) => rec_6 (v3_4 + (1 : Int32)) σ_9)
 (fun (J_10 : kk_St → Prop) => (kk_lp3 (fun (rec_14 : Int32 → Int32 → kk_St → Prop) (v5_11 : Int32) (v6_12 : Int32) (σ_13 : kk_St) =>
 (((6 : Int32) ≤ v6_12 → J_10 σ_13) ∧
 (¬ (6 : Int32) ≤ v6_12 → ((v5_11 = 0 → J_10 σ_13) ∧
 (¬ v5_11 = 0 → (f_J6_lowestOneBit_0f7a4 v5_11 (fun (r_15 : Int32) =>
 (f_X9_joinedIn r_15 (r_7 ||| r_8) σ_13 (fun (r_16 : Int32) =>
 (∀ v5_17 : Int32, v5_17 = (v5_11 &&& (r_16 ^^^ (-1 : Int32))) → (f_X9_mark (v1 ^^^ (r_16 * (v2_1 ^^^ v3_4))) σ_13 (fun (σ_18 : kk_St) =>
 rec_14 v5_17 (v6_12 + (1 : Int32)) σ_18)))))))))))) (r_7 ||| r_8) (0 : Int32) σ_5)))))))))) (v2_1 + (1 : Int32)) σ_2)))) (0 : Int32) σ)
def f_X9_advance (σ : kk_St) (Q : Int32 → kk_St → Prop) : Prop :=
 (∀ σ_1 : kk_St, σ_1 = (kk_wrF σ 29 (va_cpy (σ.1 30) (σ.1 29) 0 0 (Int32.toNatClampNeg (128 : Int32)))) → (f_J7_fill_53178 30 128 (0 : Int32) σ_1 (fun (σ_2 : kk_St) =>
 (kk_lp3 (fun (rec_6 : Int32 → Int32 → kk_St → Prop) (v1_3 : Int32) (v2_4 : Int32) (σ_5 : kk_St) =>
 (((128 : Int32) ≤ v2_4 → ((v1_3 = 0 ∨ v1_3 = 1) ∧ Q v1_3 σ_5)) ∧
 (¬ (128 : Int32) ≤ v2_4 → (kk_j2 (fun (v1_7 : Int32) (σ_8 : kk_St) => rec_6 v1_7 (v2_4 + (1 : Int32)) σ_8)
 (fun (J_9 : Int32 → kk_St → Prop) => (kk_lp3 (fun (rec_13 : Int32 → Int32 → kk_St → Prop) (v1_10 : Int32) (v3_11 : Int32) (σ_12 : kk_St) =>
 (((32 : Int32) ≤ v3_11 → J_9 v1_10 σ_12) ∧
 (¬ (32 : Int32) ≤ v3_11 → (vp_in v2_4 128 ∧
 (((kk_rd σ_12 29 v2_4) = 0 → J_9 v1_10 σ_12) ∧
 (¬ (kk_rd σ_12 29 v2_4) = 0 → (vp_in v2_4 128 ∧
 (kk_j2 (fun (v1_14 : Int32) (σ_15 : kk_St) => rec_13 v1_14 (v3_11 + (1 : Int32)) σ_15)
 (fun (J_16 : Int32 → kk_St → Prop) => (((((kk_rd σ_12 29 v2_4) >>> (v3_11 &&& 31)) &&& (1 : Int32)) = 0 → J_16 v1_10 σ_12) ∧
 (¬ (((kk_rd σ_12 29 v2_4) >>> (v3_11 &&& 31)) &&& (1 : Int32)) = 0 → (f_X9_turnEach ((v2_4 <<< ((5 : Int32) &&& 31)) ||| v3_11) σ_12 (fun (σ_17 : kk_St) =>
 J_16 (1 : Int32) σ_17))))))))))))) v1_3 (0 : Int32) σ_5)))))) (0 : Int32) (0 : Int32) σ_2))))
def f_X9_spreadKind (σ : kk_St) (Q : kk_St → Prop) : Prop :=
 (kk_lp2 (fun (rec_3 : Int32 → kk_St → Prop) (v1_1 : Int32) (σ_2 : kk_St) =>
 (((4096 : Int32) < v1_1 → Q σ_2) ∧
 (¬ (4096 : Int32) < v1_1 → (f_X9_advance σ_2 (fun (r_4 : Int32) (σ_5 : kk_St) =>
 ((¬ r_4 = 0 → rec_3 (v1_1 + (1 : Int32)) σ_5) ∧
 (r_4 = 0 → Q σ_5))))))) (0 : Int32) σ)
def f_X9_place : Nat → Int32 → Int32 → kk_St → (kk_St → Prop) → Prop
| 0, _, _, _, _ => False
| n + 1, v1, v2, σ, Q =>
 (kk_j0 ((f_X9_isSeen v2 σ (fun (r_2 : Int32) =>
 (kk_j1 (fun (σ_3 : kk_St) => Q σ_3)
 (fun (J_4 : kk_St → Prop) => ((¬ r_2 = 0 → J_4 σ) ∧
 (r_2 = 0 → (∀ σ_5 : kk_St, σ_5 = (kk_wr σ 10 6 ((σ.1 10 6) + (1 : Int32))) → (f_X9_mark v2 σ_5 (fun (σ_6 : kk_St) =>
 (f_X9_spreadKind σ_6 (fun (σ_7 : kk_St) =>
 J_4 σ_7))))))))))))
 (fun (J_1 : Prop) => (((σ.1 1 6) ≤ v1 → J_1) ∧
 (¬ (σ.1 1 6) ≤ v1 → ((v1 < (6 : Int32) → (∀ v3_9 : Int32, v3_9 = (((1 : Int32) <<< (((2 : Int32) * v1) &&& 31)) - (1 : Int32)) → (kk_lp2 (fun (rec_12 : Int32 → kk_St → Prop) (v4_10 : Int32) (σ_11 : kk_St) =>
 (((σ_11.1 10 5) ≤ v4_10 → Q σ_11) ∧
 (¬ (σ_11.1 10 5) ≤ v4_10 → (f_X9_linesWith v2 v4_10 σ_11 (fun (r_13 : Int32) =>
 (vp_in v1 6 ∧
 (kk_j1 (fun (σ_14 : kk_St) => rec_12 (v4_10 + (1 : Int32)) σ_14)
 (fun (J_15 : kk_St → Prop) => ((¬ ((r_13 &&& v3_9) &&& (kk_rd σ_11 27 v1)) = 0 → J_15 σ_11) ∧
 (((r_13 &&& v3_9) &&& (kk_rd σ_11 27 v1)) = 0 → (f_X9_place n (v1 + (1 : Int32)) (v2 ||| (v4_10 <<< (((2 : Int32) * v1) &&& 31))) σ_11 (fun (σ_16 : kk_St) =>
 J_15 σ_16)))))))))))) (0 : Int32) σ))) ∧
 (¬ v1 < (6 : Int32) → J_1))))))
def f_X9_spread (v0 : Int32) (Q : Int32 → Prop) : Prop :=
 (kk_lp2 (fun (rec_3 : Int32 → Int32 → Prop) (v1_1 : Int32) (v2_2 : Int32) =>
 (((6 : Int32) ≤ v2_2 → Q v1_1) ∧
 (¬ (6 : Int32) ≤ v2_2 → (∀ v1_4 : Int32, v1_4 = (v1_1 ||| (((v0 >>> (v2_2 &&& 31)) &&& (1 : Int32)) <<< (((2 : Int32) * v2_2) &&& 31))) → rec_3 v1_4 (v2_2 + (1 : Int32)))))) (0 : Int32) (0 : Int32))
def f_X9_prepare (v1 : Int32) (σ : kk_St) (Q : kk_St → Prop) : Prop :=
 (∀ σ_1 : kk_St, σ_1 = (kk_wr σ 10 5 v1) → (f_J7_fill_53178 28 128 (0 : Int32) σ_1 (fun (σ_2 : kk_St) =>
 (f_J7_fill_53178 30 128 (0 : Int32) σ_2 (fun (σ_3 : kk_St) =>
 (kk_j1 (fun (σ_4 : kk_St) => Q σ_4)
 (fun (J_5 : kk_St → Prop) => (kk_lp2 (fun (rec_8 : Int32 → kk_St → Prop) (v2_6 : Int32) (σ_7 : kk_St) =>
 (((σ_7.1 1 6) ≤ v2_6 → J_5 σ_7) ∧
 (¬ (σ_7.1 1 6) ≤ v2_6 → (((6 : Int32) ≤ v2_6 → J_5 σ_7) ∧
 (¬ (6 : Int32) ≤ v2_6 → (vp_in v2_6 20 ∧
 (f_X9_spread (kk_rd σ_7 13 v2_6) (fun (r_9 : Int32) =>
 (vp_in v2_6 6 ∧
 (∀ σ_10 : kk_St, σ_10 = (kk_wr σ_7 27 (Int32.toNatClampNeg v2_6) r_9) → rec_8 (v2_6 + (1 : Int32)) σ_10)))))))))) (0 : Int32) σ_3))))))))
def f_X9_countKinds (v1 : Int32) (σ : kk_St) (Q : Int32 → kk_St → Prop) : Prop :=
 (f_X9_prepare v1 σ (fun (σ_1 : kk_St) =>
 (∀ σ_2 : kk_St, σ_2 = (kk_wr σ_1 10 6 (0 : Int32)) → (f_X9_place 30 (0 : Int32) (0 : Int32) σ_2 (fun (σ_3 : kk_St) =>
 Q (σ_3.1 10 6) σ_3)))))
def f_X10_kinds (v1 : Int32) (σ : kk_St) (Q : Int32 → kk_St → Prop) : Prop :=
 (kk_j0 (Q (-1 : Int32) σ)
 (fun (J_1 : Prop) => ((v1 < (1 : Int32) → J_1) ∧
 (¬ v1 < (1 : Int32) → ((v1 ≤ (4 : Int32) → (kk_j2 (fun (t_2 : Int32) (σ_3 : kk_St) => Q t_2 σ_3)
 (fun (J_4 : Int32 → kk_St → Prop) => (((σ.1 1 6) ≤ (6 : Int32) → (f_X9_countKinds v1 σ (fun (r_5 : Int32) (σ_6 : kk_St) =>
 J_4 r_5 σ_6))) ∧
 (¬ (σ.1 1 6) ≤ (6 : Int32) → J_4 (-2 : Int32) σ))))) ∧
 (¬ v1 ≤ (4 : Int32) → J_1))))))
def f_X6_add (v1 : Int32) (v2 : Int32) (σ : kk_St) (Q : kk_St → Prop) : Prop :=
 (vp_in v1 9 ∧
 (vp_in v2 9 ∧
 (∀ v4_1 : Int32, v4_1 = ((kk_rd σ 14 v1) ||| (kk_rd σ 14 v2)) → (kk_lp2 (fun (rec_4 : Int32 → kk_St → Prop) (v5_2 : Int32) (σ_3 : kk_St) =>
 (((σ.1 1 6) ≤ v5_2 → (f_J9_min_7cf53 v1 v2 (fun (r_5 : Int32) =>
 (vp_in (σ.1 1 6) 20 ∧
 (∀ σ_6 : kk_St, σ_6 = (kk_wr σ_3 11 (Int32.toNatClampNeg (σ.1 1 6)) r_5) → (f_J9_max_7cf53 v1 v2 (fun (r_7 : Int32) =>
 (vp_in (σ.1 1 6) 20 ∧
 (∀ σ_8 : kk_St, σ_8 = (kk_wr σ_6 12 (Int32.toNatClampNeg (σ.1 1 6)) r_7) → (vp_in (σ.1 1 6) 20 ∧
 (∀ σ_9 : kk_St, σ_9 = (kk_wr σ_8 13 (Int32.toNatClampNeg (σ.1 1 6)) v4_1) → (vp_in v1 9 ∧
 (vp_in v1 9 ∧
 (∀ σ_10 : kk_St, σ_10 = (kk_wr σ_9 14 (Int32.toNatClampNeg v1) ((kk_rd σ_9 14 v1) ||| ((1 : Int32) <<< ((σ.1 1 6) &&& 31)))) → (vp_in v2 9 ∧
 (vp_in v2 9 ∧
 (∀ σ_11 : kk_St, σ_11 = (kk_wr σ_10 14 (Int32.toNatClampNeg v2) ((kk_rd σ_10 14 v2) ||| ((1 : Int32) <<< ((σ.1 1 6) &&& 31)))) → (vp_in v1 9 ∧
 (vp_in v1 9 ∧
 (∀ σ_12 : kk_St, σ_12 = (kk_wr σ_11 15 (Int32.toNatClampNeg v1) ((kk_rd σ_11 15 v1) ||| ((1 : Int32) <<< (v2 &&& 31)))) → (vp_in v2 9 ∧
 (vp_in v2 9 ∧
 (∀ σ_13 : kk_St, σ_13 = (kk_wr σ_12 15 (Int32.toNatClampNeg v2) ((kk_rd σ_12 15 v2) ||| ((1 : Int32) <<< (v1 &&& 31)))) → (∀ σ_14 : kk_St, σ_14 = (kk_wr σ_13 1 6 ((σ_13.1 1 6) + (1 : Int32))) → (f_X6_allLines σ_14 (fun (r_15 : Int32) =>
 (f_X6_mostAtOnePost r_15 σ_14 (fun (r_16 : Int32) =>
 (∀ σ_17 : kk_St, σ_17 = (kk_wr σ_14 1 7 r_16) → Q σ_17))))))))))))))))))))))))))))) ∧
 (¬ (σ.1 1 6) ≤ v5_2 → (kk_j1 (fun (σ_18 : kk_St) => rec_4 (v5_2 + (1 : Int32)) σ_18)
 (fun (J_19 : kk_St → Prop) => ((((v4_1 >>> (v5_2 &&& 31)) &&& (1 : Int32)) = 0 → J_19 σ_3) ∧
 (¬ ((v4_1 >>> (v5_2 &&& 31)) &&& (1 : Int32)) = 0 → (vp_in v5_2 20 ∧
 (vp_in v5_2 20 ∧
 (∀ σ_20 : kk_St, σ_20 = (kk_wr σ_3 13 (Int32.toNatClampNeg v5_2) ((kk_rd σ_3 13 v5_2) ||| ((1 : Int32) <<< ((σ.1 1 6) &&& 31)))) → J_19 σ_20)))))))))) (0 : Int32) σ))))
def f_X10_line (v1 : Int32) (v2 : Int32) (σ : kk_St) (Q : Int32 → kk_St → Prop) : Prop :=
 (f_X6_isPost v1 σ (fun (r_1 : Int32) =>
 (kk_j0 (Q (-1 : Int32) σ)
 (fun (J_2 : Prop) => ((r_1 = 0 → J_2) ∧
 (¬ r_1 = 0 → (f_X6_isPost v2 σ (fun (r_3 : Int32) =>
 ((r_3 = 0 → J_2) ∧
 (¬ r_3 = 0 → ((¬ v1 = v2 → (kk_j0 (Q (-1 : Int32) σ)
 (fun (J_4 : Prop) => (((20 : Int32) ≤ (σ.1 1 6) → J_4) ∧
 (¬ (20 : Int32) ≤ (σ.1 1 6) → (f_X6_lineBetween v1 v2 σ (fun (r_5 : Int32) =>
 ((r_5 = (-1 : Int32) → (f_X6_add v1 v2 σ (fun (σ_6 : kk_St) =>
 (vp_in (σ.1 1 6) 20 ∧
 (∀ σ_7 : kk_St, σ_7 = (kk_wr σ_6 32 (Int32.toNatClampNeg (σ.1 1 6)) (511 : Int32)) → (f_X7_forget σ_7 (fun (σ_8 : kk_St) =>
 Q (σ.1 1 6) σ_8))))))) ∧
 (¬ r_5 = (-1 : Int32) → J_4))))))))) ∧
 (v1 = v2 → J_2))))))))))))
def f_X10_list (v1 : Int32) (v2 : Int32) (σ : kk_St) (Q : Int32 → kk_St → Prop) : Prop :=
 (f_X6_isLine v1 σ (fun (r_1 : Int32) =>
 (kk_j0 (Q (-1 : Int32) σ)
 (fun (J_2 : Prop) => ((r_1 = 0 → J_2) ∧
 (¬ r_1 = 0 → ((v2 < 0 → J_2) ∧
 (¬ v2 < 0 → ((v2 ≤ (511 : Int32) → (vp_in v1 20 ∧
 (vp_in v1 20 ∧
 (∀ σ_3 : kk_St, σ_3 = (kk_wr σ 32 (Int32.toNatClampNeg v1) v2) → (f_X7_forgetAnswer σ_3 (fun (σ_4 : kk_St) =>
 Q (kk_rd σ 32 v1) σ_4)))))) ∧
 (¬ v2 ≤ (511 : Int32) → J_2))))))))))
def f_X7_openListed (a1 : Nat) (n1 : Nat) (σ : kk_St) (Q : kk_St → Prop) : Prop :=
 (kk_lp2 (fun (rec_3 : Int32 → kk_St → Prop) (v2_1 : Int32) (σ_2 : kk_St) =>
 (((9 : Int32) ≤ v2_1 → Q σ_2) ∧
 (¬ (9 : Int32) ≤ v2_1 → (vp_in v2_1 9 ∧
 (∀ σ_4 : kk_St, σ_4 = (kk_wr σ_2 20 (Int32.toNatClampNeg v2_1) (0 : Int32)) → (kk_lp2 (fun (rec_7 : Int32 → kk_St → Prop) (v3_5 : Int32) (σ_6 : kk_St) =>
 (((σ_6.1 1 6) ≤ v3_5 → rec_3 (v2_1 + (1 : Int32)) σ_6) ∧
 (¬ (σ_6.1 1 6) ≤ v3_5 → (vp_in v2_1 9 ∧
 (vp_in v3_5 n1 ∧
 (vp_in v2_1 9 ∧
 (∀ σ_8 : kk_St, σ_8 = (kk_wr σ_6 20 (Int32.toNatClampNeg v2_1) ((kk_rd σ_6 20 v2_1) ||| ((((kk_rd σ_6 a1 v3_5) >>> (v2_1 &&& 31)) &&& (1 : Int32)) <<< (v3_5 &&& 31)))) → rec_7 (v3_5 + (1 : Int32)) σ_8))))))) (0 : Int32) σ_4)))))) (0 : Int32) σ)
def f_X7_findListed (a1 : Nat) (n1 : Nat) (σ : kk_St) (Q : Int32 → kk_St → Prop) : Prop :=
 (kk_j1 (fun (σ_1 : kk_St) => (((σ_1.1 7 5) = 0 ∨ (σ_1.1 7 5) = 1) ∧ Q (σ_1.1 7 5) σ_1))
 (fun (J_2 : kk_St → Prop) => (((σ.1 7 4) = (10 : Int32) → J_2 σ) ∧
 (¬ (σ.1 7 4) = (10 : Int32) → (∀ σ_3 : kk_St, σ_3 = (kk_wr σ 7 4 (10 : Int32)) → (f_X7_openListed a1 n1 σ_3 (fun (σ_4 : kk_St) =>
 (f_X7_findLeast σ_4 (fun (r_5 : Int32) (σ_6 : kk_St) =>
 ((r_5 = 0 ∨ r_5 = 1) ∧ (∀ σ_7 : kk_St, σ_7 = (kk_wr σ_6 7 5 r_5) → J_2 σ_7)))))))))))
def f_X10_listed (v1 : Int32) (σ : kk_St) (Q : Int32 → kk_St → Prop) : Prop :=
 (f_X6_isLine v1 σ (fun (r_1 : Int32) =>
 ((¬ r_1 = 0 → (((σ.1 1 6) ≤ (9 : Int32) → (f_X7_findListed 32 20 σ (fun (r_2 : Int32) (σ_3 : kk_St) =>
 (kk_j1 (fun (t_4 : Int32) => Q t_4 σ_3)
 (fun (J_5 : Int32 → Prop) => ((r_2 = 0 → J_5 (-2 : Int32)) ∧
 (¬ r_2 = 0 → (vp_in v1 20 ∧
 J_5 (kk_rd σ_3 22 v1))))))))) ∧
 (¬ (σ.1 1 6) ≤ (9 : Int32) → Q (-3 : Int32) σ))) ∧
 (r_1 = 0 → Q (-1 : Int32) σ))))
def f_X2_longestChain (v1 : Int32) (v2 : Int32) (σ : kk_St) (Q : Int32 → Prop) : Prop :=
 (vp_in v1 9 ∧
 (vp_in v2 9 ∧
 (∀ v3_1 : Int32, v3_1 = ((kk_rd σ 17 v1) ||| (kk_rd σ 17 v2)) → (kk_lp3 (fun (rec_5 : Int32 → Int32 → Int32 → Prop) (v4_2 : Int32) (v5_3 : Int32) (v6_4 : Int32) =>
 (((σ.1 1 6) ≤ v6_4 → Q v5_3) ∧
 (¬ (σ.1 1 6) ≤ v6_4 → (kk_j2 (fun (v4_6 : Int32) (v5_7 : Int32) => rec_5 v4_6 v5_7 (v6_4 + (1 : Int32)))
 (fun (J_8 : Int32 → Int32 → Prop) => ((((v4_2 >>> (v6_4 &&& 31)) &&& (1 : Int32)) = 0 → J_8 v4_2 v5_3) ∧
 (¬ ((v4_2 >>> (v6_4 &&& 31)) &&& (1 : Int32)) = 0 → (f_X6_joined ((1 : Int32) <<< (v6_4 &&& 31)) v3_1 σ (fun (r_9 : Int32) =>
 (∀ v4_10 : Int32, v4_10 = (v4_2 &&& (r_9 ^^^ (-1 : Int32))) → (f_J6_bitCount_0f7a4 r_9 (fun (r_11 : Int32) =>
 (f_J6_bitCount_0f7a4 v5_3 (fun (r_12 : Int32) =>
 ((r_11 ≤ r_12 → J_8 v4_10 v5_3) ∧
 (¬ r_11 ≤ r_12 → J_8 v4_10 r_9)))))))))))))))) v3_1 (0 : Int32) (0 : Int32)))))
def f_X10_longest (v1 : Int32) (σ : kk_St) (Q : Int32 → Prop) : Prop :=
 (kk_j0 (Q (-1 : Int32))
 (fun (J_1 : Prop) => ((v1 < 0 → J_1) ∧
 (¬ v1 < 0 → ((v1 ≤ (3 : Int32) → (kk_lp3 (fun (rec_5 : Int32 → Int32 → Int32 → Prop) (v2_2 : Int32) (v3_3 : Int32) (v4_4 : Int32) =>
 (f_X3_colours σ (fun (r_6 : Int32) =>
 ((r_6 ≤ v4_4 → ((¬ v2_2 = 0 → ((v1 = nI 0 → (f_J6_bitCount_0f7a4 v2_2 (fun (r_7 : Int32) =>
 Q r_7))) ∧
 (v1 = nI 1 → Q (v3_3 / (9 : Int32))) ∧
 (v1 = nI 2 → Q (v3_3 - v3_3 / (9 : Int32) * (9 : Int32))) ∧
 (v1.toInt < 0 ∨ (3 : Int) ≤ v1.toInt → (f_J6_numberOfTrailingZeros_0f7a4 v2_2 (fun (r_8 : Int32) =>
 Q r_8))))) ∧
 (v2_2 = 0 → Q (-2 : Int32)))) ∧
 (¬ r_6 ≤ v4_4 → (kk_lp3 (fun (rec_13 : Int32 → Int32 → Int32 → Prop) (v2_10 : Int32) (v3_11 : Int32) (v5_12 : Int32) =>
 (f_X3_colours σ (fun (r_14 : Int32) =>
 ((r_14 ≤ v5_12 → rec_5 v2_10 v3_11 (v4_4 + (1 : Int32))) ∧
 (¬ r_14 ≤ v5_12 → (f_X2_longestChain v4_4 v5_12 σ (fun (r_15 : Int32) =>
 (f_J6_bitCount_0f7a4 r_15 (fun (r_16 : Int32) =>
 (f_J6_bitCount_0f7a4 v2_10 (fun (r_17 : Int32) =>
 (kk_j2 (fun (v2_18 : Int32) (v3_19 : Int32) => rec_13 v2_18 v3_19 (v5_12 + (1 : Int32)))
 (fun (J_20 : Int32 → Int32 → Prop) => ((r_16 ≤ r_17 → J_20 v2_10 v3_11) ∧
 (¬ r_16 ≤ r_17 → (∀ v3_21 : Int32, v3_21 = ((v4_4 * (9 : Int32)) + v5_12) → J_20 r_15 v3_21)))))))))))))))) v2_2 v3_3 (v4_4 + (1 : Int32)))))))) (0 : Int32) (0 : Int32) (0 : Int32))) ∧
 (¬ v1 ≤ (3 : Int32) → J_1))))))
def f_X10_of (v1 : Int32) (v2 : Int32) (σ : kk_St) (Q : Int32 → Prop) : Prop :=
 (f_X6_isLine v1 σ (fun (r_1 : Int32) =>
 ((¬ r_1 = 0 → ((v2 = nI 0 → (vp_in v1 20 ∧
 Q (kk_rd σ 11 v1))) ∧
 (v2 = nI 1 → (vp_in v1 20 ∧
 Q (kk_rd σ 12 v1))) ∧
 (v2 = nI 2 → (vp_in v1 20 ∧
 (kk_j1 (fun (t_2 : Int32) => Q t_2)
 (fun (J_3 : Int32 → Prop) => ((¬ (kk_rd σ 16 v1) = (-1 : Int32) → (vp_in v1 20 ∧
 J_3 (kk_rd σ 16 v1))) ∧
 ((kk_rd σ 16 v1) = (-1 : Int32) → J_3 (-2 : Int32))))))) ∧
 (v2 = nI 3 → (vp_in v1 20 ∧
 Q (kk_rd σ 13 v1))) ∧
 (v2.toInt < 0 ∨ (4 : Int) ≤ v2.toInt → Q (-1 : Int32)))) ∧
 (r_1 = 0 → Q (-1 : Int32)))))
def f_X10_overfull (v1 : Int32) (σ : kk_St) (Q : Int32 → Prop) : Prop :=
 (kk_j0 (Q (-1 : Int32))
 (fun (J_1 : Prop) => ((v1 < 0 → J_1) ∧
 (¬ v1 < 0 → ((v1 ≤ (2 : Int32) → (f_X6_allLines σ (fun (r_2 : Int32) =>
 (f_X6_crowdedSet r_2 (σ.1 1 7) σ (fun (r_3 : Int32) =>
 ((¬ r_3 = 0 → ((¬ v1 = 0 → (kk_j1 (fun (t_4 : Int32) => Q t_4)
 (fun (J_5 : Int32 → Prop) => ((¬ v1 = (1 : Int32) → (f_J6_bitCount_0f7a4 r_3 (fun (r_6 : Int32) =>
 J_5 ((σ.1 1 7) * (r_6 / (2 : Int32)))))) ∧
 (v1 = (1 : Int32) → (f_X6_allLines σ (fun (r_7 : Int32) =>
 (f_X6_linesWithin r_3 r_7 σ (fun (r_8 : Int32) =>
 J_5 r_8))))))))) ∧
 (v1 = 0 → Q r_3))) ∧
 (r_3 = 0 → Q (-2 : Int32)))))))) ∧
 (¬ v1 ≤ (2 : Int32) → J_1))))))
def f_X10_paint (v1 : Int32) (v2 : Int32) (σ : kk_St) (Q : Int32 → kk_St → Prop) : Prop :=
 (f_X6_isLine v1 σ (fun (r_1 : Int32) =>
 (kk_j0 (Q (0 : Int32) σ)
 (fun (J_2 : Prop) => ((r_1 = 0 → J_2) ∧
 (¬ r_1 = 0 → (f_X3_isColour v2 σ (fun (r_3 : Int32) =>
 ((r_3 = 0 → J_2) ∧
 (¬ r_3 = 0 → (f_X3_freeAtBoth v1 σ (fun (r_4 : Int32) =>
 ((¬ ((r_4 >>> (v2 &&& 31)) &&& (1 : Int32)) = 0 → (f_X3_give v1 v2 σ (fun (σ_5 : kk_St) =>
 Q (1 : Int32) σ_5))) ∧
 (((r_4 >>> (v2 &&& 31)) &&& (1 : Int32)) = 0 → J_2))))))))))))))
def f_X3_giveBelowDegree (v1 : Int32) (σ : kk_St) (Q : kk_St → Prop) : Prop :=
 (f_X3_freeAtBoth v1 σ (fun (r_1 : Int32) =>
 (∀ v2_2 : Int32, v2_2 = (r_1 &&& (((1 : Int32) <<< ((σ.1 1 7) &&& 31)) - (1 : Int32))) → ((v2_2 = 0 → (vp_in v1 20 ∧
 (f_X3_leastFreeAt (kk_rd σ 11 v1) σ (fun (r_3 : Int32) =>
 (vp_in v1 20 ∧
 (f_X3_leastFreeAt (kk_rd σ 12 v1) σ (fun (r_4 : Int32) =>
 (vp_in v1 20 ∧
 (f_X3_chainOf (kk_rd σ 12 v1) r_3 r_4 σ (fun (r_5 : Int32) =>
 (f_X3_flip r_5 r_3 r_4 σ (fun (σ_6 : kk_St) =>
 (f_X3_give v1 r_3 σ_6 (fun (σ_7 : kk_St) =>
 Q σ_7)))))))))))))) ∧
 (¬ v2_2 = 0 → (f_J6_numberOfTrailingZeros_0f7a4 v2_2 (fun (r_8 : Int32) =>
 (f_X3_give v1 r_8 σ (fun (σ_9 : kk_St) =>
 Q σ_9)))))))))
def f_X6_neighbours (v1 : Int32) (σ : kk_St) (Q : Int32 → Prop) : Prop :=
 (kk_lp2 (fun (rec_3 : Int32 → Int32 → Prop) (v2_1 : Int32) (v3_2 : Int32) =>
 (((σ.1 1 5) ≤ v3_2 → Q v2_1) ∧
 (¬ (σ.1 1 5) ≤ v3_2 → (kk_j1 (fun (v2_4 : Int32) => rec_3 v2_4 (v3_2 + (1 : Int32)))
 (fun (J_5 : Int32 → Prop) => ((((v1 >>> (v3_2 &&& 31)) &&& (1 : Int32)) = 0 → J_5 v2_1) ∧
 (¬ ((v1 >>> (v3_2 &&& 31)) &&& (1 : Int32)) = 0 → (vp_in v3_2 9 ∧
 (∀ v2_6 : Int32, v2_6 = (v2_1 ||| (kk_rd σ 15 v3_2)) → J_5 v2_6))))))))) (0 : Int32) (0 : Int32))
def f_X6_onePart (σ : kk_St) (Q : Int32 → Prop) : Prop :=
 (kk_lp3 (fun (rec_4 : Int32 → Int32 → Int32 → Prop) (v1_1 : Int32) (v2_2 : Int32) (v3_3 : Int32) =>
 (((σ.1 1 5) ≤ v3_3 → Q v2_2) ∧
 (¬ (σ.1 1 5) ≤ v3_3 → (kk_j2 (fun (v1_5 : Int32) (v2_6 : Int32) => rec_4 v1_5 v2_6 (v3_3 + (1 : Int32)))
 (fun (J_7 : Int32 → Int32 → Prop) => ((¬ ((v1_1 >>> (v3_3 &&& 31)) &&& (1 : Int32)) = 0 → J_7 v1_1 v2_2) ∧
 (((v1_1 >>> (v3_3 &&& 31)) &&& (1 : Int32)) = 0 → (∀ v4_8 : Int32, v4_8 = ((1 : Int32) <<< (v3_3 &&& 31)) → (kk_lp3 (fun (rec_12 : Int32 → Int32 → Int32 → Prop) (v4_9 : Int32) (v5_10 : Int32) (v6_11 : Int32) =>
 (((σ.1 1 5) ≤ v6_11 → (((v4_9 &&& v5_10) = 0 → (∀ v1_13 : Int32, v1_13 = (v1_1 ||| (v4_9 ||| v5_10)) → J_7 v1_13 (v2_2 ||| v4_9))) ∧
 (¬ (v4_9 &&& v5_10) = 0 → Q (0 : Int32)))) ∧
 (¬ (σ.1 1 5) ≤ v6_11 → (f_X6_neighbours v4_9 σ (fun (r_15 : Int32) =>
 (f_X6_neighbours (v5_10 ||| r_15) σ (fun (r_16 : Int32) =>
 rec_12 (v4_9 ||| r_16) (v5_10 ||| r_15) (v6_11 + (1 : Int32))))))))) v4_8 (0 : Int32) (0 : Int32)))))))))) (0 : Int32) (0 : Int32) (0 : Int32))
def f_X10_pair (σ : kk_St) (Q : Int32 → kk_St → Prop) : Prop :=
 (f_X6_onePart σ (fun (r_1 : Int32) =>
 ((¬ r_1 = 0 → (f_X3_clear σ (fun (σ_2 : kk_St) =>
 (kk_lp2 (fun (rec_5 : Int32 → kk_St → Prop) (v1_3 : Int32) (σ_4 : kk_St) =>
 (((σ_4.1 1 6) ≤ v1_3 → Q (σ_4.1 1 6) σ_4) ∧
 (¬ (σ_4.1 1 6) ≤ v1_3 → (f_X3_giveBelowDegree v1_3 σ_4 (fun (σ_6 : kk_St) =>
 rec_5 (v1_3 + (1 : Int32)) σ_6))))) (0 : Int32) σ_2)))) ∧
 (r_1 = 0 → Q (-2 : Int32) σ))))
def f_X10_post (v1 : Int32) (v2 : Int32) (σ : kk_St) (Q : Int32 → Prop) : Prop :=
 (f_X6_isPost v1 σ (fun (r_1 : Int32) =>
 ((¬ r_1 = 0 → (f_X3_coloursAt v1 σ (fun (r_2 : Int32) =>
 ((v2 = nI 0 → (vp_in v1 9 ∧
 (f_J6_bitCount_0f7a4 (kk_rd σ 14 v1) (fun (r_3 : Int32) =>
 Q r_3)))) ∧
 (v2 = nI 1 → Q r_2) ∧
 (v2 = nI 2 → (f_X3_leastFreeAt v1 σ (fun (r_4 : Int32) =>
 Q r_4))) ∧
 (v2 = nI 3 → (kk_j1 (fun (t_5 : Int32) => Q t_5)
 (fun (J_6 : Int32 → Prop) => ((¬ r_2 = 0 → (f_X10_greatestBit r_2 (fun (r_7 : Int32) =>
 (f_X3_lineWith v1 r_7 σ (fun (r_8 : Int32) =>
 J_6 r_8))))) ∧
 (r_2 = 0 → J_6 (-1 : Int32)))))) ∧
 (v2.toInt < 0 ∨ (4 : Int) ≤ v2.toInt → Q (-1 : Int32)))))) ∧
 (r_1 = 0 → Q (-1 : Int32)))))
def f_X6_leastPostAbove (v1 : Int32) (σ : kk_St) (Q : Int32 → Prop) : Prop :=
 (kk_lp1 (fun (rec_2 : Int32 → Prop) (v2_1 : Int32) =>
 (((σ.1 1 5) ≤ v2_1 → Q (-1 : Int32)) ∧
 (¬ (σ.1 1 5) ≤ v2_1 → (vp_in v2_1 9 ∧
 (f_J6_bitCount_0f7a4 (kk_rd σ 14 v2_1) (fun (r_3 : Int32) =>
 ((r_3 ≤ v1 → rec_2 (v2_1 + (1 : Int32))) ∧
 (¬ r_3 ≤ v1 → Q v2_1)))))))) (0 : Int32))
def f_X10_refused (v1 : Int32) (v2 : Int32) (σ : kk_St) (Q : Int32 → kk_St → Prop) : Prop :=
 (f_X10_isFew v1 (fun (r_1 : Int32) =>
 (kk_j0 (Q (-1 : Int32) σ)
 (fun (J_2 : Prop) => ((r_1 = 0 → J_2) ∧
 (¬ r_1 = 0 → ((v2 < 0 → J_2) ∧
 (¬ v2 < 0 → ((v2 ≤ (1 : Int32) → (((σ.1 1 7) ≤ v1 → (f_X6_allLines σ (fun (r_3 : Int32) =>
 (f_X6_crowdedSet r_3 v1 σ (fun (r_4 : Int32) =>
 ((r_4 = 0 → (kk_j2 (fun (t_5 : Int32) (σ_6 : kk_St) => Q t_5 σ_6)
 (fun (J_7 : Int32 → kk_St → Prop) => (kk_j1 (fun (σ_8 : kk_St) => J_7 (0 : Int32) σ_8)
 (fun (J_9 : kk_St → Prop) => ((¬ v2 = 0 → J_9 σ) ∧
 (v2 = 0 → (f_X7_fewest σ (fun (r_10 : Int32) (σ_11 : kk_St) =>
 ((r_10 ≤ v1 → J_9 σ_11) ∧
 (¬ r_10 ≤ v1 → J_7 (3 : Int32) σ_11))))))))))) ∧
 (¬ r_4 = 0 → (kk_j1 (fun (t_14 : Int32) => Q t_14 σ)
 (fun (J_15 : Int32 → Prop) => ((¬ v2 = 0 → J_15 r_4) ∧
 (v2 = 0 → J_15 (2 : Int32)))))))))))) ∧
 (¬ (σ.1 1 7) ≤ v1 → (kk_j1 (fun (t_18 : Int32) => Q t_18 σ)
 (fun (J_19 : Int32 → Prop) => ((¬ v2 = 0 → (f_X6_leastPostAbove v1 σ (fun (r_20 : Int32) =>
 J_19 r_20))) ∧
 (v2 = 0 → J_19 (1 : Int32)))))))) ∧
 (¬ v2 ≤ (1 : Int32) → J_2))))))))))
def f_X10_sets (v1 : Int32) (σ : kk_St) (Q : Int32 → kk_St → Prop) : Prop :=
 (kk_j0 (Q (-1 : Int32) σ)
 (fun (J_1 : Prop) => ((v1 < 0 → J_1) ∧
 (¬ v1 < 0 → ((v1 ≤ (4 : Int32) → (f_X0_gatherAll σ (fun (σ_2 : kk_St) =>
 (vp_in v1 5 ∧
 Q (kk_rd σ_2 23 v1) σ_2)))) ∧
 (¬ v1 ≤ (4 : Int32) → J_1))))))
def f_X6_leastOddRound (σ : kk_St) (Q : Int32 → Prop) : Prop :=
 (kk_lp2 (fun (rec_3 : Int32 → Int32 → Prop) (v1_1 : Int32) (v2_2 : Int32) =>
 (((σ.1 1 5) ≤ v2_2 → Q v1_1) ∧
 (¬ (σ.1 1 5) ≤ v2_2 → (∀ v3_4 : Int32, v3_4 = ((1 : Int32) <<< (v2_2 &&& 31)) → (kk_lp3 (fun (rec_8 : Int32 → Int32 → Int32 → Prop) (v1_5 : Int32) (v3_6 : Int32) (v4_7 : Int32) =>
 (((σ.1 1 5) < v4_7 → rec_3 v1_5 (v2_2 + (1 : Int32))) ∧
 (¬ (σ.1 1 5) < v4_7 → (f_X6_neighbours v3_6 σ (fun (r_9 : Int32) =>
 (kk_j1 (fun (t_10 : Int32) => (kk_j1 (fun (v1_12 : Int32) => rec_8 v1_12 r_9 (v4_7 + (1 : Int32)))
 (fun (J_13 : Int32 → Prop) => ((t_10 = 0 → J_13 v1_5) ∧
 (¬ t_10 = 0 → (kk_j3 (fun (v2_14 : Int32) (v3_15 : Int32) (v4_16 : Int32) => J_13 v4_16)
 (fun (J_17 : Int32 → Int32 → Int32 → Prop) => ((v1_5 = 0 → J_17 v2_2 r_9 v4_7) ∧
 (¬ v1_5 = 0 → ((v1_5 ≤ v4_7 → J_13 v1_5) ∧
 (¬ v1_5 ≤ v4_7 → J_17 v2_2 r_9 v4_7)))))))))))
 (fun (J_11 : Int32 → Prop) => (kk_j4 (fun (v1_21 : Int32) (v2_22 : Int32) (v3_23 : Int32) (v4_24 : Int32) => J_11 (0 : Int32))
 (fun (J_25 : Int32 → Int32 → Int32 → Int32 → Prop) => ((¬ (v4_7 - v4_7 / (2 : Int32) * (2 : Int32)) = (1 : Int32) → J_25 v1_5 v2_2 r_9 v4_7) ∧
 ((v4_7 - v4_7 / (2 : Int32) * (2 : Int32)) = (1 : Int32) → ((((r_9 >>> (v2_2 &&& 31)) &&& (1 : Int32)) = 0 → J_25 v1_5 v2_2 r_9 v4_7) ∧
 (¬ ((r_9 >>> (v2_2 &&& 31)) &&& (1 : Int32)) = 0 → J_11 (1 : Int32)))))))))))))) v1_1 v3_4 (1 : Int32)))))) (0 : Int32) (0 : Int32))
def f_X10_sides (v1 : Int32) (σ : kk_St) (Q : Int32 → Prop) : Prop :=
 (f_X6_onePart σ (fun (r_1 : Int32) =>
 ((v1 = nI 0 → (kk_j1 (fun (t_2 : Int32) => Q t_2)
 (fun (J_3 : Int32 → Prop) => ((r_1 = 0 → J_3 (0 : Int32)) ∧
 (¬ r_1 = 0 → J_3 (1 : Int32)))))) ∧
 (v1 = nI 1 → (kk_j1 (fun (t_5 : Int32) => Q t_5)
 (fun (J_6 : Int32 → Prop) => ((r_1 = 0 → J_6 (-2 : Int32)) ∧
 (¬ r_1 = 0 → J_6 r_1))))) ∧
 (v1 = nI 2 → (f_X6_leastOddRound σ (fun (r_8 : Int32) =>
 Q r_8))) ∧
 (v1.toInt < 0 ∨ (3 : Int) ≤ v1.toInt → Q (-1 : Int32)))))
def f_X10_swap (v1 : Int32) (v2 : Int32) (σ : kk_St) (Q : Int32 → kk_St → Prop) : Prop :=
 (f_X3_areUnlike v1 v2 σ (fun (r_1 : Int32) =>
 ((¬ r_1 = 0 → (vp_in v1 9 ∧
 (vp_in v2 9 ∧
 (∀ v3_2 : Int32, v3_2 = ((kk_rd σ 17 v1) ||| (kk_rd σ 17 v2)) → (f_X3_flip v3_2 v1 v2 σ (fun (σ_3 : kk_St) =>
 (f_J6_bitCount_0f7a4 v3_2 (fun (r_4 : Int32) =>
 Q r_4 σ_3)))))))) ∧
 (r_1 = 0 → Q (-1 : Int32) σ))))
def f_X10_take (v1 : Int32) (σ : kk_St) (Q : Int32 → kk_St → Prop) : Prop :=
 (kk_j1 (fun (σ_1 : kk_St) => Q (0 : Int32) σ_1)
 (fun (J_2 : kk_St → Prop) => ((v1 < 0 → J_2 σ) ∧
 (¬ v1 < 0 → (f_X3_colours σ (fun (r_3 : Int32) =>
 ((r_3 < v1 → J_2 σ) ∧
 (¬ r_3 < v1 → (f_X7_findFirst v1 σ (fun (r_4 : Int32) (σ_5 : kk_St) =>
 ((¬ r_4 = 0 → (f_X3_clear σ_5 (fun (σ_6 : kk_St) =>
 (kk_lp2 (fun (rec_9 : Int32 → kk_St → Prop) (v2_7 : Int32) (σ_8 : kk_St) =>
 (((σ_8.1 1 6) ≤ v2_7 → Q (1 : Int32) σ_8) ∧
 (¬ (σ_8.1 1 6) ≤ v2_7 → (vp_in v2_7 20 ∧
 (f_X3_give v2_7 (kk_rd σ_8 22 v2_7) σ_8 (fun (σ_10 : kk_St) =>
 rec_9 (v2_7 + (1 : Int32)) σ_10)))))) (0 : Int32) σ_6)))) ∧
 (r_4 = 0 → J_2 σ_5))))))))))))
def f_X10_turn (v1 : Int32) (v2 : Int32) (v3 : Int32) (σ : kk_St) (Q : Int32 → kk_St → Prop) : Prop :=
 (f_X6_isPost v1 σ (fun (r_1 : Int32) =>
 (kk_j0 (Q (-1 : Int32) σ)
 (fun (J_2 : Prop) => ((r_1 = 0 → J_2) ∧
 (¬ r_1 = 0 → (f_X3_areUnlike v2 v3 σ (fun (r_3 : Int32) =>
 ((¬ r_3 = 0 → (f_X3_chainOf v1 v2 v3 σ (fun (r_4 : Int32) =>
 (f_X3_flip r_4 v2 v3 σ (fun (σ_5 : kk_St) =>
 (f_J6_bitCount_0f7a4 r_4 (fun (r_6 : Int32) =>
 Q r_6 σ_5))))))) ∧
 (r_3 = 0 → J_2))))))))))
def f_X9_codeOf (a1 : Nat) (n1 : Nat) (σ : kk_St) (Q : Int32 → Prop) : Prop :=
 (kk_j1 (fun (v2_1 : Int32) => Q v2_1)
 (fun (J_2 : Int32 → Prop) => (kk_lp2 (fun (rec_5 : Int32 → Int32 → Prop) (v2_3 : Int32) (v3_4 : Int32) =>
 (((σ.1 1 6) ≤ v3_4 → J_2 v2_3) ∧
 (¬ (σ.1 1 6) ≤ v3_4 → (((6 : Int32) ≤ v3_4 → J_2 v2_3) ∧
 (¬ (6 : Int32) ≤ v3_4 → (vp_in v3_4 n1 ∧
 (∀ v2_6 : Int32, v2_6 = (v2_3 ||| (((kk_rd σ a1 v3_4) &&& (3 : Int32)) <<< (((2 : Int32) * v3_4) &&& 31))) → rec_5 v2_6 (v3_4 + (1 : Int32))))))))) (0 : Int32) (0 : Int32))))
def f_X9_fewestTurns (a1 : Nat) (n1 : Nat) (a2 : Nat) (n2 : Nat) (v3 : Int32) (σ : kk_St) (Q : Int32 → kk_St → Prop) : Prop :=
 (f_X9_prepare v3 σ (fun (σ_1 : kk_St) =>
 (f_X9_codeOf a2 n2 σ_1 (fun (r_2 : Int32) =>
 (f_X9_codeOf a1 n1 σ_1 (fun (r_3 : Int32) =>
 (f_X9_mark r_3 σ_1 (fun (σ_4 : kk_St) =>
 (kk_lp2 (fun (rec_7 : Int32 → kk_St → Prop) (v5_5 : Int32) (σ_6 : kk_St) =>
 (((4096 : Int32) < v5_5 → Q (-2 : Int32) σ_6) ∧
 (¬ (4096 : Int32) < v5_5 → (f_X9_isSeen r_2 σ_6 (fun (r_8 : Int32) =>
 ((r_8 = 0 → (f_X9_advance σ_6 (fun (r_9 : Int32) (σ_10 : kk_St) =>
 ((¬ r_9 = 0 → rec_7 (v5_5 + (1 : Int32)) σ_10) ∧
 (r_9 = 0 → Q (-2 : Int32) σ_10))))) ∧
 (¬ r_8 = 0 → Q v5_5 σ_6))))))) (0 : Int32) σ_4)))))))))
def f_X10_turns (v1 : Int32) (σ : kk_St) (Q : Int32 → kk_St → Prop) : Prop :=
 (kk_j0 (Q (-1 : Int32) σ)
 (fun (J_1 : Prop) => ((v1 < (1 : Int32) → J_1) ∧
 (¬ v1 < (1 : Int32) → (((4 : Int32) < v1 → J_1) ∧
 (¬ (4 : Int32) < v1 → (((σ.1 0 12) = 0 → J_1) ∧
 (¬ (σ.1 0 12) = 0 → (((σ.1 1 6) ≤ (6 : Int32) → (f_X10_areAllBelow 31 20 v1 σ (fun (r_2 : Int32) =>
 (kk_j0 (Q (-1 : Int32) σ)
 (fun (J_3 : Prop) => ((r_2 = 0 → J_3) ∧
 (¬ r_2 = 0 → (f_X10_areAllBelow 16 20 v1 σ (fun (r_4 : Int32) =>
 ((¬ r_4 = 0 → (f_X9_fewestTurns 31 20 16 20 v1 σ (fun (r_5 : Int32) (σ_6 : kk_St) =>
 Q r_5 σ_6))) ∧
 (r_4 = 0 → J_3))))))))))) ∧
 (¬ (σ.1 1 6) ≤ (6 : Int32) → J_1))))))))))
def f_X10_unlike (v1 : Int32) (σ : kk_St) (Q : Int32 → Prop) : Prop :=
 (kk_j0 (Q (-1 : Int32))
 (fun (J_1 : Prop) => ((v1 < 0 → J_1) ∧
 (¬ v1 < 0 → ((v1 ≤ (1 : Int32) → ((¬ (σ.1 0 12) = 0 → ((¬ v1 = 0 → (f_X10_isLikeKept σ (fun (r_2 : Int32) =>
 (kk_j1 (fun (t_3 : Int32) => Q t_3)
 (fun (J_4 : Int32 → Prop) => ((r_2 = 0 → J_4 (0 : Int32)) ∧
 (¬ r_2 = 0 → J_4 (1 : Int32)))))))) ∧
 (v1 = 0 → (f_X10_countUnlike σ (fun (r_6 : Int32) =>
 Q r_6))))) ∧
 ((σ.1 0 12) = 0 → Q (-2 : Int32)))) ∧
 (¬ v1 ≤ (1 : Int32) → J_1))))))
def f_X8_share : Nat → Int32 → Int32 → kk_St → (kk_St → Prop) → Prop
| 0, _, _, _, _ => False
| n + 1, v1, v2, σ, Q =>
 (kk_j0 ((vp_in v2 10 ∧
 (vp_in v2 10 ∧
 (∀ σ_2 : kk_St, σ_2 = (kk_wr σ 26 (Int32.toNatClampNeg v2) ((kk_rd σ 26 v2) + (1 : Int32))) → Q σ_2))))
 (fun (J_1 : Prop) => (((σ.1 1 6) ≤ v1 → J_1) ∧
 (¬ (σ.1 1 6) ≤ v1 → ((v1 < (9 : Int32) → (kk_j1 (fun (σ_3 : kk_St) => Q σ_3)
 (fun (J_4 : kk_St → Prop) => (kk_lp2 (fun (rec_7 : Int32 → kk_St → Prop) (v3_5 : Int32) (σ_6 : kk_St) =>
 ((v2 < v3_5 → J_4 σ_6) ∧
 (¬ v2 < v3_5 → (((9 : Int32) ≤ v3_5 → J_4 σ_6) ∧
 (¬ (9 : Int32) ≤ v3_5 → (vp_in v3_5 9 ∧
 (vp_in v1 20 ∧
 (kk_j1 (fun (σ_8 : kk_St) => rec_7 (v3_5 + (1 : Int32)) σ_8)
 (fun (J_9 : kk_St → Prop) => ((¬ ((kk_rd σ_6 25 v3_5) &&& (kk_rd σ_6 13 v1)) = 0 → J_9 σ_6) ∧
 (((kk_rd σ_6 25 v3_5) &&& (kk_rd σ_6 13 v1)) = 0 → (vp_in v3_5 9 ∧
 (vp_in v3_5 9 ∧
 (∀ σ_10 : kk_St, σ_10 = (kk_wr σ_6 25 (Int32.toNatClampNeg v3_5) ((kk_rd σ_6 25 v3_5) ||| ((1 : Int32) <<< (v1 &&& 31)))) → (f_J9_max_7cf53 v2 (v3_5 + (1 : Int32)) (fun (r_11 : Int32) =>
 (f_X8_share n (v1 + (1 : Int32)) r_11 σ_10 (fun (σ_12 : kk_St) =>
 (vp_in v3_5 9 ∧
 (vp_in v3_5 9 ∧
 (∀ σ_13 : kk_St, σ_13 = (kk_wr σ_12 25 (Int32.toNatClampNeg v3_5) ((kk_rd σ_12 25 v3_5) &&& (((1 : Int32) <<< (v1 &&& 31)) ^^^ (-1 : Int32)))) → J_9 σ_13))))))))))))))))))))) (0 : Int32) σ)))) ∧
 (¬ v1 < (9 : Int32) → J_1))))))
def f_X8_countColourings (v1 : Int32) (σ : kk_St) (Q : Int64 → kk_St → Prop) : Prop :=
 (f_J7_fill_53178 26 10 (0 : Int32) σ (fun (σ_1 : kk_St) =>
 (f_J7_fill_53178 25 9 (0 : Int32) σ_1 (fun (σ_2 : kk_St) =>
 (f_X8_share 30 (0 : Int32) (0 : Int32) σ_2 (fun (σ_3 : kk_St) =>
 (kk_lp3 (fun (rec_7 : Int64 → Int64 → Int32 → Prop) (v2_4 : Int64) (v4_5 : Int64) (v6_6 : Int32) =>
 (((9 : Int32) < v6_6 → Q v2_4 σ_3) ∧
 (¬ (9 : Int32) < v6_6 → (vp_in v6_6 10 ∧
 (∀ v2_8 : Int64, v2_8 = (v2_4 + ((Int32.toInt64 (kk_rd σ_3 26 v6_6)) * v4_5)) → (∀ v4_9 : Int64, v4_9 = (v4_5 * (Int32.toInt64 (v1 - v6_6))) → rec_7 v2_8 v4_9 (v6_6 + (1 : Int32)))))))) (0 : Int64) (1 : Int64) (0 : Int32))))))))
def f_X10_ways (v1 : Int32) (σ : kk_St) (Q : Int64 → kk_St → Prop) : Prop :=
 (f_X10_isFew v1 (fun (r_1 : Int32) =>
 ((¬ r_1 = 0 → (kk_j2 (fun (t_2 : Int64) (σ_3 : kk_St) => Q t_2 σ_3)
 (fun (J_4 : Int64 → kk_St → Prop) => (((σ.1 1 6) ≤ (9 : Int32) → (f_X8_countColourings v1 σ (fun (r_5 : Int64) (σ_6 : kk_St) =>
 J_4 r_5 σ_6))) ∧
 (¬ (σ.1 1 6) ≤ (9 : Int32) → J_4 (-2 : Int64) σ))))) ∧
 (r_1 = 0 → Q (-1 : Int64) σ))))
def f_X11_allLines (σ : kk_St) (Q : Int32 → Prop) : Prop :=
 Q (((1 : Int32) <<< ((σ.1 0 2) &&& 31)) - (1 : Int32))
def f_X11_allPosts (σ : kk_St) (Q : Int32 → Prop) : Prop :=
 Q (((1 : Int32) <<< ((σ.1 0 1) &&& 31)) - (1 : Int32))
def f_X11_apartBy (v1 : Int32) (v2 : Int32) (σ : kk_St) (Q : Int32 → Prop) : Prop :=
 (vp_in (((512 : Int32) * v1) + v2) 10752 ∧
 Q (kk_rd σ 21 (((512 : Int32) * v1) + v2)))
def f_X11_in (v0 : Int32) (v1 : Int32) (v2 : Int32) (Q : Int32 → Prop) : Prop :=
 (kk_j1 (fun (t_1 : Int32) => ((t_1 = 0 ∨ t_1 = 1) ∧ Q t_1))
 (fun (J_2 : Int32 → Prop) => (kk_j0 (J_2 (0 : Int32))
 (fun (J_3 : Prop) => ((v0 < v1 → J_3) ∧
 (¬ v0 < v1 → ((v2 < v0 → J_3) ∧
 (¬ v2 < v0 → J_2 (1 : Int32)))))))))
def f_X11_has (v0 : Int32) (v1 : Int32) (Q : Int32 → Prop) : Prop :=
 (kk_j1 (fun (t_1 : Int32) => ((t_1 = 0 ∨ t_1 = 1) ∧ Q t_1))
 (fun (J_2 : Int32 → Prop) => ((¬ ((v0 >>> (v1 &&& 31)) &&& (1 : Int32)) = (1 : Int32) → J_2 (0 : Int32)) ∧
 (((v0 >>> (v1 &&& 31)) &&& (1 : Int32)) = (1 : Int32) → J_2 (1 : Int32)))))
def f_X11_areThere (v1 : Int32) (v2 : Int32) (σ : kk_St) (Q : Int32 → Prop) : Prop :=
 (vp_in v2 20 ∧
 (f_X11_has v1 (kk_rd σ 1 v2) (fun (r_1 : Int32) =>
 (kk_j1 (fun (t_2 : Int32) => ((t_2 = 0 ∨ t_2 = 1) ∧ Q t_2))
 (fun (J_3 : Int32 → Prop) => (kk_j0 (J_3 (0 : Int32))
 (fun (J_4 : Prop) => ((r_1 = 0 → J_4) ∧
 (¬ r_1 = 0 → (vp_in v2 20 ∧
 (f_X11_has v1 (kk_rd σ 2 v2) (fun (r_5 : Int32) =>
 ((r_5 = 0 → J_4) ∧
 (¬ r_5 = 0 → J_3 (1 : Int32)))))))))))))))
def f_X11_without (v1 : Int32) (v2 : Int32) (σ : kk_St) (Q : Int32 → Prop) : Prop :=
 (vp_in v2 20 ∧
 (vp_in v2 20 ∧
 Q ((v1 &&& (((1 : Int32) <<< ((kk_rd σ 1 v2) &&& 31)) ^^^ (-1 : Int32))) &&& (((1 : Int32) <<< ((kk_rd σ 2 v2) &&& 31)) ^^^ (-1 : Int32)))))
def f_X11_laysApart (σ : kk_St) (Q : kk_St → Prop) : Prop :=
 (kk_lp2 (fun (rec_3 : Int32 → kk_St → Prop) (v1_1 : Int32) (σ_2 : kk_St) =>
 (((512 : Int32) ≤ v1_1 → (kk_lp2 (fun (rec_6 : Int32 → kk_St → Prop) (v1_4 : Int32) (σ_5 : kk_St) =>
 (((σ_5.1 0 2) ≤ v1_4 → Q σ_5) ∧
 (¬ (σ_5.1 0 2) ≤ v1_4 → (kk_lp2 (fun (rec_9 : Int32 → kk_St → Prop) (v2_7 : Int32) (σ_8 : kk_St) =>
 (((512 : Int32) ≤ v2_7 → rec_6 (v1_4 + (1 : Int32)) σ_8) ∧
 (¬ (512 : Int32) ≤ v2_7 → (f_X11_apartBy v1_4 v2_7 σ_8 (fun (r_10 : Int32) =>
 (f_X11_areThere v2_7 v1_4 σ_8 (fun (r_11 : Int32) =>
 (kk_j1 (fun (v3_12 : Int32) => (vp_in (((512 : Int32) * (v1_4 + (1 : Int32))) + v2_7) 10752 ∧
 (∀ σ_14 : kk_St, σ_14 = (kk_wr σ_8 21 (Int32.toNatClampNeg (((512 : Int32) * (v1_4 + (1 : Int32))) + v2_7)) v3_12) → rec_9 (v2_7 + (1 : Int32)) σ_14)))
 (fun (J_13 : Int32 → Prop) => ((r_11 = 0 → J_13 r_10) ∧
 (¬ r_11 = 0 → (f_X11_without v2_7 v1_4 σ_8 (fun (r_15 : Int32) =>
 (f_X11_apartBy v1_4 r_15 σ_8 (fun (r_16 : Int32) =>
 ((((1 : Int32) + r_16) ≤ r_10 → J_13 r_10) ∧
 (¬ ((1 : Int32) + r_16) ≤ r_10 → J_13 ((1 : Int32) + r_16)))))))))))))))))) (0 : Int32) σ_5)))) (0 : Int32) σ_2)) ∧
 (¬ (512 : Int32) ≤ v1_1 → (vp_in v1_1 10752 ∧
 (∀ σ_21 : kk_St, σ_21 = (kk_wr σ_2 21 (Int32.toNatClampNeg v1_1) (0 : Int32)) → rec_3 (v1_1 + (1 : Int32)) σ_21))))) (0 : Int32) σ)
def f_X11_apart (v1 : Int32) (σ : kk_St) (Q : Int32 → kk_St → Prop) : Prop :=
 (f_X11_in v1 (0 : Int32) (1 : Int32) (fun (r_1 : Int32) =>
 ((¬ r_1 = 0 → (f_X11_laysApart σ (fun (σ_2 : kk_St) =>
 (f_X11_allPosts σ_2 (fun (r_3 : Int32) =>
 ((¬ v1 = 0 → (∀ v4_4 : Int32, v4_4 = ((σ_2.1 0 2) - (1 : Int32)) → (kk_lp3 (fun (rec_8 : Int32 → Int32 → Int32 → Prop) (v2_5 : Int32) (v3_6 : Int32) (v4_7 : Int32) =>
 ((v4_7 < 0 → Q v3_6 σ_2) ∧
 (¬ v4_7 < 0 → (f_X11_apartBy v4_7 v2_5 σ_2 (fun (r_9 : Int32) =>
 (f_X11_apartBy (v4_7 + (1 : Int32)) v2_5 σ_2 (fun (r_10 : Int32) =>
 (kk_j2 (fun (v2_11 : Int32) (v3_12 : Int32) => rec_8 v2_11 v3_12 (v4_7 + (-1 : Int32)))
 (fun (J_13 : Int32 → Int32 → Prop) => ((¬ r_9 = r_10 → (∀ v3_14 : Int32, v3_14 = (v3_6 ||| ((1 : Int32) <<< (v4_7 &&& 31))) → (f_X11_without v2_5 v4_7 σ_2 (fun (r_15 : Int32) =>
 J_13 r_15 v3_14)))) ∧
 (r_9 = r_10 → J_13 v2_5 v3_6))))))))))) r_3 (0 : Int32) v4_4))) ∧
 (v1 = 0 → (f_X11_apartBy (σ_2.1 0 2) r_3 σ_2 (fun (r_18 : Int32) =>
 Q r_18 σ_2))))))))) ∧
 (r_1 = 0 → Q (-1 : Int32) σ))))
def f_X11_areBelow (a1 : Nat) (n1 : Nat) (v2 : Int32) (σ : kk_St) (Q : Int32 → Prop) : Prop :=
 (kk_lp1 (fun (rec_2 : Int32 → Prop) (v3_1 : Int32) =>
 (((σ.1 0 2) ≤ v3_1 → Q (1 : Int32)) ∧
 (¬ (σ.1 0 2) ≤ v3_1 → (vp_in v3_1 n1 ∧
 (f_X11_in (kk_rd σ a1 v3_1) (0 : Int32) (v2 - (1 : Int32)) (fun (r_3 : Int32) =>
 ((¬ r_3 = 0 → rec_2 (v3_1 + (1 : Int32))) ∧
 (r_3 = 0 → Q (0 : Int32))))))))) (0 : Int32))
def f_X11_isAt (v1 : Int32) (v2 : Int32) (σ : kk_St) (Q : Int32 → Prop) : Prop :=
 (vp_in v1 20 ∧
 (kk_j1 (fun (t_1 : Int32) => ((t_1 = 0 ∨ t_1 = 1) ∧ Q t_1))
 (fun (J_2 : Int32 → Prop) => (kk_j0 (J_2 (1 : Int32))
 (fun (J_3 : Prop) => (((kk_rd σ 1 v1) = v2 → J_3) ∧
 (¬ (kk_rd σ 1 v1) = v2 → (vp_in v1 20 ∧
 ((¬ (kk_rd σ 2 v1) = v2 → J_2 (0 : Int32)) ∧
 ((kk_rd σ 2 v1) = v2 → J_3))))))))))
def f_X11_linesAt (v1 : Int32) (v2 : Int32) (σ : kk_St) (Q : Int32 → Prop) : Prop :=
 (kk_lp2 (fun (rec_3 : Int32 → Int32 → Prop) (v3_1 : Int32) (v4_2 : Int32) =>
 (((σ.1 0 2) ≤ v4_2 → Q v3_1) ∧
 (¬ (σ.1 0 2) ≤ v4_2 → (f_X11_has v2 v4_2 (fun (r_4 : Int32) =>
 (kk_j1 (fun (v3_5 : Int32) => rec_3 v3_5 (v4_2 + (1 : Int32)))
 (fun (J_6 : Int32 → Prop) => ((r_4 = 0 → J_6 v3_1) ∧
 (¬ r_4 = 0 → (f_X11_isAt v4_2 v1 σ (fun (r_7 : Int32) =>
 ((r_7 = 0 → J_6 v3_1) ∧
 (¬ r_7 = 0 → J_6 (v3_1 + (1 : Int32))))))))))))))) (0 : Int32) (0 : Int32))
def f_X11_degreeOf (v1 : Int32) (σ : kk_St) (Q : Int32 → Prop) : Prop :=
 (kk_lp2 (fun (rec_3 : Int32 → Int32 → Prop) (v2_1 : Int32) (v3_2 : Int32) =>
 (((σ.1 0 1) ≤ v3_2 → Q v2_1) ∧
 (¬ (σ.1 0 1) ≤ v3_2 → (f_X11_linesAt v3_2 v1 σ (fun (r_4 : Int32) =>
 (kk_j1 (fun (v2_5 : Int32) => rec_3 v2_5 (v3_2 + (1 : Int32)))
 (fun (J_6 : Int32 → Prop) => ((r_4 ≤ v2_1 → J_6 v2_1) ∧
 (¬ r_4 ≤ v2_1 → J_6 r_4))))))))) (0 : Int32) (0 : Int32))
def f_X11_degree (σ : kk_St) (Q : Int32 → Prop) : Prop :=
 (f_X11_allLines σ (fun (r_1 : Int32) =>
 (f_X11_degreeOf r_1 σ (fun (r_2 : Int32) =>
 Q r_2))))
def f_X11_isColour (v1 : Int32) (σ : kk_St) (Q : Int32 → Prop) : Prop :=
 (f_X11_degree σ (fun (r_1 : Int32) =>
 (f_X11_in v1 (0 : Int32) r_1 (fun (r_2 : Int32) =>
 ((r_2 = 0 ∨ r_2 = 1) ∧ Q r_2)))))
def f_X11_areColours (v1 : Int32) (v2 : Int32) (σ : kk_St) (Q : Int32 → Prop) : Prop :=
 (f_X11_isColour v1 σ (fun (r_1 : Int32) =>
 (kk_j1 (fun (t_2 : Int32) => ((t_2 = 0 ∨ t_2 = 1) ∧ Q t_2))
 (fun (J_3 : Int32 → Prop) => (kk_j0 (J_3 (0 : Int32))
 (fun (J_4 : Prop) => ((r_1 = 0 → J_4) ∧
 (¬ r_1 = 0 → (f_X11_isColour v2 σ (fun (r_5 : Int32) =>
 ((r_5 = 0 → J_4) ∧
 (¬ r_5 = 0 → ((v1 = v2 → J_4) ∧
 (¬ v1 = v2 → J_3 (1 : Int32)))))))))))))))
def f_X11_areLike (σ : kk_St) (Q : Int32 → Prop) : Prop :=
 (kk_lp1 (fun (rec_2 : Int32 → Prop) (v1_1 : Int32) =>
 (((σ.1 0 2) ≤ v1_1 → Q (1 : Int32)) ∧
 (¬ (σ.1 0 2) ≤ v1_1 → (vp_in v1_1 20 ∧
 (kk_j1 (fun (t_3 : Int32) => (vp_in v1_1 20 ∧
 (kk_j1 (fun (t_5 : Int32) => ((t_3 = t_5 → (kk_lp1 (fun (rec_8 : Int32 → Prop) (v2_7 : Int32) =>
 ((v1_1 ≤ v2_7 → rec_2 (v1_1 + (1 : Int32))) ∧
 (¬ v1_1 ≤ v2_7 → (vp_in v1_1 20 ∧
 (vp_in v2_7 20 ∧
 (kk_j1 (fun (t_9 : Int32) => (vp_in v1_1 20 ∧
 (vp_in v2_7 20 ∧
 (kk_j1 (fun (t_11 : Int32) => ((t_9 = t_11 → rec_8 (v2_7 + (1 : Int32))) ∧
 (¬ t_9 = t_11 → Q (0 : Int32))))
 (fun (J_12 : Int32 → Prop) => ((¬ (kk_rd σ 3 v1_1) = (kk_rd σ 3 v2_7) → J_12 (0 : Int32)) ∧
 ((kk_rd σ 3 v1_1) = (kk_rd σ 3 v2_7) → J_12 (1 : Int32))))))))
 (fun (J_10 : Int32 → Prop) => ((¬ (kk_rd σ 5 v1_1) = (kk_rd σ 5 v2_7) → J_10 (0 : Int32)) ∧
 ((kk_rd σ 5 v1_1) = (kk_rd σ 5 v2_7) → J_10 (1 : Int32)))))))))) (0 : Int32))) ∧
 (¬ t_3 = t_5 → Q (0 : Int32))))
 (fun (J_6 : Int32 → Prop) => ((0 ≤ (kk_rd σ 3 v1_1) → J_6 (0 : Int32)) ∧
 (¬ 0 ≤ (kk_rd σ 3 v1_1) → J_6 (1 : Int32)))))))
 (fun (J_4 : Int32 → Prop) => ((0 ≤ (kk_rd σ 5 v1_1) → J_4 (0 : Int32)) ∧
 (¬ 0 ≤ (kk_rd σ 5 v1_1) → J_4 (1 : Int32))))))))) (0 : Int32))
def f_X11_unlikeMany (σ : kk_St) (Q : Int32 → Prop) : Prop :=
 (kk_lp2 (fun (rec_3 : Int32 → Int32 → Prop) (v1_1 : Int32) (v2_2 : Int32) =>
 (((σ.1 0 2) ≤ v2_2 → Q v1_1) ∧
 (¬ (σ.1 0 2) ≤ v2_2 → (vp_in v2_2 20 ∧
 (vp_in v2_2 20 ∧
 (kk_j1 (fun (v1_4 : Int32) => rec_3 v1_4 (v2_2 + (1 : Int32)))
 (fun (J_5 : Int32 → Prop) => (((kk_rd σ 5 v2_2) = (kk_rd σ 3 v2_2) → J_5 v1_1) ∧
 (¬ (kk_rd σ 5 v2_2) = (kk_rd σ 3 v2_2) → J_5 (v1_1 + (1 : Int32))))))))))) (0 : Int32) (0 : Int32))
def f_X11_back (σ : kk_St) (Q : Int32 → kk_St → Prop) : Prop :=
 ((¬ (σ.1 0 8) = 0 → (f_X11_unlikeMany σ (fun (r_1 : Int32) =>
 (kk_lp2 (fun (rec_4 : Int32 → kk_St → Prop) (v2_2 : Int32) (σ_3 : kk_St) =>
 (((σ_3.1 0 2) ≤ v2_2 → Q r_1 σ_3) ∧
 (¬ (σ_3.1 0 2) ≤ v2_2 → (vp_in v2_2 20 ∧
 (vp_in v2_2 20 ∧
 (∀ σ_5 : kk_St, σ_5 = (kk_wr σ_3 3 (Int32.toNatClampNeg v2_2) (kk_rd σ_3 5 v2_2)) → rec_4 (v2_2 + (1 : Int32)) σ_5)))))) (0 : Int32) σ)))) ∧
 ((σ.1 0 8) = 0 → Q (-1 : Int32) σ))
def f_X11_isLine (v1 : Int32) (σ : kk_St) (Q : Int32 → Prop) : Prop :=
 (f_X11_in v1 (0 : Int32) ((σ.1 0 2) - (1 : Int32)) (fun (r_1 : Int32) =>
 ((r_1 = 0 ∨ r_1 = 1) ∧ Q r_1)))
def f_X11_bare (v1 : Int32) (σ : kk_St) (Q : Int32 → kk_St → Prop) : Prop :=
 (f_X11_isLine v1 σ (fun (r_1 : Int32) =>
 ((¬ r_1 = 0 → (vp_in v1 20 ∧
 (vp_in v1 20 ∧
 (∀ σ_2 : kk_St, σ_2 = (kk_wr σ 3 (Int32.toNatClampNeg v1) (-1 : Int32)) → Q (kk_rd σ 3 v1) σ_2)))) ∧
 (r_1 = 0 → Q (-1 : Int32) σ))))
def f_X11_manyWith (v1 : Int32) (v2 : Int32) (σ : kk_St) (Q : Int32 → Prop) : Prop :=
 (kk_lp2 (fun (rec_3 : Int32 → Int32 → Prop) (v3_1 : Int32) (v4_2 : Int32) =>
 (((σ.1 0 2) ≤ v4_2 → Q v3_1) ∧
 (¬ (σ.1 0 2) ≤ v4_2 → (f_X11_has v1 v4_2 (fun (r_4 : Int32) =>
 (kk_j1 (fun (v3_5 : Int32) => rec_3 v3_5 (v4_2 + (1 : Int32)))
 (fun (J_6 : Int32 → Prop) => ((r_4 = 0 → J_6 v3_1) ∧
 (¬ r_4 = 0 → (vp_in v4_2 20 ∧
 ((¬ (kk_rd σ 3 v4_2) = v2 → J_6 v3_1) ∧
 ((kk_rd σ 3 v4_2) = v2 → J_6 (v3_1 + (1 : Int32)))))))))))))) (0 : Int32) (0 : Int32))
def f_X11_bareMany (σ : kk_St) (Q : Int32 → Prop) : Prop :=
 (f_X11_allLines σ (fun (r_1 : Int32) =>
 (f_X11_manyWith r_1 (-1 : Int32) σ (fun (r_2 : Int32) =>
 Q r_2))))
def f_X11_begin (v1 : Int32) (σ : kk_St) (Q : Int32 → kk_St → Prop) : Prop :=
 (f_X11_in v1 (1 : Int32) (9 : Int32) (fun (r_1 : Int32) =>
 ((¬ r_1 = 0 → (∀ σ_2 : kk_St, σ_2 = (kk_wr σ 0 1 v1) → (∀ σ_3 : kk_St, σ_3 = (kk_wr σ_2 0 2 (0 : Int32)) → (∀ σ_4 : kk_St, σ_4 = (kk_wr σ_3 0 8 (0 : Int32)) → (∀ σ_5 : kk_St, σ_5 = (kk_wr σ_4 0 12 (0 : Int32)) → Q (1 : Int32) σ_5))))) ∧
 (r_1 = 0 → Q (0 : Int32) σ))))
def f_X11_bitsOf (v0 : Int32) (Q : Int32 → Prop) : Prop :=
 (∀ v1_1 : Int32, v1_1 = (v0 - ((v0 >>> ((1 : Int32) &&& 31)) &&& (1431655765 : Int32))) → (∀ v1_2 : Int32, v1_2 = ((v1_1 &&& (858993459 : Int32)) + ((v1_1 >>> ((2 : Int32) &&& 31)) &&& (858993459 : Int32))) → (∀ v1_3 : Int32, v1_3 = ((v1_2 + (v1_2 >>> ((4 : Int32) &&& 31))) &&& (252645135 : Int32)) → Q ((v1_3 * (16843009 : Int32)) >>> ((24 : Int32) &&& 31)))))
def f_X11_lowestOf (v0 : Int32) (Q : Int32 → Prop) : Prop :=
 (kk_lp1 (fun (rec_2 : Int32 → Prop) (v1_1 : Int32) =>
 (f_X11_has v0 v1_1 (fun (r_3 : Int32) =>
 ((¬ r_3 = 0 → Q v1_1) ∧
 (r_3 = 0 → rec_2 (v1_1 + (1 : Int32))))))) (0 : Int32))
def f_X11_usedAt (v1 : Int32) (σ : kk_St) (Q : Int32 → Prop) : Prop :=
 (kk_lp2 (fun (rec_3 : Int32 → Int32 → Prop) (v2_1 : Int32) (v3_2 : Int32) =>
 (((σ.1 0 2) ≤ v3_2 → Q v2_1) ∧
 (¬ (σ.1 0 2) ≤ v3_2 → (f_X11_isAt v3_2 v1 σ (fun (r_4 : Int32) =>
 (kk_j1 (fun (v2_5 : Int32) => rec_3 v2_5 (v3_2 + (1 : Int32)))
 (fun (J_6 : Int32 → Prop) => ((r_4 = 0 → J_6 v2_1) ∧
 (¬ r_4 = 0 → (vp_in v3_2 20 ∧
 (((kk_rd σ 3 v3_2) < 0 → J_6 v2_1) ∧
 (¬ (kk_rd σ 3 v3_2) < 0 → (vp_in v3_2 20 ∧
 (∀ v2_7 : Int32, v2_7 = (v2_1 ||| ((1 : Int32) <<< ((kk_rd σ 3 v3_2) &&& 31))) → J_6 v2_7)))))))))))))) (0 : Int32) (0 : Int32))
def f_X11_idleAt (v1 : Int32) (σ : kk_St) (Q : Int32 → Prop) : Prop :=
 (f_X11_usedAt v1 σ (fun (r_1 : Int32) =>
 ((¬ r_1 = 0 → (f_X11_lowestOf r_1 (fun (r_2 : Int32) =>
 (kk_lp2 (fun (rec_5 : Int32 → Int32 → Prop) (v3_3 : Int32) (v4_4 : Int32) =>
 (((20 : Int32) ≤ v4_4 → (f_X11_lowestOf r_1 (fun (r_6 : Int32) =>
 (f_X11_bitsOf r_1 (fun (r_7 : Int32) =>
 Q (((v3_3 - r_6) - r_7) + (1 : Int32))))))) ∧
 (¬ (20 : Int32) ≤ v4_4 → (f_X11_has r_1 v4_4 (fun (r_8 : Int32) =>
 (kk_j1 (fun (v3_9 : Int32) => rec_5 v3_9 (v4_4 + (1 : Int32)))
 (fun (J_10 : Int32 → Prop) => ((r_8 = 0 → J_10 v3_3) ∧
 (¬ r_8 = 0 → J_10 v4_4))))))))) r_2 r_2)))) ∧
 (r_1 = 0 → Q (0 : Int32)))))
def f_X11_idleAll (σ : kk_St) (Q : Int32 → Prop) : Prop :=
 (kk_lp2 (fun (rec_3 : Int32 → Int32 → Prop) (v1_1 : Int32) (v2_2 : Int32) =>
 (((σ.1 0 1) ≤ v2_2 → Q v1_1) ∧
 (¬ (σ.1 0 1) ≤ v2_2 → (f_X11_idleAt v2_2 σ (fun (r_4 : Int32) =>
 rec_3 (v1_1 + r_4) (v2_2 + (1 : Int32))))))) (0 : Int32) (0 : Int32))
def f_X11_swaps (v1 : Int32) (v2 : Int32) (σ : kk_St) (Q : Int32 → kk_St → Prop) : Prop :=
 (kk_lp3 (fun (rec_4 : Int32 → Int32 → kk_St → Prop) (v3_1 : Int32) (v4_2 : Int32) (σ_3 : kk_St) =>
 (((σ_3.1 0 2) ≤ v4_2 → Q v3_1 σ_3) ∧
 (¬ (σ_3.1 0 2) ≤ v4_2 → (vp_in v4_2 20 ∧
 (kk_j2 (fun (v3_5 : Int32) (σ_6 : kk_St) => rec_4 v3_5 (v4_2 + (1 : Int32)) σ_6)
 (fun (J_7 : Int32 → kk_St → Prop) => (kk_j1 (fun (v4_8 : Int32) => (vp_in v4_8 20 ∧
 (vp_in v4_8 20 ∧
 (∀ σ_10 : kk_St, σ_10 = (kk_wr σ_3 3 (Int32.toNatClampNeg v4_8) ((v1 + v2) - (kk_rd σ_3 3 v4_8))) → J_7 (v3_1 + (1 : Int32)) σ_10))))
 (fun (J_9 : Int32 → Prop) => (((kk_rd σ_3 3 v4_2) = v1 → J_9 v4_2) ∧
 (¬ (kk_rd σ_3 3 v4_2) = v1 → (vp_in v4_2 20 ∧
 (((kk_rd σ_3 3 v4_2) = v2 → J_9 v4_2) ∧
 (¬ (kk_rd σ_3 3 v4_2) = v2 → J_7 v3_1 σ_3))))))))))))) (0 : Int32) (0 : Int32) σ)
def f_X11_calmer (v1 : Int32) (σ : kk_St) (Q : Int32 → kk_St → Prop) : Prop :=
 (f_X11_in v1 (0 : Int32) (2 : Int32) (fun (r_1 : Int32) =>
 ((¬ r_1 = 0 → (f_X11_idleAll σ (fun (r_2 : Int32) =>
 (kk_lp5 (fun (rec_8 : Int32 → Int32 → Int32 → Int32 → kk_St → Prop) (v3_3 : Int32) (v4_4 : Int32) (v5_5 : Int32) (v6_6 : Int32) (σ_7 : kk_St) =>
 (f_X11_degree σ_7 (fun (r_9 : Int32) =>
 ((r_9 < v6_6 → (kk_j1 (fun (t_10 : Int32) => Q t_10 σ_7)
 (fun (J_11 : Int32 → Prop) => ((¬ v4_4 = (-1 : Int32) → ((¬ v1 = 0 → ((¬ v1 = (1 : Int32) → J_11 v5_5) ∧
 (v1 = (1 : Int32) → J_11 v4_4))) ∧
 (v1 = 0 → J_11 (r_2 - v3_3)))) ∧
 (v4_4 = (-1 : Int32) → J_11 (-2 : Int32)))))) ∧
 (¬ r_9 < v6_6 → (kk_lp5 (fun (rec_20 : Int32 → Int32 → Int32 → Int32 → kk_St → Prop) (v3_15 : Int32) (v4_16 : Int32) (v5_17 : Int32) (v7_18 : Int32) (σ_19 : kk_St) =>
 (f_X11_degree σ_19 (fun (r_21 : Int32) =>
 ((r_21 < v7_18 → rec_8 v3_15 v4_16 v5_17 (v6_6 + (1 : Int32)) σ_19) ∧
 (¬ r_21 < v7_18 → (f_X11_swaps v6_6 v7_18 σ_19 (fun (r_22 : Int32) (σ_23 : kk_St) =>
 (f_X11_idleAll σ_23 (fun (r_24 : Int32) =>
 (f_X11_swaps v6_6 v7_18 σ_23 (fun (r_25 : Int32) (σ_26 : kk_St) =>
 (kk_j3 (fun (v3_27 : Int32) (v4_28 : Int32) (v5_29 : Int32) => rec_20 v3_27 v4_28 v5_29 (v7_18 + (1 : Int32)) σ_26)
 (fun (J_30 : Int32 → Int32 → Int32 → Prop) => ((¬ (r_22 - r_25) = 0 → J_30 v3_15 v4_16 v5_17) ∧
 ((r_22 - r_25) = 0 → ((r_24 < v3_15 → J_30 r_24 v6_6 v7_18) ∧
 (¬ r_24 < v3_15 → J_30 v3_15 v4_16 v5_17))))))))))))))))) v3_3 v4_4 v5_5 (v6_6 + (1 : Int32)) σ_7)))))) r_2 (-1 : Int32) (-1 : Int32) (0 : Int32) σ)))) ∧
 (r_1 = 0 → Q (-1 : Int32) σ))))
def f_X11_waysOf (v1 : Int32) (σ : kk_St) (Q : Int32 → Prop) : Prop :=
 (vp_in v1 20 ∧
 (vp_in v1 20 ∧
 (vp_in (kk_rd σ 1 v1) 9 ∧
 (vp_in v1 20 ∧
 (vp_in (kk_rd σ 2 v1) 9 ∧
 Q (((kk_rd σ 10 v1) &&& ((kk_rd σ 12 (kk_rd σ 1 v1)) ^^^ (-1 : Int32))) &&& ((kk_rd σ 12 (kk_rd σ 2 v1)) ^^^ (-1 : Int32))))))))
def f_X11_canBeAt (v1 : Int32) (v2 : Int32) (σ : kk_St) (Q : Int32 → Prop) : Prop :=
 (kk_lp3 (fun (rec_4 : Int32 → Int32 → Int32 → Prop) (v3_1 : Int32) (v4_2 : Int32) (v5_3 : Int32) =>
 (((σ.1 0 2) ≤ v5_3 → (f_X11_bitsOf v4_2 (fun (r_5 : Int32) =>
 (kk_j1 (fun (t_6 : Int32) => ((t_6 = 0 ∨ t_6 = 1) ∧ Q t_6))
 (fun (J_7 : Int32 → Prop) => ((r_5 < v3_1 → J_7 (0 : Int32)) ∧
 (¬ r_5 < v3_1 → J_7 (1 : Int32)))))))) ∧
 (¬ (σ.1 0 2) ≤ v5_3 → (f_X11_has v2 v5_3 (fun (r_9 : Int32) =>
 (kk_j2 (fun (v3_10 : Int32) (v4_11 : Int32) => rec_4 v3_10 v4_11 (v5_3 + (1 : Int32)))
 (fun (J_12 : Int32 → Int32 → Prop) => ((r_9 = 0 → J_12 v3_1 v4_2) ∧
 (¬ r_9 = 0 → (vp_in v5_3 20 ∧
 ((0 ≤ (kk_rd σ 11 v5_3) → J_12 v3_1 v4_2) ∧
 (¬ 0 ≤ (kk_rd σ 11 v5_3) → (f_X11_isAt v5_3 v1 σ (fun (r_13 : Int32) =>
 ((¬ r_13 = 0 → (f_X11_waysOf v5_3 σ (fun (r_14 : Int32) =>
 J_12 (v3_1 + (1 : Int32)) (v4_2 ||| r_14)))) ∧
 (r_13 = 0 → J_12 v3_1 v4_2)))))))))))))))) (0 : Int32) (0 : Int32) (0 : Int32))
def f_X11_canBeEnough (v1 : Int32) (σ : kk_St) (Q : Int32 → Prop) : Prop :=
 (kk_lp1 (fun (rec_2 : Int32 → Prop) (v2_1 : Int32) =>
 (((σ.1 0 1) ≤ v2_1 → (kk_lp1 (fun (rec_4 : Int32 → Prop) (v2_3 : Int32) =>
 (((σ.1 0 23) ≤ v2_3 → Q (1 : Int32)) ∧
 (¬ (σ.1 0 23) ≤ v2_3 → (kk_lp4 (fun (rec_9 : Int32 → Int32 → Int32 → Int32 → Prop) (v3_5 : Int32) (v4_6 : Int32) (v5_7 : Int32) (v6_8 : Int32) =>
 (((σ.1 0 2) ≤ v6_8 → (kk_lp2 (fun (rec_12 : Int32 → Int32 → Prop) (v6_10 : Int32) (v7_11 : Int32) =>
 (((9 : Int32) ≤ v7_11 → ((v3_5 ≤ v6_10 → rec_4 (v2_3 + (1 : Int32))) ∧
 (¬ v3_5 ≤ v6_10 → Q (0 : Int32)))) ∧
 (¬ (9 : Int32) ≤ v7_11 → (kk_lp2 (fun (rec_16 : Int32 → Int32 → Prop) (v8_14 : Int32) (v9_15 : Int32) =>
 (((σ.1 0 1) ≤ v9_15 → (∀ v6_17 : Int32, v6_17 = (v6_10 + (v8_14 / (2 : Int32))) → rec_12 v6_17 (v7_11 + (1 : Int32)))) ∧
 (¬ (σ.1 0 1) ≤ v9_15 → (f_X11_has v4_6 v9_15 (fun (r_18 : Int32) =>
 (kk_j1 (fun (v8_19 : Int32) => rec_16 v8_19 (v9_15 + (1 : Int32)))
 (fun (J_20 : Int32 → Prop) => ((r_18 = 0 → J_20 v8_14) ∧
 (¬ r_18 = 0 → (vp_in v9_15 9 ∧
 (f_X11_has (v5_7 &&& ((kk_rd σ 12 v9_15) ^^^ (-1 : Int32))) v7_11 (fun (r_21 : Int32) =>
 ((r_21 = 0 → J_20 v8_14) ∧
 (¬ r_21 = 0 → J_20 (v8_14 + (1 : Int32)))))))))))))))) (0 : Int32) (0 : Int32))))) (0 : Int32) (0 : Int32))) ∧
 (¬ (σ.1 0 2) ≤ v6_8 → (f_X11_has v1 v6_8 (fun (r_26 : Int32) =>
 (kk_j3 (fun (v3_27 : Int32) (v4_28 : Int32) (v5_29 : Int32) => rec_9 v3_27 v4_28 v5_29 (v6_8 + (1 : Int32)))
 (fun (J_30 : Int32 → Int32 → Int32 → Prop) => ((r_26 = 0 → J_30 v3_5 v4_6 v5_7) ∧
 (¬ r_26 = 0 → (vp_in v6_8 20 ∧
 ((0 ≤ (kk_rd σ 11 v6_8) → J_30 v3_5 v4_6 v5_7) ∧
 (¬ 0 ≤ (kk_rd σ 11 v6_8) → (vp_in v2_3 9 ∧
 (vp_in v6_8 20 ∧
 (f_X11_has (kk_rd σ 15 v2_3) (kk_rd σ 1 v6_8) (fun (r_31 : Int32) =>
 ((¬ r_31 = 0 → (vp_in v6_8 20 ∧
 (vp_in v6_8 20 ∧
 (∀ v4_32 : Int32, v4_32 = (v4_6 ||| (((1 : Int32) <<< ((kk_rd σ 1 v6_8) &&& 31)) ||| ((1 : Int32) <<< ((kk_rd σ 2 v6_8) &&& 31)))) → (vp_in v6_8 20 ∧
 (∀ v5_33 : Int32, v5_33 = (v5_7 ||| (kk_rd σ 10 v6_8)) → J_30 (v3_5 + (1 : Int32)) v4_32 v5_33)))))) ∧
 (r_31 = 0 → J_30 v3_5 v4_6 v5_7)))))))))))))))))) (0 : Int32) (0 : Int32) (0 : Int32) (0 : Int32))))) (0 : Int32))) ∧
 (¬ (σ.1 0 1) ≤ v2_1 → (f_X11_canBeAt v2_1 v1 σ (fun (r_39 : Int32) =>
 ((¬ r_39 = 0 → rec_2 (v2_1 + (1 : Int32))) ∧
 (r_39 = 0 → Q (0 : Int32)))))))) (0 : Int32))
def f_X11_doMeet (v1 : Int32) (v2 : Int32) (σ : kk_St) (Q : Int32 → Prop) : Prop :=
 (vp_in v2 20 ∧
 (f_X11_isAt v1 (kk_rd σ 1 v2) σ (fun (r_1 : Int32) =>
 (kk_j1 (fun (t_2 : Int32) => ((t_2 = 0 ∨ t_2 = 1) ∧ Q t_2))
 (fun (J_3 : Int32 → Prop) => (kk_j0 (J_3 (1 : Int32))
 (fun (J_4 : Prop) => ((¬ r_1 = 0 → J_4) ∧
 (r_1 = 0 → (vp_in v2 20 ∧
 (f_X11_isAt v1 (kk_rd σ 2 v2) σ (fun (r_5 : Int32) =>
 ((r_5 = 0 → J_3 (0 : Int32)) ∧
 (¬ r_5 = 0 → J_4))))))))))))))
def f_X11_canBePart (v1 : Int32) (σ : kk_St) (Q : Int32 → Prop) : Prop :=
 (kk_lp1 (fun (rec_2 : Int32 → Prop) (v2_1 : Int32) =>
 ((v1 ≤ v2_1 → Q (1 : Int32)) ∧
 (¬ v1 ≤ v2_1 → (vp_in v2_1 10 ∧
 (vp_in v1 10 ∧
 (kk_j0 (rec_2 (v2_1 + (1 : Int32)))
 (fun (J_3 : Prop) => ((¬ (kk_rd σ 16 v2_1) = (kk_rd σ 16 v1) → J_3) ∧
 ((kk_rd σ 16 v2_1) = (kk_rd σ 16 v1) → (f_X11_doMeet v1 v2_1 σ (fun (r_4 : Int32) =>
 ((r_4 = 0 → J_3) ∧
 (¬ r_4 = 0 → Q (0 : Int32)))))))))))))) (0 : Int32))
def f_X11_fewestWays (v1 : Int32) (σ : kk_St) (Q : Int32 → Prop) : Prop :=
 (kk_lp2 (fun (rec_3 : Int32 → Int32 → Prop) (v2_1 : Int32) (v3_2 : Int32) =>
 (((σ.1 0 2) ≤ v3_2 → Q v2_1) ∧
 (¬ (σ.1 0 2) ≤ v3_2 → (f_X11_has v1 v3_2 (fun (r_4 : Int32) =>
 (kk_j1 (fun (v2_5 : Int32) => rec_3 v2_5 (v3_2 + (1 : Int32)))
 (fun (J_6 : Int32 → Prop) => ((r_4 = 0 → J_6 v2_1) ∧
 (¬ r_4 = 0 → (vp_in v3_2 20 ∧
 (((kk_rd σ 11 v3_2) < 0 → (kk_j1 (fun (v3_7 : Int32) => J_6 v3_7)
 (fun (J_8 : Int32 → Prop) => ((v2_1 = (-1 : Int32) → J_8 v3_2) ∧
 (¬ v2_1 = (-1 : Int32) → (f_X11_waysOf v3_2 σ (fun (r_9 : Int32) =>
 (f_X11_bitsOf r_9 (fun (r_10 : Int32) =>
 (f_X11_waysOf v2_1 σ (fun (r_11 : Int32) =>
 (f_X11_bitsOf r_11 (fun (r_12 : Int32) =>
 ((r_12 ≤ r_10 → J_6 v2_1) ∧
 (¬ r_12 ≤ r_10 → J_8 v3_2))))))))))))))) ∧
 (¬ (kk_rd σ 11 v3_2) < 0 → J_6 v2_1)))))))))))) (-1 : Int32) (0 : Int32))
def f_X11_laysParts (v1 : Int32) (σ : kk_St) (Q : kk_St → Prop) : Prop :=
 (∀ σ_1 : kk_St, σ_1 = (kk_wr σ 0 23 (0 : Int32)) → (kk_lp3 (fun (rec_5 : Int32 → Int32 → kk_St → Prop) (v2_2 : Int32) (v3_3 : Int32) (σ_4 : kk_St) =>
 (((σ_4.1 0 1) ≤ v3_3 → Q σ_4) ∧
 (¬ (σ_4.1 0 1) ≤ v3_3 → (f_X11_has v2_2 v3_3 (fun (r_6 : Int32) =>
 (kk_j2 (fun (v2_7 : Int32) (σ_8 : kk_St) => rec_5 v2_7 (v3_3 + (1 : Int32)) σ_8)
 (fun (J_9 : Int32 → kk_St → Prop) => ((r_6 = 0 → (∀ v4_10 : Int32, v4_10 = ((1 : Int32) <<< (v3_3 &&& 31)) → (kk_lp2 (fun (rec_13 : Int32 → Int32 → Prop) (v4_11 : Int32) (v5_12 : Int32) =>
 ((v5_12 = v4_11 → (vp_in (σ_4.1 0 23) 9 ∧
 (∀ σ_14 : kk_St, σ_14 = (kk_wr σ_4 15 (Int32.toNatClampNeg (σ_4.1 0 23)) v4_11) → (∀ σ_15 : kk_St, σ_15 = (kk_wr σ_14 0 23 ((σ_14.1 0 23) + (1 : Int32))) → J_9 (v2_2 ||| v4_11) σ_15)))) ∧
 (¬ v5_12 = v4_11 → (kk_lp2 (fun (rec_18 : Int32 → Int32 → Prop) (v4_16 : Int32) (v6_17 : Int32) =>
 (((σ_4.1 0 2) ≤ v6_17 → rec_13 v4_16 v4_11) ∧
 (¬ (σ_4.1 0 2) ≤ v6_17 → (f_X11_has v1 v6_17 (fun (r_19 : Int32) =>
 (kk_j1 (fun (v4_20 : Int32) => rec_18 v4_20 (v6_17 + (1 : Int32)))
 (fun (J_21 : Int32 → Prop) => ((¬ r_19 = 0 → (vp_in v6_17 20 ∧
 (vp_in v6_17 20 ∧
 (∀ v7_22 : Int32, v7_22 = (((1 : Int32) <<< ((kk_rd σ_4 1 v6_17) &&& 31)) ||| ((1 : Int32) <<< ((kk_rd σ_4 2 v6_17) &&& 31))) → (((v4_16 &&& v7_22) = 0 → J_21 v4_16) ∧
 (¬ (v4_16 &&& v7_22) = 0 → J_21 (v4_16 ||| v7_22))))))) ∧
 (r_19 = 0 → J_21 v4_16))))))))) v4_11 (0 : Int32))))) v4_10 (0 : Int32)))) ∧
 (¬ r_6 = 0 → J_9 v2_2 σ_4))))))))) (0 : Int32) (0 : Int32) σ_1))
def f_X11_picks (v1 : Int32) (v2 : Int32) (σ : kk_St) (Q : kk_St → Prop) : Prop :=
 (vp_in v1 20 ∧
 (vp_in (kk_rd σ 1 v1) 9 ∧
 (vp_in (kk_rd σ 1 v1) 9 ∧
 (∀ σ_1 : kk_St, σ_1 = (kk_wr σ 12 (Int32.toNatClampNeg (kk_rd σ 1 v1)) ((kk_rd σ 12 (kk_rd σ 1 v1)) ^^^ ((1 : Int32) <<< (v2 &&& 31)))) → (vp_in v1 20 ∧
 (vp_in (kk_rd σ_1 2 v1) 9 ∧
 (vp_in (kk_rd σ_1 2 v1) 9 ∧
 (∀ σ_2 : kk_St, σ_2 = (kk_wr σ_1 12 (Int32.toNatClampNeg (kk_rd σ_1 2 v1)) ((kk_rd σ_1 12 (kk_rd σ_1 2 v1)) ^^^ ((1 : Int32) <<< (v2 &&& 31)))) → Q σ_2))))))))
def f_X11_triesOf (v1 : Int32) (σ : kk_St) (Q : Int32 → Prop) : Prop :=
 (f_X11_waysOf v1 σ (fun (r_1 : Int32) =>
 ((¬ (σ.1 0 17) = 0 → (kk_lp2 (fun (rec_4 : Int32 → Int32 → Prop) (v3_2 : Int32) (v4_3 : Int32) =>
 (((σ.1 0 1) ≤ v4_3 → (∀ v4_5 : Int32, v4_5 = (r_1 &&& (v3_2 ^^^ (-1 : Int32))) → Q ((r_1 &&& v3_2) ||| (v4_5 &&& (-v4_5))))) ∧
 (¬ (σ.1 0 1) ≤ v4_3 → (vp_in v4_3 9 ∧
 (∀ v3_6 : Int32, v3_6 = (v3_2 ||| (kk_rd σ 12 v4_3)) → rec_4 v3_6 (v4_3 + (1 : Int32))))))) (0 : Int32) (0 : Int32))) ∧
 ((σ.1 0 17) = 0 → Q r_1))))
def f_X11_canGoOn (v1 : Int32) (σ : kk_St) (Q : Int32 → kk_St → Prop) : Prop :=
 (kk_lp2 (fun (rec_3 : Int32 → kk_St → Prop) (v2_1 : Int32) (σ_2 : kk_St) =>
 (((9 : Int32) ≤ v2_1 → (kk_lp3 (fun (rec_7 : Int32 → Int32 → kk_St → Prop) (v2_4 : Int32) (v3_5 : Int32) (σ_6 : kk_St) =>
 (((σ_6.1 0 2) ≤ v3_5 → (f_X11_laysParts v1 σ_6 (fun (σ_8 : kk_St) =>
 (f_X11_fewestWays v1 σ_8 (fun (r_9 : Int32) =>
 (kk_j1 (fun (t_10 : Int32) => (kk_j0 ((kk_j1 (fun (σ_13 : kk_St) => (kk_j2 (fun (v5_15 : Int32) (σ_16 : kk_St) => (kk_lp2 (fun (rec_20 : Int32 → kk_St → Prop) (v6_18 : Int32) (σ_19 : kk_St) =>
 (((σ_19.1 0 2) ≤ v6_18 → ((v5_15 = 0 ∨ v5_15 = 1) ∧ Q v5_15 σ_19)) ∧
 (¬ (σ_19.1 0 2) ≤ v6_18 → (f_X11_has v2_4 v6_18 (fun (r_21 : Int32) =>
 (kk_j1 (fun (σ_22 : kk_St) => rec_20 (v6_18 + (1 : Int32)) σ_22)
 (fun (J_23 : kk_St → Prop) => ((¬ r_21 = 0 → J_23 σ_19) ∧
 (r_21 = 0 → (vp_in v6_18 20 ∧
 (∀ σ_24 : kk_St, σ_24 = (kk_wr σ_19 11 (Int32.toNatClampNeg v6_18) (-1 : Int32)) → J_23 σ_24))))))))))) (0 : Int32) σ_16))
 (fun (J_17 : Int32 → kk_St → Prop) => (kk_lp3 (fun (rec_30 : Int32 → Int32 → kk_St → Prop) (v3_27 : Int32) (v5_28 : Int32) (σ_29 : kk_St) =>
 ((¬ v5_28 = 0 → J_17 v5_28 σ_29) ∧
 (v5_28 = 0 → ((v3_27 < 0 → J_17 v5_28 σ_29) ∧
 (¬ v3_27 < 0 → (vp_in v3_27 20 ∧
 (vp_in (kk_rd σ_29 13 v3_27) 20 ∧
 (kk_j1 (fun (σ_31 : kk_St) => (vp_in (kk_rd σ_29 13 v3_27) 20 ∧
 (∀ σ_33 : kk_St, σ_33 = (kk_wr σ_31 11 (Int32.toNatClampNeg (kk_rd σ_29 13 v3_27)) (-1 : Int32)) → (vp_in v3_27 20 ∧
 ((¬ (kk_rd σ_33 14 v3_27) = 0 → (vp_in v3_27 20 ∧
 (f_X11_lowestOf (kk_rd σ_33 14 v3_27) (fun (r_34 : Int32) =>
 (vp_in (kk_rd σ_29 13 v3_27) 20 ∧
 (∀ σ_35 : kk_St, σ_35 = (kk_wr σ_33 11 (Int32.toNatClampNeg (kk_rd σ_29 13 v3_27)) r_34) → (vp_in v3_27 20 ∧
 (vp_in v3_27 20 ∧
 (vp_in v3_27 20 ∧
 (∀ σ_36 : kk_St, σ_36 = (kk_wr σ_35 14 (Int32.toNatClampNeg v3_27) ((kk_rd σ_35 14 v3_27) &&& ((kk_rd σ_35 14 v3_27) - (1 : Int32)))) → (vp_in (kk_rd σ_29 13 v3_27) 20 ∧
 (f_X11_picks (kk_rd σ_29 13 v3_27) (kk_rd σ_36 11 (kk_rd σ_29 13 v3_27)) σ_36 (fun (σ_37 : kk_St) =>
 (f_X11_fewestWays v1 σ_37 (fun (r_38 : Int32) =>
 (kk_j1 (fun (t_39 : Int32) => ((¬ t_39 = 0 → rec_30 v3_27 t_39 σ_37) ∧
 (t_39 = 0 → (f_X11_waysOf r_38 σ_37 (fun (r_41 : Int32) =>
 ((r_41 = 0 → rec_30 v3_27 t_39 σ_37) ∧
 (¬ r_41 = 0 → (f_X11_canBeEnough v1 σ_37 (fun (r_42 : Int32) =>
 ((¬ r_42 = 0 → (vp_in (v3_27 + (1 : Int32)) 20 ∧
 (∀ σ_43 : kk_St, σ_43 = (kk_wr σ_37 13 (Int32.toNatClampNeg (v3_27 + (1 : Int32))) r_38) → (f_X11_triesOf r_38 σ_43 (fun (r_44 : Int32) =>
 (vp_in (v3_27 + (1 : Int32)) 20 ∧
 (∀ σ_45 : kk_St, σ_45 = (kk_wr σ_43 14 (Int32.toNatClampNeg (v3_27 + (1 : Int32))) r_44) → rec_30 (v3_27 + (1 : Int32)) t_39 σ_45))))))) ∧
 (r_42 = 0 → rec_30 v3_27 t_39 σ_37)))))))))))
 (fun (J_40 : Int32 → Prop) => ((¬ r_38 = (-1 : Int32) → J_40 (0 : Int32)) ∧
 (r_38 = (-1 : Int32) → J_40 (1 : Int32)))))))))))))))))))) ∧
 ((kk_rd σ_33 14 v3_27) = 0 → rec_30 (v3_27 + (-1 : Int32)) v5_28 σ_33))))))
 (fun (J_32 : kk_St → Prop) => (((kk_rd σ_29 11 (kk_rd σ_29 13 v3_27)) < 0 → J_32 σ_29) ∧
 (¬ (kk_rd σ_29 11 (kk_rd σ_29 13 v3_27)) < 0 → (vp_in (kk_rd σ_29 13 v3_27) 20 ∧
 (f_X11_picks (kk_rd σ_29 13 v3_27) (kk_rd σ_29 11 (kk_rd σ_29 13 v3_27)) σ_29 (fun (σ_51 : kk_St) =>
 J_32 σ_51)))))))))))))) (0 : Int32) t_10 σ_13))))
 (fun (J_14 : kk_St → Prop) => ((¬ t_10 = 0 → J_14 σ_8) ∧
 (t_10 = 0 → (vp_in (0 : Int32) 20 ∧
 (∀ σ_55 : kk_St, σ_55 = (kk_wr σ_8 13 (Int32.toNatClampNeg (0 : Int32)) r_9) → (f_X11_triesOf r_9 σ_55 (fun (r_56 : Int32) =>
 (vp_in (0 : Int32) 20 ∧
 (∀ σ_57 : kk_St, σ_57 = (kk_wr σ_55 14 (Int32.toNatClampNeg (0 : Int32)) r_56) → J_14 σ_57)))))))))))
 (fun (J_12 : Prop) => ((¬ t_10 = 0 → J_12) ∧
 (t_10 = 0 → (f_X11_canBeEnough v1 σ_8 (fun (r_59 : Int32) =>
 ((¬ r_59 = 0 → J_12) ∧
 (r_59 = 0 → Q (0 : Int32) σ_8)))))))))
 (fun (J_11 : Int32 → Prop) => ((¬ r_9 = (-1 : Int32) → J_11 (0 : Int32)) ∧
 (r_9 = (-1 : Int32) → J_11 (1 : Int32)))))))))) ∧
 (¬ (σ_6.1 0 2) ≤ v3_5 → (f_X11_has v1 v3_5 (fun (r_63 : Int32) =>
 (kk_j2 (fun (v2_64 : Int32) (σ_65 : kk_St) => rec_7 v2_64 (v3_5 + (1 : Int32)) σ_65)
 (fun (J_66 : Int32 → kk_St → Prop) => ((r_63 = 0 → J_66 v2_4 σ_6) ∧
 (¬ r_63 = 0 → (vp_in v3_5 20 ∧
 ((0 ≤ (kk_rd σ_6 11 v3_5) → (f_X11_waysOf v3_5 σ_6 (fun (r_67 : Int32) =>
 (vp_in v3_5 20 ∧
 (f_X11_has r_67 (kk_rd σ_6 11 v3_5) (fun (r_68 : Int32) =>
 ((¬ r_68 = 0 → (vp_in v3_5 20 ∧
 (f_X11_picks v3_5 (kk_rd σ_6 11 v3_5) σ_6 (fun (σ_69 : kk_St) =>
 (∀ v2_70 : Int32, v2_70 = (v2_4 ||| ((1 : Int32) <<< (v3_5 &&& 31))) → J_66 v2_70 σ_69))))) ∧
 (r_68 = 0 → Q (0 : Int32) σ_6)))))))) ∧
 (¬ 0 ≤ (kk_rd σ_6 11 v3_5) → J_66 v2_4 σ_6)))))))))))) (0 : Int32) (0 : Int32) σ_2)) ∧
 (¬ (9 : Int32) ≤ v2_1 → (vp_in v2_1 9 ∧
 (∀ σ_75 : kk_St, σ_75 = (kk_wr σ_2 12 (Int32.toNatClampNeg v2_1) (0 : Int32)) → rec_3 (v2_1 + (1 : Int32)) σ_75))))) (0 : Int32) σ)
def f_X11_chainIn (a1 : Nat) (n1 : Nat) (v2 : Int32) (v3 : Int32) (v4 : Int32) (σ : kk_St) (Q : Int32 → kk_St → Prop) : Prop :=
 (∀ σ_1 : kk_St, σ_1 = (kk_wr σ 0 9 ((1 : Int32) <<< (v2 &&& 31))) → (kk_lp3 (fun (rec_5 : Int32 → Int32 → kk_St → Prop) (v5_2 : Int32) (v6_3 : Int32) (σ_4 : kk_St) =>
 ((v6_3 = v5_2 → Q v5_2 σ_4) ∧
 (¬ v6_3 = v5_2 → (kk_lp3 (fun (rec_9 : Int32 → Int32 → kk_St → Prop) (v5_6 : Int32) (v7_7 : Int32) (σ_8 : kk_St) =>
 (((σ_8.1 0 2) ≤ v7_7 → rec_5 v5_6 v5_2 σ_8) ∧
 (¬ (σ_8.1 0 2) ≤ v7_7 → (vp_in v7_7 n1 ∧
 (kk_j2 (fun (v5_10 : Int32) (σ_11 : kk_St) => rec_9 v5_10 (v7_7 + (1 : Int32)) σ_11)
 (fun (J_12 : Int32 → kk_St → Prop) => (kk_j2 (fun (v6_13 : Int32) (v7_14 : Int32) => (vp_in v7_14 20 ∧
 (f_X11_has (σ_8.1 0 9) (kk_rd σ_8 1 v7_14) (fun (r_16 : Int32) =>
 (kk_j2 (fun (v6_17 : Int32) (v7_18 : Int32) => (∀ v5_20 : Int32, v5_20 = (v5_6 ||| ((1 : Int32) <<< (v7_18 &&& 31))) → (vp_in v7_18 20 ∧
 (vp_in v7_18 20 ∧
 (∀ σ_21 : kk_St, σ_21 = (kk_wr σ_8 0 9 ((σ_8.1 0 9) ||| (((1 : Int32) <<< ((kk_rd σ_8 1 v7_18) &&& 31)) ||| ((1 : Int32) <<< ((kk_rd σ_8 2 v7_18) &&& 31))))) → J_12 v5_20 σ_21)))))
 (fun (J_19 : Int32 → Int32 → Prop) => ((¬ r_16 = 0 → J_19 v6_13 v7_14) ∧
 (r_16 = 0 → (vp_in v7_14 20 ∧
 (f_X11_has (σ_8.1 0 9) (kk_rd σ_8 2 v7_14) (fun (r_22 : Int32) =>
 ((¬ r_22 = 0 → J_19 v6_13 v7_14) ∧
 (r_22 = 0 → J_12 v5_6 σ_8)))))))))))))
 (fun (J_15 : Int32 → Int32 → Prop) => (((kk_rd σ_8 a1 v7_7) = v3 → J_15 v5_2 v7_7) ∧
 (¬ (kk_rd σ_8 a1 v7_7) = v3 → (vp_in v7_7 n1 ∧
 ((¬ (kk_rd σ_8 a1 v7_7) = v4 → J_12 v5_6 σ_8) ∧
 ((kk_rd σ_8 a1 v7_7) = v4 → J_15 v5_2 v7_7))))))))))))) v5_2 (0 : Int32) σ_4)))) (0 : Int32) (-1 : Int32) σ_1))
def f_X11_isPost (v1 : Int32) (σ : kk_St) (Q : Int32 → Prop) : Prop :=
 (f_X11_in v1 (0 : Int32) ((σ.1 0 1) - (1 : Int32)) (fun (r_1 : Int32) =>
 ((r_1 = 0 ∨ r_1 = 1) ∧ Q r_1)))
def f_X11_isChain (v1 : Int32) (v2 : Int32) (v3 : Int32) (σ : kk_St) (Q : Int32 → Prop) : Prop :=
 (f_X11_isPost v1 σ (fun (r_1 : Int32) =>
 (kk_j1 (fun (t_2 : Int32) => ((t_2 = 0 ∨ t_2 = 1) ∧ Q t_2))
 (fun (J_3 : Int32 → Prop) => (kk_j0 (J_3 (0 : Int32))
 (fun (J_4 : Prop) => ((r_1 = 0 → J_4) ∧
 (¬ r_1 = 0 → (f_X11_areColours v2 v3 σ (fun (r_5 : Int32) =>
 ((r_5 = 0 → J_4) ∧
 (¬ r_5 = 0 → J_3 (1 : Int32)))))))))))))
def f_X11_chain (v1 : Int32) (v2 : Int32) (v3 : Int32) (v4 : Int32) (σ : kk_St) (Q : Int32 → kk_St → Prop) : Prop :=
 (f_X11_isChain v1 v2 v3 σ (fun (r_1 : Int32) =>
 ((¬ r_1 = 0 → (f_X11_chainIn 3 20 v1 v2 v3 σ (fun (r_2 : Int32) (σ_3 : kk_St) =>
 (f_X11_manyWith r_2 v2 σ_3 (fun (r_4 : Int32) =>
 (f_X11_manyWith r_2 v3 σ_3 (fun (r_5 : Int32) =>
 ((v4 = nI 0 → Q r_2 σ_3) ∧
 (v4 = nI 1 → Q (σ_3.1 0 9) σ_3) ∧
 (v4 = nI 2 → (kk_j1 (fun (t_6 : Int32) => Q t_6 σ_3)
 (fun (J_7 : Int32 → Prop) => (kk_j0 (J_7 (0 : Int32))
 (fun (J_8 : Prop) => ((r_2 = 0 → J_8) ∧
 (¬ r_2 = 0 → (f_X11_bitsOf r_2 (fun (r_9 : Int32) =>
 (f_X11_bitsOf (σ_3.1 0 9) (fun (r_10 : Int32) =>
 ((¬ r_9 = r_10 → J_8) ∧
 (r_9 = r_10 → J_7 (1 : Int32)))))))))))))) ∧
 (v4 = nI 3 → (kk_j1 (fun (t_13 : Int32) => Q t_13 σ_3)
 (fun (J_14 : Int32 → Prop) => ((r_4 ≤ r_5 → ((r_5 ≤ r_4 → J_14 (0 : Int32)) ∧
 (¬ r_5 ≤ r_4 → J_14 (-1 : Int32)))) ∧
 (¬ r_4 ≤ r_5 → J_14 (1 : Int32)))))) ∧
 (v4.toInt < 0 ∨ (4 : Int) ≤ v4.toInt → Q (-2 : Int32) σ_3))))))))) ∧
 (r_1 = 0 → Q (-1 : Int32) σ))))
def f_X11_chains (v1 : Int32) (v2 : Int32) (σ : kk_St) (Q : Int32 → kk_St → Prop) : Prop :=
 (f_X11_areColours v1 v2 σ (fun (r_1 : Int32) =>
 ((¬ r_1 = 0 → (kk_lp4 (fun (rec_6 : Int32 → Int32 → Int32 → kk_St → Prop) (v3_2 : Int32) (v4_3 : Int32) (v5_4 : Int32) (σ_5 : kk_St) =>
 (((σ_5.1 0 2) ≤ v5_4 → Q v4_3 σ_5) ∧
 (¬ (σ_5.1 0 2) ≤ v5_4 → (f_X11_has v3_2 v5_4 (fun (r_7 : Int32) =>
 (kk_j3 (fun (v3_8 : Int32) (v4_9 : Int32) (σ_10 : kk_St) => rec_6 v3_8 v4_9 (v5_4 + (1 : Int32)) σ_10)
 (fun (J_11 : Int32 → Int32 → kk_St → Prop) => ((¬ r_7 = 0 → J_11 v3_2 v4_3 σ_5) ∧
 (r_7 = 0 → (vp_in v5_4 20 ∧
 (kk_j1 (fun (v5_12 : Int32) => (vp_in v5_12 20 ∧
 (f_X11_chainIn 3 20 (kk_rd σ_5 1 v5_12) v1 v2 σ_5 (fun (r_14 : Int32) (σ_15 : kk_St) =>
 J_11 (v3_2 ||| r_14) (v4_3 + (1 : Int32)) σ_15))))
 (fun (J_13 : Int32 → Prop) => (((kk_rd σ_5 3 v5_4) = v1 → J_13 v5_4) ∧
 (¬ (kk_rd σ_5 3 v5_4) = v1 → (vp_in v5_4 20 ∧
 (((kk_rd σ_5 3 v5_4) = v2 → J_13 v5_4) ∧
 (¬ (kk_rd σ_5 3 v5_4) = v2 → J_11 v3_2 v4_3 σ_5))))))))))))))))) (0 : Int32) (0 : Int32) (0 : Int32) σ)) ∧
 (r_1 = 0 → Q (-1 : Int32) σ))))
def f_X11_lineWith (v1 : Int32) (v2 : Int32) (σ : kk_St) (Q : Int32 → Prop) : Prop :=
 (kk_lp1 (fun (rec_2 : Int32 → Prop) (v3_1 : Int32) =>
 (((σ.1 0 2) ≤ v3_1 → Q (-1 : Int32)) ∧
 (¬ (σ.1 0 2) ≤ v3_1 → (f_X11_isAt v3_1 v1 σ (fun (r_3 : Int32) =>
 (kk_j0 (rec_2 (v3_1 + (1 : Int32)))
 (fun (J_4 : Prop) => ((r_3 = 0 → J_4) ∧
 (¬ r_3 = 0 → (vp_in v3_1 20 ∧
 ((¬ (kk_rd σ 3 v3_1) = v2 → J_4) ∧
 ((kk_rd σ 3 v3_1) = v2 → Q v3_1)))))))))))) (0 : Int32))
def f_X11_clash (v1 : Int32) (v2 : Int32) (σ : kk_St) (Q : Int32 → Prop) : Prop :=
 (f_X11_isLine v1 σ (fun (r_1 : Int32) =>
 (kk_j0 (Q (-1 : Int32))
 (fun (J_2 : Prop) => ((r_1 = 0 → J_2) ∧
 (¬ r_1 = 0 → (f_X11_isColour v2 σ (fun (r_3 : Int32) =>
 ((¬ r_3 = 0 → (vp_in v1 20 ∧
 ((¬ (kk_rd σ 3 v1) = v2 → (vp_in v1 20 ∧
 (f_X11_lineWith (kk_rd σ 1 v1) v2 σ (fun (r_4 : Int32) =>
 ((r_4 = (-1 : Int32) → (vp_in v1 20 ∧
 (f_X11_lineWith (kk_rd σ 2 v1) v2 σ (fun (r_5 : Int32) =>
 (kk_j1 (fun (t_6 : Int32) => Q t_6)
 (fun (J_7 : Int32 → Prop) => ((r_5 = (-1 : Int32) → J_7 (-2 : Int32)) ∧
 (¬ r_5 = (-1 : Int32) → J_7 r_5)))))))) ∧
 (¬ r_4 = (-1 : Int32) → Q r_4)))))) ∧
 ((kk_rd σ 3 v1) = v2 → Q v1)))) ∧
 (r_3 = 0 → J_2))))))))))
def f_X11_codeOf (a1 : Nat) (n1 : Nat) (v2 : Int32) (σ : kk_St) (Q : Int32 → Prop) : Prop :=
 (kk_lp2 (fun (rec_3 : Int32 → Int32 → Prop) (v3_1 : Int32) (v4_2 : Int32) =>
 ((v4_2 < 0 → Q v3_1) ∧
 (¬ v4_2 < 0 → (vp_in v4_2 n1 ∧
 (∀ v3_4 : Int32, v3_4 = ((v2 * v3_1) + (kk_rd σ a1 v4_2)) → rec_3 v3_4 (v4_2 + (-1 : Int32))))))) (0 : Int32) ((σ.1 0 2) - (1 : Int32)))
def f_X11_codes (v1 : Int32) (σ : kk_St) (Q : Int32 → Prop) : Prop :=
 (kk_lp2 (fun (rec_3 : Int32 → Int32 → Prop) (v2_1 : Int32) (v3_2 : Int32) =>
 (((σ.1 0 2) ≤ v3_2 → Q v2_1) ∧
 (¬ (σ.1 0 2) ≤ v3_2 → rec_3 (v2_1 * v1) (v3_2 + (1 : Int32))))) (1 : Int32) (0 : Int32))
def f_X11_isFreeAt (v1 : Int32) (v2 : Int32) (σ : kk_St) (Q : Int32 → Prop) : Prop :=
 (f_X11_lineWith v1 v2 σ (fun (r_1 : Int32) =>
 (kk_j1 (fun (t_2 : Int32) => ((t_2 = 0 ∨ t_2 = 1) ∧ Q t_2))
 (fun (J_3 : Int32 → Prop) => ((¬ r_1 = (-1 : Int32) → J_3 (0 : Int32)) ∧
 (r_1 = (-1 : Int32) → J_3 (1 : Int32)))))))
def f_X11_colour (v1 : Int32) (v2 : Int32) (σ : kk_St) (Q : Int32 → Prop) : Prop :=
 (f_X11_isColour v1 σ (fun (r_1 : Int32) =>
 ((¬ r_1 = 0 → ((v2 = nI 0 → (f_X11_allLines σ (fun (r_2 : Int32) =>
 (f_X11_manyWith r_2 v1 σ (fun (r_3 : Int32) =>
 Q r_3))))) ∧
 (v2 = nI 1 → (kk_lp2 (fun (rec_6 : Int32 → Int32 → Prop) (v3_4 : Int32) (v4_5 : Int32) =>
 (((σ.1 0 2) ≤ v4_5 → Q v3_4) ∧
 (¬ (σ.1 0 2) ≤ v4_5 → (vp_in v4_5 20 ∧
 (kk_j1 (fun (v3_7 : Int32) => rec_6 v3_7 (v4_5 + (1 : Int32)))
 (fun (J_8 : Int32 → Prop) => ((¬ (kk_rd σ 3 v4_5) = v1 → J_8 v3_4) ∧
 ((kk_rd σ 3 v4_5) = v1 → (∀ v3_9 : Int32, v3_9 = (v3_4 ||| ((1 : Int32) <<< (v4_5 &&& 31))) → J_8 v3_9))))))))) (0 : Int32) (0 : Int32))) ∧
 (v2 = nI 2 → (kk_lp2 (fun (rec_14 : Int32 → Int32 → Prop) (v3_12 : Int32) (v4_13 : Int32) =>
 (((σ.1 0 1) ≤ v4_13 → Q v3_12) ∧
 (¬ (σ.1 0 1) ≤ v4_13 → (f_X11_isFreeAt v4_13 v1 σ (fun (r_15 : Int32) =>
 (kk_j1 (fun (v3_16 : Int32) => rec_14 v3_16 (v4_13 + (1 : Int32)))
 (fun (J_17 : Int32 → Prop) => ((r_15 = 0 → J_17 v3_12) ∧
 (¬ r_15 = 0 → (∀ v3_18 : Int32, v3_18 = (v3_12 ||| ((1 : Int32) <<< (v4_13 &&& 31))) → J_17 v3_18)))))))))) (0 : Int32) (0 : Int32))) ∧
 (v2.toInt < 0 ∨ (3 : Int) ≤ v2.toInt → Q (-1 : Int32)))) ∧
 (r_1 = 0 → Q (-1 : Int32)))))
def f_X11_free (v1 : Int32) (σ : kk_St) (Q : Int32 → Prop) : Prop :=
 (f_X11_isLine v1 σ (fun (r_1 : Int32) =>
 ((¬ r_1 = 0 → (f_X11_degree σ (fun (r_2 : Int32) =>
 (vp_in v1 20 ∧
 (f_X11_usedAt (kk_rd σ 1 v1) σ (fun (r_3 : Int32) =>
 (vp_in v1 20 ∧
 (f_X11_usedAt (kk_rd σ 2 v1) σ (fun (r_4 : Int32) =>
 Q (((((1 : Int32) <<< ((r_2 + (1 : Int32)) &&& 31)) - (1 : Int32)) &&& (r_3 ^^^ (-1 : Int32))) &&& (r_4 ^^^ (-1 : Int32)))))))))))) ∧
 (r_1 = 0 → Q (-1 : Int32)))))
def f_X11_easyMany (σ : kk_St) (Q : Int32 → Prop) : Prop :=
 (kk_lp2 (fun (rec_3 : Int32 → Int32 → Prop) (v1_1 : Int32) (v2_2 : Int32) =>
 (((σ.1 0 2) ≤ v2_2 → Q v1_1) ∧
 (¬ (σ.1 0 2) ≤ v2_2 → (vp_in v2_2 20 ∧
 (kk_j1 (fun (v1_4 : Int32) => rec_3 v1_4 (v2_2 + (1 : Int32)))
 (fun (J_5 : Int32 → Prop) => ((0 ≤ (kk_rd σ 3 v2_2) → J_5 v1_1) ∧
 (¬ 0 ≤ (kk_rd σ 3 v2_2) → (f_X11_degree σ (fun (r_6 : Int32) =>
 (f_X11_free v2_2 σ (fun (r_7 : Int32) =>
 ((((((1 : Int32) <<< (r_6 &&& 31)) - (1 : Int32)) &&& r_7) = 0 → J_5 v1_1) ∧
 (¬ ((((1 : Int32) <<< (r_6 &&& 31)) - (1 : Int32)) &&& r_7) = 0 → J_5 (v1_1 + (1 : Int32)))))))))))))))) (0 : Int32) (0 : Int32))
def f_X11_greatestUsed (σ : kk_St) (Q : Int32 → Prop) : Prop :=
 (kk_lp2 (fun (rec_3 : Int32 → Int32 → Prop) (v1_1 : Int32) (v2_2 : Int32) =>
 (((σ.1 0 2) ≤ v2_2 → Q v1_1) ∧
 (¬ (σ.1 0 2) ≤ v2_2 → (vp_in v2_2 20 ∧
 (kk_j1 (fun (v1_4 : Int32) => rec_3 v1_4 (v2_2 + (1 : Int32)))
 (fun (J_5 : Int32 → Prop) => (((kk_rd σ 3 v2_2) ≤ v1_1 → J_5 v1_1) ∧
 (¬ (kk_rd σ 3 v2_2) ≤ v1_1 → (vp_in v2_2 20 ∧
 J_5 (kk_rd σ 3 v2_2)))))))))) (-1 : Int32) (0 : Int32))
def f_X11_uneven (σ : kk_St) (Q : Int32 → Prop) : Prop :=
 (kk_lp3 (fun (rec_4 : Int32 → Int32 → Int32 → Prop) (v1_1 : Int32) (v2_2 : Int32) (v3_3 : Int32) =>
 (f_X11_greatestUsed σ (fun (r_5 : Int32) =>
 ((r_5 < v3_3 → (kk_j1 (fun (t_6 : Int32) => Q t_6)
 (fun (J_7 : Int32 → Prop) => ((¬ v1_1 = 0 → J_7 (v1_1 - v2_2)) ∧
 (v1_1 = 0 → J_7 (0 : Int32)))))) ∧
 (¬ r_5 < v3_3 → (f_X11_allLines σ (fun (r_9 : Int32) =>
 (f_X11_manyWith r_9 v3_3 σ (fun (r_10 : Int32) =>
 (kk_j2 (fun (v1_11 : Int32) (v2_12 : Int32) => rec_4 v1_11 v2_12 (v3_3 + (1 : Int32)))
 (fun (J_13 : Int32 → Int32 → Prop) => ((¬ r_10 = 0 → (kk_j1 (fun (v1_14 : Int32) => ((v2_2 ≤ r_10 → J_13 v1_14 v2_2) ∧
 (¬ v2_2 ≤ r_10 → J_13 v1_14 r_10)))
 (fun (J_15 : Int32 → Prop) => ((r_10 ≤ v1_1 → J_15 v1_1) ∧
 (¬ r_10 ≤ v1_1 → J_15 r_10))))) ∧
 (r_10 = 0 → J_13 v1_1 v2_2))))))))))))) (0 : Int32) (21 : Int32) (0 : Int32))
def f_X11_usedColours (σ : kk_St) (Q : Int32 → Prop) : Prop :=
 (kk_lp2 (fun (rec_3 : Int32 → Int32 → Prop) (v1_1 : Int32) (v2_2 : Int32) =>
 (f_X11_greatestUsed σ (fun (r_4 : Int32) =>
 ((r_4 < v2_2 → Q v1_1) ∧
 (¬ r_4 < v2_2 → (f_X11_allLines σ (fun (r_5 : Int32) =>
 (f_X11_manyWith r_5 v2_2 σ (fun (r_6 : Int32) =>
 (kk_j1 (fun (v1_7 : Int32) => rec_3 v1_7 (v2_2 + (1 : Int32)))
 (fun (J_8 : Int32 → Prop) => ((r_6 ≤ 0 → J_8 v1_1) ∧
 (¬ r_6 ≤ 0 → J_8 (v1_1 + (1 : Int32))))))))))))))) (0 : Int32) (0 : Int32))
def f_X11_count (v1 : Int32) (σ : kk_St) (Q : Int32 → Prop) : Prop :=
 ((v1 = nI 0 → Q (σ.1 0 1)) ∧
 (v1 = nI 1 → Q (σ.1 0 2)) ∧
 (v1 = nI 2 → (f_X11_degree σ (fun (r_1 : Int32) =>
 Q r_1))) ∧
 (v1 = nI 3 → (f_X11_bareMany σ (fun (r_2 : Int32) =>
 Q r_2))) ∧
 (v1 = nI 4 → (f_X11_usedColours σ (fun (r_3 : Int32) =>
 Q r_3))) ∧
 (v1 = nI 5 → (f_X11_uneven σ (fun (r_4 : Int32) =>
 Q r_4))) ∧
 (v1 = nI 6 → (kk_j1 (fun (t_5 : Int32) => Q t_5)
 (fun (J_6 : Int32 → Prop) => (((σ.1 0 8) = 0 → J_6 (0 : Int32)) ∧
 (¬ (σ.1 0 8) = 0 → J_6 (1 : Int32)))))) ∧
 (v1 = nI 7 → (f_X11_easyMany σ (fun (r_8 : Int32) =>
 Q r_8))) ∧
 (v1.toInt < 0 ∨ (8 : Int) ≤ v1.toInt → Q (-1 : Int32)))
def f_X11_picksFirst (v1 : Int32) (σ : kk_St) (Q : Int32 → kk_St → Prop) : Prop :=
 (kk_lp2 (fun (rec_3 : Int32 → kk_St → Prop) (v2_1 : Int32) (σ_2 : kk_St) =>
 (((20 : Int32) ≤ v2_1 → (f_X11_canGoOn v1 σ_2 (fun (r_4 : Int32) (σ_5 : kk_St) =>
 ((¬ r_4 = 0 → (kk_lp2 (fun (rec_8 : Int32 → kk_St → Prop) (v2_6 : Int32) (σ_7 : kk_St) =>
 (((σ_7.1 0 2) ≤ v2_6 → Q (1 : Int32) σ_7) ∧
 (¬ (σ_7.1 0 2) ≤ v2_6 → (f_X11_has v1 v2_6 (fun (r_9 : Int32) =>
 (kk_j1 (fun (σ_10 : kk_St) => rec_8 (v2_6 + (1 : Int32)) σ_10)
 (fun (J_11 : kk_St → Prop) => ((¬ r_9 = 0 → (vp_in v2_6 20 ∧
 (kk_lp3 (fun (rec_15 : Int32 → Int32 → kk_St → Prop) (v3_12 : Int32) (v4_13 : Int32) (σ_14 : kk_St) =>
 ((¬ v4_13 = 0 → J_11 σ_14) ∧
 (v4_13 = 0 → (f_X11_lowestOf v3_12 (fun (r_16 : Int32) =>
 (vp_in v2_6 20 ∧
 (∀ σ_17 : kk_St, σ_17 = (kk_wr σ_14 11 (Int32.toNatClampNeg v2_6) r_16) → (∀ v3_18 : Int32, v3_18 = (v3_12 &&& (v3_12 - (1 : Int32))) → (f_X11_canGoOn v1 σ_17 (fun (r_19 : Int32) (σ_20 : kk_St) =>
 rec_15 v3_18 r_19 σ_20)))))))))) (kk_rd σ_7 10 v2_6) (0 : Int32) σ_7))) ∧
 (r_9 = 0 → J_11 σ_7))))))))) (0 : Int32) σ_5)) ∧
 (r_4 = 0 → Q (0 : Int32) σ_5))))) ∧
 (¬ (20 : Int32) ≤ v2_1 → (vp_in v2_1 20 ∧
 (∀ σ_25 : kk_St, σ_25 = (kk_wr σ_2 11 (Int32.toNatClampNeg v2_1) (-1 : Int32)) → rec_3 (v2_1 + (1 : Int32)) σ_25))))) (0 : Int32) σ)
def f_X11_laysFirst (v1 : Int32) (v2 : Int32) (σ : kk_St) (Q : Int32 → kk_St → Prop) : Prop :=
 (f_X11_degreeOf v1 σ (fun (r_1 : Int32) =>
 ((r_1 ≤ v2 → (kk_lp2 (fun (rec_4 : Int32 → kk_St → Prop) (v3_2 : Int32) (σ_3 : kk_St) =>
 (((20 : Int32) ≤ v3_2 → (∀ σ_5 : kk_St, σ_5 = (kk_wr σ_3 0 17 (1 : Int32)) → (f_X11_picksFirst v1 σ_5 (fun (r_6 : Int32) (σ_7 : kk_St) =>
 ((r_6 = 0 ∨ r_6 = 1) ∧ Q r_6 σ_7))))) ∧
 (¬ (20 : Int32) ≤ v3_2 → (vp_in v3_2 20 ∧
 (∀ σ_8 : kk_St, σ_8 = (kk_wr σ_3 10 (Int32.toNatClampNeg v3_2) (((1 : Int32) <<< (v2 &&& 31)) - (1 : Int32))) → rec_4 (v3_2 + (1 : Int32)) σ_8))))) (0 : Int32) σ)) ∧
 (¬ r_1 ≤ v2 → Q (0 : Int32) σ))))
def f_X11_indexOf (v1 : Int32) (σ : kk_St) (Q : Int32 → kk_St → Prop) : Prop :=
 (f_X11_degreeOf v1 σ (fun (r_1 : Int32) =>
 (f_X11_laysFirst v1 r_1 σ (fun (r_2 : Int32) (σ_3 : kk_St) =>
 (kk_j1 (fun (t_4 : Int32) => Q t_4 σ_3)
 (fun (J_5 : Int32 → Prop) => ((r_2 = 0 → J_5 (r_1 + (1 : Int32))) ∧
 (¬ r_2 = 0 → J_5 r_1))))))))
def f_X11_index (σ : kk_St) (Q : Int32 → kk_St → Prop) : Prop :=
 (f_X11_allLines σ (fun (r_1 : Int32) =>
 (f_X11_indexOf r_1 σ (fun (r_2 : Int32) (σ_3 : kk_St) =>
 Q r_2 σ_3))))
def f_X11_critical (σ : kk_St) (Q : Int32 → kk_St → Prop) : Prop :=
 (f_X11_index σ (fun (r_1 : Int32) (σ_2 : kk_St) =>
 (kk_lp3 (fun (rec_6 : Int32 → Int32 → kk_St → Prop) (v2_3 : Int32) (v3_4 : Int32) (σ_5 : kk_St) =>
 (((σ_5.1 0 2) ≤ v3_4 → Q v2_3 σ_5) ∧
 (¬ (σ_5.1 0 2) ≤ v3_4 → (f_X11_allLines σ_5 (fun (r_7 : Int32) =>
 (f_X11_indexOf (r_7 &&& (((1 : Int32) <<< (v3_4 &&& 31)) ^^^ (-1 : Int32))) σ_5 (fun (r_8 : Int32) (σ_9 : kk_St) =>
 (kk_j1 (fun (v2_10 : Int32) => rec_6 v2_10 (v3_4 + (1 : Int32)) σ_9)
 (fun (J_11 : Int32 → Prop) => ((r_1 ≤ r_8 → J_11 v2_3) ∧
 (¬ r_1 ≤ r_8 → (∀ v2_12 : Int32, v2_12 = (v2_3 ||| ((1 : Int32) <<< (v3_4 &&& 31))) → J_11 v2_12)))))))))))) (0 : Int32) (0 : Int32) σ_2)))
def f_X11_flips (a0 : Nat) (n0 : Nat) (v1 : Int32) (v2 : Int32) (v3 : Int32) (σ : kk_St) (Q : kk_St → Prop) : Prop :=
 (kk_lp2 (fun (rec_3 : Int32 → kk_St → Prop) (v4_1 : Int32) (σ_2 : kk_St) =>
 (((20 : Int32) ≤ v4_1 → Q σ_2) ∧
 (¬ (20 : Int32) ≤ v4_1 → (f_X11_has v1 v4_1 (fun (r_4 : Int32) =>
 (kk_j1 (fun (σ_5 : kk_St) => rec_3 (v4_1 + (1 : Int32)) σ_5)
 (fun (J_6 : kk_St → Prop) => ((r_4 = 0 → J_6 σ_2) ∧
 (¬ r_4 = 0 → (vp_in v4_1 n0 ∧
 (vp_in v4_1 n0 ∧
 (∀ σ_7 : kk_St, σ_7 = (kk_wr σ_2 a0 (Int32.toNatClampNeg v4_1) ((v2 + v3) - (kk_rd σ_2 a0 v4_1))) → J_6 σ_7)))))))))))) (0 : Int32) σ)
def f_X11_longerChain (v1 : Int32) (v2 : Int32) (σ : kk_St) (Q : Int32 → kk_St → Prop) : Prop :=
 (kk_lp2 (fun (rec_3 : Int32 → kk_St → Prop) (v3_1 : Int32) (σ_2 : kk_St) =>
 (((σ_2.1 0 2) ≤ v3_1 → Q (0 : Int32) σ_2) ∧
 (¬ (σ_2.1 0 2) ≤ v3_1 → (vp_in v3_1 20 ∧
 (kk_j1 (fun (σ_4 : kk_St) => rec_3 (v3_1 + (1 : Int32)) σ_4)
 (fun (J_5 : kk_St → Prop) => (kk_j1 (fun (v3_6 : Int32) => (vp_in v3_6 20 ∧
 (f_X11_chainIn 3 20 (kk_rd σ_2 1 v3_6) v1 v2 σ_2 (fun (r_8 : Int32) (σ_9 : kk_St) =>
 (f_X11_manyWith r_8 v1 σ_9 (fun (r_10 : Int32) =>
 (f_X11_manyWith r_8 v2 σ_9 (fun (r_11 : Int32) =>
 ((r_10 ≤ r_11 → J_5 σ_9) ∧
 (¬ r_10 ≤ r_11 → Q r_8 σ_9))))))))))
 (fun (J_7 : Int32 → Prop) => (((kk_rd σ_2 3 v3_1) = v1 → J_7 v3_1) ∧
 (¬ (kk_rd σ_2 3 v3_1) = v1 → (vp_in v3_1 20 ∧
 (((kk_rd σ_2 3 v3_1) = v2 → J_7 v3_1) ∧
 (¬ (kk_rd σ_2 3 v3_1) = v2 → J_5 σ_2))))))))))))) (0 : Int32) σ)
def f_X11_evens (σ : kk_St) (Q : Int32 → kk_St → Prop) : Prop :=
 (kk_lp3 (fun (rec_4 : Int32 → Int32 → Int32 → Prop) (v1_1 : Int32) (v2_2 : Int32) (v3_3 : Int32) =>
 (f_X11_greatestUsed σ (fun (r_5 : Int32) =>
 ((r_5 < v3_3 → (f_X11_allLines σ (fun (r_6 : Int32) =>
 (f_X11_manyWith r_6 v1_1 σ (fun (r_7 : Int32) =>
 (f_X11_allLines σ (fun (r_8 : Int32) =>
 (f_X11_manyWith r_8 v2_2 σ (fun (r_9 : Int32) =>
 (((r_9 + (2 : Int32)) ≤ r_7 → (f_X11_longerChain v1_1 v2_2 σ (fun (r_10 : Int32) (σ_11 : kk_St) =>
 (f_X11_flips 3 20 r_10 v1_1 v2_2 σ_11 (fun (σ_12 : kk_St) =>
 Q (1 : Int32) σ_12))))) ∧
 (¬ (r_9 + (2 : Int32)) ≤ r_7 → Q (0 : Int32) σ))))))))))) ∧
 (¬ r_5 < v3_3 → (f_X11_allLines σ (fun (r_14 : Int32) =>
 (f_X11_manyWith r_14 v3_3 σ (fun (r_15 : Int32) =>
 (f_X11_allLines σ (fun (r_16 : Int32) =>
 (f_X11_manyWith r_16 v1_1 σ (fun (r_17 : Int32) =>
 (kk_j1 (fun (v1_18 : Int32) => (f_X11_allLines σ (fun (r_20 : Int32) =>
 (f_X11_manyWith r_20 v3_3 σ (fun (r_21 : Int32) =>
 (f_X11_allLines σ (fun (r_22 : Int32) =>
 (f_X11_manyWith r_22 v2_2 σ (fun (r_23 : Int32) =>
 (kk_j1 (fun (v2_24 : Int32) => rec_4 v1_18 v2_24 (v3_3 + (1 : Int32)))
 (fun (J_25 : Int32 → Prop) => ((r_23 ≤ r_21 → J_25 v2_2) ∧
 (¬ r_23 ≤ r_21 → J_25 v3_3)))))))))))))
 (fun (J_19 : Int32 → Prop) => ((r_15 ≤ r_17 → J_19 v1_1) ∧
 (¬ r_15 ≤ r_17 → J_19 v3_3))))))))))))))))) (0 : Int32) (0 : Int32) (1 : Int32))
def f_X11_even (σ : kk_St) (Q : Int32 → kk_St → Prop) : Prop :=
 (kk_lp2 (fun (rec_3 : Int32 → kk_St → Prop) (v1_1 : Int32) (σ_2 : kk_St) =>
 (f_X11_evens σ_2 (fun (r_4 : Int32) (σ_5 : kk_St) =>
 ((r_4 = 0 → Q v1_1 σ_5) ∧
 (¬ r_4 = 0 → rec_3 (v1_1 + (1 : Int32)) σ_5))))) (0 : Int32) σ)
def f_X11_otherEnd (v1 : Int32) (v2 : Int32) (σ : kk_St) (Q : Int32 → Prop) : Prop :=
 (vp_in v1 20 ∧
 (vp_in v1 20 ∧
 Q (((kk_rd σ 1 v1) + (kk_rd σ 2 v1)) - v2)))
def f_X11_laysFan (v1 : Int32) (v2 : Int32) (σ : kk_St) (Q : kk_St → Prop) : Prop :=
 (f_X11_otherEnd v1 v2 σ (fun (r_1 : Int32) =>
 (vp_in (0 : Int32) 9 ∧
 (∀ σ_2 : kk_St, σ_2 = (kk_wr σ 6 (Int32.toNatClampNeg (0 : Int32)) r_1) → (∀ σ_3 : kk_St, σ_3 = (kk_wr σ_2 0 11 (1 : Int32)) → (vp_in (0 : Int32) 9 ∧
 (∀ v3_4 : Int32, v3_4 = ((1 : Int32) <<< ((kk_rd σ_3 6 (0 : Int32)) &&& 31)) → (kk_lp3 (fun (rec_8 : Int32 → Int32 → kk_St → Prop) (v3_5 : Int32) (v4_6 : Int32) (σ_7 : kk_St) =>
 ((v4_6 = 0 → Q σ_7) ∧
 (¬ v4_6 = 0 → (vp_in ((σ_7.1 0 11) - (1 : Int32)) 9 ∧
 (∀ v5_9 : Int32, v5_9 = (kk_rd σ_7 6 ((σ_7.1 0 11) - (1 : Int32))) → (kk_lp2 (fun (rec_12 : Int32 → Int32 → Prop) (v6_10 : Int32) (v7_11 : Int32) =>
 (((σ_7.1 0 2) ≤ v7_11 → (kk_j1 (fun (t_13 : Int32) => ((¬ t_13 = 0 → (f_X11_otherEnd v6_10 v2 σ_7 (fun (r_15 : Int32) =>
 (vp_in (σ_7.1 0 11) 9 ∧
 (∀ σ_16 : kk_St, σ_16 = (kk_wr σ_7 6 (Int32.toNatClampNeg (σ_7.1 0 11)) r_15) → (vp_in (σ_16.1 0 11) 9 ∧
 (∀ v3_17 : Int32, v3_17 = (v3_5 ||| ((1 : Int32) <<< ((kk_rd σ_16 6 (σ_16.1 0 11)) &&& 31))) → (∀ σ_18 : kk_St, σ_18 = (kk_wr σ_16 0 11 ((σ_16.1 0 11) + (1 : Int32))) → rec_8 v3_17 t_13 σ_18)))))))) ∧
 (t_13 = 0 → rec_8 v3_5 t_13 σ_7)))
 (fun (J_14 : Int32 → Prop) => ((v6_10 = (-1 : Int32) → J_14 (0 : Int32)) ∧
 (¬ v6_10 = (-1 : Int32) → J_14 (1 : Int32)))))) ∧
 (¬ (σ_7.1 0 2) ≤ v7_11 → (f_X11_isAt v7_11 v2 σ_7 (fun (r_21 : Int32) =>
 (kk_j1 (fun (v6_22 : Int32) => rec_12 v6_22 (v7_11 + (1 : Int32)))
 (fun (J_23 : Int32 → Prop) => ((r_21 = 0 → J_23 v6_10) ∧
 (¬ r_21 = 0 → (vp_in v7_11 20 ∧
 (((kk_rd σ_7 3 v7_11) < 0 → J_23 v6_10) ∧
 (¬ (kk_rd σ_7 3 v7_11) < 0 → (f_X11_otherEnd v7_11 v2 σ_7 (fun (r_24 : Int32) =>
 (f_X11_has v3_5 r_24 (fun (r_25 : Int32) =>
 ((¬ r_25 = 0 → J_23 v6_10) ∧
 (r_25 = 0 → (vp_in v7_11 20 ∧
 (f_X11_isFreeAt v5_9 (kk_rd σ_7 3 v7_11) σ_7 (fun (r_26 : Int32) =>
 ((¬ r_26 = 0 → (kk_j4 (fun (v3_27 : Int32) (v5_28 : Int32) (v7_29 : Int32) (σ_30 : kk_St) => J_23 v7_29)
 (fun (J_31 : Int32 → Int32 → Int32 → kk_St → Prop) => ((v6_10 = (-1 : Int32) → J_31 v3_5 v5_9 v7_11 σ_7) ∧
 (¬ v6_10 = (-1 : Int32) → (vp_in v7_11 20 ∧
 (vp_in v6_10 20 ∧
 (((kk_rd σ_7 3 v6_10) ≤ (kk_rd σ_7 3 v7_11) → J_23 v6_10) ∧
 (¬ (kk_rd σ_7 3 v6_10) ≤ (kk_rd σ_7 3 v7_11) → J_31 v3_5 v5_9 v7_11 σ_7))))))))) ∧
 (r_26 = 0 → J_23 v6_10))))))))))))))))))))))) (-1 : Int32) (0 : Int32))))))) v3_4 (1 : Int32) σ_3))))))))
def f_X11_fan (v1 : Int32) (v2 : Int32) (v3 : Int32) (σ : kk_St) (Q : Int32 → kk_St → Prop) : Prop :=
 (f_X11_isLine v1 σ (fun (r_1 : Int32) =>
 (kk_j0 (Q (-1 : Int32) σ)
 (fun (J_2 : Prop) => ((r_1 = 0 → J_2) ∧
 (¬ r_1 = 0 → (f_X11_isAt v1 v2 σ (fun (r_3 : Int32) =>
 ((r_3 = 0 → J_2) ∧
 (¬ r_3 = 0 → (((-1 : Int32) ≤ v3 → (vp_in v1 20 ∧
 (((kk_rd σ 3 v1) < 0 → (f_X11_laysFan v1 v2 σ (fun (σ_4 : kk_St) =>
 (kk_j1 (fun (t_5 : Int32) => Q t_5 σ_4)
 (fun (J_6 : Int32 → Prop) => ((¬ v3 = (-1 : Int32) → (((σ_4.1 0 11) ≤ v3 → J_6 (-1 : Int32)) ∧
 (¬ (σ_4.1 0 11) ≤ v3 → (vp_in v3 9 ∧
 J_6 (kk_rd σ_4 6 v3))))) ∧
 (v3 = (-1 : Int32) → J_6 (σ_4.1 0 11)))))))) ∧
 (¬ (kk_rd σ 3 v1) < 0 → Q (-2 : Int32) σ)))) ∧
 (¬ (-1 : Int32) ≤ v3 → J_2))))))))))))
def f_X11_first (v1 : Int32) (v2 : Int32) (σ : kk_St) (Q : Int32 → kk_St → Prop) : Prop :=
 (f_X11_in v1 (0 : Int32) (9 : Int32) (fun (r_1 : Int32) =>
 (kk_j0 (Q (-1 : Int32) σ)
 (fun (J_2 : Prop) => ((r_1 = 0 → J_2) ∧
 (¬ r_1 = 0 → (f_X11_isLine v2 σ (fun (r_3 : Int32) =>
 ((¬ r_3 = 0 → (f_X11_allLines σ (fun (r_4 : Int32) =>
 (f_X11_laysFirst r_4 v1 σ (fun (r_5 : Int32) (σ_6 : kk_St) =>
 (kk_j1 (fun (t_7 : Int32) => Q t_7 σ_6)
 (fun (J_8 : Int32 → Prop) => ((r_5 = 0 → J_8 (-2 : Int32)) ∧
 (¬ r_5 = 0 → (vp_in v2 20 ∧
 J_8 (kk_rd σ_6 11 v2))))))))))) ∧
 (r_3 = 0 → J_2))))))))))
def f_X11_linesWithin (v1 : Int32) (σ : kk_St) (Q : Int32 → Prop) : Prop :=
 (kk_lp2 (fun (rec_3 : Int32 → Int32 → Prop) (v2_1 : Int32) (v3_2 : Int32) =>
 (((σ.1 0 2) ≤ v3_2 → Q v2_1) ∧
 (¬ (σ.1 0 2) ≤ v3_2 → (vp_in v3_2 20 ∧
 (f_X11_has v1 (kk_rd σ 1 v3_2) (fun (r_4 : Int32) =>
 (kk_j1 (fun (v2_5 : Int32) => rec_3 v2_5 (v3_2 + (1 : Int32)))
 (fun (J_6 : Int32 → Prop) => ((r_4 = 0 → J_6 v2_1) ∧
 (¬ r_4 = 0 → (vp_in v3_2 20 ∧
 (f_X11_has v1 (kk_rd σ 2 v3_2) (fun (r_7 : Int32) =>
 ((r_7 = 0 → J_6 v2_1) ∧
 (¬ r_7 = 0 → J_6 (v2_1 + (1 : Int32))))))))))))))))) (0 : Int32) (0 : Int32))
def f_X11_fullSet (v1 : Int32) (σ : kk_St) (Q : Int32 → Prop) : Prop :=
 (kk_lp1 (fun (rec_2 : Int32 → Prop) (v2_1 : Int32) =>
 (f_X11_allPosts σ (fun (r_3 : Int32) =>
 ((r_3 < v2_1 → Q (0 : Int32)) ∧
 (¬ r_3 < v2_1 → (f_X11_bitsOf v2_1 (fun (r_4 : Int32) =>
 (kk_j0 (rec_2 (v2_1 + (1 : Int32)))
 (fun (J_5 : Prop) => ((r_4 < (3 : Int32) → J_5) ∧
 (¬ r_4 < (3 : Int32) → ((¬ (r_4 - r_4 / (2 : Int32) * (2 : Int32)) = (1 : Int32) → J_5) ∧
 ((r_4 - r_4 / (2 : Int32) * (2 : Int32)) = (1 : Int32) → (f_X11_linesWithin v2_1 σ (fun (r_6 : Int32) =>
 ((r_6 ≤ (v1 * (r_4 / (2 : Int32))) → J_5) ∧
 (¬ r_6 ≤ (v1 * (r_4 / (2 : Int32))) → Q v2_1))))))))))))))))) (7 : Int32))
def f_X11_leastFreeAt (v1 : Int32) (σ : kk_St) (Q : Int32 → Prop) : Prop :=
 (kk_lp1 (fun (rec_2 : Int32 → Prop) (v2_1 : Int32) =>
 (f_X11_isFreeAt v1 v2_1 σ (fun (r_3 : Int32) =>
 ((¬ r_3 = 0 → Q v2_1) ∧
 (r_3 = 0 → rec_2 (v2_1 + (1 : Int32))))))) (0 : Int32))
def f_X11_lineOf (v1 : Int32) (v2 : Int32) (σ : kk_St) (Q : Int32 → Prop) : Prop :=
 (kk_j1 (fun (v3_1 : Int32) => Q v3_1)
 (fun (J_2 : Int32 → Prop) => (kk_lp1 (fun (rec_4 : Int32 → Prop) (v3_3 : Int32) =>
 (((σ.1 0 2) ≤ v3_3 → Q (-1 : Int32)) ∧
 (¬ (σ.1 0 2) ≤ v3_3 → (vp_in v3_3 20 ∧
 (kk_j0 ((vp_in v3_3 20 ∧
 (kk_j0 (rec_4 (v3_3 + (1 : Int32)))
 (fun (J_6 : Prop) => ((¬ (kk_rd σ 1 v3_3) = v2 → J_6) ∧
 ((kk_rd σ 1 v3_3) = v2 → (vp_in v3_3 20 ∧
 ((¬ (kk_rd σ 2 v3_3) = v1 → J_6) ∧
 ((kk_rd σ 2 v3_3) = v1 → J_2 v3_3)))))))))
 (fun (J_5 : Prop) => ((¬ (kk_rd σ 1 v3_3) = v1 → J_5) ∧
 ((kk_rd σ 1 v3_3) = v1 → (vp_in v3_3 20 ∧
 (((kk_rd σ 2 v3_3) = v2 → J_2 v3_3) ∧
 (¬ (kk_rd σ 2 v3_3) = v2 → J_5))))))))))) (0 : Int32))))
def f_X11_grows (v1 : Int32) (σ : kk_St) (Q : Int32 → kk_St → Prop) : Prop :=
 (vp_in v1 20 ∧
 (f_X11_laysFan v1 (kk_rd σ 1 v1) σ (fun (σ_1 : kk_St) =>
 (f_X11_leastFreeAt (kk_rd σ 1 v1) σ_1 (fun (r_2 : Int32) =>
 (vp_in ((σ_1.1 0 11) - (1 : Int32)) 9 ∧
 (f_X11_leastFreeAt (kk_rd σ_1 6 ((σ_1.1 0 11) - (1 : Int32))) σ_1 (fun (r_3 : Int32) =>
 (vp_in (4 : Int32) 5 ∧
 (∀ σ_4 : kk_St, σ_4 = (kk_wr σ_1 7 (Int32.toNatClampNeg (4 : Int32)) (0 : Int32)) → (f_X11_isFreeAt (kk_rd σ 1 v1) r_3 σ_4 (fun (r_5 : Int32) =>
 (kk_j1 (fun (σ_6 : kk_St) => (kk_j1 (fun (v5_8 : Int32) => (kk_lp2 (fun (rec_12 : Int32 → kk_St → Prop) (v6_10 : Int32) (σ_11 : kk_St) =>
 ((v5_8 ≤ v6_10 → (vp_in v5_8 9 ∧
 (f_X11_lineOf (kk_rd σ 1 v1) (kk_rd σ_11 6 v5_8) σ_11 (fun (r_13 : Int32) =>
 (vp_in r_13 20 ∧
 (∀ σ_14 : kk_St, σ_14 = (kk_wr σ_11 3 (Int32.toNatClampNeg r_13) r_3) → (vp_in (0 : Int32) 5 ∧
 (∀ σ_15 : kk_St, σ_15 = (kk_wr σ_14 7 (Int32.toNatClampNeg (0 : Int32)) r_2) → (vp_in (1 : Int32) 5 ∧
 (∀ σ_16 : kk_St, σ_16 = (kk_wr σ_15 7 (Int32.toNatClampNeg (1 : Int32)) r_3) → (vp_in (2 : Int32) 5 ∧
 (∀ σ_17 : kk_St, σ_17 = (kk_wr σ_16 7 (Int32.toNatClampNeg (2 : Int32)) (σ_16.1 0 11)) → (vp_in (3 : Int32) 5 ∧
 (∀ σ_18 : kk_St, σ_18 = (kk_wr σ_17 7 (Int32.toNatClampNeg (3 : Int32)) v5_8) → (∀ σ_19 : kk_St, σ_19 = (kk_wr σ_18 0 12 (1 : Int32)) → (vp_in v1 20 ∧
 Q (kk_rd σ_19 3 v1) σ_19)))))))))))))))) ∧
 (¬ v5_8 ≤ v6_10 → (vp_in v6_10 9 ∧
 (f_X11_lineOf (kk_rd σ 1 v1) (kk_rd σ_11 6 v6_10) σ_11 (fun (r_20 : Int32) =>
 (vp_in (v6_10 + (1 : Int32)) 9 ∧
 (f_X11_lineOf (kk_rd σ 1 v1) (kk_rd σ_11 6 (v6_10 + (1 : Int32))) σ_11 (fun (r_21 : Int32) =>
 (vp_in r_21 20 ∧
 (vp_in r_20 20 ∧
 (∀ σ_22 : kk_St, σ_22 = (kk_wr σ_11 3 (Int32.toNatClampNeg r_20) (kk_rd σ_11 3 r_21)) → rec_12 (v6_10 + (1 : Int32)) σ_22)))))))))))) (0 : Int32) σ_6))
 (fun (J_9 : Int32 → Prop) => (kk_lp1 (fun (rec_25 : Int32 → Prop) (v5_24 : Int32) =>
 (vp_in v5_24 9 ∧
 (f_X11_isFreeAt (kk_rd σ_6 6 v5_24) r_3 σ_6 (fun (r_26 : Int32) =>
 ((¬ r_26 = 0 → J_9 v5_24) ∧
 (r_26 = 0 → (vp_in v5_24 9 ∧
 (vp_in (v5_24 + (1 : Int32)) 9 ∧
 (f_X11_lineOf (kk_rd σ 1 v1) (kk_rd σ_6 6 (v5_24 + (1 : Int32))) σ_6 (fun (r_27 : Int32) =>
 (vp_in r_27 20 ∧
 (f_X11_isFreeAt (kk_rd σ_6 6 v5_24) (kk_rd σ_6 3 r_27) σ_6 (fun (r_28 : Int32) =>
 ((r_28 = 0 → J_9 v5_24) ∧
 (¬ r_28 = 0 → rec_25 (v5_24 + (1 : Int32))))))))))))))))) (0 : Int32)))))
 (fun (J_7 : kk_St → Prop) => ((¬ r_5 = 0 → J_7 σ_4) ∧
 (r_5 = 0 → (f_X11_chainIn 3 20 (kk_rd σ 1 v1) r_2 r_3 σ_4 (fun (r_31 : Int32) (σ_32 : kk_St) =>
 (f_X11_flips 3 20 r_31 r_2 r_3 σ_32 (fun (σ_33 : kk_St) =>
 (f_X11_bitsOf r_31 (fun (r_34 : Int32) =>
 (vp_in (4 : Int32) 5 ∧
 (∀ σ_35 : kk_St, σ_35 = (kk_wr σ_33 7 (Int32.toNatClampNeg (4 : Int32)) r_34) → J_7 σ_35))))))))))))))))))))))))
def f_X11_grow (v1 : Int32) (σ : kk_St) (Q : Int32 → kk_St → Prop) : Prop :=
 (f_X11_isLine v1 σ (fun (r_1 : Int32) =>
 ((¬ r_1 = 0 → (vp_in v1 20 ∧
 (kk_j2 (fun (t_2 : Int32) (σ_3 : kk_St) => Q t_2 σ_3)
 (fun (J_4 : Int32 → kk_St → Prop) => (((kk_rd σ 3 v1) < 0 → (f_X11_grows v1 σ (fun (r_5 : Int32) (σ_6 : kk_St) =>
 J_4 r_5 σ_6))) ∧
 (¬ (kk_rd σ 3 v1) < 0 → J_4 (-2 : Int32) σ)))))) ∧
 (r_1 = 0 → Q (-1 : Int32) σ))))
def f_X11_growAll (σ : kk_St) (Q : Int32 → kk_St → Prop) : Prop :=
 (kk_lp3 (fun (rec_4 : Int32 → Int32 → kk_St → Prop) (v1_1 : Int32) (v2_2 : Int32) (σ_3 : kk_St) =>
 (((σ_3.1 0 2) ≤ v2_2 → Q v1_1 σ_3) ∧
 (¬ (σ_3.1 0 2) ≤ v2_2 → (vp_in v2_2 20 ∧
 (kk_j2 (fun (v1_5 : Int32) (σ_6 : kk_St) => rec_4 v1_5 (v2_2 + (1 : Int32)) σ_6)
 (fun (J_7 : Int32 → kk_St → Prop) => (((kk_rd σ_3 3 v2_2) < 0 → (f_X11_grows v2_2 σ_3 (fun (r_8 : Int32) (σ_9 : kk_St) =>
 (kk_j1 (fun (t_10 : Int32) => J_7 (v1_1 + t_10) σ_9)
 (fun (J_11 : Int32 → Prop) => ((r_8 < 0 → J_11 (0 : Int32)) ∧
 (¬ r_8 < 0 → J_11 (1 : Int32)))))))) ∧
 (¬ (kk_rd σ_3 3 v2_2) < 0 → J_7 v1_1 σ_3)))))))) (0 : Int32) (0 : Int32) σ)
def f_X11_grown (v1 : Int32) (σ : kk_St) (Q : Int32 → Prop) : Prop :=
 (kk_j1 (fun (t_1 : Int32) => Q t_1)
 (fun (J_2 : Int32 → Prop) => (kk_j0 (J_2 (-1 : Int32))
 (fun (J_3 : Prop) => (((σ.1 0 12) = 0 → J_3) ∧
 (¬ (σ.1 0 12) = 0 → (f_X11_in v1 (0 : Int32) (4 : Int32) (fun (r_4 : Int32) =>
 ((r_4 = 0 → J_3) ∧
 (¬ r_4 = 0 → (vp_in v1 5 ∧
 J_2 (kk_rd σ 7 v1))))))))))))
def f_X11_idle (v1 : Int32) (σ : kk_St) (Q : Int32 → Prop) : Prop :=
 (kk_j1 (fun (t_1 : Int32) => Q t_1)
 (fun (J_2 : Int32 → Prop) => ((¬ v1 = (-1 : Int32) → (f_X11_isPost v1 σ (fun (r_3 : Int32) =>
 ((r_3 = 0 → J_2 (-2 : Int32)) ∧
 (¬ r_3 = 0 → (f_X11_idleAt v1 σ (fun (r_4 : Int32) =>
 J_2 r_4))))))) ∧
 (v1 = (-1 : Int32) → (f_X11_idleAll σ (fun (r_6 : Int32) =>
 J_2 r_6))))))
def f_X11_isTrialFit (σ : kk_St) (Q : Int32 → Prop) : Prop :=
 (kk_lp1 (fun (rec_2 : Int32 → Prop) (v1_1 : Int32) =>
 (((σ.1 0 2) ≤ v1_1 → Q (1 : Int32)) ∧
 (¬ (σ.1 0 2) ≤ v1_1 → (kk_lp1 (fun (rec_4 : Int32 → Prop) (v2_3 : Int32) =>
 ((v1_1 ≤ v2_3 → rec_2 (v1_1 + (1 : Int32))) ∧
 (¬ v1_1 ≤ v2_3 → (vp_in v1_1 20 ∧
 (vp_in v2_3 20 ∧
 (kk_j0 (rec_4 (v2_3 + (1 : Int32)))
 (fun (J_5 : Prop) => ((¬ (kk_rd σ 18 v1_1) = (kk_rd σ 18 v2_3) → J_5) ∧
 ((kk_rd σ 18 v1_1) = (kk_rd σ 18 v2_3) → (f_X11_doMeet v1_1 v2_3 σ (fun (r_6 : Int32) =>
 ((r_6 = 0 → J_5) ∧
 (¬ r_6 = 0 → Q (0 : Int32)))))))))))))) (0 : Int32))))) (0 : Int32))
def f_X11_keep (σ : kk_St) (Q : Int32 → kk_St → Prop) : Prop :=
 (kk_lp2 (fun (rec_3 : Int32 → kk_St → Prop) (v1_1 : Int32) (σ_2 : kk_St) =>
 (((σ_2.1 0 2) ≤ v1_1 → (∀ σ_4 : kk_St, σ_4 = (kk_wr σ_2 0 8 (1 : Int32)) → Q (1 : Int32) σ_4)) ∧
 (¬ (σ_2.1 0 2) ≤ v1_1 → (vp_in v1_1 20 ∧
 (vp_in v1_1 20 ∧
 (∀ σ_5 : kk_St, σ_5 = (kk_wr σ_2 5 (Int32.toNatClampNeg v1_1) (kk_rd σ_2 3 v1_1)) → rec_3 (v1_1 + (1 : Int32)) σ_5)))))) (0 : Int32) σ)
def f_X11_laysTrial (v1 : Int32) (v2 : Int32) (σ : kk_St) (Q : kk_St → Prop) : Prop :=
 (kk_lp3 (fun (rec_4 : Int32 → Int32 → kk_St → Prop) (v3_1 : Int32) (v4_2 : Int32) (σ_3 : kk_St) =>
 (((σ_3.1 0 2) ≤ v4_2 → Q σ_3) ∧
 (¬ (σ_3.1 0 2) ≤ v4_2 → (¬ v2 = 0 ∧ (vp_in v4_2 20 ∧
 (∀ σ_5 : kk_St, σ_5 = (kk_wr σ_3 18 (Int32.toNatClampNeg v4_2) (v3_1 - v3_1 / v2 * v2)) → (¬ v2 = 0 ∧ rec_4 (v3_1 / v2) (v4_2 + (1 : Int32)) σ_5))))))) v1 (0 : Int32) σ)
def f_X11_spreads (v1 : Int32) (v2 : Int32) (v3 : Int32) (σ : kk_St) (Q : kk_St → Prop) : Prop :=
 (vp_in (0 : Int32) 4096 ∧
 (∀ σ_1 : kk_St, σ_1 = (kk_wr σ 20 (Int32.toNatClampNeg (0 : Int32)) v1) → (vp_in v1 4096 ∧
 (∀ σ_2 : kk_St, σ_2 = (kk_wr σ_1 19 (Int32.toNatClampNeg v1) v3) → (kk_lp3 (fun (rec_6 : Int32 → Int32 → kk_St → Prop) (v4_3 : Int32) (v5_4 : Int32) (σ_5 : kk_St) =>
 ((v4_3 ≤ v5_4 → Q σ_5) ∧
 (¬ v4_3 ≤ v5_4 → (kk_lp3 (fun (rec_10 : Int32 → Int32 → kk_St → Prop) (v4_7 : Int32) (v6_8 : Int32) (σ_9 : kk_St) =>
 (((v2 * v2) ≤ v6_8 → rec_6 v4_7 (v5_4 + (1 : Int32)) σ_9) ∧
 (¬ (v2 * v2) ≤ v6_8 → (¬ v2 = 0 ∧ (¬ v2 = 0 ∧ (kk_j2 (fun (v4_11 : Int32) (σ_12 : kk_St) => rec_10 v4_11 (v6_8 + (1 : Int32)) σ_12)
 (fun (J_13 : Int32 → kk_St → Prop) => (kk_lp3 (fun (rec_17 : Int32 → Int32 → kk_St → Prop) (v4_14 : Int32) (v9_15 : Int32) (σ_16 : kk_St) =>
 (((σ_16.1 0 1) ≤ v9_15 → J_13 v4_14 σ_16) ∧
 (¬ (σ_16.1 0 1) ≤ v9_15 → (((v6_8 - v6_8 / v2 * v2) ≤ (v6_8 / v2) → J_13 v4_14 σ_16) ∧
 (¬ (v6_8 - v6_8 / v2 * v2) ≤ (v6_8 / v2) → (vp_in v5_4 4096 ∧
 (f_X11_laysTrial (kk_rd σ_16 20 v5_4) v2 σ_16 (fun (σ_18 : kk_St) =>
 (f_X11_chainIn 18 20 v9_15 (v6_8 / v2) (v6_8 - v6_8 / v2 * v2) σ_18 (fun (r_19 : Int32) (σ_20 : kk_St) =>
 (f_X11_flips 18 20 r_19 (v6_8 / v2) (v6_8 - v6_8 / v2 * v2) σ_20 (fun (σ_21 : kk_St) =>
 (f_X11_codeOf 18 20 v2 σ_21 (fun (r_22 : Int32) =>
 (vp_in r_22 4096 ∧
 (kk_j2 (fun (v4_23 : Int32) (σ_24 : kk_St) => rec_17 v4_23 (v9_15 + (1 : Int32)) σ_24)
 (fun (J_25 : Int32 → kk_St → Prop) => (((kk_rd σ_21 19 r_22) = 0 → (vp_in v5_4 4096 ∧
 (vp_in (kk_rd σ_21 20 v5_4) 4096 ∧
 (vp_in r_22 4096 ∧
 (∀ σ_26 : kk_St, σ_26 = (kk_wr σ_21 19 (Int32.toNatClampNeg r_22) ((kk_rd σ_21 19 (kk_rd σ_21 20 v5_4)) + (1 : Int32))) → (vp_in v4_14 4096 ∧
 (∀ σ_27 : kk_St, σ_27 = (kk_wr σ_26 20 (Int32.toNatClampNeg v4_14) r_22) → J_25 (v4_14 + (1 : Int32)) σ_27))))))) ∧
 (¬ (kk_rd σ_21 19 r_22) = 0 → J_25 v4_14 σ_21))))))))))))))))))) v4_7 (0 : Int32) σ_9)))))))) v4_3 (0 : Int32) σ_5)))) (1 : Int32) (0 : Int32) σ_2)))))
def f_X11_kinds (v1 : Int32) (σ : kk_St) (Q : Int32 → kk_St → Prop) : Prop :=
 (f_X11_in v1 (1 : Int32) (4 : Int32) (fun (r_1 : Int32) =>
 ((¬ r_1 = 0 → (((σ.1 0 2) ≤ (6 : Int32) → (kk_lp2 (fun (rec_4 : Int32 → kk_St → Prop) (v2_2 : Int32) (σ_3 : kk_St) =>
 (f_X11_codes v1 σ_3 (fun (r_5 : Int32) =>
 ((r_5 ≤ v2_2 → (kk_lp3 (fun (rec_9 : Int32 → Int32 → kk_St → Prop) (v2_6 : Int32) (v3_7 : Int32) (σ_8 : kk_St) =>
 (f_X11_codes v1 σ_8 (fun (r_10 : Int32) =>
 ((r_10 ≤ v3_7 → Q v2_6 σ_8) ∧
 (¬ r_10 ≤ v3_7 → (f_X11_laysTrial v3_7 v1 σ_8 (fun (σ_11 : kk_St) =>
 (vp_in v3_7 4096 ∧
 (kk_j2 (fun (v2_12 : Int32) (σ_13 : kk_St) => rec_9 v2_12 (v3_7 + (1 : Int32)) σ_13)
 (fun (J_14 : Int32 → kk_St → Prop) => ((¬ (kk_rd σ_11 19 v3_7) = 0 → J_14 v2_6 σ_11) ∧
 ((kk_rd σ_11 19 v3_7) = 0 → (f_X11_isTrialFit σ_11 (fun (r_15 : Int32) =>
 ((¬ r_15 = 0 → (f_X11_spreads v3_7 v1 (1 : Int32) σ_11 (fun (σ_16 : kk_St) =>
 J_14 (v2_6 + (1 : Int32)) σ_16))) ∧
 (r_15 = 0 → J_14 v2_6 σ_11)))))))))))))))) (0 : Int32) (0 : Int32) σ_3)) ∧
 (¬ r_5 ≤ v2_2 → (vp_in v2_2 4096 ∧
 (∀ σ_20 : kk_St, σ_20 = (kk_wr σ_3 19 (Int32.toNatClampNeg v2_2) (0 : Int32)) → rec_4 (v2_2 + (1 : Int32)) σ_20))))))) (0 : Int32) σ)) ∧
 (¬ (σ.1 0 2) ≤ (6 : Int32) → Q (-2 : Int32) σ))) ∧
 (r_1 = 0 → Q (-1 : Int32) σ))))
def f_X11_partsAhead (v1 : Int32) (σ : kk_St) (Q : Int32 → Prop) : Prop :=
 (kk_lp2 (fun (rec_3 : Int32 → Int32 → Prop) (v2_1 : Int32) (v3_2 : Int32) =>
 ((v1 ≤ v3_2 → Q v2_1) ∧
 (¬ v1 ≤ v3_2 → (vp_in v3_2 10 ∧
 (kk_j1 (fun (v2_4 : Int32) => rec_3 v2_4 (v3_2 + (1 : Int32)))
 (fun (J_5 : Int32 → Prop) => ((((kk_rd σ 16 v3_2) + (1 : Int32)) ≤ v2_1 → J_5 v2_1) ∧
 (¬ ((kk_rd σ 16 v3_2) + (1 : Int32)) ≤ v2_1 → (vp_in v3_2 10 ∧
 (∀ v2_6 : Int32, v2_6 = ((kk_rd σ 16 v3_2) + (1 : Int32)) → J_5 v2_6)))))))))) (0 : Int32) (0 : Int32))
def f_X11_laysParted (σ : kk_St) (Q : kk_St → Prop) : Prop :=
 (kk_lp2 (fun (rec_3 : Int32 → kk_St → Prop) (v1_1 : Int32) (σ_2 : kk_St) =>
 (((10 : Int32) ≤ v1_1 → (vp_in (0 : Int32) 10 ∧
 (∀ σ_4 : kk_St, σ_4 = (kk_wr σ_2 16 (Int32.toNatClampNeg (0 : Int32)) (-1 : Int32)) → (kk_lp2 (fun (rec_7 : Int32 → kk_St → Prop) (v1_5 : Int32) (σ_6 : kk_St) =>
 ((v1_5 < 0 → Q σ_6) ∧
 (¬ v1_5 < 0 → ((¬ v1_5 = (σ_6.1 0 2) → (vp_in v1_5 10 ∧
 (vp_in v1_5 10 ∧
 (∀ σ_8 : kk_St, σ_8 = (kk_wr σ_6 16 (Int32.toNatClampNeg v1_5) ((kk_rd σ_6 16 v1_5) + (1 : Int32))) → (vp_in v1_5 10 ∧
 (f_X11_partsAhead v1_5 σ_8 (fun (r_9 : Int32) =>
 (((kk_rd σ_8 16 v1_5) ≤ r_9 → (f_X11_canBePart v1_5 σ_8 (fun (r_10 : Int32) =>
 ((r_10 = 0 → rec_7 v1_5 σ_8) ∧
 (¬ r_10 = 0 → (vp_in (v1_5 + (1 : Int32)) 10 ∧
 (∀ σ_11 : kk_St, σ_11 = (kk_wr σ_8 16 (Int32.toNatClampNeg (v1_5 + (1 : Int32))) (-1 : Int32)) → rec_7 (v1_5 + (1 : Int32)) σ_11))))))) ∧
 (¬ (kk_rd σ_8 16 v1_5) ≤ r_9 → rec_7 (v1_5 + (-1 : Int32)) σ_8))))))))) ∧
 (v1_5 = (σ_6.1 0 2) → (f_X11_partsAhead v1_5 σ_6 (fun (r_14 : Int32) =>
 (vp_in r_14 10 ∧
 (vp_in r_14 10 ∧
 (∀ σ_15 : kk_St, σ_15 = (kk_wrL σ_6 (Int32.toNatClampNeg r_14) ((σ_6.2 (Int32.toNatClampNeg r_14)) + (1 : Int64))) → rec_7 (v1_5 + (-1 : Int32)) σ_15)))))))))) (0 : Int32) σ_4)))) ∧
 (¬ (10 : Int32) ≤ v1_1 → (vp_in v1_1 10 ∧
 (∀ σ_18 : kk_St, σ_18 = (kk_wrL σ_2 (Int32.toNatClampNeg v1_1) (0 : Int64)) → rec_3 (v1_1 + (1 : Int32)) σ_18))))) (0 : Int32) σ)
def f_X11_laysSides (σ : kk_St) (Q : Int32 → kk_St → Prop) : Prop :=
 (kk_lp2 (fun (rec_3 : Int32 → kk_St → Prop) (v1_1 : Int32) (σ_2 : kk_St) =>
 (((σ_2.1 0 1) ≤ v1_1 → (kk_lp2 (fun (rec_6 : Int32 → kk_St → Prop) (v1_4 : Int32) (σ_5 : kk_St) =>
 (((σ_5.1 0 1) ≤ v1_4 → (kk_lp1 (fun (rec_8 : Int32 → Prop) (v1_7 : Int32) =>
 (((σ_5.1 0 2) ≤ v1_7 → Q (1 : Int32) σ_5) ∧
 (¬ (σ_5.1 0 2) ≤ v1_7 → (vp_in v1_7 20 ∧
 (vp_in (kk_rd σ_5 1 v1_7) 9 ∧
 (vp_in v1_7 20 ∧
 (vp_in (kk_rd σ_5 2 v1_7) 9 ∧
 ((¬ (kk_rd σ_5 8 (kk_rd σ_5 1 v1_7)) = (kk_rd σ_5 8 (kk_rd σ_5 2 v1_7)) → rec_8 (v1_7 + (1 : Int32))) ∧
 ((kk_rd σ_5 8 (kk_rd σ_5 1 v1_7)) = (kk_rd σ_5 8 (kk_rd σ_5 2 v1_7)) → Q (0 : Int32) σ_5))))))))) (0 : Int32))) ∧
 (¬ (σ_5.1 0 1) ≤ v1_4 → (vp_in v1_4 9 ∧
 (kk_j1 (fun (σ_11 : kk_St) => rec_6 (v1_4 + (1 : Int32)) σ_11)
 (fun (J_12 : kk_St → Prop) => (((kk_rd σ_5 8 v1_4) = (-1 : Int32) → (vp_in v1_4 9 ∧
 (∀ σ_13 : kk_St, σ_13 = (kk_wr σ_5 8 (Int32.toNatClampNeg v1_4) (0 : Int32)) → (kk_lp2 (fun (rec_16 : Int32 → kk_St → Prop) (v2_14 : Int32) (σ_15 : kk_St) =>
 ((v2_14 = 0 → J_12 σ_15) ∧
 (¬ v2_14 = 0 → (kk_lp3 (fun (rec_20 : Int32 → Int32 → kk_St → Prop) (v2_17 : Int32) (v3_18 : Int32) (σ_19 : kk_St) =>
 (((σ_19.1 0 2) ≤ v3_18 → rec_16 v2_17 σ_19) ∧
 (¬ (σ_19.1 0 2) ≤ v3_18 → (vp_in v3_18 20 ∧
 (vp_in v3_18 20 ∧
 (vp_in (kk_rd σ_19 1 v3_18) 9 ∧
 (kk_j1 (fun (t_21 : Int32) => (vp_in (kk_rd σ_19 2 v3_18) 9 ∧
 (kk_j1 (fun (t_23 : Int32) => (kk_j2 (fun (v2_25 : Int32) (σ_26 : kk_St) => rec_20 v2_25 (v3_18 + (1 : Int32)) σ_26)
 (fun (J_27 : Int32 → kk_St → Prop) => ((¬ t_21 = t_23 → (vp_in (kk_rd σ_19 1 v3_18) 9 ∧
 ((¬ (kk_rd σ_19 8 (kk_rd σ_19 1 v3_18)) = (-1 : Int32) → (vp_in (kk_rd σ_19 1 v3_18) 9 ∧
 (vp_in (kk_rd σ_19 2 v3_18) 9 ∧
 (∀ σ_28 : kk_St, σ_28 = (kk_wr σ_19 8 (Int32.toNatClampNeg (kk_rd σ_19 2 v3_18)) ((1 : Int32) - (kk_rd σ_19 8 (kk_rd σ_19 1 v3_18)))) → J_27 (1 : Int32) σ_28)))) ∧
 ((kk_rd σ_19 8 (kk_rd σ_19 1 v3_18)) = (-1 : Int32) → (vp_in (kk_rd σ_19 2 v3_18) 9 ∧
 (vp_in (kk_rd σ_19 1 v3_18) 9 ∧
 (∀ σ_29 : kk_St, σ_29 = (kk_wr σ_19 8 (Int32.toNatClampNeg (kk_rd σ_19 1 v3_18)) ((1 : Int32) - (kk_rd σ_19 8 (kk_rd σ_19 2 v3_18)))) → J_27 (1 : Int32) σ_29))))))) ∧
 (t_21 = t_23 → J_27 v2_17 σ_19)))))
 (fun (J_24 : Int32 → Prop) => ((¬ (kk_rd σ_19 8 (kk_rd σ_19 2 v3_18)) = (-1 : Int32) → J_24 (0 : Int32)) ∧
 ((kk_rd σ_19 8 (kk_rd σ_19 2 v3_18)) = (-1 : Int32) → J_24 (1 : Int32)))))))
 (fun (J_22 : Int32 → Prop) => ((¬ (kk_rd σ_19 8 (kk_rd σ_19 1 v3_18)) = (-1 : Int32) → J_22 (0 : Int32)) ∧
 ((kk_rd σ_19 8 (kk_rd σ_19 1 v3_18)) = (-1 : Int32) → J_22 (1 : Int32))))))))))) (0 : Int32) (0 : Int32) σ_15)))) (1 : Int32) σ_13)))) ∧
 (¬ (kk_rd σ_5 8 v1_4) = (-1 : Int32) → J_12 σ_5)))))))) (0 : Int32) σ_2)) ∧
 (¬ (σ_2.1 0 1) ≤ v1_1 → (vp_in v1_1 9 ∧
 (∀ σ_38 : kk_St, σ_38 = (kk_wr σ_2 8 (Int32.toNatClampNeg v1_1) (-1 : Int32)) → rec_3 (v1_1 + (1 : Int32)) σ_38))))) (0 : Int32) σ)
def f_X11_line (v1 : Int32) (v2 : Int32) (σ : kk_St) (Q : Int32 → kk_St → Prop) : Prop :=
 (f_X11_isPost v1 σ (fun (r_1 : Int32) =>
 (kk_j0 (Q (-1 : Int32) σ)
 (fun (J_2 : Prop) => ((r_1 = 0 → J_2) ∧
 (¬ r_1 = 0 → (f_X11_isPost v2 σ (fun (r_3 : Int32) =>
 ((r_3 = 0 → J_2) ∧
 (¬ r_3 = 0 → ((v1 = v2 → J_2) ∧
 (¬ v1 = v2 → (f_X11_lineOf v1 v2 σ (fun (r_4 : Int32) =>
 ((¬ r_4 = (-1 : Int32) → J_2) ∧
 (r_4 = (-1 : Int32) → ((¬ (σ.1 0 2) = (20 : Int32) → (kk_j1 (fun (t_5 : Int32) => (vp_in (σ.1 0 2) 20 ∧
 (∀ σ_7 : kk_St, σ_7 = (kk_wr σ 1 (Int32.toNatClampNeg (σ.1 0 2)) t_5) → (kk_j1 (fun (t_8 : Int32) => (vp_in (σ_7.1 0 2) 20 ∧
 (∀ σ_10 : kk_St, σ_10 = (kk_wr σ_7 2 (Int32.toNatClampNeg (σ_7.1 0 2)) t_8) → (vp_in (σ_10.1 0 2) 20 ∧
 (∀ σ_11 : kk_St, σ_11 = (kk_wr σ_10 3 (Int32.toNatClampNeg (σ_10.1 0 2)) (-1 : Int32)) → (vp_in (σ_11.1 0 2) 20 ∧
 (∀ σ_12 : kk_St, σ_12 = (kk_wr σ_11 4 (Int32.toNatClampNeg (σ_11.1 0 2)) (511 : Int32)) → (vp_in (σ_12.1 0 2) 20 ∧
 (∀ σ_13 : kk_St, σ_13 = (kk_wr σ_12 5 (Int32.toNatClampNeg (σ_12.1 0 2)) (-1 : Int32)) → (∀ σ_14 : kk_St, σ_14 = (kk_wr σ_13 0 2 ((σ_13.1 0 2) + (1 : Int32))) → Q ((σ_14.1 0 2) - (1 : Int32)) σ_14))))))))))
 (fun (J_9 : Int32 → Prop) => ((v2 ≤ v1 → J_9 v1) ∧
 (¬ v2 ≤ v1 → J_9 v2)))))))
 (fun (J_6 : Int32 → Prop) => ((v2 ≤ v1 → J_6 v2) ∧
 (¬ v2 ≤ v1 → J_6 v1))))) ∧
 ((σ.1 0 2) = (20 : Int32) → J_2))))))))))))))))))
def f_X11_list (v1 : Int32) (v2 : Int32) (σ : kk_St) (Q : Int32 → kk_St → Prop) : Prop :=
 (f_X11_isLine v1 σ (fun (r_1 : Int32) =>
 (kk_j0 (Q (-1 : Int32) σ)
 (fun (J_2 : Prop) => ((r_1 = 0 → J_2) ∧
 (¬ r_1 = 0 → (f_X11_in v2 (0 : Int32) (511 : Int32) (fun (r_3 : Int32) =>
 ((¬ r_3 = 0 → (vp_in v1 20 ∧
 (vp_in v1 20 ∧
 (∀ σ_4 : kk_St, σ_4 = (kk_wr σ 4 (Int32.toNatClampNeg v1) v2) → Q (kk_rd σ 4 v1) σ_4)))) ∧
 (r_3 = 0 → J_2))))))))))
def f_X11_listed (v1 : Int32) (σ : kk_St) (Q : Int32 → kk_St → Prop) : Prop :=
 (f_X11_isLine v1 σ (fun (r_1 : Int32) =>
 ((¬ r_1 = 0 → (((σ.1 0 2) ≤ (9 : Int32) → (kk_lp2 (fun (rec_4 : Int32 → kk_St → Prop) (v2_2 : Int32) (σ_3 : kk_St) =>
 (((σ_3.1 0 2) ≤ v2_2 → (∀ σ_5 : kk_St, σ_5 = (kk_wr σ_3 0 17 (0 : Int32)) → (f_X11_allLines σ_5 (fun (r_6 : Int32) =>
 (f_X11_picksFirst r_6 σ_5 (fun (r_7 : Int32) (σ_8 : kk_St) =>
 (kk_j1 (fun (t_9 : Int32) => Q t_9 σ_8)
 (fun (J_10 : Int32 → Prop) => ((r_7 = 0 → J_10 (-2 : Int32)) ∧
 (¬ r_7 = 0 → (vp_in v1 20 ∧
 J_10 (kk_rd σ_8 11 v1)))))))))))) ∧
 (¬ (σ_3.1 0 2) ≤ v2_2 → (vp_in v2_2 20 ∧
 (vp_in v2_2 20 ∧
 (∀ σ_12 : kk_St, σ_12 = (kk_wr σ_3 10 (Int32.toNatClampNeg v2_2) (kk_rd σ_3 4 v2_2)) → rec_4 (v2_2 + (1 : Int32)) σ_12)))))) (0 : Int32) σ)) ∧
 (¬ (σ.1 0 2) ≤ (9 : Int32) → Q (-3 : Int32) σ))) ∧
 (r_1 = 0 → Q (-1 : Int32) σ))))
def f_X11_longest (v1 : Int32) (σ : kk_St) (Q : Int32 → kk_St → Prop) : Prop :=
 (f_X11_in v1 (0 : Int32) (3 : Int32) (fun (r_1 : Int32) =>
 ((¬ r_1 = 0 → (kk_lp6 (fun (rec_8 : Int32 → Int32 → Int32 → Int32 → Int32 → kk_St → Prop) (v2_2 : Int32) (v3_3 : Int32) (v4_4 : Int32) (v5_5 : Int32) (v6_6 : Int32) (σ_7 : kk_St) =>
 (f_X11_degree σ_7 (fun (r_9 : Int32) =>
 ((r_9 < v6_6 → (kk_j1 (fun (t_10 : Int32) => Q t_10 σ_7)
 (fun (J_11 : Int32 → Prop) => ((¬ v2_2 = 0 → ((¬ v1 = 0 → ((¬ v1 = (1 : Int32) → ((¬ v1 = (2 : Int32) → J_11 v5_5) ∧
 (v1 = (2 : Int32) → J_11 v4_4))) ∧
 (v1 = (1 : Int32) → J_11 v3_3))) ∧
 (v1 = 0 → J_11 v2_2))) ∧
 (v2_2 = 0 → J_11 (-2 : Int32)))))) ∧
 (¬ r_9 < v6_6 → (kk_lp6 (fun (rec_22 : Int32 → Int32 → Int32 → Int32 → Int32 → kk_St → Prop) (v2_16 : Int32) (v3_17 : Int32) (v4_18 : Int32) (v5_19 : Int32) (v7_20 : Int32) (σ_21 : kk_St) =>
 (f_X11_degree σ_21 (fun (r_23 : Int32) =>
 ((r_23 < v7_20 → rec_8 v2_16 v3_17 v4_18 v5_19 (v6_6 + (1 : Int32)) σ_21) ∧
 (¬ r_23 < v7_20 → (kk_lp6 (fun (rec_30 : Int32 → Int32 → Int32 → Int32 → Int32 → kk_St → Prop) (v2_24 : Int32) (v3_25 : Int32) (v4_26 : Int32) (v5_27 : Int32) (v8_28 : Int32) (σ_29 : kk_St) =>
 (((σ_29.1 0 2) ≤ v8_28 → rec_22 v2_24 v3_25 v4_26 v5_27 (v7_20 + (1 : Int32)) σ_29) ∧
 (¬ (σ_29.1 0 2) ≤ v8_28 → (vp_in v8_28 20 ∧
 (kk_j5 (fun (v2_31 : Int32) (v3_32 : Int32) (v4_33 : Int32) (v5_34 : Int32) (σ_35 : kk_St) => rec_30 v2_31 v3_32 v4_33 v5_34 (v8_28 + (1 : Int32)) σ_35)
 (fun (J_36 : Int32 → Int32 → Int32 → Int32 → kk_St → Prop) => (kk_j3 (fun (v6_37 : Int32) (v7_38 : Int32) (v8_39 : Int32) => (vp_in v8_39 20 ∧
 (f_X11_chainIn 3 20 (kk_rd σ_29 1 v8_39) v6_37 v7_38 σ_29 (fun (r_41 : Int32) (σ_42 : kk_St) =>
 (f_X11_bitsOf r_41 (fun (r_43 : Int32) =>
 ((v2_24 < r_43 → (f_X11_bitsOf r_41 (fun (r_44 : Int32) =>
 (f_X11_lowestOf r_41 (fun (r_45 : Int32) =>
 J_36 r_44 v6_37 v7_38 r_45 σ_42))))) ∧
 (¬ v2_24 < r_43 → J_36 v2_24 v3_25 v4_26 v5_27 σ_42))))))))
 (fun (J_40 : Int32 → Int32 → Int32 → Prop) => (((kk_rd σ_29 3 v8_28) = v6_6 → J_40 v6_6 v7_20 v8_28) ∧
 (¬ (kk_rd σ_29 3 v8_28) = v6_6 → (vp_in v8_28 20 ∧
 (((kk_rd σ_29 3 v8_28) = v7_20 → J_40 v6_6 v7_20 v8_28) ∧
 (¬ (kk_rd σ_29 3 v8_28) = v7_20 → J_36 v2_24 v3_25 v4_26 v5_27 σ_29))))))))))))) v2_16 v3_17 v4_18 v5_19 (0 : Int32) σ_21)))))) v2_2 v3_3 v4_4 v5_5 (v6_6 + (1 : Int32)) σ_7)))))) (0 : Int32) (0 : Int32) (0 : Int32) (0 : Int32) (0 : Int32) σ)) ∧
 (r_1 = 0 → Q (-1 : Int32) σ))))
def f_X11_oddRound (σ : kk_St) (Q : Int32 → kk_St → Prop) : Prop :=
 (kk_lp3 (fun (rec_4 : Int32 → Int32 → kk_St → Prop) (v1_1 : Int32) (v2_2 : Int32) (σ_3 : kk_St) =>
 (((σ_3.1 0 1) ≤ v2_2 → (kk_j1 (fun (t_5 : Int32) => Q t_5 σ_3)
 (fun (J_6 : Int32 → Prop) => ((v1_1 ≤ (9 : Int32) → J_6 v1_1) ∧
 (¬ v1_1 ≤ (9 : Int32) → J_6 (0 : Int32)))))) ∧
 (¬ (σ_3.1 0 1) ≤ v2_2 → (kk_lp2 (fun (rec_10 : Int32 → kk_St → Prop) (v3_8 : Int32) (σ_9 : kk_St) =>
 (((18 : Int32) ≤ v3_8 → (kk_lp2 (fun (rec_13 : Int32 → kk_St → Prop) (v3_11 : Int32) (σ_12 : kk_St) =>
 (((18 : Int32) ≤ v3_11 → (vp_in (((2 : Int32) * v2_2) + (1 : Int32)) 18 ∧
 (kk_j1 (fun (v1_14 : Int32) => rec_4 v1_14 (v2_2 + (1 : Int32)) σ_12)
 (fun (J_15 : Int32 → Prop) => ((v1_1 ≤ (kk_rd σ_12 9 (((2 : Int32) * v2_2) + (1 : Int32))) → J_15 v1_1) ∧
 (¬ v1_1 ≤ (kk_rd σ_12 9 (((2 : Int32) * v2_2) + (1 : Int32))) → (vp_in (((2 : Int32) * v2_2) + (1 : Int32)) 18 ∧
 (∀ v1_16 : Int32, v1_16 = (kk_rd σ_12 9 (((2 : Int32) * v2_2) + (1 : Int32))) → J_15 v1_16)))))))) ∧
 (¬ (18 : Int32) ≤ v3_11 → (kk_lp2 (fun (rec_20 : Int32 → kk_St → Prop) (v4_18 : Int32) (σ_19 : kk_St) =>
 (((σ_19.1 0 2) ≤ v4_18 → rec_13 (v3_11 + (1 : Int32)) σ_19) ∧
 (¬ (σ_19.1 0 2) ≤ v4_18 → (kk_lp2 (fun (rec_23 : Int32 → kk_St → Prop) (v5_21 : Int32) (σ_22 : kk_St) =>
 (((2 : Int32) ≤ v5_21 → rec_20 (v4_18 + (1 : Int32)) σ_22) ∧
 (¬ (2 : Int32) ≤ v5_21 → (vp_in v4_18 20 ∧
 (∀ v6_24 : Int32, v6_24 = (((2 : Int32) * (kk_rd σ_22 1 v4_18)) + v5_21) → (vp_in v4_18 20 ∧
 (∀ v7_25 : Int32, v7_25 = ((((2 : Int32) * (kk_rd σ_22 2 v4_18)) + (1 : Int32)) - v5_21) → (vp_in v6_24 18 ∧
 (vp_in v7_25 18 ∧
 (kk_j1 (fun (σ_26 : kk_St) => (vp_in v7_25 18 ∧
 (vp_in v6_24 18 ∧
 (kk_j1 (fun (σ_28 : kk_St) => rec_23 (v5_21 + (1 : Int32)) σ_28)
 (fun (J_29 : kk_St → Prop) => (((kk_rd σ_26 9 v6_24) ≤ ((kk_rd σ_26 9 v7_25) + (1 : Int32)) → J_29 σ_26) ∧
 (¬ (kk_rd σ_26 9 v6_24) ≤ ((kk_rd σ_26 9 v7_25) + (1 : Int32)) → (vp_in v7_25 18 ∧
 (vp_in v6_24 18 ∧
 (∀ σ_30 : kk_St, σ_30 = (kk_wr σ_26 9 (Int32.toNatClampNeg v6_24) ((kk_rd σ_26 9 v7_25) + (1 : Int32))) → J_29 σ_30))))))))))
 (fun (J_27 : kk_St → Prop) => (((kk_rd σ_22 9 v7_25) ≤ ((kk_rd σ_22 9 v6_24) + (1 : Int32)) → J_27 σ_22) ∧
 (¬ (kk_rd σ_22 9 v7_25) ≤ ((kk_rd σ_22 9 v6_24) + (1 : Int32)) → (vp_in v6_24 18 ∧
 (vp_in v7_25 18 ∧
 (∀ σ_32 : kk_St, σ_32 = (kk_wr σ_22 9 (Int32.toNatClampNeg v7_25) ((kk_rd σ_22 9 v6_24) + (1 : Int32))) → J_27 σ_32)))))))))))))))) (0 : Int32) σ_19)))) (0 : Int32) σ_12)))) (0 : Int32) σ_9)) ∧
 (¬ (18 : Int32) ≤ v3_8 → (kk_j1 (fun (t_37 : Int32) => (vp_in v3_8 18 ∧
 (∀ σ_39 : kk_St, σ_39 = (kk_wr σ_9 9 (Int32.toNatClampNeg v3_8) t_37) → rec_10 (v3_8 + (1 : Int32)) σ_39)))
 (fun (J_38 : Int32 → Prop) => ((¬ v3_8 = ((2 : Int32) * v2_2) → J_38 (99 : Int32)) ∧
 (v3_8 = ((2 : Int32) * v2_2) → J_38 (0 : Int32)))))))) (0 : Int32) σ_3)))) (19 : Int32) (0 : Int32) σ)
def f_X11_of (v1 : Int32) (v2 : Int32) (σ : kk_St) (Q : Int32 → Prop) : Prop :=
 (f_X11_isLine v1 σ (fun (r_1 : Int32) =>
 ((¬ r_1 = 0 → ((v2 = nI 0 → (vp_in v1 20 ∧
 Q (kk_rd σ 1 v1))) ∧
 (v2 = nI 1 → (vp_in v1 20 ∧
 Q (kk_rd σ 2 v1))) ∧
 (v2 = nI 2 → (vp_in v1 20 ∧
 (kk_j1 (fun (t_2 : Int32) => Q t_2)
 (fun (J_3 : Int32 → Prop) => ((0 ≤ (kk_rd σ 3 v1) → (vp_in v1 20 ∧
 J_3 (kk_rd σ 3 v1))) ∧
 (¬ 0 ≤ (kk_rd σ 3 v1) → J_3 (-2 : Int32))))))) ∧
 (v2 = nI 3 → (kk_lp2 (fun (rec_7 : Int32 → Int32 → Prop) (v3_5 : Int32) (v4_6 : Int32) =>
 (((σ.1 0 2) ≤ v4_6 → Q v3_5) ∧
 (¬ (σ.1 0 2) ≤ v4_6 → (kk_j1 (fun (v3_8 : Int32) => rec_7 v3_8 (v4_6 + (1 : Int32)))
 (fun (J_9 : Int32 → Prop) => ((v4_6 = v1 → J_9 v3_5) ∧
 (¬ v4_6 = v1 → (f_X11_doMeet v4_6 v1 σ (fun (r_10 : Int32) =>
 ((r_10 = 0 → J_9 v3_5) ∧
 (¬ r_10 = 0 → (∀ v3_11 : Int32, v3_11 = (v3_5 ||| ((1 : Int32) <<< (v4_6 &&& 31))) → J_9 v3_11)))))))))))) (0 : Int32) (0 : Int32))) ∧
 (v2.toInt < 0 ∨ (4 : Int) ≤ v2.toInt → Q (-1 : Int32)))) ∧
 (r_1 = 0 → Q (-1 : Int32)))))
def f_X11_overfull (v1 : Int32) (σ : kk_St) (Q : Int32 → Prop) : Prop :=
 (f_X11_in v1 (0 : Int32) (2 : Int32) (fun (r_1 : Int32) =>
 ((¬ r_1 = 0 → (f_X11_degree σ (fun (r_2 : Int32) =>
 (f_X11_fullSet r_2 σ (fun (r_3 : Int32) =>
 ((¬ r_3 = 0 → (kk_j1 (fun (t_4 : Int32) => Q t_4)
 (fun (J_5 : Int32 → Prop) => ((¬ v1 = 0 → ((¬ v1 = (1 : Int32) → (f_X11_degree σ (fun (r_6 : Int32) =>
 (f_X11_bitsOf r_3 (fun (r_7 : Int32) =>
 J_5 (r_6 * (r_7 / (2 : Int32)))))))) ∧
 (v1 = (1 : Int32) → (f_X11_linesWithin r_3 σ (fun (r_8 : Int32) =>
 J_5 r_8))))) ∧
 (v1 = 0 → J_5 r_3))))) ∧
 (r_3 = 0 → Q (-2 : Int32)))))))) ∧
 (r_1 = 0 → Q (-1 : Int32)))))
def f_X11_paint (v1 : Int32) (v2 : Int32) (σ : kk_St) (Q : Int32 → kk_St → Prop) : Prop :=
 (f_X11_isLine v1 σ (fun (r_1 : Int32) =>
 (kk_j0 (Q (0 : Int32) σ)
 (fun (J_2 : Prop) => ((r_1 = 0 → J_2) ∧
 (¬ r_1 = 0 → (f_X11_isColour v2 σ (fun (r_3 : Int32) =>
 ((r_3 = 0 → J_2) ∧
 (¬ r_3 = 0 → (vp_in v1 20 ∧
 (f_X11_isFreeAt (kk_rd σ 1 v1) v2 σ (fun (r_4 : Int32) =>
 ((r_4 = 0 → J_2) ∧
 (¬ r_4 = 0 → (vp_in v1 20 ∧
 (f_X11_isFreeAt (kk_rd σ 2 v1) v2 σ (fun (r_5 : Int32) =>
 ((¬ r_5 = 0 → (vp_in v1 20 ∧
 (∀ σ_6 : kk_St, σ_6 = (kk_wr σ 3 (Int32.toNatClampNeg v1) v2) → Q (1 : Int32) σ_6))) ∧
 (r_5 = 0 → J_2))))))))))))))))))))
def f_X11_pair (σ : kk_St) (Q : Int32 → kk_St → Prop) : Prop :=
 (f_X11_laysSides σ (fun (r_1 : Int32) (σ_2 : kk_St) =>
 ((¬ r_1 = 0 → (f_X11_degree σ_2 (fun (r_3 : Int32) =>
 (kk_lp2 (fun (rec_6 : Int32 → kk_St → Prop) (v2_4 : Int32) (σ_5 : kk_St) =>
 (((σ_5.1 0 2) ≤ v2_4 → (kk_lp2 (fun (rec_9 : Int32 → kk_St → Prop) (v2_7 : Int32) (σ_8 : kk_St) =>
 (((σ_8.1 0 2) ≤ v2_7 → Q (σ_8.1 0 2) σ_8) ∧
 (¬ (σ_8.1 0 2) ≤ v2_7 → (vp_in v2_7 20 ∧
 (f_X11_usedAt (kk_rd σ_8 1 v2_7) σ_8 (fun (r_10 : Int32) =>
 (vp_in v2_7 20 ∧
 (f_X11_usedAt (kk_rd σ_8 2 v2_7) σ_8 (fun (r_11 : Int32) =>
 (kk_lp1 (fun (rec_13 : Int32 → Prop) (v4_12 : Int32) =>
 (f_X11_has (r_10 ||| r_11) v4_12 (fun (r_14 : Int32) =>
 ((r_14 = 0 → (kk_j2 (fun (v4_15 : Int32) (σ_16 : kk_St) => (vp_in v2_7 20 ∧
 (∀ σ_18 : kk_St, σ_18 = (kk_wr σ_16 3 (Int32.toNatClampNeg v2_7) v4_15) → rec_9 (v2_7 + (1 : Int32)) σ_18)))
 (fun (J_17 : Int32 → kk_St → Prop) => ((v4_12 < r_3 → J_17 v4_12 σ_8) ∧
 (¬ v4_12 < r_3 → (vp_in v2_7 20 ∧
 (f_X11_leastFreeAt (kk_rd σ_8 1 v2_7) σ_8 (fun (r_19 : Int32) =>
 (vp_in v2_7 20 ∧
 (f_X11_leastFreeAt (kk_rd σ_8 2 v2_7) σ_8 (fun (r_20 : Int32) =>
 (vp_in v2_7 20 ∧
 (f_X11_chainIn 3 20 (kk_rd σ_8 2 v2_7) r_19 r_20 σ_8 (fun (r_21 : Int32) (σ_22 : kk_St) =>
 (f_X11_flips 3 20 r_21 r_19 r_20 σ_22 (fun (σ_23 : kk_St) =>
 J_17 r_19 σ_23)))))))))))))))) ∧
 (¬ r_14 = 0 → rec_13 (v4_12 + (1 : Int32))))))) (0 : Int32))))))))))) (0 : Int32) σ_5)) ∧
 (¬ (σ_5.1 0 2) ≤ v2_4 → (vp_in v2_4 20 ∧
 (∀ σ_27 : kk_St, σ_27 = (kk_wr σ_5 3 (Int32.toNatClampNeg v2_4) (-1 : Int32)) → rec_6 (v2_4 + (1 : Int32)) σ_27))))) (0 : Int32) σ_2)))) ∧
 (r_1 = 0 → Q (-2 : Int32) σ_2))))
def f_X11_post (v1 : Int32) (v2 : Int32) (σ : kk_St) (Q : Int32 → Prop) : Prop :=
 (f_X11_isPost v1 σ (fun (r_1 : Int32) =>
 ((¬ r_1 = 0 → ((v2 = nI 0 → (f_X11_allLines σ (fun (r_2 : Int32) =>
 (f_X11_linesAt v1 r_2 σ (fun (r_3 : Int32) =>
 Q r_3))))) ∧
 (v2 = nI 1 → (f_X11_usedAt v1 σ (fun (r_4 : Int32) =>
 Q r_4))) ∧
 (v2 = nI 2 → (f_X11_leastFreeAt v1 σ (fun (r_5 : Int32) =>
 Q r_5))) ∧
 (v2 = nI 3 → (kk_lp2 (fun (rec_8 : Int32 → Int32 → Prop) (v3_6 : Int32) (v4_7 : Int32) =>
 (((σ.1 0 2) ≤ v4_7 → Q v3_6) ∧
 (¬ (σ.1 0 2) ≤ v4_7 → (f_X11_isAt v4_7 v1 σ (fun (r_9 : Int32) =>
 (kk_j1 (fun (v3_10 : Int32) => rec_8 v3_10 (v4_7 + (1 : Int32)))
 (fun (J_11 : Int32 → Prop) => ((r_9 = 0 → J_11 v3_6) ∧
 (¬ r_9 = 0 → (vp_in v4_7 20 ∧
 (((kk_rd σ 3 v4_7) < 0 → J_11 v3_6) ∧
 (¬ (kk_rd σ 3 v4_7) < 0 → (kk_j1 (fun (v4_12 : Int32) => J_11 v4_12)
 (fun (J_13 : Int32 → Prop) => ((v3_6 = (-1 : Int32) → J_13 v4_7) ∧
 (¬ v3_6 = (-1 : Int32) → (vp_in v4_7 20 ∧
 (vp_in v3_6 20 ∧
 (((kk_rd σ 3 v4_7) ≤ (kk_rd σ 3 v3_6) → J_11 v3_6) ∧
 (¬ (kk_rd σ 3 v4_7) ≤ (kk_rd σ 3 v3_6) → J_13 v4_7)))))))))))))))))))) (-1 : Int32) (0 : Int32))) ∧
 (v2.toInt < 0 ∨ (4 : Int) ≤ v2.toInt → Q (-1 : Int32)))) ∧
 (r_1 = 0 → Q (-1 : Int32)))))
def f_X11_refused (v1 : Int32) (v2 : Int32) (σ : kk_St) (Q : Int32 → kk_St → Prop) : Prop :=
 (f_X11_in v1 (0 : Int32) (9 : Int32) (fun (r_1 : Int32) =>
 (kk_j0 (Q (-1 : Int32) σ)
 (fun (J_2 : Prop) => ((r_1 = 0 → J_2) ∧
 (¬ r_1 = 0 → (f_X11_in v2 (0 : Int32) (1 : Int32) (fun (r_3 : Int32) =>
 ((¬ r_3 = 0 → (kk_lp1 (fun (rec_5 : Int32 → Prop) (v3_4 : Int32) =>
 (((σ.1 0 1) ≤ v3_4 → (f_X11_fullSet v1 σ (fun (r_6 : Int32) =>
 ((r_6 = 0 → (kk_j2 (fun (t_7 : Int32) (σ_8 : kk_St) => Q t_7 σ_8)
 (fun (J_9 : Int32 → kk_St → Prop) => (kk_j1 (fun (σ_10 : kk_St) => J_9 (0 : Int32) σ_10)
 (fun (J_11 : kk_St → Prop) => ((v2 = (1 : Int32) → J_11 σ) ∧
 (¬ v2 = (1 : Int32) → (f_X11_allLines σ (fun (r_12 : Int32) =>
 (f_X11_laysFirst r_12 v1 σ (fun (r_13 : Int32) (σ_14 : kk_St) =>
 ((r_13 = 0 → J_9 (3 : Int32) σ_14) ∧
 (¬ r_13 = 0 → J_11 σ_14))))))))))))) ∧
 (¬ r_6 = 0 → (kk_j1 (fun (t_17 : Int32) => Q t_17 σ)
 (fun (J_18 : Int32 → Prop) => ((¬ v2 = 0 → J_18 r_6) ∧
 (v2 = 0 → J_18 (2 : Int32)))))))))) ∧
 (¬ (σ.1 0 1) ≤ v3_4 → (f_X11_allLines σ (fun (r_21 : Int32) =>
 (f_X11_linesAt v3_4 r_21 σ (fun (r_22 : Int32) =>
 ((r_22 ≤ v1 → rec_5 (v3_4 + (1 : Int32))) ∧
 (¬ r_22 ≤ v1 → (kk_j1 (fun (t_23 : Int32) => Q t_23 σ)
 (fun (J_24 : Int32 → Prop) => ((¬ v2 = 0 → J_24 v3_4) ∧
 (v2 = 0 → J_24 (1 : Int32)))))))))))))) (0 : Int32))) ∧
 (r_3 = 0 → J_2))))))))))
def f_X11_sets (v1 : Int32) (σ : kk_St) (Q : Int32 → kk_St → Prop) : Prop :=
 (f_X11_in v1 (0 : Int32) (4 : Int32) (fun (r_1 : Int32) =>
 ((¬ r_1 = 0 → (kk_lp2 (fun (rec_4 : Int32 → kk_St → Prop) (v2_2 : Int32) (σ_3 : kk_St) =>
 (((2560 : Int32) ≤ v2_2 → (f_X11_allPosts σ_3 (fun (r_5 : Int32) =>
 (vp_in ((5 : Int32) * r_5) 2560 ∧
 (∀ σ_6 : kk_St, σ_6 = (kk_wr σ_3 22 (Int32.toNatClampNeg ((5 : Int32) * r_5)) (1 : Int32)) → (kk_lp2 (fun (rec_9 : Int32 → kk_St → Prop) (v2_7 : Int32) (σ_8 : kk_St) =>
 (((σ_8.1 0 2) ≤ v2_7 → (kk_lp2 (fun (rec_12 : Int32 → Int32 → Prop) (v2_10 : Int32) (v3_11 : Int32) =>
 (((512 : Int32) ≤ v3_11 → Q v2_10 σ_8) ∧
 (¬ (512 : Int32) ≤ v3_11 → (vp_in (((5 : Int32) * v3_11) + v1) 2560 ∧
 (∀ v2_13 : Int32, v2_13 = (v2_10 + (kk_rd σ_8 22 (((5 : Int32) * v3_11) + v1))) → rec_12 v2_13 (v3_11 + (1 : Int32))))))) (0 : Int32) (0 : Int32))) ∧
 (¬ (σ_8.1 0 2) ≤ v2_7 → (kk_lp2 (fun (rec_17 : Int32 → kk_St → Prop) (v3_15 : Int32) (σ_16 : kk_St) =>
 (((512 : Int32) ≤ v3_15 → rec_9 (v2_7 + (1 : Int32)) σ_16) ∧
 (¬ (512 : Int32) ≤ v3_15 → (f_X11_areThere v3_15 v2_7 σ_16 (fun (r_18 : Int32) =>
 (kk_j1 (fun (σ_19 : kk_St) => rec_17 (v3_15 + (1 : Int32)) σ_19)
 (fun (J_20 : kk_St → Prop) => ((¬ r_18 = 0 → (kk_lp2 (fun (rec_23 : Int32 → kk_St → Prop) (v4_21 : Int32) (σ_22 : kk_St) =>
 (((4 : Int32) ≤ v4_21 → J_20 σ_22) ∧
 (¬ (4 : Int32) ≤ v4_21 → (f_X11_without v3_15 v2_7 σ_22 (fun (r_24 : Int32) =>
 (vp_in ((((5 : Int32) * r_24) + v4_21) + (1 : Int32)) 2560 ∧
 (vp_in (((5 : Int32) * v3_15) + v4_21) 2560 ∧
 (vp_in ((((5 : Int32) * r_24) + v4_21) + (1 : Int32)) 2560 ∧
 (∀ σ_25 : kk_St, σ_25 = (kk_wr σ_22 22 (Int32.toNatClampNeg ((((5 : Int32) * r_24) + v4_21) + (1 : Int32))) ((kk_rd σ_22 22 ((((5 : Int32) * r_24) + v4_21) + (1 : Int32))) + (kk_rd σ_22 22 (((5 : Int32) * v3_15) + v4_21)))) → rec_23 (v4_21 + (1 : Int32)) σ_25))))))))) (0 : Int32) σ_16)) ∧
 (r_18 = 0 → J_20 σ_16))))))))) (0 : Int32) σ_8)))) (0 : Int32) σ_6)))))) ∧
 (¬ (2560 : Int32) ≤ v2_2 → (vp_in v2_2 2560 ∧
 (∀ σ_30 : kk_St, σ_30 = (kk_wr σ_3 22 (Int32.toNatClampNeg v2_2) (0 : Int32)) → rec_4 (v2_2 + (1 : Int32)) σ_30))))) (0 : Int32) σ)) ∧
 (r_1 = 0 → Q (-1 : Int32) σ))))
def f_X11_sides (v1 : Int32) (σ : kk_St) (Q : Int32 → kk_St → Prop) : Prop :=
 (f_X11_in v1 (0 : Int32) (2 : Int32) (fun (r_1 : Int32) =>
 ((¬ r_1 = 0 → ((¬ v1 = (2 : Int32) → (f_X11_laysSides σ (fun (r_2 : Int32) (σ_3 : kk_St) =>
 ((¬ v1 = 0 → ((¬ r_2 = 0 → (kk_lp2 (fun (rec_6 : Int32 → Int32 → Prop) (v3_4 : Int32) (v4_5 : Int32) =>
 (((σ_3.1 0 1) ≤ v4_5 → Q v3_4 σ_3) ∧
 (¬ (σ_3.1 0 1) ≤ v4_5 → (vp_in v4_5 9 ∧
 (kk_j1 (fun (v3_7 : Int32) => rec_6 v3_7 (v4_5 + (1 : Int32)))
 (fun (J_8 : Int32 → Prop) => ((¬ (kk_rd σ_3 8 v4_5) = 0 → J_8 v3_4) ∧
 ((kk_rd σ_3 8 v4_5) = 0 → (∀ v3_9 : Int32, v3_9 = (v3_4 ||| ((1 : Int32) <<< (v4_5 &&& 31))) → J_8 v3_9))))))))) (0 : Int32) (0 : Int32))) ∧
 (r_2 = 0 → Q (-2 : Int32) σ_3))) ∧
 (v1 = 0 → (kk_j1 (fun (t_13 : Int32) => Q t_13 σ_3)
 (fun (J_14 : Int32 → Prop) => ((r_2 = 0 → J_14 (0 : Int32)) ∧
 (¬ r_2 = 0 → J_14 (1 : Int32)))))))))) ∧
 (v1 = (2 : Int32) → (f_X11_oddRound σ (fun (r_17 : Int32) (σ_18 : kk_St) =>
 Q r_17 σ_18))))) ∧
 (r_1 = 0 → Q (-1 : Int32) σ))))
def f_X11_swap (v1 : Int32) (v2 : Int32) (σ : kk_St) (Q : Int32 → kk_St → Prop) : Prop :=
 (f_X11_areColours v1 v2 σ (fun (r_1 : Int32) =>
 ((¬ r_1 = 0 → (f_X11_swaps v1 v2 σ (fun (r_2 : Int32) (σ_3 : kk_St) =>
 Q r_2 σ_3))) ∧
 (r_1 = 0 → Q (-1 : Int32) σ))))
def f_X11_take (v1 : Int32) (σ : kk_St) (Q : Int32 → kk_St → Prop) : Prop :=
 (f_X11_degree σ (fun (r_1 : Int32) =>
 (f_X11_in v1 (0 : Int32) (r_1 + (1 : Int32)) (fun (r_2 : Int32) =>
 (kk_j1 (fun (σ_3 : kk_St) => Q (0 : Int32) σ_3)
 (fun (J_4 : kk_St → Prop) => ((r_2 = 0 → J_4 σ) ∧
 (¬ r_2 = 0 → (f_X11_allLines σ (fun (r_5 : Int32) =>
 (f_X11_laysFirst r_5 v1 σ (fun (r_6 : Int32) (σ_7 : kk_St) =>
 ((¬ r_6 = 0 → (kk_lp2 (fun (rec_10 : Int32 → kk_St → Prop) (v2_8 : Int32) (σ_9 : kk_St) =>
 (((σ_9.1 0 2) ≤ v2_8 → Q (1 : Int32) σ_9) ∧
 (¬ (σ_9.1 0 2) ≤ v2_8 → (vp_in v2_8 20 ∧
 (vp_in v2_8 20 ∧
 (∀ σ_11 : kk_St, σ_11 = (kk_wr σ_9 3 (Int32.toNatClampNeg v2_8) (kk_rd σ_9 11 v2_8)) → rec_10 (v2_8 + (1 : Int32)) σ_11)))))) (0 : Int32) σ_7)) ∧
 (r_6 = 0 → J_4 σ_7))))))))))))))
def f_X11_turn (v1 : Int32) (v2 : Int32) (v3 : Int32) (σ : kk_St) (Q : Int32 → kk_St → Prop) : Prop :=
 (f_X11_isChain v1 v2 v3 σ (fun (r_1 : Int32) =>
 ((¬ r_1 = 0 → (f_X11_chainIn 3 20 v1 v2 v3 σ (fun (r_2 : Int32) (σ_3 : kk_St) =>
 (f_X11_flips 3 20 r_2 v2 v3 σ_3 (fun (σ_4 : kk_St) =>
 (f_X11_bitsOf r_2 (fun (r_5 : Int32) =>
 Q r_5 σ_4))))))) ∧
 (r_1 = 0 → Q (-1 : Int32) σ))))
def f_X11_turns (v1 : Int32) (σ : kk_St) (Q : Int32 → kk_St → Prop) : Prop :=
 (f_X11_in v1 (1 : Int32) (4 : Int32) (fun (r_1 : Int32) =>
 (kk_j0 (Q (-1 : Int32) σ)
 (fun (J_2 : Prop) => ((r_1 = 0 → J_2) ∧
 (¬ r_1 = 0 → (((σ.1 0 8) = 0 → J_2) ∧
 (¬ (σ.1 0 8) = 0 → (((6 : Int32) < (σ.1 0 2) → J_2) ∧
 (¬ (6 : Int32) < (σ.1 0 2) → (f_X11_areBelow 5 20 v1 σ (fun (r_3 : Int32) =>
 ((r_3 = 0 → J_2) ∧
 (¬ r_3 = 0 → (f_X11_areBelow 3 20 v1 σ (fun (r_4 : Int32) =>
 ((¬ r_4 = 0 → (kk_lp2 (fun (rec_7 : Int32 → kk_St → Prop) (v2_5 : Int32) (σ_6 : kk_St) =>
 (f_X11_codes v1 σ_6 (fun (r_8 : Int32) =>
 ((r_8 ≤ v2_5 → (f_X11_codeOf 5 20 v1 σ_6 (fun (r_9 : Int32) =>
 (f_X11_spreads r_9 v1 (1 : Int32) σ_6 (fun (σ_10 : kk_St) =>
 (f_X11_codeOf 3 20 v1 σ_10 (fun (r_11 : Int32) =>
 (vp_in r_11 4096 ∧
 (kk_j1 (fun (t_12 : Int32) => Q t_12 σ_10)
 (fun (J_13 : Int32 → Prop) => ((¬ (kk_rd σ_10 19 r_11) = 0 → J_13 ((kk_rd σ_10 19 r_11) - (1 : Int32))) ∧
 ((kk_rd σ_10 19 r_11) = 0 → J_13 (-2 : Int32))))))))))))) ∧
 (¬ r_8 ≤ v2_5 → (vp_in v2_5 4096 ∧
 (∀ σ_15 : kk_St, σ_15 = (kk_wr σ_6 19 (Int32.toNatClampNeg v2_5) (0 : Int32)) → rec_7 (v2_5 + (1 : Int32)) σ_15))))))) (0 : Int32) σ)) ∧
 (r_4 = 0 → J_2))))))))))))))))))
def f_X11_unlike (v1 : Int32) (σ : kk_St) (Q : Int32 → Prop) : Prop :=
 (f_X11_in v1 (0 : Int32) (1 : Int32) (fun (r_1 : Int32) =>
 ((¬ r_1 = 0 → ((¬ (σ.1 0 8) = 0 → (kk_j1 (fun (t_2 : Int32) => Q t_2)
 (fun (J_3 : Int32 → Prop) => ((¬ v1 = 0 → (f_X11_areLike σ (fun (r_4 : Int32) =>
 ((r_4 = 0 → J_3 (0 : Int32)) ∧
 (¬ r_4 = 0 → J_3 (1 : Int32)))))) ∧
 (v1 = 0 → (f_X11_unlikeMany σ (fun (r_6 : Int32) =>
 J_3 r_6))))))) ∧
 ((σ.1 0 8) = 0 → Q (-2 : Int32)))) ∧
 (r_1 = 0 → Q (-1 : Int32)))))
def f_X11_ways (v1 : Int32) (σ : kk_St) (Q : Int64 → kk_St → Prop) : Prop :=
 (f_X11_in v1 (0 : Int32) (9 : Int32) (fun (r_1 : Int32) =>
 ((¬ r_1 = 0 → (((σ.1 0 2) ≤ (9 : Int32) → (f_X11_laysParted σ (fun (σ_2 : kk_St) =>
 (kk_lp2 (fun (rec_5 : Int64 → Int32 → Prop) (v2_3 : Int64) (v4_4 : Int32) =>
 (((σ_2.1 0 2) < v4_4 → Q v2_3 σ_2) ∧
 (¬ (σ_2.1 0 2) < v4_4 → (kk_lp2 (fun (rec_8 : Int64 → Int32 → Prop) (v5_6 : Int64) (v7_7 : Int32) =>
 ((v4_4 ≤ v7_7 → (vp_in v4_4 10 ∧
 (∀ v2_9 : Int64, v2_9 = (v2_3 + ((σ_2.2 (Int32.toNatClampNeg v4_4)) * v5_6)) → rec_5 v2_9 (v4_4 + (1 : Int32))))) ∧
 (¬ v4_4 ≤ v7_7 → (∀ v5_10 : Int64, v5_10 = (v5_6 * (Int32.toInt64 (v1 - v7_7))) → rec_8 v5_10 (v7_7 + (1 : Int32)))))) (1 : Int64) (0 : Int32))))) (0 : Int64) (0 : Int32))))) ∧
 (¬ (σ.1 0 2) ≤ (9 : Int32) → Q (-2 : Int64) σ))) ∧
 (r_1 = 0 → Q (-1 : Int64) σ))))
end
section
theorem kk_tops {Z : kk_Z} {sh : List kk_Sh} {own : String} {cc : ByteArray} {nL : Nat} {ret : Option FieldType} {R : Room} {Qc : kk_Qt} {pc : Nat} {lv : List (Nat × Value)} {st : List Value} {σ : kk_St} (k : ∀ τ : kk_St, τ = σ → KK Z sh own cc nL ret R Qc pc lv st τ) : KK Z sh own cc nL ret R Qc pc lv st σ := k σ rfl
theorem kk_fitR {nL d' d : Nat} (h : d' < d) (h2 : nL ≤ 45) : kk_fit nL (kk_R d') (kk_R d) := ⟨rfl, rfl, h, by show 8 + (nL + 11) + 64 * d' ≤ 64 * d; omega⟩
theorem ws_X0 : ∀ w ∈ u_ws RX0 TX0 3, w ∈ kk_good := kk_gall (by decide +kernel)
theorem ws_X1 : ∀ w ∈ u_ws RX1 TX1 5, w ∈ kk_good := kk_gall (by decide +kernel)
theorem ws_X2 : ∀ w ∈ u_ws RX2 TX2 2, w ∈ kk_good := kk_gall (by decide +kernel)
theorem ws_X3 : ∀ w ∈ u_ws RX3 TX3 3, w ∈ kk_good := kk_gall (by decide +kernel)
theorem ws_X4 : ∀ w ∈ u_ws RX4 TX4 4, w ∈ kk_good := kk_gall (by decide +kernel)
theorem ws_X5 : ∀ w ∈ u_ws RX5 TX5 5, w ∈ kk_good := kk_gall (by decide +kernel)
theorem ws_X6 : ∀ w ∈ u_ws RX6 TX6 8, w ∈ kk_good := kk_gall (by decide +kernel)
theorem ws_X7 : ∀ w ∈ u_ws RX7 TX7 8, w ∈ kk_good := kk_gall (by decide +kernel)
theorem ws_X8 : ∀ w ∈ u_ws RX8 TX8 3, w ∈ kk_good := kk_gall (by decide +kernel)
theorem ws_X9 : ∀ w ∈ u_ws RX9 TX9 7, w ∈ kk_good := kk_gall (by decide +kernel)
theorem ws_X10 : ∀ w ∈ u_ws RX10 TX10 13, w ∈ kk_good := kk_gall (by decide +kernel)
theorem ws_X11 : ∀ w ∈ u_ws RX11 TX11 31, w ∈ kk_good := kk_gall (by decide +kernel)
theorem fn_X1_2 : kk_FN 1 2 := ⟨RX1, TX1, 5, rfl, rfl⟩
theorem fn_X1_3 : kk_FN 1 3 := ⟨RX1, TX1, 5, rfl, rfl⟩
theorem fn_X1_4 : kk_FN 1 4 := ⟨RX1, TX1, 5, rfl, rfl⟩
theorem fn_X10_12 : kk_FN 10 12 := ⟨RX10, TX10, 13, rfl, rfl⟩
theorem fn_X11_1 : kk_FN 11 1 := ⟨RX11, TX11, 31, rfl, rfl⟩
theorem fn_X11_2 : kk_FN 11 2 := ⟨RX11, TX11, 31, rfl, rfl⟩
theorem fn_X11_8 : kk_FN 11 8 := ⟨RX11, TX11, 31, rfl, rfl⟩
theorem fn_X11_9 : kk_FN 11 9 := ⟨RX11, TX11, 31, rfl, rfl⟩
theorem fn_X11_11 : kk_FN 11 11 := ⟨RX11, TX11, 31, rfl, rfl⟩
theorem fn_X11_12 : kk_FN 11 12 := ⟨RX11, TX11, 31, rfl, rfl⟩
theorem fn_X11_17 : kk_FN 11 17 := ⟨RX11, TX11, 31, rfl, rfl⟩
theorem fn_X11_23 : kk_FN 11 23 := ⟨RX11, TX11, 31, rfl, rfl⟩
theorem fn_X4_3 : kk_FN 4 3 := ⟨RX4, TX4, 4, rfl, rfl⟩
theorem fn_X5_4 : kk_FN 5 4 := ⟨RX5, TX5, 5, rfl, rfl⟩
theorem fn_X6_5 : kk_FN 6 5 := ⟨RX6, TX6, 8, rfl, rfl⟩
theorem fn_X6_6 : kk_FN 6 6 := ⟨RX6, TX6, 8, rfl, rfl⟩
theorem fn_X6_7 : kk_FN 6 7 := ⟨RX6, TX6, 8, rfl, rfl⟩
theorem fn_X7_4 : kk_FN 7 4 := ⟨RX7, TX7, 8, rfl, rfl⟩
theorem fn_X7_5 : kk_FN 7 5 := ⟨RX7, TX7, 8, rfl, rfl⟩
theorem fn_X7_6 : kk_FN 7 6 := ⟨RX7, TX7, 8, rfl, rfl⟩
theorem fn_X7_7 : kk_FN 7 7 := ⟨RX7, TX7, 8, rfl, rfl⟩
theorem fn_X9_5 : kk_FN 9 5 := ⟨RX9, TX9, 7, rfl, rfl⟩
theorem fn_X9_6 : kk_FN 9 6 := ⟨RX9, TX9, 7, rfl, rfl⟩
theorem fl_X0_9 : kk_FL RX0 9 0 1 (.array .int) := ⟨RX0, TX0, 3, tyX0, rfl, by decide, ws_X0, tyX0_ok, nmX0, rfl, by decide +kernel, Or.inl (kk_gm 380 (by decide +kernel) rfl)⟩
theorem fl_X0_15 : kk_FL RX0 15 0 2 (.array .int) := ⟨RX0, TX0, 3, tyX0, rfl, by decide, ws_X0, tyX0_ok, nmX0, rfl, by decide +kernel, Or.inl (kk_gm 382 (by decide +kernel) rfl)⟩
theorem fl_X0_18 : kk_FL RX0 18 0 0 (.object "LineColours$Network") := ⟨RX0, TX0, 3, tyX0, rfl, by decide, ws_X0, tyX0_ok, nmX0, rfl, by decide +kernel, Or.inl (kk_gm 379 (by decide +kernel) rfl)⟩
theorem fl_X0_32 : kk_FL RX0 32 6 6 .int := ⟨RX6, TX6, 8, tyX6, rfl, by decide, ws_X6, tyX6_ok, nmX6, rfl, by decide +kernel, Or.inr ⟨"LineColours", kk_nm 207 (by decide +kernel) rfl⟩⟩
theorem fl_X0_38 : kk_FL RX0 38 6 2 (.array .int) := ⟨RX6, TX6, 8, tyX6, rfl, by decide, ws_X6, tyX6_ok, nmX6, rfl, by decide +kernel, Or.inr ⟨"LineColours", kk_nm 190 (by decide +kernel) rfl⟩⟩
theorem fl_X1_7 : kk_FL RX1 7 1 2 .int := ⟨RX1, TX1, 5, tyX1, rfl, by decide, ws_X1, tyX1_ok, nmX1, rfl, by decide +kernel, Or.inl (kk_gm 324 (by decide +kernel) rfl)⟩
theorem fl_X1_13 : kk_FL RX1 13 1 3 .int := ⟨RX1, TX1, 5, tyX1, rfl, by decide, ws_X1, tyX1_ok, nmX1, rfl, by decide +kernel, Or.inl (kk_gm 326 (by decide +kernel) rfl)⟩
theorem fl_X1_16 : kk_FL RX1 16 1 4 .int := ⟨RX1, TX1, 5, tyX1, rfl, by decide, ws_X1, tyX1_ok, nmX1, rfl, by decide +kernel, Or.inl (kk_gm 328 (by decide +kernel) rfl)⟩
theorem fl_X1_19 : kk_FL RX1 19 1 0 (.object "LineColours$Network") := ⟨RX1, TX1, 5, tyX1, rfl, by decide, ws_X1, tyX1_ok, nmX1, rfl, by decide +kernel, Or.inl (kk_gm 322 (by decide +kernel) rfl)⟩
theorem fl_X1_23 : kk_FL RX1 23 1 1 (.object "LineColours$Colouring") := ⟨RX1, TX1, 5, tyX1, rfl, by decide, ws_X1, tyX1_ok, nmX1, rfl, by decide +kernel, Or.inl (kk_gm 323 (by decide +kernel) rfl)⟩
theorem fl_X1_27 : kk_FL RX1 27 6 5 .int := ⟨RX6, TX6, 8, tyX6, rfl, by decide, ws_X6, tyX6_ok, nmX6, rfl, by decide +kernel, Or.inr ⟨"LineColours", kk_nm 200 (by decide +kernel) rfl⟩⟩
theorem fl_X10_10 : kk_FL RX10 10 10 0 (.object "LineColours$Network") := ⟨RX10, TX10, 13, tyX10, rfl, by decide, ws_X10, tyX10_ok, nmX10, rfl, by decide +kernel, Or.inl (kk_gm 435 (by decide +kernel) rfl)⟩
theorem fl_X10_21 : kk_FL RX10 21 10 1 (.object "LineColours$Colouring") := ⟨RX10, TX10, 13, tyX10, rfl, by decide, ws_X10, tyX10_ok, nmX10, rfl, by decide +kernel, Or.inl (kk_gm 436 (by decide +kernel) rfl)⟩
theorem fl_X10_30 : kk_FL RX10 30 10 2 (.object "LineColours$Fan") := ⟨RX10, TX10, 13, tyX10, rfl, by decide, ws_X10, tyX10_ok, nmX10, rfl, by decide +kernel, Or.inl (kk_gm 437 (by decide +kernel) rfl)⟩
theorem fl_X10_39 : kk_FL RX10 39 10 3 (.object "LineColours$Grower") := ⟨RX10, TX10, 13, tyX10, rfl, by decide, ws_X10, tyX10_ok, nmX10, rfl, by decide +kernel, Or.inl (kk_gm 438 (by decide +kernel) rfl)⟩
theorem fl_X10_46 : kk_FL RX10 46 10 4 (.object "LineColours$ChainWalk") := ⟨RX10, TX10, 13, tyX10, rfl, by decide, ws_X10, tyX10_ok, nmX10, rfl, by decide +kernel, Or.inl (kk_gm 439 (by decide +kernel) rfl)⟩
theorem fl_X10_53 : kk_FL RX10 53 10 5 (.object "LineColours$Calmer") := ⟨RX10, TX10, 13, tyX10, rfl, by decide, ws_X10, tyX10_ok, nmX10, rfl, by decide +kernel, Or.inl (kk_gm 440 (by decide +kernel) rfl)⟩
theorem fl_X10_60 : kk_FL RX10 60 10 6 (.object "LineColours$Search") := ⟨RX10, TX10, 13, tyX10, rfl, by decide, ws_X10, tyX10_ok, nmX10, rfl, by decide +kernel, Or.inl (kk_gm 441 (by decide +kernel) rfl)⟩
theorem fl_X10_67 : kk_FL RX10 67 10 7 (.object "LineColours$Apart") := ⟨RX10, TX10, 13, tyX10, rfl, by decide, ws_X10, tyX10_ok, nmX10, rfl, by decide +kernel, Or.inl (kk_gm 442 (by decide +kernel) rfl)⟩
theorem fl_X10_74 : kk_FL RX10 74 10 8 (.object "LineColours$Sharing") := ⟨RX10, TX10, 13, tyX10, rfl, by decide, ws_X10, tyX10_ok, nmX10, rfl, by decide +kernel, Or.inl (kk_gm 443 (by decide +kernel) rfl)⟩
theorem fl_X10_81 : kk_FL RX10 81 10 9 (.object "LineColours$Turning") := ⟨RX10, TX10, 13, tyX10, rfl, by decide, ws_X10, tyX10_ok, nmX10, rfl, by decide +kernel, Or.inl (kk_gm 444 (by decide +kernel) rfl)⟩
theorem fl_X10_85 : kk_FL RX10 85 10 10 (.array .int) := ⟨RX10, TX10, 13, tyX10, rfl, by decide, ws_X10, tyX10_ok, nmX10, rfl, by decide +kernel, Or.inl (kk_gm 445 (by decide +kernel) rfl)⟩
theorem fl_X10_89 : kk_FL RX10 89 10 11 (.array .int) := ⟨RX10, TX10, 13, tyX10, rfl, by decide, ws_X10, tyX10_ok, nmX10, rfl, by decide +kernel, Or.inl (kk_gm 446 (by decide +kernel) rfl)⟩
theorem fl_X10_92 : kk_FL RX10 92 10 12 .boolean := ⟨RX10, TX10, 13, tyX10, rfl, by decide, ws_X10, tyX10_ok, nmX10, rfl, by decide +kernel, Or.inl (kk_gm 447 (by decide +kernel) rfl)⟩
theorem fl_X10_102 : kk_FL RX10 102 5 4 .boolean := ⟨RX5, TX5, 5, tyX5, rfl, by decide, ws_X5, tyX5_ok, nmX5, rfl, by decide +kernel, Or.inr ⟨"LineColours", kk_nm 291 (by decide +kernel) rfl⟩⟩
theorem fl_X10_112 : kk_FL RX10 112 6 6 .int := ⟨RX6, TX6, 8, tyX6, rfl, by decide, ws_X6, tyX6_ok, nmX6, rfl, by decide +kernel, Or.inr ⟨"LineColours", kk_nm 206 (by decide +kernel) rfl⟩⟩
theorem fl_X10_137 : kk_FL RX10 137 3 1 (.array .int) := ⟨RX3, TX3, 3, tyX3, rfl, by decide, ws_X3, tyX3_ok, nmX3, rfl, by decide +kernel, Or.inr ⟨"LineColours", kk_nm 244 (by decide +kernel) rfl⟩⟩
theorem fl_X10_160 : kk_FL RX10 160 3 2 (.array .int) := ⟨RX3, TX3, 3, tyX3, rfl, by decide, ws_X3, tyX3_ok, nmX3, rfl, by decide +kernel, Or.inr ⟨"LineColours", kk_nm 248 (by decide +kernel) rfl⟩⟩
theorem fl_X10_182 : kk_FL RX10 182 7 3 (.array .int) := ⟨RX7, TX7, 8, tyX7, rfl, by decide, ws_X7, tyX7_ok, nmX7, rfl, by decide +kernel, Or.inr ⟨"LineColours", kk_nm 351 (by decide +kernel) rfl⟩⟩
theorem fl_X10_194 : kk_FL RX10 194 5 3 (.array .int) := ⟨RX5, TX5, 5, tyX5, rfl, by decide, ws_X5, tyX5_ok, nmX5, rfl, by decide +kernel, Or.inr ⟨"LineColours", kk_nm 289 (by decide +kernel) rfl⟩⟩
theorem fl_X10_197 : kk_FL RX10 197 6 0 (.array .int) := ⟨RX6, TX6, 8, tyX6, rfl, by decide, ws_X6, tyX6_ok, nmX6, rfl, by decide +kernel, Or.inr ⟨"LineColours", kk_nm 184 (by decide +kernel) rfl⟩⟩
theorem fl_X10_200 : kk_FL RX10 200 6 1 (.array .int) := ⟨RX6, TX6, 8, tyX6, rfl, by decide, ws_X6, tyX6_ok, nmX6, rfl, by decide +kernel, Or.inr ⟨"LineColours", kk_nm 187 (by decide +kernel) rfl⟩⟩
theorem fl_X10_203 : kk_FL RX10 203 6 2 (.array .int) := ⟨RX6, TX6, 8, tyX6, rfl, by decide, ws_X6, tyX6_ok, nmX6, rfl, by decide +kernel, Or.inr ⟨"LineColours", kk_nm 193 (by decide +kernel) rfl⟩⟩
theorem fl_X10_212 : kk_FL RX10 212 6 3 (.array .int) := ⟨RX6, TX6, 8, tyX6, rfl, by decide, ws_X6, tyX6_ok, nmX6, rfl, by decide +kernel, Or.inr ⟨"LineColours", kk_nm 196 (by decide +kernel) rfl⟩⟩
theorem fl_X10_239 : kk_FL RX10 239 1 2 .int := ⟨RX1, TX1, 5, tyX1, rfl, by decide, ws_X1, tyX1_ok, nmX1, rfl, by decide +kernel, Or.inr ⟨"LineColours", kk_nm 325 (by decide +kernel) rfl⟩⟩
theorem fl_X10_242 : kk_FL RX10 242 1 3 .int := ⟨RX1, TX1, 5, tyX1, rfl, by decide, ws_X1, tyX1_ok, nmX1, rfl, by decide +kernel, Or.inr ⟨"LineColours", kk_nm 327 (by decide +kernel) rfl⟩⟩
theorem fl_X10_245 : kk_FL RX10 245 1 4 .int := ⟨RX1, TX1, 5, tyX1, rfl, by decide, ws_X1, tyX1_ok, nmX1, rfl, by decide +kernel, Or.inr ⟨"LineColours", kk_nm 329 (by decide +kernel) rfl⟩⟩
theorem fl_X10_251 : kk_FL RX10 251 4 3 .int := ⟨RX4, TX4, 4, tyX4, rfl, by decide, ws_X4, tyX4_ok, nmX4, rfl, by decide +kernel, Or.inr ⟨"LineColours", kk_nm 269 (by decide +kernel) rfl⟩⟩
theorem fl_X10_254 : kk_FL RX10 254 4 2 (.array .int) := ⟨RX4, TX4, 4, tyX4, rfl, by decide, ws_X4, tyX4_ok, nmX4, rfl, by decide +kernel, Or.inr ⟨"LineColours", kk_nm 266 (by decide +kernel) rfl⟩⟩
theorem fl_X10_266 : kk_FL RX10 266 6 7 .int := ⟨RX6, TX6, 8, tyX6, rfl, by decide, ws_X6, tyX6_ok, nmX6, rfl, by decide +kernel, Or.inr ⟨"LineColours", kk_nm 214 (by decide +kernel) rfl⟩⟩
theorem fl_X10_294 : kk_FL RX10 294 0 1 (.array .int) := ⟨RX0, TX0, 3, tyX0, rfl, by decide, ws_X0, tyX0_ok, nmX0, rfl, by decide +kernel, Or.inr ⟨"LineColours", kk_nm 381 (by decide +kernel) rfl⟩⟩
theorem fl_X10_320 : kk_FL RX10 320 0 2 (.array .int) := ⟨RX0, TX0, 3, tyX0, rfl, by decide, ws_X0, tyX0_ok, nmX0, rfl, by decide +kernel, Or.inr ⟨"LineColours", kk_nm 383 (by decide +kernel) rfl⟩⟩
theorem fl_X10_335 : kk_FL RX10 335 6 5 .int := ⟨RX6, TX6, 8, tyX6, rfl, by decide, ws_X6, tyX6_ok, nmX6, rfl, by decide +kernel, Or.inr ⟨"LineColours", kk_nm 202 (by decide +kernel) rfl⟩⟩
theorem fl_X11_21 : kk_FL RX11 21 11 1 .int := ⟨RX11, TX11, 31, tyX11, rfl, by decide, ws_X11, tyX11_ok, nmX11, rfl, by decide +kernel, Or.inl (kk_gm 1086 (by decide +kernel) rfl)⟩
theorem fl_X11_24 : kk_FL RX11 24 11 3 (.array .int) := ⟨RX11, TX11, 31, tyX11, rfl, by decide, ws_X11, tyX11_ok, nmX11, rfl, by decide +kernel, Or.inl (kk_gm 1088 (by decide +kernel) rfl)⟩
theorem fl_X11_28 : kk_FL RX11 28 11 4 (.array .int) := ⟨RX11, TX11, 31, tyX11, rfl, by decide, ws_X11, tyX11_ok, nmX11, rfl, by decide +kernel, Or.inl (kk_gm 1089 (by decide +kernel) rfl)⟩
theorem fl_X11_31 : kk_FL RX11 31 11 5 (.array .int) := ⟨RX11, TX11, 31, tyX11, rfl, by decide, ws_X11, tyX11_ok, nmX11, rfl, by decide +kernel, Or.inl (kk_gm 1090 (by decide +kernel) rfl)⟩
theorem fl_X11_34 : kk_FL RX11 34 11 6 (.array .int) := ⟨RX11, TX11, 31, tyX11, rfl, by decide, ws_X11, tyX11_ok, nmX11, rfl, by decide +kernel, Or.inl (kk_gm 1091 (by decide +kernel) rfl)⟩
theorem fl_X11_37 : kk_FL RX11 37 11 7 (.array .int) := ⟨RX11, TX11, 31, tyX11, rfl, by decide, ws_X11, tyX11_ok, nmX11, rfl, by decide +kernel, Or.inl (kk_gm 1092 (by decide +kernel) rfl)⟩
theorem fl_X11_40 : kk_FL RX11 40 11 10 (.array .int) := ⟨RX11, TX11, 31, tyX11, rfl, by decide, ws_X11, tyX11_ok, nmX11, rfl, by decide +kernel, Or.inl (kk_gm 1095 (by decide +kernel) rfl)⟩
theorem fl_X11_43 : kk_FL RX11 43 11 13 (.array .int) := ⟨RX11, TX11, 31, tyX11, rfl, by decide, ws_X11, tyX11_ok, nmX11, rfl, by decide +kernel, Or.inl (kk_gm 1098 (by decide +kernel) rfl)⟩
theorem fl_X11_46 : kk_FL RX11 46 11 14 (.array .int) := ⟨RX11, TX11, 31, tyX11, rfl, by decide, ws_X11, tyX11_ok, nmX11, rfl, by decide +kernel, Or.inl (kk_gm 1099 (by decide +kernel) rfl)⟩
theorem fl_X11_49 : kk_FL RX11 49 11 15 (.array .int) := ⟨RX11, TX11, 31, tyX11, rfl, by decide, ws_X11, tyX11_ok, nmX11, rfl, by decide +kernel, Or.inl (kk_gm 1100 (by decide +kernel) rfl)⟩
theorem fl_X11_52 : kk_FL RX11 52 11 16 (.array .int) := ⟨RX11, TX11, 31, tyX11, rfl, by decide, ws_X11, tyX11_ok, nmX11, rfl, by decide +kernel, Or.inl (kk_gm 1101 (by decide +kernel) rfl)⟩
theorem fl_X11_55 : kk_FL RX11 55 11 18 (.array .int) := ⟨RX11, TX11, 31, tyX11, rfl, by decide, ws_X11, tyX11_ok, nmX11, rfl, by decide +kernel, Or.inl (kk_gm 1103 (by decide +kernel) rfl)⟩
theorem fl_X11_58 : kk_FL RX11 58 11 19 (.array .int) := ⟨RX11, TX11, 31, tyX11, rfl, by decide, ws_X11, tyX11_ok, nmX11, rfl, by decide +kernel, Or.inl (kk_gm 1104 (by decide +kernel) rfl)⟩
theorem fl_X11_61 : kk_FL RX11 61 11 20 (.array .int) := ⟨RX11, TX11, 31, tyX11, rfl, by decide, ws_X11, tyX11_ok, nmX11, rfl, by decide +kernel, Or.inl (kk_gm 1105 (by decide +kernel) rfl)⟩
theorem fl_X11_64 : kk_FL RX11 64 11 21 (.array .int) := ⟨RX11, TX11, 31, tyX11, rfl, by decide, ws_X11, tyX11_ok, nmX11, rfl, by decide +kernel, Or.inl (kk_gm 1106 (by decide +kernel) rfl)⟩
theorem fl_X11_67 : kk_FL RX11 67 11 22 (.array .int) := ⟨RX11, TX11, 31, tyX11, rfl, by decide, ws_X11, tyX11_ok, nmX11, rfl, by decide +kernel, Or.inl (kk_gm 1107 (by decide +kernel) rfl)⟩
theorem fl_X11_70 : kk_FL RX11 70 11 24 (.array .int) := ⟨RX11, TX11, 31, tyX11, rfl, by decide, ws_X11, tyX11_ok, nmX11, rfl, by decide +kernel, Or.inl (kk_gm 1109 (by decide +kernel) rfl)⟩
theorem fl_X11_73 : kk_FL RX11 73 11 25 (.array .long) := ⟨RX11, TX11, 31, tyX11, rfl, by decide, ws_X11, tyX11_ok, nmX11, rfl, by decide +kernel, Or.inl (kk_gm 1110 (by decide +kernel) rfl)⟩
theorem fl_X11_77 : kk_FL RX11 77 11 26 (.array .int) := ⟨RX11, TX11, 31, tyX11, rfl, by decide, ws_X11, tyX11_ok, nmX11, rfl, by decide +kernel, Or.inl (kk_gm 1111 (by decide +kernel) rfl)⟩
theorem fl_X11_80 : kk_FL RX11 80 11 27 (.array .int) := ⟨RX11, TX11, 31, tyX11, rfl, by decide, ws_X11, tyX11_ok, nmX11, rfl, by decide +kernel, Or.inl (kk_gm 1112 (by decide +kernel) rfl)⟩
theorem fl_X11_83 : kk_FL RX11 83 11 28 (.array .int) := ⟨RX11, TX11, 31, tyX11, rfl, by decide, ws_X11, tyX11_ok, nmX11, rfl, by decide +kernel, Or.inl (kk_gm 1113 (by decide +kernel) rfl)⟩
theorem fl_X11_86 : kk_FL RX11 86 11 29 (.array .int) := ⟨RX11, TX11, 31, tyX11, rfl, by decide, ws_X11, tyX11_ok, nmX11, rfl, by decide +kernel, Or.inl (kk_gm 1114 (by decide +kernel) rfl)⟩
theorem fl_X11_89 : kk_FL RX11 89 11 30 (.array .int) := ⟨RX11, TX11, 31, tyX11, rfl, by decide, ws_X11, tyX11_ok, nmX11, rfl, by decide +kernel, Or.inl (kk_gm 1115 (by decide +kernel) rfl)⟩
theorem fl_X11_96 : kk_FL RX11 96 11 2 .int := ⟨RX11, TX11, 31, tyX11, rfl, by decide, ws_X11, tyX11_ok, nmX11, rfl, by decide +kernel, Or.inl (kk_gm 1087 (by decide +kernel) rfl)⟩
theorem fl_X11_99 : kk_FL RX11 99 11 8 .boolean := ⟨RX11, TX11, 31, tyX11, rfl, by decide, ws_X11, tyX11_ok, nmX11, rfl, by decide +kernel, Or.inl (kk_gm 1093 (by decide +kernel) rfl)⟩
theorem fl_X11_103 : kk_FL RX11 103 11 12 .boolean := ⟨RX11, TX11, 31, tyX11, rfl, by decide, ws_X11, tyX11_ok, nmX11, rfl, by decide +kernel, Or.inl (kk_gm 1097 (by decide +kernel) rfl)⟩
theorem fl_X11_146 : kk_FL RX11 146 11 9 .int := ⟨RX11, TX11, 31, tyX11, rfl, by decide, ws_X11, tyX11_ok, nmX11, rfl, by decide +kernel, Or.inl (kk_gm 1094 (by decide +kernel) rfl)⟩
theorem fl_X11_175 : kk_FL RX11 175 11 11 .int := ⟨RX11, TX11, 31, tyX11, rfl, by decide, ws_X11, tyX11_ok, nmX11, rfl, by decide +kernel, Or.inl (kk_gm 1096 (by decide +kernel) rfl)⟩
theorem fl_X11_210 : kk_FL RX11 210 11 23 .int := ⟨RX11, TX11, 31, tyX11, rfl, by decide, ws_X11, tyX11_ok, nmX11, rfl, by decide +kernel, Or.inl (kk_gm 1108 (by decide +kernel) rfl)⟩
theorem fl_X11_213 : kk_FL RX11 213 11 17 .boolean := ⟨RX11, TX11, 31, tyX11, rfl, by decide, ws_X11, tyX11_ok, nmX11, rfl, by decide +kernel, Or.inl (kk_gm 1102 (by decide +kernel) rfl)⟩
theorem fl_X2_9 : kk_FL RX2 9 2 0 (.object "LineColours$Network") := ⟨RX2, TX2, 2, tyX2, rfl, by decide, ws_X2, tyX2_ok, nmX2, rfl, by decide +kernel, Or.inl (kk_gm 309 (by decide +kernel) rfl)⟩
theorem fl_X2_15 : kk_FL RX2 15 2 1 (.object "LineColours$Colouring") := ⟨RX2, TX2, 2, tyX2, rfl, by decide, ws_X2, tyX2_ok, nmX2, rfl, by decide +kernel, Or.inl (kk_gm 310 (by decide +kernel) rfl)⟩
theorem fl_X2_19 : kk_FL RX2 19 3 2 (.array .int) := ⟨RX3, TX3, 3, tyX3, rfl, by decide, ws_X3, tyX3_ok, nmX3, rfl, by decide +kernel, Or.inr ⟨"LineColours", kk_nm 247 (by decide +kernel) rfl⟩⟩
theorem fl_X2_25 : kk_FL RX2 25 6 6 .int := ⟨RX6, TX6, 8, tyX6, rfl, by decide, ws_X6, tyX6_ok, nmX6, rfl, by decide +kernel, Or.inr ⟨"LineColours", kk_nm 204 (by decide +kernel) rfl⟩⟩
theorem fl_X3_9 : kk_FL RX3 9 3 1 (.array .int) := ⟨RX3, TX3, 3, tyX3, rfl, by decide, ws_X3, tyX3_ok, nmX3, rfl, by decide +kernel, Or.inl (kk_gm 243 (by decide +kernel) rfl)⟩
theorem fl_X3_15 : kk_FL RX3 15 3 2 (.array .int) := ⟨RX3, TX3, 3, tyX3, rfl, by decide, ws_X3, tyX3_ok, nmX3, rfl, by decide +kernel, Or.inl (kk_gm 246 (by decide +kernel) rfl)⟩
theorem fl_X3_18 : kk_FL RX3 18 3 0 (.object "LineColours$Network") := ⟨RX3, TX3, 3, tyX3, rfl, by decide, ws_X3, tyX3_ok, nmX3, rfl, by decide +kernel, Or.inl (kk_gm 242 (by decide +kernel) rfl)⟩
theorem fl_X3_28 : kk_FL RX3 28 6 7 .int := ⟨RX6, TX6, 8, tyX6, rfl, by decide, ws_X6, tyX6_ok, nmX6, rfl, by decide +kernel, Or.inr ⟨"LineColours", kk_nm 212 (by decide +kernel) rfl⟩⟩
theorem fl_X3_60 : kk_FL RX3 60 6 3 (.array .int) := ⟨RX6, TX6, 8, tyX6, rfl, by decide, ws_X6, tyX6_ok, nmX6, rfl, by decide +kernel, Or.inr ⟨"LineColours", kk_nm 195 (by decide +kernel) rfl⟩⟩
theorem fl_X3_66 : kk_FL RX3 66 6 0 (.array .int) := ⟨RX6, TX6, 8, tyX6, rfl, by decide, ws_X6, tyX6_ok, nmX6, rfl, by decide +kernel, Or.inr ⟨"LineColours", kk_nm 183 (by decide +kernel) rfl⟩⟩
theorem fl_X3_72 : kk_FL RX3 72 6 1 (.array .int) := ⟨RX6, TX6, 8, tyX6, rfl, by decide, ws_X6, tyX6_ok, nmX6, rfl, by decide +kernel, Or.inr ⟨"LineColours", kk_nm 186 (by decide +kernel) rfl⟩⟩
theorem fl_X3_85 : kk_FL RX3 85 6 6 .int := ⟨RX6, TX6, 8, tyX6, rfl, by decide, ws_X6, tyX6_ok, nmX6, rfl, by decide +kernel, Or.inr ⟨"LineColours", kk_nm 210 (by decide +kernel) rfl⟩⟩
theorem fl_X4_9 : kk_FL RX4 9 4 2 (.array .int) := ⟨RX4, TX4, 4, tyX4, rfl, by decide, ws_X4, tyX4_ok, nmX4, rfl, by decide +kernel, Or.inl (kk_gm 264 (by decide +kernel) rfl)⟩
theorem fl_X4_15 : kk_FL RX4 15 4 3 .int := ⟨RX4, TX4, 4, tyX4, rfl, by decide, ws_X4, tyX4_ok, nmX4, rfl, by decide +kernel, Or.inl (kk_gm 267 (by decide +kernel) rfl)⟩
theorem fl_X4_19 : kk_FL RX4 19 4 0 (.object "LineColours$Network") := ⟨RX4, TX4, 4, tyX4, rfl, by decide, ws_X4, tyX4_ok, nmX4, rfl, by decide +kernel, Or.inl (kk_gm 262 (by decide +kernel) rfl)⟩
theorem fl_X4_23 : kk_FL RX4 23 4 1 (.object "LineColours$Colouring") := ⟨RX4, TX4, 4, tyX4, rfl, by decide, ws_X4, tyX4_ok, nmX4, rfl, by decide +kernel, Or.inl (kk_gm 263 (by decide +kernel) rfl)⟩
theorem fl_X4_56 : kk_FL RX4 56 3 1 (.array .int) := ⟨RX3, TX3, 3, tyX3, rfl, by decide, ws_X3, tyX3_ok, nmX3, rfl, by decide +kernel, Or.inr ⟨"LineColours", kk_nm 245 (by decide +kernel) rfl⟩⟩
theorem fl_X5_9 : kk_FL RX5 9 5 3 (.array .int) := ⟨RX5, TX5, 5, tyX5, rfl, by decide, ws_X5, tyX5_ok, nmX5, rfl, by decide +kernel, Or.inl (kk_gm 288 (by decide +kernel) rfl)⟩
theorem fl_X5_15 : kk_FL RX5 15 5 4 .boolean := ⟨RX5, TX5, 5, tyX5, rfl, by decide, ws_X5, tyX5_ok, nmX5, rfl, by decide +kernel, Or.inl (kk_gm 290 (by decide +kernel) rfl)⟩
theorem fl_X5_19 : kk_FL RX5 19 5 0 (.object "LineColours$Network") := ⟨RX5, TX5, 5, tyX5, rfl, by decide, ws_X5, tyX5_ok, nmX5, rfl, by decide +kernel, Or.inl (kk_gm 285 (by decide +kernel) rfl)⟩
theorem fl_X5_23 : kk_FL RX5 23 5 1 (.object "LineColours$Colouring") := ⟨RX5, TX5, 5, tyX5, rfl, by decide, ws_X5, tyX5_ok, nmX5, rfl, by decide +kernel, Or.inl (kk_gm 286 (by decide +kernel) rfl)⟩
theorem fl_X5_27 : kk_FL RX5 27 5 2 (.object "LineColours$Fan") := ⟨RX5, TX5, 5, tyX5, rfl, by decide, ws_X5, tyX5_ok, nmX5, rfl, by decide +kernel, Or.inl (kk_gm 287 (by decide +kernel) rfl)⟩
theorem fl_X5_31 : kk_FL RX5 31 6 0 (.array .int) := ⟨RX6, TX6, 8, tyX6, rfl, by decide, ws_X6, tyX6_ok, nmX6, rfl, by decide +kernel, Or.inr ⟨"LineColours", kk_nm 182 (by decide +kernel) rfl⟩⟩
theorem fl_X5_48 : kk_FL RX5 48 4 2 (.array .int) := ⟨RX4, TX4, 4, tyX4, rfl, by decide, ws_X4, tyX4_ok, nmX4, rfl, by decide +kernel, Or.inr ⟨"LineColours", kk_nm 265 (by decide +kernel) rfl⟩⟩
theorem fl_X5_51 : kk_FL RX5 51 4 3 .int := ⟨RX4, TX4, 4, tyX4, rfl, by decide, ws_X4, tyX4_ok, nmX4, rfl, by decide +kernel, Or.inr ⟨"LineColours", kk_nm 268 (by decide +kernel) rfl⟩⟩
theorem fl_X6_9 : kk_FL RX6 9 6 0 (.array .int) := ⟨RX6, TX6, 8, tyX6, rfl, by decide, ws_X6, tyX6_ok, nmX6, rfl, by decide +kernel, Or.inl (kk_gm 181 (by decide +kernel) rfl)⟩
theorem fl_X6_15 : kk_FL RX6 15 6 1 (.array .int) := ⟨RX6, TX6, 8, tyX6, rfl, by decide, ws_X6, tyX6_ok, nmX6, rfl, by decide +kernel, Or.inl (kk_gm 185 (by decide +kernel) rfl)⟩
theorem fl_X6_18 : kk_FL RX6 18 6 2 (.array .int) := ⟨RX6, TX6, 8, tyX6, rfl, by decide, ws_X6, tyX6_ok, nmX6, rfl, by decide +kernel, Or.inl (kk_gm 188 (by decide +kernel) rfl)⟩
theorem fl_X6_21 : kk_FL RX6 21 6 3 (.array .int) := ⟨RX6, TX6, 8, tyX6, rfl, by decide, ws_X6, tyX6_ok, nmX6, rfl, by decide +kernel, Or.inl (kk_gm 194 (by decide +kernel) rfl)⟩
theorem fl_X6_24 : kk_FL RX6 24 6 4 (.array .int) := ⟨RX6, TX6, 8, tyX6, rfl, by decide, ws_X6, tyX6_ok, nmX6, rfl, by decide +kernel, Or.inl (kk_gm 198 (by decide +kernel) rfl)⟩
theorem fl_X6_27 : kk_FL RX6 27 6 5 .int := ⟨RX6, TX6, 8, tyX6, rfl, by decide, ws_X6, tyX6_ok, nmX6, rfl, by decide +kernel, Or.inl (kk_gm 199 (by decide +kernel) rfl)⟩
theorem fl_X6_31 : kk_FL RX6 31 6 6 .int := ⟨RX6, TX6, 8, tyX6, rfl, by decide, ws_X6, tyX6_ok, nmX6, rfl, by decide +kernel, Or.inl (kk_gm 203 (by decide +kernel) rfl)⟩
theorem fl_X6_34 : kk_FL RX6 34 6 7 .int := ⟨RX6, TX6, 8, tyX6, rfl, by decide, ws_X6, tyX6_ok, nmX6, rfl, by decide +kernel, Or.inl (kk_gm 211 (by decide +kernel) rfl)⟩
theorem fl_X7_9 : kk_FL RX7 9 7 1 (.array .int) := ⟨RX7, TX7, 8, tyX7, rfl, by decide, ws_X7, tyX7_ok, nmX7, rfl, by decide +kernel, Or.inl (kk_gm 348 (by decide +kernel) rfl)⟩
theorem fl_X7_15 : kk_FL RX7 15 7 2 (.array .int) := ⟨RX7, TX7, 8, tyX7, rfl, by decide, ws_X7, tyX7_ok, nmX7, rfl, by decide +kernel, Or.inl (kk_gm 349 (by decide +kernel) rfl)⟩
theorem fl_X7_18 : kk_FL RX7 18 7 3 (.array .int) := ⟨RX7, TX7, 8, tyX7, rfl, by decide, ws_X7, tyX7_ok, nmX7, rfl, by decide +kernel, Or.inl (kk_gm 350 (by decide +kernel) rfl)⟩
theorem fl_X7_21 : kk_FL RX7 21 7 4 .int := ⟨RX7, TX7, 8, tyX7, rfl, by decide, ws_X7, tyX7_ok, nmX7, rfl, by decide +kernel, Or.inl (kk_gm 352 (by decide +kernel) rfl)⟩
theorem fl_X7_25 : kk_FL RX7 25 7 5 .boolean := ⟨RX7, TX7, 8, tyX7, rfl, by decide, ws_X7, tyX7_ok, nmX7, rfl, by decide +kernel, Or.inl (kk_gm 353 (by decide +kernel) rfl)⟩
theorem fl_X7_29 : kk_FL RX7 29 7 6 .int := ⟨RX7, TX7, 8, tyX7, rfl, by decide, ws_X7, tyX7_ok, nmX7, rfl, by decide +kernel, Or.inl (kk_gm 354 (by decide +kernel) rfl)⟩
theorem fl_X7_32 : kk_FL RX7 32 7 7 .int := ⟨RX7, TX7, 8, tyX7, rfl, by decide, ws_X7, tyX7_ok, nmX7, rfl, by decide +kernel, Or.inl (kk_gm 355 (by decide +kernel) rfl)⟩
theorem fl_X7_35 : kk_FL RX7 35 7 0 (.object "LineColours$Network") := ⟨RX7, TX7, 8, tyX7, rfl, by decide, ws_X7, tyX7_ok, nmX7, rfl, by decide +kernel, Or.inl (kk_gm 347 (by decide +kernel) rfl)⟩
theorem fl_X7_48 : kk_FL RX7 48 6 7 .int := ⟨RX6, TX6, 8, tyX6, rfl, by decide, ws_X6, tyX6_ok, nmX6, rfl, by decide +kernel, Or.inr ⟨"LineColours", kk_nm 213 (by decide +kernel) rfl⟩⟩
theorem fl_X7_55 : kk_FL RX7 55 6 6 .int := ⟨RX6, TX6, 8, tyX6, rfl, by decide, ws_X6, tyX6_ok, nmX6, rfl, by decide +kernel, Or.inr ⟨"LineColours", kk_nm 209 (by decide +kernel) rfl⟩⟩
theorem fl_X7_88 : kk_FL RX7 88 6 2 (.array .int) := ⟨RX6, TX6, 8, tyX6, rfl, by decide, ws_X6, tyX6_ok, nmX6, rfl, by decide +kernel, Or.inr ⟨"LineColours", kk_nm 192 (by decide +kernel) rfl⟩⟩
theorem fl_X7_119 : kk_FL RX7 119 6 5 .int := ⟨RX6, TX6, 8, tyX6, rfl, by decide, ws_X6, tyX6_ok, nmX6, rfl, by decide +kernel, Or.inr ⟨"LineColours", kk_nm 201 (by decide +kernel) rfl⟩⟩
theorem fl_X7_122 : kk_FL RX7 122 6 3 (.array .int) := ⟨RX6, TX6, 8, tyX6, rfl, by decide, ws_X6, tyX6_ok, nmX6, rfl, by decide +kernel, Or.inr ⟨"LineColours", kk_nm 197 (by decide +kernel) rfl⟩⟩
theorem fl_X8_9 : kk_FL RX8 9 8 1 (.array .int) := ⟨RX8, TX8, 3, tyX8, rfl, by decide, ws_X8, tyX8_ok, nmX8, rfl, by decide +kernel, Or.inl (kk_gm 398 (by decide +kernel) rfl)⟩
theorem fl_X8_15 : kk_FL RX8 15 8 2 (.array .int) := ⟨RX8, TX8, 3, tyX8, rfl, by decide, ws_X8, tyX8_ok, nmX8, rfl, by decide +kernel, Or.inl (kk_gm 399 (by decide +kernel) rfl)⟩
theorem fl_X8_18 : kk_FL RX8 18 8 0 (.object "LineColours$Network") := ⟨RX8, TX8, 3, tyX8, rfl, by decide, ws_X8, tyX8_ok, nmX8, rfl, by decide +kernel, Or.inl (kk_gm 397 (by decide +kernel) rfl)⟩
theorem fl_X8_32 : kk_FL RX8 32 6 6 .int := ⟨RX6, TX6, 8, tyX6, rfl, by decide, ws_X6, tyX6_ok, nmX6, rfl, by decide +kernel, Or.inr ⟨"LineColours", kk_nm 205 (by decide +kernel) rfl⟩⟩
theorem fl_X8_38 : kk_FL RX8 38 6 2 (.array .int) := ⟨RX6, TX6, 8, tyX6, rfl, by decide, ws_X6, tyX6_ok, nmX6, rfl, by decide +kernel, Or.inr ⟨"LineColours", kk_nm 189 (by decide +kernel) rfl⟩⟩
theorem fl_X9_11 : kk_FL RX9 11 9 1 (.array .int) := ⟨RX9, TX9, 7, tyX9, rfl, by decide, ws_X9, tyX9_ok, nmX9, rfl, by decide +kernel, Or.inl (kk_gm 414 (by decide +kernel) rfl)⟩
theorem fl_X9_15 : kk_FL RX9 15 9 2 (.array .int) := ⟨RX9, TX9, 7, tyX9, rfl, by decide, ws_X9, tyX9_ok, nmX9, rfl, by decide +kernel, Or.inl (kk_gm 415 (by decide +kernel) rfl)⟩
theorem fl_X9_18 : kk_FL RX9 18 9 3 (.array .int) := ⟨RX9, TX9, 7, tyX9, rfl, by decide, ws_X9, tyX9_ok, nmX9, rfl, by decide +kernel, Or.inl (kk_gm 416 (by decide +kernel) rfl)⟩
theorem fl_X9_21 : kk_FL RX9 21 9 4 (.array .int) := ⟨RX9, TX9, 7, tyX9, rfl, by decide, ws_X9, tyX9_ok, nmX9, rfl, by decide +kernel, Or.inl (kk_gm 417 (by decide +kernel) rfl)⟩
theorem fl_X9_24 : kk_FL RX9 24 9 5 .int := ⟨RX9, TX9, 7, tyX9, rfl, by decide, ws_X9, tyX9_ok, nmX9, rfl, by decide +kernel, Or.inl (kk_gm 418 (by decide +kernel) rfl)⟩
theorem fl_X9_28 : kk_FL RX9 28 9 6 .int := ⟨RX9, TX9, 7, tyX9, rfl, by decide, ws_X9, tyX9_ok, nmX9, rfl, by decide +kernel, Or.inl (kk_gm 419 (by decide +kernel) rfl)⟩
theorem fl_X9_31 : kk_FL RX9 31 9 0 (.object "LineColours$Network") := ⟨RX9, TX9, 7, tyX9, rfl, by decide, ws_X9, tyX9_ok, nmX9, rfl, by decide +kernel, Or.inl (kk_gm 413 (by decide +kernel) rfl)⟩
theorem fl_X9_64 : kk_FL RX9 64 6 6 .int := ⟨RX6, TX6, 8, tyX6, rfl, by decide, ws_X6, tyX6_ok, nmX6, rfl, by decide +kernel, Or.inr ⟨"LineColours", kk_nm 208 (by decide +kernel) rfl⟩⟩
theorem fl_X9_69 : kk_FL RX9 69 6 2 (.array .int) := ⟨RX6, TX6, 8, tyX6, rfl, by decide, ws_X6, tyX6_ok, nmX6, rfl, by decide +kernel, Or.inr ⟨"LineColours", kk_nm 191 (by decide +kernel) rfl⟩⟩
theorem ml_X0_22 : kk_ML RX0 22 yJ7_fill_53178 cJ7_fill_53178 4 none 2 true := ⟨kk_gm 241 (by decide +kernel) rfl, kk_gm 154 (by decide +kernel) rfl, by decide +kernel, kk_gm 240 (by decide +kernel) rfl, Or.inl (kk_gm 926 (by decide +kernel) rfl)⟩
theorem ml_X0_28 : kk_ML RX0 28 yX0_gather cX0_gather 6 none 4 false := ⟨kk_gm 930 (by decide +kernel) rfl, kk_gm 160 (by decide +kernel) rfl, by decide +kernel, ⟨kk_gm 929 (by decide +kernel) rfl, kk_gm 63 (by decide +kernel) rfl⟩, Or.inl (kk_gm 927 (by decide +kernel) rfl)⟩
theorem ml_X1_32 : kk_ML RX1 32 yX3_coloursAt cX3_coloursAt 4 (some .int) 1 false := ⟨kk_gm 563 (by decide +kernel) rfl, kk_gm 153 (by decide +kernel) rfl, by decide +kernel, ⟨kk_gm 562 (by decide +kernel) rfl, kk_gm 14 (by decide +kernel) rfl⟩, Or.inr ⟨"LineColours", kk_nm 841 (by decide +kernel) rfl⟩⟩
theorem ml_X1_38 : kk_ML RX1 38 yX10_idleOf cX10_idleOf 1 (some .int) 1 true := ⟨kk_gm 844 (by decide +kernel) rfl, kk_gm 151 (by decide +kernel) rfl, by decide +kernel, kk_gm 843 (by decide +kernel) rfl, Or.inr ⟨"LineColours", kk_nm 842 (by decide +kernel) rfl⟩⟩
theorem ml_X1_43 : kk_ML RX1 43 yX1_idleOfAll cX1_idleOfAll 7 (some .int) 2 false := ⟨kk_gm 840 (by decide +kernel) rfl, kk_gm 158 (by decide +kernel) rfl, by decide +kernel, ⟨kk_gm 839 (by decide +kernel) rfl, kk_gm 56 (by decide +kernel) rfl⟩, Or.inl (kk_gm 855 (by decide +kernel) rfl)⟩
theorem ml_X1_47 : kk_ML RX1 47 yX3_colours cX3_colours 1 (some .int) 0 false := ⟨kk_gm 551 (by decide +kernel) rfl, kk_gm 153 (by decide +kernel) rfl, by decide +kernel, ⟨kk_gm 550 (by decide +kernel) rfl, kk_gm 11 (by decide +kernel) rfl⟩, Or.inr ⟨"LineColours", kk_nm 856 (by decide +kernel) rfl⟩⟩
theorem ml_X10_96 : kk_ML RX10 96 yX6_clear cX6_clear 2 none 1 false := ⟨kk_gm 482 (by decide +kernel) rfl, kk_gm 152 (by decide +kernel) rfl, by decide +kernel, ⟨kk_gm 481 (by decide +kernel) rfl, kk_gm 0 (by decide +kernel) rfl⟩, Or.inr ⟨"LineColours", kk_nm 479 (by decide +kernel) rfl⟩⟩
theorem ml_X10_100 : kk_ML RX10 100 yX3_clear cX3_clear 1 none 0 false := ⟨kk_gm 487 (by decide +kernel) rfl, kk_gm 153 (by decide +kernel) rfl, by decide +kernel, ⟨kk_gm 486 (by decide +kernel) rfl, kk_gm 1 (by decide +kernel) rfl⟩, Or.inr ⟨"LineColours", kk_nm 484 (by decide +kernel) rfl⟩⟩
theorem ml_X10_105 : kk_ML RX10 105 yX7_forget cX7_forget 1 none 0 false := ⟨kk_gm 491 (by decide +kernel) rfl, kk_gm 159 (by decide +kernel) rfl, by decide +kernel, ⟨kk_gm 490 (by decide +kernel) rfl, kk_gm 2 (by decide +kernel) rfl⟩, Or.inr ⟨"LineColours", kk_nm 488 (by decide +kernel) rfl⟩⟩
theorem ml_X10_108 : kk_ML RX10 108 yX6_isPost cX6_isPost 2 (some .boolean) 1 false := ⟨kk_gm 503 (by decide +kernel) rfl, kk_gm 152 (by decide +kernel) rfl, by decide +kernel, ⟨kk_gm 502 (by decide +kernel) rfl, kk_gm 4 (by decide +kernel) rfl⟩, Or.inr ⟨"LineColours", kk_nm 500 (by decide +kernel) rfl⟩⟩
theorem ml_X10_116 : kk_ML RX10 116 yX6_lineBetween cX6_lineBetween 4 (some .int) 2 false := ⟨kk_gm 507 (by decide +kernel) rfl, kk_gm 152 (by decide +kernel) rfl, by decide +kernel, ⟨kk_gm 506 (by decide +kernel) rfl, kk_gm 5 (by decide +kernel) rfl⟩, Or.inr ⟨"LineColours", kk_nm 504 (by decide +kernel) rfl⟩⟩
theorem ml_X10_120 : kk_ML RX10 120 yX6_add cX6_add 6 none 2 false := ⟨kk_gm 515 (by decide +kernel) rfl, kk_gm 152 (by decide +kernel) rfl, by decide +kernel, ⟨kk_gm 514 (by decide +kernel) rfl, kk_gm 6 (by decide +kernel) rfl⟩, Or.inr ⟨"LineColours", kk_nm 512 (by decide +kernel) rfl⟩⟩
theorem ml_X10_124 : kk_ML RX10 124 yX6_isLine cX6_isLine 2 (some .boolean) 1 false := ⟨kk_gm 543 (by decide +kernel) rfl, kk_gm 152 (by decide +kernel) rfl, by decide +kernel, ⟨kk_gm 542 (by decide +kernel) rfl, kk_gm 9 (by decide +kernel) rfl⟩, Or.inr ⟨"LineColours", kk_nm 540 (by decide +kernel) rfl⟩⟩
theorem ml_X10_127 : kk_ML RX10 127 yX3_isColour cX3_isColour 2 (some .boolean) 1 false := ⟨kk_gm 547 (by decide +kernel) rfl, kk_gm 153 (by decide +kernel) rfl, by decide +kernel, ⟨kk_gm 546 (by decide +kernel) rfl, kk_gm 10 (by decide +kernel) rfl⟩, Or.inr ⟨"LineColours", kk_nm 544 (by decide +kernel) rfl⟩⟩
theorem ml_X10_130 : kk_ML RX10 130 yX3_freeAtBoth cX3_freeAtBoth 2 (some .int) 1 false := ⟨kk_gm 555 (by decide +kernel) rfl, kk_gm 153 (by decide +kernel) rfl, by decide +kernel, ⟨kk_gm 554 (by decide +kernel) rfl, kk_gm 12 (by decide +kernel) rfl⟩, Or.inr ⟨"LineColours", kk_nm 552 (by decide +kernel) rfl⟩⟩
theorem ml_X10_134 : kk_ML RX10 134 yX3_give cX3_give 3 none 2 false := ⟨kk_gm 567 (by decide +kernel) rfl, kk_gm 153 (by decide +kernel) rfl, by decide +kernel, ⟨kk_gm 566 (by decide +kernel) rfl, kk_gm 15 (by decide +kernel) rfl⟩, Or.inr ⟨"LineColours", kk_nm 564 (by decide +kernel) rfl⟩⟩
theorem ml_X10_140 : kk_ML RX10 140 yX3_strip cX3_strip 3 none 1 false := ⟨kk_gm 571 (by decide +kernel) rfl, kk_gm 153 (by decide +kernel) rfl, by decide +kernel, ⟨kk_gm 570 (by decide +kernel) rfl, kk_gm 16 (by decide +kernel) rfl⟩, Or.inr ⟨"LineColours", kk_nm 576 (by decide +kernel) rfl⟩⟩
theorem ml_X10_143 : kk_ML RX10 143 yX3_areUnlike cX3_areUnlike 3 (some .boolean) 2 false := ⟨kk_gm 584 (by decide +kernel) rfl, kk_gm 153 (by decide +kernel) rfl, by decide +kernel, ⟨kk_gm 583 (by decide +kernel) rfl, kk_gm 17 (by decide +kernel) rfl⟩, Or.inr ⟨"LineColours", kk_nm 581 (by decide +kernel) rfl⟩⟩
theorem ml_X10_147 : kk_ML RX10 147 yX3_chainOf cX3_chainOf 4 (some .int) 3 false := ⟨kk_gm 589 (by decide +kernel) rfl, kk_gm 153 (by decide +kernel) rfl, by decide +kernel, ⟨kk_gm 588 (by decide +kernel) rfl, kk_gm 18 (by decide +kernel) rfl⟩, Or.inr ⟨"LineColours", kk_nm 586 (by decide +kernel) rfl⟩⟩
theorem ml_X10_151 : kk_ML RX10 151 yX3_flip cX3_flip 5 none 3 false := ⟨kk_gm 597 (by decide +kernel) rfl, kk_gm 153 (by decide +kernel) rfl, by decide +kernel, ⟨kk_gm 596 (by decide +kernel) rfl, kk_gm 20 (by decide +kernel) rfl⟩, Or.inr ⟨"LineColours", kk_nm 594 (by decide +kernel) rfl⟩⟩
theorem ml_X10_155 : kk_ML RX10 155 yJ6_bitCount_0f7a4 cJ6_bitCount_0f7a4 1 (some .int) 1 true := ⟨kk_gm 532 (by decide +kernel) rfl, kk_gm 164 (by decide +kernel) rfl, by decide +kernel, kk_gm 531 (by decide +kernel) rfl, Or.inl (kk_gm 598 (by decide +kernel) rfl)⟩
theorem ml_X10_163 : kk_ML RX10 163 yX5_raise cX5_raise 7 none 1 false := ⟨kk_gm 610 (by decide +kernel) rfl, kk_gm 156 (by decide +kernel) rfl, by decide +kernel, ⟨kk_gm 609 (by decide +kernel) rfl, kk_gm 21 (by decide +kernel) rfl⟩, Or.inr ⟨"LineColours", kk_nm 607 (by decide +kernel) rfl⟩⟩
theorem ml_X10_166 : kk_ML RX10 166 yX6_onePart cX6_onePart 7 (some .int) 0 false := ⟨kk_gm 667 (by decide +kernel) rfl, kk_gm 152 (by decide +kernel) rfl, by decide +kernel, ⟨kk_gm 666 (by decide +kernel) rfl, kk_gm 31 (by decide +kernel) rfl⟩, Or.inr ⟨"LineColours", kk_nm 664 (by decide +kernel) rfl⟩⟩
theorem ml_X10_170 : kk_ML RX10 170 yX3_giveBelowDegree cX3_giveBelowDegree 5 none 1 false := ⟨kk_gm 675 (by decide +kernel) rfl, kk_gm 153 (by decide +kernel) rfl, by decide +kernel, ⟨kk_gm 674 (by decide +kernel) rfl, kk_gm 33 (by decide +kernel) rfl⟩, Or.inr ⟨"LineColours", kk_nm 672 (by decide +kernel) rfl⟩⟩
theorem ml_X10_173 : kk_ML RX10 173 yX2_makeEven cX2_makeEven 5 (some .int) 0 false := ⟨kk_gm 688 (by decide +kernel) rfl, kk_gm 157 (by decide +kernel) rfl, by decide +kernel, ⟨kk_gm 687 (by decide +kernel) rfl, kk_gm 34 (by decide +kernel) rfl⟩, Or.inr ⟨"LineColours", kk_nm 685 (by decide +kernel) rfl⟩⟩
theorem ml_X10_176 : kk_ML RX10 176 yX3_colours cX3_colours 1 (some .int) 0 false := ⟨kk_gm 551 (by decide +kernel) rfl, kk_gm 153 (by decide +kernel) rfl, by decide +kernel, ⟨kk_gm 550 (by decide +kernel) rfl, kk_gm 11 (by decide +kernel) rfl⟩, Or.inr ⟨"LineColours", kk_nm 708 (by decide +kernel) rfl⟩⟩
theorem ml_X10_179 : kk_ML RX10 179 yX7_findFirst cX7_findFirst 2 (some .boolean) 1 false := ⟨kk_gm 712 (by decide +kernel) rfl, kk_gm 159 (by decide +kernel) rfl, by decide +kernel, ⟨kk_gm 711 (by decide +kernel) rfl, kk_gm 38 (by decide +kernel) rfl⟩, Or.inr ⟨"LineColours", kk_nm 709 (by decide +kernel) rfl⟩⟩
theorem ml_X10_191 : kk_ML RX10 191 yX10_countUnlike cX10_countUnlike 3 (some .int) 0 false := ⟨kk_gm 794 (by decide +kernel) rfl, kk_gm 151 (by decide +kernel) rfl, by decide +kernel, ⟨kk_gm 793 (by decide +kernel) rfl, kk_gm 55 (by decide +kernel) rfl⟩, Or.inl (kk_gm 791 (by decide +kernel) rfl)⟩
theorem ml_X10_206 : kk_ML RX10 206 yX3_lineWith cX3_lineWith 4 (some .int) 2 false := ⟨kk_gm 627 (by decide +kernel) rfl, kk_gm 153 (by decide +kernel) rfl, by decide +kernel, ⟨kk_gm 626 (by decide +kernel) rfl, kk_gm 25 (by decide +kernel) rfl⟩, Or.inr ⟨"LineColours", kk_nm 807 (by decide +kernel) rfl⟩⟩
theorem ml_X10_209 : kk_ML RX10 209 yX3_coloursAt cX3_coloursAt 4 (some .int) 1 false := ⟨kk_gm 563 (by decide +kernel) rfl, kk_gm 153 (by decide +kernel) rfl, by decide +kernel, ⟨kk_gm 562 (by decide +kernel) rfl, kk_gm 14 (by decide +kernel) rfl⟩, Or.inr ⟨"LineColours", kk_nm 812 (by decide +kernel) rfl⟩⟩
theorem ml_X10_215 : kk_ML RX10 215 yX3_leastFreeAt cX3_leastFreeAt 2 (some .int) 1 false := ⟨kk_gm 632 (by decide +kernel) rfl, kk_gm 153 (by decide +kernel) rfl, by decide +kernel, ⟨kk_gm 631 (by decide +kernel) rfl, kk_gm 26 (by decide +kernel) rfl⟩, Or.inr ⟨"LineColours", kk_nm 813 (by decide +kernel) rfl⟩⟩
theorem ml_X10_218 : kk_ML RX10 218 yX10_greatestBit cX10_greatestBit 1 (some .int) 1 true := ⟨kk_gm 816 (by decide +kernel) rfl, kk_gm 151 (by decide +kernel) rfl, by decide +kernel, kk_gm 815 (by decide +kernel) rfl, Or.inl (kk_gm 814 (by decide +kernel) rfl)⟩
theorem ml_X10_221 : kk_ML RX10 221 yX6_allPosts cX6_allPosts 1 (some .int) 0 false := ⟨kk_gm 730 (by decide +kernel) rfl, kk_gm 152 (by decide +kernel) rfl, by decide +kernel, ⟨kk_gm 729 (by decide +kernel) rfl, kk_gm 42 (by decide +kernel) rfl⟩, Or.inr ⟨"LineColours", kk_nm 824 (by decide +kernel) rfl⟩⟩
theorem ml_X10_224 : kk_ML RX10 224 yX6_postsOf cX6_postsOf 4 (some .int) 1 false := ⟨kk_gm 758 (by decide +kernel) rfl, kk_gm 152 (by decide +kernel) rfl, by decide +kernel, ⟨kk_gm 757 (by decide +kernel) rfl, kk_gm 49 (by decide +kernel) rfl⟩, Or.inr ⟨"LineColours", kk_nm 825 (by decide +kernel) rfl⟩⟩
theorem ml_X10_227 : kk_ML RX10 227 yJ6_compare_7cf53 cJ6_compare_7cf53 2 (some .int) 2 true := ⟨kk_gm 832 (by decide +kernel) rfl, kk_gm 164 (by decide +kernel) rfl, by decide +kernel, kk_gm 831 (by decide +kernel) rfl, Or.inl (kk_gm 830 (by decide +kernel) rfl)⟩
theorem ml_X10_230 : kk_ML RX10 230 yX1_idleOfAll cX1_idleOfAll 7 (some .int) 2 false := ⟨kk_gm 840 (by decide +kernel) rfl, kk_gm 158 (by decide +kernel) rfl, by decide +kernel, ⟨kk_gm 839 (by decide +kernel) rfl, kk_gm 56 (by decide +kernel) rfl⟩, Or.inr ⟨"LineColours", kk_nm 837 (by decide +kernel) rfl⟩⟩
theorem ml_X10_233 : kk_ML RX10 233 yX10_idleOf cX10_idleOf 1 (some .int) 1 true := ⟨kk_gm 844 (by decide +kernel) rfl, kk_gm 151 (by decide +kernel) rfl, by decide +kernel, kk_gm 843 (by decide +kernel) rfl, Or.inl (kk_gm 846 (by decide +kernel) rfl)⟩
theorem ml_X10_236 : kk_ML RX10 236 yX1_look cX1_look 5 none 0 false := ⟨kk_gm 854 (by decide +kernel) rfl, kk_gm 158 (by decide +kernel) rfl, by decide +kernel, ⟨kk_gm 853 (by decide +kernel) rfl, kk_gm 57 (by decide +kernel) rfl⟩, Or.inr ⟨"LineColours", kk_nm 851 (by decide +kernel) rfl⟩⟩
theorem ml_X10_248 : kk_ML RX10 248 yX4_lay cX4_lay 6 none 2 false := ⟨kk_gm 614 (by decide +kernel) rfl, kk_gm 155 (by decide +kernel) rfl, by decide +kernel, ⟨kk_gm 613 (by decide +kernel) rfl, kk_gm 22 (by decide +kernel) rfl⟩, Or.inr ⟨"LineColours", kk_nm 861 (by decide +kernel) rfl⟩⟩
theorem ml_X10_257 : kk_ML RX10 257 yX7_fewest cX7_fewest 1 (some .int) 0 false := ⟨kk_gm 716 (by decide +kernel) rfl, kk_gm 159 (by decide +kernel) rfl, by decide +kernel, ⟨kk_gm 715 (by decide +kernel) rfl, kk_gm 39 (by decide +kernel) rfl⟩, Or.inr ⟨"LineColours", kk_nm 866 (by decide +kernel) rfl⟩⟩
theorem ml_X10_260 : kk_ML RX10 260 yX10_isFew cX10_isFew 1 (some .boolean) 1 true := ⟨kk_gm 873 (by decide +kernel) rfl, kk_gm 151 (by decide +kernel) rfl, by decide +kernel, kk_gm 872 (by decide +kernel) rfl, Or.inl (kk_gm 871 (by decide +kernel) rfl)⟩
theorem ml_X10_263 : kk_ML RX10 263 yX6_allLines cX6_allLines 1 (some .int) 0 false := ⟨kk_gm 525 (by decide +kernel) rfl, kk_gm 152 (by decide +kernel) rfl, by decide +kernel, ⟨kk_gm 524 (by decide +kernel) rfl, kk_gm 7 (by decide +kernel) rfl⟩, Or.inr ⟨"LineColours", kk_nm 878 (by decide +kernel) rfl⟩⟩
theorem ml_X10_269 : kk_ML RX10 269 yX6_crowdedSet cX6_crowdedSet 5 (some .int) 2 false := ⟨kk_gm 726 (by decide +kernel) rfl, kk_gm 152 (by decide +kernel) rfl, by decide +kernel, ⟨kk_gm 725 (by decide +kernel) rfl, kk_gm 41 (by decide +kernel) rfl⟩, Or.inr ⟨"LineColours", kk_nm 879 (by decide +kernel) rfl⟩⟩
theorem ml_X10_272 : kk_ML RX10 272 yX6_linesWithin cX6_linesWithin 5 (some .int) 2 false := ⟨kk_gm 734 (by decide +kernel) rfl, kk_gm 152 (by decide +kernel) rfl, by decide +kernel, ⟨kk_gm 733 (by decide +kernel) rfl, kk_gm 43 (by decide +kernel) rfl⟩, Or.inr ⟨"LineColours", kk_nm 880 (by decide +kernel) rfl⟩⟩
theorem ml_X10_275 : kk_ML RX10 275 yX6_leastPostAbove cX6_leastPostAbove 3 (some .int) 1 false := ⟨kk_gm 888 (by decide +kernel) rfl, kk_gm 152 (by decide +kernel) rfl, by decide +kernel, ⟨kk_gm 887 (by decide +kernel) rfl, kk_gm 58 (by decide +kernel) rfl⟩, Or.inr ⟨"LineColours", kk_nm 885 (by decide +kernel) rfl⟩⟩
theorem ml_X10_278 : kk_ML RX10 278 yX7_forgetAnswer cX7_forgetAnswer 1 none 0 false := ⟨kk_gm 495 (by decide +kernel) rfl, kk_gm 159 (by decide +kernel) rfl, by decide +kernel, ⟨kk_gm 494 (by decide +kernel) rfl, kk_gm 3 (by decide +kernel) rfl⟩, Or.inr ⟨"LineColours", kk_nm 893 (by decide +kernel) rfl⟩⟩
theorem ml_X10_281 : kk_ML RX10 281 yX7_findListed cX7_findListed 2 (some .boolean) 1 false := ⟨kk_gm 901 (by decide +kernel) rfl, kk_gm 159 (by decide +kernel) rfl, by decide +kernel, ⟨kk_gm 900 (by decide +kernel) rfl, kk_gm 59 (by decide +kernel) rfl⟩, Or.inr ⟨"LineColours", kk_nm 898 (by decide +kernel) rfl⟩⟩
theorem ml_X10_285 : kk_ML RX10 285 yX2_longestChain cX2_longestChain 8 (some .int) 2 false := ⟨kk_gm 917 (by decide +kernel) rfl, kk_gm 157 (by decide +kernel) rfl, by decide +kernel, ⟨kk_gm 916 (by decide +kernel) rfl, kk_gm 61 (by decide +kernel) rfl⟩, Or.inr ⟨"LineColours", kk_nm 914 (by decide +kernel) rfl⟩⟩
theorem ml_X10_288 : kk_ML RX10 288 yJ6_numberOfTrailingZeros_0f7a4 cJ6_numberOfTrailingZeros_0f7a4 2 (some .int) 1 true := ⟨kk_gm 510 (by decide +kernel) rfl, kk_gm 164 (by decide +kernel) rfl, by decide +kernel, kk_gm 509 (by decide +kernel) rfl, Or.inl (kk_gm 845 (by decide +kernel) rfl)⟩
theorem ml_X10_291 : kk_ML RX10 291 yX0_gatherAll cX0_gatherAll 1 none 0 false := ⟨kk_gm 925 (by decide +kernel) rfl, kk_gm 160 (by decide +kernel) rfl, by decide +kernel, ⟨kk_gm 924 (by decide +kernel) rfl, kk_gm 62 (by decide +kernel) rfl⟩, Or.inr ⟨"LineColours", kk_nm 922 (by decide +kernel) rfl⟩⟩
theorem ml_X10_297 : kk_ML RX10 297 yX7_dearLines cX7_dearLines 3 (some .int) 0 false := ⟨kk_gm 938 (by decide +kernel) rfl, kk_gm 159 (by decide +kernel) rfl, by decide +kernel, ⟨kk_gm 937 (by decide +kernel) rfl, kk_gm 64 (by decide +kernel) rfl⟩, Or.inr ⟨"LineColours", kk_nm 935 (by decide +kernel) rfl⟩⟩
theorem ml_X10_300 : kk_ML RX10 300 yX9_countKinds cX9_countKinds 2 (some .int) 1 false := ⟨kk_gm 946 (by decide +kernel) rfl, kk_gm 162 (by decide +kernel) rfl, by decide +kernel, ⟨kk_gm 945 (by decide +kernel) rfl, kk_gm 65 (by decide +kernel) rfl⟩, Or.inr ⟨"LineColours", kk_nm 943 (by decide +kernel) rfl⟩⟩
theorem ml_X10_303 : kk_ML RX10 303 yX10_areAllBelow cX10_areAllBelow 4 (some .boolean) 2 false := ⟨kk_gm 999 (by decide +kernel) rfl, kk_gm 151 (by decide +kernel) rfl, by decide +kernel, ⟨kk_gm 998 (by decide +kernel) rfl, kk_gm 75 (by decide +kernel) rfl⟩, Or.inl (kk_gm 996 (by decide +kernel) rfl)⟩
theorem ml_X10_307 : kk_ML RX10 307 yX9_fewestTurns cX9_fewestTurns 6 (some .int) 3 false := ⟨kk_gm 1003 (by decide +kernel) rfl, kk_gm 162 (by decide +kernel) rfl, by decide +kernel, ⟨kk_gm 1002 (by decide +kernel) rfl, kk_gm 76 (by decide +kernel) rfl⟩, Or.inr ⟨"LineColours", kk_nm 1000 (by decide +kernel) rfl⟩⟩
theorem ml_X10_311 : kk_ML RX10 311 yX2_countChains cX2_countChains 7 (some .int) 2 false := ⟨kk_gm 1015 (by decide +kernel) rfl, kk_gm 157 (by decide +kernel) rfl, by decide +kernel, ⟨kk_gm 1014 (by decide +kernel) rfl, kk_gm 78 (by decide +kernel) rfl⟩, Or.inr ⟨"LineColours", kk_nm 1012 (by decide +kernel) rfl⟩⟩
theorem ml_X10_314 : kk_ML RX10 314 yX6_leastOddRound cX6_leastOddRound 6 (some .int) 0 false := ⟨kk_gm 1023 (by decide +kernel) rfl, kk_gm 152 (by decide +kernel) rfl, by decide +kernel, ⟨kk_gm 1022 (by decide +kernel) rfl, kk_gm 79 (by decide +kernel) rfl⟩, Or.inr ⟨"LineColours", kk_nm 1020 (by decide +kernel) rfl⟩⟩
theorem ml_X10_317 : kk_ML RX10 317 yX0_most cX0_most 3 (some .int) 0 false := ⟨kk_gm 1031 (by decide +kernel) rfl, kk_gm 160 (by decide +kernel) rfl, by decide +kernel, ⟨kk_gm 1030 (by decide +kernel) rfl, kk_gm 80 (by decide +kernel) rfl⟩, Or.inr ⟨"LineColours", kk_nm 1028 (by decide +kernel) rfl⟩⟩
theorem ml_X10_327 : kk_ML RX10 327 yX8_countColourings cX8_countColourings 7 (some .long) 1 false := ⟨kk_gm 1041 (by decide +kernel) rfl, kk_gm 161 (by decide +kernel) rfl, by decide +kernel, ⟨kk_gm 1040 (by decide +kernel) rfl, kk_gm 81 (by decide +kernel) rfl⟩, Or.inr ⟨"LineColours", kk_nm 1038 (by decide +kernel) rfl⟩⟩
theorem ml_X10_331 : kk_ML RX10 331 yX10_isLikeKept cX10_isLikeKept 3 (some .boolean) 0 false := ⟨kk_gm 1055 (by decide +kernel) rfl, kk_gm 151 (by decide +kernel) rfl, by decide +kernel, ⟨kk_gm 1054 (by decide +kernel) rfl, kk_gm 83 (by decide +kernel) rfl⟩, Or.inl (kk_gm 1052 (by decide +kernel) rfl)⟩
theorem ml_X10_338 : kk_ML RX10 338 yX3_bareLines cX3_bareLines 3 (some .int) 0 false := ⟨kk_gm 1063 (by decide +kernel) rfl, kk_gm 153 (by decide +kernel) rfl, by decide +kernel, ⟨kk_gm 1062 (by decide +kernel) rfl, kk_gm 84 (by decide +kernel) rfl⟩, Or.inr ⟨"LineColours", kk_nm 1060 (by decide +kernel) rfl⟩⟩
theorem ml_X10_341 : kk_ML RX10 341 yX3_usedColours cX3_usedColours 3 (some .int) 0 false := ⟨kk_gm 1068 (by decide +kernel) rfl, kk_gm 153 (by decide +kernel) rfl, by decide +kernel, ⟨kk_gm 1067 (by decide +kernel) rfl, kk_gm 85 (by decide +kernel) rfl⟩, Or.inr ⟨"LineColours", kk_nm 1065 (by decide +kernel) rfl⟩⟩
theorem ml_X10_344 : kk_ML RX10 344 yX3_unevenness cX3_unevenness 4 (some .int) 0 false := ⟨kk_gm 1072 (by decide +kernel) rfl, kk_gm 153 (by decide +kernel) rfl, by decide +kernel, ⟨kk_gm 1071 (by decide +kernel) rfl, kk_gm 86 (by decide +kernel) rfl⟩, Or.inr ⟨"LineColours", kk_nm 1069 (by decide +kernel) rfl⟩⟩
theorem ml_X10_347 : kk_ML RX10 347 yX10_countEasy cX10_countEasy 4 (some .int) 0 false := ⟨kk_gm 1079 (by decide +kernel) rfl, kk_gm 151 (by decide +kernel) rfl, by decide +kernel, ⟨kk_gm 1078 (by decide +kernel) rfl, kk_gm 87 (by decide +kernel) rfl⟩, Or.inl (kk_gm 1076 (by decide +kernel) rfl)⟩
theorem ml_X10_350 : kk_ML RX10 350 yJ6_numberOfLeadingZeros_0f7a4 cJ6_numberOfLeadingZeros_0f7a4 2 (some .int) 1 true := ⟨kk_gm 819 (by decide +kernel) rfl, kk_gm 164 (by decide +kernel) rfl, by decide +kernel, kk_gm 818 (by decide +kernel) rfl, Or.inl (kk_gm 817 (by decide +kernel) rfl)⟩
theorem ml_X11_11 : kk_ML RX11 11 yX11_has cX11_has 2 (some .boolean) 2 true := ⟨kk_gm 1229 (by decide +kernel) rfl, kk_gm 163 (by decide +kernel) rfl, by decide +kernel, kk_gm 1228 (by decide +kernel) rfl, Or.inl (kk_gm 1227 (by decide +kernel) rfl)⟩
theorem ml_X11_92 : kk_ML RX11 92 yX11_in cX11_in 3 (some .boolean) 3 true := ⟨kk_gm 1186 (by decide +kernel) rfl, kk_gm 163 (by decide +kernel) rfl, by decide +kernel, kk_gm 1185 (by decide +kernel) rfl, Or.inl (kk_gm 1184 (by decide +kernel) rfl)⟩
theorem ml_X11_106 : kk_ML RX11 106 yX11_isPost cX11_isPost 2 (some .boolean) 1 false := ⟨kk_gm 1194 (by decide +kernel) rfl, kk_gm 163 (by decide +kernel) rfl, by decide +kernel, ⟨kk_gm 1193 (by decide +kernel) rfl, kk_gm 88 (by decide +kernel) rfl⟩, Or.inl (kk_gm 1191 (by decide +kernel) rfl)⟩
theorem ml_X11_110 : kk_ML RX11 110 yX11_lineOf cX11_lineOf 4 (some .int) 2 false := ⟨kk_gm 1198 (by decide +kernel) rfl, kk_gm 163 (by decide +kernel) rfl, by decide +kernel, ⟨kk_gm 1197 (by decide +kernel) rfl, kk_gm 89 (by decide +kernel) rfl⟩, Or.inl (kk_gm 1195 (by decide +kernel) rfl)⟩
theorem ml_X11_114 : kk_ML RX11 114 yX11_isAt cX11_isAt 3 (some .boolean) 2 false := ⟨kk_gm 1233 (by decide +kernel) rfl, kk_gm 163 (by decide +kernel) rfl, by decide +kernel, ⟨kk_gm 1232 (by decide +kernel) rfl, kk_gm 96 (by decide +kernel) rfl⟩, Or.inl (kk_gm 1230 (by decide +kernel) rfl)⟩
theorem ml_X11_117 : kk_ML RX11 117 yX11_linesAt cX11_linesAt 5 (some .int) 2 false := ⟨kk_gm 1226 (by decide +kernel) rfl, kk_gm 163 (by decide +kernel) rfl, by decide +kernel, ⟨kk_gm 1225 (by decide +kernel) rfl, kk_gm 95 (by decide +kernel) rfl⟩, Or.inl (kk_gm 1223 (by decide +kernel) rfl)⟩
theorem ml_X11_120 : kk_ML RX11 120 yX11_allLines cX11_allLines 1 (some .int) 0 false := ⟨kk_gm 1218 (by decide +kernel) rfl, kk_gm 163 (by decide +kernel) rfl, by decide +kernel, ⟨kk_gm 1217 (by decide +kernel) rfl, kk_gm 93 (by decide +kernel) rfl⟩, Or.inl (kk_gm 1215 (by decide +kernel) rfl)⟩
theorem ml_X11_124 : kk_ML RX11 124 yX11_degreeOf cX11_degreeOf 5 (some .int) 1 false := ⟨kk_gm 1222 (by decide +kernel) rfl, kk_gm 163 (by decide +kernel) rfl, by decide +kernel, ⟨kk_gm 1221 (by decide +kernel) rfl, kk_gm 94 (by decide +kernel) rfl⟩, Or.inl (kk_gm 1219 (by decide +kernel) rfl)⟩
theorem ml_X11_128 : kk_ML RX11 128 yX11_degree cX11_degree 1 (some .int) 0 false := ⟨kk_gm 1214 (by decide +kernel) rfl, kk_gm 163 (by decide +kernel) rfl, by decide +kernel, ⟨kk_gm 1213 (by decide +kernel) rfl, kk_gm 92 (by decide +kernel) rfl⟩, Or.inl (kk_gm 1211 (by decide +kernel) rfl)⟩
theorem ml_X11_131 : kk_ML RX11 131 yX11_isColour cX11_isColour 2 (some .boolean) 1 false := ⟨kk_gm 1210 (by decide +kernel) rfl, kk_gm 163 (by decide +kernel) rfl, by decide +kernel, ⟨kk_gm 1209 (by decide +kernel) rfl, kk_gm 91 (by decide +kernel) rfl⟩, Or.inl (kk_gm 1207 (by decide +kernel) rfl)⟩
theorem ml_X11_134 : kk_ML RX11 134 yX11_areColours cX11_areColours 3 (some .boolean) 2 false := ⟨kk_gm 1257 (by decide +kernel) rfl, kk_gm 163 (by decide +kernel) rfl, by decide +kernel, ⟨kk_gm 1256 (by decide +kernel) rfl, kk_gm 100 (by decide +kernel) rfl⟩, Or.inl (kk_gm 1254 (by decide +kernel) rfl)⟩
theorem ml_X11_137 : kk_ML RX11 137 yX11_lineWith cX11_lineWith 4 (some .int) 2 false := ⟨kk_gm 1241 (by decide +kernel) rfl, kk_gm 163 (by decide +kernel) rfl, by decide +kernel, ⟨kk_gm 1240 (by decide +kernel) rfl, kk_gm 98 (by decide +kernel) rfl⟩, Or.inl (kk_gm 1238 (by decide +kernel) rfl)⟩
theorem ml_X11_140 : kk_ML RX11 140 yX11_isFreeAt cX11_isFreeAt 3 (some .boolean) 2 false := ⟨kk_gm 1237 (by decide +kernel) rfl, kk_gm 163 (by decide +kernel) rfl, by decide +kernel, ⟨kk_gm 1236 (by decide +kernel) rfl, kk_gm 97 (by decide +kernel) rfl⟩, Or.inl (kk_gm 1234 (by decide +kernel) rfl)⟩
theorem ml_X11_143 : kk_ML RX11 143 yX11_isLine cX11_isLine 2 (some .boolean) 1 false := ⟨kk_gm 1206 (by decide +kernel) rfl, kk_gm 163 (by decide +kernel) rfl, by decide +kernel, ⟨kk_gm 1205 (by decide +kernel) rfl, kk_gm 90 (by decide +kernel) rfl⟩, Or.inl (kk_gm 1203 (by decide +kernel) rfl)⟩
theorem ml_X11_149 : kk_ML RX11 149 yX11_isChain cX11_isChain 4 (some .boolean) 3 false := ⟨kk_gm 1253 (by decide +kernel) rfl, kk_gm 163 (by decide +kernel) rfl, by decide +kernel, ⟨kk_gm 1252 (by decide +kernel) rfl, kk_gm 99 (by decide +kernel) rfl⟩, Or.inl (kk_gm 1250 (by decide +kernel) rfl)⟩
theorem ml_X11_152 : kk_ML RX11 152 yX11_chainIn cX11_chainIn 8 (some .int) 4 false := ⟨kk_gm 1261 (by decide +kernel) rfl, kk_gm 163 (by decide +kernel) rfl, by decide +kernel, ⟨kk_gm 1260 (by decide +kernel) rfl, kk_gm 101 (by decide +kernel) rfl⟩, Or.inl (kk_gm 1258 (by decide +kernel) rfl)⟩
theorem ml_X11_156 : kk_ML RX11 156 yX11_flips cX11_flips 5 none 4 true := ⟨kk_gm 1264 (by decide +kernel) rfl, kk_gm 163 (by decide +kernel) rfl, by decide +kernel, kk_gm 1263 (by decide +kernel) rfl, Or.inl (kk_gm 1262 (by decide +kernel) rfl)⟩
theorem ml_X11_160 : kk_ML RX11 160 yX11_bitsOf cX11_bitsOf 2 (some .int) 1 true := ⟨kk_gm 1267 (by decide +kernel) rfl, kk_gm 163 (by decide +kernel) rfl, by decide +kernel, kk_gm 1266 (by decide +kernel) rfl, Or.inl (kk_gm 1265 (by decide +kernel) rfl)⟩
theorem ml_X11_163 : kk_ML RX11 163 yX11_manyWith cX11_manyWith 5 (some .int) 2 false := ⟨kk_gm 1279 (by decide +kernel) rfl, kk_gm 163 (by decide +kernel) rfl, by decide +kernel, ⟨kk_gm 1278 (by decide +kernel) rfl, kk_gm 102 (by decide +kernel) rfl⟩, Or.inl (kk_gm 1276 (by decide +kernel) rfl)⟩
theorem ml_X11_166 : kk_ML RX11 166 yX11_lowestOf cX11_lowestOf 2 (some .int) 1 true := ⟨kk_gm 1290 (by decide +kernel) rfl, kk_gm 163 (by decide +kernel) rfl, by decide +kernel, kk_gm 1289 (by decide +kernel) rfl, Or.inl (kk_gm 1288 (by decide +kernel) rfl)⟩
theorem ml_X11_169 : kk_ML RX11 169 yX11_swaps cX11_swaps 5 (some .int) 2 false := ⟨kk_gm 1298 (by decide +kernel) rfl, kk_gm 163 (by decide +kernel) rfl, by decide +kernel, ⟨kk_gm 1297 (by decide +kernel) rfl, kk_gm 103 (by decide +kernel) rfl⟩, Or.inl (kk_gm 1295 (by decide +kernel) rfl)⟩
theorem ml_X11_172 : kk_ML RX11 172 yX11_otherEnd cX11_otherEnd 3 (some .int) 2 false := ⟨kk_gm 1310 (by decide +kernel) rfl, kk_gm 163 (by decide +kernel) rfl, by decide +kernel, ⟨kk_gm 1309 (by decide +kernel) rfl, kk_gm 105 (by decide +kernel) rfl⟩, Or.inl (kk_gm 1307 (by decide +kernel) rfl)⟩
theorem ml_X11_178 : kk_ML RX11 178 yX11_laysFan cX11_laysFan 8 none 2 false := ⟨kk_gm 1306 (by decide +kernel) rfl, kk_gm 163 (by decide +kernel) rfl, by decide +kernel, ⟨kk_gm 1305 (by decide +kernel) rfl, kk_gm 104 (by decide +kernel) rfl⟩, Or.inl (kk_gm 1303 (by decide +kernel) rfl)⟩
theorem ml_X11_182 : kk_ML RX11 182 yX11_leastFreeAt cX11_leastFreeAt 3 (some .int) 1 false := ⟨kk_gm 1322 (by decide +kernel) rfl, kk_gm 163 (by decide +kernel) rfl, by decide +kernel, ⟨kk_gm 1321 (by decide +kernel) rfl, kk_gm 107 (by decide +kernel) rfl⟩, Or.inl (kk_gm 1319 (by decide +kernel) rfl)⟩
theorem ml_X11_185 : kk_ML RX11 185 yX11_grows cX11_grows 7 (some .int) 1 false := ⟨kk_gm 1318 (by decide +kernel) rfl, kk_gm 163 (by decide +kernel) rfl, by decide +kernel, ⟨kk_gm 1317 (by decide +kernel) rfl, kk_gm 106 (by decide +kernel) rfl⟩, Or.inl (kk_gm 1315 (by decide +kernel) rfl)⟩
theorem ml_X11_188 : kk_ML RX11 188 yX11_oddRound cX11_oddRound 8 (some .int) 0 false := ⟨kk_gm 1338 (by decide +kernel) rfl, kk_gm 163 (by decide +kernel) rfl, by decide +kernel, ⟨kk_gm 1337 (by decide +kernel) rfl, kk_gm 108 (by decide +kernel) rfl⟩, Or.inl (kk_gm 1335 (by decide +kernel) rfl)⟩
theorem ml_X11_191 : kk_ML RX11 191 yX11_laysSides cX11_laysSides 6 (some .boolean) 0 false := ⟨kk_gm 1342 (by decide +kernel) rfl, kk_gm 163 (by decide +kernel) rfl, by decide +kernel, ⟨kk_gm 1341 (by decide +kernel) rfl, kk_gm 109 (by decide +kernel) rfl⟩, Or.inl (kk_gm 1339 (by decide +kernel) rfl)⟩
theorem ml_X11_195 : kk_ML RX11 195 yX11_usedAt cX11_usedAt 4 (some .int) 1 false := ⟨kk_gm 1350 (by decide +kernel) rfl, kk_gm 163 (by decide +kernel) rfl, by decide +kernel, ⟨kk_gm 1349 (by decide +kernel) rfl, kk_gm 110 (by decide +kernel) rfl⟩, Or.inl (kk_gm 1347 (by decide +kernel) rfl)⟩
theorem ml_X11_198 : kk_ML RX11 198 yX11_greatestUsed cX11_greatestUsed 3 (some .int) 0 false := ⟨kk_gm 1362 (by decide +kernel) rfl, kk_gm 163 (by decide +kernel) rfl, by decide +kernel, ⟨kk_gm 1361 (by decide +kernel) rfl, kk_gm 112 (by decide +kernel) rfl⟩, Or.inl (kk_gm 1359 (by decide +kernel) rfl)⟩
theorem ml_X11_201 : kk_ML RX11 201 yX11_longerChain cX11_longerChain 5 (some .int) 2 false := ⟨kk_gm 1366 (by decide +kernel) rfl, kk_gm 163 (by decide +kernel) rfl, by decide +kernel, ⟨kk_gm 1365 (by decide +kernel) rfl, kk_gm 113 (by decide +kernel) rfl⟩, Or.inl (kk_gm 1363 (by decide +kernel) rfl)⟩
theorem ml_X11_204 : kk_ML RX11 204 yX11_evens cX11_evens 4 (some .boolean) 0 false := ⟨kk_gm 1358 (by decide +kernel) rfl, kk_gm 163 (by decide +kernel) rfl, by decide +kernel, ⟨kk_gm 1357 (by decide +kernel) rfl, kk_gm 111 (by decide +kernel) rfl⟩, Or.inl (kk_gm 1355 (by decide +kernel) rfl)⟩
theorem ml_X11_207 : kk_ML RX11 207 yX11_waysOf cX11_waysOf 2 (some .int) 1 false := ⟨kk_gm 1390 (by decide +kernel) rfl, kk_gm 163 (by decide +kernel) rfl, by decide +kernel, ⟨kk_gm 1389 (by decide +kernel) rfl, kk_gm 118 (by decide +kernel) rfl⟩, Or.inl (kk_gm 1387 (by decide +kernel) rfl)⟩
theorem ml_X11_216 : kk_ML RX11 216 yX11_canBeAt cX11_canBeAt 6 (some .boolean) 2 false := ⟨kk_gm 1410 (by decide +kernel) rfl, kk_gm 163 (by decide +kernel) rfl, by decide +kernel, ⟨kk_gm 1409 (by decide +kernel) rfl, kk_gm 123 (by decide +kernel) rfl⟩, Or.inl (kk_gm 1407 (by decide +kernel) rfl)⟩
theorem ml_X11_219 : kk_ML RX11 219 yX11_picks cX11_picks 3 none 2 false := ⟨kk_gm 1394 (by decide +kernel) rfl, kk_gm 163 (by decide +kernel) rfl, by decide +kernel, ⟨kk_gm 1393 (by decide +kernel) rfl, kk_gm 119 (by decide +kernel) rfl⟩, Or.inl (kk_gm 1391 (by decide +kernel) rfl)⟩
theorem ml_X11_222 : kk_ML RX11 222 yX11_laysParts cX11_laysParts 8 none 1 false := ⟨kk_gm 1398 (by decide +kernel) rfl, kk_gm 163 (by decide +kernel) rfl, by decide +kernel, ⟨kk_gm 1397 (by decide +kernel) rfl, kk_gm 120 (by decide +kernel) rfl⟩, Or.inl (kk_gm 1395 (by decide +kernel) rfl)⟩
theorem ml_X11_226 : kk_ML RX11 226 yX11_fewestWays cX11_fewestWays 4 (some .int) 1 false := ⟨kk_gm 1402 (by decide +kernel) rfl, kk_gm 163 (by decide +kernel) rfl, by decide +kernel, ⟨kk_gm 1401 (by decide +kernel) rfl, kk_gm 121 (by decide +kernel) rfl⟩, Or.inl (kk_gm 1399 (by decide +kernel) rfl)⟩
theorem ml_X11_229 : kk_ML RX11 229 yX11_canBeEnough cX11_canBeEnough 10 (some .boolean) 1 false := ⟨kk_gm 1406 (by decide +kernel) rfl, kk_gm 163 (by decide +kernel) rfl, by decide +kernel, ⟨kk_gm 1405 (by decide +kernel) rfl, kk_gm 122 (by decide +kernel) rfl⟩, Or.inl (kk_gm 1403 (by decide +kernel) rfl)⟩
theorem ml_X11_232 : kk_ML RX11 232 yX11_triesOf cX11_triesOf 5 (some .int) 1 false := ⟨kk_gm 1414 (by decide +kernel) rfl, kk_gm 163 (by decide +kernel) rfl, by decide +kernel, ⟨kk_gm 1413 (by decide +kernel) rfl, kk_gm 124 (by decide +kernel) rfl⟩, Or.inl (kk_gm 1411 (by decide +kernel) rfl)⟩
theorem ml_X11_235 : kk_ML RX11 235 yX11_canGoOn cX11_canGoOn 7 (some .boolean) 1 false := ⟨kk_gm 1386 (by decide +kernel) rfl, kk_gm 163 (by decide +kernel) rfl, by decide +kernel, ⟨kk_gm 1385 (by decide +kernel) rfl, kk_gm 117 (by decide +kernel) rfl⟩, Or.inl (kk_gm 1383 (by decide +kernel) rfl)⟩
theorem ml_X11_238 : kk_ML RX11 238 yX11_allPosts cX11_allPosts 1 (some .int) 0 false := ⟨kk_gm 1447 (by decide +kernel) rfl, kk_gm 163 (by decide +kernel) rfl, by decide +kernel, ⟨kk_gm 1446 (by decide +kernel) rfl, kk_gm 126 (by decide +kernel) rfl⟩, Or.inl (kk_gm 1444 (by decide +kernel) rfl)⟩
theorem ml_X11_241 : kk_ML RX11 241 yX11_linesWithin cX11_linesWithin 4 (some .int) 1 false := ⟨kk_gm 1451 (by decide +kernel) rfl, kk_gm 163 (by decide +kernel) rfl, by decide +kernel, ⟨kk_gm 1450 (by decide +kernel) rfl, kk_gm 127 (by decide +kernel) rfl⟩, Or.inl (kk_gm 1448 (by decide +kernel) rfl)⟩
theorem ml_X11_244 : kk_ML RX11 244 yX11_picksFirst cX11_picksFirst 5 (some .boolean) 1 false := ⟨kk_gm 1382 (by decide +kernel) rfl, kk_gm 163 (by decide +kernel) rfl, by decide +kernel, ⟨kk_gm 1381 (by decide +kernel) rfl, kk_gm 116 (by decide +kernel) rfl⟩, Or.inl (kk_gm 1379 (by decide +kernel) rfl)⟩
theorem ml_X11_247 : kk_ML RX11 247 yX11_laysFirst cX11_laysFirst 4 (some .boolean) 2 false := ⟨kk_gm 1378 (by decide +kernel) rfl, kk_gm 163 (by decide +kernel) rfl, by decide +kernel, ⟨kk_gm 1377 (by decide +kernel) rfl, kk_gm 115 (by decide +kernel) rfl⟩, Or.inl (kk_gm 1375 (by decide +kernel) rfl)⟩
theorem ml_X11_250 : kk_ML RX11 250 yX11_indexOf cX11_indexOf 3 (some .int) 1 false := ⟨kk_gm 1374 (by decide +kernel) rfl, kk_gm 163 (by decide +kernel) rfl, by decide +kernel, ⟨kk_gm 1373 (by decide +kernel) rfl, kk_gm 114 (by decide +kernel) rfl⟩, Or.inl (kk_gm 1371 (by decide +kernel) rfl)⟩
theorem ml_X11_253 : kk_ML RX11 253 yX11_index cX11_index 1 (some .int) 0 false := ⟨kk_gm 1370 (by decide +kernel) rfl, kk_gm 163 (by decide +kernel) rfl, by decide +kernel, ⟨kk_gm 1368 (by decide +kernel) rfl, kk_gm 1369 (by decide +kernel) rfl⟩, Or.inl (kk_gm 1427 (by decide +kernel) rfl)⟩
theorem ml_X11_256 : kk_ML RX11 256 yX11_fullSet cX11_fullSet 4 (some .int) 1 false := ⟨kk_gm 1443 (by decide +kernel) rfl, kk_gm 163 (by decide +kernel) rfl, by decide +kernel, ⟨kk_gm 1442 (by decide +kernel) rfl, kk_gm 125 (by decide +kernel) rfl⟩, Or.inl (kk_gm 1440 (by decide +kernel) rfl)⟩
theorem ml_X11_259 : kk_ML RX11 259 yX11_doMeet cX11_doMeet 3 (some .boolean) 2 false := ⟨kk_gm 1477 (by decide +kernel) rfl, kk_gm 163 (by decide +kernel) rfl, by decide +kernel, ⟨kk_gm 1476 (by decide +kernel) rfl, kk_gm 131 (by decide +kernel) rfl⟩, Or.inl (kk_gm 1474 (by decide +kernel) rfl)⟩
theorem ml_X11_262 : kk_ML RX11 262 yX11_partsAhead cX11_partsAhead 4 (some .int) 1 false := ⟨kk_gm 1469 (by decide +kernel) rfl, kk_gm 163 (by decide +kernel) rfl, by decide +kernel, ⟨kk_gm 1468 (by decide +kernel) rfl, kk_gm 129 (by decide +kernel) rfl⟩, Or.inl (kk_gm 1466 (by decide +kernel) rfl)⟩
theorem ml_X11_265 : kk_ML RX11 265 yX11_canBePart cX11_canBePart 3 (some .boolean) 1 false := ⟨kk_gm 1473 (by decide +kernel) rfl, kk_gm 163 (by decide +kernel) rfl, by decide +kernel, ⟨kk_gm 1472 (by decide +kernel) rfl, kk_gm 130 (by decide +kernel) rfl⟩, Or.inl (kk_gm 1470 (by decide +kernel) rfl)⟩
theorem ml_X11_272 : kk_ML RX11 272 yX11_laysParted cX11_laysParted 2 none 0 false := ⟨kk_gm 1465 (by decide +kernel) rfl, kk_gm 163 (by decide +kernel) rfl, by decide +kernel, ⟨kk_gm 1464 (by decide +kernel) rfl, kk_gm 128 (by decide +kernel) rfl⟩, Or.inl (kk_gm 1462 (by decide +kernel) rfl)⟩
theorem ml_X11_275 : kk_ML RX11 275 yX11_laysTrial cX11_laysTrial 5 none 2 false := ⟨kk_gm 1489 (by decide +kernel) rfl, kk_gm 163 (by decide +kernel) rfl, by decide +kernel, ⟨kk_gm 1488 (by decide +kernel) rfl, kk_gm 133 (by decide +kernel) rfl⟩, Or.inl (kk_gm 1486 (by decide +kernel) rfl)⟩
theorem ml_X11_278 : kk_ML RX11 278 yX11_codeOf cX11_codeOf 5 (some .int) 2 false := ⟨kk_gm 1501 (by decide +kernel) rfl, kk_gm 163 (by decide +kernel) rfl, by decide +kernel, ⟨kk_gm 1500 (by decide +kernel) rfl, kk_gm 136 (by decide +kernel) rfl⟩, Or.inl (kk_gm 1498 (by decide +kernel) rfl)⟩
theorem ml_X11_282 : kk_ML RX11 282 yX11_codes cX11_codes 4 (some .int) 1 false := ⟨kk_gm 1485 (by decide +kernel) rfl, kk_gm 163 (by decide +kernel) rfl, by decide +kernel, ⟨kk_gm 1484 (by decide +kernel) rfl, kk_gm 132 (by decide +kernel) rfl⟩, Or.inl (kk_gm 1482 (by decide +kernel) rfl)⟩
theorem ml_X11_285 : kk_ML RX11 285 yX11_isTrialFit cX11_isTrialFit 3 (some .boolean) 0 false := ⟨kk_gm 1493 (by decide +kernel) rfl, kk_gm 163 (by decide +kernel) rfl, by decide +kernel, ⟨kk_gm 1492 (by decide +kernel) rfl, kk_gm 134 (by decide +kernel) rfl⟩, Or.inl (kk_gm 1490 (by decide +kernel) rfl)⟩
theorem ml_X11_288 : kk_ML RX11 288 yX11_spreads cX11_spreads 11 none 3 false := ⟨kk_gm 1497 (by decide +kernel) rfl, kk_gm 163 (by decide +kernel) rfl, by decide +kernel, ⟨kk_gm 1496 (by decide +kernel) rfl, kk_gm 135 (by decide +kernel) rfl⟩, Or.inl (kk_gm 1494 (by decide +kernel) rfl)⟩
theorem ml_X11_292 : kk_ML RX11 292 yX11_areBelow cX11_areBelow 4 (some .boolean) 2 false := ⟨kk_gm 1509 (by decide +kernel) rfl, kk_gm 163 (by decide +kernel) rfl, by decide +kernel, ⟨kk_gm 1508 (by decide +kernel) rfl, kk_gm 137 (by decide +kernel) rfl⟩, Or.inl (kk_gm 1506 (by decide +kernel) rfl)⟩
theorem ml_X11_296 : kk_ML RX11 296 yX11_apartBy cX11_apartBy 3 (some .int) 2 false := ⟨kk_gm 1521 (by decide +kernel) rfl, kk_gm 163 (by decide +kernel) rfl, by decide +kernel, ⟨kk_gm 1520 (by decide +kernel) rfl, kk_gm 139 (by decide +kernel) rfl⟩, Or.inl (kk_gm 1518 (by decide +kernel) rfl)⟩
theorem ml_X11_299 : kk_ML RX11 299 yX11_areThere cX11_areThere 3 (some .boolean) 2 false := ⟨kk_gm 1525 (by decide +kernel) rfl, kk_gm 163 (by decide +kernel) rfl, by decide +kernel, ⟨kk_gm 1524 (by decide +kernel) rfl, kk_gm 140 (by decide +kernel) rfl⟩, Or.inl (kk_gm 1522 (by decide +kernel) rfl)⟩
theorem ml_X11_302 : kk_ML RX11 302 yX11_without cX11_without 3 (some .int) 2 false := ⟨kk_gm 1529 (by decide +kernel) rfl, kk_gm 163 (by decide +kernel) rfl, by decide +kernel, ⟨kk_gm 1528 (by decide +kernel) rfl, kk_gm 141 (by decide +kernel) rfl⟩, Or.inl (kk_gm 1526 (by decide +kernel) rfl)⟩
theorem ml_X11_305 : kk_ML RX11 305 yX11_laysApart cX11_laysApart 5 none 0 false := ⟨kk_gm 1517 (by decide +kernel) rfl, kk_gm 163 (by decide +kernel) rfl, by decide +kernel, ⟨kk_gm 1516 (by decide +kernel) rfl, kk_gm 138 (by decide +kernel) rfl⟩, Or.inl (kk_gm 1514 (by decide +kernel) rfl)⟩
theorem ml_X11_308 : kk_ML RX11 308 yX11_idleAt cX11_idleAt 5 (some .int) 1 false := ⟨kk_gm 1565 (by decide +kernel) rfl, kk_gm 163 (by decide +kernel) rfl, by decide +kernel, ⟨kk_gm 1564 (by decide +kernel) rfl, kk_gm 143 (by decide +kernel) rfl⟩, Or.inl (kk_gm 1562 (by decide +kernel) rfl)⟩
theorem ml_X11_311 : kk_ML RX11 311 yX11_idleAll cX11_idleAll 3 (some .int) 0 false := ⟨kk_gm 1561 (by decide +kernel) rfl, kk_gm 163 (by decide +kernel) rfl, by decide +kernel, ⟨kk_gm 1560 (by decide +kernel) rfl, kk_gm 142 (by decide +kernel) rfl⟩, Or.inl (kk_gm 1558 (by decide +kernel) rfl)⟩
theorem ml_X11_314 : kk_ML RX11 314 yX11_unlikeMany cX11_unlikeMany 3 (some .int) 0 false := ⟨kk_gm 1581 (by decide +kernel) rfl, kk_gm 163 (by decide +kernel) rfl, by decide +kernel, ⟨kk_gm 1580 (by decide +kernel) rfl, kk_gm 144 (by decide +kernel) rfl⟩, Or.inl (kk_gm 1578 (by decide +kernel) rfl)⟩
theorem ml_X11_317 : kk_ML RX11 317 yX11_areLike cX11_areLike 3 (some .boolean) 0 false := ⟨kk_gm 1589 (by decide +kernel) rfl, kk_gm 163 (by decide +kernel) rfl, by decide +kernel, ⟨kk_gm 1588 (by decide +kernel) rfl, kk_gm 145 (by decide +kernel) rfl⟩, Or.inl (kk_gm 1586 (by decide +kernel) rfl)⟩
theorem ml_X11_320 : kk_ML RX11 320 yX11_free cX11_free 2 (some .int) 1 false := ⟨kk_gm 1553 (by decide +kernel) rfl, kk_gm 163 (by decide +kernel) rfl, by decide +kernel, ⟨kk_gm 1551 (by decide +kernel) rfl, kk_gm 1552 (by decide +kernel) rfl⟩, Or.inl (kk_gm 1610 (by decide +kernel) rfl)⟩
theorem ml_X11_323 : kk_ML RX11 323 yX11_bareMany cX11_bareMany 1 (some .int) 0 false := ⟨kk_gm 1597 (by decide +kernel) rfl, kk_gm 163 (by decide +kernel) rfl, by decide +kernel, ⟨kk_gm 1596 (by decide +kernel) rfl, kk_gm 146 (by decide +kernel) rfl⟩, Or.inl (kk_gm 1594 (by decide +kernel) rfl)⟩
theorem ml_X11_326 : kk_ML RX11 326 yX11_usedColours cX11_usedColours 3 (some .int) 0 false := ⟨kk_gm 1601 (by decide +kernel) rfl, kk_gm 163 (by decide +kernel) rfl, by decide +kernel, ⟨kk_gm 1600 (by decide +kernel) rfl, kk_gm 147 (by decide +kernel) rfl⟩, Or.inl (kk_gm 1598 (by decide +kernel) rfl)⟩
theorem ml_X11_329 : kk_ML RX11 329 yX11_uneven cX11_uneven 5 (some .int) 0 false := ⟨kk_gm 1605 (by decide +kernel) rfl, kk_gm 163 (by decide +kernel) rfl, by decide +kernel, ⟨kk_gm 1604 (by decide +kernel) rfl, kk_gm 148 (by decide +kernel) rfl⟩, Or.inl (kk_gm 1602 (by decide +kernel) rfl)⟩
theorem ml_X11_332 : kk_ML RX11 332 yX11_easyMany cX11_easyMany 3 (some .int) 0 false := ⟨kk_gm 1609 (by decide +kernel) rfl, kk_gm 163 (by decide +kernel) rfl, by decide +kernel, ⟨kk_gm 1608 (by decide +kernel) rfl, kk_gm 149 (by decide +kernel) rfl⟩, Or.inl (kk_gm 1606 (by decide +kernel) rfl)⟩
theorem ml_X2_31 : kk_ML RX2 31 yX6_joined cX6_joined 8 (some .int) 2 false := ⟨kk_gm 593 (by decide +kernel) rfl, kk_gm 152 (by decide +kernel) rfl, by decide +kernel, ⟨kk_gm 592 (by decide +kernel) rfl, kk_gm 19 (by decide +kernel) rfl⟩, Or.inr ⟨"LineColours", kk_nm 702 (by decide +kernel) rfl⟩⟩
theorem ml_X2_35 : kk_ML RX2 35 yJ6_bitCount_0f7a4 cJ6_bitCount_0f7a4 1 (some .int) 1 true := ⟨kk_gm 532 (by decide +kernel) rfl, kk_gm 164 (by decide +kernel) rfl, by decide +kernel, kk_gm 531 (by decide +kernel) rfl, Or.inl (kk_gm 697 (by decide +kernel) rfl)⟩
theorem ml_X2_41 : kk_ML RX2 41 yX2_greatestUsed cX2_greatestUsed 3 (some .int) 0 false := ⟨kk_gm 692 (by decide +kernel) rfl, kk_gm 157 (by decide +kernel) rfl, by decide +kernel, ⟨kk_gm 691 (by decide +kernel) rfl, kk_gm 35 (by decide +kernel) rfl⟩, Or.inl (kk_gm 689 (by decide +kernel) rfl)⟩
theorem ml_X2_45 : kk_ML RX2 45 yX2_howMany cX2_howMany 2 (some .int) 1 false := ⟨kk_gm 696 (by decide +kernel) rfl, kk_gm 157 (by decide +kernel) rfl, by decide +kernel, ⟨kk_gm 695 (by decide +kernel) rfl, kk_gm 36 (by decide +kernel) rfl⟩, Or.inl (kk_gm 693 (by decide +kernel) rfl)⟩
theorem ml_X2_48 : kk_ML RX2 48 yX2_leaningChain cX2_leaningChain 7 (some .int) 2 false := ⟨kk_gm 701 (by decide +kernel) rfl, kk_gm 157 (by decide +kernel) rfl, by decide +kernel, ⟨kk_gm 700 (by decide +kernel) rfl, kk_gm 37 (by decide +kernel) rfl⟩, Or.inl (kk_gm 698 (by decide +kernel) rfl)⟩
theorem ml_X2_51 : kk_ML RX2 51 yX3_flip cX3_flip 5 none 3 false := ⟨kk_gm 597 (by decide +kernel) rfl, kk_gm 153 (by decide +kernel) rfl, by decide +kernel, ⟨kk_gm 596 (by decide +kernel) rfl, kk_gm 20 (by decide +kernel) rfl⟩, Or.inr ⟨"LineColours", kk_nm 703 (by decide +kernel) rfl⟩⟩
theorem ml_X3_22 : kk_ML RX3 22 yJ7_fill_53178 cJ7_fill_53178 4 none 2 true := ⟨kk_gm 241 (by decide +kernel) rfl, kk_gm 154 (by decide +kernel) rfl, by decide +kernel, kk_gm 240 (by decide +kernel) rfl, Or.inl (kk_gm 239 (by decide +kernel) rfl)⟩
theorem ml_X3_34 : kk_ML RX3 34 yX3_colours cX3_colours 1 (some .int) 0 false := ⟨kk_gm 551 (by decide +kernel) rfl, kk_gm 153 (by decide +kernel) rfl, by decide +kernel, ⟨kk_gm 550 (by decide +kernel) rfl, kk_gm 11 (by decide +kernel) rfl⟩, Or.inl (kk_gm 548 (by decide +kernel) rfl)⟩
theorem ml_X3_38 : kk_ML RX3 38 yX3_isColour cX3_isColour 2 (some .boolean) 1 false := ⟨kk_gm 547 (by decide +kernel) rfl, kk_gm 153 (by decide +kernel) rfl, by decide +kernel, ⟨kk_gm 546 (by decide +kernel) rfl, kk_gm 10 (by decide +kernel) rfl⟩, Or.inl (kk_gm 585 (by decide +kernel) rfl)⟩
theorem ml_X3_42 : kk_ML RX3 42 yX6_allLines cX6_allLines 1 (some .int) 0 false := ⟨kk_gm 525 (by decide +kernel) rfl, kk_gm 152 (by decide +kernel) rfl, by decide +kernel, ⟨kk_gm 524 (by decide +kernel) rfl, kk_gm 7 (by decide +kernel) rfl⟩, Or.inr ⟨"LineColours", kk_nm 1064 (by decide +kernel) rfl⟩⟩
theorem ml_X3_45 : kk_ML RX3 45 yJ6_bitCount_0f7a4 cJ6_bitCount_0f7a4 1 (some .int) 1 true := ⟨kk_gm 532 (by decide +kernel) rfl, kk_gm 164 (by decide +kernel) rfl, by decide +kernel, kk_gm 531 (by decide +kernel) rfl, Or.inl (kk_gm 1073 (by decide +kernel) rfl)⟩
theorem ml_X3_51 : kk_ML RX3 51 yJ9_max_7cf53 cJ9_max_7cf53 2 (some .int) 2 true := ⟨kk_gm 521 (by decide +kernel) rfl, kk_gm 165 (by decide +kernel) rfl, by decide +kernel, kk_gm 520 (by decide +kernel) rfl, Or.inl (kk_gm 1074 (by decide +kernel) rfl)⟩
theorem ml_X3_57 : kk_ML RX3 57 yJ9_min_7cf53 cJ9_min_7cf53 2 (some .int) 2 true := ⟨kk_gm 518 (by decide +kernel) rfl, kk_gm 165 (by decide +kernel) rfl, by decide +kernel, kk_gm 517 (by decide +kernel) rfl, Or.inl (kk_gm 1075 (by decide +kernel) rfl)⟩
theorem ml_X3_63 : kk_ML RX3 63 yX3_coloursAt cX3_coloursAt 4 (some .int) 1 false := ⟨kk_gm 563 (by decide +kernel) rfl, kk_gm 153 (by decide +kernel) rfl, by decide +kernel, ⟨kk_gm 562 (by decide +kernel) rfl, kk_gm 14 (by decide +kernel) rfl⟩, Or.inl (kk_gm 560 (by decide +kernel) rfl)⟩
theorem ml_X3_69 : kk_ML RX3 69 yX3_freeAt cX3_freeAt 2 (some .int) 1 false := ⟨kk_gm 559 (by decide +kernel) rfl, kk_gm 153 (by decide +kernel) rfl, by decide +kernel, ⟨kk_gm 558 (by decide +kernel) rfl, kk_gm 13 (by decide +kernel) rfl⟩, Or.inl (kk_gm 556 (by decide +kernel) rfl)⟩
theorem ml_X3_75 : kk_ML RX3 75 yJ6_numberOfTrailingZeros_0f7a4 cJ6_numberOfTrailingZeros_0f7a4 2 (some .int) 1 true := ⟨kk_gm 510 (by decide +kernel) rfl, kk_gm 164 (by decide +kernel) rfl, by decide +kernel, kk_gm 509 (by decide +kernel) rfl, Or.inl (kk_gm 628 (by decide +kernel) rfl)⟩
theorem ml_X3_78 : kk_ML RX3 78 yX3_strip cX3_strip 3 none 1 false := ⟨kk_gm 571 (by decide +kernel) rfl, kk_gm 153 (by decide +kernel) rfl, by decide +kernel, ⟨kk_gm 570 (by decide +kernel) rfl, kk_gm 16 (by decide +kernel) rfl⟩, Or.inl (kk_gm 568 (by decide +kernel) rfl)⟩
theorem ml_X3_82 : kk_ML RX3 82 yX6_joined cX6_joined 8 (some .int) 2 false := ⟨kk_gm 593 (by decide +kernel) rfl, kk_gm 152 (by decide +kernel) rfl, by decide +kernel, ⟨kk_gm 592 (by decide +kernel) rfl, kk_gm 19 (by decide +kernel) rfl⟩, Or.inr ⟨"LineColours", kk_nm 590 (by decide +kernel) rfl⟩⟩
theorem ml_X3_88 : kk_ML RX3 88 yX3_freeAtBoth cX3_freeAtBoth 2 (some .int) 1 false := ⟨kk_gm 555 (by decide +kernel) rfl, kk_gm 153 (by decide +kernel) rfl, by decide +kernel, ⟨kk_gm 554 (by decide +kernel) rfl, kk_gm 12 (by decide +kernel) rfl⟩, Or.inl (kk_gm 676 (by decide +kernel) rfl)⟩
theorem ml_X3_91 : kk_ML RX3 91 yX3_give cX3_give 3 none 2 false := ⟨kk_gm 567 (by decide +kernel) rfl, kk_gm 153 (by decide +kernel) rfl, by decide +kernel, ⟨kk_gm 566 (by decide +kernel) rfl, kk_gm 15 (by decide +kernel) rfl⟩, Or.inl (kk_gm 677 (by decide +kernel) rfl)⟩
theorem ml_X3_95 : kk_ML RX3 95 yX3_leastFreeAt cX3_leastFreeAt 2 (some .int) 1 false := ⟨kk_gm 632 (by decide +kernel) rfl, kk_gm 153 (by decide +kernel) rfl, by decide +kernel, ⟨kk_gm 631 (by decide +kernel) rfl, kk_gm 26 (by decide +kernel) rfl⟩, Or.inl (kk_gm 678 (by decide +kernel) rfl)⟩
theorem ml_X3_98 : kk_ML RX3 98 yX3_chainOf cX3_chainOf 4 (some .int) 3 false := ⟨kk_gm 589 (by decide +kernel) rfl, kk_gm 153 (by decide +kernel) rfl, by decide +kernel, ⟨kk_gm 588 (by decide +kernel) rfl, kk_gm 18 (by decide +kernel) rfl⟩, Or.inl (kk_gm 679 (by decide +kernel) rfl)⟩
theorem ml_X3_102 : kk_ML RX3 102 yX3_flip cX3_flip 5 none 3 false := ⟨kk_gm 597 (by decide +kernel) rfl, kk_gm 153 (by decide +kernel) rfl, by decide +kernel, ⟨kk_gm 596 (by decide +kernel) rfl, kk_gm 20 (by decide +kernel) rfl⟩, Or.inl (kk_gm 680 (by decide +kernel) rfl)⟩
theorem ml_X4_27 : kk_ML RX4 27 yX6_farEnd cX6_farEnd 3 (some .int) 2 false := ⟨kk_gm 618 (by decide +kernel) rfl, kk_gm 152 (by decide +kernel) rfl, by decide +kernel, ⟨kk_gm 617 (by decide +kernel) rfl, kk_gm 23 (by decide +kernel) rfl⟩, Or.inr ⟨"LineColours", kk_nm 615 (by decide +kernel) rfl⟩⟩
theorem ml_X4_33 : kk_ML RX4 33 yX4_follower cX4_follower 8 (some .int) 3 false := ⟨kk_gm 622 (by decide +kernel) rfl, kk_gm 155 (by decide +kernel) rfl, by decide +kernel, ⟨kk_gm 621 (by decide +kernel) rfl, kk_gm 24 (by decide +kernel) rfl⟩, Or.inl (kk_gm 619 (by decide +kernel) rfl)⟩
theorem ml_X4_37 : kk_ML RX4 37 yX3_freeAt cX3_freeAt 2 (some .int) 1 false := ⟨kk_gm 559 (by decide +kernel) rfl, kk_gm 153 (by decide +kernel) rfl, by decide +kernel, ⟨kk_gm 558 (by decide +kernel) rfl, kk_gm 13 (by decide +kernel) rfl⟩, Or.inr ⟨"LineColours", kk_nm 623 (by decide +kernel) rfl⟩⟩
theorem ml_X4_43 : kk_ML RX4 43 yX3_lineWith cX3_lineWith 4 (some .int) 2 false := ⟨kk_gm 627 (by decide +kernel) rfl, kk_gm 153 (by decide +kernel) rfl, by decide +kernel, ⟨kk_gm 626 (by decide +kernel) rfl, kk_gm 25 (by decide +kernel) rfl⟩, Or.inr ⟨"LineColours", kk_nm 624 (by decide +kernel) rfl⟩⟩
theorem ml_X4_46 : kk_ML RX4 46 yX4_follows cX4_follows 4 (some .boolean) 2 false := ⟨kk_gm 647 (by decide +kernel) rfl, kk_gm 155 (by decide +kernel) rfl, by decide +kernel, ⟨kk_gm 646 (by decide +kernel) rfl, kk_gm 29 (by decide +kernel) rfl⟩, Or.inl (kk_gm 644 (by decide +kernel) rfl)⟩
theorem ml_X4_50 : kk_ML RX4 50 yX3_isFreeAt cX3_isFreeAt 3 (some .boolean) 2 false := ⟨kk_gm 636 (by decide +kernel) rfl, kk_gm 153 (by decide +kernel) rfl, by decide +kernel, ⟨kk_gm 635 (by decide +kernel) rfl, kk_gm 27 (by decide +kernel) rfl⟩, Or.inr ⟨"LineColours", kk_nm 649 (by decide +kernel) rfl⟩⟩
theorem ml_X4_53 : kk_ML RX4 53 yX6_lineBetween cX6_lineBetween 4 (some .int) 2 false := ⟨kk_gm 507 (by decide +kernel) rfl, kk_gm 152 (by decide +kernel) rfl, by decide +kernel, ⟨kk_gm 506 (by decide +kernel) rfl, kk_gm 5 (by decide +kernel) rfl⟩, Or.inr ⟨"LineColours", kk_nm 648 (by decide +kernel) rfl⟩⟩
theorem ml_X4_59 : kk_ML RX4 59 yX3_strip cX3_strip 3 none 1 false := ⟨kk_gm 571 (by decide +kernel) rfl, kk_gm 153 (by decide +kernel) rfl, by decide +kernel, ⟨kk_gm 570 (by decide +kernel) rfl, kk_gm 16 (by decide +kernel) rfl⟩, Or.inr ⟨"LineColours", kk_nm 654 (by decide +kernel) rfl⟩⟩
theorem ml_X4_63 : kk_ML RX4 63 yX3_give cX3_give 3 none 2 false := ⟨kk_gm 567 (by decide +kernel) rfl, kk_gm 153 (by decide +kernel) rfl, by decide +kernel, ⟨kk_gm 566 (by decide +kernel) rfl, kk_gm 15 (by decide +kernel) rfl⟩, Or.inr ⟨"LineColours", kk_nm 655 (by decide +kernel) rfl⟩⟩
theorem ml_X5_36 : kk_ML RX5 36 yX4_lay cX4_lay 6 none 2 false := ⟨kk_gm 614 (by decide +kernel) rfl, kk_gm 155 (by decide +kernel) rfl, by decide +kernel, ⟨kk_gm 613 (by decide +kernel) rfl, kk_gm 22 (by decide +kernel) rfl⟩, Or.inr ⟨"LineColours", kk_nm 611 (by decide +kernel) rfl⟩⟩
theorem ml_X5_42 : kk_ML RX5 42 yX3_leastFreeAt cX3_leastFreeAt 2 (some .int) 1 false := ⟨kk_gm 632 (by decide +kernel) rfl, kk_gm 153 (by decide +kernel) rfl, by decide +kernel, ⟨kk_gm 631 (by decide +kernel) rfl, kk_gm 26 (by decide +kernel) rfl⟩, Or.inr ⟨"LineColours", kk_nm 629 (by decide +kernel) rfl⟩⟩
theorem ml_X5_55 : kk_ML RX5 55 yX3_isFreeAt cX3_isFreeAt 3 (some .boolean) 2 false := ⟨kk_gm 636 (by decide +kernel) rfl, kk_gm 153 (by decide +kernel) rfl, by decide +kernel, ⟨kk_gm 635 (by decide +kernel) rfl, kk_gm 27 (by decide +kernel) rfl⟩, Or.inr ⟨"LineColours", kk_nm 633 (by decide +kernel) rfl⟩⟩
theorem ml_X5_59 : kk_ML RX5 59 yX3_chainOf cX3_chainOf 4 (some .int) 3 false := ⟨kk_gm 589 (by decide +kernel) rfl, kk_gm 153 (by decide +kernel) rfl, by decide +kernel, ⟨kk_gm 588 (by decide +kernel) rfl, kk_gm 18 (by decide +kernel) rfl⟩, Or.inr ⟨"LineColours", kk_nm 637 (by decide +kernel) rfl⟩⟩
theorem ml_X5_63 : kk_ML RX5 63 yX3_flip cX3_flip 5 none 3 false := ⟨kk_gm 597 (by decide +kernel) rfl, kk_gm 153 (by decide +kernel) rfl, by decide +kernel, ⟨kk_gm 596 (by decide +kernel) rfl, kk_gm 20 (by decide +kernel) rfl⟩, Or.inr ⟨"LineColours", kk_nm 638 (by decide +kernel) rfl⟩⟩
theorem ml_X5_67 : kk_ML RX5 67 yJ6_bitCount_0f7a4 cJ6_bitCount_0f7a4 1 (some .int) 1 true := ⟨kk_gm 532 (by decide +kernel) rfl, kk_gm 164 (by decide +kernel) rfl, by decide +kernel, kk_gm 531 (by decide +kernel) rfl, Or.inl (kk_gm 639 (by decide +kernel) rfl)⟩
theorem ml_X5_72 : kk_ML RX5 72 yX4_placeLacking cX4_placeLacking 4 (some .int) 2 false := ⟨kk_gm 643 (by decide +kernel) rfl, kk_gm 155 (by decide +kernel) rfl, by decide +kernel, ⟨kk_gm 642 (by decide +kernel) rfl, kk_gm 28 (by decide +kernel) rfl⟩, Or.inr ⟨"LineColours", kk_nm 640 (by decide +kernel) rfl⟩⟩
theorem ml_X5_76 : kk_ML RX5 76 yX4_shift cX4_shift 8 none 3 false := ⟨kk_gm 653 (by decide +kernel) rfl, kk_gm 155 (by decide +kernel) rfl, by decide +kernel, ⟨kk_gm 652 (by decide +kernel) rfl, kk_gm 30 (by decide +kernel) rfl⟩, Or.inr ⟨"LineColours", kk_nm 650 (by decide +kernel) rfl⟩⟩
theorem ml_X6_37 : kk_ML RX6 37 yJ7_fill_53178 cJ7_fill_53178 4 none 2 true := ⟨kk_gm 241 (by decide +kernel) rfl, kk_gm 154 (by decide +kernel) rfl, by decide +kernel, kk_gm 240 (by decide +kernel) rfl, Or.inl (kk_gm 483 (by decide +kernel) rfl)⟩
theorem ml_X6_43 : kk_ML RX6 43 yJ9_min_7cf53 cJ9_min_7cf53 2 (some .int) 2 true := ⟨kk_gm 518 (by decide +kernel) rfl, kk_gm 165 (by decide +kernel) rfl, by decide +kernel, kk_gm 517 (by decide +kernel) rfl, Or.inl (kk_gm 516 (by decide +kernel) rfl)⟩
theorem ml_X6_49 : kk_ML RX6 49 yJ9_max_7cf53 cJ9_max_7cf53 2 (some .int) 2 true := ⟨kk_gm 521 (by decide +kernel) rfl, kk_gm 165 (by decide +kernel) rfl, by decide +kernel, kk_gm 520 (by decide +kernel) rfl, Or.inl (kk_gm 519 (by decide +kernel) rfl)⟩
theorem ml_X6_52 : kk_ML RX6 52 yX6_allLines cX6_allLines 1 (some .int) 0 false := ⟨kk_gm 525 (by decide +kernel) rfl, kk_gm 152 (by decide +kernel) rfl, by decide +kernel, ⟨kk_gm 524 (by decide +kernel) rfl, kk_gm 7 (by decide +kernel) rfl⟩, Or.inl (kk_gm 522 (by decide +kernel) rfl)⟩
theorem ml_X6_56 : kk_ML RX6 56 yX6_mostAtOnePost cX6_mostAtOnePost 4 (some .int) 1 false := ⟨kk_gm 529 (by decide +kernel) rfl, kk_gm 152 (by decide +kernel) rfl, by decide +kernel, ⟨kk_gm 528 (by decide +kernel) rfl, kk_gm 8 (by decide +kernel) rfl⟩, Or.inl (kk_gm 526 (by decide +kernel) rfl)⟩
theorem ml_X6_60 : kk_ML RX6 60 yJ6_numberOfTrailingZeros_0f7a4 cJ6_numberOfTrailingZeros_0f7a4 2 (some .int) 1 true := ⟨kk_gm 510 (by decide +kernel) rfl, kk_gm 164 (by decide +kernel) rfl, by decide +kernel, kk_gm 509 (by decide +kernel) rfl, Or.inl (kk_gm 508 (by decide +kernel) rfl)⟩
theorem ml_X6_65 : kk_ML RX6 65 yJ6_bitCount_0f7a4 cJ6_bitCount_0f7a4 1 (some .int) 1 true := ⟨kk_gm 532 (by decide +kernel) rfl, kk_gm 164 (by decide +kernel) rfl, by decide +kernel, kk_gm 531 (by decide +kernel) rfl, Or.inl (kk_gm 530 (by decide +kernel) rfl)⟩
theorem ml_X6_68 : kk_ML RX6 68 yX6_allPosts cX6_allPosts 1 (some .int) 0 false := ⟨kk_gm 730 (by decide +kernel) rfl, kk_gm 152 (by decide +kernel) rfl, by decide +kernel, ⟨kk_gm 729 (by decide +kernel) rfl, kk_gm 42 (by decide +kernel) rfl⟩, Or.inl (kk_gm 727 (by decide +kernel) rfl)⟩
theorem ml_X6_71 : kk_ML RX6 71 yX6_linesWithin cX6_linesWithin 5 (some .int) 2 false := ⟨kk_gm 734 (by decide +kernel) rfl, kk_gm 152 (by decide +kernel) rfl, by decide +kernel, ⟨kk_gm 733 (by decide +kernel) rfl, kk_gm 43 (by decide +kernel) rfl⟩, Or.inl (kk_gm 731 (by decide +kernel) rfl)⟩
theorem ml_X6_74 : kk_ML RX6 74 yX6_neighbours cX6_neighbours 4 (some .int) 1 false := ⟨kk_gm 671 (by decide +kernel) rfl, kk_gm 152 (by decide +kernel) rfl, by decide +kernel, ⟨kk_gm 670 (by decide +kernel) rfl, kk_gm 32 (by decide +kernel) rfl⟩, Or.inl (kk_gm 668 (by decide +kernel) rfl)⟩
theorem ml_X7_39 : kk_ML RX7 39 yX7_forgetAnswer cX7_forgetAnswer 1 none 0 false := ⟨kk_gm 495 (by decide +kernel) rfl, kk_gm 159 (by decide +kernel) rfl, by decide +kernel, ⟨kk_gm 494 (by decide +kernel) rfl, kk_gm 3 (by decide +kernel) rfl⟩, Or.inl (kk_gm 492 (by decide +kernel) rfl)⟩
theorem ml_X7_42 : kk_ML RX7 42 yX6_allLines cX6_allLines 1 (some .int) 0 false := ⟨kk_gm 525 (by decide +kernel) rfl, kk_gm 152 (by decide +kernel) rfl, by decide +kernel, ⟨kk_gm 524 (by decide +kernel) rfl, kk_gm 7 (by decide +kernel) rfl⟩, Or.inr ⟨"LineColours", kk_nm 717 (by decide +kernel) rfl⟩⟩
theorem ml_X7_51 : kk_ML RX7 51 yX7_canDo cX7_canDo 4 (some .boolean) 2 false := ⟨kk_gm 721 (by decide +kernel) rfl, kk_gm 159 (by decide +kernel) rfl, by decide +kernel, ⟨kk_gm 720 (by decide +kernel) rfl, kk_gm 40 (by decide +kernel) rfl⟩, Or.inl (kk_gm 718 (by decide +kernel) rfl)⟩
theorem ml_X7_58 : kk_ML RX7 58 yX7_fewest cX7_fewest 1 (some .int) 0 false := ⟨kk_gm 716 (by decide +kernel) rfl, kk_gm 159 (by decide +kernel) rfl, by decide +kernel, ⟨kk_gm 715 (by decide +kernel) rfl, kk_gm 39 (by decide +kernel) rfl⟩, Or.inl (kk_gm 713 (by decide +kernel) rfl)⟩
theorem ml_X7_61 : kk_ML RX7 61 yX6_mostAtOnePost cX6_mostAtOnePost 4 (some .int) 1 false := ⟨kk_gm 529 (by decide +kernel) rfl, kk_gm 152 (by decide +kernel) rfl, by decide +kernel, ⟨kk_gm 528 (by decide +kernel) rfl, kk_gm 8 (by decide +kernel) rfl⟩, Or.inr ⟨"LineColours", kk_nm 722 (by decide +kernel) rfl⟩⟩
theorem ml_X7_65 : kk_ML RX7 65 yX6_crowdedSet cX6_crowdedSet 5 (some .int) 2 false := ⟨kk_gm 726 (by decide +kernel) rfl, kk_gm 152 (by decide +kernel) rfl, by decide +kernel, ⟨kk_gm 725 (by decide +kernel) rfl, kk_gm 41 (by decide +kernel) rfl⟩, Or.inr ⟨"LineColours", kk_nm 723 (by decide +kernel) rfl⟩⟩
theorem ml_X7_69 : kk_ML RX7 69 yX7_openBelow cX7_openBelow 3 none 1 false := ⟨kk_gm 738 (by decide +kernel) rfl, kk_gm 159 (by decide +kernel) rfl, by decide +kernel, ⟨kk_gm 737 (by decide +kernel) rfl, kk_gm 44 (by decide +kernel) rfl⟩, Or.inl (kk_gm 735 (by decide +kernel) rfl)⟩
theorem ml_X7_73 : kk_ML RX7 73 yX7_complete cX7_complete 7 (some .boolean) 2 false := ⟨kk_gm 742 (by decide +kernel) rfl, kk_gm 159 (by decide +kernel) rfl, by decide +kernel, ⟨kk_gm 741 (by decide +kernel) rfl, kk_gm 45 (by decide +kernel) rfl⟩, Or.inl (kk_gm 739 (by decide +kernel) rfl)⟩
theorem ml_X7_76 : kk_ML RX7 76 yX7_findLeast cX7_findLeast 3 (some .boolean) 0 false := ⟨kk_gm 775 (by decide +kernel) rfl, kk_gm 159 (by decide +kernel) rfl, by decide +kernel, ⟨kk_gm 774 (by decide +kernel) rfl, kk_gm 53 (by decide +kernel) rfl⟩, Or.inl (kk_gm 772 (by decide +kernel) rfl)⟩
theorem ml_X7_80 : kk_ML RX7 80 yX7_openListed cX7_openListed 4 none 1 false := ⟨kk_gm 905 (by decide +kernel) rfl, kk_gm 159 (by decide +kernel) rfl, by decide +kernel, ⟨kk_gm 904 (by decide +kernel) rfl, kk_gm 60 (by decide +kernel) rfl⟩, Or.inl (kk_gm 902 (by decide +kernel) rfl)⟩
theorem ml_X7_84 : kk_ML RX7 84 yX7_fixLeast cX7_fixLeast 4 none 2 false := ⟨kk_gm 779 (by decide +kernel) rfl, kk_gm 159 (by decide +kernel) rfl, by decide +kernel, ⟨kk_gm 778 (by decide +kernel) rfl, kk_gm 54 (by decide +kernel) rfl⟩, Or.inl (kk_gm 776 (by decide +kernel) rfl)⟩
theorem ml_X7_91 : kk_ML RX7 91 yX7_completeWith cX7_completeWith 7 (some .boolean) 4 false := ⟨kk_gm 771 (by decide +kernel) rfl, kk_gm 159 (by decide +kernel) rfl, by decide +kernel, ⟨kk_gm 770 (by decide +kernel) rfl, kk_gm 52 (by decide +kernel) rfl⟩, Or.inl (kk_gm 768 (by decide +kernel) rfl)⟩
theorem ml_X7_95 : kk_ML RX7 95 yX7_tightest cX7_tightest 7 (some .int) 1 false := ⟨kk_gm 746 (by decide +kernel) rfl, kk_gm 159 (by decide +kernel) rfl, by decide +kernel, ⟨kk_gm 745 (by decide +kernel) rfl, kk_gm 46 (by decide +kernel) rfl⟩, Or.inl (kk_gm 743 (by decide +kernel) rfl)⟩
theorem ml_X7_98 : kk_ML RX7 98 yX7_isHopeless cX7_isHopeless 2 (some .boolean) 1 false := ⟨kk_gm 750 (by decide +kernel) rfl, kk_gm 159 (by decide +kernel) rfl, by decide +kernel, ⟨kk_gm 749 (by decide +kernel) rfl, kk_gm 47 (by decide +kernel) rfl⟩, Or.inl (kk_gm 747 (by decide +kernel) rfl)⟩
theorem ml_X7_102 : kk_ML RX7 102 yX7_hasTwin cX7_hasTwin 4 (some .boolean) 2 false := ⟨kk_gm 767 (by decide +kernel) rfl, kk_gm 159 (by decide +kernel) rfl, by decide +kernel, ⟨kk_gm 766 (by decide +kernel) rfl, kk_gm 51 (by decide +kernel) rfl⟩, Or.inl (kk_gm 764 (by decide +kernel) rfl)⟩
theorem ml_X7_105 : kk_ML RX7 105 yX7_roomOfColours cX7_roomOfColours 4 (some .int) 1 false := ⟨kk_gm 754 (by decide +kernel) rfl, kk_gm 159 (by decide +kernel) rfl, by decide +kernel, ⟨kk_gm 753 (by decide +kernel) rfl, kk_gm 48 (by decide +kernel) rfl⟩, Or.inl (kk_gm 751 (by decide +kernel) rfl)⟩
theorem ml_X7_108 : kk_ML RX7 108 yJ6_bitCount_0f7a4 cJ6_bitCount_0f7a4 1 (some .int) 1 true := ⟨kk_gm 532 (by decide +kernel) rfl, kk_gm 164 (by decide +kernel) rfl, by decide +kernel, kk_gm 531 (by decide +kernel) rfl, Or.inl (kk_gm 759 (by decide +kernel) rfl)⟩
theorem ml_X7_113 : kk_ML RX7 113 yX7_hasCrampedPost cX7_hasCrampedPost 6 (some .boolean) 1 false := ⟨kk_gm 763 (by decide +kernel) rfl, kk_gm 159 (by decide +kernel) rfl, by decide +kernel, ⟨kk_gm 762 (by decide +kernel) rfl, kk_gm 50 (by decide +kernel) rfl⟩, Or.inl (kk_gm 760 (by decide +kernel) rfl)⟩
theorem ml_X7_116 : kk_ML RX7 116 yX6_postsOf cX6_postsOf 4 (some .int) 1 false := ⟨kk_gm 758 (by decide +kernel) rfl, kk_gm 152 (by decide +kernel) rfl, by decide +kernel, ⟨kk_gm 757 (by decide +kernel) rfl, kk_gm 49 (by decide +kernel) rfl⟩, Or.inr ⟨"LineColours", kk_nm 755 (by decide +kernel) rfl⟩⟩
theorem ml_X8_22 : kk_ML RX8 22 yJ7_fill_53178 cJ7_fill_53178 4 none 2 true := ⟨kk_gm 241 (by decide +kernel) rfl, kk_gm 154 (by decide +kernel) rfl, by decide +kernel, kk_gm 240 (by decide +kernel) rfl, Or.inl (kk_gm 1042 (by decide +kernel) rfl)⟩
theorem ml_X8_28 : kk_ML RX8 28 yX8_share cX8_share 4 none 2 false := ⟨kk_gm 1046 (by decide +kernel) rfl, kk_gm 161 (by decide +kernel) rfl, by decide +kernel, ⟨kk_gm 1045 (by decide +kernel) rfl, kk_gm 82 (by decide +kernel) rfl⟩, Or.inl (kk_gm 1043 (by decide +kernel) rfl)⟩
theorem ml_X8_41 : kk_ML RX8 41 yJ9_max_7cf53 cJ9_max_7cf53 2 (some .int) 2 true := ⟨kk_gm 521 (by decide +kernel) rfl, kk_gm 165 (by decide +kernel) rfl, by decide +kernel, kk_gm 520 (by decide +kernel) rfl, Or.inl (kk_gm 1047 (by decide +kernel) rfl)⟩
theorem ml_X9_35 : kk_ML RX9 35 yX9_prepare cX9_prepare 3 none 1 false := ⟨kk_gm 950 (by decide +kernel) rfl, kk_gm 162 (by decide +kernel) rfl, by decide +kernel, ⟨kk_gm 949 (by decide +kernel) rfl, kk_gm 66 (by decide +kernel) rfl⟩, Or.inl (kk_gm 947 (by decide +kernel) rfl)⟩
theorem ml_X9_39 : kk_ML RX9 39 yX9_place cX9_place 5 none 2 false := ⟨kk_gm 958 (by decide +kernel) rfl, kk_gm 162 (by decide +kernel) rfl, by decide +kernel, ⟨kk_gm 957 (by decide +kernel) rfl, kk_gm 67 (by decide +kernel) rfl⟩, Or.inl (kk_gm 955 (by decide +kernel) rfl)⟩
theorem ml_X9_43 : kk_ML RX9 43 yX9_codeOf cX9_codeOf 4 (some .int) 1 false := ⟨kk_gm 1007 (by decide +kernel) rfl, kk_gm 162 (by decide +kernel) rfl, by decide +kernel, ⟨kk_gm 1006 (by decide +kernel) rfl, kk_gm 77 (by decide +kernel) rfl⟩, Or.inl (kk_gm 1004 (by decide +kernel) rfl)⟩
theorem ml_X9_47 : kk_ML RX9 47 yX9_mark cX9_mark 2 none 1 false := ⟨kk_gm 966 (by decide +kernel) rfl, kk_gm 162 (by decide +kernel) rfl, by decide +kernel, ⟨kk_gm 965 (by decide +kernel) rfl, kk_gm 69 (by decide +kernel) rfl⟩, Or.inl (kk_gm 963 (by decide +kernel) rfl)⟩
theorem ml_X9_50 : kk_ML RX9 50 yX9_isSeen cX9_isSeen 2 (some .boolean) 1 false := ⟨kk_gm 962 (by decide +kernel) rfl, kk_gm 162 (by decide +kernel) rfl, by decide +kernel, ⟨kk_gm 961 (by decide +kernel) rfl, kk_gm 68 (by decide +kernel) rfl⟩, Or.inl (kk_gm 959 (by decide +kernel) rfl)⟩
theorem ml_X9_54 : kk_ML RX9 54 yX9_advance cX9_advance 4 (some .boolean) 0 false := ⟨kk_gm 974 (by decide +kernel) rfl, kk_gm 162 (by decide +kernel) rfl, by decide +kernel, ⟨kk_gm 973 (by decide +kernel) rfl, kk_gm 71 (by decide +kernel) rfl⟩, Or.inl (kk_gm 971 (by decide +kernel) rfl)⟩
theorem ml_X9_58 : kk_ML RX9 58 yJ7_fill_53178 cJ7_fill_53178 4 none 2 true := ⟨kk_gm 241 (by decide +kernel) rfl, kk_gm 154 (by decide +kernel) rfl, by decide +kernel, kk_gm 240 (by decide +kernel) rfl, Or.inl (kk_gm 951 (by decide +kernel) rfl)⟩
theorem ml_X9_72 : kk_ML RX9 72 yX9_spread cX9_spread 3 (some .int) 1 true := ⟨kk_gm 954 (by decide +kernel) rfl, kk_gm 162 (by decide +kernel) rfl, by decide +kernel, kk_gm 953 (by decide +kernel) rfl, Or.inl (kk_gm 952 (by decide +kernel) rfl)⟩
theorem ml_X9_76 : kk_ML RX9 76 yX9_spreadKind cX9_spreadKind 2 none 0 false := ⟨kk_gm 970 (by decide +kernel) rfl, kk_gm 162 (by decide +kernel) rfl, by decide +kernel, ⟨kk_gm 969 (by decide +kernel) rfl, kk_gm 70 (by decide +kernel) rfl⟩, Or.inl (kk_gm 967 (by decide +kernel) rfl)⟩
theorem ml_X9_79 : kk_ML RX9 79 yX9_linesWith cX9_linesWith 4 (some .int) 2 false := ⟨kk_gm 983 (by decide +kernel) rfl, kk_gm 162 (by decide +kernel) rfl, by decide +kernel, ⟨kk_gm 982 (by decide +kernel) rfl, kk_gm 73 (by decide +kernel) rfl⟩, Or.inl (kk_gm 980 (by decide +kernel) rfl)⟩
theorem ml_X9_89 : kk_ML RX9 89 yX9_turnEach cX9_turnEach 8 none 1 false := ⟨kk_gm 979 (by decide +kernel) rfl, kk_gm 162 (by decide +kernel) rfl, by decide +kernel, ⟨kk_gm 978 (by decide +kernel) rfl, kk_gm 72 (by decide +kernel) rfl⟩, Or.inl (kk_gm 976 (by decide +kernel) rfl)⟩
theorem ml_X9_92 : kk_ML RX9 92 yJ6_lowestOneBit_0f7a4 cJ6_lowestOneBit_0f7a4 1 (some .int) 1 true := ⟨kk_gm 986 (by decide +kernel) rfl, kk_gm 164 (by decide +kernel) rfl, by decide +kernel, kk_gm 985 (by decide +kernel) rfl, Or.inl (kk_gm 984 (by decide +kernel) rfl)⟩
theorem ml_X9_97 : kk_ML RX9 97 yX9_joinedIn cX9_joinedIn 8 (some .int) 2 false := ⟨kk_gm 990 (by decide +kernel) rfl, kk_gm 162 (by decide +kernel) rfl, by decide +kernel, ⟨kk_gm 989 (by decide +kernel) rfl, kk_gm 74 (by decide +kernel) rfl⟩, Or.inl (kk_gm 987 (by decide +kernel) rfl)⟩
theorem ml_X9_100 : kk_ML RX9 100 yJ6_numberOfTrailingZeros_0f7a4 cJ6_numberOfTrailingZeros_0f7a4 2 (some .int) 1 true := ⟨kk_gm 510 (by decide +kernel) rfl, kk_gm 164 (by decide +kernel) rfl, by decide +kernel, kk_gm 509 (by decide +kernel) rfl, Or.inl (kk_gm 991 (by decide +kernel) rfl)⟩
theorem cw_J6_264 : Cond.constant RJ6 264 (65536 : Int32) ∈ kk_good := kk_gm 511 (by decide +kernel) rfl
theorem cw_J6_265 : Cond.constant RJ6 265 (1431655765 : Int32) ∈ kk_good := kk_gm 533 (by decide +kernel) rfl
theorem cw_J6_266 : Cond.constant RJ6 266 (858993459 : Int32) ∈ kk_good := kk_gm 534 (by decide +kernel) rfl
theorem cw_J6_267 : Cond.constant RJ6 267 (252645135 : Int32) ∈ kk_good := kk_gm 535 (by decide +kernel) rfl
theorem cw_X10_323 : Cond.constantLong RX10 323 (-1 : Int64) ∈ kk_good := kk_gm 1036 (by decide +kernel) rfl
theorem cw_X10_325 : Cond.constantLong RX10 325 (-2 : Int64) ∈ kk_good := kk_gm 1037 (by decide +kernel) rfl
theorem cw_X11_7 : Cond.constant RX11 7 (1431655765 : Int32) ∈ kk_good := kk_gm 1268 (by decide +kernel) rfl
theorem cw_X11_8 : Cond.constant RX11 8 (858993459 : Int32) ∈ kk_good := kk_gm 1269 (by decide +kernel) rfl
theorem cw_X11_9 : Cond.constant RX11 9 (252645135 : Int32) ∈ kk_good := kk_gm 1270 (by decide +kernel) rfl
theorem cw_X11_10 : Cond.constant RX11 10 (16843009 : Int32) ∈ kk_good := kk_gm 1271 (by decide +kernel) rfl
theorem cw_X11_268 : Cond.constantLong RX11 268 (-1 : Int64) ∈ kk_good := kk_gm 1460 (by decide +kernel) rfl
theorem cw_X11_270 : Cond.constantLong RX11 270 (-2 : Int64) ∈ kk_good := kk_gm 1461 (by decide +kernel) rfl
theorem aw_native : Cond.native arraycopyName ∈ kk_good := kk_gm 786 (by decide +kernel) rfl
theorem aw_static : Cond.static arraycopyName ∈ kk_good := kk_gm 785 (by decide +kernel) rfl
theorem aw_init : Cond.initialized "java/lang/System" ∈ kk_good := kk_gm 166 (by decide +kernel) rfl
theorem aw_X10_185 : Cond.methodLink RX10 185 arraycopyName ∈ kk_good := kk_gm 784 (by decide +kernel) rfl
theorem aw_X9_83 : Cond.methodLink RX9 83 arraycopyName ∈ kk_good := kk_gm 975 (by decide +kernel) rfl
end
