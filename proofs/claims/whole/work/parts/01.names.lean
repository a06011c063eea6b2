-- ===== PART A: goes FIRST, ahead of the names: the tables' words, and 'selects' of the private methods out of them =====
/-- a private method of a class that the tables say can be made, by its rows of tables_1 -/
def lw_okq (q : MethodName × Nat) : Prop := (q.1.cls ≠ "java/lang/invoke/MethodHandle" ∧ q.1.cls ≠ "java/lang/invoke/VarHandle") ∧ Cond.instantiable q.1.cls q.2 ∈ tables_1 ∧ Cond.privateMethod q.1 ∈ tables_1 ∧ Cond.instanceMethod q.1 ∈ tables_1
theorem lw_p0 : lw_okq (⟨"FrogsChangeSides$Table", "slotOf", "(I)I"⟩, 3) := ⟨⟨by decide +kernel, by decide +kernel⟩, List.mem_of_getElem? (i := 98) (by decide +kernel), List.mem_of_getElem? (i := 283) (by decide +kernel), List.mem_of_getElem? (i := 284) (by decide +kernel)⟩
theorem lw_p1 : lw_okq (⟨"FrogsChangeSides$Rules", "targets", "(III)I"⟩, 6) := ⟨⟨by decide +kernel, by decide +kernel⟩, List.mem_of_getElem? (i := 37) (by decide +kernel), List.mem_of_getElem? (i := 292) (by decide +kernel), List.mem_of_getElem? (i := 293) (by decide +kernel)⟩
theorem lw_p2 : lw_okq (⟨"FrogsChangeSides$Rules", "landing", "(III)I"⟩, 6) := ⟨⟨by decide +kernel, by decide +kernel⟩, List.mem_of_getElem? (i := 37) (by decide +kernel), List.mem_of_getElem? (i := 297) (by decide +kernel), List.mem_of_getElem? (i := 298) (by decide +kernel)⟩
theorem lw_p3 : lw_okq (⟨"FrogsChangeSides$Rules", "beside", "(II)I"⟩, 6) := ⟨⟨by decide +kernel, by decide +kernel⟩, List.mem_of_getElem? (i := 37) (by decide +kernel), List.mem_of_getElem? (i := 301) (by decide +kernel), List.mem_of_getElem? (i := 302) (by decide +kernel)⟩
theorem lw_p4 : lw_okq (⟨"FrogsChangeSides$Rules", "leapsOver", "(II)Z"⟩, 6) := ⟨⟨by decide +kernel, by decide +kernel⟩, List.mem_of_getElem? (i := 37) (by decide +kernel), List.mem_of_getElem? (i := 305) (by decide +kernel), List.mem_of_getElem? (i := 306) (by decide +kernel)⟩
theorem lw_p5 : lw_okq (⟨"FrogsChangeSides$Search", "noteStuck", "(I)V"⟩, 5) := ⟨⟨by decide +kernel, by decide +kernel⟩, List.mem_of_getElem? (i := 92) (by decide +kernel), List.mem_of_getElem? (i := 309) (by decide +kernel), List.mem_of_getElem? (i := 310) (by decide +kernel)⟩
theorem lw_p6 : lw_okq (⟨"FrogsChangeSides$Search", "goOn", "(IJ)V"⟩, 5) := ⟨⟨by decide +kernel, by decide +kernel⟩, List.mem_of_getElem? (i := 92) (by decide +kernel), List.mem_of_getElem? (i := 313) (by decide +kernel), List.mem_of_getElem? (i := 314) (by decide +kernel)⟩
theorem lw_p7 : lw_okq (⟨"FrogsChangeSides", "isStone", "(I)Z"⟩, 13) := ⟨⟨by decide +kernel, by decide +kernel⟩, List.mem_of_getElem? (i := 13) (by decide +kernel), List.mem_of_getElem? (i := 340) (by decide +kernel), List.mem_of_getElem? (i := 341) (by decide +kernel)⟩
theorem lw_p8 : lw_okq (⟨"FrogsChangeSides", "isFrog", "(I)Z"⟩, 13) := ⟨⟨by decide +kernel, by decide +kernel⟩, List.mem_of_getElem? (i := 13) (by decide +kernel), List.mem_of_getElem? (i := 353) (by decide +kernel), List.mem_of_getElem? (i := 354) (by decide +kernel)⟩
theorem lw_p9 : lw_okq (⟨"FrogsChangeSides", "kindOfFrog", "(I)I"⟩, 13) := ⟨⟨by decide +kernel, by decide +kernel⟩, List.mem_of_getElem? (i := 13) (by decide +kernel), List.mem_of_getElem? (i := 357) (by decide +kernel), List.mem_of_getElem? (i := 358) (by decide +kernel)⟩
theorem lw_p10 : lw_okq (⟨"FrogsChangeSides", "hasBrook", "()Z"⟩, 13) := ⟨⟨by decide +kernel, by decide +kernel⟩, List.mem_of_getElem? (i := 13) (by decide +kernel), List.mem_of_getElem? (i := 409) (by decide +kernel), List.mem_of_getElem? (i := 410) (by decide +kernel)⟩
theorem lw_p11 : lw_okq (⟨"FrogsChangeSides", "firstOfFewest", "()I"⟩, 13) := ⟨⟨by decide +kernel, by decide +kernel⟩, List.mem_of_getElem? (i := 13) (by decide +kernel), List.mem_of_getElem? (i := 421) (by decide +kernel), List.mem_of_getElem? (i := 422) (by decide +kernel)⟩
theorem lw_p12 : lw_okq (⟨"FrogsChangeSides", "firstWrong", "()I"⟩, 13) := ⟨⟨by decide +kernel, by decide +kernel⟩, List.mem_of_getElem? (i := 13) (by decide +kernel), List.mem_of_getElem? (i := 442) (by decide +kernel), List.mem_of_getElem? (i := 443) (by decide +kernel)⟩
theorem lw_p13 : lw_okq (⟨"FrogsChangeSides", "toTurnRound", "(LFrogsChangeSides$Rules;I)I"⟩, 13) := ⟨⟨by decide +kernel, by decide +kernel⟩, List.mem_of_getElem? (i := 13) (by decide +kernel), List.mem_of_getElem? (i := 469) (by decide +kernel), List.mem_of_getElem? (i := 470) (by decide +kernel)⟩
theorem lw_p14 : lw_okq (⟨"FrogsChangeSides", "hasGame", "()Z"⟩, 13) := ⟨⟨by decide +kernel, by decide +kernel⟩, List.mem_of_getElem? (i := 13) (by decide +kernel), List.mem_of_getElem? (i := 487) (by decide +kernel), List.mem_of_getElem? (i := 488) (by decide +kernel)⟩
theorem lw_p15 : lw_okq (⟨"FrogsChangeSides$Game", "hasIt", "(LFrogsChangeSides$Rules;III)Z"⟩, 2) := ⟨⟨by decide +kernel, by decide +kernel⟩, List.mem_of_getElem? (i := 134) (by decide +kernel), List.mem_of_getElem? (i := 491) (by decide +kernel), List.mem_of_getElem? (i := 492) (by decide +kernel)⟩
def lw_privs_1 : List (MethodName × Nat) := [(⟨"FrogsChangeSides$Table", "slotOf", "(I)I"⟩, 3), (⟨"FrogsChangeSides$Rules", "targets", "(III)I"⟩, 6), (⟨"FrogsChangeSides$Rules", "landing", "(III)I"⟩, 6), (⟨"FrogsChangeSides$Rules", "beside", "(II)I"⟩, 6), (⟨"FrogsChangeSides$Rules", "leapsOver", "(II)Z"⟩, 6), (⟨"FrogsChangeSides$Search", "noteStuck", "(I)V"⟩, 5), (⟨"FrogsChangeSides$Search", "goOn", "(IJ)V"⟩, 5), (⟨"FrogsChangeSides", "isStone", "(I)Z"⟩, 13), (⟨"FrogsChangeSides", "isFrog", "(I)Z"⟩, 13), (⟨"FrogsChangeSides", "kindOfFrog", "(I)I"⟩, 13), (⟨"FrogsChangeSides", "hasBrook", "()Z"⟩, 13), (⟨"FrogsChangeSides", "firstOfFewest", "()I"⟩, 13), (⟨"FrogsChangeSides", "firstWrong", "()I"⟩, 13), (⟨"FrogsChangeSides", "toTurnRound", "(LFrogsChangeSides$Rules;I)I"⟩, 13), (⟨"FrogsChangeSides", "hasGame", "()Z"⟩, 13), (⟨"FrogsChangeSides$Game", "hasIt", "(LFrogsChangeSides$Rules;III)Z"⟩, 2)]
theorem lw_r1 : ∀ q ∈ lw_privs_1, lw_okq q := List.forall_mem_cons.mpr ⟨lw_p0, List.forall_mem_cons.mpr ⟨lw_p1, List.forall_mem_cons.mpr ⟨lw_p2, List.forall_mem_cons.mpr ⟨lw_p3, List.forall_mem_cons.mpr ⟨lw_p4, List.forall_mem_cons.mpr ⟨lw_p5, List.forall_mem_cons.mpr ⟨lw_p6, List.forall_mem_cons.mpr ⟨lw_p7, List.forall_mem_cons.mpr ⟨lw_p8, List.forall_mem_cons.mpr ⟨lw_p9, List.forall_mem_cons.mpr ⟨lw_p10, List.forall_mem_cons.mpr ⟨lw_p11, List.forall_mem_cons.mpr ⟨lw_p12, List.forall_mem_cons.mpr ⟨lw_p13, List.forall_mem_cons.mpr ⟨lw_p14, List.forall_mem_cons.mpr ⟨lw_p15, fun _ h => absurd h List.not_mem_nil⟩⟩⟩⟩⟩⟩⟩⟩⟩⟩⟩⟩⟩⟩⟩⟩
theorem lw_p16 : lw_okq (⟨"FrogsChangeSides$Game", "winningMove", "(LFrogsChangeSides$Rules;III)I"⟩, 2) := ⟨⟨by decide +kernel, by decide +kernel⟩, List.mem_of_getElem? (i := 134) (by decide +kernel), List.mem_of_getElem? (i := 496) (by decide +kernel), List.mem_of_getElem? (i := 497) (by decide +kernel)⟩
theorem lw_p17 : lw_okq (⟨"FrogsChangeSidesModel", "readBrook", "()V"⟩, 39) := ⟨⟨by decide +kernel, by decide +kernel⟩, List.mem_of_getElem? (i := 562) (by decide +kernel), List.mem_of_getElem? (i := 702) (by decide +kernel), List.mem_of_getElem? (i := 703) (by decide +kernel)⟩
theorem lw_p18 : lw_okq (⟨"FrogsChangeSidesModel", "isStone", "(I)Z"⟩, 39) := ⟨⟨by decide +kernel, by decide +kernel⟩, List.mem_of_getElem? (i := 562) (by decide +kernel), List.mem_of_getElem? (i := 720) (by decide +kernel), List.mem_of_getElem? (i := 721) (by decide +kernel)⟩
theorem lw_p19 : lw_okq (⟨"FrogsChangeSidesModel", "frogNow", "(II)I"⟩, 39) := ⟨⟨by decide +kernel, by decide +kernel⟩, List.mem_of_getElem? (i := 562) (by decide +kernel), List.mem_of_getElem? (i := 735) (by decide +kernel), List.mem_of_getElem? (i := 736) (by decide +kernel)⟩
theorem lw_p20 : lw_okq (⟨"FrogsChangeSidesModel", "stoneOf", "(I)I"⟩, 39) := ⟨⟨by decide +kernel, by decide +kernel⟩, List.mem_of_getElem? (i := 562) (by decide +kernel), List.mem_of_getElem? (i := 739) (by decide +kernel), List.mem_of_getElem? (i := 740) (by decide +kernel)⟩
theorem lw_p21 : lw_okq (⟨"FrogsChangeSidesModel", "movedMany", "(I)I"⟩, 39) := ⟨⟨by decide +kernel, by decide +kernel⟩, List.mem_of_getElem? (i := 562) (by decide +kernel), List.mem_of_getElem? (i := 743) (by decide +kernel), List.mem_of_getElem? (i := 744) (by decide +kernel)⟩
theorem lw_p22 : lw_okq (⟨"FrogsChangeSidesModel", "layNow", "()V"⟩, 39) := ⟨⟨by decide +kernel, by decide +kernel⟩, List.mem_of_getElem? (i := 562) (by decide +kernel), List.mem_of_getElem? (i := 755) (by decide +kernel), List.mem_of_getElem? (i := 756) (by decide +kernel)⟩
theorem lw_p23 : lw_okq (⟨"FrogsChangeSidesModel", "mayMove", "(II)Z"⟩, 39) := ⟨⟨by decide +kernel, by decide +kernel⟩, List.mem_of_getElem? (i := 562) (by decide +kernel), List.mem_of_getElem? (i := 759) (by decide +kernel), List.mem_of_getElem? (i := 760) (by decide +kernel)⟩
theorem lw_p24 : lw_okq (⟨"FrogsChangeSidesModel", "mayWay", "(III)Z"⟩, 39) := ⟨⟨by decide +kernel, by decide +kernel⟩, List.mem_of_getElem? (i := 562) (by decide +kernel), List.mem_of_getElem? (i := 766) (by decide +kernel), List.mem_of_getElem? (i := 767) (by decide +kernel)⟩
theorem lw_p25 : lw_okq (⟨"FrogsChangeSidesModel", "besides", "(II)I"⟩, 39) := ⟨⟨by decide +kernel, by decide +kernel⟩, List.mem_of_getElem? (i := 562) (by decide +kernel), List.mem_of_getElem? (i := 770) (by decide +kernel), List.mem_of_getElem? (i := 771) (by decide +kernel)⟩
theorem lw_p26 : lw_okq (⟨"FrogsChangeSidesModel", "mayOver", "(II)Z"⟩, 39) := ⟨⟨by decide +kernel, by decide +kernel⟩, List.mem_of_getElem? (i := 562) (by decide +kernel), List.mem_of_getElem? (i := 774) (by decide +kernel), List.mem_of_getElem? (i := 775) (by decide +kernel)⟩
theorem lw_p27 : lw_okq (⟨"FrogsChangeSidesModel", "moveMany", "()I"⟩, 39) := ⟨⟨by decide +kernel, by decide +kernel⟩, List.mem_of_getElem? (i := 562) (by decide +kernel), List.mem_of_getElem? (i := 782) (by decide +kernel), List.mem_of_getElem? (i := 783) (by decide +kernel)⟩
theorem lw_p28 : lw_okq (⟨"FrogsChangeSidesModel", "moveNow", "(II)V"⟩, 39) := ⟨⟨by decide +kernel, by decide +kernel⟩, List.mem_of_getElem? (i := 562) (by decide +kernel), List.mem_of_getElem? (i := 790) (by decide +kernel), List.mem_of_getElem? (i := 791) (by decide +kernel)⟩
theorem lw_p29 : lw_okq (⟨"FrogsChangeSidesModel", "fewestNow", "(I)I"⟩, 39) := ⟨⟨by decide +kernel, by decide +kernel⟩, List.mem_of_getElem? (i := 562) (by decide +kernel), List.mem_of_getElem? (i := 802) (by decide +kernel), List.mem_of_getElem? (i := 803) (by decide +kernel)⟩
theorem lw_p30 : lw_okq (⟨"FrogsChangeSidesModel", "goal", "()I"⟩, 39) := ⟨⟨by decide +kernel, by decide +kernel⟩, List.mem_of_getElem? (i := 562) (by decide +kernel), List.mem_of_getElem? (i := 806) (by decide +kernel), List.mem_of_getElem? (i := 807) (by decide +kernel)⟩
theorem lw_p31 : lw_okq (⟨"FrogsChangeSidesModel", "layRead", "()V"⟩, 39) := ⟨⟨by decide +kernel, by decide +kernel⟩, List.mem_of_getElem? (i := 562) (by decide +kernel), List.mem_of_getElem? (i := 810) (by decide +kernel), List.mem_of_getElem? (i := 811) (by decide +kernel)⟩
def lw_privs_2 : List (MethodName × Nat) := [(⟨"FrogsChangeSides$Game", "winningMove", "(LFrogsChangeSides$Rules;III)I"⟩, 2), (⟨"FrogsChangeSidesModel", "readBrook", "()V"⟩, 39), (⟨"FrogsChangeSidesModel", "isStone", "(I)Z"⟩, 39), (⟨"FrogsChangeSidesModel", "frogNow", "(II)I"⟩, 39), (⟨"FrogsChangeSidesModel", "stoneOf", "(I)I"⟩, 39), (⟨"FrogsChangeSidesModel", "movedMany", "(I)I"⟩, 39), (⟨"FrogsChangeSidesModel", "layNow", "()V"⟩, 39), (⟨"FrogsChangeSidesModel", "mayMove", "(II)Z"⟩, 39), (⟨"FrogsChangeSidesModel", "mayWay", "(III)Z"⟩, 39), (⟨"FrogsChangeSidesModel", "besides", "(II)I"⟩, 39), (⟨"FrogsChangeSidesModel", "mayOver", "(II)Z"⟩, 39), (⟨"FrogsChangeSidesModel", "moveMany", "()I"⟩, 39), (⟨"FrogsChangeSidesModel", "moveNow", "(II)V"⟩, 39), (⟨"FrogsChangeSidesModel", "fewestNow", "(I)I"⟩, 39), (⟨"FrogsChangeSidesModel", "goal", "()I"⟩, 39), (⟨"FrogsChangeSidesModel", "layRead", "()V"⟩, 39)]
theorem lw_r2 : ∀ q ∈ lw_privs_2, lw_okq q := List.forall_mem_cons.mpr ⟨lw_p16, List.forall_mem_cons.mpr ⟨lw_p17, List.forall_mem_cons.mpr ⟨lw_p18, List.forall_mem_cons.mpr ⟨lw_p19, List.forall_mem_cons.mpr ⟨lw_p20, List.forall_mem_cons.mpr ⟨lw_p21, List.forall_mem_cons.mpr ⟨lw_p22, List.forall_mem_cons.mpr ⟨lw_p23, List.forall_mem_cons.mpr ⟨lw_p24, List.forall_mem_cons.mpr ⟨lw_p25, List.forall_mem_cons.mpr ⟨lw_p26, List.forall_mem_cons.mpr ⟨lw_p27, List.forall_mem_cons.mpr ⟨lw_p28, List.forall_mem_cons.mpr ⟨lw_p29, List.forall_mem_cons.mpr ⟨lw_p30, List.forall_mem_cons.mpr ⟨lw_p31, fun _ h => absurd h List.not_mem_nil⟩⟩⟩⟩⟩⟩⟩⟩⟩⟩⟩⟩⟩⟩⟩⟩
theorem lw_p32 : lw_okq (⟨"FrogsChangeSidesModel", "turnedCode", "()I"⟩, 39) := ⟨⟨by decide +kernel, by decide +kernel⟩, List.mem_of_getElem? (i := 562) (by decide +kernel), List.mem_of_getElem? (i := 814) (by decide +kernel), List.mem_of_getElem? (i := 815) (by decide +kernel)⟩
theorem lw_p33 : lw_okq (⟨"FrogsChangeSidesModel", "farTo", "(I)I"⟩, 39) := ⟨⟨by decide +kernel, by decide +kernel⟩, List.mem_of_getElem? (i := 562) (by decide +kernel), List.mem_of_getElem? (i := 818) (by decide +kernel), List.mem_of_getElem? (i := 819) (by decide +kernel)⟩
theorem lw_p34 : lw_okq (⟨"FrogsChangeSidesModel", "layFar", "()V"⟩, 39) := ⟨⟨by decide +kernel, by decide +kernel⟩, List.mem_of_getElem? (i := 562) (by decide +kernel), List.mem_of_getElem? (i := 822) (by decide +kernel), List.mem_of_getElem? (i := 823) (by decide +kernel)⟩
theorem lw_p35 : lw_okq (⟨"FrogsChangeSidesModel", "codeOf", "()I"⟩, 39) := ⟨⟨by decide +kernel, by decide +kernel⟩, List.mem_of_getElem? (i := 562) (by decide +kernel), List.mem_of_getElem? (i := 826) (by decide +kernel), List.mem_of_getElem? (i := 827) (by decide +kernel)⟩
theorem lw_p36 : lw_okq (⟨"FrogsChangeSidesModel", "come", "(II)V"⟩, 39) := ⟨⟨by decide +kernel, by decide +kernel⟩, List.mem_of_getElem? (i := 562) (by decide +kernel), List.mem_of_getElem? (i := 830) (by decide +kernel), List.mem_of_getElem? (i := 831) (by decide +kernel)⟩
theorem lw_p37 : lw_okq (⟨"FrogsChangeSidesModel", "layRow", "(I)V"⟩, 39) := ⟨⟨by decide +kernel, by decide +kernel⟩, List.mem_of_getElem? (i := 562) (by decide +kernel), List.mem_of_getElem? (i := 834) (by decide +kernel), List.mem_of_getElem? (i := 835) (by decide +kernel)⟩
theorem lw_p38 : lw_okq (⟨"FrogsChangeSidesModel", "waysNow", "()I"⟩, 39) := ⟨⟨by decide +kernel, by decide +kernel⟩, List.mem_of_getElem? (i := 562) (by decide +kernel), List.mem_of_getElem? (i := 848) (by decide +kernel), List.mem_of_getElem? (i := 849) (by decide +kernel)⟩
theorem lw_p39 : lw_okq (⟨"FrogsChangeSidesModel", "wrongNow", "()I"⟩, 39) := ⟨⟨by decide +kernel, by decide +kernel⟩, List.mem_of_getElem? (i := 562) (by decide +kernel), List.mem_of_getElem? (i := 856) (by decide +kernel), List.mem_of_getElem? (i := 857) (by decide +kernel)⟩
theorem lw_p40 : lw_okq (⟨"FrogsChangeSidesModel", "layEnds", "()V"⟩, 39) := ⟨⟨by decide +kernel, by decide +kernel⟩, List.mem_of_getElem? (i := 562) (by decide +kernel), List.mem_of_getElem? (i := 864) (by decide +kernel), List.mem_of_getElem? (i := 865) (by decide +kernel)⟩
theorem lw_p41 : lw_okq (⟨"FrogsChangeSidesModel", "moreNow", "(I)I"⟩, 39) := ⟨⟨by decide +kernel, by decide +kernel⟩, List.mem_of_getElem? (i := 562) (by decide +kernel), List.mem_of_getElem? (i := 880) (by decide +kernel), List.mem_of_getElem? (i := 881) (by decide +kernel)⟩
theorem lw_p42 : lw_okq (⟨"FrogsChangeSidesModel", "turns", "()I"⟩, 39) := ⟨⟨by decide +kernel, by decide +kernel⟩, List.mem_of_getElem? (i := 562) (by decide +kernel), List.mem_of_getElem? (i := 884) (by decide +kernel), List.mem_of_getElem? (i := 885) (by decide +kernel)⟩
theorem lw_p43 : lw_okq (⟨"FrogsChangeSidesModel", "offNow", "(I)I"⟩, 39) := ⟨⟨by decide +kernel, by decide +kernel⟩, List.mem_of_getElem? (i := 562) (by decide +kernel), List.mem_of_getElem? (i := 892) (by decide +kernel), List.mem_of_getElem? (i := 893) (by decide +kernel)⟩
theorem lw_p44 : lw_okq (⟨"FrogsChangeSidesModel", "isGame", "()Z"⟩, 39) := ⟨⟨by decide +kernel, by decide +kernel⟩, List.mem_of_getElem? (i := 562) (by decide +kernel), List.mem_of_getElem? (i := 900) (by decide +kernel), List.mem_of_getElem? (i := 901) (by decide +kernel)⟩
theorem lw_p45 : lw_okq (⟨"FrogsChangeSidesModel", "winsNow", "(I)I"⟩, 39) := ⟨⟨by decide +kernel, by decide +kernel⟩, List.mem_of_getElem? (i := 562) (by decide +kernel), List.mem_of_getElem? (i := 904) (by decide +kernel), List.mem_of_getElem? (i := 905) (by decide +kernel)⟩
theorem lw_p46 : lw_okq (⟨"FrogsChangeSidesModel", "layGame", "()V"⟩, 39) := ⟨⟨by decide +kernel, by decide +kernel⟩, List.mem_of_getElem? (i := 562) (by decide +kernel), List.mem_of_getElem? (i := 908) (by decide +kernel), List.mem_of_getElem? (i := 909) (by decide +kernel)⟩
theorem lw_p47 : lw_okq (⟨"FrogsChangeSidesModel", "progress", "(I)I"⟩, 39) := ⟨⟨by decide +kernel, by decide +kernel⟩, List.mem_of_getElem? (i := 562) (by decide +kernel), List.mem_of_getElem? (i := 912) (by decide +kernel), List.mem_of_getElem? (i := 913) (by decide +kernel)⟩
def lw_privs_3 : List (MethodName × Nat) := [(⟨"FrogsChangeSidesModel", "turnedCode", "()I"⟩, 39), (⟨"FrogsChangeSidesModel", "farTo", "(I)I"⟩, 39), (⟨"FrogsChangeSidesModel", "layFar", "()V"⟩, 39), (⟨"FrogsChangeSidesModel", "codeOf", "()I"⟩, 39), (⟨"FrogsChangeSidesModel", "come", "(II)V"⟩, 39), (⟨"FrogsChangeSidesModel", "layRow", "(I)V"⟩, 39), (⟨"FrogsChangeSidesModel", "waysNow", "()I"⟩, 39), (⟨"FrogsChangeSidesModel", "wrongNow", "()I"⟩, 39), (⟨"FrogsChangeSidesModel", "layEnds", "()V"⟩, 39), (⟨"FrogsChangeSidesModel", "moreNow", "(I)I"⟩, 39), (⟨"FrogsChangeSidesModel", "turns", "()I"⟩, 39), (⟨"FrogsChangeSidesModel", "offNow", "(I)I"⟩, 39), (⟨"FrogsChangeSidesModel", "isGame", "()Z"⟩, 39), (⟨"FrogsChangeSidesModel", "winsNow", "(I)I"⟩, 39), (⟨"FrogsChangeSidesModel", "layGame", "()V"⟩, 39), (⟨"FrogsChangeSidesModel", "progress", "(I)I"⟩, 39)]
theorem lw_r3 : ∀ q ∈ lw_privs_3, lw_okq q := List.forall_mem_cons.mpr ⟨lw_p32, List.forall_mem_cons.mpr ⟨lw_p33, List.forall_mem_cons.mpr ⟨lw_p34, List.forall_mem_cons.mpr ⟨lw_p35, List.forall_mem_cons.mpr ⟨lw_p36, List.forall_mem_cons.mpr ⟨lw_p37, List.forall_mem_cons.mpr ⟨lw_p38, List.forall_mem_cons.mpr ⟨lw_p39, List.forall_mem_cons.mpr ⟨lw_p40, List.forall_mem_cons.mpr ⟨lw_p41, List.forall_mem_cons.mpr ⟨lw_p42, List.forall_mem_cons.mpr ⟨lw_p43, List.forall_mem_cons.mpr ⟨lw_p44, List.forall_mem_cons.mpr ⟨lw_p45, List.forall_mem_cons.mpr ⟨lw_p46, List.forall_mem_cons.mpr ⟨lw_p47, fun _ h => absurd h List.not_mem_nil⟩⟩⟩⟩⟩⟩⟩⟩⟩⟩⟩⟩⟩⟩⟩⟩
theorem lw_p48 : lw_okq (⟨"FrogsChangeSidesModel", "winsBy", "(II)Z"⟩, 39) := ⟨⟨by decide +kernel, by decide +kernel⟩, List.mem_of_getElem? (i := 562) (by decide +kernel), List.mem_of_getElem? (i := 916) (by decide +kernel), List.mem_of_getElem? (i := 917) (by decide +kernel)⟩
theorem lw_p49 : lw_okq (⟨"FrogsChangeSidesModel", "isOf", "(II)Z"⟩, 39) := ⟨⟨by decide +kernel, by decide +kernel⟩, List.mem_of_getElem? (i := 562) (by decide +kernel), List.mem_of_getElem? (i := 920) (by decide +kernel), List.mem_of_getElem? (i := 921) (by decide +kernel)⟩
theorem lw_p50 : lw_okq (⟨"FrogsChangeSidesModel", "byNow", "(II)I"⟩, 39) := ⟨⟨by decide +kernel, by decide +kernel⟩, List.mem_of_getElem? (i := 562) (by decide +kernel), List.mem_of_getElem? (i := 928) (by decide +kernel), List.mem_of_getElem? (i := 929) (by decide +kernel)⟩
theorem lw_p51 : lw_okq (⟨"FrogsChangeSidesModel", "playNow", "(III)I"⟩, 39) := ⟨⟨by decide +kernel, by decide +kernel⟩, List.mem_of_getElem? (i := 562) (by decide +kernel), List.mem_of_getElem? (i := 936) (by decide +kernel), List.mem_of_getElem? (i := 937) (by decide +kernel)⟩
theorem lw_p52 : lw_okq (⟨"FrogsChangeSidesModel", "draw", "(I)I"⟩, 39) := ⟨⟨by decide +kernel, by decide +kernel⟩, List.mem_of_getElem? (i := 562) (by decide +kernel), List.mem_of_getElem? (i := 940) (by decide +kernel), List.mem_of_getElem? (i := 941) (by decide +kernel)⟩
theorem lw_p53 : lw_okq (⟨"FrogsChangeSidesModel", "goMove", "(I)V"⟩, 39) := ⟨⟨by decide +kernel, by decide +kernel⟩, List.mem_of_getElem? (i := 562) (by decide +kernel), List.mem_of_getElem? (i := 948) (by decide +kernel), List.mem_of_getElem? (i := 949) (by decide +kernel)⟩
theorem lw_p54 : lw_okq (⟨"FrogsChangeSidesModel", "howMany", "(I)I"⟩, 39) := ⟨⟨by decide +kernel, by decide +kernel⟩, List.mem_of_getElem? (i := 562) (by decide +kernel), List.mem_of_getElem? (i := 964) (by decide +kernel), List.mem_of_getElem? (i := 965) (by decide +kernel)⟩
theorem lw_p55 : lw_okq (⟨"FrogsChangeSidesModel", "mix", "(J)V"⟩, 39) := ⟨⟨by decide +kernel, by decide +kernel⟩, List.mem_of_getElem? (i := 562) (by decide +kernel), List.mem_of_getElem? (i := 977) (by decide +kernel), List.mem_of_getElem? (i := 978) (by decide +kernel)⟩
theorem lw_p56 : lw_okq (⟨"FrogsChangeSidesModel", "mixBrook", "()V"⟩, 39) := ⟨⟨by decide +kernel, by decide +kernel⟩, List.mem_of_getElem? (i := 562) (by decide +kernel), List.mem_of_getElem? (i := 982) (by decide +kernel), List.mem_of_getElem? (i := 983) (by decide +kernel)⟩
def lw_privs_4 : List (MethodName × Nat) := [(⟨"FrogsChangeSidesModel", "winsBy", "(II)Z"⟩, 39), (⟨"FrogsChangeSidesModel", "isOf", "(II)Z"⟩, 39), (⟨"FrogsChangeSidesModel", "byNow", "(II)I"⟩, 39), (⟨"FrogsChangeSidesModel", "playNow", "(III)I"⟩, 39), (⟨"FrogsChangeSidesModel", "draw", "(I)I"⟩, 39), (⟨"FrogsChangeSidesModel", "goMove", "(I)V"⟩, 39), (⟨"FrogsChangeSidesModel", "howMany", "(I)I"⟩, 39), (⟨"FrogsChangeSidesModel", "mix", "(J)V"⟩, 39), (⟨"FrogsChangeSidesModel", "mixBrook", "()V"⟩, 39)]
theorem lw_r4 : ∀ q ∈ lw_privs_4, lw_okq q := List.forall_mem_cons.mpr ⟨lw_p48, List.forall_mem_cons.mpr ⟨lw_p49, List.forall_mem_cons.mpr ⟨lw_p50, List.forall_mem_cons.mpr ⟨lw_p51, List.forall_mem_cons.mpr ⟨lw_p52, List.forall_mem_cons.mpr ⟨lw_p53, List.forall_mem_cons.mpr ⟨lw_p54, List.forall_mem_cons.mpr ⟨lw_p55, List.forall_mem_cons.mpr ⟨lw_p56, fun _ h => absurd h List.not_mem_nil⟩⟩⟩⟩⟩⟩⟩⟩⟩
def lw_privs : List (MethodName × Nat) := lw_privs_1 ++ (lw_privs_2 ++ (lw_privs_3 ++ (lw_privs_4)))
def lw_tbl : List Cond := k2_sels lw_privs ++ tables_1
theorem lw_privs_ok : ∀ q ∈ lw_privs, lw_okq q := by
  show ∀ q ∈ lw_privs_1 ++ (lw_privs_2 ++ (lw_privs_3 ++ (lw_privs_4))), lw_okq q
  exact List.forall_mem_append.mpr ⟨lw_r1, List.forall_mem_append.mpr ⟨lw_r2, List.forall_mem_append.mpr ⟨lw_r3, lw_r4⟩⟩⟩
-- ===== end of PART A; then your names; then what follows =====
def RX0 : String := "FrogsChangeSides$Game"
def TX0 : u_T := fun k => match k with
  | 0 => ("FrogsChangeSides$Game", "table", "LFrogsChangeSides$Table;", true)
  | _ => ("FrogsChangeSides$Game", "known", "[I", true)
def tyX0 : Nat → FieldType := fun k => match k with
  | 0 => .object "FrogsChangeSides$Table"
  | _ => .array .int
theorem nmX0 : ∀ a, a < 2 → ∀ b, b < 2 → a ≠ b → (TX0 a).2.1 ≠ (TX0 b).2.1 := by decide +kernel
theorem tyX0_ok : ∀ k, k < 2 → parseFieldDescriptor (TX0 k).2.2.1 = some (tyX0 k) := by decide +kernel
abbrev cX0_init : ByteArray := prog_2_method_1_code
def yX0_init : MethodName := ⟨RX0, "<init>", "()V"⟩
abbrev cX0_forget : ByteArray := prog_2_method_2_code
def yX0_forget : MethodName := ⟨RX0, "forget", "()V"⟩
abbrev cX0_hasIt : ByteArray := prog_2_method_3_code
def yX0_hasIt : MethodName := ⟨RX0, "hasIt", "(LFrogsChangeSides$Rules;III)Z"⟩
abbrev cX0_winningMove : ByteArray := prog_2_method_4_code
def yX0_winningMove : MethodName := ⟨RX0, "winningMove", "(LFrogsChangeSides$Rules;III)I"⟩
def RX1 : String := "FrogsChangeSides$Page"
def TX1 : u_T := fun k => match k with
  | 0 => ("FrogsChangeSides$Page", "codes", "[I", true)
  | _ => ("FrogsChangeSides$Page", "size", "I", false)
def tyX1 : Nat → FieldType := fun k => match k with
  | 0 => .array .int
  | _ => .int
theorem nmX1 : ∀ a, a < 2 → ∀ b, b < 2 → a ≠ b → (TX1 a).2.1 ≠ (TX1 b).2.1 := by decide +kernel
theorem tyX1_ok : ∀ k, k < 2 → parseFieldDescriptor (TX1 k).2.2.1 = some (tyX1 k) := by decide +kernel
abbrev cX1_init : ByteArray := prog_3_method_1_code
def yX1_init : MethodName := ⟨RX1, "<init>", "()V"⟩
abbrev cX1_lettersIn : ByteArray := prog_3_method_2_code
def yX1_lettersIn : MethodName := ⟨RX1, "lettersIn", "(J)I"⟩
abbrev cX1_codeIn : ByteArray := prog_3_method_3_code
def yX1_codeIn : MethodName := ⟨RX1, "codeIn", "(JI)I"⟩
abbrev cX1_append : ByteArray := prog_3_method_4_code
def yX1_append : MethodName := ⟨RX1, "append", "(JI)V"⟩
abbrev cX1_kindOf : ByteArray := prog_3_method_5_code
def yX1_kindOf : MethodName := ⟨RX1, "kindOf", "(I)I"⟩
abbrev cX1_signOf : ByteArray := prog_3_method_6_code
def yX1_signOf : MethodName := ⟨RX1, "signOf", "(I)I"⟩
abbrev cX1_leadingStones : ByteArray := prog_3_method_7_code
def yX1_leadingStones : MethodName := ⟨RX1, "leadingStones", "()I"⟩
abbrev cX1_firstFault : ByteArray := prog_3_method_8_code
def yX1_firstFault : MethodName := ⟨RX1, "firstFault", "()I"⟩
abbrev cX1_tellsBrook : ByteArray := prog_3_method_9_code
def yX1_tellsBrook : MethodName := ⟨RX1, "tellsBrook", "()Z"⟩
abbrev cX1_tellsRow : ByteArray := prog_3_method_10_code
def yX1_tellsRow : MethodName := ⟨RX1, "tellsRow", "(I)Z"⟩
abbrev cX1_row : ByteArray := prog_3_method_11_code
def yX1_row : MethodName := ⟨RX1, "row", "()I"⟩
abbrev cX1_signs : ByteArray := prog_3_method_12_code
def yX1_signs : MethodName := ⟨RX1, "signs", "()I"⟩
def RX2 : String := "FrogsChangeSides$Position"
def TX2 : u_T := fun k => match k with
  | 0 => ("FrogsChangeSides$Position", "made", "[I", true)
  | 1 => ("FrogsChangeSides$Position", "movers", "[I", true)
  | 2 => ("FrogsChangeSides$Position", "row", "I", false)
  | 3 => ("FrogsChangeSides$Position", "numbers", "I", false)
  | _ => ("FrogsChangeSides$Position", "size", "I", false)
def tyX2 : Nat → FieldType := fun k => match k with
  | 0 => .array .int
  | 1 => .array .int
  | 2 => .int
  | 3 => .int
  | _ => .int
theorem nmX2 : ∀ a, a < 5 → ∀ b, b < 5 → a ≠ b → (TX2 a).2.1 ≠ (TX2 b).2.1 := by decide +kernel
theorem tyX2_ok : ∀ k, k < 5 → parseFieldDescriptor (TX2 k).2.2.1 = some (tyX2 k) := by decide +kernel
abbrev cX2_init : ByteArray := prog_4_method_1_code
def yX2_init : MethodName := ⟨RX2, "<init>", "()V"⟩
abbrev cX2_begin : ByteArray := prog_4_method_2_code
def yX2_begin : MethodName := ⟨RX2, "begin", "(II)V"⟩
abbrev cX2_go : ByteArray := prog_4_method_3_code
def yX2_go : MethodName := ⟨RX2, "go", "(II)V"⟩
abbrev cX2_takeBack : ByteArray := prog_4_method_4_code
def yX2_takeBack : MethodName := ⟨RX2, "takeBack", "()I"⟩
abbrev cX2_stoneOf : ByteArray := prog_4_method_5_code
def yX2_stoneOf : MethodName := ⟨RX2, "stoneOf", "(I)I"⟩
abbrev cX2_timesMoved : ByteArray := prog_4_method_6_code
def yX2_timesMoved : MethodName := ⟨RX2, "timesMoved", "(I)I"⟩
abbrev cX2_copy : ByteArray := prog_4_method_7_code
def yX2_copy : MethodName := ⟨RX2, "copy", "(LFrogsChangeSides$Position;)V"⟩
def RX3 : String := "FrogsChangeSides$Rows"
def TX3 : u_T := fun k => match k with
  | _ => ("", "", "", false)
def tyX3 : Nat → FieldType := fun k => match k with
  | _ => .int
theorem nmX3 : ∀ a, a < 0 → ∀ b, b < 0 → a ≠ b → (TX3 a).2.1 ≠ (TX3 b).2.1 := by decide +kernel
theorem tyX3_ok : ∀ k, k < 0 → parseFieldDescriptor (TX3 k).2.2.1 = some (tyX3 k) := by decide +kernel
abbrev cX3_at : ByteArray := prog_5_method_2_code
def yX3_at : MethodName := ⟨RX3, "at", "(II)I"⟩
abbrev cX3_moved : ByteArray := prog_5_method_3_code
def yX3_moved : MethodName := ⟨RX3, "moved", "(II)I"⟩
abbrev cX3_turned : ByteArray := prog_5_method_4_code
def yX3_turned : MethodName := ⟨RX3, "turned", "(II)I"⟩
abbrev cX3_widened : ByteArray := prog_5_method_5_code
def yX3_widened : MethodName := ⟨RX3, "widened", "(II)I"⟩
abbrev cX3_without : ByteArray := prog_5_method_6_code
def yX3_without : MethodName := ⟨RX3, "without", "(II)I"⟩
abbrev cX3_freeStones : ByteArray := prog_5_method_7_code
def yX3_freeStones : MethodName := ⟨RX3, "freeStones", "(II)I"⟩
abbrev cX3_numbered : ByteArray := prog_5_method_8_code
def yX3_numbered : MethodName := ⟨RX3, "numbered", "(I)I"⟩
abbrev cX3_lowestMove : ByteArray := prog_5_method_9_code
def yX3_lowestMove : MethodName := ⟨RX3, "lowestMove", "(J)I"⟩
def RX4 : String := "FrogsChangeSides$Rules"
def TX4 : u_T := fun k => match k with
  | 0 => ("FrogsChangeSides$Rules", "stones", "I", false)
  | 1 => ("FrogsChangeSides$Rules", "signs", "I", false)
  | 2 => ("FrogsChangeSides$Rules", "any", "Z", false)
  | 3 => ("FrogsChangeSides$Rules", "back", "Z", false)
  | 4 => ("FrogsChangeSides$Rules", "ring", "Z", false)
  | _ => ("FrogsChangeSides$Rules", "two", "Z", false)
def tyX4 : Nat → FieldType := fun k => match k with
  | 0 => .int
  | 1 => .int
  | 2 => .boolean
  | 3 => .boolean
  | 4 => .boolean
  | _ => .boolean
theorem nmX4 : ∀ a, a < 6 → ∀ b, b < 6 → a ≠ b → (TX4 a).2.1 ≠ (TX4 b).2.1 := by decide +kernel
theorem tyX4_ok : ∀ k, k < 6 → parseFieldDescriptor (TX4 k).2.2.1 = some (tyX4 k) := by decide +kernel
abbrev cX4_init : ByteArray := prog_6_method_1_code
def yX4_init : MethodName := ⟨RX4, "<init>", "()V"⟩
abbrev cX4_set : ByteArray := prog_6_method_2_code
def yX4_set : MethodName := ⟨RX4, "set", "(II)V"⟩
abbrev cX4_has : ByteArray := prog_6_method_3_code
def yX4_has : MethodName := ⟨RX4, "has", "(I)Z"⟩
abbrev cX4_allows : ByteArray := prog_6_method_4_code
def yX4_allows : MethodName := ⟨RX4, "allows", "(III)Z"⟩
abbrev cX4_allMoves : ByteArray := prog_6_method_5_code
def yX4_allMoves : MethodName := ⟨RX4, "allMoves", "(II)J"⟩
abbrev cX4_targets : ByteArray := prog_6_method_6_code
def yX4_targets : MethodName := ⟨RX4, "targets", "(III)I"⟩
abbrev cX4_landing : ByteArray := prog_6_method_7_code
def yX4_landing : MethodName := ⟨RX4, "landing", "(III)I"⟩
abbrev cX4_beside : ByteArray := prog_6_method_8_code
def yX4_beside : MethodName := ⟨RX4, "beside", "(II)I"⟩
abbrev cX4_leapsOver : ByteArray := prog_6_method_9_code
def yX4_leapsOver : MethodName := ⟨RX4, "leapsOver", "(II)Z"⟩
def RX5 : String := "FrogsChangeSides$Search"
def TX5 : u_T := fun k => match k with
  | 0 => ("FrogsChangeSides$Search", "table", "LFrogsChangeSides$Table;", true)
  | 1 => ("FrogsChangeSides$Search", "depths", "[I", true)
  | 2 => ("FrogsChangeSides$Search", "ways", "[I", true)
  | 3 => ("FrogsChangeSides$Search", "stuckRows", "I", false)
  | _ => ("FrogsChangeSides$Search", "soonestStuck", "I", false)
def tyX5 : Nat → FieldType := fun k => match k with
  | 0 => .object "FrogsChangeSides$Table"
  | 1 => .array .int
  | 2 => .array .int
  | 3 => .int
  | _ => .int
theorem nmX5 : ∀ a, a < 5 → ∀ b, b < 5 → a ≠ b → (TX5 a).2.1 ≠ (TX5 b).2.1 := by decide +kernel
theorem tyX5_ok : ∀ k, k < 5 → parseFieldDescriptor (TX5 k).2.2.1 = some (tyX5 k) := by decide +kernel
abbrev cX5_init : ByteArray := prog_7_method_1_code
def yX5_init : MethodName := ⟨RX5, "<init>", "()V"⟩
abbrev cX5_spread : ByteArray := prog_7_method_2_code
def yX5_spread : MethodName := ⟨RX5, "spread", "(LFrogsChangeSides$Rules;III)I"⟩
abbrev cX5_noteStuck : ByteArray := prog_7_method_3_code
def yX5_noteStuck : MethodName := ⟨RX5, "noteStuck", "(I)V"⟩
abbrev cX5_goOn : ByteArray := prog_7_method_4_code
def yX5_goOn : MethodName := ⟨RX5, "goOn", "(IJ)V"⟩
abbrev cX5_depthOf : ByteArray := prog_7_method_5_code
def yX5_depthOf : MethodName := ⟨RX5, "depthOf", "(I)I"⟩
abbrev cX5_waysOf : ByteArray := prog_7_method_6_code
def yX5_waysOf : MethodName := ⟨RX5, "waysOf", "(I)I"⟩
def RX6 : String := "FrogsChangeSides$Table"
def TX6 : u_T := fun k => match k with
  | 0 => ("FrogsChangeSides$Table", "slots", "[I", true)
  | 1 => ("FrogsChangeSides$Table", "rows", "[I", true)
  | _ => ("FrogsChangeSides$Table", "size", "I", false)
def tyX6 : Nat → FieldType := fun k => match k with
  | 0 => .array .int
  | 1 => .array .int
  | _ => .int
theorem nmX6 : ∀ a, a < 3 → ∀ b, b < 3 → a ≠ b → (TX6 a).2.1 ≠ (TX6 b).2.1 := by decide +kernel
theorem tyX6_ok : ∀ k, k < 3 → parseFieldDescriptor (TX6 k).2.2.1 = some (tyX6 k) := by decide +kernel
abbrev cX6_init : ByteArray := prog_8_method_1_code
def yX6_init : MethodName := ⟨RX6, "<init>", "()V"⟩
abbrev cX6_clear : ByteArray := prog_8_method_2_code
def yX6_clear : MethodName := ⟨RX6, "clear", "()V"⟩
abbrev cX6_find : ByteArray := prog_8_method_3_code
def yX6_find : MethodName := ⟨RX6, "find", "(I)I"⟩
abbrev cX6_meet : ByteArray := prog_8_method_4_code
def yX6_meet : MethodName := ⟨RX6, "meet", "(I)I"⟩
abbrev cX6_slotOf : ByteArray := prog_8_method_5_code
def yX6_slotOf : MethodName := ⟨RX6, "slotOf", "(I)I"⟩
def RX7 : String := "FrogsChangeSides"
def TX7 : u_T := fun k => match k with
  | 0 => ("FrogsChangeSides", "page", "LFrogsChangeSides$Page;", true)
  | 1 => ("FrogsChangeSides", "rules", "LFrogsChangeSides$Rules;", true)
  | 2 => ("FrogsChangeSides", "otherRules", "LFrogsChangeSides$Rules;", true)
  | 3 => ("FrogsChangeSides", "now", "LFrogsChangeSides$Position;", true)
  | 4 => ("FrogsChangeSides", "kept", "LFrogsChangeSides$Position;", true)
  | 5 => ("FrogsChangeSides", "toGoal", "LFrogsChangeSides$Search;", true)
  | 6 => ("FrogsChangeSides", "afresh", "LFrogsChangeSides$Search;", true)
  | 7 => ("FrogsChangeSides", "game", "LFrogsChangeSides$Game;", true)
  | 8 => ("FrogsChangeSides", "readRow", "I", false)
  | 9 => ("FrogsChangeSides", "goalRow", "I", false)
  | 10 => ("FrogsChangeSides", "frogs", "I", false)
  | 11 => ("FrogsChangeSides", "timesRead", "I", false)
  | _ => ("FrogsChangeSides", "hasImage", "Z", false)
def tyX7 : Nat → FieldType := fun k => match k with
  | 0 => .object "FrogsChangeSides$Page"
  | 1 => .object "FrogsChangeSides$Rules"
  | 2 => .object "FrogsChangeSides$Rules"
  | 3 => .object "FrogsChangeSides$Position"
  | 4 => .object "FrogsChangeSides$Position"
  | 5 => .object "FrogsChangeSides$Search"
  | 6 => .object "FrogsChangeSides$Search"
  | 7 => .object "FrogsChangeSides$Game"
  | 8 => .int
  | 9 => .int
  | 10 => .int
  | 11 => .int
  | _ => .boolean
theorem nmX7 : ∀ a, a < 13 → ∀ b, b < 13 → a ≠ b → (TX7 a).2.1 ≠ (TX7 b).2.1 := by decide +kernel
theorem tyX7_ok : ∀ k, k < 13 → parseFieldDescriptor (TX7 k).2.2.1 = some (tyX7 k) := by decide +kernel
abbrev cX7_init : ByteArray := prog_1_method_1_code
def yX7_init : MethodName := ⟨RX7, "<init>", "()V"⟩
abbrev cX7_letters : ByteArray := prog_1_method_2_code
def yX7_letters : MethodName := ⟨RX7, "letters", "(J)I"⟩
abbrev cX7_blank : ByteArray := prog_1_method_3_code
def yX7_blank : MethodName := ⟨RX7, "blank", "()I"⟩
abbrev cX7_fault : ByteArray := prog_1_method_4_code
def yX7_fault : MethodName := ⟨RX7, "fault", "()I"⟩
abbrev cX7_brook : ByteArray := prog_1_method_5_code
def yX7_brook : MethodName := ⟨RX7, "brook", "()I"⟩
abbrev cX7_on : ByteArray := prog_1_method_6_code
def yX7_on : MethodName := ⟨RX7, "on", "(I)I"⟩
abbrev cX7_frog : ByteArray := prog_1_method_7_code
def yX7_frog : MethodName := ⟨RX7, "frog", "(I)I"⟩
abbrev cX7_about : ByteArray := prog_1_method_8_code
def yX7_about : MethodName := ⟨RX7, "about", "(II)I"⟩
abbrev cX7_as : ByteArray := prog_1_method_9_code
def yX7_as : MethodName := ⟨RX7, "as", "(II)I"⟩
abbrev cX7_may : ByteArray := prog_1_method_10_code
def yX7_may : MethodName := ⟨RX7, "may", "(II)I"⟩
abbrev cX7_moves : ByteArray := prog_1_method_11_code
def yX7_moves : MethodName := ⟨RX7, "moves", "()I"⟩
abbrev cX7_move : ByteArray := prog_1_method_12_code
def yX7_move : MethodName := ⟨RX7, "move", "(II)I"⟩
abbrev cX7_back : ByteArray := prog_1_method_13_code
def yX7_back : MethodName := ⟨RX7, "back", "()I"⟩
abbrev cX7_fewest : ByteArray := prog_1_method_14_code
def yX7_fewest : MethodName := ⟨RX7, "fewest", "(I)I"⟩
abbrev cX7_ways : ByteArray := prog_1_method_15_code
def yX7_ways : MethodName := ⟨RX7, "ways", "()I"⟩
abbrev cX7_wrong : ByteArray := prog_1_method_16_code
def yX7_wrong : MethodName := ⟨RX7, "wrong", "()I"⟩
abbrev cX7_ends : ByteArray := prog_1_method_17_code
def yX7_ends : MethodName := ⟨RX7, "ends", "()I"⟩
abbrev cX7_soon : ByteArray := prog_1_method_18_code
def yX7_soon : MethodName := ⟨RX7, "soon", "()I"⟩
abbrev cX7_comes : ByteArray := prog_1_method_19_code
def yX7_comes : MethodName := ⟨RX7, "comes", "()I"⟩
abbrev cX7_more : ByteArray := prog_1_method_20_code
def yX7_more : MethodName := ⟨RX7, "more", "(I)I"⟩
abbrev cX7_off : ByteArray := prog_1_method_21_code
def yX7_off : MethodName := ⟨RX7, "off", "(I)I"⟩
abbrev cX7_wins : ByteArray := prog_1_method_22_code
def yX7_wins : MethodName := ⟨RX7, "wins", "(I)I"⟩
abbrev cX7_by : ByteArray := prog_1_method_23_code
def yX7_by : MethodName := ⟨RX7, "by", "(II)I"⟩
abbrev cX7_play : ByteArray := prog_1_method_24_code
def yX7_play : MethodName := ⟨RX7, "play", "(III)I"⟩
abbrev cX7_image : ByteArray := prog_1_method_25_code
def yX7_image : MethodName := ⟨RX7, "image", "()I"⟩
abbrev cX7_restore : ByteArray := prog_1_method_26_code
def yX7_restore : MethodName := ⟨RX7, "restore", "()I"⟩
abbrev cX7_count : ByteArray := prog_1_method_27_code
def yX7_count : MethodName := ⟨RX7, "count", "(I)I"⟩
abbrev cX7_digest : ByteArray := prog_1_method_28_code
def yX7_digest : MethodName := ⟨RX7, "digest", "()J"⟩
abbrev cX7_hasBrook : ByteArray := prog_1_method_29_code
def yX7_hasBrook : MethodName := ⟨RX7, "hasBrook", "()Z"⟩
abbrev cX7_hasGame : ByteArray := prog_1_method_30_code
def yX7_hasGame : MethodName := ⟨RX7, "hasGame", "()Z"⟩
abbrev cX7_isStone : ByteArray := prog_1_method_31_code
def yX7_isStone : MethodName := ⟨RX7, "isStone", "(I)Z"⟩
abbrev cX7_isFrog : ByteArray := prog_1_method_32_code
def yX7_isFrog : MethodName := ⟨RX7, "isFrog", "(I)Z"⟩
abbrev cX7_kindOfFrog : ByteArray := prog_1_method_33_code
def yX7_kindOfFrog : MethodName := ⟨RX7, "kindOfFrog", "(I)I"⟩
abbrev cX7_partOfMove : ByteArray := prog_1_method_34_code
def yX7_partOfMove : MethodName := ⟨RX7, "partOfMove", "(II)I"⟩
abbrev cX7_firstOfFewest : ByteArray := prog_1_method_35_code
def yX7_firstOfFewest : MethodName := ⟨RX7, "firstOfFewest", "()I"⟩
abbrev cX7_firstWrong : ByteArray := prog_1_method_36_code
def yX7_firstWrong : MethodName := ⟨RX7, "firstWrong", "()I"⟩
abbrev cX7_toTurnRound : ByteArray := prog_1_method_37_code
def yX7_toTurnRound : MethodName := ⟨RX7, "toTurnRound", "(LFrogsChangeSides$Rules;I)I"⟩
abbrev cX7_isLess : ByteArray := prog_1_method_38_code
def yX7_isLess : MethodName := ⟨RX7, "isLess", "(II)Z"⟩
abbrev cX7_seedAfter : ByteArray := prog_1_method_39_code
def yX7_seedAfter : MethodName := ⟨RX7, "seedAfter", "(I)I"⟩
abbrev cX7_drawOf : ByteArray := prog_1_method_40_code
def yX7_drawOf : MethodName := ⟨RX7, "drawOf", "(II)I"⟩
abbrev cX7_moveOfNumber : ByteArray := prog_1_method_41_code
def yX7_moveOfNumber : MethodName := ⟨RX7, "moveOfNumber", "(JI)I"⟩
def RX8 : String := "FrogsChangeSidesModel"
def TX8 : u_T := fun k => match k with
  | 0 => ("FrogsChangeSidesModel", "stones", "I", false)
  | 1 => ("FrogsChangeSidesModel", "any", "Z", false)
  | 2 => ("FrogsChangeSidesModel", "backward", "Z", false)
  | 3 => ("FrogsChangeSidesModel", "ring", "Z", false)
  | 4 => ("FrogsChangeSidesModel", "two", "Z", false)
  | 5 => ("FrogsChangeSidesModel", "brooks", "I", false)
  | 6 => ("FrogsChangeSidesModel", "readRow", "[I", true)
  | 7 => ("FrogsChangeSidesModel", "rowNow", "[I", true)
  | 8 => ("FrogsChangeSidesModel", "frogOn", "[I", true)
  | 9 => ("FrogsChangeSidesModel", "frogs", "I", false)
  | 10 => ("FrogsChangeSidesModel", "kindOf", "[I", true)
  | 11 => ("FrogsChangeSidesModel", "moved", "I", false)
  | 12 => ("FrogsChangeSidesModel", "movedFrom", "[I", true)
  | 13 => ("FrogsChangeSidesModel", "movedTo", "[I", true)
  | 14 => ("FrogsChangeSidesModel", "pageLength", "I", false)
  | 15 => ("FrogsChangeSidesModel", "page", "[B", true)
  | 16 => ("FrogsChangeSidesModel", "faultAt", "I", false)
  | 17 => ("FrogsChangeSidesModel", "isWhole", "Z", false)
  | 18 => ("FrogsChangeSidesModel", "newMany", "I", false)
  | 19 => ("FrogsChangeSidesModel", "newSigns", "I", false)
  | 20 => ("FrogsChangeSidesModel", "newRow", "[I", true)
  | 21 => ("FrogsChangeSidesModel", "long0", "I", false)
  | 22 => ("FrogsChangeSidesModel", "row", "[I", true)
  | 23 => ("FrogsChangeSidesModel", "far", "[I", true)
  | 24 => ("FrogsChangeSidesModel", "ways", "[J", true)
  | 25 => ("FrogsChangeSidesModel", "queue", "[I", true)
  | 26 => ("FrogsChangeSidesModel", "queueEnd", "I", false)
  | 27 => ("FrogsChangeSidesModel", "endMany", "I", false)
  | 28 => ("FrogsChangeSidesModel", "endSoon", "I", false)
  | 29 => ("FrogsChangeSidesModel", "won", "[B", true)
  | 30 => ("FrogsChangeSidesModel", "seedNow", "J", false)
  | 31 => ("FrogsChangeSidesModel", "isKept", "Z", false)
  | 32 => ("FrogsChangeSidesModel", "keptBrook", "I", false)
  | 33 => ("FrogsChangeSidesModel", "keptMoved", "I", false)
  | 34 => ("FrogsChangeSidesModel", "keptRow", "[I", true)
  | 35 => ("FrogsChangeSidesModel", "keptFrog", "[I", true)
  | 36 => ("FrogsChangeSidesModel", "keptFrom", "[I", true)
  | 37 => ("FrogsChangeSidesModel", "keptTo", "[I", true)
  | _ => ("FrogsChangeSidesModel", "h", "J", false)
def tyX8 : Nat → FieldType := fun k => match k with
  | 0 => .int
  | 1 => .boolean
  | 2 => .boolean
  | 3 => .boolean
  | 4 => .boolean
  | 5 => .int
  | 6 => .array .int
  | 7 => .array .int
  | 8 => .array .int
  | 9 => .int
  | 10 => .array .int
  | 11 => .int
  | 12 => .array .int
  | 13 => .array .int
  | 14 => .int
  | 15 => .array .byte
  | 16 => .int
  | 17 => .boolean
  | 18 => .int
  | 19 => .int
  | 20 => .array .int
  | 21 => .int
  | 22 => .array .int
  | 23 => .array .int
  | 24 => .array .long
  | 25 => .array .int
  | 26 => .int
  | 27 => .int
  | 28 => .int
  | 29 => .array .byte
  | 30 => .long
  | 31 => .boolean
  | 32 => .int
  | 33 => .int
  | 34 => .array .int
  | 35 => .array .int
  | 36 => .array .int
  | 37 => .array .int
  | _ => .long
theorem nmX8 : ∀ a, a < 39 → ∀ b, b < 39 → a ≠ b → (TX8 a).2.1 ≠ (TX8 b).2.1 := by decide +kernel
theorem tyX8_ok : ∀ k, k < 39 → parseFieldDescriptor (TX8 k).2.2.1 = some (tyX8 k) := by decide +kernel
abbrev cX8_init : ByteArray := prog_10_method_1_code
def yX8_init : MethodName := ⟨RX8, "<init>", "()V"⟩
abbrev cX8_within : ByteArray := prog_10_method_3_code
def yX8_within : MethodName := ⟨RX8, "within", "(III)Z"⟩
abbrev cX8_letters : ByteArray := prog_10_method_4_code
def yX8_letters : MethodName := ⟨RX8, "letters", "(J)I"⟩
abbrev cX8_blank : ByteArray := prog_10_method_5_code
def yX8_blank : MethodName := ⟨RX8, "blank", "()I"⟩
abbrev cX8_kindBy : ByteArray := prog_10_method_6_code
def yX8_kindBy : MethodName := ⟨RX8, "kindBy", "(I)I"⟩
abbrev cX8_signBy : ByteArray := prog_10_method_7_code
def yX8_signBy : MethodName := ⟨RX8, "signBy", "(I)I"⟩
abbrev cX8_readBrook : ByteArray := prog_10_method_8_code
def yX8_readBrook : MethodName := ⟨RX8, "readBrook", "()V"⟩
abbrev cX8_fault : ByteArray := prog_10_method_9_code
def yX8_fault : MethodName := ⟨RX8, "fault", "()I"⟩
abbrev cX8_brook : ByteArray := prog_10_method_10_code
def yX8_brook : MethodName := ⟨RX8, "brook", "()I"⟩
abbrev cX8_isStone : ByteArray := prog_10_method_11_code
def yX8_isStone : MethodName := ⟨RX8, "isStone", "(I)Z"⟩
abbrev cX8_on : ByteArray := prog_10_method_12_code
def yX8_on : MethodName := ⟨RX8, "on", "(I)I"⟩
abbrev cX8_frog : ByteArray := prog_10_method_13_code
def yX8_frog : MethodName := ⟨RX8, "frog", "(I)I"⟩
abbrev cX8_stoneOf : ByteArray := prog_10_method_14_code
def yX8_stoneOf : MethodName := ⟨RX8, "stoneOf", "(I)I"⟩
abbrev cX8_movedMany : ByteArray := prog_10_method_15_code
def yX8_movedMany : MethodName := ⟨RX8, "movedMany", "(I)I"⟩
abbrev cX8_frogNow : ByteArray := prog_10_method_16_code
def yX8_frogNow : MethodName := ⟨RX8, "frogNow", "(II)I"⟩
abbrev cX8_about : ByteArray := prog_10_method_17_code
def yX8_about : MethodName := ⟨RX8, "about", "(II)I"⟩
abbrev cX8_as : ByteArray := prog_10_method_18_code
def yX8_as : MethodName := ⟨RX8, "as", "(II)I"⟩
abbrev cX8_besides : ByteArray := prog_10_method_19_code
def yX8_besides : MethodName := ⟨RX8, "besides", "(II)I"⟩
abbrev cX8_colour : ByteArray := prog_10_method_20_code
def yX8_colour : MethodName := ⟨RX8, "colour", "(I)I"⟩
abbrev cX8_mayOver : ByteArray := prog_10_method_21_code
def yX8_mayOver : MethodName := ⟨RX8, "mayOver", "(II)Z"⟩
abbrev cX8_mayWay : ByteArray := prog_10_method_22_code
def yX8_mayWay : MethodName := ⟨RX8, "mayWay", "(III)Z"⟩
abbrev cX8_mayMove : ByteArray := prog_10_method_23_code
def yX8_mayMove : MethodName := ⟨RX8, "mayMove", "(II)Z"⟩
abbrev cX8_layNow : ByteArray := prog_10_method_24_code
def yX8_layNow : MethodName := ⟨RX8, "layNow", "()V"⟩
abbrev cX8_may : ByteArray := prog_10_method_25_code
def yX8_may : MethodName := ⟨RX8, "may", "(II)I"⟩
abbrev cX8_moveMany : ByteArray := prog_10_method_26_code
def yX8_moveMany : MethodName := ⟨RX8, "moveMany", "()I"⟩
abbrev cX8_moves : ByteArray := prog_10_method_27_code
def yX8_moves : MethodName := ⟨RX8, "moves", "()I"⟩
abbrev cX8_moveNow : ByteArray := prog_10_method_28_code
def yX8_moveNow : MethodName := ⟨RX8, "moveNow", "(II)V"⟩
abbrev cX8_move : ByteArray := prog_10_method_29_code
def yX8_move : MethodName := ⟨RX8, "move", "(II)I"⟩
abbrev cX8_back : ByteArray := prog_10_method_30_code
def yX8_back : MethodName := ⟨RX8, "back", "()I"⟩
abbrev cX8_power : ByteArray := prog_10_method_31_code
def yX8_power : MethodName := ⟨RX8, "power", "(I)I"⟩
abbrev cX8_codeOf : ByteArray := prog_10_method_32_code
def yX8_codeOf : MethodName := ⟨RX8, "codeOf", "()I"⟩
abbrev cX8_turnedCode : ByteArray := prog_10_method_33_code
def yX8_turnedCode : MethodName := ⟨RX8, "turnedCode", "()I"⟩
abbrev cX8_layRow : ByteArray := prog_10_method_34_code
def yX8_layRow : MethodName := ⟨RX8, "layRow", "(I)V"⟩
abbrev cX8_behindMove : ByteArray := prog_10_method_35_code
def yX8_behindMove : MethodName := ⟨RX8, "behindMove", "(IIII)I"⟩
abbrev cX8_come : ByteArray := prog_10_method_36_code
def yX8_come : MethodName := ⟨RX8, "come", "(II)V"⟩
abbrev cX8_layFar : ByteArray := prog_10_method_37_code
def yX8_layFar : MethodName := ⟨RX8, "layFar", "()V"⟩
abbrev cX8_layRead : ByteArray := prog_10_method_38_code
def yX8_layRead : MethodName := ⟨RX8, "layRead", "()V"⟩
abbrev cX8_goal : ByteArray := prog_10_method_39_code
def yX8_goal : MethodName := ⟨RX8, "goal", "()I"⟩
abbrev cX8_farTo : ByteArray := prog_10_method_40_code
def yX8_farTo : MethodName := ⟨RX8, "farTo", "(I)I"⟩
abbrev cX8_fewestNow : ByteArray := prog_10_method_41_code
def yX8_fewestNow : MethodName := ⟨RX8, "fewestNow", "(I)I"⟩
abbrev cX8_fewest : ByteArray := prog_10_method_42_code
def yX8_fewest : MethodName := ⟨RX8, "fewest", "(I)I"⟩
abbrev cX8_waysNow : ByteArray := prog_10_method_43_code
def yX8_waysNow : MethodName := ⟨RX8, "waysNow", "()I"⟩
abbrev cX8_ways : ByteArray := prog_10_method_44_code
def yX8_ways : MethodName := ⟨RX8, "ways", "()I"⟩
abbrev cX8_wrongNow : ByteArray := prog_10_method_45_code
def yX8_wrongNow : MethodName := ⟨RX8, "wrongNow", "()I"⟩
abbrev cX8_wrong : ByteArray := prog_10_method_46_code
def yX8_wrong : MethodName := ⟨RX8, "wrong", "()I"⟩
abbrev cX8_layEnds : ByteArray := prog_10_method_47_code
def yX8_layEnds : MethodName := ⟨RX8, "layEnds", "()V"⟩
abbrev cX8_ends : ByteArray := prog_10_method_48_code
def yX8_ends : MethodName := ⟨RX8, "ends", "()I"⟩
abbrev cX8_soon : ByteArray := prog_10_method_49_code
def yX8_soon : MethodName := ⟨RX8, "soon", "()I"⟩
abbrev cX8_comes : ByteArray := prog_10_method_50_code
def yX8_comes : MethodName := ⟨RX8, "comes", "()I"⟩
abbrev cX8_turns : ByteArray := prog_10_method_51_code
def yX8_turns : MethodName := ⟨RX8, "turns", "()I"⟩
abbrev cX8_moreNow : ByteArray := prog_10_method_52_code
def yX8_moreNow : MethodName := ⟨RX8, "moreNow", "(I)I"⟩
abbrev cX8_more : ByteArray := prog_10_method_53_code
def yX8_more : MethodName := ⟨RX8, "more", "(I)I"⟩
abbrev cX8_offNow : ByteArray := prog_10_method_54_code
def yX8_offNow : MethodName := ⟨RX8, "offNow", "(I)I"⟩
abbrev cX8_off : ByteArray := prog_10_method_55_code
def yX8_off : MethodName := ⟨RX8, "off", "(I)I"⟩
abbrev cX8_isOf : ByteArray := prog_10_method_56_code
def yX8_isOf : MethodName := ⟨RX8, "isOf", "(II)Z"⟩
abbrev cX8_progress : ByteArray := prog_10_method_57_code
def yX8_progress : MethodName := ⟨RX8, "progress", "(I)I"⟩
abbrev cX8_winsBy : ByteArray := prog_10_method_58_code
def yX8_winsBy : MethodName := ⟨RX8, "winsBy", "(II)Z"⟩
abbrev cX8_layGame : ByteArray := prog_10_method_59_code
def yX8_layGame : MethodName := ⟨RX8, "layGame", "()V"⟩
abbrev cX8_winsNow : ByteArray := prog_10_method_60_code
def yX8_winsNow : MethodName := ⟨RX8, "winsNow", "(I)I"⟩
abbrev cX8_isGame : ByteArray := prog_10_method_61_code
def yX8_isGame : MethodName := ⟨RX8, "isGame", "()Z"⟩
abbrev cX8_wins : ByteArray := prog_10_method_62_code
def yX8_wins : MethodName := ⟨RX8, "wins", "(I)I"⟩
abbrev cX8_byNow : ByteArray := prog_10_method_63_code
def yX8_byNow : MethodName := ⟨RX8, "byNow", "(II)I"⟩
abbrev cX8_by : ByteArray := prog_10_method_64_code
def yX8_by : MethodName := ⟨RX8, "by", "(II)I"⟩
abbrev cX8_draw : ByteArray := prog_10_method_65_code
def yX8_draw : MethodName := ⟨RX8, "draw", "(I)I"⟩
abbrev cX8_goMove : ByteArray := prog_10_method_66_code
def yX8_goMove : MethodName := ⟨RX8, "goMove", "(I)V"⟩
abbrev cX8_playNow : ByteArray := prog_10_method_67_code
def yX8_playNow : MethodName := ⟨RX8, "playNow", "(III)I"⟩
abbrev cX8_play : ByteArray := prog_10_method_68_code
def yX8_play : MethodName := ⟨RX8, "play", "(III)I"⟩
abbrev cX8_image : ByteArray := prog_10_method_69_code
def yX8_image : MethodName := ⟨RX8, "image", "()I"⟩
abbrev cX8_restore : ByteArray := prog_10_method_70_code
def yX8_restore : MethodName := ⟨RX8, "restore", "()I"⟩
abbrev cX8_one : ByteArray := prog_10_method_71_code
def yX8_one : MethodName := ⟨RX8, "one", "(Z)I"⟩
abbrev cX8_howMany : ByteArray := prog_10_method_72_code
def yX8_howMany : MethodName := ⟨RX8, "howMany", "(I)I"⟩
abbrev cX8_count : ByteArray := prog_10_method_73_code
def yX8_count : MethodName := ⟨RX8, "count", "(I)I"⟩
abbrev cX8_mix : ByteArray := prog_10_method_74_code
def yX8_mix : MethodName := ⟨RX8, "mix", "(J)V"⟩
abbrev cX8_mixBrook : ByteArray := prog_10_method_75_code
def yX8_mixBrook : MethodName := ⟨RX8, "mixBrook", "()V"⟩
abbrev cX8_digest : ByteArray := prog_10_method_76_code
def yX8_digest : MethodName := ⟨RX8, "digest", "()J"⟩
def RJ13 : String := "java/lang/Long"
def TJ13 : u_T := fun k => match k with
  | _ => ("", "", "", false)
def tyJ13 : Nat → FieldType := fun k => match k with
  | _ => .int
theorem nmJ13 : ∀ a, a < 0 → ∀ b, b < 0 → a ≠ b → (TJ13 a).2.1 ≠ (TJ13 b).2.1 := by decide +kernel
theorem tyJ13_ok : ∀ k, k < 0 → parseFieldDescriptor (TJ13 k).2.2.1 = some (tyJ13 k) := by decide +kernel
abbrev cJ13_bitCount_95d88 : ByteArray := prog_11_method_50_code
def yJ13_bitCount_95d88 : MethodName := ⟨RJ13, "bitCount", "(J)I"⟩
def RJ7 : String := "java/util/Arrays"
def TJ7 : u_T := fun k => match k with
  | _ => ("", "", "", false)
def tyJ7 : Nat → FieldType := fun k => match k with
  | _ => .int
theorem nmJ7 : ∀ a, a < 0 → ∀ b, b < 0 → a ≠ b → (TJ7 a).2.1 ≠ (TJ7 b).2.1 := by decide +kernel
theorem tyJ7_ok : ∀ k, k < 0 → parseFieldDescriptor (TJ7 k).2.2.1 = some (tyJ7 k) := by decide +kernel
abbrev cJ7_fill_53178 : ByteArray := prog_12_method_103_code
def yJ7_fill_53178 : MethodName := ⟨RJ7, "fill", "([II)V"⟩
def RL : String := "FrogsChangeSidesLaw"
abbrev cL_law : ByteArray := code
def yL_law : MethodName := ⟨RL, "law", "([I)Z"⟩
abbrev vwCl : List vw_C := [(RX0, TX0, 2), (RX1, TX1, 2), (RX2, TX2, 5), (RX4, TX4, 6), (RX5, TX5, 5), (RX6, TX6, 3), (RX7, TX7, 13), (RX8, TX8, 39)]
def bigW : List Cond := lw_tbl.filter goodWord
theorem bigGood : ∀ w ∈ bigW, goodWord w = true := fun _ h => (List.mem_filter.mp h).2
theorem bigIn : ∀ w ∈ bigW, w ∈ lw_tbl := fun _ h => (List.mem_filter.mp h).1
theorem kn_L : Cond.initialized RL ∈ bigW := List.mem_filter.mpr ⟨List.mem_append_right _ (List.mem_append_left _ (List.mem_of_getElem? (i := 0) rfl)), rfl⟩
theorem kn_X7 : Cond.initialized RX7 ∈ bigW := List.mem_filter.mpr ⟨List.mem_append_right _ (List.mem_append_left _ (List.mem_of_getElem? (i := 1) rfl)), rfl⟩
theorem kn_X1 : Cond.initialized RX1 ∈ bigW := List.mem_filter.mpr ⟨List.mem_append_right _ (List.mem_append_left _ (List.mem_of_getElem? (i := 2) rfl)), rfl⟩
theorem kn_X4 : Cond.initialized RX4 ∈ bigW := List.mem_filter.mpr ⟨List.mem_append_right _ (List.mem_append_left _ (List.mem_of_getElem? (i := 3) rfl)), rfl⟩
theorem kn_X2 : Cond.initialized RX2 ∈ bigW := List.mem_filter.mpr ⟨List.mem_append_right _ (List.mem_append_left _ (List.mem_of_getElem? (i := 4) rfl)), rfl⟩
theorem kn_X5 : Cond.initialized RX5 ∈ bigW := List.mem_filter.mpr ⟨List.mem_append_right _ (List.mem_append_left _ (List.mem_of_getElem? (i := 5) rfl)), rfl⟩
theorem kn_X6 : Cond.initialized RX6 ∈ bigW := List.mem_filter.mpr ⟨List.mem_append_right _ (List.mem_append_left _ (List.mem_of_getElem? (i := 6) rfl)), rfl⟩
theorem kn_X0 : Cond.initialized RX0 ∈ bigW := List.mem_filter.mpr ⟨List.mem_append_right _ (List.mem_append_left _ (List.mem_of_getElem? (i := 7) rfl)), rfl⟩
theorem kn_X8 : Cond.initialized RX8 ∈ bigW := List.mem_filter.mpr ⟨List.mem_append_right _ (List.mem_append_left _ (List.mem_of_getElem? (i := 8) rfl)), rfl⟩
theorem kn_X3 : Cond.initialized RX3 ∈ bigW := List.mem_filter.mpr ⟨List.mem_append_right _ (List.mem_append_left _ (List.mem_of_getElem? (i := 9) rfl)), rfl⟩
theorem kn_J7 : Cond.initialized RJ7 ∈ bigW := List.mem_filter.mpr ⟨List.mem_append_right _ (List.mem_append_left _ (List.mem_of_getElem? (i := 10) rfl)), rfl⟩
theorem kn_J13 : Cond.initialized RJ13 ∈ bigW := List.mem_filter.mpr ⟨List.mem_append_right _ (List.mem_append_left _ (List.mem_of_getElem? (i := 11) rfl)), rfl⟩
theorem kq_L_7 : Cond.classLink RL 7 RX7 ∈ bigW := List.mem_filter.mpr ⟨List.mem_append_right _ (List.mem_append_left _ (List.mem_of_getElem? (i := 12) rfl)), rfl⟩
theorem kz_X7 : Cond.instantiable RX7 13 ∈ bigW := List.mem_filter.mpr ⟨List.mem_append_right _ (List.mem_append_left _ (List.mem_of_getElem? (i := 13) rfl)), rfl⟩
theorem km_L_9 : Cond.methodLink RL 9 yX7_init ∈ bigW := List.mem_filter.mpr ⟨List.mem_append_right _ (List.mem_append_left _ (List.mem_of_getElem? (i := 14) rfl)), rfl⟩
theorem ki_X7_init : Cond.instanceMethod yX7_init ∈ bigW := List.mem_filter.mpr ⟨List.mem_append_right _ (List.mem_append_left _ (List.mem_of_getElem? (i := 15) rfl)), rfl⟩
theorem kc_X7_init : Cond.code yX7_init cX7_init 1 none ∈ bigW := List.mem_filter.mpr ⟨List.mem_append_right _ (List.mem_append_left _ (List.mem_of_getElem? (i := 16) rfl)), rfl⟩
theorem km_X7_1 : Cond.methodLink RX7 1 objectInit ∈ bigW := List.mem_filter.mpr ⟨List.mem_append_right _ (List.mem_append_left _ (List.mem_of_getElem? (i := 17) rfl)), rfl⟩
theorem kq_X7_7 : Cond.classLink RX7 7 RX1 ∈ bigW := List.mem_filter.mpr ⟨List.mem_append_right _ (List.mem_append_left _ (List.mem_of_getElem? (i := 20) rfl)), rfl⟩
theorem kz_X1 : Cond.instantiable RX1 2 ∈ bigW := List.mem_filter.mpr ⟨List.mem_append_right _ (List.mem_append_left _ (List.mem_of_getElem? (i := 21) rfl)), rfl⟩
theorem ki_X1_init : Cond.instanceMethod yX1_init ∈ bigW := List.mem_filter.mpr ⟨List.mem_append_right _ (List.mem_append_left _ (List.mem_of_getElem? (i := 23) rfl)), rfl⟩
theorem kc_X1_init : Cond.code yX1_init cX1_init 1 none ∈ bigW := List.mem_filter.mpr ⟨List.mem_append_right _ (List.mem_append_left _ (List.mem_of_getElem? (i := 24) rfl)), rfl⟩
theorem km_X1_3 : Cond.methodLink RX1 3 objectInit ∈ bigW := List.mem_filter.mpr ⟨List.mem_append_right _ (List.mem_append_left _ (List.mem_of_getElem? (i := 25) rfl)), rfl⟩
theorem kf_X1_9 : Cond.fieldLink RX1 9 (TX1 0).1 (TX1 0).2.1 (TX1 0).2.2.1 ∈ bigW := List.mem_filter.mpr ⟨List.mem_append_right _ (List.mem_append_left _ (List.mem_of_getElem? (i := 26) rfl)), rfl⟩
theorem kf_X1_19 : Cond.fieldLink RX1 19 (TX1 1).1 (TX1 1).2.1 (TX1 1).2.2.1 ∈ bigW := List.mem_filter.mpr ⟨List.mem_append_right _ (List.mem_append_left _ (List.mem_of_getElem? (i := 29) rfl)), rfl⟩
theorem kq_X7_16 : Cond.classLink RX7 16 RX4 ∈ bigW := List.mem_filter.mpr ⟨List.mem_append_right _ (List.mem_append_left _ (List.mem_of_getElem? (i := 36) rfl)), rfl⟩
theorem kz_X4 : Cond.instantiable RX4 6 ∈ bigW := List.mem_filter.mpr ⟨List.mem_append_right _ (List.mem_append_left _ (List.mem_of_getElem? (i := 37) rfl)), rfl⟩
theorem ki_X4_init : Cond.instanceMethod yX4_init ∈ bigW := List.mem_filter.mpr ⟨List.mem_append_right _ (List.mem_append_left _ (List.mem_of_getElem? (i := 39) rfl)), rfl⟩
theorem kc_X4_init : Cond.code yX4_init cX4_init 1 none ∈ bigW := List.mem_filter.mpr ⟨List.mem_append_right _ (List.mem_append_left _ (List.mem_of_getElem? (i := 40) rfl)), rfl⟩
theorem km_X4_3 : Cond.methodLink RX4 3 objectInit ∈ bigW := List.mem_filter.mpr ⟨List.mem_append_right _ (List.mem_append_left _ (List.mem_of_getElem? (i := 41) rfl)), rfl⟩
theorem kf_X4_9 : Cond.fieldLink RX4 9 (TX4 0).1 (TX4 0).2.1 (TX4 0).2.2.1 ∈ bigW := List.mem_filter.mpr ⟨List.mem_append_right _ (List.mem_append_left _ (List.mem_of_getElem? (i := 42) rfl)), rfl⟩
theorem kf_X4_15 : Cond.fieldLink RX4 15 (TX4 1).1 (TX4 1).2.1 (TX4 1).2.2.1 ∈ bigW := List.mem_filter.mpr ⟨List.mem_append_right _ (List.mem_append_left _ (List.mem_of_getElem? (i := 44) rfl)), rfl⟩
theorem kf_X4_22 : Cond.fieldLink RX4 22 (TX4 2).1 (TX4 2).2.1 (TX4 2).2.2.1 ∈ bigW := List.mem_filter.mpr ⟨List.mem_append_right _ (List.mem_append_left _ (List.mem_of_getElem? (i := 46) rfl)), rfl⟩
theorem kf_X4_26 : Cond.fieldLink RX4 26 (TX4 3).1 (TX4 3).2.1 (TX4 3).2.2.1 ∈ bigW := List.mem_filter.mpr ⟨List.mem_append_right _ (List.mem_append_left _ (List.mem_of_getElem? (i := 47) rfl)), rfl⟩
theorem kf_X4_29 : Cond.fieldLink RX4 29 (TX4 4).1 (TX4 4).2.1 (TX4 4).2.2.1 ∈ bigW := List.mem_filter.mpr ⟨List.mem_append_right _ (List.mem_append_left _ (List.mem_of_getElem? (i := 49) rfl)), rfl⟩
theorem kf_X4_32 : Cond.fieldLink RX4 32 (TX4 5).1 (TX4 5).2.1 (TX4 5).2.2.1 ∈ bigW := List.mem_filter.mpr ⟨List.mem_append_right _ (List.mem_append_left _ (List.mem_of_getElem? (i := 51) rfl)), rfl⟩
theorem kq_X7_26 : Cond.classLink RX7 26 RX2 ∈ bigW := List.mem_filter.mpr ⟨List.mem_append_right _ (List.mem_append_left _ (List.mem_of_getElem? (i := 65) rfl)), rfl⟩
theorem kz_X2 : Cond.instantiable RX2 5 ∈ bigW := List.mem_filter.mpr ⟨List.mem_append_right _ (List.mem_append_left _ (List.mem_of_getElem? (i := 66) rfl)), rfl⟩
theorem ki_X2_init : Cond.instanceMethod yX2_init ∈ bigW := List.mem_filter.mpr ⟨List.mem_append_right _ (List.mem_append_left _ (List.mem_of_getElem? (i := 68) rfl)), rfl⟩
theorem kc_X2_init : Cond.code yX2_init cX2_init 1 none ∈ bigW := List.mem_filter.mpr ⟨List.mem_append_right _ (List.mem_append_left _ (List.mem_of_getElem? (i := 69) rfl)), rfl⟩
theorem km_X2_3 : Cond.methodLink RX2 3 objectInit ∈ bigW := List.mem_filter.mpr ⟨List.mem_append_right _ (List.mem_append_left _ (List.mem_of_getElem? (i := 70) rfl)), rfl⟩
theorem kf_X2_9 : Cond.fieldLink RX2 9 (TX2 0).1 (TX2 0).2.1 (TX2 0).2.2.1 ∈ bigW := List.mem_filter.mpr ⟨List.mem_append_right _ (List.mem_append_left _ (List.mem_of_getElem? (i := 71) rfl)), rfl⟩
theorem kf_X2_15 : Cond.fieldLink RX2 15 (TX2 1).1 (TX2 1).2.1 (TX2 1).2.2.1 ∈ bigW := List.mem_filter.mpr ⟨List.mem_append_right _ (List.mem_append_left _ (List.mem_of_getElem? (i := 73) rfl)), rfl⟩
theorem kf_X2_18 : Cond.fieldLink RX2 18 (TX2 2).1 (TX2 2).2.1 (TX2 2).2.2.1 ∈ bigW := List.mem_filter.mpr ⟨List.mem_append_right _ (List.mem_append_left _ (List.mem_of_getElem? (i := 74) rfl)), rfl⟩
theorem kf_X2_22 : Cond.fieldLink RX2 22 (TX2 3).1 (TX2 3).2.1 (TX2 3).2.2.1 ∈ bigW := List.mem_filter.mpr ⟨List.mem_append_right _ (List.mem_append_left _ (List.mem_of_getElem? (i := 76) rfl)), rfl⟩
theorem kf_X2_25 : Cond.fieldLink RX2 25 (TX2 4).1 (TX2 4).2.1 (TX2 4).2.2.1 ∈ bigW := List.mem_filter.mpr ⟨List.mem_append_right _ (List.mem_append_left _ (List.mem_of_getElem? (i := 78) rfl)), rfl⟩
theorem kq_X7_36 : Cond.classLink RX7 36 RX5 ∈ bigW := List.mem_filter.mpr ⟨List.mem_append_right _ (List.mem_append_left _ (List.mem_of_getElem? (i := 91) rfl)), rfl⟩
theorem kz_X5 : Cond.instantiable RX5 5 ∈ bigW := List.mem_filter.mpr ⟨List.mem_append_right _ (List.mem_append_left _ (List.mem_of_getElem? (i := 92) rfl)), rfl⟩
theorem ki_X5_init : Cond.instanceMethod yX5_init ∈ bigW := List.mem_filter.mpr ⟨List.mem_append_right _ (List.mem_append_left _ (List.mem_of_getElem? (i := 94) rfl)), rfl⟩
theorem kc_X5_init : Cond.code yX5_init cX5_init 1 none ∈ bigW := List.mem_filter.mpr ⟨List.mem_append_right _ (List.mem_append_left _ (List.mem_of_getElem? (i := 95) rfl)), rfl⟩
theorem km_X5_3 : Cond.methodLink RX5 3 objectInit ∈ bigW := List.mem_filter.mpr ⟨List.mem_append_right _ (List.mem_append_left _ (List.mem_of_getElem? (i := 96) rfl)), rfl⟩
theorem kq_X5_9 : Cond.classLink RX5 9 RX6 ∈ bigW := List.mem_filter.mpr ⟨List.mem_append_right _ (List.mem_append_left _ (List.mem_of_getElem? (i := 97) rfl)), rfl⟩
theorem kz_X6 : Cond.instantiable RX6 3 ∈ bigW := List.mem_filter.mpr ⟨List.mem_append_right _ (List.mem_append_left _ (List.mem_of_getElem? (i := 98) rfl)), rfl⟩
theorem ki_X6_init : Cond.instanceMethod yX6_init ∈ bigW := List.mem_filter.mpr ⟨List.mem_append_right _ (List.mem_append_left _ (List.mem_of_getElem? (i := 100) rfl)), rfl⟩
theorem kc_X6_init : Cond.code yX6_init cX6_init 1 none ∈ bigW := List.mem_filter.mpr ⟨List.mem_append_right _ (List.mem_append_left _ (List.mem_of_getElem? (i := 101) rfl)), rfl⟩
theorem km_X6_3 : Cond.methodLink RX6 3 objectInit ∈ bigW := List.mem_filter.mpr ⟨List.mem_append_right _ (List.mem_append_left _ (List.mem_of_getElem? (i := 102) rfl)), rfl⟩
theorem kf_X6_9 : Cond.fieldLink RX6 9 (TX6 0).1 (TX6 0).2.1 (TX6 0).2.2.1 ∈ bigW := List.mem_filter.mpr ⟨List.mem_append_right _ (List.mem_append_left _ (List.mem_of_getElem? (i := 103) rfl)), rfl⟩
theorem kf_X6_15 : Cond.fieldLink RX6 15 (TX6 1).1 (TX6 1).2.1 (TX6 1).2.2.1 ∈ bigW := List.mem_filter.mpr ⟨List.mem_append_right _ (List.mem_append_left _ (List.mem_of_getElem? (i := 104) rfl)), rfl⟩
theorem kf_X6_24 : Cond.fieldLink RX6 24 (TX6 2).1 (TX6 2).2.1 (TX6 2).2.2.1 ∈ bigW := List.mem_filter.mpr ⟨List.mem_append_right _ (List.mem_append_left _ (List.mem_of_getElem? (i := 106) rfl)), rfl⟩
theorem kf_X5_12 : Cond.fieldLink RX5 12 (TX5 0).1 (TX5 0).2.1 (TX5 0).2.2.1 ∈ bigW := List.mem_filter.mpr ⟨List.mem_append_right _ (List.mem_append_left _ (List.mem_of_getElem? (i := 115) rfl)), rfl⟩
theorem kf_X5_18 : Cond.fieldLink RX5 18 (TX5 1).1 (TX5 1).2.1 (TX5 1).2.2.1 ∈ bigW := List.mem_filter.mpr ⟨List.mem_append_right _ (List.mem_append_left _ (List.mem_of_getElem? (i := 116) rfl)), rfl⟩
theorem kf_X5_22 : Cond.fieldLink RX5 22 (TX5 2).1 (TX5 2).2.1 (TX5 2).2.2.1 ∈ bigW := List.mem_filter.mpr ⟨List.mem_append_right _ (List.mem_append_left _ (List.mem_of_getElem? (i := 117) rfl)), rfl⟩
theorem kf_X5_28 : Cond.fieldLink RX5 28 (TX5 3).1 (TX5 3).2.1 (TX5 3).2.2.1 ∈ bigW := List.mem_filter.mpr ⟨List.mem_append_right _ (List.mem_append_left _ (List.mem_of_getElem? (i := 118) rfl)), rfl⟩
theorem kf_X5_32 : Cond.fieldLink RX5 32 (TX5 4).1 (TX5 4).2.1 (TX5 4).2.2.1 ∈ bigW := List.mem_filter.mpr ⟨List.mem_append_right _ (List.mem_append_left _ (List.mem_of_getElem? (i := 120) rfl)), rfl⟩
theorem kq_X7_46 : Cond.classLink RX7 46 RX0 ∈ bigW := List.mem_filter.mpr ⟨List.mem_append_right _ (List.mem_append_left _ (List.mem_of_getElem? (i := 133) rfl)), rfl⟩
theorem kz_X0 : Cond.instantiable RX0 2 ∈ bigW := List.mem_filter.mpr ⟨List.mem_append_right _ (List.mem_append_left _ (List.mem_of_getElem? (i := 134) rfl)), rfl⟩
theorem ki_X0_init : Cond.instanceMethod yX0_init ∈ bigW := List.mem_filter.mpr ⟨List.mem_append_right _ (List.mem_append_left _ (List.mem_of_getElem? (i := 136) rfl)), rfl⟩
theorem kc_X0_init : Cond.code yX0_init cX0_init 1 none ∈ bigW := List.mem_filter.mpr ⟨List.mem_append_right _ (List.mem_append_left _ (List.mem_of_getElem? (i := 137) rfl)), rfl⟩
theorem km_X0_3 : Cond.methodLink RX0 3 objectInit ∈ bigW := List.mem_filter.mpr ⟨List.mem_append_right _ (List.mem_append_left _ (List.mem_of_getElem? (i := 138) rfl)), rfl⟩
theorem kq_X0_9 : Cond.classLink RX0 9 RX6 ∈ bigW := List.mem_filter.mpr ⟨List.mem_append_right _ (List.mem_append_left _ (List.mem_of_getElem? (i := 139) rfl)), rfl⟩
theorem kf_X0_12 : Cond.fieldLink RX0 12 (TX0 0).1 (TX0 0).2.1 (TX0 0).2.2.1 ∈ bigW := List.mem_filter.mpr ⟨List.mem_append_right _ (List.mem_append_left _ (List.mem_of_getElem? (i := 141) rfl)), rfl⟩
theorem kf_X0_18 : Cond.fieldLink RX0 18 (TX0 1).1 (TX0 1).2.1 (TX0 1).2.2.1 ∈ bigW := List.mem_filter.mpr ⟨List.mem_append_right _ (List.mem_append_left _ (List.mem_of_getElem? (i := 142) rfl)), rfl⟩
theorem kf_X7_10 : Cond.fieldLink RX7 10 (TX7 0).1 (TX7 0).2.1 (TX7 0).2.2.1 ∈ bigW := List.mem_filter.mpr ⟨List.mem_append_right _ (List.mem_append_left _ (List.mem_of_getElem? (i := 148) rfl)), rfl⟩
theorem kf_X7_19 : Cond.fieldLink RX7 19 (TX7 1).1 (TX7 1).2.1 (TX7 1).2.2.1 ∈ bigW := List.mem_filter.mpr ⟨List.mem_append_right _ (List.mem_append_left _ (List.mem_of_getElem? (i := 149) rfl)), rfl⟩
theorem kf_X7_23 : Cond.fieldLink RX7 23 (TX7 2).1 (TX7 2).2.1 (TX7 2).2.2.1 ∈ bigW := List.mem_filter.mpr ⟨List.mem_append_right _ (List.mem_append_left _ (List.mem_of_getElem? (i := 150) rfl)), rfl⟩
theorem kf_X7_29 : Cond.fieldLink RX7 29 (TX7 3).1 (TX7 3).2.1 (TX7 3).2.2.1 ∈ bigW := List.mem_filter.mpr ⟨List.mem_append_right _ (List.mem_append_left _ (List.mem_of_getElem? (i := 151) rfl)), rfl⟩
theorem kf_X7_33 : Cond.fieldLink RX7 33 (TX7 4).1 (TX7 4).2.1 (TX7 4).2.2.1 ∈ bigW := List.mem_filter.mpr ⟨List.mem_append_right _ (List.mem_append_left _ (List.mem_of_getElem? (i := 152) rfl)), rfl⟩
theorem kf_X7_39 : Cond.fieldLink RX7 39 (TX7 5).1 (TX7 5).2.1 (TX7 5).2.2.1 ∈ bigW := List.mem_filter.mpr ⟨List.mem_append_right _ (List.mem_append_left _ (List.mem_of_getElem? (i := 153) rfl)), rfl⟩
theorem kf_X7_43 : Cond.fieldLink RX7 43 (TX7 6).1 (TX7 6).2.1 (TX7 6).2.2.1 ∈ bigW := List.mem_filter.mpr ⟨List.mem_append_right _ (List.mem_append_left _ (List.mem_of_getElem? (i := 154) rfl)), rfl⟩
theorem kf_X7_49 : Cond.fieldLink RX7 49 (TX7 7).1 (TX7 7).2.1 (TX7 7).2.2.1 ∈ bigW := List.mem_filter.mpr ⟨List.mem_append_right _ (List.mem_append_left _ (List.mem_of_getElem? (i := 155) rfl)), rfl⟩
theorem kf_X7_86 : Cond.fieldLink RX7 86 (TX7 8).1 (TX7 8).2.1 (TX7 8).2.2.1 ∈ bigW := List.mem_filter.mpr ⟨List.mem_append_right _ (List.mem_append_left _ (List.mem_of_getElem? (i := 156) rfl)), rfl⟩
theorem kf_X7_98 : Cond.fieldLink RX7 98 (TX7 9).1 (TX7 9).2.1 (TX7 9).2.2.1 ∈ bigW := List.mem_filter.mpr ⟨List.mem_append_right _ (List.mem_append_left _ (List.mem_of_getElem? (i := 157) rfl)), rfl⟩
theorem kf_X7_104 : Cond.fieldLink RX7 104 (TX7 10).1 (TX7 10).2.1 (TX7 10).2.2.1 ∈ bigW := List.mem_filter.mpr ⟨List.mem_append_right _ (List.mem_append_left _ (List.mem_of_getElem? (i := 158) rfl)), rfl⟩
theorem kf_X7_125 : Cond.fieldLink RX7 125 (TX7 11).1 (TX7 11).2.1 (TX7 11).2.2.1 ∈ bigW := List.mem_filter.mpr ⟨List.mem_append_right _ (List.mem_append_left _ (List.mem_of_getElem? (i := 159) rfl)), rfl⟩
theorem kf_X7_121 : Cond.fieldLink RX7 121 (TX7 12).1 (TX7 12).2.1 (TX7 12).2.2.1 ∈ bigW := List.mem_filter.mpr ⟨List.mem_append_right _ (List.mem_append_left _ (List.mem_of_getElem? (i := 160) rfl)), rfl⟩
theorem km_L_15 : Cond.methodLink RL 15 yX7_letters ∈ bigW := List.mem_filter.mpr ⟨List.mem_append_right _ (List.mem_append_left _ (List.mem_of_getElem? (i := 188) rfl)), rfl⟩
theorem ki_X7_letters : Cond.instanceMethod yX7_letters ∈ bigW := List.mem_filter.mpr ⟨List.mem_append_right _ (List.mem_append_left _ (List.mem_of_getElem? (i := 189) rfl)), rfl⟩
theorem kv_X7_letters : Cond.selects RX7 yX7_letters yX7_letters ∈ bigW := List.mem_filter.mpr ⟨List.mem_append_right _ (List.mem_append_left _ (List.mem_of_getElem? (i := 190) rfl)), rfl⟩
theorem kc_X7_letters : Cond.code yX7_letters cX7_letters 4 (some .int) ∈ bigW := List.mem_filter.mpr ⟨List.mem_append_right _ (List.mem_append_left _ (List.mem_of_getElem? (i := 191) rfl)), rfl⟩
theorem km_X7_53 : Cond.methodLink RX7 53 yX1_lettersIn ∈ bigW := List.mem_filter.mpr ⟨List.mem_append_right _ (List.mem_append_left _ (List.mem_of_getElem? (i := 192) rfl)), rfl⟩
theorem ks_X1_lettersIn : Cond.static yX1_lettersIn ∈ bigW := List.mem_filter.mpr ⟨List.mem_append_right _ (List.mem_append_left _ (List.mem_of_getElem? (i := 193) rfl)), rfl⟩
theorem kc_X1_lettersIn : Cond.code yX1_lettersIn cX1_lettersIn 6 (some .int) ∈ bigW := List.mem_filter.mpr ⟨List.mem_append_right _ (List.mem_append_left _ (List.mem_of_getElem? (i := 194) rfl)), rfl⟩
theorem km_X1_15 : Cond.methodLink RX1 15 yX1_codeIn ∈ bigW := List.mem_filter.mpr ⟨List.mem_append_right _ (List.mem_append_left _ (List.mem_of_getElem? (i := 195) rfl)), rfl⟩
theorem ks_X1_codeIn : Cond.static yX1_codeIn ∈ bigW := List.mem_filter.mpr ⟨List.mem_append_right _ (List.mem_append_left _ (List.mem_of_getElem? (i := 196) rfl)), rfl⟩
theorem kc_X1_codeIn : Cond.code yX1_codeIn cX1_codeIn 3 (some .int) ∈ bigW := List.mem_filter.mpr ⟨List.mem_append_right _ (List.mem_append_left _ (List.mem_of_getElem? (i := 197) rfl)), rfl⟩
theorem km_X7_61 : Cond.methodLink RX7 61 yX1_append ∈ bigW := List.mem_filter.mpr ⟨List.mem_append_right _ (List.mem_append_left _ (List.mem_of_getElem? (i := 198) rfl)), rfl⟩
theorem ki_X1_append : Cond.instanceMethod yX1_append ∈ bigW := List.mem_filter.mpr ⟨List.mem_append_right _ (List.mem_append_left _ (List.mem_of_getElem? (i := 199) rfl)), rfl⟩
theorem kv_X1_append : Cond.selects RX1 yX1_append yX1_append ∈ bigW := List.mem_filter.mpr ⟨List.mem_append_right _ (List.mem_append_left _ (List.mem_of_getElem? (i := 200) rfl)), rfl⟩
theorem kc_X1_append : Cond.code yX1_append cX1_append 5 none ∈ bigW := List.mem_filter.mpr ⟨List.mem_append_right _ (List.mem_append_left _ (List.mem_of_getElem? (i := 201) rfl)), rfl⟩
theorem km_L_20 : Cond.methodLink RL 20 yX7_blank ∈ bigW := List.mem_filter.mpr ⟨List.mem_append_right _ (List.mem_append_left _ (List.mem_of_getElem? (i := 202) rfl)), rfl⟩
theorem ki_X7_blank : Cond.instanceMethod yX7_blank ∈ bigW := List.mem_filter.mpr ⟨List.mem_append_right _ (List.mem_append_left _ (List.mem_of_getElem? (i := 203) rfl)), rfl⟩
theorem kv_X7_blank : Cond.selects RX7 yX7_blank yX7_blank ∈ bigW := List.mem_filter.mpr ⟨List.mem_append_right _ (List.mem_append_left _ (List.mem_of_getElem? (i := 204) rfl)), rfl⟩
theorem kc_X7_blank : Cond.code yX7_blank cX7_blank 2 (some .int) ∈ bigW := List.mem_filter.mpr ⟨List.mem_append_right _ (List.mem_append_left _ (List.mem_of_getElem? (i := 205) rfl)), rfl⟩
theorem km_L_25 : Cond.methodLink RL 25 yX7_fault ∈ bigW := List.mem_filter.mpr ⟨List.mem_append_right _ (List.mem_append_left _ (List.mem_of_getElem? (i := 206) rfl)), rfl⟩
theorem ki_X7_fault : Cond.instanceMethod yX7_fault ∈ bigW := List.mem_filter.mpr ⟨List.mem_append_right _ (List.mem_append_left _ (List.mem_of_getElem? (i := 207) rfl)), rfl⟩
theorem kv_X7_fault : Cond.selects RX7 yX7_fault yX7_fault ∈ bigW := List.mem_filter.mpr ⟨List.mem_append_right _ (List.mem_append_left _ (List.mem_of_getElem? (i := 208) rfl)), rfl⟩
theorem kc_X7_fault : Cond.code yX7_fault cX7_fault 1 (some .int) ∈ bigW := List.mem_filter.mpr ⟨List.mem_append_right _ (List.mem_append_left _ (List.mem_of_getElem? (i := 209) rfl)), rfl⟩
theorem km_X7_65 : Cond.methodLink RX7 65 yX1_firstFault ∈ bigW := List.mem_filter.mpr ⟨List.mem_append_right _ (List.mem_append_left _ (List.mem_of_getElem? (i := 210) rfl)), rfl⟩
theorem ki_X1_firstFault : Cond.instanceMethod yX1_firstFault ∈ bigW := List.mem_filter.mpr ⟨List.mem_append_right _ (List.mem_append_left _ (List.mem_of_getElem? (i := 211) rfl)), rfl⟩
theorem kv_X1_firstFault : Cond.selects RX1 yX1_firstFault yX1_firstFault ∈ bigW := List.mem_filter.mpr ⟨List.mem_append_right _ (List.mem_append_left _ (List.mem_of_getElem? (i := 212) rfl)), rfl⟩
theorem kc_X1_firstFault : Cond.code yX1_firstFault cX1_firstFault 5 (some .int) ∈ bigW := List.mem_filter.mpr ⟨List.mem_append_right _ (List.mem_append_left _ (List.mem_of_getElem? (i := 213) rfl)), rfl⟩
theorem km_X1_27 : Cond.methodLink RX1 27 yX1_leadingStones ∈ bigW := List.mem_filter.mpr ⟨List.mem_append_right _ (List.mem_append_left _ (List.mem_of_getElem? (i := 214) rfl)), rfl⟩
theorem ki_X1_leadingStones : Cond.instanceMethod yX1_leadingStones ∈ bigW := List.mem_filter.mpr ⟨List.mem_append_right _ (List.mem_append_left _ (List.mem_of_getElem? (i := 215) rfl)), rfl⟩
theorem kv_X1_leadingStones : Cond.selects RX1 yX1_leadingStones yX1_leadingStones ∈ bigW := List.mem_filter.mpr ⟨List.mem_append_right _ (List.mem_append_left _ (List.mem_of_getElem? (i := 216) rfl)), rfl⟩
theorem kc_X1_leadingStones : Cond.code yX1_leadingStones cX1_leadingStones 2 (some .int) ∈ bigW := List.mem_filter.mpr ⟨List.mem_append_right _ (List.mem_append_left _ (List.mem_of_getElem? (i := 217) rfl)), rfl⟩
theorem km_X1_23 : Cond.methodLink RX1 23 yX1_kindOf ∈ bigW := List.mem_filter.mpr ⟨List.mem_append_right _ (List.mem_append_left _ (List.mem_of_getElem? (i := 218) rfl)), rfl⟩
theorem ks_X1_kindOf : Cond.static yX1_kindOf ∈ bigW := List.mem_filter.mpr ⟨List.mem_append_right _ (List.mem_append_left _ (List.mem_of_getElem? (i := 219) rfl)), rfl⟩
theorem kc_X1_kindOf : Cond.code yX1_kindOf cX1_kindOf 1 (some .int) ∈ bigW := List.mem_filter.mpr ⟨List.mem_append_right _ (List.mem_append_left _ (List.mem_of_getElem? (i := 220) rfl)), rfl⟩
theorem km_X1_31 : Cond.methodLink RX1 31 yX1_signOf ∈ bigW := List.mem_filter.mpr ⟨List.mem_append_right _ (List.mem_append_left _ (List.mem_of_getElem? (i := 221) rfl)), rfl⟩
theorem ks_X1_signOf : Cond.static yX1_signOf ∈ bigW := List.mem_filter.mpr ⟨List.mem_append_right _ (List.mem_append_left _ (List.mem_of_getElem? (i := 222) rfl)), rfl⟩
theorem kc_X1_signOf : Cond.code yX1_signOf cX1_signOf 1 (some .int) ∈ bigW := List.mem_filter.mpr ⟨List.mem_append_right _ (List.mem_append_left _ (List.mem_of_getElem? (i := 223) rfl)), rfl⟩
theorem km_L_29 : Cond.methodLink RL 29 yX7_brook ∈ bigW := List.mem_filter.mpr ⟨List.mem_append_right _ (List.mem_append_left _ (List.mem_of_getElem? (i := 224) rfl)), rfl⟩
theorem ki_X7_brook : Cond.instanceMethod yX7_brook ∈ bigW := List.mem_filter.mpr ⟨List.mem_append_right _ (List.mem_append_left _ (List.mem_of_getElem? (i := 225) rfl)), rfl⟩
theorem kv_X7_brook : Cond.selects RX7 yX7_brook yX7_brook ∈ bigW := List.mem_filter.mpr ⟨List.mem_append_right _ (List.mem_append_left _ (List.mem_of_getElem? (i := 226) rfl)), rfl⟩
theorem kc_X7_brook : Cond.code yX7_brook cX7_brook 1 (some .int) ∈ bigW := List.mem_filter.mpr ⟨List.mem_append_right _ (List.mem_append_left _ (List.mem_of_getElem? (i := 227) rfl)), rfl⟩
theorem km_X7_69 : Cond.methodLink RX7 69 yX1_tellsBrook ∈ bigW := List.mem_filter.mpr ⟨List.mem_append_right _ (List.mem_append_left _ (List.mem_of_getElem? (i := 228) rfl)), rfl⟩
theorem ki_X1_tellsBrook : Cond.instanceMethod yX1_tellsBrook ∈ bigW := List.mem_filter.mpr ⟨List.mem_append_right _ (List.mem_append_left _ (List.mem_of_getElem? (i := 229) rfl)), rfl⟩
theorem kv_X1_tellsBrook : Cond.selects RX1 yX1_tellsBrook yX1_tellsBrook ∈ bigW := List.mem_filter.mpr ⟨List.mem_append_right _ (List.mem_append_left _ (List.mem_of_getElem? (i := 230) rfl)), rfl⟩
theorem kc_X1_tellsBrook : Cond.code yX1_tellsBrook cX1_tellsBrook 3 (some .boolean) ∈ bigW := List.mem_filter.mpr ⟨List.mem_append_right _ (List.mem_append_left _ (List.mem_of_getElem? (i := 231) rfl)), rfl⟩
theorem km_X1_34 : Cond.methodLink RX1 34 yX1_firstFault ∈ bigW := List.mem_filter.mpr ⟨List.mem_append_right _ (List.mem_append_left _ (List.mem_of_getElem? (i := 232) rfl)), rfl⟩
theorem km_X1_37 : Cond.methodLink RX1 37 yX1_row ∈ bigW := List.mem_filter.mpr ⟨List.mem_append_right _ (List.mem_append_left _ (List.mem_of_getElem? (i := 233) rfl)), rfl⟩
theorem ki_X1_row : Cond.instanceMethod yX1_row ∈ bigW := List.mem_filter.mpr ⟨List.mem_append_right _ (List.mem_append_left _ (List.mem_of_getElem? (i := 234) rfl)), rfl⟩
theorem kv_X1_row : Cond.selects RX1 yX1_row yX1_row ∈ bigW := List.mem_filter.mpr ⟨List.mem_append_right _ (List.mem_append_left _ (List.mem_of_getElem? (i := 235) rfl)), rfl⟩
theorem kc_X1_row : Cond.code yX1_row cX1_row 4 (some .int) ∈ bigW := List.mem_filter.mpr ⟨List.mem_append_right _ (List.mem_append_left _ (List.mem_of_getElem? (i := 236) rfl)), rfl⟩
theorem km_X7_73 : Cond.methodLink RX7 73 yX1_leadingStones ∈ bigW := List.mem_filter.mpr ⟨List.mem_append_right _ (List.mem_append_left _ (List.mem_of_getElem? (i := 237) rfl)), rfl⟩
theorem km_X7_76 : Cond.methodLink RX7 76 yX1_signs ∈ bigW := List.mem_filter.mpr ⟨List.mem_append_right _ (List.mem_append_left _ (List.mem_of_getElem? (i := 238) rfl)), rfl⟩
theorem ki_X1_signs : Cond.instanceMethod yX1_signs ∈ bigW := List.mem_filter.mpr ⟨List.mem_append_right _ (List.mem_append_left _ (List.mem_of_getElem? (i := 239) rfl)), rfl⟩
theorem kv_X1_signs : Cond.selects RX1 yX1_signs yX1_signs ∈ bigW := List.mem_filter.mpr ⟨List.mem_append_right _ (List.mem_append_right _ (List.mem_append_left _ (List.mem_of_getElem? (i := 0) rfl))), rfl⟩
theorem kc_X1_signs : Cond.code yX1_signs cX1_signs 4 (some .int) ∈ bigW := List.mem_filter.mpr ⟨List.mem_append_right _ (List.mem_append_right _ (List.mem_append_left _ (List.mem_of_getElem? (i := 1) rfl))), rfl⟩
theorem km_X7_79 : Cond.methodLink RX7 79 yX4_set ∈ bigW := List.mem_filter.mpr ⟨List.mem_append_right _ (List.mem_append_right _ (List.mem_append_left _ (List.mem_of_getElem? (i := 2) rfl))), rfl⟩
theorem ki_X4_set : Cond.instanceMethod yX4_set ∈ bigW := List.mem_filter.mpr ⟨List.mem_append_right _ (List.mem_append_right _ (List.mem_append_left _ (List.mem_of_getElem? (i := 3) rfl))), rfl⟩
theorem kv_X4_set : Cond.selects RX4 yX4_set yX4_set ∈ bigW := List.mem_filter.mpr ⟨List.mem_append_right _ (List.mem_append_right _ (List.mem_append_left _ (List.mem_of_getElem? (i := 4) rfl))), rfl⟩
theorem kc_X4_set : Cond.code yX4_set cX4_set 3 none ∈ bigW := List.mem_filter.mpr ⟨List.mem_append_right _ (List.mem_append_right _ (List.mem_append_left _ (List.mem_of_getElem? (i := 5) rfl))), rfl⟩
theorem km_X4_18 : Cond.methodLink RX4 18 yX4_has ∈ bigW := List.mem_filter.mpr ⟨List.mem_append_right _ (List.mem_append_right _ (List.mem_append_left _ (List.mem_of_getElem? (i := 6) rfl))), rfl⟩
theorem ki_X4_has : Cond.instanceMethod yX4_has ∈ bigW := List.mem_filter.mpr ⟨List.mem_append_right _ (List.mem_append_right _ (List.mem_append_left _ (List.mem_of_getElem? (i := 7) rfl))), rfl⟩
theorem kv_X4_has : Cond.selects RX4 yX4_has yX4_has ∈ bigW := List.mem_filter.mpr ⟨List.mem_append_right _ (List.mem_append_right _ (List.mem_append_left _ (List.mem_of_getElem? (i := 8) rfl))), rfl⟩
theorem kc_X4_has : Cond.code yX4_has cX4_has 2 (some .boolean) ∈ bigW := List.mem_filter.mpr ⟨List.mem_append_right _ (List.mem_append_right _ (List.mem_append_left _ (List.mem_of_getElem? (i := 9) rfl))), rfl⟩
theorem km_X7_83 : Cond.methodLink RX7 83 yX1_row ∈ bigW := List.mem_filter.mpr ⟨List.mem_append_right _ (List.mem_append_right _ (List.mem_append_left _ (List.mem_of_getElem? (i := 10) rfl))), rfl⟩
theorem km_X7_92 : Cond.methodLink RX7 92 yX3_turned ∈ bigW := List.mem_filter.mpr ⟨List.mem_append_right _ (List.mem_append_right _ (List.mem_append_left _ (List.mem_of_getElem? (i := 11) rfl))), rfl⟩
theorem ks_X3_turned : Cond.static yX3_turned ∈ bigW := List.mem_filter.mpr ⟨List.mem_append_right _ (List.mem_append_right _ (List.mem_append_left _ (List.mem_of_getElem? (i := 12) rfl))), rfl⟩
theorem kc_X3_turned : Cond.code yX3_turned cX3_turned 4 (some .int) ∈ bigW := List.mem_filter.mpr ⟨List.mem_append_right _ (List.mem_append_right _ (List.mem_append_left _ (List.mem_of_getElem? (i := 13) rfl))), rfl⟩
theorem km_X3_9 : Cond.methodLink RX3 9 yX3_at ∈ bigW := List.mem_filter.mpr ⟨List.mem_append_right _ (List.mem_append_right _ (List.mem_append_left _ (List.mem_of_getElem? (i := 14) rfl))), rfl⟩
theorem ks_X3_at : Cond.static yX3_at ∈ bigW := List.mem_filter.mpr ⟨List.mem_append_right _ (List.mem_append_right _ (List.mem_append_left _ (List.mem_of_getElem? (i := 15) rfl))), rfl⟩
theorem kc_X3_at : Cond.code yX3_at cX3_at 2 (some .int) ∈ bigW := List.mem_filter.mpr ⟨List.mem_append_right _ (List.mem_append_right _ (List.mem_append_left _ (List.mem_of_getElem? (i := 16) rfl))), rfl⟩
theorem km_X7_101 : Cond.methodLink RX7 101 yX3_freeStones ∈ bigW := List.mem_filter.mpr ⟨List.mem_append_right _ (List.mem_append_right _ (List.mem_append_left _ (List.mem_of_getElem? (i := 17) rfl))), rfl⟩
theorem ks_X3_freeStones : Cond.static yX3_freeStones ∈ bigW := List.mem_filter.mpr ⟨List.mem_append_right _ (List.mem_append_right _ (List.mem_append_left _ (List.mem_of_getElem? (i := 18) rfl))), rfl⟩
theorem kc_X3_freeStones : Cond.code yX3_freeStones cX3_freeStones 4 (some .int) ∈ bigW := List.mem_filter.mpr ⟨List.mem_append_right _ (List.mem_append_right _ (List.mem_append_left _ (List.mem_of_getElem? (i := 19) rfl))), rfl⟩
theorem km_X7_107 : Cond.methodLink RX7 107 yX3_numbered ∈ bigW := List.mem_filter.mpr ⟨List.mem_append_right _ (List.mem_append_right _ (List.mem_append_left _ (List.mem_of_getElem? (i := 20) rfl))), rfl⟩
theorem ks_X3_numbered : Cond.static yX3_numbered ∈ bigW := List.mem_filter.mpr ⟨List.mem_append_right _ (List.mem_append_right _ (List.mem_append_left _ (List.mem_of_getElem? (i := 21) rfl))), rfl⟩
theorem kc_X3_numbered : Cond.code yX3_numbered cX3_numbered 4 (some .int) ∈ bigW := List.mem_filter.mpr ⟨List.mem_append_right _ (List.mem_append_right _ (List.mem_append_left _ (List.mem_of_getElem? (i := 22) rfl))), rfl⟩
theorem km_X7_111 : Cond.methodLink RX7 111 yX2_begin ∈ bigW := List.mem_filter.mpr ⟨List.mem_append_right _ (List.mem_append_right _ (List.mem_append_left _ (List.mem_of_getElem? (i := 23) rfl))), rfl⟩
theorem ki_X2_begin : Cond.instanceMethod yX2_begin ∈ bigW := List.mem_filter.mpr ⟨List.mem_append_right _ (List.mem_append_right _ (List.mem_append_left _ (List.mem_of_getElem? (i := 24) rfl))), rfl⟩
theorem kv_X2_begin : Cond.selects RX2 yX2_begin yX2_begin ∈ bigW := List.mem_filter.mpr ⟨List.mem_append_right _ (List.mem_append_right _ (List.mem_append_left _ (List.mem_of_getElem? (i := 25) rfl))), rfl⟩
theorem kc_X2_begin : Cond.code yX2_begin cX2_begin 3 none ∈ bigW := List.mem_filter.mpr ⟨List.mem_append_right _ (List.mem_append_right _ (List.mem_append_left _ (List.mem_of_getElem? (i := 26) rfl))), rfl⟩
theorem km_X7_114 : Cond.methodLink RX7 114 yX5_spread ∈ bigW := List.mem_filter.mpr ⟨List.mem_append_right _ (List.mem_append_right _ (List.mem_append_left _ (List.mem_of_getElem? (i := 27) rfl))), rfl⟩
theorem ki_X5_spread : Cond.instanceMethod yX5_spread ∈ bigW := List.mem_filter.mpr ⟨List.mem_append_right _ (List.mem_append_right _ (List.mem_append_left _ (List.mem_of_getElem? (i := 28) rfl))), rfl⟩
theorem kv_X5_spread : Cond.selects RX5 yX5_spread yX5_spread ∈ bigW := List.mem_filter.mpr ⟨List.mem_append_right _ (List.mem_append_right _ (List.mem_append_left _ (List.mem_of_getElem? (i := 29) rfl))), rfl⟩
theorem kc_X5_spread : Cond.code yX5_spread cX5_spread 10 (some .int) ∈ bigW := List.mem_filter.mpr ⟨List.mem_append_right _ (List.mem_append_right _ (List.mem_append_left _ (List.mem_of_getElem? (i := 30) rfl))), rfl⟩
theorem km_X5_25 : Cond.methodLink RX5 25 yX6_clear ∈ bigW := List.mem_filter.mpr ⟨List.mem_append_right _ (List.mem_append_right _ (List.mem_append_left _ (List.mem_of_getElem? (i := 31) rfl))), rfl⟩
theorem ki_X6_clear : Cond.instanceMethod yX6_clear ∈ bigW := List.mem_filter.mpr ⟨List.mem_append_right _ (List.mem_append_right _ (List.mem_append_left _ (List.mem_of_getElem? (i := 32) rfl))), rfl⟩
theorem kv_X6_clear : Cond.selects RX6 yX6_clear yX6_clear ∈ bigW := List.mem_filter.mpr ⟨List.mem_append_right _ (List.mem_append_right _ (List.mem_append_left _ (List.mem_of_getElem? (i := 33) rfl))), rfl⟩
theorem kc_X6_clear : Cond.code yX6_clear cX6_clear 1 none ∈ bigW := List.mem_filter.mpr ⟨List.mem_append_right _ (List.mem_append_right _ (List.mem_append_left _ (List.mem_of_getElem? (i := 34) rfl))), rfl⟩
theorem km_X6_18 : Cond.methodLink RX6 18 yJ7_fill_53178 ∈ bigW := List.mem_filter.mpr ⟨List.mem_append_right _ (List.mem_append_right _ (List.mem_append_left _ (List.mem_of_getElem? (i := 35) rfl))), rfl⟩
theorem ks_J7_fill_53178 : Cond.static yJ7_fill_53178 ∈ bigW := List.mem_filter.mpr ⟨List.mem_append_right _ (List.mem_append_right _ (List.mem_append_left _ (List.mem_of_getElem? (i := 36) rfl))), rfl⟩
theorem kc_J7_fill_53178 : Cond.code yJ7_fill_53178 cJ7_fill_53178 4 none ∈ bigW := List.mem_filter.mpr ⟨List.mem_append_right _ (List.mem_append_right _ (List.mem_append_left _ (List.mem_of_getElem? (i := 37) rfl))), rfl⟩
theorem km_X5_35 : Cond.methodLink RX5 35 yX6_meet ∈ bigW := List.mem_filter.mpr ⟨List.mem_append_right _ (List.mem_append_right _ (List.mem_append_left _ (List.mem_of_getElem? (i := 38) rfl))), rfl⟩
theorem ki_X6_meet : Cond.instanceMethod yX6_meet ∈ bigW := List.mem_filter.mpr ⟨List.mem_append_right _ (List.mem_append_right _ (List.mem_append_left _ (List.mem_of_getElem? (i := 39) rfl))), rfl⟩
theorem kv_X6_meet : Cond.selects RX6 yX6_meet yX6_meet ∈ bigW := List.mem_filter.mpr ⟨List.mem_append_right _ (List.mem_append_right _ (List.mem_append_left _ (List.mem_of_getElem? (i := 40) rfl))), rfl⟩
theorem kc_X6_meet : Cond.code yX6_meet cX6_meet 3 (some .int) ∈ bigW := List.mem_filter.mpr ⟨List.mem_append_right _ (List.mem_append_right _ (List.mem_append_left _ (List.mem_of_getElem? (i := 41) rfl))), rfl⟩
theorem km_X6_28 : Cond.methodLink RX6 28 yX6_slotOf ∈ bigW := List.mem_filter.mpr ⟨List.mem_append_right _ (List.mem_append_right _ (List.mem_append_left _ (List.mem_of_getElem? (i := 42) rfl))), rfl⟩
theorem ki_X6_slotOf : Cond.instanceMethod yX6_slotOf ∈ bigW := List.mem_filter.mpr ⟨List.mem_append_right _ (List.mem_append_right _ (List.mem_append_left _ (List.mem_of_getElem? (i := 44) rfl))), rfl⟩
theorem kc_X6_slotOf : Cond.code yX6_slotOf cX6_slotOf 5 (some .int) ∈ bigW := List.mem_filter.mpr ⟨List.mem_append_right _ (List.mem_append_right _ (List.mem_append_left _ (List.mem_of_getElem? (i := 45) rfl))), rfl⟩
theorem kk_X6_32 : Cond.constant RX6 32 (-1640531535) ∈ bigW := List.mem_filter.mpr ⟨List.mem_append_right _ (List.mem_append_right _ (List.mem_append_left _ (List.mem_of_getElem? (i := 46) rfl))), rfl⟩
theorem km_X5_45 : Cond.methodLink RX5 45 yX4_allMoves ∈ bigW := List.mem_filter.mpr ⟨List.mem_append_right _ (List.mem_append_right _ (List.mem_append_left _ (List.mem_of_getElem? (i := 47) rfl))), rfl⟩
theorem ki_X4_allMoves : Cond.instanceMethod yX4_allMoves ∈ bigW := List.mem_filter.mpr ⟨List.mem_append_right _ (List.mem_append_right _ (List.mem_append_left _ (List.mem_of_getElem? (i := 48) rfl))), rfl⟩
theorem kv_X4_allMoves : Cond.selects RX4 yX4_allMoves yX4_allMoves ∈ bigW := List.mem_filter.mpr ⟨List.mem_append_right _ (List.mem_append_right _ (List.mem_append_left _ (List.mem_of_getElem? (i := 49) rfl))), rfl⟩
theorem kc_X4_allMoves : Cond.code yX4_allMoves cX4_allMoves 6 (some .long) ∈ bigW := List.mem_filter.mpr ⟨List.mem_append_right _ (List.mem_append_right _ (List.mem_append_left _ (List.mem_of_getElem? (i := 50) rfl))), rfl⟩
theorem km_X4_35 : Cond.methodLink RX4 35 yX4_targets ∈ bigW := List.mem_filter.mpr ⟨List.mem_append_right _ (List.mem_append_right _ (List.mem_append_left _ (List.mem_of_getElem? (i := 51) rfl))), rfl⟩
theorem ki_X4_targets : Cond.instanceMethod yX4_targets ∈ bigW := List.mem_filter.mpr ⟨List.mem_append_right _ (List.mem_append_right _ (List.mem_append_left _ (List.mem_of_getElem? (i := 53) rfl))), rfl⟩
theorem kc_X4_targets : Cond.code yX4_targets cX4_targets 7 (some .int) ∈ bigW := List.mem_filter.mpr ⟨List.mem_append_right _ (List.mem_append_right _ (List.mem_append_left _ (List.mem_of_getElem? (i := 54) rfl))), rfl⟩
theorem km_X4_39 : Cond.methodLink RX4 39 yX3_at ∈ bigW := List.mem_filter.mpr ⟨List.mem_append_right _ (List.mem_append_right _ (List.mem_append_left _ (List.mem_of_getElem? (i := 55) rfl))), rfl⟩
theorem km_X4_45 : Cond.methodLink RX4 45 yX4_landing ∈ bigW := List.mem_filter.mpr ⟨List.mem_append_right _ (List.mem_append_right _ (List.mem_append_left _ (List.mem_of_getElem? (i := 56) rfl))), rfl⟩
theorem ki_X4_landing : Cond.instanceMethod yX4_landing ∈ bigW := List.mem_filter.mpr ⟨List.mem_append_right _ (List.mem_append_right _ (List.mem_append_left _ (List.mem_of_getElem? (i := 58) rfl))), rfl⟩
theorem kc_X4_landing : Cond.code yX4_landing cX4_landing 9 (some .int) ∈ bigW := List.mem_filter.mpr ⟨List.mem_append_right _ (List.mem_append_right _ (List.mem_append_left _ (List.mem_of_getElem? (i := 59) rfl))), rfl⟩
theorem km_X4_48 : Cond.methodLink RX4 48 yX4_beside ∈ bigW := List.mem_filter.mpr ⟨List.mem_append_right _ (List.mem_append_right _ (List.mem_append_left _ (List.mem_of_getElem? (i := 60) rfl))), rfl⟩
theorem ki_X4_beside : Cond.instanceMethod yX4_beside ∈ bigW := List.mem_filter.mpr ⟨List.mem_append_right _ (List.mem_append_right _ (List.mem_append_left _ (List.mem_of_getElem? (i := 62) rfl))), rfl⟩
theorem kc_X4_beside : Cond.code yX4_beside cX4_beside 4 (some .int) ∈ bigW := List.mem_filter.mpr ⟨List.mem_append_right _ (List.mem_append_right _ (List.mem_append_left _ (List.mem_of_getElem? (i := 63) rfl))), rfl⟩
theorem km_X4_51 : Cond.methodLink RX4 51 yX4_leapsOver ∈ bigW := List.mem_filter.mpr ⟨List.mem_append_right _ (List.mem_append_right _ (List.mem_append_left _ (List.mem_of_getElem? (i := 64) rfl))), rfl⟩
theorem ki_X4_leapsOver : Cond.instanceMethod yX4_leapsOver ∈ bigW := List.mem_filter.mpr ⟨List.mem_append_right _ (List.mem_append_right _ (List.mem_append_left _ (List.mem_of_getElem? (i := 66) rfl))), rfl⟩
theorem kc_X4_leapsOver : Cond.code yX4_leapsOver cX4_leapsOver 3 (some .boolean) ∈ bigW := List.mem_filter.mpr ⟨List.mem_append_right _ (List.mem_append_right _ (List.mem_append_left _ (List.mem_of_getElem? (i := 67) rfl))), rfl⟩
theorem km_X5_51 : Cond.methodLink RX5 51 yX5_noteStuck ∈ bigW := List.mem_filter.mpr ⟨List.mem_append_right _ (List.mem_append_right _ (List.mem_append_left _ (List.mem_of_getElem? (i := 68) rfl))), rfl⟩
theorem ki_X5_noteStuck : Cond.instanceMethod yX5_noteStuck ∈ bigW := List.mem_filter.mpr ⟨List.mem_append_right _ (List.mem_append_right _ (List.mem_append_left _ (List.mem_of_getElem? (i := 70) rfl))), rfl⟩
theorem kc_X5_noteStuck : Cond.code yX5_noteStuck cX5_noteStuck 2 none ∈ bigW := List.mem_filter.mpr ⟨List.mem_append_right _ (List.mem_append_right _ (List.mem_append_left _ (List.mem_of_getElem? (i := 71) rfl))), rfl⟩
theorem km_X5_55 : Cond.methodLink RX5 55 yX5_goOn ∈ bigW := List.mem_filter.mpr ⟨List.mem_append_right _ (List.mem_append_right _ (List.mem_append_left _ (List.mem_of_getElem? (i := 72) rfl))), rfl⟩
theorem ki_X5_goOn : Cond.instanceMethod yX5_goOn ∈ bigW := List.mem_filter.mpr ⟨List.mem_append_right _ (List.mem_append_right _ (List.mem_append_left _ (List.mem_of_getElem? (i := 74) rfl))), rfl⟩
theorem kc_X5_goOn : Cond.code yX5_goOn cX5_goOn 12 none ∈ bigW := List.mem_filter.mpr ⟨List.mem_append_right _ (List.mem_append_right _ (List.mem_append_left _ (List.mem_of_getElem? (i := 75) rfl))), rfl⟩
theorem km_X5_59 : Cond.methodLink RX5 59 yJ13_bitCount_95d88 ∈ bigW := List.mem_filter.mpr ⟨List.mem_append_right _ (List.mem_append_right _ (List.mem_append_left _ (List.mem_of_getElem? (i := 76) rfl))), rfl⟩
theorem ks_J13_bitCount_95d88 : Cond.static yJ13_bitCount_95d88 ∈ bigW := List.mem_filter.mpr ⟨List.mem_append_right _ (List.mem_append_right _ (List.mem_append_left _ (List.mem_of_getElem? (i := 77) rfl))), rfl⟩
theorem kc_J13_bitCount_95d88 : Cond.code yJ13_bitCount_95d88 cJ13_bitCount_95d88 2 (some .int) ∈ bigW := List.mem_filter.mpr ⟨List.mem_append_right _ (List.mem_append_right _ (List.mem_append_left _ (List.mem_of_getElem? (i := 78) rfl))), rfl⟩
theorem kk_J13_314 : Cond.constantLong RJ13 314 (6148914691236517205) ∈ bigW := List.mem_filter.mpr ⟨List.mem_append_right _ (List.mem_append_right _ (List.mem_append_left _ (List.mem_of_getElem? (i := 79) rfl))), rfl⟩
theorem kk_J13_316 : Cond.constantLong RJ13 316 (3689348814741910323) ∈ bigW := List.mem_filter.mpr ⟨List.mem_append_right _ (List.mem_append_right _ (List.mem_append_left _ (List.mem_of_getElem? (i := 80) rfl))), rfl⟩
theorem kk_J13_318 : Cond.constantLong RJ13 318 (1085102592571150095) ∈ bigW := List.mem_filter.mpr ⟨List.mem_append_right _ (List.mem_append_right _ (List.mem_append_left _ (List.mem_of_getElem? (i := 81) rfl))), rfl⟩
theorem km_X5_65 : Cond.methodLink RX5 65 yX3_lowestMove ∈ bigW := List.mem_filter.mpr ⟨List.mem_append_right _ (List.mem_append_right _ (List.mem_append_left _ (List.mem_of_getElem? (i := 82) rfl))), rfl⟩
theorem ks_X3_lowestMove : Cond.static yX3_lowestMove ∈ bigW := List.mem_filter.mpr ⟨List.mem_append_right _ (List.mem_append_right _ (List.mem_append_left _ (List.mem_of_getElem? (i := 83) rfl))), rfl⟩
theorem kc_X3_lowestMove : Cond.code yX3_lowestMove cX3_lowestMove 2 (some .int) ∈ bigW := List.mem_filter.mpr ⟨List.mem_append_right _ (List.mem_append_right _ (List.mem_append_left _ (List.mem_of_getElem? (i := 84) rfl))), rfl⟩
theorem km_X3_15 : Cond.methodLink RX3 15 yJ13_bitCount_95d88 ∈ bigW := List.mem_filter.mpr ⟨List.mem_append_right _ (List.mem_append_right _ (List.mem_append_left _ (List.mem_of_getElem? (i := 85) rfl))), rfl⟩
theorem km_X5_70 : Cond.methodLink RX5 70 yX3_moved ∈ bigW := List.mem_filter.mpr ⟨List.mem_append_right _ (List.mem_append_right _ (List.mem_append_left _ (List.mem_of_getElem? (i := 86) rfl))), rfl⟩
theorem ks_X3_moved : Cond.static yX3_moved ∈ bigW := List.mem_filter.mpr ⟨List.mem_append_right _ (List.mem_append_right _ (List.mem_append_left _ (List.mem_of_getElem? (i := 87) rfl))), rfl⟩
theorem kc_X3_moved : Cond.code yX3_moved cX3_moved 5 (some .int) ∈ bigW := List.mem_filter.mpr ⟨List.mem_append_right _ (List.mem_append_right _ (List.mem_append_left _ (List.mem_of_getElem? (i := 88) rfl))), rfl⟩
theorem km_X7_118 : Cond.methodLink RX7 118 yX0_forget ∈ bigW := List.mem_filter.mpr ⟨List.mem_append_right _ (List.mem_append_right _ (List.mem_append_left _ (List.mem_of_getElem? (i := 89) rfl))), rfl⟩
theorem ki_X0_forget : Cond.instanceMethod yX0_forget ∈ bigW := List.mem_filter.mpr ⟨List.mem_append_right _ (List.mem_append_right _ (List.mem_append_left _ (List.mem_of_getElem? (i := 90) rfl))), rfl⟩
theorem kv_X0_forget : Cond.selects RX0 yX0_forget yX0_forget ∈ bigW := List.mem_filter.mpr ⟨List.mem_append_right _ (List.mem_append_right _ (List.mem_append_left _ (List.mem_of_getElem? (i := 91) rfl))), rfl⟩
theorem kc_X0_forget : Cond.code yX0_forget cX0_forget 1 none ∈ bigW := List.mem_filter.mpr ⟨List.mem_append_right _ (List.mem_append_right _ (List.mem_append_left _ (List.mem_of_getElem? (i := 92) rfl))), rfl⟩
theorem km_X0_22 : Cond.methodLink RX0 22 yX6_clear ∈ bigW := List.mem_filter.mpr ⟨List.mem_append_right _ (List.mem_append_right _ (List.mem_append_left _ (List.mem_of_getElem? (i := 93) rfl))), rfl⟩
theorem km_X0_25 : Cond.methodLink RX0 25 yJ7_fill_53178 ∈ bigW := List.mem_filter.mpr ⟨List.mem_append_right _ (List.mem_append_right _ (List.mem_append_left _ (List.mem_of_getElem? (i := 94) rfl))), rfl⟩
theorem km_L_33 : Cond.methodLink RL 33 yX7_on ∈ bigW := List.mem_filter.mpr ⟨List.mem_append_right _ (List.mem_append_right _ (List.mem_append_left _ (List.mem_of_getElem? (i := 95) rfl))), rfl⟩
theorem ki_X7_on : Cond.instanceMethod yX7_on ∈ bigW := List.mem_filter.mpr ⟨List.mem_append_right _ (List.mem_append_right _ (List.mem_append_left _ (List.mem_of_getElem? (i := 96) rfl))), rfl⟩
theorem kv_X7_on : Cond.selects RX7 yX7_on yX7_on ∈ bigW := List.mem_filter.mpr ⟨List.mem_append_right _ (List.mem_append_right _ (List.mem_append_left _ (List.mem_of_getElem? (i := 97) rfl))), rfl⟩
theorem kc_X7_on : Cond.code yX7_on cX7_on 3 (some .int) ∈ bigW := List.mem_filter.mpr ⟨List.mem_append_right _ (List.mem_append_right _ (List.mem_append_left _ (List.mem_of_getElem? (i := 98) rfl))), rfl⟩
theorem km_X7_128 : Cond.methodLink RX7 128 yX7_isStone ∈ bigW := List.mem_filter.mpr ⟨List.mem_append_right _ (List.mem_append_right _ (List.mem_append_left _ (List.mem_of_getElem? (i := 99) rfl))), rfl⟩
theorem ki_X7_isStone : Cond.instanceMethod yX7_isStone ∈ bigW := List.mem_filter.mpr ⟨List.mem_append_right _ (List.mem_append_right _ (List.mem_append_left _ (List.mem_of_getElem? (i := 101) rfl))), rfl⟩
theorem kc_X7_isStone : Cond.code yX7_isStone cX7_isStone 2 (some .boolean) ∈ bigW := List.mem_filter.mpr ⟨List.mem_append_right _ (List.mem_append_right _ (List.mem_append_left _ (List.mem_of_getElem? (i := 102) rfl))), rfl⟩
theorem km_X7_134 : Cond.methodLink RX7 134 yX3_at ∈ bigW := List.mem_filter.mpr ⟨List.mem_append_right _ (List.mem_append_right _ (List.mem_append_left _ (List.mem_of_getElem? (i := 103) rfl))), rfl⟩
theorem km_L_38 : Cond.methodLink RL 38 yX7_frog ∈ bigW := List.mem_filter.mpr ⟨List.mem_append_right _ (List.mem_append_right _ (List.mem_append_left _ (List.mem_of_getElem? (i := 104) rfl))), rfl⟩
theorem ki_X7_frog : Cond.instanceMethod yX7_frog ∈ bigW := List.mem_filter.mpr ⟨List.mem_append_right _ (List.mem_append_right _ (List.mem_append_left _ (List.mem_of_getElem? (i := 105) rfl))), rfl⟩
theorem kv_X7_frog : Cond.selects RX7 yX7_frog yX7_frog ∈ bigW := List.mem_filter.mpr ⟨List.mem_append_right _ (List.mem_append_right _ (List.mem_append_left _ (List.mem_of_getElem? (i := 106) rfl))), rfl⟩
theorem kc_X7_frog : Cond.code yX7_frog cX7_frog 2 (some .int) ∈ bigW := List.mem_filter.mpr ⟨List.mem_append_right _ (List.mem_append_right _ (List.mem_append_left _ (List.mem_of_getElem? (i := 107) rfl))), rfl⟩
theorem km_L_42 : Cond.methodLink RL 42 yX7_about ∈ bigW := List.mem_filter.mpr ⟨List.mem_append_right _ (List.mem_append_right _ (List.mem_append_left _ (List.mem_of_getElem? (i := 108) rfl))), rfl⟩
theorem ki_X7_about : Cond.instanceMethod yX7_about ∈ bigW := List.mem_filter.mpr ⟨List.mem_append_right _ (List.mem_append_right _ (List.mem_append_left _ (List.mem_of_getElem? (i := 109) rfl))), rfl⟩
theorem kv_X7_about : Cond.selects RX7 yX7_about yX7_about ∈ bigW := List.mem_filter.mpr ⟨List.mem_append_right _ (List.mem_append_right _ (List.mem_append_left _ (List.mem_of_getElem? (i := 110) rfl))), rfl⟩
theorem kc_X7_about : Cond.code yX7_about cX7_about 3 (some .int) ∈ bigW := List.mem_filter.mpr ⟨List.mem_append_right _ (List.mem_append_right _ (List.mem_append_left _ (List.mem_of_getElem? (i := 111) rfl))), rfl⟩
theorem km_X7_140 : Cond.methodLink RX7 140 yX7_isFrog ∈ bigW := List.mem_filter.mpr ⟨List.mem_append_right _ (List.mem_append_right _ (List.mem_append_left _ (List.mem_of_getElem? (i := 112) rfl))), rfl⟩
theorem ki_X7_isFrog : Cond.instanceMethod yX7_isFrog ∈ bigW := List.mem_filter.mpr ⟨List.mem_append_right _ (List.mem_append_right _ (List.mem_append_left _ (List.mem_of_getElem? (i := 114) rfl))), rfl⟩
theorem kc_X7_isFrog : Cond.code yX7_isFrog cX7_isFrog 2 (some .boolean) ∈ bigW := List.mem_filter.mpr ⟨List.mem_append_right _ (List.mem_append_right _ (List.mem_append_left _ (List.mem_of_getElem? (i := 115) rfl))), rfl⟩
theorem km_X7_143 : Cond.methodLink RX7 143 yX7_kindOfFrog ∈ bigW := List.mem_filter.mpr ⟨List.mem_append_right _ (List.mem_append_right _ (List.mem_append_left _ (List.mem_of_getElem? (i := 116) rfl))), rfl⟩
theorem ki_X7_kindOfFrog : Cond.instanceMethod yX7_kindOfFrog ∈ bigW := List.mem_filter.mpr ⟨List.mem_append_right _ (List.mem_append_right _ (List.mem_append_left _ (List.mem_of_getElem? (i := 118) rfl))), rfl⟩
theorem kc_X7_kindOfFrog : Cond.code yX7_kindOfFrog cX7_kindOfFrog 2 (some .int) ∈ bigW := List.mem_filter.mpr ⟨List.mem_append_right _ (List.mem_append_right _ (List.mem_append_left _ (List.mem_of_getElem? (i := 119) rfl))), rfl⟩
theorem km_X7_146 : Cond.methodLink RX7 146 yX2_stoneOf ∈ bigW := List.mem_filter.mpr ⟨List.mem_append_right _ (List.mem_append_right _ (List.mem_append_left _ (List.mem_of_getElem? (i := 120) rfl))), rfl⟩
theorem ki_X2_stoneOf : Cond.instanceMethod yX2_stoneOf ∈ bigW := List.mem_filter.mpr ⟨List.mem_append_right _ (List.mem_append_right _ (List.mem_append_left _ (List.mem_of_getElem? (i := 121) rfl))), rfl⟩
theorem kv_X2_stoneOf : Cond.selects RX2 yX2_stoneOf yX2_stoneOf ∈ bigW := List.mem_filter.mpr ⟨List.mem_append_right _ (List.mem_append_right _ (List.mem_append_left _ (List.mem_of_getElem? (i := 122) rfl))), rfl⟩
theorem kc_X2_stoneOf : Cond.code yX2_stoneOf cX2_stoneOf 3 (some .int) ∈ bigW := List.mem_filter.mpr ⟨List.mem_append_right _ (List.mem_append_right _ (List.mem_append_left _ (List.mem_of_getElem? (i := 123) rfl))), rfl⟩
theorem km_X2_28 : Cond.methodLink RX2 28 yX3_at ∈ bigW := List.mem_filter.mpr ⟨List.mem_append_right _ (List.mem_append_right _ (List.mem_append_left _ (List.mem_of_getElem? (i := 124) rfl))), rfl⟩
theorem km_X7_149 : Cond.methodLink RX7 149 yX2_timesMoved ∈ bigW := List.mem_filter.mpr ⟨List.mem_append_right _ (List.mem_append_right _ (List.mem_append_left _ (List.mem_of_getElem? (i := 125) rfl))), rfl⟩
theorem ki_X2_timesMoved : Cond.instanceMethod yX2_timesMoved ∈ bigW := List.mem_filter.mpr ⟨List.mem_append_right _ (List.mem_append_right _ (List.mem_append_left _ (List.mem_of_getElem? (i := 126) rfl))), rfl⟩
theorem kv_X2_timesMoved : Cond.selects RX2 yX2_timesMoved yX2_timesMoved ∈ bigW := List.mem_filter.mpr ⟨List.mem_append_right _ (List.mem_append_right _ (List.mem_append_left _ (List.mem_of_getElem? (i := 127) rfl))), rfl⟩
theorem kc_X2_timesMoved : Cond.code yX2_timesMoved cX2_timesMoved 4 (some .int) ∈ bigW := List.mem_filter.mpr ⟨List.mem_append_right _ (List.mem_append_right _ (List.mem_append_left _ (List.mem_of_getElem? (i := 128) rfl))), rfl⟩
theorem km_L_47 : Cond.methodLink RL 47 yX7_as ∈ bigW := List.mem_filter.mpr ⟨List.mem_append_right _ (List.mem_append_right _ (List.mem_append_left _ (List.mem_of_getElem? (i := 129) rfl))), rfl⟩
theorem ki_X7_as : Cond.instanceMethod yX7_as ∈ bigW := List.mem_filter.mpr ⟨List.mem_append_right _ (List.mem_append_right _ (List.mem_append_left _ (List.mem_of_getElem? (i := 130) rfl))), rfl⟩
theorem kv_X7_as : Cond.selects RX7 yX7_as yX7_as ∈ bigW := List.mem_filter.mpr ⟨List.mem_append_right _ (List.mem_append_right _ (List.mem_append_left _ (List.mem_of_getElem? (i := 131) rfl))), rfl⟩
theorem kc_X7_as : Cond.code yX7_as cX7_as 5 (some .int) ∈ bigW := List.mem_filter.mpr ⟨List.mem_append_right _ (List.mem_append_right _ (List.mem_append_left _ (List.mem_of_getElem? (i := 132) rfl))), rfl⟩
theorem km_L_51 : Cond.methodLink RL 51 yX7_may ∈ bigW := List.mem_filter.mpr ⟨List.mem_append_right _ (List.mem_append_right _ (List.mem_append_left _ (List.mem_of_getElem? (i := 133) rfl))), rfl⟩
theorem ki_X7_may : Cond.instanceMethod yX7_may ∈ bigW := List.mem_filter.mpr ⟨List.mem_append_right _ (List.mem_append_right _ (List.mem_append_left _ (List.mem_of_getElem? (i := 134) rfl))), rfl⟩
theorem kv_X7_may : Cond.selects RX7 yX7_may yX7_may ∈ bigW := List.mem_filter.mpr ⟨List.mem_append_right _ (List.mem_append_right _ (List.mem_append_left _ (List.mem_of_getElem? (i := 135) rfl))), rfl⟩
theorem kc_X7_may : Cond.code yX7_may cX7_may 3 (some .int) ∈ bigW := List.mem_filter.mpr ⟨List.mem_append_right _ (List.mem_append_right _ (List.mem_append_left _ (List.mem_of_getElem? (i := 136) rfl))), rfl⟩
theorem km_X7_152 : Cond.methodLink RX7 152 yX4_allows ∈ bigW := List.mem_filter.mpr ⟨List.mem_append_right _ (List.mem_append_right _ (List.mem_append_left _ (List.mem_of_getElem? (i := 137) rfl))), rfl⟩
theorem ki_X4_allows : Cond.instanceMethod yX4_allows ∈ bigW := List.mem_filter.mpr ⟨List.mem_append_right _ (List.mem_append_right _ (List.mem_append_left _ (List.mem_of_getElem? (i := 138) rfl))), rfl⟩
theorem kv_X4_allows : Cond.selects RX4 yX4_allows yX4_allows ∈ bigW := List.mem_filter.mpr ⟨List.mem_append_right _ (List.mem_append_right _ (List.mem_append_left _ (List.mem_of_getElem? (i := 139) rfl))), rfl⟩
theorem kc_X4_allows : Cond.code yX4_allows cX4_allows 4 (some .boolean) ∈ bigW := List.mem_filter.mpr ⟨List.mem_append_right _ (List.mem_append_right _ (List.mem_append_left _ (List.mem_of_getElem? (i := 140) rfl))), rfl⟩
theorem km_L_55 : Cond.methodLink RL 55 yX7_moves ∈ bigW := List.mem_filter.mpr ⟨List.mem_append_right _ (List.mem_append_right _ (List.mem_append_left _ (List.mem_of_getElem? (i := 141) rfl))), rfl⟩
theorem ki_X7_moves : Cond.instanceMethod yX7_moves ∈ bigW := List.mem_filter.mpr ⟨List.mem_append_right _ (List.mem_append_right _ (List.mem_append_left _ (List.mem_of_getElem? (i := 142) rfl))), rfl⟩
theorem kv_X7_moves : Cond.selects RX7 yX7_moves yX7_moves ∈ bigW := List.mem_filter.mpr ⟨List.mem_append_right _ (List.mem_append_right _ (List.mem_append_left _ (List.mem_of_getElem? (i := 143) rfl))), rfl⟩
theorem kc_X7_moves : Cond.code yX7_moves cX7_moves 1 (some .int) ∈ bigW := List.mem_filter.mpr ⟨List.mem_append_right _ (List.mem_append_right _ (List.mem_append_left _ (List.mem_of_getElem? (i := 144) rfl))), rfl⟩
theorem km_X7_156 : Cond.methodLink RX7 156 yX4_allMoves ∈ bigW := List.mem_filter.mpr ⟨List.mem_append_right _ (List.mem_append_right _ (List.mem_append_left _ (List.mem_of_getElem? (i := 145) rfl))), rfl⟩
theorem km_X7_160 : Cond.methodLink RX7 160 yJ13_bitCount_95d88 ∈ bigW := List.mem_filter.mpr ⟨List.mem_append_right _ (List.mem_append_right _ (List.mem_append_left _ (List.mem_of_getElem? (i := 146) rfl))), rfl⟩
theorem km_L_59 : Cond.methodLink RL 59 yX7_move ∈ bigW := List.mem_filter.mpr ⟨List.mem_append_right _ (List.mem_append_right _ (List.mem_append_left _ (List.mem_of_getElem? (i := 147) rfl))), rfl⟩
theorem ki_X7_move : Cond.instanceMethod yX7_move ∈ bigW := List.mem_filter.mpr ⟨List.mem_append_right _ (List.mem_append_right _ (List.mem_append_left _ (List.mem_of_getElem? (i := 148) rfl))), rfl⟩
theorem kv_X7_move : Cond.selects RX7 yX7_move yX7_move ∈ bigW := List.mem_filter.mpr ⟨List.mem_append_right _ (List.mem_append_right _ (List.mem_append_left _ (List.mem_of_getElem? (i := 149) rfl))), rfl⟩
theorem kc_X7_move : Cond.code yX7_move cX7_move 3 (some .int) ∈ bigW := List.mem_filter.mpr ⟨List.mem_append_right _ (List.mem_append_right _ (List.mem_append_left _ (List.mem_of_getElem? (i := 150) rfl))), rfl⟩
theorem km_X7_166 : Cond.methodLink RX7 166 yX2_go ∈ bigW := List.mem_filter.mpr ⟨List.mem_append_right _ (List.mem_append_right _ (List.mem_append_left _ (List.mem_of_getElem? (i := 151) rfl))), rfl⟩
theorem ki_X2_go : Cond.instanceMethod yX2_go ∈ bigW := List.mem_filter.mpr ⟨List.mem_append_right _ (List.mem_append_right _ (List.mem_append_left _ (List.mem_of_getElem? (i := 152) rfl))), rfl⟩
theorem kv_X2_go : Cond.selects RX2 yX2_go yX2_go ∈ bigW := List.mem_filter.mpr ⟨List.mem_append_right _ (List.mem_append_right _ (List.mem_append_left _ (List.mem_of_getElem? (i := 153) rfl))), rfl⟩
theorem kc_X2_go : Cond.code yX2_go cX2_go 4 none ∈ bigW := List.mem_filter.mpr ⟨List.mem_append_right _ (List.mem_append_right _ (List.mem_append_left _ (List.mem_of_getElem? (i := 154) rfl))), rfl⟩
theorem km_X2_34 : Cond.methodLink RX2 34 yX3_moved ∈ bigW := List.mem_filter.mpr ⟨List.mem_append_right _ (List.mem_append_right _ (List.mem_append_left _ (List.mem_of_getElem? (i := 155) rfl))), rfl⟩
theorem km_L_63 : Cond.methodLink RL 63 yX7_back ∈ bigW := List.mem_filter.mpr ⟨List.mem_append_right _ (List.mem_append_right _ (List.mem_append_left _ (List.mem_of_getElem? (i := 156) rfl))), rfl⟩
theorem ki_X7_back : Cond.instanceMethod yX7_back ∈ bigW := List.mem_filter.mpr ⟨List.mem_append_right _ (List.mem_append_right _ (List.mem_append_left _ (List.mem_of_getElem? (i := 157) rfl))), rfl⟩
theorem kv_X7_back : Cond.selects RX7 yX7_back yX7_back ∈ bigW := List.mem_filter.mpr ⟨List.mem_append_right _ (List.mem_append_right _ (List.mem_append_left _ (List.mem_of_getElem? (i := 158) rfl))), rfl⟩
theorem kc_X7_back : Cond.code yX7_back cX7_back 1 (some .int) ∈ bigW := List.mem_filter.mpr ⟨List.mem_append_right _ (List.mem_append_right _ (List.mem_append_left _ (List.mem_of_getElem? (i := 159) rfl))), rfl⟩
theorem km_X7_169 : Cond.methodLink RX7 169 yX2_takeBack ∈ bigW := List.mem_filter.mpr ⟨List.mem_append_right _ (List.mem_append_right _ (List.mem_append_left _ (List.mem_of_getElem? (i := 160) rfl))), rfl⟩
theorem ki_X2_takeBack : Cond.instanceMethod yX2_takeBack ∈ bigW := List.mem_filter.mpr ⟨List.mem_append_right _ (List.mem_append_right _ (List.mem_append_left _ (List.mem_of_getElem? (i := 161) rfl))), rfl⟩
theorem kv_X2_takeBack : Cond.selects RX2 yX2_takeBack yX2_takeBack ∈ bigW := List.mem_filter.mpr ⟨List.mem_append_right _ (List.mem_append_right _ (List.mem_append_left _ (List.mem_of_getElem? (i := 162) rfl))), rfl⟩
theorem kc_X2_takeBack : Cond.code yX2_takeBack cX2_takeBack 3 (some .int) ∈ bigW := List.mem_filter.mpr ⟨List.mem_append_right _ (List.mem_append_right _ (List.mem_append_left _ (List.mem_of_getElem? (i := 163) rfl))), rfl⟩
theorem km_L_67 : Cond.methodLink RL 67 yX7_fewest ∈ bigW := List.mem_filter.mpr ⟨List.mem_append_right _ (List.mem_append_right _ (List.mem_append_left _ (List.mem_of_getElem? (i := 164) rfl))), rfl⟩
theorem ki_X7_fewest : Cond.instanceMethod yX7_fewest ∈ bigW := List.mem_filter.mpr ⟨List.mem_append_right _ (List.mem_append_right _ (List.mem_append_left _ (List.mem_of_getElem? (i := 165) rfl))), rfl⟩
theorem kv_X7_fewest : Cond.selects RX7 yX7_fewest yX7_fewest ∈ bigW := List.mem_filter.mpr ⟨List.mem_append_right _ (List.mem_append_right _ (List.mem_append_left _ (List.mem_of_getElem? (i := 166) rfl))), rfl⟩
theorem kc_X7_fewest : Cond.code yX7_fewest cX7_fewest 2 (some .int) ∈ bigW := List.mem_filter.mpr ⟨List.mem_append_right _ (List.mem_append_right _ (List.mem_append_left _ (List.mem_of_getElem? (i := 167) rfl))), rfl⟩
theorem km_X7_172 : Cond.methodLink RX7 172 yX7_hasBrook ∈ bigW := List.mem_filter.mpr ⟨List.mem_append_right _ (List.mem_append_right _ (List.mem_append_left _ (List.mem_of_getElem? (i := 168) rfl))), rfl⟩
theorem ki_X7_hasBrook : Cond.instanceMethod yX7_hasBrook ∈ bigW := List.mem_filter.mpr ⟨List.mem_append_right _ (List.mem_append_right _ (List.mem_append_left _ (List.mem_of_getElem? (i := 170) rfl))), rfl⟩
theorem kc_X7_hasBrook : Cond.code yX7_hasBrook cX7_hasBrook 1 (some .boolean) ∈ bigW := List.mem_filter.mpr ⟨List.mem_append_right _ (List.mem_append_right _ (List.mem_append_left _ (List.mem_of_getElem? (i := 171) rfl))), rfl⟩
theorem km_X7_175 : Cond.methodLink RX7 175 yX5_depthOf ∈ bigW := List.mem_filter.mpr ⟨List.mem_append_right _ (List.mem_append_right _ (List.mem_append_left _ (List.mem_of_getElem? (i := 172) rfl))), rfl⟩
theorem ki_X5_depthOf : Cond.instanceMethod yX5_depthOf ∈ bigW := List.mem_filter.mpr ⟨List.mem_append_right _ (List.mem_append_right _ (List.mem_append_left _ (List.mem_of_getElem? (i := 173) rfl))), rfl⟩
theorem kv_X5_depthOf : Cond.selects RX5 yX5_depthOf yX5_depthOf ∈ bigW := List.mem_filter.mpr ⟨List.mem_append_right _ (List.mem_append_right _ (List.mem_append_left _ (List.mem_of_getElem? (i := 174) rfl))), rfl⟩
theorem kc_X5_depthOf : Cond.code yX5_depthOf cX5_depthOf 3 (some .int) ∈ bigW := List.mem_filter.mpr ⟨List.mem_append_right _ (List.mem_append_right _ (List.mem_append_left _ (List.mem_of_getElem? (i := 175) rfl))), rfl⟩
theorem km_X5_74 : Cond.methodLink RX5 74 yX6_find ∈ bigW := List.mem_filter.mpr ⟨List.mem_append_right _ (List.mem_append_right _ (List.mem_append_left _ (List.mem_of_getElem? (i := 176) rfl))), rfl⟩
theorem ki_X6_find : Cond.instanceMethod yX6_find ∈ bigW := List.mem_filter.mpr ⟨List.mem_append_right _ (List.mem_append_right _ (List.mem_append_left _ (List.mem_of_getElem? (i := 177) rfl))), rfl⟩
theorem kv_X6_find : Cond.selects RX6 yX6_find yX6_find ∈ bigW := List.mem_filter.mpr ⟨List.mem_append_right _ (List.mem_append_right _ (List.mem_append_left _ (List.mem_of_getElem? (i := 178) rfl))), rfl⟩
theorem kc_X6_find : Cond.code yX6_find cX6_find 2 (some .int) ∈ bigW := List.mem_filter.mpr ⟨List.mem_append_right _ (List.mem_append_right _ (List.mem_append_left _ (List.mem_of_getElem? (i := 179) rfl))), rfl⟩
theorem km_X7_178 : Cond.methodLink RX7 178 yX7_firstOfFewest ∈ bigW := List.mem_filter.mpr ⟨List.mem_append_right _ (List.mem_append_right _ (List.mem_append_left _ (List.mem_of_getElem? (i := 180) rfl))), rfl⟩
theorem ki_X7_firstOfFewest : Cond.instanceMethod yX7_firstOfFewest ∈ bigW := List.mem_filter.mpr ⟨List.mem_append_right _ (List.mem_append_right _ (List.mem_append_left _ (List.mem_of_getElem? (i := 182) rfl))), rfl⟩
theorem kc_X7_firstOfFewest : Cond.code yX7_firstOfFewest cX7_firstOfFewest 7 (some .int) ∈ bigW := List.mem_filter.mpr ⟨List.mem_append_right _ (List.mem_append_right _ (List.mem_append_left _ (List.mem_of_getElem? (i := 183) rfl))), rfl⟩
theorem km_X7_292 : Cond.methodLink RX7 292 yX3_lowestMove ∈ bigW := List.mem_filter.mpr ⟨List.mem_append_right _ (List.mem_append_right _ (List.mem_append_left _ (List.mem_of_getElem? (i := 184) rfl))), rfl⟩
theorem km_X7_235 : Cond.methodLink RX7 235 yX3_moved ∈ bigW := List.mem_filter.mpr ⟨List.mem_append_right _ (List.mem_append_right _ (List.mem_append_left _ (List.mem_of_getElem? (i := 185) rfl))), rfl⟩
theorem km_X7_181 : Cond.methodLink RX7 181 yX7_partOfMove ∈ bigW := List.mem_filter.mpr ⟨List.mem_append_right _ (List.mem_append_right _ (List.mem_append_left _ (List.mem_of_getElem? (i := 186) rfl))), rfl⟩
theorem ks_X7_partOfMove : Cond.static yX7_partOfMove ∈ bigW := List.mem_filter.mpr ⟨List.mem_append_right _ (List.mem_append_right _ (List.mem_append_left _ (List.mem_of_getElem? (i := 187) rfl))), rfl⟩
theorem kc_X7_partOfMove : Cond.code yX7_partOfMove cX7_partOfMove 2 (some .int) ∈ bigW := List.mem_filter.mpr ⟨List.mem_append_right _ (List.mem_append_right _ (List.mem_append_left _ (List.mem_of_getElem? (i := 188) rfl))), rfl⟩
theorem km_L_71 : Cond.methodLink RL 71 yX7_ways ∈ bigW := List.mem_filter.mpr ⟨List.mem_append_right _ (List.mem_append_right _ (List.mem_append_left _ (List.mem_of_getElem? (i := 189) rfl))), rfl⟩
theorem ki_X7_ways : Cond.instanceMethod yX7_ways ∈ bigW := List.mem_filter.mpr ⟨List.mem_append_right _ (List.mem_append_right _ (List.mem_append_left _ (List.mem_of_getElem? (i := 190) rfl))), rfl⟩
theorem kv_X7_ways : Cond.selects RX7 yX7_ways yX7_ways ∈ bigW := List.mem_filter.mpr ⟨List.mem_append_right _ (List.mem_append_right _ (List.mem_append_left _ (List.mem_of_getElem? (i := 191) rfl))), rfl⟩
theorem kc_X7_ways : Cond.code yX7_ways cX7_ways 1 (some .int) ∈ bigW := List.mem_filter.mpr ⟨List.mem_append_right _ (List.mem_append_right _ (List.mem_append_left _ (List.mem_of_getElem? (i := 192) rfl))), rfl⟩
theorem km_X7_184 : Cond.methodLink RX7 184 yX5_waysOf ∈ bigW := List.mem_filter.mpr ⟨List.mem_append_right _ (List.mem_append_right _ (List.mem_append_left _ (List.mem_of_getElem? (i := 193) rfl))), rfl⟩
theorem ki_X5_waysOf : Cond.instanceMethod yX5_waysOf ∈ bigW := List.mem_filter.mpr ⟨List.mem_append_right _ (List.mem_append_right _ (List.mem_append_left _ (List.mem_of_getElem? (i := 194) rfl))), rfl⟩
theorem kv_X5_waysOf : Cond.selects RX5 yX5_waysOf yX5_waysOf ∈ bigW := List.mem_filter.mpr ⟨List.mem_append_right _ (List.mem_append_right _ (List.mem_append_left _ (List.mem_of_getElem? (i := 195) rfl))), rfl⟩
theorem kc_X5_waysOf : Cond.code yX5_waysOf cX5_waysOf 3 (some .int) ∈ bigW := List.mem_filter.mpr ⟨List.mem_append_right _ (List.mem_append_right _ (List.mem_append_left _ (List.mem_of_getElem? (i := 196) rfl))), rfl⟩
theorem km_L_75 : Cond.methodLink RL 75 yX7_wrong ∈ bigW := List.mem_filter.mpr ⟨List.mem_append_right _ (List.mem_append_right _ (List.mem_append_left _ (List.mem_of_getElem? (i := 197) rfl))), rfl⟩
theorem ki_X7_wrong : Cond.instanceMethod yX7_wrong ∈ bigW := List.mem_filter.mpr ⟨List.mem_append_right _ (List.mem_append_right _ (List.mem_append_left _ (List.mem_of_getElem? (i := 198) rfl))), rfl⟩
theorem kv_X7_wrong : Cond.selects RX7 yX7_wrong yX7_wrong ∈ bigW := List.mem_filter.mpr ⟨List.mem_append_right _ (List.mem_append_right _ (List.mem_append_left _ (List.mem_of_getElem? (i := 199) rfl))), rfl⟩
theorem kc_X7_wrong : Cond.code yX7_wrong cX7_wrong 1 (some .int) ∈ bigW := List.mem_filter.mpr ⟨List.mem_append_right _ (List.mem_append_right _ (List.mem_append_left _ (List.mem_of_getElem? (i := 200) rfl))), rfl⟩
theorem km_X7_187 : Cond.methodLink RX7 187 yX7_firstWrong ∈ bigW := List.mem_filter.mpr ⟨List.mem_append_right _ (List.mem_append_right _ (List.mem_append_left _ (List.mem_of_getElem? (i := 201) rfl))), rfl⟩
theorem ki_X7_firstWrong : Cond.instanceMethod yX7_firstWrong ∈ bigW := List.mem_filter.mpr ⟨List.mem_append_right _ (List.mem_append_right _ (List.mem_append_left _ (List.mem_of_getElem? (i := 203) rfl))), rfl⟩
theorem kc_X7_firstWrong : Cond.code yX7_firstWrong cX7_firstWrong 3 (some .int) ∈ bigW := List.mem_filter.mpr ⟨List.mem_append_right _ (List.mem_append_right _ (List.mem_append_left _ (List.mem_of_getElem? (i := 204) rfl))), rfl⟩
theorem km_L_79 : Cond.methodLink RL 79 yX7_ends ∈ bigW := List.mem_filter.mpr ⟨List.mem_append_right _ (List.mem_append_right _ (List.mem_append_left _ (List.mem_of_getElem? (i := 205) rfl))), rfl⟩
theorem ki_X7_ends : Cond.instanceMethod yX7_ends ∈ bigW := List.mem_filter.mpr ⟨List.mem_append_right _ (List.mem_append_right _ (List.mem_append_left _ (List.mem_of_getElem? (i := 206) rfl))), rfl⟩
theorem kv_X7_ends : Cond.selects RX7 yX7_ends yX7_ends ∈ bigW := List.mem_filter.mpr ⟨List.mem_append_right _ (List.mem_append_right _ (List.mem_append_left _ (List.mem_of_getElem? (i := 207) rfl))), rfl⟩
theorem kc_X7_ends : Cond.code yX7_ends cX7_ends 1 (some .int) ∈ bigW := List.mem_filter.mpr ⟨List.mem_append_right _ (List.mem_append_right _ (List.mem_append_left _ (List.mem_of_getElem? (i := 208) rfl))), rfl⟩
theorem km_L_83 : Cond.methodLink RL 83 yX7_soon ∈ bigW := List.mem_filter.mpr ⟨List.mem_append_right _ (List.mem_append_right _ (List.mem_append_left _ (List.mem_of_getElem? (i := 209) rfl))), rfl⟩
theorem ki_X7_soon : Cond.instanceMethod yX7_soon ∈ bigW := List.mem_filter.mpr ⟨List.mem_append_right _ (List.mem_append_right _ (List.mem_append_left _ (List.mem_of_getElem? (i := 210) rfl))), rfl⟩
theorem kv_X7_soon : Cond.selects RX7 yX7_soon yX7_soon ∈ bigW := List.mem_filter.mpr ⟨List.mem_append_right _ (List.mem_append_right _ (List.mem_append_left _ (List.mem_of_getElem? (i := 211) rfl))), rfl⟩
theorem kc_X7_soon : Cond.code yX7_soon cX7_soon 1 (some .int) ∈ bigW := List.mem_filter.mpr ⟨List.mem_append_right _ (List.mem_append_right _ (List.mem_append_left _ (List.mem_of_getElem? (i := 212) rfl))), rfl⟩
theorem km_L_87 : Cond.methodLink RL 87 yX7_comes ∈ bigW := List.mem_filter.mpr ⟨List.mem_append_right _ (List.mem_append_right _ (List.mem_append_left _ (List.mem_of_getElem? (i := 213) rfl))), rfl⟩
theorem ki_X7_comes : Cond.instanceMethod yX7_comes ∈ bigW := List.mem_filter.mpr ⟨List.mem_append_right _ (List.mem_append_right _ (List.mem_append_left _ (List.mem_of_getElem? (i := 214) rfl))), rfl⟩
theorem kv_X7_comes : Cond.selects RX7 yX7_comes yX7_comes ∈ bigW := List.mem_filter.mpr ⟨List.mem_append_right _ (List.mem_append_right _ (List.mem_append_left _ (List.mem_of_getElem? (i := 215) rfl))), rfl⟩
theorem kc_X7_comes : Cond.code yX7_comes cX7_comes 1 (some .int) ∈ bigW := List.mem_filter.mpr ⟨List.mem_append_right _ (List.mem_append_right _ (List.mem_append_left _ (List.mem_of_getElem? (i := 216) rfl))), rfl⟩
theorem km_X7_196 : Cond.methodLink RX7 196 yX1_tellsRow ∈ bigW := List.mem_filter.mpr ⟨List.mem_append_right _ (List.mem_append_right _ (List.mem_append_left _ (List.mem_of_getElem? (i := 217) rfl))), rfl⟩
theorem ki_X1_tellsRow : Cond.instanceMethod yX1_tellsRow ∈ bigW := List.mem_filter.mpr ⟨List.mem_append_right _ (List.mem_append_right _ (List.mem_append_left _ (List.mem_of_getElem? (i := 218) rfl))), rfl⟩
theorem kv_X1_tellsRow : Cond.selects RX1 yX1_tellsRow yX1_tellsRow ∈ bigW := List.mem_filter.mpr ⟨List.mem_append_right _ (List.mem_append_right _ (List.mem_append_left _ (List.mem_of_getElem? (i := 219) rfl))), rfl⟩
theorem kc_X1_tellsRow : Cond.code yX1_tellsRow cX1_tellsRow 2 (some .boolean) ∈ bigW := List.mem_filter.mpr ⟨List.mem_append_right _ (List.mem_append_right _ (List.mem_append_left _ (List.mem_of_getElem? (i := 220) rfl))), rfl⟩
theorem km_L_91 : Cond.methodLink RL 91 yX7_more ∈ bigW := List.mem_filter.mpr ⟨List.mem_append_right _ (List.mem_append_right _ (List.mem_append_left _ (List.mem_of_getElem? (i := 221) rfl))), rfl⟩
theorem ki_X7_more : Cond.instanceMethod yX7_more ∈ bigW := List.mem_filter.mpr ⟨List.mem_append_right _ (List.mem_append_right _ (List.mem_append_left _ (List.mem_of_getElem? (i := 222) rfl))), rfl⟩
theorem kv_X7_more : Cond.selects RX7 yX7_more yX7_more ∈ bigW := List.mem_filter.mpr ⟨List.mem_append_right _ (List.mem_append_right _ (List.mem_append_left _ (List.mem_of_getElem? (i := 223) rfl))), rfl⟩
theorem kc_X7_more : Cond.code yX7_more cX7_more 6 (some .int) ∈ bigW := List.mem_filter.mpr ⟨List.mem_append_right _ (List.mem_append_right _ (List.mem_append_left _ (List.mem_of_getElem? (i := 224) rfl))), rfl⟩
theorem km_X7_201 : Cond.methodLink RX7 201 yX3_widened ∈ bigW := List.mem_filter.mpr ⟨List.mem_append_right _ (List.mem_append_right _ (List.mem_append_left _ (List.mem_of_getElem? (i := 225) rfl))), rfl⟩
theorem ks_X3_widened : Cond.static yX3_widened ∈ bigW := List.mem_filter.mpr ⟨List.mem_append_right _ (List.mem_append_right _ (List.mem_append_left _ (List.mem_of_getElem? (i := 226) rfl))), rfl⟩
theorem kc_X3_widened : Cond.code yX3_widened cX3_widened 3 (some .int) ∈ bigW := List.mem_filter.mpr ⟨List.mem_append_right _ (List.mem_append_right _ (List.mem_append_left _ (List.mem_of_getElem? (i := 227) rfl))), rfl⟩
theorem km_X7_204 : Cond.methodLink RX7 204 yX7_toTurnRound ∈ bigW := List.mem_filter.mpr ⟨List.mem_append_right _ (List.mem_append_right _ (List.mem_append_left _ (List.mem_of_getElem? (i := 228) rfl))), rfl⟩
theorem ki_X7_toTurnRound : Cond.instanceMethod yX7_toTurnRound ∈ bigW := List.mem_filter.mpr ⟨List.mem_append_right _ (List.mem_append_right _ (List.mem_append_left _ (List.mem_of_getElem? (i := 230) rfl))), rfl⟩
theorem kc_X7_toTurnRound : Cond.code yX7_toTurnRound cX7_toTurnRound 3 (some .int) ∈ bigW := List.mem_filter.mpr ⟨List.mem_append_right _ (List.mem_append_right _ (List.mem_append_left _ (List.mem_of_getElem? (i := 231) rfl))), rfl⟩
theorem km_X7_208 : Cond.methodLink RX7 208 yX7_isLess ∈ bigW := List.mem_filter.mpr ⟨List.mem_append_right _ (List.mem_append_right _ (List.mem_append_left _ (List.mem_of_getElem? (i := 232) rfl))), rfl⟩
theorem ks_X7_isLess : Cond.static yX7_isLess ∈ bigW := List.mem_filter.mpr ⟨List.mem_append_right _ (List.mem_append_right _ (List.mem_append_left _ (List.mem_of_getElem? (i := 233) rfl))), rfl⟩
theorem kc_X7_isLess : Cond.code yX7_isLess cX7_isLess 2 (some .boolean) ∈ bigW := List.mem_filter.mpr ⟨List.mem_append_right _ (List.mem_append_right _ (List.mem_append_left _ (List.mem_of_getElem? (i := 234) rfl))), rfl⟩
theorem km_L_95 : Cond.methodLink RL 95 yX7_off ∈ bigW := List.mem_filter.mpr ⟨List.mem_append_right _ (List.mem_append_right _ (List.mem_append_left _ (List.mem_of_getElem? (i := 235) rfl))), rfl⟩
theorem ki_X7_off : Cond.instanceMethod yX7_off ∈ bigW := List.mem_filter.mpr ⟨List.mem_append_right _ (List.mem_append_right _ (List.mem_append_left _ (List.mem_of_getElem? (i := 236) rfl))), rfl⟩
theorem kv_X7_off : Cond.selects RX7 yX7_off yX7_off ∈ bigW := List.mem_filter.mpr ⟨List.mem_append_right _ (List.mem_append_right _ (List.mem_append_left _ (List.mem_of_getElem? (i := 237) rfl))), rfl⟩
theorem kc_X7_off : Cond.code yX7_off cX7_off 8 (some .int) ∈ bigW := List.mem_filter.mpr ⟨List.mem_append_right _ (List.mem_append_right _ (List.mem_append_left _ (List.mem_of_getElem? (i := 238) rfl))), rfl⟩
theorem km_X7_212 : Cond.methodLink RX7 212 yX3_without ∈ bigW := List.mem_filter.mpr ⟨List.mem_append_right _ (List.mem_append_right _ (List.mem_append_left _ (List.mem_of_getElem? (i := 239) rfl))), rfl⟩
theorem ks_X3_without : Cond.static yX3_without ∈ bigW := List.mem_filter.mpr ⟨List.mem_append_right _ (List.mem_append_right _ (List.mem_append_right _ (List.mem_append_left _ (List.mem_of_getElem? (i := 0) rfl)))), rfl⟩
theorem kc_X3_without : Cond.code yX3_without cX3_without 2 (some .int) ∈ bigW := List.mem_filter.mpr ⟨List.mem_append_right _ (List.mem_append_right _ (List.mem_append_right _ (List.mem_append_left _ (List.mem_of_getElem? (i := 1) rfl)))), rfl⟩
theorem km_L_99 : Cond.methodLink RL 99 yX7_wins ∈ bigW := List.mem_filter.mpr ⟨List.mem_append_right _ (List.mem_append_right _ (List.mem_append_right _ (List.mem_append_left _ (List.mem_of_getElem? (i := 2) rfl)))), rfl⟩
theorem ki_X7_wins : Cond.instanceMethod yX7_wins ∈ bigW := List.mem_filter.mpr ⟨List.mem_append_right _ (List.mem_append_right _ (List.mem_append_right _ (List.mem_append_left _ (List.mem_of_getElem? (i := 3) rfl)))), rfl⟩
theorem kv_X7_wins : Cond.selects RX7 yX7_wins yX7_wins ∈ bigW := List.mem_filter.mpr ⟨List.mem_append_right _ (List.mem_append_right _ (List.mem_append_right _ (List.mem_append_left _ (List.mem_of_getElem? (i := 4) rfl)))), rfl⟩
theorem kc_X7_wins : Cond.code yX7_wins cX7_wins 2 (some .int) ∈ bigW := List.mem_filter.mpr ⟨List.mem_append_right _ (List.mem_append_right _ (List.mem_append_right _ (List.mem_append_left _ (List.mem_of_getElem? (i := 5) rfl)))), rfl⟩
theorem km_X7_215 : Cond.methodLink RX7 215 yX7_hasGame ∈ bigW := List.mem_filter.mpr ⟨List.mem_append_right _ (List.mem_append_right _ (List.mem_append_right _ (List.mem_append_left _ (List.mem_of_getElem? (i := 6) rfl)))), rfl⟩
theorem ki_X7_hasGame : Cond.instanceMethod yX7_hasGame ∈ bigW := List.mem_filter.mpr ⟨List.mem_append_right _ (List.mem_append_right _ (List.mem_append_right _ (List.mem_append_left _ (List.mem_of_getElem? (i := 8) rfl)))), rfl⟩
theorem kc_X7_hasGame : Cond.code yX7_hasGame cX7_hasGame 1 (some .boolean) ∈ bigW := List.mem_filter.mpr ⟨List.mem_append_right _ (List.mem_append_right _ (List.mem_append_right _ (List.mem_append_left _ (List.mem_of_getElem? (i := 9) rfl)))), rfl⟩
theorem ki_X0_hasIt : Cond.instanceMethod yX0_hasIt ∈ bigW := List.mem_filter.mpr ⟨List.mem_append_right _ (List.mem_append_right _ (List.mem_append_right _ (List.mem_append_left _ (List.mem_of_getElem? (i := 12) rfl)))), rfl⟩
theorem kc_X0_hasIt : Cond.code yX0_hasIt cX0_hasIt 8 (some .boolean) ∈ bigW := List.mem_filter.mpr ⟨List.mem_append_right _ (List.mem_append_right _ (List.mem_append_right _ (List.mem_append_left _ (List.mem_of_getElem? (i := 13) rfl)))), rfl⟩
theorem km_X0_31 : Cond.methodLink RX0 31 yX6_meet ∈ bigW := List.mem_filter.mpr ⟨List.mem_append_right _ (List.mem_append_right _ (List.mem_append_right _ (List.mem_append_left _ (List.mem_of_getElem? (i := 14) rfl)))), rfl⟩
theorem km_X0_35 : Cond.methodLink RX0 35 yX0_winningMove ∈ bigW := List.mem_filter.mpr ⟨List.mem_append_right _ (List.mem_append_right _ (List.mem_append_right _ (List.mem_append_left _ (List.mem_of_getElem? (i := 15) rfl)))), rfl⟩
theorem ki_X0_winningMove : Cond.instanceMethod yX0_winningMove ∈ bigW := List.mem_filter.mpr ⟨List.mem_append_right _ (List.mem_append_right _ (List.mem_append_right _ (List.mem_append_left _ (List.mem_of_getElem? (i := 17) rfl)))), rfl⟩
theorem kc_X0_winningMove : Cond.code yX0_winningMove cX0_winningMove 11 (some .int) ∈ bigW := List.mem_filter.mpr ⟨List.mem_append_right _ (List.mem_append_right _ (List.mem_append_right _ (List.mem_append_left _ (List.mem_of_getElem? (i := 18) rfl)))), rfl⟩
theorem km_X0_39 : Cond.methodLink RX0 39 yX4_allMoves ∈ bigW := List.mem_filter.mpr ⟨List.mem_append_right _ (List.mem_append_right _ (List.mem_append_right _ (List.mem_append_left _ (List.mem_of_getElem? (i := 19) rfl)))), rfl⟩
theorem km_X0_45 : Cond.methodLink RX0 45 yJ13_bitCount_95d88 ∈ bigW := List.mem_filter.mpr ⟨List.mem_append_right _ (List.mem_append_right _ (List.mem_append_right _ (List.mem_append_left _ (List.mem_of_getElem? (i := 20) rfl)))), rfl⟩
theorem km_X0_51 : Cond.methodLink RX0 51 yX3_lowestMove ∈ bigW := List.mem_filter.mpr ⟨List.mem_append_right _ (List.mem_append_right _ (List.mem_append_right _ (List.mem_append_left _ (List.mem_of_getElem? (i := 21) rfl)))), rfl⟩
theorem km_X0_56 : Cond.methodLink RX0 56 yX3_at ∈ bigW := List.mem_filter.mpr ⟨List.mem_append_right _ (List.mem_append_right _ (List.mem_append_right _ (List.mem_append_left _ (List.mem_of_getElem? (i := 22) rfl)))), rfl⟩
theorem km_X0_60 : Cond.methodLink RX0 60 yX3_moved ∈ bigW := List.mem_filter.mpr ⟨List.mem_append_right _ (List.mem_append_right _ (List.mem_append_right _ (List.mem_append_left _ (List.mem_of_getElem? (i := 23) rfl)))), rfl⟩
theorem km_X0_63 : Cond.methodLink RX0 63 yX0_hasIt ∈ bigW := List.mem_filter.mpr ⟨List.mem_append_right _ (List.mem_append_right _ (List.mem_append_right _ (List.mem_append_left _ (List.mem_of_getElem? (i := 24) rfl)))), rfl⟩
theorem km_L_103 : Cond.methodLink RL 103 yX7_by ∈ bigW := List.mem_filter.mpr ⟨List.mem_append_right _ (List.mem_append_right _ (List.mem_append_right _ (List.mem_append_left _ (List.mem_of_getElem? (i := 25) rfl)))), rfl⟩
theorem ki_X7_by : Cond.instanceMethod yX7_by ∈ bigW := List.mem_filter.mpr ⟨List.mem_append_right _ (List.mem_append_right _ (List.mem_append_right _ (List.mem_append_left _ (List.mem_of_getElem? (i := 26) rfl)))), rfl⟩
theorem kv_X7_by : Cond.selects RX7 yX7_by yX7_by ∈ bigW := List.mem_filter.mpr ⟨List.mem_append_right _ (List.mem_append_right _ (List.mem_append_right _ (List.mem_append_left _ (List.mem_of_getElem? (i := 27) rfl)))), rfl⟩
theorem kc_X7_by : Cond.code yX7_by cX7_by 3 (some .int) ∈ bigW := List.mem_filter.mpr ⟨List.mem_append_right _ (List.mem_append_right _ (List.mem_append_right _ (List.mem_append_left _ (List.mem_of_getElem? (i := 28) rfl)))), rfl⟩
theorem km_L_107 : Cond.methodLink RL 107 yX7_play ∈ bigW := List.mem_filter.mpr ⟨List.mem_append_right _ (List.mem_append_right _ (List.mem_append_right _ (List.mem_append_left _ (List.mem_of_getElem? (i := 30) rfl)))), rfl⟩
theorem ki_X7_play : Cond.instanceMethod yX7_play ∈ bigW := List.mem_filter.mpr ⟨List.mem_append_right _ (List.mem_append_right _ (List.mem_append_right _ (List.mem_append_left _ (List.mem_of_getElem? (i := 31) rfl)))), rfl⟩
theorem kv_X7_play : Cond.selects RX7 yX7_play yX7_play ∈ bigW := List.mem_filter.mpr ⟨List.mem_append_right _ (List.mem_append_right _ (List.mem_append_right _ (List.mem_append_left _ (List.mem_of_getElem? (i := 32) rfl)))), rfl⟩
theorem kc_X7_play : Cond.code yX7_play cX7_play 10 (some .int) ∈ bigW := List.mem_filter.mpr ⟨List.mem_append_right _ (List.mem_append_right _ (List.mem_append_right _ (List.mem_append_left _ (List.mem_of_getElem? (i := 33) rfl)))), rfl⟩
theorem km_X7_225 : Cond.methodLink RX7 225 yX7_seedAfter ∈ bigW := List.mem_filter.mpr ⟨List.mem_append_right _ (List.mem_append_right _ (List.mem_append_right _ (List.mem_append_left _ (List.mem_of_getElem? (i := 34) rfl)))), rfl⟩
theorem ks_X7_seedAfter : Cond.static yX7_seedAfter ∈ bigW := List.mem_filter.mpr ⟨List.mem_append_right _ (List.mem_append_right _ (List.mem_append_right _ (List.mem_append_left _ (List.mem_of_getElem? (i := 35) rfl)))), rfl⟩
theorem kc_X7_seedAfter : Cond.code yX7_seedAfter cX7_seedAfter 1 (some .int) ∈ bigW := List.mem_filter.mpr ⟨List.mem_append_right _ (List.mem_append_right _ (List.mem_append_right _ (List.mem_append_left _ (List.mem_of_getElem? (i := 36) rfl)))), rfl⟩
theorem kk_X7_298 : Cond.constantLong RX7 298 (1103515245) ∈ bigW := List.mem_filter.mpr ⟨List.mem_append_right _ (List.mem_append_right _ (List.mem_append_right _ (List.mem_append_left _ (List.mem_of_getElem? (i := 37) rfl)))), rfl⟩
theorem kk_X7_300 : Cond.constantLong RX7 300 (12345) ∈ bigW := List.mem_filter.mpr ⟨List.mem_append_right _ (List.mem_append_right _ (List.mem_append_right _ (List.mem_append_left _ (List.mem_of_getElem? (i := 38) rfl)))), rfl⟩
theorem kk_X7_302 : Cond.constantLong RX7 302 (2147483647) ∈ bigW := List.mem_filter.mpr ⟨List.mem_append_right _ (List.mem_append_right _ (List.mem_append_right _ (List.mem_append_left _ (List.mem_of_getElem? (i := 39) rfl)))), rfl⟩
theorem km_X7_228 : Cond.methodLink RX7 228 yX7_drawOf ∈ bigW := List.mem_filter.mpr ⟨List.mem_append_right _ (List.mem_append_right _ (List.mem_append_right _ (List.mem_append_left _ (List.mem_of_getElem? (i := 40) rfl)))), rfl⟩
theorem ks_X7_drawOf : Cond.static yX7_drawOf ∈ bigW := List.mem_filter.mpr ⟨List.mem_append_right _ (List.mem_append_right _ (List.mem_append_right _ (List.mem_append_left _ (List.mem_of_getElem? (i := 41) rfl)))), rfl⟩
theorem kc_X7_drawOf : Cond.code yX7_drawOf cX7_drawOf 2 (some .int) ∈ bigW := List.mem_filter.mpr ⟨List.mem_append_right _ (List.mem_append_right _ (List.mem_append_right _ (List.mem_append_left _ (List.mem_of_getElem? (i := 42) rfl)))), rfl⟩
theorem kk_X7_304 : Cond.constant RX7 304 (65536) ∈ bigW := List.mem_filter.mpr ⟨List.mem_append_right _ (List.mem_append_right _ (List.mem_append_right _ (List.mem_append_left _ (List.mem_of_getElem? (i := 43) rfl)))), rfl⟩
theorem km_X7_231 : Cond.methodLink RX7 231 yX7_moveOfNumber ∈ bigW := List.mem_filter.mpr ⟨List.mem_append_right _ (List.mem_append_right _ (List.mem_append_right _ (List.mem_append_left _ (List.mem_of_getElem? (i := 44) rfl)))), rfl⟩
theorem ks_X7_moveOfNumber : Cond.static yX7_moveOfNumber ∈ bigW := List.mem_filter.mpr ⟨List.mem_append_right _ (List.mem_append_right _ (List.mem_append_right _ (List.mem_append_left _ (List.mem_of_getElem? (i := 45) rfl)))), rfl⟩
theorem kc_X7_moveOfNumber : Cond.code yX7_moveOfNumber cX7_moveOfNumber 6 (some .int) ∈ bigW := List.mem_filter.mpr ⟨List.mem_append_right _ (List.mem_append_right _ (List.mem_append_right _ (List.mem_append_left _ (List.mem_of_getElem? (i := 46) rfl)))), rfl⟩
theorem km_L_112 : Cond.methodLink RL 112 yX7_image ∈ bigW := List.mem_filter.mpr ⟨List.mem_append_right _ (List.mem_append_right _ (List.mem_append_right _ (List.mem_append_left _ (List.mem_of_getElem? (i := 47) rfl)))), rfl⟩
theorem ki_X7_image : Cond.instanceMethod yX7_image ∈ bigW := List.mem_filter.mpr ⟨List.mem_append_right _ (List.mem_append_right _ (List.mem_append_right _ (List.mem_append_left _ (List.mem_of_getElem? (i := 48) rfl)))), rfl⟩
theorem kv_X7_image : Cond.selects RX7 yX7_image yX7_image ∈ bigW := List.mem_filter.mpr ⟨List.mem_append_right _ (List.mem_append_right _ (List.mem_append_right _ (List.mem_append_left _ (List.mem_of_getElem? (i := 49) rfl)))), rfl⟩
theorem kc_X7_image : Cond.code yX7_image cX7_image 1 (some .int) ∈ bigW := List.mem_filter.mpr ⟨List.mem_append_right _ (List.mem_append_right _ (List.mem_append_right _ (List.mem_append_left _ (List.mem_of_getElem? (i := 50) rfl)))), rfl⟩
theorem km_X7_238 : Cond.methodLink RX7 238 yX2_copy ∈ bigW := List.mem_filter.mpr ⟨List.mem_append_right _ (List.mem_append_right _ (List.mem_append_right _ (List.mem_append_left _ (List.mem_of_getElem? (i := 51) rfl)))), rfl⟩
theorem ki_X2_copy : Cond.instanceMethod yX2_copy ∈ bigW := List.mem_filter.mpr ⟨List.mem_append_right _ (List.mem_append_right _ (List.mem_append_right _ (List.mem_append_left _ (List.mem_of_getElem? (i := 52) rfl)))), rfl⟩
theorem kv_X2_copy : Cond.selects RX2 yX2_copy yX2_copy ∈ bigW := List.mem_filter.mpr ⟨List.mem_append_right _ (List.mem_append_right _ (List.mem_append_right _ (List.mem_append_left _ (List.mem_of_getElem? (i := 53) rfl)))), rfl⟩
theorem kc_X2_copy : Cond.code yX2_copy cX2_copy 3 none ∈ bigW := List.mem_filter.mpr ⟨List.mem_append_right _ (List.mem_append_right _ (List.mem_append_right _ (List.mem_append_left _ (List.mem_of_getElem? (i := 54) rfl)))), rfl⟩
theorem km_L_116 : Cond.methodLink RL 116 yX7_restore ∈ bigW := List.mem_filter.mpr ⟨List.mem_append_right _ (List.mem_append_right _ (List.mem_append_right _ (List.mem_append_left _ (List.mem_of_getElem? (i := 55) rfl)))), rfl⟩
theorem ki_X7_restore : Cond.instanceMethod yX7_restore ∈ bigW := List.mem_filter.mpr ⟨List.mem_append_right _ (List.mem_append_right _ (List.mem_append_right _ (List.mem_append_left _ (List.mem_of_getElem? (i := 56) rfl)))), rfl⟩
theorem kv_X7_restore : Cond.selects RX7 yX7_restore yX7_restore ∈ bigW := List.mem_filter.mpr ⟨List.mem_append_right _ (List.mem_append_right _ (List.mem_append_right _ (List.mem_append_left _ (List.mem_of_getElem? (i := 57) rfl)))), rfl⟩
theorem kc_X7_restore : Cond.code yX7_restore cX7_restore 1 (some .int) ∈ bigW := List.mem_filter.mpr ⟨List.mem_append_right _ (List.mem_append_right _ (List.mem_append_right _ (List.mem_append_left _ (List.mem_of_getElem? (i := 58) rfl)))), rfl⟩
theorem km_L_120 : Cond.methodLink RL 120 yX7_count ∈ bigW := List.mem_filter.mpr ⟨List.mem_append_right _ (List.mem_append_right _ (List.mem_append_right _ (List.mem_append_left _ (List.mem_of_getElem? (i := 59) rfl)))), rfl⟩
theorem ki_X7_count : Cond.instanceMethod yX7_count ∈ bigW := List.mem_filter.mpr ⟨List.mem_append_right _ (List.mem_append_right _ (List.mem_append_right _ (List.mem_append_left _ (List.mem_of_getElem? (i := 60) rfl)))), rfl⟩
theorem kv_X7_count : Cond.selects RX7 yX7_count yX7_count ∈ bigW := List.mem_filter.mpr ⟨List.mem_append_right _ (List.mem_append_right _ (List.mem_append_right _ (List.mem_append_left _ (List.mem_of_getElem? (i := 61) rfl)))), rfl⟩
theorem kc_X7_count : Cond.code yX7_count cX7_count 2 (some .int) ∈ bigW := List.mem_filter.mpr ⟨List.mem_append_right _ (List.mem_append_right _ (List.mem_append_right _ (List.mem_append_left _ (List.mem_of_getElem? (i := 62) rfl)))), rfl⟩
theorem km_X7_242 : Cond.methodLink RX7 242 yX4_has ∈ bigW := List.mem_filter.mpr ⟨List.mem_append_right _ (List.mem_append_right _ (List.mem_append_right _ (List.mem_append_left _ (List.mem_of_getElem? (i := 63) rfl)))), rfl⟩
theorem km_L_124 : Cond.methodLink RL 124 yX7_digest ∈ bigW := List.mem_filter.mpr ⟨List.mem_append_right _ (List.mem_append_right _ (List.mem_append_right _ (List.mem_append_left _ (List.mem_of_getElem? (i := 64) rfl)))), rfl⟩
theorem ki_X7_digest : Cond.instanceMethod yX7_digest ∈ bigW := List.mem_filter.mpr ⟨List.mem_append_right _ (List.mem_append_right _ (List.mem_append_right _ (List.mem_append_left _ (List.mem_of_getElem? (i := 65) rfl)))), rfl⟩
theorem kv_X7_digest : Cond.selects RX7 yX7_digest yX7_digest ∈ bigW := List.mem_filter.mpr ⟨List.mem_append_right _ (List.mem_append_right _ (List.mem_append_right _ (List.mem_append_left _ (List.mem_of_getElem? (i := 66) rfl)))), rfl⟩
theorem kc_X7_digest : Cond.code yX7_digest cX7_digest 5 (some .long) ∈ bigW := List.mem_filter.mpr ⟨List.mem_append_right _ (List.mem_append_right _ (List.mem_append_right _ (List.mem_append_left _ (List.mem_of_getElem? (i := 67) rfl)))), rfl⟩
theorem kk_X7_245 : Cond.constantLong RX7 245 (613) ∈ bigW := List.mem_filter.mpr ⟨List.mem_append_right _ (List.mem_append_right _ (List.mem_append_right _ (List.mem_append_left _ (List.mem_of_getElem? (i := 68) rfl)))), rfl⟩
theorem kk_X7_247 : Cond.constantLong RX7 247 (31) ∈ bigW := List.mem_filter.mpr ⟨List.mem_append_right _ (List.mem_append_right _ (List.mem_append_right _ (List.mem_append_left _ (List.mem_of_getElem? (i := 69) rfl)))), rfl⟩
theorem km_X7_249 : Cond.methodLink RX7 249 yX7_on ∈ bigW := List.mem_filter.mpr ⟨List.mem_append_right _ (List.mem_append_right _ (List.mem_append_right _ (List.mem_append_left _ (List.mem_of_getElem? (i := 70) rfl)))), rfl⟩
theorem km_X7_252 : Cond.methodLink RX7 252 yX7_frog ∈ bigW := List.mem_filter.mpr ⟨List.mem_append_right _ (List.mem_append_right _ (List.mem_append_right _ (List.mem_append_left _ (List.mem_of_getElem? (i := 71) rfl)))), rfl⟩
theorem km_X7_255 : Cond.methodLink RX7 255 yX7_about ∈ bigW := List.mem_filter.mpr ⟨List.mem_append_right _ (List.mem_append_right _ (List.mem_append_right _ (List.mem_append_left _ (List.mem_of_getElem? (i := 72) rfl)))), rfl⟩
theorem km_X7_258 : Cond.methodLink RX7 258 yX7_moves ∈ bigW := List.mem_filter.mpr ⟨List.mem_append_right _ (List.mem_append_right _ (List.mem_append_right _ (List.mem_append_left _ (List.mem_of_getElem? (i := 73) rfl)))), rfl⟩
theorem km_X7_261 : Cond.methodLink RX7 261 yX7_fewest ∈ bigW := List.mem_filter.mpr ⟨List.mem_append_right _ (List.mem_append_right _ (List.mem_append_right _ (List.mem_append_left _ (List.mem_of_getElem? (i := 74) rfl)))), rfl⟩
theorem km_X7_264 : Cond.methodLink RX7 264 yX7_ways ∈ bigW := List.mem_filter.mpr ⟨List.mem_append_right _ (List.mem_append_right _ (List.mem_append_right _ (List.mem_append_left _ (List.mem_of_getElem? (i := 75) rfl)))), rfl⟩
theorem km_X7_267 : Cond.methodLink RX7 267 yX7_wrong ∈ bigW := List.mem_filter.mpr ⟨List.mem_append_right _ (List.mem_append_right _ (List.mem_append_right _ (List.mem_append_left _ (List.mem_of_getElem? (i := 76) rfl)))), rfl⟩
theorem km_X7_270 : Cond.methodLink RX7 270 yX7_ends ∈ bigW := List.mem_filter.mpr ⟨List.mem_append_right _ (List.mem_append_right _ (List.mem_append_right _ (List.mem_append_left _ (List.mem_of_getElem? (i := 77) rfl)))), rfl⟩
theorem km_X7_273 : Cond.methodLink RX7 273 yX7_soon ∈ bigW := List.mem_filter.mpr ⟨List.mem_append_right _ (List.mem_append_right _ (List.mem_append_right _ (List.mem_append_left _ (List.mem_of_getElem? (i := 78) rfl)))), rfl⟩
theorem km_X7_276 : Cond.methodLink RX7 276 yX7_wins ∈ bigW := List.mem_filter.mpr ⟨List.mem_append_right _ (List.mem_append_right _ (List.mem_append_right _ (List.mem_append_left _ (List.mem_of_getElem? (i := 79) rfl)))), rfl⟩
theorem km_X7_283 : Cond.methodLink RX7 283 yX7_count ∈ bigW := List.mem_filter.mpr ⟨List.mem_append_right _ (List.mem_append_right _ (List.mem_append_right _ (List.mem_append_left _ (List.mem_of_getElem? (i := 80) rfl)))), rfl⟩
theorem kq_L_10 : Cond.classLink RL 10 RX8 ∈ bigW := List.mem_filter.mpr ⟨List.mem_append_right _ (List.mem_append_right _ (List.mem_append_right _ (List.mem_append_left _ (List.mem_of_getElem? (i := 81) rfl)))), rfl⟩
theorem kz_X8 : Cond.instantiable RX8 39 ∈ bigW := List.mem_filter.mpr ⟨List.mem_append_right _ (List.mem_append_right _ (List.mem_append_right _ (List.mem_append_left _ (List.mem_of_getElem? (i := 82) rfl)))), rfl⟩
theorem km_L_12 : Cond.methodLink RL 12 yX8_init ∈ bigW := List.mem_filter.mpr ⟨List.mem_append_right _ (List.mem_append_right _ (List.mem_append_right _ (List.mem_append_left _ (List.mem_of_getElem? (i := 83) rfl)))), rfl⟩
theorem ki_X8_init : Cond.instanceMethod yX8_init ∈ bigW := List.mem_filter.mpr ⟨List.mem_append_right _ (List.mem_append_right _ (List.mem_append_right _ (List.mem_append_left _ (List.mem_of_getElem? (i := 84) rfl)))), rfl⟩
theorem kc_X8_init : Cond.code yX8_init cX8_init 1 none ∈ bigW := List.mem_filter.mpr ⟨List.mem_append_right _ (List.mem_append_right _ (List.mem_append_right _ (List.mem_append_left _ (List.mem_of_getElem? (i := 85) rfl)))), rfl⟩
theorem km_X8_1 : Cond.methodLink RX8 1 objectInit ∈ bigW := List.mem_filter.mpr ⟨List.mem_append_right _ (List.mem_append_right _ (List.mem_append_right _ (List.mem_append_left _ (List.mem_of_getElem? (i := 86) rfl)))), rfl⟩
theorem kk_X8_38 : Cond.constant RX8 38 (78125) ∈ bigW := List.mem_filter.mpr ⟨List.mem_append_right _ (List.mem_append_right _ (List.mem_append_right _ (List.mem_append_left _ (List.mem_of_getElem? (i := 87) rfl)))), rfl⟩
theorem kf_X8_93 : Cond.fieldLink RX8 93 (TX8 0).1 (TX8 0).2.1 (TX8 0).2.2.1 ∈ bigW := List.mem_filter.mpr ⟨List.mem_append_right _ (List.mem_append_right _ (List.mem_append_right _ (List.mem_append_left _ (List.mem_of_getElem? (i := 88) rfl)))), rfl⟩
theorem kf_X8_96 : Cond.fieldLink RX8 96 (TX8 1).1 (TX8 1).2.1 (TX8 1).2.2.1 ∈ bigW := List.mem_filter.mpr ⟨List.mem_append_right _ (List.mem_append_right _ (List.mem_append_right _ (List.mem_append_left _ (List.mem_of_getElem? (i := 89) rfl)))), rfl⟩
theorem kf_X8_99 : Cond.fieldLink RX8 99 (TX8 2).1 (TX8 2).2.1 (TX8 2).2.2.1 ∈ bigW := List.mem_filter.mpr ⟨List.mem_append_right _ (List.mem_append_right _ (List.mem_append_right _ (List.mem_append_left _ (List.mem_of_getElem? (i := 90) rfl)))), rfl⟩
theorem kf_X8_102 : Cond.fieldLink RX8 102 (TX8 3).1 (TX8 3).2.1 (TX8 3).2.2.1 ∈ bigW := List.mem_filter.mpr ⟨List.mem_append_right _ (List.mem_append_right _ (List.mem_append_right _ (List.mem_append_left _ (List.mem_of_getElem? (i := 91) rfl)))), rfl⟩
theorem kf_X8_105 : Cond.fieldLink RX8 105 (TX8 4).1 (TX8 4).2.1 (TX8 4).2.2.1 ∈ bigW := List.mem_filter.mpr ⟨List.mem_append_right _ (List.mem_append_right _ (List.mem_append_right _ (List.mem_append_left _ (List.mem_of_getElem? (i := 92) rfl)))), rfl⟩
theorem kf_X8_114 : Cond.fieldLink RX8 114 (TX8 5).1 (TX8 5).2.1 (TX8 5).2.2.1 ∈ bigW := List.mem_filter.mpr ⟨List.mem_append_right _ (List.mem_append_right _ (List.mem_append_right _ (List.mem_append_left _ (List.mem_of_getElem? (i := 93) rfl)))), rfl⟩
theorem kf_X8_7 : Cond.fieldLink RX8 7 (TX8 6).1 (TX8 6).2.1 (TX8 6).2.2.1 ∈ bigW := List.mem_filter.mpr ⟨List.mem_append_right _ (List.mem_append_right _ (List.mem_append_right _ (List.mem_append_left _ (List.mem_of_getElem? (i := 94) rfl)))), rfl⟩
theorem kf_X8_13 : Cond.fieldLink RX8 13 (TX8 7).1 (TX8 7).2.1 (TX8 7).2.2.1 ∈ bigW := List.mem_filter.mpr ⟨List.mem_append_right _ (List.mem_append_right _ (List.mem_append_right _ (List.mem_append_left _ (List.mem_of_getElem? (i := 95) rfl)))), rfl⟩
theorem kf_X8_16 : Cond.fieldLink RX8 16 (TX8 8).1 (TX8 8).2.1 (TX8 8).2.2.1 ∈ bigW := List.mem_filter.mpr ⟨List.mem_append_right _ (List.mem_append_right _ (List.mem_append_right _ (List.mem_append_left _ (List.mem_of_getElem? (i := 96) rfl)))), rfl⟩
theorem kf_X8_108 : Cond.fieldLink RX8 108 (TX8 9).1 (TX8 9).2.1 (TX8 9).2.2.1 ∈ bigW := List.mem_filter.mpr ⟨List.mem_append_right _ (List.mem_append_right _ (List.mem_append_right _ (List.mem_append_left _ (List.mem_of_getElem? (i := 97) rfl)))), rfl⟩
theorem kf_X8_19 : Cond.fieldLink RX8 19 (TX8 10).1 (TX8 10).2.1 (TX8 10).2.2.1 ∈ bigW := List.mem_filter.mpr ⟨List.mem_append_right _ (List.mem_append_right _ (List.mem_append_right _ (List.mem_append_left _ (List.mem_of_getElem? (i := 98) rfl)))), rfl⟩
theorem kf_X8_111 : Cond.fieldLink RX8 111 (TX8 11).1 (TX8 11).2.1 (TX8 11).2.2.1 ∈ bigW := List.mem_filter.mpr ⟨List.mem_append_right _ (List.mem_append_right _ (List.mem_append_right _ (List.mem_append_left _ (List.mem_of_getElem? (i := 99) rfl)))), rfl⟩
theorem kf_X8_22 : Cond.fieldLink RX8 22 (TX8 12).1 (TX8 12).2.1 (TX8 12).2.2.1 ∈ bigW := List.mem_filter.mpr ⟨List.mem_append_right _ (List.mem_append_right _ (List.mem_append_right _ (List.mem_append_left _ (List.mem_of_getElem? (i := 100) rfl)))), rfl⟩
theorem kf_X8_25 : Cond.fieldLink RX8 25 (TX8 13).1 (TX8 13).2.1 (TX8 13).2.2.1 ∈ bigW := List.mem_filter.mpr ⟨List.mem_append_right _ (List.mem_append_right _ (List.mem_append_right _ (List.mem_append_left _ (List.mem_of_getElem? (i := 101) rfl)))), rfl⟩
theorem kf_X8_66 : Cond.fieldLink RX8 66 (TX8 14).1 (TX8 14).2.1 (TX8 14).2.2.1 ∈ bigW := List.mem_filter.mpr ⟨List.mem_append_right _ (List.mem_append_right _ (List.mem_append_right _ (List.mem_append_left _ (List.mem_of_getElem? (i := 102) rfl)))), rfl⟩
theorem kf_X8_28 : Cond.fieldLink RX8 28 (TX8 15).1 (TX8 15).2.1 (TX8 15).2.2.1 ∈ bigW := List.mem_filter.mpr ⟨List.mem_append_right _ (List.mem_append_right _ (List.mem_append_right _ (List.mem_append_left _ (List.mem_of_getElem? (i := 103) rfl)))), rfl⟩
theorem kf_X8_83 : Cond.fieldLink RX8 83 (TX8 16).1 (TX8 16).2.1 (TX8 16).2.2.1 ∈ bigW := List.mem_filter.mpr ⟨List.mem_append_right _ (List.mem_append_right _ (List.mem_append_right _ (List.mem_append_left _ (List.mem_of_getElem? (i := 104) rfl)))), rfl⟩
theorem kf_X8_86 : Cond.fieldLink RX8 86 (TX8 17).1 (TX8 17).2.1 (TX8 17).2.2.1 ∈ bigW := List.mem_filter.mpr ⟨List.mem_append_right _ (List.mem_append_right _ (List.mem_append_right _ (List.mem_append_left _ (List.mem_of_getElem? (i := 105) rfl)))), rfl⟩
theorem kf_X8_70 : Cond.fieldLink RX8 70 (TX8 18).1 (TX8 18).2.1 (TX8 18).2.2.1 ∈ bigW := List.mem_filter.mpr ⟨List.mem_append_right _ (List.mem_append_right _ (List.mem_append_right _ (List.mem_append_left _ (List.mem_of_getElem? (i := 106) rfl)))), rfl⟩
theorem kf_X8_73 : Cond.fieldLink RX8 73 (TX8 19).1 (TX8 19).2.1 (TX8 19).2.2.1 ∈ bigW := List.mem_filter.mpr ⟨List.mem_append_right _ (List.mem_append_right _ (List.mem_append_right _ (List.mem_append_left _ (List.mem_of_getElem? (i := 107) rfl)))), rfl⟩
theorem kf_X8_32 : Cond.fieldLink RX8 32 (TX8 20).1 (TX8 20).2.1 (TX8 20).2.2.1 ∈ bigW := List.mem_filter.mpr ⟨List.mem_append_right _ (List.mem_append_right _ (List.mem_append_right _ (List.mem_append_left _ (List.mem_of_getElem? (i := 108) rfl)))), rfl⟩
theorem kf_X8_135 : Cond.fieldLink RX8 135 (TX8 21).1 (TX8 21).2.1 (TX8 21).2.2.1 ∈ bigW := List.mem_filter.mpr ⟨List.mem_append_right _ (List.mem_append_right _ (List.mem_append_right _ (List.mem_append_left _ (List.mem_of_getElem? (i := 109) rfl)))), rfl⟩
theorem kf_X8_35 : Cond.fieldLink RX8 35 (TX8 22).1 (TX8 22).2.1 (TX8 22).2.2.1 ∈ bigW := List.mem_filter.mpr ⟨List.mem_append_right _ (List.mem_append_right _ (List.mem_append_right _ (List.mem_append_left _ (List.mem_of_getElem? (i := 110) rfl)))), rfl⟩
theorem kf_X8_39 : Cond.fieldLink RX8 39 (TX8 23).1 (TX8 23).2.1 (TX8 23).2.2.1 ∈ bigW := List.mem_filter.mpr ⟨List.mem_append_right _ (List.mem_append_right _ (List.mem_append_right _ (List.mem_append_left _ (List.mem_of_getElem? (i := 111) rfl)))), rfl⟩
theorem kf_X8_42 : Cond.fieldLink RX8 42 (TX8 24).1 (TX8 24).2.1 (TX8 24).2.2.1 ∈ bigW := List.mem_filter.mpr ⟨List.mem_append_right _ (List.mem_append_right _ (List.mem_append_right _ (List.mem_append_left _ (List.mem_of_getElem? (i := 112) rfl)))), rfl⟩
theorem kf_X8_46 : Cond.fieldLink RX8 46 (TX8 25).1 (TX8 25).2.1 (TX8 25).2.2.1 ∈ bigW := List.mem_filter.mpr ⟨List.mem_append_right _ (List.mem_append_right _ (List.mem_append_right _ (List.mem_append_left _ (List.mem_of_getElem? (i := 113) rfl)))), rfl⟩
theorem kf_X8_168 : Cond.fieldLink RX8 168 (TX8 26).1 (TX8 26).2.1 (TX8 26).2.2.1 ∈ bigW := List.mem_filter.mpr ⟨List.mem_append_right _ (List.mem_append_right _ (List.mem_append_right _ (List.mem_append_left _ (List.mem_of_getElem? (i := 114) rfl)))), rfl⟩
theorem kf_X8_209 : Cond.fieldLink RX8 209 (TX8 27).1 (TX8 27).2.1 (TX8 27).2.2.1 ∈ bigW := List.mem_filter.mpr ⟨List.mem_append_right _ (List.mem_append_right _ (List.mem_append_right _ (List.mem_append_left _ (List.mem_of_getElem? (i := 115) rfl)))), rfl⟩
theorem kf_X8_212 : Cond.fieldLink RX8 212 (TX8 28).1 (TX8 28).2.1 (TX8 28).2.2.1 ∈ bigW := List.mem_filter.mpr ⟨List.mem_append_right _ (List.mem_append_right _ (List.mem_append_right _ (List.mem_append_left _ (List.mem_of_getElem? (i := 116) rfl)))), rfl⟩
theorem kf_X8_49 : Cond.fieldLink RX8 49 (TX8 29).1 (TX8 29).2.1 (TX8 29).2.2.1 ∈ bigW := List.mem_filter.mpr ⟨List.mem_append_right _ (List.mem_append_right _ (List.mem_append_right _ (List.mem_append_left _ (List.mem_of_getElem? (i := 117) rfl)))), rfl⟩
theorem kf_X8_251 : Cond.fieldLink RX8 251 (TX8 30).1 (TX8 30).2.1 (TX8 30).2.2.1 ∈ bigW := List.mem_filter.mpr ⟨List.mem_append_right _ (List.mem_append_right _ (List.mem_append_right _ (List.mem_append_left _ (List.mem_of_getElem? (i := 118) rfl)))), rfl⟩
theorem kf_X8_271 : Cond.fieldLink RX8 271 (TX8 31).1 (TX8 31).2.1 (TX8 31).2.2.1 ∈ bigW := List.mem_filter.mpr ⟨List.mem_append_right _ (List.mem_append_right _ (List.mem_append_right _ (List.mem_append_left _ (List.mem_of_getElem? (i := 119) rfl)))), rfl⟩
theorem kf_X8_274 : Cond.fieldLink RX8 274 (TX8 32).1 (TX8 32).2.1 (TX8 32).2.2.1 ∈ bigW := List.mem_filter.mpr ⟨List.mem_append_right _ (List.mem_append_right _ (List.mem_append_right _ (List.mem_append_left _ (List.mem_of_getElem? (i := 120) rfl)))), rfl⟩
theorem kf_X8_277 : Cond.fieldLink RX8 277 (TX8 33).1 (TX8 33).2.1 (TX8 33).2.2.1 ∈ bigW := List.mem_filter.mpr ⟨List.mem_append_right _ (List.mem_append_right _ (List.mem_append_right _ (List.mem_append_left _ (List.mem_of_getElem? (i := 121) rfl)))), rfl⟩
theorem kf_X8_52 : Cond.fieldLink RX8 52 (TX8 34).1 (TX8 34).2.1 (TX8 34).2.2.1 ∈ bigW := List.mem_filter.mpr ⟨List.mem_append_right _ (List.mem_append_right _ (List.mem_append_right _ (List.mem_append_left _ (List.mem_of_getElem? (i := 122) rfl)))), rfl⟩
theorem kf_X8_55 : Cond.fieldLink RX8 55 (TX8 35).1 (TX8 35).2.1 (TX8 35).2.2.1 ∈ bigW := List.mem_filter.mpr ⟨List.mem_append_right _ (List.mem_append_right _ (List.mem_append_right _ (List.mem_append_left _ (List.mem_of_getElem? (i := 123) rfl)))), rfl⟩
theorem kf_X8_58 : Cond.fieldLink RX8 58 (TX8 36).1 (TX8 36).2.1 (TX8 36).2.2.1 ∈ bigW := List.mem_filter.mpr ⟨List.mem_append_right _ (List.mem_append_right _ (List.mem_append_right _ (List.mem_append_left _ (List.mem_of_getElem? (i := 124) rfl)))), rfl⟩
theorem kf_X8_61 : Cond.fieldLink RX8 61 (TX8 37).1 (TX8 37).2.1 (TX8 37).2.2.1 ∈ bigW := List.mem_filter.mpr ⟨List.mem_append_right _ (List.mem_append_right _ (List.mem_append_right _ (List.mem_append_left _ (List.mem_of_getElem? (i := 125) rfl)))), rfl⟩
theorem kf_X8_289 : Cond.fieldLink RX8 289 (TX8 38).1 (TX8 38).2.1 (TX8 38).2.2.1 ∈ bigW := List.mem_filter.mpr ⟨List.mem_append_right _ (List.mem_append_right _ (List.mem_append_right _ (List.mem_append_left _ (List.mem_of_getElem? (i := 126) rfl)))), rfl⟩
theorem km_L_19 : Cond.methodLink RL 19 yX8_letters ∈ bigW := List.mem_filter.mpr ⟨List.mem_append_right _ (List.mem_append_right _ (List.mem_append_right _ (List.mem_append_left _ (List.mem_of_getElem? (i := 208) rfl)))), rfl⟩
theorem ki_X8_letters : Cond.instanceMethod yX8_letters ∈ bigW := List.mem_filter.mpr ⟨List.mem_append_right _ (List.mem_append_right _ (List.mem_append_right _ (List.mem_append_left _ (List.mem_of_getElem? (i := 209) rfl)))), rfl⟩
theorem kv_X8_letters : Cond.selects RX8 yX8_letters yX8_letters ∈ bigW := List.mem_filter.mpr ⟨List.mem_append_right _ (List.mem_append_right _ (List.mem_append_right _ (List.mem_append_left _ (List.mem_of_getElem? (i := 210) rfl)))), rfl⟩
theorem kc_X8_letters : Cond.code yX8_letters cX8_letters 7 (some .int) ∈ bigW := List.mem_filter.mpr ⟨List.mem_append_right _ (List.mem_append_right _ (List.mem_append_right _ (List.mem_append_left _ (List.mem_of_getElem? (i := 211) rfl)))), rfl⟩
theorem kk_X8_64 : Cond.constantLong RX8 64 (255) ∈ bigW := List.mem_filter.mpr ⟨List.mem_append_right _ (List.mem_append_right _ (List.mem_append_right _ (List.mem_append_left _ (List.mem_of_getElem? (i := 212) rfl)))), rfl⟩
theorem km_L_24 : Cond.methodLink RL 24 yX8_blank ∈ bigW := List.mem_filter.mpr ⟨List.mem_append_right _ (List.mem_append_right _ (List.mem_append_right _ (List.mem_append_left _ (List.mem_of_getElem? (i := 213) rfl)))), rfl⟩
theorem ki_X8_blank : Cond.instanceMethod yX8_blank ∈ bigW := List.mem_filter.mpr ⟨List.mem_append_right _ (List.mem_append_right _ (List.mem_append_right _ (List.mem_append_left _ (List.mem_of_getElem? (i := 214) rfl)))), rfl⟩
theorem kv_X8_blank : Cond.selects RX8 yX8_blank yX8_blank ∈ bigW := List.mem_filter.mpr ⟨List.mem_append_right _ (List.mem_append_right _ (List.mem_append_right _ (List.mem_append_left _ (List.mem_of_getElem? (i := 215) rfl)))), rfl⟩
theorem kc_X8_blank : Cond.code yX8_blank cX8_blank 2 (some .int) ∈ bigW := List.mem_filter.mpr ⟨List.mem_append_right _ (List.mem_append_right _ (List.mem_append_right _ (List.mem_append_left _ (List.mem_of_getElem? (i := 216) rfl)))), rfl⟩
theorem km_L_28 : Cond.methodLink RL 28 yX8_fault ∈ bigW := List.mem_filter.mpr ⟨List.mem_append_right _ (List.mem_append_right _ (List.mem_append_right _ (List.mem_append_left _ (List.mem_of_getElem? (i := 217) rfl)))), rfl⟩
theorem ki_X8_fault : Cond.instanceMethod yX8_fault ∈ bigW := List.mem_filter.mpr ⟨List.mem_append_right _ (List.mem_append_right _ (List.mem_append_right _ (List.mem_append_left _ (List.mem_of_getElem? (i := 218) rfl)))), rfl⟩
theorem kv_X8_fault : Cond.selects RX8 yX8_fault yX8_fault ∈ bigW := List.mem_filter.mpr ⟨List.mem_append_right _ (List.mem_append_right _ (List.mem_append_right _ (List.mem_append_left _ (List.mem_of_getElem? (i := 219) rfl)))), rfl⟩
theorem kc_X8_fault : Cond.code yX8_fault cX8_fault 1 (some .int) ∈ bigW := List.mem_filter.mpr ⟨List.mem_append_right _ (List.mem_append_right _ (List.mem_append_right _ (List.mem_append_left _ (List.mem_of_getElem? (i := 220) rfl)))), rfl⟩
theorem km_X8_90 : Cond.methodLink RX8 90 yX8_readBrook ∈ bigW := List.mem_filter.mpr ⟨List.mem_append_right _ (List.mem_append_right _ (List.mem_append_right _ (List.mem_append_left _ (List.mem_of_getElem? (i := 221) rfl)))), rfl⟩
theorem ki_X8_readBrook : Cond.instanceMethod yX8_readBrook ∈ bigW := List.mem_filter.mpr ⟨List.mem_append_right _ (List.mem_append_right _ (List.mem_append_right _ (List.mem_append_left _ (List.mem_of_getElem? (i := 223) rfl)))), rfl⟩
theorem kc_X8_readBrook : Cond.code yX8_readBrook cX8_readBrook 6 none ∈ bigW := List.mem_filter.mpr ⟨List.mem_append_right _ (List.mem_append_right _ (List.mem_append_right _ (List.mem_append_left _ (List.mem_of_getElem? (i := 224) rfl)))), rfl⟩
theorem km_X8_76 : Cond.methodLink RX8 76 yX8_signBy ∈ bigW := List.mem_filter.mpr ⟨List.mem_append_right _ (List.mem_append_right _ (List.mem_append_right _ (List.mem_append_left _ (List.mem_of_getElem? (i := 225) rfl)))), rfl⟩
theorem ks_X8_signBy : Cond.static yX8_signBy ∈ bigW := List.mem_filter.mpr ⟨List.mem_append_right _ (List.mem_append_right _ (List.mem_append_right _ (List.mem_append_left _ (List.mem_of_getElem? (i := 226) rfl)))), rfl⟩
theorem kc_X8_signBy : Cond.code yX8_signBy cX8_signBy 1 (some .int) ∈ bigW := List.mem_filter.mpr ⟨List.mem_append_right _ (List.mem_append_right _ (List.mem_append_right _ (List.mem_append_left _ (List.mem_of_getElem? (i := 227) rfl)))), rfl⟩
theorem km_X8_80 : Cond.methodLink RX8 80 yX8_kindBy ∈ bigW := List.mem_filter.mpr ⟨List.mem_append_right _ (List.mem_append_right _ (List.mem_append_right _ (List.mem_append_left _ (List.mem_of_getElem? (i := 228) rfl)))), rfl⟩
theorem ks_X8_kindBy : Cond.static yX8_kindBy ∈ bigW := List.mem_filter.mpr ⟨List.mem_append_right _ (List.mem_append_right _ (List.mem_append_right _ (List.mem_append_left _ (List.mem_of_getElem? (i := 229) rfl)))), rfl⟩
theorem kc_X8_kindBy : Cond.code yX8_kindBy cX8_kindBy 1 (some .int) ∈ bigW := List.mem_filter.mpr ⟨List.mem_append_right _ (List.mem_append_right _ (List.mem_append_right _ (List.mem_append_left _ (List.mem_of_getElem? (i := 230) rfl)))), rfl⟩
theorem km_L_32 : Cond.methodLink RL 32 yX8_brook ∈ bigW := List.mem_filter.mpr ⟨List.mem_append_right _ (List.mem_append_right _ (List.mem_append_right _ (List.mem_append_left _ (List.mem_of_getElem? (i := 231) rfl)))), rfl⟩
theorem ki_X8_brook : Cond.instanceMethod yX8_brook ∈ bigW := List.mem_filter.mpr ⟨List.mem_append_right _ (List.mem_append_right _ (List.mem_append_right _ (List.mem_append_left _ (List.mem_of_getElem? (i := 232) rfl)))), rfl⟩
theorem kv_X8_brook : Cond.selects RX8 yX8_brook yX8_brook ∈ bigW := List.mem_filter.mpr ⟨List.mem_append_right _ (List.mem_append_right _ (List.mem_append_right _ (List.mem_append_left _ (List.mem_of_getElem? (i := 233) rfl)))), rfl⟩
theorem kc_X8_brook : Cond.code yX8_brook cX8_brook 2 (some .int) ∈ bigW := List.mem_filter.mpr ⟨List.mem_append_right _ (List.mem_append_right _ (List.mem_append_right _ (List.mem_append_left _ (List.mem_of_getElem? (i := 234) rfl)))), rfl⟩
theorem km_L_37 : Cond.methodLink RL 37 yX8_on ∈ bigW := List.mem_filter.mpr ⟨List.mem_append_right _ (List.mem_append_right _ (List.mem_append_right _ (List.mem_append_left _ (List.mem_of_getElem? (i := 235) rfl)))), rfl⟩
theorem ki_X8_on : Cond.instanceMethod yX8_on ∈ bigW := List.mem_filter.mpr ⟨List.mem_append_right _ (List.mem_append_right _ (List.mem_append_right _ (List.mem_append_left _ (List.mem_of_getElem? (i := 236) rfl)))), rfl⟩
theorem kv_X8_on : Cond.selects RX8 yX8_on yX8_on ∈ bigW := List.mem_filter.mpr ⟨List.mem_append_right _ (List.mem_append_right _ (List.mem_append_right _ (List.mem_append_left _ (List.mem_of_getElem? (i := 237) rfl)))), rfl⟩
theorem kc_X8_on : Cond.code yX8_on cX8_on 2 (some .int) ∈ bigW := List.mem_filter.mpr ⟨List.mem_append_right _ (List.mem_append_right _ (List.mem_append_right _ (List.mem_append_left _ (List.mem_of_getElem? (i := 238) rfl)))), rfl⟩
theorem km_X8_121 : Cond.methodLink RX8 121 yX8_isStone ∈ bigW := List.mem_filter.mpr ⟨List.mem_append_right _ (List.mem_append_right _ (List.mem_append_right _ (List.mem_append_left _ (List.mem_of_getElem? (i := 239) rfl)))), rfl⟩
theorem ki_X8_isStone : Cond.instanceMethod yX8_isStone ∈ bigW := List.mem_filter.mpr ⟨List.mem_append_right _ (List.mem_append_right _ (List.mem_append_right _ (List.mem_append_right _ (List.mem_append_left _ (List.mem_of_getElem? (i := 1) rfl))))), rfl⟩
theorem kc_X8_isStone : Cond.code yX8_isStone cX8_isStone 2 (some .boolean) ∈ bigW := List.mem_filter.mpr ⟨List.mem_append_right _ (List.mem_append_right _ (List.mem_append_right _ (List.mem_append_right _ (List.mem_append_left _ (List.mem_of_getElem? (i := 2) rfl))))), rfl⟩
theorem km_X8_117 : Cond.methodLink RX8 117 yX8_within ∈ bigW := List.mem_filter.mpr ⟨List.mem_append_right _ (List.mem_append_right _ (List.mem_append_right _ (List.mem_append_right _ (List.mem_append_left _ (List.mem_of_getElem? (i := 3) rfl))))), rfl⟩
theorem ks_X8_within : Cond.static yX8_within ∈ bigW := List.mem_filter.mpr ⟨List.mem_append_right _ (List.mem_append_right _ (List.mem_append_right _ (List.mem_append_right _ (List.mem_append_left _ (List.mem_of_getElem? (i := 4) rfl))))), rfl⟩
theorem kc_X8_within : Cond.code yX8_within cX8_within 3 (some .boolean) ∈ bigW := List.mem_filter.mpr ⟨List.mem_append_right _ (List.mem_append_right _ (List.mem_append_right _ (List.mem_append_right _ (List.mem_append_left _ (List.mem_of_getElem? (i := 5) rfl))))), rfl⟩
theorem km_L_41 : Cond.methodLink RL 41 yX8_frog ∈ bigW := List.mem_filter.mpr ⟨List.mem_append_right _ (List.mem_append_right _ (List.mem_append_right _ (List.mem_append_right _ (List.mem_append_left _ (List.mem_of_getElem? (i := 6) rfl))))), rfl⟩
theorem ki_X8_frog : Cond.instanceMethod yX8_frog ∈ bigW := List.mem_filter.mpr ⟨List.mem_append_right _ (List.mem_append_right _ (List.mem_append_right _ (List.mem_append_right _ (List.mem_append_left _ (List.mem_of_getElem? (i := 7) rfl))))), rfl⟩
theorem kv_X8_frog : Cond.selects RX8 yX8_frog yX8_frog ∈ bigW := List.mem_filter.mpr ⟨List.mem_append_right _ (List.mem_append_right _ (List.mem_append_right _ (List.mem_append_right _ (List.mem_append_left _ (List.mem_of_getElem? (i := 8) rfl))))), rfl⟩
theorem kc_X8_frog : Cond.code yX8_frog cX8_frog 2 (some .int) ∈ bigW := List.mem_filter.mpr ⟨List.mem_append_right _ (List.mem_append_right _ (List.mem_append_right _ (List.mem_append_right _ (List.mem_append_left _ (List.mem_of_getElem? (i := 9) rfl))))), rfl⟩
theorem km_L_46 : Cond.methodLink RL 46 yX8_about ∈ bigW := List.mem_filter.mpr ⟨List.mem_append_right _ (List.mem_append_right _ (List.mem_append_right _ (List.mem_append_right _ (List.mem_append_left _ (List.mem_of_getElem? (i := 10) rfl))))), rfl⟩
theorem ki_X8_about : Cond.instanceMethod yX8_about ∈ bigW := List.mem_filter.mpr ⟨List.mem_append_right _ (List.mem_append_right _ (List.mem_append_right _ (List.mem_append_right _ (List.mem_append_left _ (List.mem_of_getElem? (i := 11) rfl))))), rfl⟩
theorem kv_X8_about : Cond.selects RX8 yX8_about yX8_about ∈ bigW := List.mem_filter.mpr ⟨List.mem_append_right _ (List.mem_append_right _ (List.mem_append_right _ (List.mem_append_right _ (List.mem_append_left _ (List.mem_of_getElem? (i := 12) rfl))))), rfl⟩
theorem kc_X8_about : Cond.code yX8_about cX8_about 3 (some .int) ∈ bigW := List.mem_filter.mpr ⟨List.mem_append_right _ (List.mem_append_right _ (List.mem_append_right _ (List.mem_append_right _ (List.mem_append_left _ (List.mem_of_getElem? (i := 13) rfl))))), rfl⟩
theorem km_X8_131 : Cond.methodLink RX8 131 yX8_frogNow ∈ bigW := List.mem_filter.mpr ⟨List.mem_append_right _ (List.mem_append_right _ (List.mem_append_right _ (List.mem_append_right _ (List.mem_append_left _ (List.mem_of_getElem? (i := 14) rfl))))), rfl⟩
theorem ki_X8_frogNow : Cond.instanceMethod yX8_frogNow ∈ bigW := List.mem_filter.mpr ⟨List.mem_append_right _ (List.mem_append_right _ (List.mem_append_right _ (List.mem_append_right _ (List.mem_append_left _ (List.mem_of_getElem? (i := 16) rfl))))), rfl⟩
theorem kc_X8_frogNow : Cond.code yX8_frogNow cX8_frogNow 3 (some .int) ∈ bigW := List.mem_filter.mpr ⟨List.mem_append_right _ (List.mem_append_right _ (List.mem_append_right _ (List.mem_append_right _ (List.mem_append_left _ (List.mem_of_getElem? (i := 17) rfl))))), rfl⟩
theorem km_X8_125 : Cond.methodLink RX8 125 yX8_stoneOf ∈ bigW := List.mem_filter.mpr ⟨List.mem_append_right _ (List.mem_append_right _ (List.mem_append_right _ (List.mem_append_right _ (List.mem_append_left _ (List.mem_of_getElem? (i := 18) rfl))))), rfl⟩
theorem ki_X8_stoneOf : Cond.instanceMethod yX8_stoneOf ∈ bigW := List.mem_filter.mpr ⟨List.mem_append_right _ (List.mem_append_right _ (List.mem_append_right _ (List.mem_append_right _ (List.mem_append_left _ (List.mem_of_getElem? (i := 20) rfl))))), rfl⟩
theorem kc_X8_stoneOf : Cond.code yX8_stoneOf cX8_stoneOf 3 (some .int) ∈ bigW := List.mem_filter.mpr ⟨List.mem_append_right _ (List.mem_append_right _ (List.mem_append_right _ (List.mem_append_right _ (List.mem_append_left _ (List.mem_of_getElem? (i := 21) rfl))))), rfl⟩
theorem km_X8_128 : Cond.methodLink RX8 128 yX8_movedMany ∈ bigW := List.mem_filter.mpr ⟨List.mem_append_right _ (List.mem_append_right _ (List.mem_append_right _ (List.mem_append_right _ (List.mem_append_left _ (List.mem_of_getElem? (i := 22) rfl))))), rfl⟩
theorem ki_X8_movedMany : Cond.instanceMethod yX8_movedMany ∈ bigW := List.mem_filter.mpr ⟨List.mem_append_right _ (List.mem_append_right _ (List.mem_append_right _ (List.mem_append_right _ (List.mem_append_left _ (List.mem_of_getElem? (i := 24) rfl))))), rfl⟩
theorem kc_X8_movedMany : Cond.code yX8_movedMany cX8_movedMany 5 (some .int) ∈ bigW := List.mem_filter.mpr ⟨List.mem_append_right _ (List.mem_append_right _ (List.mem_append_right _ (List.mem_append_right _ (List.mem_append_left _ (List.mem_of_getElem? (i := 25) rfl))))), rfl⟩
theorem km_L_50 : Cond.methodLink RL 50 yX8_as ∈ bigW := List.mem_filter.mpr ⟨List.mem_append_right _ (List.mem_append_right _ (List.mem_append_right _ (List.mem_append_right _ (List.mem_append_left _ (List.mem_of_getElem? (i := 26) rfl))))), rfl⟩
theorem ki_X8_as : Cond.instanceMethod yX8_as ∈ bigW := List.mem_filter.mpr ⟨List.mem_append_right _ (List.mem_append_right _ (List.mem_append_right _ (List.mem_append_right _ (List.mem_append_left _ (List.mem_of_getElem? (i := 27) rfl))))), rfl⟩
theorem kv_X8_as : Cond.selects RX8 yX8_as yX8_as ∈ bigW := List.mem_filter.mpr ⟨List.mem_append_right _ (List.mem_append_right _ (List.mem_append_right _ (List.mem_append_right _ (List.mem_append_left _ (List.mem_of_getElem? (i := 28) rfl))))), rfl⟩
theorem kc_X8_as : Cond.code yX8_as cX8_as 4 (some .int) ∈ bigW := List.mem_filter.mpr ⟨List.mem_append_right _ (List.mem_append_right _ (List.mem_append_right _ (List.mem_append_right _ (List.mem_append_left _ (List.mem_of_getElem? (i := 29) rfl))))), rfl⟩
theorem km_L_54 : Cond.methodLink RL 54 yX8_may ∈ bigW := List.mem_filter.mpr ⟨List.mem_append_right _ (List.mem_append_right _ (List.mem_append_right _ (List.mem_append_right _ (List.mem_append_left _ (List.mem_of_getElem? (i := 30) rfl))))), rfl⟩
theorem ki_X8_may : Cond.instanceMethod yX8_may ∈ bigW := List.mem_filter.mpr ⟨List.mem_append_right _ (List.mem_append_right _ (List.mem_append_right _ (List.mem_append_right _ (List.mem_append_left _ (List.mem_of_getElem? (i := 31) rfl))))), rfl⟩
theorem kv_X8_may : Cond.selects RX8 yX8_may yX8_may ∈ bigW := List.mem_filter.mpr ⟨List.mem_append_right _ (List.mem_append_right _ (List.mem_append_right _ (List.mem_append_right _ (List.mem_append_left _ (List.mem_of_getElem? (i := 32) rfl))))), rfl⟩
theorem kc_X8_may : Cond.code yX8_may cX8_may 3 (some .int) ∈ bigW := List.mem_filter.mpr ⟨List.mem_append_right _ (List.mem_append_right _ (List.mem_append_right _ (List.mem_append_right _ (List.mem_append_left _ (List.mem_of_getElem? (i := 33) rfl))))), rfl⟩
theorem km_X8_151 : Cond.methodLink RX8 151 yX8_layNow ∈ bigW := List.mem_filter.mpr ⟨List.mem_append_right _ (List.mem_append_right _ (List.mem_append_right _ (List.mem_append_right _ (List.mem_append_left _ (List.mem_of_getElem? (i := 34) rfl))))), rfl⟩
theorem ki_X8_layNow : Cond.instanceMethod yX8_layNow ∈ bigW := List.mem_filter.mpr ⟨List.mem_append_right _ (List.mem_append_right _ (List.mem_append_right _ (List.mem_append_right _ (List.mem_append_left _ (List.mem_of_getElem? (i := 36) rfl))))), rfl⟩
theorem kc_X8_layNow : Cond.code yX8_layNow cX8_layNow 2 none ∈ bigW := List.mem_filter.mpr ⟨List.mem_append_right _ (List.mem_append_right _ (List.mem_append_right _ (List.mem_append_right _ (List.mem_append_left _ (List.mem_of_getElem? (i := 37) rfl))))), rfl⟩
theorem km_X8_154 : Cond.methodLink RX8 154 yX8_mayMove ∈ bigW := List.mem_filter.mpr ⟨List.mem_append_right _ (List.mem_append_right _ (List.mem_append_right _ (List.mem_append_right _ (List.mem_append_left _ (List.mem_of_getElem? (i := 38) rfl))))), rfl⟩
theorem ki_X8_mayMove : Cond.instanceMethod yX8_mayMove ∈ bigW := List.mem_filter.mpr ⟨List.mem_append_right _ (List.mem_append_right _ (List.mem_append_right _ (List.mem_append_right _ (List.mem_append_left _ (List.mem_of_getElem? (i := 40) rfl))))), rfl⟩
theorem kc_X8_mayMove : Cond.code yX8_mayMove cX8_mayMove 5 (some .boolean) ∈ bigW := List.mem_filter.mpr ⟨List.mem_append_right _ (List.mem_append_right _ (List.mem_append_right _ (List.mem_append_right _ (List.mem_append_left _ (List.mem_of_getElem? (i := 41) rfl))))), rfl⟩
theorem km_X8_138 : Cond.methodLink RX8 138 yX8_colour ∈ bigW := List.mem_filter.mpr ⟨List.mem_append_right _ (List.mem_append_right _ (List.mem_append_right _ (List.mem_append_right _ (List.mem_append_left _ (List.mem_of_getElem? (i := 42) rfl))))), rfl⟩
theorem ks_X8_colour : Cond.static yX8_colour ∈ bigW := List.mem_filter.mpr ⟨List.mem_append_right _ (List.mem_append_right _ (List.mem_append_right _ (List.mem_append_right _ (List.mem_append_left _ (List.mem_of_getElem? (i := 43) rfl))))), rfl⟩
theorem kc_X8_colour : Cond.code yX8_colour cX8_colour 1 (some .int) ∈ bigW := List.mem_filter.mpr ⟨List.mem_append_right _ (List.mem_append_right _ (List.mem_append_right _ (List.mem_append_right _ (List.mem_append_left _ (List.mem_of_getElem? (i := 44) rfl))))), rfl⟩
theorem km_X8_148 : Cond.methodLink RX8 148 yX8_mayWay ∈ bigW := List.mem_filter.mpr ⟨List.mem_append_right _ (List.mem_append_right _ (List.mem_append_right _ (List.mem_append_right _ (List.mem_append_left _ (List.mem_of_getElem? (i := 45) rfl))))), rfl⟩
theorem ki_X8_mayWay : Cond.instanceMethod yX8_mayWay ∈ bigW := List.mem_filter.mpr ⟨List.mem_append_right _ (List.mem_append_right _ (List.mem_append_right _ (List.mem_append_right _ (List.mem_append_left _ (List.mem_of_getElem? (i := 47) rfl))))), rfl⟩
theorem kc_X8_mayWay : Cond.code yX8_mayWay cX8_mayWay 8 (some .boolean) ∈ bigW := List.mem_filter.mpr ⟨List.mem_append_right _ (List.mem_append_right _ (List.mem_append_right _ (List.mem_append_right _ (List.mem_append_left _ (List.mem_of_getElem? (i := 48) rfl))))), rfl⟩
theorem km_X8_141 : Cond.methodLink RX8 141 yX8_besides ∈ bigW := List.mem_filter.mpr ⟨List.mem_append_right _ (List.mem_append_right _ (List.mem_append_right _ (List.mem_append_right _ (List.mem_append_left _ (List.mem_of_getElem? (i := 49) rfl))))), rfl⟩
theorem ki_X8_besides : Cond.instanceMethod yX8_besides ∈ bigW := List.mem_filter.mpr ⟨List.mem_append_right _ (List.mem_append_right _ (List.mem_append_right _ (List.mem_append_right _ (List.mem_append_left _ (List.mem_of_getElem? (i := 51) rfl))))), rfl⟩
theorem kc_X8_besides : Cond.code yX8_besides cX8_besides 4 (some .int) ∈ bigW := List.mem_filter.mpr ⟨List.mem_append_right _ (List.mem_append_right _ (List.mem_append_right _ (List.mem_append_right _ (List.mem_append_left _ (List.mem_of_getElem? (i := 52) rfl))))), rfl⟩
theorem km_X8_144 : Cond.methodLink RX8 144 yX8_mayOver ∈ bigW := List.mem_filter.mpr ⟨List.mem_append_right _ (List.mem_append_right _ (List.mem_append_right _ (List.mem_append_right _ (List.mem_append_left _ (List.mem_of_getElem? (i := 53) rfl))))), rfl⟩
theorem ki_X8_mayOver : Cond.instanceMethod yX8_mayOver ∈ bigW := List.mem_filter.mpr ⟨List.mem_append_right _ (List.mem_append_right _ (List.mem_append_right _ (List.mem_append_right _ (List.mem_append_left _ (List.mem_of_getElem? (i := 55) rfl))))), rfl⟩
theorem kc_X8_mayOver : Cond.code yX8_mayOver cX8_mayOver 3 (some .boolean) ∈ bigW := List.mem_filter.mpr ⟨List.mem_append_right _ (List.mem_append_right _ (List.mem_append_right _ (List.mem_append_right _ (List.mem_append_left _ (List.mem_of_getElem? (i := 56) rfl))))), rfl⟩
theorem km_L_58 : Cond.methodLink RL 58 yX8_moves ∈ bigW := List.mem_filter.mpr ⟨List.mem_append_right _ (List.mem_append_right _ (List.mem_append_right _ (List.mem_append_right _ (List.mem_append_left _ (List.mem_of_getElem? (i := 57) rfl))))), rfl⟩
theorem ki_X8_moves : Cond.instanceMethod yX8_moves ∈ bigW := List.mem_filter.mpr ⟨List.mem_append_right _ (List.mem_append_right _ (List.mem_append_right _ (List.mem_append_right _ (List.mem_append_left _ (List.mem_of_getElem? (i := 58) rfl))))), rfl⟩
theorem kv_X8_moves : Cond.selects RX8 yX8_moves yX8_moves ∈ bigW := List.mem_filter.mpr ⟨List.mem_append_right _ (List.mem_append_right _ (List.mem_append_right _ (List.mem_append_right _ (List.mem_append_left _ (List.mem_of_getElem? (i := 59) rfl))))), rfl⟩
theorem kc_X8_moves : Cond.code yX8_moves cX8_moves 1 (some .int) ∈ bigW := List.mem_filter.mpr ⟨List.mem_append_right _ (List.mem_append_right _ (List.mem_append_right _ (List.mem_append_right _ (List.mem_append_left _ (List.mem_of_getElem? (i := 60) rfl))))), rfl⟩
theorem km_X8_157 : Cond.methodLink RX8 157 yX8_moveMany ∈ bigW := List.mem_filter.mpr ⟨List.mem_append_right _ (List.mem_append_right _ (List.mem_append_right _ (List.mem_append_right _ (List.mem_append_left _ (List.mem_of_getElem? (i := 61) rfl))))), rfl⟩
theorem ki_X8_moveMany : Cond.instanceMethod yX8_moveMany ∈ bigW := List.mem_filter.mpr ⟨List.mem_append_right _ (List.mem_append_right _ (List.mem_append_right _ (List.mem_append_right _ (List.mem_append_left _ (List.mem_of_getElem? (i := 63) rfl))))), rfl⟩
theorem kc_X8_moveMany : Cond.code yX8_moveMany cX8_moveMany 4 (some .int) ∈ bigW := List.mem_filter.mpr ⟨List.mem_append_right _ (List.mem_append_right _ (List.mem_append_right _ (List.mem_append_right _ (List.mem_append_left _ (List.mem_of_getElem? (i := 64) rfl))))), rfl⟩
theorem km_L_62 : Cond.methodLink RL 62 yX8_move ∈ bigW := List.mem_filter.mpr ⟨List.mem_append_right _ (List.mem_append_right _ (List.mem_append_right _ (List.mem_append_right _ (List.mem_append_left _ (List.mem_of_getElem? (i := 65) rfl))))), rfl⟩
theorem ki_X8_move : Cond.instanceMethod yX8_move ∈ bigW := List.mem_filter.mpr ⟨List.mem_append_right _ (List.mem_append_right _ (List.mem_append_right _ (List.mem_append_right _ (List.mem_append_left _ (List.mem_of_getElem? (i := 66) rfl))))), rfl⟩
theorem kv_X8_move : Cond.selects RX8 yX8_move yX8_move ∈ bigW := List.mem_filter.mpr ⟨List.mem_append_right _ (List.mem_append_right _ (List.mem_append_right _ (List.mem_append_right _ (List.mem_append_left _ (List.mem_of_getElem? (i := 67) rfl))))), rfl⟩
theorem kc_X8_move : Cond.code yX8_move cX8_move 3 (some .int) ∈ bigW := List.mem_filter.mpr ⟨List.mem_append_right _ (List.mem_append_right _ (List.mem_append_right _ (List.mem_append_right _ (List.mem_append_left _ (List.mem_of_getElem? (i := 68) rfl))))), rfl⟩
theorem km_X8_161 : Cond.methodLink RX8 161 yX8_moveNow ∈ bigW := List.mem_filter.mpr ⟨List.mem_append_right _ (List.mem_append_right _ (List.mem_append_right _ (List.mem_append_right _ (List.mem_append_left _ (List.mem_of_getElem? (i := 69) rfl))))), rfl⟩
theorem ki_X8_moveNow : Cond.instanceMethod yX8_moveNow ∈ bigW := List.mem_filter.mpr ⟨List.mem_append_right _ (List.mem_append_right _ (List.mem_append_right _ (List.mem_append_right _ (List.mem_append_left _ (List.mem_of_getElem? (i := 71) rfl))))), rfl⟩
theorem kc_X8_moveNow : Cond.code yX8_moveNow cX8_moveNow 3 none ∈ bigW := List.mem_filter.mpr ⟨List.mem_append_right _ (List.mem_append_right _ (List.mem_append_right _ (List.mem_append_right _ (List.mem_append_left _ (List.mem_of_getElem? (i := 72) rfl))))), rfl⟩
theorem km_L_66 : Cond.methodLink RL 66 yX8_back ∈ bigW := List.mem_filter.mpr ⟨List.mem_append_right _ (List.mem_append_right _ (List.mem_append_right _ (List.mem_append_right _ (List.mem_append_left _ (List.mem_of_getElem? (i := 73) rfl))))), rfl⟩
theorem ki_X8_back : Cond.instanceMethod yX8_back ∈ bigW := List.mem_filter.mpr ⟨List.mem_append_right _ (List.mem_append_right _ (List.mem_append_right _ (List.mem_append_right _ (List.mem_append_left _ (List.mem_of_getElem? (i := 74) rfl))))), rfl⟩
theorem kv_X8_back : Cond.selects RX8 yX8_back yX8_back ∈ bigW := List.mem_filter.mpr ⟨List.mem_append_right _ (List.mem_append_right _ (List.mem_append_right _ (List.mem_append_right _ (List.mem_append_left _ (List.mem_of_getElem? (i := 75) rfl))))), rfl⟩
theorem kc_X8_back : Cond.code yX8_back cX8_back 1 (some .int) ∈ bigW := List.mem_filter.mpr ⟨List.mem_append_right _ (List.mem_append_right _ (List.mem_append_right _ (List.mem_append_right _ (List.mem_append_left _ (List.mem_of_getElem? (i := 76) rfl))))), rfl⟩
theorem km_L_70 : Cond.methodLink RL 70 yX8_fewest ∈ bigW := List.mem_filter.mpr ⟨List.mem_append_right _ (List.mem_append_right _ (List.mem_append_right _ (List.mem_append_right _ (List.mem_append_left _ (List.mem_of_getElem? (i := 77) rfl))))), rfl⟩
theorem ki_X8_fewest : Cond.instanceMethod yX8_fewest ∈ bigW := List.mem_filter.mpr ⟨List.mem_append_right _ (List.mem_append_right _ (List.mem_append_right _ (List.mem_append_right _ (List.mem_append_left _ (List.mem_of_getElem? (i := 78) rfl))))), rfl⟩
theorem kv_X8_fewest : Cond.selects RX8 yX8_fewest yX8_fewest ∈ bigW := List.mem_filter.mpr ⟨List.mem_append_right _ (List.mem_append_right _ (List.mem_append_right _ (List.mem_append_right _ (List.mem_append_left _ (List.mem_of_getElem? (i := 79) rfl))))), rfl⟩
theorem kc_X8_fewest : Cond.code yX8_fewest cX8_fewest 2 (some .int) ∈ bigW := List.mem_filter.mpr ⟨List.mem_append_right _ (List.mem_append_right _ (List.mem_append_right _ (List.mem_append_right _ (List.mem_append_left _ (List.mem_of_getElem? (i := 80) rfl))))), rfl⟩
theorem km_X8_200 : Cond.methodLink RX8 200 yX8_fewestNow ∈ bigW := List.mem_filter.mpr ⟨List.mem_append_right _ (List.mem_append_right _ (List.mem_append_right _ (List.mem_append_right _ (List.mem_append_left _ (List.mem_of_getElem? (i := 81) rfl))))), rfl⟩
theorem ki_X8_fewestNow : Cond.instanceMethod yX8_fewestNow ∈ bigW := List.mem_filter.mpr ⟨List.mem_append_right _ (List.mem_append_right _ (List.mem_append_right _ (List.mem_append_right _ (List.mem_append_left _ (List.mem_of_getElem? (i := 83) rfl))))), rfl⟩
theorem kc_X8_fewestNow : Cond.code yX8_fewestNow cX8_fewestNow 7 (some .int) ∈ bigW := List.mem_filter.mpr ⟨List.mem_append_right _ (List.mem_append_right _ (List.mem_append_right _ (List.mem_append_right _ (List.mem_append_left _ (List.mem_of_getElem? (i := 84) rfl))))), rfl⟩
theorem km_X8_194 : Cond.methodLink RX8 194 yX8_goal ∈ bigW := List.mem_filter.mpr ⟨List.mem_append_right _ (List.mem_append_right _ (List.mem_append_right _ (List.mem_append_right _ (List.mem_append_left _ (List.mem_of_getElem? (i := 85) rfl))))), rfl⟩
theorem ki_X8_goal : Cond.instanceMethod yX8_goal ∈ bigW := List.mem_filter.mpr ⟨List.mem_append_right _ (List.mem_append_right _ (List.mem_append_right _ (List.mem_append_right _ (List.mem_append_left _ (List.mem_of_getElem? (i := 87) rfl))))), rfl⟩
theorem kc_X8_goal : Cond.code yX8_goal cX8_goal 1 (some .int) ∈ bigW := List.mem_filter.mpr ⟨List.mem_append_right _ (List.mem_append_right _ (List.mem_append_right _ (List.mem_append_right _ (List.mem_append_left _ (List.mem_of_getElem? (i := 88) rfl))))), rfl⟩
theorem km_X8_185 : Cond.methodLink RX8 185 yX8_layRead ∈ bigW := List.mem_filter.mpr ⟨List.mem_append_right _ (List.mem_append_right _ (List.mem_append_right _ (List.mem_append_right _ (List.mem_append_left _ (List.mem_of_getElem? (i := 89) rfl))))), rfl⟩
theorem ki_X8_layRead : Cond.instanceMethod yX8_layRead ∈ bigW := List.mem_filter.mpr ⟨List.mem_append_right _ (List.mem_append_right _ (List.mem_append_right _ (List.mem_append_right _ (List.mem_append_left _ (List.mem_of_getElem? (i := 91) rfl))))), rfl⟩
theorem kc_X8_layRead : Cond.code yX8_layRead cX8_layRead 2 none ∈ bigW := List.mem_filter.mpr ⟨List.mem_append_right _ (List.mem_append_right _ (List.mem_append_right _ (List.mem_append_right _ (List.mem_append_left _ (List.mem_of_getElem? (i := 92) rfl))))), rfl⟩
theorem km_X8_188 : Cond.methodLink RX8 188 yX8_turnedCode ∈ bigW := List.mem_filter.mpr ⟨List.mem_append_right _ (List.mem_append_right _ (List.mem_append_right _ (List.mem_append_right _ (List.mem_append_left _ (List.mem_of_getElem? (i := 93) rfl))))), rfl⟩
theorem ki_X8_turnedCode : Cond.instanceMethod yX8_turnedCode ∈ bigW := List.mem_filter.mpr ⟨List.mem_append_right _ (List.mem_append_right _ (List.mem_append_right _ (List.mem_append_right _ (List.mem_append_left _ (List.mem_of_getElem? (i := 95) rfl))))), rfl⟩
theorem kc_X8_turnedCode : Cond.code yX8_turnedCode cX8_turnedCode 3 (some .int) ∈ bigW := List.mem_filter.mpr ⟨List.mem_append_right _ (List.mem_append_right _ (List.mem_append_right _ (List.mem_append_right _ (List.mem_append_left _ (List.mem_of_getElem? (i := 96) rfl))))), rfl⟩
theorem km_X8_197 : Cond.methodLink RX8 197 yX8_farTo ∈ bigW := List.mem_filter.mpr ⟨List.mem_append_right _ (List.mem_append_right _ (List.mem_append_right _ (List.mem_append_right _ (List.mem_append_left _ (List.mem_of_getElem? (i := 97) rfl))))), rfl⟩
theorem ki_X8_farTo : Cond.instanceMethod yX8_farTo ∈ bigW := List.mem_filter.mpr ⟨List.mem_append_right _ (List.mem_append_right _ (List.mem_append_right _ (List.mem_append_right _ (List.mem_append_left _ (List.mem_of_getElem? (i := 99) rfl))))), rfl⟩
theorem kc_X8_farTo : Cond.code yX8_farTo cX8_farTo 2 (some .int) ∈ bigW := List.mem_filter.mpr ⟨List.mem_append_right _ (List.mem_append_right _ (List.mem_append_right _ (List.mem_append_right _ (List.mem_append_left _ (List.mem_of_getElem? (i := 100) rfl))))), rfl⟩
theorem km_X8_191 : Cond.methodLink RX8 191 yX8_layFar ∈ bigW := List.mem_filter.mpr ⟨List.mem_append_right _ (List.mem_append_right _ (List.mem_append_right _ (List.mem_append_right _ (List.mem_append_left _ (List.mem_of_getElem? (i := 101) rfl))))), rfl⟩
theorem ki_X8_layFar : Cond.instanceMethod yX8_layFar ∈ bigW := List.mem_filter.mpr ⟨List.mem_append_right _ (List.mem_append_right _ (List.mem_append_right _ (List.mem_append_right _ (List.mem_append_left _ (List.mem_of_getElem? (i := 103) rfl))))), rfl⟩
theorem kc_X8_layFar : Cond.code yX8_layFar cX8_layFar 5 none ∈ bigW := List.mem_filter.mpr ⟨List.mem_append_right _ (List.mem_append_right _ (List.mem_append_right _ (List.mem_append_right _ (List.mem_append_left _ (List.mem_of_getElem? (i := 104) rfl))))), rfl⟩
theorem km_X8_171 : Cond.methodLink RX8 171 yX8_codeOf ∈ bigW := List.mem_filter.mpr ⟨List.mem_append_right _ (List.mem_append_right _ (List.mem_append_right _ (List.mem_append_right _ (List.mem_append_left _ (List.mem_of_getElem? (i := 105) rfl))))), rfl⟩
theorem ki_X8_codeOf : Cond.instanceMethod yX8_codeOf ∈ bigW := List.mem_filter.mpr ⟨List.mem_append_right _ (List.mem_append_right _ (List.mem_append_right _ (List.mem_append_right _ (List.mem_append_left _ (List.mem_of_getElem? (i := 107) rfl))))), rfl⟩
theorem kc_X8_codeOf : Cond.code yX8_codeOf cX8_codeOf 3 (some .int) ∈ bigW := List.mem_filter.mpr ⟨List.mem_append_right _ (List.mem_append_right _ (List.mem_append_right _ (List.mem_append_right _ (List.mem_append_left _ (List.mem_of_getElem? (i := 108) rfl))))), rfl⟩
theorem km_X8_174 : Cond.methodLink RX8 174 yX8_come ∈ bigW := List.mem_filter.mpr ⟨List.mem_append_right _ (List.mem_append_right _ (List.mem_append_right _ (List.mem_append_right _ (List.mem_append_left _ (List.mem_of_getElem? (i := 109) rfl))))), rfl⟩
theorem ki_X8_come : Cond.instanceMethod yX8_come ∈ bigW := List.mem_filter.mpr ⟨List.mem_append_right _ (List.mem_append_right _ (List.mem_append_right _ (List.mem_append_right _ (List.mem_append_left _ (List.mem_of_getElem? (i := 111) rfl))))), rfl⟩
theorem kc_X8_come : Cond.code yX8_come cX8_come 3 none ∈ bigW := List.mem_filter.mpr ⟨List.mem_append_right _ (List.mem_append_right _ (List.mem_append_right _ (List.mem_append_right _ (List.mem_append_left _ (List.mem_of_getElem? (i := 112) rfl))))), rfl⟩
theorem km_X8_177 : Cond.methodLink RX8 177 yX8_layRow ∈ bigW := List.mem_filter.mpr ⟨List.mem_append_right _ (List.mem_append_right _ (List.mem_append_right _ (List.mem_append_right _ (List.mem_append_left _ (List.mem_of_getElem? (i := 113) rfl))))), rfl⟩
theorem ki_X8_layRow : Cond.instanceMethod yX8_layRow ∈ bigW := List.mem_filter.mpr ⟨List.mem_append_right _ (List.mem_append_right _ (List.mem_append_right _ (List.mem_append_right _ (List.mem_append_left _ (List.mem_of_getElem? (i := 115) rfl))))), rfl⟩
theorem kc_X8_layRow : Cond.code yX8_layRow cX8_layRow 4 none ∈ bigW := List.mem_filter.mpr ⟨List.mem_append_right _ (List.mem_append_right _ (List.mem_append_right _ (List.mem_append_right _ (List.mem_append_left _ (List.mem_of_getElem? (i := 116) rfl))))), rfl⟩
theorem km_X8_181 : Cond.methodLink RX8 181 yX8_behindMove ∈ bigW := List.mem_filter.mpr ⟨List.mem_append_right _ (List.mem_append_right _ (List.mem_append_right _ (List.mem_append_right _ (List.mem_append_left _ (List.mem_of_getElem? (i := 117) rfl))))), rfl⟩
theorem ks_X8_behindMove : Cond.static yX8_behindMove ∈ bigW := List.mem_filter.mpr ⟨List.mem_append_right _ (List.mem_append_right _ (List.mem_append_right _ (List.mem_append_right _ (List.mem_append_left _ (List.mem_of_getElem? (i := 118) rfl))))), rfl⟩
theorem kc_X8_behindMove : Cond.code yX8_behindMove cX8_behindMove 4 (some .int) ∈ bigW := List.mem_filter.mpr ⟨List.mem_append_right _ (List.mem_append_right _ (List.mem_append_right _ (List.mem_append_right _ (List.mem_append_left _ (List.mem_of_getElem? (i := 119) rfl))))), rfl⟩
theorem km_X8_165 : Cond.methodLink RX8 165 yX8_power ∈ bigW := List.mem_filter.mpr ⟨List.mem_append_right _ (List.mem_append_right _ (List.mem_append_right _ (List.mem_append_right _ (List.mem_append_left _ (List.mem_of_getElem? (i := 120) rfl))))), rfl⟩
theorem ks_X8_power : Cond.static yX8_power ∈ bigW := List.mem_filter.mpr ⟨List.mem_append_right _ (List.mem_append_right _ (List.mem_append_right _ (List.mem_append_right _ (List.mem_append_left _ (List.mem_of_getElem? (i := 121) rfl))))), rfl⟩
theorem kc_X8_power : Cond.code yX8_power cX8_power 3 (some .int) ∈ bigW := List.mem_filter.mpr ⟨List.mem_append_right _ (List.mem_append_right _ (List.mem_append_right _ (List.mem_append_right _ (List.mem_append_left _ (List.mem_of_getElem? (i := 122) rfl))))), rfl⟩
theorem km_L_74 : Cond.methodLink RL 74 yX8_ways ∈ bigW := List.mem_filter.mpr ⟨List.mem_append_right _ (List.mem_append_right _ (List.mem_append_right _ (List.mem_append_right _ (List.mem_append_left _ (List.mem_of_getElem? (i := 123) rfl))))), rfl⟩
theorem ki_X8_ways : Cond.instanceMethod yX8_ways ∈ bigW := List.mem_filter.mpr ⟨List.mem_append_right _ (List.mem_append_right _ (List.mem_append_right _ (List.mem_append_right _ (List.mem_append_left _ (List.mem_of_getElem? (i := 124) rfl))))), rfl⟩
theorem kv_X8_ways : Cond.selects RX8 yX8_ways yX8_ways ∈ bigW := List.mem_filter.mpr ⟨List.mem_append_right _ (List.mem_append_right _ (List.mem_append_right _ (List.mem_append_right _ (List.mem_append_left _ (List.mem_of_getElem? (i := 125) rfl))))), rfl⟩
theorem kc_X8_ways : Cond.code yX8_ways cX8_ways 1 (some .int) ∈ bigW := List.mem_filter.mpr ⟨List.mem_append_right _ (List.mem_append_right _ (List.mem_append_right _ (List.mem_append_right _ (List.mem_append_left _ (List.mem_of_getElem? (i := 126) rfl))))), rfl⟩
theorem km_X8_203 : Cond.methodLink RX8 203 yX8_waysNow ∈ bigW := List.mem_filter.mpr ⟨List.mem_append_right _ (List.mem_append_right _ (List.mem_append_right _ (List.mem_append_right _ (List.mem_append_left _ (List.mem_of_getElem? (i := 127) rfl))))), rfl⟩
theorem ki_X8_waysNow : Cond.instanceMethod yX8_waysNow ∈ bigW := List.mem_filter.mpr ⟨List.mem_append_right _ (List.mem_append_right _ (List.mem_append_right _ (List.mem_append_right _ (List.mem_append_left _ (List.mem_of_getElem? (i := 129) rfl))))), rfl⟩
theorem kc_X8_waysNow : Cond.code yX8_waysNow cX8_waysNow 2 (some .int) ∈ bigW := List.mem_filter.mpr ⟨List.mem_append_right _ (List.mem_append_right _ (List.mem_append_right _ (List.mem_append_right _ (List.mem_append_left _ (List.mem_of_getElem? (i := 130) rfl))))), rfl⟩
theorem km_L_78 : Cond.methodLink RL 78 yX8_wrong ∈ bigW := List.mem_filter.mpr ⟨List.mem_append_right _ (List.mem_append_right _ (List.mem_append_right _ (List.mem_append_right _ (List.mem_append_left _ (List.mem_of_getElem? (i := 131) rfl))))), rfl⟩
theorem ki_X8_wrong : Cond.instanceMethod yX8_wrong ∈ bigW := List.mem_filter.mpr ⟨List.mem_append_right _ (List.mem_append_right _ (List.mem_append_right _ (List.mem_append_right _ (List.mem_append_left _ (List.mem_of_getElem? (i := 132) rfl))))), rfl⟩
theorem kv_X8_wrong : Cond.selects RX8 yX8_wrong yX8_wrong ∈ bigW := List.mem_filter.mpr ⟨List.mem_append_right _ (List.mem_append_right _ (List.mem_append_right _ (List.mem_append_right _ (List.mem_append_left _ (List.mem_of_getElem? (i := 133) rfl))))), rfl⟩
theorem kc_X8_wrong : Cond.code yX8_wrong cX8_wrong 1 (some .int) ∈ bigW := List.mem_filter.mpr ⟨List.mem_append_right _ (List.mem_append_right _ (List.mem_append_right _ (List.mem_append_right _ (List.mem_append_left _ (List.mem_of_getElem? (i := 134) rfl))))), rfl⟩
theorem km_X8_206 : Cond.methodLink RX8 206 yX8_wrongNow ∈ bigW := List.mem_filter.mpr ⟨List.mem_append_right _ (List.mem_append_right _ (List.mem_append_right _ (List.mem_append_right _ (List.mem_append_left _ (List.mem_of_getElem? (i := 135) rfl))))), rfl⟩
theorem ki_X8_wrongNow : Cond.instanceMethod yX8_wrongNow ∈ bigW := List.mem_filter.mpr ⟨List.mem_append_right _ (List.mem_append_right _ (List.mem_append_right _ (List.mem_append_right _ (List.mem_append_left _ (List.mem_of_getElem? (i := 137) rfl))))), rfl⟩
theorem kc_X8_wrongNow : Cond.code yX8_wrongNow cX8_wrongNow 4 (some .int) ∈ bigW := List.mem_filter.mpr ⟨List.mem_append_right _ (List.mem_append_right _ (List.mem_append_right _ (List.mem_append_right _ (List.mem_append_left _ (List.mem_of_getElem? (i := 138) rfl))))), rfl⟩
theorem km_L_82 : Cond.methodLink RL 82 yX8_ends ∈ bigW := List.mem_filter.mpr ⟨List.mem_append_right _ (List.mem_append_right _ (List.mem_append_right _ (List.mem_append_right _ (List.mem_append_left _ (List.mem_of_getElem? (i := 139) rfl))))), rfl⟩
theorem ki_X8_ends : Cond.instanceMethod yX8_ends ∈ bigW := List.mem_filter.mpr ⟨List.mem_append_right _ (List.mem_append_right _ (List.mem_append_right _ (List.mem_append_right _ (List.mem_append_left _ (List.mem_of_getElem? (i := 140) rfl))))), rfl⟩
theorem kv_X8_ends : Cond.selects RX8 yX8_ends yX8_ends ∈ bigW := List.mem_filter.mpr ⟨List.mem_append_right _ (List.mem_append_right _ (List.mem_append_right _ (List.mem_append_right _ (List.mem_append_left _ (List.mem_of_getElem? (i := 141) rfl))))), rfl⟩
theorem kc_X8_ends : Cond.code yX8_ends cX8_ends 1 (some .int) ∈ bigW := List.mem_filter.mpr ⟨List.mem_append_right _ (List.mem_append_right _ (List.mem_append_right _ (List.mem_append_right _ (List.mem_append_left _ (List.mem_of_getElem? (i := 142) rfl))))), rfl⟩
theorem km_X8_215 : Cond.methodLink RX8 215 yX8_layEnds ∈ bigW := List.mem_filter.mpr ⟨List.mem_append_right _ (List.mem_append_right _ (List.mem_append_right _ (List.mem_append_right _ (List.mem_append_left _ (List.mem_of_getElem? (i := 143) rfl))))), rfl⟩
theorem ki_X8_layEnds : Cond.instanceMethod yX8_layEnds ∈ bigW := List.mem_filter.mpr ⟨List.mem_append_right _ (List.mem_append_right _ (List.mem_append_right _ (List.mem_append_right _ (List.mem_append_left _ (List.mem_of_getElem? (i := 145) rfl))))), rfl⟩
theorem kc_X8_layEnds : Cond.code yX8_layEnds cX8_layEnds 2 none ∈ bigW := List.mem_filter.mpr ⟨List.mem_append_right _ (List.mem_append_right _ (List.mem_append_right _ (List.mem_append_right _ (List.mem_append_left _ (List.mem_of_getElem? (i := 146) rfl))))), rfl⟩
theorem km_L_86 : Cond.methodLink RL 86 yX8_soon ∈ bigW := List.mem_filter.mpr ⟨List.mem_append_right _ (List.mem_append_right _ (List.mem_append_right _ (List.mem_append_right _ (List.mem_append_left _ (List.mem_of_getElem? (i := 147) rfl))))), rfl⟩
theorem ki_X8_soon : Cond.instanceMethod yX8_soon ∈ bigW := List.mem_filter.mpr ⟨List.mem_append_right _ (List.mem_append_right _ (List.mem_append_right _ (List.mem_append_right _ (List.mem_append_left _ (List.mem_of_getElem? (i := 148) rfl))))), rfl⟩
theorem kv_X8_soon : Cond.selects RX8 yX8_soon yX8_soon ∈ bigW := List.mem_filter.mpr ⟨List.mem_append_right _ (List.mem_append_right _ (List.mem_append_right _ (List.mem_append_right _ (List.mem_append_left _ (List.mem_of_getElem? (i := 149) rfl))))), rfl⟩
theorem kc_X8_soon : Cond.code yX8_soon cX8_soon 1 (some .int) ∈ bigW := List.mem_filter.mpr ⟨List.mem_append_right _ (List.mem_append_right _ (List.mem_append_right _ (List.mem_append_right _ (List.mem_append_left _ (List.mem_of_getElem? (i := 150) rfl))))), rfl⟩
theorem km_L_90 : Cond.methodLink RL 90 yX8_comes ∈ bigW := List.mem_filter.mpr ⟨List.mem_append_right _ (List.mem_append_right _ (List.mem_append_right _ (List.mem_append_right _ (List.mem_append_left _ (List.mem_of_getElem? (i := 151) rfl))))), rfl⟩
theorem ki_X8_comes : Cond.instanceMethod yX8_comes ∈ bigW := List.mem_filter.mpr ⟨List.mem_append_right _ (List.mem_append_right _ (List.mem_append_right _ (List.mem_append_right _ (List.mem_append_left _ (List.mem_of_getElem? (i := 152) rfl))))), rfl⟩
theorem kv_X8_comes : Cond.selects RX8 yX8_comes yX8_comes ∈ bigW := List.mem_filter.mpr ⟨List.mem_append_right _ (List.mem_append_right _ (List.mem_append_right _ (List.mem_append_right _ (List.mem_append_left _ (List.mem_of_getElem? (i := 153) rfl))))), rfl⟩
theorem kc_X8_comes : Cond.code yX8_comes cX8_comes 3 (some .int) ∈ bigW := List.mem_filter.mpr ⟨List.mem_append_right _ (List.mem_append_right _ (List.mem_append_right _ (List.mem_append_right _ (List.mem_append_left _ (List.mem_of_getElem? (i := 154) rfl))))), rfl⟩
theorem km_L_94 : Cond.methodLink RL 94 yX8_more ∈ bigW := List.mem_filter.mpr ⟨List.mem_append_right _ (List.mem_append_right _ (List.mem_append_right _ (List.mem_append_right _ (List.mem_append_left _ (List.mem_of_getElem? (i := 155) rfl))))), rfl⟩
theorem ki_X8_more : Cond.instanceMethod yX8_more ∈ bigW := List.mem_filter.mpr ⟨List.mem_append_right _ (List.mem_append_right _ (List.mem_append_right _ (List.mem_append_right _ (List.mem_append_left _ (List.mem_of_getElem? (i := 156) rfl))))), rfl⟩
theorem kv_X8_more : Cond.selects RX8 yX8_more yX8_more ∈ bigW := List.mem_filter.mpr ⟨List.mem_append_right _ (List.mem_append_right _ (List.mem_append_right _ (List.mem_append_right _ (List.mem_append_left _ (List.mem_of_getElem? (i := 157) rfl))))), rfl⟩
theorem kc_X8_more : Cond.code yX8_more cX8_more 2 (some .int) ∈ bigW := List.mem_filter.mpr ⟨List.mem_append_right _ (List.mem_append_right _ (List.mem_append_right _ (List.mem_append_right _ (List.mem_append_left _ (List.mem_of_getElem? (i := 158) rfl))))), rfl⟩
theorem km_X8_221 : Cond.methodLink RX8 221 yX8_moreNow ∈ bigW := List.mem_filter.mpr ⟨List.mem_append_right _ (List.mem_append_right _ (List.mem_append_right _ (List.mem_append_right _ (List.mem_append_left _ (List.mem_of_getElem? (i := 159) rfl))))), rfl⟩
theorem ki_X8_moreNow : Cond.instanceMethod yX8_moreNow ∈ bigW := List.mem_filter.mpr ⟨List.mem_append_right _ (List.mem_append_right _ (List.mem_append_right _ (List.mem_append_right _ (List.mem_append_left _ (List.mem_of_getElem? (i := 161) rfl))))), rfl⟩
theorem kc_X8_moreNow : Cond.code yX8_moreNow cX8_moreNow 6 (some .int) ∈ bigW := List.mem_filter.mpr ⟨List.mem_append_right _ (List.mem_append_right _ (List.mem_append_right _ (List.mem_append_right _ (List.mem_append_left _ (List.mem_of_getElem? (i := 162) rfl))))), rfl⟩
theorem km_X8_218 : Cond.methodLink RX8 218 yX8_turns ∈ bigW := List.mem_filter.mpr ⟨List.mem_append_right _ (List.mem_append_right _ (List.mem_append_right _ (List.mem_append_right _ (List.mem_append_left _ (List.mem_of_getElem? (i := 163) rfl))))), rfl⟩
theorem ki_X8_turns : Cond.instanceMethod yX8_turns ∈ bigW := List.mem_filter.mpr ⟨List.mem_append_right _ (List.mem_append_right _ (List.mem_append_right _ (List.mem_append_right _ (List.mem_append_left _ (List.mem_of_getElem? (i := 165) rfl))))), rfl⟩
theorem kc_X8_turns : Cond.code yX8_turns cX8_turns 1 (some .int) ∈ bigW := List.mem_filter.mpr ⟨List.mem_append_right _ (List.mem_append_right _ (List.mem_append_right _ (List.mem_append_right _ (List.mem_append_left _ (List.mem_of_getElem? (i := 166) rfl))))), rfl⟩
theorem km_L_98 : Cond.methodLink RL 98 yX8_off ∈ bigW := List.mem_filter.mpr ⟨List.mem_append_right _ (List.mem_append_right _ (List.mem_append_right _ (List.mem_append_right _ (List.mem_append_left _ (List.mem_of_getElem? (i := 167) rfl))))), rfl⟩
theorem ki_X8_off : Cond.instanceMethod yX8_off ∈ bigW := List.mem_filter.mpr ⟨List.mem_append_right _ (List.mem_append_right _ (List.mem_append_right _ (List.mem_append_right _ (List.mem_append_left _ (List.mem_of_getElem? (i := 168) rfl))))), rfl⟩
theorem kv_X8_off : Cond.selects RX8 yX8_off yX8_off ∈ bigW := List.mem_filter.mpr ⟨List.mem_append_right _ (List.mem_append_right _ (List.mem_append_right _ (List.mem_append_right _ (List.mem_append_left _ (List.mem_of_getElem? (i := 169) rfl))))), rfl⟩
theorem kc_X8_off : Cond.code yX8_off cX8_off 2 (some .int) ∈ bigW := List.mem_filter.mpr ⟨List.mem_append_right _ (List.mem_append_right _ (List.mem_append_right _ (List.mem_append_right _ (List.mem_append_left _ (List.mem_of_getElem? (i := 170) rfl))))), rfl⟩
theorem km_X8_224 : Cond.methodLink RX8 224 yX8_offNow ∈ bigW := List.mem_filter.mpr ⟨List.mem_append_right _ (List.mem_append_right _ (List.mem_append_right _ (List.mem_append_right _ (List.mem_append_left _ (List.mem_of_getElem? (i := 171) rfl))))), rfl⟩
theorem ki_X8_offNow : Cond.instanceMethod yX8_offNow ∈ bigW := List.mem_filter.mpr ⟨List.mem_append_right _ (List.mem_append_right _ (List.mem_append_right _ (List.mem_append_right _ (List.mem_append_left _ (List.mem_of_getElem? (i := 173) rfl))))), rfl⟩
theorem kc_X8_offNow : Cond.code yX8_offNow cX8_offNow 7 (some .int) ∈ bigW := List.mem_filter.mpr ⟨List.mem_append_right _ (List.mem_append_right _ (List.mem_append_right _ (List.mem_append_right _ (List.mem_append_left _ (List.mem_of_getElem? (i := 174) rfl))))), rfl⟩
theorem km_L_102 : Cond.methodLink RL 102 yX8_wins ∈ bigW := List.mem_filter.mpr ⟨List.mem_append_right _ (List.mem_append_right _ (List.mem_append_right _ (List.mem_append_right _ (List.mem_append_left _ (List.mem_of_getElem? (i := 175) rfl))))), rfl⟩
theorem ki_X8_wins : Cond.instanceMethod yX8_wins ∈ bigW := List.mem_filter.mpr ⟨List.mem_append_right _ (List.mem_append_right _ (List.mem_append_right _ (List.mem_append_right _ (List.mem_append_left _ (List.mem_of_getElem? (i := 176) rfl))))), rfl⟩
theorem kv_X8_wins : Cond.selects RX8 yX8_wins yX8_wins ∈ bigW := List.mem_filter.mpr ⟨List.mem_append_right _ (List.mem_append_right _ (List.mem_append_right _ (List.mem_append_right _ (List.mem_append_left _ (List.mem_of_getElem? (i := 177) rfl))))), rfl⟩
theorem kc_X8_wins : Cond.code yX8_wins cX8_wins 2 (some .int) ∈ bigW := List.mem_filter.mpr ⟨List.mem_append_right _ (List.mem_append_right _ (List.mem_append_right _ (List.mem_append_right _ (List.mem_append_left _ (List.mem_of_getElem? (i := 178) rfl))))), rfl⟩
theorem km_X8_239 : Cond.methodLink RX8 239 yX8_isGame ∈ bigW := List.mem_filter.mpr ⟨List.mem_append_right _ (List.mem_append_right _ (List.mem_append_right _ (List.mem_append_right _ (List.mem_append_left _ (List.mem_of_getElem? (i := 179) rfl))))), rfl⟩
theorem ki_X8_isGame : Cond.instanceMethod yX8_isGame ∈ bigW := List.mem_filter.mpr ⟨List.mem_append_right _ (List.mem_append_right _ (List.mem_append_right _ (List.mem_append_right _ (List.mem_append_left _ (List.mem_of_getElem? (i := 181) rfl))))), rfl⟩
theorem kc_X8_isGame : Cond.code yX8_isGame cX8_isGame 1 (some .boolean) ∈ bigW := List.mem_filter.mpr ⟨List.mem_append_right _ (List.mem_append_right _ (List.mem_append_right _ (List.mem_append_right _ (List.mem_append_left _ (List.mem_of_getElem? (i := 182) rfl))))), rfl⟩
theorem km_X8_243 : Cond.methodLink RX8 243 yX8_winsNow ∈ bigW := List.mem_filter.mpr ⟨List.mem_append_right _ (List.mem_append_right _ (List.mem_append_right _ (List.mem_append_right _ (List.mem_append_left _ (List.mem_of_getElem? (i := 183) rfl))))), rfl⟩
theorem ki_X8_winsNow : Cond.instanceMethod yX8_winsNow ∈ bigW := List.mem_filter.mpr ⟨List.mem_append_right _ (List.mem_append_right _ (List.mem_append_right _ (List.mem_append_right _ (List.mem_append_left _ (List.mem_of_getElem? (i := 185) rfl))))), rfl⟩
theorem kc_X8_winsNow : Cond.code yX8_winsNow cX8_winsNow 2 (some .int) ∈ bigW := List.mem_filter.mpr ⟨List.mem_append_right _ (List.mem_append_right _ (List.mem_append_right _ (List.mem_append_right _ (List.mem_append_left _ (List.mem_of_getElem? (i := 186) rfl))))), rfl⟩
theorem km_X8_236 : Cond.methodLink RX8 236 yX8_layGame ∈ bigW := List.mem_filter.mpr ⟨List.mem_append_right _ (List.mem_append_right _ (List.mem_append_right _ (List.mem_append_right _ (List.mem_append_left _ (List.mem_of_getElem? (i := 187) rfl))))), rfl⟩
theorem ki_X8_layGame : Cond.instanceMethod yX8_layGame ∈ bigW := List.mem_filter.mpr ⟨List.mem_append_right _ (List.mem_append_right _ (List.mem_append_right _ (List.mem_append_right _ (List.mem_append_left _ (List.mem_of_getElem? (i := 189) rfl))))), rfl⟩
theorem kc_X8_layGame : Cond.code yX8_layGame cX8_layGame 6 none ∈ bigW := List.mem_filter.mpr ⟨List.mem_append_right _ (List.mem_append_right _ (List.mem_append_right _ (List.mem_append_right _ (List.mem_append_left _ (List.mem_of_getElem? (i := 190) rfl))))), rfl⟩
theorem km_X8_230 : Cond.methodLink RX8 230 yX8_progress ∈ bigW := List.mem_filter.mpr ⟨List.mem_append_right _ (List.mem_append_right _ (List.mem_append_right _ (List.mem_append_right _ (List.mem_append_left _ (List.mem_of_getElem? (i := 191) rfl))))), rfl⟩
theorem ki_X8_progress : Cond.instanceMethod yX8_progress ∈ bigW := List.mem_filter.mpr ⟨List.mem_append_right _ (List.mem_append_right _ (List.mem_append_right _ (List.mem_append_right _ (List.mem_append_left _ (List.mem_of_getElem? (i := 193) rfl))))), rfl⟩
theorem kc_X8_progress : Cond.code yX8_progress cX8_progress 6 (some .int) ∈ bigW := List.mem_filter.mpr ⟨List.mem_append_right _ (List.mem_append_right _ (List.mem_append_right _ (List.mem_append_right _ (List.mem_append_left _ (List.mem_of_getElem? (i := 194) rfl))))), rfl⟩
theorem km_X8_233 : Cond.methodLink RX8 233 yX8_winsBy ∈ bigW := List.mem_filter.mpr ⟨List.mem_append_right _ (List.mem_append_right _ (List.mem_append_right _ (List.mem_append_right _ (List.mem_append_left _ (List.mem_of_getElem? (i := 195) rfl))))), rfl⟩
theorem ki_X8_winsBy : Cond.instanceMethod yX8_winsBy ∈ bigW := List.mem_filter.mpr ⟨List.mem_append_right _ (List.mem_append_right _ (List.mem_append_right _ (List.mem_append_right _ (List.mem_append_left _ (List.mem_of_getElem? (i := 197) rfl))))), rfl⟩
theorem kc_X8_winsBy : Cond.code yX8_winsBy cX8_winsBy 5 (some .boolean) ∈ bigW := List.mem_filter.mpr ⟨List.mem_append_right _ (List.mem_append_right _ (List.mem_append_right _ (List.mem_append_right _ (List.mem_append_left _ (List.mem_of_getElem? (i := 198) rfl))))), rfl⟩
theorem km_X8_227 : Cond.methodLink RX8 227 yX8_isOf ∈ bigW := List.mem_filter.mpr ⟨List.mem_append_right _ (List.mem_append_right _ (List.mem_append_right _ (List.mem_append_right _ (List.mem_append_left _ (List.mem_of_getElem? (i := 199) rfl))))), rfl⟩
theorem ki_X8_isOf : Cond.instanceMethod yX8_isOf ∈ bigW := List.mem_filter.mpr ⟨List.mem_append_right _ (List.mem_append_right _ (List.mem_append_right _ (List.mem_append_right _ (List.mem_append_left _ (List.mem_of_getElem? (i := 201) rfl))))), rfl⟩
theorem kc_X8_isOf : Cond.code yX8_isOf cX8_isOf 3 (some .boolean) ∈ bigW := List.mem_filter.mpr ⟨List.mem_append_right _ (List.mem_append_right _ (List.mem_append_right _ (List.mem_append_right _ (List.mem_append_left _ (List.mem_of_getElem? (i := 202) rfl))))), rfl⟩
theorem km_L_106 : Cond.methodLink RL 106 yX8_by ∈ bigW := List.mem_filter.mpr ⟨List.mem_append_right _ (List.mem_append_right _ (List.mem_append_right _ (List.mem_append_right _ (List.mem_append_left _ (List.mem_of_getElem? (i := 203) rfl))))), rfl⟩
theorem ki_X8_by : Cond.instanceMethod yX8_by ∈ bigW := List.mem_filter.mpr ⟨List.mem_append_right _ (List.mem_append_right _ (List.mem_append_right _ (List.mem_append_right _ (List.mem_append_left _ (List.mem_of_getElem? (i := 204) rfl))))), rfl⟩
theorem kv_X8_by : Cond.selects RX8 yX8_by yX8_by ∈ bigW := List.mem_filter.mpr ⟨List.mem_append_right _ (List.mem_append_right _ (List.mem_append_right _ (List.mem_append_right _ (List.mem_append_left _ (List.mem_of_getElem? (i := 205) rfl))))), rfl⟩
theorem kc_X8_by : Cond.code yX8_by cX8_by 3 (some .int) ∈ bigW := List.mem_filter.mpr ⟨List.mem_append_right _ (List.mem_append_right _ (List.mem_append_right _ (List.mem_append_right _ (List.mem_append_left _ (List.mem_of_getElem? (i := 206) rfl))))), rfl⟩
theorem km_X8_246 : Cond.methodLink RX8 246 yX8_byNow ∈ bigW := List.mem_filter.mpr ⟨List.mem_append_right _ (List.mem_append_right _ (List.mem_append_right _ (List.mem_append_right _ (List.mem_append_left _ (List.mem_of_getElem? (i := 207) rfl))))), rfl⟩
theorem ki_X8_byNow : Cond.instanceMethod yX8_byNow ∈ bigW := List.mem_filter.mpr ⟨List.mem_append_right _ (List.mem_append_right _ (List.mem_append_right _ (List.mem_append_right _ (List.mem_append_left _ (List.mem_of_getElem? (i := 209) rfl))))), rfl⟩
theorem kc_X8_byNow : Cond.code yX8_byNow cX8_byNow 6 (some .int) ∈ bigW := List.mem_filter.mpr ⟨List.mem_append_right _ (List.mem_append_right _ (List.mem_append_right _ (List.mem_append_right _ (List.mem_append_left _ (List.mem_of_getElem? (i := 210) rfl))))), rfl⟩
theorem km_L_111 : Cond.methodLink RL 111 yX8_play ∈ bigW := List.mem_filter.mpr ⟨List.mem_append_right _ (List.mem_append_right _ (List.mem_append_right _ (List.mem_append_right _ (List.mem_append_left _ (List.mem_of_getElem? (i := 211) rfl))))), rfl⟩
theorem ki_X8_play : Cond.instanceMethod yX8_play ∈ bigW := List.mem_filter.mpr ⟨List.mem_append_right _ (List.mem_append_right _ (List.mem_append_right _ (List.mem_append_right _ (List.mem_append_left _ (List.mem_of_getElem? (i := 212) rfl))))), rfl⟩
theorem kv_X8_play : Cond.selects RX8 yX8_play yX8_play ∈ bigW := List.mem_filter.mpr ⟨List.mem_append_right _ (List.mem_append_right _ (List.mem_append_right _ (List.mem_append_right _ (List.mem_append_left _ (List.mem_of_getElem? (i := 213) rfl))))), rfl⟩
theorem kc_X8_play : Cond.code yX8_play cX8_play 4 (some .int) ∈ bigW := List.mem_filter.mpr ⟨List.mem_append_right _ (List.mem_append_right _ (List.mem_append_right _ (List.mem_append_right _ (List.mem_append_left _ (List.mem_of_getElem? (i := 214) rfl))))), rfl⟩
theorem km_X8_267 : Cond.methodLink RX8 267 yX8_playNow ∈ bigW := List.mem_filter.mpr ⟨List.mem_append_right _ (List.mem_append_right _ (List.mem_append_right _ (List.mem_append_right _ (List.mem_append_left _ (List.mem_of_getElem? (i := 215) rfl))))), rfl⟩
theorem ki_X8_playNow : Cond.instanceMethod yX8_playNow ∈ bigW := List.mem_filter.mpr ⟨List.mem_append_right _ (List.mem_append_right _ (List.mem_append_right _ (List.mem_append_right _ (List.mem_append_left _ (List.mem_of_getElem? (i := 217) rfl))))), rfl⟩
theorem kc_X8_playNow : Cond.code yX8_playNow cX8_playNow 8 (some .int) ∈ bigW := List.mem_filter.mpr ⟨List.mem_append_right _ (List.mem_append_right _ (List.mem_append_right _ (List.mem_append_right _ (List.mem_append_left _ (List.mem_of_getElem? (i := 218) rfl))))), rfl⟩
theorem km_X8_261 : Cond.methodLink RX8 261 yX8_draw ∈ bigW := List.mem_filter.mpr ⟨List.mem_append_right _ (List.mem_append_right _ (List.mem_append_right _ (List.mem_append_right _ (List.mem_append_left _ (List.mem_of_getElem? (i := 219) rfl))))), rfl⟩
theorem ki_X8_draw : Cond.instanceMethod yX8_draw ∈ bigW := List.mem_filter.mpr ⟨List.mem_append_right _ (List.mem_append_right _ (List.mem_append_right _ (List.mem_append_right _ (List.mem_append_left _ (List.mem_of_getElem? (i := 221) rfl))))), rfl⟩
theorem kc_X8_draw : Cond.code yX8_draw cX8_draw 2 (some .int) ∈ bigW := List.mem_filter.mpr ⟨List.mem_append_right _ (List.mem_append_right _ (List.mem_append_right _ (List.mem_append_right _ (List.mem_append_left _ (List.mem_of_getElem? (i := 222) rfl))))), rfl⟩
theorem kk_X8_249 : Cond.constantLong RX8 249 (1103515245) ∈ bigW := List.mem_filter.mpr ⟨List.mem_append_right _ (List.mem_append_right _ (List.mem_append_right _ (List.mem_append_right _ (List.mem_append_left _ (List.mem_of_getElem? (i := 223) rfl))))), rfl⟩
theorem kk_X8_255 : Cond.constantLong RX8 255 (12345) ∈ bigW := List.mem_filter.mpr ⟨List.mem_append_right _ (List.mem_append_right _ (List.mem_append_right _ (List.mem_append_right _ (List.mem_append_left _ (List.mem_of_getElem? (i := 224) rfl))))), rfl⟩
theorem kk_X8_257 : Cond.constantLong RX8 257 (2147483647) ∈ bigW := List.mem_filter.mpr ⟨List.mem_append_right _ (List.mem_append_right _ (List.mem_append_right _ (List.mem_append_right _ (List.mem_append_left _ (List.mem_of_getElem? (i := 225) rfl))))), rfl⟩
theorem kk_X8_259 : Cond.constantLong RX8 259 (65536) ∈ bigW := List.mem_filter.mpr ⟨List.mem_append_right _ (List.mem_append_right _ (List.mem_append_right _ (List.mem_append_right _ (List.mem_append_left _ (List.mem_of_getElem? (i := 226) rfl))))), rfl⟩
theorem km_X8_264 : Cond.methodLink RX8 264 yX8_goMove ∈ bigW := List.mem_filter.mpr ⟨List.mem_append_right _ (List.mem_append_right _ (List.mem_append_right _ (List.mem_append_right _ (List.mem_append_left _ (List.mem_of_getElem? (i := 227) rfl))))), rfl⟩
theorem ki_X8_goMove : Cond.instanceMethod yX8_goMove ∈ bigW := List.mem_filter.mpr ⟨List.mem_append_right _ (List.mem_append_right _ (List.mem_append_right _ (List.mem_append_right _ (List.mem_append_left _ (List.mem_of_getElem? (i := 229) rfl))))), rfl⟩
theorem kc_X8_goMove : Cond.code yX8_goMove cX8_goMove 5 none ∈ bigW := List.mem_filter.mpr ⟨List.mem_append_right _ (List.mem_append_right _ (List.mem_append_right _ (List.mem_append_right _ (List.mem_append_left _ (List.mem_of_getElem? (i := 230) rfl))))), rfl⟩
theorem km_L_115 : Cond.methodLink RL 115 yX8_image ∈ bigW := List.mem_filter.mpr ⟨List.mem_append_right _ (List.mem_append_right _ (List.mem_append_right _ (List.mem_append_right _ (List.mem_append_left _ (List.mem_of_getElem? (i := 231) rfl))))), rfl⟩
theorem ki_X8_image : Cond.instanceMethod yX8_image ∈ bigW := List.mem_filter.mpr ⟨List.mem_append_right _ (List.mem_append_right _ (List.mem_append_right _ (List.mem_append_right _ (List.mem_append_left _ (List.mem_of_getElem? (i := 232) rfl))))), rfl⟩
theorem kv_X8_image : Cond.selects RX8 yX8_image yX8_image ∈ bigW := List.mem_filter.mpr ⟨List.mem_append_right _ (List.mem_append_right _ (List.mem_append_right _ (List.mem_append_right _ (List.mem_append_left _ (List.mem_of_getElem? (i := 233) rfl))))), rfl⟩
theorem kc_X8_image : Cond.code yX8_image cX8_image 2 (some .int) ∈ bigW := List.mem_filter.mpr ⟨List.mem_append_right _ (List.mem_append_right _ (List.mem_append_right _ (List.mem_append_right _ (List.mem_append_left _ (List.mem_of_getElem? (i := 234) rfl))))), rfl⟩
theorem km_L_119 : Cond.methodLink RL 119 yX8_restore ∈ bigW := List.mem_filter.mpr ⟨List.mem_append_right _ (List.mem_append_right _ (List.mem_append_right _ (List.mem_append_right _ (List.mem_append_left _ (List.mem_of_getElem? (i := 235) rfl))))), rfl⟩
theorem ki_X8_restore : Cond.instanceMethod yX8_restore ∈ bigW := List.mem_filter.mpr ⟨List.mem_append_right _ (List.mem_append_right _ (List.mem_append_right _ (List.mem_append_right _ (List.mem_append_left _ (List.mem_of_getElem? (i := 236) rfl))))), rfl⟩
theorem kv_X8_restore : Cond.selects RX8 yX8_restore yX8_restore ∈ bigW := List.mem_filter.mpr ⟨List.mem_append_right _ (List.mem_append_right _ (List.mem_append_right _ (List.mem_append_right _ (List.mem_append_left _ (List.mem_of_getElem? (i := 237) rfl))))), rfl⟩
theorem kc_X8_restore : Cond.code yX8_restore cX8_restore 2 (some .int) ∈ bigW := List.mem_filter.mpr ⟨List.mem_append_right _ (List.mem_append_right _ (List.mem_append_right _ (List.mem_append_right _ (List.mem_append_left _ (List.mem_of_getElem? (i := 238) rfl))))), rfl⟩
theorem km_L_123 : Cond.methodLink RL 123 yX8_count ∈ bigW := List.mem_filter.mpr ⟨List.mem_append_right _ (List.mem_append_right _ (List.mem_append_right _ (List.mem_append_right _ (List.mem_append_left _ (List.mem_of_getElem? (i := 239) rfl))))), rfl⟩
theorem ki_X8_count : Cond.instanceMethod yX8_count ∈ bigW := List.mem_filter.mpr ⟨List.mem_append_right _ (List.mem_append_right _ (List.mem_append_right _ (List.mem_append_right _ (List.mem_append_right _ (List.mem_of_getElem? (i := 0) rfl))))), rfl⟩
theorem kv_X8_count : Cond.selects RX8 yX8_count yX8_count ∈ bigW := List.mem_filter.mpr ⟨List.mem_append_right _ (List.mem_append_right _ (List.mem_append_right _ (List.mem_append_right _ (List.mem_append_right _ (List.mem_of_getElem? (i := 1) rfl))))), rfl⟩
theorem kc_X8_count : Cond.code yX8_count cX8_count 2 (some .int) ∈ bigW := List.mem_filter.mpr ⟨List.mem_append_right _ (List.mem_append_right _ (List.mem_append_right _ (List.mem_append_right _ (List.mem_append_right _ (List.mem_of_getElem? (i := 2) rfl))))), rfl⟩
theorem km_X8_284 : Cond.methodLink RX8 284 yX8_howMany ∈ bigW := List.mem_filter.mpr ⟨List.mem_append_right _ (List.mem_append_right _ (List.mem_append_right _ (List.mem_append_right _ (List.mem_append_right _ (List.mem_of_getElem? (i := 3) rfl))))), rfl⟩
theorem ki_X8_howMany : Cond.instanceMethod yX8_howMany ∈ bigW := List.mem_filter.mpr ⟨List.mem_append_right _ (List.mem_append_right _ (List.mem_append_right _ (List.mem_append_right _ (List.mem_append_right _ (List.mem_of_getElem? (i := 5) rfl))))), rfl⟩
theorem kc_X8_howMany : Cond.code yX8_howMany cX8_howMany 2 (some .int) ∈ bigW := List.mem_filter.mpr ⟨List.mem_append_right _ (List.mem_append_right _ (List.mem_append_right _ (List.mem_append_right _ (List.mem_append_right _ (List.mem_of_getElem? (i := 6) rfl))))), rfl⟩
theorem km_X8_280 : Cond.methodLink RX8 280 yX8_one ∈ bigW := List.mem_filter.mpr ⟨List.mem_append_right _ (List.mem_append_right _ (List.mem_append_right _ (List.mem_append_right _ (List.mem_append_right _ (List.mem_of_getElem? (i := 7) rfl))))), rfl⟩
theorem ks_X8_one : Cond.static yX8_one ∈ bigW := List.mem_filter.mpr ⟨List.mem_append_right _ (List.mem_append_right _ (List.mem_append_right _ (List.mem_append_right _ (List.mem_append_right _ (List.mem_of_getElem? (i := 8) rfl))))), rfl⟩
theorem kc_X8_one : Cond.code yX8_one cX8_one 1 (some .int) ∈ bigW := List.mem_filter.mpr ⟨List.mem_append_right _ (List.mem_append_right _ (List.mem_append_right _ (List.mem_append_right _ (List.mem_append_right _ (List.mem_of_getElem? (i := 9) rfl))))), rfl⟩
theorem km_L_128 : Cond.methodLink RL 128 yX8_digest ∈ bigW := List.mem_filter.mpr ⟨List.mem_append_right _ (List.mem_append_right _ (List.mem_append_right _ (List.mem_append_right _ (List.mem_append_right _ (List.mem_of_getElem? (i := 10) rfl))))), rfl⟩
theorem ki_X8_digest : Cond.instanceMethod yX8_digest ∈ bigW := List.mem_filter.mpr ⟨List.mem_append_right _ (List.mem_append_right _ (List.mem_append_right _ (List.mem_append_right _ (List.mem_append_right _ (List.mem_of_getElem? (i := 11) rfl))))), rfl⟩
theorem kv_X8_digest : Cond.selects RX8 yX8_digest yX8_digest ∈ bigW := List.mem_filter.mpr ⟨List.mem_append_right _ (List.mem_append_right _ (List.mem_append_right _ (List.mem_append_right _ (List.mem_append_right _ (List.mem_of_getElem? (i := 12) rfl))))), rfl⟩
theorem kc_X8_digest : Cond.code yX8_digest cX8_digest 3 (some .long) ∈ bigW := List.mem_filter.mpr ⟨List.mem_append_right _ (List.mem_append_right _ (List.mem_append_right _ (List.mem_append_right _ (List.mem_append_right _ (List.mem_of_getElem? (i := 13) rfl))))), rfl⟩
theorem kk_X8_296 : Cond.constantLong RX8 296 (613) ∈ bigW := List.mem_filter.mpr ⟨List.mem_append_right _ (List.mem_append_right _ (List.mem_append_right _ (List.mem_append_right _ (List.mem_append_right _ (List.mem_of_getElem? (i := 14) rfl))))), rfl⟩
theorem km_X8_298 : Cond.methodLink RX8 298 yX8_on ∈ bigW := List.mem_filter.mpr ⟨List.mem_append_right _ (List.mem_append_right _ (List.mem_append_right _ (List.mem_append_right _ (List.mem_append_right _ (List.mem_of_getElem? (i := 15) rfl))))), rfl⟩
theorem km_X8_292 : Cond.methodLink RX8 292 yX8_mix ∈ bigW := List.mem_filter.mpr ⟨List.mem_append_right _ (List.mem_append_right _ (List.mem_append_right _ (List.mem_append_right _ (List.mem_append_right _ (List.mem_of_getElem? (i := 16) rfl))))), rfl⟩
theorem ki_X8_mix : Cond.instanceMethod yX8_mix ∈ bigW := List.mem_filter.mpr ⟨List.mem_append_right _ (List.mem_append_right _ (List.mem_append_right _ (List.mem_append_right _ (List.mem_append_right _ (List.mem_of_getElem? (i := 18) rfl))))), rfl⟩
theorem kc_X8_mix : Cond.code yX8_mix cX8_mix 3 none ∈ bigW := List.mem_filter.mpr ⟨List.mem_append_right _ (List.mem_append_right _ (List.mem_append_right _ (List.mem_append_right _ (List.mem_append_right _ (List.mem_of_getElem? (i := 19) rfl))))), rfl⟩
theorem kk_X8_287 : Cond.constantLong RX8 287 (31) ∈ bigW := List.mem_filter.mpr ⟨List.mem_append_right _ (List.mem_append_right _ (List.mem_append_right _ (List.mem_append_right _ (List.mem_append_right _ (List.mem_of_getElem? (i := 20) rfl))))), rfl⟩
theorem km_X8_301 : Cond.methodLink RX8 301 yX8_mixBrook ∈ bigW := List.mem_filter.mpr ⟨List.mem_append_right _ (List.mem_append_right _ (List.mem_append_right _ (List.mem_append_right _ (List.mem_append_right _ (List.mem_of_getElem? (i := 21) rfl))))), rfl⟩
theorem ki_X8_mixBrook : Cond.instanceMethod yX8_mixBrook ∈ bigW := List.mem_filter.mpr ⟨List.mem_append_right _ (List.mem_append_right _ (List.mem_append_right _ (List.mem_append_right _ (List.mem_append_right _ (List.mem_of_getElem? (i := 23) rfl))))), rfl⟩
theorem kc_X8_mixBrook : Cond.code yX8_mixBrook cX8_mixBrook 2 none ∈ bigW := List.mem_filter.mpr ⟨List.mem_append_right _ (List.mem_append_right _ (List.mem_append_right _ (List.mem_append_right _ (List.mem_append_right _ (List.mem_of_getElem? (i := 24) rfl))))), rfl⟩
theorem kk_L_13 : Cond.constantLong RL 13 (4294967295) ∈ bigW := List.mem_filter.mpr ⟨List.mem_append_right _ (List.mem_append_right _ (List.mem_append_right _ (List.mem_append_right _ (List.mem_append_right _ (List.mem_of_getElem? (i := 25) rfl))))), rfl⟩
theorem kv_X6_slotOf : Cond.selects RX6 yX6_slotOf yX6_slotOf ∈ bigW := List.mem_filter.mpr ⟨List.mem_append_left _ (List.mem_map.mpr ⟨_, (List.mem_append_left _ (List.mem_of_getElem? (i := 0) rfl)), rfl⟩), rfl⟩
theorem kv_X4_targets : Cond.selects RX4 yX4_targets yX4_targets ∈ bigW := List.mem_filter.mpr ⟨List.mem_append_left _ (List.mem_map.mpr ⟨_, (List.mem_append_left _ (List.mem_of_getElem? (i := 1) rfl)), rfl⟩), rfl⟩
theorem kv_X4_landing : Cond.selects RX4 yX4_landing yX4_landing ∈ bigW := List.mem_filter.mpr ⟨List.mem_append_left _ (List.mem_map.mpr ⟨_, (List.mem_append_left _ (List.mem_of_getElem? (i := 2) rfl)), rfl⟩), rfl⟩
theorem kv_X4_beside : Cond.selects RX4 yX4_beside yX4_beside ∈ bigW := List.mem_filter.mpr ⟨List.mem_append_left _ (List.mem_map.mpr ⟨_, (List.mem_append_left _ (List.mem_of_getElem? (i := 3) rfl)), rfl⟩), rfl⟩
theorem kv_X4_leapsOver : Cond.selects RX4 yX4_leapsOver yX4_leapsOver ∈ bigW := List.mem_filter.mpr ⟨List.mem_append_left _ (List.mem_map.mpr ⟨_, (List.mem_append_left _ (List.mem_of_getElem? (i := 4) rfl)), rfl⟩), rfl⟩
theorem kv_X5_noteStuck : Cond.selects RX5 yX5_noteStuck yX5_noteStuck ∈ bigW := List.mem_filter.mpr ⟨List.mem_append_left _ (List.mem_map.mpr ⟨_, (List.mem_append_left _ (List.mem_of_getElem? (i := 5) rfl)), rfl⟩), rfl⟩
theorem kv_X5_goOn : Cond.selects RX5 yX5_goOn yX5_goOn ∈ bigW := List.mem_filter.mpr ⟨List.mem_append_left _ (List.mem_map.mpr ⟨_, (List.mem_append_left _ (List.mem_of_getElem? (i := 6) rfl)), rfl⟩), rfl⟩
theorem kv_X7_isStone : Cond.selects RX7 yX7_isStone yX7_isStone ∈ bigW := List.mem_filter.mpr ⟨List.mem_append_left _ (List.mem_map.mpr ⟨_, (List.mem_append_left _ (List.mem_of_getElem? (i := 7) rfl)), rfl⟩), rfl⟩
theorem kv_X7_isFrog : Cond.selects RX7 yX7_isFrog yX7_isFrog ∈ bigW := List.mem_filter.mpr ⟨List.mem_append_left _ (List.mem_map.mpr ⟨_, (List.mem_append_left _ (List.mem_of_getElem? (i := 8) rfl)), rfl⟩), rfl⟩
theorem kv_X7_kindOfFrog : Cond.selects RX7 yX7_kindOfFrog yX7_kindOfFrog ∈ bigW := List.mem_filter.mpr ⟨List.mem_append_left _ (List.mem_map.mpr ⟨_, (List.mem_append_left _ (List.mem_of_getElem? (i := 9) rfl)), rfl⟩), rfl⟩
theorem kv_X7_hasBrook : Cond.selects RX7 yX7_hasBrook yX7_hasBrook ∈ bigW := List.mem_filter.mpr ⟨List.mem_append_left _ (List.mem_map.mpr ⟨_, (List.mem_append_left _ (List.mem_of_getElem? (i := 10) rfl)), rfl⟩), rfl⟩
theorem kv_X7_firstOfFewest : Cond.selects RX7 yX7_firstOfFewest yX7_firstOfFewest ∈ bigW := List.mem_filter.mpr ⟨List.mem_append_left _ (List.mem_map.mpr ⟨_, (List.mem_append_left _ (List.mem_of_getElem? (i := 11) rfl)), rfl⟩), rfl⟩
theorem kv_X7_firstWrong : Cond.selects RX7 yX7_firstWrong yX7_firstWrong ∈ bigW := List.mem_filter.mpr ⟨List.mem_append_left _ (List.mem_map.mpr ⟨_, (List.mem_append_left _ (List.mem_of_getElem? (i := 12) rfl)), rfl⟩), rfl⟩
theorem kv_X7_toTurnRound : Cond.selects RX7 yX7_toTurnRound yX7_toTurnRound ∈ bigW := List.mem_filter.mpr ⟨List.mem_append_left _ (List.mem_map.mpr ⟨_, (List.mem_append_left _ (List.mem_of_getElem? (i := 13) rfl)), rfl⟩), rfl⟩
theorem kv_X7_hasGame : Cond.selects RX7 yX7_hasGame yX7_hasGame ∈ bigW := List.mem_filter.mpr ⟨List.mem_append_left _ (List.mem_map.mpr ⟨_, (List.mem_append_left _ (List.mem_of_getElem? (i := 14) rfl)), rfl⟩), rfl⟩
theorem kv_X0_hasIt : Cond.selects RX0 yX0_hasIt yX0_hasIt ∈ bigW := List.mem_filter.mpr ⟨List.mem_append_left _ (List.mem_map.mpr ⟨_, (List.mem_append_left _ (List.mem_of_getElem? (i := 15) rfl)), rfl⟩), rfl⟩
theorem kv_X0_winningMove : Cond.selects RX0 yX0_winningMove yX0_winningMove ∈ bigW := List.mem_filter.mpr ⟨List.mem_append_left _ (List.mem_map.mpr ⟨_, (List.mem_append_right _ (List.mem_append_left _ (List.mem_of_getElem? (i := 0) rfl))), rfl⟩), rfl⟩
theorem kv_X8_readBrook : Cond.selects RX8 yX8_readBrook yX8_readBrook ∈ bigW := List.mem_filter.mpr ⟨List.mem_append_left _ (List.mem_map.mpr ⟨_, (List.mem_append_right _ (List.mem_append_left _ (List.mem_of_getElem? (i := 1) rfl))), rfl⟩), rfl⟩
theorem kv_X8_isStone : Cond.selects RX8 yX8_isStone yX8_isStone ∈ bigW := List.mem_filter.mpr ⟨List.mem_append_left _ (List.mem_map.mpr ⟨_, (List.mem_append_right _ (List.mem_append_left _ (List.mem_of_getElem? (i := 2) rfl))), rfl⟩), rfl⟩
theorem kv_X8_frogNow : Cond.selects RX8 yX8_frogNow yX8_frogNow ∈ bigW := List.mem_filter.mpr ⟨List.mem_append_left _ (List.mem_map.mpr ⟨_, (List.mem_append_right _ (List.mem_append_left _ (List.mem_of_getElem? (i := 3) rfl))), rfl⟩), rfl⟩
theorem kv_X8_stoneOf : Cond.selects RX8 yX8_stoneOf yX8_stoneOf ∈ bigW := List.mem_filter.mpr ⟨List.mem_append_left _ (List.mem_map.mpr ⟨_, (List.mem_append_right _ (List.mem_append_left _ (List.mem_of_getElem? (i := 4) rfl))), rfl⟩), rfl⟩
theorem kv_X8_movedMany : Cond.selects RX8 yX8_movedMany yX8_movedMany ∈ bigW := List.mem_filter.mpr ⟨List.mem_append_left _ (List.mem_map.mpr ⟨_, (List.mem_append_right _ (List.mem_append_left _ (List.mem_of_getElem? (i := 5) rfl))), rfl⟩), rfl⟩
theorem kv_X8_layNow : Cond.selects RX8 yX8_layNow yX8_layNow ∈ bigW := List.mem_filter.mpr ⟨List.mem_append_left _ (List.mem_map.mpr ⟨_, (List.mem_append_right _ (List.mem_append_left _ (List.mem_of_getElem? (i := 6) rfl))), rfl⟩), rfl⟩
theorem kv_X8_mayMove : Cond.selects RX8 yX8_mayMove yX8_mayMove ∈ bigW := List.mem_filter.mpr ⟨List.mem_append_left _ (List.mem_map.mpr ⟨_, (List.mem_append_right _ (List.mem_append_left _ (List.mem_of_getElem? (i := 7) rfl))), rfl⟩), rfl⟩
theorem kv_X8_mayWay : Cond.selects RX8 yX8_mayWay yX8_mayWay ∈ bigW := List.mem_filter.mpr ⟨List.mem_append_left _ (List.mem_map.mpr ⟨_, (List.mem_append_right _ (List.mem_append_left _ (List.mem_of_getElem? (i := 8) rfl))), rfl⟩), rfl⟩
theorem kv_X8_besides : Cond.selects RX8 yX8_besides yX8_besides ∈ bigW := List.mem_filter.mpr ⟨List.mem_append_left _ (List.mem_map.mpr ⟨_, (List.mem_append_right _ (List.mem_append_left _ (List.mem_of_getElem? (i := 9) rfl))), rfl⟩), rfl⟩
theorem kv_X8_mayOver : Cond.selects RX8 yX8_mayOver yX8_mayOver ∈ bigW := List.mem_filter.mpr ⟨List.mem_append_left _ (List.mem_map.mpr ⟨_, (List.mem_append_right _ (List.mem_append_left _ (List.mem_of_getElem? (i := 10) rfl))), rfl⟩), rfl⟩
theorem kv_X8_moveMany : Cond.selects RX8 yX8_moveMany yX8_moveMany ∈ bigW := List.mem_filter.mpr ⟨List.mem_append_left _ (List.mem_map.mpr ⟨_, (List.mem_append_right _ (List.mem_append_left _ (List.mem_of_getElem? (i := 11) rfl))), rfl⟩), rfl⟩
theorem kv_X8_moveNow : Cond.selects RX8 yX8_moveNow yX8_moveNow ∈ bigW := List.mem_filter.mpr ⟨List.mem_append_left _ (List.mem_map.mpr ⟨_, (List.mem_append_right _ (List.mem_append_left _ (List.mem_of_getElem? (i := 12) rfl))), rfl⟩), rfl⟩
theorem kv_X8_fewestNow : Cond.selects RX8 yX8_fewestNow yX8_fewestNow ∈ bigW := List.mem_filter.mpr ⟨List.mem_append_left _ (List.mem_map.mpr ⟨_, (List.mem_append_right _ (List.mem_append_left _ (List.mem_of_getElem? (i := 13) rfl))), rfl⟩), rfl⟩
theorem kv_X8_goal : Cond.selects RX8 yX8_goal yX8_goal ∈ bigW := List.mem_filter.mpr ⟨List.mem_append_left _ (List.mem_map.mpr ⟨_, (List.mem_append_right _ (List.mem_append_left _ (List.mem_of_getElem? (i := 14) rfl))), rfl⟩), rfl⟩
theorem kv_X8_layRead : Cond.selects RX8 yX8_layRead yX8_layRead ∈ bigW := List.mem_filter.mpr ⟨List.mem_append_left _ (List.mem_map.mpr ⟨_, (List.mem_append_right _ (List.mem_append_left _ (List.mem_of_getElem? (i := 15) rfl))), rfl⟩), rfl⟩
theorem kv_X8_turnedCode : Cond.selects RX8 yX8_turnedCode yX8_turnedCode ∈ bigW := List.mem_filter.mpr ⟨List.mem_append_left _ (List.mem_map.mpr ⟨_, (List.mem_append_right _ (List.mem_append_right _ (List.mem_append_left _ (List.mem_of_getElem? (i := 0) rfl)))), rfl⟩), rfl⟩
theorem kv_X8_farTo : Cond.selects RX8 yX8_farTo yX8_farTo ∈ bigW := List.mem_filter.mpr ⟨List.mem_append_left _ (List.mem_map.mpr ⟨_, (List.mem_append_right _ (List.mem_append_right _ (List.mem_append_left _ (List.mem_of_getElem? (i := 1) rfl)))), rfl⟩), rfl⟩
theorem kv_X8_layFar : Cond.selects RX8 yX8_layFar yX8_layFar ∈ bigW := List.mem_filter.mpr ⟨List.mem_append_left _ (List.mem_map.mpr ⟨_, (List.mem_append_right _ (List.mem_append_right _ (List.mem_append_left _ (List.mem_of_getElem? (i := 2) rfl)))), rfl⟩), rfl⟩
theorem kv_X8_codeOf : Cond.selects RX8 yX8_codeOf yX8_codeOf ∈ bigW := List.mem_filter.mpr ⟨List.mem_append_left _ (List.mem_map.mpr ⟨_, (List.mem_append_right _ (List.mem_append_right _ (List.mem_append_left _ (List.mem_of_getElem? (i := 3) rfl)))), rfl⟩), rfl⟩
theorem kv_X8_come : Cond.selects RX8 yX8_come yX8_come ∈ bigW := List.mem_filter.mpr ⟨List.mem_append_left _ (List.mem_map.mpr ⟨_, (List.mem_append_right _ (List.mem_append_right _ (List.mem_append_left _ (List.mem_of_getElem? (i := 4) rfl)))), rfl⟩), rfl⟩
theorem kv_X8_layRow : Cond.selects RX8 yX8_layRow yX8_layRow ∈ bigW := List.mem_filter.mpr ⟨List.mem_append_left _ (List.mem_map.mpr ⟨_, (List.mem_append_right _ (List.mem_append_right _ (List.mem_append_left _ (List.mem_of_getElem? (i := 5) rfl)))), rfl⟩), rfl⟩
theorem kv_X8_waysNow : Cond.selects RX8 yX8_waysNow yX8_waysNow ∈ bigW := List.mem_filter.mpr ⟨List.mem_append_left _ (List.mem_map.mpr ⟨_, (List.mem_append_right _ (List.mem_append_right _ (List.mem_append_left _ (List.mem_of_getElem? (i := 6) rfl)))), rfl⟩), rfl⟩
theorem kv_X8_wrongNow : Cond.selects RX8 yX8_wrongNow yX8_wrongNow ∈ bigW := List.mem_filter.mpr ⟨List.mem_append_left _ (List.mem_map.mpr ⟨_, (List.mem_append_right _ (List.mem_append_right _ (List.mem_append_left _ (List.mem_of_getElem? (i := 7) rfl)))), rfl⟩), rfl⟩
theorem kv_X8_layEnds : Cond.selects RX8 yX8_layEnds yX8_layEnds ∈ bigW := List.mem_filter.mpr ⟨List.mem_append_left _ (List.mem_map.mpr ⟨_, (List.mem_append_right _ (List.mem_append_right _ (List.mem_append_left _ (List.mem_of_getElem? (i := 8) rfl)))), rfl⟩), rfl⟩
theorem kv_X8_moreNow : Cond.selects RX8 yX8_moreNow yX8_moreNow ∈ bigW := List.mem_filter.mpr ⟨List.mem_append_left _ (List.mem_map.mpr ⟨_, (List.mem_append_right _ (List.mem_append_right _ (List.mem_append_left _ (List.mem_of_getElem? (i := 9) rfl)))), rfl⟩), rfl⟩
theorem kv_X8_turns : Cond.selects RX8 yX8_turns yX8_turns ∈ bigW := List.mem_filter.mpr ⟨List.mem_append_left _ (List.mem_map.mpr ⟨_, (List.mem_append_right _ (List.mem_append_right _ (List.mem_append_left _ (List.mem_of_getElem? (i := 10) rfl)))), rfl⟩), rfl⟩
theorem kv_X8_offNow : Cond.selects RX8 yX8_offNow yX8_offNow ∈ bigW := List.mem_filter.mpr ⟨List.mem_append_left _ (List.mem_map.mpr ⟨_, (List.mem_append_right _ (List.mem_append_right _ (List.mem_append_left _ (List.mem_of_getElem? (i := 11) rfl)))), rfl⟩), rfl⟩
theorem kv_X8_isGame : Cond.selects RX8 yX8_isGame yX8_isGame ∈ bigW := List.mem_filter.mpr ⟨List.mem_append_left _ (List.mem_map.mpr ⟨_, (List.mem_append_right _ (List.mem_append_right _ (List.mem_append_left _ (List.mem_of_getElem? (i := 12) rfl)))), rfl⟩), rfl⟩
theorem kv_X8_winsNow : Cond.selects RX8 yX8_winsNow yX8_winsNow ∈ bigW := List.mem_filter.mpr ⟨List.mem_append_left _ (List.mem_map.mpr ⟨_, (List.mem_append_right _ (List.mem_append_right _ (List.mem_append_left _ (List.mem_of_getElem? (i := 13) rfl)))), rfl⟩), rfl⟩
theorem kv_X8_layGame : Cond.selects RX8 yX8_layGame yX8_layGame ∈ bigW := List.mem_filter.mpr ⟨List.mem_append_left _ (List.mem_map.mpr ⟨_, (List.mem_append_right _ (List.mem_append_right _ (List.mem_append_left _ (List.mem_of_getElem? (i := 14) rfl)))), rfl⟩), rfl⟩
theorem kv_X8_progress : Cond.selects RX8 yX8_progress yX8_progress ∈ bigW := List.mem_filter.mpr ⟨List.mem_append_left _ (List.mem_map.mpr ⟨_, (List.mem_append_right _ (List.mem_append_right _ (List.mem_append_left _ (List.mem_of_getElem? (i := 15) rfl)))), rfl⟩), rfl⟩
theorem kv_X8_winsBy : Cond.selects RX8 yX8_winsBy yX8_winsBy ∈ bigW := List.mem_filter.mpr ⟨List.mem_append_left _ (List.mem_map.mpr ⟨_, (List.mem_append_right _ (List.mem_append_right _ (List.mem_append_right _ (List.mem_of_getElem? (i := 0) rfl)))), rfl⟩), rfl⟩
theorem kv_X8_isOf : Cond.selects RX8 yX8_isOf yX8_isOf ∈ bigW := List.mem_filter.mpr ⟨List.mem_append_left _ (List.mem_map.mpr ⟨_, (List.mem_append_right _ (List.mem_append_right _ (List.mem_append_right _ (List.mem_of_getElem? (i := 1) rfl)))), rfl⟩), rfl⟩
theorem kv_X8_byNow : Cond.selects RX8 yX8_byNow yX8_byNow ∈ bigW := List.mem_filter.mpr ⟨List.mem_append_left _ (List.mem_map.mpr ⟨_, (List.mem_append_right _ (List.mem_append_right _ (List.mem_append_right _ (List.mem_of_getElem? (i := 2) rfl)))), rfl⟩), rfl⟩
theorem kv_X8_playNow : Cond.selects RX8 yX8_playNow yX8_playNow ∈ bigW := List.mem_filter.mpr ⟨List.mem_append_left _ (List.mem_map.mpr ⟨_, (List.mem_append_right _ (List.mem_append_right _ (List.mem_append_right _ (List.mem_of_getElem? (i := 3) rfl)))), rfl⟩), rfl⟩
theorem kv_X8_draw : Cond.selects RX8 yX8_draw yX8_draw ∈ bigW := List.mem_filter.mpr ⟨List.mem_append_left _ (List.mem_map.mpr ⟨_, (List.mem_append_right _ (List.mem_append_right _ (List.mem_append_right _ (List.mem_of_getElem? (i := 4) rfl)))), rfl⟩), rfl⟩
theorem kv_X8_goMove : Cond.selects RX8 yX8_goMove yX8_goMove ∈ bigW := List.mem_filter.mpr ⟨List.mem_append_left _ (List.mem_map.mpr ⟨_, (List.mem_append_right _ (List.mem_append_right _ (List.mem_append_right _ (List.mem_of_getElem? (i := 5) rfl)))), rfl⟩), rfl⟩
theorem kv_X8_howMany : Cond.selects RX8 yX8_howMany yX8_howMany ∈ bigW := List.mem_filter.mpr ⟨List.mem_append_left _ (List.mem_map.mpr ⟨_, (List.mem_append_right _ (List.mem_append_right _ (List.mem_append_right _ (List.mem_of_getElem? (i := 6) rfl)))), rfl⟩), rfl⟩
theorem kv_X8_mix : Cond.selects RX8 yX8_mix yX8_mix ∈ bigW := List.mem_filter.mpr ⟨List.mem_append_left _ (List.mem_map.mpr ⟨_, (List.mem_append_right _ (List.mem_append_right _ (List.mem_append_right _ (List.mem_of_getElem? (i := 7) rfl)))), rfl⟩), rfl⟩
theorem kv_X8_mixBrook : Cond.selects RX8 yX8_mixBrook yX8_mixBrook ∈ bigW := List.mem_filter.mpr ⟨List.mem_append_left _ (List.mem_map.mpr ⟨_, (List.mem_append_right _ (List.mem_append_right _ (List.mem_append_right _ (List.mem_of_getElem? (i := 8) rfl)))), rfl⟩), rfl⟩
theorem kw_X0_0 : u_lay RX0 TX0 0 ∈ bigW := List.mem_filter.mpr ⟨List.mem_append_right _ (List.mem_append_left _ (List.mem_of_getElem? (i := 143) rfl)), rfl⟩
theorem kw_X0_1 : u_lay RX0 TX0 1 ∈ bigW := List.mem_filter.mpr ⟨List.mem_append_right _ (List.mem_append_left _ (List.mem_of_getElem? (i := 145) rfl)), rfl⟩
theorem inX0 : ∀ w ∈ u_ws RX0 TX0 2, w ∈ bigW := by
  intro w hw
  obtain ⟨k, hk, rfl⟩ := List.mem_map.mp hw
  have hk2 := List.mem_range.mp hk
  match k, hk2 with
  | 0, _ => exact kw_X0_0
  | 1, _ => exact kw_X0_1
  | n + 2, h => exact absurd h (by omega)
theorem kw_X1_0 : u_lay RX1 TX1 0 ∈ bigW := List.mem_filter.mpr ⟨List.mem_append_right _ (List.mem_append_left _ (List.mem_of_getElem? (i := 30) rfl)), rfl⟩
theorem kw_X1_1 : u_lay RX1 TX1 1 ∈ bigW := List.mem_filter.mpr ⟨List.mem_append_right _ (List.mem_append_left _ (List.mem_of_getElem? (i := 32) rfl)), rfl⟩
theorem inX1 : ∀ w ∈ u_ws RX1 TX1 2, w ∈ bigW := by
  intro w hw
  obtain ⟨k, hk, rfl⟩ := List.mem_map.mp hw
  have hk2 := List.mem_range.mp hk
  match k, hk2 with
  | 0, _ => exact kw_X1_0
  | 1, _ => exact kw_X1_1
  | n + 2, h => exact absurd h (by omega)
theorem kw_X2_0 : u_lay RX2 TX2 0 ∈ bigW := List.mem_filter.mpr ⟨List.mem_append_right _ (List.mem_append_left _ (List.mem_of_getElem? (i := 80) rfl)), rfl⟩
theorem kw_X2_1 : u_lay RX2 TX2 1 ∈ bigW := List.mem_filter.mpr ⟨List.mem_append_right _ (List.mem_append_left _ (List.mem_of_getElem? (i := 82) rfl)), rfl⟩
theorem kw_X2_2 : u_lay RX2 TX2 2 ∈ bigW := List.mem_filter.mpr ⟨List.mem_append_right _ (List.mem_append_left _ (List.mem_of_getElem? (i := 84) rfl)), rfl⟩
theorem kw_X2_3 : u_lay RX2 TX2 3 ∈ bigW := List.mem_filter.mpr ⟨List.mem_append_right _ (List.mem_append_left _ (List.mem_of_getElem? (i := 86) rfl)), rfl⟩
theorem kw_X2_4 : u_lay RX2 TX2 4 ∈ bigW := List.mem_filter.mpr ⟨List.mem_append_right _ (List.mem_append_left _ (List.mem_of_getElem? (i := 88) rfl)), rfl⟩
theorem inX2 : ∀ w ∈ u_ws RX2 TX2 5, w ∈ bigW := by
  intro w hw
  obtain ⟨k, hk, rfl⟩ := List.mem_map.mp hw
  have hk2 := List.mem_range.mp hk
  match k, hk2 with
  | 0, _ => exact kw_X2_0
  | 1, _ => exact kw_X2_1
  | 2, _ => exact kw_X2_2
  | 3, _ => exact kw_X2_3
  | 4, _ => exact kw_X2_4
  | n + 5, h => exact absurd h (by omega)
theorem kw_X4_0 : u_lay RX4 TX4 0 ∈ bigW := List.mem_filter.mpr ⟨List.mem_append_right _ (List.mem_append_left _ (List.mem_of_getElem? (i := 52) rfl)), rfl⟩
theorem kw_X4_1 : u_lay RX4 TX4 1 ∈ bigW := List.mem_filter.mpr ⟨List.mem_append_right _ (List.mem_append_left _ (List.mem_of_getElem? (i := 54) rfl)), rfl⟩
theorem kw_X4_2 : u_lay RX4 TX4 2 ∈ bigW := List.mem_filter.mpr ⟨List.mem_append_right _ (List.mem_append_left _ (List.mem_of_getElem? (i := 56) rfl)), rfl⟩
theorem kw_X4_3 : u_lay RX4 TX4 3 ∈ bigW := List.mem_filter.mpr ⟨List.mem_append_right _ (List.mem_append_left _ (List.mem_of_getElem? (i := 58) rfl)), rfl⟩
theorem kw_X4_4 : u_lay RX4 TX4 4 ∈ bigW := List.mem_filter.mpr ⟨List.mem_append_right _ (List.mem_append_left _ (List.mem_of_getElem? (i := 60) rfl)), rfl⟩
theorem kw_X4_5 : u_lay RX4 TX4 5 ∈ bigW := List.mem_filter.mpr ⟨List.mem_append_right _ (List.mem_append_left _ (List.mem_of_getElem? (i := 62) rfl)), rfl⟩
theorem inX4 : ∀ w ∈ u_ws RX4 TX4 6, w ∈ bigW := by
  intro w hw
  obtain ⟨k, hk, rfl⟩ := List.mem_map.mp hw
  have hk2 := List.mem_range.mp hk
  match k, hk2 with
  | 0, _ => exact kw_X4_0
  | 1, _ => exact kw_X4_1
  | 2, _ => exact kw_X4_2
  | 3, _ => exact kw_X4_3
  | 4, _ => exact kw_X4_4
  | 5, _ => exact kw_X4_5
  | n + 6, h => exact absurd h (by omega)
theorem kw_X5_0 : u_lay RX5 TX5 0 ∈ bigW := List.mem_filter.mpr ⟨List.mem_append_right _ (List.mem_append_left _ (List.mem_of_getElem? (i := 122) rfl)), rfl⟩
theorem kw_X5_1 : u_lay RX5 TX5 1 ∈ bigW := List.mem_filter.mpr ⟨List.mem_append_right _ (List.mem_append_left _ (List.mem_of_getElem? (i := 124) rfl)), rfl⟩
theorem kw_X5_2 : u_lay RX5 TX5 2 ∈ bigW := List.mem_filter.mpr ⟨List.mem_append_right _ (List.mem_append_left _ (List.mem_of_getElem? (i := 126) rfl)), rfl⟩
theorem kw_X5_3 : u_lay RX5 TX5 3 ∈ bigW := List.mem_filter.mpr ⟨List.mem_append_right _ (List.mem_append_left _ (List.mem_of_getElem? (i := 128) rfl)), rfl⟩
theorem kw_X5_4 : u_lay RX5 TX5 4 ∈ bigW := List.mem_filter.mpr ⟨List.mem_append_right _ (List.mem_append_left _ (List.mem_of_getElem? (i := 130) rfl)), rfl⟩
theorem inX5 : ∀ w ∈ u_ws RX5 TX5 5, w ∈ bigW := by
  intro w hw
  obtain ⟨k, hk, rfl⟩ := List.mem_map.mp hw
  have hk2 := List.mem_range.mp hk
  match k, hk2 with
  | 0, _ => exact kw_X5_0
  | 1, _ => exact kw_X5_1
  | 2, _ => exact kw_X5_2
  | 3, _ => exact kw_X5_3
  | 4, _ => exact kw_X5_4
  | n + 5, h => exact absurd h (by omega)
theorem kw_X6_0 : u_lay RX6 TX6 0 ∈ bigW := List.mem_filter.mpr ⟨List.mem_append_right _ (List.mem_append_left _ (List.mem_of_getElem? (i := 108) rfl)), rfl⟩
theorem kw_X6_1 : u_lay RX6 TX6 1 ∈ bigW := List.mem_filter.mpr ⟨List.mem_append_right _ (List.mem_append_left _ (List.mem_of_getElem? (i := 110) rfl)), rfl⟩
theorem kw_X6_2 : u_lay RX6 TX6 2 ∈ bigW := List.mem_filter.mpr ⟨List.mem_append_right _ (List.mem_append_left _ (List.mem_of_getElem? (i := 112) rfl)), rfl⟩
theorem inX6 : ∀ w ∈ u_ws RX6 TX6 3, w ∈ bigW := by
  intro w hw
  obtain ⟨k, hk, rfl⟩ := List.mem_map.mp hw
  have hk2 := List.mem_range.mp hk
  match k, hk2 with
  | 0, _ => exact kw_X6_0
  | 1, _ => exact kw_X6_1
  | 2, _ => exact kw_X6_2
  | n + 3, h => exact absurd h (by omega)
theorem kw_X7_0 : u_lay RX7 TX7 0 ∈ bigW := List.mem_filter.mpr ⟨List.mem_append_right _ (List.mem_append_left _ (List.mem_of_getElem? (i := 161) rfl)), rfl⟩
theorem kw_X7_1 : u_lay RX7 TX7 1 ∈ bigW := List.mem_filter.mpr ⟨List.mem_append_right _ (List.mem_append_left _ (List.mem_of_getElem? (i := 163) rfl)), rfl⟩
theorem kw_X7_2 : u_lay RX7 TX7 2 ∈ bigW := List.mem_filter.mpr ⟨List.mem_append_right _ (List.mem_append_left _ (List.mem_of_getElem? (i := 165) rfl)), rfl⟩
theorem kw_X7_3 : u_lay RX7 TX7 3 ∈ bigW := List.mem_filter.mpr ⟨List.mem_append_right _ (List.mem_append_left _ (List.mem_of_getElem? (i := 167) rfl)), rfl⟩
theorem kw_X7_4 : u_lay RX7 TX7 4 ∈ bigW := List.mem_filter.mpr ⟨List.mem_append_right _ (List.mem_append_left _ (List.mem_of_getElem? (i := 169) rfl)), rfl⟩
theorem kw_X7_5 : u_lay RX7 TX7 5 ∈ bigW := List.mem_filter.mpr ⟨List.mem_append_right _ (List.mem_append_left _ (List.mem_of_getElem? (i := 171) rfl)), rfl⟩
theorem kw_X7_6 : u_lay RX7 TX7 6 ∈ bigW := List.mem_filter.mpr ⟨List.mem_append_right _ (List.mem_append_left _ (List.mem_of_getElem? (i := 173) rfl)), rfl⟩
theorem kw_X7_7 : u_lay RX7 TX7 7 ∈ bigW := List.mem_filter.mpr ⟨List.mem_append_right _ (List.mem_append_left _ (List.mem_of_getElem? (i := 175) rfl)), rfl⟩
theorem kw_X7_8 : u_lay RX7 TX7 8 ∈ bigW := List.mem_filter.mpr ⟨List.mem_append_right _ (List.mem_append_left _ (List.mem_of_getElem? (i := 177) rfl)), rfl⟩
theorem kw_X7_9 : u_lay RX7 TX7 9 ∈ bigW := List.mem_filter.mpr ⟨List.mem_append_right _ (List.mem_append_left _ (List.mem_of_getElem? (i := 179) rfl)), rfl⟩
theorem kw_X7_10 : u_lay RX7 TX7 10 ∈ bigW := List.mem_filter.mpr ⟨List.mem_append_right _ (List.mem_append_left _ (List.mem_of_getElem? (i := 181) rfl)), rfl⟩
theorem kw_X7_11 : u_lay RX7 TX7 11 ∈ bigW := List.mem_filter.mpr ⟨List.mem_append_right _ (List.mem_append_left _ (List.mem_of_getElem? (i := 183) rfl)), rfl⟩
theorem kw_X7_12 : u_lay RX7 TX7 12 ∈ bigW := List.mem_filter.mpr ⟨List.mem_append_right _ (List.mem_append_left _ (List.mem_of_getElem? (i := 185) rfl)), rfl⟩
theorem inX7 : ∀ w ∈ u_ws RX7 TX7 13, w ∈ bigW := by
  intro w hw
  obtain ⟨k, hk, rfl⟩ := List.mem_map.mp hw
  have hk2 := List.mem_range.mp hk
  match k, hk2 with
  | 0, _ => exact kw_X7_0
  | 1, _ => exact kw_X7_1
  | 2, _ => exact kw_X7_2
  | 3, _ => exact kw_X7_3
  | 4, _ => exact kw_X7_4
  | 5, _ => exact kw_X7_5
  | 6, _ => exact kw_X7_6
  | 7, _ => exact kw_X7_7
  | 8, _ => exact kw_X7_8
  | 9, _ => exact kw_X7_9
  | 10, _ => exact kw_X7_10
  | 11, _ => exact kw_X7_11
  | 12, _ => exact kw_X7_12
  | n + 13, h => exact absurd h (by omega)
theorem kw_X8_0 : u_lay RX8 TX8 0 ∈ bigW := List.mem_filter.mpr ⟨List.mem_append_right _ (List.mem_append_right _ (List.mem_append_right _ (List.mem_append_left _ (List.mem_of_getElem? (i := 127) rfl)))), rfl⟩
theorem kw_X8_1 : u_lay RX8 TX8 1 ∈ bigW := List.mem_filter.mpr ⟨List.mem_append_right _ (List.mem_append_right _ (List.mem_append_right _ (List.mem_append_left _ (List.mem_of_getElem? (i := 129) rfl)))), rfl⟩
theorem kw_X8_2 : u_lay RX8 TX8 2 ∈ bigW := List.mem_filter.mpr ⟨List.mem_append_right _ (List.mem_append_right _ (List.mem_append_right _ (List.mem_append_left _ (List.mem_of_getElem? (i := 131) rfl)))), rfl⟩
theorem kw_X8_3 : u_lay RX8 TX8 3 ∈ bigW := List.mem_filter.mpr ⟨List.mem_append_right _ (List.mem_append_right _ (List.mem_append_right _ (List.mem_append_left _ (List.mem_of_getElem? (i := 133) rfl)))), rfl⟩
theorem kw_X8_4 : u_lay RX8 TX8 4 ∈ bigW := List.mem_filter.mpr ⟨List.mem_append_right _ (List.mem_append_right _ (List.mem_append_right _ (List.mem_append_left _ (List.mem_of_getElem? (i := 135) rfl)))), rfl⟩
theorem kw_X8_5 : u_lay RX8 TX8 5 ∈ bigW := List.mem_filter.mpr ⟨List.mem_append_right _ (List.mem_append_right _ (List.mem_append_right _ (List.mem_append_left _ (List.mem_of_getElem? (i := 137) rfl)))), rfl⟩
theorem kw_X8_6 : u_lay RX8 TX8 6 ∈ bigW := List.mem_filter.mpr ⟨List.mem_append_right _ (List.mem_append_right _ (List.mem_append_right _ (List.mem_append_left _ (List.mem_of_getElem? (i := 139) rfl)))), rfl⟩
theorem kw_X8_7 : u_lay RX8 TX8 7 ∈ bigW := List.mem_filter.mpr ⟨List.mem_append_right _ (List.mem_append_right _ (List.mem_append_right _ (List.mem_append_left _ (List.mem_of_getElem? (i := 141) rfl)))), rfl⟩
theorem kw_X8_8 : u_lay RX8 TX8 8 ∈ bigW := List.mem_filter.mpr ⟨List.mem_append_right _ (List.mem_append_right _ (List.mem_append_right _ (List.mem_append_left _ (List.mem_of_getElem? (i := 143) rfl)))), rfl⟩
theorem kw_X8_9 : u_lay RX8 TX8 9 ∈ bigW := List.mem_filter.mpr ⟨List.mem_append_right _ (List.mem_append_right _ (List.mem_append_right _ (List.mem_append_left _ (List.mem_of_getElem? (i := 145) rfl)))), rfl⟩
theorem kw_X8_10 : u_lay RX8 TX8 10 ∈ bigW := List.mem_filter.mpr ⟨List.mem_append_right _ (List.mem_append_right _ (List.mem_append_right _ (List.mem_append_left _ (List.mem_of_getElem? (i := 147) rfl)))), rfl⟩
theorem kw_X8_11 : u_lay RX8 TX8 11 ∈ bigW := List.mem_filter.mpr ⟨List.mem_append_right _ (List.mem_append_right _ (List.mem_append_right _ (List.mem_append_left _ (List.mem_of_getElem? (i := 149) rfl)))), rfl⟩
theorem kw_X8_12 : u_lay RX8 TX8 12 ∈ bigW := List.mem_filter.mpr ⟨List.mem_append_right _ (List.mem_append_right _ (List.mem_append_right _ (List.mem_append_left _ (List.mem_of_getElem? (i := 151) rfl)))), rfl⟩
theorem kw_X8_13 : u_lay RX8 TX8 13 ∈ bigW := List.mem_filter.mpr ⟨List.mem_append_right _ (List.mem_append_right _ (List.mem_append_right _ (List.mem_append_left _ (List.mem_of_getElem? (i := 153) rfl)))), rfl⟩
theorem kw_X8_14 : u_lay RX8 TX8 14 ∈ bigW := List.mem_filter.mpr ⟨List.mem_append_right _ (List.mem_append_right _ (List.mem_append_right _ (List.mem_append_left _ (List.mem_of_getElem? (i := 155) rfl)))), rfl⟩
theorem kw_X8_15 : u_lay RX8 TX8 15 ∈ bigW := List.mem_filter.mpr ⟨List.mem_append_right _ (List.mem_append_right _ (List.mem_append_right _ (List.mem_append_left _ (List.mem_of_getElem? (i := 157) rfl)))), rfl⟩
theorem kw_X8_16 : u_lay RX8 TX8 16 ∈ bigW := List.mem_filter.mpr ⟨List.mem_append_right _ (List.mem_append_right _ (List.mem_append_right _ (List.mem_append_left _ (List.mem_of_getElem? (i := 159) rfl)))), rfl⟩
theorem kw_X8_17 : u_lay RX8 TX8 17 ∈ bigW := List.mem_filter.mpr ⟨List.mem_append_right _ (List.mem_append_right _ (List.mem_append_right _ (List.mem_append_left _ (List.mem_of_getElem? (i := 161) rfl)))), rfl⟩
theorem kw_X8_18 : u_lay RX8 TX8 18 ∈ bigW := List.mem_filter.mpr ⟨List.mem_append_right _ (List.mem_append_right _ (List.mem_append_right _ (List.mem_append_left _ (List.mem_of_getElem? (i := 163) rfl)))), rfl⟩
theorem kw_X8_19 : u_lay RX8 TX8 19 ∈ bigW := List.mem_filter.mpr ⟨List.mem_append_right _ (List.mem_append_right _ (List.mem_append_right _ (List.mem_append_left _ (List.mem_of_getElem? (i := 165) rfl)))), rfl⟩
theorem kw_X8_20 : u_lay RX8 TX8 20 ∈ bigW := List.mem_filter.mpr ⟨List.mem_append_right _ (List.mem_append_right _ (List.mem_append_right _ (List.mem_append_left _ (List.mem_of_getElem? (i := 167) rfl)))), rfl⟩
theorem kw_X8_21 : u_lay RX8 TX8 21 ∈ bigW := List.mem_filter.mpr ⟨List.mem_append_right _ (List.mem_append_right _ (List.mem_append_right _ (List.mem_append_left _ (List.mem_of_getElem? (i := 169) rfl)))), rfl⟩
theorem kw_X8_22 : u_lay RX8 TX8 22 ∈ bigW := List.mem_filter.mpr ⟨List.mem_append_right _ (List.mem_append_right _ (List.mem_append_right _ (List.mem_append_left _ (List.mem_of_getElem? (i := 171) rfl)))), rfl⟩
theorem kw_X8_23 : u_lay RX8 TX8 23 ∈ bigW := List.mem_filter.mpr ⟨List.mem_append_right _ (List.mem_append_right _ (List.mem_append_right _ (List.mem_append_left _ (List.mem_of_getElem? (i := 173) rfl)))), rfl⟩
theorem kw_X8_24 : u_lay RX8 TX8 24 ∈ bigW := List.mem_filter.mpr ⟨List.mem_append_right _ (List.mem_append_right _ (List.mem_append_right _ (List.mem_append_left _ (List.mem_of_getElem? (i := 175) rfl)))), rfl⟩
theorem kw_X8_25 : u_lay RX8 TX8 25 ∈ bigW := List.mem_filter.mpr ⟨List.mem_append_right _ (List.mem_append_right _ (List.mem_append_right _ (List.mem_append_left _ (List.mem_of_getElem? (i := 177) rfl)))), rfl⟩
theorem kw_X8_26 : u_lay RX8 TX8 26 ∈ bigW := List.mem_filter.mpr ⟨List.mem_append_right _ (List.mem_append_right _ (List.mem_append_right _ (List.mem_append_left _ (List.mem_of_getElem? (i := 179) rfl)))), rfl⟩
theorem kw_X8_27 : u_lay RX8 TX8 27 ∈ bigW := List.mem_filter.mpr ⟨List.mem_append_right _ (List.mem_append_right _ (List.mem_append_right _ (List.mem_append_left _ (List.mem_of_getElem? (i := 181) rfl)))), rfl⟩
theorem kw_X8_28 : u_lay RX8 TX8 28 ∈ bigW := List.mem_filter.mpr ⟨List.mem_append_right _ (List.mem_append_right _ (List.mem_append_right _ (List.mem_append_left _ (List.mem_of_getElem? (i := 183) rfl)))), rfl⟩
theorem kw_X8_29 : u_lay RX8 TX8 29 ∈ bigW := List.mem_filter.mpr ⟨List.mem_append_right _ (List.mem_append_right _ (List.mem_append_right _ (List.mem_append_left _ (List.mem_of_getElem? (i := 185) rfl)))), rfl⟩
theorem kw_X8_30 : u_lay RX8 TX8 30 ∈ bigW := List.mem_filter.mpr ⟨List.mem_append_right _ (List.mem_append_right _ (List.mem_append_right _ (List.mem_append_left _ (List.mem_of_getElem? (i := 187) rfl)))), rfl⟩
theorem kw_X8_31 : u_lay RX8 TX8 31 ∈ bigW := List.mem_filter.mpr ⟨List.mem_append_right _ (List.mem_append_right _ (List.mem_append_right _ (List.mem_append_left _ (List.mem_of_getElem? (i := 189) rfl)))), rfl⟩
theorem kw_X8_32 : u_lay RX8 TX8 32 ∈ bigW := List.mem_filter.mpr ⟨List.mem_append_right _ (List.mem_append_right _ (List.mem_append_right _ (List.mem_append_left _ (List.mem_of_getElem? (i := 191) rfl)))), rfl⟩
theorem kw_X8_33 : u_lay RX8 TX8 33 ∈ bigW := List.mem_filter.mpr ⟨List.mem_append_right _ (List.mem_append_right _ (List.mem_append_right _ (List.mem_append_left _ (List.mem_of_getElem? (i := 193) rfl)))), rfl⟩
theorem kw_X8_34 : u_lay RX8 TX8 34 ∈ bigW := List.mem_filter.mpr ⟨List.mem_append_right _ (List.mem_append_right _ (List.mem_append_right _ (List.mem_append_left _ (List.mem_of_getElem? (i := 195) rfl)))), rfl⟩
theorem kw_X8_35 : u_lay RX8 TX8 35 ∈ bigW := List.mem_filter.mpr ⟨List.mem_append_right _ (List.mem_append_right _ (List.mem_append_right _ (List.mem_append_left _ (List.mem_of_getElem? (i := 197) rfl)))), rfl⟩
theorem kw_X8_36 : u_lay RX8 TX8 36 ∈ bigW := List.mem_filter.mpr ⟨List.mem_append_right _ (List.mem_append_right _ (List.mem_append_right _ (List.mem_append_left _ (List.mem_of_getElem? (i := 199) rfl)))), rfl⟩
theorem kw_X8_37 : u_lay RX8 TX8 37 ∈ bigW := List.mem_filter.mpr ⟨List.mem_append_right _ (List.mem_append_right _ (List.mem_append_right _ (List.mem_append_left _ (List.mem_of_getElem? (i := 201) rfl)))), rfl⟩
theorem kw_X8_38 : u_lay RX8 TX8 38 ∈ bigW := List.mem_filter.mpr ⟨List.mem_append_right _ (List.mem_append_right _ (List.mem_append_right _ (List.mem_append_left _ (List.mem_of_getElem? (i := 203) rfl)))), rfl⟩
theorem inX8 : ∀ w ∈ u_ws RX8 TX8 39, w ∈ bigW := by
  intro w hw
  obtain ⟨k, hk, rfl⟩ := List.mem_map.mp hw
  have hk2 := List.mem_range.mp hk
  match k, hk2 with
  | 0, _ => exact kw_X8_0
  | 1, _ => exact kw_X8_1
  | 2, _ => exact kw_X8_2
  | 3, _ => exact kw_X8_3
  | 4, _ => exact kw_X8_4
  | 5, _ => exact kw_X8_5
  | 6, _ => exact kw_X8_6
  | 7, _ => exact kw_X8_7
  | 8, _ => exact kw_X8_8
  | 9, _ => exact kw_X8_9
  | 10, _ => exact kw_X8_10
  | 11, _ => exact kw_X8_11
  | 12, _ => exact kw_X8_12
  | 13, _ => exact kw_X8_13
  | 14, _ => exact kw_X8_14
  | 15, _ => exact kw_X8_15
  | 16, _ => exact kw_X8_16
  | 17, _ => exact kw_X8_17
  | 18, _ => exact kw_X8_18
  | 19, _ => exact kw_X8_19
  | 20, _ => exact kw_X8_20
  | 21, _ => exact kw_X8_21
  | 22, _ => exact kw_X8_22
  | 23, _ => exact kw_X8_23
  | 24, _ => exact kw_X8_24
  | 25, _ => exact kw_X8_25
  | 26, _ => exact kw_X8_26
  | 27, _ => exact kw_X8_27
  | 28, _ => exact kw_X8_28
  | 29, _ => exact kw_X8_29
  | 30, _ => exact kw_X8_30
  | 31, _ => exact kw_X8_31
  | 32, _ => exact kw_X8_32
  | 33, _ => exact kw_X8_33
  | 34, _ => exact kw_X8_34
  | 35, _ => exact kw_X8_35
  | 36, _ => exact kw_X8_36
  | 37, _ => exact kw_X8_37
  | 38, _ => exact kw_X8_38
  | n + 39, h => exact absurd h (by omega)
def nestF : List (String × Nat × String × String × String × String) := [("FrogsChangeSides", 279, "FrogsChangeSides$Page", "codes", "[I", "FrogsChangeSides"), ("FrogsChangeSides", 57, "FrogsChangeSides$Page", "size", "I", "FrogsChangeSides"), ("FrogsChangeSides", 89, "FrogsChangeSides$Rules", "stones", "I", "FrogsChangeSides"), ("FrogsChangeSides", 199, "FrogsChangeSides$Rules", "signs", "I", "FrogsChangeSides"), ("FrogsChangeSides", 286, "FrogsChangeSides$Rules", "back", "Z", "FrogsChangeSides"), ("FrogsChangeSides", 289, "FrogsChangeSides$Rules", "ring", "Z", "FrogsChangeSides"), ("FrogsChangeSides", 295, "FrogsChangeSides$Position", "made", "[I", "FrogsChangeSides"), ("FrogsChangeSides", 132, "FrogsChangeSides$Position", "row", "I", "FrogsChangeSides"), ("FrogsChangeSides", 137, "FrogsChangeSides$Position", "numbers", "I", "FrogsChangeSides"), ("FrogsChangeSides", 165, "FrogsChangeSides$Position", "size", "I", "FrogsChangeSides"), ("FrogsChangeSides$Search", 42, "FrogsChangeSides$Table", "rows", "[I", "FrogsChangeSides"), ("FrogsChangeSides$Search", 39, "FrogsChangeSides$Table", "size", "I", "FrogsChangeSides"), ("FrogsChangeSides", 190, "FrogsChangeSides$Search", "stuckRows", "I", "FrogsChangeSides"), ("FrogsChangeSides", 193, "FrogsChangeSides$Search", "soonestStuck", "I", "FrogsChangeSides")]
def nestM : List (String × Nat × MethodName × String) := [("FrogsChangeSides", 9, ⟨"FrogsChangeSides$Page", "<init>", "()V"⟩, "FrogsChangeSides"), ("FrogsChangeSides", 18, ⟨"FrogsChangeSides$Rules", "<init>", "()V"⟩, "FrogsChangeSides"), ("FrogsChangeSides", 28, ⟨"FrogsChangeSides$Position", "<init>", "()V"⟩, "FrogsChangeSides"), ("FrogsChangeSides", 38, ⟨"FrogsChangeSides$Search", "<init>", "()V"⟩, "FrogsChangeSides"), ("FrogsChangeSides$Search", 11, ⟨"FrogsChangeSides$Table", "<init>", "()V"⟩, "FrogsChangeSides"), ("FrogsChangeSides", 48, ⟨"FrogsChangeSides$Game", "<init>", "()V"⟩, "FrogsChangeSides"), ("FrogsChangeSides$Game", 11, ⟨"FrogsChangeSides$Table", "<init>", "()V"⟩, "FrogsChangeSides"), ("FrogsChangeSides", 218, ⟨"FrogsChangeSides$Game", "hasIt", "(LFrogsChangeSides$Rules;III)Z"⟩, "FrogsChangeSides"), ("FrogsChangeSides", 222, ⟨"FrogsChangeSides$Game", "winningMove", "(LFrogsChangeSides$Rules;III)I"⟩, "FrogsChangeSides")]
theorem kfN_X7_279 : (RX7, 279, (TX1 0).1, (TX1 0).2.1, (TX1 0).2.2.1, "FrogsChangeSides") ∈ nestF := List.mem_of_getElem? (i := 0) rfl
theorem kg0 : Cond.fieldLinkNest "FrogsChangeSides" 279 "FrogsChangeSides$Page" "codes" "[I" "FrogsChangeSides" ∈ lw_tbl := List.mem_append_right _ (List.mem_append_left _ (List.mem_of_getElem? (i := 27) rfl))
theorem kfN_X7_57 : (RX7, 57, (TX1 1).1, (TX1 1).2.1, (TX1 1).2.2.1, "FrogsChangeSides") ∈ nestF := List.mem_of_getElem? (i := 1) rfl
theorem kg1 : Cond.fieldLinkNest "FrogsChangeSides" 57 "FrogsChangeSides$Page" "size" "I" "FrogsChangeSides" ∈ lw_tbl := List.mem_append_right _ (List.mem_append_left _ (List.mem_of_getElem? (i := 28) rfl))
theorem kfN_X7_89 : (RX7, 89, (TX4 0).1, (TX4 0).2.1, (TX4 0).2.2.1, "FrogsChangeSides") ∈ nestF := List.mem_of_getElem? (i := 2) rfl
theorem kg2 : Cond.fieldLinkNest "FrogsChangeSides" 89 "FrogsChangeSides$Rules" "stones" "I" "FrogsChangeSides" ∈ lw_tbl := List.mem_append_right _ (List.mem_append_left _ (List.mem_of_getElem? (i := 43) rfl))
theorem kfN_X7_199 : (RX7, 199, (TX4 1).1, (TX4 1).2.1, (TX4 1).2.2.1, "FrogsChangeSides") ∈ nestF := List.mem_of_getElem? (i := 3) rfl
theorem kg3 : Cond.fieldLinkNest "FrogsChangeSides" 199 "FrogsChangeSides$Rules" "signs" "I" "FrogsChangeSides" ∈ lw_tbl := List.mem_append_right _ (List.mem_append_left _ (List.mem_of_getElem? (i := 45) rfl))
theorem kfN_X7_286 : (RX7, 286, (TX4 3).1, (TX4 3).2.1, (TX4 3).2.2.1, "FrogsChangeSides") ∈ nestF := List.mem_of_getElem? (i := 4) rfl
theorem kg4 : Cond.fieldLinkNest "FrogsChangeSides" 286 "FrogsChangeSides$Rules" "back" "Z" "FrogsChangeSides" ∈ lw_tbl := List.mem_append_right _ (List.mem_append_left _ (List.mem_of_getElem? (i := 48) rfl))
theorem kfN_X7_289 : (RX7, 289, (TX4 4).1, (TX4 4).2.1, (TX4 4).2.2.1, "FrogsChangeSides") ∈ nestF := List.mem_of_getElem? (i := 5) rfl
theorem kg5 : Cond.fieldLinkNest "FrogsChangeSides" 289 "FrogsChangeSides$Rules" "ring" "Z" "FrogsChangeSides" ∈ lw_tbl := List.mem_append_right _ (List.mem_append_left _ (List.mem_of_getElem? (i := 50) rfl))
theorem kfN_X7_295 : (RX7, 295, (TX2 0).1, (TX2 0).2.1, (TX2 0).2.2.1, "FrogsChangeSides") ∈ nestF := List.mem_of_getElem? (i := 6) rfl
theorem kg6 : Cond.fieldLinkNest "FrogsChangeSides" 295 "FrogsChangeSides$Position" "made" "[I" "FrogsChangeSides" ∈ lw_tbl := List.mem_append_right _ (List.mem_append_left _ (List.mem_of_getElem? (i := 72) rfl))
theorem kfN_X7_132 : (RX7, 132, (TX2 2).1, (TX2 2).2.1, (TX2 2).2.2.1, "FrogsChangeSides") ∈ nestF := List.mem_of_getElem? (i := 7) rfl
theorem kg7 : Cond.fieldLinkNest "FrogsChangeSides" 132 "FrogsChangeSides$Position" "row" "I" "FrogsChangeSides" ∈ lw_tbl := List.mem_append_right _ (List.mem_append_left _ (List.mem_of_getElem? (i := 75) rfl))
theorem kfN_X7_137 : (RX7, 137, (TX2 3).1, (TX2 3).2.1, (TX2 3).2.2.1, "FrogsChangeSides") ∈ nestF := List.mem_of_getElem? (i := 8) rfl
theorem kg8 : Cond.fieldLinkNest "FrogsChangeSides" 137 "FrogsChangeSides$Position" "numbers" "I" "FrogsChangeSides" ∈ lw_tbl := List.mem_append_right _ (List.mem_append_left _ (List.mem_of_getElem? (i := 77) rfl))
theorem kfN_X7_165 : (RX7, 165, (TX2 4).1, (TX2 4).2.1, (TX2 4).2.2.1, "FrogsChangeSides") ∈ nestF := List.mem_of_getElem? (i := 9) rfl
theorem kg9 : Cond.fieldLinkNest "FrogsChangeSides" 165 "FrogsChangeSides$Position" "size" "I" "FrogsChangeSides" ∈ lw_tbl := List.mem_append_right _ (List.mem_append_left _ (List.mem_of_getElem? (i := 79) rfl))
theorem kfN_X5_42 : (RX5, 42, (TX6 1).1, (TX6 1).2.1, (TX6 1).2.2.1, "FrogsChangeSides") ∈ nestF := List.mem_of_getElem? (i := 10) rfl
theorem kg10 : Cond.fieldLinkNest "FrogsChangeSides$Search" 42 "FrogsChangeSides$Table" "rows" "[I" "FrogsChangeSides" ∈ lw_tbl := List.mem_append_right _ (List.mem_append_left _ (List.mem_of_getElem? (i := 105) rfl))
theorem kfN_X5_39 : (RX5, 39, (TX6 2).1, (TX6 2).2.1, (TX6 2).2.2.1, "FrogsChangeSides") ∈ nestF := List.mem_of_getElem? (i := 11) rfl
theorem kg11 : Cond.fieldLinkNest "FrogsChangeSides$Search" 39 "FrogsChangeSides$Table" "size" "I" "FrogsChangeSides" ∈ lw_tbl := List.mem_append_right _ (List.mem_append_left _ (List.mem_of_getElem? (i := 107) rfl))
theorem kfN_X7_190 : (RX7, 190, (TX5 3).1, (TX5 3).2.1, (TX5 3).2.2.1, "FrogsChangeSides") ∈ nestF := List.mem_of_getElem? (i := 12) rfl
theorem kg12 : Cond.fieldLinkNest "FrogsChangeSides" 190 "FrogsChangeSides$Search" "stuckRows" "I" "FrogsChangeSides" ∈ lw_tbl := List.mem_append_right _ (List.mem_append_left _ (List.mem_of_getElem? (i := 119) rfl))
theorem kfN_X7_193 : (RX7, 193, (TX5 4).1, (TX5 4).2.1, (TX5 4).2.2.1, "FrogsChangeSides") ∈ nestF := List.mem_of_getElem? (i := 13) rfl
theorem kg13 : Cond.fieldLinkNest "FrogsChangeSides" 193 "FrogsChangeSides$Search" "soonestStuck" "I" "FrogsChangeSides" ∈ lw_tbl := List.mem_append_right _ (List.mem_append_left _ (List.mem_of_getElem? (i := 121) rfl))
theorem kmN_X7_9 : (RX7, 9, yX1_init, "FrogsChangeSides") ∈ nestM := List.mem_of_getElem? (i := 0) rfl
theorem kh0 : Cond.methodLinkNest "FrogsChangeSides" 9 ⟨"FrogsChangeSides$Page", "<init>", "()V"⟩ "FrogsChangeSides" ∈ lw_tbl := List.mem_append_right _ (List.mem_append_left _ (List.mem_of_getElem? (i := 22) rfl))
theorem kmN_X7_18 : (RX7, 18, yX4_init, "FrogsChangeSides") ∈ nestM := List.mem_of_getElem? (i := 1) rfl
theorem kh1 : Cond.methodLinkNest "FrogsChangeSides" 18 ⟨"FrogsChangeSides$Rules", "<init>", "()V"⟩ "FrogsChangeSides" ∈ lw_tbl := List.mem_append_right _ (List.mem_append_left _ (List.mem_of_getElem? (i := 38) rfl))
theorem kmN_X7_28 : (RX7, 28, yX2_init, "FrogsChangeSides") ∈ nestM := List.mem_of_getElem? (i := 2) rfl
theorem kh2 : Cond.methodLinkNest "FrogsChangeSides" 28 ⟨"FrogsChangeSides$Position", "<init>", "()V"⟩ "FrogsChangeSides" ∈ lw_tbl := List.mem_append_right _ (List.mem_append_left _ (List.mem_of_getElem? (i := 67) rfl))
theorem kmN_X7_38 : (RX7, 38, yX5_init, "FrogsChangeSides") ∈ nestM := List.mem_of_getElem? (i := 3) rfl
theorem kh3 : Cond.methodLinkNest "FrogsChangeSides" 38 ⟨"FrogsChangeSides$Search", "<init>", "()V"⟩ "FrogsChangeSides" ∈ lw_tbl := List.mem_append_right _ (List.mem_append_left _ (List.mem_of_getElem? (i := 93) rfl))
theorem kmN_X5_11 : (RX5, 11, yX6_init, "FrogsChangeSides") ∈ nestM := List.mem_of_getElem? (i := 4) rfl
theorem kh4 : Cond.methodLinkNest "FrogsChangeSides$Search" 11 ⟨"FrogsChangeSides$Table", "<init>", "()V"⟩ "FrogsChangeSides" ∈ lw_tbl := List.mem_append_right _ (List.mem_append_left _ (List.mem_of_getElem? (i := 99) rfl))
theorem kmN_X7_48 : (RX7, 48, yX0_init, "FrogsChangeSides") ∈ nestM := List.mem_of_getElem? (i := 5) rfl
theorem kh5 : Cond.methodLinkNest "FrogsChangeSides" 48 ⟨"FrogsChangeSides$Game", "<init>", "()V"⟩ "FrogsChangeSides" ∈ lw_tbl := List.mem_append_right _ (List.mem_append_left _ (List.mem_of_getElem? (i := 135) rfl))
theorem kmN_X0_11 : (RX0, 11, yX6_init, "FrogsChangeSides") ∈ nestM := List.mem_of_getElem? (i := 6) rfl
theorem kh6 : Cond.methodLinkNest "FrogsChangeSides$Game" 11 ⟨"FrogsChangeSides$Table", "<init>", "()V"⟩ "FrogsChangeSides" ∈ lw_tbl := List.mem_append_right _ (List.mem_append_left _ (List.mem_of_getElem? (i := 140) rfl))
theorem kmN_X7_218 : (RX7, 218, yX0_hasIt, "FrogsChangeSides") ∈ nestM := List.mem_of_getElem? (i := 7) rfl
theorem kh7 : Cond.methodLinkNest "FrogsChangeSides" 218 ⟨"FrogsChangeSides$Game", "hasIt", "(LFrogsChangeSides$Rules;III)Z"⟩ "FrogsChangeSides" ∈ lw_tbl := List.mem_append_right _ (List.mem_append_right _ (List.mem_append_right _ (List.mem_append_left _ (List.mem_of_getElem? (i := 10) rfl))))
theorem kmN_X7_222 : (RX7, 222, yX0_winningMove, "FrogsChangeSides") ∈ nestM := List.mem_of_getElem? (i := 8) rfl
theorem kh8 : Cond.methodLinkNest "FrogsChangeSides" 222 ⟨"FrogsChangeSides$Game", "winningMove", "(LFrogsChangeSides$Rules;III)I"⟩ "FrogsChangeSides" ∈ lw_tbl := List.mem_append_right _ (List.mem_append_right _ (List.mem_append_right _ (List.mem_append_left _ (List.mem_of_getElem? (i := 29) rfl))))
theorem nest_ok {A : Array Value} {s : State} (h : ∀ w ∈ lw_tbl, w.before A s = true) : (∀ q ∈ nestF, va_Nw (.fieldLinkNest q.1 q.2.1 q.2.2.1 q.2.2.2.1 q.2.2.2.2.1 q.2.2.2.2.2) s) ∧ ∀ q ∈ nestM, va_Nw (.methodLinkNest q.1 q.2.1 q.2.2.1 q.2.2.2) s :=
  ⟨List.forall_mem_cons.mpr ⟨va_Nw.of rfl (h _ kg0), List.forall_mem_cons.mpr ⟨va_Nw.of rfl (h _ kg1), List.forall_mem_cons.mpr ⟨va_Nw.of rfl (h _ kg2), List.forall_mem_cons.mpr ⟨va_Nw.of rfl (h _ kg3), List.forall_mem_cons.mpr ⟨va_Nw.of rfl (h _ kg4), List.forall_mem_cons.mpr ⟨va_Nw.of rfl (h _ kg5), List.forall_mem_cons.mpr ⟨va_Nw.of rfl (h _ kg6), List.forall_mem_cons.mpr ⟨va_Nw.of rfl (h _ kg7), List.forall_mem_cons.mpr ⟨va_Nw.of rfl (h _ kg8), List.forall_mem_cons.mpr ⟨va_Nw.of rfl (h _ kg9), List.forall_mem_cons.mpr ⟨va_Nw.of rfl (h _ kg10), List.forall_mem_cons.mpr ⟨va_Nw.of rfl (h _ kg11), List.forall_mem_cons.mpr ⟨va_Nw.of rfl (h _ kg12), List.forall_mem_cons.mpr ⟨va_Nw.of rfl (h _ kg13), fun _ h => absurd h List.not_mem_nil⟩⟩⟩⟩⟩⟩⟩⟩⟩⟩⟩⟩⟩⟩,
   List.forall_mem_cons.mpr ⟨va_Nw.of rfl (h _ kh0), List.forall_mem_cons.mpr ⟨va_Nw.of rfl (h _ kh1), List.forall_mem_cons.mpr ⟨va_Nw.of rfl (h _ kh2), List.forall_mem_cons.mpr ⟨va_Nw.of rfl (h _ kh3), List.forall_mem_cons.mpr ⟨va_Nw.of rfl (h _ kh4), List.forall_mem_cons.mpr ⟨va_Nw.of rfl (h _ kh5), List.forall_mem_cons.mpr ⟨va_Nw.of rfl (h _ kh6), List.forall_mem_cons.mpr ⟨va_Nw.of rfl (h _ kh7), List.forall_mem_cons.mpr ⟨va_Nw.of rfl (h _ kh8), fun _ h => absurd h List.not_mem_nil⟩⟩⟩⟩⟩⟩⟩⟩⟩⟩
