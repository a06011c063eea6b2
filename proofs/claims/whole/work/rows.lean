section
-- ===== PART A: goes FIRST, ahead of the names: the tables' words, and 'selects' of the private methods out of them =====
/-- a private method of a class that the tables say can be made, by its rows of tables_1 -/
def lw_okq (q : MethodName × Nat) : Prop := (q.1.cls ≠ "java/lang/invoke/MethodHandle" ∧ q.1.cls ≠ "java/lang/invoke/VarHandle") ∧ Cond.instantiable q.1.cls q.2 ∈ tables_1 ∧ Cond.privateMethod q.1 ∈ tables_1 ∧ Cond.instanceMethod q.1 ∈ tables_1
theorem lw_p0 : lw_okq (⟨"FrogsChangeSides$Table", "slotOf", "(I)I"⟩, 3) := ⟨⟨by decide +kernel, by decide +kernel⟩, List.mem_of_getElem? (i := 98) (by decide +kernel), List.mem_of_getElem? (i := 283) (by decide +kernel), List.mem_of_getElem? (i := 284) (by decide +kernel)⟩
theorem lw_p1 : lw_okq (⟨"FrogsChangeSides$Rules", "targets", "(III)I"⟩, 6) := ⟨⟨by decide +kernel, by decide +kernel⟩, List.mem_of_getElem? (i := 37) (by decide +kernel), List.mem_of_getElem? (i := 292) (by decide +kernel), List.mem_of_getElem? (i := 293) (by decide +kernel)⟩
theorem lw_p2 : lw_okq (⟨"FrogsChangeSides$Rules", "landing", "(III)I"⟩, 6) := ⟨⟨by decide +kernel, by decide +kernel⟩, List.mem_of_getElem? (i := 37) (by decide +kernel), List.mem_of_getElem? (i := 297) (by decide +kernel), List.mem_of_getElem? (i := 298) (by decide +kernel)⟩
theorem lw_p3 : lw_okq (⟨"FrogsChangeSides$Rules", "beside", "(II)I"⟩, 6) := ⟨⟨by decide +kernel, by decide +kernel⟩, List.mem_of_getElem? (i := 37) (by decide +kernel), List.mem_of_getElem? (i := 301) (by decide +kernel), List.mem_of_getElem? (i := 302) (by decide +kernel)⟩
theorem lw_p4 : lw_okq (⟨"FrogsChangeSides$Rules", "leapsOver", "(II)Z"⟩, 6) := ⟨⟨by decide +kernel, by decide +kernel⟩, List.mem_of_getElem? (i := 37) (by decide +kernel), List.mem_of_getElem? (i := 305) (by decide +kernel), List.mem_of_getElem? (i := 306) (by decide +kernel)⟩
theorem lw_p5 : lw_okq (⟨"FrogsChangeSides$Search", "noteStuck", "(I)V"⟩, 5) := ⟨⟨by decide +kernel, by decide +kernel⟩, List.mem_of_getElem? (i := 92) (by decide +kernel), List.mem_of_getElem? (i := 309) (by decide +kernel), List.mem_of_getElem? (i := 310) (by decide +kernel)⟩
theorem lw_p6 : lw_okq (⟨"FrogsChangeSides$Search", "goOn", "(IJ)V"⟩, 5) := ⟨⟨by decide +kernel, by decide +kernel⟩, List.mem_of_getElem? (i := 92) (by decide +kernel), List.mem_of_getElem? (i := 313) (by decide +kernel), List.mem_of_getElem? (i := 314) (by decide +kernel)⟩
theorem lw_p7 : lw_okq (⟨"FrogsChangeSides", "isStone", "(I)Z"⟩, 13) := ⟨⟨by decide +kernel, by decide +kernel⟩, List.mem_of_getElem? (i := 13) (by decide +kernel), List.mem_of_getElem? (i := 340) (by decide +kernel), List.mem_of_getElem? (i := 341) (by decide +kernel)⟩
theorem lw_p8 : lw_okq (⟨"FrogsChangeSides", "isFrog", "(I)Z"⟩, 13) := ⟨⟨by decide +kernel, by decide +kernel⟩, List.mem_of_getElem? (i := 13) (by decide +kernel), List.mem_of_getElem? (i := 353) (by decide +kernel), List.mem_of_getElem? (i := 354) (by decide +kernel)⟩
theorem lw_p9 : lw_okq (⟨"FrogsChangeSides", "kindOfFrog", "(I)I"⟩, 13) := ⟨⟨by decide +kernel, by decide +kernel⟩, List.mem_of_getElem? (i := 13) (by decide +kernel), List.mem_of_getElem? (i := 357) (by decide +kernel), List.mem_of_getElem? (i := 358) (by decide +kernel)⟩
theorem lw_p10 : lw_okq (⟨"FrogsChangeSides", "hasBrook", "()Z"⟩, 13) := ⟨⟨by decide +kernel, by decide +kernel⟩, List.mem_of_getElem? (i := 13) (by decide +kernel), List.mem_of_getElem? (i := 409) (by decide +kernel), List.mem_of_getElem? (i := 410) (by decide +kernel)⟩
theorem lw_p11 : lw_okq (⟨"FrogsChangeSides", "firstOfFewest", "()I"⟩, 13) := ⟨⟨by decide +kernel, by decide +kernel⟩, List.mem_of_getElem? (i := 13) (by decide +kernel), List.mem_of_getElem? (i := 421) (by decide +kernel), List.mem_of_getElem? (i := 422) (by decide +kernel)⟩
theorem lw_p12 : lw_okq (⟨"FrogsChangeSides", "firstWrong", "()I"⟩, 13) := ⟨⟨by decide +kernel, by decide +kernel⟩, List.mem_of_getElem? (i := 13) (by decide +kernel), List.mem_of_getElem? (i := 442) (by decide +kernel), List.mem_of_getElem? (i := 443) (by decide +kernel)⟩
theorem lw_p13 : lw_okq (⟨"FrogsChangeSides", "toTurnRound", "(LFrogsChangeSides$Rules;I)I"⟩, 13) := ⟨⟨by decide +kernel, by decide +kernel⟩, List.mem_of_getElem? (i := 13) (by decide +kernel), List.mem_of_getElem? (i := 469) (by decide +kernel), List.mem_of_getElem? (i := 470) (by decide +kernel)⟩
theorem lw_p14 : lw_okq (⟨"FrogsChangeSides", "hasGame", "()Z"⟩, 13) := ⟨⟨by decide +kernel, by decide +kernel⟩, List.mem_of_getElem? (i := 13) (by decide +kernel), List.mem_of_getElem? (i := 487) (by decide +kernel), List.mem_of_getElem? (i := 488) (by decide +kernel)⟩
theorem lw_p15 : lw_okq (⟨"FrogsChangeSides$Game", "hasIt", "(LFrogsChangeSides$Rules;III)Z"⟩, 2) := ⟨⟨by decide +kernel, by decide +kernel⟩, List.mem_of_getElem? (i := 134) (by decide +kernel), List.mem_of_getElem? (i := 491) (by decide +kernel), List.mem_of_getElem? (i := 492) (by decide +kernel)⟩
def lw_privs_1 : List (MethodName × Nat) := [(⟨"FrogsChangeSides$Table", "slotOf", "(I)I"⟩, 3), (⟨"FrogsChangeSides$Rules", "targets", "(III)I"⟩, 6), (⟨"FrogsChangeSides$Rules", "landing", "(III)I"⟩, 6), (⟨"FrogsChangeSides$Rules", "beside", "(II)I"⟩, 6), (⟨"FrogsChangeSides$Rules", "leapsOver", "(II)Z"⟩, 6), (⟨"FrogsChangeSides$Search", "noteStuck", "(I)V"⟩, 5), (⟨"FrogsChangeSides$Search", "goOn", "(IJ)V"⟩, 5), (⟨"FrogsChangeSides", "isStone", "(I)Z"⟩, 13), (⟨"FrogsChangeSides", "isFrog", "(I)Z"⟩, 13), (⟨"FrogsChangeSides", "kindOfFrog", "(I)I"⟩, 13), (⟨"FrogsChangeSides", "hasBrook", "()Z"⟩, 13), (⟨"FrogsChangeSides", "firstOfFewest", "()I"⟩, 13), (⟨"FrogsChangeSides", "firstWrong", "()I"⟩, 13), (⟨"FrogsChangeSides", "toTurnRound", "(LFrogsChangeSides$Rules;I)I"⟩, 13), (⟨"FrogsChangeSides", "hasGame", "()Z"⟩, 13), (⟨"FrogsChangeSides$Game", "hasIt", "(LFrogsChangeSides$Rules;III)Z"⟩, 2)]
theorem lw_r1 : ∀ q ∈ lw_privs_1, lw_okq q := List.forall_mem_cons.mpr ⟨lw_p0, List.forall_mem_cons.mpr ⟨lw_p1, List.forall_mem_cons.mpr ⟨lw_p2, List.forall_mem_cons.mpr ⟨lw_p3, List.forall_mem_cons.mpr ⟨lw_p4, List.forall_mem_cons.mpr ⟨lw_p5, List.forall_mem_cons.mpr ⟨lw_p6, List.forall_mem_cons.mpr ⟨lw_p7, List.forall_mem_cons.mpr ⟨lw_p8, List.forall_mem_cons.mpr ⟨lw_p9, List.forall_mem_cons.mpr ⟨lw_p10, List.forall_mem_cons.mpr ⟨lw_p11, List.forall_mem_cons.mpr ⟨lw_p12, List.forall_mem_cons.mpr ⟨lw_p13, List.forall_mem_cons.mpr ⟨lw_p14, List.forall_mem_cons.mpr ⟨lw_p15, fun _ h => absurd h List.not_mem_nil⟩⟩⟩⟩⟩⟩⟩⟩⟩⟩⟩⟩⟩⟩⟩⟩
theorem lw_p16 : lw_okq (⟨"FrogsChangeSides$Game", "winningMove", "(LFrogsChangeSides$Rules;III)I"⟩, 2) := ⟨⟨by decide +kernel, by decide +kernel⟩, List.mem_of_getElem? (i := 134) (by decide +kernel), List.mem_of_getElem? (i := 496) (by decide +kernel), List.mem_of_getElem? (i := 497) (by decide +kernel)⟩
theorem lw_p17 : lw_okq (⟨"FrogsChangeSidesModel", "readBrook", "()V"⟩, 39) := ⟨⟨by decide +kernel, by decide +kernel⟩, List.mem_of_getElem? (i := 562) (by decide +kernel), List.mem_of_getElem? (i := 702) (by decide +kernel), List.mem_of_getElem? (i := 703) (by decide +kernel)⟩
theorem lw_p18 : lw_okq (⟨"FrogsChangeSidesModel", "isStone", "(I)Z"⟩, 39) := ⟨⟨by decide +kernel, by decide +kernel⟩, List.mem_of_getElem? (i := 562) (by decide +kernel), List.mem_of_getElem? (i := 720) (by decide +kernel), List.mem_of_getElem? (i := 721) (by decide +kernel)⟩
theorem lw_p19 : lw_okq (⟨"FrogsChangeSidesModel", "frogNow", "(II)I"⟩, 39) := ⟨⟨by decide +kernel, by decide +kernel⟩, List.mem_of_getElem? (i := 562) (by decide +kernel), List.mem_of_getElem? (i := 735) (by decide +kernel), List.mem_of_getElem? (i := 736) (by decide +kernel)⟩
theorem lw_p20 : lw_okq (⟨"FrogsChangeSidesModel", "stoneOf", "(I)I"⟩, 39) := ⟨⟨by decide +kernel, by decide +kernel⟩, List.mem_of_getElem? (i := 562) (by decide +kernel), List.mem_of_getElem? (i := 739) (by decide +kernel), List.mem_of_getElem? (i := 740) (by decide +kernel)⟩
theorem lw_p21 : lw_okq (⟨"FrogsChangeSidesModel", "movedMany", "(I)I"⟩, 39) := ⟨⟨by decide +kernel, by decide +kernel⟩, List.mem_of_getElem? (i := 562) (by decide +kernel), List.mem_of_getElem? (i := 743) (by decide +kernel), List.mem_of_getElem? (i := 744) (by decide +kernel)⟩
theorem lw_p22 : lw_okq (⟨"FrogsChangeSidesModel", "layNow", "()V"⟩, 39) := ⟨⟨by decide +kernel, by decide +kernel⟩, List.mem_of_getElem? (i := 562) (by decide +kernel), List.mem_of_getElem? (i := 755) (by decide +kernel), List.mem_of_getElem? (i := 756) (by decide +kernel)⟩
theorem lw_p23 : lw_okq (⟨"FrogsChangeSidesModel", "mayMove", "(II)Z"⟩, 39) := ⟨⟨by decide +kernel, by decide +kernel⟩, List.mem_of_getElem? (i := 562) (by decide +kernel), List.mem_of_getElem? (i := 759) (by decide +kernel), List.mem_of_getElem? (i := 760) (by decide +kernel)⟩
theorem lw_p24 : lw_okq (⟨"FrogsChangeSidesModel", "mayWay", "(III)Z"⟩, 39) := ⟨⟨by decide +kernel, by decide +kernel⟩, List.mem_of_getElem? (i := 562) (by decide +kernel), List.mem_of_getElem? (i := 766) (by decide +kernel), List.mem_of_getElem? (i := 767) (by decide +kernel)⟩
theorem lw_p25 : lw_okq (⟨"FrogsChangeSidesModel", "besides", "(II)I"⟩, 39) := ⟨⟨by decide +kernel, by decide +kernel⟩, List.mem_of_getElem? (i := 562) (by decide +kernel), List.mem_of_getElem? (i := 770) (by decide +kernel), List.mem_of_getElem? (i := 771) (by decide +kernel)⟩
theorem lw_p26 : lw_okq (⟨"FrogsChangeSidesModel", "mayOver", "(II)Z"⟩, 39) := ⟨⟨by decide +kernel, by decide +kernel⟩, List.mem_of_getElem? (i := 562) (by decide +kernel), List.mem_of_getElem? (i := 774) (by decide +kernel), List.mem_of_getElem? (i := 775) (by decide +kernel)⟩
theorem lw_p27 : lw_okq (⟨"FrogsChangeSidesModel", "moveMany", "()I"⟩, 39) := ⟨⟨by decide +kernel, by decide +kernel⟩, List.mem_of_getElem? (i := 562) (by decide +kernel), List.mem_of_getElem? (i := 782) (by decide +kernel), List.mem_of_getElem? (i := 783) (by decide +kernel)⟩
theorem lw_p28 : lw_okq (⟨"FrogsChangeSidesModel", "moveNow", "(II)V"⟩, 39) := ⟨⟨by decide +kernel, by decide +kernel⟩, List.mem_of_getElem? (i := 562) (by decide +kernel), List.mem_of_getElem? (i := 790) (by decide +kernel), List.mem_of_getElem? (i := 791) (by decide +kernel)⟩
theorem lw_p29 : lw_okq (⟨"FrogsChangeSidesModel", "fewestNow", "(I)I"⟩, 39) := ⟨⟨by decide +kernel, by decide +kernel⟩, List.mem_of_getElem? (i := 562) (by decide +kernel), List.mem_of_getElem? (i := 802) (by decide +kernel), List.mem_of_getElem? (i := 803) (by decide +kernel)⟩
theorem lw_p30 : lw_okq (⟨"FrogsChangeSidesModel", "goal", "()I"⟩, 39) := ⟨⟨by decide +kernel, by decide +kernel⟩, List.mem_of_getElem? (i := 562) (by decide +kernel), List.mem_of_getElem? (i := 806) (by decide +kernel), List.mem_of_getElem? (i := 807) (by decide +kernel)⟩
theorem lw_p31 : lw_okq (⟨"FrogsChangeSidesModel", "layRead", "()V"⟩, 39) := ⟨⟨by decide +kernel, by decide +kernel⟩, List.mem_of_getElem? (i := 562) (by decide +kernel), List.mem_of_getElem? (i := 810) (by decide +kernel), List.mem_of_getElem? (i := 811) (by decide +kernel)⟩
def lw_privs_2 : List (MethodName × Nat) := [(⟨"FrogsChangeSides$Game", "winningMove", "(LFrogsChangeSides$Rules;III)I"⟩, 2), (⟨"FrogsChangeSidesModel", "readBrook", "()V"⟩, 39), (⟨"FrogsChangeSidesModel", "isStone", "(I)Z"⟩, 39), (⟨"FrogsChangeSidesModel", "frogNow", "(II)I"⟩, 39), (⟨"FrogsChangeSidesModel", "stoneOf", "(I)I"⟩, 39), (⟨"FrogsChangeSidesModel", "movedMany", "(I)I"⟩, 39), (⟨"FrogsChangeSidesModel", "layNow", "()V"⟩, 39), (⟨"FrogsChangeSidesModel", "mayMove", "(II)Z"⟩, 39), (⟨"FrogsChangeSidesModel", "mayWay", "(III)Z"⟩, 39), (⟨"FrogsChangeSidesModel", "besides", "(II)I"⟩, 39), (⟨"FrogsChangeSidesModel", "mayOver", "(II)Z"⟩, 39), (⟨"FrogsChangeSidesModel", "moveMany", "()I"⟩, 39), (⟨"FrogsChangeSidesModel", "moveNow", "(II)V"⟩, 39), (⟨"FrogsChangeSidesModel", "fewestNow", "(I)I"⟩, 39), (⟨"FrogsChangeSidesModel", "goal", "()I"⟩, 39), (⟨"FrogsChangeSidesModel", "layRead", "()V"⟩, 39)]
theorem lw_r2 : ∀ q ∈ lw_privs_2, lw_okq q := List.forall_mem_cons.mpr ⟨lw_p16, List.forall_mem_cons.mpr ⟨lw_p17, List.forall_mem_cons.mpr ⟨lw_p18, List.forall_mem_cons.mpr ⟨lw_p19, List.forall_mem_cons.mpr ⟨lw_p20, List.forall_mem_cons.mpr ⟨lw_p21, List.forall_mem_cons.mpr ⟨lw_p22, List.forall_mem_cons.mpr ⟨lw_p23, List.forall_mem_cons.mpr ⟨lw_p24, List.forall_mem_cons.mpr ⟨lw_p25, List.forall_mem_cons.mpr ⟨lw_p26, List.forall_mem_cons.mpr ⟨lw_p27, List.forall_mem_cons.mpr ⟨lw_p28, List.forall_mem_cons.mpr ⟨lw_p29, List.forall_mem_cons.mpr ⟨lw_p30, List.forall_mem_cons.mpr ⟨lw_p31, fun _ h => absurd h List.not_mem_nil⟩⟩⟩⟩⟩⟩⟩⟩⟩⟩⟩⟩⟩⟩⟩⟩
theorem lw_p32 : lw_okq (⟨"FrogsChangeSidesModel", "turnedCode", "()I"⟩, 39) := ⟨⟨by decide +kernel, by decide +kernel⟩, List.mem_of_getElem? (i := 562) (by decide +kernel), List.mem_of_getElem? (i := 814) (by decide +kernel), List.mem_of_getElem? (i := 815) (by decide +kernel)⟩
theorem lw_p33 : lw_okq (⟨"FrogsChangeSidesModel", "farTo", "(I)I"⟩, 39) := ⟨⟨by decide +kernel, by decide +kernel⟩, List.mem_of_getElem? (i := 562) (by decide +kernel), List.mem_of_getElem? (i := 818) (by decide +kernel), List.mem_of_getElem? (i := 819) (by decide +kernel)⟩
theorem lw_p34 : lw_okq (⟨"FrogsChangeSidesModel", "layFar", "()V"⟩, 39) := ⟨⟨by decide +kernel, by decide +kernel⟩, List.mem_of_getElem? (i := 562) (by decide +kernel), List.mem_of_getElem? (i := 822) (by decide +kernel), List.mem_of_getElem? (i := 823) (by decide +kernel)⟩
theorem lw_p35 : lw_okq (⟨"FrogsChangeSidesModel", "codeOf", "()I"⟩, 39) := ⟨⟨by decide +kernel, by decide +kernel⟩, List.mem_of_getElem? (i := 562) (by decide +kernel), List.mem_of_getElem? (i := 826) (by decide +kernel), List.mem_of_getElem? (i := 827) (by decide +kernel)⟩
theorem lw_p36 : lw_okq (⟨"FrogsChangeSidesModel", "come", "(II)V"⟩, 39) := ⟨⟨by decide +kernel, by decide +kernel⟩, List.mem_of_getElem? (i := 562) (by decide +kernel), List.mem_of_getElem? (i := 830) (by decide +kernel), List.mem_of_getElem? (i := 831) (by decide +kernel)⟩
theorem lw_p37 : lw_okq (⟨"FrogsChangeSidesModel", "layRow", "(I)V"⟩, 39) := ⟨⟨by decide +kernel, by decide +kernel⟩, List.mem_of_getElem? (i := 562) (by decide +kernel), List.mem_of_getElem? (i := 834) (by decide +kernel), List.mem_of_getElem? (i := 835) (by decide +kernel)⟩
theorem lw_p38 : lw_okq (⟨"FrogsChangeSidesModel", "waysNow", "()I"⟩, 39) := ⟨⟨by decide +kernel, by decide +kernel⟩, List.mem_of_getElem? (i := 562) (by decide +kernel), List.mem_of_getElem? (i := 848) (by decide +kernel), List.mem_of_getElem? (i := 849) (by decide +kernel)⟩
theorem lw_p39 : lw_okq (⟨"FrogsChangeSidesModel", "wrongNow", "()I"⟩, 39) := ⟨⟨by decide +kernel, by decide +kernel⟩, List.mem_of_getElem? (i := 562) (by decide +kernel), List.mem_of_getElem? (i := 856) (by decide +kernel), List.mem_of_getElem? (i := 857) (by decide +kernel)⟩
theorem lw_p40 : lw_okq (⟨"FrogsChangeSidesModel", "layEnds", "()V"⟩, 39) := ⟨⟨by decide +kernel, by decide +kernel⟩, List.mem_of_getElem? (i := 562) (by decide +kernel), List.mem_of_getElem? (i := 864) (by decide +kernel), List.mem_of_getElem? (i := 865) (by decide +kernel)⟩
theorem lw_p41 : lw_okq (⟨"FrogsChangeSidesModel", "moreNow", "(I)I"⟩, 39) := ⟨⟨by decide +kernel, by decide +kernel⟩, List.mem_of_getElem? (i := 562) (by decide +kernel), List.mem_of_getElem? (i := 880) (by decide +kernel), List.mem_of_getElem? (i := 881) (by decide +kernel)⟩
theorem lw_p42 : lw_okq (⟨"FrogsChangeSidesModel", "turns", "()I"⟩, 39) := ⟨⟨by decide +kernel, by decide +kernel⟩, List.mem_of_getElem? (i := 562) (by decide +kernel), List.mem_of_getElem? (i := 884) (by decide +kernel), List.mem_of_getElem? (i := 885) (by decide +kernel)⟩
theorem lw_p43 : lw_okq (⟨"FrogsChangeSidesModel", "offNow", "(I)I"⟩, 39) := ⟨⟨by decide +kernel, by decide +kernel⟩, List.mem_of_getElem? (i := 562) (by decide +kernel), List.mem_of_getElem? (i := 892) (by decide +kernel), List.mem_of_getElem? (i := 893) (by decide +kernel)⟩
theorem lw_p44 : lw_okq (⟨"FrogsChangeSidesModel", "isGame", "()Z"⟩, 39) := ⟨⟨by decide +kernel, by decide +kernel⟩, List.mem_of_getElem? (i := 562) (by decide +kernel), List.mem_of_getElem? (i := 900) (by decide +kernel), List.mem_of_getElem? (i := 901) (by decide +kernel)⟩
theorem lw_p45 : lw_okq (⟨"FrogsChangeSidesModel", "winsNow", "(I)I"⟩, 39) := ⟨⟨by decide +kernel, by decide +kernel⟩, List.mem_of_getElem? (i := 562) (by decide +kernel), List.mem_of_getElem? (i := 904) (by decide +kernel), List.mem_of_getElem? (i := 905) (by decide +kernel)⟩
theorem lw_p46 : lw_okq (⟨"FrogsChangeSidesModel", "layGame", "()V"⟩, 39) := ⟨⟨by decide +kernel, by decide +kernel⟩, List.mem_of_getElem? (i := 562) (by decide +kernel), List.mem_of_getElem? (i := 908) (by decide +kernel), List.mem_of_getElem? (i := 909) (by decide +kernel)⟩
theorem lw_p47 : lw_okq (⟨"FrogsChangeSidesModel", "progress", "(I)I"⟩, 39) := ⟨⟨by decide +kernel, by decide +kernel⟩, List.mem_of_getElem? (i := 562) (by decide +kernel), List.mem_of_getElem? (i := 912) (by decide +kernel), List.mem_of_getElem? (i := 913) (by decide +kernel)⟩
def lw_privs_3 : List (MethodName × Nat) := [(⟨"FrogsChangeSidesModel", "turnedCode", "()I"⟩, 39), (⟨"FrogsChangeSidesModel", "farTo", "(I)I"⟩, 39), (⟨"FrogsChangeSidesModel", "layFar", "()V"⟩, 39), (⟨"FrogsChangeSidesModel", "codeOf", "()I"⟩, 39), (⟨"FrogsChangeSidesModel", "come", "(II)V"⟩, 39), (⟨"FrogsChangeSidesModel", "layRow", "(I)V"⟩, 39), (⟨"FrogsChangeSidesModel", "waysNow", "()I"⟩, 39), (⟨"FrogsChangeSidesModel", "wrongNow", "()I"⟩, 39), (⟨"FrogsChangeSidesModel", "layEnds", "()V"⟩, 39), (⟨"FrogsChangeSidesModel", "moreNow", "(I)I"⟩, 39), (⟨"FrogsChangeSidesModel", "turns", "()I"⟩, 39), (⟨"FrogsChangeSidesModel", "offNow", "(I)I"⟩, 39), (⟨"FrogsChangeSidesModel", "isGame", "()Z"⟩, 39), (⟨"FrogsChangeSidesModel", "winsNow", "(I)I"⟩, 39), (⟨"FrogsChangeSidesModel", "layGame", "()V"⟩, 39), (⟨"FrogsChangeSidesModel", "progress", "(I)I"⟩, 39)]
theorem lw_r3 : ∀ q ∈ lw_privs_3, lw_okq q := List.forall_mem_cons.mpr ⟨lw_p32, List.forall_mem_cons.mpr ⟨lw_p33, List.forall_mem_cons.mpr ⟨lw_p34, List.forall_mem_cons.mpr ⟨lw_p35, List.forall_mem_cons.mpr ⟨lw_p36, List.forall_mem_cons.mpr ⟨lw_p37, List.forall_mem_cons.mpr ⟨lw_p38, List.forall_mem_cons.mpr ⟨lw_p39, List.forall_mem_cons.mpr ⟨lw_p40, List.forall_mem_cons.mpr ⟨lw_p41, List.forall_mem_cons.mpr ⟨lw_p42, List.forall_mem_cons.mpr ⟨lw_p43, List.forall_mem_cons.mpr ⟨lw_p44, List.forall_mem_cons.mpr ⟨lw_p45, List.forall_mem_cons.mpr ⟨lw_p46, List.forall_mem_cons.mpr ⟨lw_p47, fun _ h => absurd h List.not_mem_nil⟩⟩⟩⟩⟩⟩⟩⟩⟩⟩⟩⟩⟩⟩⟩⟩
theorem lw_p48 : lw_okq (⟨"FrogsChangeSidesModel", "winsBy", "(II)Z"⟩, 39) := ⟨⟨by decide +kernel, by decide +kernel⟩, List.mem_of_getElem? (i := 562) (by decide +kernel), List.mem_of_getElem? (i := 916) (by decide +kernel), List.mem_of_getElem? (i := 917) (by decide +kernel)⟩
theorem lw_p49 : lw_okq (⟨"FrogsChangeSidesModel", "isOf", "(II)Z"⟩, 39) := ⟨⟨by decide +kernel, by decide +kernel⟩, List.mem_of_getElem? (i := 562) (by decide +kernel), List.mem_of_getElem? (i := 920) (by decide +kernel), List.mem_of_getElem? (i := 921) (by decide +kernel)⟩
theorem lw_p50 : lw_okq (⟨"FrogsChangeSidesModel", "byNow", "(II)I"⟩, 39) := ⟨⟨by decide +kernel, by decide +kernel⟩, List.mem_of_getElem? (i := 562) (by decide +kernel), List.mem_of_getElem? (i := 928) (by decide +kernel), List.mem_of_getElem? (i := 929) (by decide +kernel)⟩
theorem lw_p51 : lw_okq (⟨"FrogsChangeSidesModel", "playNow", "(III)I"⟩, 39) := ⟨⟨by decide +kernel, by decide +kernel⟩, List.mem_of_getElem? (i := 562) (by decide +kernel), List.mem_of_getElem? (i := 936) (by decide +kernel), List.mem_of_getElem? (i := 937) (by decide +kernel)⟩
theorem lw_p52 : lw_okq (⟨"FrogsChangeSidesModel", "draw", "(I)I"⟩, 39) := ⟨⟨by decide +kernel, by decide +kernel⟩, List.mem_of_getElem? (i := 562) (by decide +kernel), List.mem_of_getElem? (i := 940) (by decide +kernel), List.mem_of_getElem? (i := 941) (by decide +kernel)⟩
theorem lw_p53 : lw_okq (⟨"FrogsChangeSidesModel", "goMove", "(I)V"⟩, 39) := ⟨⟨by decide +kernel, by decide +kernel⟩, List.mem_of_getElem? (i := 562) (by decide +kernel), List.mem_of_getElem? (i := 948) (by decide +kernel), List.mem_of_getElem? (i := 949) (by decide +kernel)⟩
theorem lw_p54 : lw_okq (⟨"FrogsChangeSidesModel", "howMany", "(I)I"⟩, 39) := ⟨⟨by decide +kernel, by decide +kernel⟩, List.mem_of_getElem? (i := 562) (by decide +kernel), List.mem_of_getElem? (i := 964) (by decide +kernel), List.mem_of_getElem? (i := 965) (by decide +kernel)⟩
theorem lw_p55 : lw_okq (⟨"FrogsChangeSidesModel", "mix", "(J)V"⟩, 39) := ⟨⟨by decide +kernel, by decide +kernel⟩, List.mem_of_getElem? (i := 562) (by decide +kernel), List.mem_of_getElem? (i := 977) (by decide +kernel), List.mem_of_getElem? (i := 978) (by decide +kernel)⟩
theorem lw_p56 : lw_okq (⟨"FrogsChangeSidesModel", "mixBrook", "()V"⟩, 39) := ⟨⟨by decide +kernel, by decide +kernel⟩, List.mem_of_getElem? (i := 562) (by decide +kernel), List.mem_of_getElem? (i := 982) (by decide +kernel), List.mem_of_getElem? (i := 983) (by decide +kernel)⟩
def lw_privs_4 : List (MethodName × Nat) := [(⟨"FrogsChangeSidesModel", "winsBy", "(II)Z"⟩, 39), (⟨"FrogsChangeSidesModel", "isOf", "(II)Z"⟩, 39), (⟨"FrogsChangeSidesModel", "byNow", "(II)I"⟩, 39), (⟨"FrogsChangeSidesModel", "playNow", "(III)I"⟩, 39), (⟨"FrogsChangeSidesModel", "draw", "(I)I"⟩, 39), (⟨"FrogsChangeSidesModel", "goMove", "(I)V"⟩, 39), (⟨"FrogsChangeSidesModel", "howMany", "(I)I"⟩, 39), (⟨"FrogsChangeSidesModel", "mix", "(J)V"⟩, 39), (⟨"FrogsChangeSidesModel", "mixBrook", "()V"⟩, 39)]
theorem lw_r4 : ∀ q ∈ lw_privs_4, lw_okq q := List.forall_mem_cons.mpr ⟨lw_p48, List.forall_mem_cons.mpr ⟨lw_p49, List.forall_mem_cons.mpr ⟨lw_p50, List.forall_mem_cons.mpr ⟨lw_p51, List.forall_mem_cons.mpr ⟨lw_p52, List.forall_mem_cons.mpr ⟨lw_p53, List.forall_mem_cons.mpr ⟨lw_p54, List.forall_mem_cons.mpr ⟨lw_p55, List.forall_mem_cons.mpr ⟨lw_p56, fun _ h => absurd h List.not_mem_nil⟩⟩⟩⟩⟩⟩⟩⟩⟩
def lw_privs : List (MethodName × Nat) := lw_privs_1 ++ (lw_privs_2 ++ (lw_privs_3 ++ (lw_privs_4)))
def lw_tbl : List Cond := k2_sels lw_privs ++ tables_1
theorem lw_privs_ok : ∀ q ∈ lw_privs, lw_okq q := by
  show ∀ q ∈ lw_privs_1 ++ (lw_privs_2 ++ (lw_privs_3 ++ (lw_privs_4))), lw_okq q
  exact List.forall_mem_append.mpr ⟨lw_r1, List.forall_mem_append.mpr ⟨lw_r2, List.forall_mem_append.mpr ⟨lw_r3, lw_r4⟩⟩⟩
-- ===== end of PART A; then your names; then what follows =====
def RX0 : String := "FrogsChangeSides$Game"
def TX0 : u_T := fun k => match k with
  | 0 => ("FrogsChangeSides$Game", "table", "LFrogsChangeSides$Table;", true)
  | _ => ("FrogsChangeSides$Game", "known", "[I", true)
def tyX0 : Nat → FieldType := fun k => match k with
  | 0 => .object "FrogsChangeSides$Table"
  | _ => .array .int
theorem nmX0 : ∀ a, a < 2 → ∀ b, b < 2 → a ≠ b → (TX0 a).2.1 ≠ (TX0 b).2.1 := by decide +kernel
theorem tyX0_ok : ∀ k, k < 2 → parseFieldDescriptor (TX0 k).2.2.1 = some (tyX0 k) := by decide +kernel
abbrev cX0_init : ByteArray := prog_2_method_1_code
def yX0_init : MethodName := ⟨RX0, "<init>", "()V"⟩
abbrev cX0_forget : ByteArray := prog_2_method_2_code
def yX0_forget : MethodName := ⟨RX0, "forget", "()V"⟩
abbrev cX0_hasIt : ByteArray := prog_2_method_3_code
def yX0_hasIt : MethodName := ⟨RX0, "hasIt", "(LFrogsChangeSides$Rules;III)Z"⟩
abbrev cX0_winningMove : ByteArray := prog_2_method_4_code
def yX0_winningMove : MethodName := ⟨RX0, "winningMove", "(LFrogsChangeSides$Rules;III)I"⟩
def RX1 : String := "FrogsChangeSides$Page"
def TX1 : u_T := fun k => match k with
  | 0 => ("FrogsChangeSides$Page", "codes", "[I", true)
  | _ => ("FrogsChangeSides$Page", "size", "I", false)
def tyX1 : Nat → FieldType := fun k => match k with
  | 0 => .array .int
  | _ => .int
theorem nmX1 : ∀ a, a < 2 → ∀ b, b < 2 → a ≠ b → (TX1 a).2.1 ≠ (TX1 b).2.1 := by decide +kernel
theorem tyX1_ok : ∀ k, k < 2 → parseFieldDescriptor (TX1 k).2.2.1 = some (tyX1 k) := by decide +kernel
abbrev cX1_init : ByteArray := prog_3_method_1_code
def yX1_init : MethodName := ⟨RX1, "<init>", "()V"⟩
abbrev cX1_lettersIn : ByteArray := prog_3_method_2_code
def yX1_lettersIn : MethodName := ⟨RX1, "lettersIn", "(J)I"⟩
abbrev cX1_codeIn : ByteArray := prog_3_method_3_code
def yX1_codeIn : MethodName := ⟨RX1, "codeIn", "(JI)I"⟩
abbrev cX1_append : ByteArray := prog_3_method_4_code
def yX1_append : MethodName := ⟨RX1, "append", "(JI)V"⟩
abbrev cX1_kindOf : ByteArray := prog_3_method_5_code
def yX1_kindOf : MethodName := ⟨RX1, "kindOf", "(I)I"⟩
abbrev cX1_signOf : ByteArray := prog_3_method_6_code
def yX1_signOf : MethodName := ⟨RX1, "signOf", "(I)I"⟩
abbrev cX1_leadingStones : ByteArray := prog_3_method_7_code
def yX1_leadingStones : MethodName := ⟨RX1, "leadingStones", "()I"⟩
abbrev cX1_firstFault : ByteArray := prog_3_method_8_code
def yX1_firstFault : MethodName := ⟨RX1, "firstFault", "()I"⟩
abbrev cX1_tellsBrook : ByteArray := prog_3_method_9_code
def yX1_tellsBrook : MethodName := ⟨RX1, "tellsBrook", "()Z"⟩
abbrev cX1_tellsRow : ByteArray := prog_3_method_10_code
def yX1_tellsRow : MethodName := ⟨RX1, "tellsRow", "(I)Z"⟩
abbrev cX1_row : ByteArray := prog_3_method_11_code
def yX1_row : MethodName := ⟨RX1, "row", "()I"⟩
abbrev cX1_signs : ByteArray := prog_3_method_12_code
def yX1_signs : MethodName := ⟨RX1, "signs", "()I"⟩
def RX2 : String := "FrogsChangeSides$Position"
def TX2 : u_T := fun k => match k with
  | 0 => ("FrogsChangeSides$Position", "made", "[I", true)
  | 1 => ("FrogsChangeSides$Position", "movers", "[I", true)
  | 2 => ("FrogsChangeSides$Position", "row", "I", false)
  | 3 => ("FrogsChangeSides$Position", "numbers", "I", false)
  | _ => ("FrogsChangeSides$Position", "size", "I", false)
def tyX2 : Nat → FieldType := fun k => match k with
  | 0 => .array .int
  | 1 => .array .int
  | 2 => .int
  | 3 => .int
  | _ => .int
theorem nmX2 : ∀ a, a < 5 → ∀ b, b < 5 → a ≠ b → (TX2 a).2.1 ≠ (TX2 b).2.1 := by decide +kernel
theorem tyX2_ok : ∀ k, k < 5 → parseFieldDescriptor (TX2 k).2.2.1 = some (tyX2 k) := by decide +kernel
abbrev cX2_init : ByteArray := prog_4_method_1_code
def yX2_init : MethodName := ⟨RX2, "<init>", "()V"⟩
abbrev cX2_begin : ByteArray := prog_4_method_2_code
def yX2_begin : MethodName := ⟨RX2, "begin", "(II)V"⟩
abbrev cX2_go : ByteArray := prog_4_method_3_code
def yX2_go : MethodName := ⟨RX2, "go", "(II)V"⟩
abbrev cX2_takeBack : ByteArray := prog_4_method_4_code
def yX2_takeBack : MethodName := ⟨RX2, "takeBack", "()I"⟩
abbrev cX2_stoneOf : ByteArray := prog_4_method_5_code
def yX2_stoneOf : MethodName := ⟨RX2, "stoneOf", "(I)I"⟩
abbrev cX2_timesMoved : ByteArray := prog_4_method_6_code
def yX2_timesMoved : MethodName := ⟨RX2, "timesMoved", "(I)I"⟩
abbrev cX2_copy : ByteArray := prog_4_method_7_code
def yX2_copy : MethodName := ⟨RX2, "copy", "(LFrogsChangeSides$Position;)V"⟩
def RX3 : String := "FrogsChangeSides$Rows"
def TX3 : u_T := fun k => match k with
  | _ => ("", "", "", false)
def tyX3 : Nat → FieldType := fun k => match k with
  | _ => .int
theorem nmX3 : ∀ a, a < 0 → ∀ b, b < 0 → a ≠ b → (TX3 a).2.1 ≠ (TX3 b).2.1 := by decide +kernel
theorem tyX3_ok : ∀ k, k < 0 → parseFieldDescriptor (TX3 k).2.2.1 = some (tyX3 k) := by decide +kernel
abbrev cX3_at : ByteArray := prog_5_method_2_code
def yX3_at : MethodName := ⟨RX3, "at", "(II)I"⟩
abbrev cX3_moved : ByteArray := prog_5_method_3_code
def yX3_moved : MethodName := ⟨RX3, "moved", "(II)I"⟩
abbrev cX3_turned : ByteArray := prog_5_method_4_code
def yX3_turned : MethodName := ⟨RX3, "turned", "(II)I"⟩
abbrev cX3_widened : ByteArray := prog_5_method_5_code
def yX3_widened : MethodName := ⟨RX3, "widened", "(II)I"⟩
abbrev cX3_without : ByteArray := prog_5_method_6_code
def yX3_without : MethodName := ⟨RX3, "without", "(II)I"⟩
abbrev cX3_freeStones : ByteArray := prog_5_method_7_code
def yX3_freeStones : MethodName := ⟨RX3, "freeStones", "(II)I"⟩
abbrev cX3_numbered : ByteArray := prog_5_method_8_code
def yX3_numbered : MethodName := ⟨RX3, "numbered", "(I)I"⟩
abbrev cX3_lowestMove : ByteArray := prog_5_method_9_code
def yX3_lowestMove : MethodName := ⟨RX3, "lowestMove", "(J)I"⟩
def RX4 : String := "FrogsChangeSides$Rules"
def TX4 : u_T := fun k => match k with
  | 0 => ("FrogsChangeSides$Rules", "stones", "I", false)
  | 1 => ("FrogsChangeSides$Rules", "signs", "I", false)
  | 2 => ("FrogsChangeSides$Rules", "any", "Z", false)
  | 3 => ("FrogsChangeSides$Rules", "back", "Z", false)
  | 4 => ("FrogsChangeSides$Rules", "ring", "Z", false)
  | _ => ("FrogsChangeSides$Rules", "two", "Z", false)
def tyX4 : Nat → FieldType := fun k => match k with
  | 0 => .int
  | 1 => .int
  | 2 => .boolean
  | 3 => .boolean
  | 4 => .boolean
  | _ => .boolean
theorem nmX4 : ∀ a, a < 6 → ∀ b, b < 6 → a ≠ b → (TX4 a).2.1 ≠ (TX4 b).2.1 := by decide +kernel
theorem tyX4_ok : ∀ k, k < 6 → parseFieldDescriptor (TX4 k).2.2.1 = some (tyX4 k) := by decide +kernel
abbrev cX4_init : ByteArray := prog_6_method_1_code
def yX4_init : MethodName := ⟨RX4, "<init>", "()V"⟩
abbrev cX4_set : ByteArray := prog_6_method_2_code
def yX4_set : MethodName := ⟨RX4, "set", "(II)V"⟩
abbrev cX4_has : ByteArray := prog_6_method_3_code
def yX4_has : MethodName := ⟨RX4, "has", "(I)Z"⟩
abbrev cX4_allows : ByteArray := prog_6_method_4_code
def yX4_allows : MethodName := ⟨RX4, "allows", "(III)Z"⟩
abbrev cX4_allMoves : ByteArray := prog_6_method_5_code
def yX4_allMoves : MethodName := ⟨RX4, "allMoves", "(II)J"⟩
abbrev cX4_targets : ByteArray := prog_6_method_6_code
def yX4_targets : MethodName := ⟨RX4, "targets", "(III)I"⟩
abbrev cX4_landing : ByteArray := prog_6_method_7_code
def yX4_landing : MethodName := ⟨RX4, "landing", "(III)I"⟩
abbrev cX4_beside : ByteArray := prog_6_method_8_code
def yX4_beside : MethodName := ⟨RX4, "beside", "(II)I"⟩
abbrev cX4_leapsOver : ByteArray := prog_6_method_9_code
def yX4_leapsOver : MethodName := ⟨RX4, "leapsOver", "(II)Z"⟩
def RX5 : String := "FrogsChangeSides$Search"
def TX5 : u_T := fun k => match k with
  | 0 => ("FrogsChangeSides$Search", "table", "LFrogsChangeSides$Table;", true)
  | 1 => ("FrogsChangeSides$Search", "depths", "[I", true)
  | 2 => ("FrogsChangeSides$Search", "ways", "[I", true)
  | 3 => ("FrogsChangeSides$Search", "stuckRows", "I", false)
  | _ => ("FrogsChangeSides$Search", "soonestStuck", "I", false)
def tyX5 : Nat → FieldType := fun k => match k with
  | 0 => .object "FrogsChangeSides$Table"
  | 1 => .array .int
  | 2 => .array .int
  | 3 => .int
  | _ => .int
theorem nmX5 : ∀ a, a < 5 → ∀ b, b < 5 → a ≠ b → (TX5 a).2.1 ≠ (TX5 b).2.1 := by decide +kernel
theorem tyX5_ok : ∀ k, k < 5 → parseFieldDescriptor (TX5 k).2.2.1 = some (tyX5 k) := by decide +kernel
abbrev cX5_init : ByteArray := prog_7_method_1_code
def yX5_init : MethodName := ⟨RX5, "<init>", "()V"⟩
abbrev cX5_spread : ByteArray := prog_7_method_2_code
def yX5_spread : MethodName := ⟨RX5, "spread", "(LFrogsChangeSides$Rules;III)I"⟩
abbrev cX5_noteStuck : ByteArray := prog_7_method_3_code
def yX5_noteStuck : MethodName := ⟨RX5, "noteStuck", "(I)V"⟩
abbrev cX5_goOn : ByteArray := prog_7_method_4_code
def yX5_goOn : MethodName := ⟨RX5, "goOn", "(IJ)V"⟩
abbrev cX5_depthOf : ByteArray := prog_7_method_5_code
def yX5_depthOf : MethodName := ⟨RX5, "depthOf", "(I)I"⟩
abbrev cX5_waysOf : ByteArray := prog_7_method_6_code
def yX5_waysOf : MethodName := ⟨RX5, "waysOf", "(I)I"⟩
def RX6 : String := "FrogsChangeSides$Table"
def TX6 : u_T := fun k => match k with
  | 0 => ("FrogsChangeSides$Table", "slots", "[I", true)
  | 1 => ("FrogsChangeSides$Table", "rows", "[I", true)
  | _ => ("FrogsChangeSides$Table", "size", "I", false)
def tyX6 : Nat → FieldType := fun k => match k with
  | 0 => .array .int
  | 1 => .array .int
  | _ => .int
theorem nmX6 : ∀ a, a < 3 → ∀ b, b < 3 → a ≠ b → (TX6 a).2.1 ≠ (TX6 b).2.1 := by decide +kernel
theorem tyX6_ok : ∀ k, k < 3 → parseFieldDescriptor (TX6 k).2.2.1 = some (tyX6 k) := by decide +kernel
abbrev cX6_init : ByteArray := prog_8_method_1_code
def yX6_init : MethodName := ⟨RX6, "<init>", "()V"⟩
abbrev cX6_clear : ByteArray := prog_8_method_2_code
def yX6_clear : MethodName := ⟨RX6, "clear", "()V"⟩
abbrev cX6_find : ByteArray := prog_8_method_3_code
def yX6_find : MethodName := ⟨RX6, "find", "(I)I"⟩
abbrev cX6_meet : ByteArray := prog_8_method_4_code
def yX6_meet : MethodName := ⟨RX6, "meet", "(I)I"⟩
abbrev cX6_slotOf : ByteArray := prog_8_method_5_code
def yX6_slotOf : MethodName := ⟨RX6, "slotOf", "(I)I"⟩
def RX7 : String := "FrogsChangeSides"
def TX7 : u_T := fun k => match k with
  | 0 => ("FrogsChangeSides", "page", "LFrogsChangeSides$Page;", true)
  | 1 => ("FrogsChangeSides", "rules", "LFrogsChangeSides$Rules;", true)
  | 2 => ("FrogsChangeSides", "otherRules", "LFrogsChangeSides$Rules;", true)
  | 3 => ("FrogsChangeSides", "now", "LFrogsChangeSides$Position;", true)
  | 4 => ("FrogsChangeSides", "kept", "LFrogsChangeSides$Position;", true)
  | 5 => ("FrogsChangeSides", "toGoal", "LFrogsChangeSides$Search;", true)
  | 6 => ("FrogsChangeSides", "afresh", "LFrogsChangeSides$Search;", true)
  | 7 => ("FrogsChangeSides", "game", "LFrogsChangeSides$Game;", true)
  | 8 => ("FrogsChangeSides", "readRow", "I", false)
  | 9 => ("FrogsChangeSides", "goalRow", "I", false)
  | 10 => ("FrogsChangeSides", "frogs", "I", false)
  | 11 => ("FrogsChangeSides", "timesRead", "I", false)
  | _ => ("FrogsChangeSides", "hasImage", "Z", false)
def tyX7 : Nat → FieldType := fun k => match k with
  | 0 => .object "FrogsChangeSides$Page"
  | 1 => .object "FrogsChangeSides$Rules"
  | 2 => .object "FrogsChangeSides$Rules"
  | 3 => .object "FrogsChangeSides$Position"
  | 4 => .object "FrogsChangeSides$Position"
  | 5 => .object "FrogsChangeSides$Search"
  | 6 => .object "FrogsChangeSides$Search"
  | 7 => .object "FrogsChangeSides$Game"
  | 8 => .int
  | 9 => .int
  | 10 => .int
  | 11 => .int
  | _ => .boolean
theorem nmX7 : ∀ a, a < 13 → ∀ b, b < 13 → a ≠ b → (TX7 a).2.1 ≠ (TX7 b).2.1 := by decide +kernel
theorem tyX7_ok : ∀ k, k < 13 → parseFieldDescriptor (TX7 k).2.2.1 = some (tyX7 k) := by decide +kernel
abbrev cX7_init : ByteArray := prog_1_method_1_code
def yX7_init : MethodName := ⟨RX7, "<init>", "()V"⟩
abbrev cX7_letters : ByteArray := prog_1_method_2_code
def yX7_letters : MethodName := ⟨RX7, "letters", "(J)I"⟩
abbrev cX7_blank : ByteArray := prog_1_method_3_code
def yX7_blank : MethodName := ⟨RX7, "blank", "()I"⟩
abbrev cX7_fault : ByteArray := prog_1_method_4_code
def yX7_fault : MethodName := ⟨RX7, "fault", "()I"⟩
abbrev cX7_brook : ByteArray := prog_1_method_5_code
def yX7_brook : MethodName := ⟨RX7, "brook", "()I"⟩
abbrev cX7_on : ByteArray := prog_1_method_6_code
def yX7_on : MethodName := ⟨RX7, "on", "(I)I"⟩
abbrev cX7_frog : ByteArray := prog_1_method_7_code
def yX7_frog : MethodName := ⟨RX7, "frog", "(I)I"⟩
abbrev cX7_about : ByteArray := prog_1_method_8_code
def yX7_about : MethodName := ⟨RX7, "about", "(II)I"⟩
abbrev cX7_as : ByteArray := prog_1_method_9_code
def yX7_as : MethodName := ⟨RX7, "as", "(II)I"⟩
abbrev cX7_may : ByteArray := prog_1_method_10_code
def yX7_may : MethodName := ⟨RX7, "may", "(II)I"⟩
abbrev cX7_moves : ByteArray := prog_1_method_11_code
def yX7_moves : MethodName := ⟨RX7, "moves", "()I"⟩
abbrev cX7_move : ByteArray := prog_1_method_12_code
def yX7_move : MethodName := ⟨RX7, "move", "(II)I"⟩
abbrev cX7_back : ByteArray := prog_1_method_13_code
def yX7_back : MethodName := ⟨RX7, "back", "()I"⟩
abbrev cX7_fewest : ByteArray := prog_1_method_14_code
def yX7_fewest : MethodName := ⟨RX7, "fewest", "(I)I"⟩
abbrev cX7_ways : ByteArray := prog_1_method_15_code
def yX7_ways : MethodName := ⟨RX7, "ways", "()I"⟩
abbrev cX7_wrong : ByteArray := prog_1_method_16_code
def yX7_wrong : MethodName := ⟨RX7, "wrong", "()I"⟩
abbrev cX7_ends : ByteArray := prog_1_method_17_code
def yX7_ends : MethodName := ⟨RX7, "ends", "()I"⟩
abbrev cX7_soon : ByteArray := prog_1_method_18_code
def yX7_soon : MethodName := ⟨RX7, "soon", "()I"⟩
abbrev cX7_comes : ByteArray := prog_1_method_19_code
def yX7_comes : MethodName := ⟨RX7, "comes", "()I"⟩
abbrev cX7_more : ByteArray := prog_1_method_20_code
def yX7_more : MethodName := ⟨RX7, "more", "(I)I"⟩
abbrev cX7_off : ByteArray := prog_1_method_21_code
def yX7_off : MethodName := ⟨RX7, "off", "(I)I"⟩
abbrev cX7_wins : ByteArray := prog_1_method_22_code
def yX7_wins : MethodName := ⟨RX7, "wins", "(I)I"⟩
abbrev cX7_by : ByteArray := prog_1_method_23_code
def yX7_by : MethodName := ⟨RX7, "by", "(II)I"⟩
abbrev cX7_play : ByteArray := prog_1_method_24_code
def yX7_play : MethodName := ⟨RX7, "play", "(III)I"⟩
abbrev cX7_image : ByteArray := prog_1_method_25_code
def yX7_image : MethodName := ⟨RX7, "image", "()I"⟩
abbrev cX7_restore : ByteArray := prog_1_method_26_code
def yX7_restore : MethodName := ⟨RX7, "restore", "()I"⟩
abbrev cX7_count : ByteArray := prog_1_method_27_code
def yX7_count : MethodName := ⟨RX7, "count", "(I)I"⟩
abbrev cX7_digest : ByteArray := prog_1_method_28_code
def yX7_digest : MethodName := ⟨RX7, "digest", "()J"⟩
abbrev cX7_hasBrook : ByteArray := prog_1_method_29_code
def yX7_hasBrook : MethodName := ⟨RX7, "hasBrook", "()Z"⟩
abbrev cX7_hasGame : ByteArray := prog_1_method_30_code
def yX7_hasGame : MethodName := ⟨RX7, "hasGame", "()Z"⟩
abbrev cX7_isStone : ByteArray := prog_1_method_31_code
def yX7_isStone : MethodName := ⟨RX7, "isStone", "(I)Z"⟩
abbrev cX7_isFrog : ByteArray := prog_1_method_32_code
def yX7_isFrog : MethodName := ⟨RX7, "isFrog", "(I)Z"⟩
abbrev cX7_kindOfFrog : ByteArray := prog_1_method_33_code
def yX7_kindOfFrog : MethodName := ⟨RX7, "kindOfFrog", "(I)I"⟩
abbrev cX7_partOfMove : ByteArray := prog_1_method_34_code
def yX7_partOfMove : MethodName := ⟨RX7, "partOfMove", "(II)I"⟩
abbrev cX7_firstOfFewest : ByteArray := prog_1_method_35_code
def yX7_firstOfFewest : MethodName := ⟨RX7, "firstOfFewest", "()I"⟩
abbrev cX7_firstWrong : ByteArray := prog_1_method_36_code
def yX7_firstWrong : MethodName := ⟨RX7, "firstWrong", "()I"⟩
abbrev cX7_toTurnRound : ByteArray := prog_1_method_37_code
def yX7_toTurnRound : MethodName := ⟨RX7, "toTurnRound", "(LFrogsChangeSides$Rules;I)I"⟩
abbrev cX7_isLess : ByteArray := prog_1_method_38_code
def yX7_isLess : MethodName := ⟨RX7, "isLess", "(II)Z"⟩
abbrev cX7_seedAfter : ByteArray := prog_1_method_39_code
def yX7_seedAfter : MethodName := ⟨RX7, "seedAfter", "(I)I"⟩
abbrev cX7_drawOf : ByteArray := prog_1_method_40_code
def yX7_drawOf : MethodName := ⟨RX7, "drawOf", "(II)I"⟩
abbrev cX7_moveOfNumber : ByteArray := prog_1_method_41_code
def yX7_moveOfNumber : MethodName := ⟨RX7, "moveOfNumber", "(JI)I"⟩
def RX8 : String := "FrogsChangeSidesModel"
def TX8 : u_T := fun k => match k with
  | 0 => ("FrogsChangeSidesModel", "stones", "I", false)
  | 1 => ("FrogsChangeSidesModel", "any", "Z", false)
  | 2 => ("FrogsChangeSidesModel", "backward", "Z", false)
  | 3 => ("FrogsChangeSidesModel", "ring", "Z", false)
  | 4 => ("FrogsChangeSidesModel", "two", "Z", false)
  | 5 => ("FrogsChangeSidesModel", "brooks", "I", false)
  | 6 => ("FrogsChangeSidesModel", "readRow", "[I", true)
  | 7 => ("FrogsChangeSidesModel", "rowNow", "[I", true)
  | 8 => ("FrogsChangeSidesModel", "frogOn", "[I", true)
  | 9 => ("FrogsChangeSidesModel", "frogs", "I", false)
  | 10 => ("FrogsChangeSidesModel", "kindOf", "[I", true)
  | 11 => ("FrogsChangeSidesModel", "moved", "I", false)
  | 12 => ("FrogsChangeSidesModel", "movedFrom", "[I", true)
  | 13 => ("FrogsChangeSidesModel", "movedTo", "[I", true)
  | 14 => ("FrogsChangeSidesModel", "pageLength", "I", false)
  | 15 => ("FrogsChangeSidesModel", "page", "[B", true)
  | 16 => ("FrogsChangeSidesModel", "faultAt", "I", false)
  | 17 => ("FrogsChangeSidesModel", "isWhole", "Z", false)
  | 18 => ("FrogsChangeSidesModel", "newMany", "I", false)
  | 19 => ("FrogsChangeSidesModel", "newSigns", "I", false)
  | 20 => ("FrogsChangeSidesModel", "newRow", "[I", true)
  | 21 => ("FrogsChangeSidesModel", "long0", "I", false)
  | 22 => ("FrogsChangeSidesModel", "row", "[I", true)
  | 23 => ("FrogsChangeSidesModel", "far", "[I", true)
  | 24 => ("FrogsChangeSidesModel", "ways", "[J", true)
  | 25 => ("FrogsChangeSidesModel", "queue", "[I", true)
  | 26 => ("FrogsChangeSidesModel", "queueEnd", "I", false)
  | 27 => ("FrogsChangeSidesModel", "endMany", "I", false)
  | 28 => ("FrogsChangeSidesModel", "endSoon", "I", false)
  | 29 => ("FrogsChangeSidesModel", "won", "[B", true)
  | 30 => ("FrogsChangeSidesModel", "seedNow", "J", false)
  | 31 => ("FrogsChangeSidesModel", "isKept", "Z", false)
  | 32 => ("FrogsChangeSidesModel", "keptBrook", "I", false)
  | 33 => ("FrogsChangeSidesModel", "keptMoved", "I", false)
  | 34 => ("FrogsChangeSidesModel", "keptRow", "[I", true)
  | 35 => ("FrogsChangeSidesModel", "keptFrog", "[I", true)
  | 36 => ("FrogsChangeSidesModel", "keptFrom", "[I", true)
  | 37 => ("FrogsChangeSidesModel", "keptTo", "[I", true)
  | _ => ("FrogsChangeSidesModel", "h", "J", false)
def tyX8 : Nat → FieldType := fun k => match k with
  | 0 => .int
  | 1 => .boolean
  | 2 => .boolean
  | 3 => .boolean
  | 4 => .boolean
  | 5 => .int
  | 6 => .array .int
  | 7 => .array .int
  | 8 => .array .int
  | 9 => .int
  | 10 => .array .int
  | 11 => .int
  | 12 => .array .int
  | 13 => .array .int
  | 14 => .int
  | 15 => .array .byte
  | 16 => .int
  | 17 => .boolean
  | 18 => .int
  | 19 => .int
  | 20 => .array .int
  | 21 => .int
  | 22 => .array .int
  | 23 => .array .int
  | 24 => .array .long
  | 25 => .array .int
  | 26 => .int
  | 27 => .int
  | 28 => .int
  | 29 => .array .byte
  | 30 => .long
  | 31 => .boolean
  | 32 => .int
  | 33 => .int
  | 34 => .array .int
  | 35 => .array .int
  | 36 => .array .int
  | 37 => .array .int
  | _ => .long
theorem nmX8 : ∀ a, a < 39 → ∀ b, b < 39 → a ≠ b → (TX8 a).2.1 ≠ (TX8 b).2.1 := by decide +kernel
theorem tyX8_ok : ∀ k, k < 39 → parseFieldDescriptor (TX8 k).2.2.1 = some (tyX8 k) := by decide +kernel
abbrev cX8_init : ByteArray := prog_10_method_1_code
def yX8_init : MethodName := ⟨RX8, "<init>", "()V"⟩
abbrev cX8_within : ByteArray := prog_10_method_3_code
def yX8_within : MethodName := ⟨RX8, "within", "(III)Z"⟩
abbrev cX8_letters : ByteArray := prog_10_method_4_code
def yX8_letters : MethodName := ⟨RX8, "letters", "(J)I"⟩
abbrev cX8_blank : ByteArray := prog_10_method_5_code
def yX8_blank : MethodName := ⟨RX8, "blank", "()I"⟩
abbrev cX8_kindBy : ByteArray := prog_10_method_6_code
def yX8_kindBy : MethodName := ⟨RX8, "kindBy", "(I)I"⟩
abbrev cX8_signBy : ByteArray := prog_10_method_7_code
def yX8_signBy : MethodName := ⟨RX8, "signBy", "(I)I"⟩
abbrev cX8_readBrook : ByteArray := prog_10_method_8_code
def yX8_readBrook : MethodName := ⟨RX8, "readBrook", "()V"⟩
abbrev cX8_fault : ByteArray := prog_10_method_9_code
def yX8_fault : MethodName := ⟨RX8, "fault", "()I"⟩
abbrev cX8_brook : ByteArray := prog_10_method_10_code
def yX8_brook : MethodName := ⟨RX8, "brook", "()I"⟩
abbrev cX8_isStone : ByteArray := prog_10_method_11_code
def yX8_isStone : MethodName := ⟨RX8, "isStone", "(I)Z"⟩
abbrev cX8_on : ByteArray := prog_10_method_12_code
def yX8_on : MethodName := ⟨RX8, "on", "(I)I"⟩
abbrev cX8_frog : ByteArray := prog_10_method_13_code
def yX8_frog : MethodName := ⟨RX8, "frog", "(I)I"⟩
abbrev cX8_stoneOf : ByteArray := prog_10_method_14_code
def yX8_stoneOf : MethodName := ⟨RX8, "stoneOf", "(I)I"⟩
abbrev cX8_movedMany : ByteArray := prog_10_method_15_code
def yX8_movedMany : MethodName := ⟨RX8, "movedMany", "(I)I"⟩
abbrev cX8_frogNow : ByteArray := prog_10_method_16_code
def yX8_frogNow : MethodName := ⟨RX8, "frogNow", "(II)I"⟩
abbrev cX8_about : ByteArray := prog_10_method_17_code
def yX8_about : MethodName := ⟨RX8, "about", "(II)I"⟩
abbrev cX8_as : ByteArray := prog_10_method_18_code
def yX8_as : MethodName := ⟨RX8, "as", "(II)I"⟩
abbrev cX8_besides : ByteArray := prog_10_method_19_code
def yX8_besides : MethodName := ⟨RX8, "besides", "(II)I"⟩
abbrev cX8_colour : ByteArray := prog_10_method_20_code
def yX8_colour : MethodName := ⟨RX8, "colour", "(I)I"⟩
abbrev cX8_mayOver : ByteArray := prog_10_method_21_code
def yX8_mayOver : MethodName := ⟨RX8, "mayOver", "(II)Z"⟩
abbrev cX8_mayWay : ByteArray := prog_10_method_22_code
def yX8_mayWay : MethodName := ⟨RX8, "mayWay", "(III)Z"⟩
abbrev cX8_mayMove : ByteArray := prog_10_method_23_code
def yX8_mayMove : MethodName := ⟨RX8, "mayMove", "(II)Z"⟩
abbrev cX8_layNow : ByteArray := prog_10_method_24_code
def yX8_layNow : MethodName := ⟨RX8, "layNow", "()V"⟩
abbrev cX8_may : ByteArray := prog_10_method_25_code
def yX8_may : MethodName := ⟨RX8, "may", "(II)I"⟩
abbrev cX8_moveMany : ByteArray := prog_10_method_26_code
def yX8_moveMany : MethodName := ⟨RX8, "moveMany", "()I"⟩
abbrev cX8_moves : ByteArray := prog_10_method_27_code
def yX8_moves : MethodName := ⟨RX8, "moves", "()I"⟩
abbrev cX8_moveNow : ByteArray := prog_10_method_28_code
def yX8_moveNow : MethodName := ⟨RX8, "moveNow", "(II)V"⟩
abbrev cX8_move : ByteArray := prog_10_method_29_code
def yX8_move : MethodName := ⟨RX8, "move", "(II)I"⟩
abbrev cX8_back : ByteArray := prog_10_method_30_code
def yX8_back : MethodName := ⟨RX8, "back", "()I"⟩
abbrev cX8_power : ByteArray := prog_10_method_31_code
def yX8_power : MethodName := ⟨RX8, "power", "(I)I"⟩
abbrev cX8_codeOf : ByteArray := prog_10_method_32_code
def yX8_codeOf : MethodName := ⟨RX8, "codeOf", "()I"⟩
abbrev cX8_turnedCode : ByteArray := prog_10_method_33_code
def yX8_turnedCode : MethodName := ⟨RX8, "turnedCode", "()I"⟩
abbrev cX8_layRow : ByteArray := prog_10_method_34_code
def yX8_layRow : MethodName := ⟨RX8, "layRow", "(I)V"⟩
abbrev cX8_behindMove : ByteArray := prog_10_method_35_code
def yX8_behindMove : MethodName := ⟨RX8, "behindMove", "(IIII)I"⟩
abbrev cX8_come : ByteArray := prog_10_method_36_code
def yX8_come : MethodName := ⟨RX8, "come", "(II)V"⟩
abbrev cX8_layFar : ByteArray := prog_10_method_37_code
def yX8_layFar : MethodName := ⟨RX8, "layFar", "()V"⟩
abbrev cX8_layRead : ByteArray := prog_10_method_38_code
def yX8_layRead : MethodName := ⟨RX8, "layRead", "()V"⟩
abbrev cX8_goal : ByteArray := prog_10_method_39_code
def yX8_goal : MethodName := ⟨RX8, "goal", "()I"⟩
abbrev cX8_farTo : ByteArray := prog_10_method_40_code
def yX8_farTo : MethodName := ⟨RX8, "farTo", "(I)I"⟩
abbrev cX8_fewestNow : ByteArray := prog_10_method_41_code
def yX8_fewestNow : MethodName := ⟨RX8, "fewestNow", "(I)I"⟩
abbrev cX8_fewest : ByteArray := prog_10_method_42_code
def yX8_fewest : MethodName := ⟨RX8, "fewest", "(I)I"⟩
abbrev cX8_waysNow : ByteArray := prog_10_method_43_code
def yX8_waysNow : MethodName := ⟨RX8, "waysNow", "()I"⟩
abbrev cX8_ways : ByteArray := prog_10_method_44_code
def yX8_ways : MethodName := ⟨RX8, "ways", "()I"⟩
abbrev cX8_wrongNow : ByteArray := prog_10_method_45_code
def yX8_wrongNow : MethodName := ⟨RX8, "wrongNow", "()I"⟩
abbrev cX8_wrong : ByteArray := prog_10_method_46_code
def yX8_wrong : MethodName := ⟨RX8, "wrong", "()I"⟩
abbrev cX8_layEnds : ByteArray := prog_10_method_47_code
def yX8_layEnds : MethodName := ⟨RX8, "layEnds", "()V"⟩
abbrev cX8_ends : ByteArray := prog_10_method_48_code
def yX8_ends : MethodName := ⟨RX8, "ends", "()I"⟩
abbrev cX8_soon : ByteArray := prog_10_method_49_code
def yX8_soon : MethodName := ⟨RX8, "soon", "()I"⟩
abbrev cX8_comes : ByteArray := prog_10_method_50_code
def yX8_comes : MethodName := ⟨RX8, "comes", "()I"⟩
abbrev cX8_turns : ByteArray := prog_10_method_51_code
def yX8_turns : MethodName := ⟨RX8, "turns", "()I"⟩
abbrev cX8_moreNow : ByteArray := prog_10_method_52_code
def yX8_moreNow : MethodName := ⟨RX8, "moreNow", "(I)I"⟩
abbrev cX8_more : ByteArray := prog_10_method_53_code
def yX8_more : MethodName := ⟨RX8, "more", "(I)I"⟩
abbrev cX8_offNow : ByteArray := prog_10_method_54_code
def yX8_offNow : MethodName := ⟨RX8, "offNow", "(I)I"⟩
abbrev cX8_off : ByteArray := prog_10_method_55_code
def yX8_off : MethodName := ⟨RX8, "off", "(I)I"⟩
abbrev cX8_isOf : ByteArray := prog_10_method_56_code
def yX8_isOf : MethodName := ⟨RX8, "isOf", "(II)Z"⟩
abbrev cX8_progress : ByteArray := prog_10_method_57_code
def yX8_progress : MethodName := ⟨RX8, "progress", "(I)I"⟩
abbrev cX8_winsBy : ByteArray := prog_10_method_58_code
def yX8_winsBy : MethodName := ⟨RX8, "winsBy", "(II)Z"⟩
abbrev cX8_layGame : ByteArray := prog_10_method_59_code
def yX8_layGame : MethodName := ⟨RX8, "layGame", "()V"⟩
abbrev cX8_winsNow : ByteArray := prog_10_method_60_code
def yX8_winsNow : MethodName := ⟨RX8, "winsNow", "(I)I"⟩
abbrev cX8_isGame : ByteArray := prog_10_method_61_code
def yX8_isGame : MethodName := ⟨RX8, "isGame", "()Z"⟩
abbrev cX8_wins : ByteArray := prog_10_method_62_code
def yX8_wins : MethodName := ⟨RX8, "wins", "(I)I"⟩
abbrev cX8_byNow : ByteArray := prog_10_method_63_code
def yX8_byNow : MethodName := ⟨RX8, "byNow", "(II)I"⟩
abbrev cX8_by : ByteArray := prog_10_method_64_code
def yX8_by : MethodName := ⟨RX8, "by", "(II)I"⟩
abbrev cX8_draw : ByteArray := prog_10_method_65_code
def yX8_draw : MethodName := ⟨RX8, "draw", "(I)I"⟩
abbrev cX8_goMove : ByteArray := prog_10_method_66_code
def yX8_goMove : MethodName := ⟨RX8, "goMove", "(I)V"⟩
abbrev cX8_playNow : ByteArray := prog_10_method_67_code
def yX8_playNow : MethodName := ⟨RX8, "playNow", "(III)I"⟩
abbrev cX8_play : ByteArray := prog_10_method_68_code
def yX8_play : MethodName := ⟨RX8, "play", "(III)I"⟩
abbrev cX8_image : ByteArray := prog_10_method_69_code
def yX8_image : MethodName := ⟨RX8, "image", "()I"⟩
abbrev cX8_restore : ByteArray := prog_10_method_70_code
def yX8_restore : MethodName := ⟨RX8, "restore", "()I"⟩
abbrev cX8_one : ByteArray := prog_10_method_71_code
def yX8_one : MethodName := ⟨RX8, "one", "(Z)I"⟩
abbrev cX8_howMany : ByteArray := prog_10_method_72_code
def yX8_howMany : MethodName := ⟨RX8, "howMany", "(I)I"⟩
abbrev cX8_count : ByteArray := prog_10_method_73_code
def yX8_count : MethodName := ⟨RX8, "count", "(I)I"⟩
abbrev cX8_mix : ByteArray := prog_10_method_74_code
def yX8_mix : MethodName := ⟨RX8, "mix", "(J)V"⟩
abbrev cX8_mixBrook : ByteArray := prog_10_method_75_code
def yX8_mixBrook : MethodName := ⟨RX8, "mixBrook", "()V"⟩
abbrev cX8_digest : ByteArray := prog_10_method_76_code
def yX8_digest : MethodName := ⟨RX8, "digest", "()J"⟩
def RJ13 : String := "java/lang/Long"
def TJ13 : u_T := fun k => match k with
  | _ => ("", "", "", false)
def tyJ13 : Nat → FieldType := fun k => match k with
  | _ => .int
theorem nmJ13 : ∀ a, a < 0 → ∀ b, b < 0 → a ≠ b → (TJ13 a).2.1 ≠ (TJ13 b).2.1 := by decide +kernel
theorem tyJ13_ok : ∀ k, k < 0 → parseFieldDescriptor (TJ13 k).2.2.1 = some (tyJ13 k) := by decide +kernel
abbrev cJ13_bitCount_95d88 : ByteArray := prog_11_method_50_code
def yJ13_bitCount_95d88 : MethodName := ⟨RJ13, "bitCount", "(J)I"⟩
def RJ7 : String := "java/util/Arrays"
def TJ7 : u_T := fun k => match k with
  | _ => ("", "", "", false)
def tyJ7 : Nat → FieldType := fun k => match k with
  | _ => .int
theorem nmJ7 : ∀ a, a < 0 → ∀ b, b < 0 → a ≠ b → (TJ7 a).2.1 ≠ (TJ7 b).2.1 := by decide +kernel
theorem tyJ7_ok : ∀ k, k < 0 → parseFieldDescriptor (TJ7 k).2.2.1 = some (tyJ7 k) := by decide +kernel
abbrev cJ7_fill_53178 : ByteArray := prog_12_method_103_code
def yJ7_fill_53178 : MethodName := ⟨RJ7, "fill", "([II)V"⟩
def RL : String := "FrogsChangeSidesLaw"
abbrev cL_law : ByteArray := code
def yL_law : MethodName := ⟨RL, "law", "([I)Z"⟩
abbrev vwCl : List vw_C := [(RX0, TX0, 2), (RX1, TX1, 2), (RX2, TX2, 5), (RX4, TX4, 6), (RX5, TX5, 5), (RX6, TX6, 3), (RX7, TX7, 13), (RX8, TX8, 39)]
def bigW : List Cond := lw_tbl.filter goodWord
theorem bigGood : ∀ w ∈ bigW, goodWord w = true := fun _ h => (List.mem_filter.mp h).2
theorem bigIn : ∀ w ∈ bigW, w ∈ lw_tbl := fun _ h => (List.mem_filter.mp h).1
theorem kn_L : Cond.initialized RL ∈ bigW := List.mem_filter.mpr ⟨List.mem_append_right _ (List.mem_append_left _ (List.mem_of_getElem? (i := 0) rfl)), rfl⟩
theorem kn_X7 : Cond.initialized RX7 ∈ bigW := List.mem_filter.mpr ⟨List.mem_append_right _ (List.mem_append_left _ (List.mem_of_getElem? (i := 1) rfl)), rfl⟩
theorem kn_X1 : Cond.initialized RX1 ∈ bigW := List.mem_filter.mpr ⟨List.mem_append_right _ (List.mem_append_left _ (List.mem_of_getElem? (i := 2) rfl)), rfl⟩
theorem kn_X4 : Cond.initialized RX4 ∈ bigW := List.mem_filter.mpr ⟨List.mem_append_right _ (List.mem_append_left _ (List.mem_of_getElem? (i := 3) rfl)), rfl⟩
theorem kn_X2 : Cond.initialized RX2 ∈ bigW := List.mem_filter.mpr ⟨List.mem_append_right _ (List.mem_append_left _ (List.mem_of_getElem? (i := 4) rfl)), rfl⟩
theorem kn_X5 : Cond.initialized RX5 ∈ bigW := List.mem_filter.mpr ⟨List.mem_append_right _ (List.mem_append_left _ (List.mem_of_getElem? (i := 5) rfl)), rfl⟩
theorem kn_X6 : Cond.initialized RX6 ∈ bigW := List.mem_filter.mpr ⟨List.mem_append_right _ (List.mem_append_left _ (List.mem_of_getElem? (i := 6) rfl)), rfl⟩
theorem kn_X0 : Cond.initialized RX0 ∈ bigW := List.mem_filter.mpr ⟨List.mem_append_right _ (List.mem_append_left _ (List.mem_of_getElem? (i := 7) rfl)), rfl⟩
theorem kn_X8 : Cond.initialized RX8 ∈ bigW := List.mem_filter.mpr ⟨List.mem_append_right _ (List.mem_append_left _ (List.mem_of_getElem? (i := 8) rfl)), rfl⟩
theorem kn_X3 : Cond.initialized RX3 ∈ bigW := List.mem_filter.mpr ⟨List.mem_append_right _ (List.mem_append_left _ (List.mem_of_getElem? (i := 9) rfl)), rfl⟩
theorem kn_J7 : Cond.initialized RJ7 ∈ bigW := List.mem_filter.mpr ⟨List.mem_append_right _ (List.mem_append_left _ (List.mem_of_getElem? (i := 10) rfl)), rfl⟩
theorem kn_J13 : Cond.initialized RJ13 ∈ bigW := List.mem_filter.mpr ⟨List.mem_append_right _ (List.mem_append_left _ (List.mem_of_getElem? (i := 11) rfl)), rfl⟩
theorem kq_L_7 : Cond.classLink RL 7 RX7 ∈ bigW := List.mem_filter.mpr ⟨List.mem_append_right _ (List.mem_append_left _ (List.mem_of_getElem? (i := 12) rfl)), rfl⟩
theorem kz_X7 : Cond.instantiable RX7 13 ∈ bigW := List.mem_filter.mpr ⟨List.mem_append_right _ (List.mem_append_left _ (List.mem_of_getElem? (i := 13) rfl)), rfl⟩
theorem km_L_9 : Cond.methodLink RL 9 yX7_init ∈ bigW := List.mem_filter.mpr ⟨List.mem_append_right _ (List.mem_append_left _ (List.mem_of_getElem? (i := 14) rfl)), rfl⟩
theorem ki_X7_init : Cond.instanceMethod yX7_init ∈ bigW := List.mem_filter.mpr ⟨List.mem_append_right _ (List.mem_append_left _ (List.mem_of_getElem? (i := 15) rfl)), rfl⟩
theorem kc_X7_init : Cond.code yX7_init cX7_init 1 none ∈ bigW := List.mem_filter.mpr ⟨List.mem_append_right _ (List.mem_append_left _ (List.mem_of_getElem? (i := 16) rfl)), rfl⟩
theorem km_X7_1 : Cond.methodLink RX7 1 objectInit ∈ bigW := List.mem_filter.mpr ⟨List.mem_append_right _ (List.mem_append_left _ (List.mem_of_getElem? (i := 17) rfl)), rfl⟩
theorem kq_X7_7 : Cond.classLink RX7 7 RX1 ∈ bigW := List.mem_filter.mpr ⟨List.mem_append_right _ (List.mem_append_left _ (List.mem_of_getElem? (i := 20) rfl)), rfl⟩
theorem kz_X1 : Cond.instantiable RX1 2 ∈ bigW := List.mem_filter.mpr ⟨List.mem_append_right _ (List.mem_append_left _ (List.mem_of_getElem? (i := 21) rfl)), rfl⟩
theorem ki_X1_init : Cond.instanceMethod yX1_init ∈ bigW := List.mem_filter.mpr ⟨List.mem_append_right _ (List.mem_append_left _ (List.mem_of_getElem? (i := 23) rfl)), rfl⟩
theorem kc_X1_init : Cond.code yX1_init cX1_init 1 none ∈ bigW := List.mem_filter.mpr ⟨List.mem_append_right _ (List.mem_append_left _ (List.mem_of_getElem? (i := 24) rfl)), rfl⟩
theorem km_X1_3 : Cond.methodLink RX1 3 objectInit ∈ bigW := List.mem_filter.mpr ⟨List.mem_append_right _ (List.mem_append_left _ (List.mem_of_getElem? (i := 25) rfl)), rfl⟩
theorem kf_X1_9 : Cond.fieldLink RX1 9 (TX1 0).1 (TX1 0).2.1 (TX1 0).2.2.1 ∈ bigW := List.mem_filter.mpr ⟨List.mem_append_right _ (List.mem_append_left _ (List.mem_of_getElem? (i := 26) rfl)), rfl⟩
theorem kf_X1_19 : Cond.fieldLink RX1 19 (TX1 1).1 (TX1 1).2.1 (TX1 1).2.2.1 ∈ bigW := List.mem_filter.mpr ⟨List.mem_append_right _ (List.mem_append_left _ (List.mem_of_getElem? (i := 29) rfl)), rfl⟩
theorem kq_X7_16 : Cond.classLink RX7 16 RX4 ∈ bigW := List.mem_filter.mpr ⟨List.mem_append_right _ (List.mem_append_left _ (List.mem_of_getElem? (i := 36) rfl)), rfl⟩
theorem kz_X4 : Cond.instantiable RX4 6 ∈ bigW := List.mem_filter.mpr ⟨List.mem_append_right _ (List.mem_append_left _ (List.mem_of_getElem? (i := 37) rfl)), rfl⟩
theorem ki_X4_init : Cond.instanceMethod yX4_init ∈ bigW := List.mem_filter.mpr ⟨List.mem_append_right _ (List.mem_append_left _ (List.mem_of_getElem? (i := 39) rfl)), rfl⟩
theorem kc_X4_init : Cond.code yX4_init cX4_init 1 none ∈ bigW := List.mem_filter.mpr ⟨List.mem_append_right _ (List.mem_append_left _ (List.mem_of_getElem? (i := 40) rfl)), rfl⟩
theorem km_X4_3 : Cond.methodLink RX4 3 objectInit ∈ bigW := List.mem_filter.mpr ⟨List.mem_append_right _ (List.mem_append_left _ (List.mem_of_getElem? (i := 41) rfl)), rfl⟩
theorem kf_X4_9 : Cond.fieldLink RX4 9 (TX4 0).1 (TX4 0).2.1 (TX4 0).2.2.1 ∈ bigW := List.mem_filter.mpr ⟨List.mem_append_right _ (List.mem_append_left _ (List.mem_of_getElem? (i := 42) rfl)), rfl⟩
theorem kf_X4_15 : Cond.fieldLink RX4 15 (TX4 1).1 (TX4 1).2.1 (TX4 1).2.2.1 ∈ bigW := List.mem_filter.mpr ⟨List.mem_append_right _ (List.mem_append_left _ (List.mem_of_getElem? (i := 44) rfl)), rfl⟩
theorem kf_X4_22 : Cond.fieldLink RX4 22 (TX4 2).1 (TX4 2).2.1 (TX4 2).2.2.1 ∈ bigW := List.mem_filter.mpr ⟨List.mem_append_right _ (List.mem_append_left _ (List.mem_of_getElem? (i := 46) rfl)), rfl⟩
theorem kf_X4_26 : Cond.fieldLink RX4 26 (TX4 3).1 (TX4 3).2.1 (TX4 3).2.2.1 ∈ bigW := List.mem_filter.mpr ⟨List.mem_append_right _ (List.mem_append_left _ (List.mem_of_getElem? (i := 47) rfl)), rfl⟩
theorem kf_X4_29 : Cond.fieldLink RX4 29 (TX4 4).1 (TX4 4).2.1 (TX4 4).2.2.1 ∈ bigW := List.mem_filter.mpr ⟨List.mem_append_right _ (List.mem_append_left _ (List.mem_of_getElem? (i := 49) rfl)), rfl⟩
theorem kf_X4_32 : Cond.fieldLink RX4 32 (TX4 5).1 (TX4 5).2.1 (TX4 5).2.2.1 ∈ bigW := List.mem_filter.mpr ⟨List.mem_append_right _ (List.mem_append_left _ (List.mem_of_getElem? (i := 51) rfl)), rfl⟩
theorem kq_X7_26 : Cond.classLink RX7 26 RX2 ∈ bigW := List.mem_filter.mpr ⟨List.mem_append_right _ (List.mem_append_left _ (List.mem_of_getElem? (i := 65) rfl)), rfl⟩
theorem kz_X2 : Cond.instantiable RX2 5 ∈ bigW := List.mem_filter.mpr ⟨List.mem_append_right _ (List.mem_append_left _ (List.mem_of_getElem? (i := 66) rfl)), rfl⟩
theorem ki_X2_init : Cond.instanceMethod yX2_init ∈ bigW := List.mem_filter.mpr ⟨List.mem_append_right _ (List.mem_append_left _ (List.mem_of_getElem? (i := 68) rfl)), rfl⟩
theorem kc_X2_init : Cond.code yX2_init cX2_init 1 none ∈ bigW := List.mem_filter.mpr ⟨List.mem_append_right _ (List.mem_append_left _ (List.mem_of_getElem? (i := 69) rfl)), rfl⟩
theorem km_X2_3 : Cond.methodLink RX2 3 objectInit ∈ bigW := List.mem_filter.mpr ⟨List.mem_append_right _ (List.mem_append_left _ (List.mem_of_getElem? (i := 70) rfl)), rfl⟩
theorem kf_X2_9 : Cond.fieldLink RX2 9 (TX2 0).1 (TX2 0).2.1 (TX2 0).2.2.1 ∈ bigW := List.mem_filter.mpr ⟨List.mem_append_right _ (List.mem_append_left _ (List.mem_of_getElem? (i := 71) rfl)), rfl⟩
theorem kf_X2_15 : Cond.fieldLink RX2 15 (TX2 1).1 (TX2 1).2.1 (TX2 1).2.2.1 ∈ bigW := List.mem_filter.mpr ⟨List.mem_append_right _ (List.mem_append_left _ (List.mem_of_getElem? (i := 73) rfl)), rfl⟩
theorem kf_X2_18 : Cond.fieldLink RX2 18 (TX2 2).1 (TX2 2).2.1 (TX2 2).2.2.1 ∈ bigW := List.mem_filter.mpr ⟨List.mem_append_right _ (List.mem_append_left _ (List.mem_of_getElem? (i := 74) rfl)), rfl⟩
theorem kf_X2_22 : Cond.fieldLink RX2 22 (TX2 3).1 (TX2 3).2.1 (TX2 3).2.2.1 ∈ bigW := List.mem_filter.mpr ⟨List.mem_append_right _ (List.mem_append_left _ (List.mem_of_getElem? (i := 76) rfl)), rfl⟩
theorem kf_X2_25 : Cond.fieldLink RX2 25 (TX2 4).1 (TX2 4).2.1 (TX2 4).2.2.1 ∈ bigW := List.mem_filter.mpr ⟨List.mem_append_right _ (List.mem_append_left _ (List.mem_of_getElem? (i := 78) rfl)), rfl⟩
theorem kq_X7_36 : Cond.classLink RX7 36 RX5 ∈ bigW := List.mem_filter.mpr ⟨List.mem_append_right _ (List.mem_append_left _ (List.mem_of_getElem? (i := 91) rfl)), rfl⟩
theorem kz_X5 : Cond.instantiable RX5 5 ∈ bigW := List.mem_filter.mpr ⟨List.mem_append_right _ (List.mem_append_left _ (List.mem_of_getElem? (i := 92) rfl)), rfl⟩
theorem ki_X5_init : Cond.instanceMethod yX5_init ∈ bigW := List.mem_filter.mpr ⟨List.mem_append_right _ (List.mem_append_left _ (List.mem_of_getElem? (i := 94) rfl)), rfl⟩
theorem kc_X5_init : Cond.code yX5_init cX5_init 1 none ∈ bigW := List.mem_filter.mpr ⟨List.mem_append_right _ (List.mem_append_left _ (List.mem_of_getElem? (i := 95) rfl)), rfl⟩
theorem km_X5_3 : Cond.methodLink RX5 3 objectInit ∈ bigW := List.mem_filter.mpr ⟨List.mem_append_right _ (List.mem_append_left _ (List.mem_of_getElem? (i := 96) rfl)), rfl⟩
theorem kq_X5_9 : Cond.classLink RX5 9 RX6 ∈ bigW := List.mem_filter.mpr ⟨List.mem_append_right _ (List.mem_append_left _ (List.mem_of_getElem? (i := 97) rfl)), rfl⟩
theorem kz_X6 : Cond.instantiable RX6 3 ∈ bigW := List.mem_filter.mpr ⟨List.mem_append_right _ (List.mem_append_left _ (List.mem_of_getElem? (i := 98) rfl)), rfl⟩
theorem ki_X6_init : Cond.instanceMethod yX6_init ∈ bigW := List.mem_filter.mpr ⟨List.mem_append_right _ (List.mem_append_left _ (List.mem_of_getElem? (i := 100) rfl)), rfl⟩
theorem kc_X6_init : Cond.code yX6_init cX6_init 1 none ∈ bigW := List.mem_filter.mpr ⟨List.mem_append_right _ (List.mem_append_left _ (List.mem_of_getElem? (i := 101) rfl)), rfl⟩
theorem km_X6_3 : Cond.methodLink RX6 3 objectInit ∈ bigW := List.mem_filter.mpr ⟨List.mem_append_right _ (List.mem_append_left _ (List.mem_of_getElem? (i := 102) rfl)), rfl⟩
theorem kf_X6_9 : Cond.fieldLink RX6 9 (TX6 0).1 (TX6 0).2.1 (TX6 0).2.2.1 ∈ bigW := List.mem_filter.mpr ⟨List.mem_append_right _ (List.mem_append_left _ (List.mem_of_getElem? (i := 103) rfl)), rfl⟩
theorem kf_X6_15 : Cond.fieldLink RX6 15 (TX6 1).1 (TX6 1).2.1 (TX6 1).2.2.1 ∈ bigW := List.mem_filter.mpr ⟨List.mem_append_right _ (List.mem_append_left _ (List.mem_of_getElem? (i := 104) rfl)), rfl⟩
theorem kf_X6_24 : Cond.fieldLink RX6 24 (TX6 2).1 (TX6 2).2.1 (TX6 2).2.2.1 ∈ bigW := List.mem_filter.mpr ⟨List.mem_append_right _ (List.mem_append_left _ (List.mem_of_getElem? (i := 106) rfl)), rfl⟩
theorem kf_X5_12 : Cond.fieldLink RX5 12 (TX5 0).1 (TX5 0).2.1 (TX5 0).2.2.1 ∈ bigW := List.mem_filter.mpr ⟨List.mem_append_right _ (List.mem_append_left _ (List.mem_of_getElem? (i := 115) rfl)), rfl⟩
theorem kf_X5_18 : Cond.fieldLink RX5 18 (TX5 1).1 (TX5 1).2.1 (TX5 1).2.2.1 ∈ bigW := List.mem_filter.mpr ⟨List.mem_append_right _ (List.mem_append_left _ (List.mem_of_getElem? (i := 116) rfl)), rfl⟩
theorem kf_X5_22 : Cond.fieldLink RX5 22 (TX5 2).1 (TX5 2).2.1 (TX5 2).2.2.1 ∈ bigW := List.mem_filter.mpr ⟨List.mem_append_right _ (List.mem_append_left _ (List.mem_of_getElem? (i := 117) rfl)), rfl⟩
theorem kf_X5_28 : Cond.fieldLink RX5 28 (TX5 3).1 (TX5 3).2.1 (TX5 3).2.2.1 ∈ bigW := List.mem_filter.mpr ⟨List.mem_append_right _ (List.mem_append_left _ (List.mem_of_getElem? (i := 118) rfl)), rfl⟩
theorem kf_X5_32 : Cond.fieldLink RX5 32 (TX5 4).1 (TX5 4).2.1 (TX5 4).2.2.1 ∈ bigW := List.mem_filter.mpr ⟨List.mem_append_right _ (List.mem_append_left _ (List.mem_of_getElem? (i := 120) rfl)), rfl⟩
theorem kq_X7_46 : Cond.classLink RX7 46 RX0 ∈ bigW := List.mem_filter.mpr ⟨List.mem_append_right _ (List.mem_append_left _ (List.mem_of_getElem? (i := 133) rfl)), rfl⟩
theorem kz_X0 : Cond.instantiable RX0 2 ∈ bigW := List.mem_filter.mpr ⟨List.mem_append_right _ (List.mem_append_left _ (List.mem_of_getElem? (i := 134) rfl)), rfl⟩
theorem ki_X0_init : Cond.instanceMethod yX0_init ∈ bigW := List.mem_filter.mpr ⟨List.mem_append_right _ (List.mem_append_left _ (List.mem_of_getElem? (i := 136) rfl)), rfl⟩
theorem kc_X0_init : Cond.code yX0_init cX0_init 1 none ∈ bigW := List.mem_filter.mpr ⟨List.mem_append_right _ (List.mem_append_left _ (List.mem_of_getElem? (i := 137) rfl)), rfl⟩
theorem km_X0_3 : Cond.methodLink RX0 3 objectInit ∈ bigW := List.mem_filter.mpr ⟨List.mem_append_right _ (List.mem_append_left _ (List.mem_of_getElem? (i := 138) rfl)), rfl⟩
theorem kq_X0_9 : Cond.classLink RX0 9 RX6 ∈ bigW := List.mem_filter.mpr ⟨List.mem_append_right _ (List.mem_append_left _ (List.mem_of_getElem? (i := 139) rfl)), rfl⟩
theorem kf_X0_12 : Cond.fieldLink RX0 12 (TX0 0).1 (TX0 0).2.1 (TX0 0).2.2.1 ∈ bigW := List.mem_filter.mpr ⟨List.mem_append_right _ (List.mem_append_left _ (List.mem_of_getElem? (i := 141) rfl)), rfl⟩
theorem kf_X0_18 : Cond.fieldLink RX0 18 (TX0 1).1 (TX0 1).2.1 (TX0 1).2.2.1 ∈ bigW := List.mem_filter.mpr ⟨List.mem_append_right _ (List.mem_append_left _ (List.mem_of_getElem? (i := 142) rfl)), rfl⟩
theorem kf_X7_10 : Cond.fieldLink RX7 10 (TX7 0).1 (TX7 0).2.1 (TX7 0).2.2.1 ∈ bigW := List.mem_filter.mpr ⟨List.mem_append_right _ (List.mem_append_left _ (List.mem_of_getElem? (i := 148) rfl)), rfl⟩
theorem kf_X7_19 : Cond.fieldLink RX7 19 (TX7 1).1 (TX7 1).2.1 (TX7 1).2.2.1 ∈ bigW := List.mem_filter.mpr ⟨List.mem_append_right _ (List.mem_append_left _ (List.mem_of_getElem? (i := 149) rfl)), rfl⟩
theorem kf_X7_23 : Cond.fieldLink RX7 23 (TX7 2).1 (TX7 2).2.1 (TX7 2).2.2.1 ∈ bigW := List.mem_filter.mpr ⟨List.mem_append_right _ (List.mem_append_left _ (List.mem_of_getElem? (i := 150) rfl)), rfl⟩
theorem kf_X7_29 : Cond.fieldLink RX7 29 (TX7 3).1 (TX7 3).2.1 (TX7 3).2.2.1 ∈ bigW := List.mem_filter.mpr ⟨List.mem_append_right _ (List.mem_append_left _ (List.mem_of_getElem? (i := 151) rfl)), rfl⟩
theorem kf_X7_33 : Cond.fieldLink RX7 33 (TX7 4).1 (TX7 4).2.1 (TX7 4).2.2.1 ∈ bigW := List.mem_filter.mpr ⟨List.mem_append_right _ (List.mem_append_left _ (List.mem_of_getElem? (i := 152) rfl)), rfl⟩
theorem kf_X7_39 : Cond.fieldLink RX7 39 (TX7 5).1 (TX7 5).2.1 (TX7 5).2.2.1 ∈ bigW := List.mem_filter.mpr ⟨List.mem_append_right _ (List.mem_append_left _ (List.mem_of_getElem? (i := 153) rfl)), rfl⟩
theorem kf_X7_43 : Cond.fieldLink RX7 43 (TX7 6).1 (TX7 6).2.1 (TX7 6).2.2.1 ∈ bigW := List.mem_filter.mpr ⟨List.mem_append_right _ (List.mem_append_left _ (List.mem_of_getElem? (i := 154) rfl)), rfl⟩
theorem kf_X7_49 : Cond.fieldLink RX7 49 (TX7 7).1 (TX7 7).2.1 (TX7 7).2.2.1 ∈ bigW := List.mem_filter.mpr ⟨List.mem_append_right _ (List.mem_append_left _ (List.mem_of_getElem? (i := 155) rfl)), rfl⟩
theorem kf_X7_86 : Cond.fieldLink RX7 86 (TX7 8).1 (TX7 8).2.1 (TX7 8).2.2.1 ∈ bigW := List.mem_filter.mpr ⟨List.mem_append_right _ (List.mem_append_left _ (List.mem_of_getElem? (i := 156) rfl)), rfl⟩
theorem kf_X7_98 : Cond.fieldLink RX7 98 (TX7 9).1 (TX7 9).2.1 (TX7 9).2.2.1 ∈ bigW := List.mem_filter.mpr ⟨List.mem_append_right _ (List.mem_append_left _ (List.mem_of_getElem? (i := 157) rfl)), rfl⟩
theorem kf_X7_104 : Cond.fieldLink RX7 104 (TX7 10).1 (TX7 10).2.1 (TX7 10).2.2.1 ∈ bigW := List.mem_filter.mpr ⟨List.mem_append_right _ (List.mem_append_left _ (List.mem_of_getElem? (i := 158) rfl)), rfl⟩
theorem kf_X7_125 : Cond.fieldLink RX7 125 (TX7 11).1 (TX7 11).2.1 (TX7 11).2.2.1 ∈ bigW := List.mem_filter.mpr ⟨List.mem_append_right _ (List.mem_append_left _ (List.mem_of_getElem? (i := 159) rfl)), rfl⟩
theorem kf_X7_121 : Cond.fieldLink RX7 121 (TX7 12).1 (TX7 12).2.1 (TX7 12).2.2.1 ∈ bigW := List.mem_filter.mpr ⟨List.mem_append_right _ (List.mem_append_left _ (List.mem_of_getElem? (i := 160) rfl)), rfl⟩
theorem km_L_15 : Cond.methodLink RL 15 yX7_letters ∈ bigW := List.mem_filter.mpr ⟨List.mem_append_right _ (List.mem_append_left _ (List.mem_of_getElem? (i := 188) rfl)), rfl⟩
theorem ki_X7_letters : Cond.instanceMethod yX7_letters ∈ bigW := List.mem_filter.mpr ⟨List.mem_append_right _ (List.mem_append_left _ (List.mem_of_getElem? (i := 189) rfl)), rfl⟩
theorem kv_X7_letters : Cond.selects RX7 yX7_letters yX7_letters ∈ bigW := List.mem_filter.mpr ⟨List.mem_append_right _ (List.mem_append_left _ (List.mem_of_getElem? (i := 190) rfl)), rfl⟩
theorem kc_X7_letters : Cond.code yX7_letters cX7_letters 4 (some .int) ∈ bigW := List.mem_filter.mpr ⟨List.mem_append_right _ (List.mem_append_left _ (List.mem_of_getElem? (i := 191) rfl)), rfl⟩
theorem km_X7_53 : Cond.methodLink RX7 53 yX1_lettersIn ∈ bigW := List.mem_filter.mpr ⟨List.mem_append_right _ (List.mem_append_left _ (List.mem_of_getElem? (i := 192) rfl)), rfl⟩
theorem ks_X1_lettersIn : Cond.static yX1_lettersIn ∈ bigW := List.mem_filter.mpr ⟨List.mem_append_right _ (List.mem_append_left _ (List.mem_of_getElem? (i := 193) rfl)), rfl⟩
theorem kc_X1_lettersIn : Cond.code yX1_lettersIn cX1_lettersIn 6 (some .int) ∈ bigW := List.mem_filter.mpr ⟨List.mem_append_right _ (List.mem_append_left _ (List.mem_of_getElem? (i := 194) rfl)), rfl⟩
theorem km_X1_15 : Cond.methodLink RX1 15 yX1_codeIn ∈ bigW := List.mem_filter.mpr ⟨List.mem_append_right _ (List.mem_append_left _ (List.mem_of_getElem? (i := 195) rfl)), rfl⟩
theorem ks_X1_codeIn : Cond.static yX1_codeIn ∈ bigW := List.mem_filter.mpr ⟨List.mem_append_right _ (List.mem_append_left _ (List.mem_of_getElem? (i := 196) rfl)), rfl⟩
theorem kc_X1_codeIn : Cond.code yX1_codeIn cX1_codeIn 3 (some .int) ∈ bigW := List.mem_filter.mpr ⟨List.mem_append_right _ (List.mem_append_left _ (List.mem_of_getElem? (i := 197) rfl)), rfl⟩
theorem km_X7_61 : Cond.methodLink RX7 61 yX1_append ∈ bigW := List.mem_filter.mpr ⟨List.mem_append_right _ (List.mem_append_left _ (List.mem_of_getElem? (i := 198) rfl)), rfl⟩
theorem ki_X1_append : Cond.instanceMethod yX1_append ∈ bigW := List.mem_filter.mpr ⟨List.mem_append_right _ (List.mem_append_left _ (List.mem_of_getElem? (i := 199) rfl)), rfl⟩
theorem kv_X1_append : Cond.selects RX1 yX1_append yX1_append ∈ bigW := List.mem_filter.mpr ⟨List.mem_append_right _ (List.mem_append_left _ (List.mem_of_getElem? (i := 200) rfl)), rfl⟩
theorem kc_X1_append : Cond.code yX1_append cX1_append 5 none ∈ bigW := List.mem_filter.mpr ⟨List.mem_append_right _ (List.mem_append_left _ (List.mem_of_getElem? (i := 201) rfl)), rfl⟩
theorem km_L_20 : Cond.methodLink RL 20 yX7_blank ∈ bigW := List.mem_filter.mpr ⟨List.mem_append_right _ (List.mem_append_left _ (List.mem_of_getElem? (i := 202) rfl)), rfl⟩
theorem ki_X7_blank : Cond.instanceMethod yX7_blank ∈ bigW := List.mem_filter.mpr ⟨List.mem_append_right _ (List.mem_append_left _ (List.mem_of_getElem? (i := 203) rfl)), rfl⟩
theorem kv_X7_blank : Cond.selects RX7 yX7_blank yX7_blank ∈ bigW := List.mem_filter.mpr ⟨List.mem_append_right _ (List.mem_append_left _ (List.mem_of_getElem? (i := 204) rfl)), rfl⟩
theorem kc_X7_blank : Cond.code yX7_blank cX7_blank 2 (some .int) ∈ bigW := List.mem_filter.mpr ⟨List.mem_append_right _ (List.mem_append_left _ (List.mem_of_getElem? (i := 205) rfl)), rfl⟩
theorem km_L_25 : Cond.methodLink RL 25 yX7_fault ∈ bigW := List.mem_filter.mpr ⟨List.mem_append_right _ (List.mem_append_left _ (List.mem_of_getElem? (i := 206) rfl)), rfl⟩
theorem ki_X7_fault : Cond.instanceMethod yX7_fault ∈ bigW := List.mem_filter.mpr ⟨List.mem_append_right _ (List.mem_append_left _ (List.mem_of_getElem? (i := 207) rfl)), rfl⟩
theorem kv_X7_fault : Cond.selects RX7 yX7_fault yX7_fault ∈ bigW := List.mem_filter.mpr ⟨List.mem_append_right _ (List.mem_append_left _ (List.mem_of_getElem? (i := 208) rfl)), rfl⟩
theorem kc_X7_fault : Cond.code yX7_fault cX7_fault 1 (some .int) ∈ bigW := List.mem_filter.mpr ⟨List.mem_append_right _ (List.mem_append_left _ (List.mem_of_getElem? (i := 209) rfl)), rfl⟩
theorem km_X7_65 : Cond.methodLink RX7 65 yX1_firstFault ∈ bigW := List.mem_filter.mpr ⟨List.mem_append_right _ (List.mem_append_left _ (List.mem_of_getElem? (i := 210) rfl)), rfl⟩
theorem ki_X1_firstFault : Cond.instanceMethod yX1_firstFault ∈ bigW := List.mem_filter.mpr ⟨List.mem_append_right _ (List.mem_append_left _ (List.mem_of_getElem? (i := 211) rfl)), rfl⟩
theorem kv_X1_firstFault : Cond.selects RX1 yX1_firstFault yX1_firstFault ∈ bigW := List.mem_filter.mpr ⟨List.mem_append_right _ (List.mem_append_left _ (List.mem_of_getElem? (i := 212) rfl)), rfl⟩
theorem kc_X1_firstFault : Cond.code yX1_firstFault cX1_firstFault 5 (some .int) ∈ bigW := List.mem_filter.mpr ⟨List.mem_append_right _ (List.mem_append_left _ (List.mem_of_getElem? (i := 213) rfl)), rfl⟩
theorem km_X1_27 : Cond.methodLink RX1 27 yX1_leadingStones ∈ bigW := List.mem_filter.mpr ⟨List.mem_append_right _ (List.mem_append_left _ (List.mem_of_getElem? (i := 214) rfl)), rfl⟩
theorem ki_X1_leadingStones : Cond.instanceMethod yX1_leadingStones ∈ bigW := List.mem_filter.mpr ⟨List.mem_append_right _ (List.mem_append_left _ (List.mem_of_getElem? (i := 215) rfl)), rfl⟩
theorem kv_X1_leadingStones : Cond.selects RX1 yX1_leadingStones yX1_leadingStones ∈ bigW := List.mem_filter.mpr ⟨List.mem_append_right _ (List.mem_append_left _ (List.mem_of_getElem? (i := 216) rfl)), rfl⟩
theorem kc_X1_leadingStones : Cond.code yX1_leadingStones cX1_leadingStones 2 (some .int) ∈ bigW := List.mem_filter.mpr ⟨List.mem_append_right _ (List.mem_append_left _ (List.mem_of_getElem? (i := 217) rfl)), rfl⟩
theorem km_X1_23 : Cond.methodLink RX1 23 yX1_kindOf ∈ bigW := List.mem_filter.mpr ⟨List.mem_append_right _ (List.mem_append_left _ (List.mem_of_getElem? (i := 218) rfl)), rfl⟩
theorem ks_X1_kindOf : Cond.static yX1_kindOf ∈ bigW := List.mem_filter.mpr ⟨List.mem_append_right _ (List.mem_append_left _ (List.mem_of_getElem? (i := 219) rfl)), rfl⟩
theorem kc_X1_kindOf : Cond.code yX1_kindOf cX1_kindOf 1 (some .int) ∈ bigW := List.mem_filter.mpr ⟨List.mem_append_right _ (List.mem_append_left _ (List.mem_of_getElem? (i := 220) rfl)), rfl⟩
theorem km_X1_31 : Cond.methodLink RX1 31 yX1_signOf ∈ bigW := List.mem_filter.mpr ⟨List.mem_append_right _ (List.mem_append_left _ (List.mem_of_getElem? (i := 221) rfl)), rfl⟩
theorem ks_X1_signOf : Cond.static yX1_signOf ∈ bigW := List.mem_filter.mpr ⟨List.mem_append_right _ (List.mem_append_left _ (List.mem_of_getElem? (i := 222) rfl)), rfl⟩
theorem kc_X1_signOf : Cond.code yX1_signOf cX1_signOf 1 (some .int) ∈ bigW := List.mem_filter.mpr ⟨List.mem_append_right _ (List.mem_append_left _ (List.mem_of_getElem? (i := 223) rfl)), rfl⟩
theorem km_L_29 : Cond.methodLink RL 29 yX7_brook ∈ bigW := List.mem_filter.mpr ⟨List.mem_append_right _ (List.mem_append_left _ (List.mem_of_getElem? (i := 224) rfl)), rfl⟩
theorem ki_X7_brook : Cond.instanceMethod yX7_brook ∈ bigW := List.mem_filter.mpr ⟨List.mem_append_right _ (List.mem_append_left _ (List.mem_of_getElem? (i := 225) rfl)), rfl⟩
theorem kv_X7_brook : Cond.selects RX7 yX7_brook yX7_brook ∈ bigW := List.mem_filter.mpr ⟨List.mem_append_right _ (List.mem_append_left _ (List.mem_of_getElem? (i := 226) rfl)), rfl⟩
theorem kc_X7_brook : Cond.code yX7_brook cX7_brook 1 (some .int) ∈ bigW := List.mem_filter.mpr ⟨List.mem_append_right _ (List.mem_append_left _ (List.mem_of_getElem? (i := 227) rfl)), rfl⟩
theorem km_X7_69 : Cond.methodLink RX7 69 yX1_tellsBrook ∈ bigW := List.mem_filter.mpr ⟨List.mem_append_right _ (List.mem_append_left _ (List.mem_of_getElem? (i := 228) rfl)), rfl⟩
theorem ki_X1_tellsBrook : Cond.instanceMethod yX1_tellsBrook ∈ bigW := List.mem_filter.mpr ⟨List.mem_append_right _ (List.mem_append_left _ (List.mem_of_getElem? (i := 229) rfl)), rfl⟩
theorem kv_X1_tellsBrook : Cond.selects RX1 yX1_tellsBrook yX1_tellsBrook ∈ bigW := List.mem_filter.mpr ⟨List.mem_append_right _ (List.mem_append_left _ (List.mem_of_getElem? (i := 230) rfl)), rfl⟩
theorem kc_X1_tellsBrook : Cond.code yX1_tellsBrook cX1_tellsBrook 3 (some .boolean) ∈ bigW := List.mem_filter.mpr ⟨List.mem_append_right _ (List.mem_append_left _ (List.mem_of_getElem? (i := 231) rfl)), rfl⟩
theorem km_X1_34 : Cond.methodLink RX1 34 yX1_firstFault ∈ bigW := List.mem_filter.mpr ⟨List.mem_append_right _ (List.mem_append_left _ (List.mem_of_getElem? (i := 232) rfl)), rfl⟩
theorem km_X1_37 : Cond.methodLink RX1 37 yX1_row ∈ bigW := List.mem_filter.mpr ⟨List.mem_append_right _ (List.mem_append_left _ (List.mem_of_getElem? (i := 233) rfl)), rfl⟩
theorem ki_X1_row : Cond.instanceMethod yX1_row ∈ bigW := List.mem_filter.mpr ⟨List.mem_append_right _ (List.mem_append_left _ (List.mem_of_getElem? (i := 234) rfl)), rfl⟩
theorem kv_X1_row : Cond.selects RX1 yX1_row yX1_row ∈ bigW := List.mem_filter.mpr ⟨List.mem_append_right _ (List.mem_append_left _ (List.mem_of_getElem? (i := 235) rfl)), rfl⟩
theorem kc_X1_row : Cond.code yX1_row cX1_row 4 (some .int) ∈ bigW := List.mem_filter.mpr ⟨List.mem_append_right _ (List.mem_append_left _ (List.mem_of_getElem? (i := 236) rfl)), rfl⟩
theorem km_X7_73 : Cond.methodLink RX7 73 yX1_leadingStones ∈ bigW := List.mem_filter.mpr ⟨List.mem_append_right _ (List.mem_append_left _ (List.mem_of_getElem? (i := 237) rfl)), rfl⟩
theorem km_X7_76 : Cond.methodLink RX7 76 yX1_signs ∈ bigW := List.mem_filter.mpr ⟨List.mem_append_right _ (List.mem_append_left _ (List.mem_of_getElem? (i := 238) rfl)), rfl⟩
theorem ki_X1_signs : Cond.instanceMethod yX1_signs ∈ bigW := List.mem_filter.mpr ⟨List.mem_append_right _ (List.mem_append_left _ (List.mem_of_getElem? (i := 239) rfl)), rfl⟩
theorem kv_X1_signs : Cond.selects RX1 yX1_signs yX1_signs ∈ bigW := List.mem_filter.mpr ⟨List.mem_append_right _ (List.mem_append_right _ (List.mem_append_left _ (List.mem_of_getElem? (i := 0) rfl))), rfl⟩
theorem kc_X1_signs : Cond.code yX1_signs cX1_signs 4 (some .int) ∈ bigW := List.mem_filter.mpr ⟨List.mem_append_right _ (List.mem_append_right _ (List.mem_append_left _ (List.mem_of_getElem? (i := 1) rfl))), rfl⟩
theorem km_X7_79 : Cond.methodLink RX7 79 yX4_set ∈ bigW := List.mem_filter.mpr ⟨List.mem_append_right _ (List.mem_append_right _ (List.mem_append_left _ (List.mem_of_getElem? (i := 2) rfl))), rfl⟩
theorem ki_X4_set : Cond.instanceMethod yX4_set ∈ bigW := List.mem_filter.mpr ⟨List.mem_append_right _ (List.mem_append_right _ (List.mem_append_left _ (List.mem_of_getElem? (i := 3) rfl))), rfl⟩
theorem kv_X4_set : Cond.selects RX4 yX4_set yX4_set ∈ bigW := List.mem_filter.mpr ⟨List.mem_append_right _ (List.mem_append_right _ (List.mem_append_left _ (List.mem_of_getElem? (i := 4) rfl))), rfl⟩
theorem kc_X4_set : Cond.code yX4_set cX4_set 3 none ∈ bigW := List.mem_filter.mpr ⟨List.mem_append_right _ (List.mem_append_right _ (List.mem_append_left _ (List.mem_of_getElem? (i := 5) rfl))), rfl⟩
theorem km_X4_18 : Cond.methodLink RX4 18 yX4_has ∈ bigW := List.mem_filter.mpr ⟨List.mem_append_right _ (List.mem_append_right _ (List.mem_append_left _ (List.mem_of_getElem? (i := 6) rfl))), rfl⟩
theorem ki_X4_has : Cond.instanceMethod yX4_has ∈ bigW := List.mem_filter.mpr ⟨List.mem_append_right _ (List.mem_append_right _ (List.mem_append_left _ (List.mem_of_getElem? (i := 7) rfl))), rfl⟩
theorem kv_X4_has : Cond.selects RX4 yX4_has yX4_has ∈ bigW := List.mem_filter.mpr ⟨List.mem_append_right _ (List.mem_append_right _ (List.mem_append_left _ (List.mem_of_getElem? (i := 8) rfl))), rfl⟩
theorem kc_X4_has : Cond.code yX4_has cX4_has 2 (some .boolean) ∈ bigW := List.mem_filter.mpr ⟨List.mem_append_right _ (List.mem_append_right _ (List.mem_append_left _ (List.mem_of_getElem? (i := 9) rfl))), rfl⟩
theorem km_X7_83 : Cond.methodLink RX7 83 yX1_row ∈ bigW := List.mem_filter.mpr ⟨List.mem_append_right _ (List.mem_append_right _ (List.mem_append_left _ (List.mem_of_getElem? (i := 10) rfl))), rfl⟩
theorem km_X7_92 : Cond.methodLink RX7 92 yX3_turned ∈ bigW := List.mem_filter.mpr ⟨List.mem_append_right _ (List.mem_append_right _ (List.mem_append_left _ (List.mem_of_getElem? (i := 11) rfl))), rfl⟩
theorem ks_X3_turned : Cond.static yX3_turned ∈ bigW := List.mem_filter.mpr ⟨List.mem_append_right _ (List.mem_append_right _ (List.mem_append_left _ (List.mem_of_getElem? (i := 12) rfl))), rfl⟩
theorem kc_X3_turned : Cond.code yX3_turned cX3_turned 4 (some .int) ∈ bigW := List.mem_filter.mpr ⟨List.mem_append_right _ (List.mem_append_right _ (List.mem_append_left _ (List.mem_of_getElem? (i := 13) rfl))), rfl⟩
theorem km_X3_9 : Cond.methodLink RX3 9 yX3_at ∈ bigW := List.mem_filter.mpr ⟨List.mem_append_right _ (List.mem_append_right _ (List.mem_append_left _ (List.mem_of_getElem? (i := 14) rfl))), rfl⟩
theorem ks_X3_at : Cond.static yX3_at ∈ bigW := List.mem_filter.mpr ⟨List.mem_append_right _ (List.mem_append_right _ (List.mem_append_left _ (List.mem_of_getElem? (i := 15) rfl))), rfl⟩
theorem kc_X3_at : Cond.code yX3_at cX3_at 2 (some .int) ∈ bigW := List.mem_filter.mpr ⟨List.mem_append_right _ (List.mem_append_right _ (List.mem_append_left _ (List.mem_of_getElem? (i := 16) rfl))), rfl⟩
theorem km_X7_101 : Cond.methodLink RX7 101 yX3_freeStones ∈ bigW := List.mem_filter.mpr ⟨List.mem_append_right _ (List.mem_append_right _ (List.mem_append_left _ (List.mem_of_getElem? (i := 17) rfl))), rfl⟩
theorem ks_X3_freeStones : Cond.static yX3_freeStones ∈ bigW := List.mem_filter.mpr ⟨List.mem_append_right _ (List.mem_append_right _ (List.mem_append_left _ (List.mem_of_getElem? (i := 18) rfl))), rfl⟩
theorem kc_X3_freeStones : Cond.code yX3_freeStones cX3_freeStones 4 (some .int) ∈ bigW := List.mem_filter.mpr ⟨List.mem_append_right _ (List.mem_append_right _ (List.mem_append_left _ (List.mem_of_getElem? (i := 19) rfl))), rfl⟩
theorem km_X7_107 : Cond.methodLink RX7 107 yX3_numbered ∈ bigW := List.mem_filter.mpr ⟨List.mem_append_right _ (List.mem_append_right _ (List.mem_append_left _ (List.mem_of_getElem? (i := 20) rfl))), rfl⟩
theorem ks_X3_numbered : Cond.static yX3_numbered ∈ bigW := List.mem_filter.mpr ⟨List.mem_append_right _ (List.mem_append_right _ (List.mem_append_left _ (List.mem_of_getElem? (i := 21) rfl))), rfl⟩
theorem kc_X3_numbered : Cond.code yX3_numbered cX3_numbered 4 (some .int) ∈ bigW := List.mem_filter.mpr ⟨List.mem_append_right _ (List.mem_append_right _ (List.mem_append_left _ (List.mem_of_getElem? (i := 22) rfl))), rfl⟩
theorem km_X7_111 : Cond.methodLink RX7 111 yX2_begin ∈ bigW := List.mem_filter.mpr ⟨List.mem_append_right _ (List.mem_append_right _ (List.mem_append_left _ (List.mem_of_getElem? (i := 23) rfl))), rfl⟩
theorem ki_X2_begin : Cond.instanceMethod yX2_begin ∈ bigW := List.mem_filter.mpr ⟨List.mem_append_right _ (List.mem_append_right _ (List.mem_append_left _ (List.mem_of_getElem? (i := 24) rfl))), rfl⟩
theorem kv_X2_begin : Cond.selects RX2 yX2_begin yX2_begin ∈ bigW := List.mem_filter.mpr ⟨List.mem_append_right _ (List.mem_append_right _ (List.mem_append_left _ (List.mem_of_getElem? (i := 25) rfl))), rfl⟩
theorem kc_X2_begin : Cond.code yX2_begin cX2_begin 3 none ∈ bigW := List.mem_filter.mpr ⟨List.mem_append_right _ (List.mem_append_right _ (List.mem_append_left _ (List.mem_of_getElem? (i := 26) rfl))), rfl⟩
theorem km_X7_114 : Cond.methodLink RX7 114 yX5_spread ∈ bigW := List.mem_filter.mpr ⟨List.mem_append_right _ (List.mem_append_right _ (List.mem_append_left _ (List.mem_of_getElem? (i := 27) rfl))), rfl⟩
theorem ki_X5_spread : Cond.instanceMethod yX5_spread ∈ bigW := List.mem_filter.mpr ⟨List.mem_append_right _ (List.mem_append_right _ (List.mem_append_left _ (List.mem_of_getElem? (i := 28) rfl))), rfl⟩
theorem kv_X5_spread : Cond.selects RX5 yX5_spread yX5_spread ∈ bigW := List.mem_filter.mpr ⟨List.mem_append_right _ (List.mem_append_right _ (List.mem_append_left _ (List.mem_of_getElem? (i := 29) rfl))), rfl⟩
theorem kc_X5_spread : Cond.code yX5_spread cX5_spread 10 (some .int) ∈ bigW := List.mem_filter.mpr ⟨List.mem_append_right _ (List.mem_append_right _ (List.mem_append_left _ (List.mem_of_getElem? (i := 30) rfl))), rfl⟩
theorem km_X5_25 : Cond.methodLink RX5 25 yX6_clear ∈ bigW := List.mem_filter.mpr ⟨List.mem_append_right _ (List.mem_append_right _ (List.mem_append_left _ (List.mem_of_getElem? (i := 31) rfl))), rfl⟩
theorem ki_X6_clear : Cond.instanceMethod yX6_clear ∈ bigW := List.mem_filter.mpr ⟨List.mem_append_right _ (List.mem_append_right _ (List.mem_append_left _ (List.mem_of_getElem? (i := 32) rfl))), rfl⟩
theorem kv_X6_clear : Cond.selects RX6 yX6_clear yX6_clear ∈ bigW := List.mem_filter.mpr ⟨List.mem_append_right _ (List.mem_append_right _ (List.mem_append_left _ (List.mem_of_getElem? (i := 33) rfl))), rfl⟩
theorem kc_X6_clear : Cond.code yX6_clear cX6_clear 1 none ∈ bigW := List.mem_filter.mpr ⟨List.mem_append_right _ (List.mem_append_right _ (List.mem_append_left _ (List.mem_of_getElem? (i := 34) rfl))), rfl⟩
theorem km_X6_18 : Cond.methodLink RX6 18 yJ7_fill_53178 ∈ bigW := List.mem_filter.mpr ⟨List.mem_append_right _ (List.mem_append_right _ (List.mem_append_left _ (List.mem_of_getElem? (i := 35) rfl))), rfl⟩
theorem ks_J7_fill_53178 : Cond.static yJ7_fill_53178 ∈ bigW := List.mem_filter.mpr ⟨List.mem_append_right _ (List.mem_append_right _ (List.mem_append_left _ (List.mem_of_getElem? (i := 36) rfl))), rfl⟩
theorem kc_J7_fill_53178 : Cond.code yJ7_fill_53178 cJ7_fill_53178 4 none ∈ bigW := List.mem_filter.mpr ⟨List.mem_append_right _ (List.mem_append_right _ (List.mem_append_left _ (List.mem_of_getElem? (i := 37) rfl))), rfl⟩
theorem km_X5_35 : Cond.methodLink RX5 35 yX6_meet ∈ bigW := List.mem_filter.mpr ⟨List.mem_append_right _ (List.mem_append_right _ (List.mem_append_left _ (List.mem_of_getElem? (i := 38) rfl))), rfl⟩
theorem ki_X6_meet : Cond.instanceMethod yX6_meet ∈ bigW := List.mem_filter.mpr ⟨List.mem_append_right _ (List.mem_append_right _ (List.mem_append_left _ (List.mem_of_getElem? (i := 39) rfl))), rfl⟩
theorem kv_X6_meet : Cond.selects RX6 yX6_meet yX6_meet ∈ bigW := List.mem_filter.mpr ⟨List.mem_append_right _ (List.mem_append_right _ (List.mem_append_left _ (List.mem_of_getElem? (i := 40) rfl))), rfl⟩
theorem kc_X6_meet : Cond.code yX6_meet cX6_meet 3 (some .int) ∈ bigW := List.mem_filter.mpr ⟨List.mem_append_right _ (List.mem_append_right _ (List.mem_append_left _ (List.mem_of_getElem? (i := 41) rfl))), rfl⟩
theorem km_X6_28 : Cond.methodLink RX6 28 yX6_slotOf ∈ bigW := List.mem_filter.mpr ⟨List.mem_append_right _ (List.mem_append_right _ (List.mem_append_left _ (List.mem_of_getElem? (i := 42) rfl))), rfl⟩
theorem ki_X6_slotOf : Cond.instanceMethod yX6_slotOf ∈ bigW := List.mem_filter.mpr ⟨List.mem_append_right _ (List.mem_append_right _ (List.mem_append_left _ (List.mem_of_getElem? (i := 44) rfl))), rfl⟩
theorem kc_X6_slotOf : Cond.code yX6_slotOf cX6_slotOf 5 (some .int) ∈ bigW := List.mem_filter.mpr ⟨List.mem_append_right _ (List.mem_append_right _ (List.mem_append_left _ (List.mem_of_getElem? (i := 45) rfl))), rfl⟩
theorem kk_X6_32 : Cond.constant RX6 32 (-1640531535) ∈ bigW := List.mem_filter.mpr ⟨List.mem_append_right _ (List.mem_append_right _ (List.mem_append_left _ (List.mem_of_getElem? (i := 46) rfl))), rfl⟩
theorem km_X5_45 : Cond.methodLink RX5 45 yX4_allMoves ∈ bigW := List.mem_filter.mpr ⟨List.mem_append_right _ (List.mem_append_right _ (List.mem_append_left _ (List.mem_of_getElem? (i := 47) rfl))), rfl⟩
theorem ki_X4_allMoves : Cond.instanceMethod yX4_allMoves ∈ bigW := List.mem_filter.mpr ⟨List.mem_append_right _ (List.mem_append_right _ (List.mem_append_left _ (List.mem_of_getElem? (i := 48) rfl))), rfl⟩
theorem kv_X4_allMoves : Cond.selects RX4 yX4_allMoves yX4_allMoves ∈ bigW := List.mem_filter.mpr ⟨List.mem_append_right _ (List.mem_append_right _ (List.mem_append_left _ (List.mem_of_getElem? (i := 49) rfl))), rfl⟩
theorem kc_X4_allMoves : Cond.code yX4_allMoves cX4_allMoves 6 (some .long) ∈ bigW := List.mem_filter.mpr ⟨List.mem_append_right _ (List.mem_append_right _ (List.mem_append_left _ (List.mem_of_getElem? (i := 50) rfl))), rfl⟩
theorem km_X4_35 : Cond.methodLink RX4 35 yX4_targets ∈ bigW := List.mem_filter.mpr ⟨List.mem_append_right _ (List.mem_append_right _ (List.mem_append_left _ (List.mem_of_getElem? (i := 51) rfl))), rfl⟩
theorem ki_X4_targets : Cond.instanceMethod yX4_targets ∈ bigW := List.mem_filter.mpr ⟨List.mem_append_right _ (List.mem_append_right _ (List.mem_append_left _ (List.mem_of_getElem? (i := 53) rfl))), rfl⟩
theorem kc_X4_targets : Cond.code yX4_targets cX4_targets 7 (some .int) ∈ bigW := List.mem_filter.mpr ⟨List.mem_append_right _ (List.mem_append_right _ (List.mem_append_left _ (List.mem_of_getElem? (i := 54) rfl))), rfl⟩
theorem km_X4_39 : Cond.methodLink RX4 39 yX3_at ∈ bigW := List.mem_filter.mpr ⟨List.mem_append_right _ (List.mem_append_right _ (List.mem_append_left _ (List.mem_of_getElem? (i := 55) rfl))), rfl⟩
theorem km_X4_45 : Cond.methodLink RX4 45 yX4_landing ∈ bigW := List.mem_filter.mpr ⟨List.mem_append_right _ (List.mem_append_right _ (List.mem_append_left _ (List.mem_of_getElem? (i := 56) rfl))), rfl⟩
theorem ki_X4_landing : Cond.instanceMethod yX4_landing ∈ bigW := List.mem_filter.mpr ⟨List.mem_append_right _ (List.mem_append_right _ (List.mem_append_left _ (List.mem_of_getElem? (i := 58) rfl))), rfl⟩
theorem kc_X4_landing : Cond.code yX4_landing cX4_landing 9 (some .int) ∈ bigW := List.mem_filter.mpr ⟨List.mem_append_right _ (List.mem_append_right _ (List.mem_append_left _ (List.mem_of_getElem? (i := 59) rfl))), rfl⟩
theorem km_X4_48 : Cond.methodLink RX4 48 yX4_beside ∈ bigW := List.mem_filter.mpr ⟨List.mem_append_right _ (List.mem_append_right _ (List.mem_append_left _ (List.mem_of_getElem? (i := 60) rfl))), rfl⟩
theorem ki_X4_beside : Cond.instanceMethod yX4_beside ∈ bigW := List.mem_filter.mpr ⟨List.mem_append_right _ (List.mem_append_right _ (List.mem_append_left _ (List.mem_of_getElem? (i := 62) rfl))), rfl⟩
theorem kc_X4_beside : Cond.code yX4_beside cX4_beside 4 (some .int) ∈ bigW := List.mem_filter.mpr ⟨List.mem_append_right _ (List.mem_append_right _ (List.mem_append_left _ (List.mem_of_getElem? (i := 63) rfl))), rfl⟩
theorem km_X4_51 : Cond.methodLink RX4 51 yX4_leapsOver ∈ bigW := List.mem_filter.mpr ⟨List.mem_append_right _ (List.mem_append_right _ (List.mem_append_left _ (List.mem_of_getElem? (i := 64) rfl))), rfl⟩
theorem ki_X4_leapsOver : Cond.instanceMethod yX4_leapsOver ∈ bigW := List.mem_filter.mpr ⟨List.mem_append_right _ (List.mem_append_right _ (List.mem_append_left _ (List.mem_of_getElem? (i := 66) rfl))), rfl⟩
theorem kc_X4_leapsOver : Cond.code yX4_leapsOver cX4_leapsOver 3 (some .boolean) ∈ bigW := List.mem_filter.mpr ⟨List.mem_append_right _ (List.mem_append_right _ (List.mem_append_left _ (List.mem_of_getElem? (i := 67) rfl))), rfl⟩
theorem km_X5_51 : Cond.methodLink RX5 51 yX5_noteStuck ∈ bigW := List.mem_filter.mpr ⟨List.mem_append_right _ (List.mem_append_right _ (List.mem_append_left _ (List.mem_of_getElem? (i := 68) rfl))), rfl⟩
theorem ki_X5_noteStuck : Cond.instanceMethod yX5_noteStuck ∈ bigW := List.mem_filter.mpr ⟨List.mem_append_right _ (List.mem_append_right _ (List.mem_append_left _ (List.mem_of_getElem? (i := 70) rfl))), rfl⟩
theorem kc_X5_noteStuck : Cond.code yX5_noteStuck cX5_noteStuck 2 none ∈ bigW := List.mem_filter.mpr ⟨List.mem_append_right _ (List.mem_append_right _ (List.mem_append_left _ (List.mem_of_getElem? (i := 71) rfl))), rfl⟩
theorem km_X5_55 : Cond.methodLink RX5 55 yX5_goOn ∈ bigW := List.mem_filter.mpr ⟨List.mem_append_right _ (List.mem_append_right _ (List.mem_append_left _ (List.mem_of_getElem? (i := 72) rfl))), rfl⟩
theorem ki_X5_goOn : Cond.instanceMethod yX5_goOn ∈ bigW := List.mem_filter.mpr ⟨List.mem_append_right _ (List.mem_append_right _ (List.mem_append_left _ (List.mem_of_getElem? (i := 74) rfl))), rfl⟩
theorem kc_X5_goOn : Cond.code yX5_goOn cX5_goOn 12 none ∈ bigW := List.mem_filter.mpr ⟨List.mem_append_right _ (List.mem_append_right _ (List.mem_append_left _ (List.mem_of_getElem? (i := 75) rfl))), rfl⟩
theorem km_X5_59 : Cond.methodLink RX5 59 yJ13_bitCount_95d88 ∈ bigW := List.mem_filter.mpr ⟨List.mem_append_right _ (List.mem_append_right _ (List.mem_append_left _ (List.mem_of_getElem? (i := 76) rfl))), rfl⟩
theorem ks_J13_bitCount_95d88 : Cond.static yJ13_bitCount_95d88 ∈ bigW := List.mem_filter.mpr ⟨List.mem_append_right _ (List.mem_append_right _ (List.mem_append_left _ (List.mem_of_getElem? (i := 77) rfl))), rfl⟩
theorem kc_J13_bitCount_95d88 : Cond.code yJ13_bitCount_95d88 cJ13_bitCount_95d88 2 (some .int) ∈ bigW := List.mem_filter.mpr ⟨List.mem_append_right _ (List.mem_append_right _ (List.mem_append_left _ (List.mem_of_getElem? (i := 78) rfl))), rfl⟩
theorem kk_J13_314 : Cond.constantLong RJ13 314 (6148914691236517205) ∈ bigW := List.mem_filter.mpr ⟨List.mem_append_right _ (List.mem_append_right _ (List.mem_append_left _ (List.mem_of_getElem? (i := 79) rfl))), rfl⟩
theorem kk_J13_316 : Cond.constantLong RJ13 316 (3689348814741910323) ∈ bigW := List.mem_filter.mpr ⟨List.mem_append_right _ (List.mem_append_right _ (List.mem_append_left _ (List.mem_of_getElem? (i := 80) rfl))), rfl⟩
theorem kk_J13_318 : Cond.constantLong RJ13 318 (1085102592571150095) ∈ bigW := List.mem_filter.mpr ⟨List.mem_append_right _ (List.mem_append_right _ (List.mem_append_left _ (List.mem_of_getElem? (i := 81) rfl))), rfl⟩
theorem km_X5_65 : Cond.methodLink RX5 65 yX3_lowestMove ∈ bigW := List.mem_filter.mpr ⟨List.mem_append_right _ (List.mem_append_right _ (List.mem_append_left _ (List.mem_of_getElem? (i := 82) rfl))), rfl⟩
theorem ks_X3_lowestMove : Cond.static yX3_lowestMove ∈ bigW := List.mem_filter.mpr ⟨List.mem_append_right _ (List.mem_append_right _ (List.mem_append_left _ (List.mem_of_getElem? (i := 83) rfl))), rfl⟩
theorem kc_X3_lowestMove : Cond.code yX3_lowestMove cX3_lowestMove 2 (some .int) ∈ bigW := List.mem_filter.mpr ⟨List.mem_append_right _ (List.mem_append_right _ (List.mem_append_left _ (List.mem_of_getElem? (i := 84) rfl))), rfl⟩
theorem km_X3_15 : Cond.methodLink RX3 15 yJ13_bitCount_95d88 ∈ bigW := List.mem_filter.mpr ⟨List.mem_append_right _ (List.mem_append_right _ (List.mem_append_left _ (List.mem_of_getElem? (i := 85) rfl))), rfl⟩
theorem km_X5_70 : Cond.methodLink RX5 70 yX3_moved ∈ bigW := List.mem_filter.mpr ⟨List.mem_append_right _ (List.mem_append_right _ (List.mem_append_left _ (List.mem_of_getElem? (i := 86) rfl))), rfl⟩
theorem ks_X3_moved : Cond.static yX3_moved ∈ bigW := List.mem_filter.mpr ⟨List.mem_append_right _ (List.mem_append_right _ (List.mem_append_left _ (List.mem_of_getElem? (i := 87) rfl))), rfl⟩
theorem kc_X3_moved : Cond.code yX3_moved cX3_moved 5 (some .int) ∈ bigW := List.mem_filter.mpr ⟨List.mem_append_right _ (List.mem_append_right _ (List.mem_append_left _ (List.mem_of_getElem? (i := 88) rfl))), rfl⟩
theorem km_X7_118 : Cond.methodLink RX7 118 yX0_forget ∈ bigW := List.mem_filter.mpr ⟨List.mem_append_right _ (List.mem_append_right _ (List.mem_append_left _ (List.mem_of_getElem? (i := 89) rfl))), rfl⟩
theorem ki_X0_forget : Cond.instanceMethod yX0_forget ∈ bigW := List.mem_filter.mpr ⟨List.mem_append_right _ (List.mem_append_right _ (List.mem_append_left _ (List.mem_of_getElem? (i := 90) rfl))), rfl⟩
theorem kv_X0_forget : Cond.selects RX0 yX0_forget yX0_forget ∈ bigW := List.mem_filter.mpr ⟨List.mem_append_right _ (List.mem_append_right _ (List.mem_append_left _ (List.mem_of_getElem? (i := 91) rfl))), rfl⟩
theorem kc_X0_forget : Cond.code yX0_forget cX0_forget 1 none ∈ bigW := List.mem_filter.mpr ⟨List.mem_append_right _ (List.mem_append_right _ (List.mem_append_left _ (List.mem_of_getElem? (i := 92) rfl))), rfl⟩
theorem km_X0_22 : Cond.methodLink RX0 22 yX6_clear ∈ bigW := List.mem_filter.mpr ⟨List.mem_append_right _ (List.mem_append_right _ (List.mem_append_left _ (List.mem_of_getElem? (i := 93) rfl))), rfl⟩
theorem km_X0_25 : Cond.methodLink RX0 25 yJ7_fill_53178 ∈ bigW := List.mem_filter.mpr ⟨List.mem_append_right _ (List.mem_append_right _ (List.mem_append_left _ (List.mem_of_getElem? (i := 94) rfl))), rfl⟩
theorem km_L_33 : Cond.methodLink RL 33 yX7_on ∈ bigW := List.mem_filter.mpr ⟨List.mem_append_right _ (List.mem_append_right _ (List.mem_append_left _ (List.mem_of_getElem? (i := 95) rfl))), rfl⟩
theorem ki_X7_on : Cond.instanceMethod yX7_on ∈ bigW := List.mem_filter.mpr ⟨List.mem_append_right _ (List.mem_append_right _ (List.mem_append_left _ (List.mem_of_getElem? (i := 96) rfl))), rfl⟩
theorem kv_X7_on : Cond.selects RX7 yX7_on yX7_on ∈ bigW := List.mem_filter.mpr ⟨List.mem_append_right _ (List.mem_append_right _ (List.mem_append_left _ (List.mem_of_getElem? (i := 97) rfl))), rfl⟩
theorem kc_X7_on : Cond.code yX7_on cX7_on 3 (some .int) ∈ bigW := List.mem_filter.mpr ⟨List.mem_append_right _ (List.mem_append_right _ (List.mem_append_left _ (List.mem_of_getElem? (i := 98) rfl))), rfl⟩
theorem km_X7_128 : Cond.methodLink RX7 128 yX7_isStone ∈ bigW := List.mem_filter.mpr ⟨List.mem_append_right _ (List.mem_append_right _ (List.mem_append_left _ (List.mem_of_getElem? (i := 99) rfl))), rfl⟩
theorem ki_X7_isStone : Cond.instanceMethod yX7_isStone ∈ bigW := List.mem_filter.mpr ⟨List.mem_append_right _ (List.mem_append_right _ (List.mem_append_left _ (List.mem_of_getElem? (i := 101) rfl))), rfl⟩
theorem kc_X7_isStone : Cond.code yX7_isStone cX7_isStone 2 (some .boolean) ∈ bigW := List.mem_filter.mpr ⟨List.mem_append_right _ (List.mem_append_right _ (List.mem_append_left _ (List.mem_of_getElem? (i := 102) rfl))), rfl⟩
theorem km_X7_134 : Cond.methodLink RX7 134 yX3_at ∈ bigW := List.mem_filter.mpr ⟨List.mem_append_right _ (List.mem_append_right _ (List.mem_append_left _ (List.mem_of_getElem? (i := 103) rfl))), rfl⟩
theorem km_L_38 : Cond.methodLink RL 38 yX7_frog ∈ bigW := List.mem_filter.mpr ⟨List.mem_append_right _ (List.mem_append_right _ (List.mem_append_left _ (List.mem_of_getElem? (i := 104) rfl))), rfl⟩
theorem ki_X7_frog : Cond.instanceMethod yX7_frog ∈ bigW := List.mem_filter.mpr ⟨List.mem_append_right _ (List.mem_append_right _ (List.mem_append_left _ (List.mem_of_getElem? (i := 105) rfl))), rfl⟩
theorem kv_X7_frog : Cond.selects RX7 yX7_frog yX7_frog ∈ bigW := List.mem_filter.mpr ⟨List.mem_append_right _ (List.mem_append_right _ (List.mem_append_left _ (List.mem_of_getElem? (i := 106) rfl))), rfl⟩
theorem kc_X7_frog : Cond.code yX7_frog cX7_frog 2 (some .int) ∈ bigW := List.mem_filter.mpr ⟨List.mem_append_right _ (List.mem_append_right _ (List.mem_append_left _ (List.mem_of_getElem? (i := 107) rfl))), rfl⟩
theorem km_L_42 : Cond.methodLink RL 42 yX7_about ∈ bigW := List.mem_filter.mpr ⟨List.mem_append_right _ (List.mem_append_right _ (List.mem_append_left _ (List.mem_of_getElem? (i := 108) rfl))), rfl⟩
theorem ki_X7_about : Cond.instanceMethod yX7_about ∈ bigW := List.mem_filter.mpr ⟨List.mem_append_right _ (List.mem_append_right _ (List.mem_append_left _ (List.mem_of_getElem? (i := 109) rfl))), rfl⟩
theorem kv_X7_about : Cond.selects RX7 yX7_about yX7_about ∈ bigW := List.mem_filter.mpr ⟨List.mem_append_right _ (List.mem_append_right _ (List.mem_append_left _ (List.mem_of_getElem? (i := 110) rfl))), rfl⟩
theorem kc_X7_about : Cond.code yX7_about cX7_about 3 (some .int) ∈ bigW := List.mem_filter.mpr ⟨List.mem_append_right _ (List.mem_append_right _ (List.mem_append_left _ (List.mem_of_getElem? (i := 111) rfl))), rfl⟩
theorem km_X7_140 : Cond.methodLink RX7 140 yX7_isFrog ∈ bigW := List.mem_filter.mpr ⟨List.mem_append_right _ (List.mem_append_right _ (List.mem_append_left _ (List.mem_of_getElem? (i := 112) rfl))), rfl⟩
theorem ki_X7_isFrog : Cond.instanceMethod yX7_isFrog ∈ bigW := List.mem_filter.mpr ⟨List.mem_append_right _ (List.mem_append_right _ (List.mem_append_left _ (List.mem_of_getElem? (i := 114) rfl))), rfl⟩
theorem kc_X7_isFrog : Cond.code yX7_isFrog cX7_isFrog 2 (some .boolean) ∈ bigW := List.mem_filter.mpr ⟨List.mem_append_right _ (List.mem_append_right _ (List.mem_append_left _ (List.mem_of_getElem? (i := 115) rfl))), rfl⟩
theorem km_X7_143 : Cond.methodLink RX7 143 yX7_kindOfFrog ∈ bigW := List.mem_filter.mpr ⟨List.mem_append_right _ (List.mem_append_right _ (List.mem_append_left _ (List.mem_of_getElem? (i := 116) rfl))), rfl⟩
theorem ki_X7_kindOfFrog : Cond.instanceMethod yX7_kindOfFrog ∈ bigW := List.mem_filter.mpr ⟨List.mem_append_right _ (List.mem_append_right _ (List.mem_append_left _ (List.mem_of_getElem? (i := 118) rfl))), rfl⟩
theorem kc_X7_kindOfFrog : Cond.code yX7_kindOfFrog cX7_kindOfFrog 2 (some .int) ∈ bigW := List.mem_filter.mpr ⟨List.mem_append_right _ (List.mem_append_right _ (List.mem_append_left _ (List.mem_of_getElem? (i := 119) rfl))), rfl⟩
theorem km_X7_146 : Cond.methodLink RX7 146 yX2_stoneOf ∈ bigW := List.mem_filter.mpr ⟨List.mem_append_right _ (List.mem_append_right _ (List.mem_append_left _ (List.mem_of_getElem? (i := 120) rfl))), rfl⟩
theorem ki_X2_stoneOf : Cond.instanceMethod yX2_stoneOf ∈ bigW := List.mem_filter.mpr ⟨List.mem_append_right _ (List.mem_append_right _ (List.mem_append_left _ (List.mem_of_getElem? (i := 121) rfl))), rfl⟩
theorem kv_X2_stoneOf : Cond.selects RX2 yX2_stoneOf yX2_stoneOf ∈ bigW := List.mem_filter.mpr ⟨List.mem_append_right _ (List.mem_append_right _ (List.mem_append_left _ (List.mem_of_getElem? (i := 122) rfl))), rfl⟩
theorem kc_X2_stoneOf : Cond.code yX2_stoneOf cX2_stoneOf 3 (some .int) ∈ bigW := List.mem_filter.mpr ⟨List.mem_append_right _ (List.mem_append_right _ (List.mem_append_left _ (List.mem_of_getElem? (i := 123) rfl))), rfl⟩
theorem km_X2_28 : Cond.methodLink RX2 28 yX3_at ∈ bigW := List.mem_filter.mpr ⟨List.mem_append_right _ (List.mem_append_right _ (List.mem_append_left _ (List.mem_of_getElem? (i := 124) rfl))), rfl⟩
theorem km_X7_149 : Cond.methodLink RX7 149 yX2_timesMoved ∈ bigW := List.mem_filter.mpr ⟨List.mem_append_right _ (List.mem_append_right _ (List.mem_append_left _ (List.mem_of_getElem? (i := 125) rfl))), rfl⟩
theorem ki_X2_timesMoved : Cond.instanceMethod yX2_timesMoved ∈ bigW := List.mem_filter.mpr ⟨List.mem_append_right _ (List.mem_append_right _ (List.mem_append_left _ (List.mem_of_getElem? (i := 126) rfl))), rfl⟩
theorem kv_X2_timesMoved : Cond.selects RX2 yX2_timesMoved yX2_timesMoved ∈ bigW := List.mem_filter.mpr ⟨List.mem_append_right _ (List.mem_append_right _ (List.mem_append_left _ (List.mem_of_getElem? (i := 127) rfl))), rfl⟩
theorem kc_X2_timesMoved : Cond.code yX2_timesMoved cX2_timesMoved 4 (some .int) ∈ bigW := List.mem_filter.mpr ⟨List.mem_append_right _ (List.mem_append_right _ (List.mem_append_left _ (List.mem_of_getElem? (i := 128) rfl))), rfl⟩
theorem km_L_47 : Cond.methodLink RL 47 yX7_as ∈ bigW := List.mem_filter.mpr ⟨List.mem_append_right _ (List.mem_append_right _ (List.mem_append_left _ (List.mem_of_getElem? (i := 129) rfl))), rfl⟩
theorem ki_X7_as : Cond.instanceMethod yX7_as ∈ bigW := List.mem_filter.mpr ⟨List.mem_append_right _ (List.mem_append_right _ (List.mem_append_left _ (List.mem_of_getElem? (i := 130) rfl))), rfl⟩
theorem kv_X7_as : Cond.selects RX7 yX7_as yX7_as ∈ bigW := List.mem_filter.mpr ⟨List.mem_append_right _ (List.mem_append_right _ (List.mem_append_left _ (List.mem_of_getElem? (i := 131) rfl))), rfl⟩
theorem kc_X7_as : Cond.code yX7_as cX7_as 5 (some .int) ∈ bigW := List.mem_filter.mpr ⟨List.mem_append_right _ (List.mem_append_right _ (List.mem_append_left _ (List.mem_of_getElem? (i := 132) rfl))), rfl⟩
theorem km_L_51 : Cond.methodLink RL 51 yX7_may ∈ bigW := List.mem_filter.mpr ⟨List.mem_append_right _ (List.mem_append_right _ (List.mem_append_left _ (List.mem_of_getElem? (i := 133) rfl))), rfl⟩
theorem ki_X7_may : Cond.instanceMethod yX7_may ∈ bigW := List.mem_filter.mpr ⟨List.mem_append_right _ (List.mem_append_right _ (List.mem_append_left _ (List.mem_of_getElem? (i := 134) rfl))), rfl⟩
theorem kv_X7_may : Cond.selects RX7 yX7_may yX7_may ∈ bigW := List.mem_filter.mpr ⟨List.mem_append_right _ (List.mem_append_right _ (List.mem_append_left _ (List.mem_of_getElem? (i := 135) rfl))), rfl⟩
theorem kc_X7_may : Cond.code yX7_may cX7_may 3 (some .int) ∈ bigW := List.mem_filter.mpr ⟨List.mem_append_right _ (List.mem_append_right _ (List.mem_append_left _ (List.mem_of_getElem? (i := 136) rfl))), rfl⟩
theorem km_X7_152 : Cond.methodLink RX7 152 yX4_allows ∈ bigW := List.mem_filter.mpr ⟨List.mem_append_right _ (List.mem_append_right _ (List.mem_append_left _ (List.mem_of_getElem? (i := 137) rfl))), rfl⟩
theorem ki_X4_allows : Cond.instanceMethod yX4_allows ∈ bigW := List.mem_filter.mpr ⟨List.mem_append_right _ (List.mem_append_right _ (List.mem_append_left _ (List.mem_of_getElem? (i := 138) rfl))), rfl⟩
theorem kv_X4_allows : Cond.selects RX4 yX4_allows yX4_allows ∈ bigW := List.mem_filter.mpr ⟨List.mem_append_right _ (List.mem_append_right _ (List.mem_append_left _ (List.mem_of_getElem? (i := 139) rfl))), rfl⟩
theorem kc_X4_allows : Cond.code yX4_allows cX4_allows 4 (some .boolean) ∈ bigW := List.mem_filter.mpr ⟨List.mem_append_right _ (List.mem_append_right _ (List.mem_append_left _ (List.mem_of_getElem? (i := 140) rfl))), rfl⟩
theorem km_L_55 : Cond.methodLink RL 55 yX7_moves ∈ bigW := List.mem_filter.mpr ⟨List.mem_append_right _ (List.mem_append_right _ (List.mem_append_left _ (List.mem_of_getElem? (i := 141) rfl))), rfl⟩
theorem ki_X7_moves : Cond.instanceMethod yX7_moves ∈ bigW := List.mem_filter.mpr ⟨List.mem_append_right _ (List.mem_append_right _ (List.mem_append_left _ (List.mem_of_getElem? (i := 142) rfl))), rfl⟩
theorem kv_X7_moves : Cond.selects RX7 yX7_moves yX7_moves ∈ bigW := List.mem_filter.mpr ⟨List.mem_append_right _ (List.mem_append_right _ (List.mem_append_left _ (List.mem_of_getElem? (i := 143) rfl))), rfl⟩
theorem kc_X7_moves : Cond.code yX7_moves cX7_moves 1 (some .int) ∈ bigW := List.mem_filter.mpr ⟨List.mem_append_right _ (List.mem_append_right _ (List.mem_append_left _ (List.mem_of_getElem? (i := 144) rfl))), rfl⟩
theorem km_X7_156 : Cond.methodLink RX7 156 yX4_allMoves ∈ bigW := List.mem_filter.mpr ⟨List.mem_append_right _ (List.mem_append_right _ (List.mem_append_left _ (List.mem_of_getElem? (i := 145) rfl))), rfl⟩
theorem km_X7_160 : Cond.methodLink RX7 160 yJ13_bitCount_95d88 ∈ bigW := List.mem_filter.mpr ⟨List.mem_append_right _ (List.mem_append_right _ (List.mem_append_left _ (List.mem_of_getElem? (i := 146) rfl))), rfl⟩
theorem km_L_59 : Cond.methodLink RL 59 yX7_move ∈ bigW := List.mem_filter.mpr ⟨List.mem_append_right _ (List.mem_append_right _ (List.mem_append_left _ (List.mem_of_getElem? (i := 147) rfl))), rfl⟩
theorem ki_X7_move : Cond.instanceMethod yX7_move ∈ bigW := List.mem_filter.mpr ⟨List.mem_append_right _ (List.mem_append_right _ (List.mem_append_left _ (List.mem_of_getElem? (i := 148) rfl))), rfl⟩
theorem kv_X7_move : Cond.selects RX7 yX7_move yX7_move ∈ bigW := List.mem_filter.mpr ⟨List.mem_append_right _ (List.mem_append_right _ (List.mem_append_left _ (List.mem_of_getElem? (i := 149) rfl))), rfl⟩
theorem kc_X7_move : Cond.code yX7_move cX7_move 3 (some .int) ∈ bigW := List.mem_filter.mpr ⟨List.mem_append_right _ (List.mem_append_right _ (List.mem_append_left _ (List.mem_of_getElem? (i := 150) rfl))), rfl⟩
theorem km_X7_166 : Cond.methodLink RX7 166 yX2_go ∈ bigW := List.mem_filter.mpr ⟨List.mem_append_right _ (List.mem_append_right _ (List.mem_append_left _ (List.mem_of_getElem? (i := 151) rfl))), rfl⟩
theorem ki_X2_go : Cond.instanceMethod yX2_go ∈ bigW := List.mem_filter.mpr ⟨List.mem_append_right _ (List.mem_append_right _ (List.mem_append_left _ (List.mem_of_getElem? (i := 152) rfl))), rfl⟩
theorem kv_X2_go : Cond.selects RX2 yX2_go yX2_go ∈ bigW := List.mem_filter.mpr ⟨List.mem_append_right _ (List.mem_append_right _ (List.mem_append_left _ (List.mem_of_getElem? (i := 153) rfl))), rfl⟩
theorem kc_X2_go : Cond.code yX2_go cX2_go 4 none ∈ bigW := List.mem_filter.mpr ⟨List.mem_append_right _ (List.mem_append_right _ (List.mem_append_left _ (List.mem_of_getElem? (i := 154) rfl))), rfl⟩
theorem km_X2_34 : Cond.methodLink RX2 34 yX3_moved ∈ bigW := List.mem_filter.mpr ⟨List.mem_append_right _ (List.mem_append_right _ (List.mem_append_left _ (List.mem_of_getElem? (i := 155) rfl))), rfl⟩
theorem km_L_63 : Cond.methodLink RL 63 yX7_back ∈ bigW := List.mem_filter.mpr ⟨List.mem_append_right _ (List.mem_append_right _ (List.mem_append_left _ (List.mem_of_getElem? (i := 156) rfl))), rfl⟩
theorem ki_X7_back : Cond.instanceMethod yX7_back ∈ bigW := List.mem_filter.mpr ⟨List.mem_append_right _ (List.mem_append_right _ (List.mem_append_left _ (List.mem_of_getElem? (i := 157) rfl))), rfl⟩
theorem kv_X7_back : Cond.selects RX7 yX7_back yX7_back ∈ bigW := List.mem_filter.mpr ⟨List.mem_append_right _ (List.mem_append_right _ (List.mem_append_left _ (List.mem_of_getElem? (i := 158) rfl))), rfl⟩
theorem kc_X7_back : Cond.code yX7_back cX7_back 1 (some .int) ∈ bigW := List.mem_filter.mpr ⟨List.mem_append_right _ (List.mem_append_right _ (List.mem_append_left _ (List.mem_of_getElem? (i := 159) rfl))), rfl⟩
theorem km_X7_169 : Cond.methodLink RX7 169 yX2_takeBack ∈ bigW := List.mem_filter.mpr ⟨List.mem_append_right _ (List.mem_append_right _ (List.mem_append_left _ (List.mem_of_getElem? (i := 160) rfl))), rfl⟩
theorem ki_X2_takeBack : Cond.instanceMethod yX2_takeBack ∈ bigW := List.mem_filter.mpr ⟨List.mem_append_right _ (List.mem_append_right _ (List.mem_append_left _ (List.mem_of_getElem? (i := 161) rfl))), rfl⟩
theorem kv_X2_takeBack : Cond.selects RX2 yX2_takeBack yX2_takeBack ∈ bigW := List.mem_filter.mpr ⟨List.mem_append_right _ (List.mem_append_right _ (List.mem_append_left _ (List.mem_of_getElem? (i := 162) rfl))), rfl⟩
theorem kc_X2_takeBack : Cond.code yX2_takeBack cX2_takeBack 3 (some .int) ∈ bigW := List.mem_filter.mpr ⟨List.mem_append_right _ (List.mem_append_right _ (List.mem_append_left _ (List.mem_of_getElem? (i := 163) rfl))), rfl⟩
theorem km_L_67 : Cond.methodLink RL 67 yX7_fewest ∈ bigW := List.mem_filter.mpr ⟨List.mem_append_right _ (List.mem_append_right _ (List.mem_append_left _ (List.mem_of_getElem? (i := 164) rfl))), rfl⟩
theorem ki_X7_fewest : Cond.instanceMethod yX7_fewest ∈ bigW := List.mem_filter.mpr ⟨List.mem_append_right _ (List.mem_append_right _ (List.mem_append_left _ (List.mem_of_getElem? (i := 165) rfl))), rfl⟩
theorem kv_X7_fewest : Cond.selects RX7 yX7_fewest yX7_fewest ∈ bigW := List.mem_filter.mpr ⟨List.mem_append_right _ (List.mem_append_right _ (List.mem_append_left _ (List.mem_of_getElem? (i := 166) rfl))), rfl⟩
theorem kc_X7_fewest : Cond.code yX7_fewest cX7_fewest 2 (some .int) ∈ bigW := List.mem_filter.mpr ⟨List.mem_append_right _ (List.mem_append_right _ (List.mem_append_left _ (List.mem_of_getElem? (i := 167) rfl))), rfl⟩
theorem km_X7_172 : Cond.methodLink RX7 172 yX7_hasBrook ∈ bigW := List.mem_filter.mpr ⟨List.mem_append_right _ (List.mem_append_right _ (List.mem_append_left _ (List.mem_of_getElem? (i := 168) rfl))), rfl⟩
theorem ki_X7_hasBrook : Cond.instanceMethod yX7_hasBrook ∈ bigW := List.mem_filter.mpr ⟨List.mem_append_right _ (List.mem_append_right _ (List.mem_append_left _ (List.mem_of_getElem? (i := 170) rfl))), rfl⟩
theorem kc_X7_hasBrook : Cond.code yX7_hasBrook cX7_hasBrook 1 (some .boolean) ∈ bigW := List.mem_filter.mpr ⟨List.mem_append_right _ (List.mem_append_right _ (List.mem_append_left _ (List.mem_of_getElem? (i := 171) rfl))), rfl⟩
theorem km_X7_175 : Cond.methodLink RX7 175 yX5_depthOf ∈ bigW := List.mem_filter.mpr ⟨List.mem_append_right _ (List.mem_append_right _ (List.mem_append_left _ (List.mem_of_getElem? (i := 172) rfl))), rfl⟩
theorem ki_X5_depthOf : Cond.instanceMethod yX5_depthOf ∈ bigW := List.mem_filter.mpr ⟨List.mem_append_right _ (List.mem_append_right _ (List.mem_append_left _ (List.mem_of_getElem? (i := 173) rfl))), rfl⟩
theorem kv_X5_depthOf : Cond.selects RX5 yX5_depthOf yX5_depthOf ∈ bigW := List.mem_filter.mpr ⟨List.mem_append_right _ (List.mem_append_right _ (List.mem_append_left _ (List.mem_of_getElem? (i := 174) rfl))), rfl⟩
theorem kc_X5_depthOf : Cond.code yX5_depthOf cX5_depthOf 3 (some .int) ∈ bigW := List.mem_filter.mpr ⟨List.mem_append_right _ (List.mem_append_right _ (List.mem_append_left _ (List.mem_of_getElem? (i := 175) rfl))), rfl⟩
theorem km_X5_74 : Cond.methodLink RX5 74 yX6_find ∈ bigW := List.mem_filter.mpr ⟨List.mem_append_right _ (List.mem_append_right _ (List.mem_append_left _ (List.mem_of_getElem? (i := 176) rfl))), rfl⟩
theorem ki_X6_find : Cond.instanceMethod yX6_find ∈ bigW := List.mem_filter.mpr ⟨List.mem_append_right _ (List.mem_append_right _ (List.mem_append_left _ (List.mem_of_getElem? (i := 177) rfl))), rfl⟩
theorem kv_X6_find : Cond.selects RX6 yX6_find yX6_find ∈ bigW := List.mem_filter.mpr ⟨List.mem_append_right _ (List.mem_append_right _ (List.mem_append_left _ (List.mem_of_getElem? (i := 178) rfl))), rfl⟩
theorem kc_X6_find : Cond.code yX6_find cX6_find 2 (some .int) ∈ bigW := List.mem_filter.mpr ⟨List.mem_append_right _ (List.mem_append_right _ (List.mem_append_left _ (List.mem_of_getElem? (i := 179) rfl))), rfl⟩
theorem km_X7_178 : Cond.methodLink RX7 178 yX7_firstOfFewest ∈ bigW := List.mem_filter.mpr ⟨List.mem_append_right _ (List.mem_append_right _ (List.mem_append_left _ (List.mem_of_getElem? (i := 180) rfl))), rfl⟩
theorem ki_X7_firstOfFewest : Cond.instanceMethod yX7_firstOfFewest ∈ bigW := List.mem_filter.mpr ⟨List.mem_append_right _ (List.mem_append_right _ (List.mem_append_left _ (List.mem_of_getElem? (i := 182) rfl))), rfl⟩
theorem kc_X7_firstOfFewest : Cond.code yX7_firstOfFewest cX7_firstOfFewest 7 (some .int) ∈ bigW := List.mem_filter.mpr ⟨List.mem_append_right _ (List.mem_append_right _ (List.mem_append_left _ (List.mem_of_getElem? (i := 183) rfl))), rfl⟩
theorem km_X7_292 : Cond.methodLink RX7 292 yX3_lowestMove ∈ bigW := List.mem_filter.mpr ⟨List.mem_append_right _ (List.mem_append_right _ (List.mem_append_left _ (List.mem_of_getElem? (i := 184) rfl))), rfl⟩
theorem km_X7_235 : Cond.methodLink RX7 235 yX3_moved ∈ bigW := List.mem_filter.mpr ⟨List.mem_append_right _ (List.mem_append_right _ (List.mem_append_left _ (List.mem_of_getElem? (i := 185) rfl))), rfl⟩
theorem km_X7_181 : Cond.methodLink RX7 181 yX7_partOfMove ∈ bigW := List.mem_filter.mpr ⟨List.mem_append_right _ (List.mem_append_right _ (List.mem_append_left _ (List.mem_of_getElem? (i := 186) rfl))), rfl⟩
theorem ks_X7_partOfMove : Cond.static yX7_partOfMove ∈ bigW := List.mem_filter.mpr ⟨List.mem_append_right _ (List.mem_append_right _ (List.mem_append_left _ (List.mem_of_getElem? (i := 187) rfl))), rfl⟩
theorem kc_X7_partOfMove : Cond.code yX7_partOfMove cX7_partOfMove 2 (some .int) ∈ bigW := List.mem_filter.mpr ⟨List.mem_append_right _ (List.mem_append_right _ (List.mem_append_left _ (List.mem_of_getElem? (i := 188) rfl))), rfl⟩
theorem km_L_71 : Cond.methodLink RL 71 yX7_ways ∈ bigW := List.mem_filter.mpr ⟨List.mem_append_right _ (List.mem_append_right _ (List.mem_append_left _ (List.mem_of_getElem? (i := 189) rfl))), rfl⟩
theorem ki_X7_ways : Cond.instanceMethod yX7_ways ∈ bigW := List.mem_filter.mpr ⟨List.mem_append_right _ (List.mem_append_right _ (List.mem_append_left _ (List.mem_of_getElem? (i := 190) rfl))), rfl⟩
theorem kv_X7_ways : Cond.selects RX7 yX7_ways yX7_ways ∈ bigW := List.mem_filter.mpr ⟨List.mem_append_right _ (List.mem_append_right _ (List.mem_append_left _ (List.mem_of_getElem? (i := 191) rfl))), rfl⟩
theorem kc_X7_ways : Cond.code yX7_ways cX7_ways 1 (some .int) ∈ bigW := List.mem_filter.mpr ⟨List.mem_append_right _ (List.mem_append_right _ (List.mem_append_left _ (List.mem_of_getElem? (i := 192) rfl))), rfl⟩
theorem km_X7_184 : Cond.methodLink RX7 184 yX5_waysOf ∈ bigW := List.mem_filter.mpr ⟨List.mem_append_right _ (List.mem_append_right _ (List.mem_append_left _ (List.mem_of_getElem? (i := 193) rfl))), rfl⟩
theorem ki_X5_waysOf : Cond.instanceMethod yX5_waysOf ∈ bigW := List.mem_filter.mpr ⟨List.mem_append_right _ (List.mem_append_right _ (List.mem_append_left _ (List.mem_of_getElem? (i := 194) rfl))), rfl⟩
theorem kv_X5_waysOf : Cond.selects RX5 yX5_waysOf yX5_waysOf ∈ bigW := List.mem_filter.mpr ⟨List.mem_append_right _ (List.mem_append_right _ (List.mem_append_left _ (List.mem_of_getElem? (i := 195) rfl))), rfl⟩
theorem kc_X5_waysOf : Cond.code yX5_waysOf cX5_waysOf 3 (some .int) ∈ bigW := List.mem_filter.mpr ⟨List.mem_append_right _ (List.mem_append_right _ (List.mem_append_left _ (List.mem_of_getElem? (i := 196) rfl))), rfl⟩
theorem km_L_75 : Cond.methodLink RL 75 yX7_wrong ∈ bigW := List.mem_filter.mpr ⟨List.mem_append_right _ (List.mem_append_right _ (List.mem_append_left _ (List.mem_of_getElem? (i := 197) rfl))), rfl⟩
theorem ki_X7_wrong : Cond.instanceMethod yX7_wrong ∈ bigW := List.mem_filter.mpr ⟨List.mem_append_right _ (List.mem_append_right _ (List.mem_append_left _ (List.mem_of_getElem? (i := 198) rfl))), rfl⟩
theorem kv_X7_wrong : Cond.selects RX7 yX7_wrong yX7_wrong ∈ bigW := List.mem_filter.mpr ⟨List.mem_append_right _ (List.mem_append_right _ (List.mem_append_left _ (List.mem_of_getElem? (i := 199) rfl))), rfl⟩
theorem kc_X7_wrong : Cond.code yX7_wrong cX7_wrong 1 (some .int) ∈ bigW := List.mem_filter.mpr ⟨List.mem_append_right _ (List.mem_append_right _ (List.mem_append_left _ (List.mem_of_getElem? (i := 200) rfl))), rfl⟩
theorem km_X7_187 : Cond.methodLink RX7 187 yX7_firstWrong ∈ bigW := List.mem_filter.mpr ⟨List.mem_append_right _ (List.mem_append_right _ (List.mem_append_left _ (List.mem_of_getElem? (i := 201) rfl))), rfl⟩
theorem ki_X7_firstWrong : Cond.instanceMethod yX7_firstWrong ∈ bigW := List.mem_filter.mpr ⟨List.mem_append_right _ (List.mem_append_right _ (List.mem_append_left _ (List.mem_of_getElem? (i := 203) rfl))), rfl⟩
theorem kc_X7_firstWrong : Cond.code yX7_firstWrong cX7_firstWrong 3 (some .int) ∈ bigW := List.mem_filter.mpr ⟨List.mem_append_right _ (List.mem_append_right _ (List.mem_append_left _ (List.mem_of_getElem? (i := 204) rfl))), rfl⟩
theorem km_L_79 : Cond.methodLink RL 79 yX7_ends ∈ bigW := List.mem_filter.mpr ⟨List.mem_append_right _ (List.mem_append_right _ (List.mem_append_left _ (List.mem_of_getElem? (i := 205) rfl))), rfl⟩
theorem ki_X7_ends : Cond.instanceMethod yX7_ends ∈ bigW := List.mem_filter.mpr ⟨List.mem_append_right _ (List.mem_append_right _ (List.mem_append_left _ (List.mem_of_getElem? (i := 206) rfl))), rfl⟩
theorem kv_X7_ends : Cond.selects RX7 yX7_ends yX7_ends ∈ bigW := List.mem_filter.mpr ⟨List.mem_append_right _ (List.mem_append_right _ (List.mem_append_left _ (List.mem_of_getElem? (i := 207) rfl))), rfl⟩
theorem kc_X7_ends : Cond.code yX7_ends cX7_ends 1 (some .int) ∈ bigW := List.mem_filter.mpr ⟨List.mem_append_right _ (List.mem_append_right _ (List.mem_append_left _ (List.mem_of_getElem? (i := 208) rfl))), rfl⟩
theorem km_L_83 : Cond.methodLink RL 83 yX7_soon ∈ bigW := List.mem_filter.mpr ⟨List.mem_append_right _ (List.mem_append_right _ (List.mem_append_left _ (List.mem_of_getElem? (i := 209) rfl))), rfl⟩
theorem ki_X7_soon : Cond.instanceMethod yX7_soon ∈ bigW := List.mem_filter.mpr ⟨List.mem_append_right _ (List.mem_append_right _ (List.mem_append_left _ (List.mem_of_getElem? (i := 210) rfl))), rfl⟩
theorem kv_X7_soon : Cond.selects RX7 yX7_soon yX7_soon ∈ bigW := List.mem_filter.mpr ⟨List.mem_append_right _ (List.mem_append_right _ (List.mem_append_left _ (List.mem_of_getElem? (i := 211) rfl))), rfl⟩
theorem kc_X7_soon : Cond.code yX7_soon cX7_soon 1 (some .int) ∈ bigW := List.mem_filter.mpr ⟨List.mem_append_right _ (List.mem_append_right _ (List.mem_append_left _ (List.mem_of_getElem? (i := 212) rfl))), rfl⟩
theorem km_L_87 : Cond.methodLink RL 87 yX7_comes ∈ bigW := List.mem_filter.mpr ⟨List.mem_append_right _ (List.mem_append_right _ (List.mem_append_left _ (List.mem_of_getElem? (i := 213) rfl))), rfl⟩
theorem ki_X7_comes : Cond.instanceMethod yX7_comes ∈ bigW := List.mem_filter.mpr ⟨List.mem_append_right _ (List.mem_append_right _ (List.mem_append_left _ (List.mem_of_getElem? (i := 214) rfl))), rfl⟩
theorem kv_X7_comes : Cond.selects RX7 yX7_comes yX7_comes ∈ bigW := List.mem_filter.mpr ⟨List.mem_append_right _ (List.mem_append_right _ (List.mem_append_left _ (List.mem_of_getElem? (i := 215) rfl))), rfl⟩
theorem kc_X7_comes : Cond.code yX7_comes cX7_comes 1 (some .int) ∈ bigW := List.mem_filter.mpr ⟨List.mem_append_right _ (List.mem_append_right _ (List.mem_append_left _ (List.mem_of_getElem? (i := 216) rfl))), rfl⟩
theorem km_X7_196 : Cond.methodLink RX7 196 yX1_tellsRow ∈ bigW := List.mem_filter.mpr ⟨List.mem_append_right _ (List.mem_append_right _ (List.mem_append_left _ (List.mem_of_getElem? (i := 217) rfl))), rfl⟩
theorem ki_X1_tellsRow : Cond.instanceMethod yX1_tellsRow ∈ bigW := List.mem_filter.mpr ⟨List.mem_append_right _ (List.mem_append_right _ (List.mem_append_left _ (List.mem_of_getElem? (i := 218) rfl))), rfl⟩
theorem kv_X1_tellsRow : Cond.selects RX1 yX1_tellsRow yX1_tellsRow ∈ bigW := List.mem_filter.mpr ⟨List.mem_append_right _ (List.mem_append_right _ (List.mem_append_left _ (List.mem_of_getElem? (i := 219) rfl))), rfl⟩
theorem kc_X1_tellsRow : Cond.code yX1_tellsRow cX1_tellsRow 2 (some .boolean) ∈ bigW := List.mem_filter.mpr ⟨List.mem_append_right _ (List.mem_append_right _ (List.mem_append_left _ (List.mem_of_getElem? (i := 220) rfl))), rfl⟩
theorem km_L_91 : Cond.methodLink RL 91 yX7_more ∈ bigW := List.mem_filter.mpr ⟨List.mem_append_right _ (List.mem_append_right _ (List.mem_append_left _ (List.mem_of_getElem? (i := 221) rfl))), rfl⟩
theorem ki_X7_more : Cond.instanceMethod yX7_more ∈ bigW := List.mem_filter.mpr ⟨List.mem_append_right _ (List.mem_append_right _ (List.mem_append_left _ (List.mem_of_getElem? (i := 222) rfl))), rfl⟩
theorem kv_X7_more : Cond.selects RX7 yX7_more yX7_more ∈ bigW := List.mem_filter.mpr ⟨List.mem_append_right _ (List.mem_append_right _ (List.mem_append_left _ (List.mem_of_getElem? (i := 223) rfl))), rfl⟩
theorem kc_X7_more : Cond.code yX7_more cX7_more 6 (some .int) ∈ bigW := List.mem_filter.mpr ⟨List.mem_append_right _ (List.mem_append_right _ (List.mem_append_left _ (List.mem_of_getElem? (i := 224) rfl))), rfl⟩
theorem km_X7_201 : Cond.methodLink RX7 201 yX3_widened ∈ bigW := List.mem_filter.mpr ⟨List.mem_append_right _ (List.mem_append_right _ (List.mem_append_left _ (List.mem_of_getElem? (i := 225) rfl))), rfl⟩
theorem ks_X3_widened : Cond.static yX3_widened ∈ bigW := List.mem_filter.mpr ⟨List.mem_append_right _ (List.mem_append_right _ (List.mem_append_left _ (List.mem_of_getElem? (i := 226) rfl))), rfl⟩
theorem kc_X3_widened : Cond.code yX3_widened cX3_widened 3 (some .int) ∈ bigW := List.mem_filter.mpr ⟨List.mem_append_right _ (List.mem_append_right _ (List.mem_append_left _ (List.mem_of_getElem? (i := 227) rfl))), rfl⟩
theorem km_X7_204 : Cond.methodLink RX7 204 yX7_toTurnRound ∈ bigW := List.mem_filter.mpr ⟨List.mem_append_right _ (List.mem_append_right _ (List.mem_append_left _ (List.mem_of_getElem? (i := 228) rfl))), rfl⟩
theorem ki_X7_toTurnRound : Cond.instanceMethod yX7_toTurnRound ∈ bigW := List.mem_filter.mpr ⟨List.mem_append_right _ (List.mem_append_right _ (List.mem_append_left _ (List.mem_of_getElem? (i := 230) rfl))), rfl⟩
theorem kc_X7_toTurnRound : Cond.code yX7_toTurnRound cX7_toTurnRound 3 (some .int) ∈ bigW := List.mem_filter.mpr ⟨List.mem_append_right _ (List.mem_append_right _ (List.mem_append_left _ (List.mem_of_getElem? (i := 231) rfl))), rfl⟩
theorem km_X7_208 : Cond.methodLink RX7 208 yX7_isLess ∈ bigW := List.mem_filter.mpr ⟨List.mem_append_right _ (List.mem_append_right _ (List.mem_append_left _ (List.mem_of_getElem? (i := 232) rfl))), rfl⟩
theorem ks_X7_isLess : Cond.static yX7_isLess ∈ bigW := List.mem_filter.mpr ⟨List.mem_append_right _ (List.mem_append_right _ (List.mem_append_left _ (List.mem_of_getElem? (i := 233) rfl))), rfl⟩
theorem kc_X7_isLess : Cond.code yX7_isLess cX7_isLess 2 (some .boolean) ∈ bigW := List.mem_filter.mpr ⟨List.mem_append_right _ (List.mem_append_right _ (List.mem_append_left _ (List.mem_of_getElem? (i := 234) rfl))), rfl⟩
theorem km_L_95 : Cond.methodLink RL 95 yX7_off ∈ bigW := List.mem_filter.mpr ⟨List.mem_append_right _ (List.mem_append_right _ (List.mem_append_left _ (List.mem_of_getElem? (i := 235) rfl))), rfl⟩
theorem ki_X7_off : Cond.instanceMethod yX7_off ∈ bigW := List.mem_filter.mpr ⟨List.mem_append_right _ (List.mem_append_right _ (List.mem_append_left _ (List.mem_of_getElem? (i := 236) rfl))), rfl⟩
theorem kv_X7_off : Cond.selects RX7 yX7_off yX7_off ∈ bigW := List.mem_filter.mpr ⟨List.mem_append_right _ (List.mem_append_right _ (List.mem_append_left _ (List.mem_of_getElem? (i := 237) rfl))), rfl⟩
theorem kc_X7_off : Cond.code yX7_off cX7_off 8 (some .int) ∈ bigW := List.mem_filter.mpr ⟨List.mem_append_right _ (List.mem_append_right _ (List.mem_append_left _ (List.mem_of_getElem? (i := 238) rfl))), rfl⟩
theorem km_X7_212 : Cond.methodLink RX7 212 yX3_without ∈ bigW := List.mem_filter.mpr ⟨List.mem_append_right _ (List.mem_append_right _ (List.mem_append_left _ (List.mem_of_getElem? (i := 239) rfl))), rfl⟩
theorem ks_X3_without : Cond.static yX3_without ∈ bigW := List.mem_filter.mpr ⟨List.mem_append_right _ (List.mem_append_right _ (List.mem_append_right _ (List.mem_append_left _ (List.mem_of_getElem? (i := 0) rfl)))), rfl⟩
theorem kc_X3_without : Cond.code yX3_without cX3_without 2 (some .int) ∈ bigW := List.mem_filter.mpr ⟨List.mem_append_right _ (List.mem_append_right _ (List.mem_append_right _ (List.mem_append_left _ (List.mem_of_getElem? (i := 1) rfl)))), rfl⟩
theorem km_L_99 : Cond.methodLink RL 99 yX7_wins ∈ bigW := List.mem_filter.mpr ⟨List.mem_append_right _ (List.mem_append_right _ (List.mem_append_right _ (List.mem_append_left _ (List.mem_of_getElem? (i := 2) rfl)))), rfl⟩
theorem ki_X7_wins : Cond.instanceMethod yX7_wins ∈ bigW := List.mem_filter.mpr ⟨List.mem_append_right _ (List.mem_append_right _ (List.mem_append_right _ (List.mem_append_left _ (List.mem_of_getElem? (i := 3) rfl)))), rfl⟩
theorem kv_X7_wins : Cond.selects RX7 yX7_wins yX7_wins ∈ bigW := List.mem_filter.mpr ⟨List.mem_append_right _ (List.mem_append_right _ (List.mem_append_right _ (List.mem_append_left _ (List.mem_of_getElem? (i := 4) rfl)))), rfl⟩
theorem kc_X7_wins : Cond.code yX7_wins cX7_wins 2 (some .int) ∈ bigW := List.mem_filter.mpr ⟨List.mem_append_right _ (List.mem_append_right _ (List.mem_append_right _ (List.mem_append_left _ (List.mem_of_getElem? (i := 5) rfl)))), rfl⟩
theorem km_X7_215 : Cond.methodLink RX7 215 yX7_hasGame ∈ bigW := List.mem_filter.mpr ⟨List.mem_append_right _ (List.mem_append_right _ (List.mem_append_right _ (List.mem_append_left _ (List.mem_of_getElem? (i := 6) rfl)))), rfl⟩
theorem ki_X7_hasGame : Cond.instanceMethod yX7_hasGame ∈ bigW := List.mem_filter.mpr ⟨List.mem_append_right _ (List.mem_append_right _ (List.mem_append_right _ (List.mem_append_left _ (List.mem_of_getElem? (i := 8) rfl)))), rfl⟩
theorem kc_X7_hasGame : Cond.code yX7_hasGame cX7_hasGame 1 (some .boolean) ∈ bigW := List.mem_filter.mpr ⟨List.mem_append_right _ (List.mem_append_right _ (List.mem_append_right _ (List.mem_append_left _ (List.mem_of_getElem? (i := 9) rfl)))), rfl⟩
theorem ki_X0_hasIt : Cond.instanceMethod yX0_hasIt ∈ bigW := List.mem_filter.mpr ⟨List.mem_append_right _ (List.mem_append_right _ (List.mem_append_right _ (List.mem_append_left _ (List.mem_of_getElem? (i := 12) rfl)))), rfl⟩
theorem kc_X0_hasIt : Cond.code yX0_hasIt cX0_hasIt 8 (some .boolean) ∈ bigW := List.mem_filter.mpr ⟨List.mem_append_right _ (List.mem_append_right _ (List.mem_append_right _ (List.mem_append_left _ (List.mem_of_getElem? (i := 13) rfl)))), rfl⟩
theorem km_X0_31 : Cond.methodLink RX0 31 yX6_meet ∈ bigW := List.mem_filter.mpr ⟨List.mem_append_right _ (List.mem_append_right _ (List.mem_append_right _ (List.mem_append_left _ (List.mem_of_getElem? (i := 14) rfl)))), rfl⟩
theorem km_X0_35 : Cond.methodLink RX0 35 yX0_winningMove ∈ bigW := List.mem_filter.mpr ⟨List.mem_append_right _ (List.mem_append_right _ (List.mem_append_right _ (List.mem_append_left _ (List.mem_of_getElem? (i := 15) rfl)))), rfl⟩
theorem ki_X0_winningMove : Cond.instanceMethod yX0_winningMove ∈ bigW := List.mem_filter.mpr ⟨List.mem_append_right _ (List.mem_append_right _ (List.mem_append_right _ (List.mem_append_left _ (List.mem_of_getElem? (i := 17) rfl)))), rfl⟩
theorem kc_X0_winningMove : Cond.code yX0_winningMove cX0_winningMove 11 (some .int) ∈ bigW := List.mem_filter.mpr ⟨List.mem_append_right _ (List.mem_append_right _ (List.mem_append_right _ (List.mem_append_left _ (List.mem_of_getElem? (i := 18) rfl)))), rfl⟩
theorem km_X0_39 : Cond.methodLink RX0 39 yX4_allMoves ∈ bigW := List.mem_filter.mpr ⟨List.mem_append_right _ (List.mem_append_right _ (List.mem_append_right _ (List.mem_append_left _ (List.mem_of_getElem? (i := 19) rfl)))), rfl⟩
theorem km_X0_45 : Cond.methodLink RX0 45 yJ13_bitCount_95d88 ∈ bigW := List.mem_filter.mpr ⟨List.mem_append_right _ (List.mem_append_right _ (List.mem_append_right _ (List.mem_append_left _ (List.mem_of_getElem? (i := 20) rfl)))), rfl⟩
theorem km_X0_51 : Cond.methodLink RX0 51 yX3_lowestMove ∈ bigW := List.mem_filter.mpr ⟨List.mem_append_right _ (List.mem_append_right _ (List.mem_append_right _ (List.mem_append_left _ (List.mem_of_getElem? (i := 21) rfl)))), rfl⟩
theorem km_X0_56 : Cond.methodLink RX0 56 yX3_at ∈ bigW := List.mem_filter.mpr ⟨List.mem_append_right _ (List.mem_append_right _ (List.mem_append_right _ (List.mem_append_left _ (List.mem_of_getElem? (i := 22) rfl)))), rfl⟩
theorem km_X0_60 : Cond.methodLink RX0 60 yX3_moved ∈ bigW := List.mem_filter.mpr ⟨List.mem_append_right _ (List.mem_append_right _ (List.mem_append_right _ (List.mem_append_left _ (List.mem_of_getElem? (i := 23) rfl)))), rfl⟩
theorem km_X0_63 : Cond.methodLink RX0 63 yX0_hasIt ∈ bigW := List.mem_filter.mpr ⟨List.mem_append_right _ (List.mem_append_right _ (List.mem_append_right _ (List.mem_append_left _ (List.mem_of_getElem? (i := 24) rfl)))), rfl⟩
theorem km_L_103 : Cond.methodLink RL 103 yX7_by ∈ bigW := List.mem_filter.mpr ⟨List.mem_append_right _ (List.mem_append_right _ (List.mem_append_right _ (List.mem_append_left _ (List.mem_of_getElem? (i := 25) rfl)))), rfl⟩
theorem ki_X7_by : Cond.instanceMethod yX7_by ∈ bigW := List.mem_filter.mpr ⟨List.mem_append_right _ (List.mem_append_right _ (List.mem_append_right _ (List.mem_append_left _ (List.mem_of_getElem? (i := 26) rfl)))), rfl⟩
theorem kv_X7_by : Cond.selects RX7 yX7_by yX7_by ∈ bigW := List.mem_filter.mpr ⟨List.mem_append_right _ (List.mem_append_right _ (List.mem_append_right _ (List.mem_append_left _ (List.mem_of_getElem? (i := 27) rfl)))), rfl⟩
theorem kc_X7_by : Cond.code yX7_by cX7_by 3 (some .int) ∈ bigW := List.mem_filter.mpr ⟨List.mem_append_right _ (List.mem_append_right _ (List.mem_append_right _ (List.mem_append_left _ (List.mem_of_getElem? (i := 28) rfl)))), rfl⟩
theorem km_L_107 : Cond.methodLink RL 107 yX7_play ∈ bigW := List.mem_filter.mpr ⟨List.mem_append_right _ (List.mem_append_right _ (List.mem_append_right _ (List.mem_append_left _ (List.mem_of_getElem? (i := 30) rfl)))), rfl⟩
theorem ki_X7_play : Cond.instanceMethod yX7_play ∈ bigW := List.mem_filter.mpr ⟨List.mem_append_right _ (List.mem_append_right _ (List.mem_append_right _ (List.mem_append_left _ (List.mem_of_getElem? (i := 31) rfl)))), rfl⟩
theorem kv_X7_play : Cond.selects RX7 yX7_play yX7_play ∈ bigW := List.mem_filter.mpr ⟨List.mem_append_right _ (List.mem_append_right _ (List.mem_append_right _ (List.mem_append_left _ (List.mem_of_getElem? (i := 32) rfl)))), rfl⟩
theorem kc_X7_play : Cond.code yX7_play cX7_play 10 (some .int) ∈ bigW := List.mem_filter.mpr ⟨List.mem_append_right _ (List.mem_append_right _ (List.mem_append_right _ (List.mem_append_left _ (List.mem_of_getElem? (i := 33) rfl)))), rfl⟩
theorem km_X7_225 : Cond.methodLink RX7 225 yX7_seedAfter ∈ bigW := List.mem_filter.mpr ⟨List.mem_append_right _ (List.mem_append_right _ (List.mem_append_right _ (List.mem_append_left _ (List.mem_of_getElem? (i := 34) rfl)))), rfl⟩
theorem ks_X7_seedAfter : Cond.static yX7_seedAfter ∈ bigW := List.mem_filter.mpr ⟨List.mem_append_right _ (List.mem_append_right _ (List.mem_append_right _ (List.mem_append_left _ (List.mem_of_getElem? (i := 35) rfl)))), rfl⟩
theorem kc_X7_seedAfter : Cond.code yX7_seedAfter cX7_seedAfter 1 (some .int) ∈ bigW := List.mem_filter.mpr ⟨List.mem_append_right _ (List.mem_append_right _ (List.mem_append_right _ (List.mem_append_left _ (List.mem_of_getElem? (i := 36) rfl)))), rfl⟩
theorem kk_X7_298 : Cond.constantLong RX7 298 (1103515245) ∈ bigW := List.mem_filter.mpr ⟨List.mem_append_right _ (List.mem_append_right _ (List.mem_append_right _ (List.mem_append_left _ (List.mem_of_getElem? (i := 37) rfl)))), rfl⟩
theorem kk_X7_300 : Cond.constantLong RX7 300 (12345) ∈ bigW := List.mem_filter.mpr ⟨List.mem_append_right _ (List.mem_append_right _ (List.mem_append_right _ (List.mem_append_left _ (List.mem_of_getElem? (i := 38) rfl)))), rfl⟩
theorem kk_X7_302 : Cond.constantLong RX7 302 (2147483647) ∈ bigW := List.mem_filter.mpr ⟨List.mem_append_right _ (List.mem_append_right _ (List.mem_append_right _ (List.mem_append_left _ (List.mem_of_getElem? (i := 39) rfl)))), rfl⟩
theorem km_X7_228 : Cond.methodLink RX7 228 yX7_drawOf ∈ bigW := List.mem_filter.mpr ⟨List.mem_append_right _ (List.mem_append_right _ (List.mem_append_right _ (List.mem_append_left _ (List.mem_of_getElem? (i := 40) rfl)))), rfl⟩
theorem ks_X7_drawOf : Cond.static yX7_drawOf ∈ bigW := List.mem_filter.mpr ⟨List.mem_append_right _ (List.mem_append_right _ (List.mem_append_right _ (List.mem_append_left _ (List.mem_of_getElem? (i := 41) rfl)))), rfl⟩
theorem kc_X7_drawOf : Cond.code yX7_drawOf cX7_drawOf 2 (some .int) ∈ bigW := List.mem_filter.mpr ⟨List.mem_append_right _ (List.mem_append_right _ (List.mem_append_right _ (List.mem_append_left _ (List.mem_of_getElem? (i := 42) rfl)))), rfl⟩
theorem kk_X7_304 : Cond.constant RX7 304 (65536) ∈ bigW := List.mem_filter.mpr ⟨List.mem_append_right _ (List.mem_append_right _ (List.mem_append_right _ (List.mem_append_left _ (List.mem_of_getElem? (i := 43) rfl)))), rfl⟩
theorem km_X7_231 : Cond.methodLink RX7 231 yX7_moveOfNumber ∈ bigW := List.mem_filter.mpr ⟨List.mem_append_right _ (List.mem_append_right _ (List.mem_append_right _ (List.mem_append_left _ (List.mem_of_getElem? (i := 44) rfl)))), rfl⟩
theorem ks_X7_moveOfNumber : Cond.static yX7_moveOfNumber ∈ bigW := List.mem_filter.mpr ⟨List.mem_append_right _ (List.mem_append_right _ (List.mem_append_right _ (List.mem_append_left _ (List.mem_of_getElem? (i := 45) rfl)))), rfl⟩
theorem kc_X7_moveOfNumber : Cond.code yX7_moveOfNumber cX7_moveOfNumber 6 (some .int) ∈ bigW := List.mem_filter.mpr ⟨List.mem_append_right _ (List.mem_append_right _ (List.mem_append_right _ (List.mem_append_left _ (List.mem_of_getElem? (i := 46) rfl)))), rfl⟩
theorem km_L_112 : Cond.methodLink RL 112 yX7_image ∈ bigW := List.mem_filter.mpr ⟨List.mem_append_right _ (List.mem_append_right _ (List.mem_append_right _ (List.mem_append_left _ (List.mem_of_getElem? (i := 47) rfl)))), rfl⟩
theorem ki_X7_image : Cond.instanceMethod yX7_image ∈ bigW := List.mem_filter.mpr ⟨List.mem_append_right _ (List.mem_append_right _ (List.mem_append_right _ (List.mem_append_left _ (List.mem_of_getElem? (i := 48) rfl)))), rfl⟩
theorem kv_X7_image : Cond.selects RX7 yX7_image yX7_image ∈ bigW := List.mem_filter.mpr ⟨List.mem_append_right _ (List.mem_append_right _ (List.mem_append_right _ (List.mem_append_left _ (List.mem_of_getElem? (i := 49) rfl)))), rfl⟩
theorem kc_X7_image : Cond.code yX7_image cX7_image 1 (some .int) ∈ bigW := List.mem_filter.mpr ⟨List.mem_append_right _ (List.mem_append_right _ (List.mem_append_right _ (List.mem_append_left _ (List.mem_of_getElem? (i := 50) rfl)))), rfl⟩
theorem km_X7_238 : Cond.methodLink RX7 238 yX2_copy ∈ bigW := List.mem_filter.mpr ⟨List.mem_append_right _ (List.mem_append_right _ (List.mem_append_right _ (List.mem_append_left _ (List.mem_of_getElem? (i := 51) rfl)))), rfl⟩
theorem ki_X2_copy : Cond.instanceMethod yX2_copy ∈ bigW := List.mem_filter.mpr ⟨List.mem_append_right _ (List.mem_append_right _ (List.mem_append_right _ (List.mem_append_left _ (List.mem_of_getElem? (i := 52) rfl)))), rfl⟩
theorem kv_X2_copy : Cond.selects RX2 yX2_copy yX2_copy ∈ bigW := List.mem_filter.mpr ⟨List.mem_append_right _ (List.mem_append_right _ (List.mem_append_right _ (List.mem_append_left _ (List.mem_of_getElem? (i := 53) rfl)))), rfl⟩
theorem kc_X2_copy : Cond.code yX2_copy cX2_copy 3 none ∈ bigW := List.mem_filter.mpr ⟨List.mem_append_right _ (List.mem_append_right _ (List.mem_append_right _ (List.mem_append_left _ (List.mem_of_getElem? (i := 54) rfl)))), rfl⟩
theorem km_L_116 : Cond.methodLink RL 116 yX7_restore ∈ bigW := List.mem_filter.mpr ⟨List.mem_append_right _ (List.mem_append_right _ (List.mem_append_right _ (List.mem_append_left _ (List.mem_of_getElem? (i := 55) rfl)))), rfl⟩
theorem ki_X7_restore : Cond.instanceMethod yX7_restore ∈ bigW := List.mem_filter.mpr ⟨List.mem_append_right _ (List.mem_append_right _ (List.mem_append_right _ (List.mem_append_left _ (List.mem_of_getElem? (i := 56) rfl)))), rfl⟩
theorem kv_X7_restore : Cond.selects RX7 yX7_restore yX7_restore ∈ bigW := List.mem_filter.mpr ⟨List.mem_append_right _ (List.mem_append_right _ (List.mem_append_right _ (List.mem_append_left _ (List.mem_of_getElem? (i := 57) rfl)))), rfl⟩
theorem kc_X7_restore : Cond.code yX7_restore cX7_restore 1 (some .int) ∈ bigW := List.mem_filter.mpr ⟨List.mem_append_right _ (List.mem_append_right _ (List.mem_append_right _ (List.mem_append_left _ (List.mem_of_getElem? (i := 58) rfl)))), rfl⟩
theorem km_L_120 : Cond.methodLink RL 120 yX7_count ∈ bigW := List.mem_filter.mpr ⟨List.mem_append_right _ (List.mem_append_right _ (List.mem_append_right _ (List.mem_append_left _ (List.mem_of_getElem? (i := 59) rfl)))), rfl⟩
theorem ki_X7_count : Cond.instanceMethod yX7_count ∈ bigW := List.mem_filter.mpr ⟨List.mem_append_right _ (List.mem_append_right _ (List.mem_append_right _ (List.mem_append_left _ (List.mem_of_getElem? (i := 60) rfl)))), rfl⟩
theorem kv_X7_count : Cond.selects RX7 yX7_count yX7_count ∈ bigW := List.mem_filter.mpr ⟨List.mem_append_right _ (List.mem_append_right _ (List.mem_append_right _ (List.mem_append_left _ (List.mem_of_getElem? (i := 61) rfl)))), rfl⟩
theorem kc_X7_count : Cond.code yX7_count cX7_count 2 (some .int) ∈ bigW := List.mem_filter.mpr ⟨List.mem_append_right _ (List.mem_append_right _ (List.mem_append_right _ (List.mem_append_left _ (List.mem_of_getElem? (i := 62) rfl)))), rfl⟩
theorem km_X7_242 : Cond.methodLink RX7 242 yX4_has ∈ bigW := List.mem_filter.mpr ⟨List.mem_append_right _ (List.mem_append_right _ (List.mem_append_right _ (List.mem_append_left _ (List.mem_of_getElem? (i := 63) rfl)))), rfl⟩
theorem km_L_124 : Cond.methodLink RL 124 yX7_digest ∈ bigW := List.mem_filter.mpr ⟨List.mem_append_right _ (List.mem_append_right _ (List.mem_append_right _ (List.mem_append_left _ (List.mem_of_getElem? (i := 64) rfl)))), rfl⟩
theorem ki_X7_digest : Cond.instanceMethod yX7_digest ∈ bigW := List.mem_filter.mpr ⟨List.mem_append_right _ (List.mem_append_right _ (List.mem_append_right _ (List.mem_append_left _ (List.mem_of_getElem? (i := 65) rfl)))), rfl⟩
theorem kv_X7_digest : Cond.selects RX7 yX7_digest yX7_digest ∈ bigW := List.mem_filter.mpr ⟨List.mem_append_right _ (List.mem_append_right _ (List.mem_append_right _ (List.mem_append_left _ (List.mem_of_getElem? (i := 66) rfl)))), rfl⟩
theorem kc_X7_digest : Cond.code yX7_digest cX7_digest 5 (some .long) ∈ bigW := List.mem_filter.mpr ⟨List.mem_append_right _ (List.mem_append_right _ (List.mem_append_right _ (List.mem_append_left _ (List.mem_of_getElem? (i := 67) rfl)))), rfl⟩
theorem kk_X7_245 : Cond.constantLong RX7 245 (613) ∈ bigW := List.mem_filter.mpr ⟨List.mem_append_right _ (List.mem_append_right _ (List.mem_append_right _ (List.mem_append_left _ (List.mem_of_getElem? (i := 68) rfl)))), rfl⟩
theorem kk_X7_247 : Cond.constantLong RX7 247 (31) ∈ bigW := List.mem_filter.mpr ⟨List.mem_append_right _ (List.mem_append_right _ (List.mem_append_right _ (List.mem_append_left _ (List.mem_of_getElem? (i := 69) rfl)))), rfl⟩
theorem km_X7_249 : Cond.methodLink RX7 249 yX7_on ∈ bigW := List.mem_filter.mpr ⟨List.mem_append_right _ (List.mem_append_right _ (List.mem_append_right _ (List.mem_append_left _ (List.mem_of_getElem? (i := 70) rfl)))), rfl⟩
theorem km_X7_252 : Cond.methodLink RX7 252 yX7_frog ∈ bigW := List.mem_filter.mpr ⟨List.mem_append_right _ (List.mem_append_right _ (List.mem_append_right _ (List.mem_append_left _ (List.mem_of_getElem? (i := 71) rfl)))), rfl⟩
theorem km_X7_255 : Cond.methodLink RX7 255 yX7_about ∈ bigW := List.mem_filter.mpr ⟨List.mem_append_right _ (List.mem_append_right _ (List.mem_append_right _ (List.mem_append_left _ (List.mem_of_getElem? (i := 72) rfl)))), rfl⟩
theorem km_X7_258 : Cond.methodLink RX7 258 yX7_moves ∈ bigW := List.mem_filter.mpr ⟨List.mem_append_right _ (List.mem_append_right _ (List.mem_append_right _ (List.mem_append_left _ (List.mem_of_getElem? (i := 73) rfl)))), rfl⟩
theorem km_X7_261 : Cond.methodLink RX7 261 yX7_fewest ∈ bigW := List.mem_filter.mpr ⟨List.mem_append_right _ (List.mem_append_right _ (List.mem_append_right _ (List.mem_append_left _ (List.mem_of_getElem? (i := 74) rfl)))), rfl⟩
theorem km_X7_264 : Cond.methodLink RX7 264 yX7_ways ∈ bigW := List.mem_filter.mpr ⟨List.mem_append_right _ (List.mem_append_right _ (List.mem_append_right _ (List.mem_append_left _ (List.mem_of_getElem? (i := 75) rfl)))), rfl⟩
theorem km_X7_267 : Cond.methodLink RX7 267 yX7_wrong ∈ bigW := List.mem_filter.mpr ⟨List.mem_append_right _ (List.mem_append_right _ (List.mem_append_right _ (List.mem_append_left _ (List.mem_of_getElem? (i := 76) rfl)))), rfl⟩
theorem km_X7_270 : Cond.methodLink RX7 270 yX7_ends ∈ bigW := List.mem_filter.mpr ⟨List.mem_append_right _ (List.mem_append_right _ (List.mem_append_right _ (List.mem_append_left _ (List.mem_of_getElem? (i := 77) rfl)))), rfl⟩
theorem km_X7_273 : Cond.methodLink RX7 273 yX7_soon ∈ bigW := List.mem_filter.mpr ⟨List.mem_append_right _ (List.mem_append_right _ (List.mem_append_right _ (List.mem_append_left _ (List.mem_of_getElem? (i := 78) rfl)))), rfl⟩
theorem km_X7_276 : Cond.methodLink RX7 276 yX7_wins ∈ bigW := List.mem_filter.mpr ⟨List.mem_append_right _ (List.mem_append_right _ (List.mem_append_right _ (List.mem_append_left _ (List.mem_of_getElem? (i := 79) rfl)))), rfl⟩
theorem km_X7_283 : Cond.methodLink RX7 283 yX7_count ∈ bigW := List.mem_filter.mpr ⟨List.mem_append_right _ (List.mem_append_right _ (List.mem_append_right _ (List.mem_append_left _ (List.mem_of_getElem? (i := 80) rfl)))), rfl⟩
theorem kq_L_10 : Cond.classLink RL 10 RX8 ∈ bigW := List.mem_filter.mpr ⟨List.mem_append_right _ (List.mem_append_right _ (List.mem_append_right _ (List.mem_append_left _ (List.mem_of_getElem? (i := 81) rfl)))), rfl⟩
theorem kz_X8 : Cond.instantiable RX8 39 ∈ bigW := List.mem_filter.mpr ⟨List.mem_append_right _ (List.mem_append_right _ (List.mem_append_right _ (List.mem_append_left _ (List.mem_of_getElem? (i := 82) rfl)))), rfl⟩
theorem km_L_12 : Cond.methodLink RL 12 yX8_init ∈ bigW := List.mem_filter.mpr ⟨List.mem_append_right _ (List.mem_append_right _ (List.mem_append_right _ (List.mem_append_left _ (List.mem_of_getElem? (i := 83) rfl)))), rfl⟩
theorem ki_X8_init : Cond.instanceMethod yX8_init ∈ bigW := List.mem_filter.mpr ⟨List.mem_append_right _ (List.mem_append_right _ (List.mem_append_right _ (List.mem_append_left _ (List.mem_of_getElem? (i := 84) rfl)))), rfl⟩
theorem kc_X8_init : Cond.code yX8_init cX8_init 1 none ∈ bigW := List.mem_filter.mpr ⟨List.mem_append_right _ (List.mem_append_right _ (List.mem_append_right _ (List.mem_append_left _ (List.mem_of_getElem? (i := 85) rfl)))), rfl⟩
theorem km_X8_1 : Cond.methodLink RX8 1 objectInit ∈ bigW := List.mem_filter.mpr ⟨List.mem_append_right _ (List.mem_append_right _ (List.mem_append_right _ (List.mem_append_left _ (List.mem_of_getElem? (i := 86) rfl)))), rfl⟩
theorem kk_X8_38 : Cond.constant RX8 38 (78125) ∈ bigW := List.mem_filter.mpr ⟨List.mem_append_right _ (List.mem_append_right _ (List.mem_append_right _ (List.mem_append_left _ (List.mem_of_getElem? (i := 87) rfl)))), rfl⟩
theorem kf_X8_93 : Cond.fieldLink RX8 93 (TX8 0).1 (TX8 0).2.1 (TX8 0).2.2.1 ∈ bigW := List.mem_filter.mpr ⟨List.mem_append_right _ (List.mem_append_right _ (List.mem_append_right _ (List.mem_append_left _ (List.mem_of_getElem? (i := 88) rfl)))), rfl⟩
theorem kf_X8_96 : Cond.fieldLink RX8 96 (TX8 1).1 (TX8 1).2.1 (TX8 1).2.2.1 ∈ bigW := List.mem_filter.mpr ⟨List.mem_append_right _ (List.mem_append_right _ (List.mem_append_right _ (List.mem_append_left _ (List.mem_of_getElem? (i := 89) rfl)))), rfl⟩
theorem kf_X8_99 : Cond.fieldLink RX8 99 (TX8 2).1 (TX8 2).2.1 (TX8 2).2.2.1 ∈ bigW := List.mem_filter.mpr ⟨List.mem_append_right _ (List.mem_append_right _ (List.mem_append_right _ (List.mem_append_left _ (List.mem_of_getElem? (i := 90) rfl)))), rfl⟩
theorem kf_X8_102 : Cond.fieldLink RX8 102 (TX8 3).1 (TX8 3).2.1 (TX8 3).2.2.1 ∈ bigW := List.mem_filter.mpr ⟨List.mem_append_right _ (List.mem_append_right _ (List.mem_append_right _ (List.mem_append_left _ (List.mem_of_getElem? (i := 91) rfl)))), rfl⟩
theorem kf_X8_105 : Cond.fieldLink RX8 105 (TX8 4).1 (TX8 4).2.1 (TX8 4).2.2.1 ∈ bigW := List.mem_filter.mpr ⟨List.mem_append_right _ (List.mem_append_right _ (List.mem_append_right _ (List.mem_append_left _ (List.mem_of_getElem? (i := 92) rfl)))), rfl⟩
theorem kf_X8_114 : Cond.fieldLink RX8 114 (TX8 5).1 (TX8 5).2.1 (TX8 5).2.2.1 ∈ bigW := List.mem_filter.mpr ⟨List.mem_append_right _ (List.mem_append_right _ (List.mem_append_right _ (List.mem_append_left _ (List.mem_of_getElem? (i := 93) rfl)))), rfl⟩
theorem kf_X8_7 : Cond.fieldLink RX8 7 (TX8 6).1 (TX8 6).2.1 (TX8 6).2.2.1 ∈ bigW := List.mem_filter.mpr ⟨List.mem_append_right _ (List.mem_append_right _ (List.mem_append_right _ (List.mem_append_left _ (List.mem_of_getElem? (i := 94) rfl)))), rfl⟩
theorem kf_X8_13 : Cond.fieldLink RX8 13 (TX8 7).1 (TX8 7).2.1 (TX8 7).2.2.1 ∈ bigW := List.mem_filter.mpr ⟨List.mem_append_right _ (List.mem_append_right _ (List.mem_append_right _ (List.mem_append_left _ (List.mem_of_getElem? (i := 95) rfl)))), rfl⟩
theorem kf_X8_16 : Cond.fieldLink RX8 16 (TX8 8).1 (TX8 8).2.1 (TX8 8).2.2.1 ∈ bigW := List.mem_filter.mpr ⟨List.mem_append_right _ (List.mem_append_right _ (List.mem_append_right _ (List.mem_append_left _ (List.mem_of_getElem? (i := 96) rfl)))), rfl⟩
theorem kf_X8_108 : Cond.fieldLink RX8 108 (TX8 9).1 (TX8 9).2.1 (TX8 9).2.2.1 ∈ bigW := List.mem_filter.mpr ⟨List.mem_append_right _ (List.mem_append_right _ (List.mem_append_right _ (List.mem_append_left _ (List.mem_of_getElem? (i := 97) rfl)))), rfl⟩
theorem kf_X8_19 : Cond.fieldLink RX8 19 (TX8 10).1 (TX8 10).2.1 (TX8 10).2.2.1 ∈ bigW := List.mem_filter.mpr ⟨List.mem_append_right _ (List.mem_append_right _ (List.mem_append_right _ (List.mem_append_left _ (List.mem_of_getElem? (i := 98) rfl)))), rfl⟩
theorem kf_X8_111 : Cond.fieldLink RX8 111 (TX8 11).1 (TX8 11).2.1 (TX8 11).2.2.1 ∈ bigW := List.mem_filter.mpr ⟨List.mem_append_right _ (List.mem_append_right _ (List.mem_append_right _ (List.mem_append_left _ (List.mem_of_getElem? (i := 99) rfl)))), rfl⟩
theorem kf_X8_22 : Cond.fieldLink RX8 22 (TX8 12).1 (TX8 12).2.1 (TX8 12).2.2.1 ∈ bigW := List.mem_filter.mpr ⟨List.mem_append_right _ (List.mem_append_right _ (List.mem_append_right _ (List.mem_append_left _ (List.mem_of_getElem? (i := 100) rfl)))), rfl⟩
theorem kf_X8_25 : Cond.fieldLink RX8 25 (TX8 13).1 (TX8 13).2.1 (TX8 13).2.2.1 ∈ bigW := List.mem_filter.mpr ⟨List.mem_append_right _ (List.mem_append_right _ (List.mem_append_right _ (List.mem_append_left _ (List.mem_of_getElem? (i := 101) rfl)))), rfl⟩
theorem kf_X8_66 : Cond.fieldLink RX8 66 (TX8 14).1 (TX8 14).2.1 (TX8 14).2.2.1 ∈ bigW := List.mem_filter.mpr ⟨List.mem_append_right _ (List.mem_append_right _ (List.mem_append_right _ (List.mem_append_left _ (List.mem_of_getElem? (i := 102) rfl)))), rfl⟩
theorem kf_X8_28 : Cond.fieldLink RX8 28 (TX8 15).1 (TX8 15).2.1 (TX8 15).2.2.1 ∈ bigW := List.mem_filter.mpr ⟨List.mem_append_right _ (List.mem_append_right _ (List.mem_append_right _ (List.mem_append_left _ (List.mem_of_getElem? (i := 103) rfl)))), rfl⟩
theorem kf_X8_83 : Cond.fieldLink RX8 83 (TX8 16).1 (TX8 16).2.1 (TX8 16).2.2.1 ∈ bigW := List.mem_filter.mpr ⟨List.mem_append_right _ (List.mem_append_right _ (List.mem_append_right _ (List.mem_append_left _ (List.mem_of_getElem? (i := 104) rfl)))), rfl⟩
theorem kf_X8_86 : Cond.fieldLink RX8 86 (TX8 17).1 (TX8 17).2.1 (TX8 17).2.2.1 ∈ bigW := List.mem_filter.mpr ⟨List.mem_append_right _ (List.mem_append_right _ (List.mem_append_right _ (List.mem_append_left _ (List.mem_of_getElem? (i := 105) rfl)))), rfl⟩
theorem kf_X8_70 : Cond.fieldLink RX8 70 (TX8 18).1 (TX8 18).2.1 (TX8 18).2.2.1 ∈ bigW := List.mem_filter.mpr ⟨List.mem_append_right _ (List.mem_append_right _ (List.mem_append_right _ (List.mem_append_left _ (List.mem_of_getElem? (i := 106) rfl)))), rfl⟩
theorem kf_X8_73 : Cond.fieldLink RX8 73 (TX8 19).1 (TX8 19).2.1 (TX8 19).2.2.1 ∈ bigW := List.mem_filter.mpr ⟨List.mem_append_right _ (List.mem_append_right _ (List.mem_append_right _ (List.mem_append_left _ (List.mem_of_getElem? (i := 107) rfl)))), rfl⟩
theorem kf_X8_32 : Cond.fieldLink RX8 32 (TX8 20).1 (TX8 20).2.1 (TX8 20).2.2.1 ∈ bigW := List.mem_filter.mpr ⟨List.mem_append_right _ (List.mem_append_right _ (List.mem_append_right _ (List.mem_append_left _ (List.mem_of_getElem? (i := 108) rfl)))), rfl⟩
theorem kf_X8_135 : Cond.fieldLink RX8 135 (TX8 21).1 (TX8 21).2.1 (TX8 21).2.2.1 ∈ bigW := List.mem_filter.mpr ⟨List.mem_append_right _ (List.mem_append_right _ (List.mem_append_right _ (List.mem_append_left _ (List.mem_of_getElem? (i := 109) rfl)))), rfl⟩
theorem kf_X8_35 : Cond.fieldLink RX8 35 (TX8 22).1 (TX8 22).2.1 (TX8 22).2.2.1 ∈ bigW := List.mem_filter.mpr ⟨List.mem_append_right _ (List.mem_append_right _ (List.mem_append_right _ (List.mem_append_left _ (List.mem_of_getElem? (i := 110) rfl)))), rfl⟩
theorem kf_X8_39 : Cond.fieldLink RX8 39 (TX8 23).1 (TX8 23).2.1 (TX8 23).2.2.1 ∈ bigW := List.mem_filter.mpr ⟨List.mem_append_right _ (List.mem_append_right _ (List.mem_append_right _ (List.mem_append_left _ (List.mem_of_getElem? (i := 111) rfl)))), rfl⟩
theorem kf_X8_42 : Cond.fieldLink RX8 42 (TX8 24).1 (TX8 24).2.1 (TX8 24).2.2.1 ∈ bigW := List.mem_filter.mpr ⟨List.mem_append_right _ (List.mem_append_right _ (List.mem_append_right _ (List.mem_append_left _ (List.mem_of_getElem? (i := 112) rfl)))), rfl⟩
theorem kf_X8_46 : Cond.fieldLink RX8 46 (TX8 25).1 (TX8 25).2.1 (TX8 25).2.2.1 ∈ bigW := List.mem_filter.mpr ⟨List.mem_append_right _ (List.mem_append_right _ (List.mem_append_right _ (List.mem_append_left _ (List.mem_of_getElem? (i := 113) rfl)))), rfl⟩
theorem kf_X8_168 : Cond.fieldLink RX8 168 (TX8 26).1 (TX8 26).2.1 (TX8 26).2.2.1 ∈ bigW := List.mem_filter.mpr ⟨List.mem_append_right _ (List.mem_append_right _ (List.mem_append_right _ (List.mem_append_left _ (List.mem_of_getElem? (i := 114) rfl)))), rfl⟩
theorem kf_X8_209 : Cond.fieldLink RX8 209 (TX8 27).1 (TX8 27).2.1 (TX8 27).2.2.1 ∈ bigW := List.mem_filter.mpr ⟨List.mem_append_right _ (List.mem_append_right _ (List.mem_append_right _ (List.mem_append_left _ (List.mem_of_getElem? (i := 115) rfl)))), rfl⟩
theorem kf_X8_212 : Cond.fieldLink RX8 212 (TX8 28).1 (TX8 28).2.1 (TX8 28).2.2.1 ∈ bigW := List.mem_filter.mpr ⟨List.mem_append_right _ (List.mem_append_right _ (List.mem_append_right _ (List.mem_append_left _ (List.mem_of_getElem? (i := 116) rfl)))), rfl⟩
theorem kf_X8_49 : Cond.fieldLink RX8 49 (TX8 29).1 (TX8 29).2.1 (TX8 29).2.2.1 ∈ bigW := List.mem_filter.mpr ⟨List.mem_append_right _ (List.mem_append_right _ (List.mem_append_right _ (List.mem_append_left _ (List.mem_of_getElem? (i := 117) rfl)))), rfl⟩
theorem kf_X8_251 : Cond.fieldLink RX8 251 (TX8 30).1 (TX8 30).2.1 (TX8 30).2.2.1 ∈ bigW := List.mem_filter.mpr ⟨List.mem_append_right _ (List.mem_append_right _ (List.mem_append_right _ (List.mem_append_left _ (List.mem_of_getElem? (i := 118) rfl)))), rfl⟩
theorem kf_X8_271 : Cond.fieldLink RX8 271 (TX8 31).1 (TX8 31).2.1 (TX8 31).2.2.1 ∈ bigW := List.mem_filter.mpr ⟨List.mem_append_right _ (List.mem_append_right _ (List.mem_append_right _ (List.mem_append_left _ (List.mem_of_getElem? (i := 119) rfl)))), rfl⟩
theorem kf_X8_274 : Cond.fieldLink RX8 274 (TX8 32).1 (TX8 32).2.1 (TX8 32).2.2.1 ∈ bigW := List.mem_filter.mpr ⟨List.mem_append_right _ (List.mem_append_right _ (List.mem_append_right _ (List.mem_append_left _ (List.mem_of_getElem? (i := 120) rfl)))), rfl⟩
theorem kf_X8_277 : Cond.fieldLink RX8 277 (TX8 33).1 (TX8 33).2.1 (TX8 33).2.2.1 ∈ bigW := List.mem_filter.mpr ⟨List.mem_append_right _ (List.mem_append_right _ (List.mem_append_right _ (List.mem_append_left _ (List.mem_of_getElem? (i := 121) rfl)))), rfl⟩
theorem kf_X8_52 : Cond.fieldLink RX8 52 (TX8 34).1 (TX8 34).2.1 (TX8 34).2.2.1 ∈ bigW := List.mem_filter.mpr ⟨List.mem_append_right _ (List.mem_append_right _ (List.mem_append_right _ (List.mem_append_left _ (List.mem_of_getElem? (i := 122) rfl)))), rfl⟩
theorem kf_X8_55 : Cond.fieldLink RX8 55 (TX8 35).1 (TX8 35).2.1 (TX8 35).2.2.1 ∈ bigW := List.mem_filter.mpr ⟨List.mem_append_right _ (List.mem_append_right _ (List.mem_append_right _ (List.mem_append_left _ (List.mem_of_getElem? (i := 123) rfl)))), rfl⟩
theorem kf_X8_58 : Cond.fieldLink RX8 58 (TX8 36).1 (TX8 36).2.1 (TX8 36).2.2.1 ∈ bigW := List.mem_filter.mpr ⟨List.mem_append_right _ (List.mem_append_right _ (List.mem_append_right _ (List.mem_append_left _ (List.mem_of_getElem? (i := 124) rfl)))), rfl⟩
theorem kf_X8_61 : Cond.fieldLink RX8 61 (TX8 37).1 (TX8 37).2.1 (TX8 37).2.2.1 ∈ bigW := List.mem_filter.mpr ⟨List.mem_append_right _ (List.mem_append_right _ (List.mem_append_right _ (List.mem_append_left _ (List.mem_of_getElem? (i := 125) rfl)))), rfl⟩
theorem kf_X8_289 : Cond.fieldLink RX8 289 (TX8 38).1 (TX8 38).2.1 (TX8 38).2.2.1 ∈ bigW := List.mem_filter.mpr ⟨List.mem_append_right _ (List.mem_append_right _ (List.mem_append_right _ (List.mem_append_left _ (List.mem_of_getElem? (i := 126) rfl)))), rfl⟩
theorem km_L_19 : Cond.methodLink RL 19 yX8_letters ∈ bigW := List.mem_filter.mpr ⟨List.mem_append_right _ (List.mem_append_right _ (List.mem_append_right _ (List.mem_append_left _ (List.mem_of_getElem? (i := 208) rfl)))), rfl⟩
theorem ki_X8_letters : Cond.instanceMethod yX8_letters ∈ bigW := List.mem_filter.mpr ⟨List.mem_append_right _ (List.mem_append_right _ (List.mem_append_right _ (List.mem_append_left _ (List.mem_of_getElem? (i := 209) rfl)))), rfl⟩
theorem kv_X8_letters : Cond.selects RX8 yX8_letters yX8_letters ∈ bigW := List.mem_filter.mpr ⟨List.mem_append_right _ (List.mem_append_right _ (List.mem_append_right _ (List.mem_append_left _ (List.mem_of_getElem? (i := 210) rfl)))), rfl⟩
theorem kc_X8_letters : Cond.code yX8_letters cX8_letters 7 (some .int) ∈ bigW := List.mem_filter.mpr ⟨List.mem_append_right _ (List.mem_append_right _ (List.mem_append_right _ (List.mem_append_left _ (List.mem_of_getElem? (i := 211) rfl)))), rfl⟩
theorem kk_X8_64 : Cond.constantLong RX8 64 (255) ∈ bigW := List.mem_filter.mpr ⟨List.mem_append_right _ (List.mem_append_right _ (List.mem_append_right _ (List.mem_append_left _ (List.mem_of_getElem? (i := 212) rfl)))), rfl⟩
theorem km_L_24 : Cond.methodLink RL 24 yX8_blank ∈ bigW := List.mem_filter.mpr ⟨List.mem_append_right _ (List.mem_append_right _ (List.mem_append_right _ (List.mem_append_left _ (List.mem_of_getElem? (i := 213) rfl)))), rfl⟩
theorem ki_X8_blank : Cond.instanceMethod yX8_blank ∈ bigW := List.mem_filter.mpr ⟨List.mem_append_right _ (List.mem_append_right _ (List.mem_append_right _ (List.mem_append_left _ (List.mem_of_getElem? (i := 214) rfl)))), rfl⟩
theorem kv_X8_blank : Cond.selects RX8 yX8_blank yX8_blank ∈ bigW := List.mem_filter.mpr ⟨List.mem_append_right _ (List.mem_append_right _ (List.mem_append_right _ (List.mem_append_left _ (List.mem_of_getElem? (i := 215) rfl)))), rfl⟩
theorem kc_X8_blank : Cond.code yX8_blank cX8_blank 2 (some .int) ∈ bigW := List.mem_filter.mpr ⟨List.mem_append_right _ (List.mem_append_right _ (List.mem_append_right _ (List.mem_append_left _ (List.mem_of_getElem? (i := 216) rfl)))), rfl⟩
theorem km_L_28 : Cond.methodLink RL 28 yX8_fault ∈ bigW := List.mem_filter.mpr ⟨List.mem_append_right _ (List.mem_append_right _ (List.mem_append_right _ (List.mem_append_left _ (List.mem_of_getElem? (i := 217) rfl)))), rfl⟩
theorem ki_X8_fault : Cond.instanceMethod yX8_fault ∈ bigW := List.mem_filter.mpr ⟨List.mem_append_right _ (List.mem_append_right _ (List.mem_append_right _ (List.mem_append_left _ (List.mem_of_getElem? (i := 218) rfl)))), rfl⟩
theorem kv_X8_fault : Cond.selects RX8 yX8_fault yX8_fault ∈ bigW := List.mem_filter.mpr ⟨List.mem_append_right _ (List.mem_append_right _ (List.mem_append_right _ (List.mem_append_left _ (List.mem_of_getElem? (i := 219) rfl)))), rfl⟩
theorem kc_X8_fault : Cond.code yX8_fault cX8_fault 1 (some .int) ∈ bigW := List.mem_filter.mpr ⟨List.mem_append_right _ (List.mem_append_right _ (List.mem_append_right _ (List.mem_append_left _ (List.mem_of_getElem? (i := 220) rfl)))), rfl⟩
theorem km_X8_90 : Cond.methodLink RX8 90 yX8_readBrook ∈ bigW := List.mem_filter.mpr ⟨List.mem_append_right _ (List.mem_append_right _ (List.mem_append_right _ (List.mem_append_left _ (List.mem_of_getElem? (i := 221) rfl)))), rfl⟩
theorem ki_X8_readBrook : Cond.instanceMethod yX8_readBrook ∈ bigW := List.mem_filter.mpr ⟨List.mem_append_right _ (List.mem_append_right _ (List.mem_append_right _ (List.mem_append_left _ (List.mem_of_getElem? (i := 223) rfl)))), rfl⟩
theorem kc_X8_readBrook : Cond.code yX8_readBrook cX8_readBrook 6 none ∈ bigW := List.mem_filter.mpr ⟨List.mem_append_right _ (List.mem_append_right _ (List.mem_append_right _ (List.mem_append_left _ (List.mem_of_getElem? (i := 224) rfl)))), rfl⟩
theorem km_X8_76 : Cond.methodLink RX8 76 yX8_signBy ∈ bigW := List.mem_filter.mpr ⟨List.mem_append_right _ (List.mem_append_right _ (List.mem_append_right _ (List.mem_append_left _ (List.mem_of_getElem? (i := 225) rfl)))), rfl⟩
theorem ks_X8_signBy : Cond.static yX8_signBy ∈ bigW := List.mem_filter.mpr ⟨List.mem_append_right _ (List.mem_append_right _ (List.mem_append_right _ (List.mem_append_left _ (List.mem_of_getElem? (i := 226) rfl)))), rfl⟩
theorem kc_X8_signBy : Cond.code yX8_signBy cX8_signBy 1 (some .int) ∈ bigW := List.mem_filter.mpr ⟨List.mem_append_right _ (List.mem_append_right _ (List.mem_append_right _ (List.mem_append_left _ (List.mem_of_getElem? (i := 227) rfl)))), rfl⟩
theorem km_X8_80 : Cond.methodLink RX8 80 yX8_kindBy ∈ bigW := List.mem_filter.mpr ⟨List.mem_append_right _ (List.mem_append_right _ (List.mem_append_right _ (List.mem_append_left _ (List.mem_of_getElem? (i := 228) rfl)))), rfl⟩
theorem ks_X8_kindBy : Cond.static yX8_kindBy ∈ bigW := List.mem_filter.mpr ⟨List.mem_append_right _ (List.mem_append_right _ (List.mem_append_right _ (List.mem_append_left _ (List.mem_of_getElem? (i := 229) rfl)))), rfl⟩
theorem kc_X8_kindBy : Cond.code yX8_kindBy cX8_kindBy 1 (some .int) ∈ bigW := List.mem_filter.mpr ⟨List.mem_append_right _ (List.mem_append_right _ (List.mem_append_right _ (List.mem_append_left _ (List.mem_of_getElem? (i := 230) rfl)))), rfl⟩
theorem km_L_32 : Cond.methodLink RL 32 yX8_brook ∈ bigW := List.mem_filter.mpr ⟨List.mem_append_right _ (List.mem_append_right _ (List.mem_append_right _ (List.mem_append_left _ (List.mem_of_getElem? (i := 231) rfl)))), rfl⟩
theorem ki_X8_brook : Cond.instanceMethod yX8_brook ∈ bigW := List.mem_filter.mpr ⟨List.mem_append_right _ (List.mem_append_right _ (List.mem_append_right _ (List.mem_append_left _ (List.mem_of_getElem? (i := 232) rfl)))), rfl⟩
theorem kv_X8_brook : Cond.selects RX8 yX8_brook yX8_brook ∈ bigW := List.mem_filter.mpr ⟨List.mem_append_right _ (List.mem_append_right _ (List.mem_append_right _ (List.mem_append_left _ (List.mem_of_getElem? (i := 233) rfl)))), rfl⟩
theorem kc_X8_brook : Cond.code yX8_brook cX8_brook 2 (some .int) ∈ bigW := List.mem_filter.mpr ⟨List.mem_append_right _ (List.mem_append_right _ (List.mem_append_right _ (List.mem_append_left _ (List.mem_of_getElem? (i := 234) rfl)))), rfl⟩
theorem km_L_37 : Cond.methodLink RL 37 yX8_on ∈ bigW := List.mem_filter.mpr ⟨List.mem_append_right _ (List.mem_append_right _ (List.mem_append_right _ (List.mem_append_left _ (List.mem_of_getElem? (i := 235) rfl)))), rfl⟩
theorem ki_X8_on : Cond.instanceMethod yX8_on ∈ bigW := List.mem_filter.mpr ⟨List.mem_append_right _ (List.mem_append_right _ (List.mem_append_right _ (List.mem_append_left _ (List.mem_of_getElem? (i := 236) rfl)))), rfl⟩
theorem kv_X8_on : Cond.selects RX8 yX8_on yX8_on ∈ bigW := List.mem_filter.mpr ⟨List.mem_append_right _ (List.mem_append_right _ (List.mem_append_right _ (List.mem_append_left _ (List.mem_of_getElem? (i := 237) rfl)))), rfl⟩
theorem kc_X8_on : Cond.code yX8_on cX8_on 2 (some .int) ∈ bigW := List.mem_filter.mpr ⟨List.mem_append_right _ (List.mem_append_right _ (List.mem_append_right _ (List.mem_append_left _ (List.mem_of_getElem? (i := 238) rfl)))), rfl⟩
theorem km_X8_121 : Cond.methodLink RX8 121 yX8_isStone ∈ bigW := List.mem_filter.mpr ⟨List.mem_append_right _ (List.mem_append_right _ (List.mem_append_right _ (List.mem_append_left _ (List.mem_of_getElem? (i := 239) rfl)))), rfl⟩
theorem ki_X8_isStone : Cond.instanceMethod yX8_isStone ∈ bigW := List.mem_filter.mpr ⟨List.mem_append_right _ (List.mem_append_right _ (List.mem_append_right _ (List.mem_append_right _ (List.mem_append_left _ (List.mem_of_getElem? (i := 1) rfl))))), rfl⟩
theorem kc_X8_isStone : Cond.code yX8_isStone cX8_isStone 2 (some .boolean) ∈ bigW := List.mem_filter.mpr ⟨List.mem_append_right _ (List.mem_append_right _ (List.mem_append_right _ (List.mem_append_right _ (List.mem_append_left _ (List.mem_of_getElem? (i := 2) rfl))))), rfl⟩
theorem km_X8_117 : Cond.methodLink RX8 117 yX8_within ∈ bigW := List.mem_filter.mpr ⟨List.mem_append_right _ (List.mem_append_right _ (List.mem_append_right _ (List.mem_append_right _ (List.mem_append_left _ (List.mem_of_getElem? (i := 3) rfl))))), rfl⟩
theorem ks_X8_within : Cond.static yX8_within ∈ bigW := List.mem_filter.mpr ⟨List.mem_append_right _ (List.mem_append_right _ (List.mem_append_right _ (List.mem_append_right _ (List.mem_append_left _ (List.mem_of_getElem? (i := 4) rfl))))), rfl⟩
theorem kc_X8_within : Cond.code yX8_within cX8_within 3 (some .boolean) ∈ bigW := List.mem_filter.mpr ⟨List.mem_append_right _ (List.mem_append_right _ (List.mem_append_right _ (List.mem_append_right _ (List.mem_append_left _ (List.mem_of_getElem? (i := 5) rfl))))), rfl⟩
theorem km_L_41 : Cond.methodLink RL 41 yX8_frog ∈ bigW := List.mem_filter.mpr ⟨List.mem_append_right _ (List.mem_append_right _ (List.mem_append_right _ (List.mem_append_right _ (List.mem_append_left _ (List.mem_of_getElem? (i := 6) rfl))))), rfl⟩
theorem ki_X8_frog : Cond.instanceMethod yX8_frog ∈ bigW := List.mem_filter.mpr ⟨List.mem_append_right _ (List.mem_append_right _ (List.mem_append_right _ (List.mem_append_right _ (List.mem_append_left _ (List.mem_of_getElem? (i := 7) rfl))))), rfl⟩
theorem kv_X8_frog : Cond.selects RX8 yX8_frog yX8_frog ∈ bigW := List.mem_filter.mpr ⟨List.mem_append_right _ (List.mem_append_right _ (List.mem_append_right _ (List.mem_append_right _ (List.mem_append_left _ (List.mem_of_getElem? (i := 8) rfl))))), rfl⟩
theorem kc_X8_frog : Cond.code yX8_frog cX8_frog 2 (some .int) ∈ bigW := List.mem_filter.mpr ⟨List.mem_append_right _ (List.mem_append_right _ (List.mem_append_right _ (List.mem_append_right _ (List.mem_append_left _ (List.mem_of_getElem? (i := 9) rfl))))), rfl⟩
theorem km_L_46 : Cond.methodLink RL 46 yX8_about ∈ bigW := List.mem_filter.mpr ⟨List.mem_append_right _ (List.mem_append_right _ (List.mem_append_right _ (List.mem_append_right _ (List.mem_append_left _ (List.mem_of_getElem? (i := 10) rfl))))), rfl⟩
theorem ki_X8_about : Cond.instanceMethod yX8_about ∈ bigW := List.mem_filter.mpr ⟨List.mem_append_right _ (List.mem_append_right _ (List.mem_append_right _ (List.mem_append_right _ (List.mem_append_left _ (List.mem_of_getElem? (i := 11) rfl))))), rfl⟩
theorem kv_X8_about : Cond.selects RX8 yX8_about yX8_about ∈ bigW := List.mem_filter.mpr ⟨List.mem_append_right _ (List.mem_append_right _ (List.mem_append_right _ (List.mem_append_right _ (List.mem_append_left _ (List.mem_of_getElem? (i := 12) rfl))))), rfl⟩
theorem kc_X8_about : Cond.code yX8_about cX8_about 3 (some .int) ∈ bigW := List.mem_filter.mpr ⟨List.mem_append_right _ (List.mem_append_right _ (List.mem_append_right _ (List.mem_append_right _ (List.mem_append_left _ (List.mem_of_getElem? (i := 13) rfl))))), rfl⟩
theorem km_X8_131 : Cond.methodLink RX8 131 yX8_frogNow ∈ bigW := List.mem_filter.mpr ⟨List.mem_append_right _ (List.mem_append_right _ (List.mem_append_right _ (List.mem_append_right _ (List.mem_append_left _ (List.mem_of_getElem? (i := 14) rfl))))), rfl⟩
theorem ki_X8_frogNow : Cond.instanceMethod yX8_frogNow ∈ bigW := List.mem_filter.mpr ⟨List.mem_append_right _ (List.mem_append_right _ (List.mem_append_right _ (List.mem_append_right _ (List.mem_append_left _ (List.mem_of_getElem? (i := 16) rfl))))), rfl⟩
theorem kc_X8_frogNow : Cond.code yX8_frogNow cX8_frogNow 3 (some .int) ∈ bigW := List.mem_filter.mpr ⟨List.mem_append_right _ (List.mem_append_right _ (List.mem_append_right _ (List.mem_append_right _ (List.mem_append_left _ (List.mem_of_getElem? (i := 17) rfl))))), rfl⟩
theorem km_X8_125 : Cond.methodLink RX8 125 yX8_stoneOf ∈ bigW := List.mem_filter.mpr ⟨List.mem_append_right _ (List.mem_append_right _ (List.mem_append_right _ (List.mem_append_right _ (List.mem_append_left _ (List.mem_of_getElem? (i := 18) rfl))))), rfl⟩
theorem ki_X8_stoneOf : Cond.instanceMethod yX8_stoneOf ∈ bigW := List.mem_filter.mpr ⟨List.mem_append_right _ (List.mem_append_right _ (List.mem_append_right _ (List.mem_append_right _ (List.mem_append_left _ (List.mem_of_getElem? (i := 20) rfl))))), rfl⟩
theorem kc_X8_stoneOf : Cond.code yX8_stoneOf cX8_stoneOf 3 (some .int) ∈ bigW := List.mem_filter.mpr ⟨List.mem_append_right _ (List.mem_append_right _ (List.mem_append_right _ (List.mem_append_right _ (List.mem_append_left _ (List.mem_of_getElem? (i := 21) rfl))))), rfl⟩
theorem km_X8_128 : Cond.methodLink RX8 128 yX8_movedMany ∈ bigW := List.mem_filter.mpr ⟨List.mem_append_right _ (List.mem_append_right _ (List.mem_append_right _ (List.mem_append_right _ (List.mem_append_left _ (List.mem_of_getElem? (i := 22) rfl))))), rfl⟩
theorem ki_X8_movedMany : Cond.instanceMethod yX8_movedMany ∈ bigW := List.mem_filter.mpr ⟨List.mem_append_right _ (List.mem_append_right _ (List.mem_append_right _ (List.mem_append_right _ (List.mem_append_left _ (List.mem_of_getElem? (i := 24) rfl))))), rfl⟩
theorem kc_X8_movedMany : Cond.code yX8_movedMany cX8_movedMany 5 (some .int) ∈ bigW := List.mem_filter.mpr ⟨List.mem_append_right _ (List.mem_append_right _ (List.mem_append_right _ (List.mem_append_right _ (List.mem_append_left _ (List.mem_of_getElem? (i := 25) rfl))))), rfl⟩
theorem km_L_50 : Cond.methodLink RL 50 yX8_as ∈ bigW := List.mem_filter.mpr ⟨List.mem_append_right _ (List.mem_append_right _ (List.mem_append_right _ (List.mem_append_right _ (List.mem_append_left _ (List.mem_of_getElem? (i := 26) rfl))))), rfl⟩
theorem ki_X8_as : Cond.instanceMethod yX8_as ∈ bigW := List.mem_filter.mpr ⟨List.mem_append_right _ (List.mem_append_right _ (List.mem_append_right _ (List.mem_append_right _ (List.mem_append_left _ (List.mem_of_getElem? (i := 27) rfl))))), rfl⟩
theorem kv_X8_as : Cond.selects RX8 yX8_as yX8_as ∈ bigW := List.mem_filter.mpr ⟨List.mem_append_right _ (List.mem_append_right _ (List.mem_append_right _ (List.mem_append_right _ (List.mem_append_left _ (List.mem_of_getElem? (i := 28) rfl))))), rfl⟩
theorem kc_X8_as : Cond.code yX8_as cX8_as 4 (some .int) ∈ bigW := List.mem_filter.mpr ⟨List.mem_append_right _ (List.mem_append_right _ (List.mem_append_right _ (List.mem_append_right _ (List.mem_append_left _ (List.mem_of_getElem? (i := 29) rfl))))), rfl⟩
theorem km_L_54 : Cond.methodLink RL 54 yX8_may ∈ bigW := List.mem_filter.mpr ⟨List.mem_append_right _ (List.mem_append_right _ (List.mem_append_right _ (List.mem_append_right _ (List.mem_append_left _ (List.mem_of_getElem? (i := 30) rfl))))), rfl⟩
theorem ki_X8_may : Cond.instanceMethod yX8_may ∈ bigW := List.mem_filter.mpr ⟨List.mem_append_right _ (List.mem_append_right _ (List.mem_append_right _ (List.mem_append_right _ (List.mem_append_left _ (List.mem_of_getElem? (i := 31) rfl))))), rfl⟩
theorem kv_X8_may : Cond.selects RX8 yX8_may yX8_may ∈ bigW := List.mem_filter.mpr ⟨List.mem_append_right _ (List.mem_append_right _ (List.mem_append_right _ (List.mem_append_right _ (List.mem_append_left _ (List.mem_of_getElem? (i := 32) rfl))))), rfl⟩
theorem kc_X8_may : Cond.code yX8_may cX8_may 3 (some .int) ∈ bigW := List.mem_filter.mpr ⟨List.mem_append_right _ (List.mem_append_right _ (List.mem_append_right _ (List.mem_append_right _ (List.mem_append_left _ (List.mem_of_getElem? (i := 33) rfl))))), rfl⟩
theorem km_X8_151 : Cond.methodLink RX8 151 yX8_layNow ∈ bigW := List.mem_filter.mpr ⟨List.mem_append_right _ (List.mem_append_right _ (List.mem_append_right _ (List.mem_append_right _ (List.mem_append_left _ (List.mem_of_getElem? (i := 34) rfl))))), rfl⟩
theorem ki_X8_layNow : Cond.instanceMethod yX8_layNow ∈ bigW := List.mem_filter.mpr ⟨List.mem_append_right _ (List.mem_append_right _ (List.mem_append_right _ (List.mem_append_right _ (List.mem_append_left _ (List.mem_of_getElem? (i := 36) rfl))))), rfl⟩
theorem kc_X8_layNow : Cond.code yX8_layNow cX8_layNow 2 none ∈ bigW := List.mem_filter.mpr ⟨List.mem_append_right _ (List.mem_append_right _ (List.mem_append_right _ (List.mem_append_right _ (List.mem_append_left _ (List.mem_of_getElem? (i := 37) rfl))))), rfl⟩
theorem km_X8_154 : Cond.methodLink RX8 154 yX8_mayMove ∈ bigW := List.mem_filter.mpr ⟨List.mem_append_right _ (List.mem_append_right _ (List.mem_append_right _ (List.mem_append_right _ (List.mem_append_left _ (List.mem_of_getElem? (i := 38) rfl))))), rfl⟩
theorem ki_X8_mayMove : Cond.instanceMethod yX8_mayMove ∈ bigW := List.mem_filter.mpr ⟨List.mem_append_right _ (List.mem_append_right _ (List.mem_append_right _ (List.mem_append_right _ (List.mem_append_left _ (List.mem_of_getElem? (i := 40) rfl))))), rfl⟩
theorem kc_X8_mayMove : Cond.code yX8_mayMove cX8_mayMove 5 (some .boolean) ∈ bigW := List.mem_filter.mpr ⟨List.mem_append_right _ (List.mem_append_right _ (List.mem_append_right _ (List.mem_append_right _ (List.mem_append_left _ (List.mem_of_getElem? (i := 41) rfl))))), rfl⟩
theorem km_X8_138 : Cond.methodLink RX8 138 yX8_colour ∈ bigW := List.mem_filter.mpr ⟨List.mem_append_right _ (List.mem_append_right _ (List.mem_append_right _ (List.mem_append_right _ (List.mem_append_left _ (List.mem_of_getElem? (i := 42) rfl))))), rfl⟩
theorem ks_X8_colour : Cond.static yX8_colour ∈ bigW := List.mem_filter.mpr ⟨List.mem_append_right _ (List.mem_append_right _ (List.mem_append_right _ (List.mem_append_right _ (List.mem_append_left _ (List.mem_of_getElem? (i := 43) rfl))))), rfl⟩
theorem kc_X8_colour : Cond.code yX8_colour cX8_colour 1 (some .int) ∈ bigW := List.mem_filter.mpr ⟨List.mem_append_right _ (List.mem_append_right _ (List.mem_append_right _ (List.mem_append_right _ (List.mem_append_left _ (List.mem_of_getElem? (i := 44) rfl))))), rfl⟩
theorem km_X8_148 : Cond.methodLink RX8 148 yX8_mayWay ∈ bigW := List.mem_filter.mpr ⟨List.mem_append_right _ (List.mem_append_right _ (List.mem_append_right _ (List.mem_append_right _ (List.mem_append_left _ (List.mem_of_getElem? (i := 45) rfl))))), rfl⟩
theorem ki_X8_mayWay : Cond.instanceMethod yX8_mayWay ∈ bigW := List.mem_filter.mpr ⟨List.mem_append_right _ (List.mem_append_right _ (List.mem_append_right _ (List.mem_append_right _ (List.mem_append_left _ (List.mem_of_getElem? (i := 47) rfl))))), rfl⟩
theorem kc_X8_mayWay : Cond.code yX8_mayWay cX8_mayWay 8 (some .boolean) ∈ bigW := List.mem_filter.mpr ⟨List.mem_append_right _ (List.mem_append_right _ (List.mem_append_right _ (List.mem_append_right _ (List.mem_append_left _ (List.mem_of_getElem? (i := 48) rfl))))), rfl⟩
theorem km_X8_141 : Cond.methodLink RX8 141 yX8_besides ∈ bigW := List.mem_filter.mpr ⟨List.mem_append_right _ (List.mem_append_right _ (List.mem_append_right _ (List.mem_append_right _ (List.mem_append_left _ (List.mem_of_getElem? (i := 49) rfl))))), rfl⟩
theorem ki_X8_besides : Cond.instanceMethod yX8_besides ∈ bigW := List.mem_filter.mpr ⟨List.mem_append_right _ (List.mem_append_right _ (List.mem_append_right _ (List.mem_append_right _ (List.mem_append_left _ (List.mem_of_getElem? (i := 51) rfl))))), rfl⟩
theorem kc_X8_besides : Cond.code yX8_besides cX8_besides 4 (some .int) ∈ bigW := List.mem_filter.mpr ⟨List.mem_append_right _ (List.mem_append_right _ (List.mem_append_right _ (List.mem_append_right _ (List.mem_append_left _ (List.mem_of_getElem? (i := 52) rfl))))), rfl⟩
theorem km_X8_144 : Cond.methodLink RX8 144 yX8_mayOver ∈ bigW := List.mem_filter.mpr ⟨List.mem_append_right _ (List.mem_append_right _ (List.mem_append_right _ (List.mem_append_right _ (List.mem_append_left _ (List.mem_of_getElem? (i := 53) rfl))))), rfl⟩
theorem ki_X8_mayOver : Cond.instanceMethod yX8_mayOver ∈ bigW := List.mem_filter.mpr ⟨List.mem_append_right _ (List.mem_append_right _ (List.mem_append_right _ (List.mem_append_right _ (List.mem_append_left _ (List.mem_of_getElem? (i := 55) rfl))))), rfl⟩
theorem kc_X8_mayOver : Cond.code yX8_mayOver cX8_mayOver 3 (some .boolean) ∈ bigW := List.mem_filter.mpr ⟨List.mem_append_right _ (List.mem_append_right _ (List.mem_append_right _ (List.mem_append_right _ (List.mem_append_left _ (List.mem_of_getElem? (i := 56) rfl))))), rfl⟩
theorem km_L_58 : Cond.methodLink RL 58 yX8_moves ∈ bigW := List.mem_filter.mpr ⟨List.mem_append_right _ (List.mem_append_right _ (List.mem_append_right _ (List.mem_append_right _ (List.mem_append_left _ (List.mem_of_getElem? (i := 57) rfl))))), rfl⟩
theorem ki_X8_moves : Cond.instanceMethod yX8_moves ∈ bigW := List.mem_filter.mpr ⟨List.mem_append_right _ (List.mem_append_right _ (List.mem_append_right _ (List.mem_append_right _ (List.mem_append_left _ (List.mem_of_getElem? (i := 58) rfl))))), rfl⟩
theorem kv_X8_moves : Cond.selects RX8 yX8_moves yX8_moves ∈ bigW := List.mem_filter.mpr ⟨List.mem_append_right _ (List.mem_append_right _ (List.mem_append_right _ (List.mem_append_right _ (List.mem_append_left _ (List.mem_of_getElem? (i := 59) rfl))))), rfl⟩
theorem kc_X8_moves : Cond.code yX8_moves cX8_moves 1 (some .int) ∈ bigW := List.mem_filter.mpr ⟨List.mem_append_right _ (List.mem_append_right _ (List.mem_append_right _ (List.mem_append_right _ (List.mem_append_left _ (List.mem_of_getElem? (i := 60) rfl))))), rfl⟩
theorem km_X8_157 : Cond.methodLink RX8 157 yX8_moveMany ∈ bigW := List.mem_filter.mpr ⟨List.mem_append_right _ (List.mem_append_right _ (List.mem_append_right _ (List.mem_append_right _ (List.mem_append_left _ (List.mem_of_getElem? (i := 61) rfl))))), rfl⟩
theorem ki_X8_moveMany : Cond.instanceMethod yX8_moveMany ∈ bigW := List.mem_filter.mpr ⟨List.mem_append_right _ (List.mem_append_right _ (List.mem_append_right _ (List.mem_append_right _ (List.mem_append_left _ (List.mem_of_getElem? (i := 63) rfl))))), rfl⟩
theorem kc_X8_moveMany : Cond.code yX8_moveMany cX8_moveMany 4 (some .int) ∈ bigW := List.mem_filter.mpr ⟨List.mem_append_right _ (List.mem_append_right _ (List.mem_append_right _ (List.mem_append_right _ (List.mem_append_left _ (List.mem_of_getElem? (i := 64) rfl))))), rfl⟩
theorem km_L_62 : Cond.methodLink RL 62 yX8_move ∈ bigW := List.mem_filter.mpr ⟨List.mem_append_right _ (List.mem_append_right _ (List.mem_append_right _ (List.mem_append_right _ (List.mem_append_left _ (List.mem_of_getElem? (i := 65) rfl))))), rfl⟩
theorem ki_X8_move : Cond.instanceMethod yX8_move ∈ bigW := List.mem_filter.mpr ⟨List.mem_append_right _ (List.mem_append_right _ (List.mem_append_right _ (List.mem_append_right _ (List.mem_append_left _ (List.mem_of_getElem? (i := 66) rfl))))), rfl⟩
theorem kv_X8_move : Cond.selects RX8 yX8_move yX8_move ∈ bigW := List.mem_filter.mpr ⟨List.mem_append_right _ (List.mem_append_right _ (List.mem_append_right _ (List.mem_append_right _ (List.mem_append_left _ (List.mem_of_getElem? (i := 67) rfl))))), rfl⟩
theorem kc_X8_move : Cond.code yX8_move cX8_move 3 (some .int) ∈ bigW := List.mem_filter.mpr ⟨List.mem_append_right _ (List.mem_append_right _ (List.mem_append_right _ (List.mem_append_right _ (List.mem_append_left _ (List.mem_of_getElem? (i := 68) rfl))))), rfl⟩
theorem km_X8_161 : Cond.methodLink RX8 161 yX8_moveNow ∈ bigW := List.mem_filter.mpr ⟨List.mem_append_right _ (List.mem_append_right _ (List.mem_append_right _ (List.mem_append_right _ (List.mem_append_left _ (List.mem_of_getElem? (i := 69) rfl))))), rfl⟩
theorem ki_X8_moveNow : Cond.instanceMethod yX8_moveNow ∈ bigW := List.mem_filter.mpr ⟨List.mem_append_right _ (List.mem_append_right _ (List.mem_append_right _ (List.mem_append_right _ (List.mem_append_left _ (List.mem_of_getElem? (i := 71) rfl))))), rfl⟩
theorem kc_X8_moveNow : Cond.code yX8_moveNow cX8_moveNow 3 none ∈ bigW := List.mem_filter.mpr ⟨List.mem_append_right _ (List.mem_append_right _ (List.mem_append_right _ (List.mem_append_right _ (List.mem_append_left _ (List.mem_of_getElem? (i := 72) rfl))))), rfl⟩
theorem km_L_66 : Cond.methodLink RL 66 yX8_back ∈ bigW := List.mem_filter.mpr ⟨List.mem_append_right _ (List.mem_append_right _ (List.mem_append_right _ (List.mem_append_right _ (List.mem_append_left _ (List.mem_of_getElem? (i := 73) rfl))))), rfl⟩
theorem ki_X8_back : Cond.instanceMethod yX8_back ∈ bigW := List.mem_filter.mpr ⟨List.mem_append_right _ (List.mem_append_right _ (List.mem_append_right _ (List.mem_append_right _ (List.mem_append_left _ (List.mem_of_getElem? (i := 74) rfl))))), rfl⟩
theorem kv_X8_back : Cond.selects RX8 yX8_back yX8_back ∈ bigW := List.mem_filter.mpr ⟨List.mem_append_right _ (List.mem_append_right _ (List.mem_append_right _ (List.mem_append_right _ (List.mem_append_left _ (List.mem_of_getElem? (i := 75) rfl))))), rfl⟩
theorem kc_X8_back : Cond.code yX8_back cX8_back 1 (some .int) ∈ bigW := List.mem_filter.mpr ⟨List.mem_append_right _ (List.mem_append_right _ (List.mem_append_right _ (List.mem_append_right _ (List.mem_append_left _ (List.mem_of_getElem? (i := 76) rfl))))), rfl⟩
theorem km_L_70 : Cond.methodLink RL 70 yX8_fewest ∈ bigW := List.mem_filter.mpr ⟨List.mem_append_right _ (List.mem_append_right _ (List.mem_append_right _ (List.mem_append_right _ (List.mem_append_left _ (List.mem_of_getElem? (i := 77) rfl))))), rfl⟩
theorem ki_X8_fewest : Cond.instanceMethod yX8_fewest ∈ bigW := List.mem_filter.mpr ⟨List.mem_append_right _ (List.mem_append_right _ (List.mem_append_right _ (List.mem_append_right _ (List.mem_append_left _ (List.mem_of_getElem? (i := 78) rfl))))), rfl⟩
theorem kv_X8_fewest : Cond.selects RX8 yX8_fewest yX8_fewest ∈ bigW := List.mem_filter.mpr ⟨List.mem_append_right _ (List.mem_append_right _ (List.mem_append_right _ (List.mem_append_right _ (List.mem_append_left _ (List.mem_of_getElem? (i := 79) rfl))))), rfl⟩
theorem kc_X8_fewest : Cond.code yX8_fewest cX8_fewest 2 (some .int) ∈ bigW := List.mem_filter.mpr ⟨List.mem_append_right _ (List.mem_append_right _ (List.mem_append_right _ (List.mem_append_right _ (List.mem_append_left _ (List.mem_of_getElem? (i := 80) rfl))))), rfl⟩
theorem km_X8_200 : Cond.methodLink RX8 200 yX8_fewestNow ∈ bigW := List.mem_filter.mpr ⟨List.mem_append_right _ (List.mem_append_right _ (List.mem_append_right _ (List.mem_append_right _ (List.mem_append_left _ (List.mem_of_getElem? (i := 81) rfl))))), rfl⟩
theorem ki_X8_fewestNow : Cond.instanceMethod yX8_fewestNow ∈ bigW := List.mem_filter.mpr ⟨List.mem_append_right _ (List.mem_append_right _ (List.mem_append_right _ (List.mem_append_right _ (List.mem_append_left _ (List.mem_of_getElem? (i := 83) rfl))))), rfl⟩
theorem kc_X8_fewestNow : Cond.code yX8_fewestNow cX8_fewestNow 7 (some .int) ∈ bigW := List.mem_filter.mpr ⟨List.mem_append_right _ (List.mem_append_right _ (List.mem_append_right _ (List.mem_append_right _ (List.mem_append_left _ (List.mem_of_getElem? (i := 84) rfl))))), rfl⟩
theorem km_X8_194 : Cond.methodLink RX8 194 yX8_goal ∈ bigW := List.mem_filter.mpr ⟨List.mem_append_right _ (List.mem_append_right _ (List.mem_append_right _ (List.mem_append_right _ (List.mem_append_left _ (List.mem_of_getElem? (i := 85) rfl))))), rfl⟩
theorem ki_X8_goal : Cond.instanceMethod yX8_goal ∈ bigW := List.mem_filter.mpr ⟨List.mem_append_right _ (List.mem_append_right _ (List.mem_append_right _ (List.mem_append_right _ (List.mem_append_left _ (List.mem_of_getElem? (i := 87) rfl))))), rfl⟩
theorem kc_X8_goal : Cond.code yX8_goal cX8_goal 1 (some .int) ∈ bigW := List.mem_filter.mpr ⟨List.mem_append_right _ (List.mem_append_right _ (List.mem_append_right _ (List.mem_append_right _ (List.mem_append_left _ (List.mem_of_getElem? (i := 88) rfl))))), rfl⟩
theorem km_X8_185 : Cond.methodLink RX8 185 yX8_layRead ∈ bigW := List.mem_filter.mpr ⟨List.mem_append_right _ (List.mem_append_right _ (List.mem_append_right _ (List.mem_append_right _ (List.mem_append_left _ (List.mem_of_getElem? (i := 89) rfl))))), rfl⟩
theorem ki_X8_layRead : Cond.instanceMethod yX8_layRead ∈ bigW := List.mem_filter.mpr ⟨List.mem_append_right _ (List.mem_append_right _ (List.mem_append_right _ (List.mem_append_right _ (List.mem_append_left _ (List.mem_of_getElem? (i := 91) rfl))))), rfl⟩
theorem kc_X8_layRead : Cond.code yX8_layRead cX8_layRead 2 none ∈ bigW := List.mem_filter.mpr ⟨List.mem_append_right _ (List.mem_append_right _ (List.mem_append_right _ (List.mem_append_right _ (List.mem_append_left _ (List.mem_of_getElem? (i := 92) rfl))))), rfl⟩
theorem km_X8_188 : Cond.methodLink RX8 188 yX8_turnedCode ∈ bigW := List.mem_filter.mpr ⟨List.mem_append_right _ (List.mem_append_right _ (List.mem_append_right _ (List.mem_append_right _ (List.mem_append_left _ (List.mem_of_getElem? (i := 93) rfl))))), rfl⟩
theorem ki_X8_turnedCode : Cond.instanceMethod yX8_turnedCode ∈ bigW := List.mem_filter.mpr ⟨List.mem_append_right _ (List.mem_append_right _ (List.mem_append_right _ (List.mem_append_right _ (List.mem_append_left _ (List.mem_of_getElem? (i := 95) rfl))))), rfl⟩
theorem kc_X8_turnedCode : Cond.code yX8_turnedCode cX8_turnedCode 3 (some .int) ∈ bigW := List.mem_filter.mpr ⟨List.mem_append_right _ (List.mem_append_right _ (List.mem_append_right _ (List.mem_append_right _ (List.mem_append_left _ (List.mem_of_getElem? (i := 96) rfl))))), rfl⟩
theorem km_X8_197 : Cond.methodLink RX8 197 yX8_farTo ∈ bigW := List.mem_filter.mpr ⟨List.mem_append_right _ (List.mem_append_right _ (List.mem_append_right _ (List.mem_append_right _ (List.mem_append_left _ (List.mem_of_getElem? (i := 97) rfl))))), rfl⟩
theorem ki_X8_farTo : Cond.instanceMethod yX8_farTo ∈ bigW := List.mem_filter.mpr ⟨List.mem_append_right _ (List.mem_append_right _ (List.mem_append_right _ (List.mem_append_right _ (List.mem_append_left _ (List.mem_of_getElem? (i := 99) rfl))))), rfl⟩
theorem kc_X8_farTo : Cond.code yX8_farTo cX8_farTo 2 (some .int) ∈ bigW := List.mem_filter.mpr ⟨List.mem_append_right _ (List.mem_append_right _ (List.mem_append_right _ (List.mem_append_right _ (List.mem_append_left _ (List.mem_of_getElem? (i := 100) rfl))))), rfl⟩
theorem km_X8_191 : Cond.methodLink RX8 191 yX8_layFar ∈ bigW := List.mem_filter.mpr ⟨List.mem_append_right _ (List.mem_append_right _ (List.mem_append_right _ (List.mem_append_right _ (List.mem_append_left _ (List.mem_of_getElem? (i := 101) rfl))))), rfl⟩
theorem ki_X8_layFar : Cond.instanceMethod yX8_layFar ∈ bigW := List.mem_filter.mpr ⟨List.mem_append_right _ (List.mem_append_right _ (List.mem_append_right _ (List.mem_append_right _ (List.mem_append_left _ (List.mem_of_getElem? (i := 103) rfl))))), rfl⟩
theorem kc_X8_layFar : Cond.code yX8_layFar cX8_layFar 5 none ∈ bigW := List.mem_filter.mpr ⟨List.mem_append_right _ (List.mem_append_right _ (List.mem_append_right _ (List.mem_append_right _ (List.mem_append_left _ (List.mem_of_getElem? (i := 104) rfl))))), rfl⟩
theorem km_X8_171 : Cond.methodLink RX8 171 yX8_codeOf ∈ bigW := List.mem_filter.mpr ⟨List.mem_append_right _ (List.mem_append_right _ (List.mem_append_right _ (List.mem_append_right _ (List.mem_append_left _ (List.mem_of_getElem? (i := 105) rfl))))), rfl⟩
theorem ki_X8_codeOf : Cond.instanceMethod yX8_codeOf ∈ bigW := List.mem_filter.mpr ⟨List.mem_append_right _ (List.mem_append_right _ (List.mem_append_right _ (List.mem_append_right _ (List.mem_append_left _ (List.mem_of_getElem? (i := 107) rfl))))), rfl⟩
theorem kc_X8_codeOf : Cond.code yX8_codeOf cX8_codeOf 3 (some .int) ∈ bigW := List.mem_filter.mpr ⟨List.mem_append_right _ (List.mem_append_right _ (List.mem_append_right _ (List.mem_append_right _ (List.mem_append_left _ (List.mem_of_getElem? (i := 108) rfl))))), rfl⟩
theorem km_X8_174 : Cond.methodLink RX8 174 yX8_come ∈ bigW := List.mem_filter.mpr ⟨List.mem_append_right _ (List.mem_append_right _ (List.mem_append_right _ (List.mem_append_right _ (List.mem_append_left _ (List.mem_of_getElem? (i := 109) rfl))))), rfl⟩
theorem ki_X8_come : Cond.instanceMethod yX8_come ∈ bigW := List.mem_filter.mpr ⟨List.mem_append_right _ (List.mem_append_right _ (List.mem_append_right _ (List.mem_append_right _ (List.mem_append_left _ (List.mem_of_getElem? (i := 111) rfl))))), rfl⟩
theorem kc_X8_come : Cond.code yX8_come cX8_come 3 none ∈ bigW := List.mem_filter.mpr ⟨List.mem_append_right _ (List.mem_append_right _ (List.mem_append_right _ (List.mem_append_right _ (List.mem_append_left _ (List.mem_of_getElem? (i := 112) rfl))))), rfl⟩
theorem km_X8_177 : Cond.methodLink RX8 177 yX8_layRow ∈ bigW := List.mem_filter.mpr ⟨List.mem_append_right _ (List.mem_append_right _ (List.mem_append_right _ (List.mem_append_right _ (List.mem_append_left _ (List.mem_of_getElem? (i := 113) rfl))))), rfl⟩
theorem ki_X8_layRow : Cond.instanceMethod yX8_layRow ∈ bigW := List.mem_filter.mpr ⟨List.mem_append_right _ (List.mem_append_right _ (List.mem_append_right _ (List.mem_append_right _ (List.mem_append_left _ (List.mem_of_getElem? (i := 115) rfl))))), rfl⟩
theorem kc_X8_layRow : Cond.code yX8_layRow cX8_layRow 4 none ∈ bigW := List.mem_filter.mpr ⟨List.mem_append_right _ (List.mem_append_right _ (List.mem_append_right _ (List.mem_append_right _ (List.mem_append_left _ (List.mem_of_getElem? (i := 116) rfl))))), rfl⟩
theorem km_X8_181 : Cond.methodLink RX8 181 yX8_behindMove ∈ bigW := List.mem_filter.mpr ⟨List.mem_append_right _ (List.mem_append_right _ (List.mem_append_right _ (List.mem_append_right _ (List.mem_append_left _ (List.mem_of_getElem? (i := 117) rfl))))), rfl⟩
theorem ks_X8_behindMove : Cond.static yX8_behindMove ∈ bigW := List.mem_filter.mpr ⟨List.mem_append_right _ (List.mem_append_right _ (List.mem_append_right _ (List.mem_append_right _ (List.mem_append_left _ (List.mem_of_getElem? (i := 118) rfl))))), rfl⟩
theorem kc_X8_behindMove : Cond.code yX8_behindMove cX8_behindMove 4 (some .int) ∈ bigW := List.mem_filter.mpr ⟨List.mem_append_right _ (List.mem_append_right _ (List.mem_append_right _ (List.mem_append_right _ (List.mem_append_left _ (List.mem_of_getElem? (i := 119) rfl))))), rfl⟩
theorem km_X8_165 : Cond.methodLink RX8 165 yX8_power ∈ bigW := List.mem_filter.mpr ⟨List.mem_append_right _ (List.mem_append_right _ (List.mem_append_right _ (List.mem_append_right _ (List.mem_append_left _ (List.mem_of_getElem? (i := 120) rfl))))), rfl⟩
theorem ks_X8_power : Cond.static yX8_power ∈ bigW := List.mem_filter.mpr ⟨List.mem_append_right _ (List.mem_append_right _ (List.mem_append_right _ (List.mem_append_right _ (List.mem_append_left _ (List.mem_of_getElem? (i := 121) rfl))))), rfl⟩
theorem kc_X8_power : Cond.code yX8_power cX8_power 3 (some .int) ∈ bigW := List.mem_filter.mpr ⟨List.mem_append_right _ (List.mem_append_right _ (List.mem_append_right _ (List.mem_append_right _ (List.mem_append_left _ (List.mem_of_getElem? (i := 122) rfl))))), rfl⟩
theorem km_L_74 : Cond.methodLink RL 74 yX8_ways ∈ bigW := List.mem_filter.mpr ⟨List.mem_append_right _ (List.mem_append_right _ (List.mem_append_right _ (List.mem_append_right _ (List.mem_append_left _ (List.mem_of_getElem? (i := 123) rfl))))), rfl⟩
theorem ki_X8_ways : Cond.instanceMethod yX8_ways ∈ bigW := List.mem_filter.mpr ⟨List.mem_append_right _ (List.mem_append_right _ (List.mem_append_right _ (List.mem_append_right _ (List.mem_append_left _ (List.mem_of_getElem? (i := 124) rfl))))), rfl⟩
theorem kv_X8_ways : Cond.selects RX8 yX8_ways yX8_ways ∈ bigW := List.mem_filter.mpr ⟨List.mem_append_right _ (List.mem_append_right _ (List.mem_append_right _ (List.mem_append_right _ (List.mem_append_left _ (List.mem_of_getElem? (i := 125) rfl))))), rfl⟩
theorem kc_X8_ways : Cond.code yX8_ways cX8_ways 1 (some .int) ∈ bigW := List.mem_filter.mpr ⟨List.mem_append_right _ (List.mem_append_right _ (List.mem_append_right _ (List.mem_append_right _ (List.mem_append_left _ (List.mem_of_getElem? (i := 126) rfl))))), rfl⟩
theorem km_X8_203 : Cond.methodLink RX8 203 yX8_waysNow ∈ bigW := List.mem_filter.mpr ⟨List.mem_append_right _ (List.mem_append_right _ (List.mem_append_right _ (List.mem_append_right _ (List.mem_append_left _ (List.mem_of_getElem? (i := 127) rfl))))), rfl⟩
theorem ki_X8_waysNow : Cond.instanceMethod yX8_waysNow ∈ bigW := List.mem_filter.mpr ⟨List.mem_append_right _ (List.mem_append_right _ (List.mem_append_right _ (List.mem_append_right _ (List.mem_append_left _ (List.mem_of_getElem? (i := 129) rfl))))), rfl⟩
theorem kc_X8_waysNow : Cond.code yX8_waysNow cX8_waysNow 2 (some .int) ∈ bigW := List.mem_filter.mpr ⟨List.mem_append_right _ (List.mem_append_right _ (List.mem_append_right _ (List.mem_append_right _ (List.mem_append_left _ (List.mem_of_getElem? (i := 130) rfl))))), rfl⟩
theorem km_L_78 : Cond.methodLink RL 78 yX8_wrong ∈ bigW := List.mem_filter.mpr ⟨List.mem_append_right _ (List.mem_append_right _ (List.mem_append_right _ (List.mem_append_right _ (List.mem_append_left _ (List.mem_of_getElem? (i := 131) rfl))))), rfl⟩
theorem ki_X8_wrong : Cond.instanceMethod yX8_wrong ∈ bigW := List.mem_filter.mpr ⟨List.mem_append_right _ (List.mem_append_right _ (List.mem_append_right _ (List.mem_append_right _ (List.mem_append_left _ (List.mem_of_getElem? (i := 132) rfl))))), rfl⟩
theorem kv_X8_wrong : Cond.selects RX8 yX8_wrong yX8_wrong ∈ bigW := List.mem_filter.mpr ⟨List.mem_append_right _ (List.mem_append_right _ (List.mem_append_right _ (List.mem_append_right _ (List.mem_append_left _ (List.mem_of_getElem? (i := 133) rfl))))), rfl⟩
theorem kc_X8_wrong : Cond.code yX8_wrong cX8_wrong 1 (some .int) ∈ bigW := List.mem_filter.mpr ⟨List.mem_append_right _ (List.mem_append_right _ (List.mem_append_right _ (List.mem_append_right _ (List.mem_append_left _ (List.mem_of_getElem? (i := 134) rfl))))), rfl⟩
theorem km_X8_206 : Cond.methodLink RX8 206 yX8_wrongNow ∈ bigW := List.mem_filter.mpr ⟨List.mem_append_right _ (List.mem_append_right _ (List.mem_append_right _ (List.mem_append_right _ (List.mem_append_left _ (List.mem_of_getElem? (i := 135) rfl))))), rfl⟩
theorem ki_X8_wrongNow : Cond.instanceMethod yX8_wrongNow ∈ bigW := List.mem_filter.mpr ⟨List.mem_append_right _ (List.mem_append_right _ (List.mem_append_right _ (List.mem_append_right _ (List.mem_append_left _ (List.mem_of_getElem? (i := 137) rfl))))), rfl⟩
theorem kc_X8_wrongNow : Cond.code yX8_wrongNow cX8_wrongNow 4 (some .int) ∈ bigW := List.mem_filter.mpr ⟨List.mem_append_right _ (List.mem_append_right _ (List.mem_append_right _ (List.mem_append_right _ (List.mem_append_left _ (List.mem_of_getElem? (i := 138) rfl))))), rfl⟩
theorem km_L_82 : Cond.methodLink RL 82 yX8_ends ∈ bigW := List.mem_filter.mpr ⟨List.mem_append_right _ (List.mem_append_right _ (List.mem_append_right _ (List.mem_append_right _ (List.mem_append_left _ (List.mem_of_getElem? (i := 139) rfl))))), rfl⟩
theorem ki_X8_ends : Cond.instanceMethod yX8_ends ∈ bigW := List.mem_filter.mpr ⟨List.mem_append_right _ (List.mem_append_right _ (List.mem_append_right _ (List.mem_append_right _ (List.mem_append_left _ (List.mem_of_getElem? (i := 140) rfl))))), rfl⟩
theorem kv_X8_ends : Cond.selects RX8 yX8_ends yX8_ends ∈ bigW := List.mem_filter.mpr ⟨List.mem_append_right _ (List.mem_append_right _ (List.mem_append_right _ (List.mem_append_right _ (List.mem_append_left _ (List.mem_of_getElem? (i := 141) rfl))))), rfl⟩
theorem kc_X8_ends : Cond.code yX8_ends cX8_ends 1 (some .int) ∈ bigW := List.mem_filter.mpr ⟨List.mem_append_right _ (List.mem_append_right _ (List.mem_append_right _ (List.mem_append_right _ (List.mem_append_left _ (List.mem_of_getElem? (i := 142) rfl))))), rfl⟩
theorem km_X8_215 : Cond.methodLink RX8 215 yX8_layEnds ∈ bigW := List.mem_filter.mpr ⟨List.mem_append_right _ (List.mem_append_right _ (List.mem_append_right _ (List.mem_append_right _ (List.mem_append_left _ (List.mem_of_getElem? (i := 143) rfl))))), rfl⟩
theorem ki_X8_layEnds : Cond.instanceMethod yX8_layEnds ∈ bigW := List.mem_filter.mpr ⟨List.mem_append_right _ (List.mem_append_right _ (List.mem_append_right _ (List.mem_append_right _ (List.mem_append_left _ (List.mem_of_getElem? (i := 145) rfl))))), rfl⟩
theorem kc_X8_layEnds : Cond.code yX8_layEnds cX8_layEnds 2 none ∈ bigW := List.mem_filter.mpr ⟨List.mem_append_right _ (List.mem_append_right _ (List.mem_append_right _ (List.mem_append_right _ (List.mem_append_left _ (List.mem_of_getElem? (i := 146) rfl))))), rfl⟩
theorem km_L_86 : Cond.methodLink RL 86 yX8_soon ∈ bigW := List.mem_filter.mpr ⟨List.mem_append_right _ (List.mem_append_right _ (List.mem_append_right _ (List.mem_append_right _ (List.mem_append_left _ (List.mem_of_getElem? (i := 147) rfl))))), rfl⟩
theorem ki_X8_soon : Cond.instanceMethod yX8_soon ∈ bigW := List.mem_filter.mpr ⟨List.mem_append_right _ (List.mem_append_right _ (List.mem_append_right _ (List.mem_append_right _ (List.mem_append_left _ (List.mem_of_getElem? (i := 148) rfl))))), rfl⟩
theorem kv_X8_soon : Cond.selects RX8 yX8_soon yX8_soon ∈ bigW := List.mem_filter.mpr ⟨List.mem_append_right _ (List.mem_append_right _ (List.mem_append_right _ (List.mem_append_right _ (List.mem_append_left _ (List.mem_of_getElem? (i := 149) rfl))))), rfl⟩
theorem kc_X8_soon : Cond.code yX8_soon cX8_soon 1 (some .int) ∈ bigW := List.mem_filter.mpr ⟨List.mem_append_right _ (List.mem_append_right _ (List.mem_append_right _ (List.mem_append_right _ (List.mem_append_left _ (List.mem_of_getElem? (i := 150) rfl))))), rfl⟩
theorem km_L_90 : Cond.methodLink RL 90 yX8_comes ∈ bigW := List.mem_filter.mpr ⟨List.mem_append_right _ (List.mem_append_right _ (List.mem_append_right _ (List.mem_append_right _ (List.mem_append_left _ (List.mem_of_getElem? (i := 151) rfl))))), rfl⟩
theorem ki_X8_comes : Cond.instanceMethod yX8_comes ∈ bigW := List.mem_filter.mpr ⟨List.mem_append_right _ (List.mem_append_right _ (List.mem_append_right _ (List.mem_append_right _ (List.mem_append_left _ (List.mem_of_getElem? (i := 152) rfl))))), rfl⟩
theorem kv_X8_comes : Cond.selects RX8 yX8_comes yX8_comes ∈ bigW := List.mem_filter.mpr ⟨List.mem_append_right _ (List.mem_append_right _ (List.mem_append_right _ (List.mem_append_right _ (List.mem_append_left _ (List.mem_of_getElem? (i := 153) rfl))))), rfl⟩
theorem kc_X8_comes : Cond.code yX8_comes cX8_comes 3 (some .int) ∈ bigW := List.mem_filter.mpr ⟨List.mem_append_right _ (List.mem_append_right _ (List.mem_append_right _ (List.mem_append_right _ (List.mem_append_left _ (List.mem_of_getElem? (i := 154) rfl))))), rfl⟩
theorem km_L_94 : Cond.methodLink RL 94 yX8_more ∈ bigW := List.mem_filter.mpr ⟨List.mem_append_right _ (List.mem_append_right _ (List.mem_append_right _ (List.mem_append_right _ (List.mem_append_left _ (List.mem_of_getElem? (i := 155) rfl))))), rfl⟩
theorem ki_X8_more : Cond.instanceMethod yX8_more ∈ bigW := List.mem_filter.mpr ⟨List.mem_append_right _ (List.mem_append_right _ (List.mem_append_right _ (List.mem_append_right _ (List.mem_append_left _ (List.mem_of_getElem? (i := 156) rfl))))), rfl⟩
theorem kv_X8_more : Cond.selects RX8 yX8_more yX8_more ∈ bigW := List.mem_filter.mpr ⟨List.mem_append_right _ (List.mem_append_right _ (List.mem_append_right _ (List.mem_append_right _ (List.mem_append_left _ (List.mem_of_getElem? (i := 157) rfl))))), rfl⟩
theorem kc_X8_more : Cond.code yX8_more cX8_more 2 (some .int) ∈ bigW := List.mem_filter.mpr ⟨List.mem_append_right _ (List.mem_append_right _ (List.mem_append_right _ (List.mem_append_right _ (List.mem_append_left _ (List.mem_of_getElem? (i := 158) rfl))))), rfl⟩
theorem km_X8_221 : Cond.methodLink RX8 221 yX8_moreNow ∈ bigW := List.mem_filter.mpr ⟨List.mem_append_right _ (List.mem_append_right _ (List.mem_append_right _ (List.mem_append_right _ (List.mem_append_left _ (List.mem_of_getElem? (i := 159) rfl))))), rfl⟩
theorem ki_X8_moreNow : Cond.instanceMethod yX8_moreNow ∈ bigW := List.mem_filter.mpr ⟨List.mem_append_right _ (List.mem_append_right _ (List.mem_append_right _ (List.mem_append_right _ (List.mem_append_left _ (List.mem_of_getElem? (i := 161) rfl))))), rfl⟩
theorem kc_X8_moreNow : Cond.code yX8_moreNow cX8_moreNow 6 (some .int) ∈ bigW := List.mem_filter.mpr ⟨List.mem_append_right _ (List.mem_append_right _ (List.mem_append_right _ (List.mem_append_right _ (List.mem_append_left _ (List.mem_of_getElem? (i := 162) rfl))))), rfl⟩
theorem km_X8_218 : Cond.methodLink RX8 218 yX8_turns ∈ bigW := List.mem_filter.mpr ⟨List.mem_append_right _ (List.mem_append_right _ (List.mem_append_right _ (List.mem_append_right _ (List.mem_append_left _ (List.mem_of_getElem? (i := 163) rfl))))), rfl⟩
theorem ki_X8_turns : Cond.instanceMethod yX8_turns ∈ bigW := List.mem_filter.mpr ⟨List.mem_append_right _ (List.mem_append_right _ (List.mem_append_right _ (List.mem_append_right _ (List.mem_append_left _ (List.mem_of_getElem? (i := 165) rfl))))), rfl⟩
theorem kc_X8_turns : Cond.code yX8_turns cX8_turns 1 (some .int) ∈ bigW := List.mem_filter.mpr ⟨List.mem_append_right _ (List.mem_append_right _ (List.mem_append_right _ (List.mem_append_right _ (List.mem_append_left _ (List.mem_of_getElem? (i := 166) rfl))))), rfl⟩
theorem km_L_98 : Cond.methodLink RL 98 yX8_off ∈ bigW := List.mem_filter.mpr ⟨List.mem_append_right _ (List.mem_append_right _ (List.mem_append_right _ (List.mem_append_right _ (List.mem_append_left _ (List.mem_of_getElem? (i := 167) rfl))))), rfl⟩
theorem ki_X8_off : Cond.instanceMethod yX8_off ∈ bigW := List.mem_filter.mpr ⟨List.mem_append_right _ (List.mem_append_right _ (List.mem_append_right _ (List.mem_append_right _ (List.mem_append_left _ (List.mem_of_getElem? (i := 168) rfl))))), rfl⟩
theorem kv_X8_off : Cond.selects RX8 yX8_off yX8_off ∈ bigW := List.mem_filter.mpr ⟨List.mem_append_right _ (List.mem_append_right _ (List.mem_append_right _ (List.mem_append_right _ (List.mem_append_left _ (List.mem_of_getElem? (i := 169) rfl))))), rfl⟩
theorem kc_X8_off : Cond.code yX8_off cX8_off 2 (some .int) ∈ bigW := List.mem_filter.mpr ⟨List.mem_append_right _ (List.mem_append_right _ (List.mem_append_right _ (List.mem_append_right _ (List.mem_append_left _ (List.mem_of_getElem? (i := 170) rfl))))), rfl⟩
theorem km_X8_224 : Cond.methodLink RX8 224 yX8_offNow ∈ bigW := List.mem_filter.mpr ⟨List.mem_append_right _ (List.mem_append_right _ (List.mem_append_right _ (List.mem_append_right _ (List.mem_append_left _ (List.mem_of_getElem? (i := 171) rfl))))), rfl⟩
theorem ki_X8_offNow : Cond.instanceMethod yX8_offNow ∈ bigW := List.mem_filter.mpr ⟨List.mem_append_right _ (List.mem_append_right _ (List.mem_append_right _ (List.mem_append_right _ (List.mem_append_left _ (List.mem_of_getElem? (i := 173) rfl))))), rfl⟩
theorem kc_X8_offNow : Cond.code yX8_offNow cX8_offNow 7 (some .int) ∈ bigW := List.mem_filter.mpr ⟨List.mem_append_right _ (List.mem_append_right _ (List.mem_append_right _ (List.mem_append_right _ (List.mem_append_left _ (List.mem_of_getElem? (i := 174) rfl))))), rfl⟩
theorem km_L_102 : Cond.methodLink RL 102 yX8_wins ∈ bigW := List.mem_filter.mpr ⟨List.mem_append_right _ (List.mem_append_right _ (List.mem_append_right _ (List.mem_append_right _ (List.mem_append_left _ (List.mem_of_getElem? (i := 175) rfl))))), rfl⟩
theorem ki_X8_wins : Cond.instanceMethod yX8_wins ∈ bigW := List.mem_filter.mpr ⟨List.mem_append_right _ (List.mem_append_right _ (List.mem_append_right _ (List.mem_append_right _ (List.mem_append_left _ (List.mem_of_getElem? (i := 176) rfl))))), rfl⟩
theorem kv_X8_wins : Cond.selects RX8 yX8_wins yX8_wins ∈ bigW := List.mem_filter.mpr ⟨List.mem_append_right _ (List.mem_append_right _ (List.mem_append_right _ (List.mem_append_right _ (List.mem_append_left _ (List.mem_of_getElem? (i := 177) rfl))))), rfl⟩
theorem kc_X8_wins : Cond.code yX8_wins cX8_wins 2 (some .int) ∈ bigW := List.mem_filter.mpr ⟨List.mem_append_right _ (List.mem_append_right _ (List.mem_append_right _ (List.mem_append_right _ (List.mem_append_left _ (List.mem_of_getElem? (i := 178) rfl))))), rfl⟩
theorem km_X8_239 : Cond.methodLink RX8 239 yX8_isGame ∈ bigW := List.mem_filter.mpr ⟨List.mem_append_right _ (List.mem_append_right _ (List.mem_append_right _ (List.mem_append_right _ (List.mem_append_left _ (List.mem_of_getElem? (i := 179) rfl))))), rfl⟩
theorem ki_X8_isGame : Cond.instanceMethod yX8_isGame ∈ bigW := List.mem_filter.mpr ⟨List.mem_append_right _ (List.mem_append_right _ (List.mem_append_right _ (List.mem_append_right _ (List.mem_append_left _ (List.mem_of_getElem? (i := 181) rfl))))), rfl⟩
theorem kc_X8_isGame : Cond.code yX8_isGame cX8_isGame 1 (some .boolean) ∈ bigW := List.mem_filter.mpr ⟨List.mem_append_right _ (List.mem_append_right _ (List.mem_append_right _ (List.mem_append_right _ (List.mem_append_left _ (List.mem_of_getElem? (i := 182) rfl))))), rfl⟩
theorem km_X8_243 : Cond.methodLink RX8 243 yX8_winsNow ∈ bigW := List.mem_filter.mpr ⟨List.mem_append_right _ (List.mem_append_right _ (List.mem_append_right _ (List.mem_append_right _ (List.mem_append_left _ (List.mem_of_getElem? (i := 183) rfl))))), rfl⟩
theorem ki_X8_winsNow : Cond.instanceMethod yX8_winsNow ∈ bigW := List.mem_filter.mpr ⟨List.mem_append_right _ (List.mem_append_right _ (List.mem_append_right _ (List.mem_append_right _ (List.mem_append_left _ (List.mem_of_getElem? (i := 185) rfl))))), rfl⟩
theorem kc_X8_winsNow : Cond.code yX8_winsNow cX8_winsNow 2 (some .int) ∈ bigW := List.mem_filter.mpr ⟨List.mem_append_right _ (List.mem_append_right _ (List.mem_append_right _ (List.mem_append_right _ (List.mem_append_left _ (List.mem_of_getElem? (i := 186) rfl))))), rfl⟩
theorem km_X8_236 : Cond.methodLink RX8 236 yX8_layGame ∈ bigW := List.mem_filter.mpr ⟨List.mem_append_right _ (List.mem_append_right _ (List.mem_append_right _ (List.mem_append_right _ (List.mem_append_left _ (List.mem_of_getElem? (i := 187) rfl))))), rfl⟩
theorem ki_X8_layGame : Cond.instanceMethod yX8_layGame ∈ bigW := List.mem_filter.mpr ⟨List.mem_append_right _ (List.mem_append_right _ (List.mem_append_right _ (List.mem_append_right _ (List.mem_append_left _ (List.mem_of_getElem? (i := 189) rfl))))), rfl⟩
theorem kc_X8_layGame : Cond.code yX8_layGame cX8_layGame 6 none ∈ bigW := List.mem_filter.mpr ⟨List.mem_append_right _ (List.mem_append_right _ (List.mem_append_right _ (List.mem_append_right _ (List.mem_append_left _ (List.mem_of_getElem? (i := 190) rfl))))), rfl⟩
theorem km_X8_230 : Cond.methodLink RX8 230 yX8_progress ∈ bigW := List.mem_filter.mpr ⟨List.mem_append_right _ (List.mem_append_right _ (List.mem_append_right _ (List.mem_append_right _ (List.mem_append_left _ (List.mem_of_getElem? (i := 191) rfl))))), rfl⟩
theorem ki_X8_progress : Cond.instanceMethod yX8_progress ∈ bigW := List.mem_filter.mpr ⟨List.mem_append_right _ (List.mem_append_right _ (List.mem_append_right _ (List.mem_append_right _ (List.mem_append_left _ (List.mem_of_getElem? (i := 193) rfl))))), rfl⟩
theorem kc_X8_progress : Cond.code yX8_progress cX8_progress 6 (some .int) ∈ bigW := List.mem_filter.mpr ⟨List.mem_append_right _ (List.mem_append_right _ (List.mem_append_right _ (List.mem_append_right _ (List.mem_append_left _ (List.mem_of_getElem? (i := 194) rfl))))), rfl⟩
theorem km_X8_233 : Cond.methodLink RX8 233 yX8_winsBy ∈ bigW := List.mem_filter.mpr ⟨List.mem_append_right _ (List.mem_append_right _ (List.mem_append_right _ (List.mem_append_right _ (List.mem_append_left _ (List.mem_of_getElem? (i := 195) rfl))))), rfl⟩
theorem ki_X8_winsBy : Cond.instanceMethod yX8_winsBy ∈ bigW := List.mem_filter.mpr ⟨List.mem_append_right _ (List.mem_append_right _ (List.mem_append_right _ (List.mem_append_right _ (List.mem_append_left _ (List.mem_of_getElem? (i := 197) rfl))))), rfl⟩
theorem kc_X8_winsBy : Cond.code yX8_winsBy cX8_winsBy 5 (some .boolean) ∈ bigW := List.mem_filter.mpr ⟨List.mem_append_right _ (List.mem_append_right _ (List.mem_append_right _ (List.mem_append_right _ (List.mem_append_left _ (List.mem_of_getElem? (i := 198) rfl))))), rfl⟩
theorem km_X8_227 : Cond.methodLink RX8 227 yX8_isOf ∈ bigW := List.mem_filter.mpr ⟨List.mem_append_right _ (List.mem_append_right _ (List.mem_append_right _ (List.mem_append_right _ (List.mem_append_left _ (List.mem_of_getElem? (i := 199) rfl))))), rfl⟩
theorem ki_X8_isOf : Cond.instanceMethod yX8_isOf ∈ bigW := List.mem_filter.mpr ⟨List.mem_append_right _ (List.mem_append_right _ (List.mem_append_right _ (List.mem_append_right _ (List.mem_append_left _ (List.mem_of_getElem? (i := 201) rfl))))), rfl⟩
theorem kc_X8_isOf : Cond.code yX8_isOf cX8_isOf 3 (some .boolean) ∈ bigW := List.mem_filter.mpr ⟨List.mem_append_right _ (List.mem_append_right _ (List.mem_append_right _ (List.mem_append_right _ (List.mem_append_left _ (List.mem_of_getElem? (i := 202) rfl))))), rfl⟩
theorem km_L_106 : Cond.methodLink RL 106 yX8_by ∈ bigW := List.mem_filter.mpr ⟨List.mem_append_right _ (List.mem_append_right _ (List.mem_append_right _ (List.mem_append_right _ (List.mem_append_left _ (List.mem_of_getElem? (i := 203) rfl))))), rfl⟩
theorem ki_X8_by : Cond.instanceMethod yX8_by ∈ bigW := List.mem_filter.mpr ⟨List.mem_append_right _ (List.mem_append_right _ (List.mem_append_right _ (List.mem_append_right _ (List.mem_append_left _ (List.mem_of_getElem? (i := 204) rfl))))), rfl⟩
theorem kv_X8_by : Cond.selects RX8 yX8_by yX8_by ∈ bigW := List.mem_filter.mpr ⟨List.mem_append_right _ (List.mem_append_right _ (List.mem_append_right _ (List.mem_append_right _ (List.mem_append_left _ (List.mem_of_getElem? (i := 205) rfl))))), rfl⟩
theorem kc_X8_by : Cond.code yX8_by cX8_by 3 (some .int) ∈ bigW := List.mem_filter.mpr ⟨List.mem_append_right _ (List.mem_append_right _ (List.mem_append_right _ (List.mem_append_right _ (List.mem_append_left _ (List.mem_of_getElem? (i := 206) rfl))))), rfl⟩
theorem km_X8_246 : Cond.methodLink RX8 246 yX8_byNow ∈ bigW := List.mem_filter.mpr ⟨List.mem_append_right _ (List.mem_append_right _ (List.mem_append_right _ (List.mem_append_right _ (List.mem_append_left _ (List.mem_of_getElem? (i := 207) rfl))))), rfl⟩
theorem ki_X8_byNow : Cond.instanceMethod yX8_byNow ∈ bigW := List.mem_filter.mpr ⟨List.mem_append_right _ (List.mem_append_right _ (List.mem_append_right _ (List.mem_append_right _ (List.mem_append_left _ (List.mem_of_getElem? (i := 209) rfl))))), rfl⟩
theorem kc_X8_byNow : Cond.code yX8_byNow cX8_byNow 6 (some .int) ∈ bigW := List.mem_filter.mpr ⟨List.mem_append_right _ (List.mem_append_right _ (List.mem_append_right _ (List.mem_append_right _ (List.mem_append_left _ (List.mem_of_getElem? (i := 210) rfl))))), rfl⟩
theorem km_L_111 : Cond.methodLink RL 111 yX8_play ∈ bigW := List.mem_filter.mpr ⟨List.mem_append_right _ (List.mem_append_right _ (List.mem_append_right _ (List.mem_append_right _ (List.mem_append_left _ (List.mem_of_getElem? (i := 211) rfl))))), rfl⟩
theorem ki_X8_play : Cond.instanceMethod yX8_play ∈ bigW := List.mem_filter.mpr ⟨List.mem_append_right _ (List.mem_append_right _ (List.mem_append_right _ (List.mem_append_right _ (List.mem_append_left _ (List.mem_of_getElem? (i := 212) rfl))))), rfl⟩
theorem kv_X8_play : Cond.selects RX8 yX8_play yX8_play ∈ bigW := List.mem_filter.mpr ⟨List.mem_append_right _ (List.mem_append_right _ (List.mem_append_right _ (List.mem_append_right _ (List.mem_append_left _ (List.mem_of_getElem? (i := 213) rfl))))), rfl⟩
theorem kc_X8_play : Cond.code yX8_play cX8_play 4 (some .int) ∈ bigW := List.mem_filter.mpr ⟨List.mem_append_right _ (List.mem_append_right _ (List.mem_append_right _ (List.mem_append_right _ (List.mem_append_left _ (List.mem_of_getElem? (i := 214) rfl))))), rfl⟩
theorem km_X8_267 : Cond.methodLink RX8 267 yX8_playNow ∈ bigW := List.mem_filter.mpr ⟨List.mem_append_right _ (List.mem_append_right _ (List.mem_append_right _ (List.mem_append_right _ (List.mem_append_left _ (List.mem_of_getElem? (i := 215) rfl))))), rfl⟩
theorem ki_X8_playNow : Cond.instanceMethod yX8_playNow ∈ bigW := List.mem_filter.mpr ⟨List.mem_append_right _ (List.mem_append_right _ (List.mem_append_right _ (List.mem_append_right _ (List.mem_append_left _ (List.mem_of_getElem? (i := 217) rfl))))), rfl⟩
theorem kc_X8_playNow : Cond.code yX8_playNow cX8_playNow 8 (some .int) ∈ bigW := List.mem_filter.mpr ⟨List.mem_append_right _ (List.mem_append_right _ (List.mem_append_right _ (List.mem_append_right _ (List.mem_append_left _ (List.mem_of_getElem? (i := 218) rfl))))), rfl⟩
theorem km_X8_261 : Cond.methodLink RX8 261 yX8_draw ∈ bigW := List.mem_filter.mpr ⟨List.mem_append_right _ (List.mem_append_right _ (List.mem_append_right _ (List.mem_append_right _ (List.mem_append_left _ (List.mem_of_getElem? (i := 219) rfl))))), rfl⟩
theorem ki_X8_draw : Cond.instanceMethod yX8_draw ∈ bigW := List.mem_filter.mpr ⟨List.mem_append_right _ (List.mem_append_right _ (List.mem_append_right _ (List.mem_append_right _ (List.mem_append_left _ (List.mem_of_getElem? (i := 221) rfl))))), rfl⟩
theorem kc_X8_draw : Cond.code yX8_draw cX8_draw 2 (some .int) ∈ bigW := List.mem_filter.mpr ⟨List.mem_append_right _ (List.mem_append_right _ (List.mem_append_right _ (List.mem_append_right _ (List.mem_append_left _ (List.mem_of_getElem? (i := 222) rfl))))), rfl⟩
theorem kk_X8_249 : Cond.constantLong RX8 249 (1103515245) ∈ bigW := List.mem_filter.mpr ⟨List.mem_append_right _ (List.mem_append_right _ (List.mem_append_right _ (List.mem_append_right _ (List.mem_append_left _ (List.mem_of_getElem? (i := 223) rfl))))), rfl⟩
theorem kk_X8_255 : Cond.constantLong RX8 255 (12345) ∈ bigW := List.mem_filter.mpr ⟨List.mem_append_right _ (List.mem_append_right _ (List.mem_append_right _ (List.mem_append_right _ (List.mem_append_left _ (List.mem_of_getElem? (i := 224) rfl))))), rfl⟩
theorem kk_X8_257 : Cond.constantLong RX8 257 (2147483647) ∈ bigW := List.mem_filter.mpr ⟨List.mem_append_right _ (List.mem_append_right _ (List.mem_append_right _ (List.mem_append_right _ (List.mem_append_left _ (List.mem_of_getElem? (i := 225) rfl))))), rfl⟩
theorem kk_X8_259 : Cond.constantLong RX8 259 (65536) ∈ bigW := List.mem_filter.mpr ⟨List.mem_append_right _ (List.mem_append_right _ (List.mem_append_right _ (List.mem_append_right _ (List.mem_append_left _ (List.mem_of_getElem? (i := 226) rfl))))), rfl⟩
theorem km_X8_264 : Cond.methodLink RX8 264 yX8_goMove ∈ bigW := List.mem_filter.mpr ⟨List.mem_append_right _ (List.mem_append_right _ (List.mem_append_right _ (List.mem_append_right _ (List.mem_append_left _ (List.mem_of_getElem? (i := 227) rfl))))), rfl⟩
theorem ki_X8_goMove : Cond.instanceMethod yX8_goMove ∈ bigW := List.mem_filter.mpr ⟨List.mem_append_right _ (List.mem_append_right _ (List.mem_append_right _ (List.mem_append_right _ (List.mem_append_left _ (List.mem_of_getElem? (i := 229) rfl))))), rfl⟩
theorem kc_X8_goMove : Cond.code yX8_goMove cX8_goMove 5 none ∈ bigW := List.mem_filter.mpr ⟨List.mem_append_right _ (List.mem_append_right _ (List.mem_append_right _ (List.mem_append_right _ (List.mem_append_left _ (List.mem_of_getElem? (i := 230) rfl))))), rfl⟩
theorem km_L_115 : Cond.methodLink RL 115 yX8_image ∈ bigW := List.mem_filter.mpr ⟨List.mem_append_right _ (List.mem_append_right _ (List.mem_append_right _ (List.mem_append_right _ (List.mem_append_left _ (List.mem_of_getElem? (i := 231) rfl))))), rfl⟩
theorem ki_X8_image : Cond.instanceMethod yX8_image ∈ bigW := List.mem_filter.mpr ⟨List.mem_append_right _ (List.mem_append_right _ (List.mem_append_right _ (List.mem_append_right _ (List.mem_append_left _ (List.mem_of_getElem? (i := 232) rfl))))), rfl⟩
theorem kv_X8_image : Cond.selects RX8 yX8_image yX8_image ∈ bigW := List.mem_filter.mpr ⟨List.mem_append_right _ (List.mem_append_right _ (List.mem_append_right _ (List.mem_append_right _ (List.mem_append_left _ (List.mem_of_getElem? (i := 233) rfl))))), rfl⟩
theorem kc_X8_image : Cond.code yX8_image cX8_image 2 (some .int) ∈ bigW := List.mem_filter.mpr ⟨List.mem_append_right _ (List.mem_append_right _ (List.mem_append_right _ (List.mem_append_right _ (List.mem_append_left _ (List.mem_of_getElem? (i := 234) rfl))))), rfl⟩
theorem km_L_119 : Cond.methodLink RL 119 yX8_restore ∈ bigW := List.mem_filter.mpr ⟨List.mem_append_right _ (List.mem_append_right _ (List.mem_append_right _ (List.mem_append_right _ (List.mem_append_left _ (List.mem_of_getElem? (i := 235) rfl))))), rfl⟩
theorem ki_X8_restore : Cond.instanceMethod yX8_restore ∈ bigW := List.mem_filter.mpr ⟨List.mem_append_right _ (List.mem_append_right _ (List.mem_append_right _ (List.mem_append_right _ (List.mem_append_left _ (List.mem_of_getElem? (i := 236) rfl))))), rfl⟩
theorem kv_X8_restore : Cond.selects RX8 yX8_restore yX8_restore ∈ bigW := List.mem_filter.mpr ⟨List.mem_append_right _ (List.mem_append_right _ (List.mem_append_right _ (List.mem_append_right _ (List.mem_append_left _ (List.mem_of_getElem? (i := 237) rfl))))), rfl⟩
theorem kc_X8_restore : Cond.code yX8_restore cX8_restore 2 (some .int) ∈ bigW := List.mem_filter.mpr ⟨List.mem_append_right _ (List.mem_append_right _ (List.mem_append_right _ (List.mem_append_right _ (List.mem_append_left _ (List.mem_of_getElem? (i := 238) rfl))))), rfl⟩
theorem km_L_123 : Cond.methodLink RL 123 yX8_count ∈ bigW := List.mem_filter.mpr ⟨List.mem_append_right _ (List.mem_append_right _ (List.mem_append_right _ (List.mem_append_right _ (List.mem_append_left _ (List.mem_of_getElem? (i := 239) rfl))))), rfl⟩
theorem ki_X8_count : Cond.instanceMethod yX8_count ∈ bigW := List.mem_filter.mpr ⟨List.mem_append_right _ (List.mem_append_right _ (List.mem_append_right _ (List.mem_append_right _ (List.mem_append_right _ (List.mem_of_getElem? (i := 0) rfl))))), rfl⟩
theorem kv_X8_count : Cond.selects RX8 yX8_count yX8_count ∈ bigW := List.mem_filter.mpr ⟨List.mem_append_right _ (List.mem_append_right _ (List.mem_append_right _ (List.mem_append_right _ (List.mem_append_right _ (List.mem_of_getElem? (i := 1) rfl))))), rfl⟩
theorem kc_X8_count : Cond.code yX8_count cX8_count 2 (some .int) ∈ bigW := List.mem_filter.mpr ⟨List.mem_append_right _ (List.mem_append_right _ (List.mem_append_right _ (List.mem_append_right _ (List.mem_append_right _ (List.mem_of_getElem? (i := 2) rfl))))), rfl⟩
theorem km_X8_284 : Cond.methodLink RX8 284 yX8_howMany ∈ bigW := List.mem_filter.mpr ⟨List.mem_append_right _ (List.mem_append_right _ (List.mem_append_right _ (List.mem_append_right _ (List.mem_append_right _ (List.mem_of_getElem? (i := 3) rfl))))), rfl⟩
theorem ki_X8_howMany : Cond.instanceMethod yX8_howMany ∈ bigW := List.mem_filter.mpr ⟨List.mem_append_right _ (List.mem_append_right _ (List.mem_append_right _ (List.mem_append_right _ (List.mem_append_right _ (List.mem_of_getElem? (i := 5) rfl))))), rfl⟩
theorem kc_X8_howMany : Cond.code yX8_howMany cX8_howMany 2 (some .int) ∈ bigW := List.mem_filter.mpr ⟨List.mem_append_right _ (List.mem_append_right _ (List.mem_append_right _ (List.mem_append_right _ (List.mem_append_right _ (List.mem_of_getElem? (i := 6) rfl))))), rfl⟩
theorem km_X8_280 : Cond.methodLink RX8 280 yX8_one ∈ bigW := List.mem_filter.mpr ⟨List.mem_append_right _ (List.mem_append_right _ (List.mem_append_right _ (List.mem_append_right _ (List.mem_append_right _ (List.mem_of_getElem? (i := 7) rfl))))), rfl⟩
theorem ks_X8_one : Cond.static yX8_one ∈ bigW := List.mem_filter.mpr ⟨List.mem_append_right _ (List.mem_append_right _ (List.mem_append_right _ (List.mem_append_right _ (List.mem_append_right _ (List.mem_of_getElem? (i := 8) rfl))))), rfl⟩
theorem kc_X8_one : Cond.code yX8_one cX8_one 1 (some .int) ∈ bigW := List.mem_filter.mpr ⟨List.mem_append_right _ (List.mem_append_right _ (List.mem_append_right _ (List.mem_append_right _ (List.mem_append_right _ (List.mem_of_getElem? (i := 9) rfl))))), rfl⟩
theorem km_L_128 : Cond.methodLink RL 128 yX8_digest ∈ bigW := List.mem_filter.mpr ⟨List.mem_append_right _ (List.mem_append_right _ (List.mem_append_right _ (List.mem_append_right _ (List.mem_append_right _ (List.mem_of_getElem? (i := 10) rfl))))), rfl⟩
theorem ki_X8_digest : Cond.instanceMethod yX8_digest ∈ bigW := List.mem_filter.mpr ⟨List.mem_append_right _ (List.mem_append_right _ (List.mem_append_right _ (List.mem_append_right _ (List.mem_append_right _ (List.mem_of_getElem? (i := 11) rfl))))), rfl⟩
theorem kv_X8_digest : Cond.selects RX8 yX8_digest yX8_digest ∈ bigW := List.mem_filter.mpr ⟨List.mem_append_right _ (List.mem_append_right _ (List.mem_append_right _ (List.mem_append_right _ (List.mem_append_right _ (List.mem_of_getElem? (i := 12) rfl))))), rfl⟩
theorem kc_X8_digest : Cond.code yX8_digest cX8_digest 3 (some .long) ∈ bigW := List.mem_filter.mpr ⟨List.mem_append_right _ (List.mem_append_right _ (List.mem_append_right _ (List.mem_append_right _ (List.mem_append_right _ (List.mem_of_getElem? (i := 13) rfl))))), rfl⟩
theorem kk_X8_296 : Cond.constantLong RX8 296 (613) ∈ bigW := List.mem_filter.mpr ⟨List.mem_append_right _ (List.mem_append_right _ (List.mem_append_right _ (List.mem_append_right _ (List.mem_append_right _ (List.mem_of_getElem? (i := 14) rfl))))), rfl⟩
theorem km_X8_298 : Cond.methodLink RX8 298 yX8_on ∈ bigW := List.mem_filter.mpr ⟨List.mem_append_right _ (List.mem_append_right _ (List.mem_append_right _ (List.mem_append_right _ (List.mem_append_right _ (List.mem_of_getElem? (i := 15) rfl))))), rfl⟩
theorem km_X8_292 : Cond.methodLink RX8 292 yX8_mix ∈ bigW := List.mem_filter.mpr ⟨List.mem_append_right _ (List.mem_append_right _ (List.mem_append_right _ (List.mem_append_right _ (List.mem_append_right _ (List.mem_of_getElem? (i := 16) rfl))))), rfl⟩
theorem ki_X8_mix : Cond.instanceMethod yX8_mix ∈ bigW := List.mem_filter.mpr ⟨List.mem_append_right _ (List.mem_append_right _ (List.mem_append_right _ (List.mem_append_right _ (List.mem_append_right _ (List.mem_of_getElem? (i := 18) rfl))))), rfl⟩
theorem kc_X8_mix : Cond.code yX8_mix cX8_mix 3 none ∈ bigW := List.mem_filter.mpr ⟨List.mem_append_right _ (List.mem_append_right _ (List.mem_append_right _ (List.mem_append_right _ (List.mem_append_right _ (List.mem_of_getElem? (i := 19) rfl))))), rfl⟩
theorem kk_X8_287 : Cond.constantLong RX8 287 (31) ∈ bigW := List.mem_filter.mpr ⟨List.mem_append_right _ (List.mem_append_right _ (List.mem_append_right _ (List.mem_append_right _ (List.mem_append_right _ (List.mem_of_getElem? (i := 20) rfl))))), rfl⟩
theorem km_X8_301 : Cond.methodLink RX8 301 yX8_mixBrook ∈ bigW := List.mem_filter.mpr ⟨List.mem_append_right _ (List.mem_append_right _ (List.mem_append_right _ (List.mem_append_right _ (List.mem_append_right _ (List.mem_of_getElem? (i := 21) rfl))))), rfl⟩
theorem ki_X8_mixBrook : Cond.instanceMethod yX8_mixBrook ∈ bigW := List.mem_filter.mpr ⟨List.mem_append_right _ (List.mem_append_right _ (List.mem_append_right _ (List.mem_append_right _ (List.mem_append_right _ (List.mem_of_getElem? (i := 23) rfl))))), rfl⟩
theorem kc_X8_mixBrook : Cond.code yX8_mixBrook cX8_mixBrook 2 none ∈ bigW := List.mem_filter.mpr ⟨List.mem_append_right _ (List.mem_append_right _ (List.mem_append_right _ (List.mem_append_right _ (List.mem_append_right _ (List.mem_of_getElem? (i := 24) rfl))))), rfl⟩
theorem kk_L_13 : Cond.constantLong RL 13 (4294967295) ∈ bigW := List.mem_filter.mpr ⟨List.mem_append_right _ (List.mem_append_right _ (List.mem_append_right _ (List.mem_append_right _ (List.mem_append_right _ (List.mem_of_getElem? (i := 25) rfl))))), rfl⟩
theorem kv_X6_slotOf : Cond.selects RX6 yX6_slotOf yX6_slotOf ∈ bigW := List.mem_filter.mpr ⟨List.mem_append_left _ (List.mem_map.mpr ⟨_, (List.mem_append_left _ (List.mem_of_getElem? (i := 0) rfl)), rfl⟩), rfl⟩
theorem kv_X4_targets : Cond.selects RX4 yX4_targets yX4_targets ∈ bigW := List.mem_filter.mpr ⟨List.mem_append_left _ (List.mem_map.mpr ⟨_, (List.mem_append_left _ (List.mem_of_getElem? (i := 1) rfl)), rfl⟩), rfl⟩
theorem kv_X4_landing : Cond.selects RX4 yX4_landing yX4_landing ∈ bigW := List.mem_filter.mpr ⟨List.mem_append_left _ (List.mem_map.mpr ⟨_, (List.mem_append_left _ (List.mem_of_getElem? (i := 2) rfl)), rfl⟩), rfl⟩
theorem kv_X4_beside : Cond.selects RX4 yX4_beside yX4_beside ∈ bigW := List.mem_filter.mpr ⟨List.mem_append_left _ (List.mem_map.mpr ⟨_, (List.mem_append_left _ (List.mem_of_getElem? (i := 3) rfl)), rfl⟩), rfl⟩
theorem kv_X4_leapsOver : Cond.selects RX4 yX4_leapsOver yX4_leapsOver ∈ bigW := List.mem_filter.mpr ⟨List.mem_append_left _ (List.mem_map.mpr ⟨_, (List.mem_append_left _ (List.mem_of_getElem? (i := 4) rfl)), rfl⟩), rfl⟩
theorem kv_X5_noteStuck : Cond.selects RX5 yX5_noteStuck yX5_noteStuck ∈ bigW := List.mem_filter.mpr ⟨List.mem_append_left _ (List.mem_map.mpr ⟨_, (List.mem_append_left _ (List.mem_of_getElem? (i := 5) rfl)), rfl⟩), rfl⟩
theorem kv_X5_goOn : Cond.selects RX5 yX5_goOn yX5_goOn ∈ bigW := List.mem_filter.mpr ⟨List.mem_append_left _ (List.mem_map.mpr ⟨_, (List.mem_append_left _ (List.mem_of_getElem? (i := 6) rfl)), rfl⟩), rfl⟩
theorem kv_X7_isStone : Cond.selects RX7 yX7_isStone yX7_isStone ∈ bigW := List.mem_filter.mpr ⟨List.mem_append_left _ (List.mem_map.mpr ⟨_, (List.mem_append_left _ (List.mem_of_getElem? (i := 7) rfl)), rfl⟩), rfl⟩
theorem kv_X7_isFrog : Cond.selects RX7 yX7_isFrog yX7_isFrog ∈ bigW := List.mem_filter.mpr ⟨List.mem_append_left _ (List.mem_map.mpr ⟨_, (List.mem_append_left _ (List.mem_of_getElem? (i := 8) rfl)), rfl⟩), rfl⟩
theorem kv_X7_kindOfFrog : Cond.selects RX7 yX7_kindOfFrog yX7_kindOfFrog ∈ bigW := List.mem_filter.mpr ⟨List.mem_append_left _ (List.mem_map.mpr ⟨_, (List.mem_append_left _ (List.mem_of_getElem? (i := 9) rfl)), rfl⟩), rfl⟩
theorem kv_X7_hasBrook : Cond.selects RX7 yX7_hasBrook yX7_hasBrook ∈ bigW := List.mem_filter.mpr ⟨List.mem_append_left _ (List.mem_map.mpr ⟨_, (List.mem_append_left _ (List.mem_of_getElem? (i := 10) rfl)), rfl⟩), rfl⟩
theorem kv_X7_firstOfFewest : Cond.selects RX7 yX7_firstOfFewest yX7_firstOfFewest ∈ bigW := List.mem_filter.mpr ⟨List.mem_append_left _ (List.mem_map.mpr ⟨_, (List.mem_append_left _ (List.mem_of_getElem? (i := 11) rfl)), rfl⟩), rfl⟩
theorem kv_X7_firstWrong : Cond.selects RX7 yX7_firstWrong yX7_firstWrong ∈ bigW := List.mem_filter.mpr ⟨List.mem_append_left _ (List.mem_map.mpr ⟨_, (List.mem_append_left _ (List.mem_of_getElem? (i := 12) rfl)), rfl⟩), rfl⟩
theorem kv_X7_toTurnRound : Cond.selects RX7 yX7_toTurnRound yX7_toTurnRound ∈ bigW := List.mem_filter.mpr ⟨List.mem_append_left _ (List.mem_map.mpr ⟨_, (List.mem_append_left _ (List.mem_of_getElem? (i := 13) rfl)), rfl⟩), rfl⟩
theorem kv_X7_hasGame : Cond.selects RX7 yX7_hasGame yX7_hasGame ∈ bigW := List.mem_filter.mpr ⟨List.mem_append_left _ (List.mem_map.mpr ⟨_, (List.mem_append_left _ (List.mem_of_getElem? (i := 14) rfl)), rfl⟩), rfl⟩
theorem kv_X0_hasIt : Cond.selects RX0 yX0_hasIt yX0_hasIt ∈ bigW := List.mem_filter.mpr ⟨List.mem_append_left _ (List.mem_map.mpr ⟨_, (List.mem_append_left _ (List.mem_of_getElem? (i := 15) rfl)), rfl⟩), rfl⟩
theorem kv_X0_winningMove : Cond.selects RX0 yX0_winningMove yX0_winningMove ∈ bigW := List.mem_filter.mpr ⟨List.mem_append_left _ (List.mem_map.mpr ⟨_, (List.mem_append_right _ (List.mem_append_left _ (List.mem_of_getElem? (i := 0) rfl))), rfl⟩), rfl⟩
theorem kv_X8_readBrook : Cond.selects RX8 yX8_readBrook yX8_readBrook ∈ bigW := List.mem_filter.mpr ⟨List.mem_append_left _ (List.mem_map.mpr ⟨_, (List.mem_append_right _ (List.mem_append_left _ (List.mem_of_getElem? (i := 1) rfl))), rfl⟩), rfl⟩
theorem kv_X8_isStone : Cond.selects RX8 yX8_isStone yX8_isStone ∈ bigW := List.mem_filter.mpr ⟨List.mem_append_left _ (List.mem_map.mpr ⟨_, (List.mem_append_right _ (List.mem_append_left _ (List.mem_of_getElem? (i := 2) rfl))), rfl⟩), rfl⟩
theorem kv_X8_frogNow : Cond.selects RX8 yX8_frogNow yX8_frogNow ∈ bigW := List.mem_filter.mpr ⟨List.mem_append_left _ (List.mem_map.mpr ⟨_, (List.mem_append_right _ (List.mem_append_left _ (List.mem_of_getElem? (i := 3) rfl))), rfl⟩), rfl⟩
theorem kv_X8_stoneOf : Cond.selects RX8 yX8_stoneOf yX8_stoneOf ∈ bigW := List.mem_filter.mpr ⟨List.mem_append_left _ (List.mem_map.mpr ⟨_, (List.mem_append_right _ (List.mem_append_left _ (List.mem_of_getElem? (i := 4) rfl))), rfl⟩), rfl⟩
theorem kv_X8_movedMany : Cond.selects RX8 yX8_movedMany yX8_movedMany ∈ bigW := List.mem_filter.mpr ⟨List.mem_append_left _ (List.mem_map.mpr ⟨_, (List.mem_append_right _ (List.mem_append_left _ (List.mem_of_getElem? (i := 5) rfl))), rfl⟩), rfl⟩
theorem kv_X8_layNow : Cond.selects RX8 yX8_layNow yX8_layNow ∈ bigW := List.mem_filter.mpr ⟨List.mem_append_left _ (List.mem_map.mpr ⟨_, (List.mem_append_right _ (List.mem_append_left _ (List.mem_of_getElem? (i := 6) rfl))), rfl⟩), rfl⟩
theorem kv_X8_mayMove : Cond.selects RX8 yX8_mayMove yX8_mayMove ∈ bigW := List.mem_filter.mpr ⟨List.mem_append_left _ (List.mem_map.mpr ⟨_, (List.mem_append_right _ (List.mem_append_left _ (List.mem_of_getElem? (i := 7) rfl))), rfl⟩), rfl⟩
theorem kv_X8_mayWay : Cond.selects RX8 yX8_mayWay yX8_mayWay ∈ bigW := List.mem_filter.mpr ⟨List.mem_append_left _ (List.mem_map.mpr ⟨_, (List.mem_append_right _ (List.mem_append_left _ (List.mem_of_getElem? (i := 8) rfl))), rfl⟩), rfl⟩
theorem kv_X8_besides : Cond.selects RX8 yX8_besides yX8_besides ∈ bigW := List.mem_filter.mpr ⟨List.mem_append_left _ (List.mem_map.mpr ⟨_, (List.mem_append_right _ (List.mem_append_left _ (List.mem_of_getElem? (i := 9) rfl))), rfl⟩), rfl⟩
theorem kv_X8_mayOver : Cond.selects RX8 yX8_mayOver yX8_mayOver ∈ bigW := List.mem_filter.mpr ⟨List.mem_append_left _ (List.mem_map.mpr ⟨_, (List.mem_append_right _ (List.mem_append_left _ (List.mem_of_getElem? (i := 10) rfl))), rfl⟩), rfl⟩
theorem kv_X8_moveMany : Cond.selects RX8 yX8_moveMany yX8_moveMany ∈ bigW := List.mem_filter.mpr ⟨List.mem_append_left _ (List.mem_map.mpr ⟨_, (List.mem_append_right _ (List.mem_append_left _ (List.mem_of_getElem? (i := 11) rfl))), rfl⟩), rfl⟩
theorem kv_X8_moveNow : Cond.selects RX8 yX8_moveNow yX8_moveNow ∈ bigW := List.mem_filter.mpr ⟨List.mem_append_left _ (List.mem_map.mpr ⟨_, (List.mem_append_right _ (List.mem_append_left _ (List.mem_of_getElem? (i := 12) rfl))), rfl⟩), rfl⟩
theorem kv_X8_fewestNow : Cond.selects RX8 yX8_fewestNow yX8_fewestNow ∈ bigW := List.mem_filter.mpr ⟨List.mem_append_left _ (List.mem_map.mpr ⟨_, (List.mem_append_right _ (List.mem_append_left _ (List.mem_of_getElem? (i := 13) rfl))), rfl⟩), rfl⟩
theorem kv_X8_goal : Cond.selects RX8 yX8_goal yX8_goal ∈ bigW := List.mem_filter.mpr ⟨List.mem_append_left _ (List.mem_map.mpr ⟨_, (List.mem_append_right _ (List.mem_append_left _ (List.mem_of_getElem? (i := 14) rfl))), rfl⟩), rfl⟩
theorem kv_X8_layRead : Cond.selects RX8 yX8_layRead yX8_layRead ∈ bigW := List.mem_filter.mpr ⟨List.mem_append_left _ (List.mem_map.mpr ⟨_, (List.mem_append_right _ (List.mem_append_left _ (List.mem_of_getElem? (i := 15) rfl))), rfl⟩), rfl⟩
theorem kv_X8_turnedCode : Cond.selects RX8 yX8_turnedCode yX8_turnedCode ∈ bigW := List.mem_filter.mpr ⟨List.mem_append_left _ (List.mem_map.mpr ⟨_, (List.mem_append_right _ (List.mem_append_right _ (List.mem_append_left _ (List.mem_of_getElem? (i := 0) rfl)))), rfl⟩), rfl⟩
theorem kv_X8_farTo : Cond.selects RX8 yX8_farTo yX8_farTo ∈ bigW := List.mem_filter.mpr ⟨List.mem_append_left _ (List.mem_map.mpr ⟨_, (List.mem_append_right _ (List.mem_append_right _ (List.mem_append_left _ (List.mem_of_getElem? (i := 1) rfl)))), rfl⟩), rfl⟩
theorem kv_X8_layFar : Cond.selects RX8 yX8_layFar yX8_layFar ∈ bigW := List.mem_filter.mpr ⟨List.mem_append_left _ (List.mem_map.mpr ⟨_, (List.mem_append_right _ (List.mem_append_right _ (List.mem_append_left _ (List.mem_of_getElem? (i := 2) rfl)))), rfl⟩), rfl⟩
theorem kv_X8_codeOf : Cond.selects RX8 yX8_codeOf yX8_codeOf ∈ bigW := List.mem_filter.mpr ⟨List.mem_append_left _ (List.mem_map.mpr ⟨_, (List.mem_append_right _ (List.mem_append_right _ (List.mem_append_left _ (List.mem_of_getElem? (i := 3) rfl)))), rfl⟩), rfl⟩
theorem kv_X8_come : Cond.selects RX8 yX8_come yX8_come ∈ bigW := List.mem_filter.mpr ⟨List.mem_append_left _ (List.mem_map.mpr ⟨_, (List.mem_append_right _ (List.mem_append_right _ (List.mem_append_left _ (List.mem_of_getElem? (i := 4) rfl)))), rfl⟩), rfl⟩
theorem kv_X8_layRow : Cond.selects RX8 yX8_layRow yX8_layRow ∈ bigW := List.mem_filter.mpr ⟨List.mem_append_left _ (List.mem_map.mpr ⟨_, (List.mem_append_right _ (List.mem_append_right _ (List.mem_append_left _ (List.mem_of_getElem? (i := 5) rfl)))), rfl⟩), rfl⟩
theorem kv_X8_waysNow : Cond.selects RX8 yX8_waysNow yX8_waysNow ∈ bigW := List.mem_filter.mpr ⟨List.mem_append_left _ (List.mem_map.mpr ⟨_, (List.mem_append_right _ (List.mem_append_right _ (List.mem_append_left _ (List.mem_of_getElem? (i := 6) rfl)))), rfl⟩), rfl⟩
theorem kv_X8_wrongNow : Cond.selects RX8 yX8_wrongNow yX8_wrongNow ∈ bigW := List.mem_filter.mpr ⟨List.mem_append_left _ (List.mem_map.mpr ⟨_, (List.mem_append_right _ (List.mem_append_right _ (List.mem_append_left _ (List.mem_of_getElem? (i := 7) rfl)))), rfl⟩), rfl⟩
theorem kv_X8_layEnds : Cond.selects RX8 yX8_layEnds yX8_layEnds ∈ bigW := List.mem_filter.mpr ⟨List.mem_append_left _ (List.mem_map.mpr ⟨_, (List.mem_append_right _ (List.mem_append_right _ (List.mem_append_left _ (List.mem_of_getElem? (i := 8) rfl)))), rfl⟩), rfl⟩
theorem kv_X8_moreNow : Cond.selects RX8 yX8_moreNow yX8_moreNow ∈ bigW := List.mem_filter.mpr ⟨List.mem_append_left _ (List.mem_map.mpr ⟨_, (List.mem_append_right _ (List.mem_append_right _ (List.mem_append_left _ (List.mem_of_getElem? (i := 9) rfl)))), rfl⟩), rfl⟩
theorem kv_X8_turns : Cond.selects RX8 yX8_turns yX8_turns ∈ bigW := List.mem_filter.mpr ⟨List.mem_append_left _ (List.mem_map.mpr ⟨_, (List.mem_append_right _ (List.mem_append_right _ (List.mem_append_left _ (List.mem_of_getElem? (i := 10) rfl)))), rfl⟩), rfl⟩
theorem kv_X8_offNow : Cond.selects RX8 yX8_offNow yX8_offNow ∈ bigW := List.mem_filter.mpr ⟨List.mem_append_left _ (List.mem_map.mpr ⟨_, (List.mem_append_right _ (List.mem_append_right _ (List.mem_append_left _ (List.mem_of_getElem? (i := 11) rfl)))), rfl⟩), rfl⟩
theorem kv_X8_isGame : Cond.selects RX8 yX8_isGame yX8_isGame ∈ bigW := List.mem_filter.mpr ⟨List.mem_append_left _ (List.mem_map.mpr ⟨_, (List.mem_append_right _ (List.mem_append_right _ (List.mem_append_left _ (List.mem_of_getElem? (i := 12) rfl)))), rfl⟩), rfl⟩
theorem kv_X8_winsNow : Cond.selects RX8 yX8_winsNow yX8_winsNow ∈ bigW := List.mem_filter.mpr ⟨List.mem_append_left _ (List.mem_map.mpr ⟨_, (List.mem_append_right _ (List.mem_append_right _ (List.mem_append_left _ (List.mem_of_getElem? (i := 13) rfl)))), rfl⟩), rfl⟩
theorem kv_X8_layGame : Cond.selects RX8 yX8_layGame yX8_layGame ∈ bigW := List.mem_filter.mpr ⟨List.mem_append_left _ (List.mem_map.mpr ⟨_, (List.mem_append_right _ (List.mem_append_right _ (List.mem_append_left _ (List.mem_of_getElem? (i := 14) rfl)))), rfl⟩), rfl⟩
theorem kv_X8_progress : Cond.selects RX8 yX8_progress yX8_progress ∈ bigW := List.mem_filter.mpr ⟨List.mem_append_left _ (List.mem_map.mpr ⟨_, (List.mem_append_right _ (List.mem_append_right _ (List.mem_append_left _ (List.mem_of_getElem? (i := 15) rfl)))), rfl⟩), rfl⟩
theorem kv_X8_winsBy : Cond.selects RX8 yX8_winsBy yX8_winsBy ∈ bigW := List.mem_filter.mpr ⟨List.mem_append_left _ (List.mem_map.mpr ⟨_, (List.mem_append_right _ (List.mem_append_right _ (List.mem_append_right _ (List.mem_of_getElem? (i := 0) rfl)))), rfl⟩), rfl⟩
theorem kv_X8_isOf : Cond.selects RX8 yX8_isOf yX8_isOf ∈ bigW := List.mem_filter.mpr ⟨List.mem_append_left _ (List.mem_map.mpr ⟨_, (List.mem_append_right _ (List.mem_append_right _ (List.mem_append_right _ (List.mem_of_getElem? (i := 1) rfl)))), rfl⟩), rfl⟩
theorem kv_X8_byNow : Cond.selects RX8 yX8_byNow yX8_byNow ∈ bigW := List.mem_filter.mpr ⟨List.mem_append_left _ (List.mem_map.mpr ⟨_, (List.mem_append_right _ (List.mem_append_right _ (List.mem_append_right _ (List.mem_of_getElem? (i := 2) rfl)))), rfl⟩), rfl⟩
theorem kv_X8_playNow : Cond.selects RX8 yX8_playNow yX8_playNow ∈ bigW := List.mem_filter.mpr ⟨List.mem_append_left _ (List.mem_map.mpr ⟨_, (List.mem_append_right _ (List.mem_append_right _ (List.mem_append_right _ (List.mem_of_getElem? (i := 3) rfl)))), rfl⟩), rfl⟩
theorem kv_X8_draw : Cond.selects RX8 yX8_draw yX8_draw ∈ bigW := List.mem_filter.mpr ⟨List.mem_append_left _ (List.mem_map.mpr ⟨_, (List.mem_append_right _ (List.mem_append_right _ (List.mem_append_right _ (List.mem_of_getElem? (i := 4) rfl)))), rfl⟩), rfl⟩
theorem kv_X8_goMove : Cond.selects RX8 yX8_goMove yX8_goMove ∈ bigW := List.mem_filter.mpr ⟨List.mem_append_left _ (List.mem_map.mpr ⟨_, (List.mem_append_right _ (List.mem_append_right _ (List.mem_append_right _ (List.mem_of_getElem? (i := 5) rfl)))), rfl⟩), rfl⟩
theorem kv_X8_howMany : Cond.selects RX8 yX8_howMany yX8_howMany ∈ bigW := List.mem_filter.mpr ⟨List.mem_append_left _ (List.mem_map.mpr ⟨_, (List.mem_append_right _ (List.mem_append_right _ (List.mem_append_right _ (List.mem_of_getElem? (i := 6) rfl)))), rfl⟩), rfl⟩
theorem kv_X8_mix : Cond.selects RX8 yX8_mix yX8_mix ∈ bigW := List.mem_filter.mpr ⟨List.mem_append_left _ (List.mem_map.mpr ⟨_, (List.mem_append_right _ (List.mem_append_right _ (List.mem_append_right _ (List.mem_of_getElem? (i := 7) rfl)))), rfl⟩), rfl⟩
theorem kv_X8_mixBrook : Cond.selects RX8 yX8_mixBrook yX8_mixBrook ∈ bigW := List.mem_filter.mpr ⟨List.mem_append_left _ (List.mem_map.mpr ⟨_, (List.mem_append_right _ (List.mem_append_right _ (List.mem_append_right _ (List.mem_of_getElem? (i := 8) rfl)))), rfl⟩), rfl⟩
theorem kw_X0_0 : u_lay RX0 TX0 0 ∈ bigW := List.mem_filter.mpr ⟨List.mem_append_right _ (List.mem_append_left _ (List.mem_of_getElem? (i := 143) rfl)), rfl⟩
theorem kw_X0_1 : u_lay RX0 TX0 1 ∈ bigW := List.mem_filter.mpr ⟨List.mem_append_right _ (List.mem_append_left _ (List.mem_of_getElem? (i := 145) rfl)), rfl⟩
theorem inX0 : ∀ w ∈ u_ws RX0 TX0 2, w ∈ bigW := by
  intro w hw
  obtain ⟨k, hk, rfl⟩ := List.mem_map.mp hw
  have hk2 := List.mem_range.mp hk
  match k, hk2 with
  | 0, _ => exact kw_X0_0
  | 1, _ => exact kw_X0_1
  | n + 2, h => exact absurd h (by omega)
theorem kw_X1_0 : u_lay RX1 TX1 0 ∈ bigW := List.mem_filter.mpr ⟨List.mem_append_right _ (List.mem_append_left _ (List.mem_of_getElem? (i := 30) rfl)), rfl⟩
theorem kw_X1_1 : u_lay RX1 TX1 1 ∈ bigW := List.mem_filter.mpr ⟨List.mem_append_right _ (List.mem_append_left _ (List.mem_of_getElem? (i := 32) rfl)), rfl⟩
theorem inX1 : ∀ w ∈ u_ws RX1 TX1 2, w ∈ bigW := by
  intro w hw
  obtain ⟨k, hk, rfl⟩ := List.mem_map.mp hw
  have hk2 := List.mem_range.mp hk
  match k, hk2 with
  | 0, _ => exact kw_X1_0
  | 1, _ => exact kw_X1_1
  | n + 2, h => exact absurd h (by omega)
theorem kw_X2_0 : u_lay RX2 TX2 0 ∈ bigW := List.mem_filter.mpr ⟨List.mem_append_right _ (List.mem_append_left _ (List.mem_of_getElem? (i := 80) rfl)), rfl⟩
theorem kw_X2_1 : u_lay RX2 TX2 1 ∈ bigW := List.mem_filter.mpr ⟨List.mem_append_right _ (List.mem_append_left _ (List.mem_of_getElem? (i := 82) rfl)), rfl⟩
theorem kw_X2_2 : u_lay RX2 TX2 2 ∈ bigW := List.mem_filter.mpr ⟨List.mem_append_right _ (List.mem_append_left _ (List.mem_of_getElem? (i := 84) rfl)), rfl⟩
theorem kw_X2_3 : u_lay RX2 TX2 3 ∈ bigW := List.mem_filter.mpr ⟨List.mem_append_right _ (List.mem_append_left _ (List.mem_of_getElem? (i := 86) rfl)), rfl⟩
theorem kw_X2_4 : u_lay RX2 TX2 4 ∈ bigW := List.mem_filter.mpr ⟨List.mem_append_right _ (List.mem_append_left _ (List.mem_of_getElem? (i := 88) rfl)), rfl⟩
theorem inX2 : ∀ w ∈ u_ws RX2 TX2 5, w ∈ bigW := by
  intro w hw
  obtain ⟨k, hk, rfl⟩ := List.mem_map.mp hw
  have hk2 := List.mem_range.mp hk
  match k, hk2 with
  | 0, _ => exact kw_X2_0
  | 1, _ => exact kw_X2_1
  | 2, _ => exact kw_X2_2
  | 3, _ => exact kw_X2_3
  | 4, _ => exact kw_X2_4
  | n + 5, h => exact absurd h (by omega)
theorem kw_X4_0 : u_lay RX4 TX4 0 ∈ bigW := List.mem_filter.mpr ⟨List.mem_append_right _ (List.mem_append_left _ (List.mem_of_getElem? (i := 52) rfl)), rfl⟩
theorem kw_X4_1 : u_lay RX4 TX4 1 ∈ bigW := List.mem_filter.mpr ⟨List.mem_append_right _ (List.mem_append_left _ (List.mem_of_getElem? (i := 54) rfl)), rfl⟩
theorem kw_X4_2 : u_lay RX4 TX4 2 ∈ bigW := List.mem_filter.mpr ⟨List.mem_append_right _ (List.mem_append_left _ (List.mem_of_getElem? (i := 56) rfl)), rfl⟩
theorem kw_X4_3 : u_lay RX4 TX4 3 ∈ bigW := List.mem_filter.mpr ⟨List.mem_append_right _ (List.mem_append_left _ (List.mem_of_getElem? (i := 58) rfl)), rfl⟩
theorem kw_X4_4 : u_lay RX4 TX4 4 ∈ bigW := List.mem_filter.mpr ⟨List.mem_append_right _ (List.mem_append_left _ (List.mem_of_getElem? (i := 60) rfl)), rfl⟩
theorem kw_X4_5 : u_lay RX4 TX4 5 ∈ bigW := List.mem_filter.mpr ⟨List.mem_append_right _ (List.mem_append_left _ (List.mem_of_getElem? (i := 62) rfl)), rfl⟩
theorem inX4 : ∀ w ∈ u_ws RX4 TX4 6, w ∈ bigW := by
  intro w hw
  obtain ⟨k, hk, rfl⟩ := List.mem_map.mp hw
  have hk2 := List.mem_range.mp hk
  match k, hk2 with
  | 0, _ => exact kw_X4_0
  | 1, _ => exact kw_X4_1
  | 2, _ => exact kw_X4_2
  | 3, _ => exact kw_X4_3
  | 4, _ => exact kw_X4_4
  | 5, _ => exact kw_X4_5
  | n + 6, h => exact absurd h (by omega)
theorem kw_X5_0 : u_lay RX5 TX5 0 ∈ bigW := List.mem_filter.mpr ⟨List.mem_append_right _ (List.mem_append_left _ (List.mem_of_getElem? (i := 122) rfl)), rfl⟩
theorem kw_X5_1 : u_lay RX5 TX5 1 ∈ bigW := List.mem_filter.mpr ⟨List.mem_append_right _ (List.mem_append_left _ (List.mem_of_getElem? (i := 124) rfl)), rfl⟩
theorem kw_X5_2 : u_lay RX5 TX5 2 ∈ bigW := List.mem_filter.mpr ⟨List.mem_append_right _ (List.mem_append_left _ (List.mem_of_getElem? (i := 126) rfl)), rfl⟩
theorem kw_X5_3 : u_lay RX5 TX5 3 ∈ bigW := List.mem_filter.mpr ⟨List.mem_append_right _ (List.mem_append_left _ (List.mem_of_getElem? (i := 128) rfl)), rfl⟩
theorem kw_X5_4 : u_lay RX5 TX5 4 ∈ bigW := List.mem_filter.mpr ⟨List.mem_append_right _ (List.mem_append_left _ (List.mem_of_getElem? (i := 130) rfl)), rfl⟩
theorem inX5 : ∀ w ∈ u_ws RX5 TX5 5, w ∈ bigW := by
  intro w hw
  obtain ⟨k, hk, rfl⟩ := List.mem_map.mp hw
  have hk2 := List.mem_range.mp hk
  match k, hk2 with
  | 0, _ => exact kw_X5_0
  | 1, _ => exact kw_X5_1
  | 2, _ => exact kw_X5_2
  | 3, _ => exact kw_X5_3
  | 4, _ => exact kw_X5_4
  | n + 5, h => exact absurd h (by omega)
theorem kw_X6_0 : u_lay RX6 TX6 0 ∈ bigW := List.mem_filter.mpr ⟨List.mem_append_right _ (List.mem_append_left _ (List.mem_of_getElem? (i := 108) rfl)), rfl⟩
theorem kw_X6_1 : u_lay RX6 TX6 1 ∈ bigW := List.mem_filter.mpr ⟨List.mem_append_right _ (List.mem_append_left _ (List.mem_of_getElem? (i := 110) rfl)), rfl⟩
theorem kw_X6_2 : u_lay RX6 TX6 2 ∈ bigW := List.mem_filter.mpr ⟨List.mem_append_right _ (List.mem_append_left _ (List.mem_of_getElem? (i := 112) rfl)), rfl⟩
theorem inX6 : ∀ w ∈ u_ws RX6 TX6 3, w ∈ bigW := by
  intro w hw
  obtain ⟨k, hk, rfl⟩ := List.mem_map.mp hw
  have hk2 := List.mem_range.mp hk
  match k, hk2 with
  | 0, _ => exact kw_X6_0
  | 1, _ => exact kw_X6_1
  | 2, _ => exact kw_X6_2
  | n + 3, h => exact absurd h (by omega)
theorem kw_X7_0 : u_lay RX7 TX7 0 ∈ bigW := List.mem_filter.mpr ⟨List.mem_append_right _ (List.mem_append_left _ (List.mem_of_getElem? (i := 161) rfl)), rfl⟩
theorem kw_X7_1 : u_lay RX7 TX7 1 ∈ bigW := List.mem_filter.mpr ⟨List.mem_append_right _ (List.mem_append_left _ (List.mem_of_getElem? (i := 163) rfl)), rfl⟩
theorem kw_X7_2 : u_lay RX7 TX7 2 ∈ bigW := List.mem_filter.mpr ⟨List.mem_append_right _ (List.mem_append_left _ (List.mem_of_getElem? (i := 165) rfl)), rfl⟩
theorem kw_X7_3 : u_lay RX7 TX7 3 ∈ bigW := List.mem_filter.mpr ⟨List.mem_append_right _ (List.mem_append_left _ (List.mem_of_getElem? (i := 167) rfl)), rfl⟩
theorem kw_X7_4 : u_lay RX7 TX7 4 ∈ bigW := List.mem_filter.mpr ⟨List.mem_append_right _ (List.mem_append_left _ (List.mem_of_getElem? (i := 169) rfl)), rfl⟩
theorem kw_X7_5 : u_lay RX7 TX7 5 ∈ bigW := List.mem_filter.mpr ⟨List.mem_append_right _ (List.mem_append_left _ (List.mem_of_getElem? (i := 171) rfl)), rfl⟩
theorem kw_X7_6 : u_lay RX7 TX7 6 ∈ bigW := List.mem_filter.mpr ⟨List.mem_append_right _ (List.mem_append_left _ (List.mem_of_getElem? (i := 173) rfl)), rfl⟩
theorem kw_X7_7 : u_lay RX7 TX7 7 ∈ bigW := List.mem_filter.mpr ⟨List.mem_append_right _ (List.mem_append_left _ (List.mem_of_getElem? (i := 175) rfl)), rfl⟩
theorem kw_X7_8 : u_lay RX7 TX7 8 ∈ bigW := List.mem_filter.mpr ⟨List.mem_append_right _ (List.mem_append_left _ (List.mem_of_getElem? (i := 177) rfl)), rfl⟩
theorem kw_X7_9 : u_lay RX7 TX7 9 ∈ bigW := List.mem_filter.mpr ⟨List.mem_append_right _ (List.mem_append_left _ (List.mem_of_getElem? (i := 179) rfl)), rfl⟩
theorem kw_X7_10 : u_lay RX7 TX7 10 ∈ bigW := List.mem_filter.mpr ⟨List.mem_append_right _ (List.mem_append_left _ (List.mem_of_getElem? (i := 181) rfl)), rfl⟩
theorem kw_X7_11 : u_lay RX7 TX7 11 ∈ bigW := List.mem_filter.mpr ⟨List.mem_append_right _ (List.mem_append_left _ (List.mem_of_getElem? (i := 183) rfl)), rfl⟩
theorem kw_X7_12 : u_lay RX7 TX7 12 ∈ bigW := List.mem_filter.mpr ⟨List.mem_append_right _ (List.mem_append_left _ (List.mem_of_getElem? (i := 185) rfl)), rfl⟩
theorem inX7 : ∀ w ∈ u_ws RX7 TX7 13, w ∈ bigW := by
  intro w hw
  obtain ⟨k, hk, rfl⟩ := List.mem_map.mp hw
  have hk2 := List.mem_range.mp hk
  match k, hk2 with
  | 0, _ => exact kw_X7_0
  | 1, _ => exact kw_X7_1
  | 2, _ => exact kw_X7_2
  | 3, _ => exact kw_X7_3
  | 4, _ => exact kw_X7_4
  | 5, _ => exact kw_X7_5
  | 6, _ => exact kw_X7_6
  | 7, _ => exact kw_X7_7
  | 8, _ => exact kw_X7_8
  | 9, _ => exact kw_X7_9
  | 10, _ => exact kw_X7_10
  | 11, _ => exact kw_X7_11
  | 12, _ => exact kw_X7_12
  | n + 13, h => exact absurd h (by omega)
theorem kw_X8_0 : u_lay RX8 TX8 0 ∈ bigW := List.mem_filter.mpr ⟨List.mem_append_right _ (List.mem_append_right _ (List.mem_append_right _ (List.mem_append_left _ (List.mem_of_getElem? (i := 127) rfl)))), rfl⟩
theorem kw_X8_1 : u_lay RX8 TX8 1 ∈ bigW := List.mem_filter.mpr ⟨List.mem_append_right _ (List.mem_append_right _ (List.mem_append_right _ (List.mem_append_left _ (List.mem_of_getElem? (i := 129) rfl)))), rfl⟩
theorem kw_X8_2 : u_lay RX8 TX8 2 ∈ bigW := List.mem_filter.mpr ⟨List.mem_append_right _ (List.mem_append_right _ (List.mem_append_right _ (List.mem_append_left _ (List.mem_of_getElem? (i := 131) rfl)))), rfl⟩
theorem kw_X8_3 : u_lay RX8 TX8 3 ∈ bigW := List.mem_filter.mpr ⟨List.mem_append_right _ (List.mem_append_right _ (List.mem_append_right _ (List.mem_append_left _ (List.mem_of_getElem? (i := 133) rfl)))), rfl⟩
theorem kw_X8_4 : u_lay RX8 TX8 4 ∈ bigW := List.mem_filter.mpr ⟨List.mem_append_right _ (List.mem_append_right _ (List.mem_append_right _ (List.mem_append_left _ (List.mem_of_getElem? (i := 135) rfl)))), rfl⟩
theorem kw_X8_5 : u_lay RX8 TX8 5 ∈ bigW := List.mem_filter.mpr ⟨List.mem_append_right _ (List.mem_append_right _ (List.mem_append_right _ (List.mem_append_left _ (List.mem_of_getElem? (i := 137) rfl)))), rfl⟩
theorem kw_X8_6 : u_lay RX8 TX8 6 ∈ bigW := List.mem_filter.mpr ⟨List.mem_append_right _ (List.mem_append_right _ (List.mem_append_right _ (List.mem_append_left _ (List.mem_of_getElem? (i := 139) rfl)))), rfl⟩
theorem kw_X8_7 : u_lay RX8 TX8 7 ∈ bigW := List.mem_filter.mpr ⟨List.mem_append_right _ (List.mem_append_right _ (List.mem_append_right _ (List.mem_append_left _ (List.mem_of_getElem? (i := 141) rfl)))), rfl⟩
theorem kw_X8_8 : u_lay RX8 TX8 8 ∈ bigW := List.mem_filter.mpr ⟨List.mem_append_right _ (List.mem_append_right _ (List.mem_append_right _ (List.mem_append_left _ (List.mem_of_getElem? (i := 143) rfl)))), rfl⟩
theorem kw_X8_9 : u_lay RX8 TX8 9 ∈ bigW := List.mem_filter.mpr ⟨List.mem_append_right _ (List.mem_append_right _ (List.mem_append_right _ (List.mem_append_left _ (List.mem_of_getElem? (i := 145) rfl)))), rfl⟩
theorem kw_X8_10 : u_lay RX8 TX8 10 ∈ bigW := List.mem_filter.mpr ⟨List.mem_append_right _ (List.mem_append_right _ (List.mem_append_right _ (List.mem_append_left _ (List.mem_of_getElem? (i := 147) rfl)))), rfl⟩
theorem kw_X8_11 : u_lay RX8 TX8 11 ∈ bigW := List.mem_filter.mpr ⟨List.mem_append_right _ (List.mem_append_right _ (List.mem_append_right _ (List.mem_append_left _ (List.mem_of_getElem? (i := 149) rfl)))), rfl⟩
theorem kw_X8_12 : u_lay RX8 TX8 12 ∈ bigW := List.mem_filter.mpr ⟨List.mem_append_right _ (List.mem_append_right _ (List.mem_append_right _ (List.mem_append_left _ (List.mem_of_getElem? (i := 151) rfl)))), rfl⟩
theorem kw_X8_13 : u_lay RX8 TX8 13 ∈ bigW := List.mem_filter.mpr ⟨List.mem_append_right _ (List.mem_append_right _ (List.mem_append_right _ (List.mem_append_left _ (List.mem_of_getElem? (i := 153) rfl)))), rfl⟩
theorem kw_X8_14 : u_lay RX8 TX8 14 ∈ bigW := List.mem_filter.mpr ⟨List.mem_append_right _ (List.mem_append_right _ (List.mem_append_right _ (List.mem_append_left _ (List.mem_of_getElem? (i := 155) rfl)))), rfl⟩
theorem kw_X8_15 : u_lay RX8 TX8 15 ∈ bigW := List.mem_filter.mpr ⟨List.mem_append_right _ (List.mem_append_right _ (List.mem_append_right _ (List.mem_append_left _ (List.mem_of_getElem? (i := 157) rfl)))), rfl⟩
theorem kw_X8_16 : u_lay RX8 TX8 16 ∈ bigW := List.mem_filter.mpr ⟨List.mem_append_right _ (List.mem_append_right _ (List.mem_append_right _ (List.mem_append_left _ (List.mem_of_getElem? (i := 159) rfl)))), rfl⟩
theorem kw_X8_17 : u_lay RX8 TX8 17 ∈ bigW := List.mem_filter.mpr ⟨List.mem_append_right _ (List.mem_append_right _ (List.mem_append_right _ (List.mem_append_left _ (List.mem_of_getElem? (i := 161) rfl)))), rfl⟩
theorem kw_X8_18 : u_lay RX8 TX8 18 ∈ bigW := List.mem_filter.mpr ⟨List.mem_append_right _ (List.mem_append_right _ (List.mem_append_right _ (List.mem_append_left _ (List.mem_of_getElem? (i := 163) rfl)))), rfl⟩
theorem kw_X8_19 : u_lay RX8 TX8 19 ∈ bigW := List.mem_filter.mpr ⟨List.mem_append_right _ (List.mem_append_right _ (List.mem_append_right _ (List.mem_append_left _ (List.mem_of_getElem? (i := 165) rfl)))), rfl⟩
theorem kw_X8_20 : u_lay RX8 TX8 20 ∈ bigW := List.mem_filter.mpr ⟨List.mem_append_right _ (List.mem_append_right _ (List.mem_append_right _ (List.mem_append_left _ (List.mem_of_getElem? (i := 167) rfl)))), rfl⟩
theorem kw_X8_21 : u_lay RX8 TX8 21 ∈ bigW := List.mem_filter.mpr ⟨List.mem_append_right _ (List.mem_append_right _ (List.mem_append_right _ (List.mem_append_left _ (List.mem_of_getElem? (i := 169) rfl)))), rfl⟩
theorem kw_X8_22 : u_lay RX8 TX8 22 ∈ bigW := List.mem_filter.mpr ⟨List.mem_append_right _ (List.mem_append_right _ (List.mem_append_right _ (List.mem_append_left _ (List.mem_of_getElem? (i := 171) rfl)))), rfl⟩
theorem kw_X8_23 : u_lay RX8 TX8 23 ∈ bigW := List.mem_filter.mpr ⟨List.mem_append_right _ (List.mem_append_right _ (List.mem_append_right _ (List.mem_append_left _ (List.mem_of_getElem? (i := 173) rfl)))), rfl⟩
theorem kw_X8_24 : u_lay RX8 TX8 24 ∈ bigW := List.mem_filter.mpr ⟨List.mem_append_right _ (List.mem_append_right _ (List.mem_append_right _ (List.mem_append_left _ (List.mem_of_getElem? (i := 175) rfl)))), rfl⟩
theorem kw_X8_25 : u_lay RX8 TX8 25 ∈ bigW := List.mem_filter.mpr ⟨List.mem_append_right _ (List.mem_append_right _ (List.mem_append_right _ (List.mem_append_left _ (List.mem_of_getElem? (i := 177) rfl)))), rfl⟩
theorem kw_X8_26 : u_lay RX8 TX8 26 ∈ bigW := List.mem_filter.mpr ⟨List.mem_append_right _ (List.mem_append_right _ (List.mem_append_right _ (List.mem_append_left _ (List.mem_of_getElem? (i := 179) rfl)))), rfl⟩
theorem kw_X8_27 : u_lay RX8 TX8 27 ∈ bigW := List.mem_filter.mpr ⟨List.mem_append_right _ (List.mem_append_right _ (List.mem_append_right _ (List.mem_append_left _ (List.mem_of_getElem? (i := 181) rfl)))), rfl⟩
theorem kw_X8_28 : u_lay RX8 TX8 28 ∈ bigW := List.mem_filter.mpr ⟨List.mem_append_right _ (List.mem_append_right _ (List.mem_append_right _ (List.mem_append_left _ (List.mem_of_getElem? (i := 183) rfl)))), rfl⟩
theorem kw_X8_29 : u_lay RX8 TX8 29 ∈ bigW := List.mem_filter.mpr ⟨List.mem_append_right _ (List.mem_append_right _ (List.mem_append_right _ (List.mem_append_left _ (List.mem_of_getElem? (i := 185) rfl)))), rfl⟩
theorem kw_X8_30 : u_lay RX8 TX8 30 ∈ bigW := List.mem_filter.mpr ⟨List.mem_append_right _ (List.mem_append_right _ (List.mem_append_right _ (List.mem_append_left _ (List.mem_of_getElem? (i := 187) rfl)))), rfl⟩
theorem kw_X8_31 : u_lay RX8 TX8 31 ∈ bigW := List.mem_filter.mpr ⟨List.mem_append_right _ (List.mem_append_right _ (List.mem_append_right _ (List.mem_append_left _ (List.mem_of_getElem? (i := 189) rfl)))), rfl⟩
theorem kw_X8_32 : u_lay RX8 TX8 32 ∈ bigW := List.mem_filter.mpr ⟨List.mem_append_right _ (List.mem_append_right _ (List.mem_append_right _ (List.mem_append_left _ (List.mem_of_getElem? (i := 191) rfl)))), rfl⟩
theorem kw_X8_33 : u_lay RX8 TX8 33 ∈ bigW := List.mem_filter.mpr ⟨List.mem_append_right _ (List.mem_append_right _ (List.mem_append_right _ (List.mem_append_left _ (List.mem_of_getElem? (i := 193) rfl)))), rfl⟩
theorem kw_X8_34 : u_lay RX8 TX8 34 ∈ bigW := List.mem_filter.mpr ⟨List.mem_append_right _ (List.mem_append_right _ (List.mem_append_right _ (List.mem_append_left _ (List.mem_of_getElem? (i := 195) rfl)))), rfl⟩
theorem kw_X8_35 : u_lay RX8 TX8 35 ∈ bigW := List.mem_filter.mpr ⟨List.mem_append_right _ (List.mem_append_right _ (List.mem_append_right _ (List.mem_append_left _ (List.mem_of_getElem? (i := 197) rfl)))), rfl⟩
theorem kw_X8_36 : u_lay RX8 TX8 36 ∈ bigW := List.mem_filter.mpr ⟨List.mem_append_right _ (List.mem_append_right _ (List.mem_append_right _ (List.mem_append_left _ (List.mem_of_getElem? (i := 199) rfl)))), rfl⟩
theorem kw_X8_37 : u_lay RX8 TX8 37 ∈ bigW := List.mem_filter.mpr ⟨List.mem_append_right _ (List.mem_append_right _ (List.mem_append_right _ (List.mem_append_left _ (List.mem_of_getElem? (i := 201) rfl)))), rfl⟩
theorem kw_X8_38 : u_lay RX8 TX8 38 ∈ bigW := List.mem_filter.mpr ⟨List.mem_append_right _ (List.mem_append_right _ (List.mem_append_right _ (List.mem_append_left _ (List.mem_of_getElem? (i := 203) rfl)))), rfl⟩
theorem inX8 : ∀ w ∈ u_ws RX8 TX8 39, w ∈ bigW := by
  intro w hw
  obtain ⟨k, hk, rfl⟩ := List.mem_map.mp hw
  have hk2 := List.mem_range.mp hk
  match k, hk2 with
  | 0, _ => exact kw_X8_0
  | 1, _ => exact kw_X8_1
  | 2, _ => exact kw_X8_2
  | 3, _ => exact kw_X8_3
  | 4, _ => exact kw_X8_4
  | 5, _ => exact kw_X8_5
  | 6, _ => exact kw_X8_6
  | 7, _ => exact kw_X8_7
  | 8, _ => exact kw_X8_8
  | 9, _ => exact kw_X8_9
  | 10, _ => exact kw_X8_10
  | 11, _ => exact kw_X8_11
  | 12, _ => exact kw_X8_12
  | 13, _ => exact kw_X8_13
  | 14, _ => exact kw_X8_14
  | 15, _ => exact kw_X8_15
  | 16, _ => exact kw_X8_16
  | 17, _ => exact kw_X8_17
  | 18, _ => exact kw_X8_18
  | 19, _ => exact kw_X8_19
  | 20, _ => exact kw_X8_20
  | 21, _ => exact kw_X8_21
  | 22, _ => exact kw_X8_22
  | 23, _ => exact kw_X8_23
  | 24, _ => exact kw_X8_24
  | 25, _ => exact kw_X8_25
  | 26, _ => exact kw_X8_26
  | 27, _ => exact kw_X8_27
  | 28, _ => exact kw_X8_28
  | 29, _ => exact kw_X8_29
  | 30, _ => exact kw_X8_30
  | 31, _ => exact kw_X8_31
  | 32, _ => exact kw_X8_32
  | 33, _ => exact kw_X8_33
  | 34, _ => exact kw_X8_34
  | 35, _ => exact kw_X8_35
  | 36, _ => exact kw_X8_36
  | 37, _ => exact kw_X8_37
  | 38, _ => exact kw_X8_38
  | n + 39, h => exact absurd h (by omega)
def nestF : List (String × Nat × String × String × String × String) := [("FrogsChangeSides", 279, "FrogsChangeSides$Page", "codes", "[I", "FrogsChangeSides"), ("FrogsChangeSides", 57, "FrogsChangeSides$Page", "size", "I", "FrogsChangeSides"), ("FrogsChangeSides", 89, "FrogsChangeSides$Rules", "stones", "I", "FrogsChangeSides"), ("FrogsChangeSides", 199, "FrogsChangeSides$Rules", "signs", "I", "FrogsChangeSides"), ("FrogsChangeSides", 286, "FrogsChangeSides$Rules", "back", "Z", "FrogsChangeSides"), ("FrogsChangeSides", 289, "FrogsChangeSides$Rules", "ring", "Z", "FrogsChangeSides"), ("FrogsChangeSides", 295, "FrogsChangeSides$Position", "made", "[I", "FrogsChangeSides"), ("FrogsChangeSides", 132, "FrogsChangeSides$Position", "row", "I", "FrogsChangeSides"), ("FrogsChangeSides", 137, "FrogsChangeSides$Position", "numbers", "I", "FrogsChangeSides"), ("FrogsChangeSides", 165, "FrogsChangeSides$Position", "size", "I", "FrogsChangeSides"), ("FrogsChangeSides$Search", 42, "FrogsChangeSides$Table", "rows", "[I", "FrogsChangeSides"), ("FrogsChangeSides$Search", 39, "FrogsChangeSides$Table", "size", "I", "FrogsChangeSides"), ("FrogsChangeSides", 190, "FrogsChangeSides$Search", "stuckRows", "I", "FrogsChangeSides"), ("FrogsChangeSides", 193, "FrogsChangeSides$Search", "soonestStuck", "I", "FrogsChangeSides")]
def nestM : List (String × Nat × MethodName × String) := [("FrogsChangeSides", 9, ⟨"FrogsChangeSides$Page", "<init>", "()V"⟩, "FrogsChangeSides"), ("FrogsChangeSides", 18, ⟨"FrogsChangeSides$Rules", "<init>", "()V"⟩, "FrogsChangeSides"), ("FrogsChangeSides", 28, ⟨"FrogsChangeSides$Position", "<init>", "()V"⟩, "FrogsChangeSides"), ("FrogsChangeSides", 38, ⟨"FrogsChangeSides$Search", "<init>", "()V"⟩, "FrogsChangeSides"), ("FrogsChangeSides$Search", 11, ⟨"FrogsChangeSides$Table", "<init>", "()V"⟩, "FrogsChangeSides"), ("FrogsChangeSides", 48, ⟨"FrogsChangeSides$Game", "<init>", "()V"⟩, "FrogsChangeSides"), ("FrogsChangeSides$Game", 11, ⟨"FrogsChangeSides$Table", "<init>", "()V"⟩, "FrogsChangeSides"), ("FrogsChangeSides", 218, ⟨"FrogsChangeSides$Game", "hasIt", "(LFrogsChangeSides$Rules;III)Z"⟩, "FrogsChangeSides"), ("FrogsChangeSides", 222, ⟨"FrogsChangeSides$Game", "winningMove", "(LFrogsChangeSides$Rules;III)I"⟩, "FrogsChangeSides")]
theorem kfN_X7_279 : (RX7, 279, (TX1 0).1, (TX1 0).2.1, (TX1 0).2.2.1, "FrogsChangeSides") ∈ nestF := List.mem_of_getElem? (i := 0) rfl
theorem kg0 : Cond.fieldLinkNest "FrogsChangeSides" 279 "FrogsChangeSides$Page" "codes" "[I" "FrogsChangeSides" ∈ lw_tbl := List.mem_append_right _ (List.mem_append_left _ (List.mem_of_getElem? (i := 27) rfl))
theorem kfN_X7_57 : (RX7, 57, (TX1 1).1, (TX1 1).2.1, (TX1 1).2.2.1, "FrogsChangeSides") ∈ nestF := List.mem_of_getElem? (i := 1) rfl
theorem kg1 : Cond.fieldLinkNest "FrogsChangeSides" 57 "FrogsChangeSides$Page" "size" "I" "FrogsChangeSides" ∈ lw_tbl := List.mem_append_right _ (List.mem_append_left _ (List.mem_of_getElem? (i := 28) rfl))
theorem kfN_X7_89 : (RX7, 89, (TX4 0).1, (TX4 0).2.1, (TX4 0).2.2.1, "FrogsChangeSides") ∈ nestF := List.mem_of_getElem? (i := 2) rfl
theorem kg2 : Cond.fieldLinkNest "FrogsChangeSides" 89 "FrogsChangeSides$Rules" "stones" "I" "FrogsChangeSides" ∈ lw_tbl := List.mem_append_right _ (List.mem_append_left _ (List.mem_of_getElem? (i := 43) rfl))
theorem kfN_X7_199 : (RX7, 199, (TX4 1).1, (TX4 1).2.1, (TX4 1).2.2.1, "FrogsChangeSides") ∈ nestF := List.mem_of_getElem? (i := 3) rfl
theorem kg3 : Cond.fieldLinkNest "FrogsChangeSides" 199 "FrogsChangeSides$Rules" "signs" "I" "FrogsChangeSides" ∈ lw_tbl := List.mem_append_right _ (List.mem_append_left _ (List.mem_of_getElem? (i := 45) rfl))
theorem kfN_X7_286 : (RX7, 286, (TX4 3).1, (TX4 3).2.1, (TX4 3).2.2.1, "FrogsChangeSides") ∈ nestF := List.mem_of_getElem? (i := 4) rfl
theorem kg4 : Cond.fieldLinkNest "FrogsChangeSides" 286 "FrogsChangeSides$Rules" "back" "Z" "FrogsChangeSides" ∈ lw_tbl := List.mem_append_right _ (List.mem_append_left _ (List.mem_of_getElem? (i := 48) rfl))
theorem kfN_X7_289 : (RX7, 289, (TX4 4).1, (TX4 4).2.1, (TX4 4).2.2.1, "FrogsChangeSides") ∈ nestF := List.mem_of_getElem? (i := 5) rfl
theorem kg5 : Cond.fieldLinkNest "FrogsChangeSides" 289 "FrogsChangeSides$Rules" "ring" "Z" "FrogsChangeSides" ∈ lw_tbl := List.mem_append_right _ (List.mem_append_left _ (List.mem_of_getElem? (i := 50) rfl))
theorem kfN_X7_295 : (RX7, 295, (TX2 0).1, (TX2 0).2.1, (TX2 0).2.2.1, "FrogsChangeSides") ∈ nestF := List.mem_of_getElem? (i := 6) rfl
theorem kg6 : Cond.fieldLinkNest "FrogsChangeSides" 295 "FrogsChangeSides$Position" "made" "[I" "FrogsChangeSides" ∈ lw_tbl := List.mem_append_right _ (List.mem_append_left _ (List.mem_of_getElem? (i := 72) rfl))
theorem kfN_X7_132 : (RX7, 132, (TX2 2).1, (TX2 2).2.1, (TX2 2).2.2.1, "FrogsChangeSides") ∈ nestF := List.mem_of_getElem? (i := 7) rfl
theorem kg7 : Cond.fieldLinkNest "FrogsChangeSides" 132 "FrogsChangeSides$Position" "row" "I" "FrogsChangeSides" ∈ lw_tbl := List.mem_append_right _ (List.mem_append_left _ (List.mem_of_getElem? (i := 75) rfl))
theorem kfN_X7_137 : (RX7, 137, (TX2 3).1, (TX2 3).2.1, (TX2 3).2.2.1, "FrogsChangeSides") ∈ nestF := List.mem_of_getElem? (i := 8) rfl
theorem kg8 : Cond.fieldLinkNest "FrogsChangeSides" 137 "FrogsChangeSides$Position" "numbers" "I" "FrogsChangeSides" ∈ lw_tbl := List.mem_append_right _ (List.mem_append_left _ (List.mem_of_getElem? (i := 77) rfl))
theorem kfN_X7_165 : (RX7, 165, (TX2 4).1, (TX2 4).2.1, (TX2 4).2.2.1, "FrogsChangeSides") ∈ nestF := List.mem_of_getElem? (i := 9) rfl
theorem kg9 : Cond.fieldLinkNest "FrogsChangeSides" 165 "FrogsChangeSides$Position" "size" "I" "FrogsChangeSides" ∈ lw_tbl := List.mem_append_right _ (List.mem_append_left _ (List.mem_of_getElem? (i := 79) rfl))
theorem kfN_X5_42 : (RX5, 42, (TX6 1).1, (TX6 1).2.1, (TX6 1).2.2.1, "FrogsChangeSides") ∈ nestF := List.mem_of_getElem? (i := 10) rfl
theorem kg10 : Cond.fieldLinkNest "FrogsChangeSides$Search" 42 "FrogsChangeSides$Table" "rows" "[I" "FrogsChangeSides" ∈ lw_tbl := List.mem_append_right _ (List.mem_append_left _ (List.mem_of_getElem? (i := 105) rfl))
theorem kfN_X5_39 : (RX5, 39, (TX6 2).1, (TX6 2).2.1, (TX6 2).2.2.1, "FrogsChangeSides") ∈ nestF := List.mem_of_getElem? (i := 11) rfl
theorem kg11 : Cond.fieldLinkNest "FrogsChangeSides$Search" 39 "FrogsChangeSides$Table" "size" "I" "FrogsChangeSides" ∈ lw_tbl := List.mem_append_right _ (List.mem_append_left _ (List.mem_of_getElem? (i := 107) rfl))
theorem kfN_X7_190 : (RX7, 190, (TX5 3).1, (TX5 3).2.1, (TX5 3).2.2.1, "FrogsChangeSides") ∈ nestF := List.mem_of_getElem? (i := 12) rfl
theorem kg12 : Cond.fieldLinkNest "FrogsChangeSides" 190 "FrogsChangeSides$Search" "stuckRows" "I" "FrogsChangeSides" ∈ lw_tbl := List.mem_append_right _ (List.mem_append_left _ (List.mem_of_getElem? (i := 119) rfl))
theorem kfN_X7_193 : (RX7, 193, (TX5 4).1, (TX5 4).2.1, (TX5 4).2.2.1, "FrogsChangeSides") ∈ nestF := List.mem_of_getElem? (i := 13) rfl
theorem kg13 : Cond.fieldLinkNest "FrogsChangeSides" 193 "FrogsChangeSides$Search" "soonestStuck" "I" "FrogsChangeSides" ∈ lw_tbl := List.mem_append_right _ (List.mem_append_left _ (List.mem_of_getElem? (i := 121) rfl))
theorem kmN_X7_9 : (RX7, 9, yX1_init, "FrogsChangeSides") ∈ nestM := List.mem_of_getElem? (i := 0) rfl
theorem kh0 : Cond.methodLinkNest "FrogsChangeSides" 9 ⟨"FrogsChangeSides$Page", "<init>", "()V"⟩ "FrogsChangeSides" ∈ lw_tbl := List.mem_append_right _ (List.mem_append_left _ (List.mem_of_getElem? (i := 22) rfl))
theorem kmN_X7_18 : (RX7, 18, yX4_init, "FrogsChangeSides") ∈ nestM := List.mem_of_getElem? (i := 1) rfl
theorem kh1 : Cond.methodLinkNest "FrogsChangeSides" 18 ⟨"FrogsChangeSides$Rules", "<init>", "()V"⟩ "FrogsChangeSides" ∈ lw_tbl := List.mem_append_right _ (List.mem_append_left _ (List.mem_of_getElem? (i := 38) rfl))
theorem kmN_X7_28 : (RX7, 28, yX2_init, "FrogsChangeSides") ∈ nestM := List.mem_of_getElem? (i := 2) rfl
theorem kh2 : Cond.methodLinkNest "FrogsChangeSides" 28 ⟨"FrogsChangeSides$Position", "<init>", "()V"⟩ "FrogsChangeSides" ∈ lw_tbl := List.mem_append_right _ (List.mem_append_left _ (List.mem_of_getElem? (i := 67) rfl))
theorem kmN_X7_38 : (RX7, 38, yX5_init, "FrogsChangeSides") ∈ nestM := List.mem_of_getElem? (i := 3) rfl
theorem kh3 : Cond.methodLinkNest "FrogsChangeSides" 38 ⟨"FrogsChangeSides$Search", "<init>", "()V"⟩ "FrogsChangeSides" ∈ lw_tbl := List.mem_append_right _ (List.mem_append_left _ (List.mem_of_getElem? (i := 93) rfl))
theorem kmN_X5_11 : (RX5, 11, yX6_init, "FrogsChangeSides") ∈ nestM := List.mem_of_getElem? (i := 4) rfl
theorem kh4 : Cond.methodLinkNest "FrogsChangeSides$Search" 11 ⟨"FrogsChangeSides$Table", "<init>", "()V"⟩ "FrogsChangeSides" ∈ lw_tbl := List.mem_append_right _ (List.mem_append_left _ (List.mem_of_getElem? (i := 99) rfl))
theorem kmN_X7_48 : (RX7, 48, yX0_init, "FrogsChangeSides") ∈ nestM := List.mem_of_getElem? (i := 5) rfl
theorem kh5 : Cond.methodLinkNest "FrogsChangeSides" 48 ⟨"FrogsChangeSides$Game", "<init>", "()V"⟩ "FrogsChangeSides" ∈ lw_tbl := List.mem_append_right _ (List.mem_append_left _ (List.mem_of_getElem? (i := 135) rfl))
theorem kmN_X0_11 : (RX0, 11, yX6_init, "FrogsChangeSides") ∈ nestM := List.mem_of_getElem? (i := 6) rfl
theorem kh6 : Cond.methodLinkNest "FrogsChangeSides$Game" 11 ⟨"FrogsChangeSides$Table", "<init>", "()V"⟩ "FrogsChangeSides" ∈ lw_tbl := List.mem_append_right _ (List.mem_append_left _ (List.mem_of_getElem? (i := 140) rfl))
theorem kmN_X7_218 : (RX7, 218, yX0_hasIt, "FrogsChangeSides") ∈ nestM := List.mem_of_getElem? (i := 7) rfl
theorem kh7 : Cond.methodLinkNest "FrogsChangeSides" 218 ⟨"FrogsChangeSides$Game", "hasIt", "(LFrogsChangeSides$Rules;III)Z"⟩ "FrogsChangeSides" ∈ lw_tbl := List.mem_append_right _ (List.mem_append_right _ (List.mem_append_right _ (List.mem_append_left _ (List.mem_of_getElem? (i := 10) rfl))))
theorem kmN_X7_222 : (RX7, 222, yX0_winningMove, "FrogsChangeSides") ∈ nestM := List.mem_of_getElem? (i := 8) rfl
theorem kh8 : Cond.methodLinkNest "FrogsChangeSides" 222 ⟨"FrogsChangeSides$Game", "winningMove", "(LFrogsChangeSides$Rules;III)I"⟩ "FrogsChangeSides" ∈ lw_tbl := List.mem_append_right _ (List.mem_append_right _ (List.mem_append_right _ (List.mem_append_left _ (List.mem_of_getElem? (i := 29) rfl))))
theorem nest_ok {A : Array Value} {s : State} (h : ∀ w ∈ lw_tbl, w.before A s = true) : (∀ q ∈ nestF, va_Nw (.fieldLinkNest q.1 q.2.1 q.2.2.1 q.2.2.2.1 q.2.2.2.2.1 q.2.2.2.2.2) s) ∧ ∀ q ∈ nestM, va_Nw (.methodLinkNest q.1 q.2.1 q.2.2.1 q.2.2.2) s :=
  ⟨List.forall_mem_cons.mpr ⟨va_Nw.of rfl (h _ kg0), List.forall_mem_cons.mpr ⟨va_Nw.of rfl (h _ kg1), List.forall_mem_cons.mpr ⟨va_Nw.of rfl (h _ kg2), List.forall_mem_cons.mpr ⟨va_Nw.of rfl (h _ kg3), List.forall_mem_cons.mpr ⟨va_Nw.of rfl (h _ kg4), List.forall_mem_cons.mpr ⟨va_Nw.of rfl (h _ kg5), List.forall_mem_cons.mpr ⟨va_Nw.of rfl (h _ kg6), List.forall_mem_cons.mpr ⟨va_Nw.of rfl (h _ kg7), List.forall_mem_cons.mpr ⟨va_Nw.of rfl (h _ kg8), List.forall_mem_cons.mpr ⟨va_Nw.of rfl (h _ kg9), List.forall_mem_cons.mpr ⟨va_Nw.of rfl (h _ kg10), List.forall_mem_cons.mpr ⟨va_Nw.of rfl (h _ kg11), List.forall_mem_cons.mpr ⟨va_Nw.of rfl (h _ kg12), List.forall_mem_cons.mpr ⟨va_Nw.of rfl (h _ kg13), fun _ h => absurd h List.not_mem_nil⟩⟩⟩⟩⟩⟩⟩⟩⟩⟩⟩⟩⟩⟩,
   List.forall_mem_cons.mpr ⟨va_Nw.of rfl (h _ kh0), List.forall_mem_cons.mpr ⟨va_Nw.of rfl (h _ kh1), List.forall_mem_cons.mpr ⟨va_Nw.of rfl (h _ kh2), List.forall_mem_cons.mpr ⟨va_Nw.of rfl (h _ kh3), List.forall_mem_cons.mpr ⟨va_Nw.of rfl (h _ kh4), List.forall_mem_cons.mpr ⟨va_Nw.of rfl (h _ kh5), List.forall_mem_cons.mpr ⟨va_Nw.of rfl (h _ kh6), List.forall_mem_cons.mpr ⟨va_Nw.of rfl (h _ kh7), List.forall_mem_cons.mpr ⟨va_Nw.of rfl (h _ kh8), fun _ h => absurd h List.not_mem_nil⟩⟩⟩⟩⟩⟩⟩⟩⟩⟩
end
section
theorem dX0_init_0 : decode cX0_init 0 = .ok (.aload_n 0, 1) := by decide +kernel
theorem dX0_init_1 : decode cX0_init 1 = .ok (.invokespecial 3, 3) := by decide +kernel
theorem dX0_init_4 : decode cX0_init 4 = .ok (.aload_n 0, 1) := by decide +kernel
theorem dX0_init_5 : decode cX0_init 5 = .ok (.new 9, 3) := by decide +kernel
theorem dX0_init_8 : decode cX0_init 8 = .ok (.dup, 1) := by decide +kernel
theorem dX0_init_9 : decode cX0_init 9 = .ok (.invokespecial 11, 3) := by decide +kernel
theorem dX0_init_12 : decode cX0_init 12 = .ok (.putfield 12, 3) := by decide +kernel
theorem dX0_init_15 : decode cX0_init 15 = .ok (.aload_n 0, 1) := by decide +kernel
theorem dX0_init_16 : decode cX0_init 16 = .ok (.sipush 640, 3) := by decide +kernel
theorem dX0_init_19 : decode cX0_init 19 = .ok (.newarray .int, 2) := by decide +kernel
theorem dX0_init_21 : decode cX0_init 21 = .ok (.putfield 18, 3) := by decide +kernel
theorem dX0_init_24 : decode cX0_init 24 = .ok (.return_, 1) := by decide +kernel
theorem dX0_forget_0 : decode cX0_forget 0 = .ok (.aload_n 0, 1) := by decide +kernel
theorem dX0_forget_1 : decode cX0_forget 1 = .ok (.getfield 12, 3) := by decide +kernel
theorem dX0_forget_4 : decode cX0_forget 4 = .ok (.invokevirtual 22, 3) := by decide +kernel
theorem dX0_forget_7 : decode cX0_forget 7 = .ok (.aload_n 0, 1) := by decide +kernel
theorem dX0_forget_8 : decode cX0_forget 8 = .ok (.getfield 18, 3) := by decide +kernel
theorem dX0_forget_11 : decode cX0_forget 11 = .ok (.iconst 0, 1) := by decide +kernel
theorem dX0_forget_12 : decode cX0_forget 12 = .ok (.invokestatic 25, 3) := by decide +kernel
theorem dX0_forget_15 : decode cX0_forget 15 = .ok (.return_, 1) := by decide +kernel
theorem dX0_hasIt_0 : decode cX0_hasIt 0 = .ok (.aload_n 0, 1) := by decide +kernel
theorem dX0_hasIt_1 : decode cX0_hasIt 1 = .ok (.getfield 12, 3) := by decide +kernel
theorem dX0_hasIt_4 : decode cX0_hasIt 4 = .ok (.iload_n 2, 1) := by decide +kernel
theorem dX0_hasIt_5 : decode cX0_hasIt 5 = .ok (.invokevirtual 31, 3) := by decide +kernel
theorem dX0_hasIt_8 : decode cX0_hasIt 8 = .ok (.istore 5, 2) := by decide +kernel
theorem dX0_hasIt_10 : decode cX0_hasIt 10 = .ok (.iload 4, 2) := by decide +kernel
theorem dX0_hasIt_12 : decode cX0_hasIt 12 = .ok (.bipush 64, 2) := by decide +kernel
theorem dX0_hasIt_14 : decode cX0_hasIt 14 = .ok (.if_icmp .gt 16, 3) := by decide +kernel
theorem dX0_hasIt_17 : decode cX0_hasIt 17 = .ok (.iload 5, 2) := by decide +kernel
theorem dX0_hasIt_19 : decode cX0_hasIt 19 = .ok (.ifCond .lt 11, 3) := by decide +kernel
theorem dX0_hasIt_22 : decode cX0_hasIt 22 = .ok (.iload 5, 2) := by decide +kernel
theorem dX0_hasIt_24 : decode cX0_hasIt 24 = .ok (.sipush 640, 3) := by decide +kernel
theorem dX0_hasIt_27 : decode cX0_hasIt 27 = .ok (.if_icmp .lt 5, 3) := by decide +kernel
theorem dX0_hasIt_30 : decode cX0_hasIt 30 = .ok (.iconst 0, 1) := by decide +kernel
theorem dX0_hasIt_31 : decode cX0_hasIt 31 = .ok (.ireturn, 1) := by decide +kernel
theorem dX0_hasIt_32 : decode cX0_hasIt 32 = .ok (.aload_n 0, 1) := by decide +kernel
theorem dX0_hasIt_33 : decode cX0_hasIt 33 = .ok (.getfield 18, 3) := by decide +kernel
theorem dX0_hasIt_36 : decode cX0_hasIt 36 = .ok (.iload 5, 2) := by decide +kernel
theorem dX0_hasIt_38 : decode cX0_hasIt 38 = .ok (.iaload, 1) := by decide +kernel
theorem dX0_hasIt_39 : decode cX0_hasIt 39 = .ok (.iconst 2, 1) := by decide +kernel
theorem dX0_hasIt_40 : decode cX0_hasIt 40 = .ok (.iload_n 3, 1) := by decide +kernel
theorem dX0_hasIt_41 : decode cX0_hasIt 41 = .ok (.imul, 1) := by decide +kernel
theorem dX0_hasIt_42 : decode cX0_hasIt 42 = .ok (.ishr, 1) := by decide +kernel
theorem dX0_hasIt_43 : decode cX0_hasIt 43 = .ok (.iconst 3, 1) := by decide +kernel
theorem dX0_hasIt_44 : decode cX0_hasIt 44 = .ok (.iand, 1) := by decide +kernel
theorem dX0_hasIt_45 : decode cX0_hasIt 45 = .ok (.istore 6, 2) := by decide +kernel
theorem dX0_hasIt_47 : decode cX0_hasIt 47 = .ok (.iload 6, 2) := by decide +kernel
theorem dX0_hasIt_49 : decode cX0_hasIt 49 = .ok (.ifCond .eq 15, 3) := by decide +kernel
theorem dX0_hasIt_52 : decode cX0_hasIt 52 = .ok (.iload 6, 2) := by decide +kernel
theorem dX0_hasIt_54 : decode cX0_hasIt 54 = .ok (.iconst 2, 1) := by decide +kernel
theorem dX0_hasIt_55 : decode cX0_hasIt 55 = .ok (.if_icmp .ne 7, 3) := by decide +kernel
theorem dX0_hasIt_58 : decode cX0_hasIt 58 = .ok (.iconst 1, 1) := by decide +kernel
theorem dX0_hasIt_59 : decode cX0_hasIt 59 = .ok (.goto 4, 3) := by decide +kernel
theorem dX0_hasIt_62 : decode cX0_hasIt 62 = .ok (.iconst 0, 1) := by decide +kernel
theorem dX0_hasIt_63 : decode cX0_hasIt 63 = .ok (.ireturn, 1) := by decide +kernel
theorem dX0_hasIt_64 : decode cX0_hasIt 64 = .ok (.aload_n 0, 1) := by decide +kernel
theorem dX0_hasIt_65 : decode cX0_hasIt 65 = .ok (.aload_n 1, 1) := by decide +kernel
theorem dX0_hasIt_66 : decode cX0_hasIt 66 = .ok (.iload_n 2, 1) := by decide +kernel
theorem dX0_hasIt_67 : decode cX0_hasIt 67 = .ok (.iload_n 3, 1) := by decide +kernel
theorem dX0_hasIt_68 : decode cX0_hasIt 68 = .ok (.iload 4, 2) := by decide +kernel
theorem dX0_hasIt_70 : decode cX0_hasIt 70 = .ok (.invokevirtual 35, 3) := by decide +kernel
theorem dX0_hasIt_73 : decode cX0_hasIt 73 = .ok (.iconst (-1), 1) := by decide +kernel
theorem dX0_hasIt_74 : decode cX0_hasIt 74 = .ok (.if_icmp .eq 7, 3) := by decide +kernel
theorem dX0_hasIt_77 : decode cX0_hasIt 77 = .ok (.iconst 1, 1) := by decide +kernel
theorem dX0_hasIt_78 : decode cX0_hasIt 78 = .ok (.goto 4, 3) := by decide +kernel
theorem dX0_hasIt_81 : decode cX0_hasIt 81 = .ok (.iconst 0, 1) := by decide +kernel
theorem dX0_hasIt_82 : decode cX0_hasIt 82 = .ok (.istore 7, 2) := by decide +kernel
theorem dX0_hasIt_84 : decode cX0_hasIt 84 = .ok (.aload_n 0, 1) := by decide +kernel
theorem dX0_hasIt_85 : decode cX0_hasIt 85 = .ok (.getfield 18, 3) := by decide +kernel
theorem dX0_hasIt_88 : decode cX0_hasIt 88 = .ok (.iload 5, 2) := by decide +kernel
theorem dX0_hasIt_90 : decode cX0_hasIt 90 = .ok (.dup2, 1) := by decide +kernel
theorem dX0_hasIt_91 : decode cX0_hasIt 91 = .ok (.iaload, 1) := by decide +kernel
theorem dX0_hasIt_92 : decode cX0_hasIt 92 = .ok (.iload 7, 2) := by decide +kernel
theorem dX0_hasIt_94 : decode cX0_hasIt 94 = .ok (.ifCond .eq 7, 3) := by decide +kernel
theorem dX0_hasIt_97 : decode cX0_hasIt 97 = .ok (.iconst 2, 1) := by decide +kernel
theorem dX0_hasIt_98 : decode cX0_hasIt 98 = .ok (.goto 4, 3) := by decide +kernel
theorem dX0_hasIt_101 : decode cX0_hasIt 101 = .ok (.iconst 1, 1) := by decide +kernel
theorem dX0_hasIt_102 : decode cX0_hasIt 102 = .ok (.iconst 2, 1) := by decide +kernel
theorem dX0_hasIt_103 : decode cX0_hasIt 103 = .ok (.iload_n 3, 1) := by decide +kernel
theorem dX0_hasIt_104 : decode cX0_hasIt 104 = .ok (.imul, 1) := by decide +kernel
theorem dX0_hasIt_105 : decode cX0_hasIt 105 = .ok (.ishl, 1) := by decide +kernel
theorem dX0_hasIt_106 : decode cX0_hasIt 106 = .ok (.ior, 1) := by decide +kernel
theorem dX0_hasIt_107 : decode cX0_hasIt 107 = .ok (.iastore, 1) := by decide +kernel
theorem dX0_hasIt_108 : decode cX0_hasIt 108 = .ok (.iload 7, 2) := by decide +kernel
theorem dX0_hasIt_110 : decode cX0_hasIt 110 = .ok (.ireturn, 1) := by decide +kernel
theorem dX0_winningMove_0 : decode cX0_winningMove 0 = .ok (.aload_n 1, 1) := by decide +kernel
theorem dX0_winningMove_1 : decode cX0_winningMove 1 = .ok (.iload_n 2, 1) := by decide +kernel
theorem dX0_winningMove_2 : decode cX0_winningMove 2 = .ok (.iconst 1, 1) := by decide +kernel
theorem dX0_winningMove_3 : decode cX0_winningMove 3 = .ok (.invokevirtual 39, 3) := by decide +kernel
theorem dX0_winningMove_6 : decode cX0_winningMove 6 = .ok (.lstore 5, 2) := by decide +kernel
theorem dX0_winningMove_8 : decode cX0_winningMove 8 = .ok (.lload 5, 2) := by decide +kernel
theorem dX0_winningMove_10 : decode cX0_winningMove 10 = .ok (.invokestatic 45, 3) := by decide +kernel
theorem dX0_winningMove_13 : decode cX0_winningMove 13 = .ok (.istore 7, 2) := by decide +kernel
theorem dX0_winningMove_15 : decode cX0_winningMove 15 = .ok (.iconst 0, 1) := by decide +kernel
theorem dX0_winningMove_16 : decode cX0_winningMove 16 = .ok (.istore 8, 2) := by decide +kernel
theorem dX0_winningMove_18 : decode cX0_winningMove 18 = .ok (.iload 8, 2) := by decide +kernel
theorem dX0_winningMove_20 : decode cX0_winningMove 20 = .ok (.iload 7, 2) := by decide +kernel
theorem dX0_winningMove_22 : decode cX0_winningMove 22 = .ok (.if_icmp .ge 91, 3) := by decide +kernel
theorem dX0_winningMove_25 : decode cX0_winningMove 25 = .ok (.lload 5, 2) := by decide +kernel
theorem dX0_winningMove_27 : decode cX0_winningMove 27 = .ok (.invokestatic 51, 3) := by decide +kernel
theorem dX0_winningMove_30 : decode cX0_winningMove 30 = .ok (.istore 9, 2) := by decide +kernel
theorem dX0_winningMove_32 : decode cX0_winningMove 32 = .ok (.lload 5, 2) := by decide +kernel
theorem dX0_winningMove_34 : decode cX0_winningMove 34 = .ok (.lload 5, 2) := by decide +kernel
theorem dX0_winningMove_36 : decode cX0_winningMove 36 = .ok (.lconst 1, 1) := by decide +kernel
theorem dX0_winningMove_37 : decode cX0_winningMove 37 = .ok (.lsub, 1) := by decide +kernel
theorem dX0_winningMove_38 : decode cX0_winningMove 38 = .ok (.land, 1) := by decide +kernel
theorem dX0_winningMove_39 : decode cX0_winningMove 39 = .ok (.lstore 5, 2) := by decide +kernel
theorem dX0_winningMove_41 : decode cX0_winningMove 41 = .ok (.iload_n 2, 1) := by decide +kernel
theorem dX0_winningMove_42 : decode cX0_winningMove 42 = .ok (.iload 9, 2) := by decide +kernel
theorem dX0_winningMove_44 : decode cX0_winningMove 44 = .ok (.iconst 3, 1) := by decide +kernel
theorem dX0_winningMove_45 : decode cX0_winningMove 45 = .ok (.ishr, 1) := by decide +kernel
theorem dX0_winningMove_46 : decode cX0_winningMove 46 = .ok (.invokestatic 56, 3) := by decide +kernel
theorem dX0_winningMove_49 : decode cX0_winningMove 49 = .ok (.iconst 2, 1) := by decide +kernel
theorem dX0_winningMove_50 : decode cX0_winningMove 50 = .ok (.if_icmp .ne 7, 3) := by decide +kernel
theorem dX0_winningMove_53 : decode cX0_winningMove 53 = .ok (.iconst 1, 1) := by decide +kernel
theorem dX0_winningMove_54 : decode cX0_winningMove 54 = .ok (.goto 4, 3) := by decide +kernel
theorem dX0_winningMove_57 : decode cX0_winningMove 57 = .ok (.iconst 0, 1) := by decide +kernel
theorem dX0_winningMove_58 : decode cX0_winningMove 58 = .ok (.iload_n 3, 1) := by decide +kernel
theorem dX0_winningMove_59 : decode cX0_winningMove 59 = .ok (.iconst 1, 1) := by decide +kernel
theorem dX0_winningMove_60 : decode cX0_winningMove 60 = .ok (.if_icmp .ne 7, 3) := by decide +kernel
theorem dX0_winningMove_63 : decode cX0_winningMove 63 = .ok (.iconst 1, 1) := by decide +kernel
theorem dX0_winningMove_64 : decode cX0_winningMove 64 = .ok (.goto 4, 3) := by decide +kernel
theorem dX0_winningMove_67 : decode cX0_winningMove 67 = .ok (.iconst 0, 1) := by decide +kernel
theorem dX0_winningMove_68 : decode cX0_winningMove 68 = .ok (.if_icmp .ne 7, 3) := by decide +kernel
theorem dX0_winningMove_71 : decode cX0_winningMove 71 = .ok (.iconst 1, 1) := by decide +kernel
theorem dX0_winningMove_72 : decode cX0_winningMove 72 = .ok (.goto 4, 3) := by decide +kernel
theorem dX0_winningMove_75 : decode cX0_winningMove 75 = .ok (.iconst 0, 1) := by decide +kernel
theorem dX0_winningMove_76 : decode cX0_winningMove 76 = .ok (.istore 10, 2) := by decide +kernel
theorem dX0_winningMove_78 : decode cX0_winningMove 78 = .ok (.iload 10, 2) := by decide +kernel
theorem dX0_winningMove_80 : decode cX0_winningMove 80 = .ok (.ifCond .eq 27, 3) := by decide +kernel
theorem dX0_winningMove_83 : decode cX0_winningMove 83 = .ok (.aload_n 0, 1) := by decide +kernel
theorem dX0_winningMove_84 : decode cX0_winningMove 84 = .ok (.aload_n 1, 1) := by decide +kernel
theorem dX0_winningMove_85 : decode cX0_winningMove 85 = .ok (.iload_n 2, 1) := by decide +kernel
theorem dX0_winningMove_86 : decode cX0_winningMove 86 = .ok (.iload 9, 2) := by decide +kernel
theorem dX0_winningMove_88 : decode cX0_winningMove 88 = .ok (.invokestatic 60, 3) := by decide +kernel
theorem dX0_winningMove_91 : decode cX0_winningMove 91 = .ok (.iconst 1, 1) := by decide +kernel
theorem dX0_winningMove_92 : decode cX0_winningMove 92 = .ok (.iload_n 3, 1) := by decide +kernel
theorem dX0_winningMove_93 : decode cX0_winningMove 93 = .ok (.isub, 1) := by decide +kernel
theorem dX0_winningMove_94 : decode cX0_winningMove 94 = .ok (.iload 4, 2) := by decide +kernel
theorem dX0_winningMove_96 : decode cX0_winningMove 96 = .ok (.iconst 1, 1) := by decide +kernel
theorem dX0_winningMove_97 : decode cX0_winningMove 97 = .ok (.iadd, 1) := by decide +kernel
theorem dX0_winningMove_98 : decode cX0_winningMove 98 = .ok (.invokevirtual 63, 3) := by decide +kernel
theorem dX0_winningMove_101 : decode cX0_winningMove 101 = .ok (.ifCond .ne 6, 3) := by decide +kernel
theorem dX0_winningMove_104 : decode cX0_winningMove 104 = .ok (.iload 9, 2) := by decide +kernel
theorem dX0_winningMove_106 : decode cX0_winningMove 106 = .ok (.ireturn, 1) := by decide +kernel
theorem dX0_winningMove_107 : decode cX0_winningMove 107 = .ok (.iinc 8 1, 3) := by decide +kernel
theorem dX0_winningMove_110 : decode cX0_winningMove 110 = .ok (.goto (-92), 3) := by decide +kernel
theorem dX0_winningMove_113 : decode cX0_winningMove 113 = .ok (.iconst (-1), 1) := by decide +kernel
theorem dX0_winningMove_114 : decode cX0_winningMove 114 = .ok (.ireturn, 1) := by decide +kernel
theorem dX1_init_0 : decode cX1_init 0 = .ok (.aload_n 0, 1) := by decide +kernel
theorem dX1_init_1 : decode cX1_init 1 = .ok (.invokespecial 3, 3) := by decide +kernel
theorem dX1_init_4 : decode cX1_init 4 = .ok (.aload_n 0, 1) := by decide +kernel
theorem dX1_init_5 : decode cX1_init 5 = .ok (.bipush 14, 2) := by decide +kernel
theorem dX1_init_7 : decode cX1_init 7 = .ok (.newarray .int, 2) := by decide +kernel
theorem dX1_init_9 : decode cX1_init 9 = .ok (.putfield 9, 3) := by decide +kernel
theorem dX1_init_12 : decode cX1_init 12 = .ok (.return_, 1) := by decide +kernel
theorem dX1_lettersIn_0 : decode cX1_lettersIn 0 = .ok (.iconst 0, 1) := by decide +kernel
theorem dX1_lettersIn_1 : decode cX1_lettersIn 1 = .ok (.istore_n 2, 1) := by decide +kernel
theorem dX1_lettersIn_2 : decode cX1_lettersIn 2 = .ok (.iconst 0, 1) := by decide +kernel
theorem dX1_lettersIn_3 : decode cX1_lettersIn 3 = .ok (.istore_n 3, 1) := by decide +kernel
theorem dX1_lettersIn_4 : decode cX1_lettersIn 4 = .ok (.iconst 0, 1) := by decide +kernel
theorem dX1_lettersIn_5 : decode cX1_lettersIn 5 = .ok (.istore 4, 2) := by decide +kernel
theorem dX1_lettersIn_7 : decode cX1_lettersIn 7 = .ok (.iload 4, 2) := by decide +kernel
theorem dX1_lettersIn_9 : decode cX1_lettersIn 9 = .ok (.bipush 8, 2) := by decide +kernel
theorem dX1_lettersIn_11 : decode cX1_lettersIn 11 = .ok (.if_icmp .ge 48, 3) := by decide +kernel
theorem dX1_lettersIn_14 : decode cX1_lettersIn 14 = .ok (.lload_n 0, 1) := by decide +kernel
theorem dX1_lettersIn_15 : decode cX1_lettersIn 15 = .ok (.iload 4, 2) := by decide +kernel
theorem dX1_lettersIn_17 : decode cX1_lettersIn 17 = .ok (.invokestatic 15, 3) := by decide +kernel
theorem dX1_lettersIn_20 : decode cX1_lettersIn 20 = .ok (.istore 5, 2) := by decide +kernel
theorem dX1_lettersIn_22 : decode cX1_lettersIn 22 = .ok (.iload 5, 2) := by decide +kernel
theorem dX1_lettersIn_24 : decode cX1_lettersIn 24 = .ok (.bipush 126, 2) := by decide +kernel
theorem dX1_lettersIn_26 : decode cX1_lettersIn 26 = .ok (.if_icmp .gt 12, 3) := by decide +kernel
theorem dX1_lettersIn_29 : decode cX1_lettersIn 29 = .ok (.iload_n 3, 1) := by decide +kernel
theorem dX1_lettersIn_30 : decode cX1_lettersIn 30 = .ok (.ifCond .eq 10, 3) := by decide +kernel
theorem dX1_lettersIn_33 : decode cX1_lettersIn 33 = .ok (.iload 5, 2) := by decide +kernel
theorem dX1_lettersIn_35 : decode cX1_lettersIn 35 = .ok (.ifCond .eq 5, 3) := by decide +kernel
theorem dX1_lettersIn_38 : decode cX1_lettersIn 38 = .ok (.iconst (-1), 1) := by decide +kernel
theorem dX1_lettersIn_39 : decode cX1_lettersIn 39 = .ok (.ireturn, 1) := by decide +kernel
theorem dX1_lettersIn_40 : decode cX1_lettersIn 40 = .ok (.iload 5, 2) := by decide +kernel
theorem dX1_lettersIn_42 : decode cX1_lettersIn 42 = .ok (.ifCond .ne 8, 3) := by decide +kernel
theorem dX1_lettersIn_45 : decode cX1_lettersIn 45 = .ok (.iconst 1, 1) := by decide +kernel
theorem dX1_lettersIn_46 : decode cX1_lettersIn 46 = .ok (.istore_n 3, 1) := by decide +kernel
theorem dX1_lettersIn_47 : decode cX1_lettersIn 47 = .ok (.goto 6, 3) := by decide +kernel
theorem dX1_lettersIn_50 : decode cX1_lettersIn 50 = .ok (.iinc 2 1, 3) := by decide +kernel
theorem dX1_lettersIn_53 : decode cX1_lettersIn 53 = .ok (.iinc 4 1, 3) := by decide +kernel
theorem dX1_lettersIn_56 : decode cX1_lettersIn 56 = .ok (.goto (-49), 3) := by decide +kernel
theorem dX1_lettersIn_59 : decode cX1_lettersIn 59 = .ok (.iload_n 2, 1) := by decide +kernel
theorem dX1_lettersIn_60 : decode cX1_lettersIn 60 = .ok (.ireturn, 1) := by decide +kernel
theorem dX1_codeIn_0 : decode cX1_codeIn 0 = .ok (.lload_n 0, 1) := by decide +kernel
theorem dX1_codeIn_1 : decode cX1_codeIn 1 = .ok (.bipush 8, 2) := by decide +kernel
theorem dX1_codeIn_3 : decode cX1_codeIn 3 = .ok (.iload_n 2, 1) := by decide +kernel
theorem dX1_codeIn_4 : decode cX1_codeIn 4 = .ok (.imul, 1) := by decide +kernel
theorem dX1_codeIn_5 : decode cX1_codeIn 5 = .ok (.lushr, 1) := by decide +kernel
theorem dX1_codeIn_6 : decode cX1_codeIn 6 = .ok (.l2i, 1) := by decide +kernel
theorem dX1_codeIn_7 : decode cX1_codeIn 7 = .ok (.sipush 255, 3) := by decide +kernel
theorem dX1_codeIn_10 : decode cX1_codeIn 10 = .ok (.iand, 1) := by decide +kernel
theorem dX1_codeIn_11 : decode cX1_codeIn 11 = .ok (.ireturn, 1) := by decide +kernel
theorem dX1_append_0 : decode cX1_append 0 = .ok (.iconst 0, 1) := by decide +kernel
theorem dX1_append_1 : decode cX1_append 1 = .ok (.istore 4, 2) := by decide +kernel
theorem dX1_append_3 : decode cX1_append 3 = .ok (.iload 4, 2) := by decide +kernel
theorem dX1_append_5 : decode cX1_append 5 = .ok (.iload_n 3, 1) := by decide +kernel
theorem dX1_append_6 : decode cX1_append 6 = .ok (.if_icmp .ge 43, 3) := by decide +kernel
theorem dX1_append_9 : decode cX1_append 9 = .ok (.aload_n 0, 1) := by decide +kernel
theorem dX1_append_10 : decode cX1_append 10 = .ok (.getfield 19, 3) := by decide +kernel
theorem dX1_append_13 : decode cX1_append 13 = .ok (.bipush 14, 2) := by decide +kernel
theorem dX1_append_15 : decode cX1_append 15 = .ok (.if_icmp .ge 34, 3) := by decide +kernel
theorem dX1_append_18 : decode cX1_append 18 = .ok (.aload_n 0, 1) := by decide +kernel
theorem dX1_append_19 : decode cX1_append 19 = .ok (.getfield 9, 3) := by decide +kernel
theorem dX1_append_22 : decode cX1_append 22 = .ok (.aload_n 0, 1) := by decide +kernel
theorem dX1_append_23 : decode cX1_append 23 = .ok (.getfield 19, 3) := by decide +kernel
theorem dX1_append_26 : decode cX1_append 26 = .ok (.lload_n 1, 1) := by decide +kernel
theorem dX1_append_27 : decode cX1_append 27 = .ok (.iload 4, 2) := by decide +kernel
theorem dX1_append_29 : decode cX1_append 29 = .ok (.invokestatic 15, 3) := by decide +kernel
theorem dX1_append_32 : decode cX1_append 32 = .ok (.iastore, 1) := by decide +kernel
theorem dX1_append_33 : decode cX1_append 33 = .ok (.aload_n 0, 1) := by decide +kernel
theorem dX1_append_34 : decode cX1_append 34 = .ok (.dup, 1) := by decide +kernel
theorem dX1_append_35 : decode cX1_append 35 = .ok (.getfield 19, 3) := by decide +kernel
theorem dX1_append_38 : decode cX1_append 38 = .ok (.iconst 1, 1) := by decide +kernel
theorem dX1_append_39 : decode cX1_append 39 = .ok (.iadd, 1) := by decide +kernel
theorem dX1_append_40 : decode cX1_append 40 = .ok (.putfield 19, 3) := by decide +kernel
theorem dX1_append_43 : decode cX1_append 43 = .ok (.iinc 4 1, 3) := by decide +kernel
theorem dX1_append_46 : decode cX1_append 46 = .ok (.goto (-43), 3) := by decide +kernel
theorem dX1_append_49 : decode cX1_append 49 = .ok (.return_, 1) := by decide +kernel
theorem dX1_kindOf_0 : decode cX1_kindOf 0 = .ok (.iload_n 0, 1) := by decide +kernel
theorem dX1_kindOf_1 : decode cX1_kindOf 1 = .ok (.lookupswitch 61 #[(46, 51), (60, 55), (62, 53), (103, 59), (111, 57)], 51) := by decide +kernel
theorem dX1_kindOf_52 : decode cX1_kindOf 52 = .ok (.iconst 0, 1) := by decide +kernel
theorem dX1_kindOf_53 : decode cX1_kindOf 53 = .ok (.ireturn, 1) := by decide +kernel
theorem dX1_kindOf_54 : decode cX1_kindOf 54 = .ok (.iconst 1, 1) := by decide +kernel
theorem dX1_kindOf_55 : decode cX1_kindOf 55 = .ok (.ireturn, 1) := by decide +kernel
theorem dX1_kindOf_56 : decode cX1_kindOf 56 = .ok (.iconst 2, 1) := by decide +kernel
theorem dX1_kindOf_57 : decode cX1_kindOf 57 = .ok (.ireturn, 1) := by decide +kernel
theorem dX1_kindOf_58 : decode cX1_kindOf 58 = .ok (.iconst 3, 1) := by decide +kernel
theorem dX1_kindOf_59 : decode cX1_kindOf 59 = .ok (.ireturn, 1) := by decide +kernel
theorem dX1_kindOf_60 : decode cX1_kindOf 60 = .ok (.iconst 4, 1) := by decide +kernel
theorem dX1_kindOf_61 : decode cX1_kindOf 61 = .ok (.ireturn, 1) := by decide +kernel
theorem dX1_kindOf_62 : decode cX1_kindOf 62 = .ok (.iconst (-1), 1) := by decide +kernel
theorem dX1_kindOf_63 : decode cX1_kindOf 63 = .ok (.ireturn, 1) := by decide +kernel
theorem dX1_signOf_0 : decode cX1_signOf 0 = .ok (.iload_n 0, 1) := by decide +kernel
theorem dX1_signOf_1 : decode cX1_signOf 1 = .ok (.lookupswitch 51 #[(97, 43), (98, 45), (114, 47), (116, 49)], 43) := by decide +kernel
theorem dX1_signOf_44 : decode cX1_signOf 44 = .ok (.iconst 0, 1) := by decide +kernel
theorem dX1_signOf_45 : decode cX1_signOf 45 = .ok (.ireturn, 1) := by decide +kernel
theorem dX1_signOf_46 : decode cX1_signOf 46 = .ok (.iconst 1, 1) := by decide +kernel
theorem dX1_signOf_47 : decode cX1_signOf 47 = .ok (.ireturn, 1) := by decide +kernel
theorem dX1_signOf_48 : decode cX1_signOf 48 = .ok (.iconst 2, 1) := by decide +kernel
theorem dX1_signOf_49 : decode cX1_signOf 49 = .ok (.ireturn, 1) := by decide +kernel
theorem dX1_signOf_50 : decode cX1_signOf 50 = .ok (.iconst 3, 1) := by decide +kernel
theorem dX1_signOf_51 : decode cX1_signOf 51 = .ok (.ireturn, 1) := by decide +kernel
theorem dX1_signOf_52 : decode cX1_signOf 52 = .ok (.iconst (-1), 1) := by decide +kernel
theorem dX1_signOf_53 : decode cX1_signOf 53 = .ok (.ireturn, 1) := by decide +kernel
theorem dX1_leadingStones_0 : decode cX1_leadingStones 0 = .ok (.iconst 0, 1) := by decide +kernel
theorem dX1_leadingStones_1 : decode cX1_leadingStones 1 = .ok (.istore_n 1, 1) := by decide +kernel
theorem dX1_leadingStones_2 : decode cX1_leadingStones 2 = .ok (.iload_n 1, 1) := by decide +kernel
theorem dX1_leadingStones_3 : decode cX1_leadingStones 3 = .ok (.aload_n 0, 1) := by decide +kernel
theorem dX1_leadingStones_4 : decode cX1_leadingStones 4 = .ok (.getfield 19, 3) := by decide +kernel
theorem dX1_leadingStones_7 : decode cX1_leadingStones 7 = .ok (.if_icmp .ge 28, 3) := by decide +kernel
theorem dX1_leadingStones_10 : decode cX1_leadingStones 10 = .ok (.iload_n 1, 1) := by decide +kernel
theorem dX1_leadingStones_11 : decode cX1_leadingStones 11 = .ok (.bipush 7, 2) := by decide +kernel
theorem dX1_leadingStones_13 : decode cX1_leadingStones 13 = .ok (.if_icmp .ge 22, 3) := by decide +kernel
theorem dX1_leadingStones_16 : decode cX1_leadingStones 16 = .ok (.aload_n 0, 1) := by decide +kernel
theorem dX1_leadingStones_17 : decode cX1_leadingStones 17 = .ok (.getfield 9, 3) := by decide +kernel
theorem dX1_leadingStones_20 : decode cX1_leadingStones 20 = .ok (.iload_n 1, 1) := by decide +kernel
theorem dX1_leadingStones_21 : decode cX1_leadingStones 21 = .ok (.iaload, 1) := by decide +kernel
theorem dX1_leadingStones_22 : decode cX1_leadingStones 22 = .ok (.invokestatic 23, 3) := by decide +kernel
theorem dX1_leadingStones_25 : decode cX1_leadingStones 25 = .ok (.iconst (-1), 1) := by decide +kernel
theorem dX1_leadingStones_26 : decode cX1_leadingStones 26 = .ok (.if_icmp .eq 9, 3) := by decide +kernel
theorem dX1_leadingStones_29 : decode cX1_leadingStones 29 = .ok (.iinc 1 1, 3) := by decide +kernel
theorem dX1_leadingStones_32 : decode cX1_leadingStones 32 = .ok (.goto (-30), 3) := by decide +kernel
theorem dX1_leadingStones_35 : decode cX1_leadingStones 35 = .ok (.iload_n 1, 1) := by decide +kernel
theorem dX1_leadingStones_36 : decode cX1_leadingStones 36 = .ok (.ireturn, 1) := by decide +kernel
theorem dX1_firstFault_0 : decode cX1_firstFault 0 = .ok (.aload_n 0, 1) := by decide +kernel
theorem dX1_firstFault_1 : decode cX1_firstFault 1 = .ok (.invokevirtual 27, 3) := by decide +kernel
theorem dX1_firstFault_4 : decode cX1_firstFault 4 = .ok (.istore_n 1, 1) := by decide +kernel
theorem dX1_firstFault_5 : decode cX1_firstFault 5 = .ok (.iload_n 1, 1) := by decide +kernel
theorem dX1_firstFault_6 : decode cX1_firstFault 6 = .ok (.aload_n 0, 1) := by decide +kernel
theorem dX1_firstFault_7 : decode cX1_firstFault 7 = .ok (.getfield 19, 3) := by decide +kernel
theorem dX1_firstFault_10 : decode cX1_firstFault 10 = .ok (.if_icmp .lt 8, 3) := by decide +kernel
theorem dX1_firstFault_13 : decode cX1_firstFault 13 = .ok (.aload_n 0, 1) := by decide +kernel
theorem dX1_firstFault_14 : decode cX1_firstFault 14 = .ok (.getfield 19, 3) := by decide +kernel
theorem dX1_firstFault_17 : decode cX1_firstFault 17 = .ok (.ireturn, 1) := by decide +kernel
theorem dX1_firstFault_18 : decode cX1_firstFault 18 = .ok (.iload_n 1, 1) := by decide +kernel
theorem dX1_firstFault_19 : decode cX1_firstFault 19 = .ok (.iconst 3, 1) := by decide +kernel
theorem dX1_firstFault_20 : decode cX1_firstFault 20 = .ok (.if_icmp .lt 14, 3) := by decide +kernel
theorem dX1_firstFault_23 : decode cX1_firstFault 23 = .ok (.aload_n 0, 1) := by decide +kernel
theorem dX1_firstFault_24 : decode cX1_firstFault 24 = .ok (.getfield 9, 3) := by decide +kernel
theorem dX1_firstFault_27 : decode cX1_firstFault 27 = .ok (.iload_n 1, 1) := by decide +kernel
theorem dX1_firstFault_28 : decode cX1_firstFault 28 = .ok (.iaload, 1) := by decide +kernel
theorem dX1_firstFault_29 : decode cX1_firstFault 29 = .ok (.bipush 59, 2) := by decide +kernel
theorem dX1_firstFault_31 : decode cX1_firstFault 31 = .ok (.if_icmp .eq 5, 3) := by decide +kernel
theorem dX1_firstFault_34 : decode cX1_firstFault 34 = .ok (.iload_n 1, 1) := by decide +kernel
theorem dX1_firstFault_35 : decode cX1_firstFault 35 = .ok (.ireturn, 1) := by decide +kernel
theorem dX1_firstFault_36 : decode cX1_firstFault 36 = .ok (.iconst (-1), 1) := by decide +kernel
theorem dX1_firstFault_37 : decode cX1_firstFault 37 = .ok (.istore_n 2, 1) := by decide +kernel
theorem dX1_firstFault_38 : decode cX1_firstFault 38 = .ok (.iload_n 1, 1) := by decide +kernel
theorem dX1_firstFault_39 : decode cX1_firstFault 39 = .ok (.iconst 1, 1) := by decide +kernel
theorem dX1_firstFault_40 : decode cX1_firstFault 40 = .ok (.iadd, 1) := by decide +kernel
theorem dX1_firstFault_41 : decode cX1_firstFault 41 = .ok (.istore_n 3, 1) := by decide +kernel
theorem dX1_firstFault_42 : decode cX1_firstFault 42 = .ok (.iload_n 3, 1) := by decide +kernel
theorem dX1_firstFault_43 : decode cX1_firstFault 43 = .ok (.aload_n 0, 1) := by decide +kernel
theorem dX1_firstFault_44 : decode cX1_firstFault 44 = .ok (.getfield 19, 3) := by decide +kernel
theorem dX1_firstFault_47 : decode cX1_firstFault 47 = .ok (.if_icmp .ge 37, 3) := by decide +kernel
theorem dX1_firstFault_50 : decode cX1_firstFault 50 = .ok (.iload_n 3, 1) := by decide +kernel
theorem dX1_firstFault_51 : decode cX1_firstFault 51 = .ok (.bipush 14, 2) := by decide +kernel
theorem dX1_firstFault_53 : decode cX1_firstFault 53 = .ok (.if_icmp .ge 31, 3) := by decide +kernel
theorem dX1_firstFault_56 : decode cX1_firstFault 56 = .ok (.aload_n 0, 1) := by decide +kernel
theorem dX1_firstFault_57 : decode cX1_firstFault 57 = .ok (.getfield 9, 3) := by decide +kernel
theorem dX1_firstFault_60 : decode cX1_firstFault 60 = .ok (.iload_n 3, 1) := by decide +kernel
theorem dX1_firstFault_61 : decode cX1_firstFault 61 = .ok (.iaload, 1) := by decide +kernel
theorem dX1_firstFault_62 : decode cX1_firstFault 62 = .ok (.invokestatic 31, 3) := by decide +kernel
theorem dX1_firstFault_65 : decode cX1_firstFault 65 = .ok (.istore 4, 2) := by decide +kernel
theorem dX1_firstFault_67 : decode cX1_firstFault 67 = .ok (.iload 4, 2) := by decide +kernel
theorem dX1_firstFault_69 : decode cX1_firstFault 69 = .ok (.iload_n 2, 1) := by decide +kernel
theorem dX1_firstFault_70 : decode cX1_firstFault 70 = .ok (.if_icmp .gt 5, 3) := by decide +kernel
theorem dX1_firstFault_73 : decode cX1_firstFault 73 = .ok (.iload_n 3, 1) := by decide +kernel
theorem dX1_firstFault_74 : decode cX1_firstFault 74 = .ok (.ireturn, 1) := by decide +kernel
theorem dX1_firstFault_75 : decode cX1_firstFault 75 = .ok (.iload 4, 2) := by decide +kernel
theorem dX1_firstFault_77 : decode cX1_firstFault 77 = .ok (.istore_n 2, 1) := by decide +kernel
theorem dX1_firstFault_78 : decode cX1_firstFault 78 = .ok (.iinc 3 1, 3) := by decide +kernel
theorem dX1_firstFault_81 : decode cX1_firstFault 81 = .ok (.goto (-39), 3) := by decide +kernel
theorem dX1_firstFault_84 : decode cX1_firstFault 84 = .ok (.aload_n 0, 1) := by decide +kernel
theorem dX1_firstFault_85 : decode cX1_firstFault 85 = .ok (.getfield 19, 3) := by decide +kernel
theorem dX1_firstFault_88 : decode cX1_firstFault 88 = .ok (.ireturn, 1) := by decide +kernel
theorem dX1_tellsBrook_0 : decode cX1_tellsBrook 0 = .ok (.aload_n 0, 1) := by decide +kernel
theorem dX1_tellsBrook_1 : decode cX1_tellsBrook 1 = .ok (.invokevirtual 27, 3) := by decide +kernel
theorem dX1_tellsBrook_4 : decode cX1_tellsBrook 4 = .ok (.istore_n 1, 1) := by decide +kernel
theorem dX1_tellsBrook_5 : decode cX1_tellsBrook 5 = .ok (.aload_n 0, 1) := by decide +kernel
theorem dX1_tellsBrook_6 : decode cX1_tellsBrook 6 = .ok (.getfield 19, 3) := by decide +kernel
theorem dX1_tellsBrook_9 : decode cX1_tellsBrook 9 = .ok (.iload_n 1, 1) := by decide +kernel
theorem dX1_tellsBrook_10 : decode cX1_tellsBrook 10 = .ok (.if_icmp .eq 13, 3) := by decide +kernel
theorem dX1_tellsBrook_13 : decode cX1_tellsBrook 13 = .ok (.aload_n 0, 1) := by decide +kernel
theorem dX1_tellsBrook_14 : decode cX1_tellsBrook 14 = .ok (.getfield 19, 3) := by decide +kernel
theorem dX1_tellsBrook_17 : decode cX1_tellsBrook 17 = .ok (.iload_n 1, 1) := by decide +kernel
theorem dX1_tellsBrook_18 : decode cX1_tellsBrook 18 = .ok (.iconst 1, 1) := by decide +kernel
theorem dX1_tellsBrook_19 : decode cX1_tellsBrook 19 = .ok (.iadd, 1) := by decide +kernel
theorem dX1_tellsBrook_20 : decode cX1_tellsBrook 20 = .ok (.if_icmp .le 7, 3) := by decide +kernel
theorem dX1_tellsBrook_23 : decode cX1_tellsBrook 23 = .ok (.iconst 1, 1) := by decide +kernel
theorem dX1_tellsBrook_24 : decode cX1_tellsBrook 24 = .ok (.goto 4, 3) := by decide +kernel
theorem dX1_tellsBrook_27 : decode cX1_tellsBrook 27 = .ok (.iconst 0, 1) := by decide +kernel
theorem dX1_tellsBrook_28 : decode cX1_tellsBrook 28 = .ok (.istore_n 2, 1) := by decide +kernel
theorem dX1_tellsBrook_29 : decode cX1_tellsBrook 29 = .ok (.iload_n 1, 1) := by decide +kernel
theorem dX1_tellsBrook_30 : decode cX1_tellsBrook 30 = .ok (.iconst 3, 1) := by decide +kernel
theorem dX1_tellsBrook_31 : decode cX1_tellsBrook 31 = .ok (.if_icmp .lt 29, 3) := by decide +kernel
theorem dX1_tellsBrook_34 : decode cX1_tellsBrook 34 = .ok (.iload_n 2, 1) := by decide +kernel
theorem dX1_tellsBrook_35 : decode cX1_tellsBrook 35 = .ok (.ifCond .eq 25, 3) := by decide +kernel
theorem dX1_tellsBrook_38 : decode cX1_tellsBrook 38 = .ok (.aload_n 0, 1) := by decide +kernel
theorem dX1_tellsBrook_39 : decode cX1_tellsBrook 39 = .ok (.invokevirtual 34, 3) := by decide +kernel
theorem dX1_tellsBrook_42 : decode cX1_tellsBrook 42 = .ok (.aload_n 0, 1) := by decide +kernel
theorem dX1_tellsBrook_43 : decode cX1_tellsBrook 43 = .ok (.getfield 19, 3) := by decide +kernel
theorem dX1_tellsBrook_46 : decode cX1_tellsBrook 46 = .ok (.if_icmp .ne 14, 3) := by decide +kernel
theorem dX1_tellsBrook_49 : decode cX1_tellsBrook 49 = .ok (.aload_n 0, 1) := by decide +kernel
theorem dX1_tellsBrook_50 : decode cX1_tellsBrook 50 = .ok (.invokevirtual 37, 3) := by decide +kernel
theorem dX1_tellsBrook_53 : decode cX1_tellsBrook 53 = .ok (.ifCond .eq 7, 3) := by decide +kernel
theorem dX1_tellsBrook_56 : decode cX1_tellsBrook 56 = .ok (.iconst 1, 1) := by decide +kernel
theorem dX1_tellsBrook_57 : decode cX1_tellsBrook 57 = .ok (.goto 4, 3) := by decide +kernel
theorem dX1_tellsBrook_60 : decode cX1_tellsBrook 60 = .ok (.iconst 0, 1) := by decide +kernel
theorem dX1_tellsBrook_61 : decode cX1_tellsBrook 61 = .ok (.ireturn, 1) := by decide +kernel
theorem dX1_tellsRow_0 : decode cX1_tellsRow 0 = .ok (.aload_n 0, 1) := by decide +kernel
theorem dX1_tellsRow_1 : decode cX1_tellsRow 1 = .ok (.getfield 19, 3) := by decide +kernel
theorem dX1_tellsRow_4 : decode cX1_tellsRow 4 = .ok (.iload_n 1, 1) := by decide +kernel
theorem dX1_tellsRow_5 : decode cX1_tellsRow 5 = .ok (.if_icmp .ne 15, 3) := by decide +kernel
theorem dX1_tellsRow_8 : decode cX1_tellsRow 8 = .ok (.aload_n 0, 1) := by decide +kernel
theorem dX1_tellsRow_9 : decode cX1_tellsRow 9 = .ok (.invokevirtual 27, 3) := by decide +kernel
theorem dX1_tellsRow_12 : decode cX1_tellsRow 12 = .ok (.iload_n 1, 1) := by decide +kernel
theorem dX1_tellsRow_13 : decode cX1_tellsRow 13 = .ok (.if_icmp .ne 7, 3) := by decide +kernel
theorem dX1_tellsRow_16 : decode cX1_tellsRow 16 = .ok (.iconst 1, 1) := by decide +kernel
theorem dX1_tellsRow_17 : decode cX1_tellsRow 17 = .ok (.goto 4, 3) := by decide +kernel
theorem dX1_tellsRow_20 : decode cX1_tellsRow 20 = .ok (.iconst 0, 1) := by decide +kernel
theorem dX1_tellsRow_21 : decode cX1_tellsRow 21 = .ok (.ireturn, 1) := by decide +kernel
theorem dX1_row_0 : decode cX1_row 0 = .ok (.aload_n 0, 1) := by decide +kernel
theorem dX1_row_1 : decode cX1_row 1 = .ok (.invokevirtual 27, 3) := by decide +kernel
theorem dX1_row_4 : decode cX1_row 4 = .ok (.istore_n 1, 1) := by decide +kernel
theorem dX1_row_5 : decode cX1_row 5 = .ok (.iconst 0, 1) := by decide +kernel
theorem dX1_row_6 : decode cX1_row 6 = .ok (.istore_n 2, 1) := by decide +kernel
theorem dX1_row_7 : decode cX1_row 7 = .ok (.iconst 0, 1) := by decide +kernel
theorem dX1_row_8 : decode cX1_row 8 = .ok (.istore_n 3, 1) := by decide +kernel
theorem dX1_row_9 : decode cX1_row 9 = .ok (.iload_n 3, 1) := by decide +kernel
theorem dX1_row_10 : decode cX1_row 10 = .ok (.iload_n 1, 1) := by decide +kernel
theorem dX1_row_11 : decode cX1_row 11 = .ok (.if_icmp .ge 31, 3) := by decide +kernel
theorem dX1_row_14 : decode cX1_row 14 = .ok (.iload_n 3, 1) := by decide +kernel
theorem dX1_row_15 : decode cX1_row 15 = .ok (.bipush 7, 2) := by decide +kernel
theorem dX1_row_17 : decode cX1_row 17 = .ok (.if_icmp .ge 25, 3) := by decide +kernel
theorem dX1_row_20 : decode cX1_row 20 = .ok (.iload_n 2, 1) := by decide +kernel
theorem dX1_row_21 : decode cX1_row 21 = .ok (.aload_n 0, 1) := by decide +kernel
theorem dX1_row_22 : decode cX1_row 22 = .ok (.getfield 9, 3) := by decide +kernel
theorem dX1_row_25 : decode cX1_row 25 = .ok (.iload_n 3, 1) := by decide +kernel
theorem dX1_row_26 : decode cX1_row 26 = .ok (.iaload, 1) := by decide +kernel
theorem dX1_row_27 : decode cX1_row 27 = .ok (.invokestatic 23, 3) := by decide +kernel
theorem dX1_row_30 : decode cX1_row 30 = .ok (.iconst 3, 1) := by decide +kernel
theorem dX1_row_31 : decode cX1_row 31 = .ok (.iload_n 3, 1) := by decide +kernel
theorem dX1_row_32 : decode cX1_row 32 = .ok (.imul, 1) := by decide +kernel
theorem dX1_row_33 : decode cX1_row 33 = .ok (.ishl, 1) := by decide +kernel
theorem dX1_row_34 : decode cX1_row 34 = .ok (.ior, 1) := by decide +kernel
theorem dX1_row_35 : decode cX1_row 35 = .ok (.istore_n 2, 1) := by decide +kernel
theorem dX1_row_36 : decode cX1_row 36 = .ok (.iinc 3 1, 3) := by decide +kernel
theorem dX1_row_39 : decode cX1_row 39 = .ok (.goto (-30), 3) := by decide +kernel
theorem dX1_row_42 : decode cX1_row 42 = .ok (.iload_n 2, 1) := by decide +kernel
theorem dX1_row_43 : decode cX1_row 43 = .ok (.ireturn, 1) := by decide +kernel
theorem dX1_signs_0 : decode cX1_signs 0 = .ok (.iconst 0, 1) := by decide +kernel
theorem dX1_signs_1 : decode cX1_signs 1 = .ok (.istore_n 1, 1) := by decide +kernel
theorem dX1_signs_2 : decode cX1_signs 2 = .ok (.aload_n 0, 1) := by decide +kernel
theorem dX1_signs_3 : decode cX1_signs 3 = .ok (.invokevirtual 27, 3) := by decide +kernel
theorem dX1_signs_6 : decode cX1_signs 6 = .ok (.iconst 1, 1) := by decide +kernel
theorem dX1_signs_7 : decode cX1_signs 7 = .ok (.iadd, 1) := by decide +kernel
theorem dX1_signs_8 : decode cX1_signs 8 = .ok (.istore_n 2, 1) := by decide +kernel
theorem dX1_signs_9 : decode cX1_signs 9 = .ok (.iload_n 2, 1) := by decide +kernel
theorem dX1_signs_10 : decode cX1_signs 10 = .ok (.aload_n 0, 1) := by decide +kernel
theorem dX1_signs_11 : decode cX1_signs 11 = .ok (.getfield 19, 3) := by decide +kernel
theorem dX1_signs_14 : decode cX1_signs 14 = .ok (.if_icmp .ge 36, 3) := by decide +kernel
theorem dX1_signs_17 : decode cX1_signs 17 = .ok (.iload_n 2, 1) := by decide +kernel
theorem dX1_signs_18 : decode cX1_signs 18 = .ok (.bipush 14, 2) := by decide +kernel
theorem dX1_signs_20 : decode cX1_signs 20 = .ok (.if_icmp .ge 30, 3) := by decide +kernel
theorem dX1_signs_23 : decode cX1_signs 23 = .ok (.aload_n 0, 1) := by decide +kernel
theorem dX1_signs_24 : decode cX1_signs 24 = .ok (.getfield 9, 3) := by decide +kernel
theorem dX1_signs_27 : decode cX1_signs 27 = .ok (.iload_n 2, 1) := by decide +kernel
theorem dX1_signs_28 : decode cX1_signs 28 = .ok (.iaload, 1) := by decide +kernel
theorem dX1_signs_29 : decode cX1_signs 29 = .ok (.invokestatic 31, 3) := by decide +kernel
theorem dX1_signs_32 : decode cX1_signs 32 = .ok (.istore_n 3, 1) := by decide +kernel
theorem dX1_signs_33 : decode cX1_signs 33 = .ok (.iload_n 3, 1) := by decide +kernel
theorem dX1_signs_34 : decode cX1_signs 34 = .ok (.iconst (-1), 1) := by decide +kernel
theorem dX1_signs_35 : decode cX1_signs 35 = .ok (.if_icmp .eq 9, 3) := by decide +kernel
theorem dX1_signs_38 : decode cX1_signs 38 = .ok (.iload_n 1, 1) := by decide +kernel
theorem dX1_signs_39 : decode cX1_signs 39 = .ok (.iconst 1, 1) := by decide +kernel
theorem dX1_signs_40 : decode cX1_signs 40 = .ok (.iload_n 3, 1) := by decide +kernel
theorem dX1_signs_41 : decode cX1_signs 41 = .ok (.ishl, 1) := by decide +kernel
theorem dX1_signs_42 : decode cX1_signs 42 = .ok (.ior, 1) := by decide +kernel
theorem dX1_signs_43 : decode cX1_signs 43 = .ok (.istore_n 1, 1) := by decide +kernel
theorem dX1_signs_44 : decode cX1_signs 44 = .ok (.iinc 2 1, 3) := by decide +kernel
theorem dX1_signs_47 : decode cX1_signs 47 = .ok (.goto (-38), 3) := by decide +kernel
theorem dX1_signs_50 : decode cX1_signs 50 = .ok (.iload_n 1, 1) := by decide +kernel
theorem dX1_signs_51 : decode cX1_signs 51 = .ok (.ireturn, 1) := by decide +kernel
theorem dX2_init_0 : decode cX2_init 0 = .ok (.aload_n 0, 1) := by decide +kernel
theorem dX2_init_1 : decode cX2_init 1 = .ok (.invokespecial 3, 3) := by decide +kernel
theorem dX2_init_4 : decode cX2_init 4 = .ok (.aload_n 0, 1) := by decide +kernel
theorem dX2_init_5 : decode cX2_init 5 = .ok (.bipush 60, 2) := by decide +kernel
theorem dX2_init_7 : decode cX2_init 7 = .ok (.newarray .int, 2) := by decide +kernel
theorem dX2_init_9 : decode cX2_init 9 = .ok (.putfield 9, 3) := by decide +kernel
theorem dX2_init_12 : decode cX2_init 12 = .ok (.aload_n 0, 1) := by decide +kernel
theorem dX2_init_13 : decode cX2_init 13 = .ok (.bipush 60, 2) := by decide +kernel
theorem dX2_init_15 : decode cX2_init 15 = .ok (.newarray .int, 2) := by decide +kernel
theorem dX2_init_17 : decode cX2_init 17 = .ok (.putfield 15, 3) := by decide +kernel
theorem dX2_init_20 : decode cX2_init 20 = .ok (.return_, 1) := by decide +kernel
theorem dX2_begin_0 : decode cX2_begin 0 = .ok (.aload_n 0, 1) := by decide +kernel
theorem dX2_begin_1 : decode cX2_begin 1 = .ok (.iload_n 1, 1) := by decide +kernel
theorem dX2_begin_2 : decode cX2_begin 2 = .ok (.putfield 18, 3) := by decide +kernel
theorem dX2_begin_5 : decode cX2_begin 5 = .ok (.aload_n 0, 1) := by decide +kernel
theorem dX2_begin_6 : decode cX2_begin 6 = .ok (.iload_n 2, 1) := by decide +kernel
theorem dX2_begin_7 : decode cX2_begin 7 = .ok (.putfield 22, 3) := by decide +kernel
theorem dX2_begin_10 : decode cX2_begin 10 = .ok (.aload_n 0, 1) := by decide +kernel
theorem dX2_begin_11 : decode cX2_begin 11 = .ok (.iconst 0, 1) := by decide +kernel
theorem dX2_begin_12 : decode cX2_begin 12 = .ok (.putfield 25, 3) := by decide +kernel
theorem dX2_begin_15 : decode cX2_begin 15 = .ok (.return_, 1) := by decide +kernel
theorem dX2_go_0 : decode cX2_go 0 = .ok (.aload_n 0, 1) := by decide +kernel
theorem dX2_go_1 : decode cX2_go 1 = .ok (.getfield 25, 3) := by decide +kernel
theorem dX2_go_4 : decode cX2_go 4 = .ok (.bipush 60, 2) := by decide +kernel
theorem dX2_go_6 : decode cX2_go 6 = .ok (.if_icmp .lt 4, 3) := by decide +kernel
theorem dX2_go_9 : decode cX2_go 9 = .ok (.return_, 1) := by decide +kernel
theorem dX2_go_10 : decode cX2_go 10 = .ok (.bipush 8, 2) := by decide +kernel
theorem dX2_go_12 : decode cX2_go 12 = .ok (.iload_n 1, 1) := by decide +kernel
theorem dX2_go_13 : decode cX2_go 13 = .ok (.imul, 1) := by decide +kernel
theorem dX2_go_14 : decode cX2_go 14 = .ok (.iload_n 2, 1) := by decide +kernel
theorem dX2_go_15 : decode cX2_go 15 = .ok (.iadd, 1) := by decide +kernel
theorem dX2_go_16 : decode cX2_go 16 = .ok (.istore_n 3, 1) := by decide +kernel
theorem dX2_go_17 : decode cX2_go 17 = .ok (.aload_n 0, 1) := by decide +kernel
theorem dX2_go_18 : decode cX2_go 18 = .ok (.getfield 9, 3) := by decide +kernel
theorem dX2_go_21 : decode cX2_go 21 = .ok (.aload_n 0, 1) := by decide +kernel
theorem dX2_go_22 : decode cX2_go 22 = .ok (.getfield 25, 3) := by decide +kernel
theorem dX2_go_25 : decode cX2_go 25 = .ok (.iload_n 3, 1) := by decide +kernel
theorem dX2_go_26 : decode cX2_go 26 = .ok (.iastore, 1) := by decide +kernel
theorem dX2_go_27 : decode cX2_go 27 = .ok (.aload_n 0, 1) := by decide +kernel
theorem dX2_go_28 : decode cX2_go 28 = .ok (.getfield 15, 3) := by decide +kernel
theorem dX2_go_31 : decode cX2_go 31 = .ok (.aload_n 0, 1) := by decide +kernel
theorem dX2_go_32 : decode cX2_go 32 = .ok (.getfield 25, 3) := by decide +kernel
theorem dX2_go_35 : decode cX2_go 35 = .ok (.aload_n 0, 1) := by decide +kernel
theorem dX2_go_36 : decode cX2_go 36 = .ok (.getfield 22, 3) := by decide +kernel
theorem dX2_go_39 : decode cX2_go 39 = .ok (.iload_n 1, 1) := by decide +kernel
theorem dX2_go_40 : decode cX2_go 40 = .ok (.invokestatic 28, 3) := by decide +kernel
theorem dX2_go_43 : decode cX2_go 43 = .ok (.iconst 1, 1) := by decide +kernel
theorem dX2_go_44 : decode cX2_go 44 = .ok (.isub, 1) := by decide +kernel
theorem dX2_go_45 : decode cX2_go 45 = .ok (.iastore, 1) := by decide +kernel
theorem dX2_go_46 : decode cX2_go 46 = .ok (.aload_n 0, 1) := by decide +kernel
theorem dX2_go_47 : decode cX2_go 47 = .ok (.dup, 1) := by decide +kernel
theorem dX2_go_48 : decode cX2_go 48 = .ok (.getfield 25, 3) := by decide +kernel
theorem dX2_go_51 : decode cX2_go 51 = .ok (.iconst 1, 1) := by decide +kernel
theorem dX2_go_52 : decode cX2_go 52 = .ok (.iadd, 1) := by decide +kernel
theorem dX2_go_53 : decode cX2_go 53 = .ok (.putfield 25, 3) := by decide +kernel
theorem dX2_go_56 : decode cX2_go 56 = .ok (.aload_n 0, 1) := by decide +kernel
theorem dX2_go_57 : decode cX2_go 57 = .ok (.aload_n 0, 1) := by decide +kernel
theorem dX2_go_58 : decode cX2_go 58 = .ok (.getfield 18, 3) := by decide +kernel
theorem dX2_go_61 : decode cX2_go 61 = .ok (.iload_n 3, 1) := by decide +kernel
theorem dX2_go_62 : decode cX2_go 62 = .ok (.invokestatic 34, 3) := by decide +kernel
theorem dX2_go_65 : decode cX2_go 65 = .ok (.putfield 18, 3) := by decide +kernel
theorem dX2_go_68 : decode cX2_go 68 = .ok (.aload_n 0, 1) := by decide +kernel
theorem dX2_go_69 : decode cX2_go 69 = .ok (.aload_n 0, 1) := by decide +kernel
theorem dX2_go_70 : decode cX2_go 70 = .ok (.getfield 22, 3) := by decide +kernel
theorem dX2_go_73 : decode cX2_go 73 = .ok (.iload_n 3, 1) := by decide +kernel
theorem dX2_go_74 : decode cX2_go 74 = .ok (.invokestatic 34, 3) := by decide +kernel
theorem dX2_go_77 : decode cX2_go 77 = .ok (.putfield 22, 3) := by decide +kernel
theorem dX2_go_80 : decode cX2_go 80 = .ok (.return_, 1) := by decide +kernel
theorem dX2_takeBack_0 : decode cX2_takeBack 0 = .ok (.aload_n 0, 1) := by decide +kernel
theorem dX2_takeBack_1 : decode cX2_takeBack 1 = .ok (.getfield 25, 3) := by decide +kernel
theorem dX2_takeBack_4 : decode cX2_takeBack 4 = .ok (.ifCond .le 12, 3) := by decide +kernel
theorem dX2_takeBack_7 : decode cX2_takeBack 7 = .ok (.aload_n 0, 1) := by decide +kernel
theorem dX2_takeBack_8 : decode cX2_takeBack 8 = .ok (.getfield 25, 3) := by decide +kernel
theorem dX2_takeBack_11 : decode cX2_takeBack 11 = .ok (.bipush 60, 2) := by decide +kernel
theorem dX2_takeBack_13 : decode cX2_takeBack 13 = .ok (.if_icmp .le 5, 3) := by decide +kernel
theorem dX2_takeBack_16 : decode cX2_takeBack 16 = .ok (.iconst (-1), 1) := by decide +kernel
theorem dX2_takeBack_17 : decode cX2_takeBack 17 = .ok (.ireturn, 1) := by decide +kernel
theorem dX2_takeBack_18 : decode cX2_takeBack 18 = .ok (.aload_n 0, 1) := by decide +kernel
theorem dX2_takeBack_19 : decode cX2_takeBack 19 = .ok (.dup, 1) := by decide +kernel
theorem dX2_takeBack_20 : decode cX2_takeBack 20 = .ok (.getfield 25, 3) := by decide +kernel
theorem dX2_takeBack_23 : decode cX2_takeBack 23 = .ok (.iconst 1, 1) := by decide +kernel
theorem dX2_takeBack_24 : decode cX2_takeBack 24 = .ok (.isub, 1) := by decide +kernel
theorem dX2_takeBack_25 : decode cX2_takeBack 25 = .ok (.putfield 25, 3) := by decide +kernel
theorem dX2_takeBack_28 : decode cX2_takeBack 28 = .ok (.aload_n 0, 1) := by decide +kernel
theorem dX2_takeBack_29 : decode cX2_takeBack 29 = .ok (.getfield 9, 3) := by decide +kernel
theorem dX2_takeBack_32 : decode cX2_takeBack 32 = .ok (.aload_n 0, 1) := by decide +kernel
theorem dX2_takeBack_33 : decode cX2_takeBack 33 = .ok (.getfield 25, 3) := by decide +kernel
theorem dX2_takeBack_36 : decode cX2_takeBack 36 = .ok (.iaload, 1) := by decide +kernel
theorem dX2_takeBack_37 : decode cX2_takeBack 37 = .ok (.iconst 3, 1) := by decide +kernel
theorem dX2_takeBack_38 : decode cX2_takeBack 38 = .ok (.ishr, 1) := by decide +kernel
theorem dX2_takeBack_39 : decode cX2_takeBack 39 = .ok (.istore_n 1, 1) := by decide +kernel
theorem dX2_takeBack_40 : decode cX2_takeBack 40 = .ok (.bipush 8, 2) := by decide +kernel
theorem dX2_takeBack_42 : decode cX2_takeBack 42 = .ok (.aload_n 0, 1) := by decide +kernel
theorem dX2_takeBack_43 : decode cX2_takeBack 43 = .ok (.getfield 9, 3) := by decide +kernel
theorem dX2_takeBack_46 : decode cX2_takeBack 46 = .ok (.aload_n 0, 1) := by decide +kernel
theorem dX2_takeBack_47 : decode cX2_takeBack 47 = .ok (.getfield 25, 3) := by decide +kernel
theorem dX2_takeBack_50 : decode cX2_takeBack 50 = .ok (.iaload, 1) := by decide +kernel
theorem dX2_takeBack_51 : decode cX2_takeBack 51 = .ok (.bipush 7, 2) := by decide +kernel
theorem dX2_takeBack_53 : decode cX2_takeBack 53 = .ok (.iand, 1) := by decide +kernel
theorem dX2_takeBack_54 : decode cX2_takeBack 54 = .ok (.imul, 1) := by decide +kernel
theorem dX2_takeBack_55 : decode cX2_takeBack 55 = .ok (.iload_n 1, 1) := by decide +kernel
theorem dX2_takeBack_56 : decode cX2_takeBack 56 = .ok (.iadd, 1) := by decide +kernel
theorem dX2_takeBack_57 : decode cX2_takeBack 57 = .ok (.istore_n 2, 1) := by decide +kernel
theorem dX2_takeBack_58 : decode cX2_takeBack 58 = .ok (.aload_n 0, 1) := by decide +kernel
theorem dX2_takeBack_59 : decode cX2_takeBack 59 = .ok (.aload_n 0, 1) := by decide +kernel
theorem dX2_takeBack_60 : decode cX2_takeBack 60 = .ok (.getfield 18, 3) := by decide +kernel
theorem dX2_takeBack_63 : decode cX2_takeBack 63 = .ok (.iload_n 2, 1) := by decide +kernel
theorem dX2_takeBack_64 : decode cX2_takeBack 64 = .ok (.invokestatic 34, 3) := by decide +kernel
theorem dX2_takeBack_67 : decode cX2_takeBack 67 = .ok (.putfield 18, 3) := by decide +kernel
theorem dX2_takeBack_70 : decode cX2_takeBack 70 = .ok (.aload_n 0, 1) := by decide +kernel
theorem dX2_takeBack_71 : decode cX2_takeBack 71 = .ok (.aload_n 0, 1) := by decide +kernel
theorem dX2_takeBack_72 : decode cX2_takeBack 72 = .ok (.getfield 22, 3) := by decide +kernel
theorem dX2_takeBack_75 : decode cX2_takeBack 75 = .ok (.iload_n 2, 1) := by decide +kernel
theorem dX2_takeBack_76 : decode cX2_takeBack 76 = .ok (.invokestatic 34, 3) := by decide +kernel
theorem dX2_takeBack_79 : decode cX2_takeBack 79 = .ok (.putfield 22, 3) := by decide +kernel
theorem dX2_takeBack_82 : decode cX2_takeBack 82 = .ok (.iload_n 1, 1) := by decide +kernel
theorem dX2_takeBack_83 : decode cX2_takeBack 83 = .ok (.ireturn, 1) := by decide +kernel
theorem dX2_stoneOf_0 : decode cX2_stoneOf 0 = .ok (.iconst 0, 1) := by decide +kernel
theorem dX2_stoneOf_1 : decode cX2_stoneOf 1 = .ok (.istore_n 2, 1) := by decide +kernel
theorem dX2_stoneOf_2 : decode cX2_stoneOf 2 = .ok (.iload_n 2, 1) := by decide +kernel
theorem dX2_stoneOf_3 : decode cX2_stoneOf 3 = .ok (.bipush 7, 2) := by decide +kernel
theorem dX2_stoneOf_5 : decode cX2_stoneOf 5 = .ok (.if_icmp .ge 25, 3) := by decide +kernel
theorem dX2_stoneOf_8 : decode cX2_stoneOf 8 = .ok (.aload_n 0, 1) := by decide +kernel
theorem dX2_stoneOf_9 : decode cX2_stoneOf 9 = .ok (.getfield 22, 3) := by decide +kernel
theorem dX2_stoneOf_12 : decode cX2_stoneOf 12 = .ok (.iload_n 2, 1) := by decide +kernel
theorem dX2_stoneOf_13 : decode cX2_stoneOf 13 = .ok (.invokestatic 28, 3) := by decide +kernel
theorem dX2_stoneOf_16 : decode cX2_stoneOf 16 = .ok (.iload_n 1, 1) := by decide +kernel
theorem dX2_stoneOf_17 : decode cX2_stoneOf 17 = .ok (.iconst 1, 1) := by decide +kernel
theorem dX2_stoneOf_18 : decode cX2_stoneOf 18 = .ok (.iadd, 1) := by decide +kernel
theorem dX2_stoneOf_19 : decode cX2_stoneOf 19 = .ok (.if_icmp .ne 5, 3) := by decide +kernel
theorem dX2_stoneOf_22 : decode cX2_stoneOf 22 = .ok (.iload_n 2, 1) := by decide +kernel
theorem dX2_stoneOf_23 : decode cX2_stoneOf 23 = .ok (.ireturn, 1) := by decide +kernel
theorem dX2_stoneOf_24 : decode cX2_stoneOf 24 = .ok (.iinc 2 1, 3) := by decide +kernel
theorem dX2_stoneOf_27 : decode cX2_stoneOf 27 = .ok (.goto (-25), 3) := by decide +kernel
theorem dX2_stoneOf_30 : decode cX2_stoneOf 30 = .ok (.iconst 0, 1) := by decide +kernel
theorem dX2_stoneOf_31 : decode cX2_stoneOf 31 = .ok (.ireturn, 1) := by decide +kernel
theorem dX2_timesMoved_0 : decode cX2_timesMoved 0 = .ok (.iconst 0, 1) := by decide +kernel
theorem dX2_timesMoved_1 : decode cX2_timesMoved 1 = .ok (.istore_n 2, 1) := by decide +kernel
theorem dX2_timesMoved_2 : decode cX2_timesMoved 2 = .ok (.iconst 0, 1) := by decide +kernel
theorem dX2_timesMoved_3 : decode cX2_timesMoved 3 = .ok (.istore_n 3, 1) := by decide +kernel
theorem dX2_timesMoved_4 : decode cX2_timesMoved 4 = .ok (.iload_n 3, 1) := by decide +kernel
theorem dX2_timesMoved_5 : decode cX2_timesMoved 5 = .ok (.aload_n 0, 1) := by decide +kernel
theorem dX2_timesMoved_6 : decode cX2_timesMoved 6 = .ok (.getfield 25, 3) := by decide +kernel
theorem dX2_timesMoved_9 : decode cX2_timesMoved 9 = .ok (.if_icmp .ge 28, 3) := by decide +kernel
theorem dX2_timesMoved_12 : decode cX2_timesMoved 12 = .ok (.iload_n 3, 1) := by decide +kernel
theorem dX2_timesMoved_13 : decode cX2_timesMoved 13 = .ok (.bipush 60, 2) := by decide +kernel
theorem dX2_timesMoved_15 : decode cX2_timesMoved 15 = .ok (.if_icmp .ge 22, 3) := by decide +kernel
theorem dX2_timesMoved_18 : decode cX2_timesMoved 18 = .ok (.aload_n 0, 1) := by decide +kernel
theorem dX2_timesMoved_19 : decode cX2_timesMoved 19 = .ok (.getfield 15, 3) := by decide +kernel
theorem dX2_timesMoved_22 : decode cX2_timesMoved 22 = .ok (.iload_n 3, 1) := by decide +kernel
theorem dX2_timesMoved_23 : decode cX2_timesMoved 23 = .ok (.iaload, 1) := by decide +kernel
theorem dX2_timesMoved_24 : decode cX2_timesMoved 24 = .ok (.iload_n 1, 1) := by decide +kernel
theorem dX2_timesMoved_25 : decode cX2_timesMoved 25 = .ok (.if_icmp .ne 6, 3) := by decide +kernel
theorem dX2_timesMoved_28 : decode cX2_timesMoved 28 = .ok (.iinc 2 1, 3) := by decide +kernel
theorem dX2_timesMoved_31 : decode cX2_timesMoved 31 = .ok (.iinc 3 1, 3) := by decide +kernel
theorem dX2_timesMoved_34 : decode cX2_timesMoved 34 = .ok (.goto (-30), 3) := by decide +kernel
theorem dX2_timesMoved_37 : decode cX2_timesMoved 37 = .ok (.iload_n 2, 1) := by decide +kernel
theorem dX2_timesMoved_38 : decode cX2_timesMoved 38 = .ok (.ireturn, 1) := by decide +kernel
theorem dX2_copy_0 : decode cX2_copy 0 = .ok (.aload_n 0, 1) := by decide +kernel
theorem dX2_copy_1 : decode cX2_copy 1 = .ok (.aload_n 1, 1) := by decide +kernel
theorem dX2_copy_2 : decode cX2_copy 2 = .ok (.getfield 18, 3) := by decide +kernel
theorem dX2_copy_5 : decode cX2_copy 5 = .ok (.putfield 18, 3) := by decide +kernel
theorem dX2_copy_8 : decode cX2_copy 8 = .ok (.aload_n 0, 1) := by decide +kernel
theorem dX2_copy_9 : decode cX2_copy 9 = .ok (.aload_n 1, 1) := by decide +kernel
theorem dX2_copy_10 : decode cX2_copy 10 = .ok (.getfield 22, 3) := by decide +kernel
theorem dX2_copy_13 : decode cX2_copy 13 = .ok (.putfield 22, 3) := by decide +kernel
theorem dX2_copy_16 : decode cX2_copy 16 = .ok (.aload_n 0, 1) := by decide +kernel
theorem dX2_copy_17 : decode cX2_copy 17 = .ok (.aload_n 1, 1) := by decide +kernel
theorem dX2_copy_18 : decode cX2_copy 18 = .ok (.getfield 25, 3) := by decide +kernel
theorem dX2_copy_21 : decode cX2_copy 21 = .ok (.putfield 25, 3) := by decide +kernel
theorem dX2_copy_24 : decode cX2_copy 24 = .ok (.iconst 0, 1) := by decide +kernel
theorem dX2_copy_25 : decode cX2_copy 25 = .ok (.istore_n 2, 1) := by decide +kernel
theorem dX2_copy_26 : decode cX2_copy 26 = .ok (.iload_n 2, 1) := by decide +kernel
theorem dX2_copy_27 : decode cX2_copy 27 = .ok (.aload_n 0, 1) := by decide +kernel
theorem dX2_copy_28 : decode cX2_copy 28 = .ok (.getfield 25, 3) := by decide +kernel
theorem dX2_copy_31 : decode cX2_copy 31 = .ok (.if_icmp .ge 39, 3) := by decide +kernel
theorem dX2_copy_34 : decode cX2_copy 34 = .ok (.iload_n 2, 1) := by decide +kernel
theorem dX2_copy_35 : decode cX2_copy 35 = .ok (.bipush 60, 2) := by decide +kernel
theorem dX2_copy_37 : decode cX2_copy 37 = .ok (.if_icmp .ge 33, 3) := by decide +kernel
theorem dX2_copy_40 : decode cX2_copy 40 = .ok (.aload_n 0, 1) := by decide +kernel
theorem dX2_copy_41 : decode cX2_copy 41 = .ok (.getfield 9, 3) := by decide +kernel
theorem dX2_copy_44 : decode cX2_copy 44 = .ok (.iload_n 2, 1) := by decide +kernel
theorem dX2_copy_45 : decode cX2_copy 45 = .ok (.aload_n 1, 1) := by decide +kernel
theorem dX2_copy_46 : decode cX2_copy 46 = .ok (.getfield 9, 3) := by decide +kernel
theorem dX2_copy_49 : decode cX2_copy 49 = .ok (.iload_n 2, 1) := by decide +kernel
theorem dX2_copy_50 : decode cX2_copy 50 = .ok (.iaload, 1) := by decide +kernel
theorem dX2_copy_51 : decode cX2_copy 51 = .ok (.iastore, 1) := by decide +kernel
theorem dX2_copy_52 : decode cX2_copy 52 = .ok (.aload_n 0, 1) := by decide +kernel
theorem dX2_copy_53 : decode cX2_copy 53 = .ok (.getfield 15, 3) := by decide +kernel
theorem dX2_copy_56 : decode cX2_copy 56 = .ok (.iload_n 2, 1) := by decide +kernel
theorem dX2_copy_57 : decode cX2_copy 57 = .ok (.aload_n 1, 1) := by decide +kernel
theorem dX2_copy_58 : decode cX2_copy 58 = .ok (.getfield 15, 3) := by decide +kernel
theorem dX2_copy_61 : decode cX2_copy 61 = .ok (.iload_n 2, 1) := by decide +kernel
theorem dX2_copy_62 : decode cX2_copy 62 = .ok (.iaload, 1) := by decide +kernel
theorem dX2_copy_63 : decode cX2_copy 63 = .ok (.iastore, 1) := by decide +kernel
theorem dX2_copy_64 : decode cX2_copy 64 = .ok (.iinc 2 1, 3) := by decide +kernel
theorem dX2_copy_67 : decode cX2_copy 67 = .ok (.goto (-41), 3) := by decide +kernel
theorem dX2_copy_70 : decode cX2_copy 70 = .ok (.return_, 1) := by decide +kernel
theorem dX3_at_0 : decode cX3_at 0 = .ok (.iload_n 0, 1) := by decide +kernel
theorem dX3_at_1 : decode cX3_at 1 = .ok (.iconst 3, 1) := by decide +kernel
theorem dX3_at_2 : decode cX3_at 2 = .ok (.iload_n 1, 1) := by decide +kernel
theorem dX3_at_3 : decode cX3_at 3 = .ok (.imul, 1) := by decide +kernel
theorem dX3_at_4 : decode cX3_at 4 = .ok (.ishr, 1) := by decide +kernel
theorem dX3_at_5 : decode cX3_at 5 = .ok (.bipush 7, 2) := by decide +kernel
theorem dX3_at_7 : decode cX3_at 7 = .ok (.iand, 1) := by decide +kernel
theorem dX3_at_8 : decode cX3_at 8 = .ok (.ireturn, 1) := by decide +kernel
theorem dX3_moved_0 : decode cX3_moved 0 = .ok (.iconst 3, 1) := by decide +kernel
theorem dX3_moved_1 : decode cX3_moved 1 = .ok (.iload_n 1, 1) := by decide +kernel
theorem dX3_moved_2 : decode cX3_moved 2 = .ok (.iconst 3, 1) := by decide +kernel
theorem dX3_moved_3 : decode cX3_moved 3 = .ok (.ishr, 1) := by decide +kernel
theorem dX3_moved_4 : decode cX3_moved 4 = .ok (.imul, 1) := by decide +kernel
theorem dX3_moved_5 : decode cX3_moved 5 = .ok (.istore_n 2, 1) := by decide +kernel
theorem dX3_moved_6 : decode cX3_moved 6 = .ok (.iconst 3, 1) := by decide +kernel
theorem dX3_moved_7 : decode cX3_moved 7 = .ok (.iload_n 1, 1) := by decide +kernel
theorem dX3_moved_8 : decode cX3_moved 8 = .ok (.bipush 7, 2) := by decide +kernel
theorem dX3_moved_10 : decode cX3_moved 10 = .ok (.iand, 1) := by decide +kernel
theorem dX3_moved_11 : decode cX3_moved 11 = .ok (.imul, 1) := by decide +kernel
theorem dX3_moved_12 : decode cX3_moved 12 = .ok (.istore_n 3, 1) := by decide +kernel
theorem dX3_moved_13 : decode cX3_moved 13 = .ok (.iload_n 0, 1) := by decide +kernel
theorem dX3_moved_14 : decode cX3_moved 14 = .ok (.iload_n 2, 1) := by decide +kernel
theorem dX3_moved_15 : decode cX3_moved 15 = .ok (.ishr, 1) := by decide +kernel
theorem dX3_moved_16 : decode cX3_moved 16 = .ok (.bipush 7, 2) := by decide +kernel
theorem dX3_moved_18 : decode cX3_moved 18 = .ok (.iand, 1) := by decide +kernel
theorem dX3_moved_19 : decode cX3_moved 19 = .ok (.istore 4, 2) := by decide +kernel
theorem dX3_moved_21 : decode cX3_moved 21 = .ok (.iload_n 0, 1) := by decide +kernel
theorem dX3_moved_22 : decode cX3_moved 22 = .ok (.iload 4, 2) := by decide +kernel
theorem dX3_moved_24 : decode cX3_moved 24 = .ok (.iload_n 2, 1) := by decide +kernel
theorem dX3_moved_25 : decode cX3_moved 25 = .ok (.ishl, 1) := by decide +kernel
theorem dX3_moved_26 : decode cX3_moved 26 = .ok (.ixor, 1) := by decide +kernel
theorem dX3_moved_27 : decode cX3_moved 27 = .ok (.iload 4, 2) := by decide +kernel
theorem dX3_moved_29 : decode cX3_moved 29 = .ok (.iload_n 3, 1) := by decide +kernel
theorem dX3_moved_30 : decode cX3_moved 30 = .ok (.ishl, 1) := by decide +kernel
theorem dX3_moved_31 : decode cX3_moved 31 = .ok (.ixor, 1) := by decide +kernel
theorem dX3_moved_32 : decode cX3_moved 32 = .ok (.ireturn, 1) := by decide +kernel
theorem dX3_turned_0 : decode cX3_turned 0 = .ok (.iconst 0, 1) := by decide +kernel
theorem dX3_turned_1 : decode cX3_turned 1 = .ok (.istore_n 2, 1) := by decide +kernel
theorem dX3_turned_2 : decode cX3_turned 2 = .ok (.iconst 0, 1) := by decide +kernel
theorem dX3_turned_3 : decode cX3_turned 3 = .ok (.istore_n 3, 1) := by decide +kernel
theorem dX3_turned_4 : decode cX3_turned 4 = .ok (.iload_n 3, 1) := by decide +kernel
theorem dX3_turned_5 : decode cX3_turned 5 = .ok (.iload_n 1, 1) := by decide +kernel
theorem dX3_turned_6 : decode cX3_turned 6 = .ok (.if_icmp .ge 19, 3) := by decide +kernel
theorem dX3_turned_9 : decode cX3_turned 9 = .ok (.iload_n 2, 1) := by decide +kernel
theorem dX3_turned_10 : decode cX3_turned 10 = .ok (.iconst 3, 1) := by decide +kernel
theorem dX3_turned_11 : decode cX3_turned 11 = .ok (.ishl, 1) := by decide +kernel
theorem dX3_turned_12 : decode cX3_turned 12 = .ok (.iload_n 0, 1) := by decide +kernel
theorem dX3_turned_13 : decode cX3_turned 13 = .ok (.iload_n 3, 1) := by decide +kernel
theorem dX3_turned_14 : decode cX3_turned 14 = .ok (.invokestatic 9, 3) := by decide +kernel
theorem dX3_turned_17 : decode cX3_turned 17 = .ok (.ior, 1) := by decide +kernel
theorem dX3_turned_18 : decode cX3_turned 18 = .ok (.istore_n 2, 1) := by decide +kernel
theorem dX3_turned_19 : decode cX3_turned 19 = .ok (.iinc 3 1, 3) := by decide +kernel
theorem dX3_turned_22 : decode cX3_turned 22 = .ok (.goto (-18), 3) := by decide +kernel
theorem dX3_turned_25 : decode cX3_turned 25 = .ok (.iload_n 2, 1) := by decide +kernel
theorem dX3_turned_26 : decode cX3_turned 26 = .ok (.ireturn, 1) := by decide +kernel
theorem dX3_widened_0 : decode cX3_widened 0 = .ok (.iload_n 0, 1) := by decide +kernel
theorem dX3_widened_1 : decode cX3_widened 1 = .ok (.iconst 1, 1) := by decide +kernel
theorem dX3_widened_2 : decode cX3_widened 2 = .ok (.iconst 3, 1) := by decide +kernel
theorem dX3_widened_3 : decode cX3_widened 3 = .ok (.iload_n 1, 1) := by decide +kernel
theorem dX3_widened_4 : decode cX3_widened 4 = .ok (.imul, 1) := by decide +kernel
theorem dX3_widened_5 : decode cX3_widened 5 = .ok (.ishl, 1) := by decide +kernel
theorem dX3_widened_6 : decode cX3_widened 6 = .ok (.iconst 1, 1) := by decide +kernel
theorem dX3_widened_7 : decode cX3_widened 7 = .ok (.isub, 1) := by decide +kernel
theorem dX3_widened_8 : decode cX3_widened 8 = .ok (.iand, 1) := by decide +kernel
theorem dX3_widened_9 : decode cX3_widened 9 = .ok (.istore_n 2, 1) := by decide +kernel
theorem dX3_widened_10 : decode cX3_widened 10 = .ok (.iload_n 2, 1) := by decide +kernel
theorem dX3_widened_11 : decode cX3_widened 11 = .ok (.iload_n 0, 1) := by decide +kernel
theorem dX3_widened_12 : decode cX3_widened 12 = .ok (.iload_n 2, 1) := by decide +kernel
theorem dX3_widened_13 : decode cX3_widened 13 = .ok (.ixor, 1) := by decide +kernel
theorem dX3_widened_14 : decode cX3_widened 14 = .ok (.iconst 3, 1) := by decide +kernel
theorem dX3_widened_15 : decode cX3_widened 15 = .ok (.ishl, 1) := by decide +kernel
theorem dX3_widened_16 : decode cX3_widened 16 = .ok (.ior, 1) := by decide +kernel
theorem dX3_widened_17 : decode cX3_widened 17 = .ok (.ireturn, 1) := by decide +kernel
theorem dX3_without_0 : decode cX3_without 0 = .ok (.iload_n 0, 1) := by decide +kernel
theorem dX3_without_1 : decode cX3_without 1 = .ok (.bipush 7, 2) := by decide +kernel
theorem dX3_without_3 : decode cX3_without 3 = .ok (.iconst 3, 1) := by decide +kernel
theorem dX3_without_4 : decode cX3_without 4 = .ok (.iload_n 1, 1) := by decide +kernel
theorem dX3_without_5 : decode cX3_without 5 = .ok (.imul, 1) := by decide +kernel
theorem dX3_without_6 : decode cX3_without 6 = .ok (.ishl, 1) := by decide +kernel
theorem dX3_without_7 : decode cX3_without 7 = .ok (.iconst (-1), 1) := by decide +kernel
theorem dX3_without_8 : decode cX3_without 8 = .ok (.ixor, 1) := by decide +kernel
theorem dX3_without_9 : decode cX3_without 9 = .ok (.iand, 1) := by decide +kernel
theorem dX3_without_10 : decode cX3_without 10 = .ok (.ireturn, 1) := by decide +kernel
theorem dX3_freeStones_0 : decode cX3_freeStones 0 = .ok (.iconst 0, 1) := by decide +kernel
theorem dX3_freeStones_1 : decode cX3_freeStones 1 = .ok (.istore_n 2, 1) := by decide +kernel
theorem dX3_freeStones_2 : decode cX3_freeStones 2 = .ok (.iconst 0, 1) := by decide +kernel
theorem dX3_freeStones_3 : decode cX3_freeStones 3 = .ok (.istore_n 3, 1) := by decide +kernel
theorem dX3_freeStones_4 : decode cX3_freeStones 4 = .ok (.iload_n 3, 1) := by decide +kernel
theorem dX3_freeStones_5 : decode cX3_freeStones 5 = .ok (.iload_n 1, 1) := by decide +kernel
theorem dX3_freeStones_6 : decode cX3_freeStones 6 = .ok (.if_icmp .ge 20, 3) := by decide +kernel
theorem dX3_freeStones_9 : decode cX3_freeStones 9 = .ok (.iload_n 0, 1) := by decide +kernel
theorem dX3_freeStones_10 : decode cX3_freeStones 10 = .ok (.iload_n 3, 1) := by decide +kernel
theorem dX3_freeStones_11 : decode cX3_freeStones 11 = .ok (.invokestatic 9, 3) := by decide +kernel
theorem dX3_freeStones_14 : decode cX3_freeStones 14 = .ok (.ifCond .ne 6, 3) := by decide +kernel
theorem dX3_freeStones_17 : decode cX3_freeStones 17 = .ok (.iinc 2 1, 3) := by decide +kernel
theorem dX3_freeStones_20 : decode cX3_freeStones 20 = .ok (.iinc 3 1, 3) := by decide +kernel
theorem dX3_freeStones_23 : decode cX3_freeStones 23 = .ok (.goto (-19), 3) := by decide +kernel
theorem dX3_freeStones_26 : decode cX3_freeStones 26 = .ok (.iload_n 2, 1) := by decide +kernel
theorem dX3_freeStones_27 : decode cX3_freeStones 27 = .ok (.ireturn, 1) := by decide +kernel
theorem dX3_numbered_0 : decode cX3_numbered 0 = .ok (.iconst 0, 1) := by decide +kernel
theorem dX3_numbered_1 : decode cX3_numbered 1 = .ok (.istore_n 1, 1) := by decide +kernel
theorem dX3_numbered_2 : decode cX3_numbered 2 = .ok (.iconst 0, 1) := by decide +kernel
theorem dX3_numbered_3 : decode cX3_numbered 3 = .ok (.istore_n 2, 1) := by decide +kernel
theorem dX3_numbered_4 : decode cX3_numbered 4 = .ok (.iconst 0, 1) := by decide +kernel
theorem dX3_numbered_5 : decode cX3_numbered 5 = .ok (.istore_n 3, 1) := by decide +kernel
theorem dX3_numbered_6 : decode cX3_numbered 6 = .ok (.iload_n 3, 1) := by decide +kernel
theorem dX3_numbered_7 : decode cX3_numbered 7 = .ok (.bipush 7, 2) := by decide +kernel
theorem dX3_numbered_9 : decode cX3_numbered 9 = .ok (.if_icmp .ge 28, 3) := by decide +kernel
theorem dX3_numbered_12 : decode cX3_numbered 12 = .ok (.iload_n 0, 1) := by decide +kernel
theorem dX3_numbered_13 : decode cX3_numbered 13 = .ok (.iload_n 3, 1) := by decide +kernel
theorem dX3_numbered_14 : decode cX3_numbered 14 = .ok (.invokestatic 9, 3) := by decide +kernel
theorem dX3_numbered_17 : decode cX3_numbered 17 = .ok (.ifCond .eq 14, 3) := by decide +kernel
theorem dX3_numbered_20 : decode cX3_numbered 20 = .ok (.iinc 2 1, 3) := by decide +kernel
theorem dX3_numbered_23 : decode cX3_numbered 23 = .ok (.iload_n 1, 1) := by decide +kernel
theorem dX3_numbered_24 : decode cX3_numbered 24 = .ok (.iload_n 2, 1) := by decide +kernel
theorem dX3_numbered_25 : decode cX3_numbered 25 = .ok (.iconst 3, 1) := by decide +kernel
theorem dX3_numbered_26 : decode cX3_numbered 26 = .ok (.iload_n 3, 1) := by decide +kernel
theorem dX3_numbered_27 : decode cX3_numbered 27 = .ok (.imul, 1) := by decide +kernel
theorem dX3_numbered_28 : decode cX3_numbered 28 = .ok (.ishl, 1) := by decide +kernel
theorem dX3_numbered_29 : decode cX3_numbered 29 = .ok (.ior, 1) := by decide +kernel
theorem dX3_numbered_30 : decode cX3_numbered 30 = .ok (.istore_n 1, 1) := by decide +kernel
theorem dX3_numbered_31 : decode cX3_numbered 31 = .ok (.iinc 3 1, 3) := by decide +kernel
theorem dX3_numbered_34 : decode cX3_numbered 34 = .ok (.goto (-28), 3) := by decide +kernel
theorem dX3_numbered_37 : decode cX3_numbered 37 = .ok (.iload_n 1, 1) := by decide +kernel
theorem dX3_numbered_38 : decode cX3_numbered 38 = .ok (.ireturn, 1) := by decide +kernel
theorem dX3_lowestMove_0 : decode cX3_lowestMove 0 = .ok (.lload_n 0, 1) := by decide +kernel
theorem dX3_lowestMove_1 : decode cX3_lowestMove 1 = .ok (.lload_n 0, 1) := by decide +kernel
theorem dX3_lowestMove_2 : decode cX3_lowestMove 2 = .ok (.lneg, 1) := by decide +kernel
theorem dX3_lowestMove_3 : decode cX3_lowestMove 3 = .ok (.land, 1) := by decide +kernel
theorem dX3_lowestMove_4 : decode cX3_lowestMove 4 = .ok (.lconst 1, 1) := by decide +kernel
theorem dX3_lowestMove_5 : decode cX3_lowestMove 5 = .ok (.lsub, 1) := by decide +kernel
theorem dX3_lowestMove_6 : decode cX3_lowestMove 6 = .ok (.invokestatic 15, 3) := by decide +kernel
theorem dX3_lowestMove_9 : decode cX3_lowestMove 9 = .ok (.bipush 63, 2) := by decide +kernel
theorem dX3_lowestMove_11 : decode cX3_lowestMove 11 = .ok (.iand, 1) := by decide +kernel
theorem dX3_lowestMove_12 : decode cX3_lowestMove 12 = .ok (.ireturn, 1) := by decide +kernel
theorem dX4_init_0 : decode cX4_init 0 = .ok (.aload_n 0, 1) := by decide +kernel
theorem dX4_init_1 : decode cX4_init 1 = .ok (.invokespecial 3, 3) := by decide +kernel
theorem dX4_init_4 : decode cX4_init 4 = .ok (.return_, 1) := by decide +kernel
theorem dX4_set_0 : decode cX4_set 0 = .ok (.aload_n 0, 1) := by decide +kernel
theorem dX4_set_1 : decode cX4_set 1 = .ok (.iload_n 1, 1) := by decide +kernel
theorem dX4_set_2 : decode cX4_set 2 = .ok (.putfield 9, 3) := by decide +kernel
theorem dX4_set_5 : decode cX4_set 5 = .ok (.aload_n 0, 1) := by decide +kernel
theorem dX4_set_6 : decode cX4_set 6 = .ok (.iload_n 2, 1) := by decide +kernel
theorem dX4_set_7 : decode cX4_set 7 = .ok (.putfield 15, 3) := by decide +kernel
theorem dX4_set_10 : decode cX4_set 10 = .ok (.aload_n 0, 1) := by decide +kernel
theorem dX4_set_11 : decode cX4_set 11 = .ok (.aload_n 0, 1) := by decide +kernel
theorem dX4_set_12 : decode cX4_set 12 = .ok (.iconst 0, 1) := by decide +kernel
theorem dX4_set_13 : decode cX4_set 13 = .ok (.invokevirtual 18, 3) := by decide +kernel
theorem dX4_set_16 : decode cX4_set 16 = .ok (.putfield 22, 3) := by decide +kernel
theorem dX4_set_19 : decode cX4_set 19 = .ok (.aload_n 0, 1) := by decide +kernel
theorem dX4_set_20 : decode cX4_set 20 = .ok (.aload_n 0, 1) := by decide +kernel
theorem dX4_set_21 : decode cX4_set 21 = .ok (.iconst 1, 1) := by decide +kernel
theorem dX4_set_22 : decode cX4_set 22 = .ok (.invokevirtual 18, 3) := by decide +kernel
theorem dX4_set_25 : decode cX4_set 25 = .ok (.putfield 26, 3) := by decide +kernel
theorem dX4_set_28 : decode cX4_set 28 = .ok (.aload_n 0, 1) := by decide +kernel
theorem dX4_set_29 : decode cX4_set 29 = .ok (.aload_n 0, 1) := by decide +kernel
theorem dX4_set_30 : decode cX4_set 30 = .ok (.iconst 2, 1) := by decide +kernel
theorem dX4_set_31 : decode cX4_set 31 = .ok (.invokevirtual 18, 3) := by decide +kernel
theorem dX4_set_34 : decode cX4_set 34 = .ok (.putfield 29, 3) := by decide +kernel
theorem dX4_set_37 : decode cX4_set 37 = .ok (.aload_n 0, 1) := by decide +kernel
theorem dX4_set_38 : decode cX4_set 38 = .ok (.aload_n 0, 1) := by decide +kernel
theorem dX4_set_39 : decode cX4_set 39 = .ok (.iconst 3, 1) := by decide +kernel
theorem dX4_set_40 : decode cX4_set 40 = .ok (.invokevirtual 18, 3) := by decide +kernel
theorem dX4_set_43 : decode cX4_set 43 = .ok (.putfield 32, 3) := by decide +kernel
theorem dX4_set_46 : decode cX4_set 46 = .ok (.return_, 1) := by decide +kernel
theorem dX4_has_0 : decode cX4_has 0 = .ok (.aload_n 0, 1) := by decide +kernel
theorem dX4_has_1 : decode cX4_has 1 = .ok (.getfield 15, 3) := by decide +kernel
theorem dX4_has_4 : decode cX4_has 4 = .ok (.iload_n 1, 1) := by decide +kernel
theorem dX4_has_5 : decode cX4_has 5 = .ok (.ishr, 1) := by decide +kernel
theorem dX4_has_6 : decode cX4_has 6 = .ok (.iconst 1, 1) := by decide +kernel
theorem dX4_has_7 : decode cX4_has 7 = .ok (.iand, 1) := by decide +kernel
theorem dX4_has_8 : decode cX4_has 8 = .ok (.iconst 1, 1) := by decide +kernel
theorem dX4_has_9 : decode cX4_has 9 = .ok (.if_icmp .ne 7, 3) := by decide +kernel
theorem dX4_has_12 : decode cX4_has 12 = .ok (.iconst 1, 1) := by decide +kernel
theorem dX4_has_13 : decode cX4_has 13 = .ok (.goto 4, 3) := by decide +kernel
theorem dX4_has_16 : decode cX4_has 16 = .ok (.iconst 0, 1) := by decide +kernel
theorem dX4_has_17 : decode cX4_has 17 = .ok (.ireturn, 1) := by decide +kernel
theorem dX4_allows_0 : decode cX4_allows 0 = .ok (.aload_n 0, 1) := by decide +kernel
theorem dX4_allows_1 : decode cX4_allows 1 = .ok (.iload_n 1, 1) := by decide +kernel
theorem dX4_allows_2 : decode cX4_allows 2 = .ok (.iload_n 2, 1) := by decide +kernel
theorem dX4_allows_3 : decode cX4_allows 3 = .ok (.iconst 1, 1) := by decide +kernel
theorem dX4_allows_4 : decode cX4_allows 4 = .ok (.invokevirtual 35, 3) := by decide +kernel
theorem dX4_allows_7 : decode cX4_allows 7 = .ok (.iload_n 3, 1) := by decide +kernel
theorem dX4_allows_8 : decode cX4_allows 8 = .ok (.ishr, 1) := by decide +kernel
theorem dX4_allows_9 : decode cX4_allows 9 = .ok (.iconst 1, 1) := by decide +kernel
theorem dX4_allows_10 : decode cX4_allows 10 = .ok (.iand, 1) := by decide +kernel
theorem dX4_allows_11 : decode cX4_allows 11 = .ok (.iconst 1, 1) := by decide +kernel
theorem dX4_allows_12 : decode cX4_allows 12 = .ok (.if_icmp .ne 7, 3) := by decide +kernel
theorem dX4_allows_15 : decode cX4_allows 15 = .ok (.iconst 1, 1) := by decide +kernel
theorem dX4_allows_16 : decode cX4_allows 16 = .ok (.goto 4, 3) := by decide +kernel
theorem dX4_allows_19 : decode cX4_allows 19 = .ok (.iconst 0, 1) := by decide +kernel
theorem dX4_allows_20 : decode cX4_allows 20 = .ok (.ireturn, 1) := by decide +kernel
theorem dX4_allMoves_0 : decode cX4_allMoves 0 = .ok (.lconst 0, 1) := by decide +kernel
theorem dX4_allMoves_1 : decode cX4_allMoves 1 = .ok (.lstore_n 3, 1) := by decide +kernel
theorem dX4_allMoves_2 : decode cX4_allMoves 2 = .ok (.iconst 0, 1) := by decide +kernel
theorem dX4_allMoves_3 : decode cX4_allMoves 3 = .ok (.istore 5, 2) := by decide +kernel
theorem dX4_allMoves_5 : decode cX4_allMoves 5 = .ok (.iload 5, 2) := by decide +kernel
theorem dX4_allMoves_7 : decode cX4_allMoves 7 = .ok (.aload_n 0, 1) := by decide +kernel
theorem dX4_allMoves_8 : decode cX4_allMoves 8 = .ok (.getfield 9, 3) := by decide +kernel
theorem dX4_allMoves_11 : decode cX4_allMoves 11 = .ok (.if_icmp .ge 27, 3) := by decide +kernel
theorem dX4_allMoves_14 : decode cX4_allMoves 14 = .ok (.lload_n 3, 1) := by decide +kernel
theorem dX4_allMoves_15 : decode cX4_allMoves 15 = .ok (.aload_n 0, 1) := by decide +kernel
theorem dX4_allMoves_16 : decode cX4_allMoves 16 = .ok (.iload_n 1, 1) := by decide +kernel
theorem dX4_allMoves_17 : decode cX4_allMoves 17 = .ok (.iload 5, 2) := by decide +kernel
theorem dX4_allMoves_19 : decode cX4_allMoves 19 = .ok (.iload_n 2, 1) := by decide +kernel
theorem dX4_allMoves_20 : decode cX4_allMoves 20 = .ok (.invokevirtual 35, 3) := by decide +kernel
theorem dX4_allMoves_23 : decode cX4_allMoves 23 = .ok (.i2l, 1) := by decide +kernel
theorem dX4_allMoves_24 : decode cX4_allMoves 24 = .ok (.bipush 8, 2) := by decide +kernel
theorem dX4_allMoves_26 : decode cX4_allMoves 26 = .ok (.iload 5, 2) := by decide +kernel
theorem dX4_allMoves_28 : decode cX4_allMoves 28 = .ok (.imul, 1) := by decide +kernel
theorem dX4_allMoves_29 : decode cX4_allMoves 29 = .ok (.lshl, 1) := by decide +kernel
theorem dX4_allMoves_30 : decode cX4_allMoves 30 = .ok (.lor, 1) := by decide +kernel
theorem dX4_allMoves_31 : decode cX4_allMoves 31 = .ok (.lstore_n 3, 1) := by decide +kernel
theorem dX4_allMoves_32 : decode cX4_allMoves 32 = .ok (.iinc 5 1, 3) := by decide +kernel
theorem dX4_allMoves_35 : decode cX4_allMoves 35 = .ok (.goto (-30), 3) := by decide +kernel
theorem dX4_allMoves_38 : decode cX4_allMoves 38 = .ok (.lload_n 3, 1) := by decide +kernel
theorem dX4_allMoves_39 : decode cX4_allMoves 39 = .ok (.lreturn, 1) := by decide +kernel
theorem dX4_targets_0 : decode cX4_targets 0 = .ok (.iload_n 1, 1) := by decide +kernel
theorem dX4_targets_1 : decode cX4_targets 1 = .ok (.iload_n 2, 1) := by decide +kernel
theorem dX4_targets_2 : decode cX4_targets 2 = .ok (.invokestatic 39, 3) := by decide +kernel
theorem dX4_targets_5 : decode cX4_targets 5 = .ok (.istore 4, 2) := by decide +kernel
theorem dX4_targets_7 : decode cX4_targets 7 = .ok (.iload 4, 2) := by decide +kernel
theorem dX4_targets_9 : decode cX4_targets 9 = .ok (.ifCond .eq 9, 3) := by decide +kernel
theorem dX4_targets_12 : decode cX4_targets 12 = .ok (.iload 4, 2) := by decide +kernel
theorem dX4_targets_14 : decode cX4_targets 14 = .ok (.iconst 3, 1) := by decide +kernel
theorem dX4_targets_15 : decode cX4_targets 15 = .ok (.if_icmp .ne 5, 3) := by decide +kernel
theorem dX4_targets_18 : decode cX4_targets 18 = .ok (.iconst 0, 1) := by decide +kernel
theorem dX4_targets_19 : decode cX4_targets 19 = .ok (.ireturn, 1) := by decide +kernel
theorem dX4_targets_20 : decode cX4_targets 20 = .ok (.iload 4, 2) := by decide +kernel
theorem dX4_targets_22 : decode cX4_targets 22 = .ok (.iconst 2, 1) := by decide +kernel
theorem dX4_targets_23 : decode cX4_targets 23 = .ok (.if_icmp .ne 8, 3) := by decide +kernel
theorem dX4_targets_26 : decode cX4_targets 26 = .ok (.iload_n 3, 1) := by decide +kernel
theorem dX4_targets_27 : decode cX4_targets 27 = .ok (.ineg, 1) := by decide +kernel
theorem dX4_targets_28 : decode cX4_targets 28 = .ok (.goto 4, 3) := by decide +kernel
theorem dX4_targets_31 : decode cX4_targets 31 = .ok (.iload_n 3, 1) := by decide +kernel
theorem dX4_targets_32 : decode cX4_targets 32 = .ok (.istore 5, 2) := by decide +kernel
theorem dX4_targets_34 : decode cX4_targets 34 = .ok (.aload_n 0, 1) := by decide +kernel
theorem dX4_targets_35 : decode cX4_targets 35 = .ok (.iload_n 1, 1) := by decide +kernel
theorem dX4_targets_36 : decode cX4_targets 36 = .ok (.iload_n 2, 1) := by decide +kernel
theorem dX4_targets_37 : decode cX4_targets 37 = .ok (.iload 5, 2) := by decide +kernel
theorem dX4_targets_39 : decode cX4_targets 39 = .ok (.invokevirtual 45, 3) := by decide +kernel
theorem dX4_targets_42 : decode cX4_targets 42 = .ok (.istore 6, 2) := by decide +kernel
theorem dX4_targets_44 : decode cX4_targets 44 = .ok (.aload_n 0, 1) := by decide +kernel
theorem dX4_targets_45 : decode cX4_targets 45 = .ok (.getfield 26, 3) := by decide +kernel
theorem dX4_targets_48 : decode cX4_targets 48 = .ok (.ifCond .eq 17, 3) := by decide +kernel
theorem dX4_targets_51 : decode cX4_targets 51 = .ok (.iload 6, 2) := by decide +kernel
theorem dX4_targets_53 : decode cX4_targets 53 = .ok (.aload_n 0, 1) := by decide +kernel
theorem dX4_targets_54 : decode cX4_targets 54 = .ok (.iload_n 1, 1) := by decide +kernel
theorem dX4_targets_55 : decode cX4_targets 55 = .ok (.iload_n 2, 1) := by decide +kernel
theorem dX4_targets_56 : decode cX4_targets 56 = .ok (.iload 5, 2) := by decide +kernel
theorem dX4_targets_58 : decode cX4_targets 58 = .ok (.ineg, 1) := by decide +kernel
theorem dX4_targets_59 : decode cX4_targets 59 = .ok (.invokevirtual 45, 3) := by decide +kernel
theorem dX4_targets_62 : decode cX4_targets 62 = .ok (.ior, 1) := by decide +kernel
theorem dX4_targets_63 : decode cX4_targets 63 = .ok (.istore 6, 2) := by decide +kernel
theorem dX4_targets_65 : decode cX4_targets 65 = .ok (.iload 6, 2) := by decide +kernel
theorem dX4_targets_67 : decode cX4_targets 67 = .ok (.ireturn, 1) := by decide +kernel
theorem dX4_landing_0 : decode cX4_landing 0 = .ok (.iload_n 1, 1) := by decide +kernel
theorem dX4_landing_1 : decode cX4_landing 1 = .ok (.iload_n 2, 1) := by decide +kernel
theorem dX4_landing_2 : decode cX4_landing 2 = .ok (.invokestatic 39, 3) := by decide +kernel
theorem dX4_landing_5 : decode cX4_landing 5 = .ok (.istore 4, 2) := by decide +kernel
theorem dX4_landing_7 : decode cX4_landing 7 = .ok (.iload 4, 2) := by decide +kernel
theorem dX4_landing_9 : decode cX4_landing 9 = .ok (.iconst 4, 1) := by decide +kernel
theorem dX4_landing_10 : decode cX4_landing 10 = .ok (.if_icmp .ne 7, 3) := by decide +kernel
theorem dX4_landing_13 : decode cX4_landing 13 = .ok (.iconst 0, 1) := by decide +kernel
theorem dX4_landing_14 : decode cX4_landing 14 = .ok (.goto 15, 3) := by decide +kernel
theorem dX4_landing_17 : decode cX4_landing 17 = .ok (.aload_n 0, 1) := by decide +kernel
theorem dX4_landing_18 : decode cX4_landing 18 = .ok (.getfield 32, 3) := by decide +kernel
theorem dX4_landing_21 : decode cX4_landing 21 = .ok (.ifCond .eq 7, 3) := by decide +kernel
theorem dX4_landing_24 : decode cX4_landing 24 = .ok (.iconst 2, 1) := by decide +kernel
theorem dX4_landing_25 : decode cX4_landing 25 = .ok (.goto 4, 3) := by decide +kernel
theorem dX4_landing_28 : decode cX4_landing 28 = .ok (.iconst 1, 1) := by decide +kernel
theorem dX4_landing_29 : decode cX4_landing 29 = .ok (.istore 5, 2) := by decide +kernel
theorem dX4_landing_31 : decode cX4_landing 31 = .ok (.iload_n 2, 1) := by decide +kernel
theorem dX4_landing_32 : decode cX4_landing 32 = .ok (.istore 6, 2) := by decide +kernel
theorem dX4_landing_34 : decode cX4_landing 34 = .ok (.iconst 0, 1) := by decide +kernel
theorem dX4_landing_35 : decode cX4_landing 35 = .ok (.istore 7, 2) := by decide +kernel
theorem dX4_landing_37 : decode cX4_landing 37 = .ok (.iload 7, 2) := by decide +kernel
theorem dX4_landing_39 : decode cX4_landing 39 = .ok (.iload 5, 2) := by decide +kernel
theorem dX4_landing_41 : decode cX4_landing 41 = .ok (.if_icmp .gt 57, 3) := by decide +kernel
theorem dX4_landing_44 : decode cX4_landing 44 = .ok (.aload_n 0, 1) := by decide +kernel
theorem dX4_landing_45 : decode cX4_landing 45 = .ok (.iload 6, 2) := by decide +kernel
theorem dX4_landing_47 : decode cX4_landing 47 = .ok (.iload_n 3, 1) := by decide +kernel
theorem dX4_landing_48 : decode cX4_landing 48 = .ok (.invokevirtual 48, 3) := by decide +kernel
theorem dX4_landing_51 : decode cX4_landing 51 = .ok (.istore 6, 2) := by decide +kernel
theorem dX4_landing_53 : decode cX4_landing 53 = .ok (.iload 6, 2) := by decide +kernel
theorem dX4_landing_55 : decode cX4_landing 55 = .ok (.iconst (-1), 1) := by decide +kernel
theorem dX4_landing_56 : decode cX4_landing 56 = .ok (.if_icmp .ne 5, 3) := by decide +kernel
theorem dX4_landing_59 : decode cX4_landing 59 = .ok (.iconst 0, 1) := by decide +kernel
theorem dX4_landing_60 : decode cX4_landing 60 = .ok (.ireturn, 1) := by decide +kernel
theorem dX4_landing_61 : decode cX4_landing 61 = .ok (.iload_n 1, 1) := by decide +kernel
theorem dX4_landing_62 : decode cX4_landing 62 = .ok (.iload 6, 2) := by decide +kernel
theorem dX4_landing_64 : decode cX4_landing 64 = .ok (.invokestatic 39, 3) := by decide +kernel
theorem dX4_landing_67 : decode cX4_landing 67 = .ok (.istore 8, 2) := by decide +kernel
theorem dX4_landing_69 : decode cX4_landing 69 = .ok (.iload 8, 2) := by decide +kernel
theorem dX4_landing_71 : decode cX4_landing 71 = .ok (.ifCond .ne 8, 3) := by decide +kernel
theorem dX4_landing_74 : decode cX4_landing 74 = .ok (.iconst 1, 1) := by decide +kernel
theorem dX4_landing_75 : decode cX4_landing 75 = .ok (.iload 6, 2) := by decide +kernel
theorem dX4_landing_77 : decode cX4_landing 77 = .ok (.ishl, 1) := by decide +kernel
theorem dX4_landing_78 : decode cX4_landing 78 = .ok (.ireturn, 1) := by decide +kernel
theorem dX4_landing_79 : decode cX4_landing 79 = .ok (.aload_n 0, 1) := by decide +kernel
theorem dX4_landing_80 : decode cX4_landing 80 = .ok (.iload 4, 2) := by decide +kernel
theorem dX4_landing_82 : decode cX4_landing 82 = .ok (.iload 8, 2) := by decide +kernel
theorem dX4_landing_84 : decode cX4_landing 84 = .ok (.invokevirtual 51, 3) := by decide +kernel
theorem dX4_landing_87 : decode cX4_landing 87 = .ok (.ifCond .ne 5, 3) := by decide +kernel
theorem dX4_landing_90 : decode cX4_landing 90 = .ok (.iconst 0, 1) := by decide +kernel
theorem dX4_landing_91 : decode cX4_landing 91 = .ok (.ireturn, 1) := by decide +kernel
theorem dX4_landing_92 : decode cX4_landing 92 = .ok (.iinc 7 1, 3) := by decide +kernel
theorem dX4_landing_95 : decode cX4_landing 95 = .ok (.goto (-58), 3) := by decide +kernel
theorem dX4_landing_98 : decode cX4_landing 98 = .ok (.iconst 0, 1) := by decide +kernel
theorem dX4_landing_99 : decode cX4_landing 99 = .ok (.ireturn, 1) := by decide +kernel
theorem dX4_beside_0 : decode cX4_beside 0 = .ok (.iload_n 1, 1) := by decide +kernel
theorem dX4_beside_1 : decode cX4_beside 1 = .ok (.iload_n 2, 1) := by decide +kernel
theorem dX4_beside_2 : decode cX4_beside 2 = .ok (.iadd, 1) := by decide +kernel
theorem dX4_beside_3 : decode cX4_beside 3 = .ok (.istore_n 3, 1) := by decide +kernel
theorem dX4_beside_4 : decode cX4_beside 4 = .ok (.iload_n 3, 1) := by decide +kernel
theorem dX4_beside_5 : decode cX4_beside 5 = .ok (.ifCond .lt 13, 3) := by decide +kernel
theorem dX4_beside_8 : decode cX4_beside 8 = .ok (.iload_n 3, 1) := by decide +kernel
theorem dX4_beside_9 : decode cX4_beside 9 = .ok (.aload_n 0, 1) := by decide +kernel
theorem dX4_beside_10 : decode cX4_beside 10 = .ok (.getfield 9, 3) := by decide +kernel
theorem dX4_beside_13 : decode cX4_beside 13 = .ok (.if_icmp .ge 5, 3) := by decide +kernel
theorem dX4_beside_16 : decode cX4_beside 16 = .ok (.iload_n 3, 1) := by decide +kernel
theorem dX4_beside_17 : decode cX4_beside 17 = .ok (.ireturn, 1) := by decide +kernel
theorem dX4_beside_18 : decode cX4_beside 18 = .ok (.aload_n 0, 1) := by decide +kernel
theorem dX4_beside_19 : decode cX4_beside 19 = .ok (.getfield 29, 3) := by decide +kernel
theorem dX4_beside_22 : decode cX4_beside 22 = .ok (.ifCond .ne 5, 3) := by decide +kernel
theorem dX4_beside_25 : decode cX4_beside 25 = .ok (.iconst (-1), 1) := by decide +kernel
theorem dX4_beside_26 : decode cX4_beside 26 = .ok (.ireturn, 1) := by decide +kernel
theorem dX4_beside_27 : decode cX4_beside 27 = .ok (.iload_n 3, 1) := by decide +kernel
theorem dX4_beside_28 : decode cX4_beside 28 = .ok (.ifCond .ge 12, 3) := by decide +kernel
theorem dX4_beside_31 : decode cX4_beside 31 = .ok (.aload_n 0, 1) := by decide +kernel
theorem dX4_beside_32 : decode cX4_beside 32 = .ok (.getfield 9, 3) := by decide +kernel
theorem dX4_beside_35 : decode cX4_beside 35 = .ok (.iconst 1, 1) := by decide +kernel
theorem dX4_beside_36 : decode cX4_beside 36 = .ok (.isub, 1) := by decide +kernel
theorem dX4_beside_37 : decode cX4_beside 37 = .ok (.goto 4, 3) := by decide +kernel
theorem dX4_beside_40 : decode cX4_beside 40 = .ok (.iconst 0, 1) := by decide +kernel
theorem dX4_beside_41 : decode cX4_beside 41 = .ok (.ireturn, 1) := by decide +kernel
theorem dX4_leapsOver_0 : decode cX4_leapsOver 0 = .ok (.aload_n 0, 1) := by decide +kernel
theorem dX4_leapsOver_1 : decode cX4_leapsOver 1 = .ok (.getfield 22, 3) := by decide +kernel
theorem dX4_leapsOver_4 : decode cX4_leapsOver 4 = .ok (.ifCond .ne 31, 3) := by decide +kernel
theorem dX4_leapsOver_7 : decode cX4_leapsOver 7 = .ok (.iload_n 2, 1) := by decide +kernel
theorem dX4_leapsOver_8 : decode cX4_leapsOver 8 = .ok (.iconst 3, 1) := by decide +kernel
theorem dX4_leapsOver_9 : decode cX4_leapsOver 9 = .ok (.if_icmp .eq 30, 3) := by decide +kernel
theorem dX4_leapsOver_12 : decode cX4_leapsOver 12 = .ok (.iload_n 1, 1) := by decide +kernel
theorem dX4_leapsOver_13 : decode cX4_leapsOver 13 = .ok (.iconst 2, 1) := by decide +kernel
theorem dX4_leapsOver_14 : decode cX4_leapsOver 14 = .ok (.if_icmp .ne 7, 3) := by decide +kernel
theorem dX4_leapsOver_17 : decode cX4_leapsOver 17 = .ok (.iconst 1, 1) := by decide +kernel
theorem dX4_leapsOver_18 : decode cX4_leapsOver 18 = .ok (.goto 4, 3) := by decide +kernel
theorem dX4_leapsOver_21 : decode cX4_leapsOver 21 = .ok (.iconst 0, 1) := by decide +kernel
theorem dX4_leapsOver_22 : decode cX4_leapsOver 22 = .ok (.iload_n 2, 1) := by decide +kernel
theorem dX4_leapsOver_23 : decode cX4_leapsOver 23 = .ok (.iconst 2, 1) := by decide +kernel
theorem dX4_leapsOver_24 : decode cX4_leapsOver 24 = .ok (.if_icmp .ne 7, 3) := by decide +kernel
theorem dX4_leapsOver_27 : decode cX4_leapsOver 27 = .ok (.iconst 1, 1) := by decide +kernel
theorem dX4_leapsOver_28 : decode cX4_leapsOver 28 = .ok (.goto 4, 3) := by decide +kernel
theorem dX4_leapsOver_31 : decode cX4_leapsOver 31 = .ok (.iconst 0, 1) := by decide +kernel
theorem dX4_leapsOver_32 : decode cX4_leapsOver 32 = .ok (.if_icmp .eq 7, 3) := by decide +kernel
theorem dX4_leapsOver_35 : decode cX4_leapsOver 35 = .ok (.iconst 1, 1) := by decide +kernel
theorem dX4_leapsOver_36 : decode cX4_leapsOver 36 = .ok (.goto 4, 3) := by decide +kernel
theorem dX4_leapsOver_39 : decode cX4_leapsOver 39 = .ok (.iconst 0, 1) := by decide +kernel
theorem dX4_leapsOver_40 : decode cX4_leapsOver 40 = .ok (.ireturn, 1) := by decide +kernel
theorem dX5_init_0 : decode cX5_init 0 = .ok (.aload_n 0, 1) := by decide +kernel
theorem dX5_init_1 : decode cX5_init 1 = .ok (.invokespecial 3, 3) := by decide +kernel
theorem dX5_init_4 : decode cX5_init 4 = .ok (.aload_n 0, 1) := by decide +kernel
theorem dX5_init_5 : decode cX5_init 5 = .ok (.new 9, 3) := by decide +kernel
theorem dX5_init_8 : decode cX5_init 8 = .ok (.dup, 1) := by decide +kernel
theorem dX5_init_9 : decode cX5_init 9 = .ok (.invokespecial 11, 3) := by decide +kernel
theorem dX5_init_12 : decode cX5_init 12 = .ok (.putfield 12, 3) := by decide +kernel
theorem dX5_init_15 : decode cX5_init 15 = .ok (.aload_n 0, 1) := by decide +kernel
theorem dX5_init_16 : decode cX5_init 16 = .ok (.sipush 640, 3) := by decide +kernel
theorem dX5_init_19 : decode cX5_init 19 = .ok (.newarray .int, 2) := by decide +kernel
theorem dX5_init_21 : decode cX5_init 21 = .ok (.putfield 18, 3) := by decide +kernel
theorem dX5_init_24 : decode cX5_init 24 = .ok (.aload_n 0, 1) := by decide +kernel
theorem dX5_init_25 : decode cX5_init 25 = .ok (.sipush 640, 3) := by decide +kernel
theorem dX5_init_28 : decode cX5_init 28 = .ok (.newarray .int, 2) := by decide +kernel
theorem dX5_init_30 : decode cX5_init 30 = .ok (.putfield 22, 3) := by decide +kernel
theorem dX5_init_33 : decode cX5_init 33 = .ok (.return_, 1) := by decide +kernel
theorem dX5_spread_0 : decode cX5_spread 0 = .ok (.aload_n 0, 1) := by decide +kernel
theorem dX5_spread_1 : decode cX5_spread 1 = .ok (.getfield 12, 3) := by decide +kernel
theorem dX5_spread_4 : decode cX5_spread 4 = .ok (.invokevirtual 25, 3) := by decide +kernel
theorem dX5_spread_7 : decode cX5_spread 7 = .ok (.aload_n 0, 1) := by decide +kernel
theorem dX5_spread_8 : decode cX5_spread 8 = .ok (.iconst 0, 1) := by decide +kernel
theorem dX5_spread_9 : decode cX5_spread 9 = .ok (.putfield 28, 3) := by decide +kernel
theorem dX5_spread_12 : decode cX5_spread 12 = .ok (.aload_n 0, 1) := by decide +kernel
theorem dX5_spread_13 : decode cX5_spread 13 = .ok (.iconst (-1), 1) := by decide +kernel
theorem dX5_spread_14 : decode cX5_spread 14 = .ok (.putfield 32, 3) := by decide +kernel
theorem dX5_spread_17 : decode cX5_spread 17 = .ok (.aload_n 0, 1) := by decide +kernel
theorem dX5_spread_18 : decode cX5_spread 18 = .ok (.getfield 12, 3) := by decide +kernel
theorem dX5_spread_21 : decode cX5_spread 21 = .ok (.iload_n 2, 1) := by decide +kernel
theorem dX5_spread_22 : decode cX5_spread 22 = .ok (.invokevirtual 35, 3) := by decide +kernel
theorem dX5_spread_25 : decode cX5_spread 25 = .ok (.istore 5, 2) := by decide +kernel
theorem dX5_spread_27 : decode cX5_spread 27 = .ok (.iload 5, 2) := by decide +kernel
theorem dX5_spread_29 : decode cX5_spread 29 = .ok (.ifCond .eq 5, 3) := by decide +kernel
theorem dX5_spread_32 : decode cX5_spread 32 = .ok (.iconst (-1), 1) := by decide +kernel
theorem dX5_spread_33 : decode cX5_spread 33 = .ok (.ireturn, 1) := by decide +kernel
theorem dX5_spread_34 : decode cX5_spread 34 = .ok (.aload_n 0, 1) := by decide +kernel
theorem dX5_spread_35 : decode cX5_spread 35 = .ok (.getfield 18, 3) := by decide +kernel
theorem dX5_spread_38 : decode cX5_spread 38 = .ok (.iconst 0, 1) := by decide +kernel
theorem dX5_spread_39 : decode cX5_spread 39 = .ok (.iconst 0, 1) := by decide +kernel
theorem dX5_spread_40 : decode cX5_spread 40 = .ok (.iastore, 1) := by decide +kernel
theorem dX5_spread_41 : decode cX5_spread 41 = .ok (.aload_n 0, 1) := by decide +kernel
theorem dX5_spread_42 : decode cX5_spread 42 = .ok (.getfield 22, 3) := by decide +kernel
theorem dX5_spread_45 : decode cX5_spread 45 = .ok (.iconst 0, 1) := by decide +kernel
theorem dX5_spread_46 : decode cX5_spread 46 = .ok (.iconst 1, 1) := by decide +kernel
theorem dX5_spread_47 : decode cX5_spread 47 = .ok (.iastore, 1) := by decide +kernel
theorem dX5_spread_48 : decode cX5_spread 48 = .ok (.iconst 0, 1) := by decide +kernel
theorem dX5_spread_49 : decode cX5_spread 49 = .ok (.istore 6, 2) := by decide +kernel
theorem dX5_spread_51 : decode cX5_spread 51 = .ok (.iload 6, 2) := by decide +kernel
theorem dX5_spread_53 : decode cX5_spread 53 = .ok (.aload_n 0, 1) := by decide +kernel
theorem dX5_spread_54 : decode cX5_spread 54 = .ok (.getfield 12, 3) := by decide +kernel
theorem dX5_spread_57 : decode cX5_spread 57 = .ok (.getfield 39, 3) := by decide +kernel
theorem dX5_spread_60 : decode cX5_spread 60 = .ok (.if_icmp .ge 79, 3) := by decide +kernel
theorem dX5_spread_63 : decode cX5_spread 63 = .ok (.iload 6, 2) := by decide +kernel
theorem dX5_spread_65 : decode cX5_spread 65 = .ok (.sipush 640, 3) := by decide +kernel
theorem dX5_spread_68 : decode cX5_spread 68 = .ok (.if_icmp .ge 71, 3) := by decide +kernel
theorem dX5_spread_71 : decode cX5_spread 71 = .ok (.aload_n 0, 1) := by decide +kernel
theorem dX5_spread_72 : decode cX5_spread 72 = .ok (.getfield 12, 3) := by decide +kernel
theorem dX5_spread_75 : decode cX5_spread 75 = .ok (.getfield 42, 3) := by decide +kernel
theorem dX5_spread_78 : decode cX5_spread 78 = .ok (.iload 6, 2) := by decide +kernel
theorem dX5_spread_80 : decode cX5_spread 80 = .ok (.iaload, 1) := by decide +kernel
theorem dX5_spread_81 : decode cX5_spread 81 = .ok (.istore 7, 2) := by decide +kernel
theorem dX5_spread_83 : decode cX5_spread 83 = .ok (.iload 7, 2) := by decide +kernel
theorem dX5_spread_85 : decode cX5_spread 85 = .ok (.iload 4, 2) := by decide +kernel
theorem dX5_spread_87 : decode cX5_spread 87 = .ok (.if_icmp .ne 11, 3) := by decide +kernel
theorem dX5_spread_90 : decode cX5_spread 90 = .ok (.aload_n 0, 1) := by decide +kernel
theorem dX5_spread_91 : decode cX5_spread 91 = .ok (.getfield 18, 3) := by decide +kernel
theorem dX5_spread_94 : decode cX5_spread 94 = .ok (.iload 6, 2) := by decide +kernel
theorem dX5_spread_96 : decode cX5_spread 96 = .ok (.iaload, 1) := by decide +kernel
theorem dX5_spread_97 : decode cX5_spread 97 = .ok (.ireturn, 1) := by decide +kernel
theorem dX5_spread_98 : decode cX5_spread 98 = .ok (.aload_n 1, 1) := by decide +kernel
theorem dX5_spread_99 : decode cX5_spread 99 = .ok (.iload 7, 2) := by decide +kernel
theorem dX5_spread_101 : decode cX5_spread 101 = .ok (.iload_n 3, 1) := by decide +kernel
theorem dX5_spread_102 : decode cX5_spread 102 = .ok (.invokevirtual 45, 3) := by decide +kernel
theorem dX5_spread_105 : decode cX5_spread 105 = .ok (.lstore 8, 2) := by decide +kernel
theorem dX5_spread_107 : decode cX5_spread 107 = .ok (.lload 8, 2) := by decide +kernel
theorem dX5_spread_109 : decode cX5_spread 109 = .ok (.lconst 0, 1) := by decide +kernel
theorem dX5_spread_110 : decode cX5_spread 110 = .ok (.lcmp, 1) := by decide +kernel
theorem dX5_spread_111 : decode cX5_spread 111 = .ok (.ifCond .ne 14, 3) := by decide +kernel
theorem dX5_spread_114 : decode cX5_spread 114 = .ok (.aload_n 0, 1) := by decide +kernel
theorem dX5_spread_115 : decode cX5_spread 115 = .ok (.aload_n 0, 1) := by decide +kernel
theorem dX5_spread_116 : decode cX5_spread 116 = .ok (.getfield 18, 3) := by decide +kernel
theorem dX5_spread_119 : decode cX5_spread 119 = .ok (.iload 6, 2) := by decide +kernel
theorem dX5_spread_121 : decode cX5_spread 121 = .ok (.iaload, 1) := by decide +kernel
theorem dX5_spread_122 : decode cX5_spread 122 = .ok (.invokevirtual 51, 3) := by decide +kernel
theorem dX5_spread_125 : decode cX5_spread 125 = .ok (.aload_n 0, 1) := by decide +kernel
theorem dX5_spread_126 : decode cX5_spread 126 = .ok (.iload 6, 2) := by decide +kernel
theorem dX5_spread_128 : decode cX5_spread 128 = .ok (.lload 8, 2) := by decide +kernel
theorem dX5_spread_130 : decode cX5_spread 130 = .ok (.invokevirtual 55, 3) := by decide +kernel
theorem dX5_spread_133 : decode cX5_spread 133 = .ok (.iinc 6 1, 3) := by decide +kernel
theorem dX5_spread_136 : decode cX5_spread 136 = .ok (.goto (-85), 3) := by decide +kernel
theorem dX5_spread_139 : decode cX5_spread 139 = .ok (.iconst (-1), 1) := by decide +kernel
theorem dX5_spread_140 : decode cX5_spread 140 = .ok (.ireturn, 1) := by decide +kernel
theorem dX5_noteStuck_0 : decode cX5_noteStuck 0 = .ok (.aload_n 0, 1) := by decide +kernel
theorem dX5_noteStuck_1 : decode cX5_noteStuck 1 = .ok (.dup, 1) := by decide +kernel
theorem dX5_noteStuck_2 : decode cX5_noteStuck 2 = .ok (.getfield 28, 3) := by decide +kernel
theorem dX5_noteStuck_5 : decode cX5_noteStuck 5 = .ok (.iconst 1, 1) := by decide +kernel
theorem dX5_noteStuck_6 : decode cX5_noteStuck 6 = .ok (.iadd, 1) := by decide +kernel
theorem dX5_noteStuck_7 : decode cX5_noteStuck 7 = .ok (.putfield 28, 3) := by decide +kernel
theorem dX5_noteStuck_10 : decode cX5_noteStuck 10 = .ok (.aload_n 0, 1) := by decide +kernel
theorem dX5_noteStuck_11 : decode cX5_noteStuck 11 = .ok (.getfield 32, 3) := by decide +kernel
theorem dX5_noteStuck_14 : decode cX5_noteStuck 14 = .ok (.iconst (-1), 1) := by decide +kernel
theorem dX5_noteStuck_15 : decode cX5_noteStuck 15 = .ok (.if_icmp .ne 8, 3) := by decide +kernel
theorem dX5_noteStuck_18 : decode cX5_noteStuck 18 = .ok (.aload_n 0, 1) := by decide +kernel
theorem dX5_noteStuck_19 : decode cX5_noteStuck 19 = .ok (.iload_n 1, 1) := by decide +kernel
theorem dX5_noteStuck_20 : decode cX5_noteStuck 20 = .ok (.putfield 32, 3) := by decide +kernel
theorem dX5_noteStuck_23 : decode cX5_noteStuck 23 = .ok (.return_, 1) := by decide +kernel
theorem dX5_goOn_0 : decode cX5_goOn 0 = .ok (.iload_n 1, 1) := by decide +kernel
theorem dX5_goOn_1 : decode cX5_goOn 1 = .ok (.ifCond .lt 10, 3) := by decide +kernel
theorem dX5_goOn_4 : decode cX5_goOn 4 = .ok (.iload_n 1, 1) := by decide +kernel
theorem dX5_goOn_5 : decode cX5_goOn 5 = .ok (.sipush 640, 3) := by decide +kernel
theorem dX5_goOn_8 : decode cX5_goOn 8 = .ok (.if_icmp .lt 4, 3) := by decide +kernel
theorem dX5_goOn_11 : decode cX5_goOn 11 = .ok (.return_, 1) := by decide +kernel
theorem dX5_goOn_12 : decode cX5_goOn 12 = .ok (.aload_n 0, 1) := by decide +kernel
theorem dX5_goOn_13 : decode cX5_goOn 13 = .ok (.getfield 18, 3) := by decide +kernel
theorem dX5_goOn_16 : decode cX5_goOn 16 = .ok (.iload_n 1, 1) := by decide +kernel
theorem dX5_goOn_17 : decode cX5_goOn 17 = .ok (.iaload, 1) := by decide +kernel
theorem dX5_goOn_18 : decode cX5_goOn 18 = .ok (.iconst 1, 1) := by decide +kernel
theorem dX5_goOn_19 : decode cX5_goOn 19 = .ok (.iadd, 1) := by decide +kernel
theorem dX5_goOn_20 : decode cX5_goOn 20 = .ok (.istore 4, 2) := by decide +kernel
theorem dX5_goOn_22 : decode cX5_goOn 22 = .ok (.lload_n 2, 1) := by decide +kernel
theorem dX5_goOn_23 : decode cX5_goOn 23 = .ok (.lstore 5, 2) := by decide +kernel
theorem dX5_goOn_25 : decode cX5_goOn 25 = .ok (.lload 5, 2) := by decide +kernel
theorem dX5_goOn_27 : decode cX5_goOn 27 = .ok (.invokestatic 59, 3) := by decide +kernel
theorem dX5_goOn_30 : decode cX5_goOn 30 = .ok (.istore 7, 2) := by decide +kernel
theorem dX5_goOn_32 : decode cX5_goOn 32 = .ok (.iconst 0, 1) := by decide +kernel
theorem dX5_goOn_33 : decode cX5_goOn 33 = .ok (.istore 8, 2) := by decide +kernel
theorem dX5_goOn_35 : decode cX5_goOn 35 = .ok (.iload 8, 2) := by decide +kernel
theorem dX5_goOn_37 : decode cX5_goOn 37 = .ok (.iload 7, 2) := by decide +kernel
theorem dX5_goOn_39 : decode cX5_goOn 39 = .ok (.if_icmp .ge 133, 3) := by decide +kernel
theorem dX5_goOn_42 : decode cX5_goOn 42 = .ok (.lload 5, 2) := by decide +kernel
theorem dX5_goOn_44 : decode cX5_goOn 44 = .ok (.invokestatic 65, 3) := by decide +kernel
theorem dX5_goOn_47 : decode cX5_goOn 47 = .ok (.istore 9, 2) := by decide +kernel
theorem dX5_goOn_49 : decode cX5_goOn 49 = .ok (.lload 5, 2) := by decide +kernel
theorem dX5_goOn_51 : decode cX5_goOn 51 = .ok (.lload 5, 2) := by decide +kernel
theorem dX5_goOn_53 : decode cX5_goOn 53 = .ok (.lconst 1, 1) := by decide +kernel
theorem dX5_goOn_54 : decode cX5_goOn 54 = .ok (.lsub, 1) := by decide +kernel
theorem dX5_goOn_55 : decode cX5_goOn 55 = .ok (.land, 1) := by decide +kernel
theorem dX5_goOn_56 : decode cX5_goOn 56 = .ok (.lstore 5, 2) := by decide +kernel
theorem dX5_goOn_58 : decode cX5_goOn 58 = .ok (.aload_n 0, 1) := by decide +kernel
theorem dX5_goOn_59 : decode cX5_goOn 59 = .ok (.getfield 12, 3) := by decide +kernel
theorem dX5_goOn_62 : decode cX5_goOn 62 = .ok (.getfield 39, 3) := by decide +kernel
theorem dX5_goOn_65 : decode cX5_goOn 65 = .ok (.istore 10, 2) := by decide +kernel
theorem dX5_goOn_67 : decode cX5_goOn 67 = .ok (.aload_n 0, 1) := by decide +kernel
theorem dX5_goOn_68 : decode cX5_goOn 68 = .ok (.getfield 12, 3) := by decide +kernel
theorem dX5_goOn_71 : decode cX5_goOn 71 = .ok (.aload_n 0, 1) := by decide +kernel
theorem dX5_goOn_72 : decode cX5_goOn 72 = .ok (.getfield 12, 3) := by decide +kernel
theorem dX5_goOn_75 : decode cX5_goOn 75 = .ok (.getfield 42, 3) := by decide +kernel
theorem dX5_goOn_78 : decode cX5_goOn 78 = .ok (.iload_n 1, 1) := by decide +kernel
theorem dX5_goOn_79 : decode cX5_goOn 79 = .ok (.iaload, 1) := by decide +kernel
theorem dX5_goOn_80 : decode cX5_goOn 80 = .ok (.iload 9, 2) := by decide +kernel
theorem dX5_goOn_82 : decode cX5_goOn 82 = .ok (.invokestatic 70, 3) := by decide +kernel
theorem dX5_goOn_85 : decode cX5_goOn 85 = .ok (.invokevirtual 35, 3) := by decide +kernel
theorem dX5_goOn_88 : decode cX5_goOn 88 = .ok (.istore 11, 2) := by decide +kernel
theorem dX5_goOn_90 : decode cX5_goOn 90 = .ok (.iload 11, 2) := by decide +kernel
theorem dX5_goOn_92 : decode cX5_goOn 92 = .ok (.ifCond .lt 74, 3) := by decide +kernel
theorem dX5_goOn_95 : decode cX5_goOn 95 = .ok (.iload 11, 2) := by decide +kernel
theorem dX5_goOn_97 : decode cX5_goOn 97 = .ok (.sipush 640, 3) := by decide +kernel
theorem dX5_goOn_100 : decode cX5_goOn 100 = .ok (.if_icmp .lt 6, 3) := by decide +kernel
theorem dX5_goOn_103 : decode cX5_goOn 103 = .ok (.goto 63, 3) := by decide +kernel
theorem dX5_goOn_106 : decode cX5_goOn 106 = .ok (.iload 11, 2) := by decide +kernel
theorem dX5_goOn_108 : decode cX5_goOn 108 = .ok (.iload 10, 2) := by decide +kernel
theorem dX5_goOn_110 : decode cX5_goOn 110 = .ok (.if_icmp .ne 28, 3) := by decide +kernel
theorem dX5_goOn_113 : decode cX5_goOn 113 = .ok (.aload_n 0, 1) := by decide +kernel
theorem dX5_goOn_114 : decode cX5_goOn 114 = .ok (.getfield 18, 3) := by decide +kernel
theorem dX5_goOn_117 : decode cX5_goOn 117 = .ok (.iload 11, 2) := by decide +kernel
theorem dX5_goOn_119 : decode cX5_goOn 119 = .ok (.iload 4, 2) := by decide +kernel
theorem dX5_goOn_121 : decode cX5_goOn 121 = .ok (.iastore, 1) := by decide +kernel
theorem dX5_goOn_122 : decode cX5_goOn 122 = .ok (.aload_n 0, 1) := by decide +kernel
theorem dX5_goOn_123 : decode cX5_goOn 123 = .ok (.getfield 22, 3) := by decide +kernel
theorem dX5_goOn_126 : decode cX5_goOn 126 = .ok (.iload 11, 2) := by decide +kernel
theorem dX5_goOn_128 : decode cX5_goOn 128 = .ok (.aload_n 0, 1) := by decide +kernel
theorem dX5_goOn_129 : decode cX5_goOn 129 = .ok (.getfield 22, 3) := by decide +kernel
theorem dX5_goOn_132 : decode cX5_goOn 132 = .ok (.iload_n 1, 1) := by decide +kernel
theorem dX5_goOn_133 : decode cX5_goOn 133 = .ok (.iaload, 1) := by decide +kernel
theorem dX5_goOn_134 : decode cX5_goOn 134 = .ok (.iastore, 1) := by decide +kernel
theorem dX5_goOn_135 : decode cX5_goOn 135 = .ok (.goto 31, 3) := by decide +kernel
theorem dX5_goOn_138 : decode cX5_goOn 138 = .ok (.aload_n 0, 1) := by decide +kernel
theorem dX5_goOn_139 : decode cX5_goOn 139 = .ok (.getfield 18, 3) := by decide +kernel
theorem dX5_goOn_142 : decode cX5_goOn 142 = .ok (.iload 11, 2) := by decide +kernel
theorem dX5_goOn_144 : decode cX5_goOn 144 = .ok (.iaload, 1) := by decide +kernel
theorem dX5_goOn_145 : decode cX5_goOn 145 = .ok (.iload 4, 2) := by decide +kernel
theorem dX5_goOn_147 : decode cX5_goOn 147 = .ok (.if_icmp .ne 19, 3) := by decide +kernel
theorem dX5_goOn_150 : decode cX5_goOn 150 = .ok (.aload_n 0, 1) := by decide +kernel
theorem dX5_goOn_151 : decode cX5_goOn 151 = .ok (.getfield 22, 3) := by decide +kernel
theorem dX5_goOn_154 : decode cX5_goOn 154 = .ok (.iload 11, 2) := by decide +kernel
theorem dX5_goOn_156 : decode cX5_goOn 156 = .ok (.dup2, 1) := by decide +kernel
theorem dX5_goOn_157 : decode cX5_goOn 157 = .ok (.iaload, 1) := by decide +kernel
theorem dX5_goOn_158 : decode cX5_goOn 158 = .ok (.aload_n 0, 1) := by decide +kernel
theorem dX5_goOn_159 : decode cX5_goOn 159 = .ok (.getfield 22, 3) := by decide +kernel
theorem dX5_goOn_162 : decode cX5_goOn 162 = .ok (.iload_n 1, 1) := by decide +kernel
theorem dX5_goOn_163 : decode cX5_goOn 163 = .ok (.iaload, 1) := by decide +kernel
theorem dX5_goOn_164 : decode cX5_goOn 164 = .ok (.iadd, 1) := by decide +kernel
theorem dX5_goOn_165 : decode cX5_goOn 165 = .ok (.iastore, 1) := by decide +kernel
theorem dX5_goOn_166 : decode cX5_goOn 166 = .ok (.iinc 8 1, 3) := by decide +kernel
theorem dX5_goOn_169 : decode cX5_goOn 169 = .ok (.goto (-134), 3) := by decide +kernel
theorem dX5_goOn_172 : decode cX5_goOn 172 = .ok (.return_, 1) := by decide +kernel
theorem dX5_depthOf_0 : decode cX5_depthOf 0 = .ok (.aload_n 0, 1) := by decide +kernel
theorem dX5_depthOf_1 : decode cX5_depthOf 1 = .ok (.getfield 12, 3) := by decide +kernel
theorem dX5_depthOf_4 : decode cX5_depthOf 4 = .ok (.iload_n 1, 1) := by decide +kernel
theorem dX5_depthOf_5 : decode cX5_depthOf 5 = .ok (.invokevirtual 74, 3) := by decide +kernel
theorem dX5_depthOf_8 : decode cX5_depthOf 8 = .ok (.istore_n 2, 1) := by decide +kernel
theorem dX5_depthOf_9 : decode cX5_depthOf 9 = .ok (.iload_n 2, 1) := by decide +kernel
theorem dX5_depthOf_10 : decode cX5_depthOf 10 = .ok (.ifCond .lt 10, 3) := by decide +kernel
theorem dX5_depthOf_13 : decode cX5_depthOf 13 = .ok (.iload_n 2, 1) := by decide +kernel
theorem dX5_depthOf_14 : decode cX5_depthOf 14 = .ok (.sipush 640, 3) := by decide +kernel
theorem dX5_depthOf_17 : decode cX5_depthOf 17 = .ok (.if_icmp .lt 7, 3) := by decide +kernel
theorem dX5_depthOf_20 : decode cX5_depthOf 20 = .ok (.iconst (-1), 1) := by decide +kernel
theorem dX5_depthOf_21 : decode cX5_depthOf 21 = .ok (.goto 9, 3) := by decide +kernel
theorem dX5_depthOf_24 : decode cX5_depthOf 24 = .ok (.aload_n 0, 1) := by decide +kernel
theorem dX5_depthOf_25 : decode cX5_depthOf 25 = .ok (.getfield 18, 3) := by decide +kernel
theorem dX5_depthOf_28 : decode cX5_depthOf 28 = .ok (.iload_n 2, 1) := by decide +kernel
theorem dX5_depthOf_29 : decode cX5_depthOf 29 = .ok (.iaload, 1) := by decide +kernel
theorem dX5_depthOf_30 : decode cX5_depthOf 30 = .ok (.ireturn, 1) := by decide +kernel
theorem dX5_waysOf_0 : decode cX5_waysOf 0 = .ok (.aload_n 0, 1) := by decide +kernel
theorem dX5_waysOf_1 : decode cX5_waysOf 1 = .ok (.getfield 12, 3) := by decide +kernel
end
section
theorem dX5_waysOf_4 : decode cX5_waysOf 4 = .ok (.iload_n 1, 1) := by decide +kernel
theorem dX5_waysOf_5 : decode cX5_waysOf 5 = .ok (.invokevirtual 74, 3) := by decide +kernel
theorem dX5_waysOf_8 : decode cX5_waysOf 8 = .ok (.istore_n 2, 1) := by decide +kernel
theorem dX5_waysOf_9 : decode cX5_waysOf 9 = .ok (.iload_n 2, 1) := by decide +kernel
theorem dX5_waysOf_10 : decode cX5_waysOf 10 = .ok (.ifCond .lt 10, 3) := by decide +kernel
theorem dX5_waysOf_13 : decode cX5_waysOf 13 = .ok (.iload_n 2, 1) := by decide +kernel
theorem dX5_waysOf_14 : decode cX5_waysOf 14 = .ok (.sipush 640, 3) := by decide +kernel
theorem dX5_waysOf_17 : decode cX5_waysOf 17 = .ok (.if_icmp .lt 7, 3) := by decide +kernel
theorem dX5_waysOf_20 : decode cX5_waysOf 20 = .ok (.iconst 0, 1) := by decide +kernel
theorem dX5_waysOf_21 : decode cX5_waysOf 21 = .ok (.goto 9, 3) := by decide +kernel
theorem dX5_waysOf_24 : decode cX5_waysOf 24 = .ok (.aload_n 0, 1) := by decide +kernel
theorem dX5_waysOf_25 : decode cX5_waysOf 25 = .ok (.getfield 22, 3) := by decide +kernel
theorem dX5_waysOf_28 : decode cX5_waysOf 28 = .ok (.iload_n 2, 1) := by decide +kernel
theorem dX5_waysOf_29 : decode cX5_waysOf 29 = .ok (.iaload, 1) := by decide +kernel
theorem dX5_waysOf_30 : decode cX5_waysOf 30 = .ok (.ireturn, 1) := by decide +kernel
theorem dX6_init_0 : decode cX6_init 0 = .ok (.aload_n 0, 1) := by decide +kernel
theorem dX6_init_1 : decode cX6_init 1 = .ok (.invokespecial 3, 3) := by decide +kernel
theorem dX6_init_4 : decode cX6_init 4 = .ok (.aload_n 0, 1) := by decide +kernel
theorem dX6_init_5 : decode cX6_init 5 = .ok (.sipush 1024, 3) := by decide +kernel
theorem dX6_init_8 : decode cX6_init 8 = .ok (.newarray .int, 2) := by decide +kernel
theorem dX6_init_10 : decode cX6_init 10 = .ok (.putfield 9, 3) := by decide +kernel
theorem dX6_init_13 : decode cX6_init 13 = .ok (.aload_n 0, 1) := by decide +kernel
theorem dX6_init_14 : decode cX6_init 14 = .ok (.sipush 640, 3) := by decide +kernel
theorem dX6_init_17 : decode cX6_init 17 = .ok (.newarray .int, 2) := by decide +kernel
theorem dX6_init_19 : decode cX6_init 19 = .ok (.putfield 15, 3) := by decide +kernel
theorem dX6_init_22 : decode cX6_init 22 = .ok (.return_, 1) := by decide +kernel
theorem dX6_clear_0 : decode cX6_clear 0 = .ok (.aload_n 0, 1) := by decide +kernel
theorem dX6_clear_1 : decode cX6_clear 1 = .ok (.getfield 9, 3) := by decide +kernel
theorem dX6_clear_4 : decode cX6_clear 4 = .ok (.iconst 0, 1) := by decide +kernel
theorem dX6_clear_5 : decode cX6_clear 5 = .ok (.invokestatic 18, 3) := by decide +kernel
theorem dX6_clear_8 : decode cX6_clear 8 = .ok (.aload_n 0, 1) := by decide +kernel
theorem dX6_clear_9 : decode cX6_clear 9 = .ok (.iconst 0, 1) := by decide +kernel
theorem dX6_clear_10 : decode cX6_clear 10 = .ok (.putfield 24, 3) := by decide +kernel
theorem dX6_clear_13 : decode cX6_clear 13 = .ok (.return_, 1) := by decide +kernel
theorem dX6_find_0 : decode cX6_find 0 = .ok (.aload_n 0, 1) := by decide +kernel
theorem dX6_find_1 : decode cX6_find 1 = .ok (.getfield 9, 3) := by decide +kernel
theorem dX6_find_4 : decode cX6_find 4 = .ok (.aload_n 0, 1) := by decide +kernel
theorem dX6_find_5 : decode cX6_find 5 = .ok (.iload_n 1, 1) := by decide +kernel
theorem dX6_find_6 : decode cX6_find 6 = .ok (.invokevirtual 28, 3) := by decide +kernel
theorem dX6_find_9 : decode cX6_find 9 = .ok (.iaload, 1) := by decide +kernel
theorem dX6_find_10 : decode cX6_find 10 = .ok (.iconst 1, 1) := by decide +kernel
theorem dX6_find_11 : decode cX6_find 11 = .ok (.isub, 1) := by decide +kernel
theorem dX6_find_12 : decode cX6_find 12 = .ok (.ireturn, 1) := by decide +kernel
theorem dX6_meet_0 : decode cX6_meet 0 = .ok (.aload_n 0, 1) := by decide +kernel
theorem dX6_meet_1 : decode cX6_meet 1 = .ok (.iload_n 1, 1) := by decide +kernel
theorem dX6_meet_2 : decode cX6_meet 2 = .ok (.invokevirtual 28, 3) := by decide +kernel
theorem dX6_meet_5 : decode cX6_meet 5 = .ok (.istore_n 2, 1) := by decide +kernel
theorem dX6_meet_6 : decode cX6_meet 6 = .ok (.aload_n 0, 1) := by decide +kernel
theorem dX6_meet_7 : decode cX6_meet 7 = .ok (.getfield 9, 3) := by decide +kernel
theorem dX6_meet_10 : decode cX6_meet 10 = .ok (.iload_n 2, 1) := by decide +kernel
theorem dX6_meet_11 : decode cX6_meet 11 = .ok (.iaload, 1) := by decide +kernel
theorem dX6_meet_12 : decode cX6_meet 12 = .ok (.ifCond .ne 45, 3) := by decide +kernel
theorem dX6_meet_15 : decode cX6_meet 15 = .ok (.aload_n 0, 1) := by decide +kernel
theorem dX6_meet_16 : decode cX6_meet 16 = .ok (.getfield 24, 3) := by decide +kernel
theorem dX6_meet_19 : decode cX6_meet 19 = .ok (.sipush 640, 3) := by decide +kernel
theorem dX6_meet_22 : decode cX6_meet 22 = .ok (.if_icmp .lt 5, 3) := by decide +kernel
theorem dX6_meet_25 : decode cX6_meet 25 = .ok (.iconst (-1), 1) := by decide +kernel
theorem dX6_meet_26 : decode cX6_meet 26 = .ok (.ireturn, 1) := by decide +kernel
theorem dX6_meet_27 : decode cX6_meet 27 = .ok (.aload_n 0, 1) := by decide +kernel
theorem dX6_meet_28 : decode cX6_meet 28 = .ok (.getfield 15, 3) := by decide +kernel
theorem dX6_meet_31 : decode cX6_meet 31 = .ok (.aload_n 0, 1) := by decide +kernel
theorem dX6_meet_32 : decode cX6_meet 32 = .ok (.getfield 24, 3) := by decide +kernel
theorem dX6_meet_35 : decode cX6_meet 35 = .ok (.iload_n 1, 1) := by decide +kernel
theorem dX6_meet_36 : decode cX6_meet 36 = .ok (.iastore, 1) := by decide +kernel
theorem dX6_meet_37 : decode cX6_meet 37 = .ok (.aload_n 0, 1) := by decide +kernel
theorem dX6_meet_38 : decode cX6_meet 38 = .ok (.dup, 1) := by decide +kernel
theorem dX6_meet_39 : decode cX6_meet 39 = .ok (.getfield 24, 3) := by decide +kernel
theorem dX6_meet_42 : decode cX6_meet 42 = .ok (.iconst 1, 1) := by decide +kernel
theorem dX6_meet_43 : decode cX6_meet 43 = .ok (.iadd, 1) := by decide +kernel
theorem dX6_meet_44 : decode cX6_meet 44 = .ok (.putfield 24, 3) := by decide +kernel
theorem dX6_meet_47 : decode cX6_meet 47 = .ok (.aload_n 0, 1) := by decide +kernel
theorem dX6_meet_48 : decode cX6_meet 48 = .ok (.getfield 9, 3) := by decide +kernel
theorem dX6_meet_51 : decode cX6_meet 51 = .ok (.iload_n 2, 1) := by decide +kernel
theorem dX6_meet_52 : decode cX6_meet 52 = .ok (.aload_n 0, 1) := by decide +kernel
theorem dX6_meet_53 : decode cX6_meet 53 = .ok (.getfield 24, 3) := by decide +kernel
theorem dX6_meet_56 : decode cX6_meet 56 = .ok (.iastore, 1) := by decide +kernel
theorem dX6_meet_57 : decode cX6_meet 57 = .ok (.aload_n 0, 1) := by decide +kernel
theorem dX6_meet_58 : decode cX6_meet 58 = .ok (.getfield 9, 3) := by decide +kernel
theorem dX6_meet_61 : decode cX6_meet 61 = .ok (.iload_n 2, 1) := by decide +kernel
theorem dX6_meet_62 : decode cX6_meet 62 = .ok (.iaload, 1) := by decide +kernel
theorem dX6_meet_63 : decode cX6_meet 63 = .ok (.iconst 1, 1) := by decide +kernel
theorem dX6_meet_64 : decode cX6_meet 64 = .ok (.isub, 1) := by decide +kernel
theorem dX6_meet_65 : decode cX6_meet 65 = .ok (.ireturn, 1) := by decide +kernel
theorem dX6_slotOf_0 : decode cX6_slotOf 0 = .ok (.iload_n 1, 1) := by decide +kernel
theorem dX6_slotOf_1 : decode cX6_slotOf 1 = .ok (.ldc 32, 2) := by decide +kernel
theorem dX6_slotOf_3 : decode cX6_slotOf 3 = .ok (.imul, 1) := by decide +kernel
theorem dX6_slotOf_4 : decode cX6_slotOf 4 = .ok (.bipush 22, 2) := by decide +kernel
theorem dX6_slotOf_6 : decode cX6_slotOf 6 = .ok (.iushr, 1) := by decide +kernel
theorem dX6_slotOf_7 : decode cX6_slotOf 7 = .ok (.sipush 1023, 3) := by decide +kernel
theorem dX6_slotOf_10 : decode cX6_slotOf 10 = .ok (.iand, 1) := by decide +kernel
theorem dX6_slotOf_11 : decode cX6_slotOf 11 = .ok (.istore_n 2, 1) := by decide +kernel
theorem dX6_slotOf_12 : decode cX6_slotOf 12 = .ok (.iconst 0, 1) := by decide +kernel
theorem dX6_slotOf_13 : decode cX6_slotOf 13 = .ok (.istore_n 3, 1) := by decide +kernel
theorem dX6_slotOf_14 : decode cX6_slotOf 14 = .ok (.iload_n 3, 1) := by decide +kernel
theorem dX6_slotOf_15 : decode cX6_slotOf 15 = .ok (.sipush 1024, 3) := by decide +kernel
theorem dX6_slotOf_18 : decode cX6_slotOf 18 = .ok (.if_icmp .ge 53, 3) := by decide +kernel
theorem dX6_slotOf_21 : decode cX6_slotOf 21 = .ok (.aload_n 0, 1) := by decide +kernel
theorem dX6_slotOf_22 : decode cX6_slotOf 22 = .ok (.getfield 9, 3) := by decide +kernel
theorem dX6_slotOf_25 : decode cX6_slotOf 25 = .ok (.iload_n 2, 1) := by decide +kernel
theorem dX6_slotOf_26 : decode cX6_slotOf 26 = .ok (.iaload, 1) := by decide +kernel
theorem dX6_slotOf_27 : decode cX6_slotOf 27 = .ok (.iconst 1, 1) := by decide +kernel
theorem dX6_slotOf_28 : decode cX6_slotOf 28 = .ok (.isub, 1) := by decide +kernel
theorem dX6_slotOf_29 : decode cX6_slotOf 29 = .ok (.istore 4, 2) := by decide +kernel
theorem dX6_slotOf_31 : decode cX6_slotOf 31 = .ok (.iload 4, 2) := by decide +kernel
theorem dX6_slotOf_33 : decode cX6_slotOf 33 = .ok (.ifCond .lt 22, 3) := by decide +kernel
theorem dX6_slotOf_36 : decode cX6_slotOf 36 = .ok (.iload 4, 2) := by decide +kernel
theorem dX6_slotOf_38 : decode cX6_slotOf 38 = .ok (.sipush 640, 3) := by decide +kernel
theorem dX6_slotOf_41 : decode cX6_slotOf 41 = .ok (.if_icmp .ge 14, 3) := by decide +kernel
theorem dX6_slotOf_44 : decode cX6_slotOf 44 = .ok (.aload_n 0, 1) := by decide +kernel
theorem dX6_slotOf_45 : decode cX6_slotOf 45 = .ok (.getfield 15, 3) := by decide +kernel
theorem dX6_slotOf_48 : decode cX6_slotOf 48 = .ok (.iload 4, 2) := by decide +kernel
theorem dX6_slotOf_50 : decode cX6_slotOf 50 = .ok (.iaload, 1) := by decide +kernel
theorem dX6_slotOf_51 : decode cX6_slotOf 51 = .ok (.iload_n 1, 1) := by decide +kernel
theorem dX6_slotOf_52 : decode cX6_slotOf 52 = .ok (.if_icmp .ne 5, 3) := by decide +kernel
theorem dX6_slotOf_55 : decode cX6_slotOf 55 = .ok (.iload_n 2, 1) := by decide +kernel
theorem dX6_slotOf_56 : decode cX6_slotOf 56 = .ok (.ireturn, 1) := by decide +kernel
theorem dX6_slotOf_57 : decode cX6_slotOf 57 = .ok (.iload_n 2, 1) := by decide +kernel
theorem dX6_slotOf_58 : decode cX6_slotOf 58 = .ok (.iconst 1, 1) := by decide +kernel
theorem dX6_slotOf_59 : decode cX6_slotOf 59 = .ok (.iadd, 1) := by decide +kernel
theorem dX6_slotOf_60 : decode cX6_slotOf 60 = .ok (.sipush 1023, 3) := by decide +kernel
theorem dX6_slotOf_63 : decode cX6_slotOf 63 = .ok (.iand, 1) := by decide +kernel
theorem dX6_slotOf_64 : decode cX6_slotOf 64 = .ok (.istore_n 2, 1) := by decide +kernel
theorem dX6_slotOf_65 : decode cX6_slotOf 65 = .ok (.iinc 3 1, 3) := by decide +kernel
theorem dX6_slotOf_68 : decode cX6_slotOf 68 = .ok (.goto (-54), 3) := by decide +kernel
theorem dX6_slotOf_71 : decode cX6_slotOf 71 = .ok (.iload_n 2, 1) := by decide +kernel
theorem dX6_slotOf_72 : decode cX6_slotOf 72 = .ok (.ireturn, 1) := by decide +kernel
theorem dX7_init_0 : decode cX7_init 0 = .ok (.aload_n 0, 1) := by decide +kernel
theorem dX7_init_1 : decode cX7_init 1 = .ok (.invokespecial 1, 3) := by decide +kernel
theorem dX7_init_4 : decode cX7_init 4 = .ok (.aload_n 0, 1) := by decide +kernel
theorem dX7_init_5 : decode cX7_init 5 = .ok (.new 7, 3) := by decide +kernel
theorem dX7_init_8 : decode cX7_init 8 = .ok (.dup, 1) := by decide +kernel
theorem dX7_init_9 : decode cX7_init 9 = .ok (.invokespecial 9, 3) := by decide +kernel
theorem dX7_init_12 : decode cX7_init 12 = .ok (.putfield 10, 3) := by decide +kernel
theorem dX7_init_15 : decode cX7_init 15 = .ok (.aload_n 0, 1) := by decide +kernel
theorem dX7_init_16 : decode cX7_init 16 = .ok (.new 16, 3) := by decide +kernel
theorem dX7_init_19 : decode cX7_init 19 = .ok (.dup, 1) := by decide +kernel
theorem dX7_init_20 : decode cX7_init 20 = .ok (.invokespecial 18, 3) := by decide +kernel
theorem dX7_init_23 : decode cX7_init 23 = .ok (.putfield 19, 3) := by decide +kernel
theorem dX7_init_26 : decode cX7_init 26 = .ok (.aload_n 0, 1) := by decide +kernel
theorem dX7_init_27 : decode cX7_init 27 = .ok (.new 16, 3) := by decide +kernel
theorem dX7_init_30 : decode cX7_init 30 = .ok (.dup, 1) := by decide +kernel
theorem dX7_init_31 : decode cX7_init 31 = .ok (.invokespecial 18, 3) := by decide +kernel
theorem dX7_init_34 : decode cX7_init 34 = .ok (.putfield 23, 3) := by decide +kernel
theorem dX7_init_37 : decode cX7_init 37 = .ok (.aload_n 0, 1) := by decide +kernel
theorem dX7_init_38 : decode cX7_init 38 = .ok (.new 26, 3) := by decide +kernel
theorem dX7_init_41 : decode cX7_init 41 = .ok (.dup, 1) := by decide +kernel
theorem dX7_init_42 : decode cX7_init 42 = .ok (.invokespecial 28, 3) := by decide +kernel
theorem dX7_init_45 : decode cX7_init 45 = .ok (.putfield 29, 3) := by decide +kernel
theorem dX7_init_48 : decode cX7_init 48 = .ok (.aload_n 0, 1) := by decide +kernel
theorem dX7_init_49 : decode cX7_init 49 = .ok (.new 26, 3) := by decide +kernel
theorem dX7_init_52 : decode cX7_init 52 = .ok (.dup, 1) := by decide +kernel
theorem dX7_init_53 : decode cX7_init 53 = .ok (.invokespecial 28, 3) := by decide +kernel
theorem dX7_init_56 : decode cX7_init 56 = .ok (.putfield 33, 3) := by decide +kernel
theorem dX7_init_59 : decode cX7_init 59 = .ok (.aload_n 0, 1) := by decide +kernel
theorem dX7_init_60 : decode cX7_init 60 = .ok (.new 36, 3) := by decide +kernel
theorem dX7_init_63 : decode cX7_init 63 = .ok (.dup, 1) := by decide +kernel
theorem dX7_init_64 : decode cX7_init 64 = .ok (.invokespecial 38, 3) := by decide +kernel
theorem dX7_init_67 : decode cX7_init 67 = .ok (.putfield 39, 3) := by decide +kernel
theorem dX7_init_70 : decode cX7_init 70 = .ok (.aload_n 0, 1) := by decide +kernel
theorem dX7_init_71 : decode cX7_init 71 = .ok (.new 36, 3) := by decide +kernel
theorem dX7_init_74 : decode cX7_init 74 = .ok (.dup, 1) := by decide +kernel
theorem dX7_init_75 : decode cX7_init 75 = .ok (.invokespecial 38, 3) := by decide +kernel
theorem dX7_init_78 : decode cX7_init 78 = .ok (.putfield 43, 3) := by decide +kernel
theorem dX7_init_81 : decode cX7_init 81 = .ok (.aload_n 0, 1) := by decide +kernel
theorem dX7_init_82 : decode cX7_init 82 = .ok (.new 46, 3) := by decide +kernel
theorem dX7_init_85 : decode cX7_init 85 = .ok (.dup, 1) := by decide +kernel
theorem dX7_init_86 : decode cX7_init 86 = .ok (.invokespecial 48, 3) := by decide +kernel
theorem dX7_init_89 : decode cX7_init 89 = .ok (.putfield 49, 3) := by decide +kernel
theorem dX7_init_92 : decode cX7_init 92 = .ok (.return_, 1) := by decide +kernel
theorem dX7_letters_0 : decode cX7_letters 0 = .ok (.lload_n 1, 1) := by decide +kernel
theorem dX7_letters_1 : decode cX7_letters 1 = .ok (.invokestatic 53, 3) := by decide +kernel
theorem dX7_letters_4 : decode cX7_letters 4 = .ok (.istore_n 3, 1) := by decide +kernel
theorem dX7_letters_5 : decode cX7_letters 5 = .ok (.iload_n 3, 1) := by decide +kernel
theorem dX7_letters_6 : decode cX7_letters 6 = .ok (.iconst (-1), 1) := by decide +kernel
theorem dX7_letters_7 : decode cX7_letters 7 = .ok (.if_icmp .ne 6, 3) := by decide +kernel
theorem dX7_letters_10 : decode cX7_letters 10 = .ok (.bipush (-102), 2) := by decide +kernel
theorem dX7_letters_12 : decode cX7_letters 12 = .ok (.ireturn, 1) := by decide +kernel
theorem dX7_letters_13 : decode cX7_letters 13 = .ok (.aload_n 0, 1) := by decide +kernel
theorem dX7_letters_14 : decode cX7_letters 14 = .ok (.getfield 10, 3) := by decide +kernel
theorem dX7_letters_17 : decode cX7_letters 17 = .ok (.getfield 57, 3) := by decide +kernel
theorem dX7_letters_20 : decode cX7_letters 20 = .ok (.iload_n 3, 1) := by decide +kernel
theorem dX7_letters_21 : decode cX7_letters 21 = .ok (.iadd, 1) := by decide +kernel
theorem dX7_letters_22 : decode cX7_letters 22 = .ok (.bipush 14, 2) := by decide +kernel
theorem dX7_letters_24 : decode cX7_letters 24 = .ok (.if_icmp .le 6, 3) := by decide +kernel
theorem dX7_letters_27 : decode cX7_letters 27 = .ok (.bipush (-104), 2) := by decide +kernel
theorem dX7_letters_29 : decode cX7_letters 29 = .ok (.ireturn, 1) := by decide +kernel
theorem dX7_letters_30 : decode cX7_letters 30 = .ok (.aload_n 0, 1) := by decide +kernel
theorem dX7_letters_31 : decode cX7_letters 31 = .ok (.getfield 10, 3) := by decide +kernel
theorem dX7_letters_34 : decode cX7_letters 34 = .ok (.lload_n 1, 1) := by decide +kernel
theorem dX7_letters_35 : decode cX7_letters 35 = .ok (.iload_n 3, 1) := by decide +kernel
theorem dX7_letters_36 : decode cX7_letters 36 = .ok (.invokevirtual 61, 3) := by decide +kernel
theorem dX7_letters_39 : decode cX7_letters 39 = .ok (.aload_n 0, 1) := by decide +kernel
theorem dX7_letters_40 : decode cX7_letters 40 = .ok (.getfield 10, 3) := by decide +kernel
theorem dX7_letters_43 : decode cX7_letters 43 = .ok (.getfield 57, 3) := by decide +kernel
theorem dX7_letters_46 : decode cX7_letters 46 = .ok (.ireturn, 1) := by decide +kernel
theorem dX7_blank_0 : decode cX7_blank 0 = .ok (.aload_n 0, 1) := by decide +kernel
theorem dX7_blank_1 : decode cX7_blank 1 = .ok (.getfield 10, 3) := by decide +kernel
theorem dX7_blank_4 : decode cX7_blank 4 = .ok (.getfield 57, 3) := by decide +kernel
theorem dX7_blank_7 : decode cX7_blank 7 = .ok (.istore_n 1, 1) := by decide +kernel
theorem dX7_blank_8 : decode cX7_blank 8 = .ok (.aload_n 0, 1) := by decide +kernel
theorem dX7_blank_9 : decode cX7_blank 9 = .ok (.getfield 10, 3) := by decide +kernel
theorem dX7_blank_12 : decode cX7_blank 12 = .ok (.iconst 0, 1) := by decide +kernel
theorem dX7_blank_13 : decode cX7_blank 13 = .ok (.putfield 57, 3) := by decide +kernel
theorem dX7_blank_16 : decode cX7_blank 16 = .ok (.iload_n 1, 1) := by decide +kernel
theorem dX7_blank_17 : decode cX7_blank 17 = .ok (.ireturn, 1) := by decide +kernel
theorem dX7_fault_0 : decode cX7_fault 0 = .ok (.aload_n 0, 1) := by decide +kernel
theorem dX7_fault_1 : decode cX7_fault 1 = .ok (.getfield 10, 3) := by decide +kernel
theorem dX7_fault_4 : decode cX7_fault 4 = .ok (.invokevirtual 65, 3) := by decide +kernel
theorem dX7_fault_7 : decode cX7_fault 7 = .ok (.ireturn, 1) := by decide +kernel
theorem dX7_brook_0 : decode cX7_brook 0 = .ok (.aload_n 0, 1) := by decide +kernel
theorem dX7_brook_1 : decode cX7_brook 1 = .ok (.getfield 10, 3) := by decide +kernel
theorem dX7_brook_4 : decode cX7_brook 4 = .ok (.invokevirtual 69, 3) := by decide +kernel
theorem dX7_brook_7 : decode cX7_brook 7 = .ok (.ifCond .ne 6, 3) := by decide +kernel
theorem dX7_brook_10 : decode cX7_brook 10 = .ok (.bipush (-103), 2) := by decide +kernel
theorem dX7_brook_12 : decode cX7_brook 12 = .ok (.ireturn, 1) := by decide +kernel
theorem dX7_brook_13 : decode cX7_brook 13 = .ok (.aload_n 0, 1) := by decide +kernel
theorem dX7_brook_14 : decode cX7_brook 14 = .ok (.getfield 19, 3) := by decide +kernel
theorem dX7_brook_17 : decode cX7_brook 17 = .ok (.aload_n 0, 1) := by decide +kernel
theorem dX7_brook_18 : decode cX7_brook 18 = .ok (.getfield 10, 3) := by decide +kernel
theorem dX7_brook_21 : decode cX7_brook 21 = .ok (.invokevirtual 73, 3) := by decide +kernel
theorem dX7_brook_24 : decode cX7_brook 24 = .ok (.aload_n 0, 1) := by decide +kernel
theorem dX7_brook_25 : decode cX7_brook 25 = .ok (.getfield 10, 3) := by decide +kernel
theorem dX7_brook_28 : decode cX7_brook 28 = .ok (.invokevirtual 76, 3) := by decide +kernel
theorem dX7_brook_31 : decode cX7_brook 31 = .ok (.invokevirtual 79, 3) := by decide +kernel
theorem dX7_brook_34 : decode cX7_brook 34 = .ok (.aload_n 0, 1) := by decide +kernel
theorem dX7_brook_35 : decode cX7_brook 35 = .ok (.aload_n 0, 1) := by decide +kernel
theorem dX7_brook_36 : decode cX7_brook 36 = .ok (.getfield 10, 3) := by decide +kernel
theorem dX7_brook_39 : decode cX7_brook 39 = .ok (.invokevirtual 83, 3) := by decide +kernel
theorem dX7_brook_42 : decode cX7_brook 42 = .ok (.putfield 86, 3) := by decide +kernel
theorem dX7_brook_45 : decode cX7_brook 45 = .ok (.aload_n 0, 1) := by decide +kernel
theorem dX7_brook_46 : decode cX7_brook 46 = .ok (.aload_n 0, 1) := by decide +kernel
theorem dX7_brook_47 : decode cX7_brook 47 = .ok (.getfield 86, 3) := by decide +kernel
theorem dX7_brook_50 : decode cX7_brook 50 = .ok (.aload_n 0, 1) := by decide +kernel
theorem dX7_brook_51 : decode cX7_brook 51 = .ok (.getfield 19, 3) := by decide +kernel
theorem dX7_brook_54 : decode cX7_brook 54 = .ok (.getfield 89, 3) := by decide +kernel
theorem dX7_brook_57 : decode cX7_brook 57 = .ok (.invokestatic 92, 3) := by decide +kernel
theorem dX7_brook_60 : decode cX7_brook 60 = .ok (.putfield 98, 3) := by decide +kernel
theorem dX7_brook_63 : decode cX7_brook 63 = .ok (.aload_n 0, 1) := by decide +kernel
theorem dX7_brook_64 : decode cX7_brook 64 = .ok (.aload_n 0, 1) := by decide +kernel
theorem dX7_brook_65 : decode cX7_brook 65 = .ok (.getfield 19, 3) := by decide +kernel
theorem dX7_brook_68 : decode cX7_brook 68 = .ok (.getfield 89, 3) := by decide +kernel
theorem dX7_brook_71 : decode cX7_brook 71 = .ok (.aload_n 0, 1) := by decide +kernel
theorem dX7_brook_72 : decode cX7_brook 72 = .ok (.getfield 86, 3) := by decide +kernel
theorem dX7_brook_75 : decode cX7_brook 75 = .ok (.aload_n 0, 1) := by decide +kernel
theorem dX7_brook_76 : decode cX7_brook 76 = .ok (.getfield 19, 3) := by decide +kernel
theorem dX7_brook_79 : decode cX7_brook 79 = .ok (.getfield 89, 3) := by decide +kernel
theorem dX7_brook_82 : decode cX7_brook 82 = .ok (.invokestatic 101, 3) := by decide +kernel
theorem dX7_brook_85 : decode cX7_brook 85 = .ok (.isub, 1) := by decide +kernel
theorem dX7_brook_86 : decode cX7_brook 86 = .ok (.putfield 104, 3) := by decide +kernel
theorem dX7_brook_89 : decode cX7_brook 89 = .ok (.aload_n 0, 1) := by decide +kernel
theorem dX7_brook_90 : decode cX7_brook 90 = .ok (.getfield 29, 3) := by decide +kernel
theorem dX7_brook_93 : decode cX7_brook 93 = .ok (.aload_n 0, 1) := by decide +kernel
theorem dX7_brook_94 : decode cX7_brook 94 = .ok (.getfield 86, 3) := by decide +kernel
theorem dX7_brook_97 : decode cX7_brook 97 = .ok (.aload_n 0, 1) := by decide +kernel
theorem dX7_brook_98 : decode cX7_brook 98 = .ok (.getfield 86, 3) := by decide +kernel
theorem dX7_brook_101 : decode cX7_brook 101 = .ok (.invokestatic 107, 3) := by decide +kernel
theorem dX7_brook_104 : decode cX7_brook 104 = .ok (.invokevirtual 111, 3) := by decide +kernel
theorem dX7_brook_107 : decode cX7_brook 107 = .ok (.aload_n 0, 1) := by decide +kernel
theorem dX7_brook_108 : decode cX7_brook 108 = .ok (.getfield 39, 3) := by decide +kernel
theorem dX7_brook_111 : decode cX7_brook 111 = .ok (.aload_n 0, 1) := by decide +kernel
theorem dX7_brook_112 : decode cX7_brook 112 = .ok (.getfield 19, 3) := by decide +kernel
theorem dX7_brook_115 : decode cX7_brook 115 = .ok (.aload_n 0, 1) := by decide +kernel
theorem dX7_brook_116 : decode cX7_brook 116 = .ok (.getfield 98, 3) := by decide +kernel
theorem dX7_brook_119 : decode cX7_brook 119 = .ok (.iconst (-1), 1) := by decide +kernel
theorem dX7_brook_120 : decode cX7_brook 120 = .ok (.iconst (-1), 1) := by decide +kernel
theorem dX7_brook_121 : decode cX7_brook 121 = .ok (.invokevirtual 114, 3) := by decide +kernel
theorem dX7_brook_124 : decode cX7_brook 124 = .ok (.pop, 1) := by decide +kernel
theorem dX7_brook_125 : decode cX7_brook 125 = .ok (.aload_n 0, 1) := by decide +kernel
theorem dX7_brook_126 : decode cX7_brook 126 = .ok (.getfield 49, 3) := by decide +kernel
theorem dX7_brook_129 : decode cX7_brook 129 = .ok (.invokevirtual 118, 3) := by decide +kernel
theorem dX7_brook_132 : decode cX7_brook 132 = .ok (.aload_n 0, 1) := by decide +kernel
theorem dX7_brook_133 : decode cX7_brook 133 = .ok (.iconst 0, 1) := by decide +kernel
theorem dX7_brook_134 : decode cX7_brook 134 = .ok (.putfield 121, 3) := by decide +kernel
theorem dX7_brook_137 : decode cX7_brook 137 = .ok (.aload_n 0, 1) := by decide +kernel
theorem dX7_brook_138 : decode cX7_brook 138 = .ok (.dup, 1) := by decide +kernel
theorem dX7_brook_139 : decode cX7_brook 139 = .ok (.getfield 125, 3) := by decide +kernel
theorem dX7_brook_142 : decode cX7_brook 142 = .ok (.iconst 1, 1) := by decide +kernel
theorem dX7_brook_143 : decode cX7_brook 143 = .ok (.iadd, 1) := by decide +kernel
theorem dX7_brook_144 : decode cX7_brook 144 = .ok (.putfield 125, 3) := by decide +kernel
theorem dX7_brook_147 : decode cX7_brook 147 = .ok (.aload_n 0, 1) := by decide +kernel
theorem dX7_brook_148 : decode cX7_brook 148 = .ok (.getfield 10, 3) := by decide +kernel
theorem dX7_brook_151 : decode cX7_brook 151 = .ok (.iconst 0, 1) := by decide +kernel
theorem dX7_brook_152 : decode cX7_brook 152 = .ok (.putfield 57, 3) := by decide +kernel
theorem dX7_brook_155 : decode cX7_brook 155 = .ok (.aload_n 0, 1) := by decide +kernel
theorem dX7_brook_156 : decode cX7_brook 156 = .ok (.getfield 19, 3) := by decide +kernel
theorem dX7_brook_159 : decode cX7_brook 159 = .ok (.getfield 89, 3) := by decide +kernel
theorem dX7_brook_162 : decode cX7_brook 162 = .ok (.ireturn, 1) := by decide +kernel
theorem dX7_on_0 : decode cX7_on 0 = .ok (.aload_n 0, 1) := by decide +kernel
theorem dX7_on_1 : decode cX7_on 1 = .ok (.iload_n 1, 1) := by decide +kernel
theorem dX7_on_2 : decode cX7_on 2 = .ok (.invokevirtual 128, 3) := by decide +kernel
theorem dX7_on_5 : decode cX7_on 5 = .ok (.ifCond .ne 6, 3) := by decide +kernel
theorem dX7_on_8 : decode cX7_on 8 = .ok (.bipush (-101), 2) := by decide +kernel
theorem dX7_on_10 : decode cX7_on 10 = .ok (.ireturn, 1) := by decide +kernel
theorem dX7_on_11 : decode cX7_on 11 = .ok (.aload_n 0, 1) := by decide +kernel
theorem dX7_on_12 : decode cX7_on 12 = .ok (.getfield 29, 3) := by decide +kernel
theorem dX7_on_15 : decode cX7_on 15 = .ok (.getfield 132, 3) := by decide +kernel
theorem dX7_on_18 : decode cX7_on 18 = .ok (.iload_n 1, 1) := by decide +kernel
theorem dX7_on_19 : decode cX7_on 19 = .ok (.invokestatic 134, 3) := by decide +kernel
theorem dX7_on_22 : decode cX7_on 22 = .ok (.istore_n 2, 1) := by decide +kernel
theorem dX7_on_23 : decode cX7_on 23 = .ok (.iload_n 2, 1) := by decide +kernel
theorem dX7_on_24 : decode cX7_on 24 = .ok (.ifCond .ne 7, 3) := by decide +kernel
theorem dX7_on_27 : decode cX7_on 27 = .ok (.iconst (-1), 1) := by decide +kernel
theorem dX7_on_28 : decode cX7_on 28 = .ok (.goto 4, 3) := by decide +kernel
theorem dX7_on_31 : decode cX7_on 31 = .ok (.iload_n 2, 1) := by decide +kernel
theorem dX7_on_32 : decode cX7_on 32 = .ok (.ireturn, 1) := by decide +kernel
theorem dX7_frog_0 : decode cX7_frog 0 = .ok (.aload_n 0, 1) := by decide +kernel
theorem dX7_frog_1 : decode cX7_frog 1 = .ok (.iload_n 1, 1) := by decide +kernel
theorem dX7_frog_2 : decode cX7_frog 2 = .ok (.invokevirtual 128, 3) := by decide +kernel
theorem dX7_frog_5 : decode cX7_frog 5 = .ok (.ifCond .ne 6, 3) := by decide +kernel
theorem dX7_frog_8 : decode cX7_frog 8 = .ok (.bipush (-101), 2) := by decide +kernel
theorem dX7_frog_10 : decode cX7_frog 10 = .ok (.ireturn, 1) := by decide +kernel
theorem dX7_frog_11 : decode cX7_frog 11 = .ok (.aload_n 0, 1) := by decide +kernel
theorem dX7_frog_12 : decode cX7_frog 12 = .ok (.getfield 29, 3) := by decide +kernel
theorem dX7_frog_15 : decode cX7_frog 15 = .ok (.getfield 137, 3) := by decide +kernel
theorem dX7_frog_18 : decode cX7_frog 18 = .ok (.iload_n 1, 1) := by decide +kernel
theorem dX7_frog_19 : decode cX7_frog 19 = .ok (.invokestatic 134, 3) := by decide +kernel
theorem dX7_frog_22 : decode cX7_frog 22 = .ok (.iconst 1, 1) := by decide +kernel
theorem dX7_frog_23 : decode cX7_frog 23 = .ok (.isub, 1) := by decide +kernel
theorem dX7_frog_24 : decode cX7_frog 24 = .ok (.ireturn, 1) := by decide +kernel
theorem dX7_about_0 : decode cX7_about 0 = .ok (.aload_n 0, 1) := by decide +kernel
theorem dX7_about_1 : decode cX7_about 1 = .ok (.iload_n 1, 1) := by decide +kernel
theorem dX7_about_2 : decode cX7_about 2 = .ok (.invokevirtual 140, 3) := by decide +kernel
theorem dX7_about_5 : decode cX7_about 5 = .ok (.ifCond .ne 6, 3) := by decide +kernel
theorem dX7_about_8 : decode cX7_about 8 = .ok (.bipush (-101), 2) := by decide +kernel
theorem dX7_about_10 : decode cX7_about 10 = .ok (.ireturn, 1) := by decide +kernel
theorem dX7_about_11 : decode cX7_about 11 = .ok (.iload_n 2, 1) := by decide +kernel
theorem dX7_about_12 : decode cX7_about 12 = .ok (.tableswitch 52 0 2 #[28, 34, 43], 28) := by decide +kernel
theorem dX7_about_40 : decode cX7_about 40 = .ok (.aload_n 0, 1) := by decide +kernel
theorem dX7_about_41 : decode cX7_about 41 = .ok (.iload_n 1, 1) := by decide +kernel
theorem dX7_about_42 : decode cX7_about 42 = .ok (.invokevirtual 143, 3) := by decide +kernel
theorem dX7_about_45 : decode cX7_about 45 = .ok (.ireturn, 1) := by decide +kernel
theorem dX7_about_46 : decode cX7_about 46 = .ok (.aload_n 0, 1) := by decide +kernel
theorem dX7_about_47 : decode cX7_about 47 = .ok (.getfield 29, 3) := by decide +kernel
theorem dX7_about_50 : decode cX7_about 50 = .ok (.iload_n 1, 1) := by decide +kernel
theorem dX7_about_51 : decode cX7_about 51 = .ok (.invokevirtual 146, 3) := by decide +kernel
theorem dX7_about_54 : decode cX7_about 54 = .ok (.ireturn, 1) := by decide +kernel
theorem dX7_about_55 : decode cX7_about 55 = .ok (.aload_n 0, 1) := by decide +kernel
theorem dX7_about_56 : decode cX7_about 56 = .ok (.getfield 29, 3) := by decide +kernel
theorem dX7_about_59 : decode cX7_about 59 = .ok (.iload_n 1, 1) := by decide +kernel
theorem dX7_about_60 : decode cX7_about 60 = .ok (.invokevirtual 149, 3) := by decide +kernel
theorem dX7_about_63 : decode cX7_about 63 = .ok (.ireturn, 1) := by decide +kernel
theorem dX7_about_64 : decode cX7_about 64 = .ok (.bipush (-102), 2) := by decide +kernel
theorem dX7_about_66 : decode cX7_about 66 = .ok (.ireturn, 1) := by decide +kernel
theorem dX7_as_0 : decode cX7_as 0 = .ok (.aload_n 0, 1) := by decide +kernel
theorem dX7_as_1 : decode cX7_as 1 = .ok (.iload_n 1, 1) := by decide +kernel
theorem dX7_as_2 : decode cX7_as 2 = .ok (.invokevirtual 140, 3) := by decide +kernel
theorem dX7_as_5 : decode cX7_as 5 = .ok (.ifCond .ne 6, 3) := by decide +kernel
theorem dX7_as_8 : decode cX7_as 8 = .ok (.bipush (-101), 2) := by decide +kernel
theorem dX7_as_10 : decode cX7_as 10 = .ok (.ireturn, 1) := by decide +kernel
theorem dX7_as_11 : decode cX7_as 11 = .ok (.iload_n 2, 1) := by decide +kernel
theorem dX7_as_12 : decode cX7_as 12 = .ok (.ifCond .lt 8, 3) := by decide +kernel
theorem dX7_as_15 : decode cX7_as 15 = .ok (.iload_n 2, 1) := by decide +kernel
theorem dX7_as_16 : decode cX7_as 16 = .ok (.iconst 4, 1) := by decide +kernel
theorem dX7_as_17 : decode cX7_as 17 = .ok (.if_icmp .le 6, 3) := by decide +kernel
theorem dX7_as_20 : decode cX7_as 20 = .ok (.bipush (-102), 2) := by decide +kernel
theorem dX7_as_22 : decode cX7_as 22 = .ok (.ireturn, 1) := by decide +kernel
theorem dX7_as_23 : decode cX7_as 23 = .ok (.aload_n 0, 1) := by decide +kernel
theorem dX7_as_24 : decode cX7_as 24 = .ok (.iload_n 1, 1) := by decide +kernel
theorem dX7_as_25 : decode cX7_as 25 = .ok (.invokevirtual 143, 3) := by decide +kernel
theorem dX7_as_28 : decode cX7_as 28 = .ok (.istore_n 3, 1) := by decide +kernel
theorem dX7_as_29 : decode cX7_as 29 = .ok (.iload_n 2, 1) := by decide +kernel
theorem dX7_as_30 : decode cX7_as 30 = .ok (.ifCond .eq 18, 3) := by decide +kernel
theorem dX7_as_33 : decode cX7_as 33 = .ok (.iload_n 2, 1) := by decide +kernel
theorem dX7_as_34 : decode cX7_as 34 = .ok (.iload_n 3, 1) := by decide +kernel
theorem dX7_as_35 : decode cX7_as 35 = .ok (.if_icmp .eq 13, 3) := by decide +kernel
theorem dX7_as_38 : decode cX7_as 38 = .ok (.iload_n 2, 1) := by decide +kernel
theorem dX7_as_39 : decode cX7_as 39 = .ok (.iconst 1, 1) := by decide +kernel
theorem dX7_as_40 : decode cX7_as 40 = .ok (.if_icmp .ne 12, 3) := by decide +kernel
theorem dX7_as_43 : decode cX7_as 43 = .ok (.iload_n 3, 1) := by decide +kernel
theorem dX7_as_44 : decode cX7_as 44 = .ok (.iconst 4, 1) := by decide +kernel
theorem dX7_as_45 : decode cX7_as 45 = .ok (.if_icmp .ne 7, 3) := by decide +kernel
theorem dX7_as_48 : decode cX7_as 48 = .ok (.iconst 1, 1) := by decide +kernel
theorem dX7_as_49 : decode cX7_as 49 = .ok (.goto 4, 3) := by decide +kernel
theorem dX7_as_52 : decode cX7_as 52 = .ok (.iconst 0, 1) := by decide +kernel
theorem dX7_as_53 : decode cX7_as 53 = .ok (.istore 4, 2) := by decide +kernel
theorem dX7_as_55 : decode cX7_as 55 = .ok (.iload 4, 2) := by decide +kernel
theorem dX7_as_57 : decode cX7_as 57 = .ok (.ifCond .eq 7, 3) := by decide +kernel
theorem dX7_as_60 : decode cX7_as 60 = .ok (.iload_n 1, 1) := by decide +kernel
theorem dX7_as_61 : decode cX7_as 61 = .ok (.goto 4, 3) := by decide +kernel
theorem dX7_as_64 : decode cX7_as 64 = .ok (.iconst (-1), 1) := by decide +kernel
theorem dX7_as_65 : decode cX7_as 65 = .ok (.ireturn, 1) := by decide +kernel
theorem dX7_may_0 : decode cX7_may 0 = .ok (.aload_n 0, 1) := by decide +kernel
theorem dX7_may_1 : decode cX7_may 1 = .ok (.iload_n 1, 1) := by decide +kernel
theorem dX7_may_2 : decode cX7_may 2 = .ok (.invokevirtual 128, 3) := by decide +kernel
theorem dX7_may_5 : decode cX7_may 5 = .ok (.ifCond .eq 11, 3) := by decide +kernel
theorem dX7_may_8 : decode cX7_may 8 = .ok (.aload_n 0, 1) := by decide +kernel
theorem dX7_may_9 : decode cX7_may 9 = .ok (.iload_n 2, 1) := by decide +kernel
theorem dX7_may_10 : decode cX7_may 10 = .ok (.invokevirtual 128, 3) := by decide +kernel
theorem dX7_may_13 : decode cX7_may 13 = .ok (.ifCond .ne 6, 3) := by decide +kernel
theorem dX7_may_16 : decode cX7_may 16 = .ok (.bipush (-101), 2) := by decide +kernel
theorem dX7_may_18 : decode cX7_may 18 = .ok (.ireturn, 1) := by decide +kernel
theorem dX7_may_19 : decode cX7_may 19 = .ok (.aload_n 0, 1) := by decide +kernel
theorem dX7_may_20 : decode cX7_may 20 = .ok (.getfield 19, 3) := by decide +kernel
theorem dX7_may_23 : decode cX7_may 23 = .ok (.aload_n 0, 1) := by decide +kernel
theorem dX7_may_24 : decode cX7_may 24 = .ok (.getfield 29, 3) := by decide +kernel
theorem dX7_may_27 : decode cX7_may 27 = .ok (.getfield 132, 3) := by decide +kernel
theorem dX7_may_30 : decode cX7_may 30 = .ok (.iload_n 1, 1) := by decide +kernel
theorem dX7_may_31 : decode cX7_may 31 = .ok (.iload_n 2, 1) := by decide +kernel
theorem dX7_may_32 : decode cX7_may 32 = .ok (.invokevirtual 152, 3) := by decide +kernel
theorem dX7_may_35 : decode cX7_may 35 = .ok (.ifCond .eq 7, 3) := by decide +kernel
theorem dX7_may_38 : decode cX7_may 38 = .ok (.iconst 1, 1) := by decide +kernel
theorem dX7_may_39 : decode cX7_may 39 = .ok (.goto 4, 3) := by decide +kernel
theorem dX7_may_42 : decode cX7_may 42 = .ok (.iconst 0, 1) := by decide +kernel
theorem dX7_may_43 : decode cX7_may 43 = .ok (.ireturn, 1) := by decide +kernel
theorem dX7_moves_0 : decode cX7_moves 0 = .ok (.aload_n 0, 1) := by decide +kernel
theorem dX7_moves_1 : decode cX7_moves 1 = .ok (.getfield 19, 3) := by decide +kernel
theorem dX7_moves_4 : decode cX7_moves 4 = .ok (.aload_n 0, 1) := by decide +kernel
theorem dX7_moves_5 : decode cX7_moves 5 = .ok (.getfield 29, 3) := by decide +kernel
theorem dX7_moves_8 : decode cX7_moves 8 = .ok (.getfield 132, 3) := by decide +kernel
theorem dX7_moves_11 : decode cX7_moves 11 = .ok (.iconst 1, 1) := by decide +kernel
theorem dX7_moves_12 : decode cX7_moves 12 = .ok (.invokevirtual 156, 3) := by decide +kernel
theorem dX7_moves_15 : decode cX7_moves 15 = .ok (.invokestatic 160, 3) := by decide +kernel
theorem dX7_moves_18 : decode cX7_moves 18 = .ok (.ireturn, 1) := by decide +kernel
theorem dX7_move_0 : decode cX7_move 0 = .ok (.aload_n 0, 1) := by decide +kernel
theorem dX7_move_1 : decode cX7_move 1 = .ok (.iload_n 1, 1) := by decide +kernel
theorem dX7_move_2 : decode cX7_move 2 = .ok (.invokevirtual 128, 3) := by decide +kernel
theorem dX7_move_5 : decode cX7_move 5 = .ok (.ifCond .eq 11, 3) := by decide +kernel
theorem dX7_move_8 : decode cX7_move 8 = .ok (.aload_n 0, 1) := by decide +kernel
theorem dX7_move_9 : decode cX7_move 9 = .ok (.iload_n 2, 1) := by decide +kernel
theorem dX7_move_10 : decode cX7_move 10 = .ok (.invokevirtual 128, 3) := by decide +kernel
theorem dX7_move_13 : decode cX7_move 13 = .ok (.ifCond .ne 6, 3) := by decide +kernel
theorem dX7_move_16 : decode cX7_move 16 = .ok (.bipush (-101), 2) := by decide +kernel
theorem dX7_move_18 : decode cX7_move 18 = .ok (.ireturn, 1) := by decide +kernel
theorem dX7_move_19 : decode cX7_move 19 = .ok (.aload_n 0, 1) := by decide +kernel
theorem dX7_move_20 : decode cX7_move 20 = .ok (.getfield 19, 3) := by decide +kernel
theorem dX7_move_23 : decode cX7_move 23 = .ok (.aload_n 0, 1) := by decide +kernel
theorem dX7_move_24 : decode cX7_move 24 = .ok (.getfield 29, 3) := by decide +kernel
theorem dX7_move_27 : decode cX7_move 27 = .ok (.getfield 132, 3) := by decide +kernel
theorem dX7_move_30 : decode cX7_move 30 = .ok (.iload_n 1, 1) := by decide +kernel
theorem dX7_move_31 : decode cX7_move 31 = .ok (.iload_n 2, 1) := by decide +kernel
theorem dX7_move_32 : decode cX7_move 32 = .ok (.invokevirtual 152, 3) := by decide +kernel
theorem dX7_move_35 : decode cX7_move 35 = .ok (.ifCond .ne 6, 3) := by decide +kernel
theorem dX7_move_38 : decode cX7_move 38 = .ok (.bipush (-103), 2) := by decide +kernel
theorem dX7_move_40 : decode cX7_move 40 = .ok (.ireturn, 1) := by decide +kernel
theorem dX7_move_41 : decode cX7_move 41 = .ok (.aload_n 0, 1) := by decide +kernel
theorem dX7_move_42 : decode cX7_move 42 = .ok (.getfield 29, 3) := by decide +kernel
theorem dX7_move_45 : decode cX7_move 45 = .ok (.getfield 165, 3) := by decide +kernel
theorem dX7_move_48 : decode cX7_move 48 = .ok (.bipush 60, 2) := by decide +kernel
theorem dX7_move_50 : decode cX7_move 50 = .ok (.if_icmp .lt 6, 3) := by decide +kernel
theorem dX7_move_53 : decode cX7_move 53 = .ok (.bipush (-104), 2) := by decide +kernel
theorem dX7_move_55 : decode cX7_move 55 = .ok (.ireturn, 1) := by decide +kernel
theorem dX7_move_56 : decode cX7_move 56 = .ok (.aload_n 0, 1) := by decide +kernel
theorem dX7_move_57 : decode cX7_move 57 = .ok (.getfield 29, 3) := by decide +kernel
theorem dX7_move_60 : decode cX7_move 60 = .ok (.iload_n 1, 1) := by decide +kernel
theorem dX7_move_61 : decode cX7_move 61 = .ok (.iload_n 2, 1) := by decide +kernel
theorem dX7_move_62 : decode cX7_move 62 = .ok (.invokevirtual 166, 3) := by decide +kernel
theorem dX7_move_65 : decode cX7_move 65 = .ok (.aload_n 0, 1) := by decide +kernel
theorem dX7_move_66 : decode cX7_move 66 = .ok (.getfield 29, 3) := by decide +kernel
theorem dX7_move_69 : decode cX7_move 69 = .ok (.getfield 165, 3) := by decide +kernel
theorem dX7_move_72 : decode cX7_move 72 = .ok (.ireturn, 1) := by decide +kernel
theorem dX7_back_0 : decode cX7_back 0 = .ok (.aload_n 0, 1) := by decide +kernel
theorem dX7_back_1 : decode cX7_back 1 = .ok (.getfield 29, 3) := by decide +kernel
theorem dX7_back_4 : decode cX7_back 4 = .ok (.getfield 165, 3) := by decide +kernel
theorem dX7_back_7 : decode cX7_back 7 = .ok (.ifCond .ne 8, 3) := by decide +kernel
theorem dX7_back_10 : decode cX7_back 10 = .ok (.bipush (-103), 2) := by decide +kernel
theorem dX7_back_12 : decode cX7_back 12 = .ok (.goto 10, 3) := by decide +kernel
theorem dX7_back_15 : decode cX7_back 15 = .ok (.aload_n 0, 1) := by decide +kernel
theorem dX7_back_16 : decode cX7_back 16 = .ok (.getfield 29, 3) := by decide +kernel
theorem dX7_back_19 : decode cX7_back 19 = .ok (.invokevirtual 169, 3) := by decide +kernel
theorem dX7_back_22 : decode cX7_back 22 = .ok (.ireturn, 1) := by decide +kernel
theorem dX7_fewest_0 : decode cX7_fewest 0 = .ok (.iload_n 1, 1) := by decide +kernel
theorem dX7_fewest_1 : decode cX7_fewest 1 = .ok (.ifCond .lt 8, 3) := by decide +kernel
theorem dX7_fewest_4 : decode cX7_fewest 4 = .ok (.iload_n 1, 1) := by decide +kernel
theorem dX7_fewest_5 : decode cX7_fewest 5 = .ok (.iconst 2, 1) := by decide +kernel
theorem dX7_fewest_6 : decode cX7_fewest 6 = .ok (.if_icmp .le 6, 3) := by decide +kernel
theorem dX7_fewest_9 : decode cX7_fewest 9 = .ok (.bipush (-102), 2) := by decide +kernel
theorem dX7_fewest_11 : decode cX7_fewest 11 = .ok (.ireturn, 1) := by decide +kernel
theorem dX7_fewest_12 : decode cX7_fewest 12 = .ok (.aload_n 0, 1) := by decide +kernel
theorem dX7_fewest_13 : decode cX7_fewest 13 = .ok (.invokevirtual 172, 3) := by decide +kernel
theorem dX7_fewest_16 : decode cX7_fewest 16 = .ok (.ifCond .ne 6, 3) := by decide +kernel
theorem dX7_fewest_19 : decode cX7_fewest 19 = .ok (.bipush (-103), 2) := by decide +kernel
theorem dX7_fewest_21 : decode cX7_fewest 21 = .ok (.ireturn, 1) := by decide +kernel
theorem dX7_fewest_22 : decode cX7_fewest 22 = .ok (.iload_n 1, 1) := by decide +kernel
theorem dX7_fewest_23 : decode cX7_fewest 23 = .ok (.ifCond .ne 18, 3) := by decide +kernel
theorem dX7_fewest_26 : decode cX7_fewest 26 = .ok (.aload_n 0, 1) := by decide +kernel
theorem dX7_fewest_27 : decode cX7_fewest 27 = .ok (.getfield 39, 3) := by decide +kernel
theorem dX7_fewest_30 : decode cX7_fewest 30 = .ok (.aload_n 0, 1) := by decide +kernel
theorem dX7_fewest_31 : decode cX7_fewest 31 = .ok (.getfield 29, 3) := by decide +kernel
theorem dX7_fewest_34 : decode cX7_fewest 34 = .ok (.getfield 132, 3) := by decide +kernel
theorem dX7_fewest_37 : decode cX7_fewest 37 = .ok (.invokevirtual 175, 3) := by decide +kernel
theorem dX7_fewest_40 : decode cX7_fewest 40 = .ok (.ireturn, 1) := by decide +kernel
theorem dX7_fewest_41 : decode cX7_fewest 41 = .ok (.aload_n 0, 1) := by decide +kernel
theorem dX7_fewest_42 : decode cX7_fewest 42 = .ok (.invokevirtual 178, 3) := by decide +kernel
theorem dX7_fewest_45 : decode cX7_fewest 45 = .ok (.iload_n 1, 1) := by decide +kernel
theorem dX7_fewest_46 : decode cX7_fewest 46 = .ok (.iconst 1, 1) := by decide +kernel
theorem dX7_fewest_47 : decode cX7_fewest 47 = .ok (.isub, 1) := by decide +kernel
theorem dX7_fewest_48 : decode cX7_fewest 48 = .ok (.invokestatic 181, 3) := by decide +kernel
theorem dX7_fewest_51 : decode cX7_fewest 51 = .ok (.ireturn, 1) := by decide +kernel
theorem dX7_ways_0 : decode cX7_ways 0 = .ok (.aload_n 0, 1) := by decide +kernel
theorem dX7_ways_1 : decode cX7_ways 1 = .ok (.invokevirtual 172, 3) := by decide +kernel
theorem dX7_ways_4 : decode cX7_ways 4 = .ok (.ifCond .eq 20, 3) := by decide +kernel
theorem dX7_ways_7 : decode cX7_ways 7 = .ok (.aload_n 0, 1) := by decide +kernel
theorem dX7_ways_8 : decode cX7_ways 8 = .ok (.getfield 39, 3) := by decide +kernel
theorem dX7_ways_11 : decode cX7_ways 11 = .ok (.aload_n 0, 1) := by decide +kernel
theorem dX7_ways_12 : decode cX7_ways 12 = .ok (.getfield 29, 3) := by decide +kernel
theorem dX7_ways_15 : decode cX7_ways 15 = .ok (.getfield 132, 3) := by decide +kernel
theorem dX7_ways_18 : decode cX7_ways 18 = .ok (.invokevirtual 184, 3) := by decide +kernel
theorem dX7_ways_21 : decode cX7_ways 21 = .ok (.goto 5, 3) := by decide +kernel
theorem dX7_ways_24 : decode cX7_ways 24 = .ok (.bipush (-103), 2) := by decide +kernel
theorem dX7_ways_26 : decode cX7_ways 26 = .ok (.ireturn, 1) := by decide +kernel
theorem dX7_wrong_0 : decode cX7_wrong 0 = .ok (.aload_n 0, 1) := by decide +kernel
theorem dX7_wrong_1 : decode cX7_wrong 1 = .ok (.invokevirtual 172, 3) := by decide +kernel
theorem dX7_wrong_4 : decode cX7_wrong 4 = .ok (.ifCond .eq 10, 3) := by decide +kernel
theorem dX7_wrong_7 : decode cX7_wrong 7 = .ok (.aload_n 0, 1) := by decide +kernel
theorem dX7_wrong_8 : decode cX7_wrong 8 = .ok (.invokevirtual 187, 3) := by decide +kernel
theorem dX7_wrong_11 : decode cX7_wrong 11 = .ok (.goto 5, 3) := by decide +kernel
theorem dX7_wrong_14 : decode cX7_wrong 14 = .ok (.bipush (-103), 2) := by decide +kernel
theorem dX7_wrong_16 : decode cX7_wrong 16 = .ok (.ireturn, 1) := by decide +kernel
theorem dX7_ends_0 : decode cX7_ends 0 = .ok (.aload_n 0, 1) := by decide +kernel
theorem dX7_ends_1 : decode cX7_ends 1 = .ok (.invokevirtual 172, 3) := by decide +kernel
theorem dX7_ends_4 : decode cX7_ends 4 = .ok (.ifCond .ne 6, 3) := by decide +kernel
theorem dX7_ends_7 : decode cX7_ends 7 = .ok (.bipush (-103), 2) := by decide +kernel
theorem dX7_ends_9 : decode cX7_ends 9 = .ok (.ireturn, 1) := by decide +kernel
theorem dX7_ends_10 : decode cX7_ends 10 = .ok (.aload_n 0, 1) := by decide +kernel
theorem dX7_ends_11 : decode cX7_ends 11 = .ok (.getfield 43, 3) := by decide +kernel
theorem dX7_ends_14 : decode cX7_ends 14 = .ok (.aload_n 0, 1) := by decide +kernel
theorem dX7_ends_15 : decode cX7_ends 15 = .ok (.getfield 19, 3) := by decide +kernel
theorem dX7_ends_18 : decode cX7_ends 18 = .ok (.aload_n 0, 1) := by decide +kernel
theorem dX7_ends_19 : decode cX7_ends 19 = .ok (.getfield 29, 3) := by decide +kernel
theorem dX7_ends_22 : decode cX7_ends 22 = .ok (.getfield 132, 3) := by decide +kernel
theorem dX7_ends_25 : decode cX7_ends 25 = .ok (.iconst 1, 1) := by decide +kernel
theorem dX7_ends_26 : decode cX7_ends 26 = .ok (.iconst (-1), 1) := by decide +kernel
theorem dX7_ends_27 : decode cX7_ends 27 = .ok (.invokevirtual 114, 3) := by decide +kernel
theorem dX7_ends_30 : decode cX7_ends 30 = .ok (.pop, 1) := by decide +kernel
theorem dX7_ends_31 : decode cX7_ends 31 = .ok (.aload_n 0, 1) := by decide +kernel
theorem dX7_ends_32 : decode cX7_ends 32 = .ok (.getfield 43, 3) := by decide +kernel
theorem dX7_ends_35 : decode cX7_ends 35 = .ok (.getfield 190, 3) := by decide +kernel
theorem dX7_ends_38 : decode cX7_ends 38 = .ok (.ireturn, 1) := by decide +kernel
theorem dX7_soon_0 : decode cX7_soon 0 = .ok (.aload_n 0, 1) := by decide +kernel
theorem dX7_soon_1 : decode cX7_soon 1 = .ok (.invokevirtual 172, 3) := by decide +kernel
theorem dX7_soon_4 : decode cX7_soon 4 = .ok (.ifCond .ne 6, 3) := by decide +kernel
theorem dX7_soon_7 : decode cX7_soon 7 = .ok (.bipush (-103), 2) := by decide +kernel
theorem dX7_soon_9 : decode cX7_soon 9 = .ok (.ireturn, 1) := by decide +kernel
theorem dX7_soon_10 : decode cX7_soon 10 = .ok (.aload_n 0, 1) := by decide +kernel
theorem dX7_soon_11 : decode cX7_soon 11 = .ok (.getfield 43, 3) := by decide +kernel
theorem dX7_soon_14 : decode cX7_soon 14 = .ok (.aload_n 0, 1) := by decide +kernel
theorem dX7_soon_15 : decode cX7_soon 15 = .ok (.getfield 19, 3) := by decide +kernel
theorem dX7_soon_18 : decode cX7_soon 18 = .ok (.aload_n 0, 1) := by decide +kernel
theorem dX7_soon_19 : decode cX7_soon 19 = .ok (.getfield 29, 3) := by decide +kernel
theorem dX7_soon_22 : decode cX7_soon 22 = .ok (.getfield 132, 3) := by decide +kernel
theorem dX7_soon_25 : decode cX7_soon 25 = .ok (.iconst 1, 1) := by decide +kernel
theorem dX7_soon_26 : decode cX7_soon 26 = .ok (.iconst (-1), 1) := by decide +kernel
theorem dX7_soon_27 : decode cX7_soon 27 = .ok (.invokevirtual 114, 3) := by decide +kernel
theorem dX7_soon_30 : decode cX7_soon 30 = .ok (.pop, 1) := by decide +kernel
theorem dX7_soon_31 : decode cX7_soon 31 = .ok (.aload_n 0, 1) := by decide +kernel
theorem dX7_soon_32 : decode cX7_soon 32 = .ok (.getfield 43, 3) := by decide +kernel
theorem dX7_soon_35 : decode cX7_soon 35 = .ok (.getfield 193, 3) := by decide +kernel
theorem dX7_soon_38 : decode cX7_soon 38 = .ok (.ireturn, 1) := by decide +kernel
theorem dX7_comes_0 : decode cX7_comes 0 = .ok (.aload_n 0, 1) := by decide +kernel
theorem dX7_comes_1 : decode cX7_comes 1 = .ok (.invokevirtual 172, 3) := by decide +kernel
theorem dX7_comes_4 : decode cX7_comes 4 = .ok (.ifCond .eq 20, 3) := by decide +kernel
theorem dX7_comes_7 : decode cX7_comes 7 = .ok (.aload_n 0, 1) := by decide +kernel
theorem dX7_comes_8 : decode cX7_comes 8 = .ok (.getfield 10, 3) := by decide +kernel
theorem dX7_comes_11 : decode cX7_comes 11 = .ok (.aload_n 0, 1) := by decide +kernel
theorem dX7_comes_12 : decode cX7_comes 12 = .ok (.getfield 19, 3) := by decide +kernel
theorem dX7_comes_15 : decode cX7_comes 15 = .ok (.getfield 89, 3) := by decide +kernel
theorem dX7_comes_18 : decode cX7_comes 18 = .ok (.invokevirtual 196, 3) := by decide +kernel
theorem dX7_comes_21 : decode cX7_comes 21 = .ok (.ifCond .ne 6, 3) := by decide +kernel
theorem dX7_comes_24 : decode cX7_comes 24 = .ok (.bipush (-103), 2) := by decide +kernel
theorem dX7_comes_26 : decode cX7_comes 26 = .ok (.ireturn, 1) := by decide +kernel
theorem dX7_comes_27 : decode cX7_comes 27 = .ok (.aload_n 0, 1) := by decide +kernel
theorem dX7_comes_28 : decode cX7_comes 28 = .ok (.getfield 43, 3) := by decide +kernel
theorem dX7_comes_31 : decode cX7_comes 31 = .ok (.aload_n 0, 1) := by decide +kernel
theorem dX7_comes_32 : decode cX7_comes 32 = .ok (.getfield 19, 3) := by decide +kernel
theorem dX7_comes_35 : decode cX7_comes 35 = .ok (.aload_n 0, 1) := by decide +kernel
theorem dX7_comes_36 : decode cX7_comes 36 = .ok (.getfield 29, 3) := by decide +kernel
theorem dX7_comes_39 : decode cX7_comes 39 = .ok (.getfield 132, 3) := by decide +kernel
theorem dX7_comes_42 : decode cX7_comes 42 = .ok (.iconst 1, 1) := by decide +kernel
theorem dX7_comes_43 : decode cX7_comes 43 = .ok (.aload_n 0, 1) := by decide +kernel
theorem dX7_comes_44 : decode cX7_comes 44 = .ok (.getfield 10, 3) := by decide +kernel
theorem dX7_comes_47 : decode cX7_comes 47 = .ok (.invokevirtual 83, 3) := by decide +kernel
theorem dX7_comes_50 : decode cX7_comes 50 = .ok (.invokevirtual 114, 3) := by decide +kernel
theorem dX7_comes_53 : decode cX7_comes 53 = .ok (.ireturn, 1) := by decide +kernel
theorem dX7_more_0 : decode cX7_more 0 = .ok (.iload_n 1, 1) := by decide +kernel
theorem dX7_more_1 : decode cX7_more 1 = .ok (.ifCond .lt 8, 3) := by decide +kernel
theorem dX7_more_4 : decode cX7_more 4 = .ok (.iload_n 1, 1) := by decide +kernel
theorem dX7_more_5 : decode cX7_more 5 = .ok (.iconst 1, 1) := by decide +kernel
theorem dX7_more_6 : decode cX7_more 6 = .ok (.if_icmp .le 6, 3) := by decide +kernel
theorem dX7_more_9 : decode cX7_more 9 = .ok (.bipush (-102), 2) := by decide +kernel
theorem dX7_more_11 : decode cX7_more 11 = .ok (.ireturn, 1) := by decide +kernel
theorem dX7_more_12 : decode cX7_more 12 = .ok (.aload_n 0, 1) := by decide +kernel
theorem dX7_more_13 : decode cX7_more 13 = .ok (.invokevirtual 172, 3) := by decide +kernel
theorem dX7_more_16 : decode cX7_more 16 = .ok (.ifCond .eq 15, 3) := by decide +kernel
theorem dX7_more_19 : decode cX7_more 19 = .ok (.aload_n 0, 1) := by decide +kernel
theorem dX7_more_20 : decode cX7_more 20 = .ok (.getfield 19, 3) := by decide +kernel
theorem dX7_more_23 : decode cX7_more 23 = .ok (.getfield 89, 3) := by decide +kernel
theorem dX7_more_26 : decode cX7_more 26 = .ok (.bipush 7, 2) := by decide +kernel
theorem dX7_more_28 : decode cX7_more 28 = .ok (.if_icmp .lt 6, 3) := by decide +kernel
theorem dX7_more_31 : decode cX7_more 31 = .ok (.bipush (-103), 2) := by decide +kernel
theorem dX7_more_33 : decode cX7_more 33 = .ok (.ireturn, 1) := by decide +kernel
theorem dX7_more_34 : decode cX7_more 34 = .ok (.aload_n 0, 1) := by decide +kernel
theorem dX7_more_35 : decode cX7_more 35 = .ok (.getfield 23, 3) := by decide +kernel
theorem dX7_more_38 : decode cX7_more 38 = .ok (.aload_n 0, 1) := by decide +kernel
theorem dX7_more_39 : decode cX7_more 39 = .ok (.getfield 19, 3) := by decide +kernel
theorem dX7_more_42 : decode cX7_more 42 = .ok (.getfield 89, 3) := by decide +kernel
theorem dX7_more_45 : decode cX7_more 45 = .ok (.iconst 1, 1) := by decide +kernel
theorem dX7_more_46 : decode cX7_more 46 = .ok (.iadd, 1) := by decide +kernel
theorem dX7_more_47 : decode cX7_more 47 = .ok (.aload_n 0, 1) := by decide +kernel
theorem dX7_more_48 : decode cX7_more 48 = .ok (.getfield 19, 3) := by decide +kernel
theorem dX7_more_51 : decode cX7_more 51 = .ok (.getfield 199, 3) := by decide +kernel
theorem dX7_more_54 : decode cX7_more 54 = .ok (.invokevirtual 79, 3) := by decide +kernel
theorem dX7_more_57 : decode cX7_more 57 = .ok (.iconst (-1), 1) := by decide +kernel
theorem dX7_more_58 : decode cX7_more 58 = .ok (.istore_n 2, 1) := by decide +kernel
theorem dX7_more_59 : decode cX7_more 59 = .ok (.iconst (-1), 1) := by decide +kernel
theorem dX7_more_60 : decode cX7_more 60 = .ok (.istore_n 3, 1) := by decide +kernel
theorem dX7_more_61 : decode cX7_more 61 = .ok (.iconst 0, 1) := by decide +kernel
theorem dX7_more_62 : decode cX7_more 62 = .ok (.istore 4, 2) := by decide +kernel
theorem dX7_more_64 : decode cX7_more 64 = .ok (.iload 4, 2) := by decide +kernel
theorem dX7_more_66 : decode cX7_more 66 = .ok (.aload_n 0, 1) := by decide +kernel
theorem dX7_more_67 : decode cX7_more 67 = .ok (.getfield 19, 3) := by decide +kernel
theorem dX7_more_70 : decode cX7_more 70 = .ok (.getfield 89, 3) := by decide +kernel
theorem dX7_more_73 : decode cX7_more 73 = .ok (.if_icmp .gt 43, 3) := by decide +kernel
theorem dX7_more_76 : decode cX7_more 76 = .ok (.aload_n 0, 1) := by decide +kernel
theorem dX7_more_77 : decode cX7_more 77 = .ok (.aload_n 0, 1) := by decide +kernel
theorem dX7_more_78 : decode cX7_more 78 = .ok (.getfield 23, 3) := by decide +kernel
theorem dX7_more_81 : decode cX7_more 81 = .ok (.aload_n 0, 1) := by decide +kernel
theorem dX7_more_82 : decode cX7_more 82 = .ok (.getfield 86, 3) := by decide +kernel
theorem dX7_more_85 : decode cX7_more 85 = .ok (.iload 4, 2) := by decide +kernel
theorem dX7_more_87 : decode cX7_more 87 = .ok (.invokestatic 201, 3) := by decide +kernel
theorem dX7_more_90 : decode cX7_more 90 = .ok (.invokevirtual 204, 3) := by decide +kernel
theorem dX7_more_93 : decode cX7_more 93 = .ok (.istore 5, 2) := by decide +kernel
theorem dX7_more_95 : decode cX7_more 95 = .ok (.iload 5, 2) := by decide +kernel
theorem dX7_more_97 : decode cX7_more 97 = .ok (.iload_n 3, 1) := by decide +kernel
theorem dX7_more_98 : decode cX7_more 98 = .ok (.invokestatic 208, 3) := by decide +kernel
theorem dX7_more_101 : decode cX7_more 101 = .ok (.ifCond .eq 9, 3) := by decide +kernel
theorem dX7_more_104 : decode cX7_more 104 = .ok (.iload 4, 2) := by decide +kernel
theorem dX7_more_106 : decode cX7_more 106 = .ok (.istore_n 2, 1) := by decide +kernel
theorem dX7_more_107 : decode cX7_more 107 = .ok (.iload 5, 2) := by decide +kernel
theorem dX7_more_109 : decode cX7_more 109 = .ok (.istore_n 3, 1) := by decide +kernel
theorem dX7_more_110 : decode cX7_more 110 = .ok (.iinc 4 1, 3) := by decide +kernel
theorem dX7_more_113 : decode cX7_more 113 = .ok (.goto (-49), 3) := by decide +kernel
theorem dX7_more_116 : decode cX7_more 116 = .ok (.iload_n 1, 1) := by decide +kernel
theorem dX7_more_117 : decode cX7_more 117 = .ok (.ifCond .ne 7, 3) := by decide +kernel
theorem dX7_more_120 : decode cX7_more 120 = .ok (.iload_n 2, 1) := by decide +kernel
theorem dX7_more_121 : decode cX7_more 121 = .ok (.goto 4, 3) := by decide +kernel
theorem dX7_more_124 : decode cX7_more 124 = .ok (.iload_n 3, 1) := by decide +kernel
theorem dX7_more_125 : decode cX7_more 125 = .ok (.ireturn, 1) := by decide +kernel
theorem dX7_off_0 : decode cX7_off 0 = .ok (.iload_n 1, 1) := by decide +kernel
theorem dX7_off_1 : decode cX7_off 1 = .ok (.ifCond .lt 8, 3) := by decide +kernel
theorem dX7_off_4 : decode cX7_off 4 = .ok (.iload_n 1, 1) := by decide +kernel
theorem dX7_off_5 : decode cX7_off 5 = .ok (.iconst 1, 1) := by decide +kernel
theorem dX7_off_6 : decode cX7_off 6 = .ok (.if_icmp .le 6, 3) := by decide +kernel
theorem dX7_off_9 : decode cX7_off 9 = .ok (.bipush (-102), 2) := by decide +kernel
theorem dX7_off_11 : decode cX7_off 11 = .ok (.ireturn, 1) := by decide +kernel
theorem dX7_off_12 : decode cX7_off 12 = .ok (.aload_n 0, 1) := by decide +kernel
theorem dX7_off_13 : decode cX7_off 13 = .ok (.invokevirtual 172, 3) := by decide +kernel
theorem dX7_off_16 : decode cX7_off 16 = .ok (.ifCond .ne 6, 3) := by decide +kernel
theorem dX7_off_19 : decode cX7_off 19 = .ok (.bipush (-103), 2) := by decide +kernel
theorem dX7_off_21 : decode cX7_off 21 = .ok (.ireturn, 1) := by decide +kernel
theorem dX7_off_22 : decode cX7_off 22 = .ok (.aload_n 0, 1) := by decide +kernel
theorem dX7_off_23 : decode cX7_off 23 = .ok (.getfield 86, 3) := by decide +kernel
theorem dX7_off_26 : decode cX7_off 26 = .ok (.invokestatic 107, 3) := by decide +kernel
theorem dX7_off_29 : decode cX7_off 29 = .ok (.istore_n 2, 1) := by decide +kernel
theorem dX7_off_30 : decode cX7_off 30 = .ok (.iconst (-1), 1) := by decide +kernel
theorem dX7_off_31 : decode cX7_off 31 = .ok (.istore_n 3, 1) := by decide +kernel
theorem dX7_off_32 : decode cX7_off 32 = .ok (.iconst (-1), 1) := by decide +kernel
theorem dX7_off_33 : decode cX7_off 33 = .ok (.istore 4, 2) := by decide +kernel
theorem dX7_off_35 : decode cX7_off 35 = .ok (.iconst 0, 1) := by decide +kernel
theorem dX7_off_36 : decode cX7_off 36 = .ok (.istore 5, 2) := by decide +kernel
theorem dX7_off_38 : decode cX7_off 38 = .ok (.iload 5, 2) := by decide +kernel
theorem dX7_off_40 : decode cX7_off 40 = .ok (.aload_n 0, 1) := by decide +kernel
theorem dX7_off_41 : decode cX7_off 41 = .ok (.getfield 19, 3) := by decide +kernel
theorem dX7_off_44 : decode cX7_off 44 = .ok (.getfield 89, 3) := by decide +kernel
theorem dX7_off_47 : decode cX7_off 47 = .ok (.if_icmp .ge 64, 3) := by decide +kernel
theorem dX7_off_50 : decode cX7_off 50 = .ok (.iload_n 2, 1) := by decide +kernel
theorem dX7_off_51 : decode cX7_off 51 = .ok (.iload 5, 2) := by decide +kernel
theorem dX7_off_53 : decode cX7_off 53 = .ok (.invokestatic 134, 3) := by decide +kernel
theorem dX7_off_56 : decode cX7_off 56 = .ok (.iconst 1, 1) := by decide +kernel
theorem dX7_off_57 : decode cX7_off 57 = .ok (.isub, 1) := by decide +kernel
theorem dX7_off_58 : decode cX7_off 58 = .ok (.istore 6, 2) := by decide +kernel
theorem dX7_off_60 : decode cX7_off 60 = .ok (.iload 6, 2) := by decide +kernel
theorem dX7_off_62 : decode cX7_off 62 = .ok (.iconst (-1), 1) := by decide +kernel
theorem dX7_off_63 : decode cX7_off 63 = .ok (.if_icmp .ne 6, 3) := by decide +kernel
theorem dX7_off_66 : decode cX7_off 66 = .ok (.goto 39, 3) := by decide +kernel
theorem dX7_off_69 : decode cX7_off 69 = .ok (.aload_n 0, 1) := by decide +kernel
theorem dX7_off_70 : decode cX7_off 70 = .ok (.aload_n 0, 1) := by decide +kernel
theorem dX7_off_71 : decode cX7_off 71 = .ok (.getfield 19, 3) := by decide +kernel
theorem dX7_off_74 : decode cX7_off 74 = .ok (.aload_n 0, 1) := by decide +kernel
theorem dX7_off_75 : decode cX7_off 75 = .ok (.getfield 86, 3) := by decide +kernel
theorem dX7_off_78 : decode cX7_off 78 = .ok (.iload 5, 2) := by decide +kernel
theorem dX7_off_80 : decode cX7_off 80 = .ok (.invokestatic 212, 3) := by decide +kernel
theorem dX7_off_83 : decode cX7_off 83 = .ok (.invokevirtual 204, 3) := by decide +kernel
theorem dX7_off_86 : decode cX7_off 86 = .ok (.istore 7, 2) := by decide +kernel
theorem dX7_off_88 : decode cX7_off 88 = .ok (.iload 7, 2) := by decide +kernel
theorem dX7_off_90 : decode cX7_off 90 = .ok (.iload 4, 2) := by decide +kernel
theorem dX7_off_92 : decode cX7_off 92 = .ok (.invokestatic 208, 3) := by decide +kernel
theorem dX7_off_95 : decode cX7_off 95 = .ok (.ifCond .eq 10, 3) := by decide +kernel
theorem dX7_off_98 : decode cX7_off 98 = .ok (.iload 6, 2) := by decide +kernel
theorem dX7_off_100 : decode cX7_off 100 = .ok (.istore_n 3, 1) := by decide +kernel
theorem dX7_off_101 : decode cX7_off 101 = .ok (.iload 7, 2) := by decide +kernel
theorem dX7_off_103 : decode cX7_off 103 = .ok (.istore 4, 2) := by decide +kernel
theorem dX7_off_105 : decode cX7_off 105 = .ok (.iinc 5 1, 3) := by decide +kernel
theorem dX7_off_108 : decode cX7_off 108 = .ok (.goto (-70), 3) := by decide +kernel
theorem dX7_off_111 : decode cX7_off 111 = .ok (.iload_n 1, 1) := by decide +kernel
theorem dX7_off_112 : decode cX7_off 112 = .ok (.ifCond .ne 7, 3) := by decide +kernel
theorem dX7_off_115 : decode cX7_off 115 = .ok (.iload_n 3, 1) := by decide +kernel
theorem dX7_off_116 : decode cX7_off 116 = .ok (.goto 5, 3) := by decide +kernel
theorem dX7_off_119 : decode cX7_off 119 = .ok (.iload 4, 2) := by decide +kernel
theorem dX7_off_121 : decode cX7_off 121 = .ok (.ireturn, 1) := by decide +kernel
theorem dX7_wins_0 : decode cX7_wins 0 = .ok (.iload_n 1, 1) := by decide +kernel
theorem dX7_wins_1 : decode cX7_wins 1 = .ok (.ifCond .lt 8, 3) := by decide +kernel
theorem dX7_wins_4 : decode cX7_wins 4 = .ok (.iload_n 1, 1) := by decide +kernel
theorem dX7_wins_5 : decode cX7_wins 5 = .ok (.iconst 1, 1) := by decide +kernel
theorem dX7_wins_6 : decode cX7_wins 6 = .ok (.if_icmp .le 6, 3) := by decide +kernel
theorem dX7_wins_9 : decode cX7_wins 9 = .ok (.bipush (-102), 2) := by decide +kernel
theorem dX7_wins_11 : decode cX7_wins 11 = .ok (.ireturn, 1) := by decide +kernel
theorem dX7_wins_12 : decode cX7_wins 12 = .ok (.aload_n 0, 1) := by decide +kernel
theorem dX7_wins_13 : decode cX7_wins 13 = .ok (.invokevirtual 215, 3) := by decide +kernel
theorem dX7_wins_16 : decode cX7_wins 16 = .ok (.ifCond .ne 6, 3) := by decide +kernel
theorem dX7_wins_19 : decode cX7_wins 19 = .ok (.bipush (-103), 2) := by decide +kernel
theorem dX7_wins_21 : decode cX7_wins 21 = .ok (.ireturn, 1) := by decide +kernel
theorem dX7_wins_22 : decode cX7_wins 22 = .ok (.aload_n 0, 1) := by decide +kernel
theorem dX7_wins_23 : decode cX7_wins 23 = .ok (.getfield 49, 3) := by decide +kernel
theorem dX7_wins_26 : decode cX7_wins 26 = .ok (.aload_n 0, 1) := by decide +kernel
theorem dX7_wins_27 : decode cX7_wins 27 = .ok (.getfield 19, 3) := by decide +kernel
theorem dX7_wins_30 : decode cX7_wins 30 = .ok (.aload_n 0, 1) := by decide +kernel
theorem dX7_wins_31 : decode cX7_wins 31 = .ok (.getfield 29, 3) := by decide +kernel
theorem dX7_wins_34 : decode cX7_wins 34 = .ok (.getfield 132, 3) := by decide +kernel
theorem dX7_wins_37 : decode cX7_wins 37 = .ok (.iload_n 1, 1) := by decide +kernel
theorem dX7_wins_38 : decode cX7_wins 38 = .ok (.iconst 0, 1) := by decide +kernel
theorem dX7_wins_39 : decode cX7_wins 39 = .ok (.invokevirtual 218, 3) := by decide +kernel
theorem dX7_wins_42 : decode cX7_wins 42 = .ok (.ifCond .eq 7, 3) := by decide +kernel
theorem dX7_wins_45 : decode cX7_wins 45 = .ok (.iconst 1, 1) := by decide +kernel
theorem dX7_wins_46 : decode cX7_wins 46 = .ok (.goto 4, 3) := by decide +kernel
theorem dX7_wins_49 : decode cX7_wins 49 = .ok (.iconst 0, 1) := by decide +kernel
theorem dX7_wins_50 : decode cX7_wins 50 = .ok (.ireturn, 1) := by decide +kernel
theorem dX7_by_0 : decode cX7_by 0 = .ok (.iload_n 1, 1) := by decide +kernel
theorem dX7_by_1 : decode cX7_by 1 = .ok (.ifCond .lt 17, 3) := by decide +kernel
theorem dX7_by_4 : decode cX7_by 4 = .ok (.iload_n 1, 1) := by decide +kernel
theorem dX7_by_5 : decode cX7_by 5 = .ok (.iconst 1, 1) := by decide +kernel
theorem dX7_by_6 : decode cX7_by 6 = .ok (.if_icmp .gt 12, 3) := by decide +kernel
theorem dX7_by_9 : decode cX7_by 9 = .ok (.iload_n 2, 1) := by decide +kernel
theorem dX7_by_10 : decode cX7_by 10 = .ok (.ifCond .lt 8, 3) := by decide +kernel
theorem dX7_by_13 : decode cX7_by 13 = .ok (.iload_n 2, 1) := by decide +kernel
theorem dX7_by_14 : decode cX7_by 14 = .ok (.iconst 1, 1) := by decide +kernel
theorem dX7_by_15 : decode cX7_by 15 = .ok (.if_icmp .le 6, 3) := by decide +kernel
theorem dX7_by_18 : decode cX7_by 18 = .ok (.bipush (-102), 2) := by decide +kernel
theorem dX7_by_20 : decode cX7_by 20 = .ok (.ireturn, 1) := by decide +kernel
theorem dX7_by_21 : decode cX7_by 21 = .ok (.aload_n 0, 1) := by decide +kernel
theorem dX7_by_22 : decode cX7_by 22 = .ok (.invokevirtual 215, 3) := by decide +kernel
theorem dX7_by_25 : decode cX7_by 25 = .ok (.ifCond .ne 6, 3) := by decide +kernel
theorem dX7_by_28 : decode cX7_by 28 = .ok (.bipush (-103), 2) := by decide +kernel
theorem dX7_by_30 : decode cX7_by 30 = .ok (.ireturn, 1) := by decide +kernel
theorem dX7_by_31 : decode cX7_by 31 = .ok (.aload_n 0, 1) := by decide +kernel
theorem dX7_by_32 : decode cX7_by 32 = .ok (.getfield 49, 3) := by decide +kernel
theorem dX7_by_35 : decode cX7_by 35 = .ok (.aload_n 0, 1) := by decide +kernel
theorem dX7_by_36 : decode cX7_by 36 = .ok (.getfield 19, 3) := by decide +kernel
theorem dX7_by_39 : decode cX7_by 39 = .ok (.aload_n 0, 1) := by decide +kernel
theorem dX7_by_40 : decode cX7_by 40 = .ok (.getfield 29, 3) := by decide +kernel
theorem dX7_by_43 : decode cX7_by 43 = .ok (.getfield 132, 3) := by decide +kernel
theorem dX7_by_46 : decode cX7_by 46 = .ok (.iload_n 1, 1) := by decide +kernel
theorem dX7_by_47 : decode cX7_by 47 = .ok (.iconst 0, 1) := by decide +kernel
theorem dX7_by_48 : decode cX7_by 48 = .ok (.invokevirtual 222, 3) := by decide +kernel
theorem dX7_by_51 : decode cX7_by 51 = .ok (.iload_n 2, 1) := by decide +kernel
theorem dX7_by_52 : decode cX7_by 52 = .ok (.invokestatic 181, 3) := by decide +kernel
theorem dX7_by_55 : decode cX7_by 55 = .ok (.ireturn, 1) := by decide +kernel
theorem dX7_play_0 : decode cX7_play 0 = .ok (.iload_n 1, 1) := by decide +kernel
theorem dX7_play_1 : decode cX7_play 1 = .ok (.iconst 1, 1) := by decide +kernel
theorem dX7_play_2 : decode cX7_play 2 = .ok (.if_icmp .lt 22, 3) := by decide +kernel
theorem dX7_play_5 : decode cX7_play 5 = .ok (.iload_n 1, 1) := by decide +kernel
theorem dX7_play_6 : decode cX7_play 6 = .ok (.bipush 60, 2) := by decide +kernel
theorem dX7_play_8 : decode cX7_play 8 = .ok (.if_icmp .gt 16, 3) := by decide +kernel
theorem dX7_play_11 : decode cX7_play 11 = .ok (.iload_n 2, 1) := by decide +kernel
theorem dX7_play_12 : decode cX7_play 12 = .ok (.ifCond .lt 12, 3) := by decide +kernel
theorem dX7_play_15 : decode cX7_play 15 = .ok (.iload_n 3, 1) := by decide +kernel
theorem dX7_play_16 : decode cX7_play 16 = .ok (.ifCond .lt 8, 3) := by decide +kernel
theorem dX7_play_19 : decode cX7_play 19 = .ok (.iload_n 3, 1) := by decide +kernel
theorem dX7_play_20 : decode cX7_play 20 = .ok (.iconst 2, 1) := by decide +kernel
theorem dX7_play_21 : decode cX7_play 21 = .ok (.if_icmp .le 6, 3) := by decide +kernel
theorem dX7_play_24 : decode cX7_play 24 = .ok (.bipush (-102), 2) := by decide +kernel
theorem dX7_play_26 : decode cX7_play 26 = .ok (.ireturn, 1) := by decide +kernel
theorem dX7_play_27 : decode cX7_play 27 = .ok (.aload_n 0, 1) := by decide +kernel
theorem dX7_play_28 : decode cX7_play 28 = .ok (.invokevirtual 172, 3) := by decide +kernel
theorem dX7_play_31 : decode cX7_play 31 = .ok (.ifCond .ne 6, 3) := by decide +kernel
theorem dX7_play_34 : decode cX7_play 34 = .ok (.bipush (-103), 2) := by decide +kernel
theorem dX7_play_36 : decode cX7_play 36 = .ok (.ireturn, 1) := by decide +kernel
theorem dX7_play_37 : decode cX7_play 37 = .ok (.aload_n 0, 1) := by decide +kernel
theorem dX7_play_38 : decode cX7_play 38 = .ok (.getfield 29, 3) := by decide +kernel
theorem dX7_play_41 : decode cX7_play 41 = .ok (.getfield 132, 3) := by decide +kernel
theorem dX7_play_44 : decode cX7_play 44 = .ok (.istore 4, 2) := by decide +kernel
theorem dX7_play_46 : decode cX7_play 46 = .ok (.iload_n 2, 1) := by decide +kernel
theorem dX7_play_47 : decode cX7_play 47 = .ok (.istore 5, 2) := by decide +kernel
theorem dX7_play_49 : decode cX7_play 49 = .ok (.iconst 0, 1) := by decide +kernel
theorem dX7_play_50 : decode cX7_play 50 = .ok (.istore 6, 2) := by decide +kernel
theorem dX7_play_52 : decode cX7_play 52 = .ok (.iconst 0, 1) := by decide +kernel
theorem dX7_play_53 : decode cX7_play 53 = .ok (.istore 7, 2) := by decide +kernel
theorem dX7_play_55 : decode cX7_play 55 = .ok (.iload 7, 2) := by decide +kernel
theorem dX7_play_57 : decode cX7_play 57 = .ok (.iload_n 1, 1) := by decide +kernel
theorem dX7_play_58 : decode cX7_play 58 = .ok (.if_icmp .ge 63, 3) := by decide +kernel
theorem dX7_play_61 : decode cX7_play 61 = .ok (.aload_n 0, 1) := by decide +kernel
theorem dX7_play_62 : decode cX7_play 62 = .ok (.getfield 19, 3) := by decide +kernel
theorem dX7_play_65 : decode cX7_play 65 = .ok (.iload 4, 2) := by decide +kernel
theorem dX7_play_67 : decode cX7_play 67 = .ok (.iconst 1, 1) := by decide +kernel
theorem dX7_play_68 : decode cX7_play 68 = .ok (.invokevirtual 156, 3) := by decide +kernel
theorem dX7_play_71 : decode cX7_play 71 = .ok (.lstore 8, 2) := by decide +kernel
theorem dX7_play_73 : decode cX7_play 73 = .ok (.lload 8, 2) := by decide +kernel
theorem dX7_play_75 : decode cX7_play 75 = .ok (.lconst 0, 1) := by decide +kernel
theorem dX7_play_76 : decode cX7_play 76 = .ok (.lcmp, 1) := by decide +kernel
theorem dX7_play_77 : decode cX7_play 77 = .ok (.ifCond .ne 6, 3) := by decide +kernel
theorem dX7_play_80 : decode cX7_play 80 = .ok (.goto 41, 3) := by decide +kernel
theorem dX7_play_83 : decode cX7_play 83 = .ok (.iload 5, 2) := by decide +kernel
theorem dX7_play_85 : decode cX7_play 85 = .ok (.invokestatic 225, 3) := by decide +kernel
theorem dX7_play_88 : decode cX7_play 88 = .ok (.istore 5, 2) := by decide +kernel
theorem dX7_play_90 : decode cX7_play 90 = .ok (.iload 4, 2) := by decide +kernel
theorem dX7_play_92 : decode cX7_play 92 = .ok (.lload 8, 2) := by decide +kernel
theorem dX7_play_94 : decode cX7_play 94 = .ok (.iload 5, 2) := by decide +kernel
theorem dX7_play_96 : decode cX7_play 96 = .ok (.lload 8, 2) := by decide +kernel
theorem dX7_play_98 : decode cX7_play 98 = .ok (.invokestatic 160, 3) := by decide +kernel
theorem dX7_play_101 : decode cX7_play 101 = .ok (.invokestatic 228, 3) := by decide +kernel
theorem dX7_play_104 : decode cX7_play 104 = .ok (.invokestatic 231, 3) := by decide +kernel
theorem dX7_play_107 : decode cX7_play 107 = .ok (.invokestatic 235, 3) := by decide +kernel
theorem dX7_play_110 : decode cX7_play 110 = .ok (.istore 4, 2) := by decide +kernel
theorem dX7_play_112 : decode cX7_play 112 = .ok (.iinc 6 1, 3) := by decide +kernel
theorem dX7_play_115 : decode cX7_play 115 = .ok (.iinc 7 1, 3) := by decide +kernel
theorem dX7_play_118 : decode cX7_play 118 = .ok (.goto (-63), 3) := by decide +kernel
theorem dX7_play_121 : decode cX7_play 121 = .ok (.iload_n 3, 1) := by decide +kernel
theorem dX7_play_122 : decode cX7_play 122 = .ok (.ifCond .ne 6, 3) := by decide +kernel
theorem dX7_play_125 : decode cX7_play 125 = .ok (.iload 6, 2) := by decide +kernel
theorem dX7_play_127 : decode cX7_play 127 = .ok (.ireturn, 1) := by decide +kernel
theorem dX7_play_128 : decode cX7_play 128 = .ok (.iload_n 3, 1) := by decide +kernel
theorem dX7_play_129 : decode cX7_play 129 = .ok (.iconst 2, 1) := by decide +kernel
theorem dX7_play_130 : decode cX7_play 130 = .ok (.if_icmp .ne 8, 3) := by decide +kernel
theorem dX7_play_133 : decode cX7_play 133 = .ok (.iload 5, 2) := by decide +kernel
theorem dX7_play_135 : decode cX7_play 135 = .ok (.goto 17, 3) := by decide +kernel
theorem dX7_play_138 : decode cX7_play 138 = .ok (.iload 4, 2) := by decide +kernel
theorem dX7_play_140 : decode cX7_play 140 = .ok (.aload_n 0, 1) := by decide +kernel
theorem dX7_play_141 : decode cX7_play 141 = .ok (.getfield 98, 3) := by decide +kernel
theorem dX7_play_144 : decode cX7_play 144 = .ok (.if_icmp .ne 7, 3) := by decide +kernel
theorem dX7_play_147 : decode cX7_play 147 = .ok (.iconst 1, 1) := by decide +kernel
theorem dX7_play_148 : decode cX7_play 148 = .ok (.goto 4, 3) := by decide +kernel
theorem dX7_play_151 : decode cX7_play 151 = .ok (.iconst 0, 1) := by decide +kernel
theorem dX7_play_152 : decode cX7_play 152 = .ok (.ireturn, 1) := by decide +kernel
theorem dX7_image_0 : decode cX7_image 0 = .ok (.aload_n 0, 1) := by decide +kernel
theorem dX7_image_1 : decode cX7_image 1 = .ok (.invokevirtual 172, 3) := by decide +kernel
theorem dX7_image_4 : decode cX7_image 4 = .ok (.ifCond .ne 6, 3) := by decide +kernel
theorem dX7_image_7 : decode cX7_image 7 = .ok (.bipush (-103), 2) := by decide +kernel
theorem dX7_image_9 : decode cX7_image 9 = .ok (.ireturn, 1) := by decide +kernel
theorem dX7_image_10 : decode cX7_image 10 = .ok (.aload_n 0, 1) := by decide +kernel
theorem dX7_image_11 : decode cX7_image 11 = .ok (.getfield 33, 3) := by decide +kernel
theorem dX7_image_14 : decode cX7_image 14 = .ok (.aload_n 0, 1) := by decide +kernel
theorem dX7_image_15 : decode cX7_image 15 = .ok (.getfield 29, 3) := by decide +kernel
theorem dX7_image_18 : decode cX7_image 18 = .ok (.invokevirtual 238, 3) := by decide +kernel
theorem dX7_image_21 : decode cX7_image 21 = .ok (.aload_n 0, 1) := by decide +kernel
theorem dX7_image_22 : decode cX7_image 22 = .ok (.iconst 1, 1) := by decide +kernel
theorem dX7_image_23 : decode cX7_image 23 = .ok (.putfield 121, 3) := by decide +kernel
theorem dX7_image_26 : decode cX7_image 26 = .ok (.aload_n 0, 1) := by decide +kernel
theorem dX7_image_27 : decode cX7_image 27 = .ok (.getfield 33, 3) := by decide +kernel
theorem dX7_image_30 : decode cX7_image 30 = .ok (.getfield 165, 3) := by decide +kernel
theorem dX7_image_33 : decode cX7_image 33 = .ok (.ireturn, 1) := by decide +kernel
theorem dX7_restore_0 : decode cX7_restore 0 = .ok (.aload_n 0, 1) := by decide +kernel
theorem dX7_restore_1 : decode cX7_restore 1 = .ok (.getfield 121, 3) := by decide +kernel
theorem dX7_restore_4 : decode cX7_restore 4 = .ok (.ifCond .ne 6, 3) := by decide +kernel
theorem dX7_restore_7 : decode cX7_restore 7 = .ok (.bipush (-103), 2) := by decide +kernel
theorem dX7_restore_9 : decode cX7_restore 9 = .ok (.ireturn, 1) := by decide +kernel
theorem dX7_restore_10 : decode cX7_restore 10 = .ok (.aload_n 0, 1) := by decide +kernel
theorem dX7_restore_11 : decode cX7_restore 11 = .ok (.getfield 29, 3) := by decide +kernel
theorem dX7_restore_14 : decode cX7_restore 14 = .ok (.aload_n 0, 1) := by decide +kernel
theorem dX7_restore_15 : decode cX7_restore 15 = .ok (.getfield 33, 3) := by decide +kernel
theorem dX7_restore_18 : decode cX7_restore 18 = .ok (.invokevirtual 238, 3) := by decide +kernel
theorem dX7_restore_21 : decode cX7_restore 21 = .ok (.aload_n 0, 1) := by decide +kernel
theorem dX7_restore_22 : decode cX7_restore 22 = .ok (.getfield 29, 3) := by decide +kernel
theorem dX7_restore_25 : decode cX7_restore 25 = .ok (.getfield 165, 3) := by decide +kernel
theorem dX7_restore_28 : decode cX7_restore 28 = .ok (.ireturn, 1) := by decide +kernel
theorem dX7_count_0 : decode cX7_count 0 = .ok (.iload_n 1, 1) := by decide +kernel
theorem dX7_count_1 : decode cX7_count 1 = .ok (.tableswitch 121 0 9 #[55, 63, 68, 76, 89, 89, 89, 89, 108, 116], 55) := by decide +kernel
theorem dX7_count_56 : decode cX7_count 56 = .ok (.aload_n 0, 1) := by decide +kernel
theorem dX7_count_57 : decode cX7_count 57 = .ok (.getfield 19, 3) := by decide +kernel
theorem dX7_count_60 : decode cX7_count 60 = .ok (.getfield 89, 3) := by decide +kernel
theorem dX7_count_63 : decode cX7_count 63 = .ok (.ireturn, 1) := by decide +kernel
theorem dX7_count_64 : decode cX7_count 64 = .ok (.aload_n 0, 1) := by decide +kernel
theorem dX7_count_65 : decode cX7_count 65 = .ok (.getfield 104, 3) := by decide +kernel
theorem dX7_count_68 : decode cX7_count 68 = .ok (.ireturn, 1) := by decide +kernel
theorem dX7_count_69 : decode cX7_count 69 = .ok (.aload_n 0, 1) := by decide +kernel
theorem dX7_count_70 : decode cX7_count 70 = .ok (.getfield 29, 3) := by decide +kernel
theorem dX7_count_73 : decode cX7_count 73 = .ok (.getfield 165, 3) := by decide +kernel
theorem dX7_count_76 : decode cX7_count 76 = .ok (.ireturn, 1) := by decide +kernel
theorem dX7_count_77 : decode cX7_count 77 = .ok (.aload_n 0, 1) := by decide +kernel
theorem dX7_count_78 : decode cX7_count 78 = .ok (.getfield 19, 3) := by decide +kernel
theorem dX7_count_81 : decode cX7_count 81 = .ok (.getfield 89, 3) := by decide +kernel
theorem dX7_count_84 : decode cX7_count 84 = .ok (.aload_n 0, 1) := by decide +kernel
theorem dX7_count_85 : decode cX7_count 85 = .ok (.getfield 104, 3) := by decide +kernel
theorem dX7_count_88 : decode cX7_count 88 = .ok (.isub, 1) := by decide +kernel
theorem dX7_count_89 : decode cX7_count 89 = .ok (.ireturn, 1) := by decide +kernel
theorem dX7_count_90 : decode cX7_count 90 = .ok (.aload_n 0, 1) := by decide +kernel
theorem dX7_count_91 : decode cX7_count 91 = .ok (.getfield 19, 3) := by decide +kernel
theorem dX7_count_94 : decode cX7_count 94 = .ok (.iload_n 1, 1) := by decide +kernel
theorem dX7_count_95 : decode cX7_count 95 = .ok (.iconst 4, 1) := by decide +kernel
theorem dX7_count_96 : decode cX7_count 96 = .ok (.isub, 1) := by decide +kernel
theorem dX7_count_97 : decode cX7_count 97 = .ok (.invokevirtual 242, 3) := by decide +kernel
theorem dX7_count_100 : decode cX7_count 100 = .ok (.ifCond .eq 7, 3) := by decide +kernel
theorem dX7_count_103 : decode cX7_count 103 = .ok (.iconst 1, 1) := by decide +kernel
theorem dX7_count_104 : decode cX7_count 104 = .ok (.goto 4, 3) := by decide +kernel
theorem dX7_count_107 : decode cX7_count 107 = .ok (.iconst 0, 1) := by decide +kernel
theorem dX7_count_108 : decode cX7_count 108 = .ok (.ireturn, 1) := by decide +kernel
theorem dX7_count_109 : decode cX7_count 109 = .ok (.aload_n 0, 1) := by decide +kernel
theorem dX7_count_110 : decode cX7_count 110 = .ok (.getfield 10, 3) := by decide +kernel
theorem dX7_count_113 : decode cX7_count 113 = .ok (.getfield 57, 3) := by decide +kernel
theorem dX7_count_116 : decode cX7_count 116 = .ok (.ireturn, 1) := by decide +kernel
theorem dX7_count_117 : decode cX7_count 117 = .ok (.aload_n 0, 1) := by decide +kernel
theorem dX7_count_118 : decode cX7_count 118 = .ok (.getfield 125, 3) := by decide +kernel
theorem dX7_count_121 : decode cX7_count 121 = .ok (.ireturn, 1) := by decide +kernel
theorem dX7_count_122 : decode cX7_count 122 = .ok (.bipush (-102), 2) := by decide +kernel
theorem dX7_count_124 : decode cX7_count 124 = .ok (.ireturn, 1) := by decide +kernel
theorem dX7_digest_0 : decode cX7_digest 0 = .ok (.ldc2_w 245, 3) := by decide +kernel
theorem dX7_digest_3 : decode cX7_digest 3 = .ok (.lstore_n 1, 1) := by decide +kernel
theorem dX7_digest_4 : decode cX7_digest 4 = .ok (.iconst 0, 1) := by decide +kernel
theorem dX7_digest_5 : decode cX7_digest 5 = .ok (.istore_n 3, 1) := by decide +kernel
theorem dX7_digest_6 : decode cX7_digest 6 = .ok (.iload_n 3, 1) := by decide +kernel
theorem dX7_digest_7 : decode cX7_digest 7 = .ok (.aload_n 0, 1) := by decide +kernel
theorem dX7_digest_8 : decode cX7_digest 8 = .ok (.getfield 19, 3) := by decide +kernel
theorem dX7_digest_11 : decode cX7_digest 11 = .ok (.getfield 89, 3) := by decide +kernel
theorem dX7_digest_14 : decode cX7_digest 14 = .ok (.if_icmp .ge 35, 3) := by decide +kernel
theorem dX7_digest_17 : decode cX7_digest 17 = .ok (.ldc2_w 247, 3) := by decide +kernel
theorem dX7_digest_20 : decode cX7_digest 20 = .ok (.lload_n 1, 1) := by decide +kernel
theorem dX7_digest_21 : decode cX7_digest 21 = .ok (.lmul, 1) := by decide +kernel
theorem dX7_digest_22 : decode cX7_digest 22 = .ok (.aload_n 0, 1) := by decide +kernel
theorem dX7_digest_23 : decode cX7_digest 23 = .ok (.iload_n 3, 1) := by decide +kernel
theorem dX7_digest_24 : decode cX7_digest 24 = .ok (.invokevirtual 249, 3) := by decide +kernel
theorem dX7_digest_27 : decode cX7_digest 27 = .ok (.i2l, 1) := by decide +kernel
theorem dX7_digest_28 : decode cX7_digest 28 = .ok (.ladd, 1) := by decide +kernel
theorem dX7_digest_29 : decode cX7_digest 29 = .ok (.lstore_n 1, 1) := by decide +kernel
theorem dX7_digest_30 : decode cX7_digest 30 = .ok (.ldc2_w 247, 3) := by decide +kernel
theorem dX7_digest_33 : decode cX7_digest 33 = .ok (.lload_n 1, 1) := by decide +kernel
theorem dX7_digest_34 : decode cX7_digest 34 = .ok (.lmul, 1) := by decide +kernel
theorem dX7_digest_35 : decode cX7_digest 35 = .ok (.aload_n 0, 1) := by decide +kernel
theorem dX7_digest_36 : decode cX7_digest 36 = .ok (.iload_n 3, 1) := by decide +kernel
theorem dX7_digest_37 : decode cX7_digest 37 = .ok (.invokevirtual 252, 3) := by decide +kernel
theorem dX7_digest_40 : decode cX7_digest 40 = .ok (.i2l, 1) := by decide +kernel
theorem dX7_digest_41 : decode cX7_digest 41 = .ok (.ladd, 1) := by decide +kernel
theorem dX7_digest_42 : decode cX7_digest 42 = .ok (.lstore_n 1, 1) := by decide +kernel
theorem dX7_digest_43 : decode cX7_digest 43 = .ok (.iinc 3 1, 3) := by decide +kernel
theorem dX7_digest_46 : decode cX7_digest 46 = .ok (.goto (-40), 3) := by decide +kernel
theorem dX7_digest_49 : decode cX7_digest 49 = .ok (.iconst 0, 1) := by decide +kernel
theorem dX7_digest_50 : decode cX7_digest 50 = .ok (.istore_n 3, 1) := by decide +kernel
theorem dX7_digest_51 : decode cX7_digest 51 = .ok (.iload_n 3, 1) := by decide +kernel
theorem dX7_digest_52 : decode cX7_digest 52 = .ok (.aload_n 0, 1) := by decide +kernel
theorem dX7_digest_53 : decode cX7_digest 53 = .ok (.getfield 104, 3) := by decide +kernel
theorem dX7_digest_56 : decode cX7_digest 56 = .ok (.if_icmp .ge 39, 3) := by decide +kernel
theorem dX7_digest_59 : decode cX7_digest 59 = .ok (.iconst 0, 1) := by decide +kernel
theorem dX7_digest_60 : decode cX7_digest 60 = .ok (.istore 4, 2) := by decide +kernel
theorem dX7_digest_62 : decode cX7_digest 62 = .ok (.iload 4, 2) := by decide +kernel
theorem dX7_digest_64 : decode cX7_digest 64 = .ok (.iconst 2, 1) := by decide +kernel
theorem dX7_digest_65 : decode cX7_digest 65 = .ok (.if_icmp .gt 24, 3) := by decide +kernel
theorem dX7_digest_68 : decode cX7_digest 68 = .ok (.ldc2_w 247, 3) := by decide +kernel
theorem dX7_digest_71 : decode cX7_digest 71 = .ok (.lload_n 1, 1) := by decide +kernel
theorem dX7_digest_72 : decode cX7_digest 72 = .ok (.lmul, 1) := by decide +kernel
theorem dX7_digest_73 : decode cX7_digest 73 = .ok (.aload_n 0, 1) := by decide +kernel
theorem dX7_digest_74 : decode cX7_digest 74 = .ok (.iload_n 3, 1) := by decide +kernel
theorem dX7_digest_75 : decode cX7_digest 75 = .ok (.iload 4, 2) := by decide +kernel
theorem dX7_digest_77 : decode cX7_digest 77 = .ok (.invokevirtual 255, 3) := by decide +kernel
theorem dX7_digest_80 : decode cX7_digest 80 = .ok (.i2l, 1) := by decide +kernel
theorem dX7_digest_81 : decode cX7_digest 81 = .ok (.ladd, 1) := by decide +kernel
theorem dX7_digest_82 : decode cX7_digest 82 = .ok (.lstore_n 1, 1) := by decide +kernel
theorem dX7_digest_83 : decode cX7_digest 83 = .ok (.iinc 4 1, 3) := by decide +kernel
theorem dX7_digest_86 : decode cX7_digest 86 = .ok (.goto (-24), 3) := by decide +kernel
theorem dX7_digest_89 : decode cX7_digest 89 = .ok (.iinc 3 1, 3) := by decide +kernel
theorem dX7_digest_92 : decode cX7_digest 92 = .ok (.goto (-41), 3) := by decide +kernel
theorem dX7_digest_95 : decode cX7_digest 95 = .ok (.ldc2_w 247, 3) := by decide +kernel
theorem dX7_digest_98 : decode cX7_digest 98 = .ok (.lload_n 1, 1) := by decide +kernel
theorem dX7_digest_99 : decode cX7_digest 99 = .ok (.lmul, 1) := by decide +kernel
theorem dX7_digest_100 : decode cX7_digest 100 = .ok (.aload_n 0, 1) := by decide +kernel
theorem dX7_digest_101 : decode cX7_digest 101 = .ok (.invokevirtual 258, 3) := by decide +kernel
theorem dX7_digest_104 : decode cX7_digest 104 = .ok (.i2l, 1) := by decide +kernel
theorem dX7_digest_105 : decode cX7_digest 105 = .ok (.ladd, 1) := by decide +kernel
theorem dX7_digest_106 : decode cX7_digest 106 = .ok (.lstore_n 1, 1) := by decide +kernel
theorem dX7_digest_107 : decode cX7_digest 107 = .ok (.aload_n 0, 1) := by decide +kernel
theorem dX7_digest_108 : decode cX7_digest 108 = .ok (.invokevirtual 172, 3) := by decide +kernel
theorem dX7_digest_111 : decode cX7_digest 111 = .ok (.ifCond .eq 77, 3) := by decide +kernel
theorem dX7_digest_114 : decode cX7_digest 114 = .ok (.iconst 0, 1) := by decide +kernel
theorem dX7_digest_115 : decode cX7_digest 115 = .ok (.istore_n 3, 1) := by decide +kernel
theorem dX7_digest_116 : decode cX7_digest 116 = .ok (.iload_n 3, 1) := by decide +kernel
theorem dX7_digest_117 : decode cX7_digest 117 = .ok (.iconst 2, 1) := by decide +kernel
theorem dX7_digest_118 : decode cX7_digest 118 = .ok (.if_icmp .gt 22, 3) := by decide +kernel
theorem dX7_digest_121 : decode cX7_digest 121 = .ok (.ldc2_w 247, 3) := by decide +kernel
theorem dX7_digest_124 : decode cX7_digest 124 = .ok (.lload_n 1, 1) := by decide +kernel
theorem dX7_digest_125 : decode cX7_digest 125 = .ok (.lmul, 1) := by decide +kernel
theorem dX7_digest_126 : decode cX7_digest 126 = .ok (.aload_n 0, 1) := by decide +kernel
theorem dX7_digest_127 : decode cX7_digest 127 = .ok (.iload_n 3, 1) := by decide +kernel
theorem dX7_digest_128 : decode cX7_digest 128 = .ok (.invokevirtual 261, 3) := by decide +kernel
theorem dX7_digest_131 : decode cX7_digest 131 = .ok (.i2l, 1) := by decide +kernel
theorem dX7_digest_132 : decode cX7_digest 132 = .ok (.ladd, 1) := by decide +kernel
theorem dX7_digest_133 : decode cX7_digest 133 = .ok (.lstore_n 1, 1) := by decide +kernel
theorem dX7_digest_134 : decode cX7_digest 134 = .ok (.iinc 3 1, 3) := by decide +kernel
theorem dX7_digest_137 : decode cX7_digest 137 = .ok (.goto (-21), 3) := by decide +kernel
theorem dX7_digest_140 : decode cX7_digest 140 = .ok (.ldc2_w 247, 3) := by decide +kernel
theorem dX7_digest_143 : decode cX7_digest 143 = .ok (.lload_n 1, 1) := by decide +kernel
theorem dX7_digest_144 : decode cX7_digest 144 = .ok (.lmul, 1) := by decide +kernel
theorem dX7_digest_145 : decode cX7_digest 145 = .ok (.aload_n 0, 1) := by decide +kernel
theorem dX7_digest_146 : decode cX7_digest 146 = .ok (.invokevirtual 264, 3) := by decide +kernel
theorem dX7_digest_149 : decode cX7_digest 149 = .ok (.i2l, 1) := by decide +kernel
theorem dX7_digest_150 : decode cX7_digest 150 = .ok (.ladd, 1) := by decide +kernel
theorem dX7_digest_151 : decode cX7_digest 151 = .ok (.lstore_n 1, 1) := by decide +kernel
theorem dX7_digest_152 : decode cX7_digest 152 = .ok (.ldc2_w 247, 3) := by decide +kernel
theorem dX7_digest_155 : decode cX7_digest 155 = .ok (.lload_n 1, 1) := by decide +kernel
theorem dX7_digest_156 : decode cX7_digest 156 = .ok (.lmul, 1) := by decide +kernel
theorem dX7_digest_157 : decode cX7_digest 157 = .ok (.aload_n 0, 1) := by decide +kernel
theorem dX7_digest_158 : decode cX7_digest 158 = .ok (.invokevirtual 267, 3) := by decide +kernel
theorem dX7_digest_161 : decode cX7_digest 161 = .ok (.i2l, 1) := by decide +kernel
theorem dX7_digest_162 : decode cX7_digest 162 = .ok (.ladd, 1) := by decide +kernel
theorem dX7_digest_163 : decode cX7_digest 163 = .ok (.lstore_n 1, 1) := by decide +kernel
theorem dX7_digest_164 : decode cX7_digest 164 = .ok (.ldc2_w 247, 3) := by decide +kernel
theorem dX7_digest_167 : decode cX7_digest 167 = .ok (.lload_n 1, 1) := by decide +kernel
theorem dX7_digest_168 : decode cX7_digest 168 = .ok (.lmul, 1) := by decide +kernel
theorem dX7_digest_169 : decode cX7_digest 169 = .ok (.aload_n 0, 1) := by decide +kernel
theorem dX7_digest_170 : decode cX7_digest 170 = .ok (.invokevirtual 270, 3) := by decide +kernel
theorem dX7_digest_173 : decode cX7_digest 173 = .ok (.i2l, 1) := by decide +kernel
theorem dX7_digest_174 : decode cX7_digest 174 = .ok (.ladd, 1) := by decide +kernel
theorem dX7_digest_175 : decode cX7_digest 175 = .ok (.lstore_n 1, 1) := by decide +kernel
theorem dX7_digest_176 : decode cX7_digest 176 = .ok (.ldc2_w 247, 3) := by decide +kernel
theorem dX7_digest_179 : decode cX7_digest 179 = .ok (.lload_n 1, 1) := by decide +kernel
theorem dX7_digest_180 : decode cX7_digest 180 = .ok (.lmul, 1) := by decide +kernel
theorem dX7_digest_181 : decode cX7_digest 181 = .ok (.aload_n 0, 1) := by decide +kernel
theorem dX7_digest_182 : decode cX7_digest 182 = .ok (.invokevirtual 273, 3) := by decide +kernel
theorem dX7_digest_185 : decode cX7_digest 185 = .ok (.i2l, 1) := by decide +kernel
theorem dX7_digest_186 : decode cX7_digest 186 = .ok (.ladd, 1) := by decide +kernel
theorem dX7_digest_187 : decode cX7_digest 187 = .ok (.lstore_n 1, 1) := by decide +kernel
theorem dX7_digest_188 : decode cX7_digest 188 = .ok (.aload_n 0, 1) := by decide +kernel
theorem dX7_digest_189 : decode cX7_digest 189 = .ok (.invokevirtual 215, 3) := by decide +kernel
theorem dX7_digest_192 : decode cX7_digest 192 = .ok (.ifCond .eq 29, 3) := by decide +kernel
theorem dX7_digest_195 : decode cX7_digest 195 = .ok (.ldc2_w 247, 3) := by decide +kernel
theorem dX7_digest_198 : decode cX7_digest 198 = .ok (.lload_n 1, 1) := by decide +kernel
theorem dX7_digest_199 : decode cX7_digest 199 = .ok (.lmul, 1) := by decide +kernel
theorem dX7_digest_200 : decode cX7_digest 200 = .ok (.aload_n 0, 1) := by decide +kernel
theorem dX7_digest_201 : decode cX7_digest 201 = .ok (.iconst 0, 1) := by decide +kernel
theorem dX7_digest_202 : decode cX7_digest 202 = .ok (.invokevirtual 276, 3) := by decide +kernel
theorem dX7_digest_205 : decode cX7_digest 205 = .ok (.i2l, 1) := by decide +kernel
theorem dX7_digest_206 : decode cX7_digest 206 = .ok (.ladd, 1) := by decide +kernel
theorem dX7_digest_207 : decode cX7_digest 207 = .ok (.lstore_n 1, 1) := by decide +kernel
theorem dX7_digest_208 : decode cX7_digest 208 = .ok (.ldc2_w 247, 3) := by decide +kernel
theorem dX7_digest_211 : decode cX7_digest 211 = .ok (.lload_n 1, 1) := by decide +kernel
theorem dX7_digest_212 : decode cX7_digest 212 = .ok (.lmul, 1) := by decide +kernel
theorem dX7_digest_213 : decode cX7_digest 213 = .ok (.aload_n 0, 1) := by decide +kernel
theorem dX7_digest_214 : decode cX7_digest 214 = .ok (.iconst 1, 1) := by decide +kernel
theorem dX7_digest_215 : decode cX7_digest 215 = .ok (.invokevirtual 276, 3) := by decide +kernel
theorem dX7_digest_218 : decode cX7_digest 218 = .ok (.i2l, 1) := by decide +kernel
theorem dX7_digest_219 : decode cX7_digest 219 = .ok (.ladd, 1) := by decide +kernel
theorem dX7_digest_220 : decode cX7_digest 220 = .ok (.lstore_n 1, 1) := by decide +kernel
theorem dX7_digest_221 : decode cX7_digest 221 = .ok (.iconst 0, 1) := by decide +kernel
theorem dX7_digest_222 : decode cX7_digest 222 = .ok (.istore_n 3, 1) := by decide +kernel
theorem dX7_digest_223 : decode cX7_digest 223 = .ok (.iload_n 3, 1) := by decide +kernel
theorem dX7_digest_224 : decode cX7_digest 224 = .ok (.aload_n 0, 1) := by decide +kernel
theorem dX7_digest_225 : decode cX7_digest 225 = .ok (.getfield 10, 3) := by decide +kernel
theorem dX7_digest_228 : decode cX7_digest 228 = .ok (.getfield 57, 3) := by decide +kernel
theorem dX7_digest_231 : decode cX7_digest 231 = .ok (.if_icmp .ge 32, 3) := by decide +kernel
theorem dX7_digest_234 : decode cX7_digest 234 = .ok (.iload_n 3, 1) := by decide +kernel
theorem dX7_digest_235 : decode cX7_digest 235 = .ok (.bipush 14, 2) := by decide +kernel
theorem dX7_digest_237 : decode cX7_digest 237 = .ok (.if_icmp .ge 26, 3) := by decide +kernel
theorem dX7_digest_240 : decode cX7_digest 240 = .ok (.ldc2_w 247, 3) := by decide +kernel
theorem dX7_digest_243 : decode cX7_digest 243 = .ok (.lload_n 1, 1) := by decide +kernel
theorem dX7_digest_244 : decode cX7_digest 244 = .ok (.lmul, 1) := by decide +kernel
theorem dX7_digest_245 : decode cX7_digest 245 = .ok (.aload_n 0, 1) := by decide +kernel
theorem dX7_digest_246 : decode cX7_digest 246 = .ok (.getfield 10, 3) := by decide +kernel
theorem dX7_digest_249 : decode cX7_digest 249 = .ok (.getfield 279, 3) := by decide +kernel
theorem dX7_digest_252 : decode cX7_digest 252 = .ok (.iload_n 3, 1) := by decide +kernel
theorem dX7_digest_253 : decode cX7_digest 253 = .ok (.iaload, 1) := by decide +kernel
theorem dX7_digest_254 : decode cX7_digest 254 = .ok (.i2l, 1) := by decide +kernel
theorem dX7_digest_255 : decode cX7_digest 255 = .ok (.ladd, 1) := by decide +kernel
theorem dX7_digest_256 : decode cX7_digest 256 = .ok (.lstore_n 1, 1) := by decide +kernel
theorem dX7_digest_257 : decode cX7_digest 257 = .ok (.iinc 3 1, 3) := by decide +kernel
theorem dX7_digest_260 : decode cX7_digest 260 = .ok (.goto (-37), 3) := by decide +kernel
theorem dX7_digest_263 : decode cX7_digest 263 = .ok (.iconst 0, 1) := by decide +kernel
theorem dX7_digest_264 : decode cX7_digest 264 = .ok (.istore_n 3, 1) := by decide +kernel
theorem dX7_digest_265 : decode cX7_digest 265 = .ok (.iload_n 3, 1) := by decide +kernel
theorem dX7_digest_266 : decode cX7_digest 266 = .ok (.bipush 9, 2) := by decide +kernel
theorem dX7_digest_268 : decode cX7_digest 268 = .ok (.if_icmp .gt 22, 3) := by decide +kernel
theorem dX7_digest_271 : decode cX7_digest 271 = .ok (.ldc2_w 247, 3) := by decide +kernel
theorem dX7_digest_274 : decode cX7_digest 274 = .ok (.lload_n 1, 1) := by decide +kernel
theorem dX7_digest_275 : decode cX7_digest 275 = .ok (.lmul, 1) := by decide +kernel
theorem dX7_digest_276 : decode cX7_digest 276 = .ok (.aload_n 0, 1) := by decide +kernel
theorem dX7_digest_277 : decode cX7_digest 277 = .ok (.iload_n 3, 1) := by decide +kernel
theorem dX7_digest_278 : decode cX7_digest 278 = .ok (.invokevirtual 283, 3) := by decide +kernel
theorem dX7_digest_281 : decode cX7_digest 281 = .ok (.i2l, 1) := by decide +kernel
theorem dX7_digest_282 : decode cX7_digest 282 = .ok (.ladd, 1) := by decide +kernel
theorem dX7_digest_283 : decode cX7_digest 283 = .ok (.lstore_n 1, 1) := by decide +kernel
theorem dX7_digest_284 : decode cX7_digest 284 = .ok (.iinc 3 1, 3) := by decide +kernel
theorem dX7_digest_287 : decode cX7_digest 287 = .ok (.goto (-22), 3) := by decide +kernel
theorem dX7_digest_290 : decode cX7_digest 290 = .ok (.lload_n 1, 1) := by decide +kernel
theorem dX7_digest_291 : decode cX7_digest 291 = .ok (.lreturn, 1) := by decide +kernel
theorem dX7_hasBrook_0 : decode cX7_hasBrook 0 = .ok (.aload_n 0, 1) := by decide +kernel
theorem dX7_hasBrook_1 : decode cX7_hasBrook 1 = .ok (.getfield 19, 3) := by decide +kernel
theorem dX7_hasBrook_4 : decode cX7_hasBrook 4 = .ok (.getfield 89, 3) := by decide +kernel
theorem dX7_hasBrook_7 : decode cX7_hasBrook 7 = .ok (.ifCond .le 7, 3) := by decide +kernel
theorem dX7_hasBrook_10 : decode cX7_hasBrook 10 = .ok (.iconst 1, 1) := by decide +kernel
theorem dX7_hasBrook_11 : decode cX7_hasBrook 11 = .ok (.goto 4, 3) := by decide +kernel
theorem dX7_hasBrook_14 : decode cX7_hasBrook 14 = .ok (.iconst 0, 1) := by decide +kernel
theorem dX7_hasBrook_15 : decode cX7_hasBrook 15 = .ok (.ireturn, 1) := by decide +kernel
theorem dX7_hasGame_0 : decode cX7_hasGame 0 = .ok (.aload_n 0, 1) := by decide +kernel
theorem dX7_hasGame_1 : decode cX7_hasGame 1 = .ok (.invokevirtual 172, 3) := by decide +kernel
theorem dX7_hasGame_4 : decode cX7_hasGame 4 = .ok (.ifCond .eq 27, 3) := by decide +kernel
theorem dX7_hasGame_7 : decode cX7_hasGame 7 = .ok (.aload_n 0, 1) := by decide +kernel
theorem dX7_hasGame_8 : decode cX7_hasGame 8 = .ok (.getfield 19, 3) := by decide +kernel
theorem dX7_hasGame_11 : decode cX7_hasGame 11 = .ok (.getfield 286, 3) := by decide +kernel
theorem dX7_hasGame_14 : decode cX7_hasGame 14 = .ok (.ifCond .ne 17, 3) := by decide +kernel
theorem dX7_hasGame_17 : decode cX7_hasGame 17 = .ok (.aload_n 0, 1) := by decide +kernel
theorem dX7_hasGame_18 : decode cX7_hasGame 18 = .ok (.getfield 19, 3) := by decide +kernel
theorem dX7_hasGame_21 : decode cX7_hasGame 21 = .ok (.getfield 289, 3) := by decide +kernel
theorem dX7_hasGame_24 : decode cX7_hasGame 24 = .ok (.ifCond .ne 7, 3) := by decide +kernel
theorem dX7_hasGame_27 : decode cX7_hasGame 27 = .ok (.iconst 1, 1) := by decide +kernel
theorem dX7_hasGame_28 : decode cX7_hasGame 28 = .ok (.goto 4, 3) := by decide +kernel
theorem dX7_hasGame_31 : decode cX7_hasGame 31 = .ok (.iconst 0, 1) := by decide +kernel
theorem dX7_hasGame_32 : decode cX7_hasGame 32 = .ok (.ireturn, 1) := by decide +kernel
theorem dX7_isStone_0 : decode cX7_isStone 0 = .ok (.iload_n 1, 1) := by decide +kernel
theorem dX7_isStone_1 : decode cX7_isStone 1 = .ok (.ifCond .lt 18, 3) := by decide +kernel
theorem dX7_isStone_4 : decode cX7_isStone 4 = .ok (.iload_n 1, 1) := by decide +kernel
theorem dX7_isStone_5 : decode cX7_isStone 5 = .ok (.aload_n 0, 1) := by decide +kernel
theorem dX7_isStone_6 : decode cX7_isStone 6 = .ok (.getfield 19, 3) := by decide +kernel
theorem dX7_isStone_9 : decode cX7_isStone 9 = .ok (.getfield 89, 3) := by decide +kernel
theorem dX7_isStone_12 : decode cX7_isStone 12 = .ok (.if_icmp .ge 7, 3) := by decide +kernel
theorem dX7_isStone_15 : decode cX7_isStone 15 = .ok (.iconst 1, 1) := by decide +kernel
theorem dX7_isStone_16 : decode cX7_isStone 16 = .ok (.goto 4, 3) := by decide +kernel
theorem dX7_isStone_19 : decode cX7_isStone 19 = .ok (.iconst 0, 1) := by decide +kernel
theorem dX7_isStone_20 : decode cX7_isStone 20 = .ok (.ireturn, 1) := by decide +kernel
theorem dX7_isFrog_0 : decode cX7_isFrog 0 = .ok (.iload_n 1, 1) := by decide +kernel
theorem dX7_isFrog_1 : decode cX7_isFrog 1 = .ok (.ifCond .lt 15, 3) := by decide +kernel
theorem dX7_isFrog_4 : decode cX7_isFrog 4 = .ok (.iload_n 1, 1) := by decide +kernel
theorem dX7_isFrog_5 : decode cX7_isFrog 5 = .ok (.aload_n 0, 1) := by decide +kernel
theorem dX7_isFrog_6 : decode cX7_isFrog 6 = .ok (.getfield 104, 3) := by decide +kernel
theorem dX7_isFrog_9 : decode cX7_isFrog 9 = .ok (.if_icmp .ge 7, 3) := by decide +kernel
theorem dX7_isFrog_12 : decode cX7_isFrog 12 = .ok (.iconst 1, 1) := by decide +kernel
theorem dX7_isFrog_13 : decode cX7_isFrog 13 = .ok (.goto 4, 3) := by decide +kernel
theorem dX7_isFrog_16 : decode cX7_isFrog 16 = .ok (.iconst 0, 1) := by decide +kernel
theorem dX7_isFrog_17 : decode cX7_isFrog 17 = .ok (.ireturn, 1) := by decide +kernel
theorem dX7_kindOfFrog_0 : decode cX7_kindOfFrog 0 = .ok (.aload_n 0, 1) := by decide +kernel
theorem dX7_kindOfFrog_1 : decode cX7_kindOfFrog 1 = .ok (.getfield 29, 3) := by decide +kernel
theorem dX7_kindOfFrog_4 : decode cX7_kindOfFrog 4 = .ok (.getfield 132, 3) := by decide +kernel
theorem dX7_kindOfFrog_7 : decode cX7_kindOfFrog 7 = .ok (.aload_n 0, 1) := by decide +kernel
theorem dX7_kindOfFrog_8 : decode cX7_kindOfFrog 8 = .ok (.getfield 29, 3) := by decide +kernel
theorem dX7_kindOfFrog_11 : decode cX7_kindOfFrog 11 = .ok (.iload_n 1, 1) := by decide +kernel
theorem dX7_kindOfFrog_12 : decode cX7_kindOfFrog 12 = .ok (.invokevirtual 146, 3) := by decide +kernel
theorem dX7_kindOfFrog_15 : decode cX7_kindOfFrog 15 = .ok (.invokestatic 134, 3) := by decide +kernel
theorem dX7_kindOfFrog_18 : decode cX7_kindOfFrog 18 = .ok (.ireturn, 1) := by decide +kernel
theorem dX7_partOfMove_0 : decode cX7_partOfMove 0 = .ok (.iload_n 0, 1) := by decide +kernel
theorem dX7_partOfMove_1 : decode cX7_partOfMove 1 = .ok (.iconst (-1), 1) := by decide +kernel
theorem dX7_partOfMove_2 : decode cX7_partOfMove 2 = .ok (.if_icmp .ne 5, 3) := by decide +kernel
theorem dX7_partOfMove_5 : decode cX7_partOfMove 5 = .ok (.iconst (-1), 1) := by decide +kernel
theorem dX7_partOfMove_6 : decode cX7_partOfMove 6 = .ok (.ireturn, 1) := by decide +kernel
theorem dX7_partOfMove_7 : decode cX7_partOfMove 7 = .ok (.iload_n 1, 1) := by decide +kernel
theorem dX7_partOfMove_8 : decode cX7_partOfMove 8 = .ok (.ifCond .ne 9, 3) := by decide +kernel
theorem dX7_partOfMove_11 : decode cX7_partOfMove 11 = .ok (.iload_n 0, 1) := by decide +kernel
theorem dX7_partOfMove_12 : decode cX7_partOfMove 12 = .ok (.iconst 3, 1) := by decide +kernel
theorem dX7_partOfMove_13 : decode cX7_partOfMove 13 = .ok (.ishr, 1) := by decide +kernel
theorem dX7_partOfMove_14 : decode cX7_partOfMove 14 = .ok (.goto 7, 3) := by decide +kernel
theorem dX7_partOfMove_17 : decode cX7_partOfMove 17 = .ok (.iload_n 0, 1) := by decide +kernel
theorem dX7_partOfMove_18 : decode cX7_partOfMove 18 = .ok (.bipush 7, 2) := by decide +kernel
theorem dX7_partOfMove_20 : decode cX7_partOfMove 20 = .ok (.iand, 1) := by decide +kernel
theorem dX7_partOfMove_21 : decode cX7_partOfMove 21 = .ok (.ireturn, 1) := by decide +kernel
theorem dX7_firstOfFewest_0 : decode cX7_firstOfFewest 0 = .ok (.aload_n 0, 1) := by decide +kernel
theorem dX7_firstOfFewest_1 : decode cX7_firstOfFewest 1 = .ok (.getfield 39, 3) := by decide +kernel
theorem dX7_firstOfFewest_4 : decode cX7_firstOfFewest 4 = .ok (.aload_n 0, 1) := by decide +kernel
theorem dX7_firstOfFewest_5 : decode cX7_firstOfFewest 5 = .ok (.getfield 29, 3) := by decide +kernel
theorem dX7_firstOfFewest_8 : decode cX7_firstOfFewest 8 = .ok (.getfield 132, 3) := by decide +kernel
theorem dX7_firstOfFewest_11 : decode cX7_firstOfFewest 11 = .ok (.invokevirtual 175, 3) := by decide +kernel
theorem dX7_firstOfFewest_14 : decode cX7_firstOfFewest 14 = .ok (.istore_n 1, 1) := by decide +kernel
theorem dX7_firstOfFewest_15 : decode cX7_firstOfFewest 15 = .ok (.iload_n 1, 1) := by decide +kernel
theorem dX7_firstOfFewest_16 : decode cX7_firstOfFewest 16 = .ok (.ifCond .gt 5, 3) := by decide +kernel
theorem dX7_firstOfFewest_19 : decode cX7_firstOfFewest 19 = .ok (.iconst (-1), 1) := by decide +kernel
theorem dX7_firstOfFewest_20 : decode cX7_firstOfFewest 20 = .ok (.ireturn, 1) := by decide +kernel
theorem dX7_firstOfFewest_21 : decode cX7_firstOfFewest 21 = .ok (.aload_n 0, 1) := by decide +kernel
theorem dX7_firstOfFewest_22 : decode cX7_firstOfFewest 22 = .ok (.getfield 19, 3) := by decide +kernel
theorem dX7_firstOfFewest_25 : decode cX7_firstOfFewest 25 = .ok (.aload_n 0, 1) := by decide +kernel
theorem dX7_firstOfFewest_26 : decode cX7_firstOfFewest 26 = .ok (.getfield 29, 3) := by decide +kernel
theorem dX7_firstOfFewest_29 : decode cX7_firstOfFewest 29 = .ok (.getfield 132, 3) := by decide +kernel
theorem dX7_firstOfFewest_32 : decode cX7_firstOfFewest 32 = .ok (.iconst 1, 1) := by decide +kernel
theorem dX7_firstOfFewest_33 : decode cX7_firstOfFewest 33 = .ok (.invokevirtual 156, 3) := by decide +kernel
theorem dX7_firstOfFewest_36 : decode cX7_firstOfFewest 36 = .ok (.lstore_n 2, 1) := by decide +kernel
theorem dX7_firstOfFewest_37 : decode cX7_firstOfFewest 37 = .ok (.lload_n 2, 1) := by decide +kernel
theorem dX7_firstOfFewest_38 : decode cX7_firstOfFewest 38 = .ok (.invokestatic 160, 3) := by decide +kernel
theorem dX7_firstOfFewest_41 : decode cX7_firstOfFewest 41 = .ok (.istore 4, 2) := by decide +kernel
theorem dX7_firstOfFewest_43 : decode cX7_firstOfFewest 43 = .ok (.iconst 0, 1) := by decide +kernel
theorem dX7_firstOfFewest_44 : decode cX7_firstOfFewest 44 = .ok (.istore 5, 2) := by decide +kernel
theorem dX7_firstOfFewest_46 : decode cX7_firstOfFewest 46 = .ok (.iload 5, 2) := by decide +kernel
theorem dX7_firstOfFewest_48 : decode cX7_firstOfFewest 48 = .ok (.iload 4, 2) := by decide +kernel
theorem dX7_firstOfFewest_50 : decode cX7_firstOfFewest 50 = .ok (.if_icmp .ge 49, 3) := by decide +kernel
theorem dX7_firstOfFewest_53 : decode cX7_firstOfFewest 53 = .ok (.lload_n 2, 1) := by decide +kernel
theorem dX7_firstOfFewest_54 : decode cX7_firstOfFewest 54 = .ok (.invokestatic 292, 3) := by decide +kernel
theorem dX7_firstOfFewest_57 : decode cX7_firstOfFewest 57 = .ok (.istore 6, 2) := by decide +kernel
theorem dX7_firstOfFewest_59 : decode cX7_firstOfFewest 59 = .ok (.lload_n 2, 1) := by decide +kernel
theorem dX7_firstOfFewest_60 : decode cX7_firstOfFewest 60 = .ok (.lload_n 2, 1) := by decide +kernel
theorem dX7_firstOfFewest_61 : decode cX7_firstOfFewest 61 = .ok (.lconst 1, 1) := by decide +kernel
theorem dX7_firstOfFewest_62 : decode cX7_firstOfFewest 62 = .ok (.lsub, 1) := by decide +kernel
theorem dX7_firstOfFewest_63 : decode cX7_firstOfFewest 63 = .ok (.land, 1) := by decide +kernel
theorem dX7_firstOfFewest_64 : decode cX7_firstOfFewest 64 = .ok (.lstore_n 2, 1) := by decide +kernel
theorem dX7_firstOfFewest_65 : decode cX7_firstOfFewest 65 = .ok (.aload_n 0, 1) := by decide +kernel
theorem dX7_firstOfFewest_66 : decode cX7_firstOfFewest 66 = .ok (.getfield 39, 3) := by decide +kernel
theorem dX7_firstOfFewest_69 : decode cX7_firstOfFewest 69 = .ok (.aload_n 0, 1) := by decide +kernel
theorem dX7_firstOfFewest_70 : decode cX7_firstOfFewest 70 = .ok (.getfield 29, 3) := by decide +kernel
theorem dX7_firstOfFewest_73 : decode cX7_firstOfFewest 73 = .ok (.getfield 132, 3) := by decide +kernel
theorem dX7_firstOfFewest_76 : decode cX7_firstOfFewest 76 = .ok (.iload 6, 2) := by decide +kernel
theorem dX7_firstOfFewest_78 : decode cX7_firstOfFewest 78 = .ok (.invokestatic 235, 3) := by decide +kernel
theorem dX7_firstOfFewest_81 : decode cX7_firstOfFewest 81 = .ok (.invokevirtual 175, 3) := by decide +kernel
theorem dX7_firstOfFewest_84 : decode cX7_firstOfFewest 84 = .ok (.iload_n 1, 1) := by decide +kernel
theorem dX7_firstOfFewest_85 : decode cX7_firstOfFewest 85 = .ok (.iconst 1, 1) := by decide +kernel
theorem dX7_firstOfFewest_86 : decode cX7_firstOfFewest 86 = .ok (.isub, 1) := by decide +kernel
theorem dX7_firstOfFewest_87 : decode cX7_firstOfFewest 87 = .ok (.if_icmp .ne 6, 3) := by decide +kernel
theorem dX7_firstOfFewest_90 : decode cX7_firstOfFewest 90 = .ok (.iload 6, 2) := by decide +kernel
theorem dX7_firstOfFewest_92 : decode cX7_firstOfFewest 92 = .ok (.ireturn, 1) := by decide +kernel
theorem dX7_firstOfFewest_93 : decode cX7_firstOfFewest 93 = .ok (.iinc 5 1, 3) := by decide +kernel
theorem dX7_firstOfFewest_96 : decode cX7_firstOfFewest 96 = .ok (.goto (-50), 3) := by decide +kernel
theorem dX7_firstOfFewest_99 : decode cX7_firstOfFewest 99 = .ok (.iconst (-1), 1) := by decide +kernel
theorem dX7_firstOfFewest_100 : decode cX7_firstOfFewest 100 = .ok (.ireturn, 1) := by decide +kernel
end
section
theorem dX7_firstWrong_0 : decode cX7_firstWrong 0 = .ok (.aload_n 0, 1) := by decide +kernel
theorem dX7_firstWrong_1 : decode cX7_firstWrong 1 = .ok (.getfield 86, 3) := by decide +kernel
theorem dX7_firstWrong_4 : decode cX7_firstWrong 4 = .ok (.istore_n 1, 1) := by decide +kernel
theorem dX7_firstWrong_5 : decode cX7_firstWrong 5 = .ok (.aload_n 0, 1) := by decide +kernel
theorem dX7_firstWrong_6 : decode cX7_firstWrong 6 = .ok (.getfield 39, 3) := by decide +kernel
theorem dX7_firstWrong_9 : decode cX7_firstWrong 9 = .ok (.iload_n 1, 1) := by decide +kernel
theorem dX7_firstWrong_10 : decode cX7_firstWrong 10 = .ok (.invokevirtual 175, 3) := by decide +kernel
theorem dX7_firstWrong_13 : decode cX7_firstWrong 13 = .ok (.iconst (-1), 1) := by decide +kernel
theorem dX7_firstWrong_14 : decode cX7_firstWrong 14 = .ok (.if_icmp .ne 5, 3) := by decide +kernel
theorem dX7_firstWrong_17 : decode cX7_firstWrong 17 = .ok (.iconst (-1), 1) := by decide +kernel
theorem dX7_firstWrong_18 : decode cX7_firstWrong 18 = .ok (.ireturn, 1) := by decide +kernel
theorem dX7_firstWrong_19 : decode cX7_firstWrong 19 = .ok (.iconst 0, 1) := by decide +kernel
theorem dX7_firstWrong_20 : decode cX7_firstWrong 20 = .ok (.istore_n 2, 1) := by decide +kernel
theorem dX7_firstWrong_21 : decode cX7_firstWrong 21 = .ok (.iload_n 2, 1) := by decide +kernel
theorem dX7_firstWrong_22 : decode cX7_firstWrong 22 = .ok (.aload_n 0, 1) := by decide +kernel
theorem dX7_firstWrong_23 : decode cX7_firstWrong 23 = .ok (.getfield 29, 3) := by decide +kernel
theorem dX7_firstWrong_26 : decode cX7_firstWrong 26 = .ok (.getfield 165, 3) := by decide +kernel
theorem dX7_firstWrong_29 : decode cX7_firstWrong 29 = .ok (.if_icmp .ge 45, 3) := by decide +kernel
theorem dX7_firstWrong_32 : decode cX7_firstWrong 32 = .ok (.iload_n 2, 1) := by decide +kernel
theorem dX7_firstWrong_33 : decode cX7_firstWrong 33 = .ok (.bipush 60, 2) := by decide +kernel
theorem dX7_firstWrong_35 : decode cX7_firstWrong 35 = .ok (.if_icmp .ge 39, 3) := by decide +kernel
theorem dX7_firstWrong_38 : decode cX7_firstWrong 38 = .ok (.iload_n 1, 1) := by decide +kernel
theorem dX7_firstWrong_39 : decode cX7_firstWrong 39 = .ok (.aload_n 0, 1) := by decide +kernel
theorem dX7_firstWrong_40 : decode cX7_firstWrong 40 = .ok (.getfield 29, 3) := by decide +kernel
theorem dX7_firstWrong_43 : decode cX7_firstWrong 43 = .ok (.getfield 295, 3) := by decide +kernel
theorem dX7_firstWrong_46 : decode cX7_firstWrong 46 = .ok (.iload_n 2, 1) := by decide +kernel
theorem dX7_firstWrong_47 : decode cX7_firstWrong 47 = .ok (.iaload, 1) := by decide +kernel
theorem dX7_firstWrong_48 : decode cX7_firstWrong 48 = .ok (.invokestatic 235, 3) := by decide +kernel
theorem dX7_firstWrong_51 : decode cX7_firstWrong 51 = .ok (.istore_n 1, 1) := by decide +kernel
theorem dX7_firstWrong_52 : decode cX7_firstWrong 52 = .ok (.aload_n 0, 1) := by decide +kernel
theorem dX7_firstWrong_53 : decode cX7_firstWrong 53 = .ok (.getfield 39, 3) := by decide +kernel
theorem dX7_firstWrong_56 : decode cX7_firstWrong 56 = .ok (.iload_n 1, 1) := by decide +kernel
theorem dX7_firstWrong_57 : decode cX7_firstWrong 57 = .ok (.invokevirtual 175, 3) := by decide +kernel
theorem dX7_firstWrong_60 : decode cX7_firstWrong 60 = .ok (.iconst (-1), 1) := by decide +kernel
theorem dX7_firstWrong_61 : decode cX7_firstWrong 61 = .ok (.if_icmp .ne 7, 3) := by decide +kernel
theorem dX7_firstWrong_64 : decode cX7_firstWrong 64 = .ok (.iload_n 2, 1) := by decide +kernel
theorem dX7_firstWrong_65 : decode cX7_firstWrong 65 = .ok (.iconst 1, 1) := by decide +kernel
theorem dX7_firstWrong_66 : decode cX7_firstWrong 66 = .ok (.iadd, 1) := by decide +kernel
theorem dX7_firstWrong_67 : decode cX7_firstWrong 67 = .ok (.ireturn, 1) := by decide +kernel
theorem dX7_firstWrong_68 : decode cX7_firstWrong 68 = .ok (.iinc 2 1, 3) := by decide +kernel
theorem dX7_firstWrong_71 : decode cX7_firstWrong 71 = .ok (.goto (-50), 3) := by decide +kernel
theorem dX7_firstWrong_74 : decode cX7_firstWrong 74 = .ok (.iconst (-1), 1) := by decide +kernel
theorem dX7_firstWrong_75 : decode cX7_firstWrong 75 = .ok (.ireturn, 1) := by decide +kernel
theorem dX7_toTurnRound_0 : decode cX7_toTurnRound 0 = .ok (.aload_n 0, 1) := by decide +kernel
theorem dX7_toTurnRound_1 : decode cX7_toTurnRound 1 = .ok (.getfield 43, 3) := by decide +kernel
theorem dX7_toTurnRound_4 : decode cX7_toTurnRound 4 = .ok (.aload_n 1, 1) := by decide +kernel
theorem dX7_toTurnRound_5 : decode cX7_toTurnRound 5 = .ok (.iload_n 2, 1) := by decide +kernel
theorem dX7_toTurnRound_6 : decode cX7_toTurnRound 6 = .ok (.iconst 1, 1) := by decide +kernel
theorem dX7_toTurnRound_7 : decode cX7_toTurnRound 7 = .ok (.iload_n 2, 1) := by decide +kernel
theorem dX7_toTurnRound_8 : decode cX7_toTurnRound 8 = .ok (.aload_n 1, 1) := by decide +kernel
theorem dX7_toTurnRound_9 : decode cX7_toTurnRound 9 = .ok (.getfield 89, 3) := by decide +kernel
theorem dX7_toTurnRound_12 : decode cX7_toTurnRound 12 = .ok (.invokestatic 92, 3) := by decide +kernel
theorem dX7_toTurnRound_15 : decode cX7_toTurnRound 15 = .ok (.invokevirtual 114, 3) := by decide +kernel
theorem dX7_toTurnRound_18 : decode cX7_toTurnRound 18 = .ok (.ireturn, 1) := by decide +kernel
theorem dX7_isLess_0 : decode cX7_isLess 0 = .ok (.iload_n 0, 1) := by decide +kernel
theorem dX7_isLess_1 : decode cX7_isLess 1 = .ok (.iconst (-1), 1) := by decide +kernel
theorem dX7_isLess_2 : decode cX7_isLess 2 = .ok (.if_icmp .eq 17, 3) := by decide +kernel
theorem dX7_isLess_5 : decode cX7_isLess 5 = .ok (.iload_n 1, 1) := by decide +kernel
theorem dX7_isLess_6 : decode cX7_isLess 6 = .ok (.iconst (-1), 1) := by decide +kernel
theorem dX7_isLess_7 : decode cX7_isLess 7 = .ok (.if_icmp .eq 8, 3) := by decide +kernel
theorem dX7_isLess_10 : decode cX7_isLess 10 = .ok (.iload_n 0, 1) := by decide +kernel
theorem dX7_isLess_11 : decode cX7_isLess 11 = .ok (.iload_n 1, 1) := by decide +kernel
theorem dX7_isLess_12 : decode cX7_isLess 12 = .ok (.if_icmp .ge 7, 3) := by decide +kernel
theorem dX7_isLess_15 : decode cX7_isLess 15 = .ok (.iconst 1, 1) := by decide +kernel
theorem dX7_isLess_16 : decode cX7_isLess 16 = .ok (.goto 4, 3) := by decide +kernel
theorem dX7_isLess_19 : decode cX7_isLess 19 = .ok (.iconst 0, 1) := by decide +kernel
theorem dX7_isLess_20 : decode cX7_isLess 20 = .ok (.ireturn, 1) := by decide +kernel
theorem dX7_seedAfter_0 : decode cX7_seedAfter 0 = .ok (.ldc2_w 298, 3) := by decide +kernel
theorem dX7_seedAfter_3 : decode cX7_seedAfter 3 = .ok (.iload_n 0, 1) := by decide +kernel
theorem dX7_seedAfter_4 : decode cX7_seedAfter 4 = .ok (.i2l, 1) := by decide +kernel
theorem dX7_seedAfter_5 : decode cX7_seedAfter 5 = .ok (.lmul, 1) := by decide +kernel
theorem dX7_seedAfter_6 : decode cX7_seedAfter 6 = .ok (.ldc2_w 300, 3) := by decide +kernel
theorem dX7_seedAfter_9 : decode cX7_seedAfter 9 = .ok (.ladd, 1) := by decide +kernel
theorem dX7_seedAfter_10 : decode cX7_seedAfter 10 = .ok (.ldc2_w 302, 3) := by decide +kernel
theorem dX7_seedAfter_13 : decode cX7_seedAfter 13 = .ok (.land, 1) := by decide +kernel
theorem dX7_seedAfter_14 : decode cX7_seedAfter 14 = .ok (.l2i, 1) := by decide +kernel
theorem dX7_seedAfter_15 : decode cX7_seedAfter 15 = .ok (.ireturn, 1) := by decide +kernel
theorem dX7_drawOf_0 : decode cX7_drawOf 0 = .ok (.iload_n 1, 1) := by decide +kernel
theorem dX7_drawOf_1 : decode cX7_drawOf 1 = .ok (.ifCond .gt 7, 3) := by decide +kernel
theorem dX7_drawOf_4 : decode cX7_drawOf 4 = .ok (.iconst 0, 1) := by decide +kernel
theorem dX7_drawOf_5 : decode cX7_drawOf 5 = .ok (.goto 10, 3) := by decide +kernel
theorem dX7_drawOf_8 : decode cX7_drawOf 8 = .ok (.iload_n 0, 1) := by decide +kernel
theorem dX7_drawOf_9 : decode cX7_drawOf 9 = .ok (.ldc_w 304, 3) := by decide +kernel
theorem dX7_drawOf_12 : decode cX7_drawOf 12 = .ok (.idiv, 1) := by decide +kernel
theorem dX7_drawOf_13 : decode cX7_drawOf 13 = .ok (.iload_n 1, 1) := by decide +kernel
theorem dX7_drawOf_14 : decode cX7_drawOf 14 = .ok (.irem, 1) := by decide +kernel
theorem dX7_drawOf_15 : decode cX7_drawOf 15 = .ok (.ireturn, 1) := by decide +kernel
theorem dX7_moveOfNumber_0 : decode cX7_moveOfNumber 0 = .ok (.lload_n 0, 1) := by decide +kernel
theorem dX7_moveOfNumber_1 : decode cX7_moveOfNumber 1 = .ok (.lstore_n 3, 1) := by decide +kernel
theorem dX7_moveOfNumber_2 : decode cX7_moveOfNumber 2 = .ok (.iconst 0, 1) := by decide +kernel
theorem dX7_moveOfNumber_3 : decode cX7_moveOfNumber 3 = .ok (.istore 5, 2) := by decide +kernel
theorem dX7_moveOfNumber_5 : decode cX7_moveOfNumber 5 = .ok (.iload 5, 2) := by decide +kernel
theorem dX7_moveOfNumber_7 : decode cX7_moveOfNumber 7 = .ok (.iload_n 2, 1) := by decide +kernel
theorem dX7_moveOfNumber_8 : decode cX7_moveOfNumber 8 = .ok (.if_icmp .ge 15, 3) := by decide +kernel
theorem dX7_moveOfNumber_11 : decode cX7_moveOfNumber 11 = .ok (.lload_n 3, 1) := by decide +kernel
theorem dX7_moveOfNumber_12 : decode cX7_moveOfNumber 12 = .ok (.lload_n 3, 1) := by decide +kernel
theorem dX7_moveOfNumber_13 : decode cX7_moveOfNumber 13 = .ok (.lconst 1, 1) := by decide +kernel
theorem dX7_moveOfNumber_14 : decode cX7_moveOfNumber 14 = .ok (.lsub, 1) := by decide +kernel
theorem dX7_moveOfNumber_15 : decode cX7_moveOfNumber 15 = .ok (.land, 1) := by decide +kernel
theorem dX7_moveOfNumber_16 : decode cX7_moveOfNumber 16 = .ok (.lstore_n 3, 1) := by decide +kernel
theorem dX7_moveOfNumber_17 : decode cX7_moveOfNumber 17 = .ok (.iinc 5 1, 3) := by decide +kernel
theorem dX7_moveOfNumber_20 : decode cX7_moveOfNumber 20 = .ok (.goto (-15), 3) := by decide +kernel
theorem dX7_moveOfNumber_23 : decode cX7_moveOfNumber 23 = .ok (.lload_n 3, 1) := by decide +kernel
theorem dX7_moveOfNumber_24 : decode cX7_moveOfNumber 24 = .ok (.invokestatic 292, 3) := by decide +kernel
theorem dX7_moveOfNumber_27 : decode cX7_moveOfNumber 27 = .ok (.ireturn, 1) := by decide +kernel
theorem dX8_init_0 : decode cX8_init 0 = .ok (.aload_n 0, 1) := by decide +kernel
theorem dX8_init_1 : decode cX8_init 1 = .ok (.invokespecial 1, 3) := by decide +kernel
theorem dX8_init_4 : decode cX8_init 4 = .ok (.aload_n 0, 1) := by decide +kernel
theorem dX8_init_5 : decode cX8_init 5 = .ok (.bipush 7, 2) := by decide +kernel
theorem dX8_init_7 : decode cX8_init 7 = .ok (.newarray .int, 2) := by decide +kernel
theorem dX8_init_9 : decode cX8_init 9 = .ok (.putfield 7, 3) := by decide +kernel
theorem dX8_init_12 : decode cX8_init 12 = .ok (.aload_n 0, 1) := by decide +kernel
theorem dX8_init_13 : decode cX8_init 13 = .ok (.bipush 7, 2) := by decide +kernel
theorem dX8_init_15 : decode cX8_init 15 = .ok (.newarray .int, 2) := by decide +kernel
theorem dX8_init_17 : decode cX8_init 17 = .ok (.putfield 13, 3) := by decide +kernel
theorem dX8_init_20 : decode cX8_init 20 = .ok (.aload_n 0, 1) := by decide +kernel
theorem dX8_init_21 : decode cX8_init 21 = .ok (.bipush 7, 2) := by decide +kernel
theorem dX8_init_23 : decode cX8_init 23 = .ok (.newarray .int, 2) := by decide +kernel
theorem dX8_init_25 : decode cX8_init 25 = .ok (.putfield 16, 3) := by decide +kernel
theorem dX8_init_28 : decode cX8_init 28 = .ok (.aload_n 0, 1) := by decide +kernel
theorem dX8_init_29 : decode cX8_init 29 = .ok (.bipush 7, 2) := by decide +kernel
theorem dX8_init_31 : decode cX8_init 31 = .ok (.newarray .int, 2) := by decide +kernel
theorem dX8_init_33 : decode cX8_init 33 = .ok (.putfield 19, 3) := by decide +kernel
theorem dX8_init_36 : decode cX8_init 36 = .ok (.aload_n 0, 1) := by decide +kernel
theorem dX8_init_37 : decode cX8_init 37 = .ok (.bipush 60, 2) := by decide +kernel
theorem dX8_init_39 : decode cX8_init 39 = .ok (.newarray .int, 2) := by decide +kernel
theorem dX8_init_41 : decode cX8_init 41 = .ok (.putfield 22, 3) := by decide +kernel
theorem dX8_init_44 : decode cX8_init 44 = .ok (.aload_n 0, 1) := by decide +kernel
theorem dX8_init_45 : decode cX8_init 45 = .ok (.bipush 60, 2) := by decide +kernel
theorem dX8_init_47 : decode cX8_init 47 = .ok (.newarray .int, 2) := by decide +kernel
theorem dX8_init_49 : decode cX8_init 49 = .ok (.putfield 25, 3) := by decide +kernel
theorem dX8_init_52 : decode cX8_init 52 = .ok (.aload_n 0, 1) := by decide +kernel
theorem dX8_init_53 : decode cX8_init 53 = .ok (.bipush 14, 2) := by decide +kernel
theorem dX8_init_55 : decode cX8_init 55 = .ok (.newarray .byte, 2) := by decide +kernel
theorem dX8_init_57 : decode cX8_init 57 = .ok (.putfield 28, 3) := by decide +kernel
theorem dX8_init_60 : decode cX8_init 60 = .ok (.aload_n 0, 1) := by decide +kernel
theorem dX8_init_61 : decode cX8_init 61 = .ok (.bipush 7, 2) := by decide +kernel
theorem dX8_init_63 : decode cX8_init 63 = .ok (.newarray .int, 2) := by decide +kernel
theorem dX8_init_65 : decode cX8_init 65 = .ok (.putfield 32, 3) := by decide +kernel
theorem dX8_init_68 : decode cX8_init 68 = .ok (.aload_n 0, 1) := by decide +kernel
theorem dX8_init_69 : decode cX8_init 69 = .ok (.bipush 7, 2) := by decide +kernel
theorem dX8_init_71 : decode cX8_init 71 = .ok (.newarray .int, 2) := by decide +kernel
theorem dX8_init_73 : decode cX8_init 73 = .ok (.putfield 35, 3) := by decide +kernel
theorem dX8_init_76 : decode cX8_init 76 = .ok (.aload_n 0, 1) := by decide +kernel
theorem dX8_init_77 : decode cX8_init 77 = .ok (.ldc 38, 2) := by decide +kernel
theorem dX8_init_79 : decode cX8_init 79 = .ok (.newarray .int, 2) := by decide +kernel
theorem dX8_init_81 : decode cX8_init 81 = .ok (.putfield 39, 3) := by decide +kernel
theorem dX8_init_84 : decode cX8_init 84 = .ok (.aload_n 0, 1) := by decide +kernel
theorem dX8_init_85 : decode cX8_init 85 = .ok (.ldc 38, 2) := by decide +kernel
theorem dX8_init_87 : decode cX8_init 87 = .ok (.newarray .long, 2) := by decide +kernel
theorem dX8_init_89 : decode cX8_init 89 = .ok (.putfield 42, 3) := by decide +kernel
theorem dX8_init_92 : decode cX8_init 92 = .ok (.aload_n 0, 1) := by decide +kernel
theorem dX8_init_93 : decode cX8_init 93 = .ok (.ldc 38, 2) := by decide +kernel
theorem dX8_init_95 : decode cX8_init 95 = .ok (.newarray .int, 2) := by decide +kernel
theorem dX8_init_97 : decode cX8_init 97 = .ok (.putfield 46, 3) := by decide +kernel
theorem dX8_init_100 : decode cX8_init 100 = .ok (.aload_n 0, 1) := by decide +kernel
theorem dX8_init_101 : decode cX8_init 101 = .ok (.ldc 38, 2) := by decide +kernel
theorem dX8_init_103 : decode cX8_init 103 = .ok (.newarray .byte, 2) := by decide +kernel
theorem dX8_init_105 : decode cX8_init 105 = .ok (.putfield 49, 3) := by decide +kernel
theorem dX8_init_108 : decode cX8_init 108 = .ok (.aload_n 0, 1) := by decide +kernel
theorem dX8_init_109 : decode cX8_init 109 = .ok (.bipush 7, 2) := by decide +kernel
theorem dX8_init_111 : decode cX8_init 111 = .ok (.newarray .int, 2) := by decide +kernel
theorem dX8_init_113 : decode cX8_init 113 = .ok (.putfield 52, 3) := by decide +kernel
theorem dX8_init_116 : decode cX8_init 116 = .ok (.aload_n 0, 1) := by decide +kernel
theorem dX8_init_117 : decode cX8_init 117 = .ok (.bipush 7, 2) := by decide +kernel
theorem dX8_init_119 : decode cX8_init 119 = .ok (.newarray .int, 2) := by decide +kernel
theorem dX8_init_121 : decode cX8_init 121 = .ok (.putfield 55, 3) := by decide +kernel
theorem dX8_init_124 : decode cX8_init 124 = .ok (.aload_n 0, 1) := by decide +kernel
theorem dX8_init_125 : decode cX8_init 125 = .ok (.bipush 60, 2) := by decide +kernel
theorem dX8_init_127 : decode cX8_init 127 = .ok (.newarray .int, 2) := by decide +kernel
theorem dX8_init_129 : decode cX8_init 129 = .ok (.putfield 58, 3) := by decide +kernel
theorem dX8_init_132 : decode cX8_init 132 = .ok (.aload_n 0, 1) := by decide +kernel
theorem dX8_init_133 : decode cX8_init 133 = .ok (.bipush 60, 2) := by decide +kernel
theorem dX8_init_135 : decode cX8_init 135 = .ok (.newarray .int, 2) := by decide +kernel
theorem dX8_init_137 : decode cX8_init 137 = .ok (.putfield 61, 3) := by decide +kernel
theorem dX8_init_140 : decode cX8_init 140 = .ok (.return_, 1) := by decide +kernel
theorem dX8_within_0 : decode cX8_within 0 = .ok (.iload_n 0, 1) := by decide +kernel
theorem dX8_within_1 : decode cX8_within 1 = .ok (.iload_n 1, 1) := by decide +kernel
theorem dX8_within_2 : decode cX8_within 2 = .ok (.if_icmp .lt 12, 3) := by decide +kernel
theorem dX8_within_5 : decode cX8_within 5 = .ok (.iload_n 0, 1) := by decide +kernel
theorem dX8_within_6 : decode cX8_within 6 = .ok (.iload_n 2, 1) := by decide +kernel
theorem dX8_within_7 : decode cX8_within 7 = .ok (.if_icmp .gt 7, 3) := by decide +kernel
theorem dX8_within_10 : decode cX8_within 10 = .ok (.iconst 1, 1) := by decide +kernel
theorem dX8_within_11 : decode cX8_within 11 = .ok (.goto 4, 3) := by decide +kernel
theorem dX8_within_14 : decode cX8_within 14 = .ok (.iconst 0, 1) := by decide +kernel
theorem dX8_within_15 : decode cX8_within 15 = .ok (.ireturn, 1) := by decide +kernel
theorem dX8_letters_0 : decode cX8_letters 0 = .ok (.iconst 0, 1) := by decide +kernel
theorem dX8_letters_1 : decode cX8_letters 1 = .ok (.istore_n 3, 1) := by decide +kernel
theorem dX8_letters_2 : decode cX8_letters 2 = .ok (.iconst 0, 1) := by decide +kernel
theorem dX8_letters_3 : decode cX8_letters 3 = .ok (.istore 4, 2) := by decide +kernel
theorem dX8_letters_5 : decode cX8_letters 5 = .ok (.iconst 0, 1) := by decide +kernel
theorem dX8_letters_6 : decode cX8_letters 6 = .ok (.istore 5, 2) := by decide +kernel
theorem dX8_letters_8 : decode cX8_letters 8 = .ok (.iload 5, 2) := by decide +kernel
theorem dX8_letters_10 : decode cX8_letters 10 = .ok (.bipush 8, 2) := by decide +kernel
theorem dX8_letters_12 : decode cX8_letters 12 = .ok (.if_icmp .ge 73, 3) := by decide +kernel
theorem dX8_letters_15 : decode cX8_letters 15 = .ok (.lload_n 1, 1) := by decide +kernel
theorem dX8_letters_16 : decode cX8_letters 16 = .ok (.bipush 8, 2) := by decide +kernel
theorem dX8_letters_18 : decode cX8_letters 18 = .ok (.iload 5, 2) := by decide +kernel
theorem dX8_letters_20 : decode cX8_letters 20 = .ok (.imul, 1) := by decide +kernel
theorem dX8_letters_21 : decode cX8_letters 21 = .ok (.lshr, 1) := by decide +kernel
theorem dX8_letters_22 : decode cX8_letters 22 = .ok (.ldc2_w 64, 3) := by decide +kernel
theorem dX8_letters_25 : decode cX8_letters 25 = .ok (.land, 1) := by decide +kernel
theorem dX8_letters_26 : decode cX8_letters 26 = .ok (.l2i, 1) := by decide +kernel
theorem dX8_letters_27 : decode cX8_letters 27 = .ok (.istore 6, 2) := by decide +kernel
theorem dX8_letters_29 : decode cX8_letters 29 = .ok (.iload 6, 2) := by decide +kernel
theorem dX8_letters_31 : decode cX8_letters 31 = .ok (.bipush 126, 2) := by decide +kernel
theorem dX8_letters_33 : decode cX8_letters 33 = .ok (.if_icmp .gt 13, 3) := by decide +kernel
theorem dX8_letters_36 : decode cX8_letters 36 = .ok (.iload 4, 2) := by decide +kernel
theorem dX8_letters_38 : decode cX8_letters 38 = .ok (.ifCond .eq 11, 3) := by decide +kernel
theorem dX8_letters_41 : decode cX8_letters 41 = .ok (.iload 6, 2) := by decide +kernel
theorem dX8_letters_43 : decode cX8_letters 43 = .ok (.ifCond .eq 6, 3) := by decide +kernel
theorem dX8_letters_46 : decode cX8_letters 46 = .ok (.bipush (-102), 2) := by decide +kernel
theorem dX8_letters_48 : decode cX8_letters 48 = .ok (.ireturn, 1) := by decide +kernel
theorem dX8_letters_49 : decode cX8_letters 49 = .ok (.iload 4, 2) := by decide +kernel
theorem dX8_letters_51 : decode cX8_letters 51 = .ok (.ifCond .ne 8, 3) := by decide +kernel
theorem dX8_letters_54 : decode cX8_letters 54 = .ok (.iload 6, 2) := by decide +kernel
theorem dX8_letters_56 : decode cX8_letters 56 = .ok (.ifCond .ne 7, 3) := by decide +kernel
theorem dX8_letters_59 : decode cX8_letters 59 = .ok (.iconst 1, 1) := by decide +kernel
theorem dX8_letters_60 : decode cX8_letters 60 = .ok (.goto 4, 3) := by decide +kernel
theorem dX8_letters_63 : decode cX8_letters 63 = .ok (.iconst 0, 1) := by decide +kernel
theorem dX8_letters_64 : decode cX8_letters 64 = .ok (.istore 4, 2) := by decide +kernel
theorem dX8_letters_66 : decode cX8_letters 66 = .ok (.iload_n 3, 1) := by decide +kernel
theorem dX8_letters_67 : decode cX8_letters 67 = .ok (.iload 6, 2) := by decide +kernel
theorem dX8_letters_69 : decode cX8_letters 69 = .ok (.ifCond .ne 7, 3) := by decide +kernel
theorem dX8_letters_72 : decode cX8_letters 72 = .ok (.iconst 0, 1) := by decide +kernel
theorem dX8_letters_73 : decode cX8_letters 73 = .ok (.goto 4, 3) := by decide +kernel
theorem dX8_letters_76 : decode cX8_letters 76 = .ok (.iconst 1, 1) := by decide +kernel
theorem dX8_letters_77 : decode cX8_letters 77 = .ok (.iadd, 1) := by decide +kernel
theorem dX8_letters_78 : decode cX8_letters 78 = .ok (.istore_n 3, 1) := by decide +kernel
theorem dX8_letters_79 : decode cX8_letters 79 = .ok (.iinc 5 1, 3) := by decide +kernel
theorem dX8_letters_82 : decode cX8_letters 82 = .ok (.goto (-74), 3) := by decide +kernel
theorem dX8_letters_85 : decode cX8_letters 85 = .ok (.aload_n 0, 1) := by decide +kernel
theorem dX8_letters_86 : decode cX8_letters 86 = .ok (.getfield 66, 3) := by decide +kernel
theorem dX8_letters_89 : decode cX8_letters 89 = .ok (.iload_n 3, 1) := by decide +kernel
theorem dX8_letters_90 : decode cX8_letters 90 = .ok (.iadd, 1) := by decide +kernel
theorem dX8_letters_91 : decode cX8_letters 91 = .ok (.bipush 14, 2) := by decide +kernel
theorem dX8_letters_93 : decode cX8_letters 93 = .ok (.if_icmp .le 6, 3) := by decide +kernel
theorem dX8_letters_96 : decode cX8_letters 96 = .ok (.bipush (-104), 2) := by decide +kernel
theorem dX8_letters_98 : decode cX8_letters 98 = .ok (.ireturn, 1) := by decide +kernel
theorem dX8_letters_99 : decode cX8_letters 99 = .ok (.iconst 0, 1) := by decide +kernel
theorem dX8_letters_100 : decode cX8_letters 100 = .ok (.istore 5, 2) := by decide +kernel
theorem dX8_letters_102 : decode cX8_letters 102 = .ok (.iload 5, 2) := by decide +kernel
theorem dX8_letters_104 : decode cX8_letters 104 = .ok (.iload_n 3, 1) := by decide +kernel
theorem dX8_letters_105 : decode cX8_letters 105 = .ok (.if_icmp .ge 30, 3) := by decide +kernel
theorem dX8_letters_108 : decode cX8_letters 108 = .ok (.aload_n 0, 1) := by decide +kernel
theorem dX8_letters_109 : decode cX8_letters 109 = .ok (.getfield 28, 3) := by decide +kernel
theorem dX8_letters_112 : decode cX8_letters 112 = .ok (.aload_n 0, 1) := by decide +kernel
theorem dX8_letters_113 : decode cX8_letters 113 = .ok (.getfield 66, 3) := by decide +kernel
theorem dX8_letters_116 : decode cX8_letters 116 = .ok (.iload 5, 2) := by decide +kernel
theorem dX8_letters_118 : decode cX8_letters 118 = .ok (.iadd, 1) := by decide +kernel
theorem dX8_letters_119 : decode cX8_letters 119 = .ok (.lload_n 1, 1) := by decide +kernel
theorem dX8_letters_120 : decode cX8_letters 120 = .ok (.bipush 8, 2) := by decide +kernel
theorem dX8_letters_122 : decode cX8_letters 122 = .ok (.iload 5, 2) := by decide +kernel
theorem dX8_letters_124 : decode cX8_letters 124 = .ok (.imul, 1) := by decide +kernel
theorem dX8_letters_125 : decode cX8_letters 125 = .ok (.lshr, 1) := by decide +kernel
theorem dX8_letters_126 : decode cX8_letters 126 = .ok (.l2i, 1) := by decide +kernel
theorem dX8_letters_127 : decode cX8_letters 127 = .ok (.i2b, 1) := by decide +kernel
theorem dX8_letters_128 : decode cX8_letters 128 = .ok (.bastore, 1) := by decide +kernel
theorem dX8_letters_129 : decode cX8_letters 129 = .ok (.iinc 5 1, 3) := by decide +kernel
theorem dX8_letters_132 : decode cX8_letters 132 = .ok (.goto (-30), 3) := by decide +kernel
theorem dX8_letters_135 : decode cX8_letters 135 = .ok (.aload_n 0, 1) := by decide +kernel
theorem dX8_letters_136 : decode cX8_letters 136 = .ok (.dup, 1) := by decide +kernel
theorem dX8_letters_137 : decode cX8_letters 137 = .ok (.getfield 66, 3) := by decide +kernel
theorem dX8_letters_140 : decode cX8_letters 140 = .ok (.iload_n 3, 1) := by decide +kernel
theorem dX8_letters_141 : decode cX8_letters 141 = .ok (.iadd, 1) := by decide +kernel
theorem dX8_letters_142 : decode cX8_letters 142 = .ok (.putfield 66, 3) := by decide +kernel
theorem dX8_letters_145 : decode cX8_letters 145 = .ok (.aload_n 0, 1) := by decide +kernel
theorem dX8_letters_146 : decode cX8_letters 146 = .ok (.getfield 66, 3) := by decide +kernel
theorem dX8_letters_149 : decode cX8_letters 149 = .ok (.ireturn, 1) := by decide +kernel
theorem dX8_blank_0 : decode cX8_blank 0 = .ok (.aload_n 0, 1) := by decide +kernel
theorem dX8_blank_1 : decode cX8_blank 1 = .ok (.getfield 66, 3) := by decide +kernel
theorem dX8_blank_4 : decode cX8_blank 4 = .ok (.istore_n 1, 1) := by decide +kernel
theorem dX8_blank_5 : decode cX8_blank 5 = .ok (.aload_n 0, 1) := by decide +kernel
theorem dX8_blank_6 : decode cX8_blank 6 = .ok (.iconst 0, 1) := by decide +kernel
theorem dX8_blank_7 : decode cX8_blank 7 = .ok (.putfield 66, 3) := by decide +kernel
theorem dX8_blank_10 : decode cX8_blank 10 = .ok (.iload_n 1, 1) := by decide +kernel
theorem dX8_blank_11 : decode cX8_blank 11 = .ok (.ireturn, 1) := by decide +kernel
theorem dX8_kindBy_0 : decode cX8_kindBy 0 = .ok (.iload_n 0, 1) := by decide +kernel
theorem dX8_kindBy_1 : decode cX8_kindBy 1 = .ok (.bipush 46, 2) := by decide +kernel
theorem dX8_kindBy_3 : decode cX8_kindBy 3 = .ok (.if_icmp .ne 7, 3) := by decide +kernel
theorem dX8_kindBy_6 : decode cX8_kindBy 6 = .ok (.iconst 0, 1) := by decide +kernel
theorem dX8_kindBy_7 : decode cX8_kindBy 7 = .ok (.goto 44, 3) := by decide +kernel
theorem dX8_kindBy_10 : decode cX8_kindBy 10 = .ok (.iload_n 0, 1) := by decide +kernel
theorem dX8_kindBy_11 : decode cX8_kindBy 11 = .ok (.bipush 62, 2) := by decide +kernel
theorem dX8_kindBy_13 : decode cX8_kindBy 13 = .ok (.if_icmp .ne 7, 3) := by decide +kernel
theorem dX8_kindBy_16 : decode cX8_kindBy 16 = .ok (.iconst 1, 1) := by decide +kernel
theorem dX8_kindBy_17 : decode cX8_kindBy 17 = .ok (.goto 34, 3) := by decide +kernel
theorem dX8_kindBy_20 : decode cX8_kindBy 20 = .ok (.iload_n 0, 1) := by decide +kernel
theorem dX8_kindBy_21 : decode cX8_kindBy 21 = .ok (.bipush 60, 2) := by decide +kernel
theorem dX8_kindBy_23 : decode cX8_kindBy 23 = .ok (.if_icmp .ne 7, 3) := by decide +kernel
theorem dX8_kindBy_26 : decode cX8_kindBy 26 = .ok (.iconst 2, 1) := by decide +kernel
theorem dX8_kindBy_27 : decode cX8_kindBy 27 = .ok (.goto 24, 3) := by decide +kernel
theorem dX8_kindBy_30 : decode cX8_kindBy 30 = .ok (.iload_n 0, 1) := by decide +kernel
theorem dX8_kindBy_31 : decode cX8_kindBy 31 = .ok (.bipush 103, 2) := by decide +kernel
theorem dX8_kindBy_33 : decode cX8_kindBy 33 = .ok (.if_icmp .ne 7, 3) := by decide +kernel
theorem dX8_kindBy_36 : decode cX8_kindBy 36 = .ok (.iconst 4, 1) := by decide +kernel
theorem dX8_kindBy_37 : decode cX8_kindBy 37 = .ok (.goto 14, 3) := by decide +kernel
theorem dX8_kindBy_40 : decode cX8_kindBy 40 = .ok (.iload_n 0, 1) := by decide +kernel
theorem dX8_kindBy_41 : decode cX8_kindBy 41 = .ok (.bipush 111, 2) := by decide +kernel
theorem dX8_kindBy_43 : decode cX8_kindBy 43 = .ok (.if_icmp .ne 7, 3) := by decide +kernel
theorem dX8_kindBy_46 : decode cX8_kindBy 46 = .ok (.iconst 3, 1) := by decide +kernel
theorem dX8_kindBy_47 : decode cX8_kindBy 47 = .ok (.goto 4, 3) := by decide +kernel
theorem dX8_kindBy_50 : decode cX8_kindBy 50 = .ok (.iconst (-1), 1) := by decide +kernel
theorem dX8_kindBy_51 : decode cX8_kindBy 51 = .ok (.ireturn, 1) := by decide +kernel
theorem dX8_signBy_0 : decode cX8_signBy 0 = .ok (.iload_n 0, 1) := by decide +kernel
theorem dX8_signBy_1 : decode cX8_signBy 1 = .ok (.bipush 97, 2) := by decide +kernel
theorem dX8_signBy_3 : decode cX8_signBy 3 = .ok (.if_icmp .ne 7, 3) := by decide +kernel
theorem dX8_signBy_6 : decode cX8_signBy 6 = .ok (.iconst 1, 1) := by decide +kernel
theorem dX8_signBy_7 : decode cX8_signBy 7 = .ok (.goto 35, 3) := by decide +kernel
theorem dX8_signBy_10 : decode cX8_signBy 10 = .ok (.iload_n 0, 1) := by decide +kernel
theorem dX8_signBy_11 : decode cX8_signBy 11 = .ok (.bipush 98, 2) := by decide +kernel
theorem dX8_signBy_13 : decode cX8_signBy 13 = .ok (.if_icmp .ne 7, 3) := by decide +kernel
theorem dX8_signBy_16 : decode cX8_signBy 16 = .ok (.iconst 2, 1) := by decide +kernel
theorem dX8_signBy_17 : decode cX8_signBy 17 = .ok (.goto 25, 3) := by decide +kernel
theorem dX8_signBy_20 : decode cX8_signBy 20 = .ok (.iload_n 0, 1) := by decide +kernel
theorem dX8_signBy_21 : decode cX8_signBy 21 = .ok (.bipush 114, 2) := by decide +kernel
theorem dX8_signBy_23 : decode cX8_signBy 23 = .ok (.if_icmp .ne 7, 3) := by decide +kernel
theorem dX8_signBy_26 : decode cX8_signBy 26 = .ok (.iconst 4, 1) := by decide +kernel
theorem dX8_signBy_27 : decode cX8_signBy 27 = .ok (.goto 15, 3) := by decide +kernel
theorem dX8_signBy_30 : decode cX8_signBy 30 = .ok (.iload_n 0, 1) := by decide +kernel
theorem dX8_signBy_31 : decode cX8_signBy 31 = .ok (.bipush 116, 2) := by decide +kernel
theorem dX8_signBy_33 : decode cX8_signBy 33 = .ok (.if_icmp .ne 8, 3) := by decide +kernel
theorem dX8_signBy_36 : decode cX8_signBy 36 = .ok (.bipush 8, 2) := by decide +kernel
theorem dX8_signBy_38 : decode cX8_signBy 38 = .ok (.goto 4, 3) := by decide +kernel
theorem dX8_signBy_41 : decode cX8_signBy 41 = .ok (.iconst 0, 1) := by decide +kernel
theorem dX8_signBy_42 : decode cX8_signBy 42 = .ok (.ireturn, 1) := by decide +kernel
theorem dX8_readBrook_0 : decode cX8_readBrook 0 = .ok (.aload_n 0, 1) := by decide +kernel
theorem dX8_readBrook_1 : decode cX8_readBrook 1 = .ok (.iconst 0, 1) := by decide +kernel
theorem dX8_readBrook_2 : decode cX8_readBrook 2 = .ok (.putfield 70, 3) := by decide +kernel
theorem dX8_readBrook_5 : decode cX8_readBrook 5 = .ok (.aload_n 0, 1) := by decide +kernel
theorem dX8_readBrook_6 : decode cX8_readBrook 6 = .ok (.iconst 0, 1) := by decide +kernel
theorem dX8_readBrook_7 : decode cX8_readBrook 7 = .ok (.putfield 73, 3) := by decide +kernel
theorem dX8_readBrook_10 : decode cX8_readBrook 10 = .ok (.iconst 0, 1) := by decide +kernel
theorem dX8_readBrook_11 : decode cX8_readBrook 11 = .ok (.istore_n 1, 1) := by decide +kernel
theorem dX8_readBrook_12 : decode cX8_readBrook 12 = .ok (.iconst 0, 1) := by decide +kernel
theorem dX8_readBrook_13 : decode cX8_readBrook 13 = .ok (.istore_n 2, 1) := by decide +kernel
theorem dX8_readBrook_14 : decode cX8_readBrook 14 = .ok (.iconst 1, 1) := by decide +kernel
theorem dX8_readBrook_15 : decode cX8_readBrook 15 = .ok (.istore_n 3, 1) := by decide +kernel
theorem dX8_readBrook_16 : decode cX8_readBrook 16 = .ok (.iload_n 2, 1) := by decide +kernel
theorem dX8_readBrook_17 : decode cX8_readBrook 17 = .ok (.aload_n 0, 1) := by decide +kernel
theorem dX8_readBrook_18 : decode cX8_readBrook 18 = .ok (.getfield 66, 3) := by decide +kernel
theorem dX8_readBrook_21 : decode cX8_readBrook 21 = .ok (.if_icmp .ge 149, 3) := by decide +kernel
theorem dX8_readBrook_24 : decode cX8_readBrook 24 = .ok (.iload_n 3, 1) := by decide +kernel
theorem dX8_readBrook_25 : decode cX8_readBrook 25 = .ok (.ifCond .eq 145, 3) := by decide +kernel
theorem dX8_readBrook_28 : decode cX8_readBrook 28 = .ok (.aload_n 0, 1) := by decide +kernel
theorem dX8_readBrook_29 : decode cX8_readBrook 29 = .ok (.getfield 28, 3) := by decide +kernel
theorem dX8_readBrook_32 : decode cX8_readBrook 32 = .ok (.iload_n 2, 1) := by decide +kernel
theorem dX8_readBrook_33 : decode cX8_readBrook 33 = .ok (.baload, 1) := by decide +kernel
theorem dX8_readBrook_34 : decode cX8_readBrook 34 = .ok (.istore 4, 2) := by decide +kernel
theorem dX8_readBrook_36 : decode cX8_readBrook 36 = .ok (.iload_n 1, 1) := by decide +kernel
theorem dX8_readBrook_37 : decode cX8_readBrook 37 = .ok (.ifCond .eq 46, 3) := by decide +kernel
theorem dX8_readBrook_40 : decode cX8_readBrook 40 = .ok (.iload 4, 2) := by decide +kernel
theorem dX8_readBrook_42 : decode cX8_readBrook 42 = .ok (.invokestatic 76, 3) := by decide +kernel
theorem dX8_readBrook_45 : decode cX8_readBrook 45 = .ok (.aload_n 0, 1) := by decide +kernel
theorem dX8_readBrook_46 : decode cX8_readBrook 46 = .ok (.getfield 73, 3) := by decide +kernel
theorem dX8_readBrook_49 : decode cX8_readBrook 49 = .ok (.if_icmp .le 7, 3) := by decide +kernel
theorem dX8_readBrook_52 : decode cX8_readBrook 52 = .ok (.iconst 1, 1) := by decide +kernel
theorem dX8_readBrook_53 : decode cX8_readBrook 53 = .ok (.goto 4, 3) := by decide +kernel
theorem dX8_readBrook_56 : decode cX8_readBrook 56 = .ok (.iconst 0, 1) := by decide +kernel
theorem dX8_readBrook_57 : decode cX8_readBrook 57 = .ok (.istore_n 3, 1) := by decide +kernel
theorem dX8_readBrook_58 : decode cX8_readBrook 58 = .ok (.aload_n 0, 1) := by decide +kernel
theorem dX8_readBrook_59 : decode cX8_readBrook 59 = .ok (.dup, 1) := by decide +kernel
theorem dX8_readBrook_60 : decode cX8_readBrook 60 = .ok (.getfield 73, 3) := by decide +kernel
theorem dX8_readBrook_63 : decode cX8_readBrook 63 = .ok (.iload_n 3, 1) := by decide +kernel
theorem dX8_readBrook_64 : decode cX8_readBrook 64 = .ok (.ifCond .eq 11, 3) := by decide +kernel
theorem dX8_readBrook_67 : decode cX8_readBrook 67 = .ok (.iload 4, 2) := by decide +kernel
theorem dX8_readBrook_69 : decode cX8_readBrook 69 = .ok (.invokestatic 76, 3) := by decide +kernel
theorem dX8_readBrook_72 : decode cX8_readBrook 72 = .ok (.goto 4, 3) := by decide +kernel
theorem dX8_readBrook_75 : decode cX8_readBrook 75 = .ok (.iconst 0, 1) := by decide +kernel
theorem dX8_readBrook_76 : decode cX8_readBrook 76 = .ok (.iadd, 1) := by decide +kernel
theorem dX8_readBrook_77 : decode cX8_readBrook 77 = .ok (.putfield 73, 3) := by decide +kernel
theorem dX8_readBrook_80 : decode cX8_readBrook 80 = .ok (.goto 75, 3) := by decide +kernel
theorem dX8_readBrook_83 : decode cX8_readBrook 83 = .ok (.iload 4, 2) := by decide +kernel
theorem dX8_readBrook_85 : decode cX8_readBrook 85 = .ok (.bipush 59, 2) := by decide +kernel
theorem dX8_readBrook_87 : decode cX8_readBrook 87 = .ok (.if_icmp .ne 16, 3) := by decide +kernel
theorem dX8_readBrook_90 : decode cX8_readBrook 90 = .ok (.aload_n 0, 1) := by decide +kernel
theorem dX8_readBrook_91 : decode cX8_readBrook 91 = .ok (.getfield 70, 3) := by decide +kernel
theorem dX8_readBrook_94 : decode cX8_readBrook 94 = .ok (.iconst 2, 1) := by decide +kernel
theorem dX8_readBrook_95 : decode cX8_readBrook 95 = .ok (.if_icmp .le 8, 3) := by decide +kernel
theorem dX8_readBrook_98 : decode cX8_readBrook 98 = .ok (.iconst 1, 1) := by decide +kernel
theorem dX8_readBrook_99 : decode cX8_readBrook 99 = .ok (.istore_n 1, 1) := by decide +kernel
theorem dX8_readBrook_100 : decode cX8_readBrook 100 = .ok (.goto 55, 3) := by decide +kernel
theorem dX8_readBrook_103 : decode cX8_readBrook 103 = .ok (.iload 4, 2) := by decide +kernel
theorem dX8_readBrook_105 : decode cX8_readBrook 105 = .ok (.invokestatic 80, 3) := by decide +kernel
theorem dX8_readBrook_108 : decode cX8_readBrook 108 = .ok (.iconst (-1), 1) := by decide +kernel
theorem dX8_readBrook_109 : decode cX8_readBrook 109 = .ok (.if_icmp .eq 16, 3) := by decide +kernel
theorem dX8_readBrook_112 : decode cX8_readBrook 112 = .ok (.aload_n 0, 1) := by decide +kernel
theorem dX8_readBrook_113 : decode cX8_readBrook 113 = .ok (.getfield 70, 3) := by decide +kernel
theorem dX8_readBrook_116 : decode cX8_readBrook 116 = .ok (.bipush 7, 2) := by decide +kernel
theorem dX8_readBrook_118 : decode cX8_readBrook 118 = .ok (.if_icmp .ge 7, 3) := by decide +kernel
theorem dX8_readBrook_121 : decode cX8_readBrook 121 = .ok (.iconst 1, 1) := by decide +kernel
theorem dX8_readBrook_122 : decode cX8_readBrook 122 = .ok (.goto 4, 3) := by decide +kernel
theorem dX8_readBrook_125 : decode cX8_readBrook 125 = .ok (.iconst 0, 1) := by decide +kernel
theorem dX8_readBrook_126 : decode cX8_readBrook 126 = .ok (.istore_n 3, 1) := by decide +kernel
theorem dX8_readBrook_127 : decode cX8_readBrook 127 = .ok (.iload_n 3, 1) := by decide +kernel
theorem dX8_readBrook_128 : decode cX8_readBrook 128 = .ok (.ifCond .eq 27, 3) := by decide +kernel
theorem dX8_readBrook_131 : decode cX8_readBrook 131 = .ok (.aload_n 0, 1) := by decide +kernel
theorem dX8_readBrook_132 : decode cX8_readBrook 132 = .ok (.getfield 32, 3) := by decide +kernel
theorem dX8_readBrook_135 : decode cX8_readBrook 135 = .ok (.aload_n 0, 1) := by decide +kernel
theorem dX8_readBrook_136 : decode cX8_readBrook 136 = .ok (.getfield 70, 3) := by decide +kernel
theorem dX8_readBrook_139 : decode cX8_readBrook 139 = .ok (.iload 4, 2) := by decide +kernel
theorem dX8_readBrook_141 : decode cX8_readBrook 141 = .ok (.invokestatic 80, 3) := by decide +kernel
theorem dX8_readBrook_144 : decode cX8_readBrook 144 = .ok (.iastore, 1) := by decide +kernel
theorem dX8_readBrook_145 : decode cX8_readBrook 145 = .ok (.aload_n 0, 1) := by decide +kernel
theorem dX8_readBrook_146 : decode cX8_readBrook 146 = .ok (.dup, 1) := by decide +kernel
theorem dX8_readBrook_147 : decode cX8_readBrook 147 = .ok (.getfield 70, 3) := by decide +kernel
theorem dX8_readBrook_150 : decode cX8_readBrook 150 = .ok (.iconst 1, 1) := by decide +kernel
theorem dX8_readBrook_151 : decode cX8_readBrook 151 = .ok (.iadd, 1) := by decide +kernel
theorem dX8_readBrook_152 : decode cX8_readBrook 152 = .ok (.putfield 70, 3) := by decide +kernel
theorem dX8_readBrook_155 : decode cX8_readBrook 155 = .ok (.iload_n 2, 1) := by decide +kernel
theorem dX8_readBrook_156 : decode cX8_readBrook 156 = .ok (.iload_n 3, 1) := by decide +kernel
theorem dX8_readBrook_157 : decode cX8_readBrook 157 = .ok (.ifCond .eq 7, 3) := by decide +kernel
theorem dX8_readBrook_160 : decode cX8_readBrook 160 = .ok (.iconst 1, 1) := by decide +kernel
theorem dX8_readBrook_161 : decode cX8_readBrook 161 = .ok (.goto 4, 3) := by decide +kernel
theorem dX8_readBrook_164 : decode cX8_readBrook 164 = .ok (.iconst 0, 1) := by decide +kernel
theorem dX8_readBrook_165 : decode cX8_readBrook 165 = .ok (.iadd, 1) := by decide +kernel
theorem dX8_readBrook_166 : decode cX8_readBrook 166 = .ok (.istore_n 2, 1) := by decide +kernel
theorem dX8_readBrook_167 : decode cX8_readBrook 167 = .ok (.goto (-151), 3) := by decide +kernel
theorem dX8_readBrook_170 : decode cX8_readBrook 170 = .ok (.aload_n 0, 1) := by decide +kernel
theorem dX8_readBrook_171 : decode cX8_readBrook 171 = .ok (.iload_n 2, 1) := by decide +kernel
theorem dX8_readBrook_172 : decode cX8_readBrook 172 = .ok (.putfield 83, 3) := by decide +kernel
theorem dX8_readBrook_175 : decode cX8_readBrook 175 = .ok (.iconst 0, 1) := by decide +kernel
theorem dX8_readBrook_176 : decode cX8_readBrook 176 = .ok (.istore 4, 2) := by decide +kernel
theorem dX8_readBrook_178 : decode cX8_readBrook 178 = .ok (.iconst 0, 1) := by decide +kernel
theorem dX8_readBrook_179 : decode cX8_readBrook 179 = .ok (.istore 5, 2) := by decide +kernel
theorem dX8_readBrook_181 : decode cX8_readBrook 181 = .ok (.iload 5, 2) := by decide +kernel
theorem dX8_readBrook_183 : decode cX8_readBrook 183 = .ok (.aload_n 0, 1) := by decide +kernel
theorem dX8_readBrook_184 : decode cX8_readBrook 184 = .ok (.getfield 70, 3) := by decide +kernel
theorem dX8_readBrook_187 : decode cX8_readBrook 187 = .ok (.if_icmp .ge 21, 3) := by decide +kernel
theorem dX8_readBrook_190 : decode cX8_readBrook 190 = .ok (.iload 4, 2) := by decide +kernel
theorem dX8_readBrook_192 : decode cX8_readBrook 192 = .ok (.aload_n 0, 1) := by decide +kernel
theorem dX8_readBrook_193 : decode cX8_readBrook 193 = .ok (.getfield 32, 3) := by decide +kernel
theorem dX8_readBrook_196 : decode cX8_readBrook 196 = .ok (.iload 5, 2) := by decide +kernel
theorem dX8_readBrook_198 : decode cX8_readBrook 198 = .ok (.iaload, 1) := by decide +kernel
theorem dX8_readBrook_199 : decode cX8_readBrook 199 = .ok (.iadd, 1) := by decide +kernel
theorem dX8_readBrook_200 : decode cX8_readBrook 200 = .ok (.istore 4, 2) := by decide +kernel
theorem dX8_readBrook_202 : decode cX8_readBrook 202 = .ok (.iinc 5 1, 3) := by decide +kernel
theorem dX8_readBrook_205 : decode cX8_readBrook 205 = .ok (.goto (-24), 3) := by decide +kernel
theorem dX8_readBrook_208 : decode cX8_readBrook 208 = .ok (.aload_n 0, 1) := by decide +kernel
theorem dX8_readBrook_209 : decode cX8_readBrook 209 = .ok (.iload_n 2, 1) := by decide +kernel
theorem dX8_readBrook_210 : decode cX8_readBrook 210 = .ok (.aload_n 0, 1) := by decide +kernel
theorem dX8_readBrook_211 : decode cX8_readBrook 211 = .ok (.getfield 66, 3) := by decide +kernel
theorem dX8_readBrook_214 : decode cX8_readBrook 214 = .ok (.if_icmp .ne 31, 3) := by decide +kernel
theorem dX8_readBrook_217 : decode cX8_readBrook 217 = .ok (.aload_n 0, 1) := by decide +kernel
theorem dX8_readBrook_218 : decode cX8_readBrook 218 = .ok (.getfield 70, 3) := by decide +kernel
theorem dX8_readBrook_221 : decode cX8_readBrook 221 = .ok (.iconst 2, 1) := by decide +kernel
theorem dX8_readBrook_222 : decode cX8_readBrook 222 = .ok (.if_icmp .le 23, 3) := by decide +kernel
theorem dX8_readBrook_225 : decode cX8_readBrook 225 = .ok (.iload 4, 2) := by decide +kernel
theorem dX8_readBrook_227 : decode cX8_readBrook 227 = .ok (.ifCond .le 18, 3) := by decide +kernel
theorem dX8_readBrook_230 : decode cX8_readBrook 230 = .ok (.iload_n 1, 1) := by decide +kernel
theorem dX8_readBrook_231 : decode cX8_readBrook 231 = .ok (.ifCond .eq 10, 3) := by decide +kernel
theorem dX8_readBrook_234 : decode cX8_readBrook 234 = .ok (.aload_n 0, 1) := by decide +kernel
theorem dX8_readBrook_235 : decode cX8_readBrook 235 = .ok (.getfield 73, 3) := by decide +kernel
theorem dX8_readBrook_238 : decode cX8_readBrook 238 = .ok (.ifCond .le 7, 3) := by decide +kernel
theorem dX8_readBrook_241 : decode cX8_readBrook 241 = .ok (.iconst 1, 1) := by decide +kernel
theorem dX8_readBrook_242 : decode cX8_readBrook 242 = .ok (.goto 4, 3) := by decide +kernel
theorem dX8_readBrook_245 : decode cX8_readBrook 245 = .ok (.iconst 0, 1) := by decide +kernel
theorem dX8_readBrook_246 : decode cX8_readBrook 246 = .ok (.putfield 86, 3) := by decide +kernel
theorem dX8_readBrook_249 : decode cX8_readBrook 249 = .ok (.return_, 1) := by decide +kernel
theorem dX8_fault_0 : decode cX8_fault 0 = .ok (.aload_n 0, 1) := by decide +kernel
theorem dX8_fault_1 : decode cX8_fault 1 = .ok (.invokevirtual 90, 3) := by decide +kernel
theorem dX8_fault_4 : decode cX8_fault 4 = .ok (.aload_n 0, 1) := by decide +kernel
theorem dX8_fault_5 : decode cX8_fault 5 = .ok (.getfield 83, 3) := by decide +kernel
theorem dX8_fault_8 : decode cX8_fault 8 = .ok (.ireturn, 1) := by decide +kernel
theorem dX8_brook_0 : decode cX8_brook 0 = .ok (.aload_n 0, 1) := by decide +kernel
theorem dX8_brook_1 : decode cX8_brook 1 = .ok (.invokevirtual 90, 3) := by decide +kernel
theorem dX8_brook_4 : decode cX8_brook 4 = .ok (.aload_n 0, 1) := by decide +kernel
theorem dX8_brook_5 : decode cX8_brook 5 = .ok (.getfield 86, 3) := by decide +kernel
theorem dX8_brook_8 : decode cX8_brook 8 = .ok (.ifCond .ne 6, 3) := by decide +kernel
theorem dX8_brook_11 : decode cX8_brook 11 = .ok (.bipush (-103), 2) := by decide +kernel
theorem dX8_brook_13 : decode cX8_brook 13 = .ok (.ireturn, 1) := by decide +kernel
theorem dX8_brook_14 : decode cX8_brook 14 = .ok (.aload_n 0, 1) := by decide +kernel
theorem dX8_brook_15 : decode cX8_brook 15 = .ok (.aload_n 0, 1) := by decide +kernel
theorem dX8_brook_16 : decode cX8_brook 16 = .ok (.getfield 70, 3) := by decide +kernel
theorem dX8_brook_19 : decode cX8_brook 19 = .ok (.putfield 93, 3) := by decide +kernel
theorem dX8_brook_22 : decode cX8_brook 22 = .ok (.aload_n 0, 1) := by decide +kernel
theorem dX8_brook_23 : decode cX8_brook 23 = .ok (.aload_n 0, 1) := by decide +kernel
theorem dX8_brook_24 : decode cX8_brook 24 = .ok (.getfield 73, 3) := by decide +kernel
theorem dX8_brook_27 : decode cX8_brook 27 = .ok (.iconst 2, 1) := by decide +kernel
theorem dX8_brook_28 : decode cX8_brook 28 = .ok (.irem, 1) := by decide +kernel
theorem dX8_brook_29 : decode cX8_brook 29 = .ok (.iconst 1, 1) := by decide +kernel
theorem dX8_brook_30 : decode cX8_brook 30 = .ok (.if_icmp .ne 7, 3) := by decide +kernel
theorem dX8_brook_33 : decode cX8_brook 33 = .ok (.iconst 1, 1) := by decide +kernel
theorem dX8_brook_34 : decode cX8_brook 34 = .ok (.goto 4, 3) := by decide +kernel
theorem dX8_brook_37 : decode cX8_brook 37 = .ok (.iconst 0, 1) := by decide +kernel
theorem dX8_brook_38 : decode cX8_brook 38 = .ok (.putfield 96, 3) := by decide +kernel
theorem dX8_brook_41 : decode cX8_brook 41 = .ok (.aload_n 0, 1) := by decide +kernel
theorem dX8_brook_42 : decode cX8_brook 42 = .ok (.aload_n 0, 1) := by decide +kernel
theorem dX8_brook_43 : decode cX8_brook 43 = .ok (.getfield 73, 3) := by decide +kernel
theorem dX8_brook_46 : decode cX8_brook 46 = .ok (.iconst 2, 1) := by decide +kernel
theorem dX8_brook_47 : decode cX8_brook 47 = .ok (.idiv, 1) := by decide +kernel
theorem dX8_brook_48 : decode cX8_brook 48 = .ok (.iconst 2, 1) := by decide +kernel
theorem dX8_brook_49 : decode cX8_brook 49 = .ok (.irem, 1) := by decide +kernel
theorem dX8_brook_50 : decode cX8_brook 50 = .ok (.iconst 1, 1) := by decide +kernel
theorem dX8_brook_51 : decode cX8_brook 51 = .ok (.if_icmp .ne 7, 3) := by decide +kernel
theorem dX8_brook_54 : decode cX8_brook 54 = .ok (.iconst 1, 1) := by decide +kernel
theorem dX8_brook_55 : decode cX8_brook 55 = .ok (.goto 4, 3) := by decide +kernel
theorem dX8_brook_58 : decode cX8_brook 58 = .ok (.iconst 0, 1) := by decide +kernel
theorem dX8_brook_59 : decode cX8_brook 59 = .ok (.putfield 99, 3) := by decide +kernel
theorem dX8_brook_62 : decode cX8_brook 62 = .ok (.aload_n 0, 1) := by decide +kernel
theorem dX8_brook_63 : decode cX8_brook 63 = .ok (.aload_n 0, 1) := by decide +kernel
theorem dX8_brook_64 : decode cX8_brook 64 = .ok (.getfield 73, 3) := by decide +kernel
theorem dX8_brook_67 : decode cX8_brook 67 = .ok (.iconst 4, 1) := by decide +kernel
theorem dX8_brook_68 : decode cX8_brook 68 = .ok (.idiv, 1) := by decide +kernel
theorem dX8_brook_69 : decode cX8_brook 69 = .ok (.iconst 2, 1) := by decide +kernel
theorem dX8_brook_70 : decode cX8_brook 70 = .ok (.irem, 1) := by decide +kernel
theorem dX8_brook_71 : decode cX8_brook 71 = .ok (.iconst 1, 1) := by decide +kernel
theorem dX8_brook_72 : decode cX8_brook 72 = .ok (.if_icmp .ne 7, 3) := by decide +kernel
theorem dX8_brook_75 : decode cX8_brook 75 = .ok (.iconst 1, 1) := by decide +kernel
theorem dX8_brook_76 : decode cX8_brook 76 = .ok (.goto 4, 3) := by decide +kernel
theorem dX8_brook_79 : decode cX8_brook 79 = .ok (.iconst 0, 1) := by decide +kernel
theorem dX8_brook_80 : decode cX8_brook 80 = .ok (.putfield 102, 3) := by decide +kernel
theorem dX8_brook_83 : decode cX8_brook 83 = .ok (.aload_n 0, 1) := by decide +kernel
theorem dX8_brook_84 : decode cX8_brook 84 = .ok (.aload_n 0, 1) := by decide +kernel
theorem dX8_brook_85 : decode cX8_brook 85 = .ok (.getfield 73, 3) := by decide +kernel
theorem dX8_brook_88 : decode cX8_brook 88 = .ok (.bipush 8, 2) := by decide +kernel
theorem dX8_brook_90 : decode cX8_brook 90 = .ok (.idiv, 1) := by decide +kernel
theorem dX8_brook_91 : decode cX8_brook 91 = .ok (.iconst 1, 1) := by decide +kernel
theorem dX8_brook_92 : decode cX8_brook 92 = .ok (.if_icmp .ne 7, 3) := by decide +kernel
theorem dX8_brook_95 : decode cX8_brook 95 = .ok (.iconst 1, 1) := by decide +kernel
theorem dX8_brook_96 : decode cX8_brook 96 = .ok (.goto 4, 3) := by decide +kernel
theorem dX8_brook_99 : decode cX8_brook 99 = .ok (.iconst 0, 1) := by decide +kernel
theorem dX8_brook_100 : decode cX8_brook 100 = .ok (.putfield 105, 3) := by decide +kernel
theorem dX8_brook_103 : decode cX8_brook 103 = .ok (.aload_n 0, 1) := by decide +kernel
theorem dX8_brook_104 : decode cX8_brook 104 = .ok (.iconst 0, 1) := by decide +kernel
theorem dX8_brook_105 : decode cX8_brook 105 = .ok (.putfield 108, 3) := by decide +kernel
theorem dX8_brook_108 : decode cX8_brook 108 = .ok (.iconst 0, 1) := by decide +kernel
theorem dX8_brook_109 : decode cX8_brook 109 = .ok (.istore_n 1, 1) := by decide +kernel
theorem dX8_brook_110 : decode cX8_brook 110 = .ok (.iload_n 1, 1) := by decide +kernel
theorem dX8_brook_111 : decode cX8_brook 111 = .ok (.aload_n 0, 1) := by decide +kernel
theorem dX8_brook_112 : decode cX8_brook 112 = .ok (.getfield 93, 3) := by decide +kernel
theorem dX8_brook_115 : decode cX8_brook 115 = .ok (.if_icmp .ge 84, 3) := by decide +kernel
theorem dX8_brook_118 : decode cX8_brook 118 = .ok (.aload_n 0, 1) := by decide +kernel
theorem dX8_brook_119 : decode cX8_brook 119 = .ok (.getfield 7, 3) := by decide +kernel
theorem dX8_brook_122 : decode cX8_brook 122 = .ok (.iload_n 1, 1) := by decide +kernel
theorem dX8_brook_123 : decode cX8_brook 123 = .ok (.aload_n 0, 1) := by decide +kernel
theorem dX8_brook_124 : decode cX8_brook 124 = .ok (.getfield 32, 3) := by decide +kernel
theorem dX8_brook_127 : decode cX8_brook 127 = .ok (.iload_n 1, 1) := by decide +kernel
theorem dX8_brook_128 : decode cX8_brook 128 = .ok (.iaload, 1) := by decide +kernel
theorem dX8_brook_129 : decode cX8_brook 129 = .ok (.iastore, 1) := by decide +kernel
theorem dX8_brook_130 : decode cX8_brook 130 = .ok (.aload_n 0, 1) := by decide +kernel
theorem dX8_brook_131 : decode cX8_brook 131 = .ok (.getfield 13, 3) := by decide +kernel
theorem dX8_brook_134 : decode cX8_brook 134 = .ok (.iload_n 1, 1) := by decide +kernel
theorem dX8_brook_135 : decode cX8_brook 135 = .ok (.aload_n 0, 1) := by decide +kernel
theorem dX8_brook_136 : decode cX8_brook 136 = .ok (.getfield 32, 3) := by decide +kernel
theorem dX8_brook_139 : decode cX8_brook 139 = .ok (.iload_n 1, 1) := by decide +kernel
theorem dX8_brook_140 : decode cX8_brook 140 = .ok (.iaload, 1) := by decide +kernel
theorem dX8_brook_141 : decode cX8_brook 141 = .ok (.iastore, 1) := by decide +kernel
theorem dX8_brook_142 : decode cX8_brook 142 = .ok (.aload_n 0, 1) := by decide +kernel
theorem dX8_brook_143 : decode cX8_brook 143 = .ok (.getfield 16, 3) := by decide +kernel
theorem dX8_brook_146 : decode cX8_brook 146 = .ok (.iload_n 1, 1) := by decide +kernel
theorem dX8_brook_147 : decode cX8_brook 147 = .ok (.iconst (-1), 1) := by decide +kernel
theorem dX8_brook_148 : decode cX8_brook 148 = .ok (.iastore, 1) := by decide +kernel
theorem dX8_brook_149 : decode cX8_brook 149 = .ok (.aload_n 0, 1) := by decide +kernel
theorem dX8_brook_150 : decode cX8_brook 150 = .ok (.getfield 32, 3) := by decide +kernel
theorem dX8_brook_153 : decode cX8_brook 153 = .ok (.iload_n 1, 1) := by decide +kernel
theorem dX8_brook_154 : decode cX8_brook 154 = .ok (.iaload, 1) := by decide +kernel
theorem dX8_brook_155 : decode cX8_brook 155 = .ok (.ifCond .le 38, 3) := by decide +kernel
theorem dX8_brook_158 : decode cX8_brook 158 = .ok (.aload_n 0, 1) := by decide +kernel
theorem dX8_brook_159 : decode cX8_brook 159 = .ok (.getfield 19, 3) := by decide +kernel
theorem dX8_brook_162 : decode cX8_brook 162 = .ok (.aload_n 0, 1) := by decide +kernel
theorem dX8_brook_163 : decode cX8_brook 163 = .ok (.getfield 108, 3) := by decide +kernel
theorem dX8_brook_166 : decode cX8_brook 166 = .ok (.aload_n 0, 1) := by decide +kernel
theorem dX8_brook_167 : decode cX8_brook 167 = .ok (.getfield 32, 3) := by decide +kernel
theorem dX8_brook_170 : decode cX8_brook 170 = .ok (.iload_n 1, 1) := by decide +kernel
theorem dX8_brook_171 : decode cX8_brook 171 = .ok (.iaload, 1) := by decide +kernel
theorem dX8_brook_172 : decode cX8_brook 172 = .ok (.iastore, 1) := by decide +kernel
theorem dX8_brook_173 : decode cX8_brook 173 = .ok (.aload_n 0, 1) := by decide +kernel
theorem dX8_brook_174 : decode cX8_brook 174 = .ok (.getfield 16, 3) := by decide +kernel
theorem dX8_brook_177 : decode cX8_brook 177 = .ok (.iload_n 1, 1) := by decide +kernel
theorem dX8_brook_178 : decode cX8_brook 178 = .ok (.aload_n 0, 1) := by decide +kernel
theorem dX8_brook_179 : decode cX8_brook 179 = .ok (.getfield 108, 3) := by decide +kernel
theorem dX8_brook_182 : decode cX8_brook 182 = .ok (.iastore, 1) := by decide +kernel
theorem dX8_brook_183 : decode cX8_brook 183 = .ok (.aload_n 0, 1) := by decide +kernel
theorem dX8_brook_184 : decode cX8_brook 184 = .ok (.dup, 1) := by decide +kernel
theorem dX8_brook_185 : decode cX8_brook 185 = .ok (.getfield 108, 3) := by decide +kernel
theorem dX8_brook_188 : decode cX8_brook 188 = .ok (.iconst 1, 1) := by decide +kernel
theorem dX8_brook_189 : decode cX8_brook 189 = .ok (.iadd, 1) := by decide +kernel
theorem dX8_brook_190 : decode cX8_brook 190 = .ok (.putfield 108, 3) := by decide +kernel
theorem dX8_brook_193 : decode cX8_brook 193 = .ok (.iinc 1 1, 3) := by decide +kernel
theorem dX8_brook_196 : decode cX8_brook 196 = .ok (.goto (-86), 3) := by decide +kernel
theorem dX8_brook_199 : decode cX8_brook 199 = .ok (.aload_n 0, 1) := by decide +kernel
theorem dX8_brook_200 : decode cX8_brook 200 = .ok (.iconst 0, 1) := by decide +kernel
theorem dX8_brook_201 : decode cX8_brook 201 = .ok (.putfield 111, 3) := by decide +kernel
theorem dX8_brook_204 : decode cX8_brook 204 = .ok (.aload_n 0, 1) := by decide +kernel
theorem dX8_brook_205 : decode cX8_brook 205 = .ok (.dup, 1) := by decide +kernel
theorem dX8_brook_206 : decode cX8_brook 206 = .ok (.getfield 114, 3) := by decide +kernel
theorem dX8_brook_209 : decode cX8_brook 209 = .ok (.iconst 1, 1) := by decide +kernel
theorem dX8_brook_210 : decode cX8_brook 210 = .ok (.iadd, 1) := by decide +kernel
theorem dX8_brook_211 : decode cX8_brook 211 = .ok (.putfield 114, 3) := by decide +kernel
theorem dX8_brook_214 : decode cX8_brook 214 = .ok (.aload_n 0, 1) := by decide +kernel
theorem dX8_brook_215 : decode cX8_brook 215 = .ok (.iconst 0, 1) := by decide +kernel
theorem dX8_brook_216 : decode cX8_brook 216 = .ok (.putfield 66, 3) := by decide +kernel
theorem dX8_brook_219 : decode cX8_brook 219 = .ok (.aload_n 0, 1) := by decide +kernel
theorem dX8_brook_220 : decode cX8_brook 220 = .ok (.getfield 93, 3) := by decide +kernel
theorem dX8_brook_223 : decode cX8_brook 223 = .ok (.ireturn, 1) := by decide +kernel
theorem dX8_isStone_0 : decode cX8_isStone 0 = .ok (.iload_n 1, 1) := by decide +kernel
theorem dX8_isStone_1 : decode cX8_isStone 1 = .ok (.iconst 0, 1) := by decide +kernel
theorem dX8_isStone_2 : decode cX8_isStone 2 = .ok (.aload_n 0, 1) := by decide +kernel
theorem dX8_isStone_3 : decode cX8_isStone 3 = .ok (.getfield 93, 3) := by decide +kernel
theorem dX8_isStone_6 : decode cX8_isStone 6 = .ok (.iconst 1, 1) := by decide +kernel
theorem dX8_isStone_7 : decode cX8_isStone 7 = .ok (.isub, 1) := by decide +kernel
theorem dX8_isStone_8 : decode cX8_isStone 8 = .ok (.invokestatic 117, 3) := by decide +kernel
theorem dX8_isStone_11 : decode cX8_isStone 11 = .ok (.ireturn, 1) := by decide +kernel
theorem dX8_on_0 : decode cX8_on 0 = .ok (.aload_n 0, 1) := by decide +kernel
theorem dX8_on_1 : decode cX8_on 1 = .ok (.iload_n 1, 1) := by decide +kernel
theorem dX8_on_2 : decode cX8_on 2 = .ok (.invokevirtual 121, 3) := by decide +kernel
theorem dX8_on_5 : decode cX8_on 5 = .ok (.ifCond .ne 8, 3) := by decide +kernel
theorem dX8_on_8 : decode cX8_on 8 = .ok (.bipush (-101), 2) := by decide +kernel
theorem dX8_on_10 : decode cX8_on 10 = .ok (.goto 22, 3) := by decide +kernel
theorem dX8_on_13 : decode cX8_on 13 = .ok (.aload_n 0, 1) := by decide +kernel
theorem dX8_on_14 : decode cX8_on 14 = .ok (.getfield 13, 3) := by decide +kernel
theorem dX8_on_17 : decode cX8_on 17 = .ok (.iload_n 1, 1) := by decide +kernel
theorem dX8_on_18 : decode cX8_on 18 = .ok (.iaload, 1) := by decide +kernel
theorem dX8_on_19 : decode cX8_on 19 = .ok (.ifCond .ne 7, 3) := by decide +kernel
theorem dX8_on_22 : decode cX8_on 22 = .ok (.iconst (-1), 1) := by decide +kernel
theorem dX8_on_23 : decode cX8_on 23 = .ok (.goto 9, 3) := by decide +kernel
theorem dX8_on_26 : decode cX8_on 26 = .ok (.aload_n 0, 1) := by decide +kernel
theorem dX8_on_27 : decode cX8_on 27 = .ok (.getfield 13, 3) := by decide +kernel
theorem dX8_on_30 : decode cX8_on 30 = .ok (.iload_n 1, 1) := by decide +kernel
theorem dX8_on_31 : decode cX8_on 31 = .ok (.iaload, 1) := by decide +kernel
theorem dX8_on_32 : decode cX8_on 32 = .ok (.ireturn, 1) := by decide +kernel
theorem dX8_frog_0 : decode cX8_frog 0 = .ok (.aload_n 0, 1) := by decide +kernel
theorem dX8_frog_1 : decode cX8_frog 1 = .ok (.iload_n 1, 1) := by decide +kernel
theorem dX8_frog_2 : decode cX8_frog 2 = .ok (.invokevirtual 121, 3) := by decide +kernel
theorem dX8_frog_5 : decode cX8_frog 5 = .ok (.ifCond .eq 12, 3) := by decide +kernel
theorem dX8_frog_8 : decode cX8_frog 8 = .ok (.aload_n 0, 1) := by decide +kernel
theorem dX8_frog_9 : decode cX8_frog 9 = .ok (.getfield 16, 3) := by decide +kernel
theorem dX8_frog_12 : decode cX8_frog 12 = .ok (.iload_n 1, 1) := by decide +kernel
theorem dX8_frog_13 : decode cX8_frog 13 = .ok (.iaload, 1) := by decide +kernel
theorem dX8_frog_14 : decode cX8_frog 14 = .ok (.goto 5, 3) := by decide +kernel
theorem dX8_frog_17 : decode cX8_frog 17 = .ok (.bipush (-101), 2) := by decide +kernel
theorem dX8_frog_19 : decode cX8_frog 19 = .ok (.ireturn, 1) := by decide +kernel
theorem dX8_stoneOf_0 : decode cX8_stoneOf 0 = .ok (.iconst 0, 1) := by decide +kernel
theorem dX8_stoneOf_1 : decode cX8_stoneOf 1 = .ok (.istore_n 2, 1) := by decide +kernel
theorem dX8_stoneOf_2 : decode cX8_stoneOf 2 = .ok (.aload_n 0, 1) := by decide +kernel
theorem dX8_stoneOf_3 : decode cX8_stoneOf 3 = .ok (.getfield 16, 3) := by decide +kernel
theorem dX8_stoneOf_6 : decode cX8_stoneOf 6 = .ok (.iload_n 2, 1) := by decide +kernel
theorem dX8_stoneOf_7 : decode cX8_stoneOf 7 = .ok (.iaload, 1) := by decide +kernel
theorem dX8_stoneOf_8 : decode cX8_stoneOf 8 = .ok (.iload_n 1, 1) := by decide +kernel
theorem dX8_stoneOf_9 : decode cX8_stoneOf 9 = .ok (.if_icmp .eq 9, 3) := by decide +kernel
theorem dX8_stoneOf_12 : decode cX8_stoneOf 12 = .ok (.iinc 2 1, 3) := by decide +kernel
theorem dX8_stoneOf_15 : decode cX8_stoneOf 15 = .ok (.goto (-13), 3) := by decide +kernel
theorem dX8_stoneOf_18 : decode cX8_stoneOf 18 = .ok (.iload_n 2, 1) := by decide +kernel
theorem dX8_stoneOf_19 : decode cX8_stoneOf 19 = .ok (.ireturn, 1) := by decide +kernel
theorem dX8_movedMany_0 : decode cX8_movedMany 0 = .ok (.aload_n 0, 1) := by decide +kernel
theorem dX8_movedMany_1 : decode cX8_movedMany 1 = .ok (.iload_n 1, 1) := by decide +kernel
theorem dX8_movedMany_2 : decode cX8_movedMany 2 = .ok (.invokevirtual 125, 3) := by decide +kernel
theorem dX8_movedMany_5 : decode cX8_movedMany 5 = .ok (.istore_n 2, 1) := by decide +kernel
theorem dX8_movedMany_6 : decode cX8_movedMany 6 = .ok (.iconst 0, 1) := by decide +kernel
theorem dX8_movedMany_7 : decode cX8_movedMany 7 = .ok (.istore_n 3, 1) := by decide +kernel
theorem dX8_movedMany_8 : decode cX8_movedMany 8 = .ok (.aload_n 0, 1) := by decide +kernel
theorem dX8_movedMany_9 : decode cX8_movedMany 9 = .ok (.getfield 111, 3) := by decide +kernel
theorem dX8_movedMany_12 : decode cX8_movedMany 12 = .ok (.iconst 1, 1) := by decide +kernel
theorem dX8_movedMany_13 : decode cX8_movedMany 13 = .ok (.isub, 1) := by decide +kernel
theorem dX8_movedMany_14 : decode cX8_movedMany 14 = .ok (.istore 4, 2) := by decide +kernel
theorem dX8_movedMany_16 : decode cX8_movedMany 16 = .ok (.iload 4, 2) := by decide +kernel
theorem dX8_movedMany_18 : decode cX8_movedMany 18 = .ok (.ifCond .lt 31, 3) := by decide +kernel
theorem dX8_movedMany_21 : decode cX8_movedMany 21 = .ok (.aload_n 0, 1) := by decide +kernel
theorem dX8_movedMany_22 : decode cX8_movedMany 22 = .ok (.getfield 25, 3) := by decide +kernel
theorem dX8_movedMany_25 : decode cX8_movedMany 25 = .ok (.iload 4, 2) := by decide +kernel
theorem dX8_movedMany_27 : decode cX8_movedMany 27 = .ok (.iaload, 1) := by decide +kernel
theorem dX8_movedMany_28 : decode cX8_movedMany 28 = .ok (.iload_n 2, 1) := by decide +kernel
theorem dX8_movedMany_29 : decode cX8_movedMany 29 = .ok (.if_icmp .ne 14, 3) := by decide +kernel
theorem dX8_movedMany_32 : decode cX8_movedMany 32 = .ok (.iinc 3 1, 3) := by decide +kernel
theorem dX8_movedMany_35 : decode cX8_movedMany 35 = .ok (.aload_n 0, 1) := by decide +kernel
theorem dX8_movedMany_36 : decode cX8_movedMany 36 = .ok (.getfield 22, 3) := by decide +kernel
theorem dX8_movedMany_39 : decode cX8_movedMany 39 = .ok (.iload 4, 2) := by decide +kernel
theorem dX8_movedMany_41 : decode cX8_movedMany 41 = .ok (.iaload, 1) := by decide +kernel
theorem dX8_movedMany_42 : decode cX8_movedMany 42 = .ok (.istore_n 2, 1) := by decide +kernel
theorem dX8_movedMany_43 : decode cX8_movedMany 43 = .ok (.iinc 4 (-1), 3) := by decide +kernel
theorem dX8_movedMany_46 : decode cX8_movedMany 46 = .ok (.goto (-30), 3) := by decide +kernel
theorem dX8_movedMany_49 : decode cX8_movedMany 49 = .ok (.iload_n 3, 1) := by decide +kernel
theorem dX8_movedMany_50 : decode cX8_movedMany 50 = .ok (.ireturn, 1) := by decide +kernel
theorem dX8_frogNow_0 : decode cX8_frogNow 0 = .ok (.iload_n 2, 1) := by decide +kernel
theorem dX8_frogNow_1 : decode cX8_frogNow 1 = .ok (.ifCond .ne 12, 3) := by decide +kernel
theorem dX8_frogNow_4 : decode cX8_frogNow 4 = .ok (.aload_n 0, 1) := by decide +kernel
theorem dX8_frogNow_5 : decode cX8_frogNow 5 = .ok (.getfield 19, 3) := by decide +kernel
theorem dX8_frogNow_8 : decode cX8_frogNow 8 = .ok (.iload_n 1, 1) := by decide +kernel
theorem dX8_frogNow_9 : decode cX8_frogNow 9 = .ok (.iaload, 1) := by decide +kernel
theorem dX8_frogNow_10 : decode cX8_frogNow 10 = .ok (.goto 21, 3) := by decide +kernel
theorem dX8_frogNow_13 : decode cX8_frogNow 13 = .ok (.iload_n 2, 1) := by decide +kernel
theorem dX8_frogNow_14 : decode cX8_frogNow 14 = .ok (.iconst 1, 1) := by decide +kernel
theorem dX8_frogNow_15 : decode cX8_frogNow 15 = .ok (.if_icmp .ne 11, 3) := by decide +kernel
theorem dX8_frogNow_18 : decode cX8_frogNow 18 = .ok (.aload_n 0, 1) := by decide +kernel
theorem dX8_frogNow_19 : decode cX8_frogNow 19 = .ok (.iload_n 1, 1) := by decide +kernel
theorem dX8_frogNow_20 : decode cX8_frogNow 20 = .ok (.invokevirtual 125, 3) := by decide +kernel
theorem dX8_frogNow_23 : decode cX8_frogNow 23 = .ok (.goto 8, 3) := by decide +kernel
theorem dX8_frogNow_26 : decode cX8_frogNow 26 = .ok (.aload_n 0, 1) := by decide +kernel
theorem dX8_frogNow_27 : decode cX8_frogNow 27 = .ok (.iload_n 1, 1) := by decide +kernel
theorem dX8_frogNow_28 : decode cX8_frogNow 28 = .ok (.invokevirtual 128, 3) := by decide +kernel
theorem dX8_frogNow_31 : decode cX8_frogNow 31 = .ok (.ireturn, 1) := by decide +kernel
theorem dX8_about_0 : decode cX8_about 0 = .ok (.iload_n 1, 1) := by decide +kernel
theorem dX8_about_1 : decode cX8_about 1 = .ok (.iconst 0, 1) := by decide +kernel
theorem dX8_about_2 : decode cX8_about 2 = .ok (.aload_n 0, 1) := by decide +kernel
theorem dX8_about_3 : decode cX8_about 3 = .ok (.getfield 108, 3) := by decide +kernel
theorem dX8_about_6 : decode cX8_about 6 = .ok (.iconst 1, 1) := by decide +kernel
theorem dX8_about_7 : decode cX8_about 7 = .ok (.isub, 1) := by decide +kernel
theorem dX8_about_8 : decode cX8_about 8 = .ok (.invokestatic 117, 3) := by decide +kernel
theorem dX8_about_11 : decode cX8_about 11 = .ok (.ifCond .ne 6, 3) := by decide +kernel
theorem dX8_about_14 : decode cX8_about 14 = .ok (.bipush (-101), 2) := by decide +kernel
theorem dX8_about_16 : decode cX8_about 16 = .ok (.ireturn, 1) := by decide +kernel
theorem dX8_about_17 : decode cX8_about 17 = .ok (.iload_n 2, 1) := by decide +kernel
theorem dX8_about_18 : decode cX8_about 18 = .ok (.iconst 0, 1) := by decide +kernel
theorem dX8_about_19 : decode cX8_about 19 = .ok (.iconst 2, 1) := by decide +kernel
theorem dX8_about_20 : decode cX8_about 20 = .ok (.invokestatic 117, 3) := by decide +kernel
theorem dX8_about_23 : decode cX8_about 23 = .ok (.ifCond .eq 12, 3) := by decide +kernel
theorem dX8_about_26 : decode cX8_about 26 = .ok (.aload_n 0, 1) := by decide +kernel
theorem dX8_about_27 : decode cX8_about 27 = .ok (.iload_n 1, 1) := by decide +kernel
theorem dX8_about_28 : decode cX8_about 28 = .ok (.iload_n 2, 1) := by decide +kernel
theorem dX8_about_29 : decode cX8_about 29 = .ok (.invokevirtual 131, 3) := by decide +kernel
theorem dX8_about_32 : decode cX8_about 32 = .ok (.goto 5, 3) := by decide +kernel
theorem dX8_about_35 : decode cX8_about 35 = .ok (.bipush (-102), 2) := by decide +kernel
theorem dX8_about_37 : decode cX8_about 37 = .ok (.ireturn, 1) := by decide +kernel
theorem dX8_as_0 : decode cX8_as 0 = .ok (.iload_n 1, 1) := by decide +kernel
theorem dX8_as_1 : decode cX8_as 1 = .ok (.iconst 0, 1) := by decide +kernel
theorem dX8_as_2 : decode cX8_as 2 = .ok (.aload_n 0, 1) := by decide +kernel
theorem dX8_as_3 : decode cX8_as 3 = .ok (.getfield 108, 3) := by decide +kernel
theorem dX8_as_6 : decode cX8_as 6 = .ok (.iconst 1, 1) := by decide +kernel
theorem dX8_as_7 : decode cX8_as 7 = .ok (.isub, 1) := by decide +kernel
theorem dX8_as_8 : decode cX8_as 8 = .ok (.invokestatic 117, 3) := by decide +kernel
theorem dX8_as_11 : decode cX8_as 11 = .ok (.ifCond .ne 6, 3) := by decide +kernel
theorem dX8_as_14 : decode cX8_as 14 = .ok (.bipush (-101), 2) := by decide +kernel
theorem dX8_as_16 : decode cX8_as 16 = .ok (.ireturn, 1) := by decide +kernel
theorem dX8_as_17 : decode cX8_as 17 = .ok (.iload_n 2, 1) := by decide +kernel
theorem dX8_as_18 : decode cX8_as 18 = .ok (.iconst 0, 1) := by decide +kernel
theorem dX8_as_19 : decode cX8_as 19 = .ok (.iconst 4, 1) := by decide +kernel
theorem dX8_as_20 : decode cX8_as 20 = .ok (.invokestatic 117, 3) := by decide +kernel
theorem dX8_as_23 : decode cX8_as 23 = .ok (.ifCond .ne 6, 3) := by decide +kernel
theorem dX8_as_26 : decode cX8_as 26 = .ok (.bipush (-102), 2) := by decide +kernel
theorem dX8_as_28 : decode cX8_as 28 = .ok (.ireturn, 1) := by decide +kernel
theorem dX8_as_29 : decode cX8_as 29 = .ok (.aload_n 0, 1) := by decide +kernel
theorem dX8_as_30 : decode cX8_as 30 = .ok (.getfield 19, 3) := by decide +kernel
theorem dX8_as_33 : decode cX8_as 33 = .ok (.iload_n 1, 1) := by decide +kernel
theorem dX8_as_34 : decode cX8_as 34 = .ok (.iaload, 1) := by decide +kernel
theorem dX8_as_35 : decode cX8_as 35 = .ok (.istore_n 3, 1) := by decide +kernel
theorem dX8_as_36 : decode cX8_as 36 = .ok (.iload_n 2, 1) := by decide +kernel
theorem dX8_as_37 : decode cX8_as 37 = .ok (.ifCond .eq 18, 3) := by decide +kernel
theorem dX8_as_40 : decode cX8_as 40 = .ok (.iload_n 3, 1) := by decide +kernel
theorem dX8_as_41 : decode cX8_as 41 = .ok (.iload_n 2, 1) := by decide +kernel
theorem dX8_as_42 : decode cX8_as 42 = .ok (.if_icmp .eq 13, 3) := by decide +kernel
theorem dX8_as_45 : decode cX8_as 45 = .ok (.iload_n 2, 1) := by decide +kernel
theorem dX8_as_46 : decode cX8_as 46 = .ok (.iconst 1, 1) := by decide +kernel
theorem dX8_as_47 : decode cX8_as 47 = .ok (.if_icmp .ne 12, 3) := by decide +kernel
theorem dX8_as_50 : decode cX8_as 50 = .ok (.iload_n 3, 1) := by decide +kernel
theorem dX8_as_51 : decode cX8_as 51 = .ok (.iconst 4, 1) := by decide +kernel
theorem dX8_as_52 : decode cX8_as 52 = .ok (.if_icmp .ne 7, 3) := by decide +kernel
theorem dX8_as_55 : decode cX8_as 55 = .ok (.iload_n 1, 1) := by decide +kernel
theorem dX8_as_56 : decode cX8_as 56 = .ok (.goto 4, 3) := by decide +kernel
theorem dX8_as_59 : decode cX8_as 59 = .ok (.iconst (-1), 1) := by decide +kernel
theorem dX8_as_60 : decode cX8_as 60 = .ok (.ireturn, 1) := by decide +kernel
theorem dX8_besides_0 : decode cX8_besides 0 = .ok (.iload_n 1, 1) := by decide +kernel
theorem dX8_besides_1 : decode cX8_besides 1 = .ok (.iload_n 2, 1) := by decide +kernel
theorem dX8_besides_2 : decode cX8_besides 2 = .ok (.iadd, 1) := by decide +kernel
theorem dX8_besides_3 : decode cX8_besides 3 = .ok (.istore_n 3, 1) := by decide +kernel
theorem dX8_besides_4 : decode cX8_besides 4 = .ok (.aload_n 0, 1) := by decide +kernel
theorem dX8_besides_5 : decode cX8_besides 5 = .ok (.getfield 102, 3) := by decide +kernel
theorem dX8_besides_8 : decode cX8_besides 8 = .ok (.ifCond .eq 17, 3) := by decide +kernel
theorem dX8_besides_11 : decode cX8_besides 11 = .ok (.iload_n 3, 1) := by decide +kernel
theorem dX8_besides_12 : decode cX8_besides 12 = .ok (.aload_n 0, 1) := by decide +kernel
theorem dX8_besides_13 : decode cX8_besides 13 = .ok (.getfield 135, 3) := by decide +kernel
theorem dX8_besides_16 : decode cX8_besides 16 = .ok (.iadd, 1) := by decide +kernel
theorem dX8_besides_17 : decode cX8_besides 17 = .ok (.aload_n 0, 1) := by decide +kernel
theorem dX8_besides_18 : decode cX8_besides 18 = .ok (.getfield 135, 3) := by decide +kernel
theorem dX8_besides_21 : decode cX8_besides 21 = .ok (.irem, 1) := by decide +kernel
theorem dX8_besides_22 : decode cX8_besides 22 = .ok (.goto 22, 3) := by decide +kernel
theorem dX8_besides_25 : decode cX8_besides 25 = .ok (.iload_n 3, 1) := by decide +kernel
theorem dX8_besides_26 : decode cX8_besides 26 = .ok (.iconst 0, 1) := by decide +kernel
theorem dX8_besides_27 : decode cX8_besides 27 = .ok (.aload_n 0, 1) := by decide +kernel
theorem dX8_besides_28 : decode cX8_besides 28 = .ok (.getfield 135, 3) := by decide +kernel
theorem dX8_besides_31 : decode cX8_besides 31 = .ok (.iconst 1, 1) := by decide +kernel
theorem dX8_besides_32 : decode cX8_besides 32 = .ok (.isub, 1) := by decide +kernel
theorem dX8_besides_33 : decode cX8_besides 33 = .ok (.invokestatic 117, 3) := by decide +kernel
theorem dX8_besides_36 : decode cX8_besides 36 = .ok (.ifCond .eq 7, 3) := by decide +kernel
theorem dX8_besides_39 : decode cX8_besides 39 = .ok (.iload_n 3, 1) := by decide +kernel
theorem dX8_besides_40 : decode cX8_besides 40 = .ok (.goto 4, 3) := by decide +kernel
theorem dX8_besides_43 : decode cX8_besides 43 = .ok (.iconst (-1), 1) := by decide +kernel
theorem dX8_besides_44 : decode cX8_besides 44 = .ok (.ireturn, 1) := by decide +kernel
theorem dX8_colour_0 : decode cX8_colour 0 = .ok (.iload_n 0, 1) := by decide +kernel
theorem dX8_colour_1 : decode cX8_colour 1 = .ok (.iconst 1, 1) := by decide +kernel
theorem dX8_colour_2 : decode cX8_colour 2 = .ok (.if_icmp .eq 8, 3) := by decide +kernel
theorem dX8_colour_5 : decode cX8_colour 5 = .ok (.iload_n 0, 1) := by decide +kernel
theorem dX8_colour_6 : decode cX8_colour 6 = .ok (.iconst 4, 1) := by decide +kernel
theorem dX8_colour_7 : decode cX8_colour 7 = .ok (.if_icmp .ne 7, 3) := by decide +kernel
theorem dX8_colour_10 : decode cX8_colour 10 = .ok (.iconst 1, 1) := by decide +kernel
theorem dX8_colour_11 : decode cX8_colour 11 = .ok (.goto 13, 3) := by decide +kernel
theorem dX8_colour_14 : decode cX8_colour 14 = .ok (.iload_n 0, 1) := by decide +kernel
theorem dX8_colour_15 : decode cX8_colour 15 = .ok (.iconst 2, 1) := by decide +kernel
theorem dX8_colour_16 : decode cX8_colour 16 = .ok (.if_icmp .ne 7, 3) := by decide +kernel
theorem dX8_colour_19 : decode cX8_colour 19 = .ok (.iconst 2, 1) := by decide +kernel
theorem dX8_colour_20 : decode cX8_colour 20 = .ok (.goto 4, 3) := by decide +kernel
theorem dX8_colour_23 : decode cX8_colour 23 = .ok (.iconst 0, 1) := by decide +kernel
theorem dX8_colour_24 : decode cX8_colour 24 = .ok (.ireturn, 1) := by decide +kernel
theorem dX8_mayOver_0 : decode cX8_mayOver 0 = .ok (.iload_n 2, 1) := by decide +kernel
theorem dX8_mayOver_1 : decode cX8_mayOver 1 = .ok (.ifCond .le 32, 3) := by decide +kernel
theorem dX8_mayOver_4 : decode cX8_mayOver 4 = .ok (.aload_n 0, 1) := by decide +kernel
theorem dX8_mayOver_5 : decode cX8_mayOver 5 = .ok (.getfield 96, 3) := by decide +kernel
theorem dX8_mayOver_8 : decode cX8_mayOver 8 = .ok (.ifCond .ne 21, 3) := by decide +kernel
theorem dX8_mayOver_11 : decode cX8_mayOver 11 = .ok (.iload_n 2, 1) := by decide +kernel
theorem dX8_mayOver_12 : decode cX8_mayOver 12 = .ok (.invokestatic 138, 3) := by decide +kernel
theorem dX8_mayOver_15 : decode cX8_mayOver 15 = .ok (.ifCond .le 18, 3) := by decide +kernel
theorem dX8_mayOver_18 : decode cX8_mayOver 18 = .ok (.iload_n 2, 1) := by decide +kernel
theorem dX8_mayOver_19 : decode cX8_mayOver 19 = .ok (.invokestatic 138, 3) := by decide +kernel
theorem dX8_mayOver_22 : decode cX8_mayOver 22 = .ok (.iload_n 1, 1) := by decide +kernel
theorem dX8_mayOver_23 : decode cX8_mayOver 23 = .ok (.invokestatic 138, 3) := by decide +kernel
theorem dX8_mayOver_26 : decode cX8_mayOver 26 = .ok (.if_icmp .eq 7, 3) := by decide +kernel
theorem dX8_mayOver_29 : decode cX8_mayOver 29 = .ok (.iconst 1, 1) := by decide +kernel
theorem dX8_mayOver_30 : decode cX8_mayOver 30 = .ok (.goto 4, 3) := by decide +kernel
theorem dX8_mayOver_33 : decode cX8_mayOver 33 = .ok (.iconst 0, 1) := by decide +kernel
theorem dX8_mayOver_34 : decode cX8_mayOver 34 = .ok (.ireturn, 1) := by decide +kernel
theorem dX8_mayWay_0 : decode cX8_mayWay 0 = .ok (.aload_n 0, 1) := by decide +kernel
theorem dX8_mayWay_1 : decode cX8_mayWay 1 = .ok (.getfield 35, 3) := by decide +kernel
theorem dX8_mayWay_4 : decode cX8_mayWay 4 = .ok (.iload_n 1, 1) := by decide +kernel
theorem dX8_mayWay_5 : decode cX8_mayWay 5 = .ok (.iaload, 1) := by decide +kernel
theorem dX8_mayWay_6 : decode cX8_mayWay 6 = .ok (.istore 4, 2) := by decide +kernel
theorem dX8_mayWay_8 : decode cX8_mayWay 8 = .ok (.aload_n 0, 1) := by decide +kernel
theorem dX8_mayWay_9 : decode cX8_mayWay 9 = .ok (.iload_n 1, 1) := by decide +kernel
theorem dX8_mayWay_10 : decode cX8_mayWay 10 = .ok (.iload_n 3, 1) := by decide +kernel
theorem dX8_mayWay_11 : decode cX8_mayWay 11 = .ok (.invokevirtual 141, 3) := by decide +kernel
theorem dX8_mayWay_14 : decode cX8_mayWay 14 = .ok (.istore 5, 2) := by decide +kernel
theorem dX8_mayWay_16 : decode cX8_mayWay 16 = .ok (.iload 5, 2) := by decide +kernel
theorem dX8_mayWay_18 : decode cX8_mayWay 18 = .ok (.iconst (-1), 1) := by decide +kernel
theorem dX8_mayWay_19 : decode cX8_mayWay 19 = .ok (.if_icmp .eq 9, 3) := by decide +kernel
theorem dX8_mayWay_22 : decode cX8_mayWay 22 = .ok (.iload 5, 2) := by decide +kernel
theorem dX8_mayWay_24 : decode cX8_mayWay 24 = .ok (.iload_n 2, 1) := by decide +kernel
theorem dX8_mayWay_25 : decode cX8_mayWay 25 = .ok (.if_icmp .ne 24, 3) := by decide +kernel
theorem dX8_mayWay_28 : decode cX8_mayWay 28 = .ok (.iload 5, 2) := by decide +kernel
theorem dX8_mayWay_30 : decode cX8_mayWay 30 = .ok (.iload_n 2, 1) := by decide +kernel
theorem dX8_mayWay_31 : decode cX8_mayWay 31 = .ok (.if_icmp .ne 16, 3) := by decide +kernel
theorem dX8_mayWay_34 : decode cX8_mayWay 34 = .ok (.aload_n 0, 1) := by decide +kernel
theorem dX8_mayWay_35 : decode cX8_mayWay 35 = .ok (.getfield 35, 3) := by decide +kernel
theorem dX8_mayWay_38 : decode cX8_mayWay 38 = .ok (.iload_n 2, 1) := by decide +kernel
theorem dX8_mayWay_39 : decode cX8_mayWay 39 = .ok (.iaload, 1) := by decide +kernel
theorem dX8_mayWay_40 : decode cX8_mayWay 40 = .ok (.ifCond .ne 7, 3) := by decide +kernel
theorem dX8_mayWay_43 : decode cX8_mayWay 43 = .ok (.iconst 1, 1) := by decide +kernel
theorem dX8_mayWay_44 : decode cX8_mayWay 44 = .ok (.goto 4, 3) := by decide +kernel
theorem dX8_mayWay_47 : decode cX8_mayWay 47 = .ok (.iconst 0, 1) := by decide +kernel
theorem dX8_mayWay_48 : decode cX8_mayWay 48 = .ok (.ireturn, 1) := by decide +kernel
theorem dX8_mayWay_49 : decode cX8_mayWay 49 = .ok (.iload 4, 2) := by decide +kernel
theorem dX8_mayWay_51 : decode cX8_mayWay 51 = .ok (.iconst 4, 1) := by decide +kernel
theorem dX8_mayWay_52 : decode cX8_mayWay 52 = .ok (.if_icmp .eq 19, 3) := by decide +kernel
theorem dX8_mayWay_55 : decode cX8_mayWay 55 = .ok (.aload_n 0, 1) := by decide +kernel
theorem dX8_mayWay_56 : decode cX8_mayWay 56 = .ok (.iload 4, 2) := by decide +kernel
theorem dX8_mayWay_58 : decode cX8_mayWay 58 = .ok (.aload_n 0, 1) := by decide +kernel
theorem dX8_mayWay_59 : decode cX8_mayWay 59 = .ok (.getfield 35, 3) := by decide +kernel
theorem dX8_mayWay_62 : decode cX8_mayWay 62 = .ok (.iload 5, 2) := by decide +kernel
theorem dX8_mayWay_64 : decode cX8_mayWay 64 = .ok (.iaload, 1) := by decide +kernel
theorem dX8_mayWay_65 : decode cX8_mayWay 65 = .ok (.invokevirtual 144, 3) := by decide +kernel
theorem dX8_mayWay_68 : decode cX8_mayWay 68 = .ok (.ifCond .ne 5, 3) := by decide +kernel
theorem dX8_mayWay_71 : decode cX8_mayWay 71 = .ok (.iconst 0, 1) := by decide +kernel
theorem dX8_mayWay_72 : decode cX8_mayWay 72 = .ok (.ireturn, 1) := by decide +kernel
theorem dX8_mayWay_73 : decode cX8_mayWay 73 = .ok (.aload_n 0, 1) := by decide +kernel
theorem dX8_mayWay_74 : decode cX8_mayWay 74 = .ok (.iload 5, 2) := by decide +kernel
theorem dX8_mayWay_76 : decode cX8_mayWay 76 = .ok (.iload_n 3, 1) := by decide +kernel
theorem dX8_mayWay_77 : decode cX8_mayWay 77 = .ok (.invokevirtual 141, 3) := by decide +kernel
theorem dX8_mayWay_80 : decode cX8_mayWay 80 = .ok (.istore 6, 2) := by decide +kernel
theorem dX8_mayWay_82 : decode cX8_mayWay 82 = .ok (.iload 6, 2) := by decide +kernel
theorem dX8_mayWay_84 : decode cX8_mayWay 84 = .ok (.iconst (-1), 1) := by decide +kernel
theorem dX8_mayWay_85 : decode cX8_mayWay 85 = .ok (.if_icmp .eq 9, 3) := by decide +kernel
theorem dX8_mayWay_88 : decode cX8_mayWay 88 = .ok (.iload 6, 2) := by decide +kernel
theorem dX8_mayWay_90 : decode cX8_mayWay 90 = .ok (.iload_n 2, 1) := by decide +kernel
theorem dX8_mayWay_91 : decode cX8_mayWay 91 = .ok (.if_icmp .ne 24, 3) := by decide +kernel
theorem dX8_mayWay_94 : decode cX8_mayWay 94 = .ok (.iload 6, 2) := by decide +kernel
theorem dX8_mayWay_96 : decode cX8_mayWay 96 = .ok (.iload_n 2, 1) := by decide +kernel
theorem dX8_mayWay_97 : decode cX8_mayWay 97 = .ok (.if_icmp .ne 16, 3) := by decide +kernel
theorem dX8_mayWay_100 : decode cX8_mayWay 100 = .ok (.aload_n 0, 1) := by decide +kernel
theorem dX8_mayWay_101 : decode cX8_mayWay 101 = .ok (.getfield 35, 3) := by decide +kernel
theorem dX8_mayWay_104 : decode cX8_mayWay 104 = .ok (.iload_n 2, 1) := by decide +kernel
theorem dX8_mayWay_105 : decode cX8_mayWay 105 = .ok (.iaload, 1) := by decide +kernel
theorem dX8_mayWay_106 : decode cX8_mayWay 106 = .ok (.ifCond .ne 7, 3) := by decide +kernel
theorem dX8_mayWay_109 : decode cX8_mayWay 109 = .ok (.iconst 1, 1) := by decide +kernel
theorem dX8_mayWay_110 : decode cX8_mayWay 110 = .ok (.goto 4, 3) := by decide +kernel
theorem dX8_mayWay_113 : decode cX8_mayWay 113 = .ok (.iconst 0, 1) := by decide +kernel
theorem dX8_mayWay_114 : decode cX8_mayWay 114 = .ok (.ireturn, 1) := by decide +kernel
theorem dX8_mayWay_115 : decode cX8_mayWay 115 = .ok (.aload_n 0, 1) := by decide +kernel
theorem dX8_mayWay_116 : decode cX8_mayWay 116 = .ok (.iload 6, 2) := by decide +kernel
theorem dX8_mayWay_118 : decode cX8_mayWay 118 = .ok (.iload_n 3, 1) := by decide +kernel
theorem dX8_mayWay_119 : decode cX8_mayWay 119 = .ok (.invokevirtual 141, 3) := by decide +kernel
theorem dX8_mayWay_122 : decode cX8_mayWay 122 = .ok (.istore 7, 2) := by decide +kernel
theorem dX8_mayWay_124 : decode cX8_mayWay 124 = .ok (.aload_n 0, 1) := by decide +kernel
theorem dX8_mayWay_125 : decode cX8_mayWay 125 = .ok (.getfield 105, 3) := by decide +kernel
theorem dX8_mayWay_128 : decode cX8_mayWay 128 = .ok (.ifCond .eq 38, 3) := by decide +kernel
theorem dX8_mayWay_131 : decode cX8_mayWay 131 = .ok (.aload_n 0, 1) := by decide +kernel
theorem dX8_mayWay_132 : decode cX8_mayWay 132 = .ok (.iload 4, 2) := by decide +kernel
theorem dX8_mayWay_134 : decode cX8_mayWay 134 = .ok (.aload_n 0, 1) := by decide +kernel
theorem dX8_mayWay_135 : decode cX8_mayWay 135 = .ok (.getfield 35, 3) := by decide +kernel
theorem dX8_mayWay_138 : decode cX8_mayWay 138 = .ok (.iload 6, 2) := by decide +kernel
theorem dX8_mayWay_140 : decode cX8_mayWay 140 = .ok (.iaload, 1) := by decide +kernel
theorem dX8_mayWay_141 : decode cX8_mayWay 141 = .ok (.invokevirtual 144, 3) := by decide +kernel
theorem dX8_mayWay_144 : decode cX8_mayWay 144 = .ok (.ifCond .eq 22, 3) := by decide +kernel
theorem dX8_mayWay_147 : decode cX8_mayWay 147 = .ok (.iload 7, 2) := by decide +kernel
theorem dX8_mayWay_149 : decode cX8_mayWay 149 = .ok (.iload_n 2, 1) := by decide +kernel
theorem dX8_mayWay_150 : decode cX8_mayWay 150 = .ok (.if_icmp .ne 16, 3) := by decide +kernel
theorem dX8_mayWay_153 : decode cX8_mayWay 153 = .ok (.aload_n 0, 1) := by decide +kernel
theorem dX8_mayWay_154 : decode cX8_mayWay 154 = .ok (.getfield 35, 3) := by decide +kernel
theorem dX8_mayWay_157 : decode cX8_mayWay 157 = .ok (.iload_n 2, 1) := by decide +kernel
theorem dX8_mayWay_158 : decode cX8_mayWay 158 = .ok (.iaload, 1) := by decide +kernel
theorem dX8_mayWay_159 : decode cX8_mayWay 159 = .ok (.ifCond .ne 7, 3) := by decide +kernel
theorem dX8_mayWay_162 : decode cX8_mayWay 162 = .ok (.iconst 1, 1) := by decide +kernel
theorem dX8_mayWay_163 : decode cX8_mayWay 163 = .ok (.goto 4, 3) := by decide +kernel
theorem dX8_mayWay_166 : decode cX8_mayWay 166 = .ok (.iconst 0, 1) := by decide +kernel
theorem dX8_mayWay_167 : decode cX8_mayWay 167 = .ok (.ireturn, 1) := by decide +kernel
theorem dX8_mayMove_0 : decode cX8_mayMove 0 = .ok (.aload_n 0, 1) := by decide +kernel
theorem dX8_mayMove_1 : decode cX8_mayMove 1 = .ok (.getfield 35, 3) := by decide +kernel
theorem dX8_mayMove_4 : decode cX8_mayMove 4 = .ok (.iload_n 1, 1) := by decide +kernel
theorem dX8_mayMove_5 : decode cX8_mayMove 5 = .ok (.iaload, 1) := by decide +kernel
theorem dX8_mayMove_6 : decode cX8_mayMove 6 = .ok (.istore_n 3, 1) := by decide +kernel
theorem dX8_mayMove_7 : decode cX8_mayMove 7 = .ok (.iload_n 3, 1) := by decide +kernel
theorem dX8_mayMove_8 : decode cX8_mayMove 8 = .ok (.ifCond .eq 13, 3) := by decide +kernel
theorem dX8_mayMove_11 : decode cX8_mayMove 11 = .ok (.iload_n 3, 1) := by decide +kernel
theorem dX8_mayMove_12 : decode cX8_mayMove 12 = .ok (.iconst 3, 1) := by decide +kernel
theorem dX8_mayMove_13 : decode cX8_mayMove 13 = .ok (.if_icmp .eq 8, 3) := by decide +kernel
theorem dX8_mayMove_16 : decode cX8_mayMove 16 = .ok (.iload_n 1, 1) := by decide +kernel
theorem dX8_mayMove_17 : decode cX8_mayMove 17 = .ok (.iload_n 2, 1) := by decide +kernel
theorem dX8_mayMove_18 : decode cX8_mayMove 18 = .ok (.if_icmp .ne 5, 3) := by decide +kernel
theorem dX8_mayMove_21 : decode cX8_mayMove 21 = .ok (.iconst 0, 1) := by decide +kernel
theorem dX8_mayMove_22 : decode cX8_mayMove 22 = .ok (.ireturn, 1) := by decide +kernel
theorem dX8_mayMove_23 : decode cX8_mayMove 23 = .ok (.iload_n 3, 1) := by decide +kernel
theorem dX8_mayMove_24 : decode cX8_mayMove 24 = .ok (.invokestatic 138, 3) := by decide +kernel
theorem dX8_mayMove_27 : decode cX8_mayMove 27 = .ok (.iconst 1, 1) := by decide +kernel
theorem dX8_mayMove_28 : decode cX8_mayMove 28 = .ok (.if_icmp .ne 7, 3) := by decide +kernel
theorem dX8_mayMove_31 : decode cX8_mayMove 31 = .ok (.iconst 1, 1) := by decide +kernel
theorem dX8_mayMove_32 : decode cX8_mayMove 32 = .ok (.goto 4, 3) := by decide +kernel
theorem dX8_mayMove_35 : decode cX8_mayMove 35 = .ok (.iconst (-1), 1) := by decide +kernel
theorem dX8_mayMove_36 : decode cX8_mayMove 36 = .ok (.istore 4, 2) := by decide +kernel
theorem dX8_mayMove_38 : decode cX8_mayMove 38 = .ok (.aload_n 0, 1) := by decide +kernel
theorem dX8_mayMove_39 : decode cX8_mayMove 39 = .ok (.iload_n 1, 1) := by decide +kernel
theorem dX8_mayMove_40 : decode cX8_mayMove 40 = .ok (.iload_n 2, 1) := by decide +kernel
theorem dX8_mayMove_41 : decode cX8_mayMove 41 = .ok (.iload 4, 2) := by decide +kernel
theorem dX8_mayMove_43 : decode cX8_mayMove 43 = .ok (.invokevirtual 148, 3) := by decide +kernel
theorem dX8_mayMove_46 : decode cX8_mayMove 46 = .ok (.ifCond .ne 22, 3) := by decide +kernel
theorem dX8_mayMove_49 : decode cX8_mayMove 49 = .ok (.aload_n 0, 1) := by decide +kernel
theorem dX8_mayMove_50 : decode cX8_mayMove 50 = .ok (.getfield 99, 3) := by decide +kernel
theorem dX8_mayMove_53 : decode cX8_mayMove 53 = .ok (.ifCond .eq 19, 3) := by decide +kernel
theorem dX8_mayMove_56 : decode cX8_mayMove 56 = .ok (.aload_n 0, 1) := by decide +kernel
theorem dX8_mayMove_57 : decode cX8_mayMove 57 = .ok (.iload_n 1, 1) := by decide +kernel
theorem dX8_mayMove_58 : decode cX8_mayMove 58 = .ok (.iload_n 2, 1) := by decide +kernel
theorem dX8_mayMove_59 : decode cX8_mayMove 59 = .ok (.iload 4, 2) := by decide +kernel
theorem dX8_mayMove_61 : decode cX8_mayMove 61 = .ok (.ineg, 1) := by decide +kernel
theorem dX8_mayMove_62 : decode cX8_mayMove 62 = .ok (.invokevirtual 148, 3) := by decide +kernel
theorem dX8_mayMove_65 : decode cX8_mayMove 65 = .ok (.ifCond .eq 7, 3) := by decide +kernel
theorem dX8_mayMove_68 : decode cX8_mayMove 68 = .ok (.iconst 1, 1) := by decide +kernel
theorem dX8_mayMove_69 : decode cX8_mayMove 69 = .ok (.goto 4, 3) := by decide +kernel
theorem dX8_mayMove_72 : decode cX8_mayMove 72 = .ok (.iconst 0, 1) := by decide +kernel
theorem dX8_mayMove_73 : decode cX8_mayMove 73 = .ok (.ireturn, 1) := by decide +kernel
theorem dX8_layNow_0 : decode cX8_layNow 0 = .ok (.aload_n 0, 1) := by decide +kernel
theorem dX8_layNow_1 : decode cX8_layNow 1 = .ok (.aload_n 0, 1) := by decide +kernel
theorem dX8_layNow_2 : decode cX8_layNow 2 = .ok (.getfield 93, 3) := by decide +kernel
theorem dX8_layNow_5 : decode cX8_layNow 5 = .ok (.putfield 135, 3) := by decide +kernel
theorem dX8_layNow_8 : decode cX8_layNow 8 = .ok (.iconst 0, 1) := by decide +kernel
theorem dX8_layNow_9 : decode cX8_layNow 9 = .ok (.istore_n 1, 1) := by decide +kernel
theorem dX8_layNow_10 : decode cX8_layNow 10 = .ok (.iload_n 1, 1) := by decide +kernel
theorem dX8_layNow_11 : decode cX8_layNow 11 = .ok (.aload_n 0, 1) := by decide +kernel
theorem dX8_layNow_12 : decode cX8_layNow 12 = .ok (.getfield 93, 3) := by decide +kernel
theorem dX8_layNow_15 : decode cX8_layNow 15 = .ok (.if_icmp .ge 21, 3) := by decide +kernel
theorem dX8_layNow_18 : decode cX8_layNow 18 = .ok (.aload_n 0, 1) := by decide +kernel
theorem dX8_layNow_19 : decode cX8_layNow 19 = .ok (.getfield 35, 3) := by decide +kernel
theorem dX8_layNow_22 : decode cX8_layNow 22 = .ok (.iload_n 1, 1) := by decide +kernel
theorem dX8_layNow_23 : decode cX8_layNow 23 = .ok (.aload_n 0, 1) := by decide +kernel
theorem dX8_layNow_24 : decode cX8_layNow 24 = .ok (.getfield 13, 3) := by decide +kernel
theorem dX8_layNow_27 : decode cX8_layNow 27 = .ok (.iload_n 1, 1) := by decide +kernel
theorem dX8_layNow_28 : decode cX8_layNow 28 = .ok (.iaload, 1) := by decide +kernel
theorem dX8_layNow_29 : decode cX8_layNow 29 = .ok (.iastore, 1) := by decide +kernel
theorem dX8_layNow_30 : decode cX8_layNow 30 = .ok (.iinc 1 1, 3) := by decide +kernel
theorem dX8_layNow_33 : decode cX8_layNow 33 = .ok (.goto (-23), 3) := by decide +kernel
theorem dX8_layNow_36 : decode cX8_layNow 36 = .ok (.return_, 1) := by decide +kernel
theorem dX8_may_0 : decode cX8_may 0 = .ok (.aload_n 0, 1) := by decide +kernel
theorem dX8_may_1 : decode cX8_may 1 = .ok (.iload_n 1, 1) := by decide +kernel
theorem dX8_may_2 : decode cX8_may 2 = .ok (.invokevirtual 121, 3) := by decide +kernel
theorem dX8_may_5 : decode cX8_may 5 = .ok (.ifCond .eq 11, 3) := by decide +kernel
theorem dX8_may_8 : decode cX8_may 8 = .ok (.aload_n 0, 1) := by decide +kernel
theorem dX8_may_9 : decode cX8_may 9 = .ok (.iload_n 2, 1) := by decide +kernel
theorem dX8_may_10 : decode cX8_may 10 = .ok (.invokevirtual 121, 3) := by decide +kernel
theorem dX8_may_13 : decode cX8_may 13 = .ok (.ifCond .ne 6, 3) := by decide +kernel
theorem dX8_may_16 : decode cX8_may 16 = .ok (.bipush (-101), 2) := by decide +kernel
theorem dX8_may_18 : decode cX8_may 18 = .ok (.ireturn, 1) := by decide +kernel
theorem dX8_may_19 : decode cX8_may 19 = .ok (.aload_n 0, 1) := by decide +kernel
theorem dX8_may_20 : decode cX8_may 20 = .ok (.invokevirtual 151, 3) := by decide +kernel
theorem dX8_may_23 : decode cX8_may 23 = .ok (.aload_n 0, 1) := by decide +kernel
theorem dX8_may_24 : decode cX8_may 24 = .ok (.iload_n 1, 1) := by decide +kernel
theorem dX8_may_25 : decode cX8_may 25 = .ok (.iload_n 2, 1) := by decide +kernel
theorem dX8_may_26 : decode cX8_may 26 = .ok (.invokevirtual 154, 3) := by decide +kernel
theorem dX8_may_29 : decode cX8_may 29 = .ok (.ifCond .eq 7, 3) := by decide +kernel
theorem dX8_may_32 : decode cX8_may 32 = .ok (.iconst 1, 1) := by decide +kernel
theorem dX8_may_33 : decode cX8_may 33 = .ok (.goto 4, 3) := by decide +kernel
theorem dX8_may_36 : decode cX8_may 36 = .ok (.iconst 0, 1) := by decide +kernel
theorem dX8_may_37 : decode cX8_may 37 = .ok (.ireturn, 1) := by decide +kernel
theorem dX8_moveMany_0 : decode cX8_moveMany 0 = .ok (.iconst 0, 1) := by decide +kernel
theorem dX8_moveMany_1 : decode cX8_moveMany 1 = .ok (.istore_n 1, 1) := by decide +kernel
theorem dX8_moveMany_2 : decode cX8_moveMany 2 = .ok (.iconst 0, 1) := by decide +kernel
theorem dX8_moveMany_3 : decode cX8_moveMany 3 = .ok (.istore_n 2, 1) := by decide +kernel
theorem dX8_moveMany_4 : decode cX8_moveMany 4 = .ok (.iload_n 2, 1) := by decide +kernel
theorem dX8_moveMany_5 : decode cX8_moveMany 5 = .ok (.aload_n 0, 1) := by decide +kernel
theorem dX8_moveMany_6 : decode cX8_moveMany 6 = .ok (.getfield 135, 3) := by decide +kernel
theorem dX8_moveMany_9 : decode cX8_moveMany 9 = .ok (.if_icmp .ge 42, 3) := by decide +kernel
theorem dX8_moveMany_12 : decode cX8_moveMany 12 = .ok (.iconst 0, 1) := by decide +kernel
theorem dX8_moveMany_13 : decode cX8_moveMany 13 = .ok (.istore_n 3, 1) := by decide +kernel
theorem dX8_moveMany_14 : decode cX8_moveMany 14 = .ok (.iload_n 3, 1) := by decide +kernel
theorem dX8_moveMany_15 : decode cX8_moveMany 15 = .ok (.aload_n 0, 1) := by decide +kernel
theorem dX8_moveMany_16 : decode cX8_moveMany 16 = .ok (.getfield 135, 3) := by decide +kernel
theorem dX8_moveMany_19 : decode cX8_moveMany 19 = .ok (.if_icmp .ge 26, 3) := by decide +kernel
theorem dX8_moveMany_22 : decode cX8_moveMany 22 = .ok (.iload_n 1, 1) := by decide +kernel
theorem dX8_moveMany_23 : decode cX8_moveMany 23 = .ok (.aload_n 0, 1) := by decide +kernel
theorem dX8_moveMany_24 : decode cX8_moveMany 24 = .ok (.iload_n 2, 1) := by decide +kernel
theorem dX8_moveMany_25 : decode cX8_moveMany 25 = .ok (.iload_n 3, 1) := by decide +kernel
theorem dX8_moveMany_26 : decode cX8_moveMany 26 = .ok (.invokevirtual 154, 3) := by decide +kernel
theorem dX8_moveMany_29 : decode cX8_moveMany 29 = .ok (.ifCond .eq 7, 3) := by decide +kernel
theorem dX8_moveMany_32 : decode cX8_moveMany 32 = .ok (.iconst 1, 1) := by decide +kernel
theorem dX8_moveMany_33 : decode cX8_moveMany 33 = .ok (.goto 4, 3) := by decide +kernel
theorem dX8_moveMany_36 : decode cX8_moveMany 36 = .ok (.iconst 0, 1) := by decide +kernel
theorem dX8_moveMany_37 : decode cX8_moveMany 37 = .ok (.iadd, 1) := by decide +kernel
theorem dX8_moveMany_38 : decode cX8_moveMany 38 = .ok (.istore_n 1, 1) := by decide +kernel
theorem dX8_moveMany_39 : decode cX8_moveMany 39 = .ok (.iinc 3 1, 3) := by decide +kernel
theorem dX8_moveMany_42 : decode cX8_moveMany 42 = .ok (.goto (-28), 3) := by decide +kernel
theorem dX8_moveMany_45 : decode cX8_moveMany 45 = .ok (.iinc 2 1, 3) := by decide +kernel
theorem dX8_moveMany_48 : decode cX8_moveMany 48 = .ok (.goto (-44), 3) := by decide +kernel
theorem dX8_moveMany_51 : decode cX8_moveMany 51 = .ok (.iload_n 1, 1) := by decide +kernel
theorem dX8_moveMany_52 : decode cX8_moveMany 52 = .ok (.ireturn, 1) := by decide +kernel
theorem dX8_moves_0 : decode cX8_moves 0 = .ok (.aload_n 0, 1) := by decide +kernel
theorem dX8_moves_1 : decode cX8_moves 1 = .ok (.invokevirtual 151, 3) := by decide +kernel
theorem dX8_moves_4 : decode cX8_moves 4 = .ok (.aload_n 0, 1) := by decide +kernel
theorem dX8_moves_5 : decode cX8_moves 5 = .ok (.invokevirtual 157, 3) := by decide +kernel
theorem dX8_moves_8 : decode cX8_moves 8 = .ok (.ireturn, 1) := by decide +kernel
theorem dX8_moveNow_0 : decode cX8_moveNow 0 = .ok (.aload_n 0, 1) := by decide +kernel
theorem dX8_moveNow_1 : decode cX8_moveNow 1 = .ok (.getfield 13, 3) := by decide +kernel
theorem dX8_moveNow_4 : decode cX8_moveNow 4 = .ok (.iload_n 2, 1) := by decide +kernel
theorem dX8_moveNow_5 : decode cX8_moveNow 5 = .ok (.aload_n 0, 1) := by decide +kernel
theorem dX8_moveNow_6 : decode cX8_moveNow 6 = .ok (.getfield 13, 3) := by decide +kernel
theorem dX8_moveNow_9 : decode cX8_moveNow 9 = .ok (.iload_n 1, 1) := by decide +kernel
theorem dX8_moveNow_10 : decode cX8_moveNow 10 = .ok (.iaload, 1) := by decide +kernel
theorem dX8_moveNow_11 : decode cX8_moveNow 11 = .ok (.iastore, 1) := by decide +kernel
theorem dX8_moveNow_12 : decode cX8_moveNow 12 = .ok (.aload_n 0, 1) := by decide +kernel
theorem dX8_moveNow_13 : decode cX8_moveNow 13 = .ok (.getfield 13, 3) := by decide +kernel
theorem dX8_moveNow_16 : decode cX8_moveNow 16 = .ok (.iload_n 1, 1) := by decide +kernel
theorem dX8_moveNow_17 : decode cX8_moveNow 17 = .ok (.iconst 0, 1) := by decide +kernel
theorem dX8_moveNow_18 : decode cX8_moveNow 18 = .ok (.iastore, 1) := by decide +kernel
theorem dX8_moveNow_19 : decode cX8_moveNow 19 = .ok (.aload_n 0, 1) := by decide +kernel
theorem dX8_moveNow_20 : decode cX8_moveNow 20 = .ok (.getfield 16, 3) := by decide +kernel
theorem dX8_moveNow_23 : decode cX8_moveNow 23 = .ok (.iload_n 2, 1) := by decide +kernel
theorem dX8_moveNow_24 : decode cX8_moveNow 24 = .ok (.aload_n 0, 1) := by decide +kernel
theorem dX8_moveNow_25 : decode cX8_moveNow 25 = .ok (.getfield 16, 3) := by decide +kernel
theorem dX8_moveNow_28 : decode cX8_moveNow 28 = .ok (.iload_n 1, 1) := by decide +kernel
theorem dX8_moveNow_29 : decode cX8_moveNow 29 = .ok (.iaload, 1) := by decide +kernel
theorem dX8_moveNow_30 : decode cX8_moveNow 30 = .ok (.iastore, 1) := by decide +kernel
theorem dX8_moveNow_31 : decode cX8_moveNow 31 = .ok (.aload_n 0, 1) := by decide +kernel
theorem dX8_moveNow_32 : decode cX8_moveNow 32 = .ok (.getfield 16, 3) := by decide +kernel
theorem dX8_moveNow_35 : decode cX8_moveNow 35 = .ok (.iload_n 1, 1) := by decide +kernel
theorem dX8_moveNow_36 : decode cX8_moveNow 36 = .ok (.iconst (-1), 1) := by decide +kernel
theorem dX8_moveNow_37 : decode cX8_moveNow 37 = .ok (.iastore, 1) := by decide +kernel
theorem dX8_moveNow_38 : decode cX8_moveNow 38 = .ok (.return_, 1) := by decide +kernel
theorem dX8_move_0 : decode cX8_move 0 = .ok (.aload_n 0, 1) := by decide +kernel
theorem dX8_move_1 : decode cX8_move 1 = .ok (.iload_n 1, 1) := by decide +kernel
theorem dX8_move_2 : decode cX8_move 2 = .ok (.invokevirtual 121, 3) := by decide +kernel
theorem dX8_move_5 : decode cX8_move 5 = .ok (.ifCond .eq 11, 3) := by decide +kernel
theorem dX8_move_8 : decode cX8_move 8 = .ok (.aload_n 0, 1) := by decide +kernel
theorem dX8_move_9 : decode cX8_move 9 = .ok (.iload_n 2, 1) := by decide +kernel
theorem dX8_move_10 : decode cX8_move 10 = .ok (.invokevirtual 121, 3) := by decide +kernel
theorem dX8_move_13 : decode cX8_move 13 = .ok (.ifCond .ne 6, 3) := by decide +kernel
theorem dX8_move_16 : decode cX8_move 16 = .ok (.bipush (-101), 2) := by decide +kernel
theorem dX8_move_18 : decode cX8_move 18 = .ok (.ireturn, 1) := by decide +kernel
theorem dX8_move_19 : decode cX8_move 19 = .ok (.aload_n 0, 1) := by decide +kernel
theorem dX8_move_20 : decode cX8_move 20 = .ok (.invokevirtual 151, 3) := by decide +kernel
theorem dX8_move_23 : decode cX8_move 23 = .ok (.aload_n 0, 1) := by decide +kernel
theorem dX8_move_24 : decode cX8_move 24 = .ok (.iload_n 1, 1) := by decide +kernel
theorem dX8_move_25 : decode cX8_move 25 = .ok (.iload_n 2, 1) := by decide +kernel
theorem dX8_move_26 : decode cX8_move 26 = .ok (.invokevirtual 154, 3) := by decide +kernel
theorem dX8_move_29 : decode cX8_move 29 = .ok (.ifCond .ne 6, 3) := by decide +kernel
theorem dX8_move_32 : decode cX8_move 32 = .ok (.bipush (-103), 2) := by decide +kernel
theorem dX8_move_34 : decode cX8_move 34 = .ok (.ireturn, 1) := by decide +kernel
theorem dX8_move_35 : decode cX8_move 35 = .ok (.aload_n 0, 1) := by decide +kernel
theorem dX8_move_36 : decode cX8_move 36 = .ok (.getfield 111, 3) := by decide +kernel
theorem dX8_move_39 : decode cX8_move 39 = .ok (.bipush 60, 2) := by decide +kernel
theorem dX8_move_41 : decode cX8_move 41 = .ok (.if_icmp .ne 6, 3) := by decide +kernel
theorem dX8_move_44 : decode cX8_move 44 = .ok (.bipush (-104), 2) := by decide +kernel
theorem dX8_move_46 : decode cX8_move 46 = .ok (.ireturn, 1) := by decide +kernel
theorem dX8_move_47 : decode cX8_move 47 = .ok (.aload_n 0, 1) := by decide +kernel
theorem dX8_move_48 : decode cX8_move 48 = .ok (.iload_n 1, 1) := by decide +kernel
theorem dX8_move_49 : decode cX8_move 49 = .ok (.iload_n 2, 1) := by decide +kernel
theorem dX8_move_50 : decode cX8_move 50 = .ok (.invokevirtual 161, 3) := by decide +kernel
theorem dX8_move_53 : decode cX8_move 53 = .ok (.aload_n 0, 1) := by decide +kernel
theorem dX8_move_54 : decode cX8_move 54 = .ok (.getfield 22, 3) := by decide +kernel
theorem dX8_move_57 : decode cX8_move 57 = .ok (.aload_n 0, 1) := by decide +kernel
theorem dX8_move_58 : decode cX8_move 58 = .ok (.getfield 111, 3) := by decide +kernel
theorem dX8_move_61 : decode cX8_move 61 = .ok (.iload_n 1, 1) := by decide +kernel
theorem dX8_move_62 : decode cX8_move 62 = .ok (.iastore, 1) := by decide +kernel
theorem dX8_move_63 : decode cX8_move 63 = .ok (.aload_n 0, 1) := by decide +kernel
theorem dX8_move_64 : decode cX8_move 64 = .ok (.getfield 25, 3) := by decide +kernel
theorem dX8_move_67 : decode cX8_move 67 = .ok (.aload_n 0, 1) := by decide +kernel
theorem dX8_move_68 : decode cX8_move 68 = .ok (.getfield 111, 3) := by decide +kernel
theorem dX8_move_71 : decode cX8_move 71 = .ok (.iload_n 2, 1) := by decide +kernel
theorem dX8_move_72 : decode cX8_move 72 = .ok (.iastore, 1) := by decide +kernel
theorem dX8_move_73 : decode cX8_move 73 = .ok (.aload_n 0, 1) := by decide +kernel
theorem dX8_move_74 : decode cX8_move 74 = .ok (.dup, 1) := by decide +kernel
theorem dX8_move_75 : decode cX8_move 75 = .ok (.getfield 111, 3) := by decide +kernel
theorem dX8_move_78 : decode cX8_move 78 = .ok (.iconst 1, 1) := by decide +kernel
theorem dX8_move_79 : decode cX8_move 79 = .ok (.iadd, 1) := by decide +kernel
theorem dX8_move_80 : decode cX8_move 80 = .ok (.putfield 111, 3) := by decide +kernel
theorem dX8_move_83 : decode cX8_move 83 = .ok (.aload_n 0, 1) := by decide +kernel
theorem dX8_move_84 : decode cX8_move 84 = .ok (.getfield 111, 3) := by decide +kernel
theorem dX8_move_87 : decode cX8_move 87 = .ok (.ireturn, 1) := by decide +kernel
theorem dX8_back_0 : decode cX8_back 0 = .ok (.aload_n 0, 1) := by decide +kernel
theorem dX8_back_1 : decode cX8_back 1 = .ok (.getfield 111, 3) := by decide +kernel
theorem dX8_back_4 : decode cX8_back 4 = .ok (.ifCond .ne 6, 3) := by decide +kernel
theorem dX8_back_7 : decode cX8_back 7 = .ok (.bipush (-103), 2) := by decide +kernel
theorem dX8_back_9 : decode cX8_back 9 = .ok (.ireturn, 1) := by decide +kernel
theorem dX8_back_10 : decode cX8_back 10 = .ok (.aload_n 0, 1) := by decide +kernel
theorem dX8_back_11 : decode cX8_back 11 = .ok (.dup, 1) := by decide +kernel
theorem dX8_back_12 : decode cX8_back 12 = .ok (.getfield 111, 3) := by decide +kernel
theorem dX8_back_15 : decode cX8_back 15 = .ok (.iconst 1, 1) := by decide +kernel
theorem dX8_back_16 : decode cX8_back 16 = .ok (.isub, 1) := by decide +kernel
theorem dX8_back_17 : decode cX8_back 17 = .ok (.putfield 111, 3) := by decide +kernel
theorem dX8_back_20 : decode cX8_back 20 = .ok (.aload_n 0, 1) := by decide +kernel
theorem dX8_back_21 : decode cX8_back 21 = .ok (.aload_n 0, 1) := by decide +kernel
theorem dX8_back_22 : decode cX8_back 22 = .ok (.getfield 25, 3) := by decide +kernel
theorem dX8_back_25 : decode cX8_back 25 = .ok (.aload_n 0, 1) := by decide +kernel
theorem dX8_back_26 : decode cX8_back 26 = .ok (.getfield 111, 3) := by decide +kernel
theorem dX8_back_29 : decode cX8_back 29 = .ok (.iaload, 1) := by decide +kernel
theorem dX8_back_30 : decode cX8_back 30 = .ok (.aload_n 0, 1) := by decide +kernel
theorem dX8_back_31 : decode cX8_back 31 = .ok (.getfield 22, 3) := by decide +kernel
theorem dX8_back_34 : decode cX8_back 34 = .ok (.aload_n 0, 1) := by decide +kernel
theorem dX8_back_35 : decode cX8_back 35 = .ok (.getfield 111, 3) := by decide +kernel
theorem dX8_back_38 : decode cX8_back 38 = .ok (.iaload, 1) := by decide +kernel
theorem dX8_back_39 : decode cX8_back 39 = .ok (.invokevirtual 161, 3) := by decide +kernel
theorem dX8_back_42 : decode cX8_back 42 = .ok (.aload_n 0, 1) := by decide +kernel
theorem dX8_back_43 : decode cX8_back 43 = .ok (.getfield 22, 3) := by decide +kernel
theorem dX8_back_46 : decode cX8_back 46 = .ok (.aload_n 0, 1) := by decide +kernel
theorem dX8_back_47 : decode cX8_back 47 = .ok (.getfield 111, 3) := by decide +kernel
theorem dX8_back_50 : decode cX8_back 50 = .ok (.iaload, 1) := by decide +kernel
theorem dX8_back_51 : decode cX8_back 51 = .ok (.ireturn, 1) := by decide +kernel
theorem dX8_power_0 : decode cX8_power 0 = .ok (.iconst 1, 1) := by decide +kernel
theorem dX8_power_1 : decode cX8_power 1 = .ok (.istore_n 1, 1) := by decide +kernel
theorem dX8_power_2 : decode cX8_power 2 = .ok (.iconst 0, 1) := by decide +kernel
theorem dX8_power_3 : decode cX8_power 3 = .ok (.istore_n 2, 1) := by decide +kernel
theorem dX8_power_4 : decode cX8_power 4 = .ok (.iload_n 2, 1) := by decide +kernel
theorem dX8_power_5 : decode cX8_power 5 = .ok (.iload_n 0, 1) := by decide +kernel
theorem dX8_power_6 : decode cX8_power 6 = .ok (.if_icmp .ge 13, 3) := by decide +kernel
theorem dX8_power_9 : decode cX8_power 9 = .ok (.iload_n 1, 1) := by decide +kernel
theorem dX8_power_10 : decode cX8_power 10 = .ok (.iconst 5, 1) := by decide +kernel
theorem dX8_power_11 : decode cX8_power 11 = .ok (.imul, 1) := by decide +kernel
theorem dX8_power_12 : decode cX8_power 12 = .ok (.istore_n 1, 1) := by decide +kernel
theorem dX8_power_13 : decode cX8_power 13 = .ok (.iinc 2 1, 3) := by decide +kernel
theorem dX8_power_16 : decode cX8_power 16 = .ok (.goto (-12), 3) := by decide +kernel
theorem dX8_power_19 : decode cX8_power 19 = .ok (.iload_n 1, 1) := by decide +kernel
theorem dX8_power_20 : decode cX8_power 20 = .ok (.ireturn, 1) := by decide +kernel
theorem dX8_codeOf_0 : decode cX8_codeOf 0 = .ok (.iconst 0, 1) := by decide +kernel
theorem dX8_codeOf_1 : decode cX8_codeOf 1 = .ok (.istore_n 1, 1) := by decide +kernel
theorem dX8_codeOf_2 : decode cX8_codeOf 2 = .ok (.aload_n 0, 1) := by decide +kernel
theorem dX8_codeOf_3 : decode cX8_codeOf 3 = .ok (.getfield 135, 3) := by decide +kernel
theorem dX8_codeOf_6 : decode cX8_codeOf 6 = .ok (.iconst 1, 1) := by decide +kernel
theorem dX8_codeOf_7 : decode cX8_codeOf 7 = .ok (.isub, 1) := by decide +kernel
theorem dX8_codeOf_8 : decode cX8_codeOf 8 = .ok (.istore_n 2, 1) := by decide +kernel
theorem dX8_codeOf_9 : decode cX8_codeOf 9 = .ok (.iload_n 2, 1) := by decide +kernel
theorem dX8_codeOf_10 : decode cX8_codeOf 10 = .ok (.ifCond .lt 20, 3) := by decide +kernel
theorem dX8_codeOf_13 : decode cX8_codeOf 13 = .ok (.iconst 5, 1) := by decide +kernel
theorem dX8_codeOf_14 : decode cX8_codeOf 14 = .ok (.iload_n 1, 1) := by decide +kernel
theorem dX8_codeOf_15 : decode cX8_codeOf 15 = .ok (.imul, 1) := by decide +kernel
theorem dX8_codeOf_16 : decode cX8_codeOf 16 = .ok (.aload_n 0, 1) := by decide +kernel
theorem dX8_codeOf_17 : decode cX8_codeOf 17 = .ok (.getfield 35, 3) := by decide +kernel
theorem dX8_codeOf_20 : decode cX8_codeOf 20 = .ok (.iload_n 2, 1) := by decide +kernel
theorem dX8_codeOf_21 : decode cX8_codeOf 21 = .ok (.iaload, 1) := by decide +kernel
theorem dX8_codeOf_22 : decode cX8_codeOf 22 = .ok (.iadd, 1) := by decide +kernel
theorem dX8_codeOf_23 : decode cX8_codeOf 23 = .ok (.istore_n 1, 1) := by decide +kernel
theorem dX8_codeOf_24 : decode cX8_codeOf 24 = .ok (.iinc 2 (-1), 3) := by decide +kernel
theorem dX8_codeOf_27 : decode cX8_codeOf 27 = .ok (.goto (-18), 3) := by decide +kernel
theorem dX8_codeOf_30 : decode cX8_codeOf 30 = .ok (.iload_n 1, 1) := by decide +kernel
theorem dX8_codeOf_31 : decode cX8_codeOf 31 = .ok (.ireturn, 1) := by decide +kernel
theorem dX8_turnedCode_0 : decode cX8_turnedCode 0 = .ok (.iconst 0, 1) := by decide +kernel
theorem dX8_turnedCode_1 : decode cX8_turnedCode 1 = .ok (.istore_n 1, 1) := by decide +kernel
theorem dX8_turnedCode_2 : decode cX8_turnedCode 2 = .ok (.iconst 0, 1) := by decide +kernel
theorem dX8_turnedCode_3 : decode cX8_turnedCode 3 = .ok (.istore_n 2, 1) := by decide +kernel
theorem dX8_turnedCode_4 : decode cX8_turnedCode 4 = .ok (.iload_n 2, 1) := by decide +kernel
theorem dX8_turnedCode_5 : decode cX8_turnedCode 5 = .ok (.aload_n 0, 1) := by decide +kernel
theorem dX8_turnedCode_6 : decode cX8_turnedCode 6 = .ok (.getfield 135, 3) := by decide +kernel
theorem dX8_turnedCode_9 : decode cX8_turnedCode 9 = .ok (.if_icmp .ge 20, 3) := by decide +kernel
theorem dX8_turnedCode_12 : decode cX8_turnedCode 12 = .ok (.iconst 5, 1) := by decide +kernel
theorem dX8_turnedCode_13 : decode cX8_turnedCode 13 = .ok (.iload_n 1, 1) := by decide +kernel
theorem dX8_turnedCode_14 : decode cX8_turnedCode 14 = .ok (.imul, 1) := by decide +kernel
theorem dX8_turnedCode_15 : decode cX8_turnedCode 15 = .ok (.aload_n 0, 1) := by decide +kernel
theorem dX8_turnedCode_16 : decode cX8_turnedCode 16 = .ok (.getfield 35, 3) := by decide +kernel
theorem dX8_turnedCode_19 : decode cX8_turnedCode 19 = .ok (.iload_n 2, 1) := by decide +kernel
theorem dX8_turnedCode_20 : decode cX8_turnedCode 20 = .ok (.iaload, 1) := by decide +kernel
theorem dX8_turnedCode_21 : decode cX8_turnedCode 21 = .ok (.iadd, 1) := by decide +kernel
theorem dX8_turnedCode_22 : decode cX8_turnedCode 22 = .ok (.istore_n 1, 1) := by decide +kernel
theorem dX8_turnedCode_23 : decode cX8_turnedCode 23 = .ok (.iinc 2 1, 3) := by decide +kernel
theorem dX8_turnedCode_26 : decode cX8_turnedCode 26 = .ok (.goto (-22), 3) := by decide +kernel
theorem dX8_turnedCode_29 : decode cX8_turnedCode 29 = .ok (.iload_n 1, 1) := by decide +kernel
theorem dX8_turnedCode_30 : decode cX8_turnedCode 30 = .ok (.ireturn, 1) := by decide +kernel
theorem dX8_layRow_0 : decode cX8_layRow 0 = .ok (.iload_n 1, 1) := by decide +kernel
theorem dX8_layRow_1 : decode cX8_layRow 1 = .ok (.istore_n 2, 1) := by decide +kernel
theorem dX8_layRow_2 : decode cX8_layRow 2 = .ok (.iconst 0, 1) := by decide +kernel
theorem dX8_layRow_3 : decode cX8_layRow 3 = .ok (.istore_n 3, 1) := by decide +kernel
theorem dX8_layRow_4 : decode cX8_layRow 4 = .ok (.iload_n 3, 1) := by decide +kernel
theorem dX8_layRow_5 : decode cX8_layRow 5 = .ok (.aload_n 0, 1) := by decide +kernel
theorem dX8_layRow_6 : decode cX8_layRow 6 = .ok (.getfield 135, 3) := by decide +kernel
theorem dX8_layRow_9 : decode cX8_layRow 9 = .ok (.if_icmp .ge 22, 3) := by decide +kernel
theorem dX8_layRow_12 : decode cX8_layRow 12 = .ok (.aload_n 0, 1) := by decide +kernel
theorem dX8_layRow_13 : decode cX8_layRow 13 = .ok (.getfield 35, 3) := by decide +kernel
theorem dX8_layRow_16 : decode cX8_layRow 16 = .ok (.iload_n 3, 1) := by decide +kernel
theorem dX8_layRow_17 : decode cX8_layRow 17 = .ok (.iload_n 2, 1) := by decide +kernel
theorem dX8_layRow_18 : decode cX8_layRow 18 = .ok (.iconst 5, 1) := by decide +kernel
end
section
theorem dX8_layRow_19 : decode cX8_layRow 19 = .ok (.irem, 1) := by decide +kernel
theorem dX8_layRow_20 : decode cX8_layRow 20 = .ok (.iastore, 1) := by decide +kernel
theorem dX8_layRow_21 : decode cX8_layRow 21 = .ok (.iload_n 2, 1) := by decide +kernel
theorem dX8_layRow_22 : decode cX8_layRow 22 = .ok (.iconst 5, 1) := by decide +kernel
theorem dX8_layRow_23 : decode cX8_layRow 23 = .ok (.idiv, 1) := by decide +kernel
theorem dX8_layRow_24 : decode cX8_layRow 24 = .ok (.istore_n 2, 1) := by decide +kernel
theorem dX8_layRow_25 : decode cX8_layRow 25 = .ok (.iinc 3 1, 3) := by decide +kernel
theorem dX8_layRow_28 : decode cX8_layRow 28 = .ok (.goto (-24), 3) := by decide +kernel
theorem dX8_layRow_31 : decode cX8_layRow 31 = .ok (.return_, 1) := by decide +kernel
theorem dX8_behindMove_0 : decode cX8_behindMove 0 = .ok (.iload_n 0, 1) := by decide +kernel
theorem dX8_behindMove_1 : decode cX8_behindMove 1 = .ok (.iload_n 1, 1) := by decide +kernel
theorem dX8_behindMove_2 : decode cX8_behindMove 2 = .ok (.iload_n 2, 1) := by decide +kernel
theorem dX8_behindMove_3 : decode cX8_behindMove 3 = .ok (.invokestatic 165, 3) := by decide +kernel
theorem dX8_behindMove_6 : decode cX8_behindMove 6 = .ok (.imul, 1) := by decide +kernel
theorem dX8_behindMove_7 : decode cX8_behindMove 7 = .ok (.isub, 1) := by decide +kernel
theorem dX8_behindMove_8 : decode cX8_behindMove 8 = .ok (.iload_n 1, 1) := by decide +kernel
theorem dX8_behindMove_9 : decode cX8_behindMove 9 = .ok (.iload_n 3, 1) := by decide +kernel
theorem dX8_behindMove_10 : decode cX8_behindMove 10 = .ok (.invokestatic 165, 3) := by decide +kernel
theorem dX8_behindMove_13 : decode cX8_behindMove 13 = .ok (.imul, 1) := by decide +kernel
theorem dX8_behindMove_14 : decode cX8_behindMove 14 = .ok (.iadd, 1) := by decide +kernel
theorem dX8_behindMove_15 : decode cX8_behindMove 15 = .ok (.ireturn, 1) := by decide +kernel
theorem dX8_come_0 : decode cX8_come 0 = .ok (.aload_n 0, 1) := by decide +kernel
theorem dX8_come_1 : decode cX8_come 1 = .ok (.getfield 39, 3) := by decide +kernel
theorem dX8_come_4 : decode cX8_come 4 = .ok (.iload_n 1, 1) := by decide +kernel
theorem dX8_come_5 : decode cX8_come 5 = .ok (.iaload, 1) := by decide +kernel
theorem dX8_come_6 : decode cX8_come 6 = .ok (.ifCond .ne 46, 3) := by decide +kernel
theorem dX8_come_9 : decode cX8_come 9 = .ok (.aload_n 0, 1) := by decide +kernel
theorem dX8_come_10 : decode cX8_come 10 = .ok (.getfield 39, 3) := by decide +kernel
theorem dX8_come_13 : decode cX8_come 13 = .ok (.iload_n 1, 1) := by decide +kernel
theorem dX8_come_14 : decode cX8_come 14 = .ok (.iload_n 2, 1) := by decide +kernel
theorem dX8_come_15 : decode cX8_come 15 = .ok (.iconst (-1), 1) := by decide +kernel
theorem dX8_come_16 : decode cX8_come 16 = .ok (.if_icmp .ne 7, 3) := by decide +kernel
theorem dX8_come_19 : decode cX8_come 19 = .ok (.iconst 1, 1) := by decide +kernel
theorem dX8_come_20 : decode cX8_come 20 = .ok (.goto 11, 3) := by decide +kernel
theorem dX8_come_23 : decode cX8_come 23 = .ok (.aload_n 0, 1) := by decide +kernel
theorem dX8_come_24 : decode cX8_come 24 = .ok (.getfield 39, 3) := by decide +kernel
theorem dX8_come_27 : decode cX8_come 27 = .ok (.iload_n 2, 1) := by decide +kernel
theorem dX8_come_28 : decode cX8_come 28 = .ok (.iaload, 1) := by decide +kernel
theorem dX8_come_29 : decode cX8_come 29 = .ok (.iconst 1, 1) := by decide +kernel
theorem dX8_come_30 : decode cX8_come 30 = .ok (.iadd, 1) := by decide +kernel
theorem dX8_come_31 : decode cX8_come 31 = .ok (.iastore, 1) := by decide +kernel
theorem dX8_come_32 : decode cX8_come 32 = .ok (.aload_n 0, 1) := by decide +kernel
theorem dX8_come_33 : decode cX8_come 33 = .ok (.getfield 46, 3) := by decide +kernel
theorem dX8_come_36 : decode cX8_come 36 = .ok (.aload_n 0, 1) := by decide +kernel
theorem dX8_come_37 : decode cX8_come 37 = .ok (.getfield 168, 3) := by decide +kernel
theorem dX8_come_40 : decode cX8_come 40 = .ok (.iload_n 1, 1) := by decide +kernel
theorem dX8_come_41 : decode cX8_come 41 = .ok (.iastore, 1) := by decide +kernel
theorem dX8_come_42 : decode cX8_come 42 = .ok (.aload_n 0, 1) := by decide +kernel
theorem dX8_come_43 : decode cX8_come 43 = .ok (.dup, 1) := by decide +kernel
theorem dX8_come_44 : decode cX8_come 44 = .ok (.getfield 168, 3) := by decide +kernel
theorem dX8_come_47 : decode cX8_come 47 = .ok (.iconst 1, 1) := by decide +kernel
theorem dX8_come_48 : decode cX8_come 48 = .ok (.iadd, 1) := by decide +kernel
theorem dX8_come_49 : decode cX8_come 49 = .ok (.putfield 168, 3) := by decide +kernel
theorem dX8_come_52 : decode cX8_come 52 = .ok (.aload_n 0, 1) := by decide +kernel
theorem dX8_come_53 : decode cX8_come 53 = .ok (.getfield 42, 3) := by decide +kernel
theorem dX8_come_56 : decode cX8_come 56 = .ok (.iload_n 1, 1) := by decide +kernel
theorem dX8_come_57 : decode cX8_come 57 = .ok (.dup2, 1) := by decide +kernel
theorem dX8_come_58 : decode cX8_come 58 = .ok (.laload, 1) := by decide +kernel
theorem dX8_come_59 : decode cX8_come 59 = .ok (.iload_n 2, 1) := by decide +kernel
theorem dX8_come_60 : decode cX8_come 60 = .ok (.iconst (-1), 1) := by decide +kernel
theorem dX8_come_61 : decode cX8_come 61 = .ok (.if_icmp .ne 7, 3) := by decide +kernel
theorem dX8_come_64 : decode cX8_come 64 = .ok (.lconst 1, 1) := by decide +kernel
theorem dX8_come_65 : decode cX8_come 65 = .ok (.goto 30, 3) := by decide +kernel
theorem dX8_come_68 : decode cX8_come 68 = .ok (.aload_n 0, 1) := by decide +kernel
theorem dX8_come_69 : decode cX8_come 69 = .ok (.getfield 39, 3) := by decide +kernel
theorem dX8_come_72 : decode cX8_come 72 = .ok (.iload_n 1, 1) := by decide +kernel
theorem dX8_come_73 : decode cX8_come 73 = .ok (.iaload, 1) := by decide +kernel
theorem dX8_come_74 : decode cX8_come 74 = .ok (.aload_n 0, 1) := by decide +kernel
theorem dX8_come_75 : decode cX8_come 75 = .ok (.getfield 39, 3) := by decide +kernel
theorem dX8_come_78 : decode cX8_come 78 = .ok (.iload_n 2, 1) := by decide +kernel
theorem dX8_come_79 : decode cX8_come 79 = .ok (.iaload, 1) := by decide +kernel
theorem dX8_come_80 : decode cX8_come 80 = .ok (.iconst 1, 1) := by decide +kernel
theorem dX8_come_81 : decode cX8_come 81 = .ok (.iadd, 1) := by decide +kernel
theorem dX8_come_82 : decode cX8_come 82 = .ok (.if_icmp .ne 12, 3) := by decide +kernel
theorem dX8_come_85 : decode cX8_come 85 = .ok (.aload_n 0, 1) := by decide +kernel
theorem dX8_come_86 : decode cX8_come 86 = .ok (.getfield 42, 3) := by decide +kernel
theorem dX8_come_89 : decode cX8_come 89 = .ok (.iload_n 2, 1) := by decide +kernel
theorem dX8_come_90 : decode cX8_come 90 = .ok (.laload, 1) := by decide +kernel
theorem dX8_come_91 : decode cX8_come 91 = .ok (.goto 4, 3) := by decide +kernel
theorem dX8_come_94 : decode cX8_come 94 = .ok (.lconst 0, 1) := by decide +kernel
theorem dX8_come_95 : decode cX8_come 95 = .ok (.ladd, 1) := by decide +kernel
theorem dX8_come_96 : decode cX8_come 96 = .ok (.lastore, 1) := by decide +kernel
theorem dX8_come_97 : decode cX8_come 97 = .ok (.return_, 1) := by decide +kernel
theorem dX8_layFar_0 : decode cX8_layFar 0 = .ok (.iconst 0, 1) := by decide +kernel
theorem dX8_layFar_1 : decode cX8_layFar 1 = .ok (.istore_n 1, 1) := by decide +kernel
theorem dX8_layFar_2 : decode cX8_layFar 2 = .ok (.iload_n 1, 1) := by decide +kernel
theorem dX8_layFar_3 : decode cX8_layFar 3 = .ok (.aload_n 0, 1) := by decide +kernel
theorem dX8_layFar_4 : decode cX8_layFar 4 = .ok (.getfield 168, 3) := by decide +kernel
theorem dX8_layFar_7 : decode cX8_layFar 7 = .ok (.if_icmp .ge 33, 3) := by decide +kernel
theorem dX8_layFar_10 : decode cX8_layFar 10 = .ok (.aload_n 0, 1) := by decide +kernel
theorem dX8_layFar_11 : decode cX8_layFar 11 = .ok (.getfield 39, 3) := by decide +kernel
theorem dX8_layFar_14 : decode cX8_layFar 14 = .ok (.aload_n 0, 1) := by decide +kernel
theorem dX8_layFar_15 : decode cX8_layFar 15 = .ok (.getfield 46, 3) := by decide +kernel
theorem dX8_layFar_18 : decode cX8_layFar 18 = .ok (.iload_n 1, 1) := by decide +kernel
theorem dX8_layFar_19 : decode cX8_layFar 19 = .ok (.iaload, 1) := by decide +kernel
theorem dX8_layFar_20 : decode cX8_layFar 20 = .ok (.iconst 0, 1) := by decide +kernel
theorem dX8_layFar_21 : decode cX8_layFar 21 = .ok (.iastore, 1) := by decide +kernel
theorem dX8_layFar_22 : decode cX8_layFar 22 = .ok (.aload_n 0, 1) := by decide +kernel
theorem dX8_layFar_23 : decode cX8_layFar 23 = .ok (.getfield 42, 3) := by decide +kernel
theorem dX8_layFar_26 : decode cX8_layFar 26 = .ok (.aload_n 0, 1) := by decide +kernel
theorem dX8_layFar_27 : decode cX8_layFar 27 = .ok (.getfield 46, 3) := by decide +kernel
theorem dX8_layFar_30 : decode cX8_layFar 30 = .ok (.iload_n 1, 1) := by decide +kernel
theorem dX8_layFar_31 : decode cX8_layFar 31 = .ok (.iaload, 1) := by decide +kernel
theorem dX8_layFar_32 : decode cX8_layFar 32 = .ok (.lconst 0, 1) := by decide +kernel
theorem dX8_layFar_33 : decode cX8_layFar 33 = .ok (.lastore, 1) := by decide +kernel
theorem dX8_layFar_34 : decode cX8_layFar 34 = .ok (.iinc 1 1, 3) := by decide +kernel
theorem dX8_layFar_37 : decode cX8_layFar 37 = .ok (.goto (-35), 3) := by decide +kernel
theorem dX8_layFar_40 : decode cX8_layFar 40 = .ok (.aload_n 0, 1) := by decide +kernel
theorem dX8_layFar_41 : decode cX8_layFar 41 = .ok (.iconst 0, 1) := by decide +kernel
theorem dX8_layFar_42 : decode cX8_layFar 42 = .ok (.putfield 168, 3) := by decide +kernel
theorem dX8_layFar_45 : decode cX8_layFar 45 = .ok (.aload_n 0, 1) := by decide +kernel
theorem dX8_layFar_46 : decode cX8_layFar 46 = .ok (.aload_n 0, 1) := by decide +kernel
theorem dX8_layFar_47 : decode cX8_layFar 47 = .ok (.invokevirtual 171, 3) := by decide +kernel
theorem dX8_layFar_50 : decode cX8_layFar 50 = .ok (.iconst (-1), 1) := by decide +kernel
theorem dX8_layFar_51 : decode cX8_layFar 51 = .ok (.invokevirtual 174, 3) := by decide +kernel
theorem dX8_layFar_54 : decode cX8_layFar 54 = .ok (.iconst 0, 1) := by decide +kernel
theorem dX8_layFar_55 : decode cX8_layFar 55 = .ok (.istore_n 1, 1) := by decide +kernel
theorem dX8_layFar_56 : decode cX8_layFar 56 = .ok (.iload_n 1, 1) := by decide +kernel
theorem dX8_layFar_57 : decode cX8_layFar 57 = .ok (.aload_n 0, 1) := by decide +kernel
theorem dX8_layFar_58 : decode cX8_layFar 58 = .ok (.getfield 168, 3) := by decide +kernel
theorem dX8_layFar_61 : decode cX8_layFar 61 = .ok (.if_icmp .ge 83, 3) := by decide +kernel
theorem dX8_layFar_64 : decode cX8_layFar 64 = .ok (.aload_n 0, 1) := by decide +kernel
theorem dX8_layFar_65 : decode cX8_layFar 65 = .ok (.getfield 46, 3) := by decide +kernel
theorem dX8_layFar_68 : decode cX8_layFar 68 = .ok (.iload_n 1, 1) := by decide +kernel
theorem dX8_layFar_69 : decode cX8_layFar 69 = .ok (.iaload, 1) := by decide +kernel
theorem dX8_layFar_70 : decode cX8_layFar 70 = .ok (.istore_n 2, 1) := by decide +kernel
theorem dX8_layFar_71 : decode cX8_layFar 71 = .ok (.aload_n 0, 1) := by decide +kernel
theorem dX8_layFar_72 : decode cX8_layFar 72 = .ok (.iload_n 2, 1) := by decide +kernel
theorem dX8_layFar_73 : decode cX8_layFar 73 = .ok (.invokevirtual 177, 3) := by decide +kernel
theorem dX8_layFar_76 : decode cX8_layFar 76 = .ok (.iconst 0, 1) := by decide +kernel
theorem dX8_layFar_77 : decode cX8_layFar 77 = .ok (.istore_n 3, 1) := by decide +kernel
theorem dX8_layFar_78 : decode cX8_layFar 78 = .ok (.iload_n 3, 1) := by decide +kernel
theorem dX8_layFar_79 : decode cX8_layFar 79 = .ok (.aload_n 0, 1) := by decide +kernel
theorem dX8_layFar_80 : decode cX8_layFar 80 = .ok (.getfield 135, 3) := by decide +kernel
theorem dX8_layFar_83 : decode cX8_layFar 83 = .ok (.if_icmp .ge 55, 3) := by decide +kernel
theorem dX8_layFar_86 : decode cX8_layFar 86 = .ok (.iconst 0, 1) := by decide +kernel
theorem dX8_layFar_87 : decode cX8_layFar 87 = .ok (.istore 4, 2) := by decide +kernel
theorem dX8_layFar_89 : decode cX8_layFar 89 = .ok (.iload 4, 2) := by decide +kernel
theorem dX8_layFar_91 : decode cX8_layFar 91 = .ok (.aload_n 0, 1) := by decide +kernel
theorem dX8_layFar_92 : decode cX8_layFar 92 = .ok (.getfield 135, 3) := by decide +kernel
theorem dX8_layFar_95 : decode cX8_layFar 95 = .ok (.if_icmp .ge 37, 3) := by decide +kernel
theorem dX8_layFar_98 : decode cX8_layFar 98 = .ok (.aload_n 0, 1) := by decide +kernel
theorem dX8_layFar_99 : decode cX8_layFar 99 = .ok (.iload_n 3, 1) := by decide +kernel
theorem dX8_layFar_100 : decode cX8_layFar 100 = .ok (.iload 4, 2) := by decide +kernel
theorem dX8_layFar_102 : decode cX8_layFar 102 = .ok (.invokevirtual 154, 3) := by decide +kernel
theorem dX8_layFar_105 : decode cX8_layFar 105 = .ok (.ifCond .eq 21, 3) := by decide +kernel
theorem dX8_layFar_108 : decode cX8_layFar 108 = .ok (.aload_n 0, 1) := by decide +kernel
theorem dX8_layFar_109 : decode cX8_layFar 109 = .ok (.iload_n 2, 1) := by decide +kernel
theorem dX8_layFar_110 : decode cX8_layFar 110 = .ok (.aload_n 0, 1) := by decide +kernel
theorem dX8_layFar_111 : decode cX8_layFar 111 = .ok (.getfield 35, 3) := by decide +kernel
theorem dX8_layFar_114 : decode cX8_layFar 114 = .ok (.iload_n 3, 1) := by decide +kernel
theorem dX8_layFar_115 : decode cX8_layFar 115 = .ok (.iaload, 1) := by decide +kernel
theorem dX8_layFar_116 : decode cX8_layFar 116 = .ok (.iload_n 3, 1) := by decide +kernel
theorem dX8_layFar_117 : decode cX8_layFar 117 = .ok (.iload 4, 2) := by decide +kernel
theorem dX8_layFar_119 : decode cX8_layFar 119 = .ok (.invokestatic 181, 3) := by decide +kernel
theorem dX8_layFar_122 : decode cX8_layFar 122 = .ok (.iload_n 2, 1) := by decide +kernel
theorem dX8_layFar_123 : decode cX8_layFar 123 = .ok (.invokevirtual 174, 3) := by decide +kernel
theorem dX8_layFar_126 : decode cX8_layFar 126 = .ok (.iinc 4 1, 3) := by decide +kernel
theorem dX8_layFar_129 : decode cX8_layFar 129 = .ok (.goto (-40), 3) := by decide +kernel
theorem dX8_layFar_132 : decode cX8_layFar 132 = .ok (.iinc 3 1, 3) := by decide +kernel
theorem dX8_layFar_135 : decode cX8_layFar 135 = .ok (.goto (-57), 3) := by decide +kernel
theorem dX8_layFar_138 : decode cX8_layFar 138 = .ok (.iinc 1 1, 3) := by decide +kernel
theorem dX8_layFar_141 : decode cX8_layFar 141 = .ok (.goto (-85), 3) := by decide +kernel
theorem dX8_layFar_144 : decode cX8_layFar 144 = .ok (.aload_n 0, 1) := by decide +kernel
theorem dX8_layFar_145 : decode cX8_layFar 145 = .ok (.aload_n 0, 1) := by decide +kernel
theorem dX8_layFar_146 : decode cX8_layFar 146 = .ok (.getfield 46, 3) := by decide +kernel
theorem dX8_layFar_149 : decode cX8_layFar 149 = .ok (.iconst 0, 1) := by decide +kernel
theorem dX8_layFar_150 : decode cX8_layFar 150 = .ok (.iaload, 1) := by decide +kernel
theorem dX8_layFar_151 : decode cX8_layFar 151 = .ok (.invokevirtual 177, 3) := by decide +kernel
theorem dX8_layFar_154 : decode cX8_layFar 154 = .ok (.return_, 1) := by decide +kernel
theorem dX8_layRead_0 : decode cX8_layRead 0 = .ok (.aload_n 0, 1) := by decide +kernel
theorem dX8_layRead_1 : decode cX8_layRead 1 = .ok (.aload_n 0, 1) := by decide +kernel
theorem dX8_layRead_2 : decode cX8_layRead 2 = .ok (.getfield 93, 3) := by decide +kernel
theorem dX8_layRead_5 : decode cX8_layRead 5 = .ok (.putfield 135, 3) := by decide +kernel
theorem dX8_layRead_8 : decode cX8_layRead 8 = .ok (.iconst 0, 1) := by decide +kernel
theorem dX8_layRead_9 : decode cX8_layRead 9 = .ok (.istore_n 1, 1) := by decide +kernel
theorem dX8_layRead_10 : decode cX8_layRead 10 = .ok (.iload_n 1, 1) := by decide +kernel
theorem dX8_layRead_11 : decode cX8_layRead 11 = .ok (.aload_n 0, 1) := by decide +kernel
theorem dX8_layRead_12 : decode cX8_layRead 12 = .ok (.getfield 93, 3) := by decide +kernel
theorem dX8_layRead_15 : decode cX8_layRead 15 = .ok (.if_icmp .ge 21, 3) := by decide +kernel
theorem dX8_layRead_18 : decode cX8_layRead 18 = .ok (.aload_n 0, 1) := by decide +kernel
theorem dX8_layRead_19 : decode cX8_layRead 19 = .ok (.getfield 35, 3) := by decide +kernel
theorem dX8_layRead_22 : decode cX8_layRead 22 = .ok (.iload_n 1, 1) := by decide +kernel
theorem dX8_layRead_23 : decode cX8_layRead 23 = .ok (.aload_n 0, 1) := by decide +kernel
theorem dX8_layRead_24 : decode cX8_layRead 24 = .ok (.getfield 7, 3) := by decide +kernel
theorem dX8_layRead_27 : decode cX8_layRead 27 = .ok (.iload_n 1, 1) := by decide +kernel
theorem dX8_layRead_28 : decode cX8_layRead 28 = .ok (.iaload, 1) := by decide +kernel
theorem dX8_layRead_29 : decode cX8_layRead 29 = .ok (.iastore, 1) := by decide +kernel
theorem dX8_layRead_30 : decode cX8_layRead 30 = .ok (.iinc 1 1, 3) := by decide +kernel
theorem dX8_layRead_33 : decode cX8_layRead 33 = .ok (.goto (-23), 3) := by decide +kernel
theorem dX8_layRead_36 : decode cX8_layRead 36 = .ok (.return_, 1) := by decide +kernel
theorem dX8_goal_0 : decode cX8_goal 0 = .ok (.aload_n 0, 1) := by decide +kernel
theorem dX8_goal_1 : decode cX8_goal 1 = .ok (.invokevirtual 185, 3) := by decide +kernel
theorem dX8_goal_4 : decode cX8_goal 4 = .ok (.aload_n 0, 1) := by decide +kernel
theorem dX8_goal_5 : decode cX8_goal 5 = .ok (.invokevirtual 188, 3) := by decide +kernel
theorem dX8_goal_8 : decode cX8_goal 8 = .ok (.ireturn, 1) := by decide +kernel
theorem dX8_farTo_0 : decode cX8_farTo 0 = .ok (.aload_n 0, 1) := by decide +kernel
theorem dX8_farTo_1 : decode cX8_farTo 1 = .ok (.invokevirtual 191, 3) := by decide +kernel
theorem dX8_farTo_4 : decode cX8_farTo 4 = .ok (.aload_n 0, 1) := by decide +kernel
theorem dX8_farTo_5 : decode cX8_farTo 5 = .ok (.getfield 39, 3) := by decide +kernel
theorem dX8_farTo_8 : decode cX8_farTo 8 = .ok (.iload_n 1, 1) := by decide +kernel
theorem dX8_farTo_9 : decode cX8_farTo 9 = .ok (.iaload, 1) := by decide +kernel
theorem dX8_farTo_10 : decode cX8_farTo 10 = .ok (.iconst 1, 1) := by decide +kernel
theorem dX8_farTo_11 : decode cX8_farTo 11 = .ok (.isub, 1) := by decide +kernel
theorem dX8_farTo_12 : decode cX8_farTo 12 = .ok (.ireturn, 1) := by decide +kernel
theorem dX8_fewestNow_0 : decode cX8_fewestNow 0 = .ok (.aload_n 0, 1) := by decide +kernel
theorem dX8_fewestNow_1 : decode cX8_fewestNow 1 = .ok (.invokevirtual 194, 3) := by decide +kernel
theorem dX8_fewestNow_4 : decode cX8_fewestNow 4 = .ok (.istore_n 2, 1) := by decide +kernel
theorem dX8_fewestNow_5 : decode cX8_fewestNow 5 = .ok (.aload_n 0, 1) := by decide +kernel
theorem dX8_fewestNow_6 : decode cX8_fewestNow 6 = .ok (.invokevirtual 151, 3) := by decide +kernel
theorem dX8_fewestNow_9 : decode cX8_fewestNow 9 = .ok (.aload_n 0, 1) := by decide +kernel
theorem dX8_fewestNow_10 : decode cX8_fewestNow 10 = .ok (.iload_n 2, 1) := by decide +kernel
theorem dX8_fewestNow_11 : decode cX8_fewestNow 11 = .ok (.invokevirtual 197, 3) := by decide +kernel
theorem dX8_fewestNow_14 : decode cX8_fewestNow 14 = .ok (.istore_n 3, 1) := by decide +kernel
theorem dX8_fewestNow_15 : decode cX8_fewestNow 15 = .ok (.iload_n 3, 1) := by decide +kernel
theorem dX8_fewestNow_16 : decode cX8_fewestNow 16 = .ok (.iconst 1, 1) := by decide +kernel
theorem dX8_fewestNow_17 : decode cX8_fewestNow 17 = .ok (.if_icmp .lt 7, 3) := by decide +kernel
theorem dX8_fewestNow_20 : decode cX8_fewestNow 20 = .ok (.iload_n 1, 1) := by decide +kernel
theorem dX8_fewestNow_21 : decode cX8_fewestNow 21 = .ok (.ifCond .ne 13, 3) := by decide +kernel
theorem dX8_fewestNow_24 : decode cX8_fewestNow 24 = .ok (.iload_n 1, 1) := by decide +kernel
theorem dX8_fewestNow_25 : decode cX8_fewestNow 25 = .ok (.ifCond .ne 7, 3) := by decide +kernel
theorem dX8_fewestNow_28 : decode cX8_fewestNow 28 = .ok (.iload_n 3, 1) := by decide +kernel
theorem dX8_fewestNow_29 : decode cX8_fewestNow 29 = .ok (.goto 4, 3) := by decide +kernel
theorem dX8_fewestNow_32 : decode cX8_fewestNow 32 = .ok (.iconst (-1), 1) := by decide +kernel
theorem dX8_fewestNow_33 : decode cX8_fewestNow 33 = .ok (.ireturn, 1) := by decide +kernel
theorem dX8_fewestNow_34 : decode cX8_fewestNow 34 = .ok (.aload_n 0, 1) := by decide +kernel
theorem dX8_fewestNow_35 : decode cX8_fewestNow 35 = .ok (.getfield 46, 3) := by decide +kernel
theorem dX8_fewestNow_38 : decode cX8_fewestNow 38 = .ok (.iconst 0, 1) := by decide +kernel
theorem dX8_fewestNow_39 : decode cX8_fewestNow 39 = .ok (.iaload, 1) := by decide +kernel
theorem dX8_fewestNow_40 : decode cX8_fewestNow 40 = .ok (.istore 4, 2) := by decide +kernel
theorem dX8_fewestNow_42 : decode cX8_fewestNow 42 = .ok (.iconst 0, 1) := by decide +kernel
theorem dX8_fewestNow_43 : decode cX8_fewestNow 43 = .ok (.istore 5, 2) := by decide +kernel
theorem dX8_fewestNow_45 : decode cX8_fewestNow 45 = .ok (.iload 5, 2) := by decide +kernel
theorem dX8_fewestNow_47 : decode cX8_fewestNow 47 = .ok (.aload_n 0, 1) := by decide +kernel
theorem dX8_fewestNow_48 : decode cX8_fewestNow 48 = .ok (.getfield 135, 3) := by decide +kernel
theorem dX8_fewestNow_51 : decode cX8_fewestNow 51 = .ok (.if_icmp .ge 88, 3) := by decide +kernel
theorem dX8_fewestNow_54 : decode cX8_fewestNow 54 = .ok (.iconst 0, 1) := by decide +kernel
theorem dX8_fewestNow_55 : decode cX8_fewestNow 55 = .ok (.istore 6, 2) := by decide +kernel
theorem dX8_fewestNow_57 : decode cX8_fewestNow 57 = .ok (.iload 6, 2) := by decide +kernel
theorem dX8_fewestNow_59 : decode cX8_fewestNow 59 = .ok (.aload_n 0, 1) := by decide +kernel
theorem dX8_fewestNow_60 : decode cX8_fewestNow 60 = .ok (.getfield 135, 3) := by decide +kernel
theorem dX8_fewestNow_63 : decode cX8_fewestNow 63 = .ok (.if_icmp .ge 70, 3) := by decide +kernel
theorem dX8_fewestNow_66 : decode cX8_fewestNow 66 = .ok (.aload_n 0, 1) := by decide +kernel
theorem dX8_fewestNow_67 : decode cX8_fewestNow 67 = .ok (.iload 5, 2) := by decide +kernel
theorem dX8_fewestNow_69 : decode cX8_fewestNow 69 = .ok (.iload 6, 2) := by decide +kernel
theorem dX8_fewestNow_71 : decode cX8_fewestNow 71 = .ok (.invokevirtual 154, 3) := by decide +kernel
theorem dX8_fewestNow_74 : decode cX8_fewestNow 74 = .ok (.ifCond .eq 53, 3) := by decide +kernel
theorem dX8_fewestNow_77 : decode cX8_fewestNow 77 = .ok (.aload_n 0, 1) := by decide +kernel
theorem dX8_fewestNow_78 : decode cX8_fewestNow 78 = .ok (.iload 4, 2) := by decide +kernel
theorem dX8_fewestNow_80 : decode cX8_fewestNow 80 = .ok (.aload_n 0, 1) := by decide +kernel
theorem dX8_fewestNow_81 : decode cX8_fewestNow 81 = .ok (.getfield 35, 3) := by decide +kernel
theorem dX8_fewestNow_84 : decode cX8_fewestNow 84 = .ok (.iload 5, 2) := by decide +kernel
theorem dX8_fewestNow_86 : decode cX8_fewestNow 86 = .ok (.iaload, 1) := by decide +kernel
theorem dX8_fewestNow_87 : decode cX8_fewestNow 87 = .ok (.iload 5, 2) := by decide +kernel
theorem dX8_fewestNow_89 : decode cX8_fewestNow 89 = .ok (.iload 6, 2) := by decide +kernel
theorem dX8_fewestNow_91 : decode cX8_fewestNow 91 = .ok (.invokestatic 181, 3) := by decide +kernel
theorem dX8_fewestNow_94 : decode cX8_fewestNow 94 = .ok (.invokevirtual 177, 3) := by decide +kernel
theorem dX8_fewestNow_97 : decode cX8_fewestNow 97 = .ok (.aload_n 0, 1) := by decide +kernel
theorem dX8_fewestNow_98 : decode cX8_fewestNow 98 = .ok (.iload_n 2, 1) := by decide +kernel
theorem dX8_fewestNow_99 : decode cX8_fewestNow 99 = .ok (.invokevirtual 197, 3) := by decide +kernel
theorem dX8_fewestNow_102 : decode cX8_fewestNow 102 = .ok (.iload_n 3, 1) := by decide +kernel
theorem dX8_fewestNow_103 : decode cX8_fewestNow 103 = .ok (.iconst 1, 1) := by decide +kernel
theorem dX8_fewestNow_104 : decode cX8_fewestNow 104 = .ok (.isub, 1) := by decide +kernel
theorem dX8_fewestNow_105 : decode cX8_fewestNow 105 = .ok (.if_icmp .ne 16, 3) := by decide +kernel
theorem dX8_fewestNow_108 : decode cX8_fewestNow 108 = .ok (.iload_n 1, 1) := by decide +kernel
theorem dX8_fewestNow_109 : decode cX8_fewestNow 109 = .ok (.iconst 1, 1) := by decide +kernel
theorem dX8_fewestNow_110 : decode cX8_fewestNow 110 = .ok (.if_icmp .ne 8, 3) := by decide +kernel
theorem dX8_fewestNow_113 : decode cX8_fewestNow 113 = .ok (.iload 5, 2) := by decide +kernel
theorem dX8_fewestNow_115 : decode cX8_fewestNow 115 = .ok (.goto 5, 3) := by decide +kernel
theorem dX8_fewestNow_118 : decode cX8_fewestNow 118 = .ok (.iload 6, 2) := by decide +kernel
theorem dX8_fewestNow_120 : decode cX8_fewestNow 120 = .ok (.ireturn, 1) := by decide +kernel
theorem dX8_fewestNow_121 : decode cX8_fewestNow 121 = .ok (.aload_n 0, 1) := by decide +kernel
theorem dX8_fewestNow_122 : decode cX8_fewestNow 122 = .ok (.iload 4, 2) := by decide +kernel
theorem dX8_fewestNow_124 : decode cX8_fewestNow 124 = .ok (.invokevirtual 177, 3) := by decide +kernel
theorem dX8_fewestNow_127 : decode cX8_fewestNow 127 = .ok (.iinc 6 1, 3) := by decide +kernel
theorem dX8_fewestNow_130 : decode cX8_fewestNow 130 = .ok (.goto (-73), 3) := by decide +kernel
theorem dX8_fewestNow_133 : decode cX8_fewestNow 133 = .ok (.iinc 5 1, 3) := by decide +kernel
theorem dX8_fewestNow_136 : decode cX8_fewestNow 136 = .ok (.goto (-91), 3) := by decide +kernel
theorem dX8_fewestNow_139 : decode cX8_fewestNow 139 = .ok (.iconst (-1), 1) := by decide +kernel
theorem dX8_fewestNow_140 : decode cX8_fewestNow 140 = .ok (.ireturn, 1) := by decide +kernel
theorem dX8_fewest_0 : decode cX8_fewest 0 = .ok (.iload_n 1, 1) := by decide +kernel
theorem dX8_fewest_1 : decode cX8_fewest 1 = .ok (.iconst 0, 1) := by decide +kernel
theorem dX8_fewest_2 : decode cX8_fewest 2 = .ok (.iconst 2, 1) := by decide +kernel
theorem dX8_fewest_3 : decode cX8_fewest 3 = .ok (.invokestatic 117, 3) := by decide +kernel
theorem dX8_fewest_6 : decode cX8_fewest 6 = .ok (.ifCond .ne 6, 3) := by decide +kernel
theorem dX8_fewest_9 : decode cX8_fewest 9 = .ok (.bipush (-102), 2) := by decide +kernel
theorem dX8_fewest_11 : decode cX8_fewest 11 = .ok (.ireturn, 1) := by decide +kernel
theorem dX8_fewest_12 : decode cX8_fewest 12 = .ok (.aload_n 0, 1) := by decide +kernel
theorem dX8_fewest_13 : decode cX8_fewest 13 = .ok (.getfield 93, 3) := by decide +kernel
theorem dX8_fewest_16 : decode cX8_fewest 16 = .ok (.ifCond .ne 8, 3) := by decide +kernel
theorem dX8_fewest_19 : decode cX8_fewest 19 = .ok (.bipush (-103), 2) := by decide +kernel
theorem dX8_fewest_21 : decode cX8_fewest 21 = .ok (.goto 8, 3) := by decide +kernel
theorem dX8_fewest_24 : decode cX8_fewest 24 = .ok (.aload_n 0, 1) := by decide +kernel
theorem dX8_fewest_25 : decode cX8_fewest 25 = .ok (.iload_n 1, 1) := by decide +kernel
theorem dX8_fewest_26 : decode cX8_fewest 26 = .ok (.invokevirtual 200, 3) := by decide +kernel
theorem dX8_fewest_29 : decode cX8_fewest 29 = .ok (.ireturn, 1) := by decide +kernel
theorem dX8_waysNow_0 : decode cX8_waysNow 0 = .ok (.aload_n 0, 1) := by decide +kernel
theorem dX8_waysNow_1 : decode cX8_waysNow 1 = .ok (.invokevirtual 194, 3) := by decide +kernel
theorem dX8_waysNow_4 : decode cX8_waysNow 4 = .ok (.istore_n 1, 1) := by decide +kernel
theorem dX8_waysNow_5 : decode cX8_waysNow 5 = .ok (.aload_n 0, 1) := by decide +kernel
theorem dX8_waysNow_6 : decode cX8_waysNow 6 = .ok (.invokevirtual 151, 3) := by decide +kernel
theorem dX8_waysNow_9 : decode cX8_waysNow 9 = .ok (.aload_n 0, 1) := by decide +kernel
theorem dX8_waysNow_10 : decode cX8_waysNow 10 = .ok (.invokevirtual 191, 3) := by decide +kernel
theorem dX8_waysNow_13 : decode cX8_waysNow 13 = .ok (.aload_n 0, 1) := by decide +kernel
theorem dX8_waysNow_14 : decode cX8_waysNow 14 = .ok (.getfield 42, 3) := by decide +kernel
theorem dX8_waysNow_17 : decode cX8_waysNow 17 = .ok (.iload_n 1, 1) := by decide +kernel
theorem dX8_waysNow_18 : decode cX8_waysNow 18 = .ok (.laload, 1) := by decide +kernel
theorem dX8_waysNow_19 : decode cX8_waysNow 19 = .ok (.l2i, 1) := by decide +kernel
theorem dX8_waysNow_20 : decode cX8_waysNow 20 = .ok (.ireturn, 1) := by decide +kernel
theorem dX8_ways_0 : decode cX8_ways 0 = .ok (.aload_n 0, 1) := by decide +kernel
theorem dX8_ways_1 : decode cX8_ways 1 = .ok (.getfield 93, 3) := by decide +kernel
theorem dX8_ways_4 : decode cX8_ways 4 = .ok (.ifCond .ne 8, 3) := by decide +kernel
theorem dX8_ways_7 : decode cX8_ways 7 = .ok (.bipush (-103), 2) := by decide +kernel
theorem dX8_ways_9 : decode cX8_ways 9 = .ok (.goto 7, 3) := by decide +kernel
theorem dX8_ways_12 : decode cX8_ways 12 = .ok (.aload_n 0, 1) := by decide +kernel
theorem dX8_ways_13 : decode cX8_ways 13 = .ok (.invokevirtual 203, 3) := by decide +kernel
theorem dX8_ways_16 : decode cX8_ways 16 = .ok (.ireturn, 1) := by decide +kernel
theorem dX8_wrongNow_0 : decode cX8_wrongNow 0 = .ok (.aload_n 0, 1) := by decide +kernel
theorem dX8_wrongNow_1 : decode cX8_wrongNow 1 = .ok (.invokevirtual 194, 3) := by decide +kernel
theorem dX8_wrongNow_4 : decode cX8_wrongNow 4 = .ok (.istore_n 1, 1) := by decide +kernel
theorem dX8_wrongNow_5 : decode cX8_wrongNow 5 = .ok (.aload_n 0, 1) := by decide +kernel
theorem dX8_wrongNow_6 : decode cX8_wrongNow 6 = .ok (.invokevirtual 185, 3) := by decide +kernel
theorem dX8_wrongNow_9 : decode cX8_wrongNow 9 = .ok (.aload_n 0, 1) := by decide +kernel
theorem dX8_wrongNow_10 : decode cX8_wrongNow 10 = .ok (.iload_n 1, 1) := by decide +kernel
theorem dX8_wrongNow_11 : decode cX8_wrongNow 11 = .ok (.invokevirtual 197, 3) := by decide +kernel
theorem dX8_wrongNow_14 : decode cX8_wrongNow 14 = .ok (.ifCond .lt 7, 3) := by decide +kernel
theorem dX8_wrongNow_17 : decode cX8_wrongNow 17 = .ok (.iconst 1, 1) := by decide +kernel
theorem dX8_wrongNow_18 : decode cX8_wrongNow 18 = .ok (.goto 4, 3) := by decide +kernel
theorem dX8_wrongNow_21 : decode cX8_wrongNow 21 = .ok (.iconst 0, 1) := by decide +kernel
theorem dX8_wrongNow_22 : decode cX8_wrongNow 22 = .ok (.istore_n 2, 1) := by decide +kernel
theorem dX8_wrongNow_23 : decode cX8_wrongNow 23 = .ok (.iconst 0, 1) := by decide +kernel
theorem dX8_wrongNow_24 : decode cX8_wrongNow 24 = .ok (.istore_n 3, 1) := by decide +kernel
theorem dX8_wrongNow_25 : decode cX8_wrongNow 25 = .ok (.iload_n 3, 1) := by decide +kernel
theorem dX8_wrongNow_26 : decode cX8_wrongNow 26 = .ok (.aload_n 0, 1) := by decide +kernel
theorem dX8_wrongNow_27 : decode cX8_wrongNow 27 = .ok (.getfield 111, 3) := by decide +kernel
theorem dX8_wrongNow_30 : decode cX8_wrongNow 30 = .ok (.if_icmp .ge 69, 3) := by decide +kernel
theorem dX8_wrongNow_33 : decode cX8_wrongNow 33 = .ok (.iload_n 2, 1) := by decide +kernel
theorem dX8_wrongNow_34 : decode cX8_wrongNow 34 = .ok (.ifCond .eq 65, 3) := by decide +kernel
theorem dX8_wrongNow_37 : decode cX8_wrongNow 37 = .ok (.aload_n 0, 1) := by decide +kernel
theorem dX8_wrongNow_38 : decode cX8_wrongNow 38 = .ok (.getfield 35, 3) := by decide +kernel
theorem dX8_wrongNow_41 : decode cX8_wrongNow 41 = .ok (.aload_n 0, 1) := by decide +kernel
theorem dX8_wrongNow_42 : decode cX8_wrongNow 42 = .ok (.getfield 25, 3) := by decide +kernel
theorem dX8_wrongNow_45 : decode cX8_wrongNow 45 = .ok (.iload_n 3, 1) := by decide +kernel
theorem dX8_wrongNow_46 : decode cX8_wrongNow 46 = .ok (.iaload, 1) := by decide +kernel
theorem dX8_wrongNow_47 : decode cX8_wrongNow 47 = .ok (.aload_n 0, 1) := by decide +kernel
theorem dX8_wrongNow_48 : decode cX8_wrongNow 48 = .ok (.getfield 35, 3) := by decide +kernel
theorem dX8_wrongNow_51 : decode cX8_wrongNow 51 = .ok (.aload_n 0, 1) := by decide +kernel
theorem dX8_wrongNow_52 : decode cX8_wrongNow 52 = .ok (.getfield 22, 3) := by decide +kernel
theorem dX8_wrongNow_55 : decode cX8_wrongNow 55 = .ok (.iload_n 3, 1) := by decide +kernel
theorem dX8_wrongNow_56 : decode cX8_wrongNow 56 = .ok (.iaload, 1) := by decide +kernel
theorem dX8_wrongNow_57 : decode cX8_wrongNow 57 = .ok (.iaload, 1) := by decide +kernel
theorem dX8_wrongNow_58 : decode cX8_wrongNow 58 = .ok (.iastore, 1) := by decide +kernel
theorem dX8_wrongNow_59 : decode cX8_wrongNow 59 = .ok (.aload_n 0, 1) := by decide +kernel
theorem dX8_wrongNow_60 : decode cX8_wrongNow 60 = .ok (.getfield 35, 3) := by decide +kernel
theorem dX8_wrongNow_63 : decode cX8_wrongNow 63 = .ok (.aload_n 0, 1) := by decide +kernel
theorem dX8_wrongNow_64 : decode cX8_wrongNow 64 = .ok (.getfield 22, 3) := by decide +kernel
theorem dX8_wrongNow_67 : decode cX8_wrongNow 67 = .ok (.iload_n 3, 1) := by decide +kernel
theorem dX8_wrongNow_68 : decode cX8_wrongNow 68 = .ok (.iaload, 1) := by decide +kernel
theorem dX8_wrongNow_69 : decode cX8_wrongNow 69 = .ok (.iconst 0, 1) := by decide +kernel
theorem dX8_wrongNow_70 : decode cX8_wrongNow 70 = .ok (.iastore, 1) := by decide +kernel
theorem dX8_wrongNow_71 : decode cX8_wrongNow 71 = .ok (.aload_n 0, 1) := by decide +kernel
theorem dX8_wrongNow_72 : decode cX8_wrongNow 72 = .ok (.iload_n 1, 1) := by decide +kernel
theorem dX8_wrongNow_73 : decode cX8_wrongNow 73 = .ok (.invokevirtual 197, 3) := by decide +kernel
theorem dX8_wrongNow_76 : decode cX8_wrongNow 76 = .ok (.ifCond .lt 7, 3) := by decide +kernel
theorem dX8_wrongNow_79 : decode cX8_wrongNow 79 = .ok (.iconst 1, 1) := by decide +kernel
theorem dX8_wrongNow_80 : decode cX8_wrongNow 80 = .ok (.goto 4, 3) := by decide +kernel
theorem dX8_wrongNow_83 : decode cX8_wrongNow 83 = .ok (.iconst 0, 1) := by decide +kernel
theorem dX8_wrongNow_84 : decode cX8_wrongNow 84 = .ok (.istore_n 2, 1) := by decide +kernel
theorem dX8_wrongNow_85 : decode cX8_wrongNow 85 = .ok (.iload_n 2, 1) := by decide +kernel
theorem dX8_wrongNow_86 : decode cX8_wrongNow 86 = .ok (.ifCond .ne 7, 3) := by decide +kernel
theorem dX8_wrongNow_89 : decode cX8_wrongNow 89 = .ok (.iload_n 3, 1) := by decide +kernel
theorem dX8_wrongNow_90 : decode cX8_wrongNow 90 = .ok (.iconst 1, 1) := by decide +kernel
theorem dX8_wrongNow_91 : decode cX8_wrongNow 91 = .ok (.iadd, 1) := by decide +kernel
theorem dX8_wrongNow_92 : decode cX8_wrongNow 92 = .ok (.ireturn, 1) := by decide +kernel
theorem dX8_wrongNow_93 : decode cX8_wrongNow 93 = .ok (.iinc 3 1, 3) := by decide +kernel
theorem dX8_wrongNow_96 : decode cX8_wrongNow 96 = .ok (.goto (-71), 3) := by decide +kernel
theorem dX8_wrongNow_99 : decode cX8_wrongNow 99 = .ok (.iconst (-1), 1) := by decide +kernel
theorem dX8_wrongNow_100 : decode cX8_wrongNow 100 = .ok (.ireturn, 1) := by decide +kernel
theorem dX8_wrong_0 : decode cX8_wrong 0 = .ok (.aload_n 0, 1) := by decide +kernel
theorem dX8_wrong_1 : decode cX8_wrong 1 = .ok (.getfield 93, 3) := by decide +kernel
theorem dX8_wrong_4 : decode cX8_wrong 4 = .ok (.ifCond .ne 8, 3) := by decide +kernel
theorem dX8_wrong_7 : decode cX8_wrong 7 = .ok (.bipush (-103), 2) := by decide +kernel
theorem dX8_wrong_9 : decode cX8_wrong 9 = .ok (.goto 7, 3) := by decide +kernel
theorem dX8_wrong_12 : decode cX8_wrong 12 = .ok (.aload_n 0, 1) := by decide +kernel
theorem dX8_wrong_13 : decode cX8_wrong 13 = .ok (.invokevirtual 206, 3) := by decide +kernel
theorem dX8_wrong_16 : decode cX8_wrong 16 = .ok (.ireturn, 1) := by decide +kernel
theorem dX8_layEnds_0 : decode cX8_layEnds 0 = .ok (.aload_n 0, 1) := by decide +kernel
theorem dX8_layEnds_1 : decode cX8_layEnds 1 = .ok (.invokevirtual 151, 3) := by decide +kernel
theorem dX8_layEnds_4 : decode cX8_layEnds 4 = .ok (.aload_n 0, 1) := by decide +kernel
theorem dX8_layEnds_5 : decode cX8_layEnds 5 = .ok (.invokevirtual 191, 3) := by decide +kernel
theorem dX8_layEnds_8 : decode cX8_layEnds 8 = .ok (.aload_n 0, 1) := by decide +kernel
theorem dX8_layEnds_9 : decode cX8_layEnds 9 = .ok (.iconst 0, 1) := by decide +kernel
theorem dX8_layEnds_10 : decode cX8_layEnds 10 = .ok (.putfield 209, 3) := by decide +kernel
theorem dX8_layEnds_13 : decode cX8_layEnds 13 = .ok (.aload_n 0, 1) := by decide +kernel
theorem dX8_layEnds_14 : decode cX8_layEnds 14 = .ok (.iconst (-1), 1) := by decide +kernel
theorem dX8_layEnds_15 : decode cX8_layEnds 15 = .ok (.putfield 212, 3) := by decide +kernel
theorem dX8_layEnds_18 : decode cX8_layEnds 18 = .ok (.iconst 0, 1) := by decide +kernel
theorem dX8_layEnds_19 : decode cX8_layEnds 19 = .ok (.istore_n 1, 1) := by decide +kernel
theorem dX8_layEnds_20 : decode cX8_layEnds 20 = .ok (.iload_n 1, 1) := by decide +kernel
theorem dX8_layEnds_21 : decode cX8_layEnds 21 = .ok (.aload_n 0, 1) := by decide +kernel
theorem dX8_layEnds_22 : decode cX8_layEnds 22 = .ok (.getfield 168, 3) := by decide +kernel
theorem dX8_layEnds_25 : decode cX8_layEnds 25 = .ok (.if_icmp .ge 67, 3) := by decide +kernel
theorem dX8_layEnds_28 : decode cX8_layEnds 28 = .ok (.aload_n 0, 1) := by decide +kernel
theorem dX8_layEnds_29 : decode cX8_layEnds 29 = .ok (.aload_n 0, 1) := by decide +kernel
theorem dX8_layEnds_30 : decode cX8_layEnds 30 = .ok (.getfield 46, 3) := by decide +kernel
theorem dX8_layEnds_33 : decode cX8_layEnds 33 = .ok (.iload_n 1, 1) := by decide +kernel
theorem dX8_layEnds_34 : decode cX8_layEnds 34 = .ok (.iaload, 1) := by decide +kernel
theorem dX8_layEnds_35 : decode cX8_layEnds 35 = .ok (.invokevirtual 177, 3) := by decide +kernel
theorem dX8_layEnds_38 : decode cX8_layEnds 38 = .ok (.aload_n 0, 1) := by decide +kernel
theorem dX8_layEnds_39 : decode cX8_layEnds 39 = .ok (.invokevirtual 157, 3) := by decide +kernel
theorem dX8_layEnds_42 : decode cX8_layEnds 42 = .ok (.ifCond .ne 44, 3) := by decide +kernel
theorem dX8_layEnds_45 : decode cX8_layEnds 45 = .ok (.aload_n 0, 1) := by decide +kernel
theorem dX8_layEnds_46 : decode cX8_layEnds 46 = .ok (.aload_n 0, 1) := by decide +kernel
theorem dX8_layEnds_47 : decode cX8_layEnds 47 = .ok (.getfield 209, 3) := by decide +kernel
theorem dX8_layEnds_50 : decode cX8_layEnds 50 = .ok (.ifCond .ne 19, 3) := by decide +kernel
theorem dX8_layEnds_53 : decode cX8_layEnds 53 = .ok (.aload_n 0, 1) := by decide +kernel
theorem dX8_layEnds_54 : decode cX8_layEnds 54 = .ok (.getfield 39, 3) := by decide +kernel
theorem dX8_layEnds_57 : decode cX8_layEnds 57 = .ok (.aload_n 0, 1) := by decide +kernel
theorem dX8_layEnds_58 : decode cX8_layEnds 58 = .ok (.getfield 46, 3) := by decide +kernel
theorem dX8_layEnds_61 : decode cX8_layEnds 61 = .ok (.iload_n 1, 1) := by decide +kernel
theorem dX8_layEnds_62 : decode cX8_layEnds 62 = .ok (.iaload, 1) := by decide +kernel
theorem dX8_layEnds_63 : decode cX8_layEnds 63 = .ok (.iaload, 1) := by decide +kernel
theorem dX8_layEnds_64 : decode cX8_layEnds 64 = .ok (.iconst 1, 1) := by decide +kernel
theorem dX8_layEnds_65 : decode cX8_layEnds 65 = .ok (.isub, 1) := by decide +kernel
theorem dX8_layEnds_66 : decode cX8_layEnds 66 = .ok (.goto 7, 3) := by decide +kernel
theorem dX8_layEnds_69 : decode cX8_layEnds 69 = .ok (.aload_n 0, 1) := by decide +kernel
theorem dX8_layEnds_70 : decode cX8_layEnds 70 = .ok (.getfield 212, 3) := by decide +kernel
theorem dX8_layEnds_73 : decode cX8_layEnds 73 = .ok (.putfield 212, 3) := by decide +kernel
theorem dX8_layEnds_76 : decode cX8_layEnds 76 = .ok (.aload_n 0, 1) := by decide +kernel
theorem dX8_layEnds_77 : decode cX8_layEnds 77 = .ok (.dup, 1) := by decide +kernel
theorem dX8_layEnds_78 : decode cX8_layEnds 78 = .ok (.getfield 209, 3) := by decide +kernel
theorem dX8_layEnds_81 : decode cX8_layEnds 81 = .ok (.iconst 1, 1) := by decide +kernel
theorem dX8_layEnds_82 : decode cX8_layEnds 82 = .ok (.iadd, 1) := by decide +kernel
theorem dX8_layEnds_83 : decode cX8_layEnds 83 = .ok (.putfield 209, 3) := by decide +kernel
theorem dX8_layEnds_86 : decode cX8_layEnds 86 = .ok (.iinc 1 1, 3) := by decide +kernel
theorem dX8_layEnds_89 : decode cX8_layEnds 89 = .ok (.goto (-69), 3) := by decide +kernel
theorem dX8_layEnds_92 : decode cX8_layEnds 92 = .ok (.return_, 1) := by decide +kernel
theorem dX8_ends_0 : decode cX8_ends 0 = .ok (.aload_n 0, 1) := by decide +kernel
theorem dX8_ends_1 : decode cX8_ends 1 = .ok (.getfield 93, 3) := by decide +kernel
theorem dX8_ends_4 : decode cX8_ends 4 = .ok (.ifCond .ne 6, 3) := by decide +kernel
theorem dX8_ends_7 : decode cX8_ends 7 = .ok (.bipush (-103), 2) := by decide +kernel
theorem dX8_ends_9 : decode cX8_ends 9 = .ok (.ireturn, 1) := by decide +kernel
theorem dX8_ends_10 : decode cX8_ends 10 = .ok (.aload_n 0, 1) := by decide +kernel
theorem dX8_ends_11 : decode cX8_ends 11 = .ok (.invokevirtual 215, 3) := by decide +kernel
theorem dX8_ends_14 : decode cX8_ends 14 = .ok (.aload_n 0, 1) := by decide +kernel
theorem dX8_ends_15 : decode cX8_ends 15 = .ok (.getfield 209, 3) := by decide +kernel
theorem dX8_ends_18 : decode cX8_ends 18 = .ok (.ireturn, 1) := by decide +kernel
theorem dX8_soon_0 : decode cX8_soon 0 = .ok (.aload_n 0, 1) := by decide +kernel
theorem dX8_soon_1 : decode cX8_soon 1 = .ok (.getfield 93, 3) := by decide +kernel
theorem dX8_soon_4 : decode cX8_soon 4 = .ok (.ifCond .ne 6, 3) := by decide +kernel
theorem dX8_soon_7 : decode cX8_soon 7 = .ok (.bipush (-103), 2) := by decide +kernel
theorem dX8_soon_9 : decode cX8_soon 9 = .ok (.ireturn, 1) := by decide +kernel
theorem dX8_soon_10 : decode cX8_soon 10 = .ok (.aload_n 0, 1) := by decide +kernel
theorem dX8_soon_11 : decode cX8_soon 11 = .ok (.invokevirtual 215, 3) := by decide +kernel
theorem dX8_soon_14 : decode cX8_soon 14 = .ok (.aload_n 0, 1) := by decide +kernel
theorem dX8_soon_15 : decode cX8_soon 15 = .ok (.getfield 212, 3) := by decide +kernel
theorem dX8_soon_18 : decode cX8_soon 18 = .ok (.ireturn, 1) := by decide +kernel
theorem dX8_comes_0 : decode cX8_comes 0 = .ok (.aload_n 0, 1) := by decide +kernel
theorem dX8_comes_1 : decode cX8_comes 1 = .ok (.invokevirtual 90, 3) := by decide +kernel
theorem dX8_comes_4 : decode cX8_comes 4 = .ok (.aload_n 0, 1) := by decide +kernel
theorem dX8_comes_5 : decode cX8_comes 5 = .ok (.getfield 93, 3) := by decide +kernel
theorem dX8_comes_8 : decode cX8_comes 8 = .ok (.ifCond .eq 36, 3) := by decide +kernel
theorem dX8_comes_11 : decode cX8_comes 11 = .ok (.aload_n 0, 1) := by decide +kernel
theorem dX8_comes_12 : decode cX8_comes 12 = .ok (.getfield 83, 3) := by decide +kernel
theorem dX8_comes_15 : decode cX8_comes 15 = .ok (.aload_n 0, 1) := by decide +kernel
theorem dX8_comes_16 : decode cX8_comes 16 = .ok (.getfield 66, 3) := by decide +kernel
theorem dX8_comes_19 : decode cX8_comes 19 = .ok (.if_icmp .ne 25, 3) := by decide +kernel
theorem dX8_comes_22 : decode cX8_comes 22 = .ok (.aload_n 0, 1) := by decide +kernel
theorem dX8_comes_23 : decode cX8_comes 23 = .ok (.getfield 70, 3) := by decide +kernel
theorem dX8_comes_26 : decode cX8_comes 26 = .ok (.aload_n 0, 1) := by decide +kernel
theorem dX8_comes_27 : decode cX8_comes 27 = .ok (.getfield 93, 3) := by decide +kernel
theorem dX8_comes_30 : decode cX8_comes 30 = .ok (.if_icmp .ne 14, 3) := by decide +kernel
theorem dX8_comes_33 : decode cX8_comes 33 = .ok (.aload_n 0, 1) := by decide +kernel
theorem dX8_comes_34 : decode cX8_comes 34 = .ok (.getfield 66, 3) := by decide +kernel
theorem dX8_comes_37 : decode cX8_comes 37 = .ok (.aload_n 0, 1) := by decide +kernel
theorem dX8_comes_38 : decode cX8_comes 38 = .ok (.getfield 93, 3) := by decide +kernel
theorem dX8_comes_41 : decode cX8_comes 41 = .ok (.if_icmp .eq 6, 3) := by decide +kernel
theorem dX8_comes_44 : decode cX8_comes 44 = .ok (.bipush (-103), 2) := by decide +kernel
theorem dX8_comes_46 : decode cX8_comes 46 = .ok (.ireturn, 1) := by decide +kernel
theorem dX8_comes_47 : decode cX8_comes 47 = .ok (.iconst 0, 1) := by decide +kernel
theorem dX8_comes_48 : decode cX8_comes 48 = .ok (.istore_n 1, 1) := by decide +kernel
theorem dX8_comes_49 : decode cX8_comes 49 = .ok (.aload_n 0, 1) := by decide +kernel
theorem dX8_comes_50 : decode cX8_comes 50 = .ok (.getfield 93, 3) := by decide +kernel
theorem dX8_comes_53 : decode cX8_comes 53 = .ok (.iconst 1, 1) := by decide +kernel
theorem dX8_comes_54 : decode cX8_comes 54 = .ok (.isub, 1) := by decide +kernel
theorem dX8_comes_55 : decode cX8_comes 55 = .ok (.istore_n 2, 1) := by decide +kernel
theorem dX8_comes_56 : decode cX8_comes 56 = .ok (.iload_n 2, 1) := by decide +kernel
theorem dX8_comes_57 : decode cX8_comes 57 = .ok (.ifCond .lt 20, 3) := by decide +kernel
theorem dX8_comes_60 : decode cX8_comes 60 = .ok (.iconst 5, 1) := by decide +kernel
theorem dX8_comes_61 : decode cX8_comes 61 = .ok (.iload_n 1, 1) := by decide +kernel
theorem dX8_comes_62 : decode cX8_comes 62 = .ok (.imul, 1) := by decide +kernel
theorem dX8_comes_63 : decode cX8_comes 63 = .ok (.aload_n 0, 1) := by decide +kernel
theorem dX8_comes_64 : decode cX8_comes 64 = .ok (.getfield 32, 3) := by decide +kernel
theorem dX8_comes_67 : decode cX8_comes 67 = .ok (.iload_n 2, 1) := by decide +kernel
theorem dX8_comes_68 : decode cX8_comes 68 = .ok (.iaload, 1) := by decide +kernel
theorem dX8_comes_69 : decode cX8_comes 69 = .ok (.iadd, 1) := by decide +kernel
theorem dX8_comes_70 : decode cX8_comes 70 = .ok (.istore_n 1, 1) := by decide +kernel
theorem dX8_comes_71 : decode cX8_comes 71 = .ok (.iinc 2 (-1), 3) := by decide +kernel
theorem dX8_comes_74 : decode cX8_comes 74 = .ok (.goto (-18), 3) := by decide +kernel
theorem dX8_comes_77 : decode cX8_comes 77 = .ok (.aload_n 0, 1) := by decide +kernel
theorem dX8_comes_78 : decode cX8_comes 78 = .ok (.invokevirtual 151, 3) := by decide +kernel
theorem dX8_comes_81 : decode cX8_comes 81 = .ok (.aload_n 0, 1) := by decide +kernel
theorem dX8_comes_82 : decode cX8_comes 82 = .ok (.iload_n 1, 1) := by decide +kernel
theorem dX8_comes_83 : decode cX8_comes 83 = .ok (.invokevirtual 197, 3) := by decide +kernel
theorem dX8_comes_86 : decode cX8_comes 86 = .ok (.ireturn, 1) := by decide +kernel
theorem dX8_turns_0 : decode cX8_turns 0 = .ok (.aload_n 0, 1) := by decide +kernel
theorem dX8_turns_1 : decode cX8_turns 1 = .ok (.aload_n 0, 1) := by decide +kernel
theorem dX8_turns_2 : decode cX8_turns 2 = .ok (.invokevirtual 188, 3) := by decide +kernel
theorem dX8_turns_5 : decode cX8_turns 5 = .ok (.invokevirtual 197, 3) := by decide +kernel
theorem dX8_turns_8 : decode cX8_turns 8 = .ok (.ireturn, 1) := by decide +kernel
theorem dX8_moreNow_0 : decode cX8_moreNow 0 = .ok (.iconst (-1), 1) := by decide +kernel
theorem dX8_moreNow_1 : decode cX8_moreNow 1 = .ok (.istore_n 2, 1) := by decide +kernel
theorem dX8_moreNow_2 : decode cX8_moreNow 2 = .ok (.ldc 38, 2) := by decide +kernel
theorem dX8_moreNow_4 : decode cX8_moreNow 4 = .ok (.istore_n 3, 1) := by decide +kernel
theorem dX8_moreNow_5 : decode cX8_moreNow 5 = .ok (.iconst 0, 1) := by decide +kernel
theorem dX8_moreNow_6 : decode cX8_moreNow 6 = .ok (.istore 4, 2) := by decide +kernel
theorem dX8_moreNow_8 : decode cX8_moreNow 8 = .ok (.iload 4, 2) := by decide +kernel
theorem dX8_moreNow_10 : decode cX8_moreNow 10 = .ok (.aload_n 0, 1) := by decide +kernel
theorem dX8_moreNow_11 : decode cX8_moreNow 11 = .ok (.getfield 93, 3) := by decide +kernel
theorem dX8_moreNow_14 : decode cX8_moreNow 14 = .ok (.if_icmp .gt 118, 3) := by decide +kernel
theorem dX8_moreNow_17 : decode cX8_moreNow 17 = .ok (.aload_n 0, 1) := by decide +kernel
theorem dX8_moreNow_18 : decode cX8_moreNow 18 = .ok (.aload_n 0, 1) := by decide +kernel
theorem dX8_moreNow_19 : decode cX8_moreNow 19 = .ok (.getfield 93, 3) := by decide +kernel
theorem dX8_moreNow_22 : decode cX8_moreNow 22 = .ok (.iconst 1, 1) := by decide +kernel
theorem dX8_moreNow_23 : decode cX8_moreNow 23 = .ok (.iadd, 1) := by decide +kernel
theorem dX8_moreNow_24 : decode cX8_moreNow 24 = .ok (.putfield 135, 3) := by decide +kernel
theorem dX8_moreNow_27 : decode cX8_moreNow 27 = .ok (.iconst 0, 1) := by decide +kernel
theorem dX8_moreNow_28 : decode cX8_moreNow 28 = .ok (.istore 5, 2) := by decide +kernel
theorem dX8_moreNow_30 : decode cX8_moreNow 30 = .ok (.iload 5, 2) := by decide +kernel
theorem dX8_moreNow_32 : decode cX8_moreNow 32 = .ok (.aload_n 0, 1) := by decide +kernel
theorem dX8_moreNow_33 : decode cX8_moreNow 33 = .ok (.getfield 135, 3) := by decide +kernel
theorem dX8_moreNow_36 : decode cX8_moreNow 36 = .ok (.if_icmp .ge 48, 3) := by decide +kernel
theorem dX8_moreNow_39 : decode cX8_moreNow 39 = .ok (.aload_n 0, 1) := by decide +kernel
theorem dX8_moreNow_40 : decode cX8_moreNow 40 = .ok (.getfield 35, 3) := by decide +kernel
theorem dX8_moreNow_43 : decode cX8_moreNow 43 = .ok (.iload 5, 2) := by decide +kernel
theorem dX8_moreNow_45 : decode cX8_moreNow 45 = .ok (.iload 5, 2) := by decide +kernel
theorem dX8_moreNow_47 : decode cX8_moreNow 47 = .ok (.iload 4, 2) := by decide +kernel
theorem dX8_moreNow_49 : decode cX8_moreNow 49 = .ok (.if_icmp .ne 7, 3) := by decide +kernel
theorem dX8_moreNow_52 : decode cX8_moreNow 52 = .ok (.iconst 0, 1) := by decide +kernel
theorem dX8_moreNow_53 : decode cX8_moreNow 53 = .ok (.goto 24, 3) := by decide +kernel
theorem dX8_moreNow_56 : decode cX8_moreNow 56 = .ok (.aload_n 0, 1) := by decide +kernel
theorem dX8_moreNow_57 : decode cX8_moreNow 57 = .ok (.getfield 7, 3) := by decide +kernel
theorem dX8_moreNow_60 : decode cX8_moreNow 60 = .ok (.iload 5, 2) := by decide +kernel
theorem dX8_moreNow_62 : decode cX8_moreNow 62 = .ok (.iload 4, 2) := by decide +kernel
theorem dX8_moreNow_64 : decode cX8_moreNow 64 = .ok (.if_icmp .ge 8, 3) := by decide +kernel
theorem dX8_moreNow_67 : decode cX8_moreNow 67 = .ok (.iload 5, 2) := by decide +kernel
theorem dX8_moreNow_69 : decode cX8_moreNow 69 = .ok (.goto 7, 3) := by decide +kernel
theorem dX8_moreNow_72 : decode cX8_moreNow 72 = .ok (.iload 5, 2) := by decide +kernel
theorem dX8_moreNow_74 : decode cX8_moreNow 74 = .ok (.iconst 1, 1) := by decide +kernel
theorem dX8_moreNow_75 : decode cX8_moreNow 75 = .ok (.isub, 1) := by decide +kernel
theorem dX8_moreNow_76 : decode cX8_moreNow 76 = .ok (.iaload, 1) := by decide +kernel
theorem dX8_moreNow_77 : decode cX8_moreNow 77 = .ok (.iastore, 1) := by decide +kernel
theorem dX8_moreNow_78 : decode cX8_moreNow 78 = .ok (.iinc 5 1, 3) := by decide +kernel
theorem dX8_moreNow_81 : decode cX8_moreNow 81 = .ok (.goto (-51), 3) := by decide +kernel
theorem dX8_moreNow_84 : decode cX8_moreNow 84 = .ok (.aload_n 0, 1) := by decide +kernel
theorem dX8_moreNow_85 : decode cX8_moreNow 85 = .ok (.invokevirtual 218, 3) := by decide +kernel
theorem dX8_moreNow_88 : decode cX8_moreNow 88 = .ok (.istore 5, 2) := by decide +kernel
theorem dX8_moreNow_90 : decode cX8_moreNow 90 = .ok (.iload 5, 2) := by decide +kernel
theorem dX8_moreNow_92 : decode cX8_moreNow 92 = .ok (.ifCond .lt 14, 3) := by decide +kernel
theorem dX8_moreNow_95 : decode cX8_moreNow 95 = .ok (.iload 5, 2) := by decide +kernel
theorem dX8_moreNow_97 : decode cX8_moreNow 97 = .ok (.iload_n 3, 1) := by decide +kernel
theorem dX8_moreNow_98 : decode cX8_moreNow 98 = .ok (.if_icmp .ge 8, 3) := by decide +kernel
theorem dX8_moreNow_101 : decode cX8_moreNow 101 = .ok (.iload 4, 2) := by decide +kernel
theorem dX8_moreNow_103 : decode cX8_moreNow 103 = .ok (.goto 4, 3) := by decide +kernel
theorem dX8_moreNow_106 : decode cX8_moreNow 106 = .ok (.iload_n 2, 1) := by decide +kernel
theorem dX8_moreNow_107 : decode cX8_moreNow 107 = .ok (.istore_n 2, 1) := by decide +kernel
theorem dX8_moreNow_108 : decode cX8_moreNow 108 = .ok (.iload 5, 2) := by decide +kernel
theorem dX8_moreNow_110 : decode cX8_moreNow 110 = .ok (.ifCond .lt 14, 3) := by decide +kernel
theorem dX8_moreNow_113 : decode cX8_moreNow 113 = .ok (.iload 5, 2) := by decide +kernel
theorem dX8_moreNow_115 : decode cX8_moreNow 115 = .ok (.iload_n 3, 1) := by decide +kernel
theorem dX8_moreNow_116 : decode cX8_moreNow 116 = .ok (.if_icmp .ge 8, 3) := by decide +kernel
theorem dX8_moreNow_119 : decode cX8_moreNow 119 = .ok (.iload 5, 2) := by decide +kernel
theorem dX8_moreNow_121 : decode cX8_moreNow 121 = .ok (.goto 4, 3) := by decide +kernel
theorem dX8_moreNow_124 : decode cX8_moreNow 124 = .ok (.iload_n 3, 1) := by decide +kernel
theorem dX8_moreNow_125 : decode cX8_moreNow 125 = .ok (.istore_n 3, 1) := by decide +kernel
theorem dX8_moreNow_126 : decode cX8_moreNow 126 = .ok (.iinc 4 1, 3) := by decide +kernel
theorem dX8_moreNow_129 : decode cX8_moreNow 129 = .ok (.goto (-121), 3) := by decide +kernel
theorem dX8_moreNow_132 : decode cX8_moreNow 132 = .ok (.iload_n 2, 1) := by decide +kernel
theorem dX8_moreNow_133 : decode cX8_moreNow 133 = .ok (.iconst (-1), 1) := by decide +kernel
theorem dX8_moreNow_134 : decode cX8_moreNow 134 = .ok (.if_icmp .eq 7, 3) := by decide +kernel
theorem dX8_moreNow_137 : decode cX8_moreNow 137 = .ok (.iload_n 1, 1) := by decide +kernel
theorem dX8_moreNow_138 : decode cX8_moreNow 138 = .ok (.ifCond .ne 7, 3) := by decide +kernel
theorem dX8_moreNow_141 : decode cX8_moreNow 141 = .ok (.iload_n 2, 1) := by decide +kernel
theorem dX8_moreNow_142 : decode cX8_moreNow 142 = .ok (.goto 4, 3) := by decide +kernel
theorem dX8_moreNow_145 : decode cX8_moreNow 145 = .ok (.iload_n 3, 1) := by decide +kernel
theorem dX8_moreNow_146 : decode cX8_moreNow 146 = .ok (.ireturn, 1) := by decide +kernel
theorem dX8_more_0 : decode cX8_more 0 = .ok (.iload_n 1, 1) := by decide +kernel
theorem dX8_more_1 : decode cX8_more 1 = .ok (.iconst 0, 1) := by decide +kernel
theorem dX8_more_2 : decode cX8_more 2 = .ok (.iconst 1, 1) := by decide +kernel
theorem dX8_more_3 : decode cX8_more 3 = .ok (.invokestatic 117, 3) := by decide +kernel
theorem dX8_more_6 : decode cX8_more 6 = .ok (.ifCond .ne 6, 3) := by decide +kernel
theorem dX8_more_9 : decode cX8_more 9 = .ok (.bipush (-102), 2) := by decide +kernel
theorem dX8_more_11 : decode cX8_more 11 = .ok (.ireturn, 1) := by decide +kernel
theorem dX8_more_12 : decode cX8_more 12 = .ok (.aload_n 0, 1) := by decide +kernel
theorem dX8_more_13 : decode cX8_more 13 = .ok (.getfield 93, 3) := by decide +kernel
theorem dX8_more_16 : decode cX8_more 16 = .ok (.ifCond .eq 12, 3) := by decide +kernel
theorem dX8_more_19 : decode cX8_more 19 = .ok (.aload_n 0, 1) := by decide +kernel
theorem dX8_more_20 : decode cX8_more 20 = .ok (.getfield 93, 3) := by decide +kernel
theorem dX8_more_23 : decode cX8_more 23 = .ok (.bipush 7, 2) := by decide +kernel
theorem dX8_more_25 : decode cX8_more 25 = .ok (.if_icmp .ne 8, 3) := by decide +kernel
theorem dX8_more_28 : decode cX8_more 28 = .ok (.bipush (-103), 2) := by decide +kernel
theorem dX8_more_30 : decode cX8_more 30 = .ok (.goto 8, 3) := by decide +kernel
theorem dX8_more_33 : decode cX8_more 33 = .ok (.aload_n 0, 1) := by decide +kernel
theorem dX8_more_34 : decode cX8_more 34 = .ok (.iload_n 1, 1) := by decide +kernel
theorem dX8_more_35 : decode cX8_more 35 = .ok (.invokevirtual 221, 3) := by decide +kernel
theorem dX8_more_38 : decode cX8_more 38 = .ok (.ireturn, 1) := by decide +kernel
theorem dX8_offNow_0 : decode cX8_offNow 0 = .ok (.iconst (-1), 1) := by decide +kernel
theorem dX8_offNow_1 : decode cX8_offNow 1 = .ok (.istore_n 2, 1) := by decide +kernel
theorem dX8_offNow_2 : decode cX8_offNow 2 = .ok (.ldc 38, 2) := by decide +kernel
theorem dX8_offNow_4 : decode cX8_offNow 4 = .ok (.istore_n 3, 1) := by decide +kernel
theorem dX8_offNow_5 : decode cX8_offNow 5 = .ok (.iconst 0, 1) := by decide +kernel
theorem dX8_offNow_6 : decode cX8_offNow 6 = .ok (.istore 4, 2) := by decide +kernel
theorem dX8_offNow_8 : decode cX8_offNow 8 = .ok (.iconst 0, 1) := by decide +kernel
theorem dX8_offNow_9 : decode cX8_offNow 9 = .ok (.istore 5, 2) := by decide +kernel
theorem dX8_offNow_11 : decode cX8_offNow 11 = .ok (.iload 5, 2) := by decide +kernel
theorem dX8_offNow_13 : decode cX8_offNow 13 = .ok (.aload_n 0, 1) := by decide +kernel
theorem dX8_offNow_14 : decode cX8_offNow 14 = .ok (.getfield 93, 3) := by decide +kernel
theorem dX8_offNow_17 : decode cX8_offNow 17 = .ok (.if_icmp .ge 76, 3) := by decide +kernel
theorem dX8_offNow_20 : decode cX8_offNow 20 = .ok (.aload_n 0, 1) := by decide +kernel
theorem dX8_offNow_21 : decode cX8_offNow 21 = .ok (.getfield 7, 3) := by decide +kernel
theorem dX8_offNow_24 : decode cX8_offNow 24 = .ok (.iload 5, 2) := by decide +kernel
theorem dX8_offNow_26 : decode cX8_offNow 26 = .ok (.iaload, 1) := by decide +kernel
theorem dX8_offNow_27 : decode cX8_offNow 27 = .ok (.ifCond .le 60, 3) := by decide +kernel
theorem dX8_offNow_30 : decode cX8_offNow 30 = .ok (.aload_n 0, 1) := by decide +kernel
theorem dX8_offNow_31 : decode cX8_offNow 31 = .ok (.invokevirtual 185, 3) := by decide +kernel
theorem dX8_offNow_34 : decode cX8_offNow 34 = .ok (.aload_n 0, 1) := by decide +kernel
theorem dX8_offNow_35 : decode cX8_offNow 35 = .ok (.getfield 35, 3) := by decide +kernel
theorem dX8_offNow_38 : decode cX8_offNow 38 = .ok (.iload 5, 2) := by decide +kernel
theorem dX8_offNow_40 : decode cX8_offNow 40 = .ok (.iconst 0, 1) := by decide +kernel
theorem dX8_offNow_41 : decode cX8_offNow 41 = .ok (.iastore, 1) := by decide +kernel
theorem dX8_offNow_42 : decode cX8_offNow 42 = .ok (.aload_n 0, 1) := by decide +kernel
theorem dX8_offNow_43 : decode cX8_offNow 43 = .ok (.invokevirtual 218, 3) := by decide +kernel
theorem dX8_offNow_46 : decode cX8_offNow 46 = .ok (.istore 6, 2) := by decide +kernel
theorem dX8_offNow_48 : decode cX8_offNow 48 = .ok (.iload 6, 2) := by decide +kernel
theorem dX8_offNow_50 : decode cX8_offNow 50 = .ok (.ifCond .lt 14, 3) := by decide +kernel
theorem dX8_offNow_53 : decode cX8_offNow 53 = .ok (.iload 6, 2) := by decide +kernel
theorem dX8_offNow_55 : decode cX8_offNow 55 = .ok (.iload_n 3, 1) := by decide +kernel
theorem dX8_offNow_56 : decode cX8_offNow 56 = .ok (.if_icmp .ge 8, 3) := by decide +kernel
theorem dX8_offNow_59 : decode cX8_offNow 59 = .ok (.iload 4, 2) := by decide +kernel
theorem dX8_offNow_61 : decode cX8_offNow 61 = .ok (.goto 4, 3) := by decide +kernel
theorem dX8_offNow_64 : decode cX8_offNow 64 = .ok (.iload_n 2, 1) := by decide +kernel
theorem dX8_offNow_65 : decode cX8_offNow 65 = .ok (.istore_n 2, 1) := by decide +kernel
theorem dX8_offNow_66 : decode cX8_offNow 66 = .ok (.iload 6, 2) := by decide +kernel
theorem dX8_offNow_68 : decode cX8_offNow 68 = .ok (.ifCond .lt 14, 3) := by decide +kernel
theorem dX8_offNow_71 : decode cX8_offNow 71 = .ok (.iload 6, 2) := by decide +kernel
theorem dX8_offNow_73 : decode cX8_offNow 73 = .ok (.iload_n 3, 1) := by decide +kernel
theorem dX8_offNow_74 : decode cX8_offNow 74 = .ok (.if_icmp .ge 8, 3) := by decide +kernel
theorem dX8_offNow_77 : decode cX8_offNow 77 = .ok (.iload 6, 2) := by decide +kernel
theorem dX8_offNow_79 : decode cX8_offNow 79 = .ok (.goto 4, 3) := by decide +kernel
theorem dX8_offNow_82 : decode cX8_offNow 82 = .ok (.iload_n 3, 1) := by decide +kernel
theorem dX8_offNow_83 : decode cX8_offNow 83 = .ok (.istore_n 3, 1) := by decide +kernel
theorem dX8_offNow_84 : decode cX8_offNow 84 = .ok (.iinc 4 1, 3) := by decide +kernel
theorem dX8_offNow_87 : decode cX8_offNow 87 = .ok (.iinc 5 1, 3) := by decide +kernel
theorem dX8_offNow_90 : decode cX8_offNow 90 = .ok (.goto (-79), 3) := by decide +kernel
theorem dX8_offNow_93 : decode cX8_offNow 93 = .ok (.iload_n 2, 1) := by decide +kernel
theorem dX8_offNow_94 : decode cX8_offNow 94 = .ok (.iconst (-1), 1) := by decide +kernel
theorem dX8_offNow_95 : decode cX8_offNow 95 = .ok (.if_icmp .eq 7, 3) := by decide +kernel
theorem dX8_offNow_98 : decode cX8_offNow 98 = .ok (.iload_n 1, 1) := by decide +kernel
theorem dX8_offNow_99 : decode cX8_offNow 99 = .ok (.ifCond .ne 7, 3) := by decide +kernel
theorem dX8_offNow_102 : decode cX8_offNow 102 = .ok (.iload_n 2, 1) := by decide +kernel
theorem dX8_offNow_103 : decode cX8_offNow 103 = .ok (.goto 4, 3) := by decide +kernel
theorem dX8_offNow_106 : decode cX8_offNow 106 = .ok (.iload_n 3, 1) := by decide +kernel
theorem dX8_offNow_107 : decode cX8_offNow 107 = .ok (.ireturn, 1) := by decide +kernel
theorem dX8_off_0 : decode cX8_off 0 = .ok (.iload_n 1, 1) := by decide +kernel
theorem dX8_off_1 : decode cX8_off 1 = .ok (.iconst 0, 1) := by decide +kernel
theorem dX8_off_2 : decode cX8_off 2 = .ok (.iconst 1, 1) := by decide +kernel
theorem dX8_off_3 : decode cX8_off 3 = .ok (.invokestatic 117, 3) := by decide +kernel
theorem dX8_off_6 : decode cX8_off 6 = .ok (.ifCond .ne 6, 3) := by decide +kernel
theorem dX8_off_9 : decode cX8_off 9 = .ok (.bipush (-102), 2) := by decide +kernel
theorem dX8_off_11 : decode cX8_off 11 = .ok (.ireturn, 1) := by decide +kernel
theorem dX8_off_12 : decode cX8_off 12 = .ok (.aload_n 0, 1) := by decide +kernel
theorem dX8_off_13 : decode cX8_off 13 = .ok (.getfield 93, 3) := by decide +kernel
theorem dX8_off_16 : decode cX8_off 16 = .ok (.ifCond .ne 8, 3) := by decide +kernel
theorem dX8_off_19 : decode cX8_off 19 = .ok (.bipush (-103), 2) := by decide +kernel
theorem dX8_off_21 : decode cX8_off 21 = .ok (.goto 8, 3) := by decide +kernel
theorem dX8_off_24 : decode cX8_off 24 = .ok (.aload_n 0, 1) := by decide +kernel
theorem dX8_off_25 : decode cX8_off 25 = .ok (.iload_n 1, 1) := by decide +kernel
theorem dX8_off_26 : decode cX8_off 26 = .ok (.invokevirtual 224, 3) := by decide +kernel
theorem dX8_off_29 : decode cX8_off 29 = .ok (.ireturn, 1) := by decide +kernel
theorem dX8_isOf_0 : decode cX8_isOf 0 = .ok (.iload_n 1, 1) := by decide +kernel
theorem dX8_isOf_1 : decode cX8_isOf 1 = .ok (.invokestatic 138, 3) := by decide +kernel
theorem dX8_isOf_4 : decode cX8_isOf 4 = .ok (.iload_n 2, 1) := by decide +kernel
theorem dX8_isOf_5 : decode cX8_isOf 5 = .ok (.ifCond .ne 7, 3) := by decide +kernel
theorem dX8_isOf_8 : decode cX8_isOf 8 = .ok (.iconst 1, 1) := by decide +kernel
theorem dX8_isOf_9 : decode cX8_isOf 9 = .ok (.goto 4, 3) := by decide +kernel
theorem dX8_isOf_12 : decode cX8_isOf 12 = .ok (.iconst 2, 1) := by decide +kernel
theorem dX8_isOf_13 : decode cX8_isOf 13 = .ok (.if_icmp .ne 7, 3) := by decide +kernel
theorem dX8_isOf_16 : decode cX8_isOf 16 = .ok (.iconst 1, 1) := by decide +kernel
theorem dX8_isOf_17 : decode cX8_isOf 17 = .ok (.goto 4, 3) := by decide +kernel
theorem dX8_isOf_20 : decode cX8_isOf 20 = .ok (.iconst 0, 1) := by decide +kernel
theorem dX8_isOf_21 : decode cX8_isOf 21 = .ok (.ireturn, 1) := by decide +kernel
theorem dX8_progress_0 : decode cX8_progress 0 = .ok (.iload_n 1, 1) := by decide +kernel
theorem dX8_progress_1 : decode cX8_progress 1 = .ok (.istore_n 2, 1) := by decide +kernel
theorem dX8_progress_2 : decode cX8_progress 2 = .ok (.iconst 0, 1) := by decide +kernel
theorem dX8_progress_3 : decode cX8_progress 3 = .ok (.istore_n 3, 1) := by decide +kernel
theorem dX8_progress_4 : decode cX8_progress 4 = .ok (.iconst 0, 1) := by decide +kernel
theorem dX8_progress_5 : decode cX8_progress 5 = .ok (.istore 4, 2) := by decide +kernel
theorem dX8_progress_7 : decode cX8_progress 7 = .ok (.iload 4, 2) := by decide +kernel
theorem dX8_progress_9 : decode cX8_progress 9 = .ok (.aload_n 0, 1) := by decide +kernel
theorem dX8_progress_10 : decode cX8_progress 10 = .ok (.getfield 135, 3) := by decide +kernel
theorem dX8_progress_13 : decode cX8_progress 13 = .ok (.if_icmp .ge 54, 3) := by decide +kernel
theorem dX8_progress_16 : decode cX8_progress 16 = .ok (.iload_n 2, 1) := by decide +kernel
theorem dX8_progress_17 : decode cX8_progress 17 = .ok (.iconst 5, 1) := by decide +kernel
theorem dX8_progress_18 : decode cX8_progress 18 = .ok (.irem, 1) := by decide +kernel
theorem dX8_progress_19 : decode cX8_progress 19 = .ok (.invokestatic 138, 3) := by decide +kernel
theorem dX8_progress_22 : decode cX8_progress 22 = .ok (.istore 5, 2) := by decide +kernel
theorem dX8_progress_24 : decode cX8_progress 24 = .ok (.iload_n 3, 1) := by decide +kernel
theorem dX8_progress_25 : decode cX8_progress 25 = .ok (.iload 5, 2) := by decide +kernel
theorem dX8_progress_27 : decode cX8_progress 27 = .ok (.iconst 1, 1) := by decide +kernel
theorem dX8_progress_28 : decode cX8_progress 28 = .ok (.if_icmp .ne 8, 3) := by decide +kernel
theorem dX8_progress_31 : decode cX8_progress 31 = .ok (.iload 4, 2) := by decide +kernel
theorem dX8_progress_33 : decode cX8_progress 33 = .ok (.goto 22, 3) := by decide +kernel
theorem dX8_progress_36 : decode cX8_progress 36 = .ok (.iload 5, 2) := by decide +kernel
theorem dX8_progress_38 : decode cX8_progress 38 = .ok (.iconst 2, 1) := by decide +kernel
theorem dX8_progress_39 : decode cX8_progress 39 = .ok (.if_icmp .ne 15, 3) := by decide +kernel
theorem dX8_progress_42 : decode cX8_progress 42 = .ok (.aload_n 0, 1) := by decide +kernel
theorem dX8_progress_43 : decode cX8_progress 43 = .ok (.getfield 135, 3) := by decide +kernel
theorem dX8_progress_46 : decode cX8_progress 46 = .ok (.iconst 1, 1) := by decide +kernel
theorem dX8_progress_47 : decode cX8_progress 47 = .ok (.isub, 1) := by decide +kernel
theorem dX8_progress_48 : decode cX8_progress 48 = .ok (.iload 4, 2) := by decide +kernel
theorem dX8_progress_50 : decode cX8_progress 50 = .ok (.isub, 1) := by decide +kernel
theorem dX8_progress_51 : decode cX8_progress 51 = .ok (.goto 4, 3) := by decide +kernel
theorem dX8_progress_54 : decode cX8_progress 54 = .ok (.iconst 0, 1) := by decide +kernel
theorem dX8_progress_55 : decode cX8_progress 55 = .ok (.iadd, 1) := by decide +kernel
theorem dX8_progress_56 : decode cX8_progress 56 = .ok (.istore_n 3, 1) := by decide +kernel
theorem dX8_progress_57 : decode cX8_progress 57 = .ok (.iload_n 2, 1) := by decide +kernel
theorem dX8_progress_58 : decode cX8_progress 58 = .ok (.iconst 5, 1) := by decide +kernel
theorem dX8_progress_59 : decode cX8_progress 59 = .ok (.idiv, 1) := by decide +kernel
theorem dX8_progress_60 : decode cX8_progress 60 = .ok (.istore_n 2, 1) := by decide +kernel
theorem dX8_progress_61 : decode cX8_progress 61 = .ok (.iinc 4 1, 3) := by decide +kernel
theorem dX8_progress_64 : decode cX8_progress 64 = .ok (.goto (-57), 3) := by decide +kernel
theorem dX8_progress_67 : decode cX8_progress 67 = .ok (.iload_n 3, 1) := by decide +kernel
theorem dX8_progress_68 : decode cX8_progress 68 = .ok (.ireturn, 1) := by decide +kernel
theorem dX8_winsBy_0 : decode cX8_winsBy 0 = .ok (.aload_n 0, 1) := by decide +kernel
theorem dX8_winsBy_1 : decode cX8_winsBy 1 = .ok (.iload_n 1, 1) := by decide +kernel
theorem dX8_winsBy_2 : decode cX8_winsBy 2 = .ok (.invokevirtual 177, 3) := by decide +kernel
theorem dX8_winsBy_5 : decode cX8_winsBy 5 = .ok (.iconst 0, 1) := by decide +kernel
theorem dX8_winsBy_6 : decode cX8_winsBy 6 = .ok (.istore_n 3, 1) := by decide +kernel
theorem dX8_winsBy_7 : decode cX8_winsBy 7 = .ok (.iload_n 3, 1) := by decide +kernel
theorem dX8_winsBy_8 : decode cX8_winsBy 8 = .ok (.aload_n 0, 1) := by decide +kernel
theorem dX8_winsBy_9 : decode cX8_winsBy 9 = .ok (.getfield 135, 3) := by decide +kernel
theorem dX8_winsBy_12 : decode cX8_winsBy 12 = .ok (.if_icmp .ge 80, 3) := by decide +kernel
theorem dX8_winsBy_15 : decode cX8_winsBy 15 = .ok (.iconst 0, 1) := by decide +kernel
theorem dX8_winsBy_16 : decode cX8_winsBy 16 = .ok (.istore 4, 2) := by decide +kernel
theorem dX8_winsBy_18 : decode cX8_winsBy 18 = .ok (.iload 4, 2) := by decide +kernel
theorem dX8_winsBy_20 : decode cX8_winsBy 20 = .ok (.aload_n 0, 1) := by decide +kernel
theorem dX8_winsBy_21 : decode cX8_winsBy 21 = .ok (.getfield 135, 3) := by decide +kernel
theorem dX8_winsBy_24 : decode cX8_winsBy 24 = .ok (.if_icmp .ge 62, 3) := by decide +kernel
theorem dX8_winsBy_27 : decode cX8_winsBy 27 = .ok (.aload_n 0, 1) := by decide +kernel
theorem dX8_winsBy_28 : decode cX8_winsBy 28 = .ok (.aload_n 0, 1) := by decide +kernel
theorem dX8_winsBy_29 : decode cX8_winsBy 29 = .ok (.getfield 35, 3) := by decide +kernel
theorem dX8_winsBy_32 : decode cX8_winsBy 32 = .ok (.iload_n 3, 1) := by decide +kernel
theorem dX8_winsBy_33 : decode cX8_winsBy 33 = .ok (.iaload, 1) := by decide +kernel
theorem dX8_winsBy_34 : decode cX8_winsBy 34 = .ok (.iload_n 2, 1) := by decide +kernel
theorem dX8_winsBy_35 : decode cX8_winsBy 35 = .ok (.invokevirtual 227, 3) := by decide +kernel
theorem dX8_winsBy_38 : decode cX8_winsBy 38 = .ok (.ifCond .eq 42, 3) := by decide +kernel
theorem dX8_winsBy_41 : decode cX8_winsBy 41 = .ok (.aload_n 0, 1) := by decide +kernel
theorem dX8_winsBy_42 : decode cX8_winsBy 42 = .ok (.iload_n 3, 1) := by decide +kernel
theorem dX8_winsBy_43 : decode cX8_winsBy 43 = .ok (.iload 4, 2) := by decide +kernel
theorem dX8_winsBy_45 : decode cX8_winsBy 45 = .ok (.invokevirtual 154, 3) := by decide +kernel
theorem dX8_winsBy_48 : decode cX8_winsBy 48 = .ok (.ifCond .eq 32, 3) := by decide +kernel
theorem dX8_winsBy_51 : decode cX8_winsBy 51 = .ok (.aload_n 0, 1) := by decide +kernel
theorem dX8_winsBy_52 : decode cX8_winsBy 52 = .ok (.getfield 49, 3) := by decide +kernel
theorem dX8_winsBy_55 : decode cX8_winsBy 55 = .ok (.iload_n 1, 1) := by decide +kernel
theorem dX8_winsBy_56 : decode cX8_winsBy 56 = .ok (.aload_n 0, 1) := by decide +kernel
theorem dX8_winsBy_57 : decode cX8_winsBy 57 = .ok (.getfield 35, 3) := by decide +kernel
theorem dX8_winsBy_60 : decode cX8_winsBy 60 = .ok (.iload_n 3, 1) := by decide +kernel
theorem dX8_winsBy_61 : decode cX8_winsBy 61 = .ok (.iaload, 1) := by decide +kernel
theorem dX8_winsBy_62 : decode cX8_winsBy 62 = .ok (.iload_n 3, 1) := by decide +kernel
theorem dX8_winsBy_63 : decode cX8_winsBy 63 = .ok (.iload 4, 2) := by decide +kernel
theorem dX8_winsBy_65 : decode cX8_winsBy 65 = .ok (.invokestatic 181, 3) := by decide +kernel
theorem dX8_winsBy_68 : decode cX8_winsBy 68 = .ok (.baload, 1) := by decide +kernel
theorem dX8_winsBy_69 : decode cX8_winsBy 69 = .ok (.iconst 2, 1) := by decide +kernel
theorem dX8_winsBy_70 : decode cX8_winsBy 70 = .ok (.iload_n 2, 1) := by decide +kernel
theorem dX8_winsBy_71 : decode cX8_winsBy 71 = .ok (.isub, 1) := by decide +kernel
theorem dX8_winsBy_72 : decode cX8_winsBy 72 = .ok (.ishr, 1) := by decide +kernel
theorem dX8_winsBy_73 : decode cX8_winsBy 73 = .ok (.iconst 1, 1) := by decide +kernel
theorem dX8_winsBy_74 : decode cX8_winsBy 74 = .ok (.iand, 1) := by decide +kernel
theorem dX8_winsBy_75 : decode cX8_winsBy 75 = .ok (.ifCond .ne 5, 3) := by decide +kernel
theorem dX8_winsBy_78 : decode cX8_winsBy 78 = .ok (.iconst 1, 1) := by decide +kernel
theorem dX8_winsBy_79 : decode cX8_winsBy 79 = .ok (.ireturn, 1) := by decide +kernel
theorem dX8_winsBy_80 : decode cX8_winsBy 80 = .ok (.iinc 4 1, 3) := by decide +kernel
theorem dX8_winsBy_83 : decode cX8_winsBy 83 = .ok (.goto (-65), 3) := by decide +kernel
theorem dX8_winsBy_86 : decode cX8_winsBy 86 = .ok (.iinc 3 1, 3) := by decide +kernel
theorem dX8_winsBy_89 : decode cX8_winsBy 89 = .ok (.goto (-82), 3) := by decide +kernel
theorem dX8_winsBy_92 : decode cX8_winsBy 92 = .ok (.iconst 0, 1) := by decide +kernel
theorem dX8_winsBy_93 : decode cX8_winsBy 93 = .ok (.ireturn, 1) := by decide +kernel
theorem dX8_layGame_0 : decode cX8_layGame 0 = .ok (.aload_n 0, 1) := by decide +kernel
theorem dX8_layGame_1 : decode cX8_layGame 1 = .ok (.invokevirtual 151, 3) := by decide +kernel
theorem dX8_layGame_4 : decode cX8_layGame 4 = .ok (.aload_n 0, 1) := by decide +kernel
theorem dX8_layGame_5 : decode cX8_layGame 5 = .ok (.invokevirtual 191, 3) := by decide +kernel
theorem dX8_layGame_8 : decode cX8_layGame 8 = .ok (.aload_n 0, 1) := by decide +kernel
theorem dX8_layGame_9 : decode cX8_layGame 9 = .ok (.getfield 46, 3) := by decide +kernel
theorem dX8_layGame_12 : decode cX8_layGame 12 = .ok (.iconst 0, 1) := by decide +kernel
theorem dX8_layGame_13 : decode cX8_layGame 13 = .ok (.iaload, 1) := by decide +kernel
theorem dX8_layGame_14 : decode cX8_layGame 14 = .ok (.istore_n 1, 1) := by decide +kernel
theorem dX8_layGame_15 : decode cX8_layGame 15 = .ok (.bipush 42, 2) := by decide +kernel
theorem dX8_layGame_17 : decode cX8_layGame 17 = .ok (.istore_n 2, 1) := by decide +kernel
theorem dX8_layGame_18 : decode cX8_layGame 18 = .ok (.iload_n 2, 1) := by decide +kernel
theorem dX8_layGame_19 : decode cX8_layGame 19 = .ok (.ifCond .lt 90, 3) := by decide +kernel
theorem dX8_layGame_22 : decode cX8_layGame 22 = .ok (.iconst 0, 1) := by decide +kernel
theorem dX8_layGame_23 : decode cX8_layGame 23 = .ok (.istore_n 3, 1) := by decide +kernel
theorem dX8_layGame_24 : decode cX8_layGame 24 = .ok (.iload_n 3, 1) := by decide +kernel
theorem dX8_layGame_25 : decode cX8_layGame 25 = .ok (.aload_n 0, 1) := by decide +kernel
theorem dX8_layGame_26 : decode cX8_layGame 26 = .ok (.getfield 168, 3) := by decide +kernel
theorem dX8_layGame_29 : decode cX8_layGame 29 = .ok (.if_icmp .ge 74, 3) := by decide +kernel
theorem dX8_layGame_32 : decode cX8_layGame 32 = .ok (.aload_n 0, 1) := by decide +kernel
theorem dX8_layGame_33 : decode cX8_layGame 33 = .ok (.getfield 46, 3) := by decide +kernel
theorem dX8_layGame_36 : decode cX8_layGame 36 = .ok (.iload_n 3, 1) := by decide +kernel
theorem dX8_layGame_37 : decode cX8_layGame 37 = .ok (.iaload, 1) := by decide +kernel
theorem dX8_layGame_38 : decode cX8_layGame 38 = .ok (.istore 4, 2) := by decide +kernel
theorem dX8_layGame_40 : decode cX8_layGame 40 = .ok (.aload_n 0, 1) := by decide +kernel
theorem dX8_layGame_41 : decode cX8_layGame 41 = .ok (.iload 4, 2) := by decide +kernel
theorem dX8_layGame_43 : decode cX8_layGame 43 = .ok (.invokevirtual 230, 3) := by decide +kernel
theorem dX8_layGame_46 : decode cX8_layGame 46 = .ok (.iload_n 2, 1) := by decide +kernel
theorem dX8_layGame_47 : decode cX8_layGame 47 = .ok (.if_icmp .ne 50, 3) := by decide +kernel
theorem dX8_layGame_50 : decode cX8_layGame 50 = .ok (.aload_n 0, 1) := by decide +kernel
theorem dX8_layGame_51 : decode cX8_layGame 51 = .ok (.iload 4, 2) := by decide +kernel
theorem dX8_layGame_53 : decode cX8_layGame 53 = .ok (.iconst 0, 1) := by decide +kernel
theorem dX8_layGame_54 : decode cX8_layGame 54 = .ok (.invokevirtual 233, 3) := by decide +kernel
theorem dX8_layGame_57 : decode cX8_layGame 57 = .ok (.ifCond .eq 7, 3) := by decide +kernel
theorem dX8_layGame_60 : decode cX8_layGame 60 = .ok (.iconst 2, 1) := by decide +kernel
theorem dX8_layGame_61 : decode cX8_layGame 61 = .ok (.goto 4, 3) := by decide +kernel
theorem dX8_layGame_64 : decode cX8_layGame 64 = .ok (.iconst 0, 1) := by decide +kernel
theorem dX8_layGame_65 : decode cX8_layGame 65 = .ok (.istore 5, 2) := by decide +kernel
theorem dX8_layGame_67 : decode cX8_layGame 67 = .ok (.iload 5, 2) := by decide +kernel
theorem dX8_layGame_69 : decode cX8_layGame 69 = .ok (.aload_n 0, 1) := by decide +kernel
theorem dX8_layGame_70 : decode cX8_layGame 70 = .ok (.iload 4, 2) := by decide +kernel
theorem dX8_layGame_72 : decode cX8_layGame 72 = .ok (.iconst 1, 1) := by decide +kernel
theorem dX8_layGame_73 : decode cX8_layGame 73 = .ok (.invokevirtual 233, 3) := by decide +kernel
theorem dX8_layGame_76 : decode cX8_layGame 76 = .ok (.ifCond .eq 7, 3) := by decide +kernel
theorem dX8_layGame_79 : decode cX8_layGame 79 = .ok (.iconst 4, 1) := by decide +kernel
theorem dX8_layGame_80 : decode cX8_layGame 80 = .ok (.goto 4, 3) := by decide +kernel
theorem dX8_layGame_83 : decode cX8_layGame 83 = .ok (.iconst 0, 1) := by decide +kernel
theorem dX8_layGame_84 : decode cX8_layGame 84 = .ok (.ior, 1) := by decide +kernel
theorem dX8_layGame_85 : decode cX8_layGame 85 = .ok (.istore 5, 2) := by decide +kernel
theorem dX8_layGame_87 : decode cX8_layGame 87 = .ok (.aload_n 0, 1) := by decide +kernel
theorem dX8_layGame_88 : decode cX8_layGame 88 = .ok (.getfield 49, 3) := by decide +kernel
theorem dX8_layGame_91 : decode cX8_layGame 91 = .ok (.iload 4, 2) := by decide +kernel
theorem dX8_layGame_93 : decode cX8_layGame 93 = .ok (.iload 5, 2) := by decide +kernel
theorem dX8_layGame_95 : decode cX8_layGame 95 = .ok (.i2b, 1) := by decide +kernel
theorem dX8_layGame_96 : decode cX8_layGame 96 = .ok (.bastore, 1) := by decide +kernel
theorem dX8_layGame_97 : decode cX8_layGame 97 = .ok (.iinc 3 1, 3) := by decide +kernel
theorem dX8_layGame_100 : decode cX8_layGame 100 = .ok (.goto (-76), 3) := by decide +kernel
theorem dX8_layGame_103 : decode cX8_layGame 103 = .ok (.iinc 2 (-1), 3) := by decide +kernel
theorem dX8_layGame_106 : decode cX8_layGame 106 = .ok (.goto (-88), 3) := by decide +kernel
theorem dX8_layGame_109 : decode cX8_layGame 109 = .ok (.aload_n 0, 1) := by decide +kernel
theorem dX8_layGame_110 : decode cX8_layGame 110 = .ok (.iload_n 1, 1) := by decide +kernel
theorem dX8_layGame_111 : decode cX8_layGame 111 = .ok (.invokevirtual 177, 3) := by decide +kernel
theorem dX8_layGame_114 : decode cX8_layGame 114 = .ok (.return_, 1) := by decide +kernel
theorem dX8_winsNow_0 : decode cX8_winsNow 0 = .ok (.aload_n 0, 1) := by decide +kernel
theorem dX8_winsNow_1 : decode cX8_winsNow 1 = .ok (.invokevirtual 236, 3) := by decide +kernel
theorem dX8_winsNow_4 : decode cX8_winsNow 4 = .ok (.aload_n 0, 1) := by decide +kernel
theorem dX8_winsNow_5 : decode cX8_winsNow 5 = .ok (.getfield 49, 3) := by decide +kernel
theorem dX8_winsNow_8 : decode cX8_winsNow 8 = .ok (.aload_n 0, 1) := by decide +kernel
theorem dX8_winsNow_9 : decode cX8_winsNow 9 = .ok (.invokevirtual 171, 3) := by decide +kernel
theorem dX8_winsNow_12 : decode cX8_winsNow 12 = .ok (.baload, 1) := by decide +kernel
theorem dX8_winsNow_13 : decode cX8_winsNow 13 = .ok (.iconst 1, 1) := by decide +kernel
theorem dX8_winsNow_14 : decode cX8_winsNow 14 = .ok (.iload_n 1, 1) := by decide +kernel
theorem dX8_winsNow_15 : decode cX8_winsNow 15 = .ok (.iadd, 1) := by decide +kernel
theorem dX8_winsNow_16 : decode cX8_winsNow 16 = .ok (.ishr, 1) := by decide +kernel
theorem dX8_winsNow_17 : decode cX8_winsNow 17 = .ok (.iconst 1, 1) := by decide +kernel
theorem dX8_winsNow_18 : decode cX8_winsNow 18 = .ok (.iand, 1) := by decide +kernel
theorem dX8_winsNow_19 : decode cX8_winsNow 19 = .ok (.ireturn, 1) := by decide +kernel
theorem dX8_isGame_0 : decode cX8_isGame 0 = .ok (.aload_n 0, 1) := by decide +kernel
theorem dX8_isGame_1 : decode cX8_isGame 1 = .ok (.getfield 93, 3) := by decide +kernel
theorem dX8_isGame_4 : decode cX8_isGame 4 = .ok (.ifCond .le 21, 3) := by decide +kernel
theorem dX8_isGame_7 : decode cX8_isGame 7 = .ok (.aload_n 0, 1) := by decide +kernel
theorem dX8_isGame_8 : decode cX8_isGame 8 = .ok (.getfield 99, 3) := by decide +kernel
theorem dX8_isGame_11 : decode cX8_isGame 11 = .ok (.ifCond .ne 14, 3) := by decide +kernel
theorem dX8_isGame_14 : decode cX8_isGame 14 = .ok (.aload_n 0, 1) := by decide +kernel
theorem dX8_isGame_15 : decode cX8_isGame 15 = .ok (.getfield 102, 3) := by decide +kernel
theorem dX8_isGame_18 : decode cX8_isGame 18 = .ok (.ifCond .ne 7, 3) := by decide +kernel
theorem dX8_isGame_21 : decode cX8_isGame 21 = .ok (.iconst 1, 1) := by decide +kernel
theorem dX8_isGame_22 : decode cX8_isGame 22 = .ok (.goto 4, 3) := by decide +kernel
theorem dX8_isGame_25 : decode cX8_isGame 25 = .ok (.iconst 0, 1) := by decide +kernel
theorem dX8_isGame_26 : decode cX8_isGame 26 = .ok (.ireturn, 1) := by decide +kernel
theorem dX8_wins_0 : decode cX8_wins 0 = .ok (.iload_n 1, 1) := by decide +kernel
theorem dX8_wins_1 : decode cX8_wins 1 = .ok (.iconst 0, 1) := by decide +kernel
theorem dX8_wins_2 : decode cX8_wins 2 = .ok (.iconst 1, 1) := by decide +kernel
theorem dX8_wins_3 : decode cX8_wins 3 = .ok (.invokestatic 117, 3) := by decide +kernel
theorem dX8_wins_6 : decode cX8_wins 6 = .ok (.ifCond .ne 6, 3) := by decide +kernel
theorem dX8_wins_9 : decode cX8_wins 9 = .ok (.bipush (-102), 2) := by decide +kernel
theorem dX8_wins_11 : decode cX8_wins 11 = .ok (.ireturn, 1) := by decide +kernel
theorem dX8_wins_12 : decode cX8_wins 12 = .ok (.aload_n 0, 1) := by decide +kernel
theorem dX8_wins_13 : decode cX8_wins 13 = .ok (.invokevirtual 239, 3) := by decide +kernel
theorem dX8_wins_16 : decode cX8_wins 16 = .ok (.ifCond .eq 11, 3) := by decide +kernel
theorem dX8_wins_19 : decode cX8_wins 19 = .ok (.aload_n 0, 1) := by decide +kernel
theorem dX8_wins_20 : decode cX8_wins 20 = .ok (.iload_n 1, 1) := by decide +kernel
theorem dX8_wins_21 : decode cX8_wins 21 = .ok (.invokevirtual 243, 3) := by decide +kernel
theorem dX8_wins_24 : decode cX8_wins 24 = .ok (.goto 5, 3) := by decide +kernel
theorem dX8_wins_27 : decode cX8_wins 27 = .ok (.bipush (-103), 2) := by decide +kernel
theorem dX8_wins_29 : decode cX8_wins 29 = .ok (.ireturn, 1) := by decide +kernel
theorem dX8_byNow_0 : decode cX8_byNow 0 = .ok (.aload_n 0, 1) := by decide +kernel
theorem dX8_byNow_1 : decode cX8_byNow 1 = .ok (.invokevirtual 236, 3) := by decide +kernel
theorem dX8_byNow_4 : decode cX8_byNow 4 = .ok (.aload_n 0, 1) := by decide +kernel
theorem dX8_byNow_5 : decode cX8_byNow 5 = .ok (.invokevirtual 171, 3) := by decide +kernel
theorem dX8_byNow_8 : decode cX8_byNow 8 = .ok (.istore_n 3, 1) := by decide +kernel
theorem dX8_byNow_9 : decode cX8_byNow 9 = .ok (.iconst 0, 1) := by decide +kernel
theorem dX8_byNow_10 : decode cX8_byNow 10 = .ok (.istore 4, 2) := by decide +kernel
theorem dX8_byNow_12 : decode cX8_byNow 12 = .ok (.iload 4, 2) := by decide +kernel
theorem dX8_byNow_14 : decode cX8_byNow 14 = .ok (.aload_n 0, 1) := by decide +kernel
theorem dX8_byNow_15 : decode cX8_byNow 15 = .ok (.getfield 135, 3) := by decide +kernel
theorem dX8_byNow_18 : decode cX8_byNow 18 = .ok (.if_icmp .ge 94, 3) := by decide +kernel
theorem dX8_byNow_21 : decode cX8_byNow 21 = .ok (.iconst 0, 1) := by decide +kernel
theorem dX8_byNow_22 : decode cX8_byNow 22 = .ok (.istore 5, 2) := by decide +kernel
theorem dX8_byNow_24 : decode cX8_byNow 24 = .ok (.iload 5, 2) := by decide +kernel
theorem dX8_byNow_26 : decode cX8_byNow 26 = .ok (.aload_n 0, 1) := by decide +kernel
theorem dX8_byNow_27 : decode cX8_byNow 27 = .ok (.getfield 135, 3) := by decide +kernel
theorem dX8_byNow_30 : decode cX8_byNow 30 = .ok (.if_icmp .ge 76, 3) := by decide +kernel
theorem dX8_byNow_33 : decode cX8_byNow 33 = .ok (.aload_n 0, 1) := by decide +kernel
theorem dX8_byNow_34 : decode cX8_byNow 34 = .ok (.aload_n 0, 1) := by decide +kernel
theorem dX8_byNow_35 : decode cX8_byNow 35 = .ok (.getfield 35, 3) := by decide +kernel
theorem dX8_byNow_38 : decode cX8_byNow 38 = .ok (.iload 4, 2) := by decide +kernel
theorem dX8_byNow_40 : decode cX8_byNow 40 = .ok (.iaload, 1) := by decide +kernel
theorem dX8_byNow_41 : decode cX8_byNow 41 = .ok (.iload_n 1, 1) := by decide +kernel
theorem dX8_byNow_42 : decode cX8_byNow 42 = .ok (.invokevirtual 227, 3) := by decide +kernel
theorem dX8_byNow_45 : decode cX8_byNow 45 = .ok (.ifCond .eq 55, 3) := by decide +kernel
theorem dX8_byNow_48 : decode cX8_byNow 48 = .ok (.aload_n 0, 1) := by decide +kernel
theorem dX8_byNow_49 : decode cX8_byNow 49 = .ok (.iload 4, 2) := by decide +kernel
theorem dX8_byNow_51 : decode cX8_byNow 51 = .ok (.iload 5, 2) := by decide +kernel
theorem dX8_byNow_53 : decode cX8_byNow 53 = .ok (.invokevirtual 154, 3) := by decide +kernel
theorem dX8_byNow_56 : decode cX8_byNow 56 = .ok (.ifCond .eq 44, 3) := by decide +kernel
theorem dX8_byNow_59 : decode cX8_byNow 59 = .ok (.aload_n 0, 1) := by decide +kernel
theorem dX8_byNow_60 : decode cX8_byNow 60 = .ok (.getfield 49, 3) := by decide +kernel
theorem dX8_byNow_63 : decode cX8_byNow 63 = .ok (.iload_n 3, 1) := by decide +kernel
theorem dX8_byNow_64 : decode cX8_byNow 64 = .ok (.aload_n 0, 1) := by decide +kernel
theorem dX8_byNow_65 : decode cX8_byNow 65 = .ok (.getfield 35, 3) := by decide +kernel
theorem dX8_byNow_68 : decode cX8_byNow 68 = .ok (.iload 4, 2) := by decide +kernel
theorem dX8_byNow_70 : decode cX8_byNow 70 = .ok (.iaload, 1) := by decide +kernel
theorem dX8_byNow_71 : decode cX8_byNow 71 = .ok (.iload 4, 2) := by decide +kernel
theorem dX8_byNow_73 : decode cX8_byNow 73 = .ok (.iload 5, 2) := by decide +kernel
theorem dX8_byNow_75 : decode cX8_byNow 75 = .ok (.invokestatic 181, 3) := by decide +kernel
theorem dX8_byNow_78 : decode cX8_byNow 78 = .ok (.baload, 1) := by decide +kernel
theorem dX8_byNow_79 : decode cX8_byNow 79 = .ok (.iconst 2, 1) := by decide +kernel
theorem dX8_byNow_80 : decode cX8_byNow 80 = .ok (.iload_n 1, 1) := by decide +kernel
theorem dX8_byNow_81 : decode cX8_byNow 81 = .ok (.isub, 1) := by decide +kernel
theorem dX8_byNow_82 : decode cX8_byNow 82 = .ok (.ishr, 1) := by decide +kernel
theorem dX8_byNow_83 : decode cX8_byNow 83 = .ok (.iconst 1, 1) := by decide +kernel
theorem dX8_byNow_84 : decode cX8_byNow 84 = .ok (.iand, 1) := by decide +kernel
theorem dX8_byNow_85 : decode cX8_byNow 85 = .ok (.ifCond .ne 15, 3) := by decide +kernel
theorem dX8_byNow_88 : decode cX8_byNow 88 = .ok (.iload_n 2, 1) := by decide +kernel
theorem dX8_byNow_89 : decode cX8_byNow 89 = .ok (.ifCond .ne 8, 3) := by decide +kernel
theorem dX8_byNow_92 : decode cX8_byNow 92 = .ok (.iload 4, 2) := by decide +kernel
theorem dX8_byNow_94 : decode cX8_byNow 94 = .ok (.goto 5, 3) := by decide +kernel
theorem dX8_byNow_97 : decode cX8_byNow 97 = .ok (.iload 5, 2) := by decide +kernel
theorem dX8_byNow_99 : decode cX8_byNow 99 = .ok (.ireturn, 1) := by decide +kernel
theorem dX8_byNow_100 : decode cX8_byNow 100 = .ok (.iinc 5 1, 3) := by decide +kernel
theorem dX8_byNow_103 : decode cX8_byNow 103 = .ok (.goto (-79), 3) := by decide +kernel
theorem dX8_byNow_106 : decode cX8_byNow 106 = .ok (.iinc 4 1, 3) := by decide +kernel
theorem dX8_byNow_109 : decode cX8_byNow 109 = .ok (.goto (-97), 3) := by decide +kernel
theorem dX8_byNow_112 : decode cX8_byNow 112 = .ok (.iconst (-1), 1) := by decide +kernel
theorem dX8_byNow_113 : decode cX8_byNow 113 = .ok (.ireturn, 1) := by decide +kernel
theorem dX8_by_0 : decode cX8_by 0 = .ok (.iload_n 1, 1) := by decide +kernel
theorem dX8_by_1 : decode cX8_by 1 = .ok (.iconst 0, 1) := by decide +kernel
theorem dX8_by_2 : decode cX8_by 2 = .ok (.iconst 1, 1) := by decide +kernel
theorem dX8_by_3 : decode cX8_by 3 = .ok (.invokestatic 117, 3) := by decide +kernel
theorem dX8_by_6 : decode cX8_by 6 = .ok (.ifCond .eq 12, 3) := by decide +kernel
theorem dX8_by_9 : decode cX8_by 9 = .ok (.iload_n 2, 1) := by decide +kernel
theorem dX8_by_10 : decode cX8_by 10 = .ok (.iconst 0, 1) := by decide +kernel
theorem dX8_by_11 : decode cX8_by 11 = .ok (.iconst 1, 1) := by decide +kernel
theorem dX8_by_12 : decode cX8_by 12 = .ok (.invokestatic 117, 3) := by decide +kernel
theorem dX8_by_15 : decode cX8_by 15 = .ok (.ifCond .ne 6, 3) := by decide +kernel
theorem dX8_by_18 : decode cX8_by 18 = .ok (.bipush (-102), 2) := by decide +kernel
theorem dX8_by_20 : decode cX8_by 20 = .ok (.ireturn, 1) := by decide +kernel
theorem dX8_by_21 : decode cX8_by 21 = .ok (.aload_n 0, 1) := by decide +kernel
theorem dX8_by_22 : decode cX8_by 22 = .ok (.invokevirtual 239, 3) := by decide +kernel
theorem dX8_by_25 : decode cX8_by 25 = .ok (.ifCond .eq 12, 3) := by decide +kernel
theorem dX8_by_28 : decode cX8_by 28 = .ok (.aload_n 0, 1) := by decide +kernel
theorem dX8_by_29 : decode cX8_by 29 = .ok (.iload_n 1, 1) := by decide +kernel
theorem dX8_by_30 : decode cX8_by 30 = .ok (.iload_n 2, 1) := by decide +kernel
theorem dX8_by_31 : decode cX8_by 31 = .ok (.invokevirtual 246, 3) := by decide +kernel
theorem dX8_by_34 : decode cX8_by 34 = .ok (.goto 5, 3) := by decide +kernel
theorem dX8_by_37 : decode cX8_by 37 = .ok (.bipush (-103), 2) := by decide +kernel
theorem dX8_by_39 : decode cX8_by 39 = .ok (.ireturn, 1) := by decide +kernel
theorem dX8_draw_0 : decode cX8_draw 0 = .ok (.aload_n 0, 1) := by decide +kernel
theorem dX8_draw_1 : decode cX8_draw 1 = .ok (.ldc2_w 249, 3) := by decide +kernel
theorem dX8_draw_4 : decode cX8_draw 4 = .ok (.aload_n 0, 1) := by decide +kernel
theorem dX8_draw_5 : decode cX8_draw 5 = .ok (.getfield 251, 3) := by decide +kernel
theorem dX8_draw_8 : decode cX8_draw 8 = .ok (.lmul, 1) := by decide +kernel
theorem dX8_draw_9 : decode cX8_draw 9 = .ok (.ldc2_w 255, 3) := by decide +kernel
theorem dX8_draw_12 : decode cX8_draw 12 = .ok (.ladd, 1) := by decide +kernel
theorem dX8_draw_13 : decode cX8_draw 13 = .ok (.ldc2_w 257, 3) := by decide +kernel
theorem dX8_draw_16 : decode cX8_draw 16 = .ok (.land, 1) := by decide +kernel
theorem dX8_draw_17 : decode cX8_draw 17 = .ok (.putfield 251, 3) := by decide +kernel
theorem dX8_draw_20 : decode cX8_draw 20 = .ok (.aload_n 0, 1) := by decide +kernel
theorem dX8_draw_21 : decode cX8_draw 21 = .ok (.getfield 251, 3) := by decide +kernel
theorem dX8_draw_24 : decode cX8_draw 24 = .ok (.ldc2_w 259, 3) := by decide +kernel
theorem dX8_draw_27 : decode cX8_draw 27 = .ok (.ldiv, 1) := by decide +kernel
theorem dX8_draw_28 : decode cX8_draw 28 = .ok (.iload_n 1, 1) := by decide +kernel
theorem dX8_draw_29 : decode cX8_draw 29 = .ok (.i2l, 1) := by decide +kernel
theorem dX8_draw_30 : decode cX8_draw 30 = .ok (.lrem, 1) := by decide +kernel
theorem dX8_draw_31 : decode cX8_draw 31 = .ok (.l2i, 1) := by decide +kernel
theorem dX8_draw_32 : decode cX8_draw 32 = .ok (.ireturn, 1) := by decide +kernel
theorem dX8_goMove_0 : decode cX8_goMove 0 = .ok (.iload_n 1, 1) := by decide +kernel
theorem dX8_goMove_1 : decode cX8_goMove 1 = .ok (.istore_n 2, 1) := by decide +kernel
theorem dX8_goMove_2 : decode cX8_goMove 2 = .ok (.iconst 0, 1) := by decide +kernel
theorem dX8_goMove_3 : decode cX8_goMove 3 = .ok (.istore_n 3, 1) := by decide +kernel
theorem dX8_goMove_4 : decode cX8_goMove 4 = .ok (.iload_n 3, 1) := by decide +kernel
theorem dX8_goMove_5 : decode cX8_goMove 5 = .ok (.aload_n 0, 1) := by decide +kernel
theorem dX8_goMove_6 : decode cX8_goMove 6 = .ok (.getfield 135, 3) := by decide +kernel
theorem dX8_goMove_9 : decode cX8_goMove 9 = .ok (.if_icmp .ge 65, 3) := by decide +kernel
theorem dX8_goMove_12 : decode cX8_goMove 12 = .ok (.iconst 0, 1) := by decide +kernel
theorem dX8_goMove_13 : decode cX8_goMove 13 = .ok (.istore 4, 2) := by decide +kernel
theorem dX8_goMove_15 : decode cX8_goMove 15 = .ok (.iload 4, 2) := by decide +kernel
theorem dX8_goMove_17 : decode cX8_goMove 17 = .ok (.aload_n 0, 1) := by decide +kernel
theorem dX8_goMove_18 : decode cX8_goMove 18 = .ok (.getfield 135, 3) := by decide +kernel
theorem dX8_goMove_21 : decode cX8_goMove 21 = .ok (.if_icmp .ge 47, 3) := by decide +kernel
theorem dX8_goMove_24 : decode cX8_goMove 24 = .ok (.aload_n 0, 1) := by decide +kernel
theorem dX8_goMove_25 : decode cX8_goMove 25 = .ok (.iload_n 3, 1) := by decide +kernel
theorem dX8_goMove_26 : decode cX8_goMove 26 = .ok (.iload 4, 2) := by decide +kernel
theorem dX8_goMove_28 : decode cX8_goMove 28 = .ok (.invokevirtual 154, 3) := by decide +kernel
theorem dX8_goMove_31 : decode cX8_goMove 31 = .ok (.ifCond .eq 31, 3) := by decide +kernel
theorem dX8_goMove_34 : decode cX8_goMove 34 = .ok (.iload_n 2, 1) := by decide +kernel
theorem dX8_goMove_35 : decode cX8_goMove 35 = .ok (.ifCond .ne 24, 3) := by decide +kernel
theorem dX8_goMove_38 : decode cX8_goMove 38 = .ok (.aload_n 0, 1) := by decide +kernel
theorem dX8_goMove_39 : decode cX8_goMove 39 = .ok (.getfield 35, 3) := by decide +kernel
theorem dX8_goMove_42 : decode cX8_goMove 42 = .ok (.iload 4, 2) := by decide +kernel
theorem dX8_goMove_44 : decode cX8_goMove 44 = .ok (.aload_n 0, 1) := by decide +kernel
theorem dX8_goMove_45 : decode cX8_goMove 45 = .ok (.getfield 35, 3) := by decide +kernel
theorem dX8_goMove_48 : decode cX8_goMove 48 = .ok (.iload_n 3, 1) := by decide +kernel
theorem dX8_goMove_49 : decode cX8_goMove 49 = .ok (.iaload, 1) := by decide +kernel
theorem dX8_goMove_50 : decode cX8_goMove 50 = .ok (.iastore, 1) := by decide +kernel
theorem dX8_goMove_51 : decode cX8_goMove 51 = .ok (.aload_n 0, 1) := by decide +kernel
theorem dX8_goMove_52 : decode cX8_goMove 52 = .ok (.getfield 35, 3) := by decide +kernel
theorem dX8_goMove_55 : decode cX8_goMove 55 = .ok (.iload_n 3, 1) := by decide +kernel
theorem dX8_goMove_56 : decode cX8_goMove 56 = .ok (.iconst 0, 1) := by decide +kernel
theorem dX8_goMove_57 : decode cX8_goMove 57 = .ok (.iastore, 1) := by decide +kernel
theorem dX8_goMove_58 : decode cX8_goMove 58 = .ok (.return_, 1) := by decide +kernel
theorem dX8_goMove_59 : decode cX8_goMove 59 = .ok (.iinc 2 (-1), 3) := by decide +kernel
theorem dX8_goMove_62 : decode cX8_goMove 62 = .ok (.iinc 4 1, 3) := by decide +kernel
theorem dX8_goMove_65 : decode cX8_goMove 65 = .ok (.goto (-50), 3) := by decide +kernel
theorem dX8_goMove_68 : decode cX8_goMove 68 = .ok (.iinc 3 1, 3) := by decide +kernel
theorem dX8_goMove_71 : decode cX8_goMove 71 = .ok (.goto (-67), 3) := by decide +kernel
theorem dX8_goMove_74 : decode cX8_goMove 74 = .ok (.return_, 1) := by decide +kernel
theorem dX8_playNow_0 : decode cX8_playNow 0 = .ok (.aload_n 0, 1) := by decide +kernel
theorem dX8_playNow_1 : decode cX8_playNow 1 = .ok (.invokevirtual 194, 3) := by decide +kernel
theorem dX8_playNow_4 : decode cX8_playNow 4 = .ok (.istore 4, 2) := by decide +kernel
theorem dX8_playNow_6 : decode cX8_playNow 6 = .ok (.aload_n 0, 1) := by decide +kernel
theorem dX8_playNow_7 : decode cX8_playNow 7 = .ok (.invokevirtual 151, 3) := by decide +kernel
theorem dX8_playNow_10 : decode cX8_playNow 10 = .ok (.aload_n 0, 1) := by decide +kernel
theorem dX8_playNow_11 : decode cX8_playNow 11 = .ok (.iload_n 2, 1) := by decide +kernel
theorem dX8_playNow_12 : decode cX8_playNow 12 = .ok (.i2l, 1) := by decide +kernel
theorem dX8_playNow_13 : decode cX8_playNow 13 = .ok (.putfield 251, 3) := by decide +kernel
theorem dX8_playNow_16 : decode cX8_playNow 16 = .ok (.iconst 0, 1) := by decide +kernel
theorem dX8_playNow_17 : decode cX8_playNow 17 = .ok (.istore 5, 2) := by decide +kernel
theorem dX8_playNow_19 : decode cX8_playNow 19 = .ok (.iconst 1, 1) := by decide +kernel
theorem dX8_playNow_20 : decode cX8_playNow 20 = .ok (.istore 6, 2) := by decide +kernel
theorem dX8_playNow_22 : decode cX8_playNow 22 = .ok (.iload 5, 2) := by decide +kernel
theorem dX8_playNow_24 : decode cX8_playNow 24 = .ok (.iload_n 1, 1) := by decide +kernel
theorem dX8_playNow_25 : decode cX8_playNow 25 = .ok (.if_icmp .ge 47, 3) := by decide +kernel
theorem dX8_playNow_28 : decode cX8_playNow 28 = .ok (.iload 6, 2) := by decide +kernel
theorem dX8_playNow_30 : decode cX8_playNow 30 = .ok (.ifCond .eq 42, 3) := by decide +kernel
theorem dX8_playNow_33 : decode cX8_playNow 33 = .ok (.aload_n 0, 1) := by decide +kernel
theorem dX8_playNow_34 : decode cX8_playNow 34 = .ok (.invokevirtual 157, 3) := by decide +kernel
theorem dX8_playNow_37 : decode cX8_playNow 37 = .ok (.istore 7, 2) := by decide +kernel
theorem dX8_playNow_39 : decode cX8_playNow 39 = .ok (.iload 7, 2) := by decide +kernel
theorem dX8_playNow_41 : decode cX8_playNow 41 = .ok (.ifCond .le 7, 3) := by decide +kernel
theorem dX8_playNow_44 : decode cX8_playNow 44 = .ok (.iconst 1, 1) := by decide +kernel
theorem dX8_playNow_45 : decode cX8_playNow 45 = .ok (.goto 4, 3) := by decide +kernel
theorem dX8_playNow_48 : decode cX8_playNow 48 = .ok (.iconst 0, 1) := by decide +kernel
theorem dX8_playNow_49 : decode cX8_playNow 49 = .ok (.istore 6, 2) := by decide +kernel
theorem dX8_playNow_51 : decode cX8_playNow 51 = .ok (.iload 6, 2) := by decide +kernel
theorem dX8_playNow_53 : decode cX8_playNow 53 = .ok (.ifCond .eq 16, 3) := by decide +kernel
theorem dX8_playNow_56 : decode cX8_playNow 56 = .ok (.aload_n 0, 1) := by decide +kernel
theorem dX8_playNow_57 : decode cX8_playNow 57 = .ok (.aload_n 0, 1) := by decide +kernel
theorem dX8_playNow_58 : decode cX8_playNow 58 = .ok (.iload 7, 2) := by decide +kernel
theorem dX8_playNow_60 : decode cX8_playNow 60 = .ok (.invokevirtual 261, 3) := by decide +kernel
theorem dX8_playNow_63 : decode cX8_playNow 63 = .ok (.invokevirtual 264, 3) := by decide +kernel
theorem dX8_playNow_66 : decode cX8_playNow 66 = .ok (.iinc 5 1, 3) := by decide +kernel
theorem dX8_playNow_69 : decode cX8_playNow 69 = .ok (.goto (-47), 3) := by decide +kernel
theorem dX8_playNow_72 : decode cX8_playNow 72 = .ok (.iload_n 3, 1) := by decide +kernel
theorem dX8_playNow_73 : decode cX8_playNow 73 = .ok (.ifCond .ne 8, 3) := by decide +kernel
theorem dX8_playNow_76 : decode cX8_playNow 76 = .ok (.iload 5, 2) := by decide +kernel
theorem dX8_playNow_78 : decode cX8_playNow 78 = .ok (.goto 30, 3) := by decide +kernel
theorem dX8_playNow_81 : decode cX8_playNow 81 = .ok (.iload_n 3, 1) := by decide +kernel
theorem dX8_playNow_82 : decode cX8_playNow 82 = .ok (.iconst 2, 1) := by decide +kernel
theorem dX8_playNow_83 : decode cX8_playNow 83 = .ok (.if_icmp .ne 11, 3) := by decide +kernel
theorem dX8_playNow_86 : decode cX8_playNow 86 = .ok (.aload_n 0, 1) := by decide +kernel
theorem dX8_playNow_87 : decode cX8_playNow 87 = .ok (.getfield 251, 3) := by decide +kernel
theorem dX8_playNow_90 : decode cX8_playNow 90 = .ok (.l2i, 1) := by decide +kernel
theorem dX8_playNow_91 : decode cX8_playNow 91 = .ok (.goto 17, 3) := by decide +kernel
theorem dX8_playNow_94 : decode cX8_playNow 94 = .ok (.aload_n 0, 1) := by decide +kernel
theorem dX8_playNow_95 : decode cX8_playNow 95 = .ok (.invokevirtual 171, 3) := by decide +kernel
theorem dX8_playNow_98 : decode cX8_playNow 98 = .ok (.iload 4, 2) := by decide +kernel
theorem dX8_playNow_100 : decode cX8_playNow 100 = .ok (.if_icmp .ne 7, 3) := by decide +kernel
theorem dX8_playNow_103 : decode cX8_playNow 103 = .ok (.iconst 1, 1) := by decide +kernel
theorem dX8_playNow_104 : decode cX8_playNow 104 = .ok (.goto 4, 3) := by decide +kernel
theorem dX8_playNow_107 : decode cX8_playNow 107 = .ok (.iconst 0, 1) := by decide +kernel
theorem dX8_playNow_108 : decode cX8_playNow 108 = .ok (.ireturn, 1) := by decide +kernel
theorem dX8_play_0 : decode cX8_play 0 = .ok (.iload_n 1, 1) := by decide +kernel
theorem dX8_play_1 : decode cX8_play 1 = .ok (.iconst 1, 1) := by decide +kernel
theorem dX8_play_2 : decode cX8_play 2 = .ok (.bipush 60, 2) := by decide +kernel
theorem dX8_play_4 : decode cX8_play 4 = .ok (.invokestatic 117, 3) := by decide +kernel
theorem dX8_play_7 : decode cX8_play 7 = .ok (.ifCond .eq 16, 3) := by decide +kernel
theorem dX8_play_10 : decode cX8_play 10 = .ok (.iload_n 2, 1) := by decide +kernel
theorem dX8_play_11 : decode cX8_play 11 = .ok (.ifCond .lt 12, 3) := by decide +kernel
theorem dX8_play_14 : decode cX8_play 14 = .ok (.iload_n 3, 1) := by decide +kernel
theorem dX8_play_15 : decode cX8_play 15 = .ok (.iconst 0, 1) := by decide +kernel
theorem dX8_play_16 : decode cX8_play 16 = .ok (.iconst 2, 1) := by decide +kernel
theorem dX8_play_17 : decode cX8_play 17 = .ok (.invokestatic 117, 3) := by decide +kernel
theorem dX8_play_20 : decode cX8_play 20 = .ok (.ifCond .ne 6, 3) := by decide +kernel
theorem dX8_play_23 : decode cX8_play 23 = .ok (.bipush (-102), 2) := by decide +kernel
theorem dX8_play_25 : decode cX8_play 25 = .ok (.ireturn, 1) := by decide +kernel
theorem dX8_play_26 : decode cX8_play 26 = .ok (.aload_n 0, 1) := by decide +kernel
theorem dX8_play_27 : decode cX8_play 27 = .ok (.getfield 93, 3) := by decide +kernel
theorem dX8_play_30 : decode cX8_play 30 = .ok (.ifCond .ne 8, 3) := by decide +kernel
theorem dX8_play_33 : decode cX8_play 33 = .ok (.bipush (-103), 2) := by decide +kernel
theorem dX8_play_35 : decode cX8_play 35 = .ok (.goto 10, 3) := by decide +kernel
theorem dX8_play_38 : decode cX8_play 38 = .ok (.aload_n 0, 1) := by decide +kernel
theorem dX8_play_39 : decode cX8_play 39 = .ok (.iload_n 1, 1) := by decide +kernel
theorem dX8_play_40 : decode cX8_play 40 = .ok (.iload_n 2, 1) := by decide +kernel
theorem dX8_play_41 : decode cX8_play 41 = .ok (.iload_n 3, 1) := by decide +kernel
theorem dX8_play_42 : decode cX8_play 42 = .ok (.invokevirtual 267, 3) := by decide +kernel
theorem dX8_play_45 : decode cX8_play 45 = .ok (.ireturn, 1) := by decide +kernel
theorem dX8_image_0 : decode cX8_image 0 = .ok (.aload_n 0, 1) := by decide +kernel
theorem dX8_image_1 : decode cX8_image 1 = .ok (.getfield 93, 3) := by decide +kernel
theorem dX8_image_4 : decode cX8_image 4 = .ok (.ifCond .ne 6, 3) := by decide +kernel
theorem dX8_image_7 : decode cX8_image 7 = .ok (.bipush (-103), 2) := by decide +kernel
theorem dX8_image_9 : decode cX8_image 9 = .ok (.ireturn, 1) := by decide +kernel
theorem dX8_image_10 : decode cX8_image 10 = .ok (.aload_n 0, 1) := by decide +kernel
theorem dX8_image_11 : decode cX8_image 11 = .ok (.iconst 1, 1) := by decide +kernel
theorem dX8_image_12 : decode cX8_image 12 = .ok (.putfield 271, 3) := by decide +kernel
theorem dX8_image_15 : decode cX8_image 15 = .ok (.aload_n 0, 1) := by decide +kernel
theorem dX8_image_16 : decode cX8_image 16 = .ok (.aload_n 0, 1) := by decide +kernel
theorem dX8_image_17 : decode cX8_image 17 = .ok (.getfield 114, 3) := by decide +kernel
theorem dX8_image_20 : decode cX8_image 20 = .ok (.putfield 274, 3) := by decide +kernel
theorem dX8_image_23 : decode cX8_image 23 = .ok (.aload_n 0, 1) := by decide +kernel
theorem dX8_image_24 : decode cX8_image 24 = .ok (.aload_n 0, 1) := by decide +kernel
theorem dX8_image_25 : decode cX8_image 25 = .ok (.getfield 111, 3) := by decide +kernel
theorem dX8_image_28 : decode cX8_image 28 = .ok (.putfield 277, 3) := by decide +kernel
theorem dX8_image_31 : decode cX8_image 31 = .ok (.iconst 0, 1) := by decide +kernel
theorem dX8_image_32 : decode cX8_image 32 = .ok (.istore_n 1, 1) := by decide +kernel
theorem dX8_image_33 : decode cX8_image 33 = .ok (.iload_n 1, 1) := by decide +kernel
theorem dX8_image_34 : decode cX8_image 34 = .ok (.bipush 7, 2) := by decide +kernel
theorem dX8_image_36 : decode cX8_image 36 = .ok (.if_icmp .ge 33, 3) := by decide +kernel
theorem dX8_image_39 : decode cX8_image 39 = .ok (.aload_n 0, 1) := by decide +kernel
theorem dX8_image_40 : decode cX8_image 40 = .ok (.getfield 52, 3) := by decide +kernel
theorem dX8_image_43 : decode cX8_image 43 = .ok (.iload_n 1, 1) := by decide +kernel
theorem dX8_image_44 : decode cX8_image 44 = .ok (.aload_n 0, 1) := by decide +kernel
theorem dX8_image_45 : decode cX8_image 45 = .ok (.getfield 13, 3) := by decide +kernel
theorem dX8_image_48 : decode cX8_image 48 = .ok (.iload_n 1, 1) := by decide +kernel
theorem dX8_image_49 : decode cX8_image 49 = .ok (.iaload, 1) := by decide +kernel
theorem dX8_image_50 : decode cX8_image 50 = .ok (.iastore, 1) := by decide +kernel
theorem dX8_image_51 : decode cX8_image 51 = .ok (.aload_n 0, 1) := by decide +kernel
theorem dX8_image_52 : decode cX8_image 52 = .ok (.getfield 55, 3) := by decide +kernel
theorem dX8_image_55 : decode cX8_image 55 = .ok (.iload_n 1, 1) := by decide +kernel
theorem dX8_image_56 : decode cX8_image 56 = .ok (.aload_n 0, 1) := by decide +kernel
theorem dX8_image_57 : decode cX8_image 57 = .ok (.getfield 16, 3) := by decide +kernel
theorem dX8_image_60 : decode cX8_image 60 = .ok (.iload_n 1, 1) := by decide +kernel
theorem dX8_image_61 : decode cX8_image 61 = .ok (.iaload, 1) := by decide +kernel
theorem dX8_image_62 : decode cX8_image 62 = .ok (.iastore, 1) := by decide +kernel
theorem dX8_image_63 : decode cX8_image 63 = .ok (.iinc 1 1, 3) := by decide +kernel
theorem dX8_image_66 : decode cX8_image 66 = .ok (.goto (-33), 3) := by decide +kernel
theorem dX8_image_69 : decode cX8_image 69 = .ok (.iconst 0, 1) := by decide +kernel
theorem dX8_image_70 : decode cX8_image 70 = .ok (.istore_n 1, 1) := by decide +kernel
theorem dX8_image_71 : decode cX8_image 71 = .ok (.iload_n 1, 1) := by decide +kernel
theorem dX8_image_72 : decode cX8_image 72 = .ok (.bipush 60, 2) := by decide +kernel
theorem dX8_image_74 : decode cX8_image 74 = .ok (.if_icmp .ge 33, 3) := by decide +kernel
theorem dX8_image_77 : decode cX8_image 77 = .ok (.aload_n 0, 1) := by decide +kernel
theorem dX8_image_78 : decode cX8_image 78 = .ok (.getfield 58, 3) := by decide +kernel
theorem dX8_image_81 : decode cX8_image 81 = .ok (.iload_n 1, 1) := by decide +kernel
theorem dX8_image_82 : decode cX8_image 82 = .ok (.aload_n 0, 1) := by decide +kernel
theorem dX8_image_83 : decode cX8_image 83 = .ok (.getfield 22, 3) := by decide +kernel
theorem dX8_image_86 : decode cX8_image 86 = .ok (.iload_n 1, 1) := by decide +kernel
theorem dX8_image_87 : decode cX8_image 87 = .ok (.iaload, 1) := by decide +kernel
theorem dX8_image_88 : decode cX8_image 88 = .ok (.iastore, 1) := by decide +kernel
theorem dX8_image_89 : decode cX8_image 89 = .ok (.aload_n 0, 1) := by decide +kernel
theorem dX8_image_90 : decode cX8_image 90 = .ok (.getfield 61, 3) := by decide +kernel
theorem dX8_image_93 : decode cX8_image 93 = .ok (.iload_n 1, 1) := by decide +kernel
theorem dX8_image_94 : decode cX8_image 94 = .ok (.aload_n 0, 1) := by decide +kernel
theorem dX8_image_95 : decode cX8_image 95 = .ok (.getfield 25, 3) := by decide +kernel
theorem dX8_image_98 : decode cX8_image 98 = .ok (.iload_n 1, 1) := by decide +kernel
theorem dX8_image_99 : decode cX8_image 99 = .ok (.iaload, 1) := by decide +kernel
theorem dX8_image_100 : decode cX8_image 100 = .ok (.iastore, 1) := by decide +kernel
theorem dX8_image_101 : decode cX8_image 101 = .ok (.iinc 1 1, 3) := by decide +kernel
theorem dX8_image_104 : decode cX8_image 104 = .ok (.goto (-33), 3) := by decide +kernel
theorem dX8_image_107 : decode cX8_image 107 = .ok (.aload_n 0, 1) := by decide +kernel
theorem dX8_image_108 : decode cX8_image 108 = .ok (.getfield 111, 3) := by decide +kernel
theorem dX8_image_111 : decode cX8_image 111 = .ok (.ireturn, 1) := by decide +kernel
theorem dX8_restore_0 : decode cX8_restore 0 = .ok (.aload_n 0, 1) := by decide +kernel
theorem dX8_restore_1 : decode cX8_restore 1 = .ok (.getfield 271, 3) := by decide +kernel
theorem dX8_restore_4 : decode cX8_restore 4 = .ok (.ifCond .eq 14, 3) := by decide +kernel
theorem dX8_restore_7 : decode cX8_restore 7 = .ok (.aload_n 0, 1) := by decide +kernel
theorem dX8_restore_8 : decode cX8_restore 8 = .ok (.getfield 274, 3) := by decide +kernel
theorem dX8_restore_11 : decode cX8_restore 11 = .ok (.aload_n 0, 1) := by decide +kernel
theorem dX8_restore_12 : decode cX8_restore 12 = .ok (.getfield 114, 3) := by decide +kernel
theorem dX8_restore_15 : decode cX8_restore 15 = .ok (.if_icmp .eq 6, 3) := by decide +kernel
theorem dX8_restore_18 : decode cX8_restore 18 = .ok (.bipush (-103), 2) := by decide +kernel
theorem dX8_restore_20 : decode cX8_restore 20 = .ok (.ireturn, 1) := by decide +kernel
theorem dX8_restore_21 : decode cX8_restore 21 = .ok (.aload_n 0, 1) := by decide +kernel
theorem dX8_restore_22 : decode cX8_restore 22 = .ok (.aload_n 0, 1) := by decide +kernel
theorem dX8_restore_23 : decode cX8_restore 23 = .ok (.getfield 277, 3) := by decide +kernel
theorem dX8_restore_26 : decode cX8_restore 26 = .ok (.putfield 111, 3) := by decide +kernel
theorem dX8_restore_29 : decode cX8_restore 29 = .ok (.iconst 0, 1) := by decide +kernel
theorem dX8_restore_30 : decode cX8_restore 30 = .ok (.istore_n 1, 1) := by decide +kernel
theorem dX8_restore_31 : decode cX8_restore 31 = .ok (.iload_n 1, 1) := by decide +kernel
theorem dX8_restore_32 : decode cX8_restore 32 = .ok (.bipush 7, 2) := by decide +kernel
theorem dX8_restore_34 : decode cX8_restore 34 = .ok (.if_icmp .ge 33, 3) := by decide +kernel
theorem dX8_restore_37 : decode cX8_restore 37 = .ok (.aload_n 0, 1) := by decide +kernel
end
section
theorem dX8_restore_38 : decode cX8_restore 38 = .ok (.getfield 13, 3) := by decide +kernel
theorem dX8_restore_41 : decode cX8_restore 41 = .ok (.iload_n 1, 1) := by decide +kernel
theorem dX8_restore_42 : decode cX8_restore 42 = .ok (.aload_n 0, 1) := by decide +kernel
theorem dX8_restore_43 : decode cX8_restore 43 = .ok (.getfield 52, 3) := by decide +kernel
theorem dX8_restore_46 : decode cX8_restore 46 = .ok (.iload_n 1, 1) := by decide +kernel
theorem dX8_restore_47 : decode cX8_restore 47 = .ok (.iaload, 1) := by decide +kernel
theorem dX8_restore_48 : decode cX8_restore 48 = .ok (.iastore, 1) := by decide +kernel
theorem dX8_restore_49 : decode cX8_restore 49 = .ok (.aload_n 0, 1) := by decide +kernel
theorem dX8_restore_50 : decode cX8_restore 50 = .ok (.getfield 16, 3) := by decide +kernel
theorem dX8_restore_53 : decode cX8_restore 53 = .ok (.iload_n 1, 1) := by decide +kernel
theorem dX8_restore_54 : decode cX8_restore 54 = .ok (.aload_n 0, 1) := by decide +kernel
theorem dX8_restore_55 : decode cX8_restore 55 = .ok (.getfield 55, 3) := by decide +kernel
theorem dX8_restore_58 : decode cX8_restore 58 = .ok (.iload_n 1, 1) := by decide +kernel
theorem dX8_restore_59 : decode cX8_restore 59 = .ok (.iaload, 1) := by decide +kernel
theorem dX8_restore_60 : decode cX8_restore 60 = .ok (.iastore, 1) := by decide +kernel
theorem dX8_restore_61 : decode cX8_restore 61 = .ok (.iinc 1 1, 3) := by decide +kernel
theorem dX8_restore_64 : decode cX8_restore 64 = .ok (.goto (-33), 3) := by decide +kernel
theorem dX8_restore_67 : decode cX8_restore 67 = .ok (.iconst 0, 1) := by decide +kernel
theorem dX8_restore_68 : decode cX8_restore 68 = .ok (.istore_n 1, 1) := by decide +kernel
theorem dX8_restore_69 : decode cX8_restore 69 = .ok (.iload_n 1, 1) := by decide +kernel
theorem dX8_restore_70 : decode cX8_restore 70 = .ok (.bipush 60, 2) := by decide +kernel
theorem dX8_restore_72 : decode cX8_restore 72 = .ok (.if_icmp .ge 33, 3) := by decide +kernel
theorem dX8_restore_75 : decode cX8_restore 75 = .ok (.aload_n 0, 1) := by decide +kernel
theorem dX8_restore_76 : decode cX8_restore 76 = .ok (.getfield 22, 3) := by decide +kernel
theorem dX8_restore_79 : decode cX8_restore 79 = .ok (.iload_n 1, 1) := by decide +kernel
theorem dX8_restore_80 : decode cX8_restore 80 = .ok (.aload_n 0, 1) := by decide +kernel
theorem dX8_restore_81 : decode cX8_restore 81 = .ok (.getfield 58, 3) := by decide +kernel
theorem dX8_restore_84 : decode cX8_restore 84 = .ok (.iload_n 1, 1) := by decide +kernel
theorem dX8_restore_85 : decode cX8_restore 85 = .ok (.iaload, 1) := by decide +kernel
theorem dX8_restore_86 : decode cX8_restore 86 = .ok (.iastore, 1) := by decide +kernel
theorem dX8_restore_87 : decode cX8_restore 87 = .ok (.aload_n 0, 1) := by decide +kernel
theorem dX8_restore_88 : decode cX8_restore 88 = .ok (.getfield 25, 3) := by decide +kernel
theorem dX8_restore_91 : decode cX8_restore 91 = .ok (.iload_n 1, 1) := by decide +kernel
theorem dX8_restore_92 : decode cX8_restore 92 = .ok (.aload_n 0, 1) := by decide +kernel
theorem dX8_restore_93 : decode cX8_restore 93 = .ok (.getfield 61, 3) := by decide +kernel
theorem dX8_restore_96 : decode cX8_restore 96 = .ok (.iload_n 1, 1) := by decide +kernel
theorem dX8_restore_97 : decode cX8_restore 97 = .ok (.iaload, 1) := by decide +kernel
theorem dX8_restore_98 : decode cX8_restore 98 = .ok (.iastore, 1) := by decide +kernel
theorem dX8_restore_99 : decode cX8_restore 99 = .ok (.iinc 1 1, 3) := by decide +kernel
theorem dX8_restore_102 : decode cX8_restore 102 = .ok (.goto (-33), 3) := by decide +kernel
theorem dX8_restore_105 : decode cX8_restore 105 = .ok (.aload_n 0, 1) := by decide +kernel
theorem dX8_restore_106 : decode cX8_restore 106 = .ok (.getfield 111, 3) := by decide +kernel
theorem dX8_restore_109 : decode cX8_restore 109 = .ok (.ireturn, 1) := by decide +kernel
theorem dX8_one_0 : decode cX8_one 0 = .ok (.iload_n 0, 1) := by decide +kernel
theorem dX8_one_1 : decode cX8_one 1 = .ok (.ifCond .eq 7, 3) := by decide +kernel
theorem dX8_one_4 : decode cX8_one 4 = .ok (.iconst 1, 1) := by decide +kernel
theorem dX8_one_5 : decode cX8_one 5 = .ok (.goto 4, 3) := by decide +kernel
theorem dX8_one_8 : decode cX8_one 8 = .ok (.iconst 0, 1) := by decide +kernel
theorem dX8_one_9 : decode cX8_one 9 = .ok (.ireturn, 1) := by decide +kernel
theorem dX8_howMany_0 : decode cX8_howMany 0 = .ok (.iload_n 1, 1) := by decide +kernel
theorem dX8_howMany_1 : decode cX8_howMany 1 = .ok (.tableswitch 122 0 9 #[55, 60, 65, 70, 80, 88, 96, 104, 112, 117], 55) := by decide +kernel
theorem dX8_howMany_56 : decode cX8_howMany 56 = .ok (.aload_n 0, 1) := by decide +kernel
theorem dX8_howMany_57 : decode cX8_howMany 57 = .ok (.getfield 93, 3) := by decide +kernel
theorem dX8_howMany_60 : decode cX8_howMany 60 = .ok (.ireturn, 1) := by decide +kernel
theorem dX8_howMany_61 : decode cX8_howMany 61 = .ok (.aload_n 0, 1) := by decide +kernel
theorem dX8_howMany_62 : decode cX8_howMany 62 = .ok (.getfield 108, 3) := by decide +kernel
theorem dX8_howMany_65 : decode cX8_howMany 65 = .ok (.ireturn, 1) := by decide +kernel
theorem dX8_howMany_66 : decode cX8_howMany 66 = .ok (.aload_n 0, 1) := by decide +kernel
theorem dX8_howMany_67 : decode cX8_howMany 67 = .ok (.getfield 111, 3) := by decide +kernel
theorem dX8_howMany_70 : decode cX8_howMany 70 = .ok (.ireturn, 1) := by decide +kernel
theorem dX8_howMany_71 : decode cX8_howMany 71 = .ok (.aload_n 0, 1) := by decide +kernel
theorem dX8_howMany_72 : decode cX8_howMany 72 = .ok (.getfield 93, 3) := by decide +kernel
theorem dX8_howMany_75 : decode cX8_howMany 75 = .ok (.aload_n 0, 1) := by decide +kernel
theorem dX8_howMany_76 : decode cX8_howMany 76 = .ok (.getfield 108, 3) := by decide +kernel
theorem dX8_howMany_79 : decode cX8_howMany 79 = .ok (.isub, 1) := by decide +kernel
theorem dX8_howMany_80 : decode cX8_howMany 80 = .ok (.ireturn, 1) := by decide +kernel
theorem dX8_howMany_81 : decode cX8_howMany 81 = .ok (.aload_n 0, 1) := by decide +kernel
theorem dX8_howMany_82 : decode cX8_howMany 82 = .ok (.getfield 96, 3) := by decide +kernel
theorem dX8_howMany_85 : decode cX8_howMany 85 = .ok (.invokestatic 280, 3) := by decide +kernel
theorem dX8_howMany_88 : decode cX8_howMany 88 = .ok (.ireturn, 1) := by decide +kernel
theorem dX8_howMany_89 : decode cX8_howMany 89 = .ok (.aload_n 0, 1) := by decide +kernel
theorem dX8_howMany_90 : decode cX8_howMany 90 = .ok (.getfield 99, 3) := by decide +kernel
theorem dX8_howMany_93 : decode cX8_howMany 93 = .ok (.invokestatic 280, 3) := by decide +kernel
theorem dX8_howMany_96 : decode cX8_howMany 96 = .ok (.ireturn, 1) := by decide +kernel
theorem dX8_howMany_97 : decode cX8_howMany 97 = .ok (.aload_n 0, 1) := by decide +kernel
theorem dX8_howMany_98 : decode cX8_howMany 98 = .ok (.getfield 102, 3) := by decide +kernel
theorem dX8_howMany_101 : decode cX8_howMany 101 = .ok (.invokestatic 280, 3) := by decide +kernel
theorem dX8_howMany_104 : decode cX8_howMany 104 = .ok (.ireturn, 1) := by decide +kernel
theorem dX8_howMany_105 : decode cX8_howMany 105 = .ok (.aload_n 0, 1) := by decide +kernel
theorem dX8_howMany_106 : decode cX8_howMany 106 = .ok (.getfield 105, 3) := by decide +kernel
theorem dX8_howMany_109 : decode cX8_howMany 109 = .ok (.invokestatic 280, 3) := by decide +kernel
theorem dX8_howMany_112 : decode cX8_howMany 112 = .ok (.ireturn, 1) := by decide +kernel
theorem dX8_howMany_113 : decode cX8_howMany 113 = .ok (.aload_n 0, 1) := by decide +kernel
theorem dX8_howMany_114 : decode cX8_howMany 114 = .ok (.getfield 66, 3) := by decide +kernel
theorem dX8_howMany_117 : decode cX8_howMany 117 = .ok (.ireturn, 1) := by decide +kernel
theorem dX8_howMany_118 : decode cX8_howMany 118 = .ok (.aload_n 0, 1) := by decide +kernel
theorem dX8_howMany_119 : decode cX8_howMany 119 = .ok (.getfield 114, 3) := by decide +kernel
theorem dX8_howMany_122 : decode cX8_howMany 122 = .ok (.ireturn, 1) := by decide +kernel
theorem dX8_howMany_123 : decode cX8_howMany 123 = .ok (.bipush (-102), 2) := by decide +kernel
theorem dX8_howMany_125 : decode cX8_howMany 125 = .ok (.ireturn, 1) := by decide +kernel
theorem dX8_count_0 : decode cX8_count 0 = .ok (.aload_n 0, 1) := by decide +kernel
theorem dX8_count_1 : decode cX8_count 1 = .ok (.iload_n 1, 1) := by decide +kernel
theorem dX8_count_2 : decode cX8_count 2 = .ok (.invokevirtual 284, 3) := by decide +kernel
theorem dX8_count_5 : decode cX8_count 5 = .ok (.ireturn, 1) := by decide +kernel
theorem dX8_mix_0 : decode cX8_mix 0 = .ok (.aload_n 0, 1) := by decide +kernel
theorem dX8_mix_1 : decode cX8_mix 1 = .ok (.ldc2_w 287, 3) := by decide +kernel
theorem dX8_mix_4 : decode cX8_mix 4 = .ok (.aload_n 0, 1) := by decide +kernel
theorem dX8_mix_5 : decode cX8_mix 5 = .ok (.getfield 289, 3) := by decide +kernel
theorem dX8_mix_8 : decode cX8_mix 8 = .ok (.lmul, 1) := by decide +kernel
theorem dX8_mix_9 : decode cX8_mix 9 = .ok (.lload_n 1, 1) := by decide +kernel
theorem dX8_mix_10 : decode cX8_mix 10 = .ok (.ladd, 1) := by decide +kernel
theorem dX8_mix_11 : decode cX8_mix 11 = .ok (.putfield 289, 3) := by decide +kernel
theorem dX8_mix_14 : decode cX8_mix 14 = .ok (.return_, 1) := by decide +kernel
theorem dX8_mixBrook_0 : decode cX8_mixBrook 0 = .ok (.iconst 0, 1) := by decide +kernel
theorem dX8_mixBrook_1 : decode cX8_mixBrook 1 = .ok (.istore_n 1, 1) := by decide +kernel
theorem dX8_mixBrook_2 : decode cX8_mixBrook 2 = .ok (.iload_n 1, 1) := by decide +kernel
theorem dX8_mixBrook_3 : decode cX8_mixBrook 3 = .ok (.iconst 3, 1) := by decide +kernel
theorem dX8_mixBrook_4 : decode cX8_mixBrook 4 = .ok (.if_icmp .ge 19, 3) := by decide +kernel
theorem dX8_mixBrook_7 : decode cX8_mixBrook 7 = .ok (.aload_n 0, 1) := by decide +kernel
theorem dX8_mixBrook_8 : decode cX8_mixBrook 8 = .ok (.aload_n 0, 1) := by decide +kernel
theorem dX8_mixBrook_9 : decode cX8_mixBrook 9 = .ok (.iload_n 1, 1) := by decide +kernel
theorem dX8_mixBrook_10 : decode cX8_mixBrook 10 = .ok (.invokevirtual 200, 3) := by decide +kernel
theorem dX8_mixBrook_13 : decode cX8_mixBrook 13 = .ok (.i2l, 1) := by decide +kernel
theorem dX8_mixBrook_14 : decode cX8_mixBrook 14 = .ok (.invokevirtual 292, 3) := by decide +kernel
theorem dX8_mixBrook_17 : decode cX8_mixBrook 17 = .ok (.iinc 1 1, 3) := by decide +kernel
theorem dX8_mixBrook_20 : decode cX8_mixBrook 20 = .ok (.goto (-18), 3) := by decide +kernel
theorem dX8_mixBrook_23 : decode cX8_mixBrook 23 = .ok (.aload_n 0, 1) := by decide +kernel
theorem dX8_mixBrook_24 : decode cX8_mixBrook 24 = .ok (.aload_n 0, 1) := by decide +kernel
theorem dX8_mixBrook_25 : decode cX8_mixBrook 25 = .ok (.invokevirtual 203, 3) := by decide +kernel
theorem dX8_mixBrook_28 : decode cX8_mixBrook 28 = .ok (.i2l, 1) := by decide +kernel
theorem dX8_mixBrook_29 : decode cX8_mixBrook 29 = .ok (.invokevirtual 292, 3) := by decide +kernel
theorem dX8_mixBrook_32 : decode cX8_mixBrook 32 = .ok (.aload_n 0, 1) := by decide +kernel
theorem dX8_mixBrook_33 : decode cX8_mixBrook 33 = .ok (.aload_n 0, 1) := by decide +kernel
theorem dX8_mixBrook_34 : decode cX8_mixBrook 34 = .ok (.invokevirtual 206, 3) := by decide +kernel
theorem dX8_mixBrook_37 : decode cX8_mixBrook 37 = .ok (.i2l, 1) := by decide +kernel
theorem dX8_mixBrook_38 : decode cX8_mixBrook 38 = .ok (.invokevirtual 292, 3) := by decide +kernel
theorem dX8_mixBrook_41 : decode cX8_mixBrook 41 = .ok (.aload_n 0, 1) := by decide +kernel
theorem dX8_mixBrook_42 : decode cX8_mixBrook 42 = .ok (.invokevirtual 215, 3) := by decide +kernel
theorem dX8_mixBrook_45 : decode cX8_mixBrook 45 = .ok (.aload_n 0, 1) := by decide +kernel
theorem dX8_mixBrook_46 : decode cX8_mixBrook 46 = .ok (.aload_n 0, 1) := by decide +kernel
theorem dX8_mixBrook_47 : decode cX8_mixBrook 47 = .ok (.getfield 209, 3) := by decide +kernel
theorem dX8_mixBrook_50 : decode cX8_mixBrook 50 = .ok (.i2l, 1) := by decide +kernel
theorem dX8_mixBrook_51 : decode cX8_mixBrook 51 = .ok (.invokevirtual 292, 3) := by decide +kernel
theorem dX8_mixBrook_54 : decode cX8_mixBrook 54 = .ok (.aload_n 0, 1) := by decide +kernel
theorem dX8_mixBrook_55 : decode cX8_mixBrook 55 = .ok (.aload_n 0, 1) := by decide +kernel
theorem dX8_mixBrook_56 : decode cX8_mixBrook 56 = .ok (.getfield 212, 3) := by decide +kernel
theorem dX8_mixBrook_59 : decode cX8_mixBrook 59 = .ok (.i2l, 1) := by decide +kernel
theorem dX8_mixBrook_60 : decode cX8_mixBrook 60 = .ok (.invokevirtual 292, 3) := by decide +kernel
theorem dX8_mixBrook_63 : decode cX8_mixBrook 63 = .ok (.aload_n 0, 1) := by decide +kernel
theorem dX8_mixBrook_64 : decode cX8_mixBrook 64 = .ok (.invokevirtual 239, 3) := by decide +kernel
theorem dX8_mixBrook_67 : decode cX8_mixBrook 67 = .ok (.ifCond .eq 23, 3) := by decide +kernel
theorem dX8_mixBrook_70 : decode cX8_mixBrook 70 = .ok (.aload_n 0, 1) := by decide +kernel
theorem dX8_mixBrook_71 : decode cX8_mixBrook 71 = .ok (.aload_n 0, 1) := by decide +kernel
theorem dX8_mixBrook_72 : decode cX8_mixBrook 72 = .ok (.iconst 0, 1) := by decide +kernel
theorem dX8_mixBrook_73 : decode cX8_mixBrook 73 = .ok (.invokevirtual 243, 3) := by decide +kernel
theorem dX8_mixBrook_76 : decode cX8_mixBrook 76 = .ok (.i2l, 1) := by decide +kernel
theorem dX8_mixBrook_77 : decode cX8_mixBrook 77 = .ok (.invokevirtual 292, 3) := by decide +kernel
theorem dX8_mixBrook_80 : decode cX8_mixBrook 80 = .ok (.aload_n 0, 1) := by decide +kernel
theorem dX8_mixBrook_81 : decode cX8_mixBrook 81 = .ok (.aload_n 0, 1) := by decide +kernel
theorem dX8_mixBrook_82 : decode cX8_mixBrook 82 = .ok (.iconst 1, 1) := by decide +kernel
theorem dX8_mixBrook_83 : decode cX8_mixBrook 83 = .ok (.invokevirtual 243, 3) := by decide +kernel
theorem dX8_mixBrook_86 : decode cX8_mixBrook 86 = .ok (.i2l, 1) := by decide +kernel
theorem dX8_mixBrook_87 : decode cX8_mixBrook 87 = .ok (.invokevirtual 292, 3) := by decide +kernel
theorem dX8_mixBrook_90 : decode cX8_mixBrook 90 = .ok (.return_, 1) := by decide +kernel
theorem dX8_digest_0 : decode cX8_digest 0 = .ok (.aload_n 0, 1) := by decide +kernel
theorem dX8_digest_1 : decode cX8_digest 1 = .ok (.ldc2_w 296, 3) := by decide +kernel
theorem dX8_digest_4 : decode cX8_digest 4 = .ok (.putfield 289, 3) := by decide +kernel
theorem dX8_digest_7 : decode cX8_digest 7 = .ok (.iconst 0, 1) := by decide +kernel
theorem dX8_digest_8 : decode cX8_digest 8 = .ok (.istore_n 1, 1) := by decide +kernel
theorem dX8_digest_9 : decode cX8_digest 9 = .ok (.iload_n 1, 1) := by decide +kernel
theorem dX8_digest_10 : decode cX8_digest 10 = .ok (.aload_n 0, 1) := by decide +kernel
theorem dX8_digest_11 : decode cX8_digest 11 = .ok (.getfield 93, 3) := by decide +kernel
theorem dX8_digest_14 : decode cX8_digest 14 = .ok (.if_icmp .ge 30, 3) := by decide +kernel
theorem dX8_digest_17 : decode cX8_digest 17 = .ok (.aload_n 0, 1) := by decide +kernel
theorem dX8_digest_18 : decode cX8_digest 18 = .ok (.aload_n 0, 1) := by decide +kernel
theorem dX8_digest_19 : decode cX8_digest 19 = .ok (.iload_n 1, 1) := by decide +kernel
theorem dX8_digest_20 : decode cX8_digest 20 = .ok (.invokevirtual 298, 3) := by decide +kernel
theorem dX8_digest_23 : decode cX8_digest 23 = .ok (.i2l, 1) := by decide +kernel
theorem dX8_digest_24 : decode cX8_digest 24 = .ok (.invokevirtual 292, 3) := by decide +kernel
theorem dX8_digest_27 : decode cX8_digest 27 = .ok (.aload_n 0, 1) := by decide +kernel
theorem dX8_digest_28 : decode cX8_digest 28 = .ok (.aload_n 0, 1) := by decide +kernel
theorem dX8_digest_29 : decode cX8_digest 29 = .ok (.getfield 16, 3) := by decide +kernel
theorem dX8_digest_32 : decode cX8_digest 32 = .ok (.iload_n 1, 1) := by decide +kernel
theorem dX8_digest_33 : decode cX8_digest 33 = .ok (.iaload, 1) := by decide +kernel
theorem dX8_digest_34 : decode cX8_digest 34 = .ok (.i2l, 1) := by decide +kernel
theorem dX8_digest_35 : decode cX8_digest 35 = .ok (.invokevirtual 292, 3) := by decide +kernel
theorem dX8_digest_38 : decode cX8_digest 38 = .ok (.iinc 1 1, 3) := by decide +kernel
theorem dX8_digest_41 : decode cX8_digest 41 = .ok (.goto (-32), 3) := by decide +kernel
theorem dX8_digest_44 : decode cX8_digest 44 = .ok (.iconst 0, 1) := by decide +kernel
theorem dX8_digest_45 : decode cX8_digest 45 = .ok (.istore_n 1, 1) := by decide +kernel
theorem dX8_digest_46 : decode cX8_digest 46 = .ok (.iload_n 1, 1) := by decide +kernel
theorem dX8_digest_47 : decode cX8_digest 47 = .ok (.aload_n 0, 1) := by decide +kernel
theorem dX8_digest_48 : decode cX8_digest 48 = .ok (.getfield 108, 3) := by decide +kernel
theorem dX8_digest_51 : decode cX8_digest 51 = .ok (.if_icmp .ge 33, 3) := by decide +kernel
theorem dX8_digest_54 : decode cX8_digest 54 = .ok (.iconst 0, 1) := by decide +kernel
theorem dX8_digest_55 : decode cX8_digest 55 = .ok (.istore_n 2, 1) := by decide +kernel
theorem dX8_digest_56 : decode cX8_digest 56 = .ok (.iload_n 2, 1) := by decide +kernel
theorem dX8_digest_57 : decode cX8_digest 57 = .ok (.iconst 3, 1) := by decide +kernel
theorem dX8_digest_58 : decode cX8_digest 58 = .ok (.if_icmp .ge 20, 3) := by decide +kernel
theorem dX8_digest_61 : decode cX8_digest 61 = .ok (.aload_n 0, 1) := by decide +kernel
theorem dX8_digest_62 : decode cX8_digest 62 = .ok (.aload_n 0, 1) := by decide +kernel
theorem dX8_digest_63 : decode cX8_digest 63 = .ok (.iload_n 1, 1) := by decide +kernel
theorem dX8_digest_64 : decode cX8_digest 64 = .ok (.iload_n 2, 1) := by decide +kernel
theorem dX8_digest_65 : decode cX8_digest 65 = .ok (.invokevirtual 131, 3) := by decide +kernel
theorem dX8_digest_68 : decode cX8_digest 68 = .ok (.i2l, 1) := by decide +kernel
theorem dX8_digest_69 : decode cX8_digest 69 = .ok (.invokevirtual 292, 3) := by decide +kernel
theorem dX8_digest_72 : decode cX8_digest 72 = .ok (.iinc 2 1, 3) := by decide +kernel
theorem dX8_digest_75 : decode cX8_digest 75 = .ok (.goto (-19), 3) := by decide +kernel
theorem dX8_digest_78 : decode cX8_digest 78 = .ok (.iinc 1 1, 3) := by decide +kernel
theorem dX8_digest_81 : decode cX8_digest 81 = .ok (.goto (-35), 3) := by decide +kernel
theorem dX8_digest_84 : decode cX8_digest 84 = .ok (.aload_n 0, 1) := by decide +kernel
theorem dX8_digest_85 : decode cX8_digest 85 = .ok (.invokevirtual 151, 3) := by decide +kernel
theorem dX8_digest_88 : decode cX8_digest 88 = .ok (.aload_n 0, 1) := by decide +kernel
theorem dX8_digest_89 : decode cX8_digest 89 = .ok (.aload_n 0, 1) := by decide +kernel
theorem dX8_digest_90 : decode cX8_digest 90 = .ok (.invokevirtual 157, 3) := by decide +kernel
theorem dX8_digest_93 : decode cX8_digest 93 = .ok (.i2l, 1) := by decide +kernel
theorem dX8_digest_94 : decode cX8_digest 94 = .ok (.invokevirtual 292, 3) := by decide +kernel
theorem dX8_digest_97 : decode cX8_digest 97 = .ok (.aload_n 0, 1) := by decide +kernel
theorem dX8_digest_98 : decode cX8_digest 98 = .ok (.getfield 93, 3) := by decide +kernel
theorem dX8_digest_101 : decode cX8_digest 101 = .ok (.ifCond .le 7, 3) := by decide +kernel
theorem dX8_digest_104 : decode cX8_digest 104 = .ok (.aload_n 0, 1) := by decide +kernel
theorem dX8_digest_105 : decode cX8_digest 105 = .ok (.invokevirtual 301, 3) := by decide +kernel
theorem dX8_digest_108 : decode cX8_digest 108 = .ok (.iconst 0, 1) := by decide +kernel
theorem dX8_digest_109 : decode cX8_digest 109 = .ok (.istore_n 1, 1) := by decide +kernel
theorem dX8_digest_110 : decode cX8_digest 110 = .ok (.iload_n 1, 1) := by decide +kernel
theorem dX8_digest_111 : decode cX8_digest 111 = .ok (.aload_n 0, 1) := by decide +kernel
theorem dX8_digest_112 : decode cX8_digest 112 = .ok (.getfield 66, 3) := by decide +kernel
theorem dX8_digest_115 : decode cX8_digest 115 = .ok (.if_icmp .ge 20, 3) := by decide +kernel
theorem dX8_digest_118 : decode cX8_digest 118 = .ok (.aload_n 0, 1) := by decide +kernel
theorem dX8_digest_119 : decode cX8_digest 119 = .ok (.aload_n 0, 1) := by decide +kernel
theorem dX8_digest_120 : decode cX8_digest 120 = .ok (.getfield 28, 3) := by decide +kernel
theorem dX8_digest_123 : decode cX8_digest 123 = .ok (.iload_n 1, 1) := by decide +kernel
theorem dX8_digest_124 : decode cX8_digest 124 = .ok (.baload, 1) := by decide +kernel
theorem dX8_digest_125 : decode cX8_digest 125 = .ok (.i2l, 1) := by decide +kernel
theorem dX8_digest_126 : decode cX8_digest 126 = .ok (.invokevirtual 292, 3) := by decide +kernel
theorem dX8_digest_129 : decode cX8_digest 129 = .ok (.iinc 1 1, 3) := by decide +kernel
theorem dX8_digest_132 : decode cX8_digest 132 = .ok (.goto (-22), 3) := by decide +kernel
theorem dX8_digest_135 : decode cX8_digest 135 = .ok (.iconst 0, 1) := by decide +kernel
theorem dX8_digest_136 : decode cX8_digest 136 = .ok (.istore_n 1, 1) := by decide +kernel
theorem dX8_digest_137 : decode cX8_digest 137 = .ok (.iload_n 1, 1) := by decide +kernel
theorem dX8_digest_138 : decode cX8_digest 138 = .ok (.bipush 10, 2) := by decide +kernel
theorem dX8_digest_140 : decode cX8_digest 140 = .ok (.if_icmp .ge 19, 3) := by decide +kernel
theorem dX8_digest_143 : decode cX8_digest 143 = .ok (.aload_n 0, 1) := by decide +kernel
theorem dX8_digest_144 : decode cX8_digest 144 = .ok (.aload_n 0, 1) := by decide +kernel
theorem dX8_digest_145 : decode cX8_digest 145 = .ok (.iload_n 1, 1) := by decide +kernel
theorem dX8_digest_146 : decode cX8_digest 146 = .ok (.invokevirtual 284, 3) := by decide +kernel
theorem dX8_digest_149 : decode cX8_digest 149 = .ok (.i2l, 1) := by decide +kernel
theorem dX8_digest_150 : decode cX8_digest 150 = .ok (.invokevirtual 292, 3) := by decide +kernel
theorem dX8_digest_153 : decode cX8_digest 153 = .ok (.iinc 1 1, 3) := by decide +kernel
theorem dX8_digest_156 : decode cX8_digest 156 = .ok (.goto (-19), 3) := by decide +kernel
theorem dX8_digest_159 : decode cX8_digest 159 = .ok (.aload_n 0, 1) := by decide +kernel
theorem dX8_digest_160 : decode cX8_digest 160 = .ok (.getfield 289, 3) := by decide +kernel
theorem dX8_digest_163 : decode cX8_digest 163 = .ok (.lreturn, 1) := by decide +kernel
theorem dJ13_bitCount_95d88_0 : decode cJ13_bitCount_95d88 0 = .ok (.lload_n 0, 1) := by decide +kernel
theorem dJ13_bitCount_95d88_1 : decode cJ13_bitCount_95d88 1 = .ok (.lload_n 0, 1) := by decide +kernel
theorem dJ13_bitCount_95d88_2 : decode cJ13_bitCount_95d88 2 = .ok (.iconst 1, 1) := by decide +kernel
theorem dJ13_bitCount_95d88_3 : decode cJ13_bitCount_95d88 3 = .ok (.lushr, 1) := by decide +kernel
theorem dJ13_bitCount_95d88_4 : decode cJ13_bitCount_95d88 4 = .ok (.ldc2_w 314, 3) := by decide +kernel
theorem dJ13_bitCount_95d88_7 : decode cJ13_bitCount_95d88 7 = .ok (.land, 1) := by decide +kernel
theorem dJ13_bitCount_95d88_8 : decode cJ13_bitCount_95d88 8 = .ok (.lsub, 1) := by decide +kernel
theorem dJ13_bitCount_95d88_9 : decode cJ13_bitCount_95d88 9 = .ok (.lstore_n 0, 1) := by decide +kernel
theorem dJ13_bitCount_95d88_10 : decode cJ13_bitCount_95d88 10 = .ok (.lload_n 0, 1) := by decide +kernel
theorem dJ13_bitCount_95d88_11 : decode cJ13_bitCount_95d88 11 = .ok (.ldc2_w 316, 3) := by decide +kernel
theorem dJ13_bitCount_95d88_14 : decode cJ13_bitCount_95d88 14 = .ok (.land, 1) := by decide +kernel
theorem dJ13_bitCount_95d88_15 : decode cJ13_bitCount_95d88 15 = .ok (.lload_n 0, 1) := by decide +kernel
theorem dJ13_bitCount_95d88_16 : decode cJ13_bitCount_95d88 16 = .ok (.iconst 2, 1) := by decide +kernel
theorem dJ13_bitCount_95d88_17 : decode cJ13_bitCount_95d88 17 = .ok (.lushr, 1) := by decide +kernel
theorem dJ13_bitCount_95d88_18 : decode cJ13_bitCount_95d88 18 = .ok (.ldc2_w 316, 3) := by decide +kernel
theorem dJ13_bitCount_95d88_21 : decode cJ13_bitCount_95d88 21 = .ok (.land, 1) := by decide +kernel
theorem dJ13_bitCount_95d88_22 : decode cJ13_bitCount_95d88 22 = .ok (.ladd, 1) := by decide +kernel
theorem dJ13_bitCount_95d88_23 : decode cJ13_bitCount_95d88 23 = .ok (.lstore_n 0, 1) := by decide +kernel
theorem dJ13_bitCount_95d88_24 : decode cJ13_bitCount_95d88 24 = .ok (.lload_n 0, 1) := by decide +kernel
theorem dJ13_bitCount_95d88_25 : decode cJ13_bitCount_95d88 25 = .ok (.lload_n 0, 1) := by decide +kernel
theorem dJ13_bitCount_95d88_26 : decode cJ13_bitCount_95d88 26 = .ok (.iconst 4, 1) := by decide +kernel
theorem dJ13_bitCount_95d88_27 : decode cJ13_bitCount_95d88 27 = .ok (.lushr, 1) := by decide +kernel
theorem dJ13_bitCount_95d88_28 : decode cJ13_bitCount_95d88 28 = .ok (.ladd, 1) := by decide +kernel
theorem dJ13_bitCount_95d88_29 : decode cJ13_bitCount_95d88 29 = .ok (.ldc2_w 318, 3) := by decide +kernel
theorem dJ13_bitCount_95d88_32 : decode cJ13_bitCount_95d88 32 = .ok (.land, 1) := by decide +kernel
theorem dJ13_bitCount_95d88_33 : decode cJ13_bitCount_95d88 33 = .ok (.lstore_n 0, 1) := by decide +kernel
theorem dJ13_bitCount_95d88_34 : decode cJ13_bitCount_95d88 34 = .ok (.lload_n 0, 1) := by decide +kernel
theorem dJ13_bitCount_95d88_35 : decode cJ13_bitCount_95d88 35 = .ok (.lload_n 0, 1) := by decide +kernel
theorem dJ13_bitCount_95d88_36 : decode cJ13_bitCount_95d88 36 = .ok (.bipush 8, 2) := by decide +kernel
theorem dJ13_bitCount_95d88_38 : decode cJ13_bitCount_95d88 38 = .ok (.lushr, 1) := by decide +kernel
theorem dJ13_bitCount_95d88_39 : decode cJ13_bitCount_95d88 39 = .ok (.ladd, 1) := by decide +kernel
theorem dJ13_bitCount_95d88_40 : decode cJ13_bitCount_95d88 40 = .ok (.lstore_n 0, 1) := by decide +kernel
theorem dJ13_bitCount_95d88_41 : decode cJ13_bitCount_95d88 41 = .ok (.lload_n 0, 1) := by decide +kernel
theorem dJ13_bitCount_95d88_42 : decode cJ13_bitCount_95d88 42 = .ok (.lload_n 0, 1) := by decide +kernel
theorem dJ13_bitCount_95d88_43 : decode cJ13_bitCount_95d88 43 = .ok (.bipush 16, 2) := by decide +kernel
theorem dJ13_bitCount_95d88_45 : decode cJ13_bitCount_95d88 45 = .ok (.lushr, 1) := by decide +kernel
theorem dJ13_bitCount_95d88_46 : decode cJ13_bitCount_95d88 46 = .ok (.ladd, 1) := by decide +kernel
theorem dJ13_bitCount_95d88_47 : decode cJ13_bitCount_95d88 47 = .ok (.lstore_n 0, 1) := by decide +kernel
theorem dJ13_bitCount_95d88_48 : decode cJ13_bitCount_95d88 48 = .ok (.lload_n 0, 1) := by decide +kernel
theorem dJ13_bitCount_95d88_49 : decode cJ13_bitCount_95d88 49 = .ok (.lload_n 0, 1) := by decide +kernel
theorem dJ13_bitCount_95d88_50 : decode cJ13_bitCount_95d88 50 = .ok (.bipush 32, 2) := by decide +kernel
theorem dJ13_bitCount_95d88_52 : decode cJ13_bitCount_95d88 52 = .ok (.lushr, 1) := by decide +kernel
theorem dJ13_bitCount_95d88_53 : decode cJ13_bitCount_95d88 53 = .ok (.ladd, 1) := by decide +kernel
theorem dJ13_bitCount_95d88_54 : decode cJ13_bitCount_95d88 54 = .ok (.lstore_n 0, 1) := by decide +kernel
theorem dJ13_bitCount_95d88_55 : decode cJ13_bitCount_95d88 55 = .ok (.lload_n 0, 1) := by decide +kernel
theorem dJ13_bitCount_95d88_56 : decode cJ13_bitCount_95d88 56 = .ok (.l2i, 1) := by decide +kernel
theorem dJ13_bitCount_95d88_57 : decode cJ13_bitCount_95d88 57 = .ok (.bipush 127, 2) := by decide +kernel
theorem dJ13_bitCount_95d88_59 : decode cJ13_bitCount_95d88 59 = .ok (.iand, 1) := by decide +kernel
theorem dJ13_bitCount_95d88_60 : decode cJ13_bitCount_95d88 60 = .ok (.ireturn, 1) := by decide +kernel
theorem dJ7_fill_53178_0 : decode cJ7_fill_53178 0 = .ok (.iconst 0, 1) := by decide +kernel
theorem dJ7_fill_53178_1 : decode cJ7_fill_53178 1 = .ok (.istore_n 2, 1) := by decide +kernel
theorem dJ7_fill_53178_2 : decode cJ7_fill_53178 2 = .ok (.aload_n 0, 1) := by decide +kernel
theorem dJ7_fill_53178_3 : decode cJ7_fill_53178 3 = .ok (.arraylength, 1) := by decide +kernel
theorem dJ7_fill_53178_4 : decode cJ7_fill_53178 4 = .ok (.istore_n 3, 1) := by decide +kernel
theorem dJ7_fill_53178_5 : decode cJ7_fill_53178 5 = .ok (.iload_n 2, 1) := by decide +kernel
theorem dJ7_fill_53178_6 : decode cJ7_fill_53178 6 = .ok (.iload_n 3, 1) := by decide +kernel
theorem dJ7_fill_53178_7 : decode cJ7_fill_53178 7 = .ok (.if_icmp .ge 13, 3) := by decide +kernel
theorem dJ7_fill_53178_10 : decode cJ7_fill_53178 10 = .ok (.aload_n 0, 1) := by decide +kernel
theorem dJ7_fill_53178_11 : decode cJ7_fill_53178 11 = .ok (.iload_n 2, 1) := by decide +kernel
theorem dJ7_fill_53178_12 : decode cJ7_fill_53178 12 = .ok (.iload_n 1, 1) := by decide +kernel
theorem dJ7_fill_53178_13 : decode cJ7_fill_53178 13 = .ok (.iastore, 1) := by decide +kernel
theorem dJ7_fill_53178_14 : decode cJ7_fill_53178 14 = .ok (.iinc 2 1, 3) := by decide +kernel
theorem dJ7_fill_53178_17 : decode cJ7_fill_53178 17 = .ok (.goto (-12), 3) := by decide +kernel
theorem dJ7_fill_53178_20 : decode cJ7_fill_53178 20 = .ok (.return_, 1) := by decide +kernel
theorem dL_law_0 : decode cL_law 0 = .ok (.new 7, 3) := by decide +kernel
theorem dL_law_3 : decode cL_law 3 = .ok (.dup, 1) := by decide +kernel
theorem dL_law_4 : decode cL_law 4 = .ok (.invokespecial 9, 3) := by decide +kernel
theorem dL_law_7 : decode cL_law 7 = .ok (.astore_n 1, 1) := by decide +kernel
theorem dL_law_8 : decode cL_law 8 = .ok (.new 10, 3) := by decide +kernel
theorem dL_law_11 : decode cL_law 11 = .ok (.dup, 1) := by decide +kernel
theorem dL_law_12 : decode cL_law 12 = .ok (.invokespecial 12, 3) := by decide +kernel
theorem dL_law_15 : decode cL_law 15 = .ok (.astore_n 2, 1) := by decide +kernel
theorem dL_law_16 : decode cL_law 16 = .ok (.iconst 0, 1) := by decide +kernel
theorem dL_law_17 : decode cL_law 17 = .ok (.istore_n 3, 1) := by decide +kernel
theorem dL_law_18 : decode cL_law 18 = .ok (.iload_n 3, 1) := by decide +kernel
theorem dL_law_19 : decode cL_law 19 = .ok (.aload_n 0, 1) := by decide +kernel
theorem dL_law_20 : decode cL_law 20 = .ok (.arraylength, 1) := by decide +kernel
theorem dL_law_21 : decode cL_law 21 = .ok (.iconst 4, 1) := by decide +kernel
theorem dL_law_22 : decode cL_law 22 = .ok (.isub, 1) := by decide +kernel
theorem dL_law_23 : decode cL_law 23 = .ok (.if_icmp .gt 731, 3) := by decide +kernel
theorem dL_law_26 : decode cL_law 26 = .ok (.aload_n 0, 1) := by decide +kernel
theorem dL_law_27 : decode cL_law 27 = .ok (.iload_n 3, 1) := by decide +kernel
theorem dL_law_28 : decode cL_law 28 = .ok (.iaload, 1) := by decide +kernel
theorem dL_law_29 : decode cL_law 29 = .ok (.bipush 31, 2) := by decide +kernel
theorem dL_law_31 : decode cL_law 31 = .ok (.iand, 1) := by decide +kernel
theorem dL_law_32 : decode cL_law 32 = .ok (.tableswitch 716 0 26 #[124, 177, 190, 203, 216, 239, 262, 295, 328, 361, 374, 407, 420, 443, 456, 469, 482, 495, 508, 531, 554, 577, 610, 653, 666, 679, 702], 124) := by decide +kernel
theorem dL_law_156 : decode cL_law 156 = .ok (.aload_n 1, 1) := by decide +kernel
theorem dL_law_157 : decode cL_law 157 = .ok (.aload_n 0, 1) := by decide +kernel
theorem dL_law_158 : decode cL_law 158 = .ok (.iload_n 3, 1) := by decide +kernel
theorem dL_law_159 : decode cL_law 159 = .ok (.iconst 1, 1) := by decide +kernel
theorem dL_law_160 : decode cL_law 160 = .ok (.iadd, 1) := by decide +kernel
theorem dL_law_161 : decode cL_law 161 = .ok (.iaload, 1) := by decide +kernel
theorem dL_law_162 : decode cL_law 162 = .ok (.i2l, 1) := by decide +kernel
theorem dL_law_163 : decode cL_law 163 = .ok (.bipush 32, 2) := by decide +kernel
theorem dL_law_165 : decode cL_law 165 = .ok (.lshl, 1) := by decide +kernel
theorem dL_law_166 : decode cL_law 166 = .ok (.aload_n 0, 1) := by decide +kernel
theorem dL_law_167 : decode cL_law 167 = .ok (.iload_n 3, 1) := by decide +kernel
theorem dL_law_168 : decode cL_law 168 = .ok (.iconst 2, 1) := by decide +kernel
theorem dL_law_169 : decode cL_law 169 = .ok (.iadd, 1) := by decide +kernel
theorem dL_law_170 : decode cL_law 170 = .ok (.iaload, 1) := by decide +kernel
theorem dL_law_171 : decode cL_law 171 = .ok (.i2l, 1) := by decide +kernel
theorem dL_law_172 : decode cL_law 172 = .ok (.ldc2_w 13, 3) := by decide +kernel
theorem dL_law_175 : decode cL_law 175 = .ok (.land, 1) := by decide +kernel
theorem dL_law_176 : decode cL_law 176 = .ok (.lor, 1) := by decide +kernel
theorem dL_law_177 : decode cL_law 177 = .ok (.invokevirtual 15, 3) := by decide +kernel
theorem dL_law_180 : decode cL_law 180 = .ok (.aload_n 2, 1) := by decide +kernel
theorem dL_law_181 : decode cL_law 181 = .ok (.aload_n 0, 1) := by decide +kernel
theorem dL_law_182 : decode cL_law 182 = .ok (.iload_n 3, 1) := by decide +kernel
theorem dL_law_183 : decode cL_law 183 = .ok (.iconst 1, 1) := by decide +kernel
theorem dL_law_184 : decode cL_law 184 = .ok (.iadd, 1) := by decide +kernel
theorem dL_law_185 : decode cL_law 185 = .ok (.iaload, 1) := by decide +kernel
theorem dL_law_186 : decode cL_law 186 = .ok (.i2l, 1) := by decide +kernel
theorem dL_law_187 : decode cL_law 187 = .ok (.bipush 32, 2) := by decide +kernel
theorem dL_law_189 : decode cL_law 189 = .ok (.lshl, 1) := by decide +kernel
theorem dL_law_190 : decode cL_law 190 = .ok (.aload_n 0, 1) := by decide +kernel
theorem dL_law_191 : decode cL_law 191 = .ok (.iload_n 3, 1) := by decide +kernel
theorem dL_law_192 : decode cL_law 192 = .ok (.iconst 2, 1) := by decide +kernel
theorem dL_law_193 : decode cL_law 193 = .ok (.iadd, 1) := by decide +kernel
theorem dL_law_194 : decode cL_law 194 = .ok (.iaload, 1) := by decide +kernel
theorem dL_law_195 : decode cL_law 195 = .ok (.i2l, 1) := by decide +kernel
theorem dL_law_196 : decode cL_law 196 = .ok (.ldc2_w 13, 3) := by decide +kernel
theorem dL_law_199 : decode cL_law 199 = .ok (.land, 1) := by decide +kernel
theorem dL_law_200 : decode cL_law 200 = .ok (.lor, 1) := by decide +kernel
theorem dL_law_201 : decode cL_law 201 = .ok (.invokevirtual 19, 3) := by decide +kernel
theorem dL_law_204 : decode cL_law 204 = .ok (.if_icmp .eq 544, 3) := by decide +kernel
theorem dL_law_207 : decode cL_law 207 = .ok (.iconst 0, 1) := by decide +kernel
theorem dL_law_208 : decode cL_law 208 = .ok (.ireturn, 1) := by decide +kernel
theorem dL_law_209 : decode cL_law 209 = .ok (.aload_n 1, 1) := by decide +kernel
theorem dL_law_210 : decode cL_law 210 = .ok (.invokevirtual 20, 3) := by decide +kernel
theorem dL_law_213 : decode cL_law 213 = .ok (.aload_n 2, 1) := by decide +kernel
theorem dL_law_214 : decode cL_law 214 = .ok (.invokevirtual 24, 3) := by decide +kernel
theorem dL_law_217 : decode cL_law 217 = .ok (.if_icmp .eq 531, 3) := by decide +kernel
theorem dL_law_220 : decode cL_law 220 = .ok (.iconst 0, 1) := by decide +kernel
theorem dL_law_221 : decode cL_law 221 = .ok (.ireturn, 1) := by decide +kernel
theorem dL_law_222 : decode cL_law 222 = .ok (.aload_n 1, 1) := by decide +kernel
theorem dL_law_223 : decode cL_law 223 = .ok (.invokevirtual 25, 3) := by decide +kernel
theorem dL_law_226 : decode cL_law 226 = .ok (.aload_n 2, 1) := by decide +kernel
theorem dL_law_227 : decode cL_law 227 = .ok (.invokevirtual 28, 3) := by decide +kernel
theorem dL_law_230 : decode cL_law 230 = .ok (.if_icmp .eq 518, 3) := by decide +kernel
theorem dL_law_233 : decode cL_law 233 = .ok (.iconst 0, 1) := by decide +kernel
theorem dL_law_234 : decode cL_law 234 = .ok (.ireturn, 1) := by decide +kernel
theorem dL_law_235 : decode cL_law 235 = .ok (.aload_n 1, 1) := by decide +kernel
theorem dL_law_236 : decode cL_law 236 = .ok (.invokevirtual 29, 3) := by decide +kernel
theorem dL_law_239 : decode cL_law 239 = .ok (.aload_n 2, 1) := by decide +kernel
theorem dL_law_240 : decode cL_law 240 = .ok (.invokevirtual 32, 3) := by decide +kernel
theorem dL_law_243 : decode cL_law 243 = .ok (.if_icmp .eq 505, 3) := by decide +kernel
theorem dL_law_246 : decode cL_law 246 = .ok (.iconst 0, 1) := by decide +kernel
theorem dL_law_247 : decode cL_law 247 = .ok (.ireturn, 1) := by decide +kernel
theorem dL_law_248 : decode cL_law 248 = .ok (.aload_n 1, 1) := by decide +kernel
theorem dL_law_249 : decode cL_law 249 = .ok (.aload_n 0, 1) := by decide +kernel
theorem dL_law_250 : decode cL_law 250 = .ok (.iload_n 3, 1) := by decide +kernel
theorem dL_law_251 : decode cL_law 251 = .ok (.iconst 1, 1) := by decide +kernel
theorem dL_law_252 : decode cL_law 252 = .ok (.iadd, 1) := by decide +kernel
theorem dL_law_253 : decode cL_law 253 = .ok (.iaload, 1) := by decide +kernel
theorem dL_law_254 : decode cL_law 254 = .ok (.invokevirtual 33, 3) := by decide +kernel
theorem dL_law_257 : decode cL_law 257 = .ok (.aload_n 2, 1) := by decide +kernel
theorem dL_law_258 : decode cL_law 258 = .ok (.aload_n 0, 1) := by decide +kernel
theorem dL_law_259 : decode cL_law 259 = .ok (.iload_n 3, 1) := by decide +kernel
theorem dL_law_260 : decode cL_law 260 = .ok (.iconst 1, 1) := by decide +kernel
theorem dL_law_261 : decode cL_law 261 = .ok (.iadd, 1) := by decide +kernel
theorem dL_law_262 : decode cL_law 262 = .ok (.iaload, 1) := by decide +kernel
theorem dL_law_263 : decode cL_law 263 = .ok (.invokevirtual 37, 3) := by decide +kernel
theorem dL_law_266 : decode cL_law 266 = .ok (.if_icmp .eq 482, 3) := by decide +kernel
theorem dL_law_269 : decode cL_law 269 = .ok (.iconst 0, 1) := by decide +kernel
theorem dL_law_270 : decode cL_law 270 = .ok (.ireturn, 1) := by decide +kernel
theorem dL_law_271 : decode cL_law 271 = .ok (.aload_n 1, 1) := by decide +kernel
theorem dL_law_272 : decode cL_law 272 = .ok (.aload_n 0, 1) := by decide +kernel
theorem dL_law_273 : decode cL_law 273 = .ok (.iload_n 3, 1) := by decide +kernel
theorem dL_law_274 : decode cL_law 274 = .ok (.iconst 1, 1) := by decide +kernel
theorem dL_law_275 : decode cL_law 275 = .ok (.iadd, 1) := by decide +kernel
theorem dL_law_276 : decode cL_law 276 = .ok (.iaload, 1) := by decide +kernel
theorem dL_law_277 : decode cL_law 277 = .ok (.invokevirtual 38, 3) := by decide +kernel
theorem dL_law_280 : decode cL_law 280 = .ok (.aload_n 2, 1) := by decide +kernel
theorem dL_law_281 : decode cL_law 281 = .ok (.aload_n 0, 1) := by decide +kernel
theorem dL_law_282 : decode cL_law 282 = .ok (.iload_n 3, 1) := by decide +kernel
theorem dL_law_283 : decode cL_law 283 = .ok (.iconst 1, 1) := by decide +kernel
theorem dL_law_284 : decode cL_law 284 = .ok (.iadd, 1) := by decide +kernel
theorem dL_law_285 : decode cL_law 285 = .ok (.iaload, 1) := by decide +kernel
theorem dL_law_286 : decode cL_law 286 = .ok (.invokevirtual 41, 3) := by decide +kernel
theorem dL_law_289 : decode cL_law 289 = .ok (.if_icmp .eq 459, 3) := by decide +kernel
theorem dL_law_292 : decode cL_law 292 = .ok (.iconst 0, 1) := by decide +kernel
theorem dL_law_293 : decode cL_law 293 = .ok (.ireturn, 1) := by decide +kernel
theorem dL_law_294 : decode cL_law 294 = .ok (.aload_n 1, 1) := by decide +kernel
theorem dL_law_295 : decode cL_law 295 = .ok (.aload_n 0, 1) := by decide +kernel
theorem dL_law_296 : decode cL_law 296 = .ok (.iload_n 3, 1) := by decide +kernel
theorem dL_law_297 : decode cL_law 297 = .ok (.iconst 1, 1) := by decide +kernel
theorem dL_law_298 : decode cL_law 298 = .ok (.iadd, 1) := by decide +kernel
theorem dL_law_299 : decode cL_law 299 = .ok (.iaload, 1) := by decide +kernel
theorem dL_law_300 : decode cL_law 300 = .ok (.aload_n 0, 1) := by decide +kernel
theorem dL_law_301 : decode cL_law 301 = .ok (.iload_n 3, 1) := by decide +kernel
theorem dL_law_302 : decode cL_law 302 = .ok (.iconst 2, 1) := by decide +kernel
theorem dL_law_303 : decode cL_law 303 = .ok (.iadd, 1) := by decide +kernel
theorem dL_law_304 : decode cL_law 304 = .ok (.iaload, 1) := by decide +kernel
theorem dL_law_305 : decode cL_law 305 = .ok (.invokevirtual 42, 3) := by decide +kernel
theorem dL_law_308 : decode cL_law 308 = .ok (.aload_n 2, 1) := by decide +kernel
theorem dL_law_309 : decode cL_law 309 = .ok (.aload_n 0, 1) := by decide +kernel
theorem dL_law_310 : decode cL_law 310 = .ok (.iload_n 3, 1) := by decide +kernel
theorem dL_law_311 : decode cL_law 311 = .ok (.iconst 1, 1) := by decide +kernel
theorem dL_law_312 : decode cL_law 312 = .ok (.iadd, 1) := by decide +kernel
theorem dL_law_313 : decode cL_law 313 = .ok (.iaload, 1) := by decide +kernel
theorem dL_law_314 : decode cL_law 314 = .ok (.aload_n 0, 1) := by decide +kernel
theorem dL_law_315 : decode cL_law 315 = .ok (.iload_n 3, 1) := by decide +kernel
theorem dL_law_316 : decode cL_law 316 = .ok (.iconst 2, 1) := by decide +kernel
theorem dL_law_317 : decode cL_law 317 = .ok (.iadd, 1) := by decide +kernel
theorem dL_law_318 : decode cL_law 318 = .ok (.iaload, 1) := by decide +kernel
theorem dL_law_319 : decode cL_law 319 = .ok (.invokevirtual 46, 3) := by decide +kernel
theorem dL_law_322 : decode cL_law 322 = .ok (.if_icmp .eq 426, 3) := by decide +kernel
theorem dL_law_325 : decode cL_law 325 = .ok (.iconst 0, 1) := by decide +kernel
theorem dL_law_326 : decode cL_law 326 = .ok (.ireturn, 1) := by decide +kernel
theorem dL_law_327 : decode cL_law 327 = .ok (.aload_n 1, 1) := by decide +kernel
theorem dL_law_328 : decode cL_law 328 = .ok (.aload_n 0, 1) := by decide +kernel
theorem dL_law_329 : decode cL_law 329 = .ok (.iload_n 3, 1) := by decide +kernel
theorem dL_law_330 : decode cL_law 330 = .ok (.iconst 1, 1) := by decide +kernel
theorem dL_law_331 : decode cL_law 331 = .ok (.iadd, 1) := by decide +kernel
theorem dL_law_332 : decode cL_law 332 = .ok (.iaload, 1) := by decide +kernel
theorem dL_law_333 : decode cL_law 333 = .ok (.aload_n 0, 1) := by decide +kernel
theorem dL_law_334 : decode cL_law 334 = .ok (.iload_n 3, 1) := by decide +kernel
theorem dL_law_335 : decode cL_law 335 = .ok (.iconst 2, 1) := by decide +kernel
theorem dL_law_336 : decode cL_law 336 = .ok (.iadd, 1) := by decide +kernel
theorem dL_law_337 : decode cL_law 337 = .ok (.iaload, 1) := by decide +kernel
theorem dL_law_338 : decode cL_law 338 = .ok (.invokevirtual 47, 3) := by decide +kernel
theorem dL_law_341 : decode cL_law 341 = .ok (.aload_n 2, 1) := by decide +kernel
theorem dL_law_342 : decode cL_law 342 = .ok (.aload_n 0, 1) := by decide +kernel
theorem dL_law_343 : decode cL_law 343 = .ok (.iload_n 3, 1) := by decide +kernel
theorem dL_law_344 : decode cL_law 344 = .ok (.iconst 1, 1) := by decide +kernel
theorem dL_law_345 : decode cL_law 345 = .ok (.iadd, 1) := by decide +kernel
theorem dL_law_346 : decode cL_law 346 = .ok (.iaload, 1) := by decide +kernel
theorem dL_law_347 : decode cL_law 347 = .ok (.aload_n 0, 1) := by decide +kernel
theorem dL_law_348 : decode cL_law 348 = .ok (.iload_n 3, 1) := by decide +kernel
theorem dL_law_349 : decode cL_law 349 = .ok (.iconst 2, 1) := by decide +kernel
theorem dL_law_350 : decode cL_law 350 = .ok (.iadd, 1) := by decide +kernel
theorem dL_law_351 : decode cL_law 351 = .ok (.iaload, 1) := by decide +kernel
theorem dL_law_352 : decode cL_law 352 = .ok (.invokevirtual 50, 3) := by decide +kernel
theorem dL_law_355 : decode cL_law 355 = .ok (.if_icmp .eq 393, 3) := by decide +kernel
theorem dL_law_358 : decode cL_law 358 = .ok (.iconst 0, 1) := by decide +kernel
theorem dL_law_359 : decode cL_law 359 = .ok (.ireturn, 1) := by decide +kernel
theorem dL_law_360 : decode cL_law 360 = .ok (.aload_n 1, 1) := by decide +kernel
theorem dL_law_361 : decode cL_law 361 = .ok (.aload_n 0, 1) := by decide +kernel
theorem dL_law_362 : decode cL_law 362 = .ok (.iload_n 3, 1) := by decide +kernel
theorem dL_law_363 : decode cL_law 363 = .ok (.iconst 1, 1) := by decide +kernel
theorem dL_law_364 : decode cL_law 364 = .ok (.iadd, 1) := by decide +kernel
theorem dL_law_365 : decode cL_law 365 = .ok (.iaload, 1) := by decide +kernel
theorem dL_law_366 : decode cL_law 366 = .ok (.aload_n 0, 1) := by decide +kernel
theorem dL_law_367 : decode cL_law 367 = .ok (.iload_n 3, 1) := by decide +kernel
theorem dL_law_368 : decode cL_law 368 = .ok (.iconst 2, 1) := by decide +kernel
theorem dL_law_369 : decode cL_law 369 = .ok (.iadd, 1) := by decide +kernel
theorem dL_law_370 : decode cL_law 370 = .ok (.iaload, 1) := by decide +kernel
theorem dL_law_371 : decode cL_law 371 = .ok (.invokevirtual 51, 3) := by decide +kernel
theorem dL_law_374 : decode cL_law 374 = .ok (.aload_n 2, 1) := by decide +kernel
theorem dL_law_375 : decode cL_law 375 = .ok (.aload_n 0, 1) := by decide +kernel
theorem dL_law_376 : decode cL_law 376 = .ok (.iload_n 3, 1) := by decide +kernel
theorem dL_law_377 : decode cL_law 377 = .ok (.iconst 1, 1) := by decide +kernel
theorem dL_law_378 : decode cL_law 378 = .ok (.iadd, 1) := by decide +kernel
theorem dL_law_379 : decode cL_law 379 = .ok (.iaload, 1) := by decide +kernel
theorem dL_law_380 : decode cL_law 380 = .ok (.aload_n 0, 1) := by decide +kernel
theorem dL_law_381 : decode cL_law 381 = .ok (.iload_n 3, 1) := by decide +kernel
theorem dL_law_382 : decode cL_law 382 = .ok (.iconst 2, 1) := by decide +kernel
theorem dL_law_383 : decode cL_law 383 = .ok (.iadd, 1) := by decide +kernel
theorem dL_law_384 : decode cL_law 384 = .ok (.iaload, 1) := by decide +kernel
theorem dL_law_385 : decode cL_law 385 = .ok (.invokevirtual 54, 3) := by decide +kernel
theorem dL_law_388 : decode cL_law 388 = .ok (.if_icmp .eq 360, 3) := by decide +kernel
theorem dL_law_391 : decode cL_law 391 = .ok (.iconst 0, 1) := by decide +kernel
theorem dL_law_392 : decode cL_law 392 = .ok (.ireturn, 1) := by decide +kernel
theorem dL_law_393 : decode cL_law 393 = .ok (.aload_n 1, 1) := by decide +kernel
theorem dL_law_394 : decode cL_law 394 = .ok (.invokevirtual 55, 3) := by decide +kernel
theorem dL_law_397 : decode cL_law 397 = .ok (.aload_n 2, 1) := by decide +kernel
theorem dL_law_398 : decode cL_law 398 = .ok (.invokevirtual 58, 3) := by decide +kernel
theorem dL_law_401 : decode cL_law 401 = .ok (.if_icmp .eq 347, 3) := by decide +kernel
theorem dL_law_404 : decode cL_law 404 = .ok (.iconst 0, 1) := by decide +kernel
theorem dL_law_405 : decode cL_law 405 = .ok (.ireturn, 1) := by decide +kernel
theorem dL_law_406 : decode cL_law 406 = .ok (.aload_n 1, 1) := by decide +kernel
theorem dL_law_407 : decode cL_law 407 = .ok (.aload_n 0, 1) := by decide +kernel
theorem dL_law_408 : decode cL_law 408 = .ok (.iload_n 3, 1) := by decide +kernel
theorem dL_law_409 : decode cL_law 409 = .ok (.iconst 1, 1) := by decide +kernel
theorem dL_law_410 : decode cL_law 410 = .ok (.iadd, 1) := by decide +kernel
theorem dL_law_411 : decode cL_law 411 = .ok (.iaload, 1) := by decide +kernel
theorem dL_law_412 : decode cL_law 412 = .ok (.aload_n 0, 1) := by decide +kernel
theorem dL_law_413 : decode cL_law 413 = .ok (.iload_n 3, 1) := by decide +kernel
theorem dL_law_414 : decode cL_law 414 = .ok (.iconst 2, 1) := by decide +kernel
theorem dL_law_415 : decode cL_law 415 = .ok (.iadd, 1) := by decide +kernel
theorem dL_law_416 : decode cL_law 416 = .ok (.iaload, 1) := by decide +kernel
theorem dL_law_417 : decode cL_law 417 = .ok (.invokevirtual 59, 3) := by decide +kernel
theorem dL_law_420 : decode cL_law 420 = .ok (.aload_n 2, 1) := by decide +kernel
theorem dL_law_421 : decode cL_law 421 = .ok (.aload_n 0, 1) := by decide +kernel
theorem dL_law_422 : decode cL_law 422 = .ok (.iload_n 3, 1) := by decide +kernel
theorem dL_law_423 : decode cL_law 423 = .ok (.iconst 1, 1) := by decide +kernel
theorem dL_law_424 : decode cL_law 424 = .ok (.iadd, 1) := by decide +kernel
theorem dL_law_425 : decode cL_law 425 = .ok (.iaload, 1) := by decide +kernel
theorem dL_law_426 : decode cL_law 426 = .ok (.aload_n 0, 1) := by decide +kernel
theorem dL_law_427 : decode cL_law 427 = .ok (.iload_n 3, 1) := by decide +kernel
theorem dL_law_428 : decode cL_law 428 = .ok (.iconst 2, 1) := by decide +kernel
theorem dL_law_429 : decode cL_law 429 = .ok (.iadd, 1) := by decide +kernel
theorem dL_law_430 : decode cL_law 430 = .ok (.iaload, 1) := by decide +kernel
theorem dL_law_431 : decode cL_law 431 = .ok (.invokevirtual 62, 3) := by decide +kernel
theorem dL_law_434 : decode cL_law 434 = .ok (.if_icmp .eq 314, 3) := by decide +kernel
theorem dL_law_437 : decode cL_law 437 = .ok (.iconst 0, 1) := by decide +kernel
theorem dL_law_438 : decode cL_law 438 = .ok (.ireturn, 1) := by decide +kernel
theorem dL_law_439 : decode cL_law 439 = .ok (.aload_n 1, 1) := by decide +kernel
theorem dL_law_440 : decode cL_law 440 = .ok (.invokevirtual 63, 3) := by decide +kernel
theorem dL_law_443 : decode cL_law 443 = .ok (.aload_n 2, 1) := by decide +kernel
theorem dL_law_444 : decode cL_law 444 = .ok (.invokevirtual 66, 3) := by decide +kernel
theorem dL_law_447 : decode cL_law 447 = .ok (.if_icmp .eq 301, 3) := by decide +kernel
theorem dL_law_450 : decode cL_law 450 = .ok (.iconst 0, 1) := by decide +kernel
theorem dL_law_451 : decode cL_law 451 = .ok (.ireturn, 1) := by decide +kernel
theorem dL_law_452 : decode cL_law 452 = .ok (.aload_n 1, 1) := by decide +kernel
theorem dL_law_453 : decode cL_law 453 = .ok (.aload_n 0, 1) := by decide +kernel
theorem dL_law_454 : decode cL_law 454 = .ok (.iload_n 3, 1) := by decide +kernel
theorem dL_law_455 : decode cL_law 455 = .ok (.iconst 1, 1) := by decide +kernel
theorem dL_law_456 : decode cL_law 456 = .ok (.iadd, 1) := by decide +kernel
theorem dL_law_457 : decode cL_law 457 = .ok (.iaload, 1) := by decide +kernel
theorem dL_law_458 : decode cL_law 458 = .ok (.invokevirtual 67, 3) := by decide +kernel
theorem dL_law_461 : decode cL_law 461 = .ok (.aload_n 2, 1) := by decide +kernel
theorem dL_law_462 : decode cL_law 462 = .ok (.aload_n 0, 1) := by decide +kernel
theorem dL_law_463 : decode cL_law 463 = .ok (.iload_n 3, 1) := by decide +kernel
theorem dL_law_464 : decode cL_law 464 = .ok (.iconst 1, 1) := by decide +kernel
theorem dL_law_465 : decode cL_law 465 = .ok (.iadd, 1) := by decide +kernel
theorem dL_law_466 : decode cL_law 466 = .ok (.iaload, 1) := by decide +kernel
theorem dL_law_467 : decode cL_law 467 = .ok (.invokevirtual 70, 3) := by decide +kernel
theorem dL_law_470 : decode cL_law 470 = .ok (.if_icmp .eq 278, 3) := by decide +kernel
theorem dL_law_473 : decode cL_law 473 = .ok (.iconst 0, 1) := by decide +kernel
theorem dL_law_474 : decode cL_law 474 = .ok (.ireturn, 1) := by decide +kernel
theorem dL_law_475 : decode cL_law 475 = .ok (.aload_n 1, 1) := by decide +kernel
theorem dL_law_476 : decode cL_law 476 = .ok (.invokevirtual 71, 3) := by decide +kernel
theorem dL_law_479 : decode cL_law 479 = .ok (.aload_n 2, 1) := by decide +kernel
theorem dL_law_480 : decode cL_law 480 = .ok (.invokevirtual 74, 3) := by decide +kernel
theorem dL_law_483 : decode cL_law 483 = .ok (.if_icmp .eq 265, 3) := by decide +kernel
theorem dL_law_486 : decode cL_law 486 = .ok (.iconst 0, 1) := by decide +kernel
theorem dL_law_487 : decode cL_law 487 = .ok (.ireturn, 1) := by decide +kernel
theorem dL_law_488 : decode cL_law 488 = .ok (.aload_n 1, 1) := by decide +kernel
theorem dL_law_489 : decode cL_law 489 = .ok (.invokevirtual 75, 3) := by decide +kernel
theorem dL_law_492 : decode cL_law 492 = .ok (.aload_n 2, 1) := by decide +kernel
theorem dL_law_493 : decode cL_law 493 = .ok (.invokevirtual 78, 3) := by decide +kernel
theorem dL_law_496 : decode cL_law 496 = .ok (.if_icmp .eq 252, 3) := by decide +kernel
theorem dL_law_499 : decode cL_law 499 = .ok (.iconst 0, 1) := by decide +kernel
theorem dL_law_500 : decode cL_law 500 = .ok (.ireturn, 1) := by decide +kernel
theorem dL_law_501 : decode cL_law 501 = .ok (.aload_n 1, 1) := by decide +kernel
theorem dL_law_502 : decode cL_law 502 = .ok (.invokevirtual 79, 3) := by decide +kernel
theorem dL_law_505 : decode cL_law 505 = .ok (.aload_n 2, 1) := by decide +kernel
theorem dL_law_506 : decode cL_law 506 = .ok (.invokevirtual 82, 3) := by decide +kernel
theorem dL_law_509 : decode cL_law 509 = .ok (.if_icmp .eq 239, 3) := by decide +kernel
theorem dL_law_512 : decode cL_law 512 = .ok (.iconst 0, 1) := by decide +kernel
theorem dL_law_513 : decode cL_law 513 = .ok (.ireturn, 1) := by decide +kernel
theorem dL_law_514 : decode cL_law 514 = .ok (.aload_n 1, 1) := by decide +kernel
theorem dL_law_515 : decode cL_law 515 = .ok (.invokevirtual 83, 3) := by decide +kernel
theorem dL_law_518 : decode cL_law 518 = .ok (.aload_n 2, 1) := by decide +kernel
theorem dL_law_519 : decode cL_law 519 = .ok (.invokevirtual 86, 3) := by decide +kernel
theorem dL_law_522 : decode cL_law 522 = .ok (.if_icmp .eq 226, 3) := by decide +kernel
theorem dL_law_525 : decode cL_law 525 = .ok (.iconst 0, 1) := by decide +kernel
theorem dL_law_526 : decode cL_law 526 = .ok (.ireturn, 1) := by decide +kernel
theorem dL_law_527 : decode cL_law 527 = .ok (.aload_n 1, 1) := by decide +kernel
theorem dL_law_528 : decode cL_law 528 = .ok (.invokevirtual 87, 3) := by decide +kernel
theorem dL_law_531 : decode cL_law 531 = .ok (.aload_n 2, 1) := by decide +kernel
theorem dL_law_532 : decode cL_law 532 = .ok (.invokevirtual 90, 3) := by decide +kernel
theorem dL_law_535 : decode cL_law 535 = .ok (.if_icmp .eq 213, 3) := by decide +kernel
theorem dL_law_538 : decode cL_law 538 = .ok (.iconst 0, 1) := by decide +kernel
theorem dL_law_539 : decode cL_law 539 = .ok (.ireturn, 1) := by decide +kernel
theorem dL_law_540 : decode cL_law 540 = .ok (.aload_n 1, 1) := by decide +kernel
theorem dL_law_541 : decode cL_law 541 = .ok (.aload_n 0, 1) := by decide +kernel
theorem dL_law_542 : decode cL_law 542 = .ok (.iload_n 3, 1) := by decide +kernel
theorem dL_law_543 : decode cL_law 543 = .ok (.iconst 1, 1) := by decide +kernel
theorem dL_law_544 : decode cL_law 544 = .ok (.iadd, 1) := by decide +kernel
theorem dL_law_545 : decode cL_law 545 = .ok (.iaload, 1) := by decide +kernel
theorem dL_law_546 : decode cL_law 546 = .ok (.invokevirtual 91, 3) := by decide +kernel
theorem dL_law_549 : decode cL_law 549 = .ok (.aload_n 2, 1) := by decide +kernel
theorem dL_law_550 : decode cL_law 550 = .ok (.aload_n 0, 1) := by decide +kernel
theorem dL_law_551 : decode cL_law 551 = .ok (.iload_n 3, 1) := by decide +kernel
theorem dL_law_552 : decode cL_law 552 = .ok (.iconst 1, 1) := by decide +kernel
theorem dL_law_553 : decode cL_law 553 = .ok (.iadd, 1) := by decide +kernel
theorem dL_law_554 : decode cL_law 554 = .ok (.iaload, 1) := by decide +kernel
theorem dL_law_555 : decode cL_law 555 = .ok (.invokevirtual 94, 3) := by decide +kernel
theorem dL_law_558 : decode cL_law 558 = .ok (.if_icmp .eq 190, 3) := by decide +kernel
theorem dL_law_561 : decode cL_law 561 = .ok (.iconst 0, 1) := by decide +kernel
theorem dL_law_562 : decode cL_law 562 = .ok (.ireturn, 1) := by decide +kernel
theorem dL_law_563 : decode cL_law 563 = .ok (.aload_n 1, 1) := by decide +kernel
theorem dL_law_564 : decode cL_law 564 = .ok (.aload_n 0, 1) := by decide +kernel
theorem dL_law_565 : decode cL_law 565 = .ok (.iload_n 3, 1) := by decide +kernel
theorem dL_law_566 : decode cL_law 566 = .ok (.iconst 1, 1) := by decide +kernel
theorem dL_law_567 : decode cL_law 567 = .ok (.iadd, 1) := by decide +kernel
theorem dL_law_568 : decode cL_law 568 = .ok (.iaload, 1) := by decide +kernel
theorem dL_law_569 : decode cL_law 569 = .ok (.invokevirtual 95, 3) := by decide +kernel
theorem dL_law_572 : decode cL_law 572 = .ok (.aload_n 2, 1) := by decide +kernel
theorem dL_law_573 : decode cL_law 573 = .ok (.aload_n 0, 1) := by decide +kernel
theorem dL_law_574 : decode cL_law 574 = .ok (.iload_n 3, 1) := by decide +kernel
theorem dL_law_575 : decode cL_law 575 = .ok (.iconst 1, 1) := by decide +kernel
theorem dL_law_576 : decode cL_law 576 = .ok (.iadd, 1) := by decide +kernel
theorem dL_law_577 : decode cL_law 577 = .ok (.iaload, 1) := by decide +kernel
theorem dL_law_578 : decode cL_law 578 = .ok (.invokevirtual 98, 3) := by decide +kernel
theorem dL_law_581 : decode cL_law 581 = .ok (.if_icmp .eq 167, 3) := by decide +kernel
theorem dL_law_584 : decode cL_law 584 = .ok (.iconst 0, 1) := by decide +kernel
theorem dL_law_585 : decode cL_law 585 = .ok (.ireturn, 1) := by decide +kernel
theorem dL_law_586 : decode cL_law 586 = .ok (.aload_n 1, 1) := by decide +kernel
theorem dL_law_587 : decode cL_law 587 = .ok (.aload_n 0, 1) := by decide +kernel
theorem dL_law_588 : decode cL_law 588 = .ok (.iload_n 3, 1) := by decide +kernel
theorem dL_law_589 : decode cL_law 589 = .ok (.iconst 1, 1) := by decide +kernel
theorem dL_law_590 : decode cL_law 590 = .ok (.iadd, 1) := by decide +kernel
theorem dL_law_591 : decode cL_law 591 = .ok (.iaload, 1) := by decide +kernel
theorem dL_law_592 : decode cL_law 592 = .ok (.invokevirtual 99, 3) := by decide +kernel
theorem dL_law_595 : decode cL_law 595 = .ok (.aload_n 2, 1) := by decide +kernel
theorem dL_law_596 : decode cL_law 596 = .ok (.aload_n 0, 1) := by decide +kernel
theorem dL_law_597 : decode cL_law 597 = .ok (.iload_n 3, 1) := by decide +kernel
theorem dL_law_598 : decode cL_law 598 = .ok (.iconst 1, 1) := by decide +kernel
theorem dL_law_599 : decode cL_law 599 = .ok (.iadd, 1) := by decide +kernel
theorem dL_law_600 : decode cL_law 600 = .ok (.iaload, 1) := by decide +kernel
theorem dL_law_601 : decode cL_law 601 = .ok (.invokevirtual 102, 3) := by decide +kernel
theorem dL_law_604 : decode cL_law 604 = .ok (.if_icmp .eq 144, 3) := by decide +kernel
theorem dL_law_607 : decode cL_law 607 = .ok (.iconst 0, 1) := by decide +kernel
theorem dL_law_608 : decode cL_law 608 = .ok (.ireturn, 1) := by decide +kernel
theorem dL_law_609 : decode cL_law 609 = .ok (.aload_n 1, 1) := by decide +kernel
theorem dL_law_610 : decode cL_law 610 = .ok (.aload_n 0, 1) := by decide +kernel
theorem dL_law_611 : decode cL_law 611 = .ok (.iload_n 3, 1) := by decide +kernel
theorem dL_law_612 : decode cL_law 612 = .ok (.iconst 1, 1) := by decide +kernel
theorem dL_law_613 : decode cL_law 613 = .ok (.iadd, 1) := by decide +kernel
theorem dL_law_614 : decode cL_law 614 = .ok (.iaload, 1) := by decide +kernel
theorem dL_law_615 : decode cL_law 615 = .ok (.aload_n 0, 1) := by decide +kernel
theorem dL_law_616 : decode cL_law 616 = .ok (.iload_n 3, 1) := by decide +kernel
theorem dL_law_617 : decode cL_law 617 = .ok (.iconst 2, 1) := by decide +kernel
theorem dL_law_618 : decode cL_law 618 = .ok (.iadd, 1) := by decide +kernel
theorem dL_law_619 : decode cL_law 619 = .ok (.iaload, 1) := by decide +kernel
theorem dL_law_620 : decode cL_law 620 = .ok (.invokevirtual 103, 3) := by decide +kernel
theorem dL_law_623 : decode cL_law 623 = .ok (.aload_n 2, 1) := by decide +kernel
theorem dL_law_624 : decode cL_law 624 = .ok (.aload_n 0, 1) := by decide +kernel
theorem dL_law_625 : decode cL_law 625 = .ok (.iload_n 3, 1) := by decide +kernel
theorem dL_law_626 : decode cL_law 626 = .ok (.iconst 1, 1) := by decide +kernel
theorem dL_law_627 : decode cL_law 627 = .ok (.iadd, 1) := by decide +kernel
theorem dL_law_628 : decode cL_law 628 = .ok (.iaload, 1) := by decide +kernel
theorem dL_law_629 : decode cL_law 629 = .ok (.aload_n 0, 1) := by decide +kernel
theorem dL_law_630 : decode cL_law 630 = .ok (.iload_n 3, 1) := by decide +kernel
theorem dL_law_631 : decode cL_law 631 = .ok (.iconst 2, 1) := by decide +kernel
theorem dL_law_632 : decode cL_law 632 = .ok (.iadd, 1) := by decide +kernel
theorem dL_law_633 : decode cL_law 633 = .ok (.iaload, 1) := by decide +kernel
theorem dL_law_634 : decode cL_law 634 = .ok (.invokevirtual 106, 3) := by decide +kernel
theorem dL_law_637 : decode cL_law 637 = .ok (.if_icmp .eq 111, 3) := by decide +kernel
theorem dL_law_640 : decode cL_law 640 = .ok (.iconst 0, 1) := by decide +kernel
theorem dL_law_641 : decode cL_law 641 = .ok (.ireturn, 1) := by decide +kernel
theorem dL_law_642 : decode cL_law 642 = .ok (.aload_n 1, 1) := by decide +kernel
theorem dL_law_643 : decode cL_law 643 = .ok (.aload_n 0, 1) := by decide +kernel
theorem dL_law_644 : decode cL_law 644 = .ok (.iload_n 3, 1) := by decide +kernel
theorem dL_law_645 : decode cL_law 645 = .ok (.iconst 1, 1) := by decide +kernel
theorem dL_law_646 : decode cL_law 646 = .ok (.iadd, 1) := by decide +kernel
theorem dL_law_647 : decode cL_law 647 = .ok (.iaload, 1) := by decide +kernel
theorem dL_law_648 : decode cL_law 648 = .ok (.aload_n 0, 1) := by decide +kernel
theorem dL_law_649 : decode cL_law 649 = .ok (.iload_n 3, 1) := by decide +kernel
theorem dL_law_650 : decode cL_law 650 = .ok (.iconst 2, 1) := by decide +kernel
theorem dL_law_651 : decode cL_law 651 = .ok (.iadd, 1) := by decide +kernel
theorem dL_law_652 : decode cL_law 652 = .ok (.iaload, 1) := by decide +kernel
theorem dL_law_653 : decode cL_law 653 = .ok (.aload_n 0, 1) := by decide +kernel
theorem dL_law_654 : decode cL_law 654 = .ok (.iload_n 3, 1) := by decide +kernel
theorem dL_law_655 : decode cL_law 655 = .ok (.iconst 3, 1) := by decide +kernel
theorem dL_law_656 : decode cL_law 656 = .ok (.iadd, 1) := by decide +kernel
theorem dL_law_657 : decode cL_law 657 = .ok (.iaload, 1) := by decide +kernel
theorem dL_law_658 : decode cL_law 658 = .ok (.invokevirtual 107, 3) := by decide +kernel
theorem dL_law_661 : decode cL_law 661 = .ok (.aload_n 2, 1) := by decide +kernel
theorem dL_law_662 : decode cL_law 662 = .ok (.aload_n 0, 1) := by decide +kernel
theorem dL_law_663 : decode cL_law 663 = .ok (.iload_n 3, 1) := by decide +kernel
theorem dL_law_664 : decode cL_law 664 = .ok (.iconst 1, 1) := by decide +kernel
theorem dL_law_665 : decode cL_law 665 = .ok (.iadd, 1) := by decide +kernel
theorem dL_law_666 : decode cL_law 666 = .ok (.iaload, 1) := by decide +kernel
theorem dL_law_667 : decode cL_law 667 = .ok (.aload_n 0, 1) := by decide +kernel
theorem dL_law_668 : decode cL_law 668 = .ok (.iload_n 3, 1) := by decide +kernel
theorem dL_law_669 : decode cL_law 669 = .ok (.iconst 2, 1) := by decide +kernel
theorem dL_law_670 : decode cL_law 670 = .ok (.iadd, 1) := by decide +kernel
theorem dL_law_671 : decode cL_law 671 = .ok (.iaload, 1) := by decide +kernel
theorem dL_law_672 : decode cL_law 672 = .ok (.aload_n 0, 1) := by decide +kernel
theorem dL_law_673 : decode cL_law 673 = .ok (.iload_n 3, 1) := by decide +kernel
theorem dL_law_674 : decode cL_law 674 = .ok (.iconst 3, 1) := by decide +kernel
theorem dL_law_675 : decode cL_law 675 = .ok (.iadd, 1) := by decide +kernel
theorem dL_law_676 : decode cL_law 676 = .ok (.iaload, 1) := by decide +kernel
theorem dL_law_677 : decode cL_law 677 = .ok (.invokevirtual 111, 3) := by decide +kernel
theorem dL_law_680 : decode cL_law 680 = .ok (.if_icmp .eq 68, 3) := by decide +kernel
theorem dL_law_683 : decode cL_law 683 = .ok (.iconst 0, 1) := by decide +kernel
theorem dL_law_684 : decode cL_law 684 = .ok (.ireturn, 1) := by decide +kernel
theorem dL_law_685 : decode cL_law 685 = .ok (.aload_n 1, 1) := by decide +kernel
theorem dL_law_686 : decode cL_law 686 = .ok (.invokevirtual 112, 3) := by decide +kernel
theorem dL_law_689 : decode cL_law 689 = .ok (.aload_n 2, 1) := by decide +kernel
theorem dL_law_690 : decode cL_law 690 = .ok (.invokevirtual 115, 3) := by decide +kernel
theorem dL_law_693 : decode cL_law 693 = .ok (.if_icmp .eq 55, 3) := by decide +kernel
theorem dL_law_696 : decode cL_law 696 = .ok (.iconst 0, 1) := by decide +kernel
theorem dL_law_697 : decode cL_law 697 = .ok (.ireturn, 1) := by decide +kernel
theorem dL_law_698 : decode cL_law 698 = .ok (.aload_n 1, 1) := by decide +kernel
theorem dL_law_699 : decode cL_law 699 = .ok (.invokevirtual 116, 3) := by decide +kernel
theorem dL_law_702 : decode cL_law 702 = .ok (.aload_n 2, 1) := by decide +kernel
theorem dL_law_703 : decode cL_law 703 = .ok (.invokevirtual 119, 3) := by decide +kernel
theorem dL_law_706 : decode cL_law 706 = .ok (.if_icmp .eq 42, 3) := by decide +kernel
theorem dL_law_709 : decode cL_law 709 = .ok (.iconst 0, 1) := by decide +kernel
theorem dL_law_710 : decode cL_law 710 = .ok (.ireturn, 1) := by decide +kernel
theorem dL_law_711 : decode cL_law 711 = .ok (.aload_n 1, 1) := by decide +kernel
theorem dL_law_712 : decode cL_law 712 = .ok (.aload_n 0, 1) := by decide +kernel
theorem dL_law_713 : decode cL_law 713 = .ok (.iload_n 3, 1) := by decide +kernel
theorem dL_law_714 : decode cL_law 714 = .ok (.iconst 1, 1) := by decide +kernel
theorem dL_law_715 : decode cL_law 715 = .ok (.iadd, 1) := by decide +kernel
theorem dL_law_716 : decode cL_law 716 = .ok (.iaload, 1) := by decide +kernel
theorem dL_law_717 : decode cL_law 717 = .ok (.invokevirtual 120, 3) := by decide +kernel
theorem dL_law_720 : decode cL_law 720 = .ok (.aload_n 2, 1) := by decide +kernel
theorem dL_law_721 : decode cL_law 721 = .ok (.aload_n 0, 1) := by decide +kernel
theorem dL_law_722 : decode cL_law 722 = .ok (.iload_n 3, 1) := by decide +kernel
theorem dL_law_723 : decode cL_law 723 = .ok (.iconst 1, 1) := by decide +kernel
theorem dL_law_724 : decode cL_law 724 = .ok (.iadd, 1) := by decide +kernel
theorem dL_law_725 : decode cL_law 725 = .ok (.iaload, 1) := by decide +kernel
theorem dL_law_726 : decode cL_law 726 = .ok (.invokevirtual 123, 3) := by decide +kernel
theorem dL_law_729 : decode cL_law 729 = .ok (.if_icmp .eq 19, 3) := by decide +kernel
theorem dL_law_732 : decode cL_law 732 = .ok (.iconst 0, 1) := by decide +kernel
theorem dL_law_733 : decode cL_law 733 = .ok (.ireturn, 1) := by decide +kernel
theorem dL_law_734 : decode cL_law 734 = .ok (.aload_n 1, 1) := by decide +kernel
theorem dL_law_735 : decode cL_law 735 = .ok (.invokevirtual 124, 3) := by decide +kernel
theorem dL_law_738 : decode cL_law 738 = .ok (.aload_n 2, 1) := by decide +kernel
theorem dL_law_739 : decode cL_law 739 = .ok (.invokevirtual 128, 3) := by decide +kernel
theorem dL_law_742 : decode cL_law 742 = .ok (.lcmp, 1) := by decide +kernel
theorem dL_law_743 : decode cL_law 743 = .ok (.ifCond .eq 5, 3) := by decide +kernel
theorem dL_law_746 : decode cL_law 746 = .ok (.iconst 0, 1) := by decide +kernel
theorem dL_law_747 : decode cL_law 747 = .ok (.ireturn, 1) := by decide +kernel
theorem dL_law_748 : decode cL_law 748 = .ok (.iinc 3 4, 3) := by decide +kernel
theorem dL_law_751 : decode cL_law 751 = .ok (.goto (-733), 3) := by decide +kernel
theorem dL_law_754 : decode cL_law 754 = .ok (.iconst 1, 1) := by decide +kernel
theorem dL_law_755 : decode cL_law 755 = .ok (.ireturn, 1) := by decide +kernel
end
section
/-! ===== the layer: J, a frame over a world of known cells ===== -/
abbrev En : Type := va_G × ClassId × ClassId × ClassId
abbrev Cy : Type := Program × Env × State × MethodId × Array Value × List Frame × Method × Code × (Nat → Prop) × (State → Prop) × Nat × Nat × Nat
abbrev yp (Y : Cy) : Program := Y.1
abbrev ye (Y : Cy) : Env := Y.2.1
abbrev ys (Y : Cy) : State := Y.2.2.1
abbrev ym (Y : Cy) : MethodId := Y.2.2.2.1
abbrev ya (Y : Cy) : Array Value := Y.2.2.2.2.1
abbrev yb (Y : Cy) : List Frame := Y.2.2.2.2.2.1
abbrev yt (Y : Cy) : Method := Y.2.2.2.2.2.2.1
abbrev yc (Y : Cy) : Code := Y.2.2.2.2.2.2.2.1
abbrev yA (Y : Cy) : Nat → Prop := Y.2.2.2.2.2.2.2.2.1
abbrev yQ (Y : Cy) : State → Prop := Y.2.2.2.2.2.2.2.2.2.1
abbrev yN (Y : Cy) : Nat := Y.2.2.2.2.2.2.2.2.2.2.1
abbrev yk (Y : Cy) : Nat := Y.2.2.2.2.2.2.2.2.2.2.2.1
abbrev yn (Y : Cy) : Nat := Y.2.2.2.2.2.2.2.2.2.2.2.2
def ety (E : En) : List (ClassId × FieldType) := [(E.2.1, .int), (E.2.2.1, .byte), (E.2.2.2, .long)]
abbrev ob (q : Nat) (ci : Nat) (fs : List Value) : Nat × va_E := (q, .inr (ci, fs))
abbrev ia (E : En) (q n : Nat) (f : Nat → Int32) : Nat × va_E := (q, .inl (E.2.1, n, .inl f))
abbrev ba (E : En) (q n : Nat) (f : Nat → Int32) : Nat × va_E := (q, .inl (E.2.2.1, n, .inl f))
abbrev ja (E : En) (q n : Nat) (f : Nat → Int64) : Nat × va_E := (q, .inl (E.2.2.2, n, .inr (.inl f)))
def Nst (U : State) : Prop := (∀ q ∈ nestF, va_Nw (.fieldLinkNest q.1 q.2.1 q.2.2.1 q.2.2.2.1 q.2.2.2.2.1 q.2.2.2.2.2) U) ∧ ∀ q ∈ nestM, va_Nw (.methodLinkNest q.1 q.2.1 q.2.2.1 q.2.2.2) U
theorem Nst.warm {s U : State} (hW : s.WarmedH U.vm) (h : Nst s) : Nst U := ⟨fun q hq => va_Nw.warmF hW (h.1 q hq), fun q hq => va_Nw.warmM hW (h.2 q hq)⟩
theorem Nst.same {s U : State} (hv : s.vm = U.vm) (h : Nst s) : Nst U := ⟨fun q hq => va_Nw.same rfl hv (h.1 q hq), fun q hq => va_Nw.same rfl hv (h.2 q hq)⟩
def J (l : Launch) (E : En) (R : Room) (Y : Cy) (ws : va_W) (pc : Nat) (lv : List (Nat × Value)) (st : List Value) : Prop :=
  ∀ (H : Heap) (locs : List Loc) (ls : Array Slot), va_P E.1 vwCl ws H → va_D (yA Y) ws → va_S (yA Y) (ys Y).heap H locs → lv_has ls (yN Y) lv → W (yp Y) l (ye Y) R (ys Y) (ym Y) (ya Y) (yb Y) (yt Y) (yc Y) H locs (yk Y) (yn Y) (yQ Y) (F0 (ym Y) pc ls st)
/-- what a method's body stands on -/
def Cb (E : En) (cc : ByteArray) (own : String) (R : Room) (nL : Nat) (Y : Cy) : Prop :=
  (yp Y).tables.exec = Jvm.exec ∧ (yc Y).code = cc ∧ (yc Y).maxLocals = yN Y ∧ (ys Y).vm.findClass own = some (ym Y).cls ∧ (∀ w ∈ bigW, w.before (ya Y) (ys Y) = true) ∧ va_K E.1 vwCl (ety E) (ys Y) ∧ Nst (ys Y) ∧ (∀ q : Nat, (ys Y).heap.size ≤ q → yA Y q) ∧ (yk Y ≤ R.cells ∧ yn Y ≤ R.slots) ∧ yN Y = nL
def Qo (E : En) (r : Option Value) (w' : va_W) (A : Nat → Prop) : Array Value → State → Outcome → State → Prop := fun _ st oc t => oc = .returned r ∧ va_P E.1 vwCl w' t.heap ∧ va_D A w' ∧ va_F A st t
def Pp (E : En) (av : List Value) (w : va_W) (sz : Nat) : Array Value → State → Prop := va_Pc av (fun U => U.heap.size = sz ∧ va_P E.1 vwCl w U.heap ∧ va_K E.1 vwCl (ety E) U ∧ va_D (fun _ => True) w ∧ Nst U)
/-- a contract: from the world w with the arguments av the method returns r and leaves the world w' -/
def Ct (l : Launch) (y : MethodName) (cd : Cond) (rm : Room) (E : En) (av : List Value) (w : va_W) (r : Option Value) (w' : va_W) : Prop :=
  ∀ sz : Nat, Met l y (cd :: bigW) rm (Pp E av w sz) (Qo E r w' (va_A w sz)) 0 0 (va_A w sz)
def Cr (E : En) (ret : Option FieldType) (r : Option Value) (w' : va_W) (Y : Cy) : Prop :=
  (yt Y).sig.returnType = ret ∧ (yt Y).locks = false ∧ yk Y = 0 ∧ yn Y = 0 ∧ yQ Y = MQ (yb Y) (Qo E r w' (yA Y)) (ya Y) (ys Y) 0 0 (yA Y)
theorem Pp.blind {E : En} {av : List Value} {w : va_W} {sz : Nat} : FrameBlind (Pp E av w sz) := by
  intro a U g mk h
  obtain ⟨q0, q1, qP, qK, qD, qN⟩ := h
  exact ⟨q0, q1, qP, va_K.moved (u := U) (U := U.calling g mk a) (Vm.Alike.refl U.vm) qK, qD, qN.same rfl⟩
theorem Ct.of {l : Launch} {y : MethodName} {cc : ByteArray} {maxL : Nat} {ret : Option FieldType} {rm : Room} {E : En} {av : List Value} {w : va_W} {r : Option Value} {w' : va_W} (hy : plainName y.cls = true) (hlen : (lg_sl av).length ≤ maxL)
    (body : ∀ Y : Cy, Cb E cc y.cls rm maxL Y → Cr E ret r w' Y → J l E rm Y w 0 (lv_args 0 av) []) : Ct l y (.code y cc maxL ret) rm E av w r w' := by
  intro sz
  refine Met.ofW (cc := cc) (maxL := maxL) (ret := ret) hy rfl ?_
  intro p e s m args below meth c s₁ B hml hv
  obtain ⟨rfl, hsz, hP, hK, hD0, hN⟩ := hv
  have hts := atoms_spec (ws := Cond.code y cc maxL ret :: bigW) B.pre
  have hown : s.vm.findClass y.cls = some m.cls := findClass_of_methodNamed B.named
  subst hsz
  rw [lg_entry_eq]
  have b0 := body (p, e, s, m, av.toArray, below, meth, c, va_A w s.heap.size, MQ below (Qo E r w' (va_A w s.heap.size)) av.toArray s 0 0 (va_A w s.heap.size), maxL, 0, 0)
    ⟨B.exec, B.bytes, hml, hown, fun w h => hts w (List.mem_cons_of_mem _ h), hK, hN, fun q h => Or.inr h, ⟨Nat.zero_le _, Nat.zero_le _⟩, rfl⟩
    ⟨B.returns, B.notSynchronized, rfl, rfl, rfl⟩
  exact b0 s.heap [] _ hP hD0.self va_S.rf (lv_entry av hlen)
section LY
variable {l : Launch} {E : En} {cc : ByteArray} {own : String} {R : Room} {nL : Nat} {Y : Cy} {ws ws' : va_W} {pc : Nat} {lv lv' : List (Nat × Value)} {st : List Value}
theorem J_lv (ks : List Nat) (h : lv_pick lv ks = lv') (k : J l E R Y ws pc lv' st) : J l E R Y ws pc lv st := fun H locs ls hP hD hS hl => k H locs ls hP hD hS (lv_sub hl ks h)
theorem J_pc {pc' : Nat} (h : pc = pc') (k : J l E R Y ws pc' lv st) : J l E R Y ws pc lv st := h ▸ k
theorem J_iconst (hB : Cb E cc own R nL Y) {n : Int} {v : Int32} (hd : decode cc pc = .ok (.iconst n, 1)) (hv : Int32.ofInt n = v) (k : J l E R Y ws (pc + 1) lv (.int v :: st)) : J l E R Y ws pc lv st := fun H locs ls hP hD hS hl => lv_iconst hB.1 hB.2.1 hd hv (k H locs ls hP hD hS hl)
theorem J_bipush (hB : Cb E cc own R nL Y) {n : Int} {v : Int32} (hd : decode cc pc = .ok (.bipush n, 2)) (hv : (Int8.ofInt n).toInt32 = v) (k : J l E R Y ws (pc + 2) lv (.int v :: st)) : J l E R Y ws pc lv st := fun H locs ls hP hD hS hl => lv_bipush hB.1 hB.2.1 hd hv (k H locs ls hP hD hS hl)
theorem J_sipush (hB : Cb E cc own R nL Y) {n : Int} {v : Int32} (hd : decode cc pc = .ok (.sipush n, 3)) (hv : (Int16.ofInt n).toInt32 = v) (k : J l E R Y ws (pc + 3) lv (.int v :: st)) : J l E R Y ws pc lv st := fun H locs ls hP hD hS hl => lv_sipush hB.1 hB.2.1 hd hv (k H locs ls hP hD hS hl)
theorem J_lconst (hB : Cb E cc own R nL Y) {n : Fin 2} {v : Int64} (hd : decode cc pc = .ok (.lconst n, 1)) (hv : Int64.ofNat n.val = v) (k : J l E R Y ws (pc + 1) lv (.long v :: st)) : J l E R Y ws pc lv st := fun H locs ls hP hD hS hl => lv_lconst hB.1 hB.2.1 hd hv (k H locs ls hP hD hS hl)
theorem J_iadd (hB : Cb E cc own R nL Y) {x y : Int32} (hd : decode cc pc = .ok (.iadd, 1))  (k : J l E R Y ws (pc + 1) lv (.int (x + y) :: st)) : J l E R Y ws pc lv (.int y :: .int x :: st) := fun H locs ls hP hD hS hl => lv_iadd hB.1 hB.2.1 hd  (k H locs ls hP hD hS hl)
theorem J_isub (hB : Cb E cc own R nL Y) {x y : Int32} (hd : decode cc pc = .ok (.isub, 1))  (k : J l E R Y ws (pc + 1) lv (.int (x - y) :: st)) : J l E R Y ws pc lv (.int y :: .int x :: st) := fun H locs ls hP hD hS hl => lv_isub hB.1 hB.2.1 hd  (k H locs ls hP hD hS hl)
theorem J_imul (hB : Cb E cc own R nL Y) {x y : Int32} (hd : decode cc pc = .ok (.imul, 1))  (k : J l E R Y ws (pc + 1) lv (.int (x * y) :: st)) : J l E R Y ws pc lv (.int y :: .int x :: st) := fun H locs ls hP hD hS hl => lv_imul hB.1 hB.2.1 hd  (k H locs ls hP hD hS hl)
theorem J_iand (hB : Cb E cc own R nL Y) {x y : Int32} (hd : decode cc pc = .ok (.iand, 1))  (k : J l E R Y ws (pc + 1) lv (.int (x &&& y) :: st)) : J l E R Y ws pc lv (.int y :: .int x :: st) := fun H locs ls hP hD hS hl => lv_iand hB.1 hB.2.1 hd  (k H locs ls hP hD hS hl)
theorem J_ior (hB : Cb E cc own R nL Y) {x y : Int32} (hd : decode cc pc = .ok (.ior, 1))  (k : J l E R Y ws (pc + 1) lv (.int (x ||| y) :: st)) : J l E R Y ws pc lv (.int y :: .int x :: st) := fun H locs ls hP hD hS hl => lv_ior hB.1 hB.2.1 hd  (k H locs ls hP hD hS hl)
theorem J_ixor (hB : Cb E cc own R nL Y) {x y : Int32} (hd : decode cc pc = .ok (.ixor, 1))  (k : J l E R Y ws (pc + 1) lv (.int (x ^^^ y) :: st)) : J l E R Y ws pc lv (.int y :: .int x :: st) := fun H locs ls hP hD hS hl => lv_ixor hB.1 hB.2.1 hd  (k H locs ls hP hD hS hl)
theorem J_ishl (hB : Cb E cc own R nL Y) {x y : Int32} (hd : decode cc pc = .ok (.ishl, 1))  (k : J l E R Y ws (pc + 1) lv (.int (x <<< (y &&& 31)) :: st)) : J l E R Y ws pc lv (.int y :: .int x :: st) := fun H locs ls hP hD hS hl => lv_ishl hB.1 hB.2.1 hd  (k H locs ls hP hD hS hl)
theorem J_ishr (hB : Cb E cc own R nL Y) {x y : Int32} (hd : decode cc pc = .ok (.ishr, 1))  (k : J l E R Y ws (pc + 1) lv (.int (x >>> (y &&& 31)) :: st)) : J l E R Y ws pc lv (.int y :: .int x :: st) := fun H locs ls hP hD hS hl => lv_ishr hB.1 hB.2.1 hd  (k H locs ls hP hD hS hl)
theorem J_iushr (hB : Cb E cc own R nL Y) {x y : Int32} (hd : decode cc pc = .ok (.iushr, 1))  (k : J l E R Y ws (pc + 1) lv (.int ((x.toUInt32 >>> (y.toUInt32 &&& Int32.toUInt32 31)).toInt32) :: st)) : J l E R Y ws pc lv (.int y :: .int x :: st) := fun H locs ls hP hD hS hl => lv_iushr hB.1 hB.2.1 hd rfl (k H locs ls hP hD hS hl)
theorem J_ineg (hB : Cb E cc own R nL Y) {x : Int32} (hd : decode cc pc = .ok (.ineg, 1))  (k : J l E R Y ws (pc + 1) lv (.int (-x) :: st)) : J l E R Y ws pc lv (.int x :: st) := fun H locs ls hP hD hS hl => lv_ineg hB.1 hB.2.1 hd  (k H locs ls hP hD hS hl)
theorem J_ladd (hB : Cb E cc own R nL Y) {x y : Int64} (hd : decode cc pc = .ok (.ladd, 1))  (k : J l E R Y ws (pc + 1) lv (.long (x + y) :: st)) : J l E R Y ws pc lv (.long y :: .long x :: st) := fun H locs ls hP hD hS hl => lv_ladd hB.1 hB.2.1 hd  (k H locs ls hP hD hS hl)
theorem J_lsub (hB : Cb E cc own R nL Y) {x y : Int64} (hd : decode cc pc = .ok (.lsub, 1))  (k : J l E R Y ws (pc + 1) lv (.long (x - y) :: st)) : J l E R Y ws pc lv (.long y :: .long x :: st) := fun H locs ls hP hD hS hl => lv_lsub hB.1 hB.2.1 hd  (k H locs ls hP hD hS hl)
theorem J_lmul (hB : Cb E cc own R nL Y) {x y : Int64} (hd : decode cc pc = .ok (.lmul, 1))  (k : J l E R Y ws (pc + 1) lv (.long (x * y) :: st)) : J l E R Y ws pc lv (.long y :: .long x :: st) := fun H locs ls hP hD hS hl => lv_lmul hB.1 hB.2.1 hd  (k H locs ls hP hD hS hl)
theorem J_land (hB : Cb E cc own R nL Y) {x y : Int64} (hd : decode cc pc = .ok (.land, 1))  (k : J l E R Y ws (pc + 1) lv (.long (x &&& y) :: st)) : J l E R Y ws pc lv (.long y :: .long x :: st) := fun H locs ls hP hD hS hl => lv_land hB.1 hB.2.1 hd  (k H locs ls hP hD hS hl)
theorem J_lor (hB : Cb E cc own R nL Y) {x y : Int64} (hd : decode cc pc = .ok (.lor, 1))  (k : J l E R Y ws (pc + 1) lv (.long (x ||| y) :: st)) : J l E R Y ws pc lv (.long y :: .long x :: st) := fun H locs ls hP hD hS hl => lv_lor hB.1 hB.2.1 hd  (k H locs ls hP hD hS hl)
theorem J_lxor (hB : Cb E cc own R nL Y) {x y : Int64} (hd : decode cc pc = .ok (.lxor, 1))  (k : J l E R Y ws (pc + 1) lv (.long (x ^^^ y) :: st)) : J l E R Y ws pc lv (.long y :: .long x :: st) := fun H locs ls hP hD hS hl => lv_lxor hB.1 hB.2.1 hd  (k H locs ls hP hD hS hl)
theorem J_lneg (hB : Cb E cc own R nL Y) {x : Int64} (hd : decode cc pc = .ok (.lneg, 1))  (k : J l E R Y ws (pc + 1) lv (.long (-x) :: st)) : J l E R Y ws pc lv (.long x :: st) := fun H locs ls hP hD hS hl => lv_lneg hB.1 hB.2.1 hd  (k H locs ls hP hD hS hl)
theorem J_lshl (hB : Cb E cc own R nL Y) {x : Int64} {y : Int32} (hd : decode cc pc = .ok (.lshl, 1))  (k : J l E R Y ws (pc + 1) lv (.long (x <<< (y.toInt64 &&& 63)) :: st)) : J l E R Y ws pc lv (.int y :: .long x :: st) := fun H locs ls hP hD hS hl => lv_lshl hB.1 hB.2.1 hd rfl (k H locs ls hP hD hS hl)
theorem J_lshr (hB : Cb E cc own R nL Y) {x : Int64} {y : Int32} (hd : decode cc pc = .ok (.lshr, 1))  (k : J l E R Y ws (pc + 1) lv (.long (x >>> (y.toInt64 &&& 63)) :: st)) : J l E R Y ws pc lv (.int y :: .long x :: st) := fun H locs ls hP hD hS hl => lv_lshr hB.1 hB.2.1 hd rfl (k H locs ls hP hD hS hl)
theorem J_lushr (hB : Cb E cc own R nL Y) {x : Int64} {y : Int32} (hd : decode cc pc = .ok (.lushr, 1))  (k : J l E R Y ws (pc + 1) lv (.long ((x.toUInt64 >>> (y.toInt64.toUInt64 &&& Int64.toUInt64 63)).toInt64) :: st)) : J l E R Y ws pc lv (.int y :: .long x :: st) := fun H locs ls hP hD hS hl => lv_lushr hB.1 hB.2.1 hd rfl (k H locs ls hP hD hS hl)
theorem J_i2l (hB : Cb E cc own R nL Y) {x : Int32} (hd : decode cc pc = .ok (.i2l, 1))  (k : J l E R Y ws (pc + 1) lv (.long (x.toInt64) :: st)) : J l E R Y ws pc lv (.int x :: st) := fun H locs ls hP hD hS hl => lv_i2l hB.1 hB.2.1 hd rfl (k H locs ls hP hD hS hl)
theorem J_l2i (hB : Cb E cc own R nL Y) {x : Int64} (hd : decode cc pc = .ok (.l2i, 1))  (k : J l E R Y ws (pc + 1) lv (.int (x.toInt32) :: st)) : J l E R Y ws pc lv (.long x :: st) := fun H locs ls hP hD hS hl => lv_l2i hB.1 hB.2.1 hd rfl (k H locs ls hP hD hS hl)
theorem J_i2b (hB : Cb E cc own R nL Y) {x : Int32} (hd : decode cc pc = .ok (.i2b, 1))  (k : J l E R Y ws (pc + 1) lv (.int (x.toInt8.toInt32) :: st)) : J l E R Y ws pc lv (.int x :: st) := fun H locs ls hP hD hS hl => lv_i2b hB.1 hB.2.1 hd rfl (k H locs ls hP hD hS hl)
theorem J_lcmp (hB : Cb E cc own R nL Y) {x y : Int64} (hd : decode cc pc = .ok (.lcmp, 1))  (k : J l E R Y ws (pc + 1) lv (.int (lg_cmp x y) :: st)) : J l E R Y ws pc lv (.long y :: .long x :: st) := fun H locs ls hP hD hS hl => W.lcmp hB.1 hB.2.1 hd  (k H locs ls hP hD hS hl)
theorem J_idiv (hB : Cb E cc own R nL Y) {x y : Int32} (hd : decode cc pc = .ok (.idiv, 1)) (hne : ¬ y = 0) (k : J l E R Y ws (pc + 1) lv (.int (x / y) :: st)) : J l E R Y ws pc lv (.int y :: .int x :: st) := fun H locs ls hP hD hS hl => lv_idiv hB.1 hB.2.1 hd hne (k H locs ls hP hD hS hl)
theorem J_irem (hB : Cb E cc own R nL Y) {x y : Int32} (hd : decode cc pc = .ok (.irem, 1)) (hne : ¬ y = 0) (k : J l E R Y ws (pc + 1) lv (.int (x - x / y * y) :: st)) : J l E R Y ws pc lv (.int y :: .int x :: st) := fun H locs ls hP hD hS hl => lv_irem hB.1 hB.2.1 hd hne (k H locs ls hP hD hS hl)
theorem J_ldiv (hB : Cb E cc own R nL Y) {x y : Int64} (hd : decode cc pc = .ok (.ldiv, 1)) (hne : ¬ y = 0) (k : J l E R Y ws (pc + 1) lv (.long (x / y) :: st)) : J l E R Y ws pc lv (.long y :: .long x :: st) := fun H locs ls hP hD hS hl => lv_ldiv hB.1 hB.2.1 hd hne (k H locs ls hP hD hS hl)
theorem J_lrem (hB : Cb E cc own R nL Y) {x y : Int64} (hd : decode cc pc = .ok (.lrem, 1)) (hne : ¬ y = 0) (k : J l E R Y ws (pc + 1) lv (.long (x - x / y * y) :: st)) : J l E R Y ws pc lv (.long y :: .long x :: st) := fun H locs ls hP hD hS hl => lv_lrem hB.1 hB.2.1 hd hne (k H locs ls hP hD hS hl)
theorem J_dup (hB : Cb E cc own R nL Y) {v : Value} (hd : decode cc pc = .ok (.dup, 1)) (hc : v.category = 1) (k : J l E R Y ws (pc + 1) lv (v :: v :: st)) : J l E R Y ws pc lv (v :: st) := fun H locs ls hP hD hS hl => lv_dup hB.1 hB.2.1 hd hc (k H locs ls hP hD hS hl)
theorem J_pop (hB : Cb E cc own R nL Y) {v : Value} (hd : decode cc pc = .ok (.pop, 1)) (hc : v.category = 1) (k : J l E R Y ws (pc + 1) lv st) : J l E R Y ws pc lv (v :: st) := fun H locs ls hP hD hS hl => lv_pop hB.1 hB.2.1 hd hc (k H locs ls hP hD hS hl)
theorem J_dup2 (hB : Cb E cc own R nL Y) {va vb : Value} (hd : decode cc pc = .ok (.dup2, 1)) (hc : va.category = 1) (hc2 : vb.category = 1) (k : J l E R Y ws (pc + 1) lv (va :: vb :: va :: vb :: st)) : J l E R Y ws pc lv (va :: vb :: st) := fun H locs ls hP hD hS hl => lv_dup2_11 hB.1 hB.2.1 hd hc hc2 (k H locs ls hP hD hS hl)
theorem J_ldc (hB : Cb E cc own R nL Y) {index : Nat} {v : Int32} (hd : decode cc pc = .ok (.ldc index, 2)) (hw : Cond.constant own index v ∈ bigW) (k : J l E R Y ws (pc + 2) lv (.int v :: st)) : J l E R Y ws pc lv st := fun H locs ls hP hD hS hl => lv_ldc hB.1 hB.2.1 hB.2.2.2.1 (hB.2.2.2.2.1 _ hw) hd (k H locs ls hP hD hS hl)
theorem J_ldcw (hB : Cb E cc own R nL Y) {index : Nat} {v : Int32} (hd : decode cc pc = .ok (.ldc_w index, 3)) (hw : Cond.constant own index v ∈ bigW) (k : J l E R Y ws (pc + 3) lv (.int v :: st)) : J l E R Y ws pc lv st := fun H locs ls hP hD hS hl => lv_ldcw hB.1 hB.2.1 hB.2.2.2.1 (hB.2.2.2.2.1 _ hw) hd (k H locs ls hP hD hS hl)
theorem J_ldc2 (hB : Cb E cc own R nL Y) {index : Nat} {v : Int64} (hd : decode cc pc = .ok (.ldc2_w index, 3)) (hw : Cond.constantLong own index v ∈ bigW) (k : J l E R Y ws (pc + 3) lv (.long v :: st)) : J l E R Y ws pc lv st := fun H locs ls hP hD hS hl => lv_ldc2 hB.1 hB.2.1 hB.2.2.2.1 (hB.2.2.2.2.1 _ hw) hd (k H locs ls hP hD hS hl)
theorem J_iload_n (hB : Cb E cc own R nL Y) {n : Fin 4} {i : Nat} {x : Int32} (hd : decode cc pc = .ok (.iload_n n, 1)) (hi : (n : Nat) = i) (q : Nat) (hq : lv[q]? = some (i, .int x)) (k : J l E R Y ws (pc + 1) lv (.int x :: st)) : J l E R Y ws pc lv st := fun H locs ls hP hD hS hl => lv_iload_n hB.1 hB.2.1 hd hi (lv_at hl q hq) (k H locs ls hP hD hS hl)
theorem J_iload (hB : Cb E cc own R nL Y) {i : Nat} {x : Int32} (hd : decode cc pc = .ok (.iload i, 2)) (q : Nat) (hq : lv[q]? = some (i, .int x)) (k : J l E R Y ws (pc + 2) lv (.int x :: st)) : J l E R Y ws pc lv st := fun H locs ls hP hD hS hl => lv_iload hB.1 hB.2.1 hd (lv_at hl q hq) (k H locs ls hP hD hS hl)
theorem J_lload_n (hB : Cb E cc own R nL Y) {n : Fin 4} {i : Nat} {x : Int64} (hd : decode cc pc = .ok (.lload_n n, 1)) (hi : (n : Nat) = i) (q : Nat) (hq : lv[q]? = some (i, .long x)) (k : J l E R Y ws (pc + 1) lv (.long x :: st)) : J l E R Y ws pc lv st := fun H locs ls hP hD hS hl => lv_lload_n hB.1 hB.2.1 hd hi (lv_at hl q hq) (k H locs ls hP hD hS hl)
theorem J_lload (hB : Cb E cc own R nL Y) {i : Nat} {x : Int64} (hd : decode cc pc = .ok (.lload i, 2)) (q : Nat) (hq : lv[q]? = some (i, .long x)) (k : J l E R Y ws (pc + 2) lv (.long x :: st)) : J l E R Y ws pc lv st := fun H locs ls hP hD hS hl => lv_lload hB.1 hB.2.1 hd (lv_at hl q hq) (k H locs ls hP hD hS hl)
theorem J_aload_n (hB : Cb E cc own R nL Y) {n : Fin 4} {i : Nat} {x : Nat} (hd : decode cc pc = .ok (.aload_n n, 1)) (hi : (n : Nat) = i) (q : Nat) (hq : lv[q]? = some (i, .ref x)) (k : J l E R Y ws (pc + 1) lv (.ref x :: st)) : J l E R Y ws pc lv st := fun H locs ls hP hD hS hl => lv_aload_n hB.1 hB.2.1 hd hi (lv_at hl q hq) (k H locs ls hP hD hS hl)
theorem J_aload (hB : Cb E cc own R nL Y) {i : Nat} {x : Nat} (hd : decode cc pc = .ok (.aload i, 2)) (q : Nat) (hq : lv[q]? = some (i, .ref x)) (k : J l E R Y ws (pc + 2) lv (.ref x :: st)) : J l E R Y ws pc lv st := fun H locs ls hP hD hS hl => lv_aload hB.1 hB.2.1 hd (lv_at hl q hq) (k H locs ls hP hD hS hl)
theorem J_istore_n (hB : Cb E cc own R nL Y) {n : Fin 4} {i : Nat} {x v : Int32} (hv : v = x) (hd : decode cc pc = .ok (.istore_n n, 1)) (hi : (n : Nat) = i) (hn : i < nL) (hl' : (i, Value.int v) :: lv.filter (fun q => !(q.1 == i) && !(q.1 + 1 == i && q.2.category == 2)) = lv') (k : J l E R Y ws (pc + 1) lv' st) : J l E R Y ws pc lv (.int x :: st) := fun H locs ls hP hD hS hl => by subst hv; exact lv_istore_n hB.1 hB.2.1 hd hi hl (by rw [hB.2.2.2.2.2.2.2.2.2]; exact hn) hl' (fun ls' hl2 => k H locs ls' hP hD hS hl2)
theorem J_istore (hB : Cb E cc own R nL Y) {i : Nat} {x v : Int32} (hv : v = x) (hd : decode cc pc = .ok (.istore i, 2)) (hn : i < nL) (hl' : (i, Value.int v) :: lv.filter (fun q => !(q.1 == i) && !(q.1 + 1 == i && q.2.category == 2)) = lv') (k : J l E R Y ws (pc + 2) lv' st) : J l E R Y ws pc lv (.int x :: st) := fun H locs ls hP hD hS hl => by subst hv; exact lv_istore hB.1 hB.2.1 hd hl (by rw [hB.2.2.2.2.2.2.2.2.2]; exact hn) hl' (fun ls' hl2 => k H locs ls' hP hD hS hl2)
theorem J_lstore_n (hB : Cb E cc own R nL Y) {n : Fin 4} {i : Nat} {x v : Int64} (hv : v = x) (hd : decode cc pc = .ok (.lstore_n n, 1)) (hi : (n : Nat) = i) (hn : i + 1 < nL) (hl' : (i, Value.long v) :: lv.filter (fun q => !(q.1 == i) && (!(q.1 == i + 1) && !(q.1 + 1 == i && q.2.category == 2))) = lv') (k : J l E R Y ws (pc + 1) lv' st) : J l E R Y ws pc lv (.long x :: st) := fun H locs ls hP hD hS hl => by subst hv; exact lv_lstore_n hB.1 hB.2.1 hd hi hl (by rw [hB.2.2.2.2.2.2.2.2.2]; exact hn) hl' (fun ls' hl2 => k H locs ls' hP hD hS hl2)
theorem J_lstore (hB : Cb E cc own R nL Y) {i : Nat} {x v : Int64} (hv : v = x) (hd : decode cc pc = .ok (.lstore i, 2)) (hn : i + 1 < nL) (hl' : (i, Value.long v) :: lv.filter (fun q => !(q.1 == i) && (!(q.1 == i + 1) && !(q.1 + 1 == i && q.2.category == 2))) = lv') (k : J l E R Y ws (pc + 2) lv' st) : J l E R Y ws pc lv (.long x :: st) := fun H locs ls hP hD hS hl => by subst hv; exact lv_lstore hB.1 hB.2.1 hd hl (by rw [hB.2.2.2.2.2.2.2.2.2]; exact hn) hl' (fun ls' hl2 => k H locs ls' hP hD hS hl2)
theorem J_iinc (hB : Cb E cc own R nL Y) {i : Nat} {n : Int} {x v : Int32} (hv : v = x + Int32.ofInt n) (hd : decode cc pc = .ok (.iinc i n, 3)) (q : Nat) (hq : lv[q]? = some (i, .int x)) (hn : i < nL) (hl' : (i, Value.int v) :: lv.filter (fun q => !(q.1 == i) && !(q.1 + 1 == i && q.2.category == 2)) = lv') (k : J l E R Y ws (pc + 3) lv' st) : J l E R Y ws pc lv st := fun H locs ls hP hD hS hl => lv_iinc hB.1 hB.2.1 hd hl hq hv.symm (by rw [hB.2.2.2.2.2.2.2.2.2]; exact hn) hl' (fun ls' hl2 => k H locs ls' hP hD hS hl2)
theorem J_if_eq (hB : Cb E cc own R nL Y) {x : Int32} {off : Int} {tgt : Nat} (hd : decode cc pc = .ok (.ifCond .eq off, 3)) (ht : (pc : Int) + off = (tgt : Int)) (kt : x = 0 → J l E R Y ws tgt lv st) (kf : ¬ x = 0 → J l E R Y ws (pc + 3) lv st) : J l E R Y ws pc lv (.int x :: st) := fun H locs ls hP hD hS hl => lv_if_eq hB.1 hB.2.1 hd ht (fun h => kt h H locs ls hP hD hS hl) (fun h => kf h H locs ls hP hD hS hl)
theorem J_icmp_eq (hB : Cb E cc own R nL Y) {x y : Int32} {off : Int} {tgt : Nat} (hd : decode cc pc = .ok (.if_icmp .eq off, 3)) (ht : (pc : Int) + off = (tgt : Int)) (kt : x = y → J l E R Y ws tgt lv st) (kf : ¬ x = y → J l E R Y ws (pc + 3) lv st) : J l E R Y ws pc lv (.int y :: .int x :: st) := fun H locs ls hP hD hS hl => lv_icmp_eq hB.1 hB.2.1 hd ht (fun h => kt h H locs ls hP hD hS hl) (fun h => kf h H locs ls hP hD hS hl)
theorem J_if_ne (hB : Cb E cc own R nL Y) {x : Int32} {off : Int} {tgt : Nat} (hd : decode cc pc = .ok (.ifCond .ne off, 3)) (ht : (pc : Int) + off = (tgt : Int)) (kt : ¬ x = 0 → J l E R Y ws tgt lv st) (kf : x = 0 → J l E R Y ws (pc + 3) lv st) : J l E R Y ws pc lv (.int x :: st) := fun H locs ls hP hD hS hl => lv_if_ne hB.1 hB.2.1 hd ht (fun h => kt h H locs ls hP hD hS hl) (fun h => kf h H locs ls hP hD hS hl)
theorem J_icmp_ne (hB : Cb E cc own R nL Y) {x y : Int32} {off : Int} {tgt : Nat} (hd : decode cc pc = .ok (.if_icmp .ne off, 3)) (ht : (pc : Int) + off = (tgt : Int)) (kt : ¬ x = y → J l E R Y ws tgt lv st) (kf : x = y → J l E R Y ws (pc + 3) lv st) : J l E R Y ws pc lv (.int y :: .int x :: st) := fun H locs ls hP hD hS hl => lv_icmp_ne hB.1 hB.2.1 hd ht (fun h => kt h H locs ls hP hD hS hl) (fun h => kf h H locs ls hP hD hS hl)
theorem J_if_lt (hB : Cb E cc own R nL Y) {x : Int32} {off : Int} {tgt : Nat} (hd : decode cc pc = .ok (.ifCond .lt off, 3)) (ht : (pc : Int) + off = (tgt : Int)) (kt : x < 0 → J l E R Y ws tgt lv st) (kf : ¬ x < 0 → J l E R Y ws (pc + 3) lv st) : J l E R Y ws pc lv (.int x :: st) := fun H locs ls hP hD hS hl => lv_if_lt hB.1 hB.2.1 hd ht (fun h => kt h H locs ls hP hD hS hl) (fun h => kf h H locs ls hP hD hS hl)
theorem J_icmp_lt (hB : Cb E cc own R nL Y) {x y : Int32} {off : Int} {tgt : Nat} (hd : decode cc pc = .ok (.if_icmp .lt off, 3)) (ht : (pc : Int) + off = (tgt : Int)) (kt : x < y → J l E R Y ws tgt lv st) (kf : ¬ x < y → J l E R Y ws (pc + 3) lv st) : J l E R Y ws pc lv (.int y :: .int x :: st) := fun H locs ls hP hD hS hl => lv_icmp_lt hB.1 hB.2.1 hd ht (fun h => kt h H locs ls hP hD hS hl) (fun h => kf h H locs ls hP hD hS hl)
theorem J_if_ge (hB : Cb E cc own R nL Y) {x : Int32} {off : Int} {tgt : Nat} (hd : decode cc pc = .ok (.ifCond .ge off, 3)) (ht : (pc : Int) + off = (tgt : Int)) (kt : 0 ≤ x → J l E R Y ws tgt lv st) (kf : ¬ 0 ≤ x → J l E R Y ws (pc + 3) lv st) : J l E R Y ws pc lv (.int x :: st) := fun H locs ls hP hD hS hl => lv_if_ge hB.1 hB.2.1 hd ht (fun h => kt h H locs ls hP hD hS hl) (fun h => kf h H locs ls hP hD hS hl)
theorem J_icmp_ge (hB : Cb E cc own R nL Y) {x y : Int32} {off : Int} {tgt : Nat} (hd : decode cc pc = .ok (.if_icmp .ge off, 3)) (ht : (pc : Int) + off = (tgt : Int)) (kt : y ≤ x → J l E R Y ws tgt lv st) (kf : ¬ y ≤ x → J l E R Y ws (pc + 3) lv st) : J l E R Y ws pc lv (.int y :: .int x :: st) := fun H locs ls hP hD hS hl => lv_icmp_ge hB.1 hB.2.1 hd ht (fun h => kt h H locs ls hP hD hS hl) (fun h => kf h H locs ls hP hD hS hl)
theorem J_if_gt (hB : Cb E cc own R nL Y) {x : Int32} {off : Int} {tgt : Nat} (hd : decode cc pc = .ok (.ifCond .gt off, 3)) (ht : (pc : Int) + off = (tgt : Int)) (kt : 0 < x → J l E R Y ws tgt lv st) (kf : ¬ 0 < x → J l E R Y ws (pc + 3) lv st) : J l E R Y ws pc lv (.int x :: st) := fun H locs ls hP hD hS hl => lv_if_gt hB.1 hB.2.1 hd ht (fun h => kt h H locs ls hP hD hS hl) (fun h => kf h H locs ls hP hD hS hl)
theorem J_icmp_gt (hB : Cb E cc own R nL Y) {x y : Int32} {off : Int} {tgt : Nat} (hd : decode cc pc = .ok (.if_icmp .gt off, 3)) (ht : (pc : Int) + off = (tgt : Int)) (kt : y < x → J l E R Y ws tgt lv st) (kf : ¬ y < x → J l E R Y ws (pc + 3) lv st) : J l E R Y ws pc lv (.int y :: .int x :: st) := fun H locs ls hP hD hS hl => lv_icmp_gt hB.1 hB.2.1 hd ht (fun h => kt h H locs ls hP hD hS hl) (fun h => kf h H locs ls hP hD hS hl)
theorem J_if_le (hB : Cb E cc own R nL Y) {x : Int32} {off : Int} {tgt : Nat} (hd : decode cc pc = .ok (.ifCond .le off, 3)) (ht : (pc : Int) + off = (tgt : Int)) (kt : x ≤ 0 → J l E R Y ws tgt lv st) (kf : ¬ x ≤ 0 → J l E R Y ws (pc + 3) lv st) : J l E R Y ws pc lv (.int x :: st) := fun H locs ls hP hD hS hl => lv_if_le hB.1 hB.2.1 hd ht (fun h => kt h H locs ls hP hD hS hl) (fun h => kf h H locs ls hP hD hS hl)
theorem J_icmp_le (hB : Cb E cc own R nL Y) {x y : Int32} {off : Int} {tgt : Nat} (hd : decode cc pc = .ok (.if_icmp .le off, 3)) (ht : (pc : Int) + off = (tgt : Int)) (kt : x ≤ y → J l E R Y ws tgt lv st) (kf : ¬ x ≤ y → J l E R Y ws (pc + 3) lv st) : J l E R Y ws pc lv (.int y :: .int x :: st) := fun H locs ls hP hD hS hl => lv_icmp_le hB.1 hB.2.1 hd ht (fun h => kt h H locs ls hP hD hS hl) (fun h => kf h H locs ls hP hD hS hl)
theorem J_goto (hB : Cb E cc own R nL Y) {off : Int} {tgt : Nat} (hd : decode cc pc = .ok (.goto off, 3)) (ht : (pc : Int) + off = (tgt : Int)) (k : J l E R Y ws tgt lv st) : J l E R Y ws pc lv st := fun H locs ls hP hD hS hl => lv_goto hB.1 hB.2.1 hd ht (k H locs ls hP hD hS hl)
theorem tsw_out {x : Int32} {n : Nat} (h : ∀ k : Nat, k < n → ¬ x = nI k) (hn : n < 2 ^ 31) : x.toInt < 0 ∨ (n : Int) - 1 < x.toInt := by
  rcases Int.lt_or_le x.toInt 0 with h0 | h0
  · exact Or.inl h0
  · rcases Int.lt_or_le ((n : Int) - 1) x.toInt with h1 | h1
    · exact Or.inr h1
    · refine absurd (?_ : x = nI x.toInt.toNat) (h x.toInt.toNat (by omega))
      apply Int32.toInt_inj.mp
      rw [nI_toInt (by omega)]
      omega
theorem J_tswIn (hB : Cb E cc own R nL Y) {dflt hi : Int} {offs : Array Int} {len : Nat} {x : Int32} {off : Int} {tgt : Nat} (n : Nat) (hx : x = nI n) (hn : n < 2 ^ 31) (hd : decode cc pc = .ok (.tableswitch dflt 0 hi offs, len)) (h2 : ¬ hi < (n : Int)) (ho : offs[n]? = some off) (ht : (pc : Int) + off = (tgt : Int)) (k : J l E R Y ws tgt lv st) : J l E R Y ws pc lv (.int x :: st) := fun H locs ls hP hD hS hl => by
  have e : x.toInt = (n : Int) := by rw [hx]; exact nI_toInt hn
  exact lv_tableIn hB.1 hB.2.1 hd (by omega) (by rw [e]; exact h2) (by rw [e]; simpa using ho) ht (k H locs ls hP hD hS hl)
theorem J_tswOut (hB : Cb E cc own R nL Y) {dflt hi : Int} {offs : Array Int} {len : Nat} {x : Int32} {tgt : Nat} (h : x.toInt < 0 ∨ hi < x.toInt) (hd : decode cc pc = .ok (.tableswitch dflt 0 hi offs, len)) (ht : (pc : Int) + dflt = (tgt : Int)) (k : J l E R Y ws tgt lv st) : J l E R Y ws pc lv (.int x :: st) := fun H locs ls hP hD hS hl => lv_tableOut hB.1 hB.2.1 hd h ht (k H locs ls hP hD hS hl)
theorem J_lsw (hB : Cb E cc own R nL Y) {dflt : Int} {ps : Array (Int × Int)} {len : Nat} {x : Int32} {off : Int} {tgt : Nat} (hd : decode cc pc = .ok (.lookupswitch dflt ps, len)) (hp : (ps.toList.zip (ps.toList.drop 1)).all (fun (a, next) => a.1 < next.1) = true) (ho : Op.lookupswitch.offset ps.toList dflt x.toInt = off) (ht : (pc : Int) + off = (tgt : Int)) (k : J l E R Y ws tgt lv st) : J l E R Y ws pc lv (.int x :: st) := fun H locs ls hP hD hS hl => lv_lookup hB.1 hB.2.1 hd hp ho ht (k H locs ls hP hD hS hl)
theorem J_get (hB : Cb E cc own R nL Y) {C : String} {T : u_T} {N ci index q : Nat} (hin : ∀ w ∈ u_ws C T N, w ∈ bigW) (q0 : Nat) {fs : List Value} (he : ws[q0]? = some (q, .inr (ci, fs))) (hc : vwCl[ci]? = some (C, T, N)) (k : Nat) (hk : k < N) (hlink : Cond.fieldLink own index (T k).1 (T k).2.1 (T k).2.2.1 ∈ bigW) {v : Value} (hv : fs[k]? = some v) (hd : decode cc pc = .ok (.getfield index, 3)) (kk : J l E R Y ws (pc + 3) lv (v :: st)) : J l E R Y ws pc lv (.ref q :: st) := fun H locs ls hP hD hS hl =>
  va_get hB.1 hB.2.1 hB.2.2.2.2.1 hin hB.2.2.2.1 hB.2.2.2.2.2.1 hP q0 he hc k hk (hB.2.2.2.2.1 _ hlink) (fun _ h => h) hv hd (kk H locs ls hP hD hS hl)
theorem J_getN (hB : Cb E cc own R nL Y) {C host : String} {T : u_T} {N ci index q : Nat} (hin : ∀ w ∈ u_ws C T N, w ∈ bigW) (q0 : Nat) {fs : List Value} (he : ws[q0]? = some (q, .inr (ci, fs))) (hc : vwCl[ci]? = some (C, T, N)) (k : Nat) (hk : k < N) (hlink : (own, index, (T k).1, (T k).2.1, (T k).2.2.1, host) ∈ nestF) {v : Value} (hv : fs[k]? = some v) (hd : decode cc pc = .ok (.getfield index, 3)) (kk : J l E R Y ws (pc + 3) lv (v :: st)) : J l E R Y ws pc lv (.ref q :: st) := fun H locs ls hP hD hS hl =>
  va_getN hB.1 hB.2.1 hB.2.2.2.2.1 hin hB.2.2.2.1 hB.2.2.2.2.2.1 hP q0 he hc k hk (va_Nw.use rfl (hB.2.2.2.2.2.2.1.1 _ hlink)) (fun _ h => h) hv hd (kk H locs ls hP hD hS hl)
theorem J_put (hB : Cb E cc own R nL Y) {C : String} {T : u_T} {N ci index q : Nat} (hin : ∀ w ∈ u_ws C T N, w ∈ bigW) (ty0 : Nat → FieldType) (hty : ∀ k, k < N → parseFieldDescriptor (T k).2.2.1 = some (ty0 k)) (hnm : ∀ a, a < N → ∀ b, b < N → a ≠ b → (T a).2.1 ≠ (T b).2.1) (q0 : Nat) {fs : List Value} (he : ws[q0]? = some (q, .inr (ci, fs))) (hc : vwCl[ci]? = some (C, T, N)) (k : Nat) (hk : k < N) (hlink : Cond.fieldLink own index (T k).1 (T k).2.1 (T k).2.2.1 ∈ bigW) (hfin : (T k).2.2.2 = false) {ty : FieldType} {v : Value} (hp : parseFieldDescriptor (T k).2.2.1 = some ty) (hn : narrow ty v = v) (hfit : fits ty v = true) (hl9 : k < fs.length) (hd : decode cc pc = .ok (.putfield index, 3)) (hw : ws.set q0 (q, .inr (ci, fs.set k v)) = ws') (kk : J l E R Y ws' (pc + 3) lv st) : J l E R Y ws pc lv (v :: .ref q :: st) := fun H locs ls hP hD hS hl => by
  subst hw
  exact va_put hB.1 hB.2.1 hB.2.2.2.2.1 hin ty0 hty hnm hB.2.2.2.1 hB.2.2.2.2.2.1 hP hD hS q0 he hc k hk (hB.2.2.2.2.1 _ hlink) (fun _ h => h) hfin hp hn hfit hl9 hd (fun H1 locs1 hP1 hD1 hS1 => kk H1 locs1 ls hP1 hD1 hS1 hl)
theorem J_putN (hB : Cb E cc own R nL Y) {C host : String} {T : u_T} {N ci index q : Nat} (hin : ∀ w ∈ u_ws C T N, w ∈ bigW) (ty0 : Nat → FieldType) (hty : ∀ k, k < N → parseFieldDescriptor (T k).2.2.1 = some (ty0 k)) (hnm : ∀ a, a < N → ∀ b, b < N → a ≠ b → (T a).2.1 ≠ (T b).2.1) (q0 : Nat) {fs : List Value} (he : ws[q0]? = some (q, .inr (ci, fs))) (hc : vwCl[ci]? = some (C, T, N)) (k : Nat) (hk : k < N) (hlink : (own, index, (T k).1, (T k).2.1, (T k).2.2.1, host) ∈ nestF) (hfin : (T k).2.2.2 = false) {ty : FieldType} {v : Value} (hp : parseFieldDescriptor (T k).2.2.1 = some ty) (hn : narrow ty v = v) (hfit : fits ty v = true) (hl9 : k < fs.length) (hd : decode cc pc = .ok (.putfield index, 3)) (hw : ws.set q0 (q, .inr (ci, fs.set k v)) = ws') (kk : J l E R Y ws' (pc + 3) lv st) : J l E R Y ws pc lv (v :: .ref q :: st) := fun H locs ls hP hD hS hl => by
  subst hw
  exact va_putN hB.1 hB.2.1 hB.2.2.2.2.1 hin ty0 hty hnm hB.2.2.2.1 hB.2.2.2.2.2.1 hP hD hS q0 he hc k hk (va_Nw.use rfl (hB.2.2.2.2.2.2.1.1 _ hlink)) (fun _ h => h) hfin hp hn hfit hl9 hd (fun H1 locs1 hP1 hD1 hS1 => kk H1 locs1 ls hP1 hD1 hS1 hl)
theorem J_iald (hB : Cb E cc own R nL Y) (q0 : Nat) {q n : Nat} {f : Nat → Int32} (ha : ws[q0]? = some (ia E q n f)) {i : Int32} {v : Int32} (hv : v = f i.toNatClampNeg) (hin : vp_in i n) (hd : decode cc pc = .ok (.iaload, 1)) (kk : J l E R Y ws (pc + 1) lv (.int v :: st)) : J l E R Y ws pc lv (.int i :: .ref q :: st) := fun H locs ls hP hD hS hl => by subst hv; exact va_iald hB.1 hB.2.1 hB.2.2.2.2.2.1 hP q0 0 ha rfl hin hd (kk H locs ls hP hD hS hl)
theorem J_bald (hB : Cb E cc own R nL Y) (q0 : Nat) {q n : Nat} {f : Nat → Int32} (ha : ws[q0]? = some (ba E q n f)) {i : Int32} {v : Int32} (hv : v = f i.toNatClampNeg) (hin : vp_in i n) (hd : decode cc pc = .ok (.baload, 1)) (kk : J l E R Y ws (pc + 1) lv (.int v :: st)) : J l E R Y ws pc lv (.int i :: .ref q :: st) := fun H locs ls hP hD hS hl => by subst hv; exact va_bald hB.1 hB.2.1 hB.2.2.2.2.2.1 hP q0 1 ha rfl hin hd (kk H locs ls hP hD hS hl)
theorem J_lald (hB : Cb E cc own R nL Y) (q0 : Nat) {q n : Nat} {f : Nat → Int64} (ha : ws[q0]? = some (ja E q n f)) {i : Int32} {v : Int64} (hv : v = f i.toNatClampNeg) (hin : vp_in i n) (hd : decode cc pc = .ok (.laload, 1)) (kk : J l E R Y ws (pc + 1) lv (.long v :: st)) : J l E R Y ws pc lv (.int i :: .ref q :: st) := fun H locs ls hP hD hS hl => by subst hv; exact va_lald hB.1 hB.2.1 hB.2.2.2.2.2.1 hP q0 2 ha rfl hin hd (kk H locs ls hP hD hS hl)
theorem J_iast (hB : Cb E cc own R nL Y) (q0 : Nat) {q n : Nat} {f f' : Nat → Int32} (ha : ws[q0]? = some (ia E q n f)) {i : Int32} {x : Int32} (hv : f' = upd f i.toNatClampNeg x) (hin : vp_in i n) (hd : decode cc pc = .ok (.iastore, 1)) (hw : ws.set q0 (ia E q n f') = ws') (kk : J l E R Y ws' (pc + 1) lv st) : J l E R Y ws pc lv (.int x :: .int i :: .ref q :: st) := fun H locs ls hP hD hS hl => by subst hv; subst hw; exact va_iast hB.1 hB.2.1 hB.2.2.2.2.2.1 hP hD hS q0 0 ha rfl hin hd (fun H1 locs1 hP1 hD1 hS1 => kk H1 locs1 ls hP1 hD1 hS1 hl)
theorem J_bast (hB : Cb E cc own R nL Y) (q0 : Nat) {q n : Nat} {f f' : Nat → Int32} (ha : ws[q0]? = some (ba E q n f)) {i : Int32} {x : Int32} (hv : f' = upd f i.toNatClampNeg (vp_nar .byte x)) (hin : vp_in i n) (hd : decode cc pc = .ok (.bastore, 1)) (hw : ws.set q0 (ba E q n f') = ws') (kk : J l E R Y ws' (pc + 1) lv st) : J l E R Y ws pc lv (.int x :: .int i :: .ref q :: st) := fun H locs ls hP hD hS hl => by subst hv; subst hw; exact va_bast hB.1 hB.2.1 hB.2.2.2.2.2.1 hP hD hS q0 1 ha rfl hin hd (fun H1 locs1 hP1 hD1 hS1 => kk H1 locs1 ls hP1 hD1 hS1 hl)
theorem J_last (hB : Cb E cc own R nL Y) (q0 : Nat) {q n : Nat} {f f' : Nat → Int64} (ha : ws[q0]? = some (ja E q n f)) {i : Int32} {x : Int64} (hv : f' = vp_updL f i.toNatClampNeg x) (hin : vp_in i n) (hd : decode cc pc = .ok (.lastore, 1)) (hw : ws.set q0 (ja E q n f') = ws') (kk : J l E R Y ws' (pc + 1) lv st) : J l E R Y ws pc lv (.long x :: .int i :: .ref q :: st) := fun H locs ls hP hD hS hl => by subst hv; subst hw; exact va_last hB.1 hB.2.1 hB.2.2.2.2.2.1 hP hD hS q0 2 ha rfl hin hd (fun H1 locs1 hP1 hD1 hS1 => kk H1 locs1 ls hP1 hD1 hS1 hl)
theorem J_alen (hB : Cb E cc own R nL Y) (q0 : Nat) {q n : Nat} {f : Nat → Int32} (ha : ws[q0]? = some (ia E q n f)) {v : Int32} (hv : Int32.ofNat n = v) (hd : decode cc pc = .ok (.arraylength, 1)) (kk : J l E R Y ws (pc + 1) lv (.int v :: st)) : J l E R Y ws pc lv (.ref q :: st) := fun H locs ls hP hD hS hl => va_alen hB.1 hB.2.1 hB.2.2.2.2.2.1 hP q0 0 ha rfl hv hd (kk H locs ls hP hD hS hl)
theorem Cr.qo {ret : Option FieldType} {r : Option Value} {w' : va_W} (hR : Cr E ret r w' Y) {H : Heap} {locs : List Loc} (hP : va_P E.1 vwCl w' H) (hD : va_D (yA Y) w') (hS : va_S (yA Y) (ys Y).heap H locs) (t : State) (ht : t.heap = H) : Qo E r w' (yA Y) (ya Y) (ys Y) (.returned r) t := ⟨rfl, by rw [ht]; exact hP, hD, hS.F ht⟩
theorem J_iret (hB : Cb E cc own R nL Y) {v : Int32} (hR : Cr E (some .int) (some (.int v)) ws Y) (hd : decode cc pc = .ok (.ireturn, 1)) : J l E R Y ws pc lv [.int v] := fun H locs ls hP hD hS hl => by
  obtain ⟨h1, h2, h3, h4, h5⟩ := id hR
  rw [h3, h4, h5]
  exact W.iret hB.1 hB.2.1 h1 (fun t ht _ => hR.qo hP hD hS t ht) hS.2.2 hd h2
theorem J_zret (hB : Cb E cc own R nL Y) {v : Int32} (hR : Cr E (some .boolean) (some (.int v)) ws Y) (hn : v = 0 ∨ v = 1) (hd : decode cc pc = .ok (.ireturn, 1)) : J l E R Y ws pc lv [.int v] := fun H locs ls hP hD hS hl => by
  obtain ⟨h1, h2, h3, h4, h5⟩ := id hR
  rw [h3, h4, h5]
  exact W.zret hB.1 hB.2.1 h1 (by rcases hn with rfl | rfl <;> decide +kernel) (fun t ht _ => hR.qo hP hD hS t ht) hS.2.2 hd h2
theorem J_lret (hB : Cb E cc own R nL Y) {v : Int64} (hR : Cr E (some .long) (some (.long v)) ws Y) (hd : decode cc pc = .ok (.lreturn, 1)) : J l E R Y ws pc lv [.long v] := fun H locs ls hP hD hS hl => by
  obtain ⟨h1, h2, h3, h4, h5⟩ := id hR
  rw [h3, h4, h5]
  exact W.lret hB.1 hB.2.1 h1 (fun t ht _ => hR.qo hP hD hS t ht) hS.2.2 hd h2
theorem J_vret (hB : Cb E cc own R nL Y) (hR : Cr E none none ws Y) (hd : decode cc pc = .ok (.return_, 1)) : J l E R Y ws pc lv [] := fun H locs ls hP hD hS hl => by
  obtain ⟨h1, h2, h3, h4, h5⟩ := id hR
  rw [h3, h4, h5]
  exact W.vret hB.1 hB.2.1 h1 (fun t ht _ => hR.qo hP hD hS t ht) hS.2.2 hd h2
/-- behind a call: what came back -/
theorem J_after {wc wc' : va_W} {r : Option Value} {st0 rest : List Value} {a : Array Value} {H : Heap} {locs : List Loc} {ls : Array Slot} (hF : ∀ q, va_A wc H.size q → yA Y q) (hPD : ∀ H1 : Heap, va_P E.1 vwCl wc' H1 → va_D (va_A wc H.size) wc' → (∀ q : Nat, q < H.size → ¬ va_A wc H.size q → H1[q]? = H[q]?) → va_P E.1 vwCl ws' H1 ∧ va_D (yA Y) ws')
    (hS : va_S (yA Y) (ys Y).heap H locs) (hl : lv_has ls (yN Y) lv)
    (hr : va_Run (yp Y) l (ye Y) R (ys Y) (ym Y) (ya Y) (yb Y) (yt Y) (yc Y) H locs (yk Y) (yn Y) 0 0 (F0 (ym Y) pc ls st0) rest (Qo E r wc' (va_A wc H.size) a) (va_A wc H.size))
    (k : J l E R Y ws' (pc + 3) lv (r.toList ++ rest)) : W (yp Y) l (ye Y) R (ys Y) (ym Y) (ya Y) (yb Y) (yt Y) (yc Y) H locs (yk Y) (yn Y) (yQ Y) (F0 (ym Y) pc ls st0) := by
  intro T hT X
  obtain ⟨v, st₀, t, T', L, h0, X', hL, e1, e2, ⟨hv, hP1, hD1, hz, hk⟩, stp⟩ := hr T hT X
  cases hv
  rw [h0] at hz hk
  rw [← e1] at hP1 hz hk
  obtain ⟨hP2, hD2⟩ := hPD _ hP1 hD1 hk
  obtain ⟨t2, a1, b1⟩ := k T'.heap (locs ++ L) ls hP2 hD2
    ⟨Nat.le_trans hS.1 hz, fun q h1 h2 => by rw [hk q (Nat.lt_of_lt_of_le h1 hS.1) (fun z => h2 (hF q z))]; exact hS.2.1 q h1 h2, fun q hq => by
      rcases List.mem_append.mp hq with h | h
      · exact hS.2.2 q h
      · exact hF _ (hL q h)⟩ hl T' rfl X'
  exact ⟨t2, stp t2 a1, b1⟩
/-- how a callee's world wc lies in the caller's ws, and what ws is when wc has become wc' -/
def Lies (E : En) (ws wc wc' ws' : va_W) : Prop :=
  (∀ {H : Heap}, va_P E.1 vwCl ws H → va_P E.1 vwCl wc H) ∧ (∀ {A : Nat → Prop}, va_D A ws → va_D A wc) ∧
  ∀ {A : Nat → Prop} {H H1 : Heap}, va_P E.1 vwCl ws H → va_D A ws → (∀ q, va_A wc H.size q → A q) → va_P E.1 vwCl wc' H1 → va_D (va_A wc H.size) wc' → (∀ q : Nat, q < H.size → ¬ va_A wc H.size q → H1[q]? = H[q]?) → va_P E.1 vwCl ws' H1 ∧ va_D A ws'
theorem Lies.same {wc wc' : va_W} : Lies E wc wc wc' wc' := ⟨fun h => h, fun h => h, fun _ _ hF hP1 hD1 _ => ⟨hP1, hD1.weaken (fun _ q _ h => hF q.1 h)⟩⟩
theorem Lies.none {ws : va_W} : Lies E ws [] [] ws := ⟨fun _ k q h => by simp at h, fun _ => ⟨fun i j p q h => by simp at h, fun k q h => by simp at h⟩, fun hP hD _ _ _ hk => ⟨fun k q hq => (hP k q hq).kept (hk q.1 (hP k q hq).lt (fun h => by
  rcases h with ⟨k, e, h⟩ | h
  · simp at h
  · have := (hP _ q hq).lt; omega)), hD⟩⟩
theorem Lies.part {wc wc' : va_W} (isC isR : List Nat) (hC : isC.map (fun i => ws[i]?) = wc.map some) (hnC : va_nd isC = true) (hC' : isC.map (fun i => ws'[i]?) = wc'.map some) (hR : isR.map (fun i => ws'[i]?) = isR.map (fun i => ws[i]?)) (n : Nat) (hlen : ws'.length = n) (hall : ∀ k, k < n → k ∈ isC ∨ k ∈ isR) (hdis : ∀ i ∈ isR, i ∉ isC) (hfst : ws'.map (fun q => q.1) = ws.map (fun q => q.1)) : Lies E ws wc wc' ws' := by
  have hs : isC.filterMap (fun i => ws[i]?) = wc := by
    have h := congrArg (fun z => z.filterMap id) hC
    simpa [List.filterMap_map] using h
  refine ⟨fun h => h.sub isC hs, fun h => h.sub isC hnC hC, fun {A H H1} hP hD hF hP1 hD1 hk => ⟨fun k q hq => ?_, ?_⟩⟩
  · have hkl : k < ws'.length := (List.getElem?_eq_some_iff.mp hq).1
    rcases hall k (by rw [← hlen]; exact hkl) with h | h
    · obtain ⟨i, hi⟩ := List.getElem?_of_mem h
      have h3 : (isC.map (fun i => ws'[i]?))[i]? = some (some q) := by rw [List.getElem?_map, hi]; simp [hq]
      rw [hC', List.getElem?_map] at h3
      cases hw : wc'[i]? with
      | none => rw [hw] at h3; simp at h3
      | some z =>
        rw [hw] at h3
        simp at h3
        exact hP1 i q (by rw [hw, h3])
    · obtain ⟨i, hi⟩ := List.getElem?_of_mem h
      have h3 : (isR.map (fun i => ws'[i]?))[i]? = (isR.map (fun i => ws[i]?))[i]? := by rw [hR]
      rw [List.getElem?_map, List.getElem?_map, hi] at h3
      simp at h3
      rw [hq] at h3
      have hq0 : ws[k]? = some q := h3.symm
      refine (hP k q hq0).kept (hk q.1 (hP k q hq0).lt (fun hz => ?_))
      rcases hz with ⟨j, e, hj⟩ | hz
      · have h4 : (isC.map (fun i => ws[i]?))[j]? = some (some (q.1, e)) := by rw [hC, List.getElem?_map, hj]; rfl
        rw [List.getElem?_map] at h4
        cases hw : isC[j]? with
        | none => rw [hw] at h4; simp at h4
        | some z =>
          rw [hw] at h4
          simp at h4
          have hzk := hD.1 z k _ _ h4 hq0 rfl
          subst hzk
          exact hdis z h (List.mem_of_getElem? hw)
      · have := (hP k q hq0).lt; omega
  · have hx : ∀ (k : Nat) (q : Nat × va_E), ws'[k]? = some q → ∃ q0, ws[k]? = some q0 ∧ q0.1 = q.1 := by
      intro k q hq
      have h3 : (ws'.map (fun q => q.1))[k]? = (ws.map (fun q => q.1))[k]? := by rw [hfst]
      rw [List.getElem?_map, List.getElem?_map, hq] at h3
      cases hw : ws[k]? with
      | none => rw [hw] at h3; simp at h3
      | some z => rw [hw] at h3; simp at h3; exact ⟨z, rfl, h3.symm⟩
    refine ⟨fun i j p q hp hq hpq => ?_, fun k q hq => ?_⟩
    · obtain ⟨p0, h1, h2⟩ := hx i p hp
      obtain ⟨q0, h3, h4⟩ := hx j q hq
      exact hD.1 i j p0 q0 h1 h3 (by rw [h2, h4, hpq])
    · obtain ⟨q0, h3, h4⟩ := hx k q hq
      rw [← h4]
      exact hD.2 k q0 h3
/-- which cells a mask takes -/
def slc : List Bool → va_W → va_W
  | true :: ms, q :: ws => q :: slc ms ws
  | false :: ms, _ :: ws => slc ms ws
  | _, _ => []
theorem slc_app : ∀ {m1 : List Bool} {w1 : va_W} {m2 : List Bool} {w2 : va_W}, m1.length = w1.length → slc (m1 ++ m2) (w1 ++ w2) = slc m1 w1 ++ slc m2 w2
  | [], [], _, _, _ => rfl
  | true :: m1, q :: w1, m2, w2, h => by
    show q :: slc (m1 ++ m2) (w1 ++ w2) = q :: (slc m1 w1 ++ slc m2 w2)
    rw [slc_app (by simpa using h)]
  | false :: m1, q :: w1, m2, w2, h => by
    show slc (m1 ++ m2) (w1 ++ w2) = slc m1 w1 ++ slc m2 w2
    rw [slc_app (by simpa using h)]
theorem slc_t : ∀ (w : va_W), slc (List.replicate w.length true) w = w
  | [] => rfl
  | q :: w => by
    show q :: slc (List.replicate w.length true) w = q :: w
    rw [slc_t w]
theorem slc_f : ∀ (w : va_W), slc (List.replicate w.length false) w = []
  | [] => rfl
  | q :: w => slc_f w
theorem slc_at : ∀ {ms : List Bool} {ws : va_W} {k : Nat} {q : Nat × va_E}, ms[k]? = some true → ws[k]? = some q → q ∈ slc ms ws
  | [], _, _, _, h, _ => by simp at h
  | _ :: _, [], _, _, _, h => by simp at h
  | true :: ms, p :: ws, 0, q, _, h => by simp at h; subst h; exact List.mem_cons_self
  | false :: ms, p :: ws, 0, q, h, _ => by simp at h
  | true :: ms, p :: ws, k + 1, q, h, h2 => List.mem_cons_of_mem _ (slc_at (by simpa using h) (by simpa using h2))
  | false :: ms, p :: ws, k + 1, q, h, h2 => by
    show q ∈ slc ms ws
    exact slc_at (k := k) (by simpa using h) (by simpa using h2)
theorem slc_of : ∀ {ms : List Bool} {ws : va_W} {q : Nat × va_E}, q ∈ slc ms ws → ∃ k : Nat, ms[k]? = some true ∧ ws[k]? = some q
  | [], _, _, h => by simp [slc] at h
  | true :: _, [], _, h => by simp [slc] at h
  | false :: _, [], _, h => by simp [slc] at h
  | true :: ms, p :: ws, q, h => by
    rcases List.mem_cons.mp (show q ∈ p :: slc ms ws from h) with rfl | h
    · exact ⟨0, rfl, rfl⟩
    · obtain ⟨k, h1, h2⟩ := slc_of h
      exact ⟨k + 1, by simpa using h1, by simpa using h2⟩
  | false :: ms, p :: ws, q, h => by
    obtain ⟨k, h1, h2⟩ := slc_of (show q ∈ slc ms ws from h)
    exact ⟨k + 1, by simpa using h1, by simpa using h2⟩
theorem slc_sub : ∀ (ms : List Bool) (ws : va_W), (slc ms ws).Sublist ws
  | [], _ => List.nil_sublist _
  | true :: _, [] => List.nil_sublist _
  | false :: _, [] => List.nil_sublist _
  | true :: ms, p :: ws => List.Sublist.cons_cons p (slc_sub ms ws)
  | false :: ms, p :: ws => List.Sublist.cons p (slc_sub ms ws)
theorem va_D.pw {A : Nat → Prop} {ws : va_W} : va_D A ws ↔ ws.Pairwise (fun p q => p.1 ≠ q.1) ∧ ∀ q ∈ ws, A q.1 := by
  constructor
  · intro h
    refine ⟨List.pairwise_iff_getElem.mpr (fun i j hi hj hij e => ?_), fun q hq => ?_⟩
    · have := h.1 i j ws[i] ws[j] (List.getElem?_eq_getElem hi) (List.getElem?_eq_getElem hj) e
      omega
    · obtain ⟨k, hk⟩ := List.getElem?_of_mem hq
      exact h.2 k q hk
  · intro h
    refine ⟨fun i j p q hp hq e => ?_, fun k q hk => h.2 q (List.mem_of_getElem? hk)⟩
    obtain ⟨hi, e1⟩ := List.getElem?_eq_some_iff.mp hp
    obtain ⟨hj, e2⟩ := List.getElem?_eq_some_iff.mp hq
    rcases Nat.lt_trichotomy i j with g | g | g
    · exact absurd (by rw [e1, e2]; exact e) (List.pairwise_iff_getElem.mp h.1 i j hi hj g)
    · exact g
    · exact absurd (by rw [e1, e2]; exact e.symm) (List.pairwise_iff_getElem.mp h.1 j i hj hi g)
def Lz (ws wc wc' ws' : va_W) : Prop := ∃ ms : List Bool, ms.length = ws.length ∧ ws'.length = ws.length ∧ slc ms ws = wc ∧ slc ms ws' = wc' ∧ slc (ms.map (!·)) ws' = slc (ms.map (!·)) ws ∧ ws'.map (fun q => q.1) = ws.map (fun q => q.1)
theorem Lz.here {w w' : va_W} (h1 : w'.length = w.length) (h2 : w'.map (fun q => q.1) = w.map (fun q => q.1)) : Lz w w w' w' :=
  ⟨List.replicate w.length true, by simp, h1, slc_t w, by rw [← h1]; exact slc_t w', by rw [List.map_replicate]; show slc (List.replicate w.length false) w' = slc (List.replicate w.length false) w; rw [slc_f w, ← h1, slc_f w'], h2⟩
theorem Lz.skip {w1 w2 c c' w2' : va_W} (h : Lz w2 c c' w2') : Lz (w1 ++ w2) c c' (w1 ++ w2') := by
  obtain ⟨ms, a1, a2, a3, a4, a5, a6⟩ := h
  have e : (List.replicate w1.length false).length = w1.length := by simp
  refine ⟨List.replicate w1.length false ++ ms, by simp [a1], by simp [a2], ?_, ?_, ?_, by simp [a6]⟩
  · rw [slc_app e, slc_f, a3]; rfl
  · rw [slc_app e, slc_f, a4]; rfl
  · rw [List.map_append, slc_app (by simp), slc_app (by simp), a5]
theorem Lz.pair {w1 w1' w2 c c' w2' : va_W} (h1 : w1'.length = w1.length) (h2 : w1'.map (fun q => q.1) = w1.map (fun q => q.1)) (h : Lz w2 c c' w2') : Lz (w1 ++ w2) (w1 ++ c) (w1' ++ c') (w1' ++ w2') := by
  obtain ⟨ms, a1, a2, a3, a4, a5, a6⟩ := h
  have e : (List.replicate w1.length true).length = w1.length := by simp
  have e' : (List.replicate w1.length true).length = w1'.length := by simp [h1]
  refine ⟨List.replicate w1.length true ++ ms, by simp [a1], by simp [a2, h1], ?_, ?_, ?_, by simp [a6, h2]⟩
  · rw [slc_app e, slc_t, a3]
  · rw [slc_app e', a4]
    conv => lhs; arg 1; rw [← h1]
    rw [slc_t]
  · rw [List.map_append, slc_app (by simp [h1]), slc_app (by simp), a5, List.map_replicate]
    show slc (List.replicate w1.length false) w1' ++ _ = slc (List.replicate w1.length false) w1 ++ _
    rw [slc_f w1]
    conv => lhs; arg 1; rw [← h1]
    rw [slc_f w1']
theorem Lz.take {w1 w1' w2 : va_W} (h1 : w1'.length = w1.length) (h2 : w1'.map (fun q => q.1) = w1.map (fun q => q.1)) : Lz (w1 ++ w2) w1 w1' (w1' ++ w2) := by
  have h : Lz w2 [] [] w2 := ⟨List.replicate w2.length false, by simp, rfl, slc_f w2, slc_f w2, rfl, rfl⟩
  have g := Lz.pair h1 h2 h
  rw [List.append_nil, List.append_nil] at g
  exact g
theorem Lz.lies {ws wc wc' ws' : va_W} (h : Lz ws wc wc' ws') : Lies E ws wc wc' ws' := by
  obtain ⟨ms, a1, a2, a3, a4, a5, a6⟩ := h
  refine ⟨fun {H} hP k q hk => ?_, fun {A} hD => ?_, fun {A H H1} hP hD hF hP1 hD1 hk => ⟨fun k q hq => ?_, ?_⟩⟩
  · have hm : q ∈ slc ms ws := by rw [a3]; exact List.mem_of_getElem? hk
    obtain ⟨j, -, hj⟩ := slc_of hm
    exact hP j q hj
  · have hp := va_D.pw.mp hD
    have hs := slc_sub ms ws
    rw [a3] at hs
    exact va_D.pw.mpr ⟨hp.1.sublist hs, fun q hq => hp.2 q (hs.subset hq)⟩
  · have hkl : k < ms.length := by rw [a1, ← a2]; exact (List.getElem?_eq_some_iff.mp hq).1
    cases hb : ms[k]? with
    | none => exact absurd (List.getElem?_eq_none_iff.mp hb) (by omega)
    | some b =>
      cases b with
      | true =>
        have hm : q ∈ wc' := by rw [← a4]; exact slc_at hb hq
        obtain ⟨j, hj⟩ := List.getElem?_of_mem hm
        exact hP1 j q hj
      | false =>
        have hm : q ∈ slc (ms.map (!·)) ws' := slc_at (k := k) (by rw [List.getElem?_map, hb]; rfl) hq
        rw [a5] at hm
        obtain ⟨j, hj1, hj2⟩ := slc_of hm
        refine (hP j q hj2).kept (hk q.1 (hP j q hj2).lt (fun hz => ?_))
        rcases hz with ⟨i, e, hi⟩ | hz
        · have hm2 : (q.1, e) ∈ slc ms ws := by rw [a3]; exact List.mem_of_getElem? hi
          obtain ⟨i2, h1, h2⟩ := slc_of hm2
          have hij := hD.1 i2 j _ _ h2 hj2 rfl
          subst hij
          rw [List.getElem?_map, h1] at hj1
          simp at hj1
        · have := (hP j q hj2).lt; omega
  · have hp := va_D.pw.mp hD
    refine va_D.pw.mpr ⟨?_, ?_⟩
    · have h3 : (ws.map (fun q => q.1)).Pairwise (· ≠ ·) := List.pairwise_map.mpr hp.1
      rw [← a6] at h3
      exact List.pairwise_map.mp h3
    · intro q hq
      have h3 : q.1 ∈ ws'.map (fun q => q.1) := List.mem_map.mpr ⟨q, hq, rfl⟩
      rw [a6] at h3
      obtain ⟨z, hz, e⟩ := List.mem_map.mp h3
      rw [← e]
      exact hp.2 z hz
theorem Lies.free {wc wc' : va_W} (hL : Lies E ws wc wc' ws') {H0 H : Heap} {locs : List Loc} {A : Nat → Prop} (hD : va_D A ws) (hS : va_S A H0 H locs) (hA : ∀ q : Nat, H0.size ≤ q → A q) : ∀ q, va_A wc H.size q → A q := fun q h => by
  rcases h with ⟨k, e, h⟩ | h
  · exact (hL.2.1 hD).2 k (q, e) h
  · exact hA q (Nat.le_trans hS.1 h)
theorem good_big {cd : Cond} (h : cd ∈ bigW) : GoodIn bigW (cd :: bigW) := fun w hw => by
  have hm : w ∈ bigW := by
    rcases List.mem_cons.mp hw with rfl | h2
    · exact h
    · exact h2
  exact ⟨hm, good_of_word (bigGood w hm)⟩
/-- of a method: its code is among the words, its class is ready, how many arguments it takes -/
def Mi (y : MethodName) (bytes : ByteArray) (maxL : Nat) (ret : Option FieldType) (n : Nat) : Prop := Cond.code y bytes maxL ret ∈ bigW ∧ Cond.initialized y.cls ∈ bigW ∧ (y.cls ≠ "java/lang/invoke/MethodHandle" ∧ y.cls ≠ "java/lang/invoke/VarHandle" ∧ (parseMethodDescriptor y.desc).map (fun d => d.parameters.length) = some n)
theorem J_pre {av : List Value} {wc wc' : va_W} {H : Heap} (hB : Cb E cc own R nL Y) (hP : va_P E.1 vwCl ws H) (hD : va_D (yA Y) ws) (hL : Lies E ws wc wc' ws') : ∀ U : State, U.heap = H → (ys Y).WarmedH U.vm → Pp E av wc H.size av.toArray U := fun U hU hW =>
  ⟨rfl, by rw [hU], by rw [hU]; exact hL.1 hP, va_K.moved hW.alike hB.2.2.2.2.2.1, (hL.2.1 hD).weaken (fun _ _ _ _ => trivial), hB.2.2.2.2.2.2.1.warm hW⟩
theorem J_callS (hB : Cb E cc own R nL Y) {y : MethodName} {bytes : ByteArray} {maxL n index : Nat} {ret : Option FieldType} {rmc : Room} {wc wc' : va_W} {r : Option Value} {As rest : List Value} (hM : Ct l y (.code y bytes maxL ret) rmc E As wc r wc') (hi : Mi y bytes maxL ret n) (hs : Cond.static y ∈ bigW) (hlink : Cond.methodLink own index y ∈ bigW) (hm : rmc.cells = 0 ∧ rmc.slots = 0 ∧ rmc.frames + 1 ≤ R.frames ∧ 8 + (maxL + 11) + rmc.locals ≤ R.locals) (hL : Lies E ws wc wc' ws') (hlen : As.length = n) (hst : st = As.reverse ++ rest) (hcat : (rest.map fun v => v.category).sum ≤ 8) (hd : decode cc pc = .ok (.invokestatic index, 3)) (k : J l E R Y ws' (pc + 3) lv (r.toList ++ rest)) : J l E R Y ws pc lv st := fun H locs ls hP hD hS hl => by
  subst hst
  have hF := hL.free hD hS hB.2.2.2.2.2.2.2.1
  refine J_after (a := As.toArray) hF (fun H1 a b c => hL.2.2 hP hD hF a b c) hS hl ?_ k
  exact va_runS (As := As) (rest := rest) (nL := yN Y) ⟨hB.1, hB.2.1, hB.2.2.1, hB.2.2.2.1, hB.2.2.2.2.1⟩ (hM H.size) ⟨callB_of n hB.2.2.2.2.1 (good_big hi.1) rfl hm.1 hm.2.1 (hB.2.2.2.2.1 _ hi.2.1) (hB.2.2.2.2.1 _ hlink) hi.2.2 hm.2.2, hB.2.2.2.2.1 _ hs⟩ ⟨Pp.blind, J_pre hB hP hD hL⟩ rfl hlen hl.1 rfl (lv_room hcat) hd ⟨hB.2.2.2.2.2.2.2.2.1.1, hB.2.2.2.2.2.2.2.2.1.2⟩
theorem J_callV (hB : Cb E cc own R nL Y) {y : MethodName} {bytes : ByteArray} {maxL n index : Nat} {ret : Option FieldType} {rmc : Room} {wc wc' : va_W} {r : Option Value} {As rest : List Value} {b : Nat} (hM : Ct l y (.code y bytes maxL ret) rmc E (.ref b :: As) wc r wc') (hi : Mi y bytes maxL ret n) (hs : Cond.instanceMethod y ∈ bigW ∧ Cond.selects y.cls y y ∈ bigW) (hlink : Cond.methodLink own index y ∈ bigW) (hm : rmc.cells = 0 ∧ rmc.slots = 0 ∧ rmc.frames + 1 ≤ R.frames ∧ 8 + (maxL + 11) + rmc.locals ≤ R.locals) (hL : Lies E ws wc wc' ws') (q0 : Nat) {ci : Nat} {fs : List Value} {T : u_T} {N : Nat} (he : ws[q0]? = some (b, .inr (ci, fs))) (hcl : vwCl[ci]? = some (y.cls, T, N)) (hlen : As.length = n) (hst : st = As.reverse ++ .ref b :: rest) (hcat : (rest.map fun v => v.category).sum ≤ 8) (hd : decode cc pc = .ok (.invokevirtual index, 3)) (k : J l E R Y ws' (pc + 3) lv (r.toList ++ rest)) : J l E R Y ws pc lv st := fun H locs ls hP hD hS hl => by
  subst hst
  have hF := hL.free hD hS hB.2.2.2.2.2.2.2.1
  refine J_after (a := (Value.ref b :: As).toArray) hF (fun H1 a b c => hL.2.2 hP hD hF a b c) hS hl ?_ k
  exact va_runV (C := y.cls) (As := As) (rest := rest) (nL := yN Y) ⟨hB.1, hB.2.1, hB.2.2.1, hB.2.2.2.1, hB.2.2.2.2.1⟩ (hM H.size) ⟨callB_of n hB.2.2.2.2.1 (good_big hi.1) rfl hm.1 hm.2.1 (hB.2.2.2.2.1 _ hi.2.1) (hB.2.2.2.2.1 _ hlink) hi.2.2 hm.2.2, hB.2.2.2.2.1 _ hs.1, hB.2.2.2.2.1 _ hs.2⟩ ⟨Pp.blind, va_recv (q := (y.cls, T, N)) hB.2.2.2.2.2.1 hP hcl he, J_pre hB hP hD hL⟩ rfl hlen hl.1 rfl (lv_room hcat) hd ⟨hB.2.2.2.2.2.2.2.2.1.1, hB.2.2.2.2.2.2.2.2.1.2⟩
theorem J_callVN (hB : Cb E cc own R nL Y) {y : MethodName} {bytes : ByteArray} {maxL n index : Nat} {ret : Option FieldType} {rmc : Room} {wc wc' : va_W} {r : Option Value} {As rest : List Value} {b : Nat} {host : String} (hM : Ct l y (.code y bytes maxL ret) rmc E (.ref b :: As) wc r wc') (hi : Mi y bytes maxL ret n) (hs : Cond.instanceMethod y ∈ bigW ∧ Cond.selects y.cls y y ∈ bigW) (hlink : (own, index, y, host) ∈ nestM) (hm : rmc.cells = 0 ∧ rmc.slots = 0 ∧ rmc.frames + 1 ≤ R.frames ∧ 8 + (maxL + 11) + rmc.locals ≤ R.locals) (hL : Lies E ws wc wc' ws') (q0 : Nat) {ci : Nat} {fs : List Value} {T : u_T} {N : Nat} (he : ws[q0]? = some (b, .inr (ci, fs))) (hcl : vwCl[ci]? = some (y.cls, T, N)) (hlen : As.length = n) (hst : st = As.reverse ++ .ref b :: rest) (hcat : (rest.map fun v => v.category).sum ≤ 8) (hd : decode cc pc = .ok (.invokevirtual index, 3)) (k : J l E R Y ws' (pc + 3) lv (r.toList ++ rest)) : J l E R Y ws pc lv st := fun H locs ls hP hD hS hl => by
  subst hst
  have hF := hL.free hD hS hB.2.2.2.2.2.2.2.1
  refine J_after (a := (Value.ref b :: As).toArray) hF (fun H1 a b c => hL.2.2 hP hD hF a b c) hS hl ?_ k
  exact va_runVN (C := y.cls) (As := As) (rest := rest) (nL := yN Y) ⟨hB.1, hB.2.1, hB.2.2.1, hB.2.2.2.1, hB.2.2.2.2.1⟩ (hM H.size) ⟨va_cnB n hB.2.2.2.2.1 (good_big hi.1) rfl hm.1 hm.2.1 (hB.2.2.2.2.2.2.1.2 _ hlink) (hB.2.2.2.2.1 _ hi.2.1) hi.2.2 hm.2.2, hB.2.2.2.2.1 _ hs.1, hB.2.2.2.2.1 _ hs.2⟩ ⟨Pp.blind, va_recv (q := (y.cls, T, N)) hB.2.2.2.2.2.1 hP hcl he, J_pre hB hP hD hL⟩ rfl hlen hl.1 rfl (lv_room hcat) hd ⟨hB.2.2.2.2.2.2.2.2.1.1, hB.2.2.2.2.2.2.2.2.1.2⟩
end LY
end
section
/-! ===== the words of the pure functions ===== -/
def fuel : Nat := 1000000
def ald {α β : Type} (n : Nat) (f : Nat → α) (i : Int32) (k : α → Option β) : Option β := if i < 0 ∨ n ≤ i.toNatClampNeg then none else k (f i.toNatClampNeg)
theorem ald_e {α β : Type} {n : Nat} {f : Nat → α} {i : Int32} {k : α → Option β} {r : β} (h : ald n f i k = some r) : ∃ v, v = f i.toNatClampNeg ∧ vp_in i n ∧ k v = some r := by
  unfold ald at h
  split at h
  · cases h
  · rename_i hc; exact ⟨_, rfl, hc, h⟩
def astI {β : Type} (n : Nat) (f : Nat → Int32) (i : Int32) (x : Int32) (k : (Nat → Int32) → Option β) : Option β := if i < 0 ∨ n ≤ i.toNatClampNeg then none else k (upd f i.toNatClampNeg x)
theorem astI_e {β : Type} {n : Nat} {f : Nat → Int32} {i : Int32} {x : Int32} {k : (Nat → Int32) → Option β} {r : β} (h : astI n f i x k = some r) : ∃ v, v = upd f i.toNatClampNeg x ∧ vp_in i n ∧ k v = some r := by
  unfold astI at h
  split at h
  · cases h
  · rename_i hc; exact ⟨_, rfl, hc, h⟩
def astB {β : Type} (n : Nat) (f : Nat → Int32) (i : Int32) (x : Int32) (k : (Nat → Int32) → Option β) : Option β := if i < 0 ∨ n ≤ i.toNatClampNeg then none else k (upd f i.toNatClampNeg (vp_nar .byte x))
theorem astB_e {β : Type} {n : Nat} {f : Nat → Int32} {i : Int32} {x : Int32} {k : (Nat → Int32) → Option β} {r : β} (h : astB n f i x k = some r) : ∃ v, v = upd f i.toNatClampNeg (vp_nar .byte x) ∧ vp_in i n ∧ k v = some r := by
  unfold astB at h
  split at h
  · cases h
  · rename_i hc; exact ⟨_, rfl, hc, h⟩
def astL {β : Type} (n : Nat) (f : Nat → Int64) (i : Int32) (x : Int64) (k : (Nat → Int64) → Option β) : Option β := if i < 0 ∨ n ≤ i.toNatClampNeg then none else k (vp_updL f i.toNatClampNeg x)
theorem astL_e {β : Type} {n : Nat} {f : Nat → Int64} {i : Int32} {x : Int64} {k : (Nat → Int64) → Option β} {r : β} (h : astL n f i x k = some r) : ∃ v, v = vp_updL f i.toNatClampNeg x ∧ vp_in i n ∧ k v = some r := by
  unfold astL at h
  split at h
  · cases h
  · rename_i hc; exact ⟨_, rfl, hc, h⟩
def idivK {β : Type} (x y : Int32) (k : Int32 → Option β) : Option β := if y = 0 then none else k (x / y)
theorem idivK_e {β : Type} {x y : Int32} {k : Int32 → Option β} {r : β} (h : idivK x y k = some r) : ∃ v, v = x / y ∧ ¬ y = 0 ∧ k v = some r := by
  unfold idivK at h
  split at h
  · cases h
  · rename_i hc; exact ⟨_, rfl, hc, h⟩
def iremK {β : Type} (x y : Int32) (k : Int32 → Option β) : Option β := if y = 0 then none else k (x - x / y * y)
theorem iremK_e {β : Type} {x y : Int32} {k : Int32 → Option β} {r : β} (h : iremK x y k = some r) : ∃ v, v = x - x / y * y ∧ ¬ y = 0 ∧ k v = some r := by
  unfold iremK at h
  split at h
  · cases h
  · rename_i hc; exact ⟨_, rfl, hc, h⟩
def ldivK {β : Type} (x y : Int64) (k : Int64 → Option β) : Option β := if y = 0 then none else k (x / y)
theorem ldivK_e {β : Type} {x y : Int64} {k : Int64 → Option β} {r : β} (h : ldivK x y k = some r) : ∃ v, v = x / y ∧ ¬ y = 0 ∧ k v = some r := by
  unfold ldivK at h
  split at h
  · cases h
  · rename_i hc; exact ⟨_, rfl, hc, h⟩
def lremK {β : Type} (x y : Int64) (k : Int64 → Option β) : Option β := if y = 0 then none else k (x - x / y * y)
theorem lremK_e {β : Type} {x y : Int64} {k : Int64 → Option β} {r : β} (h : lremK x y k = some r) : ∃ v, v = x - x / y * y ∧ ¬ y = 0 ∧ k v = some r := by
  unfold lremK at h
  split at h
  · cases h
  · rename_i hc; exact ⟨_, rfl, hc, h⟩
def nmv {α β : Type} (x : α) (k : α → Option β) : Option β := k x
theorem nmv_e {α β : Type} {x : α} {k : α → Option β} {r : β} (h : nmv x k = some r) : ∃ v, v = x ∧ k v = some r := ⟨x, rfl, h⟩
def gz {β : Type} (x : Int32) (k : Unit → Option β) : Option β := if x = 0 ∨ x = 1 then k () else none
theorem gz_e {β : Type} {x : Int32} {k : Unit → Option β} {r : β} (h : gz x k = some r) : (x = 0 ∨ x = 1) ∧ k () = some r := by
  unfold gz at h
  split at h
  · rename_i hc; exact ⟨hc, h⟩
  · cases h
theorem nar_z {x : Int32} (h : x = 0 ∨ x = 1) : narrow .boolean (.int x) = .int x := by rcases h with rfl | rfl <;> decide +kernel
theorem fit_z {x : Int32} (h : x = 0 ∨ x = 1) : fits .boolean (.int x) = true := by rcases h with rfl | rfl <;> decide +kernel
theorem it_t {β : Type} {c : Prop} [Decidable c] {A B : Option β} {r : β} (h : c) (hf : (if c then A else B) = some r) : A = some r := by rw [if_pos h] at hf; exact hf
theorem it_f {β : Type} {c : Prop} [Decidable c] {A B : Option β} {r : β} (h : ¬ c) (hf : (if c then A else B) = some r) : B = some r := by rw [if_neg h] at hf; exact hf
theorem by_c (c : Prop) {G : Prop} (h1 : c → G) (h2 : ¬ c → G) : G := (Classical.em c).elim h1 h2
theorem to_ne {x : Int32} {n : Nat} (h : ¬ x = nI n) (hn : n < 2 ^ 31) : ¬ x.toInt = (n : Int) := fun e => h (Int32.toInt_inj.mp (by rw [nI_toInt hn]; exact e))
theorem lsw5 {x : Int32} (h1 : ¬ x = 46) (h2 : ¬ x = 60) (h3 : ¬ x = 62) (h4 : ¬ x = 103) (h5 : ¬ x = 111) {a b c d e f : Int} : Op.lookupswitch.offset [(46, a), (60, b), (62, c), (103, d), (111, e)] f x.toInt = f := by
  have g1 := to_ne (n := 46) h1 (by decide)
  have g2 := to_ne (n := 60) h2 (by decide)
  have g3 := to_ne (n := 62) h3 (by decide)
  have g4 := to_ne (n := 103) h4 (by decide)
  have g5 := to_ne (n := 111) h5 (by decide)
  simp only [Op.lookupswitch.offset]
  repeat (first | rw [if_neg (by omega)] | rfl | omega | split)
theorem lsw4 {x : Int32} (h1 : ¬ x = 97) (h2 : ¬ x = 98) (h3 : ¬ x = 114) (h4 : ¬ x = 116) {a b c d f : Int} : Op.lookupswitch.offset [(97, a), (98, b), (114, c), (116, d)] f x.toInt = f := by
  have g1 := to_ne (n := 97) h1 (by decide)
  have g2 := to_ne (n := 98) h2 (by decide)
  have g3 := to_ne (n := 114) h3 (by decide)
  have g4 := to_ne (n := 116) h4 (by decide)
  simp only [Op.lookupswitch.offset]
  repeat (first | rw [if_neg (by omega)] | rfl | omega | split)
def cl1 {β A1 : Type} (o : Option (A1)) (k : A1 → Option β) : Option β := match o with
  | none => none
  | some x1 => k x1
theorem cl1_e {β A1 : Type} {o : Option (A1)} {k : A1 → Option β} {r : β} (h : cl1 o k = some r) : ∃ x1, o = some x1 ∧ k x1 = some r := by
  cases o with
  | none => cases h
  | some z => exact ⟨z, rfl, h⟩
def cl2 {β A1 A2 : Type} (o : Option (A1 × A2)) (k : A1 → A2 → Option β) : Option β := match o with
  | none => none
  | some (x1, x2) => k x1 x2
theorem cl2_e {β A1 A2 : Type} {o : Option (A1 × A2)} {k : A1 → A2 → Option β} {r : β} (h : cl2 o k = some r) : ∃ x1 x2, o = some (x1, x2) ∧ k x1 x2 = some r := by
  cases o with
  | none => cases h
  | some z => exact ⟨z.1, z.2, rfl, h⟩
def cl3 {β A1 A2 A3 : Type} (o : Option (A1 × A2 × A3)) (k : A1 → A2 → A3 → Option β) : Option β := match o with
  | none => none
  | some (x1, x2, x3) => k x1 x2 x3
theorem cl3_e {β A1 A2 A3 : Type} {o : Option (A1 × A2 × A3)} {k : A1 → A2 → A3 → Option β} {r : β} (h : cl3 o k = some r) : ∃ x1 x2 x3, o = some (x1, x2, x3) ∧ k x1 x2 x3 = some r := by
  cases o with
  | none => cases h
  | some z => exact ⟨z.1, z.2.1, z.2.2, rfl, h⟩
def cl4 {β A1 A2 A3 A4 : Type} (o : Option (A1 × A2 × A3 × A4)) (k : A1 → A2 → A3 → A4 → Option β) : Option β := match o with
  | none => none
  | some (x1, x2, x3, x4) => k x1 x2 x3 x4
theorem cl4_e {β A1 A2 A3 A4 : Type} {o : Option (A1 × A2 × A3 × A4)} {k : A1 → A2 → A3 → A4 → Option β} {r : β} (h : cl4 o k = some r) : ∃ x1 x2 x3 x4, o = some (x1, x2, x3, x4) ∧ k x1 x2 x3 x4 = some r := by
  cases o with
  | none => cases h
  | some z => exact ⟨z.1, z.2.1, z.2.2.1, z.2.2.2, rfl, h⟩
def cl5 {β A1 A2 A3 A4 A5 : Type} (o : Option (A1 × A2 × A3 × A4 × A5)) (k : A1 → A2 → A3 → A4 → A5 → Option β) : Option β := match o with
  | none => none
  | some (x1, x2, x3, x4, x5) => k x1 x2 x3 x4 x5
theorem cl5_e {β A1 A2 A3 A4 A5 : Type} {o : Option (A1 × A2 × A3 × A4 × A5)} {k : A1 → A2 → A3 → A4 → A5 → Option β} {r : β} (h : cl5 o k = some r) : ∃ x1 x2 x3 x4 x5, o = some (x1, x2, x3, x4, x5) ∧ k x1 x2 x3 x4 x5 = some r := by
  cases o with
  | none => cases h
  | some z => exact ⟨z.1, z.2.1, z.2.2.1, z.2.2.2.1, z.2.2.2.2, rfl, h⟩
def cl6 {β A1 A2 A3 A4 A5 A6 : Type} (o : Option (A1 × A2 × A3 × A4 × A5 × A6)) (k : A1 → A2 → A3 → A4 → A5 → A6 → Option β) : Option β := match o with
  | none => none
  | some (x1, x2, x3, x4, x5, x6) => k x1 x2 x3 x4 x5 x6
theorem cl6_e {β A1 A2 A3 A4 A5 A6 : Type} {o : Option (A1 × A2 × A3 × A4 × A5 × A6)} {k : A1 → A2 → A3 → A4 → A5 → A6 → Option β} {r : β} (h : cl6 o k = some r) : ∃ x1 x2 x3 x4 x5 x6, o = some (x1, x2, x3, x4, x5, x6) ∧ k x1 x2 x3 x4 x5 x6 = some r := by
  cases o with
  | none => cases h
  | some z => exact ⟨z.1, z.2.1, z.2.2.1, z.2.2.2.1, z.2.2.2.2.1, z.2.2.2.2.2, rfl, h⟩
def cl7 {β A1 A2 A3 A4 A5 A6 A7 : Type} (o : Option (A1 × A2 × A3 × A4 × A5 × A6 × A7)) (k : A1 → A2 → A3 → A4 → A5 → A6 → A7 → Option β) : Option β := match o with
  | none => none
  | some (x1, x2, x3, x4, x5, x6, x7) => k x1 x2 x3 x4 x5 x6 x7
theorem cl7_e {β A1 A2 A3 A4 A5 A6 A7 : Type} {o : Option (A1 × A2 × A3 × A4 × A5 × A6 × A7)} {k : A1 → A2 → A3 → A4 → A5 → A6 → A7 → Option β} {r : β} (h : cl7 o k = some r) : ∃ x1 x2 x3 x4 x5 x6 x7, o = some (x1, x2, x3, x4, x5, x6, x7) ∧ k x1 x2 x3 x4 x5 x6 x7 = some r := by
  cases o with
  | none => cases h
  | some z => exact ⟨z.1, z.2.1, z.2.2.1, z.2.2.2.1, z.2.2.2.2.1, z.2.2.2.2.2.1, z.2.2.2.2.2.2, rfl, h⟩
def cl8 {β A1 A2 A3 A4 A5 A6 A7 A8 : Type} (o : Option (A1 × A2 × A3 × A4 × A5 × A6 × A7 × A8)) (k : A1 → A2 → A3 → A4 → A5 → A6 → A7 → A8 → Option β) : Option β := match o with
  | none => none
  | some (x1, x2, x3, x4, x5, x6, x7, x8) => k x1 x2 x3 x4 x5 x6 x7 x8
theorem cl8_e {β A1 A2 A3 A4 A5 A6 A7 A8 : Type} {o : Option (A1 × A2 × A3 × A4 × A5 × A6 × A7 × A8)} {k : A1 → A2 → A3 → A4 → A5 → A6 → A7 → A8 → Option β} {r : β} (h : cl8 o k = some r) : ∃ x1 x2 x3 x4 x5 x6 x7 x8, o = some (x1, x2, x3, x4, x5, x6, x7, x8) ∧ k x1 x2 x3 x4 x5 x6 x7 x8 = some r := by
  cases o with
  | none => cases h
  | some z => exact ⟨z.1, z.2.1, z.2.2.1, z.2.2.2.1, z.2.2.2.2.1, z.2.2.2.2.2.1, z.2.2.2.2.2.2.1, z.2.2.2.2.2.2.2, rfl, h⟩
def cl10 {β A1 A2 A3 A4 A5 A6 A7 A8 A9 A10 : Type} (o : Option (A1 × A2 × A3 × A4 × A5 × A6 × A7 × A8 × A9 × A10)) (k : A1 → A2 → A3 → A4 → A5 → A6 → A7 → A8 → A9 → A10 → Option β) : Option β := match o with
  | none => none
  | some (x1, x2, x3, x4, x5, x6, x7, x8, x9, x10) => k x1 x2 x3 x4 x5 x6 x7 x8 x9 x10
theorem cl10_e {β A1 A2 A3 A4 A5 A6 A7 A8 A9 A10 : Type} {o : Option (A1 × A2 × A3 × A4 × A5 × A6 × A7 × A8 × A9 × A10)} {k : A1 → A2 → A3 → A4 → A5 → A6 → A7 → A8 → A9 → A10 → Option β} {r : β} (h : cl10 o k = some r) : ∃ x1 x2 x3 x4 x5 x6 x7 x8 x9 x10, o = some (x1, x2, x3, x4, x5, x6, x7, x8, x9, x10) ∧ k x1 x2 x3 x4 x5 x6 x7 x8 x9 x10 = some r := by
  cases o with
  | none => cases h
  | some z => exact ⟨z.1, z.2.1, z.2.2.1, z.2.2.2.1, z.2.2.2.2.1, z.2.2.2.2.2.1, z.2.2.2.2.2.2.1, z.2.2.2.2.2.2.2.1, z.2.2.2.2.2.2.2.2.1, z.2.2.2.2.2.2.2.2.2, rfl, h⟩
def jn0 {β : Type} (K : Option β) (B : Option β → Option β) : Option β := B K
theorem jn0_e {β : Type} {K : Option β} {B : Option β → Option β} {r : β} {P G : Prop} (hf : jn0 K B = some r) (h1 : K = some r → P) (h2 : ∀ j : Option β, (j = some r → P) → B j = some r → G) : G := h2 K h1 hf
def jn1 {β A1 : Type} (K : A1 → Option β) (B : (A1 → Option β) → Option β) : Option β := B K
theorem jn1_e {β A1 : Type} {K : A1 → Option β} {B : (A1 → Option β) → Option β} {r : β} {P : A1 → Prop} {G : Prop} (hf : jn1 K B = some r) (h1 : ∀ x1, K x1 = some r → P x1) (h2 : ∀ j : A1 → Option β, (∀ x1, j x1 = some r → P x1) → B j = some r → G) : G := h2 K h1 hf
def jn2 {β A1 A2 : Type} (K : A1 → A2 → Option β) (B : (A1 → A2 → Option β) → Option β) : Option β := B K
theorem jn2_e {β A1 A2 : Type} {K : A1 → A2 → Option β} {B : (A1 → A2 → Option β) → Option β} {r : β} {P : A1 → A2 → Prop} {G : Prop} (hf : jn2 K B = some r) (h1 : ∀ x1 x2, K x1 x2 = some r → P x1 x2) (h2 : ∀ j : A1 → A2 → Option β, (∀ x1 x2, j x1 x2 = some r → P x1 x2) → B j = some r → G) : G := h2 K h1 hf
def jn3 {β A1 A2 A3 : Type} (K : A1 → A2 → A3 → Option β) (B : (A1 → A2 → A3 → Option β) → Option β) : Option β := B K
theorem jn3_e {β A1 A2 A3 : Type} {K : A1 → A2 → A3 → Option β} {B : (A1 → A2 → A3 → Option β) → Option β} {r : β} {P : A1 → A2 → A3 → Prop} {G : Prop} (hf : jn3 K B = some r) (h1 : ∀ x1 x2 x3, K x1 x2 x3 = some r → P x1 x2 x3) (h2 : ∀ j : A1 → A2 → A3 → Option β, (∀ x1 x2 x3, j x1 x2 x3 = some r → P x1 x2 x3) → B j = some r → G) : G := h2 K h1 hf
def jn4 {β A1 A2 A3 A4 : Type} (K : A1 → A2 → A3 → A4 → Option β) (B : (A1 → A2 → A3 → A4 → Option β) → Option β) : Option β := B K
theorem jn4_e {β A1 A2 A3 A4 : Type} {K : A1 → A2 → A3 → A4 → Option β} {B : (A1 → A2 → A3 → A4 → Option β) → Option β} {r : β} {P : A1 → A2 → A3 → A4 → Prop} {G : Prop} (hf : jn4 K B = some r) (h1 : ∀ x1 x2 x3 x4, K x1 x2 x3 x4 = some r → P x1 x2 x3 x4) (h2 : ∀ j : A1 → A2 → A3 → A4 → Option β, (∀ x1 x2 x3 x4, j x1 x2 x3 x4 = some r → P x1 x2 x3 x4) → B j = some r → G) : G := h2 K h1 hf
def jn5 {β A1 A2 A3 A4 A5 : Type} (K : A1 → A2 → A3 → A4 → A5 → Option β) (B : (A1 → A2 → A3 → A4 → A5 → Option β) → Option β) : Option β := B K
theorem jn5_e {β A1 A2 A3 A4 A5 : Type} {K : A1 → A2 → A3 → A4 → A5 → Option β} {B : (A1 → A2 → A3 → A4 → A5 → Option β) → Option β} {r : β} {P : A1 → A2 → A3 → A4 → A5 → Prop} {G : Prop} (hf : jn5 K B = some r) (h1 : ∀ x1 x2 x3 x4 x5, K x1 x2 x3 x4 x5 = some r → P x1 x2 x3 x4 x5) (h2 : ∀ j : A1 → A2 → A3 → A4 → A5 → Option β, (∀ x1 x2 x3 x4 x5, j x1 x2 x3 x4 x5 = some r → P x1 x2 x3 x4 x5) → B j = some r → G) : G := h2 K h1 hf
def jn9 {β A1 A2 A3 A4 A5 A6 A7 A8 A9 : Type} (K : A1 → A2 → A3 → A4 → A5 → A6 → A7 → A8 → A9 → Option β) (B : (A1 → A2 → A3 → A4 → A5 → A6 → A7 → A8 → A9 → Option β) → Option β) : Option β := B K
theorem jn9_e {β A1 A2 A3 A4 A5 A6 A7 A8 A9 : Type} {K : A1 → A2 → A3 → A4 → A5 → A6 → A7 → A8 → A9 → Option β} {B : (A1 → A2 → A3 → A4 → A5 → A6 → A7 → A8 → A9 → Option β) → Option β} {r : β} {P : A1 → A2 → A3 → A4 → A5 → A6 → A7 → A8 → A9 → Prop} {G : Prop} (hf : jn9 K B = some r) (h1 : ∀ x1 x2 x3 x4 x5 x6 x7 x8 x9, K x1 x2 x3 x4 x5 x6 x7 x8 x9 = some r → P x1 x2 x3 x4 x5 x6 x7 x8 x9) (h2 : ∀ j : A1 → A2 → A3 → A4 → A5 → A6 → A7 → A8 → A9 → Option β, (∀ x1 x2 x3 x4 x5 x6 x7 x8 x9, j x1 x2 x3 x4 x5 x6 x7 x8 x9 = some r → P x1 x2 x3 x4 x5 x6 x7 x8 x9) → B j = some r → G) : G := h2 K h1 hf
def jn10 {β A1 A2 A3 A4 A5 A6 A7 A8 A9 A10 : Type} (K : A1 → A2 → A3 → A4 → A5 → A6 → A7 → A8 → A9 → A10 → Option β) (B : (A1 → A2 → A3 → A4 → A5 → A6 → A7 → A8 → A9 → A10 → Option β) → Option β) : Option β := B K
theorem jn10_e {β A1 A2 A3 A4 A5 A6 A7 A8 A9 A10 : Type} {K : A1 → A2 → A3 → A4 → A5 → A6 → A7 → A8 → A9 → A10 → Option β} {B : (A1 → A2 → A3 → A4 → A5 → A6 → A7 → A8 → A9 → A10 → Option β) → Option β} {r : β} {P : A1 → A2 → A3 → A4 → A5 → A6 → A7 → A8 → A9 → A10 → Prop} {G : Prop} (hf : jn10 K B = some r) (h1 : ∀ x1 x2 x3 x4 x5 x6 x7 x8 x9 x10, K x1 x2 x3 x4 x5 x6 x7 x8 x9 x10 = some r → P x1 x2 x3 x4 x5 x6 x7 x8 x9 x10) (h2 : ∀ j : A1 → A2 → A3 → A4 → A5 → A6 → A7 → A8 → A9 → A10 → Option β, (∀ x1 x2 x3 x4 x5 x6 x7 x8 x9 x10, j x1 x2 x3 x4 x5 x6 x7 x8 x9 x10 = some r → P x1 x2 x3 x4 x5 x6 x7 x8 x9 x10) → B j = some r → G) : G := h2 K h1 hf
def lp1_0 {β A1 : Type} (body : A1 → (A1 → Option β) → (Option β) → Option β) (k : Option β) : Nat → A1 → Option β
  | 0, _ => none
  | n + 1, x1 => body x1 (lp1_0 body k n) k
theorem lp1_0_J {β A1 : Type} {body : A1 → (A1 → Option β) → (Option β) → Option β} {k : Option β} {n : Nat} {r : β} {P : A1 → Prop} {Q : Prop}
    (hb : ∀ x1 (nx : A1 → Option β) (ex : Option β), (∀ x1, nx x1 = some r → P x1) → (ex  = some r → Q ) → body x1 nx ex = some r → P x1)
    (hk : k  = some r → Q ) {x1} (hf : lp1_0 body k n x1 = some r) : P x1 := by
  induction n generalizing x1 with
  | zero => cases hf
  | succ n ih => exact hb x1 _ _ (fun x1 h => ih h) hk hf
def lp1_1 {β A1 B1 : Type} (body : A1 → (A1 → Option β) → (B1 → Option β) → Option β) (k : B1 → Option β) : Nat → A1 → Option β
  | 0, _ => none
  | n + 1, x1 => body x1 (lp1_1 body k n) k
theorem lp1_1_J {β A1 B1 : Type} {body : A1 → (A1 → Option β) → (B1 → Option β) → Option β} {k : B1 → Option β} {n : Nat} {r : β} {P : A1 → Prop} {Q : B1 → Prop}
    (hb : ∀ x1 (nx : A1 → Option β) (ex : B1 → Option β), (∀ x1, nx x1 = some r → P x1) → (∀ y1, ex y1 = some r → Q y1) → body x1 nx ex = some r → P x1)
    (hk : ∀ y1, k y1 = some r → Q y1) {x1} (hf : lp1_1 body k n x1 = some r) : P x1 := by
  induction n generalizing x1 with
  | zero => cases hf
  | succ n ih => exact hb x1 _ _ (fun x1 h => ih h) hk hf
def lp2_0 {β A1 A2 : Type} (body : A1 → A2 → (A1 → A2 → Option β) → (Option β) → Option β) (k : Option β) : Nat → A1 → A2 → Option β
  | 0, _, _ => none
  | n + 1, x1, x2 => body x1 x2 (lp2_0 body k n) k
theorem lp2_0_J {β A1 A2 : Type} {body : A1 → A2 → (A1 → A2 → Option β) → (Option β) → Option β} {k : Option β} {n : Nat} {r : β} {P : A1 → A2 → Prop} {Q : Prop}
    (hb : ∀ x1 x2 (nx : A1 → A2 → Option β) (ex : Option β), (∀ x1 x2, nx x1 x2 = some r → P x1 x2) → (ex  = some r → Q ) → body x1 x2 nx ex = some r → P x1 x2)
    (hk : k  = some r → Q ) {x1 x2} (hf : lp2_0 body k n x1 x2 = some r) : P x1 x2 := by
  induction n generalizing x1 x2 with
  | zero => cases hf
  | succ n ih => exact hb x1 x2 _ _ (fun x1 x2 h => ih h) hk hf
def lp2_1 {β A1 A2 B1 : Type} (body : A1 → A2 → (A1 → A2 → Option β) → (B1 → Option β) → Option β) (k : B1 → Option β) : Nat → A1 → A2 → Option β
  | 0, _, _ => none
  | n + 1, x1, x2 => body x1 x2 (lp2_1 body k n) k
theorem lp2_1_J {β A1 A2 B1 : Type} {body : A1 → A2 → (A1 → A2 → Option β) → (B1 → Option β) → Option β} {k : B1 → Option β} {n : Nat} {r : β} {P : A1 → A2 → Prop} {Q : B1 → Prop}
    (hb : ∀ x1 x2 (nx : A1 → A2 → Option β) (ex : B1 → Option β), (∀ x1 x2, nx x1 x2 = some r → P x1 x2) → (∀ y1, ex y1 = some r → Q y1) → body x1 x2 nx ex = some r → P x1 x2)
    (hk : ∀ y1, k y1 = some r → Q y1) {x1 x2} (hf : lp2_1 body k n x1 x2 = some r) : P x1 x2 := by
  induction n generalizing x1 x2 with
  | zero => cases hf
  | succ n ih => exact hb x1 x2 _ _ (fun x1 x2 h => ih h) hk hf
def lp3_1 {β A1 A2 A3 B1 : Type} (body : A1 → A2 → A3 → (A1 → A2 → A3 → Option β) → (B1 → Option β) → Option β) (k : B1 → Option β) : Nat → A1 → A2 → A3 → Option β
  | 0, _, _, _ => none
  | n + 1, x1, x2, x3 => body x1 x2 x3 (lp3_1 body k n) k
theorem lp3_1_J {β A1 A2 A3 B1 : Type} {body : A1 → A2 → A3 → (A1 → A2 → A3 → Option β) → (B1 → Option β) → Option β} {k : B1 → Option β} {n : Nat} {r : β} {P : A1 → A2 → A3 → Prop} {Q : B1 → Prop}
    (hb : ∀ x1 x2 x3 (nx : A1 → A2 → A3 → Option β) (ex : B1 → Option β), (∀ x1 x2 x3, nx x1 x2 x3 = some r → P x1 x2 x3) → (∀ y1, ex y1 = some r → Q y1) → body x1 x2 x3 nx ex = some r → P x1 x2 x3)
    (hk : ∀ y1, k y1 = some r → Q y1) {x1 x2 x3} (hf : lp3_1 body k n x1 x2 x3 = some r) : P x1 x2 x3 := by
  induction n generalizing x1 x2 x3 with
  | zero => cases hf
  | succ n ih => exact hb x1 x2 x3 _ _ (fun x1 x2 x3 h => ih h) hk hf
def lp3_2 {β A1 A2 A3 B1 B2 : Type} (body : A1 → A2 → A3 → (A1 → A2 → A3 → Option β) → (B1 → B2 → Option β) → Option β) (k : B1 → B2 → Option β) : Nat → A1 → A2 → A3 → Option β
  | 0, _, _, _ => none
  | n + 1, x1, x2, x3 => body x1 x2 x3 (lp3_2 body k n) k
theorem lp3_2_J {β A1 A2 A3 B1 B2 : Type} {body : A1 → A2 → A3 → (A1 → A2 → A3 → Option β) → (B1 → B2 → Option β) → Option β} {k : B1 → B2 → Option β} {n : Nat} {r : β} {P : A1 → A2 → A3 → Prop} {Q : B1 → B2 → Prop}
    (hb : ∀ x1 x2 x3 (nx : A1 → A2 → A3 → Option β) (ex : B1 → B2 → Option β), (∀ x1 x2 x3, nx x1 x2 x3 = some r → P x1 x2 x3) → (∀ y1 y2, ex y1 y2 = some r → Q y1 y2) → body x1 x2 x3 nx ex = some r → P x1 x2 x3)
    (hk : ∀ y1 y2, k y1 y2 = some r → Q y1 y2) {x1 x2 x3} (hf : lp3_2 body k n x1 x2 x3 = some r) : P x1 x2 x3 := by
  induction n generalizing x1 x2 x3 with
  | zero => cases hf
  | succ n ih => exact hb x1 x2 x3 _ _ (fun x1 x2 x3 h => ih h) hk hf
def lp4_3 {β A1 A2 A3 A4 B1 B2 B3 : Type} (body : A1 → A2 → A3 → A4 → (A1 → A2 → A3 → A4 → Option β) → (B1 → B2 → B3 → Option β) → Option β) (k : B1 → B2 → B3 → Option β) : Nat → A1 → A2 → A3 → A4 → Option β
  | 0, _, _, _, _ => none
  | n + 1, x1, x2, x3, x4 => body x1 x2 x3 x4 (lp4_3 body k n) k
theorem lp4_3_J {β A1 A2 A3 A4 B1 B2 B3 : Type} {body : A1 → A2 → A3 → A4 → (A1 → A2 → A3 → A4 → Option β) → (B1 → B2 → B3 → Option β) → Option β} {k : B1 → B2 → B3 → Option β} {n : Nat} {r : β} {P : A1 → A2 → A3 → A4 → Prop} {Q : B1 → B2 → B3 → Prop}
    (hb : ∀ x1 x2 x3 x4 (nx : A1 → A2 → A3 → A4 → Option β) (ex : B1 → B2 → B3 → Option β), (∀ x1 x2 x3 x4, nx x1 x2 x3 x4 = some r → P x1 x2 x3 x4) → (∀ y1 y2 y3, ex y1 y2 y3 = some r → Q y1 y2 y3) → body x1 x2 x3 x4 nx ex = some r → P x1 x2 x3 x4)
    (hk : ∀ y1 y2 y3, k y1 y2 y3 = some r → Q y1 y2 y3) {x1 x2 x3 x4} (hf : lp4_3 body k n x1 x2 x3 x4 = some r) : P x1 x2 x3 x4 := by
  induction n generalizing x1 x2 x3 x4 with
  | zero => cases hf
  | succ n ih => exact hb x1 x2 x3 x4 _ _ (fun x1 x2 x3 x4 h => ih h) hk hf
def lp5_4 {β A1 A2 A3 A4 A5 B1 B2 B3 B4 : Type} (body : A1 → A2 → A3 → A4 → A5 → (A1 → A2 → A3 → A4 → A5 → Option β) → (B1 → B2 → B3 → B4 → Option β) → Option β) (k : B1 → B2 → B3 → B4 → Option β) : Nat → A1 → A2 → A3 → A4 → A5 → Option β
  | 0, _, _, _, _, _ => none
  | n + 1, x1, x2, x3, x4, x5 => body x1 x2 x3 x4 x5 (lp5_4 body k n) k
theorem lp5_4_J {β A1 A2 A3 A4 A5 B1 B2 B3 B4 : Type} {body : A1 → A2 → A3 → A4 → A5 → (A1 → A2 → A3 → A4 → A5 → Option β) → (B1 → B2 → B3 → B4 → Option β) → Option β} {k : B1 → B2 → B3 → B4 → Option β} {n : Nat} {r : β} {P : A1 → A2 → A3 → A4 → A5 → Prop} {Q : B1 → B2 → B3 → B4 → Prop}
    (hb : ∀ x1 x2 x3 x4 x5 (nx : A1 → A2 → A3 → A4 → A5 → Option β) (ex : B1 → B2 → B3 → B4 → Option β), (∀ x1 x2 x3 x4 x5, nx x1 x2 x3 x4 x5 = some r → P x1 x2 x3 x4 x5) → (∀ y1 y2 y3 y4, ex y1 y2 y3 y4 = some r → Q y1 y2 y3 y4) → body x1 x2 x3 x4 x5 nx ex = some r → P x1 x2 x3 x4 x5)
    (hk : ∀ y1 y2 y3 y4, k y1 y2 y3 y4 = some r → Q y1 y2 y3 y4) {x1 x2 x3 x4 x5} (hf : lp5_4 body k n x1 x2 x3 x4 x5 = some r) : P x1 x2 x3 x4 x5 := by
  induction n generalizing x1 x2 x3 x4 x5 with
  | zero => cases hf
  | succ n ih => exact hb x1 x2 x3 x4 x5 _ _ (fun x1 x2 x3 x4 x5 h => ih h) hk hf
def lp6_5 {β A1 A2 A3 A4 A5 A6 B1 B2 B3 B4 B5 : Type} (body : A1 → A2 → A3 → A4 → A5 → A6 → (A1 → A2 → A3 → A4 → A5 → A6 → Option β) → (B1 → B2 → B3 → B4 → B5 → Option β) → Option β) (k : B1 → B2 → B3 → B4 → B5 → Option β) : Nat → A1 → A2 → A3 → A4 → A5 → A6 → Option β
  | 0, _, _, _, _, _, _ => none
  | n + 1, x1, x2, x3, x4, x5, x6 => body x1 x2 x3 x4 x5 x6 (lp6_5 body k n) k
theorem lp6_5_J {β A1 A2 A3 A4 A5 A6 B1 B2 B3 B4 B5 : Type} {body : A1 → A2 → A3 → A4 → A5 → A6 → (A1 → A2 → A3 → A4 → A5 → A6 → Option β) → (B1 → B2 → B3 → B4 → B5 → Option β) → Option β} {k : B1 → B2 → B3 → B4 → B5 → Option β} {n : Nat} {r : β} {P : A1 → A2 → A3 → A4 → A5 → A6 → Prop} {Q : B1 → B2 → B3 → B4 → B5 → Prop}
    (hb : ∀ x1 x2 x3 x4 x5 x6 (nx : A1 → A2 → A3 → A4 → A5 → A6 → Option β) (ex : B1 → B2 → B3 → B4 → B5 → Option β), (∀ x1 x2 x3 x4 x5 x6, nx x1 x2 x3 x4 x5 x6 = some r → P x1 x2 x3 x4 x5 x6) → (∀ y1 y2 y3 y4 y5, ex y1 y2 y3 y4 y5 = some r → Q y1 y2 y3 y4 y5) → body x1 x2 x3 x4 x5 x6 nx ex = some r → P x1 x2 x3 x4 x5 x6)
    (hk : ∀ y1 y2 y3 y4 y5, k y1 y2 y3 y4 y5 = some r → Q y1 y2 y3 y4 y5) {x1 x2 x3 x4 x5 x6} (hf : lp6_5 body k n x1 x2 x3 x4 x5 x6 = some r) : P x1 x2 x3 x4 x5 x6 := by
  induction n generalizing x1 x2 x3 x4 x5 x6 with
  | zero => cases hf
  | succ n ih => exact hb x1 x2 x3 x4 x5 x6 _ _ (fun x1 x2 x3 x4 x5 x6 h => ih h) hk hf
def lp7_5 {β A1 A2 A3 A4 A5 A6 A7 B1 B2 B3 B4 B5 : Type} (body : A1 → A2 → A3 → A4 → A5 → A6 → A7 → (A1 → A2 → A3 → A4 → A5 → A6 → A7 → Option β) → (B1 → B2 → B3 → B4 → B5 → Option β) → Option β) (k : B1 → B2 → B3 → B4 → B5 → Option β) : Nat → A1 → A2 → A3 → A4 → A5 → A6 → A7 → Option β
  | 0, _, _, _, _, _, _, _ => none
  | n + 1, x1, x2, x3, x4, x5, x6, x7 => body x1 x2 x3 x4 x5 x6 x7 (lp7_5 body k n) k
theorem lp7_5_J {β A1 A2 A3 A4 A5 A6 A7 B1 B2 B3 B4 B5 : Type} {body : A1 → A2 → A3 → A4 → A5 → A6 → A7 → (A1 → A2 → A3 → A4 → A5 → A6 → A7 → Option β) → (B1 → B2 → B3 → B4 → B5 → Option β) → Option β} {k : B1 → B2 → B3 → B4 → B5 → Option β} {n : Nat} {r : β} {P : A1 → A2 → A3 → A4 → A5 → A6 → A7 → Prop} {Q : B1 → B2 → B3 → B4 → B5 → Prop}
    (hb : ∀ x1 x2 x3 x4 x5 x6 x7 (nx : A1 → A2 → A3 → A4 → A5 → A6 → A7 → Option β) (ex : B1 → B2 → B3 → B4 → B5 → Option β), (∀ x1 x2 x3 x4 x5 x6 x7, nx x1 x2 x3 x4 x5 x6 x7 = some r → P x1 x2 x3 x4 x5 x6 x7) → (∀ y1 y2 y3 y4 y5, ex y1 y2 y3 y4 y5 = some r → Q y1 y2 y3 y4 y5) → body x1 x2 x3 x4 x5 x6 x7 nx ex = some r → P x1 x2 x3 x4 x5 x6 x7)
    (hk : ∀ y1 y2 y3 y4 y5, k y1 y2 y3 y4 y5 = some r → Q y1 y2 y3 y4 y5) {x1 x2 x3 x4 x5 x6 x7} (hf : lp7_5 body k n x1 x2 x3 x4 x5 x6 x7 = some r) : P x1 x2 x3 x4 x5 x6 x7 := by
  induction n generalizing x1 x2 x3 x4 x5 x6 x7 with
  | zero => cases hf
  | succ n ih => exact hb x1 x2 x3 x4 x5 x6 x7 _ _ (fun x1 x2 x3 x4 x5 x6 x7 h => ih h) hk hf
def lp8_7 {β A1 A2 A3 A4 A5 A6 A7 A8 B1 B2 B3 B4 B5 B6 B7 : Type} (body : A1 → A2 → A3 → A4 → A5 → A6 → A7 → A8 → (A1 → A2 → A3 → A4 → A5 → A6 → A7 → A8 → Option β) → (B1 → B2 → B3 → B4 → B5 → B6 → B7 → Option β) → Option β) (k : B1 → B2 → B3 → B4 → B5 → B6 → B7 → Option β) : Nat → A1 → A2 → A3 → A4 → A5 → A6 → A7 → A8 → Option β
  | 0, _, _, _, _, _, _, _, _ => none
  | n + 1, x1, x2, x3, x4, x5, x6, x7, x8 => body x1 x2 x3 x4 x5 x6 x7 x8 (lp8_7 body k n) k
theorem lp8_7_J {β A1 A2 A3 A4 A5 A6 A7 A8 B1 B2 B3 B4 B5 B6 B7 : Type} {body : A1 → A2 → A3 → A4 → A5 → A6 → A7 → A8 → (A1 → A2 → A3 → A4 → A5 → A6 → A7 → A8 → Option β) → (B1 → B2 → B3 → B4 → B5 → B6 → B7 → Option β) → Option β} {k : B1 → B2 → B3 → B4 → B5 → B6 → B7 → Option β} {n : Nat} {r : β} {P : A1 → A2 → A3 → A4 → A5 → A6 → A7 → A8 → Prop} {Q : B1 → B2 → B3 → B4 → B5 → B6 → B7 → Prop}
    (hb : ∀ x1 x2 x3 x4 x5 x6 x7 x8 (nx : A1 → A2 → A3 → A4 → A5 → A6 → A7 → A8 → Option β) (ex : B1 → B2 → B3 → B4 → B5 → B6 → B7 → Option β), (∀ x1 x2 x3 x4 x5 x6 x7 x8, nx x1 x2 x3 x4 x5 x6 x7 x8 = some r → P x1 x2 x3 x4 x5 x6 x7 x8) → (∀ y1 y2 y3 y4 y5 y6 y7, ex y1 y2 y3 y4 y5 y6 y7 = some r → Q y1 y2 y3 y4 y5 y6 y7) → body x1 x2 x3 x4 x5 x6 x7 x8 nx ex = some r → P x1 x2 x3 x4 x5 x6 x7 x8)
    (hk : ∀ y1 y2 y3 y4 y5 y6 y7, k y1 y2 y3 y4 y5 y6 y7 = some r → Q y1 y2 y3 y4 y5 y6 y7) {x1 x2 x3 x4 x5 x6 x7 x8} (hf : lp8_7 body k n x1 x2 x3 x4 x5 x6 x7 x8 = some r) : P x1 x2 x3 x4 x5 x6 x7 x8 := by
  induction n generalizing x1 x2 x3 x4 x5 x6 x7 x8 with
  | zero => cases hf
  | succ n ih => exact hb x1 x2 x3 x4 x5 x6 x7 x8 _ _ (fun x1 x2 x3 x4 x5 x6 x7 x8 h => ih h) hk hf
def lp9_8 {β A1 A2 A3 A4 A5 A6 A7 A8 A9 B1 B2 B3 B4 B5 B6 B7 B8 : Type} (body : A1 → A2 → A3 → A4 → A5 → A6 → A7 → A8 → A9 → (A1 → A2 → A3 → A4 → A5 → A6 → A7 → A8 → A9 → Option β) → (B1 → B2 → B3 → B4 → B5 → B6 → B7 → B8 → Option β) → Option β) (k : B1 → B2 → B3 → B4 → B5 → B6 → B7 → B8 → Option β) : Nat → A1 → A2 → A3 → A4 → A5 → A6 → A7 → A8 → A9 → Option β
  | 0, _, _, _, _, _, _, _, _, _ => none
  | n + 1, x1, x2, x3, x4, x5, x6, x7, x8, x9 => body x1 x2 x3 x4 x5 x6 x7 x8 x9 (lp9_8 body k n) k
theorem lp9_8_J {β A1 A2 A3 A4 A5 A6 A7 A8 A9 B1 B2 B3 B4 B5 B6 B7 B8 : Type} {body : A1 → A2 → A3 → A4 → A5 → A6 → A7 → A8 → A9 → (A1 → A2 → A3 → A4 → A5 → A6 → A7 → A8 → A9 → Option β) → (B1 → B2 → B3 → B4 → B5 → B6 → B7 → B8 → Option β) → Option β} {k : B1 → B2 → B3 → B4 → B5 → B6 → B7 → B8 → Option β} {n : Nat} {r : β} {P : A1 → A2 → A3 → A4 → A5 → A6 → A7 → A8 → A9 → Prop} {Q : B1 → B2 → B3 → B4 → B5 → B6 → B7 → B8 → Prop}
    (hb : ∀ x1 x2 x3 x4 x5 x6 x7 x8 x9 (nx : A1 → A2 → A3 → A4 → A5 → A6 → A7 → A8 → A9 → Option β) (ex : B1 → B2 → B3 → B4 → B5 → B6 → B7 → B8 → Option β), (∀ x1 x2 x3 x4 x5 x6 x7 x8 x9, nx x1 x2 x3 x4 x5 x6 x7 x8 x9 = some r → P x1 x2 x3 x4 x5 x6 x7 x8 x9) → (∀ y1 y2 y3 y4 y5 y6 y7 y8, ex y1 y2 y3 y4 y5 y6 y7 y8 = some r → Q y1 y2 y3 y4 y5 y6 y7 y8) → body x1 x2 x3 x4 x5 x6 x7 x8 x9 nx ex = some r → P x1 x2 x3 x4 x5 x6 x7 x8 x9)
    (hk : ∀ y1 y2 y3 y4 y5 y6 y7 y8, k y1 y2 y3 y4 y5 y6 y7 y8 = some r → Q y1 y2 y3 y4 y5 y6 y7 y8) {x1 x2 x3 x4 x5 x6 x7 x8 x9} (hf : lp9_8 body k n x1 x2 x3 x4 x5 x6 x7 x8 x9 = some r) : P x1 x2 x3 x4 x5 x6 x7 x8 x9 := by
  induction n generalizing x1 x2 x3 x4 x5 x6 x7 x8 x9 with
  | zero => cases hf
  | succ n ih => exact hb x1 x2 x3 x4 x5 x6 x7 x8 x9 _ _ (fun x1 x2 x3 x4 x5 x6 x7 x8 x9 h => ih h) hk hf
def lp10_8 {β A1 A2 A3 A4 A5 A6 A7 A8 A9 A10 B1 B2 B3 B4 B5 B6 B7 B8 : Type} (body : A1 → A2 → A3 → A4 → A5 → A6 → A7 → A8 → A9 → A10 → (A1 → A2 → A3 → A4 → A5 → A6 → A7 → A8 → A9 → A10 → Option β) → (B1 → B2 → B3 → B4 → B5 → B6 → B7 → B8 → Option β) → Option β) (k : B1 → B2 → B3 → B4 → B5 → B6 → B7 → B8 → Option β) : Nat → A1 → A2 → A3 → A4 → A5 → A6 → A7 → A8 → A9 → A10 → Option β
  | 0, _, _, _, _, _, _, _, _, _, _ => none
  | n + 1, x1, x2, x3, x4, x5, x6, x7, x8, x9, x10 => body x1 x2 x3 x4 x5 x6 x7 x8 x9 x10 (lp10_8 body k n) k
theorem lp10_8_J {β A1 A2 A3 A4 A5 A6 A7 A8 A9 A10 B1 B2 B3 B4 B5 B6 B7 B8 : Type} {body : A1 → A2 → A3 → A4 → A5 → A6 → A7 → A8 → A9 → A10 → (A1 → A2 → A3 → A4 → A5 → A6 → A7 → A8 → A9 → A10 → Option β) → (B1 → B2 → B3 → B4 → B5 → B6 → B7 → B8 → Option β) → Option β} {k : B1 → B2 → B3 → B4 → B5 → B6 → B7 → B8 → Option β} {n : Nat} {r : β} {P : A1 → A2 → A3 → A4 → A5 → A6 → A7 → A8 → A9 → A10 → Prop} {Q : B1 → B2 → B3 → B4 → B5 → B6 → B7 → B8 → Prop}
    (hb : ∀ x1 x2 x3 x4 x5 x6 x7 x8 x9 x10 (nx : A1 → A2 → A3 → A4 → A5 → A6 → A7 → A8 → A9 → A10 → Option β) (ex : B1 → B2 → B3 → B4 → B5 → B6 → B7 → B8 → Option β), (∀ x1 x2 x3 x4 x5 x6 x7 x8 x9 x10, nx x1 x2 x3 x4 x5 x6 x7 x8 x9 x10 = some r → P x1 x2 x3 x4 x5 x6 x7 x8 x9 x10) → (∀ y1 y2 y3 y4 y5 y6 y7 y8, ex y1 y2 y3 y4 y5 y6 y7 y8 = some r → Q y1 y2 y3 y4 y5 y6 y7 y8) → body x1 x2 x3 x4 x5 x6 x7 x8 x9 x10 nx ex = some r → P x1 x2 x3 x4 x5 x6 x7 x8 x9 x10)
    (hk : ∀ y1 y2 y3 y4 y5 y6 y7 y8, k y1 y2 y3 y4 y5 y6 y7 y8 = some r → Q y1 y2 y3 y4 y5 y6 y7 y8) {x1 x2 x3 x4 x5 x6 x7 x8 x9 x10} (hf : lp10_8 body k n x1 x2 x3 x4 x5 x6 x7 x8 x9 x10 = some r) : P x1 x2 x3 x4 x5 x6 x7 x8 x9 x10 := by
  induction n generalizing x1 x2 x3 x4 x5 x6 x7 x8 x9 x10 with
  | zero => cases hf
  | succ n ih => exact hb x1 x2 x3 x4 x5 x6 x7 x8 x9 x10 _ _ (fun x1 x2 x3 x4 x5 x6 x7 x8 x9 x10 h => ih h) hk hf
def lp10_9 {β A1 A2 A3 A4 A5 A6 A7 A8 A9 A10 B1 B2 B3 B4 B5 B6 B7 B8 B9 : Type} (body : A1 → A2 → A3 → A4 → A5 → A6 → A7 → A8 → A9 → A10 → (A1 → A2 → A3 → A4 → A5 → A6 → A7 → A8 → A9 → A10 → Option β) → (B1 → B2 → B3 → B4 → B5 → B6 → B7 → B8 → B9 → Option β) → Option β) (k : B1 → B2 → B3 → B4 → B5 → B6 → B7 → B8 → B9 → Option β) : Nat → A1 → A2 → A3 → A4 → A5 → A6 → A7 → A8 → A9 → A10 → Option β
  | 0, _, _, _, _, _, _, _, _, _, _ => none
  | n + 1, x1, x2, x3, x4, x5, x6, x7, x8, x9, x10 => body x1 x2 x3 x4 x5 x6 x7 x8 x9 x10 (lp10_9 body k n) k
theorem lp10_9_J {β A1 A2 A3 A4 A5 A6 A7 A8 A9 A10 B1 B2 B3 B4 B5 B6 B7 B8 B9 : Type} {body : A1 → A2 → A3 → A4 → A5 → A6 → A7 → A8 → A9 → A10 → (A1 → A2 → A3 → A4 → A5 → A6 → A7 → A8 → A9 → A10 → Option β) → (B1 → B2 → B3 → B4 → B5 → B6 → B7 → B8 → B9 → Option β) → Option β} {k : B1 → B2 → B3 → B4 → B5 → B6 → B7 → B8 → B9 → Option β} {n : Nat} {r : β} {P : A1 → A2 → A3 → A4 → A5 → A6 → A7 → A8 → A9 → A10 → Prop} {Q : B1 → B2 → B3 → B4 → B5 → B6 → B7 → B8 → B9 → Prop}
    (hb : ∀ x1 x2 x3 x4 x5 x6 x7 x8 x9 x10 (nx : A1 → A2 → A3 → A4 → A5 → A6 → A7 → A8 → A9 → A10 → Option β) (ex : B1 → B2 → B3 → B4 → B5 → B6 → B7 → B8 → B9 → Option β), (∀ x1 x2 x3 x4 x5 x6 x7 x8 x9 x10, nx x1 x2 x3 x4 x5 x6 x7 x8 x9 x10 = some r → P x1 x2 x3 x4 x5 x6 x7 x8 x9 x10) → (∀ y1 y2 y3 y4 y5 y6 y7 y8 y9, ex y1 y2 y3 y4 y5 y6 y7 y8 y9 = some r → Q y1 y2 y3 y4 y5 y6 y7 y8 y9) → body x1 x2 x3 x4 x5 x6 x7 x8 x9 x10 nx ex = some r → P x1 x2 x3 x4 x5 x6 x7 x8 x9 x10)
    (hk : ∀ y1 y2 y3 y4 y5 y6 y7 y8 y9, k y1 y2 y3 y4 y5 y6 y7 y8 y9 = some r → Q y1 y2 y3 y4 y5 y6 y7 y8 y9) {x1 x2 x3 x4 x5 x6 x7 x8 x9 x10} (hf : lp10_9 body k n x1 x2 x3 x4 x5 x6 x7 x8 x9 x10 = some r) : P x1 x2 x3 x4 x5 x6 x7 x8 x9 x10 := by
  induction n generalizing x1 x2 x3 x4 x5 x6 x7 x8 x9 x10 with
  | zero => cases hf
  | succ n ih => exact hb x1 x2 x3 x4 x5 x6 x7 x8 x9 x10 _ _ (fun x1 x2 x3 x4 x5 x6 x7 x8 x9 x10 h => ih h) hk hf
abbrev wGame (E : En) (a : Nat → Nat) (b : Nat) (table_slots : Nat → Int32) (table_rows : Nat → Int32) (table_size : Int32) (known : Nat → Int32) : va_W := [ob (a b) 0 [.ref (a (b + 1)), .ref (a (b + 4))], ob (a (b + 1)) 5 [.ref (a (b + 2)), .ref (a (b + 3)), .int table_size], ia E (a (b + 2)) 1024 table_slots, ia E (a (b + 3)) 640 table_rows, ia E (a (b + 4)) 640 known]
abbrev wPage (E : En) (a : Nat → Nat) (b : Nat) (codes : Nat → Int32) (size : Int32) : va_W := [ob (a b) 1 [.ref (a (b + 1)), .int size], ia E (a (b + 1)) 14 codes]
abbrev wPos (E : En) (a : Nat → Nat) (b : Nat) (made : Nat → Int32) (movers : Nat → Int32) (row : Int32) (numbers : Int32) (size : Int32) : va_W := [ob (a b) 2 [.ref (a (b + 1)), .ref (a (b + 2)), .int row, .int numbers, .int size], ia E (a (b + 1)) 60 made, ia E (a (b + 2)) 60 movers]
abbrev wRules (E : En) (a : Nat → Nat) (b : Nat) (stones : Int32) (signs : Int32) (any : Int32) (back : Int32) (ring : Int32) (two : Int32) : va_W := [ob (a b) 3 [.int stones, .int signs, .int any, .int back, .int ring, .int two]]
abbrev wSearch (E : En) (a : Nat → Nat) (b : Nat) (table_slots : Nat → Int32) (table_rows : Nat → Int32) (table_size : Int32) (depths : Nat → Int32) (ways : Nat → Int32) (stuckRows : Int32) (soonestStuck : Int32) : va_W := [ob (a b) 4 [.ref (a (b + 1)), .ref (a (b + 4)), .ref (a (b + 5)), .int stuckRows, .int soonestStuck], ob (a (b + 1)) 5 [.ref (a (b + 2)), .ref (a (b + 3)), .int table_size], ia E (a (b + 2)) 1024 table_slots, ia E (a (b + 3)) 640 table_rows, ia E (a (b + 4)) 640 depths, ia E (a (b + 5)) 640 ways]
abbrev wTab (E : En) (a : Nat → Nat) (b : Nat) (slots : Nat → Int32) (rows : Nat → Int32) (size : Int32) : va_W := [ob (a b) 5 [.ref (a (b + 1)), .ref (a (b + 2)), .int size], ia E (a (b + 1)) 1024 slots, ia E (a (b + 2)) 640 rows]
abbrev wM (E : En) (a : Nat → Nat) (b : Nat) (m_stones : Int32) (m_any : Int32) (m_backward : Int32) (m_ring : Int32) (m_two : Int32) (m_brooks : Int32) (m_readRow : Nat → Int32) (m_rowNow : Nat → Int32) (m_frogOn : Nat → Int32) (m_frogs : Int32) (m_kindOf : Nat → Int32) (m_moved : Int32) (m_movedFrom : Nat → Int32) (m_movedTo : Nat → Int32) (m_pageLength : Int32) (m_page : Nat → Int32) (m_faultAt : Int32) (m_isWhole : Int32) (m_newMany : Int32) (m_newSigns : Int32) (m_newRow : Nat → Int32) (m_long0 : Int32) (m_row : Nat → Int32) (m_far : Nat → Int32) (m_ways : Nat → Int64) (m_queue : Nat → Int32) (m_queueEnd : Int32) (m_endMany : Int32) (m_endSoon : Int32) (m_won : Nat → Int32) (m_seedNow : Int64) (m_isKept : Int32) (m_keptBrook : Int32) (m_keptMoved : Int32) (m_keptRow : Nat → Int32) (m_keptFrog : Nat → Int32) (m_keptFrom : Nat → Int32) (m_keptTo : Nat → Int32) (m_h : Int64) : va_W := [ob (a b) 7 [.int m_stones, .int m_any, .int m_backward, .int m_ring, .int m_two, .int m_brooks, .ref (a (b + 1)), .ref (a (b + 2)), .ref (a (b + 3)), .int m_frogs, .ref (a (b + 4)), .int m_moved, .ref (a (b + 5)), .ref (a (b + 6)), .int m_pageLength, .ref (a (b + 7)), .int m_faultAt, .int m_isWhole, .int m_newMany, .int m_newSigns, .ref (a (b + 8)), .int m_long0, .ref (a (b + 9)), .ref (a (b + 10)), .ref (a (b + 11)), .ref (a (b + 12)), .int m_queueEnd, .int m_endMany, .int m_endSoon, .ref (a (b + 13)), .long m_seedNow, .int m_isKept, .int m_keptBrook, .int m_keptMoved, .ref (a (b + 14)), .ref (a (b + 15)), .ref (a (b + 16)), .ref (a (b + 17)), .long m_h], ia E (a (b + 1)) 7 m_readRow, ia E (a (b + 2)) 7 m_rowNow, ia E (a (b + 3)) 7 m_frogOn, ia E (a (b + 4)) 7 m_kindOf, ia E (a (b + 5)) 60 m_movedFrom, ia E (a (b + 6)) 60 m_movedTo, ba E (a (b + 7)) 14 m_page, ia E (a (b + 8)) 7 m_newRow, ia E (a (b + 9)) 7 m_row, ia E (a (b + 10)) 78125 m_far, ja E (a (b + 11)) 78125 m_ways, ia E (a (b + 12)) 78125 m_queue, ba E (a (b + 13)) 78125 m_won, ia E (a (b + 14)) 7 m_keptRow, ia E (a (b + 15)) 7 m_keptFrog, ia E (a (b + 16)) 60 m_keptFrom, ia E (a (b + 17)) 60 m_keptTo]
abbrev wRS (E : En) (a : Nat → Nat) (c b : Nat) (ru_stones : Int32) (ru_signs : Int32) (ru_any : Int32) (ru_back : Int32) (ru_ring : Int32) (ru_two : Int32) (table_slots : Nat → Int32) (table_rows : Nat → Int32) (table_size : Int32) (depths : Nat → Int32) (ways : Nat → Int32) (stuckRows : Int32) (soonestStuck : Int32) : va_W := wRules E a c ru_stones ru_signs ru_any ru_back ru_ring ru_two ++ (wSearch E a b table_slots table_rows table_size depths ways stuckRows soonestStuck)
abbrev wRG (E : En) (a : Nat → Nat) (c b : Nat) (ru_stones : Int32) (ru_signs : Int32) (ru_any : Int32) (ru_back : Int32) (ru_ring : Int32) (ru_two : Int32) (table_slots : Nat → Int32) (table_rows : Nat → Int32) (table_size : Int32) (known : Nat → Int32) : va_W := wRules E a c ru_stones ru_signs ru_any ru_back ru_ring ru_two ++ (wGame E a b table_slots table_rows table_size known)
abbrev wPos2 (E : En) (a : Nat → Nat) (b c : Nat) (made : Nat → Int32) (movers : Nat → Int32) (row : Int32) (numbers : Int32) (size : Int32) (o_made : Nat → Int32) (o_movers : Nat → Int32) (o_row : Int32) (o_numbers : Int32) (o_size : Int32) : va_W := wPos E a b made movers row numbers size ++ (wPos E a c o_made o_movers o_row o_numbers o_size)
abbrev wPos2b (E : En) (a : Nat → Nat) (c b : Nat) (o_made : Nat → Int32) (o_movers : Nat → Int32) (o_row : Int32) (o_numbers : Int32) (o_size : Int32) (made : Nat → Int32) (movers : Nat → Int32) (row : Int32) (numbers : Int32) (size : Int32) : va_W := wPos E a c o_made o_movers o_row o_numbers o_size ++ (wPos E a b made movers row numbers size)
abbrev wX (E : En) (a : Nat → Nat) (b : Nat) (page_codes : Nat → Int32) (page_size : Int32) (rules_stones : Int32) (rules_signs : Int32) (rules_any : Int32) (rules_back : Int32) (rules_ring : Int32) (rules_two : Int32) (otherRules_stones : Int32) (otherRules_signs : Int32) (otherRules_any : Int32) (otherRules_back : Int32) (otherRules_ring : Int32) (otherRules_two : Int32) (now_made : Nat → Int32) (now_movers : Nat → Int32) (now_row : Int32) (now_numbers : Int32) (now_size : Int32) (kept_made : Nat → Int32) (kept_movers : Nat → Int32) (kept_row : Int32) (kept_numbers : Int32) (kept_size : Int32) (toGoal_table_slots : Nat → Int32) (toGoal_table_rows : Nat → Int32) (toGoal_table_size : Int32) (toGoal_depths : Nat → Int32) (toGoal_ways : Nat → Int32) (toGoal_stuckRows : Int32) (toGoal_soonestStuck : Int32) (afresh_table_slots : Nat → Int32) (afresh_table_rows : Nat → Int32) (afresh_table_size : Int32) (afresh_depths : Nat → Int32) (afresh_ways : Nat → Int32) (afresh_stuckRows : Int32) (afresh_soonestStuck : Int32) (game_table_slots : Nat → Int32) (game_table_rows : Nat → Int32) (game_table_size : Int32) (game_known : Nat → Int32) (readRow : Int32) (goalRow : Int32) (frogs : Int32) (timesRead : Int32) (hasImage : Int32) : va_W := [ob (a b) 6 [.ref (a (b + 1)), .ref (a (b + 3)), .ref (a (b + 4)), .ref (a (b + 5)), .ref (a (b + 8)), .ref (a (b + 11)), .ref (a (b + 17)), .ref (a (b + 23)), .int readRow, .int goalRow, .int frogs, .int timesRead, .int hasImage]] ++ (wPage E a (b + 1) page_codes page_size ++ (wRules E a (b + 3) rules_stones rules_signs rules_any rules_back rules_ring rules_two ++ (wRules E a (b + 4) otherRules_stones otherRules_signs otherRules_any otherRules_back otherRules_ring otherRules_two ++ (wPos E a (b + 5) now_made now_movers now_row now_numbers now_size ++ (wPos E a (b + 8) kept_made kept_movers kept_row kept_numbers kept_size ++ (wSearch E a (b + 11) toGoal_table_slots toGoal_table_rows toGoal_table_size toGoal_depths toGoal_ways toGoal_stuckRows toGoal_soonestStuck ++ (wSearch E a (b + 17) afresh_table_slots afresh_table_rows afresh_table_size afresh_depths afresh_ways afresh_stuckRows afresh_soonestStuck ++ (wGame E a (b + 23) game_table_slots game_table_rows game_table_size game_known))))))))
theorem len_wGame {E : En} {a : Nat → Nat} {b : Nat} {table_slots : Nat → Int32} {table_rows : Nat → Int32} {table_size : Int32} {known : Nat → Int32} : (wGame E a b table_slots table_rows table_size known).length = 5 := rfl
theorem fst_wGame {E : En} {a : Nat → Nat} {b : Nat} {table_slots : Nat → Int32} {table_rows : Nat → Int32} {table_size : Int32} {known : Nat → Int32} : (wGame E a b table_slots table_rows table_size known).map (fun q => q.1) = [(a b), (a (b + 1)), (a (b + 2)), (a (b + 3)), (a (b + 4))] := rfl
theorem len_wPage {E : En} {a : Nat → Nat} {b : Nat} {codes : Nat → Int32} {size : Int32} : (wPage E a b codes size).length = 2 := rfl
theorem fst_wPage {E : En} {a : Nat → Nat} {b : Nat} {codes : Nat → Int32} {size : Int32} : (wPage E a b codes size).map (fun q => q.1) = [(a b), (a (b + 1))] := rfl
theorem len_wPos {E : En} {a : Nat → Nat} {b : Nat} {made : Nat → Int32} {movers : Nat → Int32} {row : Int32} {numbers : Int32} {size : Int32} : (wPos E a b made movers row numbers size).length = 3 := rfl
theorem fst_wPos {E : En} {a : Nat → Nat} {b : Nat} {made : Nat → Int32} {movers : Nat → Int32} {row : Int32} {numbers : Int32} {size : Int32} : (wPos E a b made movers row numbers size).map (fun q => q.1) = [(a b), (a (b + 1)), (a (b + 2))] := rfl
theorem len_wRules {E : En} {a : Nat → Nat} {b : Nat} {stones : Int32} {signs : Int32} {any : Int32} {back : Int32} {ring : Int32} {two : Int32} : (wRules E a b stones signs any back ring two).length = 1 := rfl
theorem fst_wRules {E : En} {a : Nat → Nat} {b : Nat} {stones : Int32} {signs : Int32} {any : Int32} {back : Int32} {ring : Int32} {two : Int32} : (wRules E a b stones signs any back ring two).map (fun q => q.1) = [(a b)] := rfl
theorem len_wSearch {E : En} {a : Nat → Nat} {b : Nat} {table_slots : Nat → Int32} {table_rows : Nat → Int32} {table_size : Int32} {depths : Nat → Int32} {ways : Nat → Int32} {stuckRows : Int32} {soonestStuck : Int32} : (wSearch E a b table_slots table_rows table_size depths ways stuckRows soonestStuck).length = 6 := rfl
theorem fst_wSearch {E : En} {a : Nat → Nat} {b : Nat} {table_slots : Nat → Int32} {table_rows : Nat → Int32} {table_size : Int32} {depths : Nat → Int32} {ways : Nat → Int32} {stuckRows : Int32} {soonestStuck : Int32} : (wSearch E a b table_slots table_rows table_size depths ways stuckRows soonestStuck).map (fun q => q.1) = [(a b), (a (b + 1)), (a (b + 2)), (a (b + 3)), (a (b + 4)), (a (b + 5))] := rfl
theorem mi_X3_at : Mi yX3_at cX3_at 2 (some .int) 2 := ⟨kc_X3_at, kn_X3, by decide +kernel⟩
theorem mi_X3_moved : Mi yX3_moved cX3_moved 5 (some .int) 2 := ⟨kc_X3_moved, kn_X3, by decide +kernel⟩
theorem mi_X3_turned : Mi yX3_turned cX3_turned 4 (some .int) 2 := ⟨kc_X3_turned, kn_X3, by decide +kernel⟩
theorem mi_X3_widened : Mi yX3_widened cX3_widened 3 (some .int) 2 := ⟨kc_X3_widened, kn_X3, by decide +kernel⟩
theorem mi_X3_without : Mi yX3_without cX3_without 2 (some .int) 2 := ⟨kc_X3_without, kn_X3, by decide +kernel⟩
theorem mi_X3_freeStones : Mi yX3_freeStones cX3_freeStones 4 (some .int) 2 := ⟨kc_X3_freeStones, kn_X3, by decide +kernel⟩
theorem mi_X3_numbered : Mi yX3_numbered cX3_numbered 4 (some .int) 1 := ⟨kc_X3_numbered, kn_X3, by decide +kernel⟩
theorem mi_J13_bitCount_95d88 : Mi yJ13_bitCount_95d88 cJ13_bitCount_95d88 2 (some .int) 1 := ⟨kc_J13_bitCount_95d88, kn_J13, by decide +kernel⟩
theorem mi_X3_lowestMove : Mi yX3_lowestMove cX3_lowestMove 2 (some .int) 1 := ⟨kc_X3_lowestMove, kn_X3, by decide +kernel⟩
theorem mi_J7_fill_53178 : Mi yJ7_fill_53178 cJ7_fill_53178 4 none 2 := ⟨kc_J7_fill_53178, kn_J7, by decide +kernel⟩
theorem mi_X1_codeIn : Mi yX1_codeIn cX1_codeIn 3 (some .int) 2 := ⟨kc_X1_codeIn, kn_X1, by decide +kernel⟩
theorem mi_X1_lettersIn : Mi yX1_lettersIn cX1_lettersIn 6 (some .int) 1 := ⟨kc_X1_lettersIn, kn_X1, by decide +kernel⟩
theorem mi_X1_append : Mi yX1_append cX1_append 5 none 2 := ⟨kc_X1_append, kn_X1, by decide +kernel⟩
theorem mi_X1_kindOf : Mi yX1_kindOf cX1_kindOf 1 (some .int) 1 := ⟨kc_X1_kindOf, kn_X1, by decide +kernel⟩
theorem mi_X1_signOf : Mi yX1_signOf cX1_signOf 1 (some .int) 1 := ⟨kc_X1_signOf, kn_X1, by decide +kernel⟩
theorem mi_X1_leadingStones : Mi yX1_leadingStones cX1_leadingStones 2 (some .int) 0 := ⟨kc_X1_leadingStones, kn_X1, by decide +kernel⟩
theorem mi_X1_firstFault : Mi yX1_firstFault cX1_firstFault 5 (some .int) 0 := ⟨kc_X1_firstFault, kn_X1, by decide +kernel⟩
theorem mi_X1_row : Mi yX1_row cX1_row 4 (some .int) 0 := ⟨kc_X1_row, kn_X1, by decide +kernel⟩
theorem mi_X1_tellsBrook : Mi yX1_tellsBrook cX1_tellsBrook 3 (some .boolean) 0 := ⟨kc_X1_tellsBrook, kn_X1, by decide +kernel⟩
theorem mi_X1_tellsRow : Mi yX1_tellsRow cX1_tellsRow 2 (some .boolean) 1 := ⟨kc_X1_tellsRow, kn_X1, by decide +kernel⟩
theorem mi_X1_signs : Mi yX1_signs cX1_signs 4 (some .int) 0 := ⟨kc_X1_signs, kn_X1, by decide +kernel⟩
theorem mi_X4_has : Mi yX4_has cX4_has 2 (some .boolean) 1 := ⟨kc_X4_has, kn_X4, by decide +kernel⟩
theorem mi_X4_set : Mi yX4_set cX4_set 3 none 2 := ⟨kc_X4_set, kn_X4, by decide +kernel⟩
theorem mi_X4_beside : Mi yX4_beside cX4_beside 4 (some .int) 2 := ⟨kc_X4_beside, kn_X4, by decide +kernel⟩
theorem mi_X4_leapsOver : Mi yX4_leapsOver cX4_leapsOver 3 (some .boolean) 2 := ⟨kc_X4_leapsOver, kn_X4, by decide +kernel⟩
theorem mi_X4_landing : Mi yX4_landing cX4_landing 9 (some .int) 3 := ⟨kc_X4_landing, kn_X4, by decide +kernel⟩
theorem mi_X4_targets : Mi yX4_targets cX4_targets 7 (some .int) 3 := ⟨kc_X4_targets, kn_X4, by decide +kernel⟩
theorem mi_X4_allows : Mi yX4_allows cX4_allows 4 (some .boolean) 3 := ⟨kc_X4_allows, kn_X4, by decide +kernel⟩
theorem mi_X4_allMoves : Mi yX4_allMoves cX4_allMoves 6 (some .long) 2 := ⟨kc_X4_allMoves, kn_X4, by decide +kernel⟩
theorem mi_X2_begin : Mi yX2_begin cX2_begin 3 none 2 := ⟨kc_X2_begin, kn_X2, by decide +kernel⟩
theorem mi_X2_go : Mi yX2_go cX2_go 4 none 2 := ⟨kc_X2_go, kn_X2, by decide +kernel⟩
theorem mi_X2_takeBack : Mi yX2_takeBack cX2_takeBack 3 (some .int) 0 := ⟨kc_X2_takeBack, kn_X2, by decide +kernel⟩
theorem mi_X2_stoneOf : Mi yX2_stoneOf cX2_stoneOf 3 (some .int) 1 := ⟨kc_X2_stoneOf, kn_X2, by decide +kernel⟩
theorem mi_X2_timesMoved : Mi yX2_timesMoved cX2_timesMoved 4 (some .int) 1 := ⟨kc_X2_timesMoved, kn_X2, by decide +kernel⟩
theorem mi_X2_copy : Mi yX2_copy cX2_copy 3 none 1 := ⟨kc_X2_copy, kn_X2, by decide +kernel⟩
theorem mi_X6_clear : Mi yX6_clear cX6_clear 1 none 0 := ⟨kc_X6_clear, kn_X6, by decide +kernel⟩
theorem mi_X6_slotOf : Mi yX6_slotOf cX6_slotOf 5 (some .int) 1 := ⟨kc_X6_slotOf, kn_X6, by decide +kernel⟩
theorem mi_X6_find : Mi yX6_find cX6_find 2 (some .int) 1 := ⟨kc_X6_find, kn_X6, by decide +kernel⟩
theorem mi_X6_meet : Mi yX6_meet cX6_meet 3 (some .int) 1 := ⟨kc_X6_meet, kn_X6, by decide +kernel⟩
theorem mi_X5_noteStuck : Mi yX5_noteStuck cX5_noteStuck 2 none 1 := ⟨kc_X5_noteStuck, kn_X5, by decide +kernel⟩
theorem mi_X5_goOn : Mi yX5_goOn cX5_goOn 12 none 2 := ⟨kc_X5_goOn, kn_X5, by decide +kernel⟩
theorem mi_X5_spread : Mi yX5_spread cX5_spread 10 (some .int) 4 := ⟨kc_X5_spread, kn_X5, by decide +kernel⟩
theorem mi_X5_depthOf : Mi yX5_depthOf cX5_depthOf 3 (some .int) 1 := ⟨kc_X5_depthOf, kn_X5, by decide +kernel⟩
theorem mi_X5_waysOf : Mi yX5_waysOf cX5_waysOf 3 (some .int) 1 := ⟨kc_X5_waysOf, kn_X5, by decide +kernel⟩
theorem mi_X0_forget : Mi yX0_forget cX0_forget 1 none 0 := ⟨kc_X0_forget, kn_X0, by decide +kernel⟩
theorem mi_X8_within : Mi yX8_within cX8_within 3 (some .boolean) 3 := ⟨kc_X8_within, kn_X8, by decide +kernel⟩
theorem mi_X8_letters : Mi yX8_letters cX8_letters 7 (some .int) 1 := ⟨kc_X8_letters, kn_X8, by decide +kernel⟩
theorem mi_X8_blank : Mi yX8_blank cX8_blank 2 (some .int) 0 := ⟨kc_X8_blank, kn_X8, by decide +kernel⟩
theorem mi_X8_kindBy : Mi yX8_kindBy cX8_kindBy 1 (some .int) 1 := ⟨kc_X8_kindBy, kn_X8, by decide +kernel⟩
theorem mi_X8_signBy : Mi yX8_signBy cX8_signBy 1 (some .int) 1 := ⟨kc_X8_signBy, kn_X8, by decide +kernel⟩
theorem mi_X8_readBrook : Mi yX8_readBrook cX8_readBrook 6 none 0 := ⟨kc_X8_readBrook, kn_X8, by decide +kernel⟩
theorem mi_X8_fault : Mi yX8_fault cX8_fault 1 (some .int) 0 := ⟨kc_X8_fault, kn_X8, by decide +kernel⟩
theorem mi_X8_brook : Mi yX8_brook cX8_brook 2 (some .int) 0 := ⟨kc_X8_brook, kn_X8, by decide +kernel⟩
theorem mi_X8_isStone : Mi yX8_isStone cX8_isStone 2 (some .boolean) 1 := ⟨kc_X8_isStone, kn_X8, by decide +kernel⟩
theorem mi_X8_on : Mi yX8_on cX8_on 2 (some .int) 1 := ⟨kc_X8_on, kn_X8, by decide +kernel⟩
theorem mi_X8_frog : Mi yX8_frog cX8_frog 2 (some .int) 1 := ⟨kc_X8_frog, kn_X8, by decide +kernel⟩
theorem mi_X8_stoneOf : Mi yX8_stoneOf cX8_stoneOf 3 (some .int) 1 := ⟨kc_X8_stoneOf, kn_X8, by decide +kernel⟩
theorem mi_X8_movedMany : Mi yX8_movedMany cX8_movedMany 5 (some .int) 1 := ⟨kc_X8_movedMany, kn_X8, by decide +kernel⟩
theorem mi_X8_frogNow : Mi yX8_frogNow cX8_frogNow 3 (some .int) 2 := ⟨kc_X8_frogNow, kn_X8, by decide +kernel⟩
theorem mi_X8_about : Mi yX8_about cX8_about 3 (some .int) 2 := ⟨kc_X8_about, kn_X8, by decide +kernel⟩
theorem mi_X8_as : Mi yX8_as cX8_as 4 (some .int) 2 := ⟨kc_X8_as, kn_X8, by decide +kernel⟩
theorem mi_X8_besides : Mi yX8_besides cX8_besides 4 (some .int) 2 := ⟨kc_X8_besides, kn_X8, by decide +kernel⟩
theorem mi_X8_colour : Mi yX8_colour cX8_colour 1 (some .int) 1 := ⟨kc_X8_colour, kn_X8, by decide +kernel⟩
theorem mi_X8_mayOver : Mi yX8_mayOver cX8_mayOver 3 (some .boolean) 2 := ⟨kc_X8_mayOver, kn_X8, by decide +kernel⟩
theorem mi_X8_mayWay : Mi yX8_mayWay cX8_mayWay 8 (some .boolean) 3 := ⟨kc_X8_mayWay, kn_X8, by decide +kernel⟩
theorem mi_X8_mayMove : Mi yX8_mayMove cX8_mayMove 5 (some .boolean) 2 := ⟨kc_X8_mayMove, kn_X8, by decide +kernel⟩
theorem mi_X8_layNow : Mi yX8_layNow cX8_layNow 2 none 0 := ⟨kc_X8_layNow, kn_X8, by decide +kernel⟩
theorem mi_X8_may : Mi yX8_may cX8_may 3 (some .int) 2 := ⟨kc_X8_may, kn_X8, by decide +kernel⟩
theorem mi_X8_moveMany : Mi yX8_moveMany cX8_moveMany 4 (some .int) 0 := ⟨kc_X8_moveMany, kn_X8, by decide +kernel⟩
theorem mi_X8_moves : Mi yX8_moves cX8_moves 1 (some .int) 0 := ⟨kc_X8_moves, kn_X8, by decide +kernel⟩
theorem mi_X8_moveNow : Mi yX8_moveNow cX8_moveNow 3 none 2 := ⟨kc_X8_moveNow, kn_X8, by decide +kernel⟩
theorem mi_X8_move : Mi yX8_move cX8_move 3 (some .int) 2 := ⟨kc_X8_move, kn_X8, by decide +kernel⟩
theorem mi_X8_back : Mi yX8_back cX8_back 1 (some .int) 0 := ⟨kc_X8_back, kn_X8, by decide +kernel⟩
theorem mi_X8_power : Mi yX8_power cX8_power 3 (some .int) 1 := ⟨kc_X8_power, kn_X8, by decide +kernel⟩
theorem mi_X8_codeOf : Mi yX8_codeOf cX8_codeOf 3 (some .int) 0 := ⟨kc_X8_codeOf, kn_X8, by decide +kernel⟩
theorem mi_X8_turnedCode : Mi yX8_turnedCode cX8_turnedCode 3 (some .int) 0 := ⟨kc_X8_turnedCode, kn_X8, by decide +kernel⟩
theorem mi_X8_layRow : Mi yX8_layRow cX8_layRow 4 none 1 := ⟨kc_X8_layRow, kn_X8, by decide +kernel⟩
theorem mi_X8_behindMove : Mi yX8_behindMove cX8_behindMove 4 (some .int) 4 := ⟨kc_X8_behindMove, kn_X8, by decide +kernel⟩
theorem mi_X8_come : Mi yX8_come cX8_come 3 none 2 := ⟨kc_X8_come, kn_X8, by decide +kernel⟩
theorem mi_X8_layFar : Mi yX8_layFar cX8_layFar 5 none 0 := ⟨kc_X8_layFar, kn_X8, by decide +kernel⟩
theorem mi_X8_layRead : Mi yX8_layRead cX8_layRead 2 none 0 := ⟨kc_X8_layRead, kn_X8, by decide +kernel⟩
theorem mi_X8_goal : Mi yX8_goal cX8_goal 1 (some .int) 0 := ⟨kc_X8_goal, kn_X8, by decide +kernel⟩
theorem mi_X8_farTo : Mi yX8_farTo cX8_farTo 2 (some .int) 1 := ⟨kc_X8_farTo, kn_X8, by decide +kernel⟩
theorem mi_X8_fewestNow : Mi yX8_fewestNow cX8_fewestNow 7 (some .int) 1 := ⟨kc_X8_fewestNow, kn_X8, by decide +kernel⟩
theorem mi_X8_fewest : Mi yX8_fewest cX8_fewest 2 (some .int) 1 := ⟨kc_X8_fewest, kn_X8, by decide +kernel⟩
theorem mi_X8_waysNow : Mi yX8_waysNow cX8_waysNow 2 (some .int) 0 := ⟨kc_X8_waysNow, kn_X8, by decide +kernel⟩
theorem mi_X8_ways : Mi yX8_ways cX8_ways 1 (some .int) 0 := ⟨kc_X8_ways, kn_X8, by decide +kernel⟩
theorem mi_X8_wrongNow : Mi yX8_wrongNow cX8_wrongNow 4 (some .int) 0 := ⟨kc_X8_wrongNow, kn_X8, by decide +kernel⟩
theorem mi_X8_wrong : Mi yX8_wrong cX8_wrong 1 (some .int) 0 := ⟨kc_X8_wrong, kn_X8, by decide +kernel⟩
theorem mi_X8_layEnds : Mi yX8_layEnds cX8_layEnds 2 none 0 := ⟨kc_X8_layEnds, kn_X8, by decide +kernel⟩
theorem mi_X8_ends : Mi yX8_ends cX8_ends 1 (some .int) 0 := ⟨kc_X8_ends, kn_X8, by decide +kernel⟩
theorem mi_X8_soon : Mi yX8_soon cX8_soon 1 (some .int) 0 := ⟨kc_X8_soon, kn_X8, by decide +kernel⟩
theorem mi_X8_comes : Mi yX8_comes cX8_comes 3 (some .int) 0 := ⟨kc_X8_comes, kn_X8, by decide +kernel⟩
theorem mi_X8_turns : Mi yX8_turns cX8_turns 1 (some .int) 0 := ⟨kc_X8_turns, kn_X8, by decide +kernel⟩
theorem mi_X8_moreNow : Mi yX8_moreNow cX8_moreNow 6 (some .int) 1 := ⟨kc_X8_moreNow, kn_X8, by decide +kernel⟩
theorem mi_X8_more : Mi yX8_more cX8_more 2 (some .int) 1 := ⟨kc_X8_more, kn_X8, by decide +kernel⟩
theorem mi_X8_offNow : Mi yX8_offNow cX8_offNow 7 (some .int) 1 := ⟨kc_X8_offNow, kn_X8, by decide +kernel⟩
theorem mi_X8_off : Mi yX8_off cX8_off 2 (some .int) 1 := ⟨kc_X8_off, kn_X8, by decide +kernel⟩
theorem mi_X8_isOf : Mi yX8_isOf cX8_isOf 3 (some .boolean) 2 := ⟨kc_X8_isOf, kn_X8, by decide +kernel⟩
theorem mi_X8_progress : Mi yX8_progress cX8_progress 6 (some .int) 1 := ⟨kc_X8_progress, kn_X8, by decide +kernel⟩
theorem mi_X8_winsBy : Mi yX8_winsBy cX8_winsBy 5 (some .boolean) 2 := ⟨kc_X8_winsBy, kn_X8, by decide +kernel⟩
theorem mi_X8_layGame : Mi yX8_layGame cX8_layGame 6 none 0 := ⟨kc_X8_layGame, kn_X8, by decide +kernel⟩
theorem mi_X8_winsNow : Mi yX8_winsNow cX8_winsNow 2 (some .int) 1 := ⟨kc_X8_winsNow, kn_X8, by decide +kernel⟩
theorem mi_X8_isGame : Mi yX8_isGame cX8_isGame 1 (some .boolean) 0 := ⟨kc_X8_isGame, kn_X8, by decide +kernel⟩
theorem mi_X8_wins : Mi yX8_wins cX8_wins 2 (some .int) 1 := ⟨kc_X8_wins, kn_X8, by decide +kernel⟩
theorem mi_X8_byNow : Mi yX8_byNow cX8_byNow 6 (some .int) 2 := ⟨kc_X8_byNow, kn_X8, by decide +kernel⟩
theorem mi_X8_by : Mi yX8_by cX8_by 3 (some .int) 2 := ⟨kc_X8_by, kn_X8, by decide +kernel⟩
theorem mi_X8_draw : Mi yX8_draw cX8_draw 2 (some .int) 1 := ⟨kc_X8_draw, kn_X8, by decide +kernel⟩
theorem mi_X8_goMove : Mi yX8_goMove cX8_goMove 5 none 1 := ⟨kc_X8_goMove, kn_X8, by decide +kernel⟩
theorem mi_X8_playNow : Mi yX8_playNow cX8_playNow 8 (some .int) 3 := ⟨kc_X8_playNow, kn_X8, by decide +kernel⟩
theorem mi_X8_play : Mi yX8_play cX8_play 4 (some .int) 3 := ⟨kc_X8_play, kn_X8, by decide +kernel⟩
theorem mi_X8_image : Mi yX8_image cX8_image 2 (some .int) 0 := ⟨kc_X8_image, kn_X8, by decide +kernel⟩
theorem mi_X8_restore : Mi yX8_restore cX8_restore 2 (some .int) 0 := ⟨kc_X8_restore, kn_X8, by decide +kernel⟩
theorem mi_X8_one : Mi yX8_one cX8_one 1 (some .int) 1 := ⟨kc_X8_one, kn_X8, by decide +kernel⟩
theorem mi_X8_howMany : Mi yX8_howMany cX8_howMany 2 (some .int) 1 := ⟨kc_X8_howMany, kn_X8, by decide +kernel⟩
theorem mi_X8_count : Mi yX8_count cX8_count 2 (some .int) 1 := ⟨kc_X8_count, kn_X8, by decide +kernel⟩
theorem mi_X8_mix : Mi yX8_mix cX8_mix 3 none 1 := ⟨kc_X8_mix, kn_X8, by decide +kernel⟩
theorem mi_X8_mixBrook : Mi yX8_mixBrook cX8_mixBrook 2 none 0 := ⟨kc_X8_mixBrook, kn_X8, by decide +kernel⟩
theorem mi_X8_digest : Mi yX8_digest cX8_digest 3 (some .long) 0 := ⟨kc_X8_digest, kn_X8, by decide +kernel⟩
theorem mi_X7_hasBrook : Mi yX7_hasBrook cX7_hasBrook 1 (some .boolean) 0 := ⟨kc_X7_hasBrook, kn_X7, by decide +kernel⟩
theorem mi_X7_hasGame : Mi yX7_hasGame cX7_hasGame 1 (some .boolean) 0 := ⟨kc_X7_hasGame, kn_X7, by decide +kernel⟩
theorem mi_X7_isStone : Mi yX7_isStone cX7_isStone 2 (some .boolean) 1 := ⟨kc_X7_isStone, kn_X7, by decide +kernel⟩
theorem mi_X7_isFrog : Mi yX7_isFrog cX7_isFrog 2 (some .boolean) 1 := ⟨kc_X7_isFrog, kn_X7, by decide +kernel⟩
theorem mi_X7_kindOfFrog : Mi yX7_kindOfFrog cX7_kindOfFrog 2 (some .int) 1 := ⟨kc_X7_kindOfFrog, kn_X7, by decide +kernel⟩
theorem mi_X7_partOfMove : Mi yX7_partOfMove cX7_partOfMove 2 (some .int) 2 := ⟨kc_X7_partOfMove, kn_X7, by decide +kernel⟩
theorem mi_X7_firstOfFewest : Mi yX7_firstOfFewest cX7_firstOfFewest 7 (some .int) 0 := ⟨kc_X7_firstOfFewest, kn_X7, by decide +kernel⟩
theorem mi_X7_firstWrong : Mi yX7_firstWrong cX7_firstWrong 3 (some .int) 0 := ⟨kc_X7_firstWrong, kn_X7, by decide +kernel⟩
theorem mi_X7_toTurnRound : Mi yX7_toTurnRound cX7_toTurnRound 3 (some .int) 2 := ⟨kc_X7_toTurnRound, kn_X7, by decide +kernel⟩
theorem mi_X7_isLess : Mi yX7_isLess cX7_isLess 2 (some .boolean) 2 := ⟨kc_X7_isLess, kn_X7, by decide +kernel⟩
theorem mi_X7_seedAfter : Mi yX7_seedAfter cX7_seedAfter 1 (some .int) 1 := ⟨kc_X7_seedAfter, kn_X7, by decide +kernel⟩
theorem mi_X7_drawOf : Mi yX7_drawOf cX7_drawOf 2 (some .int) 2 := ⟨kc_X7_drawOf, kn_X7, by decide +kernel⟩
theorem mi_X7_moveOfNumber : Mi yX7_moveOfNumber cX7_moveOfNumber 6 (some .int) 2 := ⟨kc_X7_moveOfNumber, kn_X7, by decide +kernel⟩
theorem mi_X7_letters : Mi yX7_letters cX7_letters 4 (some .int) 1 := ⟨kc_X7_letters, kn_X7, by decide +kernel⟩
theorem mi_X7_blank : Mi yX7_blank cX7_blank 2 (some .int) 0 := ⟨kc_X7_blank, kn_X7, by decide +kernel⟩
theorem mi_X7_fault : Mi yX7_fault cX7_fault 1 (some .int) 0 := ⟨kc_X7_fault, kn_X7, by decide +kernel⟩
theorem mi_X7_brook : Mi yX7_brook cX7_brook 1 (some .int) 0 := ⟨kc_X7_brook, kn_X7, by decide +kernel⟩
theorem mi_X7_on : Mi yX7_on cX7_on 3 (some .int) 1 := ⟨kc_X7_on, kn_X7, by decide +kernel⟩
theorem mi_X7_frog : Mi yX7_frog cX7_frog 2 (some .int) 1 := ⟨kc_X7_frog, kn_X7, by decide +kernel⟩
theorem mi_X7_about : Mi yX7_about cX7_about 3 (some .int) 2 := ⟨kc_X7_about, kn_X7, by decide +kernel⟩
theorem mi_X7_as : Mi yX7_as cX7_as 5 (some .int) 2 := ⟨kc_X7_as, kn_X7, by decide +kernel⟩
theorem mi_X7_may : Mi yX7_may cX7_may 3 (some .int) 2 := ⟨kc_X7_may, kn_X7, by decide +kernel⟩
theorem mi_X7_moves : Mi yX7_moves cX7_moves 1 (some .int) 0 := ⟨kc_X7_moves, kn_X7, by decide +kernel⟩
theorem mi_X7_move : Mi yX7_move cX7_move 3 (some .int) 2 := ⟨kc_X7_move, kn_X7, by decide +kernel⟩
theorem mi_X7_back : Mi yX7_back cX7_back 1 (some .int) 0 := ⟨kc_X7_back, kn_X7, by decide +kernel⟩
theorem mi_X7_fewest : Mi yX7_fewest cX7_fewest 2 (some .int) 1 := ⟨kc_X7_fewest, kn_X7, by decide +kernel⟩
theorem mi_X7_ways : Mi yX7_ways cX7_ways 1 (some .int) 0 := ⟨kc_X7_ways, kn_X7, by decide +kernel⟩
theorem mi_X7_wrong : Mi yX7_wrong cX7_wrong 1 (some .int) 0 := ⟨kc_X7_wrong, kn_X7, by decide +kernel⟩
theorem mi_X7_ends : Mi yX7_ends cX7_ends 1 (some .int) 0 := ⟨kc_X7_ends, kn_X7, by decide +kernel⟩
theorem mi_X7_soon : Mi yX7_soon cX7_soon 1 (some .int) 0 := ⟨kc_X7_soon, kn_X7, by decide +kernel⟩
theorem mi_X7_comes : Mi yX7_comes cX7_comes 1 (some .int) 0 := ⟨kc_X7_comes, kn_X7, by decide +kernel⟩
theorem mi_X7_more : Mi yX7_more cX7_more 6 (some .int) 1 := ⟨kc_X7_more, kn_X7, by decide +kernel⟩
theorem mi_X7_off : Mi yX7_off cX7_off 8 (some .int) 1 := ⟨kc_X7_off, kn_X7, by decide +kernel⟩
theorem mi_X7_play : Mi yX7_play cX7_play 10 (some .int) 3 := ⟨kc_X7_play, kn_X7, by decide +kernel⟩
theorem mi_X7_image : Mi yX7_image cX7_image 1 (some .int) 0 := ⟨kc_X7_image, kn_X7, by decide +kernel⟩
theorem mi_X7_restore : Mi yX7_restore cX7_restore 1 (some .int) 0 := ⟨kc_X7_restore, kn_X7, by decide +kernel⟩
theorem mi_X7_count : Mi yX7_count cX7_count 2 (some .int) 1 := ⟨kc_X7_count, kn_X7, by decide +kernel⟩
end
