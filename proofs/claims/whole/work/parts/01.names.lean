-- ===== PART A: goes FIRST, ahead of the names: the tables' words, and 'selects' of the private methods out of them =====
/-- a private method of a class that the tables say can be made, by its rows of tables_1 -/
def lw_okq (q : MethodName × Nat) : Prop := (q.1.cls ≠ "java/lang/invoke/MethodHandle" ∧ q.1.cls ≠ "java/lang/invoke/VarHandle") ∧ Cond.instantiable q.1.cls q.2 ∈ tables_1 ∧ Cond.privateMethod q.1 ∈ tables_1 ∧ Cond.instanceMethod q.1 ∈ tables_1
theorem lw_p0 : lw_okq (⟨"DropQueues", "layText", "()Z"⟩, 6) := ⟨⟨by decide +kernel, by decide +kernel⟩, List.mem_of_getElem? (i := 19) (by decide +kernel), List.mem_of_getElem? (i := 296) (by decide +kernel), List.mem_of_getElem? (i := 297) (by decide +kernel)⟩
theorem lw_p1 : lw_okq (⟨"DropQueues$Text", "readItem", "(LDropQueues$Net;II)Z"⟩, 3) := ⟨⟨by decide +kernel, by decide +kernel⟩, List.mem_of_getElem? (i := 27) (by decide +kernel), List.mem_of_getElem? (i := 311) (by decide +kernel), List.mem_of_getElem? (i := 312) (by decide +kernel)⟩
theorem lw_p2 : lw_okq (⟨"DropQueues$Text", "readNumbers", "(II)I"⟩, 3) := ⟨⟨by decide +kernel, by decide +kernel⟩, List.mem_of_getElem? (i := 27) (by decide +kernel), List.mem_of_getElem? (i := 318) (by decide +kernel), List.mem_of_getElem? (i := 319) (by decide +kernel)⟩
theorem lw_p3 : lw_okq (⟨"DropQueues$Net", "takeNodes", "(I)Z"⟩, 12) := ⟨⟨by decide +kernel, by decide +kernel⟩, List.mem_of_getElem? (i := 52) (by decide +kernel), List.mem_of_getElem? (i := 326) (by decide +kernel), List.mem_of_getElem? (i := 327) (by decide +kernel)⟩
theorem lw_p4 : lw_okq (⟨"DropQueues$Net", "takeGoal", "(I)Z"⟩, 12) := ⟨⟨by decide +kernel, by decide +kernel⟩, List.mem_of_getElem? (i := 52) (by decide +kernel), List.mem_of_getElem? (i := 333) (by decide +kernel), List.mem_of_getElem? (i := 334) (by decide +kernel)⟩
theorem lw_p5 : lw_okq (⟨"DropQueues$Net", "takeLink", "(III)Z"⟩, 12) := ⟨⟨by decide +kernel, by decide +kernel⟩, List.mem_of_getElem? (i := 52) (by decide +kernel), List.mem_of_getElem? (i := 341) (by decide +kernel), List.mem_of_getElem? (i := 342) (by decide +kernel)⟩
theorem lw_p6 : lw_okq (⟨"DropQueues$Net", "takeClash", "(II)Z"⟩, 12) := ⟨⟨by decide +kernel, by decide +kernel⟩, List.mem_of_getElem? (i := 52) (by decide +kernel), List.mem_of_getElem? (i := 345) (by decide +kernel), List.mem_of_getElem? (i := 346) (by decide +kernel)⟩
theorem lw_p7 : lw_okq (⟨"DropQueues$Net", "takeFeed", "(III)Z"⟩, 12) := ⟨⟨by decide +kernel, by decide +kernel⟩, List.mem_of_getElem? (i := 52) (by decide +kernel), List.mem_of_getElem? (i := 361) (by decide +kernel), List.mem_of_getElem? (i := 362) (by decide +kernel)⟩
theorem lw_p8 : lw_okq (⟨"DropQueues$Net", "takeB", "(I)Z"⟩, 12) := ⟨⟨by decide +kernel, by decide +kernel⟩, List.mem_of_getElem? (i := 52) (by decide +kernel), List.mem_of_getElem? (i := 376) (by decide +kernel), List.mem_of_getElem? (i := 377) (by decide +kernel)⟩
theorem lw_p9 : lw_okq (⟨"DropQueues$Net", "takeLaw", "(I)Z"⟩, 12) := ⟨⟨by decide +kernel, by decide +kernel⟩, List.mem_of_getElem? (i := 52) (by decide +kernel), List.mem_of_getElem? (i := 380) (by decide +kernel), List.mem_of_getElem? (i := 381) (by decide +kernel)⟩
theorem lw_p10 : lw_okq (⟨"DropQueues$Net", "shortenWays", "(I)V"⟩, 12) := ⟨⟨by decide +kernel, by decide +kernel⟩, List.mem_of_getElem? (i := 52) (by decide +kernel), List.mem_of_getElem? (i := 395) (by decide +kernel), List.mem_of_getElem? (i := 396) (by decide +kernel)⟩
theorem lw_p11 : lw_okq (⟨"DropQueues", "tellLaw", "(I)I"⟩, 6) := ⟨⟨by decide +kernel, by decide +kernel⟩, List.mem_of_getElem? (i := 19) (by decide +kernel), List.mem_of_getElem? (i := 478) (by decide +kernel), List.mem_of_getElem? (i := 479) (by decide +kernel)⟩
theorem lw_p12 : lw_okq (⟨"DropQueues", "tellB", "(I)I"⟩, 6) := ⟨⟨by decide +kernel, by decide +kernel⟩, List.mem_of_getElem? (i := 19) (by decide +kernel), List.mem_of_getElem? (i := 482) (by decide +kernel), List.mem_of_getElem? (i := 483) (by decide +kernel)⟩
theorem lw_p13 : lw_okq (⟨"DropQueues$Queues", "placeOf", "(II)I"⟩, 8) := ⟨⟨by decide +kernel, by decide +kernel⟩, List.mem_of_getElem? (i := 122) (by decide +kernel), List.mem_of_getElem? (i := 514) (by decide +kernel), List.mem_of_getElem? (i := 515) (by decide +kernel)⟩
theorem lw_p14 : lw_okq (⟨"DropQueues$Picker", "weightOf", "(I)I"⟩, 4) := ⟨⟨by decide +kernel, by decide +kernel⟩, List.mem_of_getElem? (i := 196) (by decide +kernel), List.mem_of_getElem? (i := 554) (by decide +kernel), List.mem_of_getElem? (i := 555) (by decide +kernel)⟩
theorem lw_p15 : lw_okq (⟨"DropQueues$Picker", "offer", "(II)V"⟩, 4) := ⟨⟨by decide +kernel, by decide +kernel⟩, List.mem_of_getElem? (i := 196) (by decide +kernel), List.mem_of_getElem? (i := 558) (by decide +kernel), List.mem_of_getElem? (i := 559) (by decide +kernel)⟩
def lw_privs_1 : List (MethodName × Nat) := [(⟨"DropQueues", "layText", "()Z"⟩, 6), (⟨"DropQueues$Text", "readItem", "(LDropQueues$Net;II)Z"⟩, 3), (⟨"DropQueues$Text", "readNumbers", "(II)I"⟩, 3), (⟨"DropQueues$Net", "takeNodes", "(I)Z"⟩, 12), (⟨"DropQueues$Net", "takeGoal", "(I)Z"⟩, 12), (⟨"DropQueues$Net", "takeLink", "(III)Z"⟩, 12), (⟨"DropQueues$Net", "takeClash", "(II)Z"⟩, 12), (⟨"DropQueues$Net", "takeFeed", "(III)Z"⟩, 12), (⟨"DropQueues$Net", "takeB", "(I)Z"⟩, 12), (⟨"DropQueues$Net", "takeLaw", "(I)Z"⟩, 12), (⟨"DropQueues$Net", "shortenWays", "(I)V"⟩, 12), (⟨"DropQueues", "tellLaw", "(I)I"⟩, 6), (⟨"DropQueues", "tellB", "(I)I"⟩, 6), (⟨"DropQueues$Queues", "placeOf", "(II)I"⟩, 8), (⟨"DropQueues$Picker", "weightOf", "(I)I"⟩, 4), (⟨"DropQueues$Picker", "offer", "(II)V"⟩, 4)]
theorem lw_r1 : ∀ q ∈ lw_privs_1, lw_okq q := List.forall_mem_cons.mpr ⟨lw_p0, List.forall_mem_cons.mpr ⟨lw_p1, List.forall_mem_cons.mpr ⟨lw_p2, List.forall_mem_cons.mpr ⟨lw_p3, List.forall_mem_cons.mpr ⟨lw_p4, List.forall_mem_cons.mpr ⟨lw_p5, List.forall_mem_cons.mpr ⟨lw_p6, List.forall_mem_cons.mpr ⟨lw_p7, List.forall_mem_cons.mpr ⟨lw_p8, List.forall_mem_cons.mpr ⟨lw_p9, List.forall_mem_cons.mpr ⟨lw_p10, List.forall_mem_cons.mpr ⟨lw_p11, List.forall_mem_cons.mpr ⟨lw_p12, List.forall_mem_cons.mpr ⟨lw_p13, List.forall_mem_cons.mpr ⟨lw_p14, List.forall_mem_cons.mpr ⟨lw_p15, fun _ h => absurd h List.not_mem_nil⟩⟩⟩⟩⟩⟩⟩⟩⟩⟩⟩⟩⟩⟩⟩⟩
theorem lw_p16 : lw_okq (⟨"DropQueues$Mover", "takeOver", "(LDropQueues$World;I)V"⟩, 4) := ⟨⟨by decide +kernel, by decide +kernel⟩, List.mem_of_getElem? (i := 221) (by decide +kernel), List.mem_of_getElem? (i := 566) (by decide +kernel), List.mem_of_getElem? (i := 567) (by decide +kernel)⟩
theorem lw_p17 : lw_okq (⟨"DropQueues$Mover", "bring", "(LDropQueues$World;I)V"⟩, 4) := ⟨⟨by decide +kernel, by decide +kernel⟩, List.mem_of_getElem? (i := 221) (by decide +kernel), List.mem_of_getElem? (i := 580) (by decide +kernel), List.mem_of_getElem? (i := 581) (by decide +kernel)⟩
theorem lw_p18 : lw_okq (⟨"DropQueues", "linkAsQueuesAre", "(II)I"⟩, 6) := ⟨⟨by decide +kernel, by decide +kernel⟩, List.mem_of_getElem? (i := 19) (by decide +kernel), List.mem_of_getElem? (i := 614) (by decide +kernel), List.mem_of_getElem? (i := 615) (by decide +kernel)⟩
theorem lw_p19 : lw_okq (⟨"DropQueues", "trialSince", "(I)I"⟩, 6) := ⟨⟨by decide +kernel, by decide +kernel⟩, List.mem_of_getElem? (i := 19) (by decide +kernel), List.mem_of_getElem? (i := 649) (by decide +kernel), List.mem_of_getElem? (i := 650) (by decide +kernel)⟩
theorem lw_p20 : lw_okq (⟨"DropQueues", "weightWithout", "(II)I"⟩, 6) := ⟨⟨by decide +kernel, by decide +kernel⟩, List.mem_of_getElem? (i := 19) (by decide +kernel), List.mem_of_getElem? (i := 665) (by decide +kernel), List.mem_of_getElem? (i := 666) (by decide +kernel)⟩
theorem lw_p21 : lw_okq (⟨"DropQueues", "countPackets", "(I)I"⟩, 6) := ⟨⟨by decide +kernel, by decide +kernel⟩, List.mem_of_getElem? (i := 19) (by decide +kernel), List.mem_of_getElem? (i := 685) (by decide +kernel), List.mem_of_getElem? (i := 686) (by decide +kernel)⟩
theorem lw_p22 : lw_okq (⟨"DropQueuesModel", "begins", "()V"⟩, 20) := ⟨⟨by decide +kernel, by decide +kernel⟩, List.mem_of_getElem? (i := 689) (by decide +kernel), List.mem_of_getElem? (i := 695) (by decide +kernel), List.mem_of_getElem? (i := 696) (by decide +kernel)⟩
theorem lw_p23 : lw_okq (⟨"DropQueuesModel", "links", "(III)V"⟩, 20) := ⟨⟨by decide +kernel, by decide +kernel⟩, List.mem_of_getElem? (i := 689) (by decide +kernel), List.mem_of_getElem? (i := 699) (by decide +kernel), List.mem_of_getElem? (i := 700) (by decide +kernel)⟩
theorem lw_p24 : lw_okq (⟨"DropQueuesModel", "takes", "()V"⟩, 20) := ⟨⟨by decide +kernel, by decide +kernel⟩, List.mem_of_getElem? (i := 689) (by decide +kernel), List.mem_of_getElem? (i := 706) (by decide +kernel), List.mem_of_getElem? (i := 707) (by decide +kernel)⟩
theorem lw_p25 : lw_okq (⟨"DropQueuesModel", "reads", "()I"⟩, 20) := ⟨⟨by decide +kernel, by decide +kernel⟩, List.mem_of_getElem? (i := 689) (by decide +kernel), List.mem_of_getElem? (i := 789) (by decide +kernel), List.mem_of_getElem? (i := 790) (by decide +kernel)⟩
theorem lw_p26 : lw_okq (⟨"DropQueuesModel", "takesItem", "()Z"⟩, 20) := ⟨⟨by decide +kernel, by decide +kernel⟩, List.mem_of_getElem? (i := 689) (by decide +kernel), List.mem_of_getElem? (i := 793) (by decide +kernel), List.mem_of_getElem? (i := 794) (by decide +kernel)⟩
theorem lw_p27 : lw_okq (⟨"DropQueuesModel", "takesOne", "(II)Z"⟩, 20) := ⟨⟨by decide +kernel, by decide +kernel⟩, List.mem_of_getElem? (i := 689) (by decide +kernel), List.mem_of_getElem? (i := 797) (by decide +kernel), List.mem_of_getElem? (i := 798) (by decide +kernel)⟩
theorem lw_p28 : lw_okq (⟨"DropQueuesModel", "takesNumbers", "(I)Z"⟩, 20) := ⟨⟨by decide +kernel, by decide +kernel⟩, List.mem_of_getElem? (i := 689) (by decide +kernel), List.mem_of_getElem? (i := 801) (by decide +kernel), List.mem_of_getElem? (i := 802) (by decide +kernel)⟩
theorem lw_p29 : lw_okq (⟨"DropQueuesModel", "takesNumber", "(I)Z"⟩, 20) := ⟨⟨by decide +kernel, by decide +kernel⟩, List.mem_of_getElem? (i := 689) (by decide +kernel), List.mem_of_getElem? (i := 805) (by decide +kernel), List.mem_of_getElem? (i := 806) (by decide +kernel)⟩
theorem lw_p30 : lw_okq (⟨"DropQueuesModel", "isAt", "(II)Z"⟩, 20) := ⟨⟨by decide +kernel, by decide +kernel⟩, List.mem_of_getElem? (i := 689) (by decide +kernel), List.mem_of_getElem? (i := 809) (by decide +kernel), List.mem_of_getElem? (i := 810) (by decide +kernel)⟩
theorem lw_p31 : lw_okq (⟨"DropQueuesModel", "takesGoal", "()Z"⟩, 20) := ⟨⟨by decide +kernel, by decide +kernel⟩, List.mem_of_getElem? (i := 689) (by decide +kernel), List.mem_of_getElem? (i := 813) (by decide +kernel), List.mem_of_getElem? (i := 814) (by decide +kernel)⟩
def lw_privs_2 : List (MethodName × Nat) := [(⟨"DropQueues$Mover", "takeOver", "(LDropQueues$World;I)V"⟩, 4), (⟨"DropQueues$Mover", "bring", "(LDropQueues$World;I)V"⟩, 4), (⟨"DropQueues", "linkAsQueuesAre", "(II)I"⟩, 6), (⟨"DropQueues", "trialSince", "(I)I"⟩, 6), (⟨"DropQueues", "weightWithout", "(II)I"⟩, 6), (⟨"DropQueues", "countPackets", "(I)I"⟩, 6), (⟨"DropQueuesModel", "begins", "()V"⟩, 20), (⟨"DropQueuesModel", "links", "(III)V"⟩, 20), (⟨"DropQueuesModel", "takes", "()V"⟩, 20), (⟨"DropQueuesModel", "reads", "()I"⟩, 20), (⟨"DropQueuesModel", "takesItem", "()Z"⟩, 20), (⟨"DropQueuesModel", "takesOne", "(II)Z"⟩, 20), (⟨"DropQueuesModel", "takesNumbers", "(I)Z"⟩, 20), (⟨"DropQueuesModel", "takesNumber", "(I)Z"⟩, 20), (⟨"DropQueuesModel", "isAt", "(II)Z"⟩, 20), (⟨"DropQueuesModel", "takesGoal", "()Z"⟩, 20)]
theorem lw_r2 : ∀ q ∈ lw_privs_2, lw_okq q := List.forall_mem_cons.mpr ⟨lw_p16, List.forall_mem_cons.mpr ⟨lw_p17, List.forall_mem_cons.mpr ⟨lw_p18, List.forall_mem_cons.mpr ⟨lw_p19, List.forall_mem_cons.mpr ⟨lw_p20, List.forall_mem_cons.mpr ⟨lw_p21, List.forall_mem_cons.mpr ⟨lw_p22, List.forall_mem_cons.mpr ⟨lw_p23, List.forall_mem_cons.mpr ⟨lw_p24, List.forall_mem_cons.mpr ⟨lw_p25, List.forall_mem_cons.mpr ⟨lw_p26, List.forall_mem_cons.mpr ⟨lw_p27, List.forall_mem_cons.mpr ⟨lw_p28, List.forall_mem_cons.mpr ⟨lw_p29, List.forall_mem_cons.mpr ⟨lw_p30, List.forall_mem_cons.mpr ⟨lw_p31, fun _ h => absurd h List.not_mem_nil⟩⟩⟩⟩⟩⟩⟩⟩⟩⟩⟩⟩⟩⟩⟩⟩
theorem lw_p32 : lw_okq (⟨"DropQueuesModel", "isReadNode", "(I)Z"⟩, 20) := ⟨⟨by decide +kernel, by decide +kernel⟩, List.mem_of_getElem? (i := 689) (by decide +kernel), List.mem_of_getElem? (i := 817) (by decide +kernel), List.mem_of_getElem? (i := 818) (by decide +kernel)⟩
theorem lw_p33 : lw_okq (⟨"DropQueuesModel", "takesLink", "()Z"⟩, 20) := ⟨⟨by decide +kernel, by decide +kernel⟩, List.mem_of_getElem? (i := 689) (by decide +kernel), List.mem_of_getElem? (i := 821) (by decide +kernel), List.mem_of_getElem? (i := 822) (by decide +kernel)⟩
theorem lw_p34 : lw_okq (⟨"DropQueuesModel", "takesClash", "()Z"⟩, 20) := ⟨⟨by decide +kernel, by decide +kernel⟩, List.mem_of_getElem? (i := 689) (by decide +kernel), List.mem_of_getElem? (i := 826) (by decide +kernel), List.mem_of_getElem? (i := 827) (by decide +kernel)⟩
theorem lw_p35 : lw_okq (⟨"DropQueuesModel", "takesFeed", "()Z"⟩, 20) := ⟨⟨by decide +kernel, by decide +kernel⟩, List.mem_of_getElem? (i := 689) (by decide +kernel), List.mem_of_getElem? (i := 830) (by decide +kernel), List.mem_of_getElem? (i := 831) (by decide +kernel)⟩
theorem lw_p36 : lw_okq (⟨"DropQueuesModel", "isQueue", "(II)Z"⟩, 20) := ⟨⟨by decide +kernel, by decide +kernel⟩, List.mem_of_getElem? (i := 689) (by decide +kernel), List.mem_of_getElem? (i := 846) (by decide +kernel), List.mem_of_getElem? (i := 847) (by decide +kernel)⟩
theorem lw_p37 : lw_okq (⟨"DropQueuesModel", "isNode", "(I)Z"⟩, 20) := ⟨⟨by decide +kernel, by decide +kernel⟩, List.mem_of_getElem? (i := 689) (by decide +kernel), List.mem_of_getElem? (i := 850) (by decide +kernel), List.mem_of_getElem? (i := 851) (by decide +kernel)⟩
theorem lw_p38 : lw_okq (⟨"DropQueuesModel", "isGoal", "(I)Z"⟩, 20) := ⟨⟨by decide +kernel, by decide +kernel⟩, List.mem_of_getElem? (i := 689) (by decide +kernel), List.mem_of_getElem? (i := 854) (by decide +kernel), List.mem_of_getElem? (i := 855) (by decide +kernel)⟩
theorem lw_p39 : lw_okq (⟨"DropQueuesModel", "becomes", "(II)I"⟩, 20) := ⟨⟨by decide +kernel, by decide +kernel⟩, List.mem_of_getElem? (i := 689) (by decide +kernel), List.mem_of_getElem? (i := 858) (by decide +kernel), List.mem_of_getElem? (i := 859) (by decide +kernel)⟩
theorem lw_p40 : lw_okq (⟨"DropQueuesModel", "keeps", "()V"⟩, 20) := ⟨⟨by decide +kernel, by decide +kernel⟩, List.mem_of_getElem? (i := 689) (by decide +kernel), List.mem_of_getElem? (i := 862) (by decide +kernel), List.mem_of_getElem? (i := 863) (by decide +kernel)⟩
theorem lw_p41 : lw_okq (⟨"DropQueuesModel", "isLink", "(I)Z"⟩, 20) := ⟨⟨by decide +kernel, by decide +kernel⟩, List.mem_of_getElem? (i := 689) (by decide +kernel), List.mem_of_getElem? (i := 870) (by decide +kernel), List.mem_of_getElem? (i := 871) (by decide +kernel)⟩
theorem lw_p42 : lw_okq (⟨"DropQueuesModel", "pairs", "()I"⟩, 20) := ⟨⟨by decide +kernel, by decide +kernel⟩, List.mem_of_getElem? (i := 689) (by decide +kernel), List.mem_of_getElem? (i := 885) (by decide +kernel), List.mem_of_getElem? (i := 886) (by decide +kernel)⟩
theorem lw_p43 : lw_okq (⟨"DropQueuesModel", "manyIn", "(II)I"⟩, 20) := ⟨⟨by decide +kernel, by decide +kernel⟩, List.mem_of_getElem? (i := 689) (by decide +kernel), List.mem_of_getElem? (i := 897) (by decide +kernel), List.mem_of_getElem? (i := 898) (by decide +kernel)⟩
theorem lw_p44 : lw_okq (⟨"DropQueuesModel", "comes", "(III)Z"⟩, 20) := ⟨⟨by decide +kernel, by decide +kernel⟩, List.mem_of_getElem? (i := 689) (by decide +kernel), List.mem_of_getElem? (i := 904) (by decide +kernel), List.mem_of_getElem? (i := 905) (by decide +kernel)⟩
theorem lw_p45 : lw_okq (⟨"DropQueuesModel", "laysFeeds", "()V"⟩, 20) := ⟨⟨by decide +kernel, by decide +kernel⟩, List.mem_of_getElem? (i := 689) (by decide +kernel), List.mem_of_getElem? (i := 913) (by decide +kernel), List.mem_of_getElem? (i := 914) (by decide +kernel)⟩
theorem lw_p46 : lw_okq (⟨"DropQueuesModel", "thereAll", "()I"⟩, 20) := ⟨⟨by decide +kernel, by decide +kernel⟩, List.mem_of_getElem? (i := 689) (by decide +kernel), List.mem_of_getElem? (i := 917) (by decide +kernel), List.mem_of_getElem? (i := 918) (by decide +kernel)⟩
theorem lw_p47 : lw_okq (⟨"DropQueuesModel", "goesOn", "(I)V"⟩, 20) := ⟨⟨by decide +kernel, by decide +kernel⟩, List.mem_of_getElem? (i := 689) (by decide +kernel), List.mem_of_getElem? (i := 921) (by decide +kernel), List.mem_of_getElem? (i := 922) (by decide +kernel)⟩
def lw_privs_3 : List (MethodName × Nat) := [(⟨"DropQueuesModel", "isReadNode", "(I)Z"⟩, 20), (⟨"DropQueuesModel", "takesLink", "()Z"⟩, 20), (⟨"DropQueuesModel", "takesClash", "()Z"⟩, 20), (⟨"DropQueuesModel", "takesFeed", "()Z"⟩, 20), (⟨"DropQueuesModel", "isQueue", "(II)Z"⟩, 20), (⟨"DropQueuesModel", "isNode", "(I)Z"⟩, 20), (⟨"DropQueuesModel", "isGoal", "(I)Z"⟩, 20), (⟨"DropQueuesModel", "becomes", "(II)I"⟩, 20), (⟨"DropQueuesModel", "keeps", "()V"⟩, 20), (⟨"DropQueuesModel", "isLink", "(I)Z"⟩, 20), (⟨"DropQueuesModel", "pairs", "()I"⟩, 20), (⟨"DropQueuesModel", "manyIn", "(II)I"⟩, 20), (⟨"DropQueuesModel", "comes", "(III)Z"⟩, 20), (⟨"DropQueuesModel", "laysFeeds", "()V"⟩, 20), (⟨"DropQueuesModel", "thereAll", "()I"⟩, 20), (⟨"DropQueuesModel", "goesOn", "(I)V"⟩, 20)]
theorem lw_r3 : ∀ q ∈ lw_privs_3, lw_okq q := List.forall_mem_cons.mpr ⟨lw_p32, List.forall_mem_cons.mpr ⟨lw_p33, List.forall_mem_cons.mpr ⟨lw_p34, List.forall_mem_cons.mpr ⟨lw_p35, List.forall_mem_cons.mpr ⟨lw_p36, List.forall_mem_cons.mpr ⟨lw_p37, List.forall_mem_cons.mpr ⟨lw_p38, List.forall_mem_cons.mpr ⟨lw_p39, List.forall_mem_cons.mpr ⟨lw_p40, List.forall_mem_cons.mpr ⟨lw_p41, List.forall_mem_cons.mpr ⟨lw_p42, List.forall_mem_cons.mpr ⟨lw_p43, List.forall_mem_cons.mpr ⟨lw_p44, List.forall_mem_cons.mpr ⟨lw_p45, List.forall_mem_cons.mpr ⟨lw_p46, List.forall_mem_cons.mpr ⟨lw_p47, fun _ h => absurd h List.not_mem_nil⟩⟩⟩⟩⟩⟩⟩⟩⟩⟩⟩⟩⟩⟩⟩⟩
theorem lw_p48 : lw_okq (⟨"DropQueuesModel", "findsChoices", "()V"⟩, 20) := ⟨⟨by decide +kernel, by decide +kernel⟩, List.mem_of_getElem? (i := 689) (by decide +kernel), List.mem_of_getElem? (i := 925) (by decide +kernel), List.mem_of_getElem? (i := 926) (by decide +kernel)⟩
theorem lw_p49 : lw_okq (⟨"DropQueuesModel", "findsHops", "()V"⟩, 20) := ⟨⟨by decide +kernel, by decide +kernel⟩, List.mem_of_getElem? (i := 689) (by decide +kernel), List.mem_of_getElem? (i := 929) (by decide +kernel), List.mem_of_getElem? (i := 930) (by decide +kernel)⟩
theorem lw_p50 : lw_okq (⟨"DropQueuesModel", "firstOf", "(I)I"⟩, 20) := ⟨⟨by decide +kernel, by decide +kernel⟩, List.mem_of_getElem? (i := 689) (by decide +kernel), List.mem_of_getElem? (i := 933) (by decide +kernel), List.mem_of_getElem? (i := 934) (by decide +kernel)⟩
theorem lw_p51 : lw_okq (⟨"DropQueuesModel", "secondOf", "(I)I"⟩, 20) := ⟨⟨by decide +kernel, by decide +kernel⟩, List.mem_of_getElem? (i := 689) (by decide +kernel), List.mem_of_getElem? (i := 937) (by decide +kernel), List.mem_of_getElem? (i := 938) (by decide +kernel)⟩
theorem lw_p52 : lw_okq (⟨"DropQueuesModel", "dropOf", "(II)I"⟩, 20) := ⟨⟨by decide +kernel, by decide +kernel⟩, List.mem_of_getElem? (i := 689) (by decide +kernel), List.mem_of_getElem? (i := 941) (by decide +kernel), List.mem_of_getElem? (i := 942) (by decide +kernel)⟩
theorem lw_p53 : lw_okq (⟨"DropQueuesModel", "heightOf", "(II)I"⟩, 20) := ⟨⟨by decide +kernel, by decide +kernel⟩, List.mem_of_getElem? (i := 689) (by decide +kernel), List.mem_of_getElem? (i := 945) (by decide +kernel), List.mem_of_getElem? (i := 946) (by decide +kernel)⟩
theorem lw_p54 : lw_okq (⟨"DropQueuesModel", "roomOf", "(I)I"⟩, 20) := ⟨⟨by decide +kernel, by decide +kernel⟩, List.mem_of_getElem? (i := 689) (by decide +kernel), List.mem_of_getElem? (i := 949) (by decide +kernel), List.mem_of_getElem? (i := 950) (by decide +kernel)⟩
theorem lw_p55 : lw_okq (⟨"DropQueuesModel", "findsGoing", "(I)V"⟩, 20) := ⟨⟨by decide +kernel, by decide +kernel⟩, List.mem_of_getElem? (i := 689) (by decide +kernel), List.mem_of_getElem? (i := 953) (by decide +kernel), List.mem_of_getElem? (i := 954) (by decide +kernel)⟩
theorem lw_p56 : lw_okq (⟨"DropQueuesModel", "carries", "()I"⟩, 20) := ⟨⟨by decide +kernel, by decide +kernel⟩, List.mem_of_getElem? (i := 689) (by decide +kernel), List.mem_of_getElem? (i := 960) (by decide +kernel), List.mem_of_getElem? (i := 961) (by decide +kernel)⟩
theorem lw_p57 : lw_okq (⟨"DropQueuesModel", "leaves", "(II)I"⟩, 20) := ⟨⟨by decide +kernel, by decide +kernel⟩, List.mem_of_getElem? (i := 689) (by decide +kernel), List.mem_of_getElem? (i := 964) (by decide +kernel), List.mem_of_getElem? (i := 965) (by decide +kernel)⟩
theorem lw_p58 : lw_okq (⟨"DropQueuesModel", "isThere", "(II)V"⟩, 20) := ⟨⟨by decide +kernel, by decide +kernel⟩, List.mem_of_getElem? (i := 689) (by decide +kernel), List.mem_of_getElem? (i := 968) (by decide +kernel), List.mem_of_getElem? (i := 969) (by decide +kernel)⟩
theorem lw_p59 : lw_okq (⟨"DropQueuesModel", "bornNext", "(II)I"⟩, 20) := ⟨⟨by decide +kernel, by decide +kernel⟩, List.mem_of_getElem? (i := 689) (by decide +kernel), List.mem_of_getElem? (i := 977) (by decide +kernel), List.mem_of_getElem? (i := 978) (by decide +kernel)⟩
theorem lw_p60 : lw_okq (⟨"DropQueuesModel", "biasOf", "(II)I"⟩, 20) := ⟨⟨by decide +kernel, by decide +kernel⟩, List.mem_of_getElem? (i := 689) (by decide +kernel), List.mem_of_getElem? (i := 981) (by decide +kernel), List.mem_of_getElem? (i := 982) (by decide +kernel)⟩
theorem lw_p61 : lw_okq (⟨"DropQueuesModel", "findsAll", "()V"⟩, 20) := ⟨⟨by decide +kernel, by decide +kernel⟩, List.mem_of_getElem? (i := 689) (by decide +kernel), List.mem_of_getElem? (i := 990) (by decide +kernel), List.mem_of_getElem? (i := 991) (by decide +kernel)⟩
theorem lw_p62 : lw_okq (⟨"DropQueuesModel", "packetsFor", "(I)I"⟩, 20) := ⟨⟨by decide +kernel, by decide +kernel⟩, List.mem_of_getElem? (i := 689) (by decide +kernel), List.mem_of_getElem? (i := 1007) (by decide +kernel), List.mem_of_getElem? (i := 1008) (by decide +kernel)⟩
theorem lw_p63 : lw_okq (⟨"DropQueuesModel", "laysAside", "()V"⟩, 20) := ⟨⟨by decide +kernel, by decide +kernel⟩, List.mem_of_getElem? (i := 689) (by decide +kernel), List.mem_of_getElem? (i := 1015) (by decide +kernel), List.mem_of_getElem? (i := 1016) (by decide +kernel)⟩
def lw_privs_4 : List (MethodName × Nat) := [(⟨"DropQueuesModel", "findsChoices", "()V"⟩, 20), (⟨"DropQueuesModel", "findsHops", "()V"⟩, 20), (⟨"DropQueuesModel", "firstOf", "(I)I"⟩, 20), (⟨"DropQueuesModel", "secondOf", "(I)I"⟩, 20), (⟨"DropQueuesModel", "dropOf", "(II)I"⟩, 20), (⟨"DropQueuesModel", "heightOf", "(II)I"⟩, 20), (⟨"DropQueuesModel", "roomOf", "(I)I"⟩, 20), (⟨"DropQueuesModel", "findsGoing", "(I)V"⟩, 20), (⟨"DropQueuesModel", "carries", "()I"⟩, 20), (⟨"DropQueuesModel", "leaves", "(II)I"⟩, 20), (⟨"DropQueuesModel", "isThere", "(II)V"⟩, 20), (⟨"DropQueuesModel", "bornNext", "(II)I"⟩, 20), (⟨"DropQueuesModel", "biasOf", "(II)I"⟩, 20), (⟨"DropQueuesModel", "findsAll", "()V"⟩, 20), (⟨"DropQueuesModel", "packetsFor", "(I)I"⟩, 20), (⟨"DropQueuesModel", "laysAside", "()V"⟩, 20)]
theorem lw_r4 : ∀ q ∈ lw_privs_4, lw_okq q := List.forall_mem_cons.mpr ⟨lw_p48, List.forall_mem_cons.mpr ⟨lw_p49, List.forall_mem_cons.mpr ⟨lw_p50, List.forall_mem_cons.mpr ⟨lw_p51, List.forall_mem_cons.mpr ⟨lw_p52, List.forall_mem_cons.mpr ⟨lw_p53, List.forall_mem_cons.mpr ⟨lw_p54, List.forall_mem_cons.mpr ⟨lw_p55, List.forall_mem_cons.mpr ⟨lw_p56, List.forall_mem_cons.mpr ⟨lw_p57, List.forall_mem_cons.mpr ⟨lw_p58, List.forall_mem_cons.mpr ⟨lw_p59, List.forall_mem_cons.mpr ⟨lw_p60, List.forall_mem_cons.mpr ⟨lw_p61, List.forall_mem_cons.mpr ⟨lw_p62, List.forall_mem_cons.mpr ⟨lw_p63, fun _ h => absurd h List.not_mem_nil⟩⟩⟩⟩⟩⟩⟩⟩⟩⟩⟩⟩⟩⟩⟩⟩
theorem lw_p64 : lw_okq (⟨"DropQueuesModel", "squares", "()I"⟩, 20) := ⟨⟨by decide +kernel, by decide +kernel⟩, List.mem_of_getElem? (i := 689) (by decide +kernel), List.mem_of_getElem? (i := 1019) (by decide +kernel), List.mem_of_getElem? (i := 1020) (by decide +kernel)⟩
theorem lw_p65 : lw_okq (⟨"DropQueuesModel", "packets", "()I"⟩, 20) := ⟨⟨by decide +kernel, by decide +kernel⟩, List.mem_of_getElem? (i := 689) (by decide +kernel), List.mem_of_getElem? (i := 1023) (by decide +kernel), List.mem_of_getElem? (i := 1024) (by decide +kernel)⟩
theorem lw_p66 : lw_okq (⟨"DropQueuesModel", "comesBack", "()V"⟩, 20) := ⟨⟨by decide +kernel, by decide +kernel⟩, List.mem_of_getElem? (i := 689) (by decide +kernel), List.mem_of_getElem? (i := 1027) (by decide +kernel), List.mem_of_getElem? (i := 1028) (by decide +kernel)⟩
theorem lw_p67 : lw_okq (⟨"DropQueuesModel", "drawsFeeds", "(II)V"⟩, 20) := ⟨⟨by decide +kernel, by decide +kernel⟩, List.mem_of_getElem? (i := 689) (by decide +kernel), List.mem_of_getElem? (i := 1045) (by decide +kernel), List.mem_of_getElem? (i := 1046) (by decide +kernel)⟩
def lw_privs_5 : List (MethodName × Nat) := [(⟨"DropQueuesModel", "squares", "()I"⟩, 20), (⟨"DropQueuesModel", "packets", "()I"⟩, 20), (⟨"DropQueuesModel", "comesBack", "()V"⟩, 20), (⟨"DropQueuesModel", "drawsFeeds", "(II)V"⟩, 20)]
theorem lw_r5 : ∀ q ∈ lw_privs_5, lw_okq q := List.forall_mem_cons.mpr ⟨lw_p64, List.forall_mem_cons.mpr ⟨lw_p65, List.forall_mem_cons.mpr ⟨lw_p66, List.forall_mem_cons.mpr ⟨lw_p67, fun _ h => absurd h List.not_mem_nil⟩⟩⟩⟩
def lw_privs : List (MethodName × Nat) := lw_privs_1 ++ (lw_privs_2 ++ (lw_privs_3 ++ (lw_privs_4 ++ (lw_privs_5))))
def lw_tbl : List Cond := k2_sels lw_privs ++ tables_1
theorem lw_privs_ok : ∀ q ∈ lw_privs, lw_okq q := by
  show ∀ q ∈ lw_privs_1 ++ (lw_privs_2 ++ (lw_privs_3 ++ (lw_privs_4 ++ (lw_privs_5)))), lw_okq q
  exact List.forall_mem_append.mpr ⟨lw_r1, List.forall_mem_append.mpr ⟨lw_r2, List.forall_mem_append.mpr ⟨lw_r3, List.forall_mem_append.mpr ⟨lw_r4, lw_r5⟩⟩⟩⟩

def RX0 : String := "DropQueues$History"
def TX0 : u_T := fun k => match k with
  | 0 => ("DropQueues$History", "kept", "I", false)
  | 1 => ("DropQueues$History", "next", "I", false)
  | _ => ("DropQueues$History", "worlds", "[LDropQueues$World;", true)
def tyX0 : Nat → FieldType := fun k => match k with
  | 0 => .int
  | 1 => .int
  | _ => .array (.object "DropQueues$World")
abbrev wsX00 : List Cond := u_ws RX0 TX0 3
theorem nmX0 : ∀ a, a < 3 → ∀ b, b < 3 → a ≠ b → (TX0 a).2.1 ≠ (TX0 b).2.1 := by decide +kernel
theorem tyX0_ok : ∀ k, k < 3 → parseFieldDescriptor (TX0 k).2.2.1 = some (tyX0 k) := by decide +kernel
abbrev cX0_init : ByteArray := prog_2_method_1_code
def yX0_init : MethodName := ⟨RX0, "<init>", "()V"⟩
abbrev cX0_clear : ByteArray := prog_2_method_2_code
def yX0_clear : MethodName := ⟨RX0, "clear", "()V"⟩
abbrev cX0_keep : ByteArray := prog_2_method_3_code
def yX0_keep : MethodName := ⟨RX0, "keep", "(LDropQueues$World;)V"⟩
abbrev cX0_giveBack : ByteArray := prog_2_method_4_code
def yX0_giveBack : MethodName := ⟨RX0, "giveBack", "(LDropQueues$World;)V"⟩
def RX1 : String := "DropQueues$Mover"
def TX1 : u_T := fun k => match k with
  | 0 => ("DropQueues$Mover", "drawnFeeds", "[I", true)
  | 1 => ("DropQueues$Mover", "picker", "LDropQueues$Picker;", true)
  | 2 => ("DropQueues$Mover", "taken", "[I", true)
  | _ => ("DropQueues$Mover", "underWay", "[I", true)
def tyX1 : Nat → FieldType := fun k => match k with
  | 0 => .array .int
  | 1 => .object "DropQueues$Picker"
  | 2 => .array .int
  | _ => .array .int
abbrev wsX10 : List Cond := u_ws RX1 TX1 4
theorem nmX1 : ∀ a, a < 4 → ∀ b, b < 4 → a ≠ b → (TX1 a).2.1 ≠ (TX1 b).2.1 := by decide +kernel
theorem tyX1_ok : ∀ k, k < 4 → parseFieldDescriptor (TX1 k).2.2.1 = some (tyX1 k) := by decide +kernel
abbrev cX1_init : ByteArray := prog_3_method_1_code
def yX1_init : MethodName := ⟨RX1, "<init>", "()V"⟩
abbrev cX1_move : ByteArray := prog_3_method_2_code
def yX1_move : MethodName := ⟨RX1, "move", "(LDropQueues$World;I[I)V"⟩
abbrev cX1_drawFeeds : ByteArray := prog_3_method_3_code
def yX1_drawFeeds : MethodName := ⟨RX1, "drawFeeds", "(LDropQueues$Net;II)V"⟩
abbrev cX1_takeOver : ByteArray := prog_3_method_4_code
def yX1_takeOver : MethodName := ⟨RX1, "takeOver", "(LDropQueues$World;I)V"⟩
abbrev cX1_bring : ByteArray := prog_3_method_5_code
def yX1_bring : MethodName := ⟨RX1, "bring", "(LDropQueues$World;I)V"⟩
abbrev cX1_bringFeeds : ByteArray := prog_3_method_6_code
def yX1_bringFeeds : MethodName := ⟨RX1, "bringFeeds", "(LDropQueues$World;[I)V"⟩
def RX2 : String := "DropQueues$Net"
def TX2 : u_T := fun k => match k with
  | 0 => ("DropQueues$Net", "nodes", "I", false)
  | 1 => ("DropQueues$Net", "goals", "I", false)
  | 2 => ("DropQueues$Net", "links", "I", false)
  | 3 => ("DropQueues$Net", "law", "I", false)
  | 4 => ("DropQueues$Net", "b", "I", false)
  | 5 => ("DropQueues$Net", "goalNodes", "[I", true)
  | 6 => ("DropQueues$Net", "firsts", "[I", true)
  | 7 => ("DropQueues$Net", "seconds", "[I", true)
  | 8 => ("DropQueues$Net", "rooms", "[I", true)
  | 9 => ("DropQueues$Net", "clashes", "[I", true)
  | 10 => ("DropQueues$Net", "feeds", "[I", true)
  | _ => ("DropQueues$Net", "hops", "[I", true)
def tyX2 : Nat → FieldType := fun k => match k with
  | 0 => .int
  | 1 => .int
  | 2 => .int
  | 3 => .int
  | 4 => .int
  | 5 => .array .int
  | 6 => .array .int
  | 7 => .array .int
  | 8 => .array .int
  | 9 => .array .int
  | 10 => .array .int
  | _ => .array .int
abbrev wsX20 : List Cond := u_ws RX2 TX2 12
theorem nmX2 : ∀ a, a < 12 → ∀ b, b < 12 → a ≠ b → (TX2 a).2.1 ≠ (TX2 b).2.1 := by decide +kernel
theorem tyX2_ok : ∀ k, k < 12 → parseFieldDescriptor (TX2 k).2.2.1 = some (tyX2 k) := by decide +kernel
abbrev cX2_init : ByteArray := prog_4_method_1_code
def yX2_init : MethodName := ⟨RX2, "<init>", "()V"⟩
abbrev cX2_clear : ByteArray := prog_4_method_2_code
def yX2_clear : MethodName := ⟨RX2, "clear", "()V"⟩
abbrev cX2_copyFrom : ByteArray := prog_4_method_3_code
def yX2_copyFrom : MethodName := ⟨RX2, "copyFrom", "(LDropQueues$Net;)V"⟩
abbrev cX2_hasNode : ByteArray := prog_4_method_4_code
def yX2_hasNode : MethodName := ⟨RX2, "hasNode", "(I)Z"⟩
abbrev cX2_hasGoal : ByteArray := prog_4_method_5_code
def yX2_hasGoal : MethodName := ⟨RX2, "hasGoal", "(I)Z"⟩
abbrev cX2_hasLink : ByteArray := prog_4_method_6_code
def yX2_hasLink : MethodName := ⟨RX2, "hasLink", "(I)Z"⟩
abbrev cX2_hasQueue : ByteArray := prog_4_method_7_code
def yX2_hasQueue : MethodName := ⟨RX2, "hasQueue", "(II)Z"⟩
abbrev cX2_doClash : ByteArray := prog_4_method_8_code
def yX2_doClash : MethodName := ⟨RX2, "doClash", "(II)Z"⟩
abbrev cX2_turnClash : ByteArray := prog_4_method_9_code
def yX2_turnClash : MethodName := ⟨RX2, "turnClash", "(II)V"⟩
abbrev cX2_pairs : ByteArray := prog_4_method_10_code
def yX2_pairs : MethodName := ⟨RX2, "pairs", "()I"⟩
abbrev cX2_biasAt : ByteArray := prog_4_method_11_code
def yX2_biasAt : MethodName := ⟨RX2, "biasAt", "(I)I"⟩
abbrev cX2_takeItem : ByteArray := prog_4_method_12_code
def yX2_takeItem : MethodName := ⟨RX2, "takeItem", "(IIII)Z"⟩
abbrev cX2_findHops : ByteArray := prog_4_method_13_code
def yX2_findHops : MethodName := ⟨RX2, "findHops", "()V"⟩
abbrev cX2_shortenWays : ByteArray := prog_4_method_14_code
def yX2_shortenWays : MethodName := ⟨RX2, "shortenWays", "(I)V"⟩
abbrev cX2_takeNodes : ByteArray := prog_4_method_15_code
def yX2_takeNodes : MethodName := ⟨RX2, "takeNodes", "(I)Z"⟩
abbrev cX2_takeGoal : ByteArray := prog_4_method_16_code
def yX2_takeGoal : MethodName := ⟨RX2, "takeGoal", "(I)Z"⟩
abbrev cX2_takeLink : ByteArray := prog_4_method_17_code
def yX2_takeLink : MethodName := ⟨RX2, "takeLink", "(III)Z"⟩
abbrev cX2_takeClash : ByteArray := prog_4_method_18_code
def yX2_takeClash : MethodName := ⟨RX2, "takeClash", "(II)Z"⟩
abbrev cX2_takeFeed : ByteArray := prog_4_method_19_code
def yX2_takeFeed : MethodName := ⟨RX2, "takeFeed", "(III)Z"⟩
abbrev cX2_takeB : ByteArray := prog_4_method_20_code
def yX2_takeB : MethodName := ⟨RX2, "takeB", "(I)Z"⟩
abbrev cX2_takeLaw : ByteArray := prog_4_method_21_code
def yX2_takeLaw : MethodName := ⟨RX2, "takeLaw", "(I)Z"⟩
def RX3 : String := "DropQueues$Picker"
def TX3 : u_T := fun k => match k with
  | 0 => ("DropQueues$Picker", "bestSet", "I", false)
  | 1 => ("DropQueues$Picker", "bestWeight", "I", false)
  | 2 => ("DropQueues$Picker", "choices", "[I", true)
  | _ => ("DropQueues$Picker", "weights", "[I", true)
def tyX3 : Nat → FieldType := fun k => match k with
  | 0 => .int
  | 1 => .int
  | 2 => .array .int
  | _ => .array .int
abbrev wsX30 : List Cond := u_ws RX3 TX3 4
theorem nmX3 : ∀ a, a < 4 → ∀ b, b < 4 → a ≠ b → (TX3 a).2.1 ≠ (TX3 b).2.1 := by decide +kernel
theorem tyX3_ok : ∀ k, k < 4 → parseFieldDescriptor (TX3 k).2.2.1 = some (tyX3 k) := by decide +kernel
abbrev cX3_init : ByteArray := prog_5_method_1_code
def yX3_init : MethodName := ⟨RX3, "<init>", "()V"⟩
abbrev cX3_weigh : ByteArray := prog_5_method_2_code
def yX3_weigh : MethodName := ⟨RX3, "weigh", "(LDropQueues$World;)V"⟩
abbrev cX3_pick : ByteArray := prog_5_method_3_code
def yX3_pick : MethodName := ⟨RX3, "pick", "(LDropQueues$Net;I)V"⟩
abbrev cX3_choiceOf : ByteArray := prog_5_method_4_code
def yX3_choiceOf : MethodName := ⟨RX3, "choiceOf", "(LDropQueues$World;I)I"⟩
abbrev cX3_search : ByteArray := prog_5_method_5_code
def yX3_search : MethodName := ⟨RX3, "search", "(LDropQueues$Picker;LDropQueues$Net;IIII)V"⟩
abbrev cX3_weightOf : ByteArray := prog_5_method_6_code
def yX3_weightOf : MethodName := ⟨RX3, "weightOf", "(I)I"⟩
abbrev cX3_offer : ByteArray := prog_5_method_7_code
def yX3_offer : MethodName := ⟨RX3, "offer", "(II)V"⟩
abbrev cX3_comesAhead : ByteArray := prog_5_method_8_code
def yX3_comesAhead : MethodName := ⟨RX3, "comesAhead", "(II)Z"⟩
def RX4 : String := "DropQueues$Queues"
def TX4 : u_T := fun k => match k with
  | 0 => ("DropQueues$Queues", "slots", "I", false)
  | 1 => ("DropQueues$Queues", "lost", "I", false)
  | 2 => ("DropQueues$Queues", "there", "[I", true)
  | 3 => ("DropQueues$Queues", "delays", "[I", true)
  | 4 => ("DropQueues$Queues", "longest", "[I", true)
  | 5 => ("DropQueues$Queues", "sizes", "[I", true)
  | 6 => ("DropQueues$Queues", "born", "[I", true)
  | _ => ("DropQueues$Queues", "heads", "[I", true)
def tyX4 : Nat → FieldType := fun k => match k with
  | 0 => .int
  | 1 => .int
  | 2 => .array .int
  | 3 => .array .int
  | 4 => .array .int
  | 5 => .array .int
  | 6 => .array .int
  | _ => .array .int
abbrev wsX40 : List Cond := u_ws RX4 TX4 8
theorem nmX4 : ∀ a, a < 8 → ∀ b, b < 8 → a ≠ b → (TX4 a).2.1 ≠ (TX4 b).2.1 := by decide +kernel
theorem tyX4_ok : ∀ k, k < 8 → parseFieldDescriptor (TX4 k).2.2.1 = some (tyX4 k) := by decide +kernel
abbrev cX4_init : ByteArray := prog_6_method_1_code
def yX4_init : MethodName := ⟨RX4, "<init>", "()V"⟩
abbrev cX4_clear : ByteArray := prog_6_method_2_code
def yX4_clear : MethodName := ⟨RX4, "clear", "()V"⟩
abbrev cX4_copyFrom : ByteArray := prog_6_method_3_code
def yX4_copyFrom : MethodName := ⟨RX4, "copyFrom", "(LDropQueues$Queues;)V"⟩
abbrev cX4_addOne : ByteArray := prog_6_method_4_code
def yX4_addOne : MethodName := ⟨RX4, "addOne", "(II)V"⟩
abbrev cX4_addMany : ByteArray := prog_6_method_5_code
def yX4_addMany : MethodName := ⟨RX4, "addMany", "(III)V"⟩
abbrev cX4_nextBorn : ByteArray := prog_6_method_6_code
def yX4_nextBorn : MethodName := ⟨RX4, "nextBorn", "(II)I"⟩
abbrev cX4_takeOne : ByteArray := prog_6_method_7_code
def yX4_takeOne : MethodName := ⟨RX4, "takeOne", "(II)I"⟩
abbrev cX4_arrive : ByteArray := prog_6_method_8_code
def yX4_arrive : MethodName := ⟨RX4, "arrive", "(II)V"⟩
abbrev cX4_thereInAll : ByteArray := prog_6_method_9_code
def yX4_thereInAll : MethodName := ⟨RX4, "thereInAll", "()I"⟩
abbrev cX4_packetsFor : ByteArray := prog_6_method_10_code
def yX4_packetsFor : MethodName := ⟨RX4, "packetsFor", "(I)I"⟩
abbrev cX4_packets : ByteArray := prog_6_method_11_code
def yX4_packets : MethodName := ⟨RX4, "packets", "()I"⟩
abbrev cX4_squares : ByteArray := prog_6_method_12_code
def yX4_squares : MethodName := ⟨RX4, "squares", "()I"⟩
abbrev cX4_placeOf : ByteArray := prog_6_method_13_code
def yX4_placeOf : MethodName := ⟨RX4, "placeOf", "(II)I"⟩
def RX5 : String := "DropQueues$Text"
def TX5 : u_T := fun k => match k with
  | 0 => ("DropQueues$Text", "length", "I", false)
  | 1 => ("DropQueues$Text", "letters", "[C", true)
  | _ => ("DropQueues$Text", "numbers", "[I", true)
def tyX5 : Nat → FieldType := fun k => match k with
  | 0 => .int
  | 1 => .array .char
  | _ => .array .int
abbrev wsX50 : List Cond := u_ws RX5 TX5 3
theorem nmX5 : ∀ a, a < 3 → ∀ b, b < 3 → a ≠ b → (TX5 a).2.1 ≠ (TX5 b).2.1 := by decide +kernel
theorem tyX5_ok : ∀ k, k < 3 → parseFieldDescriptor (TX5 k).2.2.1 = some (tyX5 k) := by decide +kernel
abbrev cX5_init : ByteArray := prog_7_method_1_code
def yX5_init : MethodName := ⟨RX5, "<init>", "()V"⟩
abbrev cX5_append : ByteArray := prog_7_method_2_code
def yX5_append : MethodName := ⟨RX5, "append", "(C)V"⟩
abbrev cX5_readInto : ByteArray := prog_7_method_3_code
def yX5_readInto : MethodName := ⟨RX5, "readInto", "(LDropQueues$Net;)I"⟩
abbrev cX5_readItem : ByteArray := prog_7_method_4_code
def yX5_readItem : MethodName := ⟨RX5, "readItem", "(LDropQueues$Net;II)Z"⟩
abbrev cX5_numbersOf : ByteArray := prog_7_method_5_code
def yX5_numbersOf : MethodName := ⟨RX5, "numbersOf", "(I)I"⟩
abbrev cX5_readNumbers : ByteArray := prog_7_method_6_code
def yX5_readNumbers : MethodName := ⟨RX5, "readNumbers", "(II)I"⟩
def RX6 : String := "DropQueues$World"
def TX6 : u_T := fun k => match k with
  | 0 => ("DropQueues$World", "net", "LDropQueues$Net;", true)
  | _ => ("DropQueues$World", "queues", "LDropQueues$Queues;", true)
def tyX6 : Nat → FieldType := fun k => match k with
  | 0 => .object "DropQueues$Net"
  | _ => .object "DropQueues$Queues"
abbrev wsX60 : List Cond := u_ws RX6 TX6 2
theorem nmX6 : ∀ a, a < 2 → ∀ b, b < 2 → a ≠ b → (TX6 a).2.1 ≠ (TX6 b).2.1 := by decide +kernel
theorem tyX6_ok : ∀ k, k < 2 → parseFieldDescriptor (TX6 k).2.2.1 = some (tyX6 k) := by decide +kernel
abbrev cX6_init : ByteArray := prog_8_method_1_code
def yX6_init : MethodName := ⟨RX6, "<init>", "()V"⟩
abbrev cX6_copyFrom : ByteArray := prog_8_method_2_code
def yX6_copyFrom : MethodName := ⟨RX6, "copyFrom", "(LDropQueues$World;)V"⟩
abbrev cX6_dropOf : ByteArray := prog_8_method_3_code
def yX6_dropOf : MethodName := ⟨RX6, "dropOf", "(II)I"⟩
def RX7 : String := "DropQueues"
def TX7 : u_T := fun k => match k with
  | 0 => ("DropQueues", "text", "LDropQueues$Text;", true)
  | 1 => ("DropQueues", "now", "LDropQueues$World;", true)
  | 2 => ("DropQueues", "trial", "LDropQueues$World;", true)
  | 3 => ("DropQueues", "history", "LDropQueues$History;", true)
  | 4 => ("DropQueues", "picker", "LDropQueues$Picker;", true)
  | _ => ("DropQueues", "mover", "LDropQueues$Mover;", true)
def tyX7 : Nat → FieldType := fun k => match k with
  | 0 => .object "DropQueues$Text"
  | 1 => .object "DropQueues$World"
  | 2 => .object "DropQueues$World"
  | 3 => .object "DropQueues$History"
  | 4 => .object "DropQueues$Picker"
  | _ => .object "DropQueues$Mover"
abbrev wsX70 : List Cond := u_ws RX7 TX7 6
theorem nmX7 : ∀ a, a < 6 → ∀ b, b < 6 → a ≠ b → (TX7 a).2.1 ≠ (TX7 b).2.1 := by decide +kernel
theorem tyX7_ok : ∀ k, k < 6 → parseFieldDescriptor (TX7 k).2.2.1 = some (tyX7 k) := by decide +kernel
abbrev cX7_init : ByteArray := prog_1_method_1_code
def yX7_init : MethodName := ⟨RX7, "<init>", "()V"⟩
abbrev cX7_write : ByteArray := prog_1_method_2_code
def yX7_write : MethodName := ⟨RX7, "write", "(I)I"⟩
abbrev cX7_wipe : ByteArray := prog_1_method_3_code
def yX7_wipe : MethodName := ⟨RX7, "wipe", "()I"⟩
abbrev cX7_fault : ByteArray := prog_1_method_4_code
def yX7_fault : MethodName := ⟨RX7, "fault", "()I"⟩
abbrev cX7_lay : ByteArray := prog_1_method_5_code
def yX7_lay : MethodName := ⟨RX7, "lay", "()I"⟩
abbrev cX7_feed : ByteArray := prog_1_method_6_code
def yX7_feed : MethodName := ⟨RX7, "feed", "(III)I"⟩
abbrev cX7_room : ByteArray := prog_1_method_7_code
def yX7_room : MethodName := ⟨RX7, "room", "(II)I"⟩
abbrev cX7_tell : ByteArray := prog_1_method_8_code
def yX7_tell : MethodName := ⟨RX7, "tell", "(II)I"⟩
abbrev cX7_clash : ByteArray := prog_1_method_9_code
def yX7_clash : MethodName := ⟨RX7, "clash", "(III)I"⟩
abbrev cX7_put : ByteArray := prog_1_method_10_code
def yX7_put : MethodName := ⟨RX7, "put", "(III)I"⟩
abbrev cX7_slot : ByteArray := prog_1_method_11_code
def yX7_slot : MethodName := ⟨RX7, "slot", "(I)I"⟩
abbrev cX7_undo : ByteArray := prog_1_method_12_code
def yX7_undo : MethodName := ⟨RX7, "undo", "()I"⟩
abbrev cX7_queue : ByteArray := prog_1_method_13_code
def yX7_queue : MethodName := ⟨RX7, "queue", "(III)I"⟩
abbrev cX7_link : ByteArray := prog_1_method_14_code
def yX7_link : MethodName := ⟨RX7, "link", "(II)I"⟩
abbrev cX7_drop : ByteArray := prog_1_method_15_code
def yX7_drop : MethodName := ⟨RX7, "drop", "(II)I"⟩
abbrev cX7_goes : ByteArray := prog_1_method_16_code
def yX7_goes : MethodName := ⟨RX7, "goes", "(I)I"⟩
abbrev cX7_goal : ByteArray := prog_1_method_17_code
def yX7_goal : MethodName := ⟨RX7, "goal", "(II)I"⟩
abbrev cX7_ahead : ByteArray := prog_1_method_18_code
def yX7_ahead : MethodName := ⟨RX7, "ahead", "(II)I"⟩
abbrev cX7_without : ByteArray := prog_1_method_19_code
def yX7_without : MethodName := ⟨RX7, "without", "(I)I"⟩
abbrev cX7_worst : ByteArray := prog_1_method_20_code
def yX7_worst : MethodName := ⟨RX7, "worst", "(I)I"⟩
abbrev cX7_drawn : ByteArray := prog_1_method_21_code
def yX7_drawn : MethodName := ⟨RX7, "drawn", "(III)I"⟩
abbrev cX7_count : ByteArray := prog_1_method_22_code
def yX7_count : MethodName := ⟨RX7, "count", "(I)I"⟩
abbrev cX7_layText : ByteArray := prog_1_method_23_code
def yX7_layText : MethodName := ⟨RX7, "layText", "()Z"⟩
abbrev cX7_tellLaw : ByteArray := prog_1_method_24_code
def yX7_tellLaw : MethodName := ⟨RX7, "tellLaw", "(I)I"⟩
abbrev cX7_tellB : ByteArray := prog_1_method_25_code
def yX7_tellB : MethodName := ⟨RX7, "tellB", "(I)I"⟩
abbrev cX7_linkAsQueuesAre : ByteArray := prog_1_method_26_code
def yX7_linkAsQueuesAre : MethodName := ⟨RX7, "linkAsQueuesAre", "(II)I"⟩
abbrev cX7_weightWithout : ByteArray := prog_1_method_27_code
def yX7_weightWithout : MethodName := ⟨RX7, "weightWithout", "(II)I"⟩
abbrev cX7_trialSince : ByteArray := prog_1_method_28_code
def yX7_trialSince : MethodName := ⟨RX7, "trialSince", "(I)I"⟩
abbrev cX7_countPackets : ByteArray := prog_1_method_29_code
def yX7_countPackets : MethodName := ⟨RX7, "countPackets", "(I)I"⟩
abbrev cX7_within : ByteArray := prog_1_method_30_code
def yX7_within : MethodName := ⟨RX7, "within", "(III)Z"⟩
abbrev cX7_spot : ByteArray := prog_1_method_31_code
def yX7_spot : MethodName := ⟨RX7, "spot", "(II)I"⟩
def RX8 : String := "DropQueuesModel"
def TX8 : u_T := fun k => match k with
  | 0 => ("DropQueuesModel", "now", "[I", true)
  | 1 => ("DropQueuesModel", "aside", "[I", true)
  | 2 => ("DropQueuesModel", "past", "[I", true)
  | 3 => ("DropQueuesModel", "changes", "I", false)
  | 4 => ("DropQueuesModel", "text", "[I", true)
  | 5 => ("DropQueuesModel", "letters", "I", false)
  | 6 => ("DropQueuesModel", "read", "[I", true)
  | 7 => ("DropQueuesModel", "spot", "I", false)
  | 8 => ("DropQueuesModel", "told", "[I", true)
  | 9 => ("DropQueuesModel", "hops", "[I", true)
  | 10 => ("DropQueuesModel", "choice", "[I", true)
  | 11 => ("DropQueuesModel", "weight", "[I", true)
  | 12 => ("DropQueuesModel", "together", "[I", true)
  | 13 => ("DropQueuesModel", "isFree", "[Z", true)
  | 14 => ("DropQueuesModel", "going", "I", false)
  | 15 => ("DropQueuesModel", "goingWeight", "I", false)
  | 16 => ("DropQueuesModel", "wayTo", "[I", true)
  | 17 => ("DropQueuesModel", "wayGoal", "[I", true)
  | 18 => ("DropQueuesModel", "wayBorn", "[I", true)
  | _ => ("DropQueuesModel", "feeds", "[I", true)
def tyX8 : Nat → FieldType := fun k => match k with
  | 0 => .array .int
  | 1 => .array .int
  | 2 => .array .int
  | 3 => .int
  | 4 => .array .int
  | 5 => .int
  | 6 => .array .int
  | 7 => .int
  | 8 => .array .int
  | 9 => .array .int
  | 10 => .array .int
  | 11 => .array .int
  | 12 => .array .int
  | 13 => .array .boolean
  | 14 => .int
  | 15 => .int
  | 16 => .array .int
  | 17 => .array .int
  | 18 => .array .int
  | _ => .array .int
abbrev wsX80 : List Cond := u_ws RX8 TX8 20
theorem nmX8 : ∀ a, a < 20 → ∀ b, b < 20 → a ≠ b → (TX8 a).2.1 ≠ (TX8 b).2.1 := by decide +kernel
theorem tyX8_ok : ∀ k, k < 20 → parseFieldDescriptor (TX8 k).2.2.1 = some (tyX8 k) := by decide +kernel
abbrev cX8_init : ByteArray := prog_10_method_1_code
def yX8_init : MethodName := ⟨RX8, "<init>", "()V"⟩
abbrev cX8_in : ByteArray := prog_10_method_3_code
def yX8_in : MethodName := ⟨RX8, "in", "(JJJ)Z"⟩
abbrev cX8_has : ByteArray := prog_10_method_4_code
def yX8_has : MethodName := ⟨RX8, "has", "(II)Z"⟩
abbrev cX8_ones : ByteArray := prog_10_method_5_code
def yX8_ones : MethodName := ⟨RX8, "ones", "(I)I"⟩
abbrev cX8_clashes : ByteArray := prog_10_method_6_code
def yX8_clashes : MethodName := ⟨RX8, "clashes", "([IIII)V"⟩
abbrev cX8_begins : ByteArray := prog_10_method_7_code
def yX8_begins : MethodName := ⟨RX8, "begins", "()V"⟩
abbrev cX8_links : ByteArray := prog_10_method_8_code
def yX8_links : MethodName := ⟨RX8, "links", "(III)V"⟩
abbrev cX8_takes : ByteArray := prog_10_method_9_code
def yX8_takes : MethodName := ⟨RX8, "takes", "()V"⟩
abbrev cX8_isAt : ByteArray := prog_10_method_10_code
def yX8_isAt : MethodName := ⟨RX8, "isAt", "(II)Z"⟩
abbrev cX8_takesNumber : ByteArray := prog_10_method_11_code
def yX8_takesNumber : MethodName := ⟨RX8, "takesNumber", "(I)Z"⟩
abbrev cX8_takesNumbers : ByteArray := prog_10_method_12_code
def yX8_takesNumbers : MethodName := ⟨RX8, "takesNumbers", "(I)Z"⟩
abbrev cX8_isReadNode : ByteArray := prog_10_method_13_code
def yX8_isReadNode : MethodName := ⟨RX8, "isReadNode", "(I)Z"⟩
abbrev cX8_takesGoal : ByteArray := prog_10_method_14_code
def yX8_takesGoal : MethodName := ⟨RX8, "takesGoal", "()Z"⟩
abbrev cX8_takesLink : ByteArray := prog_10_method_15_code
def yX8_takesLink : MethodName := ⟨RX8, "takesLink", "()Z"⟩
abbrev cX8_takesClash : ByteArray := prog_10_method_16_code
def yX8_takesClash : MethodName := ⟨RX8, "takesClash", "()Z"⟩
abbrev cX8_takesFeed : ByteArray := prog_10_method_17_code
def yX8_takesFeed : MethodName := ⟨RX8, "takesFeed", "()Z"⟩
abbrev cX8_takesOne : ByteArray := prog_10_method_18_code
def yX8_takesOne : MethodName := ⟨RX8, "takesOne", "(II)Z"⟩
abbrev cX8_takesItem : ByteArray := prog_10_method_19_code
def yX8_takesItem : MethodName := ⟨RX8, "takesItem", "()Z"⟩
abbrev cX8_reads : ByteArray := prog_10_method_20_code
def yX8_reads : MethodName := ⟨RX8, "reads", "()I"⟩
abbrev cX8_write : ByteArray := prog_10_method_21_code
def yX8_write : MethodName := ⟨RX8, "write", "(I)I"⟩
abbrev cX8_wipe : ByteArray := prog_10_method_22_code
def yX8_wipe : MethodName := ⟨RX8, "wipe", "()I"⟩
abbrev cX8_fault : ByteArray := prog_10_method_23_code
def yX8_fault : MethodName := ⟨RX8, "fault", "()I"⟩
abbrev cX8_lay : ByteArray := prog_10_method_24_code
def yX8_lay : MethodName := ⟨RX8, "lay", "()I"⟩
abbrev cX8_keeps : ByteArray := prog_10_method_25_code
def yX8_keeps : MethodName := ⟨RX8, "keeps", "()V"⟩
abbrev cX8_undo : ByteArray := prog_10_method_26_code
def yX8_undo : MethodName := ⟨RX8, "undo", "()I"⟩
abbrev cX8_isNode : ByteArray := prog_10_method_27_code
def yX8_isNode : MethodName := ⟨RX8, "isNode", "(I)Z"⟩
abbrev cX8_isGoal : ByteArray := prog_10_method_28_code
def yX8_isGoal : MethodName := ⟨RX8, "isGoal", "(I)Z"⟩
abbrev cX8_isLink : ByteArray := prog_10_method_29_code
def yX8_isLink : MethodName := ⟨RX8, "isLink", "(I)Z"⟩
abbrev cX8_isQueue : ByteArray := prog_10_method_30_code
def yX8_isQueue : MethodName := ⟨RX8, "isQueue", "(II)Z"⟩
abbrev cX8_becomes : ByteArray := prog_10_method_31_code
def yX8_becomes : MethodName := ⟨RX8, "becomes", "(II)I"⟩
abbrev cX8_feed : ByteArray := prog_10_method_32_code
def yX8_feed : MethodName := ⟨RX8, "feed", "(III)I"⟩
abbrev cX8_room : ByteArray := prog_10_method_33_code
def yX8_room : MethodName := ⟨RX8, "room", "(II)I"⟩
abbrev cX8_tell : ByteArray := prog_10_method_34_code
def yX8_tell : MethodName := ⟨RX8, "tell", "(II)I"⟩
abbrev cX8_pairs : ByteArray := prog_10_method_35_code
def yX8_pairs : MethodName := ⟨RX8, "pairs", "()I"⟩
abbrev cX8_clash : ByteArray := prog_10_method_36_code
def yX8_clash : MethodName := ⟨RX8, "clash", "(III)I"⟩
abbrev cX8_queuePlace : ByteArray := prog_10_method_37_code
def yX8_queuePlace : MethodName := ⟨RX8, "queuePlace", "(II)I"⟩
abbrev cX8_manyIn : ByteArray := prog_10_method_38_code
def yX8_manyIn : MethodName := ⟨RX8, "manyIn", "(II)I"⟩
abbrev cX8_comes : ByteArray := prog_10_method_39_code
def yX8_comes : MethodName := ⟨RX8, "comes", "(III)Z"⟩
abbrev cX8_leaves : ByteArray := prog_10_method_40_code
def yX8_leaves : MethodName := ⟨RX8, "leaves", "(II)I"⟩
abbrev cX8_put : ByteArray := prog_10_method_41_code
def yX8_put : MethodName := ⟨RX8, "put", "(III)I"⟩
abbrev cX8_findsHops : ByteArray := prog_10_method_42_code
def yX8_findsHops : MethodName := ⟨RX8, "findsHops", "()V"⟩
abbrev cX8_firstOf : ByteArray := prog_10_method_43_code
def yX8_firstOf : MethodName := ⟨RX8, "firstOf", "(I)I"⟩
abbrev cX8_secondOf : ByteArray := prog_10_method_44_code
def yX8_secondOf : MethodName := ⟨RX8, "secondOf", "(I)I"⟩
abbrev cX8_roomOf : ByteArray := prog_10_method_45_code
def yX8_roomOf : MethodName := ⟨RX8, "roomOf", "(I)I"⟩
abbrev cX8_heightOf : ByteArray := prog_10_method_46_code
def yX8_heightOf : MethodName := ⟨RX8, "heightOf", "(II)I"⟩
abbrev cX8_dropOf : ByteArray := prog_10_method_47_code
def yX8_dropOf : MethodName := ⟨RX8, "dropOf", "(II)I"⟩
abbrev cX8_findsChoices : ByteArray := prog_10_method_48_code
def yX8_findsChoices : MethodName := ⟨RX8, "findsChoices", "()V"⟩
abbrev cX8_lowestOf : ByteArray := prog_10_method_49_code
def yX8_lowestOf : MethodName := ⟨RX8, "lowestOf", "(I)I"⟩
abbrev cX8_findsGoing : ByteArray := prog_10_method_50_code
def yX8_findsGoing : MethodName := ⟨RX8, "findsGoing", "(I)V"⟩
abbrev cX8_findsAll : ByteArray := prog_10_method_51_code
def yX8_findsAll : MethodName := ⟨RX8, "findsAll", "()V"⟩
abbrev cX8_carries : ByteArray := prog_10_method_52_code
def yX8_carries : MethodName := ⟨RX8, "carries", "()I"⟩
abbrev cX8_isThere : ByteArray := prog_10_method_53_code
def yX8_isThere : MethodName := ⟨RX8, "isThere", "(II)V"⟩
abbrev cX8_goesOn : ByteArray := prog_10_method_54_code
def yX8_goesOn : MethodName := ⟨RX8, "goesOn", "(I)V"⟩
abbrev cX8_laysFeeds : ByteArray := prog_10_method_55_code
def yX8_laysFeeds : MethodName := ⟨RX8, "laysFeeds", "()V"⟩
abbrev cX8_drawsFeeds : ByteArray := prog_10_method_56_code
def yX8_drawsFeeds : MethodName := ⟨RX8, "drawsFeeds", "(II)V"⟩
abbrev cX8_thereAll : ByteArray := prog_10_method_57_code
def yX8_thereAll : MethodName := ⟨RX8, "thereAll", "()I"⟩
abbrev cX8_packets : ByteArray := prog_10_method_58_code
def yX8_packets : MethodName := ⟨RX8, "packets", "()I"⟩
abbrev cX8_squares : ByteArray := prog_10_method_59_code
def yX8_squares : MethodName := ⟨RX8, "squares", "()I"⟩
abbrev cX8_slot : ByteArray := prog_10_method_60_code
def yX8_slot : MethodName := ⟨RX8, "slot", "(I)I"⟩
abbrev cX8_laysAside : ByteArray := prog_10_method_61_code
def yX8_laysAside : MethodName := ⟨RX8, "laysAside", "()V"⟩
abbrev cX8_comesBack : ByteArray := prog_10_method_62_code
def yX8_comesBack : MethodName := ⟨RX8, "comesBack", "()V"⟩
abbrev cX8_bornNext : ByteArray := prog_10_method_63_code
def yX8_bornNext : MethodName := ⟨RX8, "bornNext", "(II)I"⟩
abbrev cX8_biasOf : ByteArray := prog_10_method_64_code
def yX8_biasOf : MethodName := ⟨RX8, "biasOf", "(II)I"⟩
abbrev cX8_queue : ByteArray := prog_10_method_65_code
def yX8_queue : MethodName := ⟨RX8, "queue", "(III)I"⟩
abbrev cX8_link : ByteArray := prog_10_method_66_code
def yX8_link : MethodName := ⟨RX8, "link", "(II)I"⟩
abbrev cX8_drop : ByteArray := prog_10_method_67_code
def yX8_drop : MethodName := ⟨RX8, "drop", "(II)I"⟩
abbrev cX8_goes : ByteArray := prog_10_method_68_code
def yX8_goes : MethodName := ⟨RX8, "goes", "(I)I"⟩
abbrev cX8_packetsFor : ByteArray := prog_10_method_69_code
def yX8_packetsFor : MethodName := ⟨RX8, "packetsFor", "(I)I"⟩
abbrev cX8_goal : ByteArray := prog_10_method_70_code
def yX8_goal : MethodName := ⟨RX8, "goal", "(II)I"⟩
abbrev cX8_ahead : ByteArray := prog_10_method_71_code
def yX8_ahead : MethodName := ⟨RX8, "ahead", "(II)I"⟩
abbrev cX8_without : ByteArray := prog_10_method_72_code
def yX8_without : MethodName := ⟨RX8, "without", "(I)I"⟩
abbrev cX8_worst : ByteArray := prog_10_method_73_code
def yX8_worst : MethodName := ⟨RX8, "worst", "(I)I"⟩
abbrev cX8_drawn : ByteArray := prog_10_method_74_code
def yX8_drawn : MethodName := ⟨RX8, "drawn", "(III)I"⟩
abbrev cX8_count : ByteArray := prog_10_method_75_code
def yX8_count : MethodName := ⟨RX8, "count", "(I)I"⟩
def RJx145de : String := "java/io/Serializable"
def TJx145de : u_T := fun k => match k with
  | _ => ("", "", "", false)
def tyJx145de : Nat → FieldType := fun k => match k with
  | _ => .int
abbrev wsJx145de0 : List Cond := u_ws RJx145de TJx145de 0
theorem nmJx145de : ∀ a, a < 0 → ∀ b, b < 0 → a ≠ b → (TJx145de a).2.1 ≠ (TJx145de b).2.1 := by decide +kernel
theorem tyJx145de_ok : ∀ k, k < 0 → parseFieldDescriptor (TJx145de k).2.2.1 = some (tyJx145de k) := by decide +kernel
def RJx9f9b0 : String := "java/lang/CharSequence"
def TJx9f9b0 : u_T := fun k => match k with
  | _ => ("", "", "", false)
def tyJx9f9b0 : Nat → FieldType := fun k => match k with
  | _ => .int
abbrev wsJx9f9b00 : List Cond := u_ws RJx9f9b0 TJx9f9b0 0
theorem nmJx9f9b0 : ∀ a, a < 0 → ∀ b, b < 0 → a ≠ b → (TJx9f9b0 a).2.1 ≠ (TJx9f9b0 b).2.1 := by decide +kernel
theorem tyJx9f9b0_ok : ∀ k, k < 0 → parseFieldDescriptor (TJx9f9b0 k).2.2.1 = some (tyJx9f9b0 k) := by decide +kernel
def RJxb160c : String := "java/lang/Comparable"
def TJxb160c : u_T := fun k => match k with
  | _ => ("", "", "", false)
def tyJxb160c : Nat → FieldType := fun k => match k with
  | _ => .int
abbrev wsJxb160c0 : List Cond := u_ws RJxb160c TJxb160c 0
theorem nmJxb160c : ∀ a, a < 0 → ∀ b, b < 0 → a ≠ b → (TJxb160c a).2.1 ≠ (TJxb160c b).2.1 := by decide +kernel
theorem tyJxb160c_ok : ∀ k, k < 0 → parseFieldDescriptor (TJxb160c k).2.2.1 = some (tyJxb160c k) := by decide +kernel
def RJ6 : String := "java/lang/Integer"
def TJ6 : u_T := fun k => match k with
  | _ => ("", "", "", false)
def tyJ6 : Nat → FieldType := fun k => match k with
  | _ => .int
abbrev wsJ60 : List Cond := u_ws RJ6 TJ6 0
theorem nmJ6 : ∀ a, a < 0 → ∀ b, b < 0 → a ≠ b → (TJ6 a).2.1 ≠ (TJ6 b).2.1 := by decide +kernel
theorem tyJ6_ok : ∀ k, k < 0 → parseFieldDescriptor (TJ6 k).2.2.1 = some (tyJ6 k) := by decide +kernel
abbrev cJ6_bitCount_0f7a4 : ByteArray := prog_11_method_49_code
def yJ6_bitCount_0f7a4 : MethodName := ⟨RJ6, "bitCount", "(I)I"⟩
def RJ9 : String := "java/lang/Math"
def TJ9 : u_T := fun k => match k with
  | _ => ("", "", "", false)
def tyJ9 : Nat → FieldType := fun k => match k with
  | _ => .int
abbrev wsJ90 : List Cond := u_ws RJ9 TJ9 0
theorem nmJ9 : ∀ a, a < 0 → ∀ b, b < 0 → a ≠ b → (TJ9 a).2.1 ≠ (TJ9 b).2.1 := by decide +kernel
theorem tyJ9_ok : ∀ k, k < 0 → parseFieldDescriptor (TJ9 k).2.2.1 = some (tyJ9 k) := by decide +kernel
abbrev cJ9_max_7cf53 : ByteArray := prog_12_method_65_code
def yJ9_max_7cf53 : MethodName := ⟨RJ9, "max", "(II)I"⟩
abbrev cJ9_min_7cf53 : ByteArray := prog_12_method_69_code
def yJ9_min_7cf53 : MethodName := ⟨RJ9, "min", "(II)I"⟩
def RJ0 : String := "java/lang/String"
def TJ0 : u_T := fun k => match k with
  | _ => ("", "", "", false)
def tyJ0 : Nat → FieldType := fun k => match k with
  | _ => .int
abbrev wsJ00 : List Cond := u_ws RJ0 TJ0 0
theorem nmJ0 : ∀ a, a < 0 → ∀ b, b < 0 → a ≠ b → (TJ0 a).2.1 ≠ (TJ0 b).2.1 := by decide +kernel
theorem tyJ0_ok : ∀ k, k < 0 → parseFieldDescriptor (TJ0 k).2.2.1 = some (tyJ0 k) := by decide +kernel
abbrev cJ0_length_8abf5 : ByteArray := prog_13_method_54_code
def yJ0_length_8abf5 : MethodName := ⟨RJ0, "length", "()I"⟩
abbrev cJ0_charAt_5068e : ByteArray := prog_13_method_56_code
def yJ0_charAt_5068e : MethodName := ⟨RJ0, "charAt", "(I)C"⟩
abbrev cJ0_coder_7d493 : ByteArray := prog_13_method_152_code
def yJ0_coder_7d493 : MethodName := ⟨RJ0, "coder", "()B"⟩
abbrev cJ0_isLatin1_aae02 : ByteArray := prog_13_method_154_code
def yJ0_isLatin1_aae02 : MethodName := ⟨RJ0, "isLatin1", "()Z"⟩
abbrev cJ0_checkIndex_df160 : ByteArray := prog_13_method_155_code
def yJ0_checkIndex_df160 : MethodName := ⟨RJ0, "checkIndex", "(II)V"⟩
def RJ1 : String := "java/lang/StringLatin1"
def TJ1 : u_T := fun k => match k with
  | _ => ("", "", "", false)
def tyJ1 : Nat → FieldType := fun k => match k with
  | _ => .int
abbrev wsJ10 : List Cond := u_ws RJ1 TJ1 0
theorem nmJ1 : ∀ a, a < 0 → ∀ b, b < 0 → a ≠ b → (TJ1 a).2.1 ≠ (TJ1 b).2.1 := by decide +kernel
theorem tyJ1_ok : ∀ k, k < 0 → parseFieldDescriptor (TJ1 k).2.2.1 = some (tyJ1 k) := by decide +kernel
abbrev cJ1_charAt_3b067 : ByteArray := prog_14_method_2_code
def yJ1_charAt_3b067 : MethodName := ⟨RJ1, "charAt", "([BI)C"⟩
def RJ2 : String := "java/lang/StringUTF16"
def TJ2 : u_T := fun k => match k with
  | _ => ("", "", "", false)
def tyJ2 : Nat → FieldType := fun k => match k with
  | _ => .int
abbrev wsJ20 : List Cond := u_ws RJ2 TJ2 0
theorem nmJ2 : ∀ a, a < 0 → ∀ b, b < 0 → a ≠ b → (TJ2 a).2.1 ≠ (TJ2 b).2.1 := by decide +kernel
theorem tyJ2_ok : ∀ k, k < 0 → parseFieldDescriptor (TJ2 k).2.2.1 = some (tyJ2 k) := by decide +kernel
abbrev cJ2_getChar_3b067 : ByteArray := prog_15_method_5_code
def yJ2_getChar_3b067 : MethodName := ⟨RJ2, "getChar", "([BI)C"⟩
abbrev cJ2_length_9d52b : ByteArray := prog_15_method_6_code
def yJ2_length_9d52b : MethodName := ⟨RJ2, "length", "([B)I"⟩
abbrev cJ2_charAt_3b067 : ByteArray := prog_15_method_83_code
def yJ2_charAt_3b067 : MethodName := ⟨RJ2, "charAt", "([BI)C"⟩
abbrev cJ2_checkIndex_2214a : ByteArray := prog_15_method_91_code
def yJ2_checkIndex_2214a : MethodName := ⟨RJ2, "checkIndex", "(I[B)V"⟩
def RJ10 : String := "java/lang/System"
def TJ10 : u_T := fun k => match k with
  | _ => ("", "", "", false)
def tyJ10 : Nat → FieldType := fun k => match k with
  | _ => .int
abbrev wsJ100 : List Cond := u_ws RJ10 TJ10 0
theorem nmJ10 : ∀ a, a < 0 → ∀ b, b < 0 → a ≠ b → (TJ10 a).2.1 ≠ (TJ10 b).2.1 := by decide +kernel
theorem tyJ10_ok : ∀ k, k < 0 → parseFieldDescriptor (TJ10 k).2.2.1 = some (tyJ10 k) := by decide +kernel
def RJxfd54e : String := "java/lang/constant/Constable"
def TJxfd54e : u_T := fun k => match k with
  | _ => ("", "", "", false)
def tyJxfd54e : Nat → FieldType := fun k => match k with
  | _ => .int
abbrev wsJxfd54e0 : List Cond := u_ws RJxfd54e TJxfd54e 0
theorem nmJxfd54e : ∀ a, a < 0 → ∀ b, b < 0 → a ≠ b → (TJxfd54e a).2.1 ≠ (TJxfd54e b).2.1 := by decide +kernel
theorem tyJxfd54e_ok : ∀ k, k < 0 → parseFieldDescriptor (TJxfd54e k).2.2.1 = some (tyJxfd54e k) := by decide +kernel
def RJx3cf43 : String := "java/lang/constant/ConstantDesc"
def TJx3cf43 : u_T := fun k => match k with
  | _ => ("", "", "", false)
def tyJx3cf43 : Nat → FieldType := fun k => match k with
  | _ => .int
abbrev wsJx3cf430 : List Cond := u_ws RJx3cf43 TJx3cf43 0
theorem nmJx3cf43 : ∀ a, a < 0 → ∀ b, b < 0 → a ≠ b → (TJx3cf43 a).2.1 ≠ (TJx3cf43 b).2.1 := by decide +kernel
theorem tyJx3cf43_ok : ∀ k, k < 0 → parseFieldDescriptor (TJx3cf43 k).2.2.1 = some (tyJx3cf43 k) := by decide +kernel
def RJ7 : String := "java/util/Arrays"
def TJ7 : u_T := fun k => match k with
  | _ => ("", "", "", false)
def tyJ7 : Nat → FieldType := fun k => match k with
  | _ => .int
abbrev wsJ70 : List Cond := u_ws RJ7 TJ7 0
theorem nmJ7 : ∀ a, a < 0 → ∀ b, b < 0 → a ≠ b → (TJ7 a).2.1 ≠ (TJ7 b).2.1 := by decide +kernel
theorem tyJ7_ok : ∀ k, k < 0 → parseFieldDescriptor (TJ7 k).2.2.1 = some (tyJ7 k) := by decide +kernel
abbrev cJ7_fill_53178 : ByteArray := prog_17_method_103_code
def yJ7_fill_53178 : MethodName := ⟨RJ7, "fill", "([II)V"⟩
def RJ3 : String := "jdk/internal/util/Preconditions"
def TJ3 : u_T := fun k => match k with
  | _ => ("", "", "", false)
def tyJ3 : Nat → FieldType := fun k => match k with
  | _ => .int
abbrev wsJ30 : List Cond := u_ws RJ3 TJ3 0
theorem nmJ3 : ∀ a, a < 0 → ∀ b, b < 0 → a ≠ b → (TJ3 a).2.1 ≠ (TJ3 b).2.1 := by decide +kernel
theorem tyJ3_ok : ∀ k, k < 0 → parseFieldDescriptor (TJ3 k).2.2.1 = some (tyJ3 k) := by decide +kernel
abbrev cJ3_checkIndex_8e157 : ByteArray := prog_18_method_11_code
def yJ3_checkIndex_8e157 : MethodName := ⟨RJ3, "checkIndex", "(IILjava/util/function/BiFunction;)I"⟩
def RL : String := "DropQueuesLaw"
abbrev cL_law : ByteArray := code
def yL_law : MethodName := ⟨RL, "law", "([I)Z"⟩
abbrev vwCl : List vw_C := [(RX0, TX0, 3), (RX1, TX1, 4), (RX2, TX2, 12), (RX3, TX3, 4), (RX4, TX4, 8), (RX5, TX5, 3), (RX6, TX6, 2), (RX7, TX7, 6), (RX8, TX8, 20)]
def jAll : List Cond := lw_tbl.filter goodWord
theorem tw_0 : (Jvm.Cond.selects "DropQueues" ({ cls := "DropQueues", name := "layText", desc := "()Z" } : Jvm.MethodName) ({ cls := "DropQueues", name := "layText", desc := "()Z" } : Jvm.MethodName)) ∈ jAll := List.mem_filter.mpr ⟨List.mem_of_getElem? (i := 0) (by decide +kernel), by decide +kernel⟩
theorem tw_1 : (Jvm.Cond.selects "DropQueues$Text" ({ cls := "DropQueues$Text", name := "readItem", desc := "(LDropQueues$Net;II)Z" } : Jvm.MethodName) ({ cls := "DropQueues$Text", name := "readItem", desc := "(LDropQueues$Net;II)Z" } : Jvm.MethodName)) ∈ jAll := List.mem_filter.mpr ⟨List.mem_of_getElem? (i := 1) (by decide +kernel), by decide +kernel⟩
theorem tw_2 : (Jvm.Cond.selects "DropQueues$Text" ({ cls := "DropQueues$Text", name := "readNumbers", desc := "(II)I" } : Jvm.MethodName) ({ cls := "DropQueues$Text", name := "readNumbers", desc := "(II)I" } : Jvm.MethodName)) ∈ jAll := List.mem_filter.mpr ⟨List.mem_of_getElem? (i := 2) (by decide +kernel), by decide +kernel⟩
theorem tw_3 : (Jvm.Cond.selects "DropQueues$Net" ({ cls := "DropQueues$Net", name := "takeNodes", desc := "(I)Z" } : Jvm.MethodName) ({ cls := "DropQueues$Net", name := "takeNodes", desc := "(I)Z" } : Jvm.MethodName)) ∈ jAll := List.mem_filter.mpr ⟨List.mem_of_getElem? (i := 3) (by decide +kernel), by decide +kernel⟩
theorem tw_4 : (Jvm.Cond.selects "DropQueues$Net" ({ cls := "DropQueues$Net", name := "takeGoal", desc := "(I)Z" } : Jvm.MethodName) ({ cls := "DropQueues$Net", name := "takeGoal", desc := "(I)Z" } : Jvm.MethodName)) ∈ jAll := List.mem_filter.mpr ⟨List.mem_of_getElem? (i := 4) (by decide +kernel), by decide +kernel⟩
theorem tw_5 : (Jvm.Cond.selects "DropQueues$Net" ({ cls := "DropQueues$Net", name := "takeLink", desc := "(III)Z" } : Jvm.MethodName) ({ cls := "DropQueues$Net", name := "takeLink", desc := "(III)Z" } : Jvm.MethodName)) ∈ jAll := List.mem_filter.mpr ⟨List.mem_of_getElem? (i := 5) (by decide +kernel), by decide +kernel⟩
theorem tw_6 : (Jvm.Cond.selects "DropQueues$Net" ({ cls := "DropQueues$Net", name := "takeClash", desc := "(II)Z" } : Jvm.MethodName) ({ cls := "DropQueues$Net", name := "takeClash", desc := "(II)Z" } : Jvm.MethodName)) ∈ jAll := List.mem_filter.mpr ⟨List.mem_of_getElem? (i := 6) (by decide +kernel), by decide +kernel⟩
theorem tw_7 : (Jvm.Cond.selects "DropQueues$Net" ({ cls := "DropQueues$Net", name := "takeFeed", desc := "(III)Z" } : Jvm.MethodName) ({ cls := "DropQueues$Net", name := "takeFeed", desc := "(III)Z" } : Jvm.MethodName)) ∈ jAll := List.mem_filter.mpr ⟨List.mem_of_getElem? (i := 7) (by decide +kernel), by decide +kernel⟩
theorem tw_8 : (Jvm.Cond.selects "DropQueues$Net" ({ cls := "DropQueues$Net", name := "takeB", desc := "(I)Z" } : Jvm.MethodName) ({ cls := "DropQueues$Net", name := "takeB", desc := "(I)Z" } : Jvm.MethodName)) ∈ jAll := List.mem_filter.mpr ⟨List.mem_of_getElem? (i := 8) (by decide +kernel), by decide +kernel⟩
theorem tw_9 : (Jvm.Cond.selects "DropQueues$Net" ({ cls := "DropQueues$Net", name := "takeLaw", desc := "(I)Z" } : Jvm.MethodName) ({ cls := "DropQueues$Net", name := "takeLaw", desc := "(I)Z" } : Jvm.MethodName)) ∈ jAll := List.mem_filter.mpr ⟨List.mem_of_getElem? (i := 9) (by decide +kernel), by decide +kernel⟩
theorem tw_10 : (Jvm.Cond.selects "DropQueues$Net" ({ cls := "DropQueues$Net", name := "shortenWays", desc := "(I)V" } : Jvm.MethodName) ({ cls := "DropQueues$Net", name := "shortenWays", desc := "(I)V" } : Jvm.MethodName)) ∈ jAll := List.mem_filter.mpr ⟨List.mem_of_getElem? (i := 10) (by decide +kernel), by decide +kernel⟩
theorem tw_11 : (Jvm.Cond.selects "DropQueues" ({ cls := "DropQueues", name := "tellLaw", desc := "(I)I" } : Jvm.MethodName) ({ cls := "DropQueues", name := "tellLaw", desc := "(I)I" } : Jvm.MethodName)) ∈ jAll := List.mem_filter.mpr ⟨List.mem_of_getElem? (i := 11) (by decide +kernel), by decide +kernel⟩
theorem tw_12 : (Jvm.Cond.selects "DropQueues" ({ cls := "DropQueues", name := "tellB", desc := "(I)I" } : Jvm.MethodName) ({ cls := "DropQueues", name := "tellB", desc := "(I)I" } : Jvm.MethodName)) ∈ jAll := List.mem_filter.mpr ⟨List.mem_of_getElem? (i := 12) (by decide +kernel), by decide +kernel⟩
theorem tw_13 : (Jvm.Cond.selects "DropQueues$Queues" ({ cls := "DropQueues$Queues", name := "placeOf", desc := "(II)I" } : Jvm.MethodName) ({ cls := "DropQueues$Queues", name := "placeOf", desc := "(II)I" } : Jvm.MethodName)) ∈ jAll := List.mem_filter.mpr ⟨List.mem_of_getElem? (i := 13) (by decide +kernel), by decide +kernel⟩
theorem tw_14 : (Jvm.Cond.selects "DropQueues$Picker" ({ cls := "DropQueues$Picker", name := "weightOf", desc := "(I)I" } : Jvm.MethodName) ({ cls := "DropQueues$Picker", name := "weightOf", desc := "(I)I" } : Jvm.MethodName)) ∈ jAll := List.mem_filter.mpr ⟨List.mem_of_getElem? (i := 14) (by decide +kernel), by decide +kernel⟩
theorem tw_15 : (Jvm.Cond.selects "DropQueues$Picker" ({ cls := "DropQueues$Picker", name := "offer", desc := "(II)V" } : Jvm.MethodName) ({ cls := "DropQueues$Picker", name := "offer", desc := "(II)V" } : Jvm.MethodName)) ∈ jAll := List.mem_filter.mpr ⟨List.mem_of_getElem? (i := 15) (by decide +kernel), by decide +kernel⟩
theorem tw_16 : (Jvm.Cond.selects "DropQueues$Mover" ({ cls := "DropQueues$Mover", name := "takeOver", desc := "(LDropQueues$World;I)V" } : Jvm.MethodName) ({ cls := "DropQueues$Mover", name := "takeOver", desc := "(LDropQueues$World;I)V" } : Jvm.MethodName)) ∈ jAll := List.mem_filter.mpr ⟨List.mem_of_getElem? (i := 16) (by decide +kernel), by decide +kernel⟩
theorem tw_17 : (Jvm.Cond.selects "DropQueues$Mover" ({ cls := "DropQueues$Mover", name := "bring", desc := "(LDropQueues$World;I)V" } : Jvm.MethodName) ({ cls := "DropQueues$Mover", name := "bring", desc := "(LDropQueues$World;I)V" } : Jvm.MethodName)) ∈ jAll := List.mem_filter.mpr ⟨List.mem_of_getElem? (i := 17) (by decide +kernel), by decide +kernel⟩
theorem tw_18 : (Jvm.Cond.selects "DropQueues" ({ cls := "DropQueues", name := "linkAsQueuesAre", desc := "(II)I" } : Jvm.MethodName) ({ cls := "DropQueues", name := "linkAsQueuesAre", desc := "(II)I" } : Jvm.MethodName)) ∈ jAll := List.mem_filter.mpr ⟨List.mem_of_getElem? (i := 18) (by decide +kernel), by decide +kernel⟩
theorem tw_19 : (Jvm.Cond.selects "DropQueues" ({ cls := "DropQueues", name := "trialSince", desc := "(I)I" } : Jvm.MethodName) ({ cls := "DropQueues", name := "trialSince", desc := "(I)I" } : Jvm.MethodName)) ∈ jAll := List.mem_filter.mpr ⟨List.mem_of_getElem? (i := 19) (by decide +kernel), by decide +kernel⟩
theorem tw_20 : (Jvm.Cond.selects "DropQueues" ({ cls := "DropQueues", name := "weightWithout", desc := "(II)I" } : Jvm.MethodName) ({ cls := "DropQueues", name := "weightWithout", desc := "(II)I" } : Jvm.MethodName)) ∈ jAll := List.mem_filter.mpr ⟨List.mem_of_getElem? (i := 20) (by decide +kernel), by decide +kernel⟩
theorem tw_21 : (Jvm.Cond.selects "DropQueues" ({ cls := "DropQueues", name := "countPackets", desc := "(I)I" } : Jvm.MethodName) ({ cls := "DropQueues", name := "countPackets", desc := "(I)I" } : Jvm.MethodName)) ∈ jAll := List.mem_filter.mpr ⟨List.mem_of_getElem? (i := 21) (by decide +kernel), by decide +kernel⟩
theorem tw_22 : (Jvm.Cond.selects "DropQueuesModel" ({ cls := "DropQueuesModel", name := "begins", desc := "()V" } : Jvm.MethodName) ({ cls := "DropQueuesModel", name := "begins", desc := "()V" } : Jvm.MethodName)) ∈ jAll := List.mem_filter.mpr ⟨List.mem_of_getElem? (i := 22) (by decide +kernel), by decide +kernel⟩
theorem tw_23 : (Jvm.Cond.selects "DropQueuesModel" ({ cls := "DropQueuesModel", name := "links", desc := "(III)V" } : Jvm.MethodName) ({ cls := "DropQueuesModel", name := "links", desc := "(III)V" } : Jvm.MethodName)) ∈ jAll := List.mem_filter.mpr ⟨List.mem_of_getElem? (i := 23) (by decide +kernel), by decide +kernel⟩
theorem tw_24 : (Jvm.Cond.selects "DropQueuesModel" ({ cls := "DropQueuesModel", name := "takes", desc := "()V" } : Jvm.MethodName) ({ cls := "DropQueuesModel", name := "takes", desc := "()V" } : Jvm.MethodName)) ∈ jAll := List.mem_filter.mpr ⟨List.mem_of_getElem? (i := 24) (by decide +kernel), by decide +kernel⟩
theorem tw_25 : (Jvm.Cond.selects "DropQueuesModel" ({ cls := "DropQueuesModel", name := "reads", desc := "()I" } : Jvm.MethodName) ({ cls := "DropQueuesModel", name := "reads", desc := "()I" } : Jvm.MethodName)) ∈ jAll := List.mem_filter.mpr ⟨List.mem_of_getElem? (i := 25) (by decide +kernel), by decide +kernel⟩
theorem tw_26 : (Jvm.Cond.selects "DropQueuesModel" ({ cls := "DropQueuesModel", name := "takesItem", desc := "()Z" } : Jvm.MethodName) ({ cls := "DropQueuesModel", name := "takesItem", desc := "()Z" } : Jvm.MethodName)) ∈ jAll := List.mem_filter.mpr ⟨List.mem_of_getElem? (i := 26) (by decide +kernel), by decide +kernel⟩
theorem tw_27 : (Jvm.Cond.selects "DropQueuesModel" ({ cls := "DropQueuesModel", name := "takesOne", desc := "(II)Z" } : Jvm.MethodName) ({ cls := "DropQueuesModel", name := "takesOne", desc := "(II)Z" } : Jvm.MethodName)) ∈ jAll := List.mem_filter.mpr ⟨List.mem_of_getElem? (i := 27) (by decide +kernel), by decide +kernel⟩
theorem tw_28 : (Jvm.Cond.selects "DropQueuesModel" ({ cls := "DropQueuesModel", name := "takesNumbers", desc := "(I)Z" } : Jvm.MethodName) ({ cls := "DropQueuesModel", name := "takesNumbers", desc := "(I)Z" } : Jvm.MethodName)) ∈ jAll := List.mem_filter.mpr ⟨List.mem_of_getElem? (i := 28) (by decide +kernel), by decide +kernel⟩
theorem tw_29 : (Jvm.Cond.selects "DropQueuesModel" ({ cls := "DropQueuesModel", name := "takesNumber", desc := "(I)Z" } : Jvm.MethodName) ({ cls := "DropQueuesModel", name := "takesNumber", desc := "(I)Z" } : Jvm.MethodName)) ∈ jAll := List.mem_filter.mpr ⟨List.mem_of_getElem? (i := 29) (by decide +kernel), by decide +kernel⟩
theorem tw_30 : (Jvm.Cond.selects "DropQueuesModel" ({ cls := "DropQueuesModel", name := "isAt", desc := "(II)Z" } : Jvm.MethodName) ({ cls := "DropQueuesModel", name := "isAt", desc := "(II)Z" } : Jvm.MethodName)) ∈ jAll := List.mem_filter.mpr ⟨List.mem_of_getElem? (i := 30) (by decide +kernel), by decide +kernel⟩
theorem tw_31 : (Jvm.Cond.selects "DropQueuesModel" ({ cls := "DropQueuesModel", name := "takesGoal", desc := "()Z" } : Jvm.MethodName) ({ cls := "DropQueuesModel", name := "takesGoal", desc := "()Z" } : Jvm.MethodName)) ∈ jAll := List.mem_filter.mpr ⟨List.mem_of_getElem? (i := 31) (by decide +kernel), by decide +kernel⟩
theorem tw_32 : (Jvm.Cond.selects "DropQueuesModel" ({ cls := "DropQueuesModel", name := "isReadNode", desc := "(I)Z" } : Jvm.MethodName) ({ cls := "DropQueuesModel", name := "isReadNode", desc := "(I)Z" } : Jvm.MethodName)) ∈ jAll := List.mem_filter.mpr ⟨List.mem_of_getElem? (i := 32) (by decide +kernel), by decide +kernel⟩
theorem tw_33 : (Jvm.Cond.selects "DropQueuesModel" ({ cls := "DropQueuesModel", name := "takesLink", desc := "()Z" } : Jvm.MethodName) ({ cls := "DropQueuesModel", name := "takesLink", desc := "()Z" } : Jvm.MethodName)) ∈ jAll := List.mem_filter.mpr ⟨List.mem_of_getElem? (i := 33) (by decide +kernel), by decide +kernel⟩
theorem tw_34 : (Jvm.Cond.selects "DropQueuesModel" ({ cls := "DropQueuesModel", name := "takesClash", desc := "()Z" } : Jvm.MethodName) ({ cls := "DropQueuesModel", name := "takesClash", desc := "()Z" } : Jvm.MethodName)) ∈ jAll := List.mem_filter.mpr ⟨List.mem_of_getElem? (i := 34) (by decide +kernel), by decide +kernel⟩
theorem tw_35 : (Jvm.Cond.selects "DropQueuesModel" ({ cls := "DropQueuesModel", name := "takesFeed", desc := "()Z" } : Jvm.MethodName) ({ cls := "DropQueuesModel", name := "takesFeed", desc := "()Z" } : Jvm.MethodName)) ∈ jAll := List.mem_filter.mpr ⟨List.mem_of_getElem? (i := 35) (by decide +kernel), by decide +kernel⟩
theorem tw_36 : (Jvm.Cond.selects "DropQueuesModel" ({ cls := "DropQueuesModel", name := "isQueue", desc := "(II)Z" } : Jvm.MethodName) ({ cls := "DropQueuesModel", name := "isQueue", desc := "(II)Z" } : Jvm.MethodName)) ∈ jAll := List.mem_filter.mpr ⟨List.mem_of_getElem? (i := 36) (by decide +kernel), by decide +kernel⟩
theorem tw_37 : (Jvm.Cond.selects "DropQueuesModel" ({ cls := "DropQueuesModel", name := "isNode", desc := "(I)Z" } : Jvm.MethodName) ({ cls := "DropQueuesModel", name := "isNode", desc := "(I)Z" } : Jvm.MethodName)) ∈ jAll := List.mem_filter.mpr ⟨List.mem_of_getElem? (i := 37) (by decide +kernel), by decide +kernel⟩
theorem tw_38 : (Jvm.Cond.selects "DropQueuesModel" ({ cls := "DropQueuesModel", name := "isGoal", desc := "(I)Z" } : Jvm.MethodName) ({ cls := "DropQueuesModel", name := "isGoal", desc := "(I)Z" } : Jvm.MethodName)) ∈ jAll := List.mem_filter.mpr ⟨List.mem_of_getElem? (i := 38) (by decide +kernel), by decide +kernel⟩
theorem tw_39 : (Jvm.Cond.selects "DropQueuesModel" ({ cls := "DropQueuesModel", name := "becomes", desc := "(II)I" } : Jvm.MethodName) ({ cls := "DropQueuesModel", name := "becomes", desc := "(II)I" } : Jvm.MethodName)) ∈ jAll := List.mem_filter.mpr ⟨List.mem_of_getElem? (i := 39) (by decide +kernel), by decide +kernel⟩
theorem tw_40 : (Jvm.Cond.selects "DropQueuesModel" ({ cls := "DropQueuesModel", name := "keeps", desc := "()V" } : Jvm.MethodName) ({ cls := "DropQueuesModel", name := "keeps", desc := "()V" } : Jvm.MethodName)) ∈ jAll := List.mem_filter.mpr ⟨List.mem_of_getElem? (i := 40) (by decide +kernel), by decide +kernel⟩
theorem tw_41 : (Jvm.Cond.selects "DropQueuesModel" ({ cls := "DropQueuesModel", name := "isLink", desc := "(I)Z" } : Jvm.MethodName) ({ cls := "DropQueuesModel", name := "isLink", desc := "(I)Z" } : Jvm.MethodName)) ∈ jAll := List.mem_filter.mpr ⟨List.mem_of_getElem? (i := 41) (by decide +kernel), by decide +kernel⟩
theorem tw_42 : (Jvm.Cond.selects "DropQueuesModel" ({ cls := "DropQueuesModel", name := "pairs", desc := "()I" } : Jvm.MethodName) ({ cls := "DropQueuesModel", name := "pairs", desc := "()I" } : Jvm.MethodName)) ∈ jAll := List.mem_filter.mpr ⟨List.mem_of_getElem? (i := 42) (by decide +kernel), by decide +kernel⟩
theorem tw_43 : (Jvm.Cond.selects "DropQueuesModel" ({ cls := "DropQueuesModel", name := "manyIn", desc := "(II)I" } : Jvm.MethodName) ({ cls := "DropQueuesModel", name := "manyIn", desc := "(II)I" } : Jvm.MethodName)) ∈ jAll := List.mem_filter.mpr ⟨List.mem_of_getElem? (i := 43) (by decide +kernel), by decide +kernel⟩
theorem tw_44 : (Jvm.Cond.selects "DropQueuesModel" ({ cls := "DropQueuesModel", name := "comes", desc := "(III)Z" } : Jvm.MethodName) ({ cls := "DropQueuesModel", name := "comes", desc := "(III)Z" } : Jvm.MethodName)) ∈ jAll := List.mem_filter.mpr ⟨List.mem_of_getElem? (i := 44) (by decide +kernel), by decide +kernel⟩
theorem tw_45 : (Jvm.Cond.selects "DropQueuesModel" ({ cls := "DropQueuesModel", name := "laysFeeds", desc := "()V" } : Jvm.MethodName) ({ cls := "DropQueuesModel", name := "laysFeeds", desc := "()V" } : Jvm.MethodName)) ∈ jAll := List.mem_filter.mpr ⟨List.mem_of_getElem? (i := 45) (by decide +kernel), by decide +kernel⟩
theorem tw_46 : (Jvm.Cond.selects "DropQueuesModel" ({ cls := "DropQueuesModel", name := "thereAll", desc := "()I" } : Jvm.MethodName) ({ cls := "DropQueuesModel", name := "thereAll", desc := "()I" } : Jvm.MethodName)) ∈ jAll := List.mem_filter.mpr ⟨List.mem_of_getElem? (i := 46) (by decide +kernel), by decide +kernel⟩
theorem tw_47 : (Jvm.Cond.selects "DropQueuesModel" ({ cls := "DropQueuesModel", name := "goesOn", desc := "(I)V" } : Jvm.MethodName) ({ cls := "DropQueuesModel", name := "goesOn", desc := "(I)V" } : Jvm.MethodName)) ∈ jAll := List.mem_filter.mpr ⟨List.mem_of_getElem? (i := 47) (by decide +kernel), by decide +kernel⟩
theorem tw_48 : (Jvm.Cond.selects "DropQueuesModel" ({ cls := "DropQueuesModel", name := "findsChoices", desc := "()V" } : Jvm.MethodName) ({ cls := "DropQueuesModel", name := "findsChoices", desc := "()V" } : Jvm.MethodName)) ∈ jAll := List.mem_filter.mpr ⟨List.mem_of_getElem? (i := 48) (by decide +kernel), by decide +kernel⟩
theorem tw_49 : (Jvm.Cond.selects "DropQueuesModel" ({ cls := "DropQueuesModel", name := "findsHops", desc := "()V" } : Jvm.MethodName) ({ cls := "DropQueuesModel", name := "findsHops", desc := "()V" } : Jvm.MethodName)) ∈ jAll := List.mem_filter.mpr ⟨List.mem_of_getElem? (i := 49) (by decide +kernel), by decide +kernel⟩
theorem tw_50 : (Jvm.Cond.selects "DropQueuesModel" ({ cls := "DropQueuesModel", name := "firstOf", desc := "(I)I" } : Jvm.MethodName) ({ cls := "DropQueuesModel", name := "firstOf", desc := "(I)I" } : Jvm.MethodName)) ∈ jAll := List.mem_filter.mpr ⟨List.mem_of_getElem? (i := 50) (by decide +kernel), by decide +kernel⟩
theorem tw_51 : (Jvm.Cond.selects "DropQueuesModel" ({ cls := "DropQueuesModel", name := "secondOf", desc := "(I)I" } : Jvm.MethodName) ({ cls := "DropQueuesModel", name := "secondOf", desc := "(I)I" } : Jvm.MethodName)) ∈ jAll := List.mem_filter.mpr ⟨List.mem_of_getElem? (i := 51) (by decide +kernel), by decide +kernel⟩
theorem tw_52 : (Jvm.Cond.selects "DropQueuesModel" ({ cls := "DropQueuesModel", name := "dropOf", desc := "(II)I" } : Jvm.MethodName) ({ cls := "DropQueuesModel", name := "dropOf", desc := "(II)I" } : Jvm.MethodName)) ∈ jAll := List.mem_filter.mpr ⟨List.mem_of_getElem? (i := 52) (by decide +kernel), by decide +kernel⟩
theorem tw_53 : (Jvm.Cond.selects "DropQueuesModel" ({ cls := "DropQueuesModel", name := "heightOf", desc := "(II)I" } : Jvm.MethodName) ({ cls := "DropQueuesModel", name := "heightOf", desc := "(II)I" } : Jvm.MethodName)) ∈ jAll := List.mem_filter.mpr ⟨List.mem_of_getElem? (i := 53) (by decide +kernel), by decide +kernel⟩
theorem tw_54 : (Jvm.Cond.selects "DropQueuesModel" ({ cls := "DropQueuesModel", name := "roomOf", desc := "(I)I" } : Jvm.MethodName) ({ cls := "DropQueuesModel", name := "roomOf", desc := "(I)I" } : Jvm.MethodName)) ∈ jAll := List.mem_filter.mpr ⟨List.mem_of_getElem? (i := 54) (by decide +kernel), by decide +kernel⟩
theorem tw_55 : (Jvm.Cond.selects "DropQueuesModel" ({ cls := "DropQueuesModel", name := "findsGoing", desc := "(I)V" } : Jvm.MethodName) ({ cls := "DropQueuesModel", name := "findsGoing", desc := "(I)V" } : Jvm.MethodName)) ∈ jAll := List.mem_filter.mpr ⟨List.mem_of_getElem? (i := 55) (by decide +kernel), by decide +kernel⟩
theorem tw_56 : (Jvm.Cond.selects "DropQueuesModel" ({ cls := "DropQueuesModel", name := "carries", desc := "()I" } : Jvm.MethodName) ({ cls := "DropQueuesModel", name := "carries", desc := "()I" } : Jvm.MethodName)) ∈ jAll := List.mem_filter.mpr ⟨List.mem_of_getElem? (i := 56) (by decide +kernel), by decide +kernel⟩
theorem tw_57 : (Jvm.Cond.selects "DropQueuesModel" ({ cls := "DropQueuesModel", name := "leaves", desc := "(II)I" } : Jvm.MethodName) ({ cls := "DropQueuesModel", name := "leaves", desc := "(II)I" } : Jvm.MethodName)) ∈ jAll := List.mem_filter.mpr ⟨List.mem_of_getElem? (i := 57) (by decide +kernel), by decide +kernel⟩
theorem tw_58 : (Jvm.Cond.selects "DropQueuesModel" ({ cls := "DropQueuesModel", name := "isThere", desc := "(II)V" } : Jvm.MethodName) ({ cls := "DropQueuesModel", name := "isThere", desc := "(II)V" } : Jvm.MethodName)) ∈ jAll := List.mem_filter.mpr ⟨List.mem_of_getElem? (i := 58) (by decide +kernel), by decide +kernel⟩
theorem tw_59 : (Jvm.Cond.selects "DropQueuesModel" ({ cls := "DropQueuesModel", name := "bornNext", desc := "(II)I" } : Jvm.MethodName) ({ cls := "DropQueuesModel", name := "bornNext", desc := "(II)I" } : Jvm.MethodName)) ∈ jAll := List.mem_filter.mpr ⟨List.mem_of_getElem? (i := 59) (by decide +kernel), by decide +kernel⟩
theorem tw_60 : (Jvm.Cond.selects "DropQueuesModel" ({ cls := "DropQueuesModel", name := "biasOf", desc := "(II)I" } : Jvm.MethodName) ({ cls := "DropQueuesModel", name := "biasOf", desc := "(II)I" } : Jvm.MethodName)) ∈ jAll := List.mem_filter.mpr ⟨List.mem_of_getElem? (i := 60) (by decide +kernel), by decide +kernel⟩
theorem tw_61 : (Jvm.Cond.selects "DropQueuesModel" ({ cls := "DropQueuesModel", name := "findsAll", desc := "()V" } : Jvm.MethodName) ({ cls := "DropQueuesModel", name := "findsAll", desc := "()V" } : Jvm.MethodName)) ∈ jAll := List.mem_filter.mpr ⟨List.mem_of_getElem? (i := 61) (by decide +kernel), by decide +kernel⟩
theorem tw_62 : (Jvm.Cond.selects "DropQueuesModel" ({ cls := "DropQueuesModel", name := "packetsFor", desc := "(I)I" } : Jvm.MethodName) ({ cls := "DropQueuesModel", name := "packetsFor", desc := "(I)I" } : Jvm.MethodName)) ∈ jAll := List.mem_filter.mpr ⟨List.mem_of_getElem? (i := 62) (by decide +kernel), by decide +kernel⟩
theorem tw_63 : (Jvm.Cond.selects "DropQueuesModel" ({ cls := "DropQueuesModel", name := "laysAside", desc := "()V" } : Jvm.MethodName) ({ cls := "DropQueuesModel", name := "laysAside", desc := "()V" } : Jvm.MethodName)) ∈ jAll := List.mem_filter.mpr ⟨List.mem_of_getElem? (i := 63) (by decide +kernel), by decide +kernel⟩
theorem tw_64 : (Jvm.Cond.selects "DropQueuesModel" ({ cls := "DropQueuesModel", name := "squares", desc := "()I" } : Jvm.MethodName) ({ cls := "DropQueuesModel", name := "squares", desc := "()I" } : Jvm.MethodName)) ∈ jAll := List.mem_filter.mpr ⟨List.mem_of_getElem? (i := 64) (by decide +kernel), by decide +kernel⟩
theorem tw_65 : (Jvm.Cond.selects "DropQueuesModel" ({ cls := "DropQueuesModel", name := "packets", desc := "()I" } : Jvm.MethodName) ({ cls := "DropQueuesModel", name := "packets", desc := "()I" } : Jvm.MethodName)) ∈ jAll := List.mem_filter.mpr ⟨List.mem_of_getElem? (i := 65) (by decide +kernel), by decide +kernel⟩
theorem tw_66 : (Jvm.Cond.selects "DropQueuesModel" ({ cls := "DropQueuesModel", name := "comesBack", desc := "()V" } : Jvm.MethodName) ({ cls := "DropQueuesModel", name := "comesBack", desc := "()V" } : Jvm.MethodName)) ∈ jAll := List.mem_filter.mpr ⟨List.mem_of_getElem? (i := 66) (by decide +kernel), by decide +kernel⟩
theorem tw_67 : (Jvm.Cond.selects "DropQueuesModel" ({ cls := "DropQueuesModel", name := "drawsFeeds", desc := "(II)V" } : Jvm.MethodName) ({ cls := "DropQueuesModel", name := "drawsFeeds", desc := "(II)V" } : Jvm.MethodName)) ∈ jAll := List.mem_filter.mpr ⟨List.mem_of_getElem? (i := 67) (by decide +kernel), by decide +kernel⟩
theorem tw_68 : (Jvm.Cond.initialized "DropQueuesLaw") ∈ jAll := List.mem_filter.mpr ⟨List.mem_of_getElem? (i := 68) (by decide +kernel), by decide +kernel⟩
theorem tw_69 : (Jvm.Cond.initialized "DropQueues") ∈ jAll := List.mem_filter.mpr ⟨List.mem_of_getElem? (i := 69) (by decide +kernel), by decide +kernel⟩
theorem tw_70 : (Jvm.Cond.initialized "DropQueues$Text") ∈ jAll := List.mem_filter.mpr ⟨List.mem_of_getElem? (i := 70) (by decide +kernel), by decide +kernel⟩
theorem tw_71 : (Jvm.Cond.initialized "DropQueues$World") ∈ jAll := List.mem_filter.mpr ⟨List.mem_of_getElem? (i := 71) (by decide +kernel), by decide +kernel⟩
theorem tw_72 : (Jvm.Cond.initialized "DropQueues$Net") ∈ jAll := List.mem_filter.mpr ⟨List.mem_of_getElem? (i := 72) (by decide +kernel), by decide +kernel⟩
theorem tw_73 : (Jvm.Cond.initialized "DropQueues$Queues") ∈ jAll := List.mem_filter.mpr ⟨List.mem_of_getElem? (i := 73) (by decide +kernel), by decide +kernel⟩
theorem tw_74 : (Jvm.Cond.initialized "DropQueues$History") ∈ jAll := List.mem_filter.mpr ⟨List.mem_of_getElem? (i := 74) (by decide +kernel), by decide +kernel⟩
theorem tw_75 : (Jvm.Cond.initialized "DropQueues$Picker") ∈ jAll := List.mem_filter.mpr ⟨List.mem_of_getElem? (i := 75) (by decide +kernel), by decide +kernel⟩
theorem tw_76 : (Jvm.Cond.initialized "DropQueues$Mover") ∈ jAll := List.mem_filter.mpr ⟨List.mem_of_getElem? (i := 76) (by decide +kernel), by decide +kernel⟩
theorem tw_77 : (Jvm.Cond.initialized "java/lang/String") ∈ jAll := List.mem_filter.mpr ⟨List.mem_of_getElem? (i := 77) (by decide +kernel), by decide +kernel⟩
theorem tw_78 : (Jvm.Cond.initialized "java/lang/StringLatin1") ∈ jAll := List.mem_filter.mpr ⟨List.mem_of_getElem? (i := 78) (by decide +kernel), by decide +kernel⟩
theorem tw_79 : (Jvm.Cond.initialized "jdk/internal/util/Preconditions") ∈ jAll := List.mem_filter.mpr ⟨List.mem_of_getElem? (i := 79) (by decide +kernel), by decide +kernel⟩
theorem tw_80 : (Jvm.Cond.initialized "java/lang/StringUTF16") ∈ jAll := List.mem_filter.mpr ⟨List.mem_of_getElem? (i := 80) (by decide +kernel), by decide +kernel⟩
theorem tw_81 : (Jvm.Cond.initialized "java/util/Arrays") ∈ jAll := List.mem_filter.mpr ⟨List.mem_of_getElem? (i := 81) (by decide +kernel), by decide +kernel⟩
theorem tw_82 : (Jvm.Cond.initialized "java/lang/System") ∈ jAll := List.mem_filter.mpr ⟨List.mem_of_getElem? (i := 82) (by decide +kernel), by decide +kernel⟩
theorem tw_83 : (Jvm.Cond.initialized "java/lang/Math") ∈ jAll := List.mem_filter.mpr ⟨List.mem_of_getElem? (i := 83) (by decide +kernel), by decide +kernel⟩
theorem tw_84 : (Jvm.Cond.initialized "DropQueuesModel") ∈ jAll := List.mem_filter.mpr ⟨List.mem_of_getElem? (i := 84) (by decide +kernel), by decide +kernel⟩
theorem tw_85 : (Jvm.Cond.initialized "java/lang/Integer") ∈ jAll := List.mem_filter.mpr ⟨List.mem_of_getElem? (i := 85) (by decide +kernel), by decide +kernel⟩
theorem tw_86 : (Jvm.Cond.classLink "DropQueuesLaw" (7 : Nat) "DropQueues") ∈ jAll := List.mem_filter.mpr ⟨List.mem_of_getElem? (i := 86) (by decide +kernel), by decide +kernel⟩
theorem tw_87 : (Jvm.Cond.instantiable "DropQueues" (6 : Nat)) ∈ jAll := List.mem_filter.mpr ⟨List.mem_of_getElem? (i := 87) (by decide +kernel), by decide +kernel⟩
theorem tw_88 : (Jvm.Cond.methodLink "DropQueuesLaw" (9 : Nat) ({ cls := "DropQueues", name := "<init>", desc := "()V" } : Jvm.MethodName)) ∈ jAll := List.mem_filter.mpr ⟨List.mem_of_getElem? (i := 88) (by decide +kernel), by decide +kernel⟩
theorem tw_89 : (Jvm.Cond.instanceMethod ({ cls := "DropQueues", name := "<init>", desc := "()V" } : Jvm.MethodName)) ∈ jAll := List.mem_filter.mpr ⟨List.mem_of_getElem? (i := 89) (by decide +kernel), by decide +kernel⟩
theorem tw_90 : (Jvm.Cond.code ({ cls := "DropQueues", name := "<init>", desc := "()V" } : Jvm.MethodName) prog_1_method_1_code (2 : Nat) (Option.none : Option Jvm.ClassFile.FieldType)) ∈ jAll := List.mem_filter.mpr ⟨List.mem_of_getElem? (i := 90) (by decide +kernel), by decide +kernel⟩
theorem tw_91 : (Jvm.Cond.methodLink "DropQueues" (3 : Nat) ({ cls := "java/lang/Object", name := "<init>", desc := "()V" } : Jvm.MethodName)) ∈ jAll := List.mem_filter.mpr ⟨List.mem_of_getElem? (i := 91) (by decide +kernel), by decide +kernel⟩
theorem tw_92 : (Jvm.Cond.instanceMethod ({ cls := "java/lang/Object", name := "<init>", desc := "()V" } : Jvm.MethodName)) ∈ jAll := List.mem_filter.mpr ⟨List.mem_of_getElem? (i := 92) (by decide +kernel), by decide +kernel⟩
theorem tw_93 : (Jvm.Cond.code ({ cls := "java/lang/Object", name := "<init>", desc := "()V" } : Jvm.MethodName) object_method_1_code (1 : Nat) (Option.none : Option Jvm.ClassFile.FieldType)) ∈ jAll := List.mem_filter.mpr ⟨List.mem_of_getElem? (i := 93) (by decide +kernel), by decide +kernel⟩
theorem tw_94 : (Jvm.Cond.classLink "DropQueues" (9 : Nat) "DropQueues$Text") ∈ jAll := List.mem_filter.mpr ⟨List.mem_of_getElem? (i := 94) (by decide +kernel), by decide +kernel⟩
theorem tw_95 : (Jvm.Cond.instantiable "DropQueues$Text" (3 : Nat)) ∈ jAll := List.mem_filter.mpr ⟨List.mem_of_getElem? (i := 95) (by decide +kernel), by decide +kernel⟩
theorem tw_97 : (Jvm.Cond.instanceMethod ({ cls := "DropQueues$Text", name := "<init>", desc := "()V" } : Jvm.MethodName)) ∈ jAll := List.mem_filter.mpr ⟨List.mem_of_getElem? (i := 97) (by decide +kernel), by decide +kernel⟩
theorem tw_98 : (Jvm.Cond.code ({ cls := "DropQueues$Text", name := "<init>", desc := "()V" } : Jvm.MethodName) prog_7_method_1_code (1 : Nat) (Option.none : Option Jvm.ClassFile.FieldType)) ∈ jAll := List.mem_filter.mpr ⟨List.mem_of_getElem? (i := 98) (by decide +kernel), by decide +kernel⟩
theorem tw_99 : (Jvm.Cond.methodLink "DropQueues$Text" (3 : Nat) ({ cls := "java/lang/Object", name := "<init>", desc := "()V" } : Jvm.MethodName)) ∈ jAll := List.mem_filter.mpr ⟨List.mem_of_getElem? (i := 99) (by decide +kernel), by decide +kernel⟩
theorem tw_100 : (Jvm.Cond.fieldLink "DropQueues" (67 : Nat) "DropQueues$Text" "length" "I") ∈ jAll := List.mem_filter.mpr ⟨List.mem_of_getElem? (i := 100) (by decide +kernel), by decide +kernel⟩
theorem tw_101 : (Jvm.Cond.fieldLink "DropQueues$Text" (19 : Nat) "DropQueues$Text" "length" "I") ∈ jAll := List.mem_filter.mpr ⟨List.mem_of_getElem? (i := 101) (by decide +kernel), by decide +kernel⟩
theorem tw_102 : (Jvm.Cond.fieldLink "DropQueues$Text" (9 : Nat) "DropQueues$Text" "letters" "[C") ∈ jAll := List.mem_filter.mpr ⟨List.mem_of_getElem? (i := 102) (by decide +kernel), by decide +kernel⟩
theorem tw_103 : (Jvm.Cond.fieldLink "DropQueues$Text" (15 : Nat) "DropQueues$Text" "numbers" "[I") ∈ jAll := List.mem_filter.mpr ⟨List.mem_of_getElem? (i := 103) (by decide +kernel), by decide +kernel⟩
theorem tw_111 : (Jvm.Cond.arrayClass Jvm.ClassFile.FieldType.char) ∈ jAll := List.mem_filter.mpr ⟨List.mem_of_getElem? (i := 111) (by decide +kernel), by decide +kernel⟩
theorem tw_112 : (Jvm.Cond.arrayClass Jvm.ClassFile.FieldType.int) ∈ jAll := List.mem_filter.mpr ⟨List.mem_of_getElem? (i := 112) (by decide +kernel), by decide +kernel⟩
theorem tw_113 : (Jvm.Cond.classLink "DropQueues" (16 : Nat) "DropQueues$World") ∈ jAll := List.mem_filter.mpr ⟨List.mem_of_getElem? (i := 113) (by decide +kernel), by decide +kernel⟩
theorem tw_114 : (Jvm.Cond.instantiable "DropQueues$World" (2 : Nat)) ∈ jAll := List.mem_filter.mpr ⟨List.mem_of_getElem? (i := 114) (by decide +kernel), by decide +kernel⟩
theorem tw_116 : (Jvm.Cond.instanceMethod ({ cls := "DropQueues$World", name := "<init>", desc := "()V" } : Jvm.MethodName)) ∈ jAll := List.mem_filter.mpr ⟨List.mem_of_getElem? (i := 116) (by decide +kernel), by decide +kernel⟩
theorem tw_117 : (Jvm.Cond.code ({ cls := "DropQueues$World", name := "<init>", desc := "()V" } : Jvm.MethodName) prog_8_method_1_code (1 : Nat) (Option.none : Option Jvm.ClassFile.FieldType)) ∈ jAll := List.mem_filter.mpr ⟨List.mem_of_getElem? (i := 117) (by decide +kernel), by decide +kernel⟩
theorem tw_118 : (Jvm.Cond.methodLink "DropQueues$World" (1 : Nat) ({ cls := "java/lang/Object", name := "<init>", desc := "()V" } : Jvm.MethodName)) ∈ jAll := List.mem_filter.mpr ⟨List.mem_of_getElem? (i := 118) (by decide +kernel), by decide +kernel⟩
theorem tw_119 : (Jvm.Cond.classLink "DropQueues$World" (7 : Nat) "DropQueues$Net") ∈ jAll := List.mem_filter.mpr ⟨List.mem_of_getElem? (i := 119) (by decide +kernel), by decide +kernel⟩
theorem tw_120 : (Jvm.Cond.instantiable "DropQueues$Net" (12 : Nat)) ∈ jAll := List.mem_filter.mpr ⟨List.mem_of_getElem? (i := 120) (by decide +kernel), by decide +kernel⟩
theorem tw_122 : (Jvm.Cond.instanceMethod ({ cls := "DropQueues$Net", name := "<init>", desc := "()V" } : Jvm.MethodName)) ∈ jAll := List.mem_filter.mpr ⟨List.mem_of_getElem? (i := 122) (by decide +kernel), by decide +kernel⟩
theorem tw_123 : (Jvm.Cond.code ({ cls := "DropQueues$Net", name := "<init>", desc := "()V" } : Jvm.MethodName) prog_4_method_1_code (1 : Nat) (Option.none : Option Jvm.ClassFile.FieldType)) ∈ jAll := List.mem_filter.mpr ⟨List.mem_of_getElem? (i := 123) (by decide +kernel), by decide +kernel⟩
theorem tw_124 : (Jvm.Cond.methodLink "DropQueues$Net" (3 : Nat) ({ cls := "java/lang/Object", name := "<init>", desc := "()V" } : Jvm.MethodName)) ∈ jAll := List.mem_filter.mpr ⟨List.mem_of_getElem? (i := 124) (by decide +kernel), by decide +kernel⟩
theorem tw_125 : (Jvm.Cond.fieldLink "DropQueues$Net" (33 : Nat) "DropQueues$Net" "nodes" "I") ∈ jAll := List.mem_filter.mpr ⟨List.mem_of_getElem? (i := 125) (by decide +kernel), by decide +kernel⟩
theorem tw_126 : (Jvm.Cond.fieldLink "DropQueues$Mover" (68 : Nat) "DropQueues$Net" "nodes" "I") ∈ jAll := List.mem_filter.mpr ⟨List.mem_of_getElem? (i := 126) (by decide +kernel), by decide +kernel⟩
theorem tw_127 : (Jvm.Cond.fieldLink "DropQueues" (82 : Nat) "DropQueues$Net" "nodes" "I") ∈ jAll := List.mem_filter.mpr ⟨List.mem_of_getElem? (i := 127) (by decide +kernel), by decide +kernel⟩
theorem tw_128 : (Jvm.Cond.fieldLink "DropQueues$Net" (37 : Nat) "DropQueues$Net" "goals" "I") ∈ jAll := List.mem_filter.mpr ⟨List.mem_of_getElem? (i := 128) (by decide +kernel), by decide +kernel⟩
theorem tw_129 : (Jvm.Cond.fieldLink "DropQueues$Mover" (79 : Nat) "DropQueues$Net" "goals" "I") ∈ jAll := List.mem_filter.mpr ⟨List.mem_of_getElem? (i := 129) (by decide +kernel), by decide +kernel⟩
theorem tw_130 : (Jvm.Cond.fieldLink "DropQueues$Picker" (51 : Nat) "DropQueues$Net" "goals" "I") ∈ jAll := List.mem_filter.mpr ⟨List.mem_of_getElem? (i := 130) (by decide +kernel), by decide +kernel⟩
theorem tw_131 : (Jvm.Cond.fieldLink "DropQueues" (244 : Nat) "DropQueues$Net" "goals" "I") ∈ jAll := List.mem_filter.mpr ⟨List.mem_of_getElem? (i := 131) (by decide +kernel), by decide +kernel⟩
theorem tw_132 : (Jvm.Cond.fieldLink "DropQueues$Picker" (24 : Nat) "DropQueues$Net" "links" "I") ∈ jAll := List.mem_filter.mpr ⟨List.mem_of_getElem? (i := 132) (by decide +kernel), by decide +kernel⟩
theorem tw_133 : (Jvm.Cond.fieldLink "DropQueues$Net" (40 : Nat) "DropQueues$Net" "links" "I") ∈ jAll := List.mem_filter.mpr ⟨List.mem_of_getElem? (i := 133) (by decide +kernel), by decide +kernel⟩
theorem tw_134 : (Jvm.Cond.fieldLink "DropQueues$Mover" (52 : Nat) "DropQueues$Net" "links" "I") ∈ jAll := List.mem_filter.mpr ⟨List.mem_of_getElem? (i := 134) (by decide +kernel), by decide +kernel⟩
theorem tw_135 : (Jvm.Cond.fieldLink "DropQueues" (231 : Nat) "DropQueues$Net" "links" "I") ∈ jAll := List.mem_filter.mpr ⟨List.mem_of_getElem? (i := 135) (by decide +kernel), by decide +kernel⟩
theorem tw_136 : (Jvm.Cond.fieldLink "DropQueues$Net" (43 : Nat) "DropQueues$Net" "law" "I") ∈ jAll := List.mem_filter.mpr ⟨List.mem_of_getElem? (i := 136) (by decide +kernel), by decide +kernel⟩
theorem tw_137 : (Jvm.Cond.fieldLink "DropQueues$Mover" (109 : Nat) "DropQueues$Net" "law" "I") ∈ jAll := List.mem_filter.mpr ⟨List.mem_of_getElem? (i := 137) (by decide +kernel), by decide +kernel⟩
theorem tw_138 : (Jvm.Cond.fieldLink "DropQueues" (156 : Nat) "DropQueues$Net" "law" "I") ∈ jAll := List.mem_filter.mpr ⟨List.mem_of_getElem? (i := 138) (by decide +kernel), by decide +kernel⟩
theorem tw_139 : (Jvm.Cond.fieldLink "DropQueues$Net" (46 : Nat) "DropQueues$Net" "b" "I") ∈ jAll := List.mem_filter.mpr ⟨List.mem_of_getElem? (i := 139) (by decide +kernel), by decide +kernel⟩
theorem tw_140 : (Jvm.Cond.fieldLink "DropQueues" (247 : Nat) "DropQueues$Net" "b" "I") ∈ jAll := List.mem_filter.mpr ⟨List.mem_of_getElem? (i := 140) (by decide +kernel), by decide +kernel⟩
theorem tw_141 : (Jvm.Cond.fieldLink "DropQueues$Net" (9 : Nat) "DropQueues$Net" "goalNodes" "[I") ∈ jAll := List.mem_filter.mpr ⟨List.mem_of_getElem? (i := 141) (by decide +kernel), by decide +kernel⟩
theorem tw_142 : (Jvm.Cond.fieldLink "DropQueues$Mover" (118 : Nat) "DropQueues$Net" "goalNodes" "[I") ∈ jAll := List.mem_filter.mpr ⟨List.mem_of_getElem? (i := 142) (by decide +kernel), by decide +kernel⟩
theorem tw_143 : (Jvm.Cond.fieldLink "DropQueues" (196 : Nat) "DropQueues$Net" "goalNodes" "[I") ∈ jAll := List.mem_filter.mpr ⟨List.mem_of_getElem? (i := 143) (by decide +kernel), by decide +kernel⟩
theorem tw_144 : (Jvm.Cond.fieldLink "DropQueues$Net" (15 : Nat) "DropQueues$Net" "firsts" "[I") ∈ jAll := List.mem_filter.mpr ⟨List.mem_of_getElem? (i := 144) (by decide +kernel), by decide +kernel⟩
theorem tw_145 : (Jvm.Cond.fieldLink "DropQueues$World" (30 : Nat) "DropQueues$Net" "firsts" "[I") ∈ jAll := List.mem_filter.mpr ⟨List.mem_of_getElem? (i := 145) (by decide +kernel), by decide +kernel⟩
theorem tw_146 : (Jvm.Cond.fieldLink "DropQueues$Mover" (92 : Nat) "DropQueues$Net" "firsts" "[I") ∈ jAll := List.mem_filter.mpr ⟨List.mem_of_getElem? (i := 146) (by decide +kernel), by decide +kernel⟩
theorem tw_147 : (Jvm.Cond.fieldLink "DropQueues$Picker" (63 : Nat) "DropQueues$Net" "firsts" "[I") ∈ jAll := List.mem_filter.mpr ⟨List.mem_of_getElem? (i := 147) (by decide +kernel), by decide +kernel⟩
theorem tw_148 : (Jvm.Cond.fieldLink "DropQueues" (165 : Nat) "DropQueues$Net" "firsts" "[I") ∈ jAll := List.mem_filter.mpr ⟨List.mem_of_getElem? (i := 148) (by decide +kernel), by decide +kernel⟩
theorem tw_149 : (Jvm.Cond.fieldLink "DropQueues$Net" (18 : Nat) "DropQueues$Net" "seconds" "[I") ∈ jAll := List.mem_filter.mpr ⟨List.mem_of_getElem? (i := 149) (by decide +kernel), by decide +kernel⟩
theorem tw_150 : (Jvm.Cond.fieldLink "DropQueues$World" (40 : Nat) "DropQueues$Net" "seconds" "[I") ∈ jAll := List.mem_filter.mpr ⟨List.mem_of_getElem? (i := 150) (by decide +kernel), by decide +kernel⟩
theorem tw_151 : (Jvm.Cond.fieldLink "DropQueues$Mover" (115 : Nat) "DropQueues$Net" "seconds" "[I") ∈ jAll := List.mem_filter.mpr ⟨List.mem_of_getElem? (i := 151) (by decide +kernel), by decide +kernel⟩
theorem tw_152 : (Jvm.Cond.fieldLink "DropQueues" (168 : Nat) "DropQueues$Net" "seconds" "[I") ∈ jAll := List.mem_filter.mpr ⟨List.mem_of_getElem? (i := 152) (by decide +kernel), by decide +kernel⟩
theorem tw_153 : (Jvm.Cond.fieldLink "DropQueues$Net" (21 : Nat) "DropQueues$Net" "rooms" "[I") ∈ jAll := List.mem_filter.mpr ⟨List.mem_of_getElem? (i := 153) (by decide +kernel), by decide +kernel⟩
theorem tw_154 : (Jvm.Cond.fieldLink "DropQueues$Picker" (34 : Nat) "DropQueues$Net" "rooms" "[I") ∈ jAll := List.mem_filter.mpr ⟨List.mem_of_getElem? (i := 154) (by decide +kernel), by decide +kernel⟩
theorem tw_155 : (Jvm.Cond.fieldLink "DropQueues$Mover" (98 : Nat) "DropQueues$Net" "rooms" "[I") ∈ jAll := List.mem_filter.mpr ⟨List.mem_of_getElem? (i := 155) (by decide +kernel), by decide +kernel⟩
theorem tw_156 : (Jvm.Cond.fieldLink "DropQueues" (107 : Nat) "DropQueues$Net" "rooms" "[I") ∈ jAll := List.mem_filter.mpr ⟨List.mem_of_getElem? (i := 156) (by decide +kernel), by decide +kernel⟩
theorem tw_157 : (Jvm.Cond.fieldLink "DropQueues$Net" (24 : Nat) "DropQueues$Net" "clashes" "[I") ∈ jAll := List.mem_filter.mpr ⟨List.mem_of_getElem? (i := 157) (by decide +kernel), by decide +kernel⟩
theorem tw_158 : (Jvm.Cond.fieldLink "DropQueues$Picker" (77 : Nat) "DropQueues$Net" "clashes" "[I") ∈ jAll := List.mem_filter.mpr ⟨List.mem_of_getElem? (i := 158) (by decide +kernel), by decide +kernel⟩
theorem tw_159 : (Jvm.Cond.fieldLink "DropQueues" (171 : Nat) "DropQueues$Net" "clashes" "[I") ∈ jAll := List.mem_filter.mpr ⟨List.mem_of_getElem? (i := 159) (by decide +kernel), by decide +kernel⟩
theorem tw_160 : (Jvm.Cond.fieldLink "DropQueues$Net" (27 : Nat) "DropQueues$Net" "feeds" "[I") ∈ jAll := List.mem_filter.mpr ⟨List.mem_of_getElem? (i := 160) (by decide +kernel), by decide +kernel⟩
theorem tw_161 : (Jvm.Cond.fieldLink "DropQueues$Mover" (86 : Nat) "DropQueues$Net" "feeds" "[I") ∈ jAll := List.mem_filter.mpr ⟨List.mem_of_getElem? (i := 161) (by decide +kernel), by decide +kernel⟩
theorem tw_162 : (Jvm.Cond.fieldLink "DropQueues" (91 : Nat) "DropQueues$Net" "feeds" "[I") ∈ jAll := List.mem_filter.mpr ⟨List.mem_of_getElem? (i := 162) (by decide +kernel), by decide +kernel⟩
theorem tw_163 : (Jvm.Cond.fieldLink "DropQueues$Net" (30 : Nat) "DropQueues$Net" "hops" "[I") ∈ jAll := List.mem_filter.mpr ⟨List.mem_of_getElem? (i := 163) (by decide +kernel), by decide +kernel⟩
theorem tw_189 : (Jvm.Cond.classLink "DropQueues$World" (16 : Nat) "DropQueues$Queues") ∈ jAll := List.mem_filter.mpr ⟨List.mem_of_getElem? (i := 189) (by decide +kernel), by decide +kernel⟩
theorem tw_190 : (Jvm.Cond.instantiable "DropQueues$Queues" (8 : Nat)) ∈ jAll := List.mem_filter.mpr ⟨List.mem_of_getElem? (i := 190) (by decide +kernel), by decide +kernel⟩
theorem tw_192 : (Jvm.Cond.instanceMethod ({ cls := "DropQueues$Queues", name := "<init>", desc := "()V" } : Jvm.MethodName)) ∈ jAll := List.mem_filter.mpr ⟨List.mem_of_getElem? (i := 192) (by decide +kernel), by decide +kernel⟩
theorem tw_193 : (Jvm.Cond.code ({ cls := "DropQueues$Queues", name := "<init>", desc := "()V" } : Jvm.MethodName) prog_6_method_1_code (1 : Nat) (Option.none : Option Jvm.ClassFile.FieldType)) ∈ jAll := List.mem_filter.mpr ⟨List.mem_of_getElem? (i := 193) (by decide +kernel), by decide +kernel⟩
theorem tw_194 : (Jvm.Cond.methodLink "DropQueues$Queues" (3 : Nat) ({ cls := "java/lang/Object", name := "<init>", desc := "()V" } : Jvm.MethodName)) ∈ jAll := List.mem_filter.mpr ⟨List.mem_of_getElem? (i := 194) (by decide +kernel), by decide +kernel⟩
theorem tw_195 : (Jvm.Cond.fieldLink "DropQueues$Queues" (30 : Nat) "DropQueues$Queues" "slots" "I") ∈ jAll := List.mem_filter.mpr ⟨List.mem_of_getElem? (i := 195) (by decide +kernel), by decide +kernel⟩
theorem tw_196 : (Jvm.Cond.fieldLink "DropQueues$Mover" (46 : Nat) "DropQueues$Queues" "slots" "I") ∈ jAll := List.mem_filter.mpr ⟨List.mem_of_getElem? (i := 196) (by decide +kernel), by decide +kernel⟩
theorem tw_197 : (Jvm.Cond.fieldLink "DropQueues" (136 : Nat) "DropQueues$Queues" "slots" "I") ∈ jAll := List.mem_filter.mpr ⟨List.mem_of_getElem? (i := 197) (by decide +kernel), by decide +kernel⟩
theorem tw_198 : (Jvm.Cond.fieldLink "DropQueues$Queues" (34 : Nat) "DropQueues$Queues" "lost" "I") ∈ jAll := List.mem_filter.mpr ⟨List.mem_of_getElem? (i := 198) (by decide +kernel), by decide +kernel⟩
theorem tw_199 : (Jvm.Cond.fieldLink "DropQueues" (266 : Nat) "DropQueues$Queues" "lost" "I") ∈ jAll := List.mem_filter.mpr ⟨List.mem_of_getElem? (i := 199) (by decide +kernel), by decide +kernel⟩
theorem tw_200 : (Jvm.Cond.fieldLink "DropQueues$Queues" (9 : Nat) "DropQueues$Queues" "there" "[I") ∈ jAll := List.mem_filter.mpr ⟨List.mem_of_getElem? (i := 200) (by decide +kernel), by decide +kernel⟩
theorem tw_201 : (Jvm.Cond.fieldLink "DropQueues" (199 : Nat) "DropQueues$Queues" "there" "[I") ∈ jAll := List.mem_filter.mpr ⟨List.mem_of_getElem? (i := 201) (by decide +kernel), by decide +kernel⟩
theorem tw_202 : (Jvm.Cond.fieldLink "DropQueues$Queues" (15 : Nat) "DropQueues$Queues" "delays" "[I") ∈ jAll := List.mem_filter.mpr ⟨List.mem_of_getElem? (i := 202) (by decide +kernel), by decide +kernel⟩
theorem tw_203 : (Jvm.Cond.fieldLink "DropQueues" (202 : Nat) "DropQueues$Queues" "delays" "[I") ∈ jAll := List.mem_filter.mpr ⟨List.mem_of_getElem? (i := 203) (by decide +kernel), by decide +kernel⟩
theorem tw_204 : (Jvm.Cond.fieldLink "DropQueues$Queues" (18 : Nat) "DropQueues$Queues" "longest" "[I") ∈ jAll := List.mem_filter.mpr ⟨List.mem_of_getElem? (i := 204) (by decide +kernel), by decide +kernel⟩
theorem tw_205 : (Jvm.Cond.fieldLink "DropQueues" (205 : Nat) "DropQueues$Queues" "longest" "[I") ∈ jAll := List.mem_filter.mpr ⟨List.mem_of_getElem? (i := 205) (by decide +kernel), by decide +kernel⟩
theorem tw_206 : (Jvm.Cond.fieldLink "DropQueues$Queues" (21 : Nat) "DropQueues$Queues" "sizes" "[I") ∈ jAll := List.mem_filter.mpr ⟨List.mem_of_getElem? (i := 206) (by decide +kernel), by decide +kernel⟩
theorem tw_207 : (Jvm.Cond.fieldLink "DropQueues$World" (43 : Nat) "DropQueues$Queues" "sizes" "[I") ∈ jAll := List.mem_filter.mpr ⟨List.mem_of_getElem? (i := 207) (by decide +kernel), by decide +kernel⟩
theorem tw_208 : (Jvm.Cond.fieldLink "DropQueues$Picker" (58 : Nat) "DropQueues$Queues" "sizes" "[I") ∈ jAll := List.mem_filter.mpr ⟨List.mem_of_getElem? (i := 208) (by decide +kernel), by decide +kernel⟩
theorem tw_209 : (Jvm.Cond.fieldLink "DropQueues$Mover" (101 : Nat) "DropQueues$Queues" "sizes" "[I") ∈ jAll := List.mem_filter.mpr ⟨List.mem_of_getElem? (i := 209) (by decide +kernel), by decide +kernel⟩
theorem tw_210 : (Jvm.Cond.fieldLink "DropQueues" (131 : Nat) "DropQueues$Queues" "sizes" "[I") ∈ jAll := List.mem_filter.mpr ⟨List.mem_of_getElem? (i := 210) (by decide +kernel), by decide +kernel⟩
theorem tw_211 : (Jvm.Cond.fieldLink "DropQueues$Queues" (24 : Nat) "DropQueues$Queues" "born" "[I") ∈ jAll := List.mem_filter.mpr ⟨List.mem_of_getElem? (i := 211) (by decide +kernel), by decide +kernel⟩
theorem tw_212 : (Jvm.Cond.fieldLink "DropQueues$Queues" (27 : Nat) "DropQueues$Queues" "heads" "[I") ∈ jAll := List.mem_filter.mpr ⟨List.mem_of_getElem? (i := 212) (by decide +kernel), by decide +kernel⟩
theorem tw_230 : (Jvm.Cond.fieldLink "DropQueues$World" (10 : Nat) "DropQueues$World" "net" "LDropQueues$Net;") ∈ jAll := List.mem_filter.mpr ⟨List.mem_of_getElem? (i := 230) (by decide +kernel), by decide +kernel⟩
theorem tw_231 : (Jvm.Cond.fieldLink "DropQueues$Picker" (18 : Nat) "DropQueues$World" "net" "LDropQueues$Net;") ∈ jAll := List.mem_filter.mpr ⟨List.mem_of_getElem? (i := 231) (by decide +kernel), by decide +kernel⟩
theorem tw_232 : (Jvm.Cond.fieldLink "DropQueues$Mover" (32 : Nat) "DropQueues$World" "net" "LDropQueues$Net;") ∈ jAll := List.mem_filter.mpr ⟨List.mem_of_getElem? (i := 232) (by decide +kernel), by decide +kernel⟩
theorem tw_233 : (Jvm.Cond.fieldLink "DropQueues" (74 : Nat) "DropQueues$World" "net" "LDropQueues$Net;") ∈ jAll := List.mem_filter.mpr ⟨List.mem_of_getElem? (i := 233) (by decide +kernel), by decide +kernel⟩
theorem tw_234 : (Jvm.Cond.fieldLink "DropQueues$World" (19 : Nat) "DropQueues$World" "queues" "LDropQueues$Queues;") ∈ jAll := List.mem_filter.mpr ⟨List.mem_of_getElem? (i := 234) (by decide +kernel), by decide +kernel⟩
theorem tw_235 : (Jvm.Cond.fieldLink "DropQueues$Mover" (42 : Nat) "DropQueues$World" "queues" "LDropQueues$Queues;") ∈ jAll := List.mem_filter.mpr ⟨List.mem_of_getElem? (i := 235) (by decide +kernel), by decide +kernel⟩
theorem tw_236 : (Jvm.Cond.fieldLink "DropQueues$Picker" (54 : Nat) "DropQueues$World" "queues" "LDropQueues$Queues;") ∈ jAll := List.mem_filter.mpr ⟨List.mem_of_getElem? (i := 236) (by decide +kernel), by decide +kernel⟩
theorem tw_237 : (Jvm.Cond.fieldLink "DropQueues" (127 : Nat) "DropQueues$World" "queues" "LDropQueues$Queues;") ∈ jAll := List.mem_filter.mpr ⟨List.mem_of_getElem? (i := 237) (by decide +kernel), by decide +kernel⟩
theorem tw_243 : (Jvm.Cond.classLink "DropQueues" (26 : Nat) "DropQueues$History") ∈ jAll := List.mem_filter.mpr ⟨List.mem_of_getElem? (i := 243) (by decide +kernel), by decide +kernel⟩
theorem tw_244 : (Jvm.Cond.instantiable "DropQueues$History" (3 : Nat)) ∈ jAll := List.mem_filter.mpr ⟨List.mem_of_getElem? (i := 244) (by decide +kernel), by decide +kernel⟩
theorem tw_245 : (Jvm.Cond.methodLink "DropQueues" (28 : Nat) ({ cls := "DropQueues$History", name := "<init>", desc := "()V" } : Jvm.MethodName)) ∈ jAll := List.mem_filter.mpr ⟨List.mem_of_getElem? (i := 245) (by decide +kernel), by decide +kernel⟩
theorem tw_246 : (Jvm.Cond.instanceMethod ({ cls := "DropQueues$History", name := "<init>", desc := "()V" } : Jvm.MethodName)) ∈ jAll := List.mem_filter.mpr ⟨List.mem_of_getElem? (i := 246) (by decide +kernel), by decide +kernel⟩
theorem tw_247 : (Jvm.Cond.code ({ cls := "DropQueues$History", name := "<init>", desc := "()V" } : Jvm.MethodName) prog_2_method_1_code (2 : Nat) (Option.none : Option Jvm.ClassFile.FieldType)) ∈ jAll := List.mem_filter.mpr ⟨List.mem_of_getElem? (i := 247) (by decide +kernel), by decide +kernel⟩
theorem tw_248 : (Jvm.Cond.methodLink "DropQueues$History" (3 : Nat) ({ cls := "java/lang/Object", name := "<init>", desc := "()V" } : Jvm.MethodName)) ∈ jAll := List.mem_filter.mpr ⟨List.mem_of_getElem? (i := 248) (by decide +kernel), by decide +kernel⟩
theorem tw_249 : (Jvm.Cond.classLink "DropQueues$History" (9 : Nat) "DropQueues$World") ∈ jAll := List.mem_filter.mpr ⟨List.mem_of_getElem? (i := 249) (by decide +kernel), by decide +kernel⟩
theorem tw_252 : (Jvm.Cond.fieldLink "DropQueues$History" (18 : Nat) "DropQueues$History" "kept" "I") ∈ jAll := List.mem_filter.mpr ⟨List.mem_of_getElem? (i := 252) (by decide +kernel), by decide +kernel⟩
theorem tw_253 : (Jvm.Cond.fieldLink "DropQueues" (150 : Nat) "DropQueues$History" "kept" "I") ∈ jAll := List.mem_filter.mpr ⟨List.mem_of_getElem? (i := 253) (by decide +kernel), by decide +kernel⟩
theorem tw_254 : (Jvm.Cond.fieldLink "DropQueues$History" (22 : Nat) "DropQueues$History" "next" "I") ∈ jAll := List.mem_filter.mpr ⟨List.mem_of_getElem? (i := 254) (by decide +kernel), by decide +kernel⟩
theorem tw_255 : (Jvm.Cond.fieldLink "DropQueues$History" (11 : Nat) "DropQueues$History" "worlds" "[LDropQueues$World;") ∈ jAll := List.mem_filter.mpr ⟨List.mem_of_getElem? (i := 255) (by decide +kernel), by decide +kernel⟩
theorem tw_263 : (Jvm.Cond.classLink "DropQueues" (33 : Nat) "DropQueues$Picker") ∈ jAll := List.mem_filter.mpr ⟨List.mem_of_getElem? (i := 263) (by decide +kernel), by decide +kernel⟩
theorem tw_264 : (Jvm.Cond.instantiable "DropQueues$Picker" (4 : Nat)) ∈ jAll := List.mem_filter.mpr ⟨List.mem_of_getElem? (i := 264) (by decide +kernel), by decide +kernel⟩
theorem tw_266 : (Jvm.Cond.instanceMethod ({ cls := "DropQueues$Picker", name := "<init>", desc := "()V" } : Jvm.MethodName)) ∈ jAll := List.mem_filter.mpr ⟨List.mem_of_getElem? (i := 266) (by decide +kernel), by decide +kernel⟩
theorem tw_267 : (Jvm.Cond.code ({ cls := "DropQueues$Picker", name := "<init>", desc := "()V" } : Jvm.MethodName) prog_5_method_1_code (1 : Nat) (Option.none : Option Jvm.ClassFile.FieldType)) ∈ jAll := List.mem_filter.mpr ⟨List.mem_of_getElem? (i := 267) (by decide +kernel), by decide +kernel⟩
theorem tw_268 : (Jvm.Cond.methodLink "DropQueues$Picker" (3 : Nat) ({ cls := "java/lang/Object", name := "<init>", desc := "()V" } : Jvm.MethodName)) ∈ jAll := List.mem_filter.mpr ⟨List.mem_of_getElem? (i := 268) (by decide +kernel), by decide +kernel⟩
theorem tw_269 : (Jvm.Cond.fieldLink "DropQueues$Picker" (41 : Nat) "DropQueues$Picker" "bestSet" "I") ∈ jAll := List.mem_filter.mpr ⟨List.mem_of_getElem? (i := 269) (by decide +kernel), by decide +kernel⟩
theorem tw_270 : (Jvm.Cond.fieldLink "DropQueues$Mover" (89 : Nat) "DropQueues$Picker" "bestSet" "I") ∈ jAll := List.mem_filter.mpr ⟨List.mem_of_getElem? (i := 270) (by decide +kernel), by decide +kernel⟩
theorem tw_271 : (Jvm.Cond.fieldLink "DropQueues" (190 : Nat) "DropQueues$Picker" "bestSet" "I") ∈ jAll := List.mem_filter.mpr ⟨List.mem_of_getElem? (i := 271) (by decide +kernel), by decide +kernel⟩
theorem tw_272 : (Jvm.Cond.fieldLink "DropQueues$Picker" (44 : Nat) "DropQueues$Picker" "bestWeight" "I") ∈ jAll := List.mem_filter.mpr ⟨List.mem_of_getElem? (i := 272) (by decide +kernel), by decide +kernel⟩
theorem tw_273 : (Jvm.Cond.fieldLink "DropQueues" (193 : Nat) "DropQueues$Picker" "bestWeight" "I") ∈ jAll := List.mem_filter.mpr ⟨List.mem_of_getElem? (i := 273) (by decide +kernel), by decide +kernel⟩
theorem tw_274 : (Jvm.Cond.fieldLink "DropQueues$Picker" (9 : Nat) "DropQueues$Picker" "choices" "[I") ∈ jAll := List.mem_filter.mpr ⟨List.mem_of_getElem? (i := 274) (by decide +kernel), by decide +kernel⟩
theorem tw_275 : (Jvm.Cond.fieldLink "DropQueues$Mover" (95 : Nat) "DropQueues$Picker" "choices" "[I") ∈ jAll := List.mem_filter.mpr ⟨List.mem_of_getElem? (i := 275) (by decide +kernel), by decide +kernel⟩
theorem tw_276 : (Jvm.Cond.fieldLink "DropQueues" (260 : Nat) "DropQueues$Picker" "choices" "[I") ∈ jAll := List.mem_filter.mpr ⟨List.mem_of_getElem? (i := 276) (by decide +kernel), by decide +kernel⟩
theorem tw_277 : (Jvm.Cond.fieldLink "DropQueues$Picker" (15 : Nat) "DropQueues$Picker" "weights" "[I") ∈ jAll := List.mem_filter.mpr ⟨List.mem_of_getElem? (i := 277) (by decide +kernel), by decide +kernel⟩
theorem tw_278 : (Jvm.Cond.fieldLink "DropQueues" (263 : Nat) "DropQueues$Picker" "weights" "[I") ∈ jAll := List.mem_filter.mpr ⟨List.mem_of_getElem? (i := 278) (by decide +kernel), by decide +kernel⟩
theorem tw_288 : (Jvm.Cond.classLink "DropQueues" (40 : Nat) "DropQueues$Mover") ∈ jAll := List.mem_filter.mpr ⟨List.mem_of_getElem? (i := 288) (by decide +kernel), by decide +kernel⟩
theorem tw_289 : (Jvm.Cond.instantiable "DropQueues$Mover" (4 : Nat)) ∈ jAll := List.mem_filter.mpr ⟨List.mem_of_getElem? (i := 289) (by decide +kernel), by decide +kernel⟩
theorem tw_291 : (Jvm.Cond.instanceMethod ({ cls := "DropQueues$Mover", name := "<init>", desc := "()V" } : Jvm.MethodName)) ∈ jAll := List.mem_filter.mpr ⟨List.mem_of_getElem? (i := 291) (by decide +kernel), by decide +kernel⟩
theorem tw_292 : (Jvm.Cond.code ({ cls := "DropQueues$Mover", name := "<init>", desc := "()V" } : Jvm.MethodName) prog_3_method_1_code (1 : Nat) (Option.none : Option Jvm.ClassFile.FieldType)) ∈ jAll := List.mem_filter.mpr ⟨List.mem_of_getElem? (i := 292) (by decide +kernel), by decide +kernel⟩
theorem tw_293 : (Jvm.Cond.methodLink "DropQueues$Mover" (3 : Nat) ({ cls := "java/lang/Object", name := "<init>", desc := "()V" } : Jvm.MethodName)) ∈ jAll := List.mem_filter.mpr ⟨List.mem_of_getElem? (i := 293) (by decide +kernel), by decide +kernel⟩
theorem tw_294 : (Jvm.Cond.classLink "DropQueues$Mover" (15 : Nat) "DropQueues$Picker") ∈ jAll := List.mem_filter.mpr ⟨List.mem_of_getElem? (i := 294) (by decide +kernel), by decide +kernel⟩
theorem tw_296 : (Jvm.Cond.fieldLink "DropQueues$Mover" (9 : Nat) "DropQueues$Mover" "drawnFeeds" "[I") ∈ jAll := List.mem_filter.mpr ⟨List.mem_of_getElem? (i := 296) (by decide +kernel), by decide +kernel⟩
theorem tw_297 : (Jvm.Cond.fieldLink "DropQueues" (241 : Nat) "DropQueues$Mover" "drawnFeeds" "[I") ∈ jAll := List.mem_filter.mpr ⟨List.mem_of_getElem? (i := 297) (by decide +kernel), by decide +kernel⟩
theorem tw_298 : (Jvm.Cond.fieldLink "DropQueues$Mover" (18 : Nat) "DropQueues$Mover" "picker" "LDropQueues$Picker;") ∈ jAll := List.mem_filter.mpr ⟨List.mem_of_getElem? (i := 298) (by decide +kernel), by decide +kernel⟩
theorem tw_299 : (Jvm.Cond.fieldLink "DropQueues$Mover" (22 : Nat) "DropQueues$Mover" "taken" "[I") ∈ jAll := List.mem_filter.mpr ⟨List.mem_of_getElem? (i := 299) (by decide +kernel), by decide +kernel⟩
theorem tw_300 : (Jvm.Cond.fieldLink "DropQueues$Mover" (25 : Nat) "DropQueues$Mover" "underWay" "[I") ∈ jAll := List.mem_filter.mpr ⟨List.mem_of_getElem? (i := 300) (by decide +kernel), by decide +kernel⟩
theorem tw_311 : (Jvm.Cond.methodLink "DropQueues" (49 : Nat) ({ cls := "java/lang/String", name := "length", desc := "()I" } : Jvm.MethodName)) ∈ jAll := List.mem_filter.mpr ⟨List.mem_of_getElem? (i := 311) (by decide +kernel), by decide +kernel⟩
theorem tw_312 : (Jvm.Cond.instanceMethod ({ cls := "java/lang/String", name := "length", desc := "()I" } : Jvm.MethodName)) ∈ jAll := List.mem_filter.mpr ⟨List.mem_of_getElem? (i := 312) (by decide +kernel), by decide +kernel⟩
theorem tw_313 : (Jvm.Cond.selects "java/lang/String" ({ cls := "java/lang/String", name := "length", desc := "()I" } : Jvm.MethodName) ({ cls := "java/lang/String", name := "length", desc := "()I" } : Jvm.MethodName)) ∈ jAll := List.mem_filter.mpr ⟨List.mem_of_getElem? (i := 313) (by decide +kernel), by decide +kernel⟩
theorem tw_314 : (Jvm.Cond.code ({ cls := "java/lang/String", name := "length", desc := "()I" } : Jvm.MethodName) prog_13_method_54_code (1 : Nat) (Option.some Jvm.ClassFile.FieldType.int)) ∈ jAll := List.mem_filter.mpr ⟨List.mem_of_getElem? (i := 314) (by decide +kernel), by decide +kernel⟩
theorem tw_315 : (Jvm.Cond.methodLink "java/lang/String" (335 : Nat) ({ cls := "java/lang/String", name := "coder", desc := "()B" } : Jvm.MethodName)) ∈ jAll := List.mem_filter.mpr ⟨List.mem_of_getElem? (i := 315) (by decide +kernel), by decide +kernel⟩
theorem tw_316 : (Jvm.Cond.instanceMethod ({ cls := "java/lang/String", name := "coder", desc := "()B" } : Jvm.MethodName)) ∈ jAll := List.mem_filter.mpr ⟨List.mem_of_getElem? (i := 316) (by decide +kernel), by decide +kernel⟩
theorem tw_317 : (Jvm.Cond.selects "java/lang/String" ({ cls := "java/lang/String", name := "coder", desc := "()B" } : Jvm.MethodName) ({ cls := "java/lang/String", name := "coder", desc := "()B" } : Jvm.MethodName)) ∈ jAll := List.mem_filter.mpr ⟨List.mem_of_getElem? (i := 317) (by decide +kernel), by decide +kernel⟩
theorem tw_318 : (Jvm.Cond.code ({ cls := "java/lang/String", name := "coder", desc := "()B" } : Jvm.MethodName) prog_13_method_152_code (1 : Nat) (Option.some Jvm.ClassFile.FieldType.byte)) ∈ jAll := List.mem_filter.mpr ⟨List.mem_of_getElem? (i := 318) (by decide +kernel), by decide +kernel⟩
theorem tw_319 : (Jvm.Cond.fieldLink "java/lang/String" (38 : Nat) "java/lang/String" "COMPACT_STRINGS" "Z") ∈ jAll := List.mem_filter.mpr ⟨List.mem_of_getElem? (i := 319) (by decide +kernel), by decide +kernel⟩
theorem tw_321 : (Jvm.Cond.methodLink "DropQueues" (55 : Nat) ({ cls := "java/lang/String", name := "charAt", desc := "(I)C" } : Jvm.MethodName)) ∈ jAll := List.mem_filter.mpr ⟨List.mem_of_getElem? (i := 321) (by decide +kernel), by decide +kernel⟩
theorem tw_322 : (Jvm.Cond.instanceMethod ({ cls := "java/lang/String", name := "charAt", desc := "(I)C" } : Jvm.MethodName)) ∈ jAll := List.mem_filter.mpr ⟨List.mem_of_getElem? (i := 322) (by decide +kernel), by decide +kernel⟩
theorem tw_323 : (Jvm.Cond.selects "java/lang/String" ({ cls := "java/lang/String", name := "charAt", desc := "(I)C" } : Jvm.MethodName) ({ cls := "java/lang/String", name := "charAt", desc := "(I)C" } : Jvm.MethodName)) ∈ jAll := List.mem_filter.mpr ⟨List.mem_of_getElem? (i := 323) (by decide +kernel), by decide +kernel⟩
theorem tw_324 : (Jvm.Cond.code ({ cls := "java/lang/String", name := "charAt", desc := "(I)C" } : Jvm.MethodName) prog_13_method_56_code (2 : Nat) (Option.some Jvm.ClassFile.FieldType.char)) ∈ jAll := List.mem_filter.mpr ⟨List.mem_of_getElem? (i := 324) (by decide +kernel), by decide +kernel⟩
theorem tw_325 : (Jvm.Cond.methodLink "java/lang/String" (492 : Nat) ({ cls := "java/lang/String", name := "isLatin1", desc := "()Z" } : Jvm.MethodName)) ∈ jAll := List.mem_filter.mpr ⟨List.mem_of_getElem? (i := 325) (by decide +kernel), by decide +kernel⟩
theorem tw_326 : (Jvm.Cond.instanceMethod ({ cls := "java/lang/String", name := "isLatin1", desc := "()Z" } : Jvm.MethodName)) ∈ jAll := List.mem_filter.mpr ⟨List.mem_of_getElem? (i := 326) (by decide +kernel), by decide +kernel⟩
theorem tw_327 : (Jvm.Cond.selects "java/lang/String" ({ cls := "java/lang/String", name := "isLatin1", desc := "()Z" } : Jvm.MethodName) ({ cls := "java/lang/String", name := "isLatin1", desc := "()Z" } : Jvm.MethodName)) ∈ jAll := List.mem_filter.mpr ⟨List.mem_of_getElem? (i := 327) (by decide +kernel), by decide +kernel⟩
theorem tw_328 : (Jvm.Cond.code ({ cls := "java/lang/String", name := "isLatin1", desc := "()Z" } : Jvm.MethodName) prog_13_method_154_code (1 : Nat) (Option.some Jvm.ClassFile.FieldType.boolean)) ∈ jAll := List.mem_filter.mpr ⟨List.mem_of_getElem? (i := 328) (by decide +kernel), by decide +kernel⟩
theorem tw_329 : (Jvm.Cond.methodLink "java/lang/String" (495 : Nat) ({ cls := "java/lang/StringLatin1", name := "charAt", desc := "([BI)C" } : Jvm.MethodName)) ∈ jAll := List.mem_filter.mpr ⟨List.mem_of_getElem? (i := 329) (by decide +kernel), by decide +kernel⟩
theorem tw_330 : (Jvm.Cond.static ({ cls := "java/lang/StringLatin1", name := "charAt", desc := "([BI)C" } : Jvm.MethodName)) ∈ jAll := List.mem_filter.mpr ⟨List.mem_of_getElem? (i := 330) (by decide +kernel), by decide +kernel⟩
theorem tw_331 : (Jvm.Cond.code ({ cls := "java/lang/StringLatin1", name := "charAt", desc := "([BI)C" } : Jvm.MethodName) prog_14_method_2_code (2 : Nat) (Option.some Jvm.ClassFile.FieldType.char)) ∈ jAll := List.mem_filter.mpr ⟨List.mem_of_getElem? (i := 331) (by decide +kernel), by decide +kernel⟩
theorem tw_332 : (Jvm.Cond.methodLink "java/lang/StringLatin1" (9 : Nat) ({ cls := "java/lang/String", name := "checkIndex", desc := "(II)V" } : Jvm.MethodName)) ∈ jAll := List.mem_filter.mpr ⟨List.mem_of_getElem? (i := 332) (by decide +kernel), by decide +kernel⟩
theorem tw_333 : (Jvm.Cond.static ({ cls := "java/lang/String", name := "checkIndex", desc := "(II)V" } : Jvm.MethodName)) ∈ jAll := List.mem_filter.mpr ⟨List.mem_of_getElem? (i := 333) (by decide +kernel), by decide +kernel⟩
theorem tw_334 : (Jvm.Cond.code ({ cls := "java/lang/String", name := "checkIndex", desc := "(II)V" } : Jvm.MethodName) prog_13_method_155_code (2 : Nat) (Option.none : Option Jvm.ClassFile.FieldType)) ∈ jAll := List.mem_filter.mpr ⟨List.mem_of_getElem? (i := 334) (by decide +kernel), by decide +kernel⟩
theorem tw_335 : (Jvm.Cond.fieldLink "java/lang/String" (1053 : Nat) "jdk/internal/util/Preconditions" "SIOOBE_FORMATTER" "Ljava/util/function/BiFunction;") ∈ jAll := List.mem_filter.mpr ⟨List.mem_of_getElem? (i := 335) (by decide +kernel), by decide +kernel⟩
theorem tw_337 : (Jvm.Cond.methodLink "java/lang/String" (1059 : Nat) ({ cls := "jdk/internal/util/Preconditions", name := "checkIndex", desc := "(IILjava/util/function/BiFunction;)I" } : Jvm.MethodName)) ∈ jAll := List.mem_filter.mpr ⟨List.mem_of_getElem? (i := 337) (by decide +kernel), by decide +kernel⟩
theorem tw_338 : (Jvm.Cond.static ({ cls := "jdk/internal/util/Preconditions", name := "checkIndex", desc := "(IILjava/util/function/BiFunction;)I" } : Jvm.MethodName)) ∈ jAll := List.mem_filter.mpr ⟨List.mem_of_getElem? (i := 338) (by decide +kernel), by decide +kernel⟩
theorem tw_339 : (Jvm.Cond.code ({ cls := "jdk/internal/util/Preconditions", name := "checkIndex", desc := "(IILjava/util/function/BiFunction;)I" } : Jvm.MethodName) prog_18_method_11_code (3 : Nat) (Option.some Jvm.ClassFile.FieldType.int)) ∈ jAll := List.mem_filter.mpr ⟨List.mem_of_getElem? (i := 339) (by decide +kernel), by decide +kernel⟩
theorem tw_340 : (Jvm.Cond.methodLink "java/lang/String" (498 : Nat) ({ cls := "java/lang/StringUTF16", name := "charAt", desc := "([BI)C" } : Jvm.MethodName)) ∈ jAll := List.mem_filter.mpr ⟨List.mem_of_getElem? (i := 340) (by decide +kernel), by decide +kernel⟩
theorem tw_341 : (Jvm.Cond.static ({ cls := "java/lang/StringUTF16", name := "charAt", desc := "([BI)C" } : Jvm.MethodName)) ∈ jAll := List.mem_filter.mpr ⟨List.mem_of_getElem? (i := 341) (by decide +kernel), by decide +kernel⟩
theorem tw_342 : (Jvm.Cond.code ({ cls := "java/lang/StringUTF16", name := "charAt", desc := "([BI)C" } : Jvm.MethodName) prog_15_method_83_code (2 : Nat) (Option.some Jvm.ClassFile.FieldType.char)) ∈ jAll := List.mem_filter.mpr ⟨List.mem_of_getElem? (i := 342) (by decide +kernel), by decide +kernel⟩
theorem tw_343 : (Jvm.Cond.methodLink "java/lang/StringUTF16" (67 : Nat) ({ cls := "java/lang/StringUTF16", name := "checkIndex", desc := "(I[B)V" } : Jvm.MethodName)) ∈ jAll := List.mem_filter.mpr ⟨List.mem_of_getElem? (i := 343) (by decide +kernel), by decide +kernel⟩
theorem tw_344 : (Jvm.Cond.static ({ cls := "java/lang/StringUTF16", name := "checkIndex", desc := "(I[B)V" } : Jvm.MethodName)) ∈ jAll := List.mem_filter.mpr ⟨List.mem_of_getElem? (i := 344) (by decide +kernel), by decide +kernel⟩
theorem tw_345 : (Jvm.Cond.code ({ cls := "java/lang/StringUTF16", name := "checkIndex", desc := "(I[B)V" } : Jvm.MethodName) prog_15_method_91_code (2 : Nat) (Option.none : Option Jvm.ClassFile.FieldType)) ∈ jAll := List.mem_filter.mpr ⟨List.mem_of_getElem? (i := 345) (by decide +kernel), by decide +kernel⟩
theorem tw_346 : (Jvm.Cond.methodLink "java/lang/StringUTF16" (48 : Nat) ({ cls := "java/lang/StringUTF16", name := "length", desc := "([B)I" } : Jvm.MethodName)) ∈ jAll := List.mem_filter.mpr ⟨List.mem_of_getElem? (i := 346) (by decide +kernel), by decide +kernel⟩
theorem tw_347 : (Jvm.Cond.static ({ cls := "java/lang/StringUTF16", name := "length", desc := "([B)I" } : Jvm.MethodName)) ∈ jAll := List.mem_filter.mpr ⟨List.mem_of_getElem? (i := 347) (by decide +kernel), by decide +kernel⟩
theorem tw_348 : (Jvm.Cond.code ({ cls := "java/lang/StringUTF16", name := "length", desc := "([B)I" } : Jvm.MethodName) prog_15_method_6_code (1 : Nat) (Option.some Jvm.ClassFile.FieldType.int)) ∈ jAll := List.mem_filter.mpr ⟨List.mem_of_getElem? (i := 348) (by decide +kernel), by decide +kernel⟩
theorem tw_349 : (Jvm.Cond.methodLink "java/lang/StringUTF16" (414 : Nat) ({ cls := "java/lang/String", name := "checkIndex", desc := "(II)V" } : Jvm.MethodName)) ∈ jAll := List.mem_filter.mpr ⟨List.mem_of_getElem? (i := 349) (by decide +kernel), by decide +kernel⟩
theorem tw_350 : (Jvm.Cond.methodLink "java/lang/StringUTF16" (71 : Nat) ({ cls := "java/lang/StringUTF16", name := "getChar", desc := "([BI)C" } : Jvm.MethodName)) ∈ jAll := List.mem_filter.mpr ⟨List.mem_of_getElem? (i := 350) (by decide +kernel), by decide +kernel⟩
theorem tw_351 : (Jvm.Cond.static ({ cls := "java/lang/StringUTF16", name := "getChar", desc := "([BI)C" } : Jvm.MethodName)) ∈ jAll := List.mem_filter.mpr ⟨List.mem_of_getElem? (i := 351) (by decide +kernel), by decide +kernel⟩
theorem tw_352 : (Jvm.Cond.code ({ cls := "java/lang/StringUTF16", name := "getChar", desc := "([BI)C" } : Jvm.MethodName) prog_15_method_5_code (2 : Nat) (Option.some Jvm.ClassFile.FieldType.char)) ∈ jAll := List.mem_filter.mpr ⟨List.mem_of_getElem? (i := 352) (by decide +kernel), by decide +kernel⟩
theorem tw_353 : (Jvm.Cond.fieldLink "java/lang/StringUTF16" (44 : Nat) "java/lang/StringUTF16" "$assertionsDisabled" "Z") ∈ jAll := List.mem_filter.mpr ⟨List.mem_of_getElem? (i := 353) (by decide +kernel), by decide +kernel⟩
theorem tw_355 : (Jvm.Cond.fieldLink "java/lang/StringUTF16" (59 : Nat) "java/lang/StringUTF16" "HI_BYTE_SHIFT" "I") ∈ jAll := List.mem_filter.mpr ⟨List.mem_of_getElem? (i := 355) (by decide +kernel), by decide +kernel⟩
theorem tw_357 : (Jvm.Cond.fieldLink "java/lang/StringUTF16" (63 : Nat) "java/lang/StringUTF16" "LO_BYTE_SHIFT" "I") ∈ jAll := List.mem_filter.mpr ⟨List.mem_of_getElem? (i := 357) (by decide +kernel), by decide +kernel⟩
theorem tw_359 : (Jvm.Cond.methodLink "DropQueues" (59 : Nat) ({ cls := "DropQueues$Text", name := "append", desc := "(C)V" } : Jvm.MethodName)) ∈ jAll := List.mem_filter.mpr ⟨List.mem_of_getElem? (i := 359) (by decide +kernel), by decide +kernel⟩
theorem tw_360 : (Jvm.Cond.instanceMethod ({ cls := "DropQueues$Text", name := "append", desc := "(C)V" } : Jvm.MethodName)) ∈ jAll := List.mem_filter.mpr ⟨List.mem_of_getElem? (i := 360) (by decide +kernel), by decide +kernel⟩
theorem tw_361 : (Jvm.Cond.selects "DropQueues$Text" ({ cls := "DropQueues$Text", name := "append", desc := "(C)V" } : Jvm.MethodName) ({ cls := "DropQueues$Text", name := "append", desc := "(C)V" } : Jvm.MethodName)) ∈ jAll := List.mem_filter.mpr ⟨List.mem_of_getElem? (i := 361) (by decide +kernel), by decide +kernel⟩
theorem tw_362 : (Jvm.Cond.code ({ cls := "DropQueues$Text", name := "append", desc := "(C)V" } : Jvm.MethodName) prog_7_method_2_code (2 : Nat) (Option.none : Option Jvm.ClassFile.FieldType)) ∈ jAll := List.mem_filter.mpr ⟨List.mem_of_getElem? (i := 362) (by decide +kernel), by decide +kernel⟩
theorem tw_363 : (Jvm.Cond.methodLink "DropQueues" (63 : Nat) ({ cls := "DropQueues", name := "layText", desc := "()Z" } : Jvm.MethodName)) ∈ jAll := List.mem_filter.mpr ⟨List.mem_of_getElem? (i := 363) (by decide +kernel), by decide +kernel⟩
theorem tw_365 : (Jvm.Cond.instanceMethod ({ cls := "DropQueues", name := "layText", desc := "()Z" } : Jvm.MethodName)) ∈ jAll := List.mem_filter.mpr ⟨List.mem_of_getElem? (i := 365) (by decide +kernel), by decide +kernel⟩
theorem tw_366 : (Jvm.Cond.code ({ cls := "DropQueues", name := "layText", desc := "()Z" } : Jvm.MethodName) prog_1_method_23_code (1 : Nat) (Option.some Jvm.ClassFile.FieldType.boolean)) ∈ jAll := List.mem_filter.mpr ⟨List.mem_of_getElem? (i := 366) (by decide +kernel), by decide +kernel⟩
theorem tw_367 : (Jvm.Cond.methodLink "DropQueues" (78 : Nat) ({ cls := "DropQueues$Text", name := "readInto", desc := "(LDropQueues$Net;)I" } : Jvm.MethodName)) ∈ jAll := List.mem_filter.mpr ⟨List.mem_of_getElem? (i := 367) (by decide +kernel), by decide +kernel⟩
theorem tw_368 : (Jvm.Cond.instanceMethod ({ cls := "DropQueues$Text", name := "readInto", desc := "(LDropQueues$Net;)I" } : Jvm.MethodName)) ∈ jAll := List.mem_filter.mpr ⟨List.mem_of_getElem? (i := 368) (by decide +kernel), by decide +kernel⟩
theorem tw_369 : (Jvm.Cond.selects "DropQueues$Text" ({ cls := "DropQueues$Text", name := "readInto", desc := "(LDropQueues$Net;)I" } : Jvm.MethodName) ({ cls := "DropQueues$Text", name := "readInto", desc := "(LDropQueues$Net;)I" } : Jvm.MethodName)) ∈ jAll := List.mem_filter.mpr ⟨List.mem_of_getElem? (i := 369) (by decide +kernel), by decide +kernel⟩
theorem tw_370 : (Jvm.Cond.code ({ cls := "DropQueues$Text", name := "readInto", desc := "(LDropQueues$Net;)I" } : Jvm.MethodName) prog_7_method_3_code (4 : Nat) (Option.some Jvm.ClassFile.FieldType.int)) ∈ jAll := List.mem_filter.mpr ⟨List.mem_of_getElem? (i := 370) (by decide +kernel), by decide +kernel⟩
theorem tw_371 : (Jvm.Cond.methodLink "DropQueues$Text" (23 : Nat) ({ cls := "DropQueues$Net", name := "clear", desc := "()V" } : Jvm.MethodName)) ∈ jAll := List.mem_filter.mpr ⟨List.mem_of_getElem? (i := 371) (by decide +kernel), by decide +kernel⟩
theorem tw_372 : (Jvm.Cond.instanceMethod ({ cls := "DropQueues$Net", name := "clear", desc := "()V" } : Jvm.MethodName)) ∈ jAll := List.mem_filter.mpr ⟨List.mem_of_getElem? (i := 372) (by decide +kernel), by decide +kernel⟩
theorem tw_373 : (Jvm.Cond.selects "DropQueues$Net" ({ cls := "DropQueues$Net", name := "clear", desc := "()V" } : Jvm.MethodName) ({ cls := "DropQueues$Net", name := "clear", desc := "()V" } : Jvm.MethodName)) ∈ jAll := List.mem_filter.mpr ⟨List.mem_of_getElem? (i := 373) (by decide +kernel), by decide +kernel⟩
theorem tw_374 : (Jvm.Cond.code ({ cls := "DropQueues$Net", name := "clear", desc := "()V" } : Jvm.MethodName) prog_4_method_2_code (1 : Nat) (Option.none : Option Jvm.ClassFile.FieldType)) ∈ jAll := List.mem_filter.mpr ⟨List.mem_of_getElem? (i := 374) (by decide +kernel), by decide +kernel⟩
theorem tw_375 : (Jvm.Cond.methodLink "DropQueues$Net" (49 : Nat) ({ cls := "java/util/Arrays", name := "fill", desc := "([II)V" } : Jvm.MethodName)) ∈ jAll := List.mem_filter.mpr ⟨List.mem_of_getElem? (i := 375) (by decide +kernel), by decide +kernel⟩
theorem tw_376 : (Jvm.Cond.static ({ cls := "java/util/Arrays", name := "fill", desc := "([II)V" } : Jvm.MethodName)) ∈ jAll := List.mem_filter.mpr ⟨List.mem_of_getElem? (i := 376) (by decide +kernel), by decide +kernel⟩
theorem tw_377 : (Jvm.Cond.code ({ cls := "java/util/Arrays", name := "fill", desc := "([II)V" } : Jvm.MethodName) prog_17_method_103_code (4 : Nat) (Option.none : Option Jvm.ClassFile.FieldType)) ∈ jAll := List.mem_filter.mpr ⟨List.mem_of_getElem? (i := 377) (by decide +kernel), by decide +kernel⟩
theorem tw_378 : (Jvm.Cond.methodLink "DropQueues$Text" (28 : Nat) ({ cls := "DropQueues$Text", name := "readItem", desc := "(LDropQueues$Net;II)Z" } : Jvm.MethodName)) ∈ jAll := List.mem_filter.mpr ⟨List.mem_of_getElem? (i := 378) (by decide +kernel), by decide +kernel⟩
theorem tw_380 : (Jvm.Cond.instanceMethod ({ cls := "DropQueues$Text", name := "readItem", desc := "(LDropQueues$Net;II)Z" } : Jvm.MethodName)) ∈ jAll := List.mem_filter.mpr ⟨List.mem_of_getElem? (i := 380) (by decide +kernel), by decide +kernel⟩
theorem tw_381 : (Jvm.Cond.code ({ cls := "DropQueues$Text", name := "readItem", desc := "(LDropQueues$Net;II)Z" } : Jvm.MethodName) prog_7_method_4_code (5 : Nat) (Option.some Jvm.ClassFile.FieldType.boolean)) ∈ jAll := List.mem_filter.mpr ⟨List.mem_of_getElem? (i := 381) (by decide +kernel), by decide +kernel⟩
theorem tw_382 : (Jvm.Cond.methodLink "DropQueues$Text" (32 : Nat) ({ cls := "DropQueues$Text", name := "numbersOf", desc := "(I)I" } : Jvm.MethodName)) ∈ jAll := List.mem_filter.mpr ⟨List.mem_of_getElem? (i := 382) (by decide +kernel), by decide +kernel⟩
theorem tw_383 : (Jvm.Cond.static ({ cls := "DropQueues$Text", name := "numbersOf", desc := "(I)I" } : Jvm.MethodName)) ∈ jAll := List.mem_filter.mpr ⟨List.mem_of_getElem? (i := 383) (by decide +kernel), by decide +kernel⟩
theorem tw_384 : (Jvm.Cond.code ({ cls := "DropQueues$Text", name := "numbersOf", desc := "(I)I" } : Jvm.MethodName) prog_7_method_5_code (1 : Nat) (Option.some Jvm.ClassFile.FieldType.int)) ∈ jAll := List.mem_filter.mpr ⟨List.mem_of_getElem? (i := 384) (by decide +kernel), by decide +kernel⟩
theorem tw_385 : (Jvm.Cond.methodLink "DropQueues$Text" (36 : Nat) ({ cls := "DropQueues$Text", name := "readNumbers", desc := "(II)I" } : Jvm.MethodName)) ∈ jAll := List.mem_filter.mpr ⟨List.mem_of_getElem? (i := 385) (by decide +kernel), by decide +kernel⟩
theorem tw_387 : (Jvm.Cond.instanceMethod ({ cls := "DropQueues$Text", name := "readNumbers", desc := "(II)I" } : Jvm.MethodName)) ∈ jAll := List.mem_filter.mpr ⟨List.mem_of_getElem? (i := 387) (by decide +kernel), by decide +kernel⟩
theorem tw_388 : (Jvm.Cond.code ({ cls := "DropQueues$Text", name := "readNumbers", desc := "(II)I" } : Jvm.MethodName) prog_7_method_6_code (8 : Nat) (Option.some Jvm.ClassFile.FieldType.int)) ∈ jAll := List.mem_filter.mpr ⟨List.mem_of_getElem? (i := 388) (by decide +kernel), by decide +kernel⟩
theorem tw_389 : (Jvm.Cond.methodLink "DropQueues$Text" (40 : Nat) ({ cls := "DropQueues$Net", name := "takeItem", desc := "(IIII)Z" } : Jvm.MethodName)) ∈ jAll := List.mem_filter.mpr ⟨List.mem_of_getElem? (i := 389) (by decide +kernel), by decide +kernel⟩
theorem tw_390 : (Jvm.Cond.instanceMethod ({ cls := "DropQueues$Net", name := "takeItem", desc := "(IIII)Z" } : Jvm.MethodName)) ∈ jAll := List.mem_filter.mpr ⟨List.mem_of_getElem? (i := 390) (by decide +kernel), by decide +kernel⟩
theorem tw_391 : (Jvm.Cond.selects "DropQueues$Net" ({ cls := "DropQueues$Net", name := "takeItem", desc := "(IIII)Z" } : Jvm.MethodName) ({ cls := "DropQueues$Net", name := "takeItem", desc := "(IIII)Z" } : Jvm.MethodName)) ∈ jAll := List.mem_filter.mpr ⟨List.mem_of_getElem? (i := 391) (by decide +kernel), by decide +kernel⟩
theorem tw_392 : (Jvm.Cond.code ({ cls := "DropQueues$Net", name := "takeItem", desc := "(IIII)Z" } : Jvm.MethodName) prog_4_method_12_code (5 : Nat) (Option.some Jvm.ClassFile.FieldType.boolean)) ∈ jAll := List.mem_filter.mpr ⟨List.mem_of_getElem? (i := 392) (by decide +kernel), by decide +kernel⟩
theorem tw_393 : (Jvm.Cond.methodLink "DropQueues$Net" (74 : Nat) ({ cls := "DropQueues$Net", name := "takeNodes", desc := "(I)Z" } : Jvm.MethodName)) ∈ jAll := List.mem_filter.mpr ⟨List.mem_of_getElem? (i := 393) (by decide +kernel), by decide +kernel⟩
theorem tw_395 : (Jvm.Cond.instanceMethod ({ cls := "DropQueues$Net", name := "takeNodes", desc := "(I)Z" } : Jvm.MethodName)) ∈ jAll := List.mem_filter.mpr ⟨List.mem_of_getElem? (i := 395) (by decide +kernel), by decide +kernel⟩
theorem tw_396 : (Jvm.Cond.code ({ cls := "DropQueues$Net", name := "takeNodes", desc := "(I)Z" } : Jvm.MethodName) prog_4_method_15_code (2 : Nat) (Option.some Jvm.ClassFile.FieldType.boolean)) ∈ jAll := List.mem_filter.mpr ⟨List.mem_of_getElem? (i := 396) (by decide +kernel), by decide +kernel⟩
theorem tw_398 : (Jvm.Cond.static ({ cls := "DropQueues", name := "within", desc := "(III)Z" } : Jvm.MethodName)) ∈ jAll := List.mem_filter.mpr ⟨List.mem_of_getElem? (i := 398) (by decide +kernel), by decide +kernel⟩
theorem tw_399 : (Jvm.Cond.code ({ cls := "DropQueues", name := "within", desc := "(III)Z" } : Jvm.MethodName) prog_1_method_30_code (3 : Nat) (Option.some Jvm.ClassFile.FieldType.boolean)) ∈ jAll := List.mem_filter.mpr ⟨List.mem_of_getElem? (i := 399) (by decide +kernel), by decide +kernel⟩
theorem tw_400 : (Jvm.Cond.methodLink "DropQueues$Net" (77 : Nat) ({ cls := "DropQueues$Net", name := "takeGoal", desc := "(I)Z" } : Jvm.MethodName)) ∈ jAll := List.mem_filter.mpr ⟨List.mem_of_getElem? (i := 400) (by decide +kernel), by decide +kernel⟩
theorem tw_402 : (Jvm.Cond.instanceMethod ({ cls := "DropQueues$Net", name := "takeGoal", desc := "(I)Z" } : Jvm.MethodName)) ∈ jAll := List.mem_filter.mpr ⟨List.mem_of_getElem? (i := 402) (by decide +kernel), by decide +kernel⟩
theorem tw_403 : (Jvm.Cond.code ({ cls := "DropQueues$Net", name := "takeGoal", desc := "(I)Z" } : Jvm.MethodName) prog_4_method_16_code (3 : Nat) (Option.some Jvm.ClassFile.FieldType.boolean)) ∈ jAll := List.mem_filter.mpr ⟨List.mem_of_getElem? (i := 403) (by decide +kernel), by decide +kernel⟩
theorem tw_404 : (Jvm.Cond.methodLink "DropQueues$Net" (61 : Nat) ({ cls := "DropQueues$Net", name := "hasNode", desc := "(I)Z" } : Jvm.MethodName)) ∈ jAll := List.mem_filter.mpr ⟨List.mem_of_getElem? (i := 404) (by decide +kernel), by decide +kernel⟩
theorem tw_405 : (Jvm.Cond.instanceMethod ({ cls := "DropQueues$Net", name := "hasNode", desc := "(I)Z" } : Jvm.MethodName)) ∈ jAll := List.mem_filter.mpr ⟨List.mem_of_getElem? (i := 405) (by decide +kernel), by decide +kernel⟩
theorem tw_406 : (Jvm.Cond.selects "DropQueues$Net" ({ cls := "DropQueues$Net", name := "hasNode", desc := "(I)Z" } : Jvm.MethodName) ({ cls := "DropQueues$Net", name := "hasNode", desc := "(I)Z" } : Jvm.MethodName)) ∈ jAll := List.mem_filter.mpr ⟨List.mem_of_getElem? (i := 406) (by decide +kernel), by decide +kernel⟩
theorem tw_407 : (Jvm.Cond.code ({ cls := "DropQueues$Net", name := "hasNode", desc := "(I)Z" } : Jvm.MethodName) prog_4_method_4_code (2 : Nat) (Option.some Jvm.ClassFile.FieldType.boolean)) ∈ jAll := List.mem_filter.mpr ⟨List.mem_of_getElem? (i := 407) (by decide +kernel), by decide +kernel⟩
theorem tw_408 : (Jvm.Cond.methodLink "DropQueues$Net" (80 : Nat) ({ cls := "DropQueues$Net", name := "takeLink", desc := "(III)Z" } : Jvm.MethodName)) ∈ jAll := List.mem_filter.mpr ⟨List.mem_of_getElem? (i := 408) (by decide +kernel), by decide +kernel⟩
theorem tw_410 : (Jvm.Cond.instanceMethod ({ cls := "DropQueues$Net", name := "takeLink", desc := "(III)Z" } : Jvm.MethodName)) ∈ jAll := List.mem_filter.mpr ⟨List.mem_of_getElem? (i := 410) (by decide +kernel), by decide +kernel⟩
theorem tw_411 : (Jvm.Cond.code ({ cls := "DropQueues$Net", name := "takeLink", desc := "(III)Z" } : Jvm.MethodName) prog_4_method_17_code (4 : Nat) (Option.some Jvm.ClassFile.FieldType.boolean)) ∈ jAll := List.mem_filter.mpr ⟨List.mem_of_getElem? (i := 411) (by decide +kernel), by decide +kernel⟩
theorem tw_412 : (Jvm.Cond.methodLink "DropQueues$Net" (84 : Nat) ({ cls := "DropQueues$Net", name := "takeClash", desc := "(II)Z" } : Jvm.MethodName)) ∈ jAll := List.mem_filter.mpr ⟨List.mem_of_getElem? (i := 412) (by decide +kernel), by decide +kernel⟩
theorem tw_414 : (Jvm.Cond.instanceMethod ({ cls := "DropQueues$Net", name := "takeClash", desc := "(II)Z" } : Jvm.MethodName)) ∈ jAll := List.mem_filter.mpr ⟨List.mem_of_getElem? (i := 414) (by decide +kernel), by decide +kernel⟩
theorem tw_415 : (Jvm.Cond.code ({ cls := "DropQueues$Net", name := "takeClash", desc := "(II)Z" } : Jvm.MethodName) prog_4_method_18_code (3 : Nat) (Option.some Jvm.ClassFile.FieldType.boolean)) ∈ jAll := List.mem_filter.mpr ⟨List.mem_of_getElem? (i := 415) (by decide +kernel), by decide +kernel⟩
theorem tw_416 : (Jvm.Cond.methodLink "DropQueues$Net" (113 : Nat) ({ cls := "DropQueues$Net", name := "hasLink", desc := "(I)Z" } : Jvm.MethodName)) ∈ jAll := List.mem_filter.mpr ⟨List.mem_of_getElem? (i := 416) (by decide +kernel), by decide +kernel⟩
theorem tw_417 : (Jvm.Cond.instanceMethod ({ cls := "DropQueues$Net", name := "hasLink", desc := "(I)Z" } : Jvm.MethodName)) ∈ jAll := List.mem_filter.mpr ⟨List.mem_of_getElem? (i := 417) (by decide +kernel), by decide +kernel⟩
theorem tw_418 : (Jvm.Cond.selects "DropQueues$Net" ({ cls := "DropQueues$Net", name := "hasLink", desc := "(I)Z" } : Jvm.MethodName) ({ cls := "DropQueues$Net", name := "hasLink", desc := "(I)Z" } : Jvm.MethodName)) ∈ jAll := List.mem_filter.mpr ⟨List.mem_of_getElem? (i := 418) (by decide +kernel), by decide +kernel⟩
theorem tw_419 : (Jvm.Cond.code ({ cls := "DropQueues$Net", name := "hasLink", desc := "(I)Z" } : Jvm.MethodName) prog_4_method_6_code (2 : Nat) (Option.some Jvm.ClassFile.FieldType.boolean)) ∈ jAll := List.mem_filter.mpr ⟨List.mem_of_getElem? (i := 419) (by decide +kernel), by decide +kernel⟩
theorem tw_420 : (Jvm.Cond.methodLink "DropQueues$Net" (116 : Nat) ({ cls := "DropQueues$Net", name := "doClash", desc := "(II)Z" } : Jvm.MethodName)) ∈ jAll := List.mem_filter.mpr ⟨List.mem_of_getElem? (i := 420) (by decide +kernel), by decide +kernel⟩
theorem tw_421 : (Jvm.Cond.instanceMethod ({ cls := "DropQueues$Net", name := "doClash", desc := "(II)Z" } : Jvm.MethodName)) ∈ jAll := List.mem_filter.mpr ⟨List.mem_of_getElem? (i := 421) (by decide +kernel), by decide +kernel⟩
theorem tw_422 : (Jvm.Cond.selects "DropQueues$Net" ({ cls := "DropQueues$Net", name := "doClash", desc := "(II)Z" } : Jvm.MethodName) ({ cls := "DropQueues$Net", name := "doClash", desc := "(II)Z" } : Jvm.MethodName)) ∈ jAll := List.mem_filter.mpr ⟨List.mem_of_getElem? (i := 422) (by decide +kernel), by decide +kernel⟩
theorem tw_423 : (Jvm.Cond.code ({ cls := "DropQueues$Net", name := "doClash", desc := "(II)Z" } : Jvm.MethodName) prog_4_method_8_code (3 : Nat) (Option.some Jvm.ClassFile.FieldType.boolean)) ∈ jAll := List.mem_filter.mpr ⟨List.mem_of_getElem? (i := 423) (by decide +kernel), by decide +kernel⟩
theorem tw_424 : (Jvm.Cond.methodLink "DropQueues$Net" (119 : Nat) ({ cls := "DropQueues$Net", name := "turnClash", desc := "(II)V" } : Jvm.MethodName)) ∈ jAll := List.mem_filter.mpr ⟨List.mem_of_getElem? (i := 424) (by decide +kernel), by decide +kernel⟩
theorem tw_425 : (Jvm.Cond.instanceMethod ({ cls := "DropQueues$Net", name := "turnClash", desc := "(II)V" } : Jvm.MethodName)) ∈ jAll := List.mem_filter.mpr ⟨List.mem_of_getElem? (i := 425) (by decide +kernel), by decide +kernel⟩
theorem tw_426 : (Jvm.Cond.selects "DropQueues$Net" ({ cls := "DropQueues$Net", name := "turnClash", desc := "(II)V" } : Jvm.MethodName) ({ cls := "DropQueues$Net", name := "turnClash", desc := "(II)V" } : Jvm.MethodName)) ∈ jAll := List.mem_filter.mpr ⟨List.mem_of_getElem? (i := 426) (by decide +kernel), by decide +kernel⟩
theorem tw_427 : (Jvm.Cond.code ({ cls := "DropQueues$Net", name := "turnClash", desc := "(II)V" } : Jvm.MethodName) prog_4_method_9_code (3 : Nat) (Option.none : Option Jvm.ClassFile.FieldType)) ∈ jAll := List.mem_filter.mpr ⟨List.mem_of_getElem? (i := 427) (by decide +kernel), by decide +kernel⟩
theorem tw_428 : (Jvm.Cond.methodLink "DropQueues$Net" (88 : Nat) ({ cls := "DropQueues$Net", name := "takeFeed", desc := "(III)Z" } : Jvm.MethodName)) ∈ jAll := List.mem_filter.mpr ⟨List.mem_of_getElem? (i := 428) (by decide +kernel), by decide +kernel⟩
theorem tw_430 : (Jvm.Cond.instanceMethod ({ cls := "DropQueues$Net", name := "takeFeed", desc := "(III)Z" } : Jvm.MethodName)) ∈ jAll := List.mem_filter.mpr ⟨List.mem_of_getElem? (i := 430) (by decide +kernel), by decide +kernel⟩
theorem tw_431 : (Jvm.Cond.code ({ cls := "DropQueues$Net", name := "takeFeed", desc := "(III)Z" } : Jvm.MethodName) prog_4_method_19_code (4 : Nat) (Option.some Jvm.ClassFile.FieldType.boolean)) ∈ jAll := List.mem_filter.mpr ⟨List.mem_of_getElem? (i := 431) (by decide +kernel), by decide +kernel⟩
theorem tw_432 : (Jvm.Cond.methodLink "DropQueues$Net" (123 : Nat) ({ cls := "DropQueues$Net", name := "hasQueue", desc := "(II)Z" } : Jvm.MethodName)) ∈ jAll := List.mem_filter.mpr ⟨List.mem_of_getElem? (i := 432) (by decide +kernel), by decide +kernel⟩
theorem tw_433 : (Jvm.Cond.instanceMethod ({ cls := "DropQueues$Net", name := "hasQueue", desc := "(II)Z" } : Jvm.MethodName)) ∈ jAll := List.mem_filter.mpr ⟨List.mem_of_getElem? (i := 433) (by decide +kernel), by decide +kernel⟩
theorem tw_434 : (Jvm.Cond.selects "DropQueues$Net" ({ cls := "DropQueues$Net", name := "hasQueue", desc := "(II)Z" } : Jvm.MethodName) ({ cls := "DropQueues$Net", name := "hasQueue", desc := "(II)Z" } : Jvm.MethodName)) ∈ jAll := List.mem_filter.mpr ⟨List.mem_of_getElem? (i := 434) (by decide +kernel), by decide +kernel⟩
theorem tw_435 : (Jvm.Cond.code ({ cls := "DropQueues$Net", name := "hasQueue", desc := "(II)Z" } : Jvm.MethodName) prog_4_method_7_code (3 : Nat) (Option.some Jvm.ClassFile.FieldType.boolean)) ∈ jAll := List.mem_filter.mpr ⟨List.mem_of_getElem? (i := 435) (by decide +kernel), by decide +kernel⟩
theorem tw_436 : (Jvm.Cond.methodLink "DropQueues$Net" (65 : Nat) ({ cls := "DropQueues$Net", name := "hasGoal", desc := "(I)Z" } : Jvm.MethodName)) ∈ jAll := List.mem_filter.mpr ⟨List.mem_of_getElem? (i := 436) (by decide +kernel), by decide +kernel⟩
theorem tw_437 : (Jvm.Cond.instanceMethod ({ cls := "DropQueues$Net", name := "hasGoal", desc := "(I)Z" } : Jvm.MethodName)) ∈ jAll := List.mem_filter.mpr ⟨List.mem_of_getElem? (i := 437) (by decide +kernel), by decide +kernel⟩
theorem tw_438 : (Jvm.Cond.selects "DropQueues$Net" ({ cls := "DropQueues$Net", name := "hasGoal", desc := "(I)Z" } : Jvm.MethodName) ({ cls := "DropQueues$Net", name := "hasGoal", desc := "(I)Z" } : Jvm.MethodName)) ∈ jAll := List.mem_filter.mpr ⟨List.mem_of_getElem? (i := 438) (by decide +kernel), by decide +kernel⟩
theorem tw_439 : (Jvm.Cond.code ({ cls := "DropQueues$Net", name := "hasGoal", desc := "(I)Z" } : Jvm.MethodName) prog_4_method_5_code (2 : Nat) (Option.some Jvm.ClassFile.FieldType.boolean)) ∈ jAll := List.mem_filter.mpr ⟨List.mem_of_getElem? (i := 439) (by decide +kernel), by decide +kernel⟩
theorem tw_441 : (Jvm.Cond.static ({ cls := "DropQueues", name := "spot", desc := "(II)I" } : Jvm.MethodName)) ∈ jAll := List.mem_filter.mpr ⟨List.mem_of_getElem? (i := 441) (by decide +kernel), by decide +kernel⟩
theorem tw_442 : (Jvm.Cond.code ({ cls := "DropQueues", name := "spot", desc := "(II)I" } : Jvm.MethodName) prog_1_method_31_code (2 : Nat) (Option.some Jvm.ClassFile.FieldType.int)) ∈ jAll := List.mem_filter.mpr ⟨List.mem_of_getElem? (i := 442) (by decide +kernel), by decide +kernel⟩
theorem tw_443 : (Jvm.Cond.methodLink "DropQueues$Net" (91 : Nat) ({ cls := "DropQueues$Net", name := "takeB", desc := "(I)Z" } : Jvm.MethodName)) ∈ jAll := List.mem_filter.mpr ⟨List.mem_of_getElem? (i := 443) (by decide +kernel), by decide +kernel⟩
theorem tw_445 : (Jvm.Cond.instanceMethod ({ cls := "DropQueues$Net", name := "takeB", desc := "(I)Z" } : Jvm.MethodName)) ∈ jAll := List.mem_filter.mpr ⟨List.mem_of_getElem? (i := 445) (by decide +kernel), by decide +kernel⟩
theorem tw_446 : (Jvm.Cond.code ({ cls := "DropQueues$Net", name := "takeB", desc := "(I)Z" } : Jvm.MethodName) prog_4_method_20_code (2 : Nat) (Option.some Jvm.ClassFile.FieldType.boolean)) ∈ jAll := List.mem_filter.mpr ⟨List.mem_of_getElem? (i := 446) (by decide +kernel), by decide +kernel⟩
theorem tw_447 : (Jvm.Cond.methodLink "DropQueues$Net" (94 : Nat) ({ cls := "DropQueues$Net", name := "takeLaw", desc := "(I)Z" } : Jvm.MethodName)) ∈ jAll := List.mem_filter.mpr ⟨List.mem_of_getElem? (i := 447) (by decide +kernel), by decide +kernel⟩
theorem tw_449 : (Jvm.Cond.instanceMethod ({ cls := "DropQueues$Net", name := "takeLaw", desc := "(I)Z" } : Jvm.MethodName)) ∈ jAll := List.mem_filter.mpr ⟨List.mem_of_getElem? (i := 449) (by decide +kernel), by decide +kernel⟩
theorem tw_450 : (Jvm.Cond.code ({ cls := "DropQueues$Net", name := "takeLaw", desc := "(I)Z" } : Jvm.MethodName) prog_4_method_21_code (2 : Nat) (Option.some Jvm.ClassFile.FieldType.boolean)) ∈ jAll := List.mem_filter.mpr ⟨List.mem_of_getElem? (i := 450) (by decide +kernel), by decide +kernel⟩
theorem tw_451 : (Jvm.Cond.methodLink "DropQueues" (228 : Nat) ({ cls := "DropQueues$Net", name := "copyFrom", desc := "(LDropQueues$Net;)V" } : Jvm.MethodName)) ∈ jAll := List.mem_filter.mpr ⟨List.mem_of_getElem? (i := 451) (by decide +kernel), by decide +kernel⟩
theorem tw_452 : (Jvm.Cond.instanceMethod ({ cls := "DropQueues$Net", name := "copyFrom", desc := "(LDropQueues$Net;)V" } : Jvm.MethodName)) ∈ jAll := List.mem_filter.mpr ⟨List.mem_of_getElem? (i := 452) (by decide +kernel), by decide +kernel⟩
theorem tw_453 : (Jvm.Cond.selects "DropQueues$Net" ({ cls := "DropQueues$Net", name := "copyFrom", desc := "(LDropQueues$Net;)V" } : Jvm.MethodName) ({ cls := "DropQueues$Net", name := "copyFrom", desc := "(LDropQueues$Net;)V" } : Jvm.MethodName)) ∈ jAll := List.mem_filter.mpr ⟨List.mem_of_getElem? (i := 453) (by decide +kernel), by decide +kernel⟩
theorem tw_454 : (Jvm.Cond.code ({ cls := "DropQueues$Net", name := "copyFrom", desc := "(LDropQueues$Net;)V" } : Jvm.MethodName) prog_4_method_3_code (2 : Nat) (Option.none : Option Jvm.ClassFile.FieldType)) ∈ jAll := List.mem_filter.mpr ⟨List.mem_of_getElem? (i := 454) (by decide +kernel), by decide +kernel⟩
theorem tw_455 : (Jvm.Cond.methodLink "DropQueues$Net" (55 : Nat) ({ cls := "java/lang/System", name := "arraycopy", desc := "(Ljava/lang/Object;ILjava/lang/Object;II)V" } : Jvm.MethodName)) ∈ jAll := List.mem_filter.mpr ⟨List.mem_of_getElem? (i := 455) (by decide +kernel), by decide +kernel⟩
theorem tw_456 : (Jvm.Cond.static ({ cls := "java/lang/System", name := "arraycopy", desc := "(Ljava/lang/Object;ILjava/lang/Object;II)V" } : Jvm.MethodName)) ∈ jAll := List.mem_filter.mpr ⟨List.mem_of_getElem? (i := 456) (by decide +kernel), by decide +kernel⟩
theorem tw_457 : (Jvm.Cond.native ({ cls := "java/lang/System", name := "arraycopy", desc := "(Ljava/lang/Object;ILjava/lang/Object;II)V" } : Jvm.MethodName)) ∈ jAll := List.mem_filter.mpr ⟨List.mem_of_getElem? (i := 457) (by decide +kernel), by decide +kernel⟩
theorem tw_458 : (Jvm.Cond.methodLink "DropQueues" (253 : Nat) ({ cls := "DropQueues$Net", name := "findHops", desc := "()V" } : Jvm.MethodName)) ∈ jAll := List.mem_filter.mpr ⟨List.mem_of_getElem? (i := 458) (by decide +kernel), by decide +kernel⟩
theorem tw_459 : (Jvm.Cond.instanceMethod ({ cls := "DropQueues$Net", name := "findHops", desc := "()V" } : Jvm.MethodName)) ∈ jAll := List.mem_filter.mpr ⟨List.mem_of_getElem? (i := 459) (by decide +kernel), by decide +kernel⟩
theorem tw_460 : (Jvm.Cond.selects "DropQueues$Net" ({ cls := "DropQueues$Net", name := "findHops", desc := "()V" } : Jvm.MethodName) ({ cls := "DropQueues$Net", name := "findHops", desc := "()V" } : Jvm.MethodName)) ∈ jAll := List.mem_filter.mpr ⟨List.mem_of_getElem? (i := 460) (by decide +kernel), by decide +kernel⟩
theorem tw_461 : (Jvm.Cond.code ({ cls := "DropQueues$Net", name := "findHops", desc := "()V" } : Jvm.MethodName) prog_4_method_13_code (3 : Nat) (Option.none : Option Jvm.ClassFile.FieldType)) ∈ jAll := List.mem_filter.mpr ⟨List.mem_of_getElem? (i := 461) (by decide +kernel), by decide +kernel⟩
theorem tw_462 : (Jvm.Cond.methodLink "DropQueues$Net" (101 : Nat) ({ cls := "DropQueues$Net", name := "shortenWays", desc := "(I)V" } : Jvm.MethodName)) ∈ jAll := List.mem_filter.mpr ⟨List.mem_of_getElem? (i := 462) (by decide +kernel), by decide +kernel⟩
theorem tw_464 : (Jvm.Cond.instanceMethod ({ cls := "DropQueues$Net", name := "shortenWays", desc := "(I)V" } : Jvm.MethodName)) ∈ jAll := List.mem_filter.mpr ⟨List.mem_of_getElem? (i := 464) (by decide +kernel), by decide +kernel⟩
theorem tw_465 : (Jvm.Cond.code ({ cls := "DropQueues$Net", name := "shortenWays", desc := "(I)V" } : Jvm.MethodName) prog_4_method_14_code (4 : Nat) (Option.none : Option Jvm.ClassFile.FieldType)) ∈ jAll := List.mem_filter.mpr ⟨List.mem_of_getElem? (i := 465) (by decide +kernel), by decide +kernel⟩
theorem tw_466 : (Jvm.Cond.methodLink "DropQueues$Net" (105 : Nat) ({ cls := "java/lang/Math", name := "min", desc := "(II)I" } : Jvm.MethodName)) ∈ jAll := List.mem_filter.mpr ⟨List.mem_of_getElem? (i := 466) (by decide +kernel), by decide +kernel⟩
theorem tw_467 : (Jvm.Cond.static ({ cls := "java/lang/Math", name := "min", desc := "(II)I" } : Jvm.MethodName)) ∈ jAll := List.mem_filter.mpr ⟨List.mem_of_getElem? (i := 467) (by decide +kernel), by decide +kernel⟩
theorem tw_468 : (Jvm.Cond.code ({ cls := "java/lang/Math", name := "min", desc := "(II)I" } : Jvm.MethodName) prog_12_method_69_code (2 : Nat) (Option.some Jvm.ClassFile.FieldType.int)) ∈ jAll := List.mem_filter.mpr ⟨List.mem_of_getElem? (i := 468) (by decide +kernel), by decide +kernel⟩
theorem tw_469 : (Jvm.Cond.methodLink "DropQueues" (256 : Nat) ({ cls := "DropQueues$Queues", name := "clear", desc := "()V" } : Jvm.MethodName)) ∈ jAll := List.mem_filter.mpr ⟨List.mem_of_getElem? (i := 469) (by decide +kernel), by decide +kernel⟩
theorem tw_470 : (Jvm.Cond.instanceMethod ({ cls := "DropQueues$Queues", name := "clear", desc := "()V" } : Jvm.MethodName)) ∈ jAll := List.mem_filter.mpr ⟨List.mem_of_getElem? (i := 470) (by decide +kernel), by decide +kernel⟩
theorem tw_471 : (Jvm.Cond.selects "DropQueues$Queues" ({ cls := "DropQueues$Queues", name := "clear", desc := "()V" } : Jvm.MethodName) ({ cls := "DropQueues$Queues", name := "clear", desc := "()V" } : Jvm.MethodName)) ∈ jAll := List.mem_filter.mpr ⟨List.mem_of_getElem? (i := 471) (by decide +kernel), by decide +kernel⟩
theorem tw_472 : (Jvm.Cond.code ({ cls := "DropQueues$Queues", name := "clear", desc := "()V" } : Jvm.MethodName) prog_6_method_2_code (1 : Nat) (Option.none : Option Jvm.ClassFile.FieldType)) ∈ jAll := List.mem_filter.mpr ⟨List.mem_of_getElem? (i := 472) (by decide +kernel), by decide +kernel⟩
theorem tw_473 : (Jvm.Cond.methodLink "DropQueues$Queues" (37 : Nat) ({ cls := "java/util/Arrays", name := "fill", desc := "([II)V" } : Jvm.MethodName)) ∈ jAll := List.mem_filter.mpr ⟨List.mem_of_getElem? (i := 473) (by decide +kernel), by decide +kernel⟩
theorem tw_474 : (Jvm.Cond.methodLink "DropQueues" (259 : Nat) ({ cls := "DropQueues$History", name := "clear", desc := "()V" } : Jvm.MethodName)) ∈ jAll := List.mem_filter.mpr ⟨List.mem_of_getElem? (i := 474) (by decide +kernel), by decide +kernel⟩
theorem tw_475 : (Jvm.Cond.instanceMethod ({ cls := "DropQueues$History", name := "clear", desc := "()V" } : Jvm.MethodName)) ∈ jAll := List.mem_filter.mpr ⟨List.mem_of_getElem? (i := 475) (by decide +kernel), by decide +kernel⟩
theorem tw_476 : (Jvm.Cond.selects "DropQueues$History" ({ cls := "DropQueues$History", name := "clear", desc := "()V" } : Jvm.MethodName) ({ cls := "DropQueues$History", name := "clear", desc := "()V" } : Jvm.MethodName)) ∈ jAll := List.mem_filter.mpr ⟨List.mem_of_getElem? (i := 476) (by decide +kernel), by decide +kernel⟩
theorem tw_477 : (Jvm.Cond.code ({ cls := "DropQueues$History", name := "clear", desc := "()V" } : Jvm.MethodName) prog_2_method_2_code (1 : Nat) (Option.none : Option Jvm.ClassFile.FieldType)) ∈ jAll := List.mem_filter.mpr ⟨List.mem_of_getElem? (i := 477) (by decide +kernel), by decide +kernel⟩
theorem tw_478 : (Jvm.Cond.fieldLink "DropQueues" (12 : Nat) "DropQueues" "text" "LDropQueues$Text;") ∈ jAll := List.mem_filter.mpr ⟨List.mem_of_getElem? (i := 478) (by decide +kernel), by decide +kernel⟩
theorem tw_479 : (Jvm.Cond.fieldLink "DropQueues" (19 : Nat) "DropQueues" "now" "LDropQueues$World;") ∈ jAll := List.mem_filter.mpr ⟨List.mem_of_getElem? (i := 479) (by decide +kernel), by decide +kernel⟩
theorem tw_480 : (Jvm.Cond.fieldLink "DropQueues" (23 : Nat) "DropQueues" "trial" "LDropQueues$World;") ∈ jAll := List.mem_filter.mpr ⟨List.mem_of_getElem? (i := 480) (by decide +kernel), by decide +kernel⟩
theorem tw_481 : (Jvm.Cond.fieldLink "DropQueues" (29 : Nat) "DropQueues" "history" "LDropQueues$History;") ∈ jAll := List.mem_filter.mpr ⟨List.mem_of_getElem? (i := 481) (by decide +kernel), by decide +kernel⟩
theorem tw_482 : (Jvm.Cond.fieldLink "DropQueues" (36 : Nat) "DropQueues" "picker" "LDropQueues$Picker;") ∈ jAll := List.mem_filter.mpr ⟨List.mem_of_getElem? (i := 482) (by decide +kernel), by decide +kernel⟩
theorem tw_483 : (Jvm.Cond.fieldLink "DropQueues" (43 : Nat) "DropQueues" "mover" "LDropQueues$Mover;") ∈ jAll := List.mem_filter.mpr ⟨List.mem_of_getElem? (i := 483) (by decide +kernel), by decide +kernel⟩
theorem tw_497 : (Jvm.Cond.arrayClass Jvm.ClassFile.FieldType.byte) ∈ jAll := List.mem_filter.mpr ⟨List.mem_of_getElem? (i := 497) (by decide +kernel), by decide +kernel⟩
theorem tw_498 : (Jvm.Cond.methodLink "DropQueuesLaw" (13 : Nat) ({ cls := "DropQueues", name := "write", desc := "(I)I" } : Jvm.MethodName)) ∈ jAll := List.mem_filter.mpr ⟨List.mem_of_getElem? (i := 498) (by decide +kernel), by decide +kernel⟩
theorem tw_499 : (Jvm.Cond.instanceMethod ({ cls := "DropQueues", name := "write", desc := "(I)I" } : Jvm.MethodName)) ∈ jAll := List.mem_filter.mpr ⟨List.mem_of_getElem? (i := 499) (by decide +kernel), by decide +kernel⟩
theorem tw_500 : (Jvm.Cond.selects "DropQueues" ({ cls := "DropQueues", name := "write", desc := "(I)I" } : Jvm.MethodName) ({ cls := "DropQueues", name := "write", desc := "(I)I" } : Jvm.MethodName)) ∈ jAll := List.mem_filter.mpr ⟨List.mem_of_getElem? (i := 500) (by decide +kernel), by decide +kernel⟩
theorem tw_501 : (Jvm.Cond.code ({ cls := "DropQueues", name := "write", desc := "(I)I" } : Jvm.MethodName) prog_1_method_2_code (2 : Nat) (Option.some Jvm.ClassFile.FieldType.int)) ∈ jAll := List.mem_filter.mpr ⟨List.mem_of_getElem? (i := 501) (by decide +kernel), by decide +kernel⟩
theorem tw_502 : (Jvm.Cond.methodLink "DropQueues" (70 : Nat) ({ cls := "DropQueues", name := "within", desc := "(III)Z" } : Jvm.MethodName)) ∈ jAll := List.mem_filter.mpr ⟨List.mem_of_getElem? (i := 502) (by decide +kernel), by decide +kernel⟩
theorem tw_503 : (Jvm.Cond.methodLink "DropQueuesLaw" (18 : Nat) ({ cls := "DropQueues", name := "wipe", desc := "()I" } : Jvm.MethodName)) ∈ jAll := List.mem_filter.mpr ⟨List.mem_of_getElem? (i := 503) (by decide +kernel), by decide +kernel⟩
theorem tw_504 : (Jvm.Cond.instanceMethod ({ cls := "DropQueues", name := "wipe", desc := "()I" } : Jvm.MethodName)) ∈ jAll := List.mem_filter.mpr ⟨List.mem_of_getElem? (i := 504) (by decide +kernel), by decide +kernel⟩
theorem tw_505 : (Jvm.Cond.selects "DropQueues" ({ cls := "DropQueues", name := "wipe", desc := "()I" } : Jvm.MethodName) ({ cls := "DropQueues", name := "wipe", desc := "()I" } : Jvm.MethodName)) ∈ jAll := List.mem_filter.mpr ⟨List.mem_of_getElem? (i := 505) (by decide +kernel), by decide +kernel⟩
theorem tw_506 : (Jvm.Cond.code ({ cls := "DropQueues", name := "wipe", desc := "()I" } : Jvm.MethodName) prog_1_method_3_code (2 : Nat) (Option.some Jvm.ClassFile.FieldType.int)) ∈ jAll := List.mem_filter.mpr ⟨List.mem_of_getElem? (i := 506) (by decide +kernel), by decide +kernel⟩
theorem tw_507 : (Jvm.Cond.methodLink "DropQueuesLaw" (23 : Nat) ({ cls := "DropQueues", name := "fault", desc := "()I" } : Jvm.MethodName)) ∈ jAll := List.mem_filter.mpr ⟨List.mem_of_getElem? (i := 507) (by decide +kernel), by decide +kernel⟩
theorem tw_508 : (Jvm.Cond.instanceMethod ({ cls := "DropQueues", name := "fault", desc := "()I" } : Jvm.MethodName)) ∈ jAll := List.mem_filter.mpr ⟨List.mem_of_getElem? (i := 508) (by decide +kernel), by decide +kernel⟩
theorem tw_509 : (Jvm.Cond.selects "DropQueues" ({ cls := "DropQueues", name := "fault", desc := "()I" } : Jvm.MethodName) ({ cls := "DropQueues", name := "fault", desc := "()I" } : Jvm.MethodName)) ∈ jAll := List.mem_filter.mpr ⟨List.mem_of_getElem? (i := 509) (by decide +kernel), by decide +kernel⟩
theorem tw_510 : (Jvm.Cond.code ({ cls := "DropQueues", name := "fault", desc := "()I" } : Jvm.MethodName) prog_1_method_4_code (1 : Nat) (Option.some Jvm.ClassFile.FieldType.int)) ∈ jAll := List.mem_filter.mpr ⟨List.mem_of_getElem? (i := 510) (by decide +kernel), by decide +kernel⟩
theorem tw_511 : (Jvm.Cond.methodLink "DropQueuesLaw" (27 : Nat) ({ cls := "DropQueues", name := "lay", desc := "()I" } : Jvm.MethodName)) ∈ jAll := List.mem_filter.mpr ⟨List.mem_of_getElem? (i := 511) (by decide +kernel), by decide +kernel⟩
theorem tw_512 : (Jvm.Cond.instanceMethod ({ cls := "DropQueues", name := "lay", desc := "()I" } : Jvm.MethodName)) ∈ jAll := List.mem_filter.mpr ⟨List.mem_of_getElem? (i := 512) (by decide +kernel), by decide +kernel⟩
theorem tw_513 : (Jvm.Cond.selects "DropQueues" ({ cls := "DropQueues", name := "lay", desc := "()I" } : Jvm.MethodName) ({ cls := "DropQueues", name := "lay", desc := "()I" } : Jvm.MethodName)) ∈ jAll := List.mem_filter.mpr ⟨List.mem_of_getElem? (i := 513) (by decide +kernel), by decide +kernel⟩
theorem tw_514 : (Jvm.Cond.code ({ cls := "DropQueues", name := "lay", desc := "()I" } : Jvm.MethodName) prog_1_method_5_code (1 : Nat) (Option.some Jvm.ClassFile.FieldType.int)) ∈ jAll := List.mem_filter.mpr ⟨List.mem_of_getElem? (i := 514) (by decide +kernel), by decide +kernel⟩
theorem tw_515 : (Jvm.Cond.methodLink "DropQueuesLaw" (31 : Nat) ({ cls := "DropQueues", name := "feed", desc := "(III)I" } : Jvm.MethodName)) ∈ jAll := List.mem_filter.mpr ⟨List.mem_of_getElem? (i := 515) (by decide +kernel), by decide +kernel⟩
theorem tw_516 : (Jvm.Cond.instanceMethod ({ cls := "DropQueues", name := "feed", desc := "(III)I" } : Jvm.MethodName)) ∈ jAll := List.mem_filter.mpr ⟨List.mem_of_getElem? (i := 516) (by decide +kernel), by decide +kernel⟩
theorem tw_517 : (Jvm.Cond.selects "DropQueues" ({ cls := "DropQueues", name := "feed", desc := "(III)I" } : Jvm.MethodName) ({ cls := "DropQueues", name := "feed", desc := "(III)I" } : Jvm.MethodName)) ∈ jAll := List.mem_filter.mpr ⟨List.mem_of_getElem? (i := 517) (by decide +kernel), by decide +kernel⟩
theorem tw_518 : (Jvm.Cond.code ({ cls := "DropQueues", name := "feed", desc := "(III)I" } : Jvm.MethodName) prog_1_method_6_code (5 : Nat) (Option.some Jvm.ClassFile.FieldType.int)) ∈ jAll := List.mem_filter.mpr ⟨List.mem_of_getElem? (i := 518) (by decide +kernel), by decide +kernel⟩
theorem tw_519 : (Jvm.Cond.methodLink "DropQueues" (87 : Nat) ({ cls := "DropQueues$Net", name := "hasQueue", desc := "(II)Z" } : Jvm.MethodName)) ∈ jAll := List.mem_filter.mpr ⟨List.mem_of_getElem? (i := 519) (by decide +kernel), by decide +kernel⟩
theorem tw_520 : (Jvm.Cond.methodLink "DropQueues" (95 : Nat) ({ cls := "DropQueues", name := "spot", desc := "(II)I" } : Jvm.MethodName)) ∈ jAll := List.mem_filter.mpr ⟨List.mem_of_getElem? (i := 520) (by decide +kernel), by decide +kernel⟩
theorem tw_521 : (Jvm.Cond.methodLink "DropQueues" (99 : Nat) ({ cls := "DropQueues$History", name := "keep", desc := "(LDropQueues$World;)V" } : Jvm.MethodName)) ∈ jAll := List.mem_filter.mpr ⟨List.mem_of_getElem? (i := 521) (by decide +kernel), by decide +kernel⟩
theorem tw_522 : (Jvm.Cond.instanceMethod ({ cls := "DropQueues$History", name := "keep", desc := "(LDropQueues$World;)V" } : Jvm.MethodName)) ∈ jAll := List.mem_filter.mpr ⟨List.mem_of_getElem? (i := 522) (by decide +kernel), by decide +kernel⟩
theorem tw_523 : (Jvm.Cond.selects "DropQueues$History" ({ cls := "DropQueues$History", name := "keep", desc := "(LDropQueues$World;)V" } : Jvm.MethodName) ({ cls := "DropQueues$History", name := "keep", desc := "(LDropQueues$World;)V" } : Jvm.MethodName)) ∈ jAll := List.mem_filter.mpr ⟨List.mem_of_getElem? (i := 523) (by decide +kernel), by decide +kernel⟩
theorem tw_524 : (Jvm.Cond.code ({ cls := "DropQueues$History", name := "keep", desc := "(LDropQueues$World;)V" } : Jvm.MethodName) prog_2_method_3_code (2 : Nat) (Option.none : Option Jvm.ClassFile.FieldType)) ∈ jAll := List.mem_filter.mpr ⟨List.mem_of_getElem? (i := 524) (by decide +kernel), by decide +kernel⟩
theorem tw_525 : (Jvm.Cond.methodLink "DropQueues$History" (25 : Nat) ({ cls := "DropQueues$World", name := "copyFrom", desc := "(LDropQueues$World;)V" } : Jvm.MethodName)) ∈ jAll := List.mem_filter.mpr ⟨List.mem_of_getElem? (i := 525) (by decide +kernel), by decide +kernel⟩
theorem tw_526 : (Jvm.Cond.instanceMethod ({ cls := "DropQueues$World", name := "copyFrom", desc := "(LDropQueues$World;)V" } : Jvm.MethodName)) ∈ jAll := List.mem_filter.mpr ⟨List.mem_of_getElem? (i := 526) (by decide +kernel), by decide +kernel⟩
theorem tw_527 : (Jvm.Cond.selects "DropQueues$World" ({ cls := "DropQueues$World", name := "copyFrom", desc := "(LDropQueues$World;)V" } : Jvm.MethodName) ({ cls := "DropQueues$World", name := "copyFrom", desc := "(LDropQueues$World;)V" } : Jvm.MethodName)) ∈ jAll := List.mem_filter.mpr ⟨List.mem_of_getElem? (i := 527) (by decide +kernel), by decide +kernel⟩
theorem tw_528 : (Jvm.Cond.code ({ cls := "DropQueues$World", name := "copyFrom", desc := "(LDropQueues$World;)V" } : Jvm.MethodName) prog_8_method_2_code (2 : Nat) (Option.none : Option Jvm.ClassFile.FieldType)) ∈ jAll := List.mem_filter.mpr ⟨List.mem_of_getElem? (i := 528) (by decide +kernel), by decide +kernel⟩
theorem tw_529 : (Jvm.Cond.methodLink "DropQueues$World" (23 : Nat) ({ cls := "DropQueues$Net", name := "copyFrom", desc := "(LDropQueues$Net;)V" } : Jvm.MethodName)) ∈ jAll := List.mem_filter.mpr ⟨List.mem_of_getElem? (i := 529) (by decide +kernel), by decide +kernel⟩
theorem tw_530 : (Jvm.Cond.methodLink "DropQueues$World" (27 : Nat) ({ cls := "DropQueues$Queues", name := "copyFrom", desc := "(LDropQueues$Queues;)V" } : Jvm.MethodName)) ∈ jAll := List.mem_filter.mpr ⟨List.mem_of_getElem? (i := 530) (by decide +kernel), by decide +kernel⟩
theorem tw_531 : (Jvm.Cond.instanceMethod ({ cls := "DropQueues$Queues", name := "copyFrom", desc := "(LDropQueues$Queues;)V" } : Jvm.MethodName)) ∈ jAll := List.mem_filter.mpr ⟨List.mem_of_getElem? (i := 531) (by decide +kernel), by decide +kernel⟩
theorem tw_532 : (Jvm.Cond.selects "DropQueues$Queues" ({ cls := "DropQueues$Queues", name := "copyFrom", desc := "(LDropQueues$Queues;)V" } : Jvm.MethodName) ({ cls := "DropQueues$Queues", name := "copyFrom", desc := "(LDropQueues$Queues;)V" } : Jvm.MethodName)) ∈ jAll := List.mem_filter.mpr ⟨List.mem_of_getElem? (i := 532) (by decide +kernel), by decide +kernel⟩
theorem tw_533 : (Jvm.Cond.code ({ cls := "DropQueues$Queues", name := "copyFrom", desc := "(LDropQueues$Queues;)V" } : Jvm.MethodName) prog_6_method_3_code (2 : Nat) (Option.none : Option Jvm.ClassFile.FieldType)) ∈ jAll := List.mem_filter.mpr ⟨List.mem_of_getElem? (i := 533) (by decide +kernel), by decide +kernel⟩
theorem tw_534 : (Jvm.Cond.methodLink "DropQueues$Queues" (43 : Nat) ({ cls := "java/lang/System", name := "arraycopy", desc := "(Ljava/lang/Object;ILjava/lang/Object;II)V" } : Jvm.MethodName)) ∈ jAll := List.mem_filter.mpr ⟨List.mem_of_getElem? (i := 534) (by decide +kernel), by decide +kernel⟩
theorem tw_535 : (Jvm.Cond.methodLink "DropQueues$History" (29 : Nat) ({ cls := "java/lang/Math", name := "min", desc := "(II)I" } : Jvm.MethodName)) ∈ jAll := List.mem_filter.mpr ⟨List.mem_of_getElem? (i := 535) (by decide +kernel), by decide +kernel⟩
theorem tw_536 : (Jvm.Cond.methodLink "DropQueuesLaw" (36 : Nat) ({ cls := "DropQueues", name := "room", desc := "(II)I" } : Jvm.MethodName)) ∈ jAll := List.mem_filter.mpr ⟨List.mem_of_getElem? (i := 536) (by decide +kernel), by decide +kernel⟩
theorem tw_537 : (Jvm.Cond.instanceMethod ({ cls := "DropQueues", name := "room", desc := "(II)I" } : Jvm.MethodName)) ∈ jAll := List.mem_filter.mpr ⟨List.mem_of_getElem? (i := 537) (by decide +kernel), by decide +kernel⟩
theorem tw_538 : (Jvm.Cond.selects "DropQueues" ({ cls := "DropQueues", name := "room", desc := "(II)I" } : Jvm.MethodName) ({ cls := "DropQueues", name := "room", desc := "(II)I" } : Jvm.MethodName)) ∈ jAll := List.mem_filter.mpr ⟨List.mem_of_getElem? (i := 538) (by decide +kernel), by decide +kernel⟩
theorem tw_539 : (Jvm.Cond.code ({ cls := "DropQueues", name := "room", desc := "(II)I" } : Jvm.MethodName) prog_1_method_7_code (4 : Nat) (Option.some Jvm.ClassFile.FieldType.int)) ∈ jAll := List.mem_filter.mpr ⟨List.mem_of_getElem? (i := 539) (by decide +kernel), by decide +kernel⟩
theorem tw_540 : (Jvm.Cond.methodLink "DropQueues" (103 : Nat) ({ cls := "DropQueues$Net", name := "hasLink", desc := "(I)Z" } : Jvm.MethodName)) ∈ jAll := List.mem_filter.mpr ⟨List.mem_of_getElem? (i := 540) (by decide +kernel), by decide +kernel⟩
theorem tw_541 : (Jvm.Cond.methodLink "DropQueuesLaw" (41 : Nat) ({ cls := "DropQueues", name := "tell", desc := "(II)I" } : Jvm.MethodName)) ∈ jAll := List.mem_filter.mpr ⟨List.mem_of_getElem? (i := 541) (by decide +kernel), by decide +kernel⟩
theorem tw_542 : (Jvm.Cond.instanceMethod ({ cls := "DropQueues", name := "tell", desc := "(II)I" } : Jvm.MethodName)) ∈ jAll := List.mem_filter.mpr ⟨List.mem_of_getElem? (i := 542) (by decide +kernel), by decide +kernel⟩
theorem tw_543 : (Jvm.Cond.selects "DropQueues" ({ cls := "DropQueues", name := "tell", desc := "(II)I" } : Jvm.MethodName) ({ cls := "DropQueues", name := "tell", desc := "(II)I" } : Jvm.MethodName)) ∈ jAll := List.mem_filter.mpr ⟨List.mem_of_getElem? (i := 543) (by decide +kernel), by decide +kernel⟩
theorem tw_544 : (Jvm.Cond.code ({ cls := "DropQueues", name := "tell", desc := "(II)I" } : Jvm.MethodName) prog_1_method_8_code (3 : Nat) (Option.some Jvm.ClassFile.FieldType.int)) ∈ jAll := List.mem_filter.mpr ⟨List.mem_of_getElem? (i := 544) (by decide +kernel), by decide +kernel⟩
theorem tw_545 : (Jvm.Cond.methodLink "DropQueues" (110 : Nat) ({ cls := "DropQueues", name := "tellLaw", desc := "(I)I" } : Jvm.MethodName)) ∈ jAll := List.mem_filter.mpr ⟨List.mem_of_getElem? (i := 545) (by decide +kernel), by decide +kernel⟩
theorem tw_547 : (Jvm.Cond.instanceMethod ({ cls := "DropQueues", name := "tellLaw", desc := "(I)I" } : Jvm.MethodName)) ∈ jAll := List.mem_filter.mpr ⟨List.mem_of_getElem? (i := 547) (by decide +kernel), by decide +kernel⟩
theorem tw_548 : (Jvm.Cond.code ({ cls := "DropQueues", name := "tellLaw", desc := "(I)I" } : Jvm.MethodName) prog_1_method_24_code (3 : Nat) (Option.some Jvm.ClassFile.FieldType.int)) ∈ jAll := List.mem_filter.mpr ⟨List.mem_of_getElem? (i := 548) (by decide +kernel), by decide +kernel⟩
theorem tw_549 : (Jvm.Cond.methodLink "DropQueues" (114 : Nat) ({ cls := "DropQueues", name := "tellB", desc := "(I)I" } : Jvm.MethodName)) ∈ jAll := List.mem_filter.mpr ⟨List.mem_of_getElem? (i := 549) (by decide +kernel), by decide +kernel⟩
theorem tw_551 : (Jvm.Cond.instanceMethod ({ cls := "DropQueues", name := "tellB", desc := "(I)I" } : Jvm.MethodName)) ∈ jAll := List.mem_filter.mpr ⟨List.mem_of_getElem? (i := 551) (by decide +kernel), by decide +kernel⟩
theorem tw_552 : (Jvm.Cond.code ({ cls := "DropQueues", name := "tellB", desc := "(I)I" } : Jvm.MethodName) prog_1_method_25_code (3 : Nat) (Option.some Jvm.ClassFile.FieldType.int)) ∈ jAll := List.mem_filter.mpr ⟨List.mem_of_getElem? (i := 552) (by decide +kernel), by decide +kernel⟩
theorem tw_553 : (Jvm.Cond.methodLink "DropQueuesLaw" (45 : Nat) ({ cls := "DropQueues", name := "clash", desc := "(III)I" } : Jvm.MethodName)) ∈ jAll := List.mem_filter.mpr ⟨List.mem_of_getElem? (i := 553) (by decide +kernel), by decide +kernel⟩
theorem tw_554 : (Jvm.Cond.instanceMethod ({ cls := "DropQueues", name := "clash", desc := "(III)I" } : Jvm.MethodName)) ∈ jAll := List.mem_filter.mpr ⟨List.mem_of_getElem? (i := 554) (by decide +kernel), by decide +kernel⟩
theorem tw_555 : (Jvm.Cond.selects "DropQueues" ({ cls := "DropQueues", name := "clash", desc := "(III)I" } : Jvm.MethodName) ({ cls := "DropQueues", name := "clash", desc := "(III)I" } : Jvm.MethodName)) ∈ jAll := List.mem_filter.mpr ⟨List.mem_of_getElem? (i := 555) (by decide +kernel), by decide +kernel⟩
theorem tw_556 : (Jvm.Cond.code ({ cls := "DropQueues", name := "clash", desc := "(III)I" } : Jvm.MethodName) prog_1_method_9_code (4 : Nat) (Option.some Jvm.ClassFile.FieldType.int)) ∈ jAll := List.mem_filter.mpr ⟨List.mem_of_getElem? (i := 556) (by decide +kernel), by decide +kernel⟩
theorem tw_557 : (Jvm.Cond.methodLink "DropQueues" (117 : Nat) ({ cls := "DropQueues$Net", name := "doClash", desc := "(II)Z" } : Jvm.MethodName)) ∈ jAll := List.mem_filter.mpr ⟨List.mem_of_getElem? (i := 557) (by decide +kernel), by decide +kernel⟩
theorem tw_558 : (Jvm.Cond.methodLink "DropQueues" (120 : Nat) ({ cls := "DropQueues$Net", name := "turnClash", desc := "(II)V" } : Jvm.MethodName)) ∈ jAll := List.mem_filter.mpr ⟨List.mem_of_getElem? (i := 558) (by decide +kernel), by decide +kernel⟩
theorem tw_559 : (Jvm.Cond.methodLink "DropQueues" (124 : Nat) ({ cls := "DropQueues$Net", name := "pairs", desc := "()I" } : Jvm.MethodName)) ∈ jAll := List.mem_filter.mpr ⟨List.mem_of_getElem? (i := 559) (by decide +kernel), by decide +kernel⟩
theorem tw_560 : (Jvm.Cond.instanceMethod ({ cls := "DropQueues$Net", name := "pairs", desc := "()I" } : Jvm.MethodName)) ∈ jAll := List.mem_filter.mpr ⟨List.mem_of_getElem? (i := 560) (by decide +kernel), by decide +kernel⟩
theorem tw_561 : (Jvm.Cond.selects "DropQueues$Net" ({ cls := "DropQueues$Net", name := "pairs", desc := "()I" } : Jvm.MethodName) ({ cls := "DropQueues$Net", name := "pairs", desc := "()I" } : Jvm.MethodName)) ∈ jAll := List.mem_filter.mpr ⟨List.mem_of_getElem? (i := 561) (by decide +kernel), by decide +kernel⟩
theorem tw_562 : (Jvm.Cond.code ({ cls := "DropQueues$Net", name := "pairs", desc := "()I" } : Jvm.MethodName) prog_4_method_10_code (3 : Nat) (Option.some Jvm.ClassFile.FieldType.int)) ∈ jAll := List.mem_filter.mpr ⟨List.mem_of_getElem? (i := 562) (by decide +kernel), by decide +kernel⟩
theorem tw_563 : (Jvm.Cond.methodLink "DropQueues$Net" (68 : Nat) ({ cls := "java/lang/Integer", name := "bitCount", desc := "(I)I" } : Jvm.MethodName)) ∈ jAll := List.mem_filter.mpr ⟨List.mem_of_getElem? (i := 563) (by decide +kernel), by decide +kernel⟩
theorem tw_564 : (Jvm.Cond.static ({ cls := "java/lang/Integer", name := "bitCount", desc := "(I)I" } : Jvm.MethodName)) ∈ jAll := List.mem_filter.mpr ⟨List.mem_of_getElem? (i := 564) (by decide +kernel), by decide +kernel⟩
theorem tw_565 : (Jvm.Cond.code ({ cls := "java/lang/Integer", name := "bitCount", desc := "(I)I" } : Jvm.MethodName) prog_11_method_49_code (1 : Nat) (Option.some Jvm.ClassFile.FieldType.int)) ∈ jAll := List.mem_filter.mpr ⟨List.mem_of_getElem? (i := 565) (by decide +kernel), by decide +kernel⟩
theorem tw_566 : (Jvm.Cond.constant "java/lang/Integer" (265 : Nat) (1431655765 : Int32)) ∈ jAll := List.mem_filter.mpr ⟨List.mem_of_getElem? (i := 566) (by decide +kernel), by decide +kernel⟩
theorem tw_567 : (Jvm.Cond.constant "java/lang/Integer" (266 : Nat) (858993459 : Int32)) ∈ jAll := List.mem_filter.mpr ⟨List.mem_of_getElem? (i := 567) (by decide +kernel), by decide +kernel⟩
theorem tw_568 : (Jvm.Cond.constant "java/lang/Integer" (267 : Nat) (252645135 : Int32)) ∈ jAll := List.mem_filter.mpr ⟨List.mem_of_getElem? (i := 568) (by decide +kernel), by decide +kernel⟩
theorem tw_569 : (Jvm.Cond.methodLink "DropQueuesLaw" (49 : Nat) ({ cls := "DropQueues", name := "put", desc := "(III)I" } : Jvm.MethodName)) ∈ jAll := List.mem_filter.mpr ⟨List.mem_of_getElem? (i := 569) (by decide +kernel), by decide +kernel⟩
theorem tw_570 : (Jvm.Cond.instanceMethod ({ cls := "DropQueues", name := "put", desc := "(III)I" } : Jvm.MethodName)) ∈ jAll := List.mem_filter.mpr ⟨List.mem_of_getElem? (i := 570) (by decide +kernel), by decide +kernel⟩
theorem tw_571 : (Jvm.Cond.selects "DropQueues" ({ cls := "DropQueues", name := "put", desc := "(III)I" } : Jvm.MethodName) ({ cls := "DropQueues", name := "put", desc := "(III)I" } : Jvm.MethodName)) ∈ jAll := List.mem_filter.mpr ⟨List.mem_of_getElem? (i := 571) (by decide +kernel), by decide +kernel⟩
theorem tw_572 : (Jvm.Cond.code ({ cls := "DropQueues", name := "put", desc := "(III)I" } : Jvm.MethodName) prog_1_method_10_code (5 : Nat) (Option.some Jvm.ClassFile.FieldType.int)) ∈ jAll := List.mem_filter.mpr ⟨List.mem_of_getElem? (i := 572) (by decide +kernel), by decide +kernel⟩
theorem tw_573 : (Jvm.Cond.methodLink "DropQueues" (139 : Nat) ({ cls := "DropQueues$Queues", name := "addMany", desc := "(III)V" } : Jvm.MethodName)) ∈ jAll := List.mem_filter.mpr ⟨List.mem_of_getElem? (i := 573) (by decide +kernel), by decide +kernel⟩
theorem tw_574 : (Jvm.Cond.instanceMethod ({ cls := "DropQueues$Queues", name := "addMany", desc := "(III)V" } : Jvm.MethodName)) ∈ jAll := List.mem_filter.mpr ⟨List.mem_of_getElem? (i := 574) (by decide +kernel), by decide +kernel⟩
theorem tw_575 : (Jvm.Cond.selects "DropQueues$Queues" ({ cls := "DropQueues$Queues", name := "addMany", desc := "(III)V" } : Jvm.MethodName) ({ cls := "DropQueues$Queues", name := "addMany", desc := "(III)V" } : Jvm.MethodName)) ∈ jAll := List.mem_filter.mpr ⟨List.mem_of_getElem? (i := 575) (by decide +kernel), by decide +kernel⟩
theorem tw_576 : (Jvm.Cond.code ({ cls := "DropQueues$Queues", name := "addMany", desc := "(III)V" } : Jvm.MethodName) prog_6_method_5_code (5 : Nat) (Option.none : Option Jvm.ClassFile.FieldType)) ∈ jAll := List.mem_filter.mpr ⟨List.mem_of_getElem? (i := 576) (by decide +kernel), by decide +kernel⟩
theorem tw_577 : (Jvm.Cond.methodLink "DropQueues$Queues" (53 : Nat) ({ cls := "DropQueues$Queues", name := "addOne", desc := "(II)V" } : Jvm.MethodName)) ∈ jAll := List.mem_filter.mpr ⟨List.mem_of_getElem? (i := 577) (by decide +kernel), by decide +kernel⟩
theorem tw_578 : (Jvm.Cond.instanceMethod ({ cls := "DropQueues$Queues", name := "addOne", desc := "(II)V" } : Jvm.MethodName)) ∈ jAll := List.mem_filter.mpr ⟨List.mem_of_getElem? (i := 578) (by decide +kernel), by decide +kernel⟩
theorem tw_579 : (Jvm.Cond.selects "DropQueues$Queues" ({ cls := "DropQueues$Queues", name := "addOne", desc := "(II)V" } : Jvm.MethodName) ({ cls := "DropQueues$Queues", name := "addOne", desc := "(II)V" } : Jvm.MethodName)) ∈ jAll := List.mem_filter.mpr ⟨List.mem_of_getElem? (i := 579) (by decide +kernel), by decide +kernel⟩
theorem tw_580 : (Jvm.Cond.code ({ cls := "DropQueues$Queues", name := "addOne", desc := "(II)V" } : Jvm.MethodName) prog_6_method_4_code (3 : Nat) (Option.none : Option Jvm.ClassFile.FieldType)) ∈ jAll := List.mem_filter.mpr ⟨List.mem_of_getElem? (i := 580) (by decide +kernel), by decide +kernel⟩
theorem tw_581 : (Jvm.Cond.methodLink "DropQueues$Queues" (49 : Nat) ({ cls := "DropQueues$Queues", name := "placeOf", desc := "(II)I" } : Jvm.MethodName)) ∈ jAll := List.mem_filter.mpr ⟨List.mem_of_getElem? (i := 581) (by decide +kernel), by decide +kernel⟩
theorem tw_583 : (Jvm.Cond.instanceMethod ({ cls := "DropQueues$Queues", name := "placeOf", desc := "(II)I" } : Jvm.MethodName)) ∈ jAll := List.mem_filter.mpr ⟨List.mem_of_getElem? (i := 583) (by decide +kernel), by decide +kernel⟩
theorem tw_584 : (Jvm.Cond.code ({ cls := "DropQueues$Queues", name := "placeOf", desc := "(II)I" } : Jvm.MethodName) prog_6_method_13_code (3 : Nat) (Option.some Jvm.ClassFile.FieldType.int)) ∈ jAll := List.mem_filter.mpr ⟨List.mem_of_getElem? (i := 584) (by decide +kernel), by decide +kernel⟩
theorem tw_585 : (Jvm.Cond.methodLink "DropQueuesLaw" (53 : Nat) ({ cls := "DropQueues", name := "slot", desc := "(I)I" } : Jvm.MethodName)) ∈ jAll := List.mem_filter.mpr ⟨List.mem_of_getElem? (i := 585) (by decide +kernel), by decide +kernel⟩
theorem tw_586 : (Jvm.Cond.instanceMethod ({ cls := "DropQueues", name := "slot", desc := "(I)I" } : Jvm.MethodName)) ∈ jAll := List.mem_filter.mpr ⟨List.mem_of_getElem? (i := 586) (by decide +kernel), by decide +kernel⟩
theorem tw_587 : (Jvm.Cond.selects "DropQueues" ({ cls := "DropQueues", name := "slot", desc := "(I)I" } : Jvm.MethodName) ({ cls := "DropQueues", name := "slot", desc := "(I)I" } : Jvm.MethodName)) ∈ jAll := List.mem_filter.mpr ⟨List.mem_of_getElem? (i := 587) (by decide +kernel), by decide +kernel⟩
theorem tw_588 : (Jvm.Cond.code ({ cls := "DropQueues", name := "slot", desc := "(I)I" } : Jvm.MethodName) prog_1_method_11_code (4 : Nat) (Option.some Jvm.ClassFile.FieldType.int)) ∈ jAll := List.mem_filter.mpr ⟨List.mem_of_getElem? (i := 588) (by decide +kernel), by decide +kernel⟩
theorem tw_589 : (Jvm.Cond.methodLink "DropQueues" (143 : Nat) ({ cls := "DropQueues$Queues", name := "thereInAll", desc := "()I" } : Jvm.MethodName)) ∈ jAll := List.mem_filter.mpr ⟨List.mem_of_getElem? (i := 589) (by decide +kernel), by decide +kernel⟩
theorem tw_590 : (Jvm.Cond.instanceMethod ({ cls := "DropQueues$Queues", name := "thereInAll", desc := "()I" } : Jvm.MethodName)) ∈ jAll := List.mem_filter.mpr ⟨List.mem_of_getElem? (i := 590) (by decide +kernel), by decide +kernel⟩
theorem tw_591 : (Jvm.Cond.selects "DropQueues$Queues" ({ cls := "DropQueues$Queues", name := "thereInAll", desc := "()I" } : Jvm.MethodName) ({ cls := "DropQueues$Queues", name := "thereInAll", desc := "()I" } : Jvm.MethodName)) ∈ jAll := List.mem_filter.mpr ⟨List.mem_of_getElem? (i := 591) (by decide +kernel), by decide +kernel⟩
theorem tw_592 : (Jvm.Cond.code ({ cls := "DropQueues$Queues", name := "thereInAll", desc := "()I" } : Jvm.MethodName) prog_6_method_9_code (3 : Nat) (Option.some Jvm.ClassFile.FieldType.int)) ∈ jAll := List.mem_filter.mpr ⟨List.mem_of_getElem? (i := 592) (by decide +kernel), by decide +kernel⟩
theorem tw_593 : (Jvm.Cond.methodLink "DropQueues" (146 : Nat) ({ cls := "DropQueues$Mover", name := "move", desc := "(LDropQueues$World;I[I)V" } : Jvm.MethodName)) ∈ jAll := List.mem_filter.mpr ⟨List.mem_of_getElem? (i := 593) (by decide +kernel), by decide +kernel⟩
theorem tw_594 : (Jvm.Cond.instanceMethod ({ cls := "DropQueues$Mover", name := "move", desc := "(LDropQueues$World;I[I)V" } : Jvm.MethodName)) ∈ jAll := List.mem_filter.mpr ⟨List.mem_of_getElem? (i := 594) (by decide +kernel), by decide +kernel⟩
theorem tw_595 : (Jvm.Cond.selects "DropQueues$Mover" ({ cls := "DropQueues$Mover", name := "move", desc := "(LDropQueues$World;I[I)V" } : Jvm.MethodName) ({ cls := "DropQueues$Mover", name := "move", desc := "(LDropQueues$World;I[I)V" } : Jvm.MethodName)) ∈ jAll := List.mem_filter.mpr ⟨List.mem_of_getElem? (i := 595) (by decide +kernel), by decide +kernel⟩
theorem tw_596 : (Jvm.Cond.code ({ cls := "DropQueues$Mover", name := "move", desc := "(LDropQueues$World;I[I)V" } : Jvm.MethodName) prog_3_method_2_code (5 : Nat) (Option.none : Option Jvm.ClassFile.FieldType)) ∈ jAll := List.mem_filter.mpr ⟨List.mem_of_getElem? (i := 596) (by decide +kernel), by decide +kernel⟩
theorem tw_597 : (Jvm.Cond.methodLink "DropQueues$Mover" (28 : Nat) ({ cls := "DropQueues$Picker", name := "weigh", desc := "(LDropQueues$World;)V" } : Jvm.MethodName)) ∈ jAll := List.mem_filter.mpr ⟨List.mem_of_getElem? (i := 597) (by decide +kernel), by decide +kernel⟩
theorem tw_598 : (Jvm.Cond.instanceMethod ({ cls := "DropQueues$Picker", name := "weigh", desc := "(LDropQueues$World;)V" } : Jvm.MethodName)) ∈ jAll := List.mem_filter.mpr ⟨List.mem_of_getElem? (i := 598) (by decide +kernel), by decide +kernel⟩
theorem tw_599 : (Jvm.Cond.selects "DropQueues$Picker" ({ cls := "DropQueues$Picker", name := "weigh", desc := "(LDropQueues$World;)V" } : Jvm.MethodName) ({ cls := "DropQueues$Picker", name := "weigh", desc := "(LDropQueues$World;)V" } : Jvm.MethodName)) ∈ jAll := List.mem_filter.mpr ⟨List.mem_of_getElem? (i := 599) (by decide +kernel), by decide +kernel⟩
theorem tw_600 : (Jvm.Cond.code ({ cls := "DropQueues$Picker", name := "weigh", desc := "(LDropQueues$World;)V" } : Jvm.MethodName) prog_5_method_2_code (4 : Nat) (Option.none : Option Jvm.ClassFile.FieldType)) ∈ jAll := List.mem_filter.mpr ⟨List.mem_of_getElem? (i := 600) (by decide +kernel), by decide +kernel⟩
theorem tw_601 : (Jvm.Cond.methodLink "DropQueues$Picker" (30 : Nat) ({ cls := "DropQueues$Picker", name := "choiceOf", desc := "(LDropQueues$World;I)I" } : Jvm.MethodName)) ∈ jAll := List.mem_filter.mpr ⟨List.mem_of_getElem? (i := 601) (by decide +kernel), by decide +kernel⟩
theorem tw_602 : (Jvm.Cond.static ({ cls := "DropQueues$Picker", name := "choiceOf", desc := "(LDropQueues$World;I)I" } : Jvm.MethodName)) ∈ jAll := List.mem_filter.mpr ⟨List.mem_of_getElem? (i := 602) (by decide +kernel), by decide +kernel⟩
theorem tw_603 : (Jvm.Cond.code ({ cls := "DropQueues$Picker", name := "choiceOf", desc := "(LDropQueues$World;I)I" } : Jvm.MethodName) prog_5_method_4_code (5 : Nat) (Option.some Jvm.ClassFile.FieldType.int)) ∈ jAll := List.mem_filter.mpr ⟨List.mem_of_getElem? (i := 603) (by decide +kernel), by decide +kernel⟩
theorem tw_605 : (Jvm.Cond.methodLink "DropQueues$Picker" (37 : Nat) ({ cls := "DropQueues$World", name := "dropOf", desc := "(II)I" } : Jvm.MethodName)) ∈ jAll := List.mem_filter.mpr ⟨List.mem_of_getElem? (i := 605) (by decide +kernel), by decide +kernel⟩
theorem tw_606 : (Jvm.Cond.instanceMethod ({ cls := "DropQueues$World", name := "dropOf", desc := "(II)I" } : Jvm.MethodName)) ∈ jAll := List.mem_filter.mpr ⟨List.mem_of_getElem? (i := 606) (by decide +kernel), by decide +kernel⟩
theorem tw_607 : (Jvm.Cond.selects "DropQueues$World" ({ cls := "DropQueues$World", name := "dropOf", desc := "(II)I" } : Jvm.MethodName) ({ cls := "DropQueues$World", name := "dropOf", desc := "(II)I" } : Jvm.MethodName)) ∈ jAll := List.mem_filter.mpr ⟨List.mem_of_getElem? (i := 607) (by decide +kernel), by decide +kernel⟩
theorem tw_608 : (Jvm.Cond.code ({ cls := "DropQueues$World", name := "dropOf", desc := "(II)I" } : Jvm.MethodName) prog_8_method_3_code (5 : Nat) (Option.some Jvm.ClassFile.FieldType.int)) ∈ jAll := List.mem_filter.mpr ⟨List.mem_of_getElem? (i := 608) (by decide +kernel), by decide +kernel⟩
theorem tw_610 : (Jvm.Cond.methodLink "DropQueues$World" (46 : Nat) ({ cls := "DropQueues$Net", name := "biasAt", desc := "(I)I" } : Jvm.MethodName)) ∈ jAll := List.mem_filter.mpr ⟨List.mem_of_getElem? (i := 610) (by decide +kernel), by decide +kernel⟩
theorem tw_611 : (Jvm.Cond.instanceMethod ({ cls := "DropQueues$Net", name := "biasAt", desc := "(I)I" } : Jvm.MethodName)) ∈ jAll := List.mem_filter.mpr ⟨List.mem_of_getElem? (i := 611) (by decide +kernel), by decide +kernel⟩
theorem tw_612 : (Jvm.Cond.selects "DropQueues$Net" ({ cls := "DropQueues$Net", name := "biasAt", desc := "(I)I" } : Jvm.MethodName) ({ cls := "DropQueues$Net", name := "biasAt", desc := "(I)I" } : Jvm.MethodName)) ∈ jAll := List.mem_filter.mpr ⟨List.mem_of_getElem? (i := 612) (by decide +kernel), by decide +kernel⟩
theorem tw_613 : (Jvm.Cond.code ({ cls := "DropQueues$Net", name := "biasAt", desc := "(I)I" } : Jvm.MethodName) prog_4_method_11_code (2 : Nat) (Option.some Jvm.ClassFile.FieldType.int)) ∈ jAll := List.mem_filter.mpr ⟨List.mem_of_getElem? (i := 613) (by decide +kernel), by decide +kernel⟩
theorem tw_614 : (Jvm.Cond.methodLink "DropQueues$Mover" (38 : Nat) ({ cls := "DropQueues$Picker", name := "pick", desc := "(LDropQueues$Net;I)V" } : Jvm.MethodName)) ∈ jAll := List.mem_filter.mpr ⟨List.mem_of_getElem? (i := 614) (by decide +kernel), by decide +kernel⟩
theorem tw_615 : (Jvm.Cond.instanceMethod ({ cls := "DropQueues$Picker", name := "pick", desc := "(LDropQueues$Net;I)V" } : Jvm.MethodName)) ∈ jAll := List.mem_filter.mpr ⟨List.mem_of_getElem? (i := 615) (by decide +kernel), by decide +kernel⟩
theorem tw_616 : (Jvm.Cond.selects "DropQueues$Picker" ({ cls := "DropQueues$Picker", name := "pick", desc := "(LDropQueues$Net;I)V" } : Jvm.MethodName) ({ cls := "DropQueues$Picker", name := "pick", desc := "(LDropQueues$Net;I)V" } : Jvm.MethodName)) ∈ jAll := List.mem_filter.mpr ⟨List.mem_of_getElem? (i := 616) (by decide +kernel), by decide +kernel⟩
theorem tw_617 : (Jvm.Cond.code ({ cls := "DropQueues$Picker", name := "pick", desc := "(LDropQueues$Net;I)V" } : Jvm.MethodName) prog_5_method_3_code (5 : Nat) (Option.none : Option Jvm.ClassFile.FieldType)) ∈ jAll := List.mem_filter.mpr ⟨List.mem_of_getElem? (i := 617) (by decide +kernel), by decide +kernel⟩
theorem tw_618 : (Jvm.Cond.methodLink "DropQueues$Picker" (47 : Nat) ({ cls := "DropQueues$Picker", name := "search", desc := "(LDropQueues$Picker;LDropQueues$Net;IIII)V" } : Jvm.MethodName)) ∈ jAll := List.mem_filter.mpr ⟨List.mem_of_getElem? (i := 618) (by decide +kernel), by decide +kernel⟩
theorem tw_619 : (Jvm.Cond.static ({ cls := "DropQueues$Picker", name := "search", desc := "(LDropQueues$Picker;LDropQueues$Net;IIII)V" } : Jvm.MethodName)) ∈ jAll := List.mem_filter.mpr ⟨List.mem_of_getElem? (i := 619) (by decide +kernel), by decide +kernel⟩
theorem tw_620 : (Jvm.Cond.code ({ cls := "DropQueues$Picker", name := "search", desc := "(LDropQueues$Picker;LDropQueues$Net;IIII)V" } : Jvm.MethodName) prog_5_method_5_code (9 : Nat) (Option.none : Option Jvm.ClassFile.FieldType)) ∈ jAll := List.mem_filter.mpr ⟨List.mem_of_getElem? (i := 620) (by decide +kernel), by decide +kernel⟩
theorem tw_621 : (Jvm.Cond.methodLink "DropQueues$Picker" (69 : Nat) ({ cls := "DropQueues$Picker", name := "weightOf", desc := "(I)I" } : Jvm.MethodName)) ∈ jAll := List.mem_filter.mpr ⟨List.mem_of_getElem? (i := 621) (by decide +kernel), by decide +kernel⟩
theorem tw_623 : (Jvm.Cond.instanceMethod ({ cls := "DropQueues$Picker", name := "weightOf", desc := "(I)I" } : Jvm.MethodName)) ∈ jAll := List.mem_filter.mpr ⟨List.mem_of_getElem? (i := 623) (by decide +kernel), by decide +kernel⟩
theorem tw_624 : (Jvm.Cond.code ({ cls := "DropQueues$Picker", name := "weightOf", desc := "(I)I" } : Jvm.MethodName) prog_5_method_6_code (4 : Nat) (Option.some Jvm.ClassFile.FieldType.int)) ∈ jAll := List.mem_filter.mpr ⟨List.mem_of_getElem? (i := 624) (by decide +kernel), by decide +kernel⟩
theorem tw_625 : (Jvm.Cond.methodLink "DropQueues$Picker" (73 : Nat) ({ cls := "DropQueues$Picker", name := "offer", desc := "(II)V" } : Jvm.MethodName)) ∈ jAll := List.mem_filter.mpr ⟨List.mem_of_getElem? (i := 625) (by decide +kernel), by decide +kernel⟩
theorem tw_627 : (Jvm.Cond.instanceMethod ({ cls := "DropQueues$Picker", name := "offer", desc := "(II)V" } : Jvm.MethodName)) ∈ jAll := List.mem_filter.mpr ⟨List.mem_of_getElem? (i := 627) (by decide +kernel), by decide +kernel⟩
theorem tw_628 : (Jvm.Cond.code ({ cls := "DropQueues$Picker", name := "offer", desc := "(II)V" } : Jvm.MethodName) prog_5_method_7_code (3 : Nat) (Option.none : Option Jvm.ClassFile.FieldType)) ∈ jAll := List.mem_filter.mpr ⟨List.mem_of_getElem? (i := 628) (by decide +kernel), by decide +kernel⟩
theorem tw_629 : (Jvm.Cond.methodLink "DropQueues$Picker" (80 : Nat) ({ cls := "DropQueues$Picker", name := "comesAhead", desc := "(II)Z" } : Jvm.MethodName)) ∈ jAll := List.mem_filter.mpr ⟨List.mem_of_getElem? (i := 629) (by decide +kernel), by decide +kernel⟩
theorem tw_630 : (Jvm.Cond.static ({ cls := "DropQueues$Picker", name := "comesAhead", desc := "(II)Z" } : Jvm.MethodName)) ∈ jAll := List.mem_filter.mpr ⟨List.mem_of_getElem? (i := 630) (by decide +kernel), by decide +kernel⟩
theorem tw_631 : (Jvm.Cond.code ({ cls := "DropQueues$Picker", name := "comesAhead", desc := "(II)Z" } : Jvm.MethodName) prog_5_method_8_code (3 : Nat) (Option.some Jvm.ClassFile.FieldType.boolean)) ∈ jAll := List.mem_filter.mpr ⟨List.mem_of_getElem? (i := 631) (by decide +kernel), by decide +kernel⟩
theorem tw_632 : (Jvm.Cond.methodLink "DropQueues$Picker" (84 : Nat) ({ cls := "java/lang/Integer", name := "bitCount", desc := "(I)I" } : Jvm.MethodName)) ∈ jAll := List.mem_filter.mpr ⟨List.mem_of_getElem? (i := 632) (by decide +kernel), by decide +kernel⟩
theorem tw_633 : (Jvm.Cond.methodLink "DropQueues$Mover" (57 : Nat) ({ cls := "DropQueues$Mover", name := "takeOver", desc := "(LDropQueues$World;I)V" } : Jvm.MethodName)) ∈ jAll := List.mem_filter.mpr ⟨List.mem_of_getElem? (i := 633) (by decide +kernel), by decide +kernel⟩
theorem tw_635 : (Jvm.Cond.instanceMethod ({ cls := "DropQueues$Mover", name := "takeOver", desc := "(LDropQueues$World;I)V" } : Jvm.MethodName)) ∈ jAll := List.mem_filter.mpr ⟨List.mem_of_getElem? (i := 635) (by decide +kernel), by decide +kernel⟩
theorem tw_636 : (Jvm.Cond.code ({ cls := "DropQueues$Mover", name := "takeOver", desc := "(LDropQueues$World;I)V" } : Jvm.MethodName) prog_3_method_4_code (5 : Nat) (Option.none : Option Jvm.ClassFile.FieldType)) ∈ jAll := List.mem_filter.mpr ⟨List.mem_of_getElem? (i := 636) (by decide +kernel), by decide +kernel⟩
theorem tw_638 : (Jvm.Cond.methodLink "DropQueues$Mover" (104 : Nat) ({ cls := "java/lang/Math", name := "min", desc := "(II)I" } : Jvm.MethodName)) ∈ jAll := List.mem_filter.mpr ⟨List.mem_of_getElem? (i := 638) (by decide +kernel), by decide +kernel⟩
theorem tw_639 : (Jvm.Cond.methodLink "DropQueues$Mover" (112 : Nat) ({ cls := "DropQueues$Queues", name := "takeOne", desc := "(II)I" } : Jvm.MethodName)) ∈ jAll := List.mem_filter.mpr ⟨List.mem_of_getElem? (i := 639) (by decide +kernel), by decide +kernel⟩
theorem tw_640 : (Jvm.Cond.instanceMethod ({ cls := "DropQueues$Queues", name := "takeOne", desc := "(II)I" } : Jvm.MethodName)) ∈ jAll := List.mem_filter.mpr ⟨List.mem_of_getElem? (i := 640) (by decide +kernel), by decide +kernel⟩
theorem tw_641 : (Jvm.Cond.selects "DropQueues$Queues" ({ cls := "DropQueues$Queues", name := "takeOne", desc := "(II)I" } : Jvm.MethodName) ({ cls := "DropQueues$Queues", name := "takeOne", desc := "(II)I" } : Jvm.MethodName)) ∈ jAll := List.mem_filter.mpr ⟨List.mem_of_getElem? (i := 641) (by decide +kernel), by decide +kernel⟩
theorem tw_642 : (Jvm.Cond.code ({ cls := "DropQueues$Queues", name := "takeOne", desc := "(II)I" } : Jvm.MethodName) prog_6_method_7_code (4 : Nat) (Option.some Jvm.ClassFile.FieldType.int)) ∈ jAll := List.mem_filter.mpr ⟨List.mem_of_getElem? (i := 642) (by decide +kernel), by decide +kernel⟩
theorem tw_643 : (Jvm.Cond.methodLink "DropQueues$Queues" (57 : Nat) ({ cls := "DropQueues$Queues", name := "nextBorn", desc := "(II)I" } : Jvm.MethodName)) ∈ jAll := List.mem_filter.mpr ⟨List.mem_of_getElem? (i := 643) (by decide +kernel), by decide +kernel⟩
theorem tw_644 : (Jvm.Cond.instanceMethod ({ cls := "DropQueues$Queues", name := "nextBorn", desc := "(II)I" } : Jvm.MethodName)) ∈ jAll := List.mem_filter.mpr ⟨List.mem_of_getElem? (i := 644) (by decide +kernel), by decide +kernel⟩
theorem tw_645 : (Jvm.Cond.selects "DropQueues$Queues" ({ cls := "DropQueues$Queues", name := "nextBorn", desc := "(II)I" } : Jvm.MethodName) ({ cls := "DropQueues$Queues", name := "nextBorn", desc := "(II)I" } : Jvm.MethodName)) ∈ jAll := List.mem_filter.mpr ⟨List.mem_of_getElem? (i := 645) (by decide +kernel), by decide +kernel⟩
theorem tw_646 : (Jvm.Cond.code ({ cls := "DropQueues$Queues", name := "nextBorn", desc := "(II)I" } : Jvm.MethodName) prog_6_method_6_code (3 : Nat) (Option.some Jvm.ClassFile.FieldType.int)) ∈ jAll := List.mem_filter.mpr ⟨List.mem_of_getElem? (i := 646) (by decide +kernel), by decide +kernel⟩
theorem tw_647 : (Jvm.Cond.methodLink "DropQueues$Mover" (61 : Nat) ({ cls := "DropQueues$Mover", name := "bring", desc := "(LDropQueues$World;I)V" } : Jvm.MethodName)) ∈ jAll := List.mem_filter.mpr ⟨List.mem_of_getElem? (i := 647) (by decide +kernel), by decide +kernel⟩
theorem tw_649 : (Jvm.Cond.instanceMethod ({ cls := "DropQueues$Mover", name := "bring", desc := "(LDropQueues$World;I)V" } : Jvm.MethodName)) ∈ jAll := List.mem_filter.mpr ⟨List.mem_of_getElem? (i := 649) (by decide +kernel), by decide +kernel⟩
theorem tw_650 : (Jvm.Cond.code ({ cls := "DropQueues$Mover", name := "bring", desc := "(LDropQueues$World;I)V" } : Jvm.MethodName) prog_3_method_5_code (8 : Nat) (Option.none : Option Jvm.ClassFile.FieldType)) ∈ jAll := List.mem_filter.mpr ⟨List.mem_of_getElem? (i := 650) (by decide +kernel), by decide +kernel⟩
theorem tw_651 : (Jvm.Cond.methodLink "DropQueues$Mover" (121 : Nat) ({ cls := "DropQueues$Queues", name := "arrive", desc := "(II)V" } : Jvm.MethodName)) ∈ jAll := List.mem_filter.mpr ⟨List.mem_of_getElem? (i := 651) (by decide +kernel), by decide +kernel⟩
theorem tw_652 : (Jvm.Cond.instanceMethod ({ cls := "DropQueues$Queues", name := "arrive", desc := "(II)V" } : Jvm.MethodName)) ∈ jAll := List.mem_filter.mpr ⟨List.mem_of_getElem? (i := 652) (by decide +kernel), by decide +kernel⟩
theorem tw_653 : (Jvm.Cond.selects "DropQueues$Queues" ({ cls := "DropQueues$Queues", name := "arrive", desc := "(II)V" } : Jvm.MethodName) ({ cls := "DropQueues$Queues", name := "arrive", desc := "(II)V" } : Jvm.MethodName)) ∈ jAll := List.mem_filter.mpr ⟨List.mem_of_getElem? (i := 653) (by decide +kernel), by decide +kernel⟩
theorem tw_654 : (Jvm.Cond.code ({ cls := "DropQueues$Queues", name := "arrive", desc := "(II)V" } : Jvm.MethodName) prog_6_method_8_code (4 : Nat) (Option.none : Option Jvm.ClassFile.FieldType)) ∈ jAll := List.mem_filter.mpr ⟨List.mem_of_getElem? (i := 654) (by decide +kernel), by decide +kernel⟩
theorem tw_655 : (Jvm.Cond.methodLink "DropQueues$Queues" (60 : Nat) ({ cls := "java/lang/Math", name := "max", desc := "(II)I" } : Jvm.MethodName)) ∈ jAll := List.mem_filter.mpr ⟨List.mem_of_getElem? (i := 655) (by decide +kernel), by decide +kernel⟩
theorem tw_656 : (Jvm.Cond.static ({ cls := "java/lang/Math", name := "max", desc := "(II)I" } : Jvm.MethodName)) ∈ jAll := List.mem_filter.mpr ⟨List.mem_of_getElem? (i := 656) (by decide +kernel), by decide +kernel⟩
theorem tw_657 : (Jvm.Cond.code ({ cls := "java/lang/Math", name := "max", desc := "(II)I" } : Jvm.MethodName) prog_12_method_65_code (2 : Nat) (Option.some Jvm.ClassFile.FieldType.int)) ∈ jAll := List.mem_filter.mpr ⟨List.mem_of_getElem? (i := 657) (by decide +kernel), by decide +kernel⟩
theorem tw_658 : (Jvm.Cond.methodLink "DropQueues$Mover" (125 : Nat) ({ cls := "DropQueues$Queues", name := "addOne", desc := "(II)V" } : Jvm.MethodName)) ∈ jAll := List.mem_filter.mpr ⟨List.mem_of_getElem? (i := 658) (by decide +kernel), by decide +kernel⟩
theorem tw_659 : (Jvm.Cond.methodLink "DropQueues$Mover" (64 : Nat) ({ cls := "DropQueues$Mover", name := "bringFeeds", desc := "(LDropQueues$World;[I)V" } : Jvm.MethodName)) ∈ jAll := List.mem_filter.mpr ⟨List.mem_of_getElem? (i := 659) (by decide +kernel), by decide +kernel⟩
theorem tw_660 : (Jvm.Cond.static ({ cls := "DropQueues$Mover", name := "bringFeeds", desc := "(LDropQueues$World;[I)V" } : Jvm.MethodName)) ∈ jAll := List.mem_filter.mpr ⟨List.mem_of_getElem? (i := 660) (by decide +kernel), by decide +kernel⟩
theorem tw_661 : (Jvm.Cond.code ({ cls := "DropQueues$Mover", name := "bringFeeds", desc := "(LDropQueues$World;[I)V" } : Jvm.MethodName) prog_3_method_6_code (5 : Nat) (Option.none : Option Jvm.ClassFile.FieldType)) ∈ jAll := List.mem_filter.mpr ⟨List.mem_of_getElem? (i := 661) (by decide +kernel), by decide +kernel⟩
theorem tw_662 : (Jvm.Cond.methodLink "DropQueues$Mover" (128 : Nat) ({ cls := "DropQueues$Queues", name := "addMany", desc := "(III)V" } : Jvm.MethodName)) ∈ jAll := List.mem_filter.mpr ⟨List.mem_of_getElem? (i := 662) (by decide +kernel), by decide +kernel⟩
theorem tw_663 : (Jvm.Cond.methodLink "DropQueuesLaw" (57 : Nat) ({ cls := "DropQueues", name := "undo", desc := "()I" } : Jvm.MethodName)) ∈ jAll := List.mem_filter.mpr ⟨List.mem_of_getElem? (i := 663) (by decide +kernel), by decide +kernel⟩
theorem tw_664 : (Jvm.Cond.instanceMethod ({ cls := "DropQueues", name := "undo", desc := "()I" } : Jvm.MethodName)) ∈ jAll := List.mem_filter.mpr ⟨List.mem_of_getElem? (i := 664) (by decide +kernel), by decide +kernel⟩
theorem tw_665 : (Jvm.Cond.selects "DropQueues" ({ cls := "DropQueues", name := "undo", desc := "()I" } : Jvm.MethodName) ({ cls := "DropQueues", name := "undo", desc := "()I" } : Jvm.MethodName)) ∈ jAll := List.mem_filter.mpr ⟨List.mem_of_getElem? (i := 665) (by decide +kernel), by decide +kernel⟩
theorem tw_666 : (Jvm.Cond.code ({ cls := "DropQueues", name := "undo", desc := "()I" } : Jvm.MethodName) prog_1_method_12_code (1 : Nat) (Option.some Jvm.ClassFile.FieldType.int)) ∈ jAll := List.mem_filter.mpr ⟨List.mem_of_getElem? (i := 666) (by decide +kernel), by decide +kernel⟩
theorem tw_667 : (Jvm.Cond.methodLink "DropQueues" (153 : Nat) ({ cls := "DropQueues$History", name := "giveBack", desc := "(LDropQueues$World;)V" } : Jvm.MethodName)) ∈ jAll := List.mem_filter.mpr ⟨List.mem_of_getElem? (i := 667) (by decide +kernel), by decide +kernel⟩
theorem tw_668 : (Jvm.Cond.instanceMethod ({ cls := "DropQueues$History", name := "giveBack", desc := "(LDropQueues$World;)V" } : Jvm.MethodName)) ∈ jAll := List.mem_filter.mpr ⟨List.mem_of_getElem? (i := 668) (by decide +kernel), by decide +kernel⟩
theorem tw_669 : (Jvm.Cond.selects "DropQueues$History" ({ cls := "DropQueues$History", name := "giveBack", desc := "(LDropQueues$World;)V" } : Jvm.MethodName) ({ cls := "DropQueues$History", name := "giveBack", desc := "(LDropQueues$World;)V" } : Jvm.MethodName)) ∈ jAll := List.mem_filter.mpr ⟨List.mem_of_getElem? (i := 669) (by decide +kernel), by decide +kernel⟩
theorem tw_670 : (Jvm.Cond.code ({ cls := "DropQueues$History", name := "giveBack", desc := "(LDropQueues$World;)V" } : Jvm.MethodName) prog_2_method_4_code (2 : Nat) (Option.none : Option Jvm.ClassFile.FieldType)) ∈ jAll := List.mem_filter.mpr ⟨List.mem_of_getElem? (i := 670) (by decide +kernel), by decide +kernel⟩
theorem tw_671 : (Jvm.Cond.methodLink "DropQueuesLaw" (61 : Nat) ({ cls := "DropQueues", name := "queue", desc := "(III)I" } : Jvm.MethodName)) ∈ jAll := List.mem_filter.mpr ⟨List.mem_of_getElem? (i := 671) (by decide +kernel), by decide +kernel⟩
theorem tw_672 : (Jvm.Cond.instanceMethod ({ cls := "DropQueues", name := "queue", desc := "(III)I" } : Jvm.MethodName)) ∈ jAll := List.mem_filter.mpr ⟨List.mem_of_getElem? (i := 672) (by decide +kernel), by decide +kernel⟩
theorem tw_673 : (Jvm.Cond.selects "DropQueues" ({ cls := "DropQueues", name := "queue", desc := "(III)I" } : Jvm.MethodName) ({ cls := "DropQueues", name := "queue", desc := "(III)I" } : Jvm.MethodName)) ∈ jAll := List.mem_filter.mpr ⟨List.mem_of_getElem? (i := 673) (by decide +kernel), by decide +kernel⟩
theorem tw_674 : (Jvm.Cond.code ({ cls := "DropQueues", name := "queue", desc := "(III)I" } : Jvm.MethodName) prog_1_method_13_code (5 : Nat) (Option.some Jvm.ClassFile.FieldType.int)) ∈ jAll := List.mem_filter.mpr ⟨List.mem_of_getElem? (i := 674) (by decide +kernel), by decide +kernel⟩
theorem tw_675 : (Jvm.Cond.methodLink "DropQueues" (159 : Nat) ({ cls := "DropQueues$Queues", name := "nextBorn", desc := "(II)I" } : Jvm.MethodName)) ∈ jAll := List.mem_filter.mpr ⟨List.mem_of_getElem? (i := 675) (by decide +kernel), by decide +kernel⟩
theorem tw_676 : (Jvm.Cond.methodLink "DropQueues" (162 : Nat) ({ cls := "DropQueues$Net", name := "biasAt", desc := "(I)I" } : Jvm.MethodName)) ∈ jAll := List.mem_filter.mpr ⟨List.mem_of_getElem? (i := 676) (by decide +kernel), by decide +kernel⟩
theorem tw_677 : (Jvm.Cond.methodLink "DropQueuesLaw" (65 : Nat) ({ cls := "DropQueues", name := "link", desc := "(II)I" } : Jvm.MethodName)) ∈ jAll := List.mem_filter.mpr ⟨List.mem_of_getElem? (i := 677) (by decide +kernel), by decide +kernel⟩
theorem tw_678 : (Jvm.Cond.instanceMethod ({ cls := "DropQueues", name := "link", desc := "(II)I" } : Jvm.MethodName)) ∈ jAll := List.mem_filter.mpr ⟨List.mem_of_getElem? (i := 678) (by decide +kernel), by decide +kernel⟩
theorem tw_679 : (Jvm.Cond.selects "DropQueues" ({ cls := "DropQueues", name := "link", desc := "(II)I" } : Jvm.MethodName) ({ cls := "DropQueues", name := "link", desc := "(II)I" } : Jvm.MethodName)) ∈ jAll := List.mem_filter.mpr ⟨List.mem_of_getElem? (i := 679) (by decide +kernel), by decide +kernel⟩
theorem tw_680 : (Jvm.Cond.code ({ cls := "DropQueues", name := "link", desc := "(II)I" } : Jvm.MethodName) prog_1_method_14_code (3 : Nat) (Option.some Jvm.ClassFile.FieldType.int)) ∈ jAll := List.mem_filter.mpr ⟨List.mem_of_getElem? (i := 680) (by decide +kernel), by decide +kernel⟩
theorem tw_681 : (Jvm.Cond.methodLink "DropQueues" (174 : Nat) ({ cls := "DropQueues", name := "linkAsQueuesAre", desc := "(II)I" } : Jvm.MethodName)) ∈ jAll := List.mem_filter.mpr ⟨List.mem_of_getElem? (i := 681) (by decide +kernel), by decide +kernel⟩
theorem tw_683 : (Jvm.Cond.instanceMethod ({ cls := "DropQueues", name := "linkAsQueuesAre", desc := "(II)I" } : Jvm.MethodName)) ∈ jAll := List.mem_filter.mpr ⟨List.mem_of_getElem? (i := 683) (by decide +kernel), by decide +kernel⟩
theorem tw_684 : (Jvm.Cond.code ({ cls := "DropQueues", name := "linkAsQueuesAre", desc := "(II)I" } : Jvm.MethodName) prog_1_method_26_code (3 : Nat) (Option.some Jvm.ClassFile.FieldType.int)) ∈ jAll := List.mem_filter.mpr ⟨List.mem_of_getElem? (i := 684) (by decide +kernel), by decide +kernel⟩
theorem tw_685 : (Jvm.Cond.methodLink "DropQueues" (183 : Nat) ({ cls := "DropQueues$Picker", name := "weigh", desc := "(LDropQueues$World;)V" } : Jvm.MethodName)) ∈ jAll := List.mem_filter.mpr ⟨List.mem_of_getElem? (i := 685) (by decide +kernel), by decide +kernel⟩
theorem tw_686 : (Jvm.Cond.methodLink "DropQueues" (186 : Nat) ({ cls := "DropQueues$Picker", name := "pick", desc := "(LDropQueues$Net;I)V" } : Jvm.MethodName)) ∈ jAll := List.mem_filter.mpr ⟨List.mem_of_getElem? (i := 686) (by decide +kernel), by decide +kernel⟩
theorem tw_687 : (Jvm.Cond.methodLink "DropQueuesLaw" (69 : Nat) ({ cls := "DropQueues", name := "drop", desc := "(II)I" } : Jvm.MethodName)) ∈ jAll := List.mem_filter.mpr ⟨List.mem_of_getElem? (i := 687) (by decide +kernel), by decide +kernel⟩
theorem tw_688 : (Jvm.Cond.instanceMethod ({ cls := "DropQueues", name := "drop", desc := "(II)I" } : Jvm.MethodName)) ∈ jAll := List.mem_filter.mpr ⟨List.mem_of_getElem? (i := 688) (by decide +kernel), by decide +kernel⟩
theorem tw_689 : (Jvm.Cond.selects "DropQueues" ({ cls := "DropQueues", name := "drop", desc := "(II)I" } : Jvm.MethodName) ({ cls := "DropQueues", name := "drop", desc := "(II)I" } : Jvm.MethodName)) ∈ jAll := List.mem_filter.mpr ⟨List.mem_of_getElem? (i := 689) (by decide +kernel), by decide +kernel⟩
theorem tw_690 : (Jvm.Cond.code ({ cls := "DropQueues", name := "drop", desc := "(II)I" } : Jvm.MethodName) prog_1_method_15_code (3 : Nat) (Option.some Jvm.ClassFile.FieldType.int)) ∈ jAll := List.mem_filter.mpr ⟨List.mem_of_getElem? (i := 690) (by decide +kernel), by decide +kernel⟩
theorem tw_691 : (Jvm.Cond.methodLink "DropQueues" (177 : Nat) ({ cls := "DropQueues$Net", name := "hasGoal", desc := "(I)Z" } : Jvm.MethodName)) ∈ jAll := List.mem_filter.mpr ⟨List.mem_of_getElem? (i := 691) (by decide +kernel), by decide +kernel⟩
theorem tw_692 : (Jvm.Cond.methodLink "DropQueues" (180 : Nat) ({ cls := "DropQueues$World", name := "dropOf", desc := "(II)I" } : Jvm.MethodName)) ∈ jAll := List.mem_filter.mpr ⟨List.mem_of_getElem? (i := 692) (by decide +kernel), by decide +kernel⟩
theorem tw_693 : (Jvm.Cond.methodLink "DropQueuesLaw" (73 : Nat) ({ cls := "DropQueues", name := "goes", desc := "(I)I" } : Jvm.MethodName)) ∈ jAll := List.mem_filter.mpr ⟨List.mem_of_getElem? (i := 693) (by decide +kernel), by decide +kernel⟩
theorem tw_694 : (Jvm.Cond.instanceMethod ({ cls := "DropQueues", name := "goes", desc := "(I)I" } : Jvm.MethodName)) ∈ jAll := List.mem_filter.mpr ⟨List.mem_of_getElem? (i := 694) (by decide +kernel), by decide +kernel⟩
theorem tw_695 : (Jvm.Cond.selects "DropQueues" ({ cls := "DropQueues", name := "goes", desc := "(I)I" } : Jvm.MethodName) ({ cls := "DropQueues", name := "goes", desc := "(I)I" } : Jvm.MethodName)) ∈ jAll := List.mem_filter.mpr ⟨List.mem_of_getElem? (i := 695) (by decide +kernel), by decide +kernel⟩
theorem tw_696 : (Jvm.Cond.code ({ cls := "DropQueues", name := "goes", desc := "(I)I" } : Jvm.MethodName) prog_1_method_16_code (2 : Nat) (Option.some Jvm.ClassFile.FieldType.int)) ∈ jAll := List.mem_filter.mpr ⟨List.mem_of_getElem? (i := 696) (by decide +kernel), by decide +kernel⟩
theorem tw_697 : (Jvm.Cond.methodLink "DropQueuesLaw" (77 : Nat) ({ cls := "DropQueues", name := "goal", desc := "(II)I" } : Jvm.MethodName)) ∈ jAll := List.mem_filter.mpr ⟨List.mem_of_getElem? (i := 697) (by decide +kernel), by decide +kernel⟩
theorem tw_698 : (Jvm.Cond.instanceMethod ({ cls := "DropQueues", name := "goal", desc := "(II)I" } : Jvm.MethodName)) ∈ jAll := List.mem_filter.mpr ⟨List.mem_of_getElem? (i := 698) (by decide +kernel), by decide +kernel⟩
theorem tw_699 : (Jvm.Cond.selects "DropQueues" ({ cls := "DropQueues", name := "goal", desc := "(II)I" } : Jvm.MethodName) ({ cls := "DropQueues", name := "goal", desc := "(II)I" } : Jvm.MethodName)) ∈ jAll := List.mem_filter.mpr ⟨List.mem_of_getElem? (i := 699) (by decide +kernel), by decide +kernel⟩
theorem tw_700 : (Jvm.Cond.code ({ cls := "DropQueues", name := "goal", desc := "(II)I" } : Jvm.MethodName) prog_1_method_17_code (3 : Nat) (Option.some Jvm.ClassFile.FieldType.int)) ∈ jAll := List.mem_filter.mpr ⟨List.mem_of_getElem? (i := 700) (by decide +kernel), by decide +kernel⟩
theorem tw_701 : (Jvm.Cond.methodLink "DropQueues" (208 : Nat) ({ cls := "DropQueues$Queues", name := "packetsFor", desc := "(I)I" } : Jvm.MethodName)) ∈ jAll := List.mem_filter.mpr ⟨List.mem_of_getElem? (i := 701) (by decide +kernel), by decide +kernel⟩
theorem tw_702 : (Jvm.Cond.instanceMethod ({ cls := "DropQueues$Queues", name := "packetsFor", desc := "(I)I" } : Jvm.MethodName)) ∈ jAll := List.mem_filter.mpr ⟨List.mem_of_getElem? (i := 702) (by decide +kernel), by decide +kernel⟩
theorem tw_703 : (Jvm.Cond.selects "DropQueues$Queues" ({ cls := "DropQueues$Queues", name := "packetsFor", desc := "(I)I" } : Jvm.MethodName) ({ cls := "DropQueues$Queues", name := "packetsFor", desc := "(I)I" } : Jvm.MethodName)) ∈ jAll := List.mem_filter.mpr ⟨List.mem_of_getElem? (i := 703) (by decide +kernel), by decide +kernel⟩
theorem tw_704 : (Jvm.Cond.code ({ cls := "DropQueues$Queues", name := "packetsFor", desc := "(I)I" } : Jvm.MethodName) prog_6_method_10_code (4 : Nat) (Option.some Jvm.ClassFile.FieldType.int)) ∈ jAll := List.mem_filter.mpr ⟨List.mem_of_getElem? (i := 704) (by decide +kernel), by decide +kernel⟩
theorem tw_706 : (Jvm.Cond.methodLink "DropQueuesLaw" (81 : Nat) ({ cls := "DropQueues", name := "ahead", desc := "(II)I" } : Jvm.MethodName)) ∈ jAll := List.mem_filter.mpr ⟨List.mem_of_getElem? (i := 706) (by decide +kernel), by decide +kernel⟩
theorem tw_707 : (Jvm.Cond.instanceMethod ({ cls := "DropQueues", name := "ahead", desc := "(II)I" } : Jvm.MethodName)) ∈ jAll := List.mem_filter.mpr ⟨List.mem_of_getElem? (i := 707) (by decide +kernel), by decide +kernel⟩
theorem tw_708 : (Jvm.Cond.selects "DropQueues" ({ cls := "DropQueues", name := "ahead", desc := "(II)I" } : Jvm.MethodName) ({ cls := "DropQueues", name := "ahead", desc := "(II)I" } : Jvm.MethodName)) ∈ jAll := List.mem_filter.mpr ⟨List.mem_of_getElem? (i := 708) (by decide +kernel), by decide +kernel⟩
theorem tw_709 : (Jvm.Cond.code ({ cls := "DropQueues", name := "ahead", desc := "(II)I" } : Jvm.MethodName) prog_1_method_18_code (5 : Nat) (Option.some Jvm.ClassFile.FieldType.int)) ∈ jAll := List.mem_filter.mpr ⟨List.mem_of_getElem? (i := 709) (by decide +kernel), by decide +kernel⟩
theorem tw_710 : (Jvm.Cond.methodLink "DropQueues" (211 : Nat) ({ cls := "DropQueues$World", name := "copyFrom", desc := "(LDropQueues$World;)V" } : Jvm.MethodName)) ∈ jAll := List.mem_filter.mpr ⟨List.mem_of_getElem? (i := 710) (by decide +kernel), by decide +kernel⟩
theorem tw_711 : (Jvm.Cond.methodLink "DropQueues" (214 : Nat) ({ cls := "DropQueues$Queues", name := "squares", desc := "()I" } : Jvm.MethodName)) ∈ jAll := List.mem_filter.mpr ⟨List.mem_of_getElem? (i := 711) (by decide +kernel), by decide +kernel⟩
theorem tw_712 : (Jvm.Cond.instanceMethod ({ cls := "DropQueues$Queues", name := "squares", desc := "()I" } : Jvm.MethodName)) ∈ jAll := List.mem_filter.mpr ⟨List.mem_of_getElem? (i := 712) (by decide +kernel), by decide +kernel⟩
theorem tw_713 : (Jvm.Cond.selects "DropQueues$Queues" ({ cls := "DropQueues$Queues", name := "squares", desc := "()I" } : Jvm.MethodName) ({ cls := "DropQueues$Queues", name := "squares", desc := "()I" } : Jvm.MethodName)) ∈ jAll := List.mem_filter.mpr ⟨List.mem_of_getElem? (i := 713) (by decide +kernel), by decide +kernel⟩
theorem tw_714 : (Jvm.Cond.code ({ cls := "DropQueues$Queues", name := "squares", desc := "()I" } : Jvm.MethodName) prog_6_method_12_code (3 : Nat) (Option.some Jvm.ClassFile.FieldType.int)) ∈ jAll := List.mem_filter.mpr ⟨List.mem_of_getElem? (i := 714) (by decide +kernel), by decide +kernel⟩
theorem tw_715 : (Jvm.Cond.methodLink "DropQueues" (217 : Nat) ({ cls := "java/lang/Math", name := "max", desc := "(II)I" } : Jvm.MethodName)) ∈ jAll := List.mem_filter.mpr ⟨List.mem_of_getElem? (i := 715) (by decide +kernel), by decide +kernel⟩
theorem tw_716 : (Jvm.Cond.methodLink "DropQueues" (222 : Nat) ({ cls := "DropQueues", name := "trialSince", desc := "(I)I" } : Jvm.MethodName)) ∈ jAll := List.mem_filter.mpr ⟨List.mem_of_getElem? (i := 716) (by decide +kernel), by decide +kernel⟩
theorem tw_718 : (Jvm.Cond.instanceMethod ({ cls := "DropQueues", name := "trialSince", desc := "(I)I" } : Jvm.MethodName)) ∈ jAll := List.mem_filter.mpr ⟨List.mem_of_getElem? (i := 718) (by decide +kernel), by decide +kernel⟩
theorem tw_719 : (Jvm.Cond.code ({ cls := "DropQueues", name := "trialSince", desc := "(I)I" } : Jvm.MethodName) prog_1_method_28_code (2 : Nat) (Option.some Jvm.ClassFile.FieldType.int)) ∈ jAll := List.mem_filter.mpr ⟨List.mem_of_getElem? (i := 719) (by decide +kernel), by decide +kernel⟩
theorem tw_720 : (Jvm.Cond.methodLink "DropQueues" (225 : Nat) ({ cls := "DropQueues$Queues", name := "packets", desc := "()I" } : Jvm.MethodName)) ∈ jAll := List.mem_filter.mpr ⟨List.mem_of_getElem? (i := 720) (by decide +kernel), by decide +kernel⟩
theorem tw_721 : (Jvm.Cond.instanceMethod ({ cls := "DropQueues$Queues", name := "packets", desc := "()I" } : Jvm.MethodName)) ∈ jAll := List.mem_filter.mpr ⟨List.mem_of_getElem? (i := 721) (by decide +kernel), by decide +kernel⟩
theorem tw_722 : (Jvm.Cond.selects "DropQueues$Queues" ({ cls := "DropQueues$Queues", name := "packets", desc := "()I" } : Jvm.MethodName) ({ cls := "DropQueues$Queues", name := "packets", desc := "()I" } : Jvm.MethodName)) ∈ jAll := List.mem_filter.mpr ⟨List.mem_of_getElem? (i := 722) (by decide +kernel), by decide +kernel⟩
theorem tw_723 : (Jvm.Cond.code ({ cls := "DropQueues$Queues", name := "packets", desc := "()I" } : Jvm.MethodName) prog_6_method_11_code (3 : Nat) (Option.some Jvm.ClassFile.FieldType.int)) ∈ jAll := List.mem_filter.mpr ⟨List.mem_of_getElem? (i := 723) (by decide +kernel), by decide +kernel⟩
theorem tw_724 : (Jvm.Cond.methodLink "DropQueuesLaw" (85 : Nat) ({ cls := "DropQueues", name := "without", desc := "(I)I" } : Jvm.MethodName)) ∈ jAll := List.mem_filter.mpr ⟨List.mem_of_getElem? (i := 724) (by decide +kernel), by decide +kernel⟩
theorem tw_725 : (Jvm.Cond.instanceMethod ({ cls := "DropQueues", name := "without", desc := "(I)I" } : Jvm.MethodName)) ∈ jAll := List.mem_filter.mpr ⟨List.mem_of_getElem? (i := 725) (by decide +kernel), by decide +kernel⟩
theorem tw_726 : (Jvm.Cond.selects "DropQueues" ({ cls := "DropQueues", name := "without", desc := "(I)I" } : Jvm.MethodName) ({ cls := "DropQueues", name := "without", desc := "(I)I" } : Jvm.MethodName)) ∈ jAll := List.mem_filter.mpr ⟨List.mem_of_getElem? (i := 726) (by decide +kernel), by decide +kernel⟩
theorem tw_727 : (Jvm.Cond.code ({ cls := "DropQueues", name := "without", desc := "(I)I" } : Jvm.MethodName) prog_1_method_19_code (3 : Nat) (Option.some Jvm.ClassFile.FieldType.int)) ∈ jAll := List.mem_filter.mpr ⟨List.mem_of_getElem? (i := 727) (by decide +kernel), by decide +kernel⟩
theorem tw_728 : (Jvm.Cond.methodLink "DropQueuesLaw" (89 : Nat) ({ cls := "DropQueues", name := "worst", desc := "(I)I" } : Jvm.MethodName)) ∈ jAll := List.mem_filter.mpr ⟨List.mem_of_getElem? (i := 728) (by decide +kernel), by decide +kernel⟩
theorem tw_729 : (Jvm.Cond.instanceMethod ({ cls := "DropQueues", name := "worst", desc := "(I)I" } : Jvm.MethodName)) ∈ jAll := List.mem_filter.mpr ⟨List.mem_of_getElem? (i := 729) (by decide +kernel), by decide +kernel⟩
theorem tw_730 : (Jvm.Cond.selects "DropQueues" ({ cls := "DropQueues", name := "worst", desc := "(I)I" } : Jvm.MethodName) ({ cls := "DropQueues", name := "worst", desc := "(I)I" } : Jvm.MethodName)) ∈ jAll := List.mem_filter.mpr ⟨List.mem_of_getElem? (i := 730) (by decide +kernel), by decide +kernel⟩
theorem tw_731 : (Jvm.Cond.code ({ cls := "DropQueues", name := "worst", desc := "(I)I" } : Jvm.MethodName) prog_1_method_20_code (7 : Nat) (Option.some Jvm.ClassFile.FieldType.int)) ∈ jAll := List.mem_filter.mpr ⟨List.mem_of_getElem? (i := 731) (by decide +kernel), by decide +kernel⟩
theorem tw_732 : (Jvm.Cond.methodLink "DropQueues" (234 : Nat) ({ cls := "DropQueues", name := "weightWithout", desc := "(II)I" } : Jvm.MethodName)) ∈ jAll := List.mem_filter.mpr ⟨List.mem_of_getElem? (i := 732) (by decide +kernel), by decide +kernel⟩
theorem tw_734 : (Jvm.Cond.instanceMethod ({ cls := "DropQueues", name := "weightWithout", desc := "(II)I" } : Jvm.MethodName)) ∈ jAll := List.mem_filter.mpr ⟨List.mem_of_getElem? (i := 734) (by decide +kernel), by decide +kernel⟩
theorem tw_735 : (Jvm.Cond.code ({ cls := "DropQueues", name := "weightWithout", desc := "(II)I" } : Jvm.MethodName) prog_1_method_27_code (3 : Nat) (Option.some Jvm.ClassFile.FieldType.int)) ∈ jAll := List.mem_filter.mpr ⟨List.mem_of_getElem? (i := 735) (by decide +kernel), by decide +kernel⟩
theorem tw_736 : (Jvm.Cond.methodLink "DropQueuesLaw" (93 : Nat) ({ cls := "DropQueues", name := "drawn", desc := "(III)I" } : Jvm.MethodName)) ∈ jAll := List.mem_filter.mpr ⟨List.mem_of_getElem? (i := 736) (by decide +kernel), by decide +kernel⟩
theorem tw_737 : (Jvm.Cond.instanceMethod ({ cls := "DropQueues", name := "drawn", desc := "(III)I" } : Jvm.MethodName)) ∈ jAll := List.mem_filter.mpr ⟨List.mem_of_getElem? (i := 737) (by decide +kernel), by decide +kernel⟩
theorem tw_738 : (Jvm.Cond.selects "DropQueues" ({ cls := "DropQueues", name := "drawn", desc := "(III)I" } : Jvm.MethodName) ({ cls := "DropQueues", name := "drawn", desc := "(III)I" } : Jvm.MethodName)) ∈ jAll := List.mem_filter.mpr ⟨List.mem_of_getElem? (i := 738) (by decide +kernel), by decide +kernel⟩
theorem tw_739 : (Jvm.Cond.code ({ cls := "DropQueues", name := "drawn", desc := "(III)I" } : Jvm.MethodName) prog_1_method_21_code (5 : Nat) (Option.some Jvm.ClassFile.FieldType.int)) ∈ jAll := List.mem_filter.mpr ⟨List.mem_of_getElem? (i := 739) (by decide +kernel), by decide +kernel⟩
theorem tw_740 : (Jvm.Cond.methodLink "DropQueues" (237 : Nat) ({ cls := "DropQueues$Mover", name := "drawFeeds", desc := "(LDropQueues$Net;II)V" } : Jvm.MethodName)) ∈ jAll := List.mem_filter.mpr ⟨List.mem_of_getElem? (i := 740) (by decide +kernel), by decide +kernel⟩
theorem tw_741 : (Jvm.Cond.instanceMethod ({ cls := "DropQueues$Mover", name := "drawFeeds", desc := "(LDropQueues$Net;II)V" } : Jvm.MethodName)) ∈ jAll := List.mem_filter.mpr ⟨List.mem_of_getElem? (i := 741) (by decide +kernel), by decide +kernel⟩
theorem tw_742 : (Jvm.Cond.selects "DropQueues$Mover" ({ cls := "DropQueues$Mover", name := "drawFeeds", desc := "(LDropQueues$Net;II)V" } : Jvm.MethodName) ({ cls := "DropQueues$Mover", name := "drawFeeds", desc := "(LDropQueues$Net;II)V" } : Jvm.MethodName)) ∈ jAll := List.mem_filter.mpr ⟨List.mem_of_getElem? (i := 742) (by decide +kernel), by decide +kernel⟩
theorem tw_743 : (Jvm.Cond.code ({ cls := "DropQueues$Mover", name := "drawFeeds", desc := "(LDropQueues$Net;II)V" } : Jvm.MethodName) prog_3_method_3_code (10 : Nat) (Option.none : Option Jvm.ClassFile.FieldType)) ∈ jAll := List.mem_filter.mpr ⟨List.mem_of_getElem? (i := 743) (by decide +kernel), by decide +kernel⟩
theorem tw_744 : (Jvm.Cond.constantLong "DropQueues$Mover" (71 : Nat) (7919 : Int64)) ∈ jAll := List.mem_filter.mpr ⟨List.mem_of_getElem? (i := 744) (by decide +kernel), by decide +kernel⟩
theorem tw_745 : (Jvm.Cond.constantLong "DropQueues$Mover" (73 : Nat) (6151 : Int64)) ∈ jAll := List.mem_filter.mpr ⟨List.mem_of_getElem? (i := 745) (by decide +kernel), by decide +kernel⟩
theorem tw_746 : (Jvm.Cond.constantLong "DropQueues$Mover" (75 : Nat) (97 : Int64)) ∈ jAll := List.mem_filter.mpr ⟨List.mem_of_getElem? (i := 746) (by decide +kernel), by decide +kernel⟩
theorem tw_747 : (Jvm.Cond.constantLong "DropQueues$Mover" (77 : Nat) (65521 : Int64)) ∈ jAll := List.mem_filter.mpr ⟨List.mem_of_getElem? (i := 747) (by decide +kernel), by decide +kernel⟩
theorem tw_748 : (Jvm.Cond.methodLink "DropQueuesLaw" (97 : Nat) ({ cls := "DropQueues", name := "count", desc := "(I)I" } : Jvm.MethodName)) ∈ jAll := List.mem_filter.mpr ⟨List.mem_of_getElem? (i := 748) (by decide +kernel), by decide +kernel⟩
theorem tw_749 : (Jvm.Cond.instanceMethod ({ cls := "DropQueues", name := "count", desc := "(I)I" } : Jvm.MethodName)) ∈ jAll := List.mem_filter.mpr ⟨List.mem_of_getElem? (i := 749) (by decide +kernel), by decide +kernel⟩
theorem tw_750 : (Jvm.Cond.selects "DropQueues" ({ cls := "DropQueues", name := "count", desc := "(I)I" } : Jvm.MethodName) ({ cls := "DropQueues", name := "count", desc := "(I)I" } : Jvm.MethodName)) ∈ jAll := List.mem_filter.mpr ⟨List.mem_of_getElem? (i := 750) (by decide +kernel), by decide +kernel⟩
theorem tw_751 : (Jvm.Cond.code ({ cls := "DropQueues", name := "count", desc := "(I)I" } : Jvm.MethodName) prog_1_method_22_code (2 : Nat) (Option.some Jvm.ClassFile.FieldType.int)) ∈ jAll := List.mem_filter.mpr ⟨List.mem_of_getElem? (i := 751) (by decide +kernel), by decide +kernel⟩
theorem tw_752 : (Jvm.Cond.methodLink "DropQueues" (250 : Nat) ({ cls := "DropQueues", name := "countPackets", desc := "(I)I" } : Jvm.MethodName)) ∈ jAll := List.mem_filter.mpr ⟨List.mem_of_getElem? (i := 752) (by decide +kernel), by decide +kernel⟩
theorem tw_754 : (Jvm.Cond.instanceMethod ({ cls := "DropQueues", name := "countPackets", desc := "(I)I" } : Jvm.MethodName)) ∈ jAll := List.mem_filter.mpr ⟨List.mem_of_getElem? (i := 754) (by decide +kernel), by decide +kernel⟩
theorem tw_755 : (Jvm.Cond.code ({ cls := "DropQueues", name := "countPackets", desc := "(I)I" } : Jvm.MethodName) prog_1_method_29_code (2 : Nat) (Option.some Jvm.ClassFile.FieldType.int)) ∈ jAll := List.mem_filter.mpr ⟨List.mem_of_getElem? (i := 755) (by decide +kernel), by decide +kernel⟩
theorem tw_756 : (Jvm.Cond.classLink "DropQueuesLaw" (10 : Nat) "DropQueuesModel") ∈ jAll := List.mem_filter.mpr ⟨List.mem_of_getElem? (i := 756) (by decide +kernel), by decide +kernel⟩
theorem tw_757 : (Jvm.Cond.instantiable "DropQueuesModel" (20 : Nat)) ∈ jAll := List.mem_filter.mpr ⟨List.mem_of_getElem? (i := 757) (by decide +kernel), by decide +kernel⟩
theorem tw_758 : (Jvm.Cond.methodLink "DropQueuesLaw" (12 : Nat) ({ cls := "DropQueuesModel", name := "<init>", desc := "()V" } : Jvm.MethodName)) ∈ jAll := List.mem_filter.mpr ⟨List.mem_of_getElem? (i := 758) (by decide +kernel), by decide +kernel⟩
theorem tw_759 : (Jvm.Cond.instanceMethod ({ cls := "DropQueuesModel", name := "<init>", desc := "()V" } : Jvm.MethodName)) ∈ jAll := List.mem_filter.mpr ⟨List.mem_of_getElem? (i := 759) (by decide +kernel), by decide +kernel⟩
theorem tw_760 : (Jvm.Cond.code ({ cls := "DropQueuesModel", name := "<init>", desc := "()V" } : Jvm.MethodName) prog_10_method_1_code (1 : Nat) (Option.none : Option Jvm.ClassFile.FieldType)) ∈ jAll := List.mem_filter.mpr ⟨List.mem_of_getElem? (i := 760) (by decide +kernel), by decide +kernel⟩
theorem tw_761 : (Jvm.Cond.methodLink "DropQueuesModel" (1 : Nat) ({ cls := "java/lang/Object", name := "<init>", desc := "()V" } : Jvm.MethodName)) ∈ jAll := List.mem_filter.mpr ⟨List.mem_of_getElem? (i := 761) (by decide +kernel), by decide +kernel⟩
theorem tw_762 : (Jvm.Cond.methodLink "DropQueuesModel" (56 : Nat) ({ cls := "DropQueuesModel", name := "begins", desc := "()V" } : Jvm.MethodName)) ∈ jAll := List.mem_filter.mpr ⟨List.mem_of_getElem? (i := 762) (by decide +kernel), by decide +kernel⟩
theorem tw_764 : (Jvm.Cond.instanceMethod ({ cls := "DropQueuesModel", name := "begins", desc := "()V" } : Jvm.MethodName)) ∈ jAll := List.mem_filter.mpr ⟨List.mem_of_getElem? (i := 764) (by decide +kernel), by decide +kernel⟩
theorem tw_765 : (Jvm.Cond.code ({ cls := "DropQueuesModel", name := "begins", desc := "()V" } : Jvm.MethodName) prog_10_method_7_code (2 : Nat) (Option.none : Option Jvm.ClassFile.FieldType)) ∈ jAll := List.mem_filter.mpr ⟨List.mem_of_getElem? (i := 765) (by decide +kernel), by decide +kernel⟩
theorem tw_766 : (Jvm.Cond.methodLink "DropQueuesModel" (59 : Nat) ({ cls := "DropQueuesModel", name := "links", desc := "(III)V" } : Jvm.MethodName)) ∈ jAll := List.mem_filter.mpr ⟨List.mem_of_getElem? (i := 766) (by decide +kernel), by decide +kernel⟩
theorem tw_768 : (Jvm.Cond.instanceMethod ({ cls := "DropQueuesModel", name := "links", desc := "(III)V" } : Jvm.MethodName)) ∈ jAll := List.mem_filter.mpr ⟨List.mem_of_getElem? (i := 768) (by decide +kernel), by decide +kernel⟩
theorem tw_769 : (Jvm.Cond.code ({ cls := "DropQueuesModel", name := "links", desc := "(III)V" } : Jvm.MethodName) prog_10_method_8_code (5 : Nat) (Option.none : Option Jvm.ClassFile.FieldType)) ∈ jAll := List.mem_filter.mpr ⟨List.mem_of_getElem? (i := 769) (by decide +kernel), by decide +kernel⟩
theorem tw_770 : (Jvm.Cond.methodLink "DropQueuesModel" (63 : Nat) ({ cls := "DropQueuesModel", name := "clashes", desc := "([IIII)V" } : Jvm.MethodName)) ∈ jAll := List.mem_filter.mpr ⟨List.mem_of_getElem? (i := 770) (by decide +kernel), by decide +kernel⟩
theorem tw_771 : (Jvm.Cond.static ({ cls := "DropQueuesModel", name := "clashes", desc := "([IIII)V" } : Jvm.MethodName)) ∈ jAll := List.mem_filter.mpr ⟨List.mem_of_getElem? (i := 771) (by decide +kernel), by decide +kernel⟩
theorem tw_772 : (Jvm.Cond.code ({ cls := "DropQueuesModel", name := "clashes", desc := "([IIII)V" } : Jvm.MethodName) prog_10_method_6_code (4 : Nat) (Option.none : Option Jvm.ClassFile.FieldType)) ∈ jAll := List.mem_filter.mpr ⟨List.mem_of_getElem? (i := 772) (by decide +kernel), by decide +kernel⟩
theorem tw_773 : (Jvm.Cond.methodLink "DropQueuesModel" (67 : Nat) ({ cls := "DropQueuesModel", name := "takes", desc := "()V" } : Jvm.MethodName)) ∈ jAll := List.mem_filter.mpr ⟨List.mem_of_getElem? (i := 773) (by decide +kernel), by decide +kernel⟩
theorem tw_775 : (Jvm.Cond.instanceMethod ({ cls := "DropQueuesModel", name := "takes", desc := "()V" } : Jvm.MethodName)) ∈ jAll := List.mem_filter.mpr ⟨List.mem_of_getElem? (i := 775) (by decide +kernel), by decide +kernel⟩
theorem tw_776 : (Jvm.Cond.code ({ cls := "DropQueuesModel", name := "takes", desc := "()V" } : Jvm.MethodName) prog_10_method_9_code (2 : Nat) (Option.none : Option Jvm.ClassFile.FieldType)) ∈ jAll := List.mem_filter.mpr ⟨List.mem_of_getElem? (i := 776) (by decide +kernel), by decide +kernel⟩
theorem tw_777 : (Jvm.Cond.fieldLink "DropQueuesModel" (7 : Nat) "DropQueuesModel" "now" "[I") ∈ jAll := List.mem_filter.mpr ⟨List.mem_of_getElem? (i := 777) (by decide +kernel), by decide +kernel⟩
theorem tw_778 : (Jvm.Cond.fieldLink "DropQueuesModel" (13 : Nat) "DropQueuesModel" "aside" "[I") ∈ jAll := List.mem_filter.mpr ⟨List.mem_of_getElem? (i := 778) (by decide +kernel), by decide +kernel⟩
theorem tw_779 : (Jvm.Cond.fieldLink "DropQueuesModel" (16 : Nat) "DropQueuesModel" "past" "[I") ∈ jAll := List.mem_filter.mpr ⟨List.mem_of_getElem? (i := 779) (by decide +kernel), by decide +kernel⟩
theorem tw_780 : (Jvm.Cond.fieldLink "DropQueuesModel" (70 : Nat) "DropQueuesModel" "changes" "I") ∈ jAll := List.mem_filter.mpr ⟨List.mem_of_getElem? (i := 780) (by decide +kernel), by decide +kernel⟩
theorem tw_781 : (Jvm.Cond.fieldLink "DropQueuesModel" (19 : Nat) "DropQueuesModel" "text" "[I") ∈ jAll := List.mem_filter.mpr ⟨List.mem_of_getElem? (i := 781) (by decide +kernel), by decide +kernel⟩
theorem tw_782 : (Jvm.Cond.fieldLink "DropQueuesModel" (77 : Nat) "DropQueuesModel" "letters" "I") ∈ jAll := List.mem_filter.mpr ⟨List.mem_of_getElem? (i := 782) (by decide +kernel), by decide +kernel⟩
theorem tw_783 : (Jvm.Cond.fieldLink "DropQueuesModel" (22 : Nat) "DropQueuesModel" "read" "[I") ∈ jAll := List.mem_filter.mpr ⟨List.mem_of_getElem? (i := 783) (by decide +kernel), by decide +kernel⟩
theorem tw_784 : (Jvm.Cond.fieldLink "DropQueuesModel" (74 : Nat) "DropQueuesModel" "spot" "I") ∈ jAll := List.mem_filter.mpr ⟨List.mem_of_getElem? (i := 784) (by decide +kernel), by decide +kernel⟩
theorem tw_785 : (Jvm.Cond.fieldLink "DropQueuesModel" (25 : Nat) "DropQueuesModel" "told" "[I") ∈ jAll := List.mem_filter.mpr ⟨List.mem_of_getElem? (i := 785) (by decide +kernel), by decide +kernel⟩
theorem tw_786 : (Jvm.Cond.fieldLink "DropQueuesModel" (28 : Nat) "DropQueuesModel" "hops" "[I") ∈ jAll := List.mem_filter.mpr ⟨List.mem_of_getElem? (i := 786) (by decide +kernel), by decide +kernel⟩
theorem tw_787 : (Jvm.Cond.fieldLink "DropQueuesModel" (31 : Nat) "DropQueuesModel" "choice" "[I") ∈ jAll := List.mem_filter.mpr ⟨List.mem_of_getElem? (i := 787) (by decide +kernel), by decide +kernel⟩
theorem tw_788 : (Jvm.Cond.fieldLink "DropQueuesModel" (34 : Nat) "DropQueuesModel" "weight" "[I") ∈ jAll := List.mem_filter.mpr ⟨List.mem_of_getElem? (i := 788) (by decide +kernel), by decide +kernel⟩
theorem tw_789 : (Jvm.Cond.fieldLink "DropQueuesModel" (37 : Nat) "DropQueuesModel" "together" "[I") ∈ jAll := List.mem_filter.mpr ⟨List.mem_of_getElem? (i := 789) (by decide +kernel), by decide +kernel⟩
theorem tw_790 : (Jvm.Cond.fieldLink "DropQueuesModel" (40 : Nat) "DropQueuesModel" "isFree" "[Z") ∈ jAll := List.mem_filter.mpr ⟨List.mem_of_getElem? (i := 790) (by decide +kernel), by decide +kernel⟩
theorem tw_791 : (Jvm.Cond.fieldLink "DropQueuesModel" (186 : Nat) "DropQueuesModel" "going" "I") ∈ jAll := List.mem_filter.mpr ⟨List.mem_of_getElem? (i := 791) (by decide +kernel), by decide +kernel⟩
theorem tw_792 : (Jvm.Cond.fieldLink "DropQueuesModel" (189 : Nat) "DropQueuesModel" "goingWeight" "I") ∈ jAll := List.mem_filter.mpr ⟨List.mem_of_getElem? (i := 792) (by decide +kernel), by decide +kernel⟩
theorem tw_793 : (Jvm.Cond.fieldLink "DropQueuesModel" (44 : Nat) "DropQueuesModel" "wayTo" "[I") ∈ jAll := List.mem_filter.mpr ⟨List.mem_of_getElem? (i := 793) (by decide +kernel), by decide +kernel⟩
theorem tw_794 : (Jvm.Cond.fieldLink "DropQueuesModel" (47 : Nat) "DropQueuesModel" "wayGoal" "[I") ∈ jAll := List.mem_filter.mpr ⟨List.mem_of_getElem? (i := 794) (by decide +kernel), by decide +kernel⟩
theorem tw_795 : (Jvm.Cond.fieldLink "DropQueuesModel" (50 : Nat) "DropQueuesModel" "wayBorn" "[I") ∈ jAll := List.mem_filter.mpr ⟨List.mem_of_getElem? (i := 795) (by decide +kernel), by decide +kernel⟩
theorem tw_796 : (Jvm.Cond.fieldLink "DropQueuesModel" (53 : Nat) "DropQueuesModel" "feeds" "[I") ∈ jAll := List.mem_filter.mpr ⟨List.mem_of_getElem? (i := 796) (by decide +kernel), by decide +kernel⟩
theorem tw_838 : (Jvm.Cond.arrayClass Jvm.ClassFile.FieldType.boolean) ∈ jAll := List.mem_filter.mpr ⟨List.mem_of_getElem? (i := 838) (by decide +kernel), by decide +kernel⟩
theorem tw_839 : (Jvm.Cond.methodLink "DropQueuesLaw" (17 : Nat) ({ cls := "DropQueuesModel", name := "write", desc := "(I)I" } : Jvm.MethodName)) ∈ jAll := List.mem_filter.mpr ⟨List.mem_of_getElem? (i := 839) (by decide +kernel), by decide +kernel⟩
theorem tw_840 : (Jvm.Cond.instanceMethod ({ cls := "DropQueuesModel", name := "write", desc := "(I)I" } : Jvm.MethodName)) ∈ jAll := List.mem_filter.mpr ⟨List.mem_of_getElem? (i := 840) (by decide +kernel), by decide +kernel⟩
theorem tw_841 : (Jvm.Cond.selects "DropQueuesModel" ({ cls := "DropQueuesModel", name := "write", desc := "(I)I" } : Jvm.MethodName) ({ cls := "DropQueuesModel", name := "write", desc := "(I)I" } : Jvm.MethodName)) ∈ jAll := List.mem_filter.mpr ⟨List.mem_of_getElem? (i := 841) (by decide +kernel), by decide +kernel⟩
theorem tw_842 : (Jvm.Cond.code ({ cls := "DropQueuesModel", name := "write", desc := "(I)I" } : Jvm.MethodName) prog_10_method_21_code (2 : Nat) (Option.some Jvm.ClassFile.FieldType.int)) ∈ jAll := List.mem_filter.mpr ⟨List.mem_of_getElem? (i := 842) (by decide +kernel), by decide +kernel⟩
theorem tw_843 : (Jvm.Cond.constantLong "DropQueuesModel" (119 : Nat) (32 : Int64)) ∈ jAll := List.mem_filter.mpr ⟨List.mem_of_getElem? (i := 843) (by decide +kernel), by decide +kernel⟩
theorem tw_844 : (Jvm.Cond.constantLong "DropQueuesModel" (121 : Nat) (126 : Int64)) ∈ jAll := List.mem_filter.mpr ⟨List.mem_of_getElem? (i := 844) (by decide +kernel), by decide +kernel⟩
theorem tw_845 : (Jvm.Cond.methodLink "DropQueuesModel" (80 : Nat) ({ cls := "DropQueuesModel", name := "in", desc := "(JJJ)Z" } : Jvm.MethodName)) ∈ jAll := List.mem_filter.mpr ⟨List.mem_of_getElem? (i := 845) (by decide +kernel), by decide +kernel⟩
theorem tw_846 : (Jvm.Cond.static ({ cls := "DropQueuesModel", name := "in", desc := "(JJJ)Z" } : Jvm.MethodName)) ∈ jAll := List.mem_filter.mpr ⟨List.mem_of_getElem? (i := 846) (by decide +kernel), by decide +kernel⟩
theorem tw_847 : (Jvm.Cond.code ({ cls := "DropQueuesModel", name := "in", desc := "(JJJ)Z" } : Jvm.MethodName) prog_10_method_3_code (6 : Nat) (Option.some Jvm.ClassFile.FieldType.boolean)) ∈ jAll := List.mem_filter.mpr ⟨List.mem_of_getElem? (i := 847) (by decide +kernel), by decide +kernel⟩
theorem tw_848 : (Jvm.Cond.methodLink "DropQueuesLaw" (22 : Nat) ({ cls := "DropQueuesModel", name := "wipe", desc := "()I" } : Jvm.MethodName)) ∈ jAll := List.mem_filter.mpr ⟨List.mem_of_getElem? (i := 848) (by decide +kernel), by decide +kernel⟩
theorem tw_849 : (Jvm.Cond.instanceMethod ({ cls := "DropQueuesModel", name := "wipe", desc := "()I" } : Jvm.MethodName)) ∈ jAll := List.mem_filter.mpr ⟨List.mem_of_getElem? (i := 849) (by decide +kernel), by decide +kernel⟩
theorem tw_850 : (Jvm.Cond.selects "DropQueuesModel" ({ cls := "DropQueuesModel", name := "wipe", desc := "()I" } : Jvm.MethodName) ({ cls := "DropQueuesModel", name := "wipe", desc := "()I" } : Jvm.MethodName)) ∈ jAll := List.mem_filter.mpr ⟨List.mem_of_getElem? (i := 850) (by decide +kernel), by decide +kernel⟩
theorem tw_851 : (Jvm.Cond.code ({ cls := "DropQueuesModel", name := "wipe", desc := "()I" } : Jvm.MethodName) prog_10_method_22_code (2 : Nat) (Option.some Jvm.ClassFile.FieldType.int)) ∈ jAll := List.mem_filter.mpr ⟨List.mem_of_getElem? (i := 851) (by decide +kernel), by decide +kernel⟩
theorem tw_852 : (Jvm.Cond.methodLink "DropQueuesLaw" (26 : Nat) ({ cls := "DropQueuesModel", name := "fault", desc := "()I" } : Jvm.MethodName)) ∈ jAll := List.mem_filter.mpr ⟨List.mem_of_getElem? (i := 852) (by decide +kernel), by decide +kernel⟩
theorem tw_853 : (Jvm.Cond.instanceMethod ({ cls := "DropQueuesModel", name := "fault", desc := "()I" } : Jvm.MethodName)) ∈ jAll := List.mem_filter.mpr ⟨List.mem_of_getElem? (i := 853) (by decide +kernel), by decide +kernel⟩
theorem tw_854 : (Jvm.Cond.selects "DropQueuesModel" ({ cls := "DropQueuesModel", name := "fault", desc := "()I" } : Jvm.MethodName) ({ cls := "DropQueuesModel", name := "fault", desc := "()I" } : Jvm.MethodName)) ∈ jAll := List.mem_filter.mpr ⟨List.mem_of_getElem? (i := 854) (by decide +kernel), by decide +kernel⟩
theorem tw_855 : (Jvm.Cond.code ({ cls := "DropQueuesModel", name := "fault", desc := "()I" } : Jvm.MethodName) prog_10_method_23_code (1 : Nat) (Option.some Jvm.ClassFile.FieldType.int)) ∈ jAll := List.mem_filter.mpr ⟨List.mem_of_getElem? (i := 855) (by decide +kernel), by decide +kernel⟩
theorem tw_856 : (Jvm.Cond.methodLink "DropQueuesModel" (123 : Nat) ({ cls := "DropQueuesModel", name := "reads", desc := "()I" } : Jvm.MethodName)) ∈ jAll := List.mem_filter.mpr ⟨List.mem_of_getElem? (i := 856) (by decide +kernel), by decide +kernel⟩
theorem tw_858 : (Jvm.Cond.instanceMethod ({ cls := "DropQueuesModel", name := "reads", desc := "()I" } : Jvm.MethodName)) ∈ jAll := List.mem_filter.mpr ⟨List.mem_of_getElem? (i := 858) (by decide +kernel), by decide +kernel⟩
theorem tw_859 : (Jvm.Cond.code ({ cls := "DropQueuesModel", name := "reads", desc := "()I" } : Jvm.MethodName) prog_10_method_20_code (2 : Nat) (Option.some Jvm.ClassFile.FieldType.int)) ∈ jAll := List.mem_filter.mpr ⟨List.mem_of_getElem? (i := 859) (by decide +kernel), by decide +kernel⟩
theorem tw_860 : (Jvm.Cond.methodLink "DropQueuesModel" (116 : Nat) ({ cls := "DropQueuesModel", name := "takesItem", desc := "()Z" } : Jvm.MethodName)) ∈ jAll := List.mem_filter.mpr ⟨List.mem_of_getElem? (i := 860) (by decide +kernel), by decide +kernel⟩
theorem tw_862 : (Jvm.Cond.instanceMethod ({ cls := "DropQueuesModel", name := "takesItem", desc := "()Z" } : Jvm.MethodName)) ∈ jAll := List.mem_filter.mpr ⟨List.mem_of_getElem? (i := 862) (by decide +kernel), by decide +kernel⟩
theorem tw_863 : (Jvm.Cond.code ({ cls := "DropQueuesModel", name := "takesItem", desc := "()Z" } : Jvm.MethodName) prog_10_method_19_code (2 : Nat) (Option.some Jvm.ClassFile.FieldType.boolean)) ∈ jAll := List.mem_filter.mpr ⟨List.mem_of_getElem? (i := 863) (by decide +kernel), by decide +kernel⟩
theorem tw_864 : (Jvm.Cond.methodLink "DropQueuesModel" (100 : Nat) ({ cls := "DropQueuesModel", name := "takesOne", desc := "(II)Z" } : Jvm.MethodName)) ∈ jAll := List.mem_filter.mpr ⟨List.mem_of_getElem? (i := 864) (by decide +kernel), by decide +kernel⟩
theorem tw_866 : (Jvm.Cond.instanceMethod ({ cls := "DropQueuesModel", name := "takesOne", desc := "(II)Z" } : Jvm.MethodName)) ∈ jAll := List.mem_filter.mpr ⟨List.mem_of_getElem? (i := 866) (by decide +kernel), by decide +kernel⟩
theorem tw_867 : (Jvm.Cond.code ({ cls := "DropQueuesModel", name := "takesOne", desc := "(II)Z" } : Jvm.MethodName) prog_10_method_18_code (4 : Nat) (Option.some Jvm.ClassFile.FieldType.boolean)) ∈ jAll := List.mem_filter.mpr ⟨List.mem_of_getElem? (i := 867) (by decide +kernel), by decide +kernel⟩
theorem tw_868 : (Jvm.Cond.methodLink "DropQueuesModel" (92 : Nat) ({ cls := "DropQueuesModel", name := "takesNumbers", desc := "(I)Z" } : Jvm.MethodName)) ∈ jAll := List.mem_filter.mpr ⟨List.mem_of_getElem? (i := 868) (by decide +kernel), by decide +kernel⟩
theorem tw_870 : (Jvm.Cond.instanceMethod ({ cls := "DropQueuesModel", name := "takesNumbers", desc := "(I)Z" } : Jvm.MethodName)) ∈ jAll := List.mem_filter.mpr ⟨List.mem_of_getElem? (i := 870) (by decide +kernel), by decide +kernel⟩
theorem tw_871 : (Jvm.Cond.code ({ cls := "DropQueuesModel", name := "takesNumbers", desc := "(I)Z" } : Jvm.MethodName) prog_10_method_12_code (4 : Nat) (Option.some Jvm.ClassFile.FieldType.boolean)) ∈ jAll := List.mem_filter.mpr ⟨List.mem_of_getElem? (i := 871) (by decide +kernel), by decide +kernel⟩
theorem tw_872 : (Jvm.Cond.methodLink "DropQueuesModel" (88 : Nat) ({ cls := "DropQueuesModel", name := "takesNumber", desc := "(I)Z" } : Jvm.MethodName)) ∈ jAll := List.mem_filter.mpr ⟨List.mem_of_getElem? (i := 872) (by decide +kernel), by decide +kernel⟩
theorem tw_874 : (Jvm.Cond.instanceMethod ({ cls := "DropQueuesModel", name := "takesNumber", desc := "(I)Z" } : Jvm.MethodName)) ∈ jAll := List.mem_filter.mpr ⟨List.mem_of_getElem? (i := 874) (by decide +kernel), by decide +kernel⟩
theorem tw_875 : (Jvm.Cond.code ({ cls := "DropQueuesModel", name := "takesNumber", desc := "(I)Z" } : Jvm.MethodName) prog_10_method_11_code (3 : Nat) (Option.some Jvm.ClassFile.FieldType.boolean)) ∈ jAll := List.mem_filter.mpr ⟨List.mem_of_getElem? (i := 875) (by decide +kernel), by decide +kernel⟩
theorem tw_876 : (Jvm.Cond.methodLink "DropQueuesModel" (84 : Nat) ({ cls := "DropQueuesModel", name := "isAt", desc := "(II)Z" } : Jvm.MethodName)) ∈ jAll := List.mem_filter.mpr ⟨List.mem_of_getElem? (i := 876) (by decide +kernel), by decide +kernel⟩
theorem tw_878 : (Jvm.Cond.instanceMethod ({ cls := "DropQueuesModel", name := "isAt", desc := "(II)Z" } : Jvm.MethodName)) ∈ jAll := List.mem_filter.mpr ⟨List.mem_of_getElem? (i := 878) (by decide +kernel), by decide +kernel⟩
theorem tw_879 : (Jvm.Cond.code ({ cls := "DropQueuesModel", name := "isAt", desc := "(II)Z" } : Jvm.MethodName) prog_10_method_10_code (3 : Nat) (Option.some Jvm.ClassFile.FieldType.boolean)) ∈ jAll := List.mem_filter.mpr ⟨List.mem_of_getElem? (i := 879) (by decide +kernel), by decide +kernel⟩
theorem tw_880 : (Jvm.Cond.methodLink "DropQueuesModel" (103 : Nat) ({ cls := "DropQueuesModel", name := "takesGoal", desc := "()Z" } : Jvm.MethodName)) ∈ jAll := List.mem_filter.mpr ⟨List.mem_of_getElem? (i := 880) (by decide +kernel), by decide +kernel⟩
theorem tw_882 : (Jvm.Cond.instanceMethod ({ cls := "DropQueuesModel", name := "takesGoal", desc := "()Z" } : Jvm.MethodName)) ∈ jAll := List.mem_filter.mpr ⟨List.mem_of_getElem? (i := 882) (by decide +kernel), by decide +kernel⟩
theorem tw_883 : (Jvm.Cond.code ({ cls := "DropQueuesModel", name := "takesGoal", desc := "()Z" } : Jvm.MethodName) prog_10_method_14_code (3 : Nat) (Option.some Jvm.ClassFile.FieldType.boolean)) ∈ jAll := List.mem_filter.mpr ⟨List.mem_of_getElem? (i := 883) (by decide +kernel), by decide +kernel⟩
theorem tw_884 : (Jvm.Cond.methodLink "DropQueuesModel" (95 : Nat) ({ cls := "DropQueuesModel", name := "isReadNode", desc := "(I)Z" } : Jvm.MethodName)) ∈ jAll := List.mem_filter.mpr ⟨List.mem_of_getElem? (i := 884) (by decide +kernel), by decide +kernel⟩
theorem tw_886 : (Jvm.Cond.instanceMethod ({ cls := "DropQueuesModel", name := "isReadNode", desc := "(I)Z" } : Jvm.MethodName)) ∈ jAll := List.mem_filter.mpr ⟨List.mem_of_getElem? (i := 886) (by decide +kernel), by decide +kernel⟩
theorem tw_887 : (Jvm.Cond.code ({ cls := "DropQueuesModel", name := "isReadNode", desc := "(I)Z" } : Jvm.MethodName) prog_10_method_13_code (2 : Nat) (Option.some Jvm.ClassFile.FieldType.boolean)) ∈ jAll := List.mem_filter.mpr ⟨List.mem_of_getElem? (i := 887) (by decide +kernel), by decide +kernel⟩
theorem tw_888 : (Jvm.Cond.methodLink "DropQueuesModel" (107 : Nat) ({ cls := "DropQueuesModel", name := "takesLink", desc := "()Z" } : Jvm.MethodName)) ∈ jAll := List.mem_filter.mpr ⟨List.mem_of_getElem? (i := 888) (by decide +kernel), by decide +kernel⟩
theorem tw_890 : (Jvm.Cond.instanceMethod ({ cls := "DropQueuesModel", name := "takesLink", desc := "()Z" } : Jvm.MethodName)) ∈ jAll := List.mem_filter.mpr ⟨List.mem_of_getElem? (i := 890) (by decide +kernel), by decide +kernel⟩
theorem tw_891 : (Jvm.Cond.code ({ cls := "DropQueuesModel", name := "takesLink", desc := "()Z" } : Jvm.MethodName) prog_10_method_15_code (2 : Nat) (Option.some Jvm.ClassFile.FieldType.boolean)) ∈ jAll := List.mem_filter.mpr ⟨List.mem_of_getElem? (i := 891) (by decide +kernel), by decide +kernel⟩
theorem tw_892 : (Jvm.Cond.constantLong "DropQueuesModel" (98 : Nat) (9 : Int64)) ∈ jAll := List.mem_filter.mpr ⟨List.mem_of_getElem? (i := 892) (by decide +kernel), by decide +kernel⟩
theorem tw_893 : (Jvm.Cond.methodLink "DropQueuesModel" (110 : Nat) ({ cls := "DropQueuesModel", name := "takesClash", desc := "()Z" } : Jvm.MethodName)) ∈ jAll := List.mem_filter.mpr ⟨List.mem_of_getElem? (i := 893) (by decide +kernel), by decide +kernel⟩
theorem tw_895 : (Jvm.Cond.instanceMethod ({ cls := "DropQueuesModel", name := "takesClash", desc := "()Z" } : Jvm.MethodName)) ∈ jAll := List.mem_filter.mpr ⟨List.mem_of_getElem? (i := 895) (by decide +kernel), by decide +kernel⟩
theorem tw_896 : (Jvm.Cond.code ({ cls := "DropQueuesModel", name := "takesClash", desc := "()Z" } : Jvm.MethodName) prog_10_method_16_code (2 : Nat) (Option.some Jvm.ClassFile.FieldType.boolean)) ∈ jAll := List.mem_filter.mpr ⟨List.mem_of_getElem? (i := 896) (by decide +kernel), by decide +kernel⟩
theorem tw_897 : (Jvm.Cond.methodLink "DropQueuesModel" (113 : Nat) ({ cls := "DropQueuesModel", name := "takesFeed", desc := "()Z" } : Jvm.MethodName)) ∈ jAll := List.mem_filter.mpr ⟨List.mem_of_getElem? (i := 897) (by decide +kernel), by decide +kernel⟩
theorem tw_899 : (Jvm.Cond.instanceMethod ({ cls := "DropQueuesModel", name := "takesFeed", desc := "()Z" } : Jvm.MethodName)) ∈ jAll := List.mem_filter.mpr ⟨List.mem_of_getElem? (i := 899) (by decide +kernel), by decide +kernel⟩
theorem tw_900 : (Jvm.Cond.code ({ cls := "DropQueuesModel", name := "takesFeed", desc := "()Z" } : Jvm.MethodName) prog_10_method_17_code (2 : Nat) (Option.some Jvm.ClassFile.FieldType.boolean)) ∈ jAll := List.mem_filter.mpr ⟨List.mem_of_getElem? (i := 900) (by decide +kernel), by decide +kernel⟩
theorem tw_901 : (Jvm.Cond.methodLink "DropQueuesLaw" (30 : Nat) ({ cls := "DropQueuesModel", name := "lay", desc := "()I" } : Jvm.MethodName)) ∈ jAll := List.mem_filter.mpr ⟨List.mem_of_getElem? (i := 901) (by decide +kernel), by decide +kernel⟩
theorem tw_902 : (Jvm.Cond.instanceMethod ({ cls := "DropQueuesModel", name := "lay", desc := "()I" } : Jvm.MethodName)) ∈ jAll := List.mem_filter.mpr ⟨List.mem_of_getElem? (i := 902) (by decide +kernel), by decide +kernel⟩
theorem tw_903 : (Jvm.Cond.selects "DropQueuesModel" ({ cls := "DropQueuesModel", name := "lay", desc := "()I" } : Jvm.MethodName) ({ cls := "DropQueuesModel", name := "lay", desc := "()I" } : Jvm.MethodName)) ∈ jAll := List.mem_filter.mpr ⟨List.mem_of_getElem? (i := 903) (by decide +kernel), by decide +kernel⟩
theorem tw_904 : (Jvm.Cond.code ({ cls := "DropQueuesModel", name := "lay", desc := "()I" } : Jvm.MethodName) prog_10_method_24_code (1 : Nat) (Option.some Jvm.ClassFile.FieldType.int)) ∈ jAll := List.mem_filter.mpr ⟨List.mem_of_getElem? (i := 904) (by decide +kernel), by decide +kernel⟩
theorem tw_905 : (Jvm.Cond.methodLink "DropQueuesLaw" (60 : Nat) ({ cls := "DropQueuesModel", name := "undo", desc := "()I" } : Jvm.MethodName)) ∈ jAll := List.mem_filter.mpr ⟨List.mem_of_getElem? (i := 905) (by decide +kernel), by decide +kernel⟩
theorem tw_906 : (Jvm.Cond.instanceMethod ({ cls := "DropQueuesModel", name := "undo", desc := "()I" } : Jvm.MethodName)) ∈ jAll := List.mem_filter.mpr ⟨List.mem_of_getElem? (i := 906) (by decide +kernel), by decide +kernel⟩
theorem tw_907 : (Jvm.Cond.selects "DropQueuesModel" ({ cls := "DropQueuesModel", name := "undo", desc := "()I" } : Jvm.MethodName) ({ cls := "DropQueuesModel", name := "undo", desc := "()I" } : Jvm.MethodName)) ∈ jAll := List.mem_filter.mpr ⟨List.mem_of_getElem? (i := 907) (by decide +kernel), by decide +kernel⟩
theorem tw_908 : (Jvm.Cond.code ({ cls := "DropQueuesModel", name := "undo", desc := "()I" } : Jvm.MethodName) prog_10_method_26_code (2 : Nat) (Option.some Jvm.ClassFile.FieldType.int)) ∈ jAll := List.mem_filter.mpr ⟨List.mem_of_getElem? (i := 908) (by decide +kernel), by decide +kernel⟩
theorem tw_909 : (Jvm.Cond.methodLink "DropQueuesLaw" (35 : Nat) ({ cls := "DropQueuesModel", name := "feed", desc := "(III)I" } : Jvm.MethodName)) ∈ jAll := List.mem_filter.mpr ⟨List.mem_of_getElem? (i := 909) (by decide +kernel), by decide +kernel⟩
theorem tw_910 : (Jvm.Cond.instanceMethod ({ cls := "DropQueuesModel", name := "feed", desc := "(III)I" } : Jvm.MethodName)) ∈ jAll := List.mem_filter.mpr ⟨List.mem_of_getElem? (i := 910) (by decide +kernel), by decide +kernel⟩
theorem tw_911 : (Jvm.Cond.selects "DropQueuesModel" ({ cls := "DropQueuesModel", name := "feed", desc := "(III)I" } : Jvm.MethodName) ({ cls := "DropQueuesModel", name := "feed", desc := "(III)I" } : Jvm.MethodName)) ∈ jAll := List.mem_filter.mpr ⟨List.mem_of_getElem? (i := 911) (by decide +kernel), by decide +kernel⟩
theorem tw_912 : (Jvm.Cond.code ({ cls := "DropQueuesModel", name := "feed", desc := "(III)I" } : Jvm.MethodName) prog_10_method_32_code (4 : Nat) (Option.some Jvm.ClassFile.FieldType.int)) ∈ jAll := List.mem_filter.mpr ⟨List.mem_of_getElem? (i := 912) (by decide +kernel), by decide +kernel⟩
theorem tw_913 : (Jvm.Cond.methodLink "DropQueuesModel" (136 : Nat) ({ cls := "DropQueuesModel", name := "isQueue", desc := "(II)Z" } : Jvm.MethodName)) ∈ jAll := List.mem_filter.mpr ⟨List.mem_of_getElem? (i := 913) (by decide +kernel), by decide +kernel⟩
theorem tw_915 : (Jvm.Cond.instanceMethod ({ cls := "DropQueuesModel", name := "isQueue", desc := "(II)Z" } : Jvm.MethodName)) ∈ jAll := List.mem_filter.mpr ⟨List.mem_of_getElem? (i := 915) (by decide +kernel), by decide +kernel⟩
theorem tw_916 : (Jvm.Cond.code ({ cls := "DropQueuesModel", name := "isQueue", desc := "(II)Z" } : Jvm.MethodName) prog_10_method_30_code (3 : Nat) (Option.some Jvm.ClassFile.FieldType.boolean)) ∈ jAll := List.mem_filter.mpr ⟨List.mem_of_getElem? (i := 916) (by decide +kernel), by decide +kernel⟩
theorem tw_917 : (Jvm.Cond.methodLink "DropQueuesModel" (127 : Nat) ({ cls := "DropQueuesModel", name := "isNode", desc := "(I)Z" } : Jvm.MethodName)) ∈ jAll := List.mem_filter.mpr ⟨List.mem_of_getElem? (i := 917) (by decide +kernel), by decide +kernel⟩
theorem tw_919 : (Jvm.Cond.instanceMethod ({ cls := "DropQueuesModel", name := "isNode", desc := "(I)Z" } : Jvm.MethodName)) ∈ jAll := List.mem_filter.mpr ⟨List.mem_of_getElem? (i := 919) (by decide +kernel), by decide +kernel⟩
theorem tw_920 : (Jvm.Cond.code ({ cls := "DropQueuesModel", name := "isNode", desc := "(I)Z" } : Jvm.MethodName) prog_10_method_27_code (2 : Nat) (Option.some Jvm.ClassFile.FieldType.boolean)) ∈ jAll := List.mem_filter.mpr ⟨List.mem_of_getElem? (i := 920) (by decide +kernel), by decide +kernel⟩
theorem tw_921 : (Jvm.Cond.methodLink "DropQueuesModel" (130 : Nat) ({ cls := "DropQueuesModel", name := "isGoal", desc := "(I)Z" } : Jvm.MethodName)) ∈ jAll := List.mem_filter.mpr ⟨List.mem_of_getElem? (i := 921) (by decide +kernel), by decide +kernel⟩
theorem tw_923 : (Jvm.Cond.instanceMethod ({ cls := "DropQueuesModel", name := "isGoal", desc := "(I)Z" } : Jvm.MethodName)) ∈ jAll := List.mem_filter.mpr ⟨List.mem_of_getElem? (i := 923) (by decide +kernel), by decide +kernel⟩
theorem tw_924 : (Jvm.Cond.code ({ cls := "DropQueuesModel", name := "isGoal", desc := "(I)Z" } : Jvm.MethodName) prog_10_method_28_code (2 : Nat) (Option.some Jvm.ClassFile.FieldType.boolean)) ∈ jAll := List.mem_filter.mpr ⟨List.mem_of_getElem? (i := 924) (by decide +kernel), by decide +kernel⟩
theorem tw_925 : (Jvm.Cond.methodLink "DropQueuesModel" (139 : Nat) ({ cls := "DropQueuesModel", name := "becomes", desc := "(II)I" } : Jvm.MethodName)) ∈ jAll := List.mem_filter.mpr ⟨List.mem_of_getElem? (i := 925) (by decide +kernel), by decide +kernel⟩
theorem tw_927 : (Jvm.Cond.instanceMethod ({ cls := "DropQueuesModel", name := "becomes", desc := "(II)I" } : Jvm.MethodName)) ∈ jAll := List.mem_filter.mpr ⟨List.mem_of_getElem? (i := 927) (by decide +kernel), by decide +kernel⟩
theorem tw_928 : (Jvm.Cond.code ({ cls := "DropQueuesModel", name := "becomes", desc := "(II)I" } : Jvm.MethodName) prog_10_method_31_code (4 : Nat) (Option.some Jvm.ClassFile.FieldType.int)) ∈ jAll := List.mem_filter.mpr ⟨List.mem_of_getElem? (i := 928) (by decide +kernel), by decide +kernel⟩
theorem tw_929 : (Jvm.Cond.methodLink "DropQueuesModel" (133 : Nat) ({ cls := "DropQueuesModel", name := "keeps", desc := "()V" } : Jvm.MethodName)) ∈ jAll := List.mem_filter.mpr ⟨List.mem_of_getElem? (i := 929) (by decide +kernel), by decide +kernel⟩
theorem tw_931 : (Jvm.Cond.instanceMethod ({ cls := "DropQueuesModel", name := "keeps", desc := "()V" } : Jvm.MethodName)) ∈ jAll := List.mem_filter.mpr ⟨List.mem_of_getElem? (i := 931) (by decide +kernel), by decide +kernel⟩
theorem tw_932 : (Jvm.Cond.code ({ cls := "DropQueuesModel", name := "keeps", desc := "()V" } : Jvm.MethodName) prog_10_method_25_code (2 : Nat) (Option.none : Option Jvm.ClassFile.FieldType)) ∈ jAll := List.mem_filter.mpr ⟨List.mem_of_getElem? (i := 932) (by decide +kernel), by decide +kernel⟩
theorem tw_933 : (Jvm.Cond.methodLink "DropQueuesLaw" (40 : Nat) ({ cls := "DropQueuesModel", name := "room", desc := "(II)I" } : Jvm.MethodName)) ∈ jAll := List.mem_filter.mpr ⟨List.mem_of_getElem? (i := 933) (by decide +kernel), by decide +kernel⟩
theorem tw_934 : (Jvm.Cond.instanceMethod ({ cls := "DropQueuesModel", name := "room", desc := "(II)I" } : Jvm.MethodName)) ∈ jAll := List.mem_filter.mpr ⟨List.mem_of_getElem? (i := 934) (by decide +kernel), by decide +kernel⟩
theorem tw_935 : (Jvm.Cond.selects "DropQueuesModel" ({ cls := "DropQueuesModel", name := "room", desc := "(II)I" } : Jvm.MethodName) ({ cls := "DropQueuesModel", name := "room", desc := "(II)I" } : Jvm.MethodName)) ∈ jAll := List.mem_filter.mpr ⟨List.mem_of_getElem? (i := 935) (by decide +kernel), by decide +kernel⟩
theorem tw_936 : (Jvm.Cond.code ({ cls := "DropQueuesModel", name := "room", desc := "(II)I" } : Jvm.MethodName) prog_10_method_33_code (3 : Nat) (Option.some Jvm.ClassFile.FieldType.int)) ∈ jAll := List.mem_filter.mpr ⟨List.mem_of_getElem? (i := 936) (by decide +kernel), by decide +kernel⟩
theorem tw_937 : (Jvm.Cond.methodLink "DropQueuesModel" (143 : Nat) ({ cls := "DropQueuesModel", name := "isLink", desc := "(I)Z" } : Jvm.MethodName)) ∈ jAll := List.mem_filter.mpr ⟨List.mem_of_getElem? (i := 937) (by decide +kernel), by decide +kernel⟩
theorem tw_939 : (Jvm.Cond.instanceMethod ({ cls := "DropQueuesModel", name := "isLink", desc := "(I)Z" } : Jvm.MethodName)) ∈ jAll := List.mem_filter.mpr ⟨List.mem_of_getElem? (i := 939) (by decide +kernel), by decide +kernel⟩
theorem tw_940 : (Jvm.Cond.code ({ cls := "DropQueuesModel", name := "isLink", desc := "(I)Z" } : Jvm.MethodName) prog_10_method_29_code (2 : Nat) (Option.some Jvm.ClassFile.FieldType.boolean)) ∈ jAll := List.mem_filter.mpr ⟨List.mem_of_getElem? (i := 940) (by decide +kernel), by decide +kernel⟩
theorem tw_941 : (Jvm.Cond.methodLink "DropQueuesLaw" (44 : Nat) ({ cls := "DropQueuesModel", name := "tell", desc := "(II)I" } : Jvm.MethodName)) ∈ jAll := List.mem_filter.mpr ⟨List.mem_of_getElem? (i := 941) (by decide +kernel), by decide +kernel⟩
theorem tw_942 : (Jvm.Cond.instanceMethod ({ cls := "DropQueuesModel", name := "tell", desc := "(II)I" } : Jvm.MethodName)) ∈ jAll := List.mem_filter.mpr ⟨List.mem_of_getElem? (i := 942) (by decide +kernel), by decide +kernel⟩
theorem tw_943 : (Jvm.Cond.selects "DropQueuesModel" ({ cls := "DropQueuesModel", name := "tell", desc := "(II)I" } : Jvm.MethodName) ({ cls := "DropQueuesModel", name := "tell", desc := "(II)I" } : Jvm.MethodName)) ∈ jAll := List.mem_filter.mpr ⟨List.mem_of_getElem? (i := 943) (by decide +kernel), by decide +kernel⟩
theorem tw_944 : (Jvm.Cond.code ({ cls := "DropQueuesModel", name := "tell", desc := "(II)I" } : Jvm.MethodName) prog_10_method_34_code (3 : Nat) (Option.some Jvm.ClassFile.FieldType.int)) ∈ jAll := List.mem_filter.mpr ⟨List.mem_of_getElem? (i := 944) (by decide +kernel), by decide +kernel⟩
theorem tw_945 : (Jvm.Cond.methodLink "DropQueuesLaw" (48 : Nat) ({ cls := "DropQueuesModel", name := "clash", desc := "(III)I" } : Jvm.MethodName)) ∈ jAll := List.mem_filter.mpr ⟨List.mem_of_getElem? (i := 945) (by decide +kernel), by decide +kernel⟩
theorem tw_946 : (Jvm.Cond.instanceMethod ({ cls := "DropQueuesModel", name := "clash", desc := "(III)I" } : Jvm.MethodName)) ∈ jAll := List.mem_filter.mpr ⟨List.mem_of_getElem? (i := 946) (by decide +kernel), by decide +kernel⟩
theorem tw_947 : (Jvm.Cond.selects "DropQueuesModel" ({ cls := "DropQueuesModel", name := "clash", desc := "(III)I" } : Jvm.MethodName) ({ cls := "DropQueuesModel", name := "clash", desc := "(III)I" } : Jvm.MethodName)) ∈ jAll := List.mem_filter.mpr ⟨List.mem_of_getElem? (i := 947) (by decide +kernel), by decide +kernel⟩
theorem tw_948 : (Jvm.Cond.code ({ cls := "DropQueuesModel", name := "clash", desc := "(III)I" } : Jvm.MethodName) prog_10_method_36_code (4 : Nat) (Option.some Jvm.ClassFile.FieldType.int)) ∈ jAll := List.mem_filter.mpr ⟨List.mem_of_getElem? (i := 948) (by decide +kernel), by decide +kernel⟩
theorem tw_949 : (Jvm.Cond.methodLink "DropQueuesModel" (150 : Nat) ({ cls := "DropQueuesModel", name := "has", desc := "(II)Z" } : Jvm.MethodName)) ∈ jAll := List.mem_filter.mpr ⟨List.mem_of_getElem? (i := 949) (by decide +kernel), by decide +kernel⟩
theorem tw_950 : (Jvm.Cond.static ({ cls := "DropQueuesModel", name := "has", desc := "(II)Z" } : Jvm.MethodName)) ∈ jAll := List.mem_filter.mpr ⟨List.mem_of_getElem? (i := 950) (by decide +kernel), by decide +kernel⟩
theorem tw_951 : (Jvm.Cond.code ({ cls := "DropQueuesModel", name := "has", desc := "(II)Z" } : Jvm.MethodName) prog_10_method_4_code (2 : Nat) (Option.some Jvm.ClassFile.FieldType.boolean)) ∈ jAll := List.mem_filter.mpr ⟨List.mem_of_getElem? (i := 951) (by decide +kernel), by decide +kernel⟩
theorem tw_952 : (Jvm.Cond.methodLink "DropQueuesModel" (153 : Nat) ({ cls := "DropQueuesModel", name := "pairs", desc := "()I" } : Jvm.MethodName)) ∈ jAll := List.mem_filter.mpr ⟨List.mem_of_getElem? (i := 952) (by decide +kernel), by decide +kernel⟩
theorem tw_954 : (Jvm.Cond.instanceMethod ({ cls := "DropQueuesModel", name := "pairs", desc := "()I" } : Jvm.MethodName)) ∈ jAll := List.mem_filter.mpr ⟨List.mem_of_getElem? (i := 954) (by decide +kernel), by decide +kernel⟩
theorem tw_955 : (Jvm.Cond.code ({ cls := "DropQueuesModel", name := "pairs", desc := "()I" } : Jvm.MethodName) prog_10_method_35_code (3 : Nat) (Option.some Jvm.ClassFile.FieldType.int)) ∈ jAll := List.mem_filter.mpr ⟨List.mem_of_getElem? (i := 955) (by decide +kernel), by decide +kernel⟩
theorem tw_956 : (Jvm.Cond.methodLink "DropQueuesModel" (146 : Nat) ({ cls := "DropQueuesModel", name := "ones", desc := "(I)I" } : Jvm.MethodName)) ∈ jAll := List.mem_filter.mpr ⟨List.mem_of_getElem? (i := 956) (by decide +kernel), by decide +kernel⟩
theorem tw_957 : (Jvm.Cond.static ({ cls := "DropQueuesModel", name := "ones", desc := "(I)I" } : Jvm.MethodName)) ∈ jAll := List.mem_filter.mpr ⟨List.mem_of_getElem? (i := 957) (by decide +kernel), by decide +kernel⟩
theorem tw_958 : (Jvm.Cond.code ({ cls := "DropQueuesModel", name := "ones", desc := "(I)I" } : Jvm.MethodName) prog_10_method_5_code (3 : Nat) (Option.some Jvm.ClassFile.FieldType.int)) ∈ jAll := List.mem_filter.mpr ⟨List.mem_of_getElem? (i := 958) (by decide +kernel), by decide +kernel⟩
theorem tw_959 : (Jvm.Cond.methodLink "DropQueuesLaw" (52 : Nat) ({ cls := "DropQueuesModel", name := "put", desc := "(III)I" } : Jvm.MethodName)) ∈ jAll := List.mem_filter.mpr ⟨List.mem_of_getElem? (i := 959) (by decide +kernel), by decide +kernel⟩
theorem tw_960 : (Jvm.Cond.instanceMethod ({ cls := "DropQueuesModel", name := "put", desc := "(III)I" } : Jvm.MethodName)) ∈ jAll := List.mem_filter.mpr ⟨List.mem_of_getElem? (i := 960) (by decide +kernel), by decide +kernel⟩
theorem tw_961 : (Jvm.Cond.selects "DropQueuesModel" ({ cls := "DropQueuesModel", name := "put", desc := "(III)I" } : Jvm.MethodName) ({ cls := "DropQueuesModel", name := "put", desc := "(III)I" } : Jvm.MethodName)) ∈ jAll := List.mem_filter.mpr ⟨List.mem_of_getElem? (i := 961) (by decide +kernel), by decide +kernel⟩
theorem tw_962 : (Jvm.Cond.code ({ cls := "DropQueuesModel", name := "put", desc := "(III)I" } : Jvm.MethodName) prog_10_method_41_code (6 : Nat) (Option.some Jvm.ClassFile.FieldType.int)) ∈ jAll := List.mem_filter.mpr ⟨List.mem_of_getElem? (i := 962) (by decide +kernel), by decide +kernel⟩
theorem tw_963 : (Jvm.Cond.constantLong "DropQueuesModel" (159 : Nat) (40 : Int64)) ∈ jAll := List.mem_filter.mpr ⟨List.mem_of_getElem? (i := 963) (by decide +kernel), by decide +kernel⟩
theorem tw_964 : (Jvm.Cond.methodLink "DropQueuesModel" (161 : Nat) ({ cls := "DropQueuesModel", name := "manyIn", desc := "(II)I" } : Jvm.MethodName)) ∈ jAll := List.mem_filter.mpr ⟨List.mem_of_getElem? (i := 964) (by decide +kernel), by decide +kernel⟩
theorem tw_966 : (Jvm.Cond.instanceMethod ({ cls := "DropQueuesModel", name := "manyIn", desc := "(II)I" } : Jvm.MethodName)) ∈ jAll := List.mem_filter.mpr ⟨List.mem_of_getElem? (i := 966) (by decide +kernel), by decide +kernel⟩
theorem tw_967 : (Jvm.Cond.code ({ cls := "DropQueuesModel", name := "manyIn", desc := "(II)I" } : Jvm.MethodName) prog_10_method_38_code (3 : Nat) (Option.some Jvm.ClassFile.FieldType.int)) ∈ jAll := List.mem_filter.mpr ⟨List.mem_of_getElem? (i := 967) (by decide +kernel), by decide +kernel⟩
theorem tw_968 : (Jvm.Cond.methodLink "DropQueuesModel" (156 : Nat) ({ cls := "DropQueuesModel", name := "queuePlace", desc := "(II)I" } : Jvm.MethodName)) ∈ jAll := List.mem_filter.mpr ⟨List.mem_of_getElem? (i := 968) (by decide +kernel), by decide +kernel⟩
theorem tw_969 : (Jvm.Cond.static ({ cls := "DropQueuesModel", name := "queuePlace", desc := "(II)I" } : Jvm.MethodName)) ∈ jAll := List.mem_filter.mpr ⟨List.mem_of_getElem? (i := 969) (by decide +kernel), by decide +kernel⟩
theorem tw_970 : (Jvm.Cond.code ({ cls := "DropQueuesModel", name := "queuePlace", desc := "(II)I" } : Jvm.MethodName) prog_10_method_37_code (2 : Nat) (Option.some Jvm.ClassFile.FieldType.int)) ∈ jAll := List.mem_filter.mpr ⟨List.mem_of_getElem? (i := 970) (by decide +kernel), by decide +kernel⟩
theorem tw_971 : (Jvm.Cond.methodLink "DropQueuesModel" (164 : Nat) ({ cls := "DropQueuesModel", name := "comes", desc := "(III)Z" } : Jvm.MethodName)) ∈ jAll := List.mem_filter.mpr ⟨List.mem_of_getElem? (i := 971) (by decide +kernel), by decide +kernel⟩
theorem tw_973 : (Jvm.Cond.instanceMethod ({ cls := "DropQueuesModel", name := "comes", desc := "(III)Z" } : Jvm.MethodName)) ∈ jAll := List.mem_filter.mpr ⟨List.mem_of_getElem? (i := 973) (by decide +kernel), by decide +kernel⟩
theorem tw_974 : (Jvm.Cond.code ({ cls := "DropQueuesModel", name := "comes", desc := "(III)Z" } : Jvm.MethodName) prog_10_method_39_code (5 : Nat) (Option.some Jvm.ClassFile.FieldType.boolean)) ∈ jAll := List.mem_filter.mpr ⟨List.mem_of_getElem? (i := 974) (by decide +kernel), by decide +kernel⟩
theorem tw_975 : (Jvm.Cond.methodLink "DropQueuesLaw" (56 : Nat) ({ cls := "DropQueuesModel", name := "slot", desc := "(I)I" } : Jvm.MethodName)) ∈ jAll := List.mem_filter.mpr ⟨List.mem_of_getElem? (i := 975) (by decide +kernel), by decide +kernel⟩
theorem tw_976 : (Jvm.Cond.instanceMethod ({ cls := "DropQueuesModel", name := "slot", desc := "(I)I" } : Jvm.MethodName)) ∈ jAll := List.mem_filter.mpr ⟨List.mem_of_getElem? (i := 976) (by decide +kernel), by decide +kernel⟩
theorem tw_977 : (Jvm.Cond.selects "DropQueuesModel" ({ cls := "DropQueuesModel", name := "slot", desc := "(I)I" } : Jvm.MethodName) ({ cls := "DropQueuesModel", name := "slot", desc := "(I)I" } : Jvm.MethodName)) ∈ jAll := List.mem_filter.mpr ⟨List.mem_of_getElem? (i := 977) (by decide +kernel), by decide +kernel⟩
theorem tw_978 : (Jvm.Cond.code ({ cls := "DropQueuesModel", name := "slot", desc := "(I)I" } : Jvm.MethodName) prog_10_method_60_code (4 : Nat) (Option.some Jvm.ClassFile.FieldType.int)) ∈ jAll := List.mem_filter.mpr ⟨List.mem_of_getElem? (i := 978) (by decide +kernel), by decide +kernel⟩
theorem tw_979 : (Jvm.Cond.constantLong "DropQueuesModel" (224 : Nat) (60 : Int64)) ∈ jAll := List.mem_filter.mpr ⟨List.mem_of_getElem? (i := 979) (by decide +kernel), by decide +kernel⟩
theorem tw_980 : (Jvm.Cond.methodLink "DropQueuesModel" (226 : Nat) ({ cls := "DropQueuesModel", name := "laysFeeds", desc := "()V" } : Jvm.MethodName)) ∈ jAll := List.mem_filter.mpr ⟨List.mem_of_getElem? (i := 980) (by decide +kernel), by decide +kernel⟩
theorem tw_982 : (Jvm.Cond.instanceMethod ({ cls := "DropQueuesModel", name := "laysFeeds", desc := "()V" } : Jvm.MethodName)) ∈ jAll := List.mem_filter.mpr ⟨List.mem_of_getElem? (i := 982) (by decide +kernel), by decide +kernel⟩
theorem tw_983 : (Jvm.Cond.code ({ cls := "DropQueuesModel", name := "laysFeeds", desc := "()V" } : Jvm.MethodName) prog_10_method_55_code (2 : Nat) (Option.none : Option Jvm.ClassFile.FieldType)) ∈ jAll := List.mem_filter.mpr ⟨List.mem_of_getElem? (i := 983) (by decide +kernel), by decide +kernel⟩
theorem tw_984 : (Jvm.Cond.methodLink "DropQueuesModel" (229 : Nat) ({ cls := "DropQueuesModel", name := "thereAll", desc := "()I" } : Jvm.MethodName)) ∈ jAll := List.mem_filter.mpr ⟨List.mem_of_getElem? (i := 984) (by decide +kernel), by decide +kernel⟩
theorem tw_986 : (Jvm.Cond.instanceMethod ({ cls := "DropQueuesModel", name := "thereAll", desc := "()I" } : Jvm.MethodName)) ∈ jAll := List.mem_filter.mpr ⟨List.mem_of_getElem? (i := 986) (by decide +kernel), by decide +kernel⟩
theorem tw_987 : (Jvm.Cond.code ({ cls := "DropQueuesModel", name := "thereAll", desc := "()I" } : Jvm.MethodName) prog_10_method_57_code (1 : Nat) (Option.some Jvm.ClassFile.FieldType.int)) ∈ jAll := List.mem_filter.mpr ⟨List.mem_of_getElem? (i := 987) (by decide +kernel), by decide +kernel⟩
theorem tw_988 : (Jvm.Cond.methodLink "DropQueuesModel" (232 : Nat) ({ cls := "DropQueuesModel", name := "goesOn", desc := "(I)V" } : Jvm.MethodName)) ∈ jAll := List.mem_filter.mpr ⟨List.mem_of_getElem? (i := 988) (by decide +kernel), by decide +kernel⟩
theorem tw_990 : (Jvm.Cond.instanceMethod ({ cls := "DropQueuesModel", name := "goesOn", desc := "(I)V" } : Jvm.MethodName)) ∈ jAll := List.mem_filter.mpr ⟨List.mem_of_getElem? (i := 990) (by decide +kernel), by decide +kernel⟩
theorem tw_991 : (Jvm.Cond.code ({ cls := "DropQueuesModel", name := "goesOn", desc := "(I)V" } : Jvm.MethodName) prog_10_method_54_code (6 : Nat) (Option.none : Option Jvm.ClassFile.FieldType)) ∈ jAll := List.mem_filter.mpr ⟨List.mem_of_getElem? (i := 991) (by decide +kernel), by decide +kernel⟩
theorem tw_992 : (Jvm.Cond.methodLink "DropQueuesModel" (195 : Nat) ({ cls := "DropQueuesModel", name := "findsChoices", desc := "()V" } : Jvm.MethodName)) ∈ jAll := List.mem_filter.mpr ⟨List.mem_of_getElem? (i := 992) (by decide +kernel), by decide +kernel⟩
theorem tw_994 : (Jvm.Cond.instanceMethod ({ cls := "DropQueuesModel", name := "findsChoices", desc := "()V" } : Jvm.MethodName)) ∈ jAll := List.mem_filter.mpr ⟨List.mem_of_getElem? (i := 994) (by decide +kernel), by decide +kernel⟩
theorem tw_995 : (Jvm.Cond.code ({ cls := "DropQueuesModel", name := "findsChoices", desc := "()V" } : Jvm.MethodName) prog_10_method_48_code (5 : Nat) (Option.none : Option Jvm.ClassFile.FieldType)) ∈ jAll := List.mem_filter.mpr ⟨List.mem_of_getElem? (i := 995) (by decide +kernel), by decide +kernel⟩
theorem tw_996 : (Jvm.Cond.methodLink "DropQueuesModel" (177 : Nat) ({ cls := "DropQueuesModel", name := "findsHops", desc := "()V" } : Jvm.MethodName)) ∈ jAll := List.mem_filter.mpr ⟨List.mem_of_getElem? (i := 996) (by decide +kernel), by decide +kernel⟩
theorem tw_998 : (Jvm.Cond.instanceMethod ({ cls := "DropQueuesModel", name := "findsHops", desc := "()V" } : Jvm.MethodName)) ∈ jAll := List.mem_filter.mpr ⟨List.mem_of_getElem? (i := 998) (by decide +kernel), by decide +kernel⟩
theorem tw_999 : (Jvm.Cond.code ({ cls := "DropQueuesModel", name := "findsHops", desc := "()V" } : Jvm.MethodName) prog_10_method_42_code (6 : Nat) (Option.none : Option Jvm.ClassFile.FieldType)) ∈ jAll := List.mem_filter.mpr ⟨List.mem_of_getElem? (i := 999) (by decide +kernel), by decide +kernel⟩
theorem tw_1000 : (Jvm.Cond.methodLink "DropQueuesModel" (168 : Nat) ({ cls := "DropQueuesModel", name := "firstOf", desc := "(I)I" } : Jvm.MethodName)) ∈ jAll := List.mem_filter.mpr ⟨List.mem_of_getElem? (i := 1000) (by decide +kernel), by decide +kernel⟩
theorem tw_1002 : (Jvm.Cond.instanceMethod ({ cls := "DropQueuesModel", name := "firstOf", desc := "(I)I" } : Jvm.MethodName)) ∈ jAll := List.mem_filter.mpr ⟨List.mem_of_getElem? (i := 1002) (by decide +kernel), by decide +kernel⟩
theorem tw_1003 : (Jvm.Cond.code ({ cls := "DropQueuesModel", name := "firstOf", desc := "(I)I" } : Jvm.MethodName) prog_10_method_43_code (2 : Nat) (Option.some Jvm.ClassFile.FieldType.int)) ∈ jAll := List.mem_filter.mpr ⟨List.mem_of_getElem? (i := 1003) (by decide +kernel), by decide +kernel⟩
theorem tw_1004 : (Jvm.Cond.methodLink "DropQueuesModel" (171 : Nat) ({ cls := "DropQueuesModel", name := "secondOf", desc := "(I)I" } : Jvm.MethodName)) ∈ jAll := List.mem_filter.mpr ⟨List.mem_of_getElem? (i := 1004) (by decide +kernel), by decide +kernel⟩
theorem tw_1006 : (Jvm.Cond.instanceMethod ({ cls := "DropQueuesModel", name := "secondOf", desc := "(I)I" } : Jvm.MethodName)) ∈ jAll := List.mem_filter.mpr ⟨List.mem_of_getElem? (i := 1006) (by decide +kernel), by decide +kernel⟩
theorem tw_1007 : (Jvm.Cond.code ({ cls := "DropQueuesModel", name := "secondOf", desc := "(I)I" } : Jvm.MethodName) prog_10_method_44_code (2 : Nat) (Option.some Jvm.ClassFile.FieldType.int)) ∈ jAll := List.mem_filter.mpr ⟨List.mem_of_getElem? (i := 1007) (by decide +kernel), by decide +kernel⟩
theorem tw_1008 : (Jvm.Cond.methodLink "DropQueuesModel" (180 : Nat) ({ cls := "DropQueuesModel", name := "dropOf", desc := "(II)I" } : Jvm.MethodName)) ∈ jAll := List.mem_filter.mpr ⟨List.mem_of_getElem? (i := 1008) (by decide +kernel), by decide +kernel⟩
theorem tw_1010 : (Jvm.Cond.instanceMethod ({ cls := "DropQueuesModel", name := "dropOf", desc := "(II)I" } : Jvm.MethodName)) ∈ jAll := List.mem_filter.mpr ⟨List.mem_of_getElem? (i := 1010) (by decide +kernel), by decide +kernel⟩
theorem tw_1011 : (Jvm.Cond.code ({ cls := "DropQueuesModel", name := "dropOf", desc := "(II)I" } : Jvm.MethodName) prog_10_method_47_code (3 : Nat) (Option.some Jvm.ClassFile.FieldType.int)) ∈ jAll := List.mem_filter.mpr ⟨List.mem_of_getElem? (i := 1011) (by decide +kernel), by decide +kernel⟩
theorem tw_1012 : (Jvm.Cond.methodLink "DropQueuesModel" (174 : Nat) ({ cls := "DropQueuesModel", name := "heightOf", desc := "(II)I" } : Jvm.MethodName)) ∈ jAll := List.mem_filter.mpr ⟨List.mem_of_getElem? (i := 1012) (by decide +kernel), by decide +kernel⟩
theorem tw_1014 : (Jvm.Cond.instanceMethod ({ cls := "DropQueuesModel", name := "heightOf", desc := "(II)I" } : Jvm.MethodName)) ∈ jAll := List.mem_filter.mpr ⟨List.mem_of_getElem? (i := 1014) (by decide +kernel), by decide +kernel⟩
theorem tw_1015 : (Jvm.Cond.code ({ cls := "DropQueuesModel", name := "heightOf", desc := "(II)I" } : Jvm.MethodName) prog_10_method_46_code (3 : Nat) (Option.some Jvm.ClassFile.FieldType.int)) ∈ jAll := List.mem_filter.mpr ⟨List.mem_of_getElem? (i := 1015) (by decide +kernel), by decide +kernel⟩
theorem tw_1016 : (Jvm.Cond.methodLink "DropQueuesModel" (183 : Nat) ({ cls := "DropQueuesModel", name := "roomOf", desc := "(I)I" } : Jvm.MethodName)) ∈ jAll := List.mem_filter.mpr ⟨List.mem_of_getElem? (i := 1016) (by decide +kernel), by decide +kernel⟩
theorem tw_1018 : (Jvm.Cond.instanceMethod ({ cls := "DropQueuesModel", name := "roomOf", desc := "(I)I" } : Jvm.MethodName)) ∈ jAll := List.mem_filter.mpr ⟨List.mem_of_getElem? (i := 1018) (by decide +kernel), by decide +kernel⟩
theorem tw_1019 : (Jvm.Cond.code ({ cls := "DropQueuesModel", name := "roomOf", desc := "(I)I" } : Jvm.MethodName) prog_10_method_45_code (2 : Nat) (Option.some Jvm.ClassFile.FieldType.int)) ∈ jAll := List.mem_filter.mpr ⟨List.mem_of_getElem? (i := 1019) (by decide +kernel), by decide +kernel⟩
theorem tw_1020 : (Jvm.Cond.methodLink "DropQueuesModel" (198 : Nat) ({ cls := "DropQueuesModel", name := "findsGoing", desc := "(I)V" } : Jvm.MethodName)) ∈ jAll := List.mem_filter.mpr ⟨List.mem_of_getElem? (i := 1020) (by decide +kernel), by decide +kernel⟩
theorem tw_1022 : (Jvm.Cond.instanceMethod ({ cls := "DropQueuesModel", name := "findsGoing", desc := "(I)V" } : Jvm.MethodName)) ∈ jAll := List.mem_filter.mpr ⟨List.mem_of_getElem? (i := 1022) (by decide +kernel), by decide +kernel⟩
theorem tw_1023 : (Jvm.Cond.code ({ cls := "DropQueuesModel", name := "findsGoing", desc := "(I)V" } : Jvm.MethodName) prog_10_method_50_code (7 : Nat) (Option.none : Option Jvm.ClassFile.FieldType)) ∈ jAll := List.mem_filter.mpr ⟨List.mem_of_getElem? (i := 1023) (by decide +kernel), by decide +kernel⟩
theorem tw_1024 : (Jvm.Cond.methodLink "DropQueuesModel" (192 : Nat) ({ cls := "DropQueuesModel", name := "lowestOf", desc := "(I)I" } : Jvm.MethodName)) ∈ jAll := List.mem_filter.mpr ⟨List.mem_of_getElem? (i := 1024) (by decide +kernel), by decide +kernel⟩
theorem tw_1025 : (Jvm.Cond.static ({ cls := "DropQueuesModel", name := "lowestOf", desc := "(I)I" } : Jvm.MethodName)) ∈ jAll := List.mem_filter.mpr ⟨List.mem_of_getElem? (i := 1025) (by decide +kernel), by decide +kernel⟩
theorem tw_1026 : (Jvm.Cond.code ({ cls := "DropQueuesModel", name := "lowestOf", desc := "(I)I" } : Jvm.MethodName) prog_10_method_49_code (2 : Nat) (Option.some Jvm.ClassFile.FieldType.int)) ∈ jAll := List.mem_filter.mpr ⟨List.mem_of_getElem? (i := 1026) (by decide +kernel), by decide +kernel⟩
theorem tw_1027 : (Jvm.Cond.methodLink "DropQueuesModel" (205 : Nat) ({ cls := "DropQueuesModel", name := "carries", desc := "()I" } : Jvm.MethodName)) ∈ jAll := List.mem_filter.mpr ⟨List.mem_of_getElem? (i := 1027) (by decide +kernel), by decide +kernel⟩
theorem tw_1029 : (Jvm.Cond.instanceMethod ({ cls := "DropQueuesModel", name := "carries", desc := "()I" } : Jvm.MethodName)) ∈ jAll := List.mem_filter.mpr ⟨List.mem_of_getElem? (i := 1029) (by decide +kernel), by decide +kernel⟩
theorem tw_1030 : (Jvm.Cond.code ({ cls := "DropQueuesModel", name := "carries", desc := "()I" } : Jvm.MethodName) prog_10_method_52_code (5 : Nat) (Option.some Jvm.ClassFile.FieldType.int)) ∈ jAll := List.mem_filter.mpr ⟨List.mem_of_getElem? (i := 1030) (by decide +kernel), by decide +kernel⟩
theorem tw_1031 : (Jvm.Cond.methodLink "DropQueuesModel" (202 : Nat) ({ cls := "DropQueuesModel", name := "leaves", desc := "(II)I" } : Jvm.MethodName)) ∈ jAll := List.mem_filter.mpr ⟨List.mem_of_getElem? (i := 1031) (by decide +kernel), by decide +kernel⟩
theorem tw_1033 : (Jvm.Cond.instanceMethod ({ cls := "DropQueuesModel", name := "leaves", desc := "(II)I" } : Jvm.MethodName)) ∈ jAll := List.mem_filter.mpr ⟨List.mem_of_getElem? (i := 1033) (by decide +kernel), by decide +kernel⟩
theorem tw_1034 : (Jvm.Cond.code ({ cls := "DropQueuesModel", name := "leaves", desc := "(II)I" } : Jvm.MethodName) prog_10_method_40_code (6 : Nat) (Option.some Jvm.ClassFile.FieldType.int)) ∈ jAll := List.mem_filter.mpr ⟨List.mem_of_getElem? (i := 1034) (by decide +kernel), by decide +kernel⟩
theorem tw_1035 : (Jvm.Cond.methodLink "DropQueuesModel" (208 : Nat) ({ cls := "DropQueuesModel", name := "isThere", desc := "(II)V" } : Jvm.MethodName)) ∈ jAll := List.mem_filter.mpr ⟨List.mem_of_getElem? (i := 1035) (by decide +kernel), by decide +kernel⟩
theorem tw_1037 : (Jvm.Cond.instanceMethod ({ cls := "DropQueuesModel", name := "isThere", desc := "(II)V" } : Jvm.MethodName)) ∈ jAll := List.mem_filter.mpr ⟨List.mem_of_getElem? (i := 1037) (by decide +kernel), by decide +kernel⟩
theorem tw_1038 : (Jvm.Cond.code ({ cls := "DropQueuesModel", name := "isThere", desc := "(II)V" } : Jvm.MethodName) prog_10_method_53_code (4 : Nat) (Option.none : Option Jvm.ClassFile.FieldType)) ∈ jAll := List.mem_filter.mpr ⟨List.mem_of_getElem? (i := 1038) (by decide +kernel), by decide +kernel⟩
theorem tw_1039 : (Jvm.Cond.methodLink "DropQueuesLaw" (64 : Nat) ({ cls := "DropQueuesModel", name := "queue", desc := "(III)I" } : Jvm.MethodName)) ∈ jAll := List.mem_filter.mpr ⟨List.mem_of_getElem? (i := 1039) (by decide +kernel), by decide +kernel⟩
theorem tw_1040 : (Jvm.Cond.instanceMethod ({ cls := "DropQueuesModel", name := "queue", desc := "(III)I" } : Jvm.MethodName)) ∈ jAll := List.mem_filter.mpr ⟨List.mem_of_getElem? (i := 1040) (by decide +kernel), by decide +kernel⟩
theorem tw_1041 : (Jvm.Cond.selects "DropQueuesModel" ({ cls := "DropQueuesModel", name := "queue", desc := "(III)I" } : Jvm.MethodName) ({ cls := "DropQueuesModel", name := "queue", desc := "(III)I" } : Jvm.MethodName)) ∈ jAll := List.mem_filter.mpr ⟨List.mem_of_getElem? (i := 1041) (by decide +kernel), by decide +kernel⟩
theorem tw_1042 : (Jvm.Cond.code ({ cls := "DropQueuesModel", name := "queue", desc := "(III)I" } : Jvm.MethodName) prog_10_method_65_code (4 : Nat) (Option.some Jvm.ClassFile.FieldType.int)) ∈ jAll := List.mem_filter.mpr ⟨List.mem_of_getElem? (i := 1042) (by decide +kernel), by decide +kernel⟩
theorem tw_1043 : (Jvm.Cond.constantLong "DropQueuesModel" (235 : Nat) (3 : Int64)) ∈ jAll := List.mem_filter.mpr ⟨List.mem_of_getElem? (i := 1043) (by decide +kernel), by decide +kernel⟩
theorem tw_1044 : (Jvm.Cond.methodLink "DropQueuesModel" (237 : Nat) ({ cls := "DropQueuesModel", name := "bornNext", desc := "(II)I" } : Jvm.MethodName)) ∈ jAll := List.mem_filter.mpr ⟨List.mem_of_getElem? (i := 1044) (by decide +kernel), by decide +kernel⟩
theorem tw_1046 : (Jvm.Cond.instanceMethod ({ cls := "DropQueuesModel", name := "bornNext", desc := "(II)I" } : Jvm.MethodName)) ∈ jAll := List.mem_filter.mpr ⟨List.mem_of_getElem? (i := 1046) (by decide +kernel), by decide +kernel⟩
theorem tw_1047 : (Jvm.Cond.code ({ cls := "DropQueuesModel", name := "bornNext", desc := "(II)I" } : Jvm.MethodName) prog_10_method_63_code (4 : Nat) (Option.some Jvm.ClassFile.FieldType.int)) ∈ jAll := List.mem_filter.mpr ⟨List.mem_of_getElem? (i := 1047) (by decide +kernel), by decide +kernel⟩
theorem tw_1048 : (Jvm.Cond.methodLink "DropQueuesModel" (240 : Nat) ({ cls := "DropQueuesModel", name := "biasOf", desc := "(II)I" } : Jvm.MethodName)) ∈ jAll := List.mem_filter.mpr ⟨List.mem_of_getElem? (i := 1048) (by decide +kernel), by decide +kernel⟩
theorem tw_1050 : (Jvm.Cond.instanceMethod ({ cls := "DropQueuesModel", name := "biasOf", desc := "(II)I" } : Jvm.MethodName)) ∈ jAll := List.mem_filter.mpr ⟨List.mem_of_getElem? (i := 1050) (by decide +kernel), by decide +kernel⟩
theorem tw_1051 : (Jvm.Cond.code ({ cls := "DropQueuesModel", name := "biasOf", desc := "(II)I" } : Jvm.MethodName) prog_10_method_64_code (3 : Nat) (Option.some Jvm.ClassFile.FieldType.int)) ∈ jAll := List.mem_filter.mpr ⟨List.mem_of_getElem? (i := 1051) (by decide +kernel), by decide +kernel⟩
theorem tw_1052 : (Jvm.Cond.methodLink "DropQueuesLaw" (68 : Nat) ({ cls := "DropQueuesModel", name := "link", desc := "(II)I" } : Jvm.MethodName)) ∈ jAll := List.mem_filter.mpr ⟨List.mem_of_getElem? (i := 1052) (by decide +kernel), by decide +kernel⟩
theorem tw_1053 : (Jvm.Cond.instanceMethod ({ cls := "DropQueuesModel", name := "link", desc := "(II)I" } : Jvm.MethodName)) ∈ jAll := List.mem_filter.mpr ⟨List.mem_of_getElem? (i := 1053) (by decide +kernel), by decide +kernel⟩
theorem tw_1054 : (Jvm.Cond.selects "DropQueuesModel" ({ cls := "DropQueuesModel", name := "link", desc := "(II)I" } : Jvm.MethodName) ({ cls := "DropQueuesModel", name := "link", desc := "(II)I" } : Jvm.MethodName)) ∈ jAll := List.mem_filter.mpr ⟨List.mem_of_getElem? (i := 1054) (by decide +kernel), by decide +kernel⟩
theorem tw_1055 : (Jvm.Cond.code ({ cls := "DropQueuesModel", name := "link", desc := "(II)I" } : Jvm.MethodName) prog_10_method_66_code (3 : Nat) (Option.some Jvm.ClassFile.FieldType.int)) ∈ jAll := List.mem_filter.mpr ⟨List.mem_of_getElem? (i := 1055) (by decide +kernel), by decide +kernel⟩
theorem tw_1056 : (Jvm.Cond.constantLong "DropQueuesModel" (243 : Nat) (6 : Int64)) ∈ jAll := List.mem_filter.mpr ⟨List.mem_of_getElem? (i := 1056) (by decide +kernel), by decide +kernel⟩
theorem tw_1057 : (Jvm.Cond.methodLink "DropQueuesModel" (245 : Nat) ({ cls := "DropQueuesModel", name := "findsAll", desc := "()V" } : Jvm.MethodName)) ∈ jAll := List.mem_filter.mpr ⟨List.mem_of_getElem? (i := 1057) (by decide +kernel), by decide +kernel⟩
theorem tw_1059 : (Jvm.Cond.instanceMethod ({ cls := "DropQueuesModel", name := "findsAll", desc := "()V" } : Jvm.MethodName)) ∈ jAll := List.mem_filter.mpr ⟨List.mem_of_getElem? (i := 1059) (by decide +kernel), by decide +kernel⟩
theorem tw_1060 : (Jvm.Cond.code ({ cls := "DropQueuesModel", name := "findsAll", desc := "()V" } : Jvm.MethodName) prog_10_method_51_code (1 : Nat) (Option.none : Option Jvm.ClassFile.FieldType)) ∈ jAll := List.mem_filter.mpr ⟨List.mem_of_getElem? (i := 1060) (by decide +kernel), by decide +kernel⟩
theorem tw_1061 : (Jvm.Cond.methodLink "DropQueuesLaw" (72 : Nat) ({ cls := "DropQueuesModel", name := "drop", desc := "(II)I" } : Jvm.MethodName)) ∈ jAll := List.mem_filter.mpr ⟨List.mem_of_getElem? (i := 1061) (by decide +kernel), by decide +kernel⟩
theorem tw_1062 : (Jvm.Cond.instanceMethod ({ cls := "DropQueuesModel", name := "drop", desc := "(II)I" } : Jvm.MethodName)) ∈ jAll := List.mem_filter.mpr ⟨List.mem_of_getElem? (i := 1062) (by decide +kernel), by decide +kernel⟩
theorem tw_1063 : (Jvm.Cond.selects "DropQueuesModel" ({ cls := "DropQueuesModel", name := "drop", desc := "(II)I" } : Jvm.MethodName) ({ cls := "DropQueuesModel", name := "drop", desc := "(II)I" } : Jvm.MethodName)) ∈ jAll := List.mem_filter.mpr ⟨List.mem_of_getElem? (i := 1063) (by decide +kernel), by decide +kernel⟩
theorem tw_1064 : (Jvm.Cond.code ({ cls := "DropQueuesModel", name := "drop", desc := "(II)I" } : Jvm.MethodName) prog_10_method_67_code (3 : Nat) (Option.some Jvm.ClassFile.FieldType.int)) ∈ jAll := List.mem_filter.mpr ⟨List.mem_of_getElem? (i := 1064) (by decide +kernel), by decide +kernel⟩
theorem tw_1065 : (Jvm.Cond.methodLink "DropQueuesLaw" (76 : Nat) ({ cls := "DropQueuesModel", name := "goes", desc := "(I)I" } : Jvm.MethodName)) ∈ jAll := List.mem_filter.mpr ⟨List.mem_of_getElem? (i := 1065) (by decide +kernel), by decide +kernel⟩
theorem tw_1066 : (Jvm.Cond.instanceMethod ({ cls := "DropQueuesModel", name := "goes", desc := "(I)I" } : Jvm.MethodName)) ∈ jAll := List.mem_filter.mpr ⟨List.mem_of_getElem? (i := 1066) (by decide +kernel), by decide +kernel⟩
theorem tw_1067 : (Jvm.Cond.selects "DropQueuesModel" ({ cls := "DropQueuesModel", name := "goes", desc := "(I)I" } : Jvm.MethodName) ({ cls := "DropQueuesModel", name := "goes", desc := "(I)I" } : Jvm.MethodName)) ∈ jAll := List.mem_filter.mpr ⟨List.mem_of_getElem? (i := 1067) (by decide +kernel), by decide +kernel⟩
theorem tw_1068 : (Jvm.Cond.code ({ cls := "DropQueuesModel", name := "goes", desc := "(I)I" } : Jvm.MethodName) prog_10_method_68_code (2 : Nat) (Option.some Jvm.ClassFile.FieldType.int)) ∈ jAll := List.mem_filter.mpr ⟨List.mem_of_getElem? (i := 1068) (by decide +kernel), by decide +kernel⟩
theorem tw_1069 : (Jvm.Cond.methodLink "DropQueuesLaw" (80 : Nat) ({ cls := "DropQueuesModel", name := "goal", desc := "(II)I" } : Jvm.MethodName)) ∈ jAll := List.mem_filter.mpr ⟨List.mem_of_getElem? (i := 1069) (by decide +kernel), by decide +kernel⟩
theorem tw_1070 : (Jvm.Cond.instanceMethod ({ cls := "DropQueuesModel", name := "goal", desc := "(II)I" } : Jvm.MethodName)) ∈ jAll := List.mem_filter.mpr ⟨List.mem_of_getElem? (i := 1070) (by decide +kernel), by decide +kernel⟩
theorem tw_1071 : (Jvm.Cond.selects "DropQueuesModel" ({ cls := "DropQueuesModel", name := "goal", desc := "(II)I" } : Jvm.MethodName) ({ cls := "DropQueuesModel", name := "goal", desc := "(II)I" } : Jvm.MethodName)) ∈ jAll := List.mem_filter.mpr ⟨List.mem_of_getElem? (i := 1071) (by decide +kernel), by decide +kernel⟩
theorem tw_1072 : (Jvm.Cond.code ({ cls := "DropQueuesModel", name := "goal", desc := "(II)I" } : Jvm.MethodName) prog_10_method_70_code (3 : Nat) (Option.some Jvm.ClassFile.FieldType.int)) ∈ jAll := List.mem_filter.mpr ⟨List.mem_of_getElem? (i := 1072) (by decide +kernel), by decide +kernel⟩
theorem tw_1073 : (Jvm.Cond.constantLong "DropQueuesModel" (248 : Nat) (4 : Int64)) ∈ jAll := List.mem_filter.mpr ⟨List.mem_of_getElem? (i := 1073) (by decide +kernel), by decide +kernel⟩
theorem tw_1074 : (Jvm.Cond.methodLink "DropQueuesModel" (250 : Nat) ({ cls := "DropQueuesModel", name := "packetsFor", desc := "(I)I" } : Jvm.MethodName)) ∈ jAll := List.mem_filter.mpr ⟨List.mem_of_getElem? (i := 1074) (by decide +kernel), by decide +kernel⟩
theorem tw_1076 : (Jvm.Cond.instanceMethod ({ cls := "DropQueuesModel", name := "packetsFor", desc := "(I)I" } : Jvm.MethodName)) ∈ jAll := List.mem_filter.mpr ⟨List.mem_of_getElem? (i := 1076) (by decide +kernel), by decide +kernel⟩
theorem tw_1077 : (Jvm.Cond.code ({ cls := "DropQueuesModel", name := "packetsFor", desc := "(I)I" } : Jvm.MethodName) prog_10_method_69_code (4 : Nat) (Option.some Jvm.ClassFile.FieldType.int)) ∈ jAll := List.mem_filter.mpr ⟨List.mem_of_getElem? (i := 1077) (by decide +kernel), by decide +kernel⟩
theorem tw_1078 : (Jvm.Cond.methodLink "DropQueuesLaw" (84 : Nat) ({ cls := "DropQueuesModel", name := "ahead", desc := "(II)I" } : Jvm.MethodName)) ∈ jAll := List.mem_filter.mpr ⟨List.mem_of_getElem? (i := 1078) (by decide +kernel), by decide +kernel⟩
theorem tw_1079 : (Jvm.Cond.instanceMethod ({ cls := "DropQueuesModel", name := "ahead", desc := "(II)I" } : Jvm.MethodName)) ∈ jAll := List.mem_filter.mpr ⟨List.mem_of_getElem? (i := 1079) (by decide +kernel), by decide +kernel⟩
theorem tw_1080 : (Jvm.Cond.selects "DropQueuesModel" ({ cls := "DropQueuesModel", name := "ahead", desc := "(II)I" } : Jvm.MethodName) ({ cls := "DropQueuesModel", name := "ahead", desc := "(II)I" } : Jvm.MethodName)) ∈ jAll := List.mem_filter.mpr ⟨List.mem_of_getElem? (i := 1080) (by decide +kernel), by decide +kernel⟩
theorem tw_1081 : (Jvm.Cond.code ({ cls := "DropQueuesModel", name := "ahead", desc := "(II)I" } : Jvm.MethodName) prog_10_method_71_code (7 : Nat) (Option.some Jvm.ClassFile.FieldType.int)) ∈ jAll := List.mem_filter.mpr ⟨List.mem_of_getElem? (i := 1081) (by decide +kernel), by decide +kernel⟩
theorem tw_1082 : (Jvm.Cond.methodLink "DropQueuesModel" (253 : Nat) ({ cls := "DropQueuesModel", name := "laysAside", desc := "()V" } : Jvm.MethodName)) ∈ jAll := List.mem_filter.mpr ⟨List.mem_of_getElem? (i := 1082) (by decide +kernel), by decide +kernel⟩
theorem tw_1084 : (Jvm.Cond.instanceMethod ({ cls := "DropQueuesModel", name := "laysAside", desc := "()V" } : Jvm.MethodName)) ∈ jAll := List.mem_filter.mpr ⟨List.mem_of_getElem? (i := 1084) (by decide +kernel), by decide +kernel⟩
theorem tw_1085 : (Jvm.Cond.code ({ cls := "DropQueuesModel", name := "laysAside", desc := "()V" } : Jvm.MethodName) prog_10_method_61_code (2 : Nat) (Option.none : Option Jvm.ClassFile.FieldType)) ∈ jAll := List.mem_filter.mpr ⟨List.mem_of_getElem? (i := 1085) (by decide +kernel), by decide +kernel⟩
theorem tw_1086 : (Jvm.Cond.methodLink "DropQueuesModel" (256 : Nat) ({ cls := "DropQueuesModel", name := "squares", desc := "()I" } : Jvm.MethodName)) ∈ jAll := List.mem_filter.mpr ⟨List.mem_of_getElem? (i := 1086) (by decide +kernel), by decide +kernel⟩
theorem tw_1088 : (Jvm.Cond.instanceMethod ({ cls := "DropQueuesModel", name := "squares", desc := "()I" } : Jvm.MethodName)) ∈ jAll := List.mem_filter.mpr ⟨List.mem_of_getElem? (i := 1088) (by decide +kernel), by decide +kernel⟩
theorem tw_1089 : (Jvm.Cond.code ({ cls := "DropQueuesModel", name := "squares", desc := "()I" } : Jvm.MethodName) prog_10_method_59_code (3 : Nat) (Option.some Jvm.ClassFile.FieldType.int)) ∈ jAll := List.mem_filter.mpr ⟨List.mem_of_getElem? (i := 1089) (by decide +kernel), by decide +kernel⟩
theorem tw_1090 : (Jvm.Cond.methodLink "DropQueuesModel" (259 : Nat) ({ cls := "DropQueuesModel", name := "packets", desc := "()I" } : Jvm.MethodName)) ∈ jAll := List.mem_filter.mpr ⟨List.mem_of_getElem? (i := 1090) (by decide +kernel), by decide +kernel⟩
theorem tw_1092 : (Jvm.Cond.instanceMethod ({ cls := "DropQueuesModel", name := "packets", desc := "()I" } : Jvm.MethodName)) ∈ jAll := List.mem_filter.mpr ⟨List.mem_of_getElem? (i := 1092) (by decide +kernel), by decide +kernel⟩
theorem tw_1093 : (Jvm.Cond.code ({ cls := "DropQueuesModel", name := "packets", desc := "()I" } : Jvm.MethodName) prog_10_method_58_code (3 : Nat) (Option.some Jvm.ClassFile.FieldType.int)) ∈ jAll := List.mem_filter.mpr ⟨List.mem_of_getElem? (i := 1093) (by decide +kernel), by decide +kernel⟩
theorem tw_1094 : (Jvm.Cond.methodLink "DropQueuesModel" (262 : Nat) ({ cls := "DropQueuesModel", name := "comesBack", desc := "()V" } : Jvm.MethodName)) ∈ jAll := List.mem_filter.mpr ⟨List.mem_of_getElem? (i := 1094) (by decide +kernel), by decide +kernel⟩
theorem tw_1096 : (Jvm.Cond.instanceMethod ({ cls := "DropQueuesModel", name := "comesBack", desc := "()V" } : Jvm.MethodName)) ∈ jAll := List.mem_filter.mpr ⟨List.mem_of_getElem? (i := 1096) (by decide +kernel), by decide +kernel⟩
theorem tw_1097 : (Jvm.Cond.code ({ cls := "DropQueuesModel", name := "comesBack", desc := "()V" } : Jvm.MethodName) prog_10_method_62_code (2 : Nat) (Option.none : Option Jvm.ClassFile.FieldType)) ∈ jAll := List.mem_filter.mpr ⟨List.mem_of_getElem? (i := 1097) (by decide +kernel), by decide +kernel⟩
theorem tw_1098 : (Jvm.Cond.methodLink "DropQueuesLaw" (88 : Nat) ({ cls := "DropQueuesModel", name := "without", desc := "(I)I" } : Jvm.MethodName)) ∈ jAll := List.mem_filter.mpr ⟨List.mem_of_getElem? (i := 1098) (by decide +kernel), by decide +kernel⟩
theorem tw_1099 : (Jvm.Cond.instanceMethod ({ cls := "DropQueuesModel", name := "without", desc := "(I)I" } : Jvm.MethodName)) ∈ jAll := List.mem_filter.mpr ⟨List.mem_of_getElem? (i := 1099) (by decide +kernel), by decide +kernel⟩
theorem tw_1100 : (Jvm.Cond.selects "DropQueuesModel" ({ cls := "DropQueuesModel", name := "without", desc := "(I)I" } : Jvm.MethodName) ({ cls := "DropQueuesModel", name := "without", desc := "(I)I" } : Jvm.MethodName)) ∈ jAll := List.mem_filter.mpr ⟨List.mem_of_getElem? (i := 1100) (by decide +kernel), by decide +kernel⟩
theorem tw_1101 : (Jvm.Cond.code ({ cls := "DropQueuesModel", name := "without", desc := "(I)I" } : Jvm.MethodName) prog_10_method_72_code (3 : Nat) (Option.some Jvm.ClassFile.FieldType.int)) ∈ jAll := List.mem_filter.mpr ⟨List.mem_of_getElem? (i := 1101) (by decide +kernel), by decide +kernel⟩
theorem tw_1102 : (Jvm.Cond.methodLink "DropQueuesLaw" (92 : Nat) ({ cls := "DropQueuesModel", name := "worst", desc := "(I)I" } : Jvm.MethodName)) ∈ jAll := List.mem_filter.mpr ⟨List.mem_of_getElem? (i := 1102) (by decide +kernel), by decide +kernel⟩
theorem tw_1103 : (Jvm.Cond.instanceMethod ({ cls := "DropQueuesModel", name := "worst", desc := "(I)I" } : Jvm.MethodName)) ∈ jAll := List.mem_filter.mpr ⟨List.mem_of_getElem? (i := 1103) (by decide +kernel), by decide +kernel⟩
theorem tw_1104 : (Jvm.Cond.selects "DropQueuesModel" ({ cls := "DropQueuesModel", name := "worst", desc := "(I)I" } : Jvm.MethodName) ({ cls := "DropQueuesModel", name := "worst", desc := "(I)I" } : Jvm.MethodName)) ∈ jAll := List.mem_filter.mpr ⟨List.mem_of_getElem? (i := 1104) (by decide +kernel), by decide +kernel⟩
theorem tw_1105 : (Jvm.Cond.code ({ cls := "DropQueuesModel", name := "worst", desc := "(I)I" } : Jvm.MethodName) prog_10_method_73_code (6 : Nat) (Option.some Jvm.ClassFile.FieldType.int)) ∈ jAll := List.mem_filter.mpr ⟨List.mem_of_getElem? (i := 1105) (by decide +kernel), by decide +kernel⟩
theorem tw_1106 : (Jvm.Cond.constantLong "DropQueuesModel" (220 : Nat) (2 : Int64)) ∈ jAll := List.mem_filter.mpr ⟨List.mem_of_getElem? (i := 1106) (by decide +kernel), by decide +kernel⟩
theorem tw_1107 : (Jvm.Cond.methodLink "DropQueuesLaw" (96 : Nat) ({ cls := "DropQueuesModel", name := "drawn", desc := "(III)I" } : Jvm.MethodName)) ∈ jAll := List.mem_filter.mpr ⟨List.mem_of_getElem? (i := 1107) (by decide +kernel), by decide +kernel⟩
theorem tw_1108 : (Jvm.Cond.instanceMethod ({ cls := "DropQueuesModel", name := "drawn", desc := "(III)I" } : Jvm.MethodName)) ∈ jAll := List.mem_filter.mpr ⟨List.mem_of_getElem? (i := 1108) (by decide +kernel), by decide +kernel⟩
theorem tw_1109 : (Jvm.Cond.selects "DropQueuesModel" ({ cls := "DropQueuesModel", name := "drawn", desc := "(III)I" } : Jvm.MethodName) ({ cls := "DropQueuesModel", name := "drawn", desc := "(III)I" } : Jvm.MethodName)) ∈ jAll := List.mem_filter.mpr ⟨List.mem_of_getElem? (i := 1109) (by decide +kernel), by decide +kernel⟩
theorem tw_1110 : (Jvm.Cond.code ({ cls := "DropQueuesModel", name := "drawn", desc := "(III)I" } : Jvm.MethodName) prog_10_method_74_code (7 : Nat) (Option.some Jvm.ClassFile.FieldType.int)) ∈ jAll := List.mem_filter.mpr ⟨List.mem_of_getElem? (i := 1110) (by decide +kernel), by decide +kernel⟩
theorem tw_1111 : (Jvm.Cond.constantLong "DropQueuesModel" (265 : Nat) (9999 : Int64)) ∈ jAll := List.mem_filter.mpr ⟨List.mem_of_getElem? (i := 1111) (by decide +kernel), by decide +kernel⟩
theorem tw_1112 : (Jvm.Cond.methodLink "DropQueuesModel" (267 : Nat) ({ cls := "DropQueuesModel", name := "drawsFeeds", desc := "(II)V" } : Jvm.MethodName)) ∈ jAll := List.mem_filter.mpr ⟨List.mem_of_getElem? (i := 1112) (by decide +kernel), by decide +kernel⟩
theorem tw_1114 : (Jvm.Cond.instanceMethod ({ cls := "DropQueuesModel", name := "drawsFeeds", desc := "(II)V" } : Jvm.MethodName)) ∈ jAll := List.mem_filter.mpr ⟨List.mem_of_getElem? (i := 1114) (by decide +kernel), by decide +kernel⟩
theorem tw_1115 : (Jvm.Cond.code ({ cls := "DropQueuesModel", name := "drawsFeeds", desc := "(II)V" } : Jvm.MethodName) prog_10_method_56_code (9 : Nat) (Option.none : Option Jvm.ClassFile.FieldType)) ∈ jAll := List.mem_filter.mpr ⟨List.mem_of_getElem? (i := 1115) (by decide +kernel), by decide +kernel⟩
theorem tw_1116 : (Jvm.Cond.constantLong "DropQueuesModel" (212 : Nat) (7919 : Int64)) ∈ jAll := List.mem_filter.mpr ⟨List.mem_of_getElem? (i := 1116) (by decide +kernel), by decide +kernel⟩
theorem tw_1117 : (Jvm.Cond.constantLong "DropQueuesModel" (214 : Nat) (6151 : Int64)) ∈ jAll := List.mem_filter.mpr ⟨List.mem_of_getElem? (i := 1117) (by decide +kernel), by decide +kernel⟩
theorem tw_1118 : (Jvm.Cond.constantLong "DropQueuesModel" (216 : Nat) (97 : Int64)) ∈ jAll := List.mem_filter.mpr ⟨List.mem_of_getElem? (i := 1118) (by decide +kernel), by decide +kernel⟩
theorem tw_1119 : (Jvm.Cond.constantLong "DropQueuesModel" (218 : Nat) (65521 : Int64)) ∈ jAll := List.mem_filter.mpr ⟨List.mem_of_getElem? (i := 1119) (by decide +kernel), by decide +kernel⟩
theorem tw_1120 : (Jvm.Cond.constantLong "DropQueuesModel" (222 : Nat) (8 : Int64)) ∈ jAll := List.mem_filter.mpr ⟨List.mem_of_getElem? (i := 1120) (by decide +kernel), by decide +kernel⟩
theorem tw_1121 : (Jvm.Cond.methodLink "DropQueuesLaw" (100 : Nat) ({ cls := "DropQueuesModel", name := "count", desc := "(I)I" } : Jvm.MethodName)) ∈ jAll := List.mem_filter.mpr ⟨List.mem_of_getElem? (i := 1121) (by decide +kernel), by decide +kernel⟩
theorem tw_1122 : (Jvm.Cond.instanceMethod ({ cls := "DropQueuesModel", name := "count", desc := "(I)I" } : Jvm.MethodName)) ∈ jAll := List.mem_filter.mpr ⟨List.mem_of_getElem? (i := 1122) (by decide +kernel), by decide +kernel⟩
theorem tw_1123 : (Jvm.Cond.selects "DropQueuesModel" ({ cls := "DropQueuesModel", name := "count", desc := "(I)I" } : Jvm.MethodName) ({ cls := "DropQueuesModel", name := "count", desc := "(I)I" } : Jvm.MethodName)) ∈ jAll := List.mem_filter.mpr ⟨List.mem_of_getElem? (i := 1123) (by decide +kernel), by decide +kernel⟩
theorem tw_1124 : (Jvm.Cond.code ({ cls := "DropQueuesModel", name := "count", desc := "(I)I" } : Jvm.MethodName) prog_10_method_75_code (2 : Nat) (Option.some Jvm.ClassFile.FieldType.int)) ∈ jAll := List.mem_filter.mpr ⟨List.mem_of_getElem? (i := 1124) (by decide +kernel), by decide +kernel⟩
theorem tw_1125 : (Jvm.Cond.fieldLink "java/lang/String" (9 : Nat) "java/lang/String" "value" "[B") ∈ jAll := List.mem_filter.mpr ⟨List.mem_of_getElem? (i := 1125) (by decide +kernel), by decide +kernel⟩
theorem tw_1126 : (Jvm.Cond.fieldLink "java/lang/String" (15 : Nat) "java/lang/String" "coder" "B") ∈ jAll := List.mem_filter.mpr ⟨List.mem_of_getElem? (i := 1126) (by decide +kernel), by decide +kernel⟩
theorem inX0 : ∀ w ∈ u_ws RX0 TX0 3, w ∈ jAll := by decide +kernel
theorem inX1 : ∀ w ∈ u_ws RX1 TX1 4, w ∈ jAll := by decide +kernel
theorem inX2 : ∀ w ∈ u_ws RX2 TX2 12, w ∈ jAll := by decide +kernel
theorem inX3 : ∀ w ∈ u_ws RX3 TX3 4, w ∈ jAll := by decide +kernel
theorem inX4 : ∀ w ∈ u_ws RX4 TX4 8, w ∈ jAll := by decide +kernel
theorem inX5 : ∀ w ∈ u_ws RX5 TX5 3, w ∈ jAll := by decide +kernel
theorem inX6 : ∀ w ∈ u_ws RX6 TX6 2, w ∈ jAll := by decide +kernel
theorem inX7 : ∀ w ∈ u_ws RX7 TX7 6, w ∈ jAll := by decide +kernel
theorem inX8 : ∀ w ∈ u_ws RX8 TX8 20, w ∈ jAll := by decide +kernel
def jNest : List (String × Nat × MethodName × String) := [("DropQueues", 11, (⟨"DropQueues$Text", "<init>", "()V"⟩ : MethodName), "DropQueues"), ("DropQueues", 18, (⟨"DropQueues$World", "<init>", "()V"⟩ : MethodName), "DropQueues"), ("DropQueues$World", 9, (⟨"DropQueues$Net", "<init>", "()V"⟩ : MethodName), "DropQueues"), ("DropQueues$World", 18, (⟨"DropQueues$Queues", "<init>", "()V"⟩ : MethodName), "DropQueues"), ("DropQueues$History", 17, (⟨"DropQueues$World", "<init>", "()V"⟩ : MethodName), "DropQueues"), ("DropQueues", 35, (⟨"DropQueues$Picker", "<init>", "()V"⟩ : MethodName), "DropQueues"), ("DropQueues", 42, (⟨"DropQueues$Mover", "<init>", "()V"⟩ : MethodName), "DropQueues"), ("DropQueues$Mover", 17, (⟨"DropQueues$Picker", "<init>", "()V"⟩ : MethodName), "DropQueues"), ("DropQueues$Net", 110, (⟨"DropQueues", "within", "(III)Z"⟩ : MethodName), "DropQueues"), ("DropQueues$Net", 97, (⟨"DropQueues", "spot", "(II)I"⟩ : MethodName), "DropQueues"), ("DropQueues$Picker", 66, (⟨"DropQueues", "spot", "(II)I"⟩ : MethodName), "DropQueues"), ("DropQueues$World", 34, (⟨"DropQueues", "spot", "(II)I"⟩ : MethodName), "DropQueues"), ("DropQueues$Mover", 82, (⟨"DropQueues", "spot", "(II)I"⟩ : MethodName), "DropQueues"), ("DropQueues$Queues", 65, (⟨"DropQueues", "spot", "(II)I"⟩ : MethodName), "DropQueues")]
theorem jNest_in : ∀ q ∈ jNest, Cond.methodLinkNest q.1 q.2.1 q.2.2.1 q.2.2.2 ∈ lw_tbl := by
  intro q hq
  simp only [jNest, List.mem_cons, List.not_mem_nil, or_false] at hq
  rcases hq with rfl | rfl | rfl | rfl | rfl | rfl | rfl | rfl | rfl | rfl | rfl | rfl | rfl | rfl
  · exact List.mem_of_getElem? (i := 96) (by decide +kernel)
  · exact List.mem_of_getElem? (i := 115) (by decide +kernel)
  · exact List.mem_of_getElem? (i := 121) (by decide +kernel)
  · exact List.mem_of_getElem? (i := 191) (by decide +kernel)
  · exact List.mem_of_getElem? (i := 251) (by decide +kernel)
  · exact List.mem_of_getElem? (i := 265) (by decide +kernel)
  · exact List.mem_of_getElem? (i := 290) (by decide +kernel)
  · exact List.mem_of_getElem? (i := 295) (by decide +kernel)
  · exact List.mem_of_getElem? (i := 397) (by decide +kernel)
  · exact List.mem_of_getElem? (i := 440) (by decide +kernel)
  · exact List.mem_of_getElem? (i := 604) (by decide +kernel)
  · exact List.mem_of_getElem? (i := 609) (by decide +kernel)
  · exact List.mem_of_getElem? (i := 637) (by decide +kernel)
  · exact List.mem_of_getElem? (i := 705) (by decide +kernel)
