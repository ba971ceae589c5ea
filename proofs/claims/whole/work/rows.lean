section
-- ===== PART A: goes FIRST, ahead of the names: the tables' words, and 'selects' of the private methods out of them =====
/-- a private method of a class that the tables say can be made, by its rows of tables_1 -/
def lw_okq (q : MethodName × Nat) : Prop := (q.1.cls ≠ "java/lang/invoke/MethodHandle" ∧ q.1.cls ≠ "java/lang/invoke/VarHandle") ∧ Cond.instantiable q.1.cls q.2 ∈ tables_1 ∧ Cond.privateMethod q.1 ∈ tables_1 ∧ Cond.instanceMethod q.1 ∈ tables_1
theorem lw_p0 : lw_okq (⟨"StoneVotes$Text", "findFlaw", "()I"⟩, 8) := ⟨⟨by decide +kernel, by decide +kernel⟩, List.mem_of_getElem? (i := 29) (by decide +kernel), List.mem_of_getElem? (i := 295) (by decide +kernel), List.mem_of_getElem? (i := 296) (by decide +kernel)⟩
theorem lw_p1 : lw_okq (⟨"StoneVotes$Text", "fits", "(I)Z"⟩, 8) := ⟨⟨by decide +kernel, by decide +kernel⟩, List.mem_of_getElem? (i := 29) (by decide +kernel), List.mem_of_getElem? (i := 299) (by decide +kernel), List.mem_of_getElem? (i := 300) (by decide +kernel)⟩
theorem lw_p2 : lw_okq (⟨"StoneVotes$Text", "readLastPair", "()V"⟩, 8) := ⟨⟨by decide +kernel, by decide +kernel⟩, List.mem_of_getElem? (i := 29) (by decide +kernel), List.mem_of_getElem? (i := 304) (by decide +kernel), List.mem_of_getElem? (i := 305) (by decide +kernel)⟩
theorem lw_p3 : lw_okq (⟨"StoneVotes$Heap", "hourByLaw", "(I)I"⟩, 10) := ⟨⟨by decide +kernel, by decide +kernel⟩, List.mem_of_getElem? (i := 133) (by decide +kernel), List.mem_of_getElem? (i := 316) (by decide +kernel), List.mem_of_getElem? (i := 317) (by decide +kernel)⟩
theorem lw_p4 : lw_okq (⟨"StoneVotes$Heap", "take", "(I)V"⟩, 10) := ⟨⟨by decide +kernel, by decide +kernel⟩, List.mem_of_getElem? (i := 133) (by decide +kernel), List.mem_of_getElem? (i := 332) (by decide +kernel), List.mem_of_getElem? (i := 333) (by decide +kernel)⟩
theorem lw_p5 : lw_okq (⟨"StoneVotes", "refusalOf", "(I)I"⟩, 8) := ⟨⟨by decide +kernel, by decide +kernel⟩, List.mem_of_getElem? (i := 15) (by decide +kernel), List.mem_of_getElem? (i := 391) (by decide +kernel), List.mem_of_getElem? (i := 392) (by decide +kernel)⟩
theorem lw_p6 : lw_okq (⟨"StoneVotes", "found", "(I)I"⟩, 8) := ⟨⟨by decide +kernel, by decide +kernel⟩, List.mem_of_getElem? (i := 15) (by decide +kernel), List.mem_of_getElem? (i := 399) (by decide +kernel), List.mem_of_getElem? (i := 400) (by decide +kernel)⟩
theorem lw_p7 : lw_okq (⟨"StoneVotes$Heap", "put", "(I)V"⟩, 10) := ⟨⟨by decide +kernel, by decide +kernel⟩, List.mem_of_getElem? (i := 133) (by decide +kernel), List.mem_of_getElem? (i := 427) (by decide +kernel), List.mem_of_getElem? (i := 428) (by decide +kernel)⟩
theorem lw_p8 : lw_okq (⟨"StoneVotes$Heap", "slide", "(I)V"⟩, 10) := ⟨⟨by decide +kernel, by decide +kernel⟩, List.mem_of_getElem? (i := 133) (by decide +kernel), List.mem_of_getElem? (i := 435) (by decide +kernel), List.mem_of_getElem? (i := 436) (by decide +kernel)⟩
theorem lw_p9 : lw_okq (⟨"StoneVotes", "fewestBits", "()I"⟩, 8) := ⟨⟨by decide +kernel, by decide +kernel⟩, List.mem_of_getElem? (i := 15) (by decide +kernel), List.mem_of_getElem? (i := 485) (by decide +kernel), List.mem_of_getElem? (i := 486) (by decide +kernel)⟩
theorem lw_p10 : lw_okq (⟨"StoneVotes", "layable", "(I)I"⟩, 8) := ⟨⟨by decide +kernel, by decide +kernel⟩, List.mem_of_getElem? (i := 15) (by decide +kernel), List.mem_of_getElem? (i := 489) (by decide +kernel), List.mem_of_getElem? (i := 490) (by decide +kernel)⟩
theorem lw_p11 : lw_okq (⟨"StoneVotes$Porters", "gather", "(II)V"⟩, 4) := ⟨⟨by decide +kernel, by decide +kernel⟩, List.mem_of_getElem? (i := 178) (by decide +kernel), List.mem_of_getElem? (i := 521) (by decide +kernel), List.mem_of_getElem? (i := 522) (by decide +kernel)⟩
theorem lw_p12 : lw_okq (⟨"StoneVotes$Porters", "leastFor", "(I)I"⟩, 4) := ⟨⟨by decide +kernel, by decide +kernel⟩, List.mem_of_getElem? (i := 178) (by decide +kernel), List.mem_of_getElem? (i := 527) (by decide +kernel), List.mem_of_getElem? (i := 528) (by decide +kernel)⟩
theorem lw_p13 : lw_okq (⟨"StoneVotes$Porters", "after", "(II)I"⟩, 4) := ⟨⟨by decide +kernel, by decide +kernel⟩, List.mem_of_getElem? (i := 178) (by decide +kernel), List.mem_of_getElem? (i := 532) (by decide +kernel), List.mem_of_getElem? (i := 533) (by decide +kernel)⟩
theorem lw_p14 : lw_okq (⟨"StoneVotes", "firstStone", "(IIII)I"⟩, 8) := ⟨⟨by decide +kernel, by decide +kernel⟩, List.mem_of_getElem? (i := 15) (by decide +kernel), List.mem_of_getElem? (i := 554) (by decide +kernel), List.mem_of_getElem? (i := 555) (by decide +kernel)⟩
theorem lw_p15 : lw_okq (⟨"StoneVotes", "refusalOfItem", "(III)I"⟩, 8) := ⟨⟨by decide +kernel, by decide +kernel⟩, List.mem_of_getElem? (i := 15) (by decide +kernel), List.mem_of_getElem? (i := 594) (by decide +kernel), List.mem_of_getElem? (i := 595) (by decide +kernel)⟩
def lw_privs_1 : List (MethodName × Nat) := [(⟨"StoneVotes$Text", "findFlaw", "()I"⟩, 8), (⟨"StoneVotes$Text", "fits", "(I)Z"⟩, 8), (⟨"StoneVotes$Text", "readLastPair", "()V"⟩, 8), (⟨"StoneVotes$Heap", "hourByLaw", "(I)I"⟩, 10), (⟨"StoneVotes$Heap", "take", "(I)V"⟩, 10), (⟨"StoneVotes", "refusalOf", "(I)I"⟩, 8), (⟨"StoneVotes", "found", "(I)I"⟩, 8), (⟨"StoneVotes$Heap", "put", "(I)V"⟩, 10), (⟨"StoneVotes$Heap", "slide", "(I)V"⟩, 10), (⟨"StoneVotes", "fewestBits", "()I"⟩, 8), (⟨"StoneVotes", "layable", "(I)I"⟩, 8), (⟨"StoneVotes$Porters", "gather", "(II)V"⟩, 4), (⟨"StoneVotes$Porters", "leastFor", "(I)I"⟩, 4), (⟨"StoneVotes$Porters", "after", "(II)I"⟩, 4), (⟨"StoneVotes", "firstStone", "(IIII)I"⟩, 8), (⟨"StoneVotes", "refusalOfItem", "(III)I"⟩, 8)]
theorem lw_r1 : ∀ q ∈ lw_privs_1, lw_okq q := List.forall_mem_cons.mpr ⟨lw_p0, List.forall_mem_cons.mpr ⟨lw_p1, List.forall_mem_cons.mpr ⟨lw_p2, List.forall_mem_cons.mpr ⟨lw_p3, List.forall_mem_cons.mpr ⟨lw_p4, List.forall_mem_cons.mpr ⟨lw_p5, List.forall_mem_cons.mpr ⟨lw_p6, List.forall_mem_cons.mpr ⟨lw_p7, List.forall_mem_cons.mpr ⟨lw_p8, List.forall_mem_cons.mpr ⟨lw_p9, List.forall_mem_cons.mpr ⟨lw_p10, List.forall_mem_cons.mpr ⟨lw_p11, List.forall_mem_cons.mpr ⟨lw_p12, List.forall_mem_cons.mpr ⟨lw_p13, List.forall_mem_cons.mpr ⟨lw_p14, List.forall_mem_cons.mpr ⟨lw_p15, fun _ h => absurd h List.not_mem_nil⟩⟩⟩⟩⟩⟩⟩⟩⟩⟩⟩⟩⟩⟩⟩⟩
theorem lw_p16 : lw_okq (⟨"StoneVotes", "stonesLying", "()I"⟩, 8) := ⟨⟨by decide +kernel, by decide +kernel⟩, List.mem_of_getElem? (i := 15) (by decide +kernel), List.mem_of_getElem? (i := 627) (by decide +kernel), List.mem_of_getElem? (i := 628) (by decide +kernel)⟩
theorem lw_p17 : lw_okq (⟨"StoneVotes", "digestPeopleAndStones", "(J)J"⟩, 8) := ⟨⟨by decide +kernel, by decide +kernel⟩, List.mem_of_getElem? (i := 15) (by decide +kernel), List.mem_of_getElem? (i := 640) (by decide +kernel), List.mem_of_getElem? (i := 641) (by decide +kernel)⟩
theorem lw_p18 : lw_okq (⟨"StoneVotes", "digestHeap", "(J)J"⟩, 8) := ⟨⟨by decide +kernel, by decide +kernel⟩, List.mem_of_getElem? (i := 15) (by decide +kernel), List.mem_of_getElem? (i := 648) (by decide +kernel), List.mem_of_getElem? (i := 649) (by decide +kernel)⟩
theorem lw_p19 : lw_okq (⟨"StoneVotes", "digestWhatCouldBe", "(J)J"⟩, 8) := ⟨⟨by decide +kernel, by decide +kernel⟩, List.mem_of_getElem? (i := 15) (by decide +kernel), List.mem_of_getElem? (i := 659) (by decide +kernel), List.mem_of_getElem? (i := 660) (by decide +kernel)⟩
theorem lw_p20 : lw_okq (⟨"StoneVotesModel", "met", "(I)I"⟩, 34) := ⟨⟨by decide +kernel, by decide +kernel⟩, List.mem_of_getElem? (i := 668) (by decide +kernel), List.mem_of_getElem? (i := 790) (by decide +kernel), List.mem_of_getElem? (i := 791) (by decide +kernel)⟩
theorem lw_p21 : lw_okq (⟨"StoneVotesModel", "lacks", "(III)I"⟩, 34) := ⟨⟨by decide +kernel, by decide +kernel⟩, List.mem_of_getElem? (i := 668) (by decide +kernel), List.mem_of_getElem? (i := 802) (by decide +kernel), List.mem_of_getElem? (i := 803) (by decide +kernel)⟩
theorem lw_p22 : lw_okq (⟨"StoneVotesModel", "readsPeople", "()I"⟩, 34) := ⟨⟨by decide +kernel, by decide +kernel⟩, List.mem_of_getElem? (i := 668) (by decide +kernel), List.mem_of_getElem? (i := 837) (by decide +kernel), List.mem_of_getElem? (i := 838) (by decide +kernel)⟩
theorem lw_p23 : lw_okq (⟨"StoneVotesModel", "byteAt", "(II)I"⟩, 34) := ⟨⟨by decide +kernel, by decide +kernel⟩, List.mem_of_getElem? (i := 668) (by decide +kernel), List.mem_of_getElem? (i := 841) (by decide +kernel), List.mem_of_getElem? (i := 842) (by decide +kernel)⟩
theorem lw_p24 : lw_okq (⟨"StoneVotesModel", "readsStones", "()I"⟩, 34) := ⟨⟨by decide +kernel, by decide +kernel⟩, List.mem_of_getElem? (i := 668) (by decide +kernel), List.mem_of_getElem? (i := 846) (by decide +kernel), List.mem_of_getElem? (i := 847) (by decide +kernel)⟩
theorem lw_p25 : lw_okq (⟨"StoneVotesModel", "isPerson", "(I)Z"⟩, 34) := ⟨⟨by decide +kernel, by decide +kernel⟩, List.mem_of_getElem? (i := 668) (by decide +kernel), List.mem_of_getElem? (i := 885) (by decide +kernel), List.mem_of_getElem? (i := 886) (by decide +kernel)⟩
theorem lw_p26 : lw_okq (⟨"StoneVotesModel", "reads", "()V"⟩, 34) := ⟨⟨by decide +kernel, by decide +kernel⟩, List.mem_of_getElem? (i := 668) (by decide +kernel), List.mem_of_getElem? (i := 889) (by decide +kernel), List.mem_of_getElem? (i := 890) (by decide +kernel)⟩
theorem lw_p27 : lw_okq (⟨"StoneVotesModel", "goes", "(I)V"⟩, 34) := ⟨⟨by decide +kernel, by decide +kernel⟩, List.mem_of_getElem? (i := 668) (by decide +kernel), List.mem_of_getElem? (i := 893) (by decide +kernel), List.mem_of_getElem? (i := 894) (by decide +kernel)⟩
theorem lw_p28 : lw_okq (⟨"StoneVotesModel", "mayCarry", "(II)Z"⟩, 34) := ⟨⟨by decide +kernel, by decide +kernel⟩, List.mem_of_getElem? (i := 668) (by decide +kernel), List.mem_of_getElem? (i := 897) (by decide +kernel), List.mem_of_getElem? (i := 898) (by decide +kernel)⟩
theorem lw_p29 : lw_okq (⟨"StoneVotesModel", "personOf", "(II)I"⟩, 34) := ⟨⟨by decide +kernel, by decide +kernel⟩, List.mem_of_getElem? (i := 668) (by decide +kernel), List.mem_of_getElem? (i := 901) (by decide +kernel), List.mem_of_getElem? (i := 902) (by decide +kernel)⟩
theorem lw_p30 : lw_okq (⟨"StoneVotesModel", "isStone", "(I)Z"⟩, 34) := ⟨⟨by decide +kernel, by decide +kernel⟩, List.mem_of_getElem? (i := 668) (by decide +kernel), List.mem_of_getElem? (i := 909) (by decide +kernel), List.mem_of_getElem? (i := 910) (by decide +kernel)⟩
theorem lw_p31 : lw_okq (⟨"StoneVotesModel", "stoneOf", "(II)I"⟩, 34) := ⟨⟨by decide +kernel, by decide +kernel⟩, List.mem_of_getElem? (i := 668) (by decide +kernel), List.mem_of_getElem? (i := 913) (by decide +kernel), List.mem_of_getElem? (i := 914) (by decide +kernel)⟩
def lw_privs_2 : List (MethodName × Nat) := [(⟨"StoneVotes", "stonesLying", "()I"⟩, 8), (⟨"StoneVotes", "digestPeopleAndStones", "(J)J"⟩, 8), (⟨"StoneVotes", "digestHeap", "(J)J"⟩, 8), (⟨"StoneVotes", "digestWhatCouldBe", "(J)J"⟩, 8), (⟨"StoneVotesModel", "met", "(I)I"⟩, 34), (⟨"StoneVotesModel", "lacks", "(III)I"⟩, 34), (⟨"StoneVotesModel", "readsPeople", "()I"⟩, 34), (⟨"StoneVotesModel", "byteAt", "(II)I"⟩, 34), (⟨"StoneVotesModel", "readsStones", "()I"⟩, 34), (⟨"StoneVotesModel", "isPerson", "(I)Z"⟩, 34), (⟨"StoneVotesModel", "reads", "()V"⟩, 34), (⟨"StoneVotesModel", "goes", "(I)V"⟩, 34), (⟨"StoneVotesModel", "mayCarry", "(II)Z"⟩, 34), (⟨"StoneVotesModel", "personOf", "(II)I"⟩, 34), (⟨"StoneVotesModel", "isStone", "(I)Z"⟩, 34), (⟨"StoneVotesModel", "stoneOf", "(II)I"⟩, 34)]
theorem lw_r2 : ∀ q ∈ lw_privs_2, lw_okq q := List.forall_mem_cons.mpr ⟨lw_p16, List.forall_mem_cons.mpr ⟨lw_p17, List.forall_mem_cons.mpr ⟨lw_p18, List.forall_mem_cons.mpr ⟨lw_p19, List.forall_mem_cons.mpr ⟨lw_p20, List.forall_mem_cons.mpr ⟨lw_p21, List.forall_mem_cons.mpr ⟨lw_p22, List.forall_mem_cons.mpr ⟨lw_p23, List.forall_mem_cons.mpr ⟨lw_p24, List.forall_mem_cons.mpr ⟨lw_p25, List.forall_mem_cons.mpr ⟨lw_p26, List.forall_mem_cons.mpr ⟨lw_p27, List.forall_mem_cons.mpr ⟨lw_p28, List.forall_mem_cons.mpr ⟨lw_p29, List.forall_mem_cons.mpr ⟨lw_p30, List.forall_mem_cons.mpr ⟨lw_p31, fun _ h => absurd h List.not_mem_nil⟩⟩⟩⟩⟩⟩⟩⟩⟩⟩⟩⟩⟩⟩⟩⟩
theorem lw_p32 : lw_okq (⟨"StoneVotesModel", "tipOf", "(I)I"⟩, 34) := ⟨⟨by decide +kernel, by decide +kernel⟩, List.mem_of_getElem? (i := 668) (by decide +kernel), List.mem_of_getElem? (i := 929) (by decide +kernel), List.mem_of_getElem? (i := 930) (by decide +kernel)⟩
theorem lw_p33 : lw_okq (⟨"StoneVotesModel", "heaps", "(I)V"⟩, 34) := ⟨⟨by decide +kernel, by decide +kernel⟩, List.mem_of_getElem? (i := 668) (by decide +kernel), List.mem_of_getElem? (i := 933) (by decide +kernel), List.mem_of_getElem? (i := 934) (by decide +kernel)⟩
theorem lw_p34 : lw_okq (⟨"StoneVotesModel", "shelfOf", "(I)I"⟩, 34) := ⟨⟨by decide +kernel, by decide +kernel⟩, List.mem_of_getElem? (i := 668) (by decide +kernel), List.mem_of_getElem? (i := 937) (by decide +kernel), List.mem_of_getElem? (i := 938) (by decide +kernel)⟩
theorem lw_p35 : lw_okq (⟨"StoneVotesModel", "slides", "(I)V"⟩, 34) := ⟨⟨by decide +kernel, by decide +kernel⟩, List.mem_of_getElem? (i := 668) (by decide +kernel), List.mem_of_getElem? (i := 941) (by decide +kernel), List.mem_of_getElem? (i := 942) (by decide +kernel)⟩
theorem lw_p36 : lw_okq (⟨"StoneVotesModel", "tipNow", "(I)I"⟩, 34) := ⟨⟨by decide +kernel, by decide +kernel⟩, List.mem_of_getElem? (i := 668) (by decide +kernel), List.mem_of_getElem? (i := 945) (by decide +kernel), List.mem_of_getElem? (i := 946) (by decide +kernel)⟩
theorem lw_p37 : lw_okq (⟨"StoneVotesModel", "slidOf", "(I)I"⟩, 34) := ⟨⟨by decide +kernel, by decide +kernel⟩, List.mem_of_getElem? (i := 668) (by decide +kernel), List.mem_of_getElem? (i := 957) (by decide +kernel), List.mem_of_getElem? (i := 958) (by decide +kernel)⟩
theorem lw_p38 : lw_okq (⟨"StoneVotesModel", "whenNow", "()I"⟩, 34) := ⟨⟨by decide +kernel, by decide +kernel⟩, List.mem_of_getElem? (i := 668) (by decide +kernel), List.mem_of_getElem? (i := 965) (by decide +kernel), List.mem_of_getElem? (i := 966) (by decide +kernel)⟩
theorem lw_p39 : lw_okq (⟨"StoneVotesModel", "end", "()I"⟩, 34) := ⟨⟨by decide +kernel, by decide +kernel⟩, List.mem_of_getElem? (i := 668) (by decide +kernel), List.mem_of_getElem? (i := 969) (by decide +kernel), List.mem_of_getElem? (i := 970) (by decide +kernel)⟩
theorem lw_p40 : lw_okq (⟨"StoneVotesModel", "resultOf", "(I)I"⟩, 34) := ⟨⟨by decide +kernel, by decide +kernel⟩, List.mem_of_getElem? (i := 668) (by decide +kernel), List.mem_of_getElem? (i := 977) (by decide +kernel), List.mem_of_getElem? (i := 978) (by decide +kernel)⟩
theorem lw_p41 : lw_okq (⟨"StoneVotesModel", "withoutOf", "(I)I"⟩, 34) := ⟨⟨by decide +kernel, by decide +kernel⟩, List.mem_of_getElem? (i := 668) (by decide +kernel), List.mem_of_getElem? (i := 988) (by decide +kernel), List.mem_of_getElem? (i := 989) (by decide +kernel)⟩
theorem lw_p42 : lw_okq (⟨"StoneVotesModel", "settledNow", "()I"⟩, 34) := ⟨⟨by decide +kernel, by decide +kernel⟩, List.mem_of_getElem? (i := 668) (by decide +kernel), List.mem_of_getElem? (i := 996) (by decide +kernel), List.mem_of_getElem? (i := 997) (by decide +kernel)⟩
theorem lw_p43 : lw_okq (⟨"StoneVotesModel", "fewestOf", "(I)I"⟩, 34) := ⟨⟨by decide +kernel, by decide +kernel⟩, List.mem_of_getElem? (i := 668) (by decide +kernel), List.mem_of_getElem? (i := 1011) (by decide +kernel), List.mem_of_getElem? (i := 1012) (by decide +kernel)⟩
theorem lw_p44 : lw_okq (⟨"StoneVotesModel", "freeOf", "(I)I"⟩, 34) := ⟨⟨by decide +kernel, by decide +kernel⟩, List.mem_of_getElem? (i := 668) (by decide +kernel), List.mem_of_getElem? (i := 1015) (by decide +kernel), List.mem_of_getElem? (i := 1016) (by decide +kernel)⟩
theorem lw_p45 : lw_okq (⟨"StoneVotesModel", "isLifted", "(II)Z"⟩, 34) := ⟨⟨by decide +kernel, by decide +kernel⟩, List.mem_of_getElem? (i := 668) (by decide +kernel), List.mem_of_getElem? (i := 1019) (by decide +kernel), List.mem_of_getElem? (i := 1020) (by decide +kernel)⟩
theorem lw_p46 : lw_okq (⟨"StoneVotesModel", "weightOf", "(I)I"⟩, 34) := ⟨⟨by decide +kernel, by decide +kernel⟩, List.mem_of_getElem? (i := 668) (by decide +kernel), List.mem_of_getElem? (i := 1023) (by decide +kernel), List.mem_of_getElem? (i := 1024) (by decide +kernel)⟩
theorem lw_p47 : lw_okq (⟨"StoneVotesModel", "mostOf", "(II)I"⟩, 34) := ⟨⟨by decide +kernel, by decide +kernel⟩, List.mem_of_getElem? (i := 668) (by decide +kernel), List.mem_of_getElem? (i := 1034) (by decide +kernel), List.mem_of_getElem? (i := 1035) (by decide +kernel)⟩
def lw_privs_3 : List (MethodName × Nat) := [(⟨"StoneVotesModel", "tipOf", "(I)I"⟩, 34), (⟨"StoneVotesModel", "heaps", "(I)V"⟩, 34), (⟨"StoneVotesModel", "shelfOf", "(I)I"⟩, 34), (⟨"StoneVotesModel", "slides", "(I)V"⟩, 34), (⟨"StoneVotesModel", "tipNow", "(I)I"⟩, 34), (⟨"StoneVotesModel", "slidOf", "(I)I"⟩, 34), (⟨"StoneVotesModel", "whenNow", "()I"⟩, 34), (⟨"StoneVotesModel", "end", "()I"⟩, 34), (⟨"StoneVotesModel", "resultOf", "(I)I"⟩, 34), (⟨"StoneVotesModel", "withoutOf", "(I)I"⟩, 34), (⟨"StoneVotesModel", "settledNow", "()I"⟩, 34), (⟨"StoneVotesModel", "fewestOf", "(I)I"⟩, 34), (⟨"StoneVotesModel", "freeOf", "(I)I"⟩, 34), (⟨"StoneVotesModel", "isLifted", "(II)Z"⟩, 34), (⟨"StoneVotesModel", "weightOf", "(I)I"⟩, 34), (⟨"StoneVotesModel", "mostOf", "(II)I"⟩, 34)]
theorem lw_r3 : ∀ q ∈ lw_privs_3, lw_okq q := List.forall_mem_cons.mpr ⟨lw_p32, List.forall_mem_cons.mpr ⟨lw_p33, List.forall_mem_cons.mpr ⟨lw_p34, List.forall_mem_cons.mpr ⟨lw_p35, List.forall_mem_cons.mpr ⟨lw_p36, List.forall_mem_cons.mpr ⟨lw_p37, List.forall_mem_cons.mpr ⟨lw_p38, List.forall_mem_cons.mpr ⟨lw_p39, List.forall_mem_cons.mpr ⟨lw_p40, List.forall_mem_cons.mpr ⟨lw_p41, List.forall_mem_cons.mpr ⟨lw_p42, List.forall_mem_cons.mpr ⟨lw_p43, List.forall_mem_cons.mpr ⟨lw_p44, List.forall_mem_cons.mpr ⟨lw_p45, List.forall_mem_cons.mpr ⟨lw_p46, List.forall_mem_cons.mpr ⟨lw_p47, fun _ h => absurd h List.not_mem_nil⟩⟩⟩⟩⟩⟩⟩⟩⟩⟩⟩⟩⟩⟩⟩⟩
theorem lw_p48 : lw_okq (⟨"StoneVotesModel", "carriesAll", "(II)Z"⟩, 34) := ⟨⟨by decide +kernel, by decide +kernel⟩, List.mem_of_getElem? (i := 668) (by decide +kernel), List.mem_of_getElem? (i := 1038) (by decide +kernel), List.mem_of_getElem? (i := 1039) (by decide +kernel)⟩
theorem lw_p49 : lw_okq (⟨"StoneVotesModel", "holdOf", "(I)I"⟩, 34) := ⟨⟨by decide +kernel, by decide +kernel⟩, List.mem_of_getElem? (i := 668) (by decide +kernel), List.mem_of_getElem? (i := 1046) (by decide +kernel), List.mem_of_getElem? (i := 1047) (by decide +kernel)⟩
theorem lw_p50 : lw_okq (⟨"StoneVotesModel", "gameOf", "(II)I"⟩, 34) := ⟨⟨by decide +kernel, by decide +kernel⟩, List.mem_of_getElem? (i := 668) (by decide +kernel), List.mem_of_getElem? (i := 1055) (by decide +kernel), List.mem_of_getElem? (i := 1056) (by decide +kernel)⟩
theorem lw_p51 : lw_okq (⟨"StoneVotesModel", "enters", "(III)V"⟩, 34) := ⟨⟨by decide +kernel, by decide +kernel⟩, List.mem_of_getElem? (i := 668) (by decide +kernel), List.mem_of_getElem? (i := 1059) (by decide +kernel), List.mem_of_getElem? (i := 1060) (by decide +kernel)⟩
theorem lw_p52 : lw_okq (⟨"StoneVotesModel", "secretOf", "(II)I"⟩, 34) := ⟨⟨by decide +kernel, by decide +kernel⟩, List.mem_of_getElem? (i := 668) (by decide +kernel), List.mem_of_getElem? (i := 1073) (by decide +kernel), List.mem_of_getElem? (i := 1074) (by decide +kernel)⟩
def lw_privs_4 : List (MethodName × Nat) := [(⟨"StoneVotesModel", "carriesAll", "(II)Z"⟩, 34), (⟨"StoneVotesModel", "holdOf", "(I)I"⟩, 34), (⟨"StoneVotesModel", "gameOf", "(II)I"⟩, 34), (⟨"StoneVotesModel", "enters", "(III)V"⟩, 34), (⟨"StoneVotesModel", "secretOf", "(II)I"⟩, 34)]
theorem lw_r4 : ∀ q ∈ lw_privs_4, lw_okq q := List.forall_mem_cons.mpr ⟨lw_p48, List.forall_mem_cons.mpr ⟨lw_p49, List.forall_mem_cons.mpr ⟨lw_p50, List.forall_mem_cons.mpr ⟨lw_p51, List.forall_mem_cons.mpr ⟨lw_p52, fun _ h => absurd h List.not_mem_nil⟩⟩⟩⟩⟩
def lw_privs : List (MethodName × Nat) := lw_privs_1 ++ (lw_privs_2 ++ (lw_privs_3 ++ (lw_privs_4)))
def lw_tbl : List Cond := k2_sels lw_privs ++ tables_1
theorem lw_privs_ok : ∀ q ∈ lw_privs, lw_okq q := by
  show ∀ q ∈ lw_privs_1 ++ (lw_privs_2 ++ (lw_privs_3 ++ (lw_privs_4))), lw_okq q
  exact List.forall_mem_append.mpr ⟨lw_r1, List.forall_mem_append.mpr ⟨lw_r2, List.forall_mem_append.mpr ⟨lw_r3, lw_r4⟩⟩⟩
end
section
def RX0 : String := "StoneVotes$Ballot"
def TX0 : u_T := fun k => match k with
  | 0 => ("StoneVotes$Ballot", "island", "LStoneVotes$Island;", true)
  | 1 => ("StoneVotes$Ballot", "pulls", "[I", true)
  | 2 => ("StoneVotes$Ballot", "reach", "[I", true)
  | 3 => ("StoneVotes$Ballot", "size", "I", false)
  | 4 => ("StoneVotes$Ballot", "told", "I", false)
  | 5 => ("StoneVotes$Ballot", "ways", "I", false)
  | 6 => ("StoneVotes$Ballot", "yesInAll", "I", false)
  | _ => ("StoneVotes$Ballot", "noInAll", "I", false)
def tyX0 : Nat → FieldType := fun k => match k with
  | 0 => .object "StoneVotes$Island"
  | 1 => .array .int
  | 2 => .array .int
  | 3 => .int
  | 4 => .int
  | 5 => .int
  | 6 => .int
  | _ => .int
abbrev wsX00 : List Cond := u_ws RX0 TX0 8
theorem nmX0 : ∀ a, a < 8 → ∀ b, b < 8 → a ≠ b → (TX0 a).2.1 ≠ (TX0 b).2.1 := by decide +kernel
theorem tyX0_ok : ∀ k, k < 8 → parseFieldDescriptor (TX0 k).2.2.1 = some (tyX0 k) := by decide +kernel
abbrev cX0_init : ByteArray := prog_2_method_1_code
def yX0_init : MethodName := ⟨RX0, "<init>", "(LStoneVotes$Island;)V"⟩
abbrev cX0_open : ByteArray := prog_2_method_2_code
def yX0_open : MethodName := ⟨RX0, "open", "(I)V"⟩
abbrev cX0_vote : ByteArray := prog_2_method_3_code
def yX0_vote : MethodName := ⟨RX0, "vote", "(LStoneVotes$Ballot;IIII)V"⟩
def RX1 : String := "StoneVotes$Carries"
def TX1 : u_T := fun k => match k with
  | 0 => ("StoneVotes$Carries", "person", "[I", true)
  | 1 => ("StoneVotes$Carries", "stone", "[I", true)
  | 2 => ("StoneVotes$Carries", "arm", "[I", true)
  | _ => ("StoneVotes$Carries", "size", "I", false)
def tyX1 : Nat → FieldType := fun k => match k with
  | 0 => .array .int
  | 1 => .array .int
  | 2 => .array .int
  | _ => .int
abbrev wsX10 : List Cond := u_ws RX1 TX1 4
theorem nmX1 : ∀ a, a < 4 → ∀ b, b < 4 → a ≠ b → (TX1 a).2.1 ≠ (TX1 b).2.1 := by decide +kernel
theorem tyX1_ok : ∀ k, k < 4 → parseFieldDescriptor (TX1 k).2.2.1 = some (tyX1 k) := by decide +kernel
abbrev cX1_init : ByteArray := prog_3_method_1_code
def yX1_init : MethodName := ⟨RX1, "<init>", "()V"⟩
abbrev cX1_canBeTold : ByteArray := prog_3_method_2_code
def yX1_canBeTold : MethodName := ⟨RX1, "canBeTold", "(III)Z"⟩
abbrev cX1_isFull : ByteArray := prog_3_method_3_code
def yX1_isFull : MethodName := ⟨RX1, "isFull", "()Z"⟩
abbrev cX1_append : ByteArray := prog_3_method_4_code
def yX1_append : MethodName := ⟨RX1, "append", "(III)V"⟩
def RX2 : String := "StoneVotes$Heap"
def TX2 : u_T := fun k => match k with
  | 0 => ("StoneVotes$Heap", "island", "LStoneVotes$Island;", true)
  | 1 => ("StoneVotes$Heap", "carries", "LStoneVotes$Carries;", true)
  | 2 => ("StoneVotes$Heap", "laidAt", "[I", true)
  | 3 => ("StoneVotes$Heap", "carrier", "[I", true)
  | 4 => ("StoneVotes$Heap", "busyUntil", "[I", true)
  | 5 => ("StoneVotes$Heap", "order", "[I", true)
  | 6 => ("StoneVotes$Heap", "lawful", "I", false)
  | 7 => ("StoneVotes$Heap", "onShelf", "[I", true)
  | 8 => ("StoneVotes$Heap", "place", "[I", true)
  | _ => ("StoneVotes$Heap", "slidStones", "I", false)
def tyX2 : Nat → FieldType := fun k => match k with
  | 0 => .object "StoneVotes$Island"
  | 1 => .object "StoneVotes$Carries"
  | 2 => .array .int
  | 3 => .array .int
  | 4 => .array .int
  | 5 => .array .int
  | 6 => .int
  | 7 => .array .int
  | 8 => .array .int
  | _ => .int
abbrev wsX20 : List Cond := u_ws RX2 TX2 10
theorem nmX2 : ∀ a, a < 10 → ∀ b, b < 10 → a ≠ b → (TX2 a).2.1 ≠ (TX2 b).2.1 := by decide +kernel
theorem tyX2_ok : ∀ k, k < 10 → parseFieldDescriptor (TX2 k).2.2.1 = some (tyX2 k) := by decide +kernel
abbrev cX2_init : ByteArray := prog_4_method_1_code
def yX2_init : MethodName := ⟨RX2, "<init>", "(LStoneVotes$Island;LStoneVotes$Carries;)V"⟩
abbrev cX2_judgeAll : ByteArray := prog_4_method_2_code
def yX2_judgeAll : MethodName := ⟨RX2, "judgeAll", "()V"⟩
abbrev cX2_judgeWithout : ByteArray := prog_4_method_3_code
def yX2_judgeWithout : MethodName := ⟨RX2, "judgeWithout", "(I)V"⟩
abbrev cX2_hourByLaw : ByteArray := prog_4_method_4_code
def yX2_hourByLaw : MethodName := ⟨RX2, "hourByLaw", "(I)I"⟩
abbrev cX2_take : ByteArray := prog_4_method_5_code
def yX2_take : MethodName := ⟨RX2, "take", "(I)V"⟩
abbrev cX2_pileUp : ByteArray := prog_4_method_6_code
def yX2_pileUp : MethodName := ⟨RX2, "pileUp", "(I)V"⟩
abbrev cX2_put : ByteArray := prog_4_method_7_code
def yX2_put : MethodName := ⟨RX2, "put", "(I)V"⟩
abbrev cX2_slide : ByteArray := prog_4_method_8_code
def yX2_slide : MethodName := ⟨RX2, "slide", "(I)V"⟩
abbrev cX2_tipAt : ByteArray := prog_4_method_9_code
def yX2_tipAt : MethodName := ⟨RX2, "tipAt", "(I)I"⟩
abbrev cX2_weightLead : ByteArray := prog_4_method_10_code
def yX2_weightLead : MethodName := ⟨RX2, "weightLead", "()I"⟩
abbrev cX2_votersLead : ByteArray := prog_4_method_11_code
def yX2_votersLead : MethodName := ⟨RX2, "votersLead", "()I"⟩
def RX3 : String := "StoneVotes$Island"
def TX3 : u_T := fun k => match k with
  | 0 => ("StoneVotes$Island", "people", "LStoneVotes$Text;", true)
  | 1 => ("StoneVotes$Island", "stones", "LStoneVotes$Text;", true)
  | 2 => ("StoneVotes$Island", "tides", "[I", true)
  | 3 => ("StoneVotes$Island", "arms", "[I", true)
  | 4 => ("StoneVotes$Island", "hours", "I", false)
  | _ => ("StoneVotes$Island", "load", "I", false)
def tyX3 : Nat → FieldType := fun k => match k with
  | 0 => .object "StoneVotes$Text"
  | 1 => .object "StoneVotes$Text"
  | 2 => .array .int
  | 3 => .array .int
  | 4 => .int
  | _ => .int
abbrev wsX30 : List Cond := u_ws RX3 TX3 6
theorem nmX3 : ∀ a, a < 6 → ∀ b, b < 6 → a ≠ b → (TX3 a).2.1 ≠ (TX3 b).2.1 := by decide +kernel
theorem tyX3_ok : ∀ k, k < 6 → parseFieldDescriptor (TX3 k).2.2.1 = some (tyX3 k) := by decide +kernel
abbrev cX3_init : ByteArray := prog_5_method_1_code
def yX3_init : MethodName := ⟨RX3, "<init>", "()V"⟩
abbrev cX3_text : ByteArray := prog_5_method_2_code
def yX3_text : MethodName := ⟨RX3, "text", "(I)LStoneVotes$Text;"⟩
abbrev cX3_strength : ByteArray := prog_5_method_3_code
def yX3_strength : MethodName := ⟨RX3, "strength", "(I)I"⟩
abbrev cX3_sideOf : ByteArray := prog_5_method_4_code
def yX3_sideOf : MethodName := ⟨RX3, "sideOf", "(I)I"⟩
abbrev cX3_weight : ByteArray := prog_5_method_5_code
def yX3_weight : MethodName := ⟨RX3, "weight", "(I)I"⟩
abbrev cX3_way : ByteArray := prog_5_method_6_code
def yX3_way : MethodName := ⟨RX3, "way", "(I)I"⟩
abbrev cX3_weightOf : ByteArray := prog_5_method_7_code
def yX3_weightOf : MethodName := ⟨RX3, "weightOf", "(I)I"⟩
abbrev cX3_strongest : ByteArray := prog_5_method_8_code
def yX3_strongest : MethodName := ⟨RX3, "strongest", "(I)I"⟩
def RX4 : String := "StoneVotes$Porters"
def TX4 : u_T := fun k => match k with
  | 0 => ("StoneVotes$Porters", "island", "LStoneVotes$Island;", true)
  | 1 => ("StoneVotes$Porters", "strengths", "[I", true)
  | 2 => ("StoneVotes$Porters", "size", "I", false)
  | _ => ("StoneVotes$Porters", "least", "[I", true)
def tyX4 : Nat → FieldType := fun k => match k with
  | 0 => .object "StoneVotes$Island"
  | 1 => .array .int
  | 2 => .int
  | _ => .array .int
abbrev wsX40 : List Cond := u_ws RX4 TX4 4
theorem nmX4 : ∀ a, a < 4 → ∀ b, b < 4 → a ≠ b → (TX4 a).2.1 ≠ (TX4 b).2.1 := by decide +kernel
theorem tyX4_ok : ∀ k, k < 4 → parseFieldDescriptor (TX4 k).2.2.1 = some (tyX4 k) := by decide +kernel
abbrev cX4_init : ByteArray := prog_6_method_1_code
def yX4_init : MethodName := ⟨RX4, "<init>", "(LStoneVotes$Island;)V"⟩
abbrev cX4_mostWeight : ByteArray := prog_6_method_2_code
def yX4_mostWeight : MethodName := ⟨RX4, "mostWeight", "(II)I"⟩
abbrev cX4_gather : ByteArray := prog_6_method_3_code
def yX4_gather : MethodName := ⟨RX4, "gather", "(II)V"⟩
abbrev cX4_leastFor : ByteArray := prog_6_method_4_code
def yX4_leastFor : MethodName := ⟨RX4, "leastFor", "(I)I"⟩
abbrev cX4_after : ByteArray := prog_6_method_5_code
def yX4_after : MethodName := ⟨RX4, "after", "(II)I"⟩
def RX5 : String := "StoneVotes$Sheet"
def TX5 : u_T := fun k => match k with
  | 0 => ("StoneVotes$Sheet", "items", "[I", true)
  | 1 => ("StoneVotes$Sheet", "form", "I", false)
  | _ => ("StoneVotes$Sheet", "size", "I", false)
def tyX5 : Nat → FieldType := fun k => match k with
  | 0 => .array .int
  | 1 => .int
  | _ => .int
abbrev wsX50 : List Cond := u_ws RX5 TX5 3
theorem nmX5 : ∀ a, a < 3 → ∀ b, b < 3 → a ≠ b → (TX5 a).2.1 ≠ (TX5 b).2.1 := by decide +kernel
theorem tyX5_ok : ∀ k, k < 3 → parseFieldDescriptor (TX5 k).2.2.1 = some (tyX5 k) := by decide +kernel
abbrev cX5_init : ByteArray := prog_7_method_1_code
def yX5_init : MethodName := ⟨RX5, "<init>", "()V"⟩
abbrev cX5_isLost : ByteArray := prog_7_method_2_code
def yX5_isLost : MethodName := ⟨RX5, "isLost", "()Z"⟩
abbrev cX5_renew : ByteArray := prog_7_method_3_code
def yX5_renew : MethodName := ⟨RX5, "renew", "(II)V"⟩
abbrev cX5_put : ByteArray := prog_7_method_4_code
def yX5_put : MethodName := ⟨RX5, "put", "(II)V"⟩
abbrev cX5_hasRun : ByteArray := prog_7_method_5_code
def yX5_hasRun : MethodName := ⟨RX5, "hasRun", "(II)Z"⟩
def RX6 : String := "StoneVotes$Text"
def TX6 : u_T := fun k => match k with
  | 0 => ("StoneVotes$Text", "bytes", "[I", true)
  | 1 => ("StoneVotes$Text", "mostPairs", "I", true)
  | 2 => ("StoneVotes$Text", "lettered", "Z", true)
  | 3 => ("StoneVotes$Text", "first", "[I", true)
  | 4 => ("StoneVotes$Text", "second", "[I", true)
  | 5 => ("StoneVotes$Text", "length", "I", false)
  | 6 => ("StoneVotes$Text", "flaw", "I", false)
  | _ => ("StoneVotes$Text", "size", "I", false)
def tyX6 : Nat → FieldType := fun k => match k with
  | 0 => .array .int
  | 1 => .int
  | 2 => .boolean
  | 3 => .array .int
  | 4 => .array .int
  | 5 => .int
  | 6 => .int
  | _ => .int
abbrev wsX60 : List Cond := u_ws RX6 TX6 8
theorem nmX6 : ∀ a, a < 8 → ∀ b, b < 8 → a ≠ b → (TX6 a).2.1 ≠ (TX6 b).2.1 := by decide +kernel
theorem tyX6_ok : ∀ k, k < 8 → parseFieldDescriptor (TX6 k).2.2.1 = some (tyX6 k) := by decide +kernel
abbrev cX6_init : ByteArray := prog_8_method_1_code
def yX6_init : MethodName := ⟨RX6, "<init>", "(IIZ)V"⟩
abbrev cX6_isFull : ByteArray := prog_8_method_2_code
def yX6_isFull : MethodName := ⟨RX6, "isFull", "()Z"⟩
abbrev cX6_append : ByteArray := prog_8_method_3_code
def yX6_append : MethodName := ⟨RX6, "append", "(I)V"⟩
abbrev cX6_clear : ByteArray := prog_8_method_4_code
def yX6_clear : MethodName := ⟨RX6, "clear", "()V"⟩
abbrev cX6_readLastPair : ByteArray := prog_8_method_5_code
def yX6_readLastPair : MethodName := ⟨RX6, "readLastPair", "()V"⟩
abbrev cX6_findFlaw : ByteArray := prog_8_method_6_code
def yX6_findFlaw : MethodName := ⟨RX6, "findFlaw", "()I"⟩
abbrev cX6_fits : ByteArray := prog_8_method_7_code
def yX6_fits : MethodName := ⟨RX6, "fits", "(I)Z"⟩
def RX7 : String := "StoneVotes"
def TX7 : u_T := fun k => match k with
  | 0 => ("StoneVotes", "island", "LStoneVotes$Island;", true)
  | 1 => ("StoneVotes", "carries", "LStoneVotes$Carries;", true)
  | 2 => ("StoneVotes", "heap", "LStoneVotes$Heap;", true)
  | 3 => ("StoneVotes", "otherHeap", "LStoneVotes$Heap;", true)
  | 4 => ("StoneVotes", "porters", "LStoneVotes$Porters;", true)
  | 5 => ("StoneVotes", "ballot", "LStoneVotes$Ballot;", true)
  | 6 => ("StoneVotes", "sheets", "[LStoneVotes$Sheet;", true)
  | _ => ("StoneVotes", "finding", "I", false)
def tyX7 : Nat → FieldType := fun k => match k with
  | 0 => .object "StoneVotes$Island"
  | 1 => .object "StoneVotes$Carries"
  | 2 => .object "StoneVotes$Heap"
  | 3 => .object "StoneVotes$Heap"
  | 4 => .object "StoneVotes$Porters"
  | 5 => .object "StoneVotes$Ballot"
  | 6 => .array (.object "StoneVotes$Sheet")
  | _ => .int
abbrev wsX70 : List Cond := u_ws RX7 TX7 8
theorem nmX7 : ∀ a, a < 8 → ∀ b, b < 8 → a ≠ b → (TX7 a).2.1 ≠ (TX7 b).2.1 := by decide +kernel
theorem tyX7_ok : ∀ k, k < 8 → parseFieldDescriptor (TX7 k).2.2.1 = some (tyX7 k) := by decide +kernel
abbrev cX7_init : ByteArray := prog_1_method_1_code
def yX7_init : MethodName := ⟨RX7, "<init>", "()V"⟩
abbrev cX7_type : ByteArray := prog_1_method_2_code
def yX7_type : MethodName := ⟨RX7, "type", "(II)I"⟩
abbrev cX7_wipe : ByteArray := prog_1_method_3_code
def yX7_wipe : MethodName := ⟨RX7, "wipe", "(I)I"⟩
abbrev cX7_fault : ByteArray := prog_1_method_4_code
def yX7_fault : MethodName := ⟨RX7, "fault", "(I)I"⟩
abbrev cX7_person : ByteArray := prog_1_method_5_code
def yX7_person : MethodName := ⟨RX7, "person", "(II)I"⟩
abbrev cX7_stone : ByteArray := prog_1_method_6_code
def yX7_stone : MethodName := ⟨RX7, "stone", "(II)I"⟩
abbrev cX7_set : ByteArray := prog_1_method_7_code
def yX7_set : MethodName := ⟨RX7, "set", "(II)I"⟩
abbrev cX7_tide : ByteArray := prog_1_method_8_code
def yX7_tide : MethodName := ⟨RX7, "tide", "(II)I"⟩
abbrev cX7_carry : ByteArray := prog_1_method_9_code
def yX7_carry : MethodName := ⟨RX7, "carry", "(III)I"⟩
abbrev cX7_read : ByteArray := prog_1_method_10_code
def yX7_read : MethodName := ⟨RX7, "read", "(I)I"⟩
abbrev cX7_undo : ByteArray := prog_1_method_11_code
def yX7_undo : MethodName := ⟨RX7, "undo", "()I"⟩
abbrev cX7_judged : ByteArray := prog_1_method_12_code
def yX7_judged : MethodName := ⟨RX7, "judged", "()I"⟩
abbrev cX7_laid : ByteArray := prog_1_method_13_code
def yX7_laid : MethodName := ⟨RX7, "laid", "(I)I"⟩
abbrev cX7_tip : ByteArray := prog_1_method_14_code
def yX7_tip : MethodName := ⟨RX7, "tip", "(I)I"⟩
abbrev cX7_shelf : ByteArray := prog_1_method_15_code
def yX7_shelf : MethodName := ⟨RX7, "shelf", "(III)I"⟩
abbrev cX7_slid : ByteArray := prog_1_method_16_code
def yX7_slid : MethodName := ⟨RX7, "slid", "(I)I"⟩
abbrev cX7_when : ByteArray := prog_1_method_17_code
def yX7_when : MethodName := ⟨RX7, "when", "()I"⟩
abbrev cX7_result : ByteArray := prog_1_method_18_code
def yX7_result : MethodName := ⟨RX7, "result", "(I)I"⟩
abbrev cX7_without : ByteArray := prog_1_method_19_code
def yX7_without : MethodName := ⟨RX7, "without", "(I)I"⟩
abbrev cX7_settled : ByteArray := prog_1_method_20_code
def yX7_settled : MethodName := ⟨RX7, "settled", "()I"⟩
abbrev cX7_doubles : ByteArray := prog_1_method_21_code
def yX7_doubles : MethodName := ⟨RX7, "doubles", "()I"⟩
abbrev cX7_fewest : ByteArray := prog_1_method_22_code
def yX7_fewest : MethodName := ⟨RX7, "fewest", "(I)I"⟩
abbrev cX7_most : ByteArray := prog_1_method_23_code
def yX7_most : MethodName := ⟨RX7, "most", "(I)I"⟩
abbrev cX7_hold : ByteArray := prog_1_method_24_code
def yX7_hold : MethodName := ⟨RX7, "hold", "(I)I"⟩
abbrev cX7_game : ByteArray := prog_1_method_25_code
def yX7_game : MethodName := ⟨RX7, "game", "(II)I"⟩
abbrev cX7_arm : ByteArray := prog_1_method_26_code
def yX7_arm : MethodName := ⟨RX7, "arm", "(II)I"⟩
abbrev cX7_secret : ByteArray := prog_1_method_27_code
def yX7_secret : MethodName := ⟨RX7, "secret", "(II)I"⟩
abbrev cX7_sheet : ByteArray := prog_1_method_28_code
def yX7_sheet : MethodName := ⟨RX7, "sheet", "(III)I"⟩
abbrev cX7_lose : ByteArray := prog_1_method_29_code
def yX7_lose : MethodName := ⟨RX7, "lose", "(I)I"⟩
abbrev cX7_lay : ByteArray := prog_1_method_30_code
def yX7_lay : MethodName := ⟨RX7, "lay", "(IIII)I"⟩
abbrev cX7_get : ByteArray := prog_1_method_31_code
def yX7_get : MethodName := ⟨RX7, "get", "(III)I"⟩
abbrev cX7_copy : ByteArray := prog_1_method_32_code
def yX7_copy : MethodName := ⟨RX7, "copy", "(IIIII)I"⟩
abbrev cX7_write : ByteArray := prog_1_method_33_code
def yX7_write : MethodName := ⟨RX7, "write", "(I)I"⟩
abbrev cX7_count : ByteArray := prog_1_method_34_code
def yX7_count : MethodName := ⟨RX7, "count", "(I)I"⟩
abbrev cX7_digest : ByteArray := prog_1_method_35_code
def yX7_digest : MethodName := ⟨RX7, "digest", "()J"⟩
abbrev cX7_digestPeopleAndStones : ByteArray := prog_1_method_36_code
def yX7_digestPeopleAndStones : MethodName := ⟨RX7, "digestPeopleAndStones", "(J)J"⟩
abbrev cX7_digestHeap : ByteArray := prog_1_method_37_code
def yX7_digestHeap : MethodName := ⟨RX7, "digestHeap", "(J)J"⟩
abbrev cX7_digestWhatCouldBe : ByteArray := prog_1_method_38_code
def yX7_digestWhatCouldBe : MethodName := ⟨RX7, "digestWhatCouldBe", "(J)J"⟩
abbrev cX7_stonesLying : ByteArray := prog_1_method_39_code
def yX7_stonesLying : MethodName := ⟨RX7, "stonesLying", "()I"⟩
abbrev cX7_layable : ByteArray := prog_1_method_40_code
def yX7_layable : MethodName := ⟨RX7, "layable", "(I)I"⟩
abbrev cX7_fewestBits : ByteArray := prog_1_method_41_code
def yX7_fewestBits : MethodName := ⟨RX7, "fewestBits", "()I"⟩
abbrev cX7_firstStone : ByteArray := prog_1_method_42_code
def yX7_firstStone : MethodName := ⟨RX7, "firstStone", "(IIII)I"⟩
abbrev cX7_playOut : ByteArray := prog_1_method_43_code
def yX7_playOut : MethodName := ⟨RX7, "playOut", "(LStoneVotes$Island;IIIII)I"⟩
abbrev cX7_found : ByteArray := prog_1_method_44_code
def yX7_found : MethodName := ⟨RX7, "found", "(I)I"⟩
abbrev cX7_refusalOf : ByteArray := prog_1_method_45_code
def yX7_refusalOf : MethodName := ⟨RX7, "refusalOf", "(I)I"⟩
abbrev cX7_refusalOfItem : ByteArray := prog_1_method_46_code
def yX7_refusalOfItem : MethodName := ⟨RX7, "refusalOfItem", "(III)I"⟩
abbrev cX7_within : ByteArray := prog_1_method_47_code
def yX7_within : MethodName := ⟨RX7, "within", "(III)Z"⟩
abbrev cX7_shelfNumber : ByteArray := prog_1_method_48_code
def yX7_shelfNumber : MethodName := ⟨RX7, "shelfNumber", "(II)I"⟩
def RX8 : String := "StoneVotesModel"
def TX8 : u_T := fun k => match k with
  | 0 => ("StoneVotesModel", "forms", "[I", true)
  | 1 => ("StoneVotesModel", "sizes", "[I", true)
  | 2 => ("StoneVotesModel", "items", "[I", true)
  | 3 => ("StoneVotesModel", "moved", "[I", true)
  | 4 => ("StoneVotesModel", "latest", "I", false)
  | 5 => ("StoneVotesModel", "bytes", "[I", true)
  | 6 => ("StoneVotesModel", "typed", "[I", true)
  | 7 => ("StoneVotesModel", "people", "I", false)
  | 8 => ("StoneVotesModel", "strengths", "[I", true)
  | 9 => ("StoneVotesModel", "sides", "[I", true)
  | 10 => ("StoneVotesModel", "stones", "I", false)
  | 11 => ("StoneVotesModel", "weights", "[I", true)
  | 12 => ("StoneVotesModel", "ways", "[I", true)
  | 13 => ("StoneVotesModel", "settings", "[I", true)
  | 14 => ("StoneVotesModel", "tides", "[I", true)
  | 15 => ("StoneVotesModel", "arms", "[I", true)
  | 16 => ("StoneVotesModel", "carries", "I", false)
  | 17 => ("StoneVotesModel", "told", "[I", true)
  | 18 => ("StoneVotesModel", "laidAt", "[I", true)
  | 19 => ("StoneVotesModel", "lastAt", "[I", true)
  | 20 => ("StoneVotesModel", "carriedBy", "[I", true)
  | 21 => ("StoneVotesModel", "against", "I", false)
  | 22 => ("StoneVotesModel", "firstAgainst", "I", false)
  | 23 => ("StoneVotesModel", "onShelf", "[I", true)
  | 24 => ("StoneVotesModel", "lies", "[Z", true)
  | 25 => ("StoneVotesModel", "slidMany", "I", false)
  | 26 => ("StoneVotesModel", "can", "[Z", true)
  | 27 => ("StoneVotesModel", "could", "[Z", true)
  | 28 => ("StoneVotesModel", "takenAt", "[I", true)
  | 29 => ("StoneVotesModel", "tipAt", "[I", true)
  | 30 => ("StoneVotesModel", "pick", "[I", true)
  | 31 => ("StoneVotesModel", "bestAt", "[I", true)
  | 32 => ("StoneVotesModel", "hasBest", "[Z", true)
  | _ => ("StoneVotesModel", "freeBy", "[I", true)
def tyX8 : Nat → FieldType := fun k => match k with
  | 0 => .array .int
  | 1 => .array .int
  | 2 => .array .int
  | 3 => .array .int
  | 4 => .int
  | 5 => .array .int
  | 6 => .array .int
  | 7 => .int
  | 8 => .array .int
  | 9 => .array .int
  | 10 => .int
  | 11 => .array .int
  | 12 => .array .int
  | 13 => .array .int
  | 14 => .array .int
  | 15 => .array .int
  | 16 => .int
  | 17 => .array .int
  | 18 => .array .int
  | 19 => .array .int
  | 20 => .array .int
  | 21 => .int
  | 22 => .int
  | 23 => .array .int
  | 24 => .array .boolean
  | 25 => .int
  | 26 => .array .boolean
  | 27 => .array .boolean
  | 28 => .array .int
  | 29 => .array .int
  | 30 => .array .int
  | 31 => .array .int
  | 32 => .array .boolean
  | _ => .array .int
abbrev wsX80 : List Cond := u_ws RX8 TX8 34
theorem nmX8 : ∀ a, a < 34 → ∀ b, b < 34 → a ≠ b → (TX8 a).2.1 ≠ (TX8 b).2.1 := by decide +kernel
theorem tyX8_ok : ∀ k, k < 34 → parseFieldDescriptor (TX8 k).2.2.1 = some (tyX8 k) := by decide +kernel
abbrev cX8_init : ByteArray := prog_10_method_1_code
def yX8_init : MethodName := ⟨RX8, "<init>", "()V"⟩
abbrev cX8_in : ByteArray := prog_10_method_3_code
def yX8_in : MethodName := ⟨RX8, "in", "(JJJ)Z"⟩
abbrev cX8_isTwo : ByteArray := prog_10_method_4_code
def yX8_isTwo : MethodName := ⟨RX8, "isTwo", "(I)Z"⟩
abbrev cX8_isIn : ByteArray := prog_10_method_5_code
def yX8_isIn : MethodName := ⟨RX8, "isIn", "(II)Z"⟩
abbrev cX8_ones : ByteArray := prog_10_method_6_code
def yX8_ones : MethodName := ⟨RX8, "ones", "(I)I"⟩
abbrev cX8_met : ByteArray := prog_10_method_7_code
def yX8_met : MethodName := ⟨RX8, "met", "(I)I"⟩
abbrev cX8_isSheet : ByteArray := prog_10_method_8_code
def yX8_isSheet : MethodName := ⟨RX8, "isSheet", "(I)Z"⟩
abbrev cX8_sheet : ByteArray := prog_10_method_9_code
def yX8_sheet : MethodName := ⟨RX8, "sheet", "(III)I"⟩
abbrev cX8_lose : ByteArray := prog_10_method_10_code
def yX8_lose : MethodName := ⟨RX8, "lose", "(I)I"⟩
abbrev cX8_lacks : ByteArray := prog_10_method_11_code
def yX8_lacks : MethodName := ⟨RX8, "lacks", "(III)I"⟩
abbrev cX8_cut : ByteArray := prog_10_method_12_code
def yX8_cut : MethodName := ⟨RX8, "cut", "(II)I"⟩
abbrev cX8_lay : ByteArray := prog_10_method_13_code
def yX8_lay : MethodName := ⟨RX8, "lay", "(IIII)I"⟩
abbrev cX8_get : ByteArray := prog_10_method_14_code
def yX8_get : MethodName := ⟨RX8, "get", "(III)I"⟩
abbrev cX8_copy : ByteArray := prog_10_method_15_code
def yX8_copy : MethodName := ⟨RX8, "copy", "(IIIII)I"⟩
abbrev cX8_room : ByteArray := prog_10_method_16_code
def yX8_room : MethodName := ⟨RX8, "room", "(I)I"⟩
abbrev cX8_type : ByteArray := prog_10_method_17_code
def yX8_type : MethodName := ⟨RX8, "type", "(II)I"⟩
abbrev cX8_wipe : ByteArray := prog_10_method_18_code
def yX8_wipe : MethodName := ⟨RX8, "wipe", "(I)I"⟩
abbrev cX8_byteAt : ByteArray := prog_10_method_19_code
def yX8_byteAt : MethodName := ⟨RX8, "byteAt", "(II)I"⟩
abbrev cX8_readsPeople : ByteArray := prog_10_method_20_code
def yX8_readsPeople : MethodName := ⟨RX8, "readsPeople", "()I"⟩
abbrev cX8_readsStones : ByteArray := prog_10_method_21_code
def yX8_readsStones : MethodName := ⟨RX8, "readsStones", "()I"⟩
abbrev cX8_reads : ByteArray := prog_10_method_22_code
def yX8_reads : MethodName := ⟨RX8, "reads", "()V"⟩
abbrev cX8_fault : ByteArray := prog_10_method_23_code
def yX8_fault : MethodName := ⟨RX8, "fault", "(I)I"⟩
abbrev cX8_isPerson : ByteArray := prog_10_method_24_code
def yX8_isPerson : MethodName := ⟨RX8, "isPerson", "(I)Z"⟩
abbrev cX8_isStone : ByteArray := prog_10_method_25_code
def yX8_isStone : MethodName := ⟨RX8, "isStone", "(I)Z"⟩
abbrev cX8_set : ByteArray := prog_10_method_26_code
def yX8_set : MethodName := ⟨RX8, "set", "(II)I"⟩
abbrev cX8_isHour : ByteArray := prog_10_method_27_code
def yX8_isHour : MethodName := ⟨RX8, "isHour", "(I)Z"⟩
abbrev cX8_tide : ByteArray := prog_10_method_28_code
def yX8_tide : MethodName := ⟨RX8, "tide", "(II)I"⟩
abbrev cX8_carry : ByteArray := prog_10_method_29_code
def yX8_carry : MethodName := ⟨RX8, "carry", "(III)I"⟩
abbrev cX8_read : ByteArray := prog_10_method_30_code
def yX8_read : MethodName := ⟨RX8, "read", "(I)I"⟩
abbrev cX8_undo : ByteArray := prog_10_method_31_code
def yX8_undo : MethodName := ⟨RX8, "undo", "()I"⟩
abbrev cX8_mayCarry : ByteArray := prog_10_method_32_code
def yX8_mayCarry : MethodName := ⟨RX8, "mayCarry", "(II)Z"⟩
abbrev cX8_goes : ByteArray := prog_10_method_33_code
def yX8_goes : MethodName := ⟨RX8, "goes", "(I)V"⟩
abbrev cX8_personOf : ByteArray := prog_10_method_34_code
def yX8_personOf : MethodName := ⟨RX8, "personOf", "(II)I"⟩
abbrev cX8_person : ByteArray := prog_10_method_35_code
def yX8_person : MethodName := ⟨RX8, "person", "(II)I"⟩
abbrev cX8_stoneOf : ByteArray := prog_10_method_36_code
def yX8_stoneOf : MethodName := ⟨RX8, "stoneOf", "(II)I"⟩
abbrev cX8_stone : ByteArray := prog_10_method_37_code
def yX8_stone : MethodName := ⟨RX8, "stone", "(II)I"⟩
abbrev cX8_judged : ByteArray := prog_10_method_38_code
def yX8_judged : MethodName := ⟨RX8, "judged", "()I"⟩
abbrev cX8_laid : ByteArray := prog_10_method_39_code
def yX8_laid : MethodName := ⟨RX8, "laid", "(I)I"⟩
abbrev cX8_shelfOf : ByteArray := prog_10_method_40_code
def yX8_shelfOf : MethodName := ⟨RX8, "shelfOf", "(I)I"⟩
abbrev cX8_heaps : ByteArray := prog_10_method_41_code
def yX8_heaps : MethodName := ⟨RX8, "heaps", "(I)V"⟩
abbrev cX8_slides : ByteArray := prog_10_method_42_code
def yX8_slides : MethodName := ⟨RX8, "slides", "(I)V"⟩
abbrev cX8_tipNow : ByteArray := prog_10_method_43_code
def yX8_tipNow : MethodName := ⟨RX8, "tipNow", "(I)I"⟩
abbrev cX8_tipOf : ByteArray := prog_10_method_44_code
def yX8_tipOf : MethodName := ⟨RX8, "tipOf", "(I)I"⟩
abbrev cX8_tip : ByteArray := prog_10_method_45_code
def yX8_tip : MethodName := ⟨RX8, "tip", "(I)I"⟩
abbrev cX8_end : ByteArray := prog_10_method_46_code
def yX8_end : MethodName := ⟨RX8, "end", "()I"⟩
abbrev cX8_shelf : ByteArray := prog_10_method_47_code
def yX8_shelf : MethodName := ⟨RX8, "shelf", "(III)I"⟩
abbrev cX8_slidOf : ByteArray := prog_10_method_48_code
def yX8_slidOf : MethodName := ⟨RX8, "slidOf", "(I)I"⟩
abbrev cX8_slid : ByteArray := prog_10_method_49_code
def yX8_slid : MethodName := ⟨RX8, "slid", "(I)I"⟩
abbrev cX8_whenNow : ByteArray := prog_10_method_50_code
def yX8_whenNow : MethodName := ⟨RX8, "whenNow", "()I"⟩
abbrev cX8_when : ByteArray := prog_10_method_51_code
def yX8_when : MethodName := ⟨RX8, "when", "()I"⟩
abbrev cX8_resultOf : ByteArray := prog_10_method_52_code
def yX8_resultOf : MethodName := ⟨RX8, "resultOf", "(I)I"⟩
abbrev cX8_result : ByteArray := prog_10_method_53_code
def yX8_result : MethodName := ⟨RX8, "result", "(I)I"⟩
abbrev cX8_withoutOf : ByteArray := prog_10_method_54_code
def yX8_withoutOf : MethodName := ⟨RX8, "withoutOf", "(I)I"⟩
abbrev cX8_without : ByteArray := prog_10_method_55_code
def yX8_without : MethodName := ⟨RX8, "without", "(I)I"⟩
abbrev cX8_sign : ByteArray := prog_10_method_56_code
def yX8_sign : MethodName := ⟨RX8, "sign", "(I)I"⟩
abbrev cX8_settledNow : ByteArray := prog_10_method_57_code
def yX8_settledNow : MethodName := ⟨RX8, "settledNow", "()I"⟩
abbrev cX8_settled : ByteArray := prog_10_method_58_code
def yX8_settled : MethodName := ⟨RX8, "settled", "()I"⟩
abbrev cX8_doubles : ByteArray := prog_10_method_59_code
def yX8_doubles : MethodName := ⟨RX8, "doubles", "()I"⟩
abbrev cX8_isLifted : ByteArray := prog_10_method_60_code
def yX8_isLifted : MethodName := ⟨RX8, "isLifted", "(II)Z"⟩
abbrev cX8_weightOf : ByteArray := prog_10_method_61_code
def yX8_weightOf : MethodName := ⟨RX8, "weightOf", "(I)I"⟩
abbrev cX8_freeOf : ByteArray := prog_10_method_62_code
def yX8_freeOf : MethodName := ⟨RX8, "freeOf", "(I)I"⟩
abbrev cX8_fewestOf : ByteArray := prog_10_method_63_code
def yX8_fewestOf : MethodName := ⟨RX8, "fewestOf", "(I)I"⟩
abbrev cX8_fewest : ByteArray := prog_10_method_64_code
def yX8_fewest : MethodName := ⟨RX8, "fewest", "(I)I"⟩
abbrev cX8_carriesAll : ByteArray := prog_10_method_65_code
def yX8_carriesAll : MethodName := ⟨RX8, "carriesAll", "(II)Z"⟩
abbrev cX8_mostOf : ByteArray := prog_10_method_66_code
def yX8_mostOf : MethodName := ⟨RX8, "mostOf", "(II)I"⟩
abbrev cX8_most : ByteArray := prog_10_method_67_code
def yX8_most : MethodName := ⟨RX8, "most", "(I)I"⟩
abbrev cX8_holdOf : ByteArray := prog_10_method_68_code
def yX8_holdOf : MethodName := ⟨RX8, "holdOf", "(I)I"⟩
abbrev cX8_hold : ByteArray := prog_10_method_69_code
def yX8_hold : MethodName := ⟨RX8, "hold", "(I)I"⟩
abbrev cX8_enters : ByteArray := prog_10_method_70_code
def yX8_enters : MethodName := ⟨RX8, "enters", "(III)V"⟩
abbrev cX8_gameOf : ByteArray := prog_10_method_71_code
def yX8_gameOf : MethodName := ⟨RX8, "gameOf", "(II)I"⟩
abbrev cX8_game : ByteArray := prog_10_method_72_code
def yX8_game : MethodName := ⟨RX8, "game", "(II)I"⟩
abbrev cX8_arm : ByteArray := prog_10_method_73_code
def yX8_arm : MethodName := ⟨RX8, "arm", "(II)I"⟩
abbrev cX8_secretOf : ByteArray := prog_10_method_74_code
def yX8_secretOf : MethodName := ⟨RX8, "secretOf", "(II)I"⟩
abbrev cX8_secret : ByteArray := prog_10_method_75_code
def yX8_secret : MethodName := ⟨RX8, "secret", "(II)I"⟩
abbrev cX8_write : ByteArray := prog_10_method_76_code
def yX8_write : MethodName := ⟨RX8, "write", "(I)I"⟩
abbrev cX8_count : ByteArray := prog_10_method_77_code
def yX8_count : MethodName := ⟨RX8, "count", "(I)I"⟩
abbrev cX8_digest : ByteArray := prog_10_method_78_code
def yX8_digest : MethodName := ⟨RX8, "digest", "()J"⟩
def RJ6 : String := "java/lang/Integer"
def TJ6 : u_T := fun k => match k with
  | _ => ("", "", "", false)
def tyJ6 : Nat → FieldType := fun k => match k with
  | _ => .int
abbrev wsJ60 : List Cond := u_ws RJ6 TJ6 0
theorem nmJ6 : ∀ a, a < 0 → ∀ b, b < 0 → a ≠ b → (TJ6 a).2.1 ≠ (TJ6 b).2.1 := by decide +kernel
theorem tyJ6_ok : ∀ k, k < 0 → parseFieldDescriptor (TJ6 k).2.2.1 = some (tyJ6 k) := by decide +kernel
abbrev cJ6_compare_7cf53 : ByteArray := prog_11_method_40_code
def yJ6_compare_7cf53 : MethodName := ⟨RJ6, "compare", "(II)I"⟩
abbrev cJ6_bitCount_0f7a4 : ByteArray := prog_11_method_49_code
def yJ6_bitCount_0f7a4 : MethodName := ⟨RJ6, "bitCount", "(I)I"⟩
def RJ9 : String := "java/lang/Math"
def TJ9 : u_T := fun k => match k with
  | _ => ("", "", "", false)
def tyJ9 : Nat → FieldType := fun k => match k with
  | _ => .int
abbrev wsJ90 : List Cond := u_ws RJ9 TJ9 0
theorem nmJ9 : ∀ a, a < 0 → ∀ b, b < 0 → a ≠ b → (TJ9 a).2.1 ≠ (TJ9 b).2.1 := by decide +kernel
theorem tyJ9_ok : ∀ k, k < 0 → parseFieldDescriptor (TJ9 k).2.2.1 = some (tyJ9 k) := by decide +kernel
abbrev cJ9_abs_0f7a4 : ByteArray := prog_12_method_59_code
def yJ9_abs_0f7a4 : MethodName := ⟨RJ9, "abs", "(I)I"⟩
abbrev cJ9_max_7cf53 : ByteArray := prog_12_method_65_code
def yJ9_max_7cf53 : MethodName := ⟨RJ9, "max", "(II)I"⟩
abbrev cJ9_min_7cf53 : ByteArray := prog_12_method_69_code
def yJ9_min_7cf53 : MethodName := ⟨RJ9, "min", "(II)I"⟩
def RJ10 : String := "java/lang/System"
def TJ10 : u_T := fun k => match k with
  | _ => ("", "", "", false)
def tyJ10 : Nat → FieldType := fun k => match k with
  | _ => .int
abbrev wsJ100 : List Cond := u_ws RJ10 TJ10 0
theorem nmJ10 : ∀ a, a < 0 → ∀ b, b < 0 → a ≠ b → (TJ10 a).2.1 ≠ (TJ10 b).2.1 := by decide +kernel
theorem tyJ10_ok : ∀ k, k < 0 → parseFieldDescriptor (TJ10 k).2.2.1 = some (tyJ10 k) := by decide +kernel
def RJ7 : String := "java/util/Arrays"
def TJ7 : u_T := fun k => match k with
  | _ => ("", "", "", false)
def tyJ7 : Nat → FieldType := fun k => match k with
  | _ => .int
abbrev wsJ70 : List Cond := u_ws RJ7 TJ7 0
theorem nmJ7 : ∀ a, a < 0 → ∀ b, b < 0 → a ≠ b → (TJ7 a).2.1 ≠ (TJ7 b).2.1 := by decide +kernel
theorem tyJ7_ok : ∀ k, k < 0 → parseFieldDescriptor (TJ7 k).2.2.1 = some (tyJ7 k) := by decide +kernel
abbrev cJ7_fill_53178 : ByteArray := prog_14_method_103_code
def yJ7_fill_53178 : MethodName := ⟨RJ7, "fill", "([II)V"⟩
def RL : String := "StoneVotesLaw"
abbrev cL_law : ByteArray := code
def yL_law : MethodName := ⟨RL, "law", "([I)Z"⟩
abbrev vwCl : List vw_C := [(RX0, TX0, 8), (RX1, TX1, 4), (RX2, TX2, 10), (RX3, TX3, 6), (RX4, TX4, 4), (RX5, TX5, 3), (RX6, TX6, 8), (RX7, TX7, 8), (RX8, TX8, 34)]
end
section
theorem dX0_init_0 : decode cX0_init 0 = .ok (.aload_n 0, 1) := by decide +kernel
theorem dX0_init_1 : decode cX0_init 1 = .ok (.invokespecial 3, 3) := by decide +kernel
theorem dX0_init_4 : decode cX0_init 4 = .ok (.aload_n 0, 1) := by decide +kernel
theorem dX0_init_5 : decode cX0_init 5 = .ok (.bipush 8, 2) := by decide +kernel
theorem dX0_init_7 : decode cX0_init 7 = .ok (.newarray .int, 2) := by decide +kernel
theorem dX0_init_9 : decode cX0_init 9 = .ok (.putfield 9, 3) := by decide +kernel
theorem dX0_init_12 : decode cX0_init 12 = .ok (.aload_n 0, 1) := by decide +kernel
theorem dX0_init_13 : decode cX0_init 13 = .ok (.bipush 9, 2) := by decide +kernel
theorem dX0_init_15 : decode cX0_init 15 = .ok (.newarray .int, 2) := by decide +kernel
theorem dX0_init_17 : decode cX0_init 17 = .ok (.putfield 15, 3) := by decide +kernel
theorem dX0_init_20 : decode cX0_init 20 = .ok (.aload_n 0, 1) := by decide +kernel
theorem dX0_init_21 : decode cX0_init 21 = .ok (.iconst 0, 1) := by decide +kernel
theorem dX0_init_22 : decode cX0_init 22 = .ok (.putfield 18, 3) := by decide +kernel
theorem dX0_init_25 : decode cX0_init 25 = .ok (.aload_n 0, 1) := by decide +kernel
theorem dX0_init_26 : decode cX0_init 26 = .ok (.iconst 0, 1) := by decide +kernel
theorem dX0_init_27 : decode cX0_init 27 = .ok (.putfield 22, 3) := by decide +kernel
theorem dX0_init_30 : decode cX0_init 30 = .ok (.aload_n 0, 1) := by decide +kernel
theorem dX0_init_31 : decode cX0_init 31 = .ok (.iconst 0, 1) := by decide +kernel
theorem dX0_init_32 : decode cX0_init 32 = .ok (.putfield 25, 3) := by decide +kernel
theorem dX0_init_35 : decode cX0_init 35 = .ok (.aload_n 0, 1) := by decide +kernel
theorem dX0_init_36 : decode cX0_init 36 = .ok (.iconst 0, 1) := by decide +kernel
theorem dX0_init_37 : decode cX0_init 37 = .ok (.putfield 28, 3) := by decide +kernel
theorem dX0_init_40 : decode cX0_init 40 = .ok (.aload_n 0, 1) := by decide +kernel
theorem dX0_init_41 : decode cX0_init 41 = .ok (.iconst 0, 1) := by decide +kernel
theorem dX0_init_42 : decode cX0_init 42 = .ok (.putfield 31, 3) := by decide +kernel
theorem dX0_init_45 : decode cX0_init 45 = .ok (.aload_n 0, 1) := by decide +kernel
theorem dX0_init_46 : decode cX0_init 46 = .ok (.aload_n 1, 1) := by decide +kernel
theorem dX0_init_47 : decode cX0_init 47 = .ok (.putfield 34, 3) := by decide +kernel
theorem dX0_init_50 : decode cX0_init 50 = .ok (.return_, 1) := by decide +kernel
theorem dX0_open_0 : decode cX0_open 0 = .ok (.aload_n 0, 1) := by decide +kernel
theorem dX0_open_1 : decode cX0_open 1 = .ok (.iload_n 1, 1) := by decide +kernel
theorem dX0_open_2 : decode cX0_open 2 = .ok (.putfield 22, 3) := by decide +kernel
theorem dX0_open_5 : decode cX0_open 5 = .ok (.aload_n 0, 1) := by decide +kernel
theorem dX0_open_6 : decode cX0_open 6 = .ok (.aload_n 0, 1) := by decide +kernel
theorem dX0_open_7 : decode cX0_open 7 = .ok (.getfield 34, 3) := by decide +kernel
theorem dX0_open_10 : decode cX0_open 10 = .ok (.getfield 38, 3) := by decide +kernel
theorem dX0_open_13 : decode cX0_open 13 = .ok (.getfield 44, 3) := by decide +kernel
theorem dX0_open_16 : decode cX0_open 16 = .ok (.putfield 18, 3) := by decide +kernel
theorem dX0_open_19 : decode cX0_open 19 = .ok (.aload_n 0, 1) := by decide +kernel
theorem dX0_open_20 : decode cX0_open 20 = .ok (.getfield 15, 3) := by decide +kernel
theorem dX0_open_23 : decode cX0_open 23 = .ok (.aload_n 0, 1) := by decide +kernel
theorem dX0_open_24 : decode cX0_open 24 = .ok (.getfield 18, 3) := by decide +kernel
theorem dX0_open_27 : decode cX0_open 27 = .ok (.iconst 0, 1) := by decide +kernel
theorem dX0_open_28 : decode cX0_open 28 = .ok (.iastore, 1) := by decide +kernel
theorem dX0_open_29 : decode cX0_open 29 = .ok (.aload_n 0, 1) := by decide +kernel
theorem dX0_open_30 : decode cX0_open 30 = .ok (.getfield 18, 3) := by decide +kernel
theorem dX0_open_33 : decode cX0_open 33 = .ok (.iconst 1, 1) := by decide +kernel
theorem dX0_open_34 : decode cX0_open 34 = .ok (.isub, 1) := by decide +kernel
theorem dX0_open_35 : decode cX0_open 35 = .ok (.istore_n 2, 1) := by decide +kernel
theorem dX0_open_36 : decode cX0_open 36 = .ok (.iload_n 2, 1) := by decide +kernel
theorem dX0_open_37 : decode cX0_open 37 = .ok (.ifCond .lt 54, 3) := by decide +kernel
theorem dX0_open_40 : decode cX0_open 40 = .ok (.aload_n 0, 1) := by decide +kernel
theorem dX0_open_41 : decode cX0_open 41 = .ok (.getfield 9, 3) := by decide +kernel
theorem dX0_open_44 : decode cX0_open 44 = .ok (.iload_n 2, 1) := by decide +kernel
theorem dX0_open_45 : decode cX0_open 45 = .ok (.aload_n 0, 1) := by decide +kernel
theorem dX0_open_46 : decode cX0_open 46 = .ok (.getfield 34, 3) := by decide +kernel
theorem dX0_open_49 : decode cX0_open 49 = .ok (.iload_n 2, 1) := by decide +kernel
theorem dX0_open_50 : decode cX0_open 50 = .ok (.invokevirtual 47, 3) := by decide +kernel
theorem dX0_open_53 : decode cX0_open 53 = .ok (.aload_n 0, 1) := by decide +kernel
theorem dX0_open_54 : decode cX0_open 54 = .ok (.getfield 34, 3) := by decide +kernel
theorem dX0_open_57 : decode cX0_open 57 = .ok (.getfield 51, 3) := by decide +kernel
theorem dX0_open_60 : decode cX0_open 60 = .ok (.iload_n 2, 1) := by decide +kernel
theorem dX0_open_61 : decode cX0_open 61 = .ok (.iaload, 1) := by decide +kernel
theorem dX0_open_62 : decode cX0_open 62 = .ok (.imul, 1) := by decide +kernel
theorem dX0_open_63 : decode cX0_open 63 = .ok (.iastore, 1) := by decide +kernel
theorem dX0_open_64 : decode cX0_open 64 = .ok (.aload_n 0, 1) := by decide +kernel
theorem dX0_open_65 : decode cX0_open 65 = .ok (.getfield 15, 3) := by decide +kernel
theorem dX0_open_68 : decode cX0_open 68 = .ok (.iload_n 2, 1) := by decide +kernel
theorem dX0_open_69 : decode cX0_open 69 = .ok (.aload_n 0, 1) := by decide +kernel
theorem dX0_open_70 : decode cX0_open 70 = .ok (.getfield 15, 3) := by decide +kernel
theorem dX0_open_73 : decode cX0_open 73 = .ok (.iload_n 2, 1) := by decide +kernel
theorem dX0_open_74 : decode cX0_open 74 = .ok (.iconst 1, 1) := by decide +kernel
theorem dX0_open_75 : decode cX0_open 75 = .ok (.iadd, 1) := by decide +kernel
theorem dX0_open_76 : decode cX0_open 76 = .ok (.iaload, 1) := by decide +kernel
theorem dX0_open_77 : decode cX0_open 77 = .ok (.aload_n 0, 1) := by decide +kernel
theorem dX0_open_78 : decode cX0_open 78 = .ok (.getfield 9, 3) := by decide +kernel
theorem dX0_open_81 : decode cX0_open 81 = .ok (.iload_n 2, 1) := by decide +kernel
theorem dX0_open_82 : decode cX0_open 82 = .ok (.iaload, 1) := by decide +kernel
theorem dX0_open_83 : decode cX0_open 83 = .ok (.iadd, 1) := by decide +kernel
theorem dX0_open_84 : decode cX0_open 84 = .ok (.iastore, 1) := by decide +kernel
theorem dX0_open_85 : decode cX0_open 85 = .ok (.iinc 2 (-1), 3) := by decide +kernel
theorem dX0_open_88 : decode cX0_open 88 = .ok (.goto (-52), 3) := by decide +kernel
theorem dX0_open_91 : decode cX0_open 91 = .ok (.aload_n 0, 1) := by decide +kernel
theorem dX0_open_92 : decode cX0_open 92 = .ok (.iconst 0, 1) := by decide +kernel
theorem dX0_open_93 : decode cX0_open 93 = .ok (.putfield 25, 3) := by decide +kernel
theorem dX0_open_96 : decode cX0_open 96 = .ok (.aload_n 0, 1) := by decide +kernel
theorem dX0_open_97 : decode cX0_open 97 = .ok (.iconst 1, 1) := by decide +kernel
theorem dX0_open_98 : decode cX0_open 98 = .ok (.aload_n 0, 1) := by decide +kernel
theorem dX0_open_99 : decode cX0_open 99 = .ok (.getfield 18, 3) := by decide +kernel
theorem dX0_open_102 : decode cX0_open 102 = .ok (.ishl, 1) := by decide +kernel
theorem dX0_open_103 : decode cX0_open 103 = .ok (.iconst 1, 1) := by decide +kernel
theorem dX0_open_104 : decode cX0_open 104 = .ok (.isub, 1) := by decide +kernel
theorem dX0_open_105 : decode cX0_open 105 = .ok (.putfield 28, 3) := by decide +kernel
theorem dX0_open_108 : decode cX0_open 108 = .ok (.aload_n 0, 1) := by decide +kernel
theorem dX0_open_109 : decode cX0_open 109 = .ok (.aload_n 0, 1) := by decide +kernel
theorem dX0_open_110 : decode cX0_open 110 = .ok (.getfield 28, 3) := by decide +kernel
theorem dX0_open_113 : decode cX0_open 113 = .ok (.putfield 31, 3) := by decide +kernel
theorem dX0_open_116 : decode cX0_open 116 = .ok (.aload_n 0, 1) := by decide +kernel
theorem dX0_open_117 : decode cX0_open 117 = .ok (.iconst 0, 1) := by decide +kernel
theorem dX0_open_118 : decode cX0_open 118 = .ok (.iconst 0, 1) := by decide +kernel
theorem dX0_open_119 : decode cX0_open 119 = .ok (.iconst 0, 1) := by decide +kernel
theorem dX0_open_120 : decode cX0_open 120 = .ok (.iconst 0, 1) := by decide +kernel
theorem dX0_open_121 : decode cX0_open 121 = .ok (.invokestatic 54, 3) := by decide +kernel
theorem dX0_open_124 : decode cX0_open 124 = .ok (.aload_n 0, 1) := by decide +kernel
theorem dX0_open_125 : decode cX0_open 125 = .ok (.getfield 25, 3) := by decide +kernel
theorem dX0_open_128 : decode cX0_open 128 = .ok (.ifCond .ne 13, 3) := by decide +kernel
theorem dX0_open_131 : decode cX0_open 131 = .ok (.aload_n 0, 1) := by decide +kernel
theorem dX0_open_132 : decode cX0_open 132 = .ok (.iconst 0, 1) := by decide +kernel
theorem dX0_open_133 : decode cX0_open 133 = .ok (.putfield 28, 3) := by decide +kernel
theorem dX0_open_136 : decode cX0_open 136 = .ok (.aload_n 0, 1) := by decide +kernel
theorem dX0_open_137 : decode cX0_open 137 = .ok (.iconst 0, 1) := by decide +kernel
theorem dX0_open_138 : decode cX0_open 138 = .ok (.putfield 31, 3) := by decide +kernel
theorem dX0_open_141 : decode cX0_open 141 = .ok (.return_, 1) := by decide +kernel
theorem dX0_vote_0 : decode cX0_vote 0 = .ok (.aload_n 0, 1) := by decide +kernel
theorem dX0_vote_1 : decode cX0_vote 1 = .ok (.getfield 22, 3) := by decide +kernel
theorem dX0_vote_4 : decode cX0_vote 4 = .ok (.iload_n 2, 1) := by decide +kernel
theorem dX0_vote_5 : decode cX0_vote 5 = .ok (.isub, 1) := by decide +kernel
theorem dX0_vote_6 : decode cX0_vote 6 = .ok (.invokestatic 58, 3) := by decide +kernel
theorem dX0_vote_9 : decode cX0_vote 9 = .ok (.aload_n 0, 1) := by decide +kernel
theorem dX0_vote_10 : decode cX0_vote 10 = .ok (.getfield 15, 3) := by decide +kernel
theorem dX0_vote_13 : decode cX0_vote 13 = .ok (.iload_n 1, 1) := by decide +kernel
theorem dX0_vote_14 : decode cX0_vote 14 = .ok (.iaload, 1) := by decide +kernel
theorem dX0_vote_15 : decode cX0_vote 15 = .ok (.if_icmp .le 4, 3) := by decide +kernel
theorem dX0_vote_18 : decode cX0_vote 18 = .ok (.return_, 1) := by decide +kernel
theorem dX0_vote_19 : decode cX0_vote 19 = .ok (.iload_n 1, 1) := by decide +kernel
theorem dX0_vote_20 : decode cX0_vote 20 = .ok (.aload_n 0, 1) := by decide +kernel
theorem dX0_vote_21 : decode cX0_vote 21 = .ok (.getfield 18, 3) := by decide +kernel
theorem dX0_vote_24 : decode cX0_vote 24 = .ok (.if_icmp .lt 35, 3) := by decide +kernel
theorem dX0_vote_27 : decode cX0_vote 27 = .ok (.aload_n 0, 1) := by decide +kernel
theorem dX0_vote_28 : decode cX0_vote 28 = .ok (.dup, 1) := by decide +kernel
theorem dX0_vote_29 : decode cX0_vote 29 = .ok (.getfield 25, 3) := by decide +kernel
theorem dX0_vote_32 : decode cX0_vote 32 = .ok (.iconst 1, 1) := by decide +kernel
theorem dX0_vote_33 : decode cX0_vote 33 = .ok (.iadd, 1) := by decide +kernel
theorem dX0_vote_34 : decode cX0_vote 34 = .ok (.putfield 25, 3) := by decide +kernel
theorem dX0_vote_37 : decode cX0_vote 37 = .ok (.aload_n 0, 1) := by decide +kernel
theorem dX0_vote_38 : decode cX0_vote 38 = .ok (.dup, 1) := by decide +kernel
theorem dX0_vote_39 : decode cX0_vote 39 = .ok (.getfield 28, 3) := by decide +kernel
theorem dX0_vote_42 : decode cX0_vote 42 = .ok (.iload_n 3, 1) := by decide +kernel
theorem dX0_vote_43 : decode cX0_vote 43 = .ok (.iand, 1) := by decide +kernel
theorem dX0_vote_44 : decode cX0_vote 44 = .ok (.putfield 28, 3) := by decide +kernel
theorem dX0_vote_47 : decode cX0_vote 47 = .ok (.aload_n 0, 1) := by decide +kernel
theorem dX0_vote_48 : decode cX0_vote 48 = .ok (.dup, 1) := by decide +kernel
theorem dX0_vote_49 : decode cX0_vote 49 = .ok (.getfield 31, 3) := by decide +kernel
theorem dX0_vote_52 : decode cX0_vote 52 = .ok (.iload 4, 2) := by decide +kernel
theorem dX0_vote_54 : decode cX0_vote 54 = .ok (.iand, 1) := by decide +kernel
theorem dX0_vote_55 : decode cX0_vote 55 = .ok (.putfield 31, 3) := by decide +kernel
theorem dX0_vote_58 : decode cX0_vote 58 = .ok (.return_, 1) := by decide +kernel
theorem dX0_vote_59 : decode cX0_vote 59 = .ok (.aload_n 0, 1) := by decide +kernel
theorem dX0_vote_60 : decode cX0_vote 60 = .ok (.getfield 9, 3) := by decide +kernel
theorem dX0_vote_63 : decode cX0_vote 63 = .ok (.iload_n 1, 1) := by decide +kernel
theorem dX0_vote_64 : decode cX0_vote 64 = .ok (.iaload, 1) := by decide +kernel
theorem dX0_vote_65 : decode cX0_vote 65 = .ok (.istore 5, 2) := by decide +kernel
theorem dX0_vote_67 : decode cX0_vote 67 = .ok (.aload_n 0, 1) := by decide +kernel
theorem dX0_vote_68 : decode cX0_vote 68 = .ok (.iload_n 1, 1) := by decide +kernel
theorem dX0_vote_69 : decode cX0_vote 69 = .ok (.iconst 1, 1) := by decide +kernel
theorem dX0_vote_70 : decode cX0_vote 70 = .ok (.iadd, 1) := by decide +kernel
theorem dX0_vote_71 : decode cX0_vote 71 = .ok (.iload_n 2, 1) := by decide +kernel
theorem dX0_vote_72 : decode cX0_vote 72 = .ok (.iload_n 3, 1) := by decide +kernel
theorem dX0_vote_73 : decode cX0_vote 73 = .ok (.iload 4, 2) := by decide +kernel
theorem dX0_vote_75 : decode cX0_vote 75 = .ok (.invokestatic 54, 3) := by decide +kernel
theorem dX0_vote_78 : decode cX0_vote 78 = .ok (.aload_n 0, 1) := by decide +kernel
theorem dX0_vote_79 : decode cX0_vote 79 = .ok (.iload_n 1, 1) := by decide +kernel
theorem dX0_vote_80 : decode cX0_vote 80 = .ok (.iconst 1, 1) := by decide +kernel
theorem dX0_vote_81 : decode cX0_vote 81 = .ok (.iadd, 1) := by decide +kernel
theorem dX0_vote_82 : decode cX0_vote 82 = .ok (.iload_n 2, 1) := by decide +kernel
theorem dX0_vote_83 : decode cX0_vote 83 = .ok (.iload 5, 2) := by decide +kernel
theorem dX0_vote_85 : decode cX0_vote 85 = .ok (.iadd, 1) := by decide +kernel
theorem dX0_vote_86 : decode cX0_vote 86 = .ok (.iload_n 3, 1) := by decide +kernel
theorem dX0_vote_87 : decode cX0_vote 87 = .ok (.iconst 1, 1) := by decide +kernel
theorem dX0_vote_88 : decode cX0_vote 88 = .ok (.iload_n 1, 1) := by decide +kernel
theorem dX0_vote_89 : decode cX0_vote 89 = .ok (.ishl, 1) := by decide +kernel
theorem dX0_vote_90 : decode cX0_vote 90 = .ok (.ior, 1) := by decide +kernel
theorem dX0_vote_91 : decode cX0_vote 91 = .ok (.iload 4, 2) := by decide +kernel
theorem dX0_vote_93 : decode cX0_vote 93 = .ok (.invokestatic 54, 3) := by decide +kernel
theorem dX0_vote_96 : decode cX0_vote 96 = .ok (.aload_n 0, 1) := by decide +kernel
theorem dX0_vote_97 : decode cX0_vote 97 = .ok (.iload_n 1, 1) := by decide +kernel
theorem dX0_vote_98 : decode cX0_vote 98 = .ok (.iconst 1, 1) := by decide +kernel
theorem dX0_vote_99 : decode cX0_vote 99 = .ok (.iadd, 1) := by decide +kernel
theorem dX0_vote_100 : decode cX0_vote 100 = .ok (.iload_n 2, 1) := by decide +kernel
theorem dX0_vote_101 : decode cX0_vote 101 = .ok (.iload 5, 2) := by decide +kernel
theorem dX0_vote_103 : decode cX0_vote 103 = .ok (.isub, 1) := by decide +kernel
theorem dX0_vote_104 : decode cX0_vote 104 = .ok (.iload_n 3, 1) := by decide +kernel
theorem dX0_vote_105 : decode cX0_vote 105 = .ok (.iload 4, 2) := by decide +kernel
theorem dX0_vote_107 : decode cX0_vote 107 = .ok (.iconst 1, 1) := by decide +kernel
theorem dX0_vote_108 : decode cX0_vote 108 = .ok (.iload_n 1, 1) := by decide +kernel
theorem dX0_vote_109 : decode cX0_vote 109 = .ok (.ishl, 1) := by decide +kernel
theorem dX0_vote_110 : decode cX0_vote 110 = .ok (.ior, 1) := by decide +kernel
theorem dX0_vote_111 : decode cX0_vote 111 = .ok (.invokestatic 54, 3) := by decide +kernel
theorem dX0_vote_114 : decode cX0_vote 114 = .ok (.return_, 1) := by decide +kernel
theorem dX1_init_0 : decode cX1_init 0 = .ok (.aload_n 0, 1) := by decide +kernel
theorem dX1_init_1 : decode cX1_init 1 = .ok (.invokespecial 3, 3) := by decide +kernel
theorem dX1_init_4 : decode cX1_init 4 = .ok (.aload_n 0, 1) := by decide +kernel
theorem dX1_init_5 : decode cX1_init 5 = .ok (.bipush 30, 2) := by decide +kernel
theorem dX1_init_7 : decode cX1_init 7 = .ok (.newarray .int, 2) := by decide +kernel
theorem dX1_init_9 : decode cX1_init 9 = .ok (.putfield 9, 3) := by decide +kernel
theorem dX1_init_12 : decode cX1_init 12 = .ok (.aload_n 0, 1) := by decide +kernel
theorem dX1_init_13 : decode cX1_init 13 = .ok (.bipush 30, 2) := by decide +kernel
theorem dX1_init_15 : decode cX1_init 15 = .ok (.newarray .int, 2) := by decide +kernel
theorem dX1_init_17 : decode cX1_init 17 = .ok (.putfield 15, 3) := by decide +kernel
theorem dX1_init_20 : decode cX1_init 20 = .ok (.aload_n 0, 1) := by decide +kernel
theorem dX1_init_21 : decode cX1_init 21 = .ok (.bipush 30, 2) := by decide +kernel
theorem dX1_init_23 : decode cX1_init 23 = .ok (.newarray .int, 2) := by decide +kernel
theorem dX1_init_25 : decode cX1_init 25 = .ok (.putfield 18, 3) := by decide +kernel
theorem dX1_init_28 : decode cX1_init 28 = .ok (.aload_n 0, 1) := by decide +kernel
theorem dX1_init_29 : decode cX1_init 29 = .ok (.iconst 0, 1) := by decide +kernel
theorem dX1_init_30 : decode cX1_init 30 = .ok (.putfield 21, 3) := by decide +kernel
theorem dX1_init_33 : decode cX1_init 33 = .ok (.return_, 1) := by decide +kernel
theorem dX1_canBeTold_0 : decode cX1_canBeTold 0 = .ok (.iload_n 0, 1) := by decide +kernel
theorem dX1_canBeTold_1 : decode cX1_canBeTold 1 = .ok (.iconst 0, 1) := by decide +kernel
theorem dX1_canBeTold_2 : decode cX1_canBeTold 2 = .ok (.bipush 7, 2) := by decide +kernel
theorem dX1_canBeTold_4 : decode cX1_canBeTold 4 = .ok (.invokestatic 25, 3) := by decide +kernel
theorem dX1_canBeTold_7 : decode cX1_canBeTold 7 = .ok (.ifCond .eq 26, 3) := by decide +kernel
theorem dX1_canBeTold_10 : decode cX1_canBeTold 10 = .ok (.iload_n 1, 1) := by decide +kernel
theorem dX1_canBeTold_11 : decode cX1_canBeTold 11 = .ok (.iconst 0, 1) := by decide +kernel
theorem dX1_canBeTold_12 : decode cX1_canBeTold 12 = .ok (.bipush 8, 2) := by decide +kernel
theorem dX1_canBeTold_14 : decode cX1_canBeTold 14 = .ok (.invokestatic 25, 3) := by decide +kernel
theorem dX1_canBeTold_17 : decode cX1_canBeTold 17 = .ok (.ifCond .eq 16, 3) := by decide +kernel
theorem dX1_canBeTold_20 : decode cX1_canBeTold 20 = .ok (.iload_n 2, 1) := by decide +kernel
theorem dX1_canBeTold_21 : decode cX1_canBeTold 21 = .ok (.iconst 1, 1) := by decide +kernel
theorem dX1_canBeTold_22 : decode cX1_canBeTold 22 = .ok (.iconst 5, 1) := by decide +kernel
theorem dX1_canBeTold_23 : decode cX1_canBeTold 23 = .ok (.invokestatic 25, 3) := by decide +kernel
theorem dX1_canBeTold_26 : decode cX1_canBeTold 26 = .ok (.ifCond .eq 7, 3) := by decide +kernel
theorem dX1_canBeTold_29 : decode cX1_canBeTold 29 = .ok (.iconst 1, 1) := by decide +kernel
theorem dX1_canBeTold_30 : decode cX1_canBeTold 30 = .ok (.goto 4, 3) := by decide +kernel
theorem dX1_canBeTold_33 : decode cX1_canBeTold 33 = .ok (.iconst 0, 1) := by decide +kernel
theorem dX1_canBeTold_34 : decode cX1_canBeTold 34 = .ok (.ireturn, 1) := by decide +kernel
theorem dX1_isFull_0 : decode cX1_isFull 0 = .ok (.aload_n 0, 1) := by decide +kernel
theorem dX1_isFull_1 : decode cX1_isFull 1 = .ok (.getfield 21, 3) := by decide +kernel
theorem dX1_isFull_4 : decode cX1_isFull 4 = .ok (.bipush 30, 2) := by decide +kernel
theorem dX1_isFull_6 : decode cX1_isFull 6 = .ok (.if_icmp .lt 7, 3) := by decide +kernel
theorem dX1_isFull_9 : decode cX1_isFull 9 = .ok (.iconst 1, 1) := by decide +kernel
theorem dX1_isFull_10 : decode cX1_isFull 10 = .ok (.goto 4, 3) := by decide +kernel
theorem dX1_isFull_13 : decode cX1_isFull 13 = .ok (.iconst 0, 1) := by decide +kernel
theorem dX1_isFull_14 : decode cX1_isFull 14 = .ok (.ireturn, 1) := by decide +kernel
theorem dX1_append_0 : decode cX1_append 0 = .ok (.aload_n 0, 1) := by decide +kernel
theorem dX1_append_1 : decode cX1_append 1 = .ok (.getfield 9, 3) := by decide +kernel
theorem dX1_append_4 : decode cX1_append 4 = .ok (.aload_n 0, 1) := by decide +kernel
theorem dX1_append_5 : decode cX1_append 5 = .ok (.getfield 21, 3) := by decide +kernel
theorem dX1_append_8 : decode cX1_append 8 = .ok (.iload_n 1, 1) := by decide +kernel
theorem dX1_append_9 : decode cX1_append 9 = .ok (.iastore, 1) := by decide +kernel
theorem dX1_append_10 : decode cX1_append 10 = .ok (.aload_n 0, 1) := by decide +kernel
theorem dX1_append_11 : decode cX1_append 11 = .ok (.getfield 15, 3) := by decide +kernel
theorem dX1_append_14 : decode cX1_append 14 = .ok (.aload_n 0, 1) := by decide +kernel
theorem dX1_append_15 : decode cX1_append 15 = .ok (.getfield 21, 3) := by decide +kernel
theorem dX1_append_18 : decode cX1_append 18 = .ok (.iload_n 2, 1) := by decide +kernel
theorem dX1_append_19 : decode cX1_append 19 = .ok (.iastore, 1) := by decide +kernel
theorem dX1_append_20 : decode cX1_append 20 = .ok (.aload_n 0, 1) := by decide +kernel
theorem dX1_append_21 : decode cX1_append 21 = .ok (.getfield 18, 3) := by decide +kernel
theorem dX1_append_24 : decode cX1_append 24 = .ok (.aload_n 0, 1) := by decide +kernel
theorem dX1_append_25 : decode cX1_append 25 = .ok (.getfield 21, 3) := by decide +kernel
theorem dX1_append_28 : decode cX1_append 28 = .ok (.iload_n 3, 1) := by decide +kernel
theorem dX1_append_29 : decode cX1_append 29 = .ok (.iastore, 1) := by decide +kernel
theorem dX1_append_30 : decode cX1_append 30 = .ok (.aload_n 0, 1) := by decide +kernel
theorem dX1_append_31 : decode cX1_append 31 = .ok (.dup, 1) := by decide +kernel
theorem dX1_append_32 : decode cX1_append 32 = .ok (.getfield 21, 3) := by decide +kernel
theorem dX1_append_35 : decode cX1_append 35 = .ok (.iconst 1, 1) := by decide +kernel
theorem dX1_append_36 : decode cX1_append 36 = .ok (.iadd, 1) := by decide +kernel
theorem dX1_append_37 : decode cX1_append 37 = .ok (.putfield 21, 3) := by decide +kernel
theorem dX1_append_40 : decode cX1_append 40 = .ok (.return_, 1) := by decide +kernel
theorem dX2_init_0 : decode cX2_init 0 = .ok (.aload_n 0, 1) := by decide +kernel
theorem dX2_init_1 : decode cX2_init 1 = .ok (.invokespecial 3, 3) := by decide +kernel
theorem dX2_init_4 : decode cX2_init 4 = .ok (.aload_n 0, 1) := by decide +kernel
theorem dX2_init_5 : decode cX2_init 5 = .ok (.bipush 30, 2) := by decide +kernel
theorem dX2_init_7 : decode cX2_init 7 = .ok (.newarray .int, 2) := by decide +kernel
theorem dX2_init_9 : decode cX2_init 9 = .ok (.putfield 9, 3) := by decide +kernel
theorem dX2_init_12 : decode cX2_init 12 = .ok (.aload_n 0, 1) := by decide +kernel
theorem dX2_init_13 : decode cX2_init 13 = .ok (.bipush 9, 2) := by decide +kernel
theorem dX2_init_15 : decode cX2_init 15 = .ok (.newarray .int, 2) := by decide +kernel
theorem dX2_init_17 : decode cX2_init 17 = .ok (.putfield 15, 3) := by decide +kernel
theorem dX2_init_20 : decode cX2_init 20 = .ok (.aload_n 0, 1) := by decide +kernel
theorem dX2_init_21 : decode cX2_init 21 = .ok (.bipush 8, 2) := by decide +kernel
theorem dX2_init_23 : decode cX2_init 23 = .ok (.newarray .int, 2) := by decide +kernel
theorem dX2_init_25 : decode cX2_init 25 = .ok (.putfield 18, 3) := by decide +kernel
theorem dX2_init_28 : decode cX2_init 28 = .ok (.aload_n 0, 1) := by decide +kernel
theorem dX2_init_29 : decode cX2_init 29 = .ok (.bipush 9, 2) := by decide +kernel
theorem dX2_init_31 : decode cX2_init 31 = .ok (.newarray .int, 2) := by decide +kernel
theorem dX2_init_33 : decode cX2_init 33 = .ok (.putfield 21, 3) := by decide +kernel
theorem dX2_init_36 : decode cX2_init 36 = .ok (.aload_n 0, 1) := by decide +kernel
theorem dX2_init_37 : decode cX2_init 37 = .ok (.iconst 0, 1) := by decide +kernel
theorem dX2_init_38 : decode cX2_init 38 = .ok (.putfield 24, 3) := by decide +kernel
theorem dX2_init_41 : decode cX2_init 41 = .ok (.aload_n 0, 1) := by decide +kernel
theorem dX2_init_42 : decode cX2_init 42 = .ok (.bipush 10, 2) := by decide +kernel
theorem dX2_init_44 : decode cX2_init 44 = .ok (.newarray .int, 2) := by decide +kernel
theorem dX2_init_46 : decode cX2_init 46 = .ok (.putfield 28, 3) := by decide +kernel
theorem dX2_init_49 : decode cX2_init 49 = .ok (.aload_n 0, 1) := by decide +kernel
theorem dX2_init_50 : decode cX2_init 50 = .ok (.bipush 9, 2) := by decide +kernel
theorem dX2_init_52 : decode cX2_init 52 = .ok (.newarray .int, 2) := by decide +kernel
theorem dX2_init_54 : decode cX2_init 54 = .ok (.putfield 31, 3) := by decide +kernel
theorem dX2_init_57 : decode cX2_init 57 = .ok (.aload_n 0, 1) := by decide +kernel
theorem dX2_init_58 : decode cX2_init 58 = .ok (.iconst 0, 1) := by decide +kernel
theorem dX2_init_59 : decode cX2_init 59 = .ok (.putfield 34, 3) := by decide +kernel
theorem dX2_init_62 : decode cX2_init 62 = .ok (.aload_n 0, 1) := by decide +kernel
theorem dX2_init_63 : decode cX2_init 63 = .ok (.aload_n 1, 1) := by decide +kernel
theorem dX2_init_64 : decode cX2_init 64 = .ok (.putfield 37, 3) := by decide +kernel
theorem dX2_init_67 : decode cX2_init 67 = .ok (.aload_n 0, 1) := by decide +kernel
theorem dX2_init_68 : decode cX2_init 68 = .ok (.aload_n 2, 1) := by decide +kernel
theorem dX2_init_69 : decode cX2_init 69 = .ok (.putfield 41, 3) := by decide +kernel
theorem dX2_init_72 : decode cX2_init 72 = .ok (.aload_n 0, 1) := by decide +kernel
theorem dX2_init_73 : decode cX2_init 73 = .ok (.getfield 15, 3) := by decide +kernel
theorem dX2_init_76 : decode cX2_init 76 = .ok (.iconst (-1), 1) := by decide +kernel
theorem dX2_init_77 : decode cX2_init 77 = .ok (.invokestatic 45, 3) := by decide +kernel
theorem dX2_init_80 : decode cX2_init 80 = .ok (.aload_n 0, 1) := by decide +kernel
theorem dX2_init_81 : decode cX2_init 81 = .ok (.getfield 31, 3) := by decide +kernel
theorem dX2_init_84 : decode cX2_init 84 = .ok (.iconst (-1), 1) := by decide +kernel
theorem dX2_init_85 : decode cX2_init 85 = .ok (.invokestatic 45, 3) := by decide +kernel
theorem dX2_init_88 : decode cX2_init 88 = .ok (.return_, 1) := by decide +kernel
theorem dX2_judgeAll_0 : decode cX2_judgeAll 0 = .ok (.aload_n 0, 1) := by decide +kernel
theorem dX2_judgeAll_1 : decode cX2_judgeAll 1 = .ok (.iconst (-1), 1) := by decide +kernel
theorem dX2_judgeAll_2 : decode cX2_judgeAll 2 = .ok (.invokevirtual 51, 3) := by decide +kernel
theorem dX2_judgeAll_5 : decode cX2_judgeAll 5 = .ok (.return_, 1) := by decide +kernel
theorem dX2_judgeWithout_0 : decode cX2_judgeWithout 0 = .ok (.aload_n 0, 1) := by decide +kernel
theorem dX2_judgeWithout_1 : decode cX2_judgeWithout 1 = .ok (.getfield 15, 3) := by decide +kernel
theorem dX2_judgeWithout_4 : decode cX2_judgeWithout 4 = .ok (.iconst (-1), 1) := by decide +kernel
theorem dX2_judgeWithout_5 : decode cX2_judgeWithout 5 = .ok (.invokestatic 45, 3) := by decide +kernel
theorem dX2_judgeWithout_8 : decode cX2_judgeWithout 8 = .ok (.aload_n 0, 1) := by decide +kernel
theorem dX2_judgeWithout_9 : decode cX2_judgeWithout 9 = .ok (.getfield 18, 3) := by decide +kernel
theorem dX2_judgeWithout_12 : decode cX2_judgeWithout 12 = .ok (.iconst 0, 1) := by decide +kernel
theorem dX2_judgeWithout_13 : decode cX2_judgeWithout 13 = .ok (.invokestatic 45, 3) := by decide +kernel
theorem dX2_judgeWithout_16 : decode cX2_judgeWithout 16 = .ok (.aload_n 0, 1) := by decide +kernel
theorem dX2_judgeWithout_17 : decode cX2_judgeWithout 17 = .ok (.iconst 0, 1) := by decide +kernel
theorem dX2_judgeWithout_18 : decode cX2_judgeWithout 18 = .ok (.putfield 24, 3) := by decide +kernel
theorem dX2_judgeWithout_21 : decode cX2_judgeWithout 21 = .ok (.iconst 0, 1) := by decide +kernel
theorem dX2_judgeWithout_22 : decode cX2_judgeWithout 22 = .ok (.istore_n 2, 1) := by decide +kernel
theorem dX2_judgeWithout_23 : decode cX2_judgeWithout 23 = .ok (.iload_n 2, 1) := by decide +kernel
theorem dX2_judgeWithout_24 : decode cX2_judgeWithout 24 = .ok (.aload_n 0, 1) := by decide +kernel
theorem dX2_judgeWithout_25 : decode cX2_judgeWithout 25 = .ok (.getfield 41, 3) := by decide +kernel
theorem dX2_judgeWithout_28 : decode cX2_judgeWithout 28 = .ok (.getfield 55, 3) := by decide +kernel
theorem dX2_judgeWithout_31 : decode cX2_judgeWithout 31 = .ok (.if_icmp .ge 44, 3) := by decide +kernel
theorem dX2_judgeWithout_34 : decode cX2_judgeWithout 34 = .ok (.aload_n 0, 1) := by decide +kernel
theorem dX2_judgeWithout_35 : decode cX2_judgeWithout 35 = .ok (.getfield 9, 3) := by decide +kernel
theorem dX2_judgeWithout_38 : decode cX2_judgeWithout 38 = .ok (.iload_n 2, 1) := by decide +kernel
theorem dX2_judgeWithout_39 : decode cX2_judgeWithout 39 = .ok (.iload_n 2, 1) := by decide +kernel
theorem dX2_judgeWithout_40 : decode cX2_judgeWithout 40 = .ok (.iload_n 1, 1) := by decide +kernel
theorem dX2_judgeWithout_41 : decode cX2_judgeWithout 41 = .ok (.if_icmp .ne 7, 3) := by decide +kernel
theorem dX2_judgeWithout_44 : decode cX2_judgeWithout 44 = .ok (.iconst (-1), 1) := by decide +kernel
theorem dX2_judgeWithout_45 : decode cX2_judgeWithout 45 = .ok (.goto 8, 3) := by decide +kernel
theorem dX2_judgeWithout_48 : decode cX2_judgeWithout 48 = .ok (.aload_n 0, 1) := by decide +kernel
theorem dX2_judgeWithout_49 : decode cX2_judgeWithout 49 = .ok (.iload_n 2, 1) := by decide +kernel
theorem dX2_judgeWithout_50 : decode cX2_judgeWithout 50 = .ok (.invokevirtual 60, 3) := by decide +kernel
theorem dX2_judgeWithout_53 : decode cX2_judgeWithout 53 = .ok (.iastore, 1) := by decide +kernel
theorem dX2_judgeWithout_54 : decode cX2_judgeWithout 54 = .ok (.aload_n 0, 1) := by decide +kernel
theorem dX2_judgeWithout_55 : decode cX2_judgeWithout 55 = .ok (.getfield 9, 3) := by decide +kernel
theorem dX2_judgeWithout_58 : decode cX2_judgeWithout 58 = .ok (.iload_n 2, 1) := by decide +kernel
theorem dX2_judgeWithout_59 : decode cX2_judgeWithout 59 = .ok (.iaload, 1) := by decide +kernel
theorem dX2_judgeWithout_60 : decode cX2_judgeWithout 60 = .ok (.iconst (-1), 1) := by decide +kernel
theorem dX2_judgeWithout_61 : decode cX2_judgeWithout 61 = .ok (.if_icmp .eq 8, 3) := by decide +kernel
theorem dX2_judgeWithout_64 : decode cX2_judgeWithout 64 = .ok (.aload_n 0, 1) := by decide +kernel
theorem dX2_judgeWithout_65 : decode cX2_judgeWithout 65 = .ok (.iload_n 2, 1) := by decide +kernel
theorem dX2_judgeWithout_66 : decode cX2_judgeWithout 66 = .ok (.invokevirtual 64, 3) := by decide +kernel
theorem dX2_judgeWithout_69 : decode cX2_judgeWithout 69 = .ok (.iinc 2 1, 3) := by decide +kernel
theorem dX2_judgeWithout_72 : decode cX2_judgeWithout 72 = .ok (.goto (-49), 3) := by decide +kernel
theorem dX2_judgeWithout_75 : decode cX2_judgeWithout 75 = .ok (.return_, 1) := by decide +kernel
theorem dX2_hourByLaw_0 : decode cX2_hourByLaw 0 = .ok (.aload_n 0, 1) := by decide +kernel
theorem dX2_hourByLaw_1 : decode cX2_hourByLaw 1 = .ok (.getfield 41, 3) := by decide +kernel
theorem dX2_hourByLaw_4 : decode cX2_hourByLaw 4 = .ok (.getfield 67, 3) := by decide +kernel
theorem dX2_hourByLaw_7 : decode cX2_hourByLaw 7 = .ok (.iload_n 1, 1) := by decide +kernel
theorem dX2_hourByLaw_8 : decode cX2_hourByLaw 8 = .ok (.iaload, 1) := by decide +kernel
theorem dX2_hourByLaw_9 : decode cX2_hourByLaw 9 = .ok (.istore_n 2, 1) := by decide +kernel
theorem dX2_hourByLaw_10 : decode cX2_hourByLaw 10 = .ok (.aload_n 0, 1) := by decide +kernel
theorem dX2_hourByLaw_11 : decode cX2_hourByLaw 11 = .ok (.getfield 41, 3) := by decide +kernel
theorem dX2_hourByLaw_14 : decode cX2_hourByLaw 14 = .ok (.getfield 70, 3) := by decide +kernel
theorem dX2_hourByLaw_17 : decode cX2_hourByLaw 17 = .ok (.iload_n 1, 1) := by decide +kernel
theorem dX2_hourByLaw_18 : decode cX2_hourByLaw 18 = .ok (.iaload, 1) := by decide +kernel
theorem dX2_hourByLaw_19 : decode cX2_hourByLaw 19 = .ok (.istore_n 3, 1) := by decide +kernel
theorem dX2_hourByLaw_20 : decode cX2_hourByLaw 20 = .ok (.iload_n 2, 1) := by decide +kernel
theorem dX2_hourByLaw_21 : decode cX2_hourByLaw 21 = .ok (.aload_n 0, 1) := by decide +kernel
theorem dX2_hourByLaw_22 : decode cX2_hourByLaw 22 = .ok (.getfield 37, 3) := by decide +kernel
theorem dX2_hourByLaw_25 : decode cX2_hourByLaw 25 = .ok (.getfield 73, 3) := by decide +kernel
theorem dX2_hourByLaw_28 : decode cX2_hourByLaw 28 = .ok (.getfield 79, 3) := by decide +kernel
theorem dX2_hourByLaw_31 : decode cX2_hourByLaw 31 = .ok (.if_icmp .ge 27, 3) := by decide +kernel
theorem dX2_hourByLaw_34 : decode cX2_hourByLaw 34 = .ok (.iload_n 3, 1) := by decide +kernel
theorem dX2_hourByLaw_35 : decode cX2_hourByLaw 35 = .ok (.aload_n 0, 1) := by decide +kernel
theorem dX2_hourByLaw_36 : decode cX2_hourByLaw 36 = .ok (.getfield 37, 3) := by decide +kernel
theorem dX2_hourByLaw_39 : decode cX2_hourByLaw 39 = .ok (.getfield 82, 3) := by decide +kernel
theorem dX2_hourByLaw_42 : decode cX2_hourByLaw 42 = .ok (.getfield 79, 3) := by decide +kernel
theorem dX2_hourByLaw_45 : decode cX2_hourByLaw 45 = .ok (.if_icmp .ge 13, 3) := by decide +kernel
theorem dX2_hourByLaw_48 : decode cX2_hourByLaw 48 = .ok (.aload_n 0, 1) := by decide +kernel
theorem dX2_hourByLaw_49 : decode cX2_hourByLaw 49 = .ok (.getfield 15, 3) := by decide +kernel
theorem dX2_hourByLaw_52 : decode cX2_hourByLaw 52 = .ok (.iload_n 3, 1) := by decide +kernel
theorem dX2_hourByLaw_53 : decode cX2_hourByLaw 53 = .ok (.iaload, 1) := by decide +kernel
theorem dX2_hourByLaw_54 : decode cX2_hourByLaw 54 = .ok (.iconst (-1), 1) := by decide +kernel
theorem dX2_hourByLaw_55 : decode cX2_hourByLaw 55 = .ok (.if_icmp .eq 5, 3) := by decide +kernel
theorem dX2_hourByLaw_58 : decode cX2_hourByLaw 58 = .ok (.iconst (-1), 1) := by decide +kernel
theorem dX2_hourByLaw_59 : decode cX2_hourByLaw 59 = .ok (.ireturn, 1) := by decide +kernel
theorem dX2_hourByLaw_60 : decode cX2_hourByLaw 60 = .ok (.aload_n 0, 1) := by decide +kernel
theorem dX2_hourByLaw_61 : decode cX2_hourByLaw 61 = .ok (.getfield 37, 3) := by decide +kernel
theorem dX2_hourByLaw_64 : decode cX2_hourByLaw 64 = .ok (.iload_n 3, 1) := by decide +kernel
theorem dX2_hourByLaw_65 : decode cX2_hourByLaw 65 = .ok (.invokevirtual 85, 3) := by decide +kernel
theorem dX2_hourByLaw_68 : decode cX2_hourByLaw 68 = .ok (.aload_n 0, 1) := by decide +kernel
theorem dX2_hourByLaw_69 : decode cX2_hourByLaw 69 = .ok (.getfield 37, 3) := by decide +kernel
theorem dX2_hourByLaw_72 : decode cX2_hourByLaw 72 = .ok (.iload_n 2, 1) := by decide +kernel
theorem dX2_hourByLaw_73 : decode cX2_hourByLaw 73 = .ok (.invokevirtual 88, 3) := by decide +kernel
theorem dX2_hourByLaw_76 : decode cX2_hourByLaw 76 = .ok (.if_icmp .le 5, 3) := by decide +kernel
theorem dX2_hourByLaw_79 : decode cX2_hourByLaw 79 = .ok (.iconst (-1), 1) := by decide +kernel
theorem dX2_hourByLaw_80 : decode cX2_hourByLaw 80 = .ok (.ireturn, 1) := by decide +kernel
theorem dX2_hourByLaw_81 : decode cX2_hourByLaw 81 = .ok (.aload_n 0, 1) := by decide +kernel
theorem dX2_hourByLaw_82 : decode cX2_hourByLaw 82 = .ok (.getfield 18, 3) := by decide +kernel
theorem dX2_hourByLaw_85 : decode cX2_hourByLaw 85 = .ok (.iload_n 2, 1) := by decide +kernel
theorem dX2_hourByLaw_86 : decode cX2_hourByLaw 86 = .ok (.iaload, 1) := by decide +kernel
theorem dX2_hourByLaw_87 : decode cX2_hourByLaw 87 = .ok (.aload_n 0, 1) := by decide +kernel
theorem dX2_hourByLaw_88 : decode cX2_hourByLaw 88 = .ok (.getfield 37, 3) := by decide +kernel
theorem dX2_hourByLaw_91 : decode cX2_hourByLaw 91 = .ok (.iload_n 3, 1) := by decide +kernel
theorem dX2_hourByLaw_92 : decode cX2_hourByLaw 92 = .ok (.invokevirtual 91, 3) := by decide +kernel
theorem dX2_hourByLaw_95 : decode cX2_hourByLaw 95 = .ok (.iadd, 1) := by decide +kernel
theorem dX2_hourByLaw_96 : decode cX2_hourByLaw 96 = .ok (.iconst 1, 1) := by decide +kernel
theorem dX2_hourByLaw_97 : decode cX2_hourByLaw 97 = .ok (.iadd, 1) := by decide +kernel
theorem dX2_hourByLaw_98 : decode cX2_hourByLaw 98 = .ok (.istore 4, 2) := by decide +kernel
theorem dX2_hourByLaw_100 : decode cX2_hourByLaw 100 = .ok (.iload 4, 2) := by decide +kernel
theorem dX2_hourByLaw_102 : decode cX2_hourByLaw 102 = .ok (.aload_n 0, 1) := by decide +kernel
theorem dX2_hourByLaw_103 : decode cX2_hourByLaw 103 = .ok (.getfield 37, 3) := by decide +kernel
theorem dX2_hourByLaw_106 : decode cX2_hourByLaw 106 = .ok (.getfield 94, 3) := by decide +kernel
theorem dX2_hourByLaw_109 : decode cX2_hourByLaw 109 = .ok (.if_icmp .gt 8, 3) := by decide +kernel
theorem dX2_hourByLaw_112 : decode cX2_hourByLaw 112 = .ok (.iload 4, 2) := by decide +kernel
theorem dX2_hourByLaw_114 : decode cX2_hourByLaw 114 = .ok (.goto 4, 3) := by decide +kernel
theorem dX2_hourByLaw_117 : decode cX2_hourByLaw 117 = .ok (.iconst (-1), 1) := by decide +kernel
theorem dX2_hourByLaw_118 : decode cX2_hourByLaw 118 = .ok (.ireturn, 1) := by decide +kernel
theorem dX2_take_0 : decode cX2_take 0 = .ok (.aload_n 0, 1) := by decide +kernel
theorem dX2_take_1 : decode cX2_take 1 = .ok (.getfield 15, 3) := by decide +kernel
theorem dX2_take_4 : decode cX2_take 4 = .ok (.aload_n 0, 1) := by decide +kernel
theorem dX2_take_5 : decode cX2_take 5 = .ok (.getfield 41, 3) := by decide +kernel
theorem dX2_take_8 : decode cX2_take 8 = .ok (.getfield 70, 3) := by decide +kernel
theorem dX2_take_11 : decode cX2_take 11 = .ok (.iload_n 1, 1) := by decide +kernel
theorem dX2_take_12 : decode cX2_take 12 = .ok (.iaload, 1) := by decide +kernel
theorem dX2_take_13 : decode cX2_take 13 = .ok (.aload_n 0, 1) := by decide +kernel
theorem dX2_take_14 : decode cX2_take 14 = .ok (.getfield 41, 3) := by decide +kernel
theorem dX2_take_17 : decode cX2_take 17 = .ok (.getfield 67, 3) := by decide +kernel
theorem dX2_take_20 : decode cX2_take 20 = .ok (.iload_n 1, 1) := by decide +kernel
theorem dX2_take_21 : decode cX2_take 21 = .ok (.iaload, 1) := by decide +kernel
theorem dX2_take_22 : decode cX2_take 22 = .ok (.iastore, 1) := by decide +kernel
theorem dX2_take_23 : decode cX2_take 23 = .ok (.aload_n 0, 1) := by decide +kernel
theorem dX2_take_24 : decode cX2_take 24 = .ok (.getfield 18, 3) := by decide +kernel
theorem dX2_take_27 : decode cX2_take 27 = .ok (.aload_n 0, 1) := by decide +kernel
theorem dX2_take_28 : decode cX2_take 28 = .ok (.getfield 41, 3) := by decide +kernel
theorem dX2_take_31 : decode cX2_take 31 = .ok (.getfield 67, 3) := by decide +kernel
theorem dX2_take_34 : decode cX2_take 34 = .ok (.iload_n 1, 1) := by decide +kernel
theorem dX2_take_35 : decode cX2_take 35 = .ok (.iaload, 1) := by decide +kernel
theorem dX2_take_36 : decode cX2_take 36 = .ok (.aload_n 0, 1) := by decide +kernel
theorem dX2_take_37 : decode cX2_take 37 = .ok (.getfield 9, 3) := by decide +kernel
theorem dX2_take_40 : decode cX2_take 40 = .ok (.iload_n 1, 1) := by decide +kernel
theorem dX2_take_41 : decode cX2_take 41 = .ok (.iaload, 1) := by decide +kernel
theorem dX2_take_42 : decode cX2_take 42 = .ok (.iastore, 1) := by decide +kernel
theorem dX2_take_43 : decode cX2_take 43 = .ok (.aload_n 0, 1) := by decide +kernel
theorem dX2_take_44 : decode cX2_take 44 = .ok (.getfield 24, 3) := by decide +kernel
theorem dX2_take_47 : decode cX2_take 47 = .ok (.istore_n 2, 1) := by decide +kernel
theorem dX2_take_48 : decode cX2_take 48 = .ok (.iload_n 2, 1) := by decide +kernel
theorem dX2_take_49 : decode cX2_take 49 = .ok (.ifCond .le 45, 3) := by decide +kernel
theorem dX2_take_52 : decode cX2_take 52 = .ok (.aload_n 0, 1) := by decide +kernel
theorem dX2_take_53 : decode cX2_take 53 = .ok (.getfield 9, 3) := by decide +kernel
theorem dX2_take_56 : decode cX2_take 56 = .ok (.aload_n 0, 1) := by decide +kernel
theorem dX2_take_57 : decode cX2_take 57 = .ok (.getfield 21, 3) := by decide +kernel
theorem dX2_take_60 : decode cX2_take 60 = .ok (.iload_n 2, 1) := by decide +kernel
theorem dX2_take_61 : decode cX2_take 61 = .ok (.iconst 1, 1) := by decide +kernel
theorem dX2_take_62 : decode cX2_take 62 = .ok (.isub, 1) := by decide +kernel
theorem dX2_take_63 : decode cX2_take 63 = .ok (.iaload, 1) := by decide +kernel
theorem dX2_take_64 : decode cX2_take 64 = .ok (.iaload, 1) := by decide +kernel
theorem dX2_take_65 : decode cX2_take 65 = .ok (.aload_n 0, 1) := by decide +kernel
theorem dX2_take_66 : decode cX2_take 66 = .ok (.getfield 9, 3) := by decide +kernel
theorem dX2_take_69 : decode cX2_take 69 = .ok (.iload_n 1, 1) := by decide +kernel
theorem dX2_take_70 : decode cX2_take 70 = .ok (.iaload, 1) := by decide +kernel
theorem dX2_take_71 : decode cX2_take 71 = .ok (.if_icmp .le 23, 3) := by decide +kernel
theorem dX2_take_74 : decode cX2_take 74 = .ok (.aload_n 0, 1) := by decide +kernel
theorem dX2_take_75 : decode cX2_take 75 = .ok (.getfield 21, 3) := by decide +kernel
theorem dX2_take_78 : decode cX2_take 78 = .ok (.iload_n 2, 1) := by decide +kernel
theorem dX2_take_79 : decode cX2_take 79 = .ok (.aload_n 0, 1) := by decide +kernel
theorem dX2_take_80 : decode cX2_take 80 = .ok (.getfield 21, 3) := by decide +kernel
theorem dX2_take_83 : decode cX2_take 83 = .ok (.iload_n 2, 1) := by decide +kernel
theorem dX2_take_84 : decode cX2_take 84 = .ok (.iconst 1, 1) := by decide +kernel
theorem dX2_take_85 : decode cX2_take 85 = .ok (.isub, 1) := by decide +kernel
theorem dX2_take_86 : decode cX2_take 86 = .ok (.iaload, 1) := by decide +kernel
theorem dX2_take_87 : decode cX2_take 87 = .ok (.iastore, 1) := by decide +kernel
theorem dX2_take_88 : decode cX2_take 88 = .ok (.iinc 2 (-1), 3) := by decide +kernel
theorem dX2_take_91 : decode cX2_take 91 = .ok (.goto (-43), 3) := by decide +kernel
theorem dX2_take_94 : decode cX2_take 94 = .ok (.aload_n 0, 1) := by decide +kernel
theorem dX2_take_95 : decode cX2_take 95 = .ok (.getfield 21, 3) := by decide +kernel
theorem dX2_take_98 : decode cX2_take 98 = .ok (.iload_n 2, 1) := by decide +kernel
theorem dX2_take_99 : decode cX2_take 99 = .ok (.iload_n 1, 1) := by decide +kernel
theorem dX2_take_100 : decode cX2_take 100 = .ok (.iastore, 1) := by decide +kernel
theorem dX2_take_101 : decode cX2_take 101 = .ok (.aload_n 0, 1) := by decide +kernel
theorem dX2_take_102 : decode cX2_take 102 = .ok (.dup, 1) := by decide +kernel
theorem dX2_take_103 : decode cX2_take 103 = .ok (.getfield 24, 3) := by decide +kernel
theorem dX2_take_106 : decode cX2_take 106 = .ok (.iconst 1, 1) := by decide +kernel
theorem dX2_take_107 : decode cX2_take 107 = .ok (.iadd, 1) := by decide +kernel
theorem dX2_take_108 : decode cX2_take 108 = .ok (.putfield 24, 3) := by decide +kernel
theorem dX2_take_111 : decode cX2_take 111 = .ok (.return_, 1) := by decide +kernel
theorem dX2_pileUp_0 : decode cX2_pileUp 0 = .ok (.aload_n 0, 1) := by decide +kernel
theorem dX2_pileUp_1 : decode cX2_pileUp 1 = .ok (.getfield 28, 3) := by decide +kernel
theorem dX2_pileUp_4 : decode cX2_pileUp 4 = .ok (.iconst 0, 1) := by decide +kernel
theorem dX2_pileUp_5 : decode cX2_pileUp 5 = .ok (.invokestatic 45, 3) := by decide +kernel
theorem dX2_pileUp_8 : decode cX2_pileUp 8 = .ok (.aload_n 0, 1) := by decide +kernel
theorem dX2_pileUp_9 : decode cX2_pileUp 9 = .ok (.getfield 31, 3) := by decide +kernel
theorem dX2_pileUp_12 : decode cX2_pileUp 12 = .ok (.iconst (-1), 1) := by decide +kernel
theorem dX2_pileUp_13 : decode cX2_pileUp 13 = .ok (.invokestatic 45, 3) := by decide +kernel
theorem dX2_pileUp_16 : decode cX2_pileUp 16 = .ok (.aload_n 0, 1) := by decide +kernel
theorem dX2_pileUp_17 : decode cX2_pileUp 17 = .ok (.iconst 0, 1) := by decide +kernel
theorem dX2_pileUp_18 : decode cX2_pileUp 18 = .ok (.putfield 34, 3) := by decide +kernel
theorem dX2_pileUp_21 : decode cX2_pileUp 21 = .ok (.iconst 0, 1) := by decide +kernel
theorem dX2_pileUp_22 : decode cX2_pileUp 22 = .ok (.istore_n 2, 1) := by decide +kernel
theorem dX2_pileUp_23 : decode cX2_pileUp 23 = .ok (.iload_n 2, 1) := by decide +kernel
theorem dX2_pileUp_24 : decode cX2_pileUp 24 = .ok (.aload_n 0, 1) := by decide +kernel
theorem dX2_pileUp_25 : decode cX2_pileUp 25 = .ok (.getfield 24, 3) := by decide +kernel
theorem dX2_pileUp_28 : decode cX2_pileUp 28 = .ok (.if_icmp .ge 34, 3) := by decide +kernel
theorem dX2_pileUp_31 : decode cX2_pileUp 31 = .ok (.aload_n 0, 1) := by decide +kernel
theorem dX2_pileUp_32 : decode cX2_pileUp 32 = .ok (.getfield 9, 3) := by decide +kernel
theorem dX2_pileUp_35 : decode cX2_pileUp 35 = .ok (.aload_n 0, 1) := by decide +kernel
theorem dX2_pileUp_36 : decode cX2_pileUp 36 = .ok (.getfield 21, 3) := by decide +kernel
theorem dX2_pileUp_39 : decode cX2_pileUp 39 = .ok (.iload_n 2, 1) := by decide +kernel
theorem dX2_pileUp_40 : decode cX2_pileUp 40 = .ok (.iaload, 1) := by decide +kernel
theorem dX2_pileUp_41 : decode cX2_pileUp 41 = .ok (.iaload, 1) := by decide +kernel
theorem dX2_pileUp_42 : decode cX2_pileUp 42 = .ok (.iload_n 1, 1) := by decide +kernel
theorem dX2_pileUp_43 : decode cX2_pileUp 43 = .ok (.if_icmp .gt 19, 3) := by decide +kernel
theorem dX2_pileUp_46 : decode cX2_pileUp 46 = .ok (.aload_n 0, 1) := by decide +kernel
theorem dX2_pileUp_47 : decode cX2_pileUp 47 = .ok (.aload_n 0, 1) := by decide +kernel
theorem dX2_pileUp_48 : decode cX2_pileUp 48 = .ok (.getfield 21, 3) := by decide +kernel
theorem dX2_pileUp_51 : decode cX2_pileUp 51 = .ok (.iload_n 2, 1) := by decide +kernel
theorem dX2_pileUp_52 : decode cX2_pileUp 52 = .ok (.iaload, 1) := by decide +kernel
theorem dX2_pileUp_53 : decode cX2_pileUp 53 = .ok (.invokevirtual 97, 3) := by decide +kernel
theorem dX2_pileUp_56 : decode cX2_pileUp 56 = .ok (.iinc 2 1, 3) := by decide +kernel
theorem dX2_pileUp_59 : decode cX2_pileUp 59 = .ok (.goto (-36), 3) := by decide +kernel
theorem dX2_pileUp_62 : decode cX2_pileUp 62 = .ok (.return_, 1) := by decide +kernel
theorem dX2_put_0 : decode cX2_put 0 = .ok (.aload_n 0, 1) := by decide +kernel
theorem dX2_put_1 : decode cX2_put 1 = .ok (.getfield 41, 3) := by decide +kernel
theorem dX2_put_4 : decode cX2_put 4 = .ok (.getfield 70, 3) := by decide +kernel
theorem dX2_put_7 : decode cX2_put 7 = .ok (.iload_n 1, 1) := by decide +kernel
theorem dX2_put_8 : decode cX2_put 8 = .ok (.iaload, 1) := by decide +kernel
theorem dX2_put_9 : decode cX2_put 9 = .ok (.istore_n 2, 1) := by decide +kernel
theorem dX2_put_10 : decode cX2_put 10 = .ok (.aload_n 0, 1) := by decide +kernel
theorem dX2_put_11 : decode cX2_put 11 = .ok (.getfield 37, 3) := by decide +kernel
theorem dX2_put_14 : decode cX2_put 14 = .ok (.aload_n 0, 1) := by decide +kernel
theorem dX2_put_15 : decode cX2_put 15 = .ok (.getfield 41, 3) := by decide +kernel
theorem dX2_put_18 : decode cX2_put 18 = .ok (.getfield 67, 3) := by decide +kernel
theorem dX2_put_21 : decode cX2_put 21 = .ok (.iload_n 1, 1) := by decide +kernel
theorem dX2_put_22 : decode cX2_put 22 = .ok (.iaload, 1) := by decide +kernel
theorem dX2_put_23 : decode cX2_put 23 = .ok (.invokevirtual 100, 3) := by decide +kernel
theorem dX2_put_26 : decode cX2_put 26 = .ok (.aload_n 0, 1) := by decide +kernel
theorem dX2_put_27 : decode cX2_put 27 = .ok (.getfield 41, 3) := by decide +kernel
theorem dX2_put_30 : decode cX2_put 30 = .ok (.getfield 103, 3) := by decide +kernel
theorem dX2_put_33 : decode cX2_put 33 = .ok (.iload_n 1, 1) := by decide +kernel
theorem dX2_put_34 : decode cX2_put 34 = .ok (.iaload, 1) := by decide +kernel
theorem dX2_put_35 : decode cX2_put 35 = .ok (.invokestatic 106, 3) := by decide +kernel
theorem dX2_put_38 : decode cX2_put 38 = .ok (.istore_n 3, 1) := by decide +kernel
theorem dX2_put_39 : decode cX2_put 39 = .ok (.aload_n 0, 1) := by decide +kernel
theorem dX2_put_40 : decode cX2_put 40 = .ok (.getfield 31, 3) := by decide +kernel
theorem dX2_put_43 : decode cX2_put 43 = .ok (.iload_n 2, 1) := by decide +kernel
theorem dX2_put_44 : decode cX2_put 44 = .ok (.iload_n 3, 1) := by decide +kernel
theorem dX2_put_45 : decode cX2_put 45 = .ok (.iastore, 1) := by decide +kernel
theorem dX2_put_46 : decode cX2_put 46 = .ok (.aload_n 0, 1) := by decide +kernel
theorem dX2_put_47 : decode cX2_put 47 = .ok (.getfield 28, 3) := by decide +kernel
theorem dX2_put_50 : decode cX2_put 50 = .ok (.iload_n 3, 1) := by decide +kernel
theorem dX2_put_51 : decode cX2_put 51 = .ok (.dup2, 1) := by decide +kernel
theorem dX2_put_52 : decode cX2_put 52 = .ok (.iaload, 1) := by decide +kernel
theorem dX2_put_53 : decode cX2_put 53 = .ok (.aload_n 0, 1) := by decide +kernel
theorem dX2_put_54 : decode cX2_put 54 = .ok (.getfield 37, 3) := by decide +kernel
theorem dX2_put_57 : decode cX2_put 57 = .ok (.iload_n 2, 1) := by decide +kernel
theorem dX2_put_58 : decode cX2_put 58 = .ok (.invokevirtual 85, 3) := by decide +kernel
theorem dX2_put_61 : decode cX2_put 61 = .ok (.iadd, 1) := by decide +kernel
theorem dX2_put_62 : decode cX2_put 62 = .ok (.iastore, 1) := by decide +kernel
theorem dX2_put_63 : decode cX2_put 63 = .ok (.aload_n 0, 1) := by decide +kernel
theorem dX2_put_64 : decode cX2_put 64 = .ok (.getfield 28, 3) := by decide +kernel
theorem dX2_put_67 : decode cX2_put 67 = .ok (.iload_n 3, 1) := by decide +kernel
theorem dX2_put_68 : decode cX2_put 68 = .ok (.iaload, 1) := by decide +kernel
theorem dX2_put_69 : decode cX2_put 69 = .ok (.aload_n 0, 1) := by decide +kernel
theorem dX2_put_70 : decode cX2_put 70 = .ok (.getfield 37, 3) := by decide +kernel
theorem dX2_put_73 : decode cX2_put 73 = .ok (.getfield 110, 3) := by decide +kernel
theorem dX2_put_76 : decode cX2_put 76 = .ok (.if_icmp .le 8, 3) := by decide +kernel
theorem dX2_put_79 : decode cX2_put 79 = .ok (.aload_n 0, 1) := by decide +kernel
theorem dX2_put_80 : decode cX2_put 80 = .ok (.iload_n 3, 1) := by decide +kernel
theorem dX2_put_81 : decode cX2_put 81 = .ok (.invokevirtual 113, 3) := by decide +kernel
theorem dX2_put_84 : decode cX2_put 84 = .ok (.return_, 1) := by decide +kernel
theorem dX2_slide_0 : decode cX2_slide 0 = .ok (.aload_n 0, 1) := by decide +kernel
theorem dX2_slide_1 : decode cX2_slide 1 = .ok (.getfield 28, 3) := by decide +kernel
theorem dX2_slide_4 : decode cX2_slide 4 = .ok (.iload_n 1, 1) := by decide +kernel
theorem dX2_slide_5 : decode cX2_slide 5 = .ok (.iconst 0, 1) := by decide +kernel
theorem dX2_slide_6 : decode cX2_slide 6 = .ok (.iastore, 1) := by decide +kernel
theorem dX2_slide_7 : decode cX2_slide 7 = .ok (.iconst 0, 1) := by decide +kernel
theorem dX2_slide_8 : decode cX2_slide 8 = .ok (.istore_n 2, 1) := by decide +kernel
theorem dX2_slide_9 : decode cX2_slide 9 = .ok (.iload_n 2, 1) := by decide +kernel
theorem dX2_slide_10 : decode cX2_slide 10 = .ok (.bipush 9, 2) := by decide +kernel
theorem dX2_slide_12 : decode cX2_slide 12 = .ok (.if_icmp .ge 36, 3) := by decide +kernel
theorem dX2_slide_15 : decode cX2_slide 15 = .ok (.aload_n 0, 1) := by decide +kernel
theorem dX2_slide_16 : decode cX2_slide 16 = .ok (.getfield 31, 3) := by decide +kernel
theorem dX2_slide_19 : decode cX2_slide 19 = .ok (.iload_n 2, 1) := by decide +kernel
theorem dX2_slide_20 : decode cX2_slide 20 = .ok (.iaload, 1) := by decide +kernel
theorem dX2_slide_21 : decode cX2_slide 21 = .ok (.iload_n 1, 1) := by decide +kernel
theorem dX2_slide_22 : decode cX2_slide 22 = .ok (.if_icmp .ne 20, 3) := by decide +kernel
theorem dX2_slide_25 : decode cX2_slide 25 = .ok (.aload_n 0, 1) := by decide +kernel
theorem dX2_slide_26 : decode cX2_slide 26 = .ok (.getfield 31, 3) := by decide +kernel
theorem dX2_slide_29 : decode cX2_slide 29 = .ok (.iload_n 2, 1) := by decide +kernel
theorem dX2_slide_30 : decode cX2_slide 30 = .ok (.iconst (-1), 1) := by decide +kernel
theorem dX2_slide_31 : decode cX2_slide 31 = .ok (.iastore, 1) := by decide +kernel
theorem dX2_slide_32 : decode cX2_slide 32 = .ok (.aload_n 0, 1) := by decide +kernel
theorem dX2_slide_33 : decode cX2_slide 33 = .ok (.dup, 1) := by decide +kernel
theorem dX2_slide_34 : decode cX2_slide 34 = .ok (.getfield 34, 3) := by decide +kernel
theorem dX2_slide_37 : decode cX2_slide 37 = .ok (.iconst 1, 1) := by decide +kernel
theorem dX2_slide_38 : decode cX2_slide 38 = .ok (.iadd, 1) := by decide +kernel
theorem dX2_slide_39 : decode cX2_slide 39 = .ok (.putfield 34, 3) := by decide +kernel
theorem dX2_slide_42 : decode cX2_slide 42 = .ok (.iinc 2 1, 3) := by decide +kernel
theorem dX2_slide_45 : decode cX2_slide 45 = .ok (.goto (-36), 3) := by decide +kernel
theorem dX2_slide_48 : decode cX2_slide 48 = .ok (.return_, 1) := by decide +kernel
theorem dX2_tipAt_0 : decode cX2_tipAt 0 = .ok (.aload_n 0, 1) := by decide +kernel
theorem dX2_tipAt_1 : decode cX2_tipAt 1 = .ok (.iload_n 1, 1) := by decide +kernel
theorem dX2_tipAt_2 : decode cX2_tipAt 2 = .ok (.invokevirtual 116, 3) := by decide +kernel
theorem dX2_tipAt_5 : decode cX2_tipAt 5 = .ok (.aload_n 0, 1) := by decide +kernel
theorem dX2_tipAt_6 : decode cX2_tipAt 6 = .ok (.getfield 37, 3) := by decide +kernel
theorem dX2_tipAt_9 : decode cX2_tipAt 9 = .ok (.getfield 119, 3) := by decide +kernel
theorem dX2_tipAt_12 : decode cX2_tipAt 12 = .ok (.iload_n 1, 1) := by decide +kernel
theorem dX2_tipAt_13 : decode cX2_tipAt 13 = .ok (.iaload, 1) := by decide +kernel
theorem dX2_tipAt_14 : decode cX2_tipAt 14 = .ok (.istore_n 2, 1) := by decide +kernel
theorem dX2_tipAt_15 : decode cX2_tipAt 15 = .ok (.iconst 1, 1) := by decide +kernel
theorem dX2_tipAt_16 : decode cX2_tipAt 16 = .ok (.istore_n 3, 1) := by decide +kernel
theorem dX2_tipAt_17 : decode cX2_tipAt 17 = .ok (.iload_n 3, 1) := by decide +kernel
theorem dX2_tipAt_18 : decode cX2_tipAt 18 = .ok (.iconst 5, 1) := by decide +kernel
theorem dX2_tipAt_19 : decode cX2_tipAt 19 = .ok (.if_icmp .gt 35, 3) := by decide +kernel
theorem dX2_tipAt_22 : decode cX2_tipAt 22 = .ok (.iload_n 2, 1) := by decide +kernel
theorem dX2_tipAt_23 : decode cX2_tipAt 23 = .ok (.iload_n 3, 1) := by decide +kernel
theorem dX2_tipAt_24 : decode cX2_tipAt 24 = .ok (.aload_n 0, 1) := by decide +kernel
theorem dX2_tipAt_25 : decode cX2_tipAt 25 = .ok (.getfield 28, 3) := by decide +kernel
theorem dX2_tipAt_28 : decode cX2_tipAt 28 = .ok (.iconst 0, 1) := by decide +kernel
theorem dX2_tipAt_29 : decode cX2_tipAt 29 = .ok (.iload_n 3, 1) := by decide +kernel
theorem dX2_tipAt_30 : decode cX2_tipAt 30 = .ok (.invokestatic 106, 3) := by decide +kernel
theorem dX2_tipAt_33 : decode cX2_tipAt 33 = .ok (.iaload, 1) := by decide +kernel
theorem dX2_tipAt_34 : decode cX2_tipAt 34 = .ok (.aload_n 0, 1) := by decide +kernel
theorem dX2_tipAt_35 : decode cX2_tipAt 35 = .ok (.getfield 28, 3) := by decide +kernel
theorem dX2_tipAt_38 : decode cX2_tipAt 38 = .ok (.iconst 1, 1) := by decide +kernel
theorem dX2_tipAt_39 : decode cX2_tipAt 39 = .ok (.iload_n 3, 1) := by decide +kernel
theorem dX2_tipAt_40 : decode cX2_tipAt 40 = .ok (.invokestatic 106, 3) := by decide +kernel
theorem dX2_tipAt_43 : decode cX2_tipAt 43 = .ok (.iaload, 1) := by decide +kernel
theorem dX2_tipAt_44 : decode cX2_tipAt 44 = .ok (.isub, 1) := by decide +kernel
theorem dX2_tipAt_45 : decode cX2_tipAt 45 = .ok (.imul, 1) := by decide +kernel
theorem dX2_tipAt_46 : decode cX2_tipAt 46 = .ok (.iadd, 1) := by decide +kernel
theorem dX2_tipAt_47 : decode cX2_tipAt 47 = .ok (.istore_n 2, 1) := by decide +kernel
theorem dX2_tipAt_48 : decode cX2_tipAt 48 = .ok (.iinc 3 1, 3) := by decide +kernel
theorem dX2_tipAt_51 : decode cX2_tipAt 51 = .ok (.goto (-34), 3) := by decide +kernel
theorem dX2_tipAt_54 : decode cX2_tipAt 54 = .ok (.iload_n 2, 1) := by decide +kernel
theorem dX2_tipAt_55 : decode cX2_tipAt 55 = .ok (.ireturn, 1) := by decide +kernel
theorem dX2_weightLead_0 : decode cX2_weightLead 0 = .ok (.iconst 0, 1) := by decide +kernel
theorem dX2_weightLead_1 : decode cX2_weightLead 1 = .ok (.istore_n 1, 1) := by decide +kernel
theorem dX2_weightLead_2 : decode cX2_weightLead 2 = .ok (.iconst 1, 1) := by decide +kernel
theorem dX2_weightLead_3 : decode cX2_weightLead 3 = .ok (.istore_n 2, 1) := by decide +kernel
theorem dX2_weightLead_4 : decode cX2_weightLead 4 = .ok (.iload_n 2, 1) := by decide +kernel
theorem dX2_weightLead_5 : decode cX2_weightLead 5 = .ok (.iconst 5, 1) := by decide +kernel
theorem dX2_weightLead_6 : decode cX2_weightLead 6 = .ok (.if_icmp .gt 33, 3) := by decide +kernel
theorem dX2_weightLead_9 : decode cX2_weightLead 9 = .ok (.iload_n 1, 1) := by decide +kernel
theorem dX2_weightLead_10 : decode cX2_weightLead 10 = .ok (.aload_n 0, 1) := by decide +kernel
theorem dX2_weightLead_11 : decode cX2_weightLead 11 = .ok (.getfield 28, 3) := by decide +kernel
theorem dX2_weightLead_14 : decode cX2_weightLead 14 = .ok (.iconst 0, 1) := by decide +kernel
theorem dX2_weightLead_15 : decode cX2_weightLead 15 = .ok (.iload_n 2, 1) := by decide +kernel
theorem dX2_weightLead_16 : decode cX2_weightLead 16 = .ok (.invokestatic 106, 3) := by decide +kernel
theorem dX2_weightLead_19 : decode cX2_weightLead 19 = .ok (.iaload, 1) := by decide +kernel
theorem dX2_weightLead_20 : decode cX2_weightLead 20 = .ok (.aload_n 0, 1) := by decide +kernel
theorem dX2_weightLead_21 : decode cX2_weightLead 21 = .ok (.getfield 28, 3) := by decide +kernel
theorem dX2_weightLead_24 : decode cX2_weightLead 24 = .ok (.iconst 1, 1) := by decide +kernel
theorem dX2_weightLead_25 : decode cX2_weightLead 25 = .ok (.iload_n 2, 1) := by decide +kernel
theorem dX2_weightLead_26 : decode cX2_weightLead 26 = .ok (.invokestatic 106, 3) := by decide +kernel
theorem dX2_weightLead_29 : decode cX2_weightLead 29 = .ok (.iaload, 1) := by decide +kernel
theorem dX2_weightLead_30 : decode cX2_weightLead 30 = .ok (.isub, 1) := by decide +kernel
theorem dX2_weightLead_31 : decode cX2_weightLead 31 = .ok (.iadd, 1) := by decide +kernel
theorem dX2_weightLead_32 : decode cX2_weightLead 32 = .ok (.istore_n 1, 1) := by decide +kernel
theorem dX2_weightLead_33 : decode cX2_weightLead 33 = .ok (.iinc 2 1, 3) := by decide +kernel
theorem dX2_weightLead_36 : decode cX2_weightLead 36 = .ok (.goto (-32), 3) := by decide +kernel
theorem dX2_weightLead_39 : decode cX2_weightLead 39 = .ok (.iload_n 1, 1) := by decide +kernel
theorem dX2_weightLead_40 : decode cX2_weightLead 40 = .ok (.ireturn, 1) := by decide +kernel
theorem dX2_votersLead_0 : decode cX2_votersLead 0 = .ok (.iconst 0, 1) := by decide +kernel
theorem dX2_votersLead_1 : decode cX2_votersLead 1 = .ok (.istore_n 1, 1) := by decide +kernel
theorem dX2_votersLead_2 : decode cX2_votersLead 2 = .ok (.iconst 0, 1) := by decide +kernel
theorem dX2_votersLead_3 : decode cX2_votersLead 3 = .ok (.istore_n 2, 1) := by decide +kernel
theorem dX2_votersLead_4 : decode cX2_votersLead 4 = .ok (.iload_n 2, 1) := by decide +kernel
theorem dX2_votersLead_5 : decode cX2_votersLead 5 = .ok (.bipush 9, 2) := by decide +kernel
theorem dX2_votersLead_7 : decode cX2_votersLead 7 = .ok (.if_icmp .ge 30, 3) := by decide +kernel
theorem dX2_votersLead_10 : decode cX2_votersLead 10 = .ok (.aload_n 0, 1) := by decide +kernel
theorem dX2_votersLead_11 : decode cX2_votersLead 11 = .ok (.getfield 31, 3) := by decide +kernel
theorem dX2_votersLead_14 : decode cX2_votersLead 14 = .ok (.iload_n 2, 1) := by decide +kernel
theorem dX2_votersLead_15 : decode cX2_votersLead 15 = .ok (.iaload, 1) := by decide +kernel
theorem dX2_votersLead_16 : decode cX2_votersLead 16 = .ok (.iconst (-1), 1) := by decide +kernel
theorem dX2_votersLead_17 : decode cX2_votersLead 17 = .ok (.if_icmp .eq 14, 3) := by decide +kernel
theorem dX2_votersLead_20 : decode cX2_votersLead 20 = .ok (.iload_n 1, 1) := by decide +kernel
theorem dX2_votersLead_21 : decode cX2_votersLead 21 = .ok (.iconst 1, 1) := by decide +kernel
theorem dX2_votersLead_22 : decode cX2_votersLead 22 = .ok (.aload_n 0, 1) := by decide +kernel
theorem dX2_votersLead_23 : decode cX2_votersLead 23 = .ok (.getfield 15, 3) := by decide +kernel
theorem dX2_votersLead_26 : decode cX2_votersLead 26 = .ok (.iload_n 2, 1) := by decide +kernel
theorem dX2_votersLead_27 : decode cX2_votersLead 27 = .ok (.iaload, 1) := by decide +kernel
theorem dX2_votersLead_28 : decode cX2_votersLead 28 = .ok (.ishl, 1) := by decide +kernel
theorem dX2_votersLead_29 : decode cX2_votersLead 29 = .ok (.ior, 1) := by decide +kernel
theorem dX2_votersLead_30 : decode cX2_votersLead 30 = .ok (.istore_n 1, 1) := by decide +kernel
theorem dX2_votersLead_31 : decode cX2_votersLead 31 = .ok (.iinc 2 1, 3) := by decide +kernel
theorem dX2_votersLead_34 : decode cX2_votersLead 34 = .ok (.goto (-30), 3) := by decide +kernel
theorem dX2_votersLead_37 : decode cX2_votersLead 37 = .ok (.iconst 0, 1) := by decide +kernel
theorem dX2_votersLead_38 : decode cX2_votersLead 38 = .ok (.istore_n 2, 1) := by decide +kernel
theorem dX2_votersLead_39 : decode cX2_votersLead 39 = .ok (.iconst 0, 1) := by decide +kernel
theorem dX2_votersLead_40 : decode cX2_votersLead 40 = .ok (.istore_n 3, 1) := by decide +kernel
theorem dX2_votersLead_41 : decode cX2_votersLead 41 = .ok (.iload_n 3, 1) := by decide +kernel
theorem dX2_votersLead_42 : decode cX2_votersLead 42 = .ok (.aload_n 0, 1) := by decide +kernel
theorem dX2_votersLead_43 : decode cX2_votersLead 43 = .ok (.getfield 37, 3) := by decide +kernel
theorem dX2_votersLead_46 : decode cX2_votersLead 46 = .ok (.getfield 73, 3) := by decide +kernel
theorem dX2_votersLead_49 : decode cX2_votersLead 49 = .ok (.getfield 79, 3) := by decide +kernel
theorem dX2_votersLead_52 : decode cX2_votersLead 52 = .ok (.if_icmp .ge 36, 3) := by decide +kernel
theorem dX2_votersLead_55 : decode cX2_votersLead 55 = .ok (.iload_n 1, 1) := by decide +kernel
theorem dX2_votersLead_56 : decode cX2_votersLead 56 = .ok (.iload_n 3, 1) := by decide +kernel
theorem dX2_votersLead_57 : decode cX2_votersLead 57 = .ok (.ishr, 1) := by decide +kernel
theorem dX2_votersLead_58 : decode cX2_votersLead 58 = .ok (.iconst 1, 1) := by decide +kernel
theorem dX2_votersLead_59 : decode cX2_votersLead 59 = .ok (.iand, 1) := by decide +kernel
theorem dX2_votersLead_60 : decode cX2_votersLead 60 = .ok (.ifCond .eq 22, 3) := by decide +kernel
theorem dX2_votersLead_63 : decode cX2_votersLead 63 = .ok (.iload_n 2, 1) := by decide +kernel
theorem dX2_votersLead_64 : decode cX2_votersLead 64 = .ok (.aload_n 0, 1) := by decide +kernel
theorem dX2_votersLead_65 : decode cX2_votersLead 65 = .ok (.getfield 37, 3) := by decide +kernel
theorem dX2_votersLead_68 : decode cX2_votersLead 68 = .ok (.iload_n 3, 1) := by decide +kernel
theorem dX2_votersLead_69 : decode cX2_votersLead 69 = .ok (.invokevirtual 100, 3) := by decide +kernel
theorem dX2_votersLead_72 : decode cX2_votersLead 72 = .ok (.ifCond .ne 7, 3) := by decide +kernel
theorem dX2_votersLead_75 : decode cX2_votersLead 75 = .ok (.iconst 1, 1) := by decide +kernel
theorem dX2_votersLead_76 : decode cX2_votersLead 76 = .ok (.goto 4, 3) := by decide +kernel
theorem dX2_votersLead_79 : decode cX2_votersLead 79 = .ok (.iconst (-1), 1) := by decide +kernel
theorem dX2_votersLead_80 : decode cX2_votersLead 80 = .ok (.iadd, 1) := by decide +kernel
theorem dX2_votersLead_81 : decode cX2_votersLead 81 = .ok (.istore_n 2, 1) := by decide +kernel
theorem dX2_votersLead_82 : decode cX2_votersLead 82 = .ok (.iinc 3 1, 3) := by decide +kernel
theorem dX2_votersLead_85 : decode cX2_votersLead 85 = .ok (.goto (-44), 3) := by decide +kernel
theorem dX2_votersLead_88 : decode cX2_votersLead 88 = .ok (.iload_n 2, 1) := by decide +kernel
theorem dX2_votersLead_89 : decode cX2_votersLead 89 = .ok (.ireturn, 1) := by decide +kernel
theorem dX3_init_0 : decode cX3_init 0 = .ok (.aload_n 0, 1) := by decide +kernel
theorem dX3_init_1 : decode cX3_init 1 = .ok (.invokespecial 3, 3) := by decide +kernel
theorem dX3_init_4 : decode cX3_init 4 = .ok (.aload_n 0, 1) := by decide +kernel
theorem dX3_init_5 : decode cX3_init 5 = .ok (.new 9, 3) := by decide +kernel
theorem dX3_init_8 : decode cX3_init 8 = .ok (.dup, 1) := by decide +kernel
theorem dX3_init_9 : decode cX3_init 9 = .ok (.bipush 16, 2) := by decide +kernel
theorem dX3_init_11 : decode cX3_init 11 = .ok (.bipush 8, 2) := by decide +kernel
theorem dX3_init_13 : decode cX3_init 13 = .ok (.iconst 1, 1) := by decide +kernel
theorem dX3_init_14 : decode cX3_init 14 = .ok (.invokespecial 11, 3) := by decide +kernel
theorem dX3_init_17 : decode cX3_init 17 = .ok (.putfield 14, 3) := by decide +kernel
theorem dX3_init_20 : decode cX3_init 20 = .ok (.aload_n 0, 1) := by decide +kernel
theorem dX3_init_21 : decode cX3_init 21 = .ok (.new 9, 3) := by decide +kernel
theorem dX3_init_24 : decode cX3_init 24 = .ok (.dup, 1) := by decide +kernel
theorem dX3_init_25 : decode cX3_init 25 = .ok (.bipush 20, 2) := by decide +kernel
theorem dX3_init_27 : decode cX3_init 27 = .ok (.bipush 9, 2) := by decide +kernel
theorem dX3_init_29 : decode cX3_init 29 = .ok (.iconst 0, 1) := by decide +kernel
theorem dX3_init_30 : decode cX3_init 30 = .ok (.invokespecial 11, 3) := by decide +kernel
theorem dX3_init_33 : decode cX3_init 33 = .ok (.putfield 20, 3) := by decide +kernel
theorem dX3_init_36 : decode cX3_init 36 = .ok (.aload_n 0, 1) := by decide +kernel
theorem dX3_init_37 : decode cX3_init 37 = .ok (.bipush 25, 2) := by decide +kernel
theorem dX3_init_39 : decode cX3_init 39 = .ok (.newarray .int, 2) := by decide +kernel
theorem dX3_init_41 : decode cX3_init 41 = .ok (.putfield 23, 3) := by decide +kernel
theorem dX3_init_44 : decode cX3_init 44 = .ok (.aload_n 0, 1) := by decide +kernel
theorem dX3_init_45 : decode cX3_init 45 = .ok (.bipush 8, 2) := by decide +kernel
theorem dX3_init_47 : decode cX3_init 47 = .ok (.newarray .int, 2) := by decide +kernel
theorem dX3_init_49 : decode cX3_init 49 = .ok (.putfield 27, 3) := by decide +kernel
theorem dX3_init_52 : decode cX3_init 52 = .ok (.aload_n 0, 1) := by decide +kernel
theorem dX3_init_53 : decode cX3_init 53 = .ok (.bipush 12, 2) := by decide +kernel
theorem dX3_init_55 : decode cX3_init 55 = .ok (.putfield 30, 3) := by decide +kernel
theorem dX3_init_58 : decode cX3_init 58 = .ok (.aload_n 0, 1) := by decide +kernel
theorem dX3_init_59 : decode cX3_init 59 = .ok (.bipush 99, 2) := by decide +kernel
theorem dX3_init_61 : decode cX3_init 61 = .ok (.putfield 34, 3) := by decide +kernel
theorem dX3_init_64 : decode cX3_init 64 = .ok (.aload_n 0, 1) := by decide +kernel
theorem dX3_init_65 : decode cX3_init 65 = .ok (.getfield 27, 3) := by decide +kernel
theorem dX3_init_68 : decode cX3_init 68 = .ok (.iconst 1, 1) := by decide +kernel
theorem dX3_init_69 : decode cX3_init 69 = .ok (.invokestatic 37, 3) := by decide +kernel
theorem dX3_init_72 : decode cX3_init 72 = .ok (.return_, 1) := by decide +kernel
theorem dX3_text_0 : decode cX3_text 0 = .ok (.iload_n 1, 1) := by decide +kernel
theorem dX3_text_1 : decode cX3_text 1 = .ok (.ifCond .ne 10, 3) := by decide +kernel
theorem dX3_text_4 : decode cX3_text 4 = .ok (.aload_n 0, 1) := by decide +kernel
theorem dX3_text_5 : decode cX3_text 5 = .ok (.getfield 14, 3) := by decide +kernel
theorem dX3_text_8 : decode cX3_text 8 = .ok (.goto 7, 3) := by decide +kernel
theorem dX3_text_11 : decode cX3_text 11 = .ok (.aload_n 0, 1) := by decide +kernel
theorem dX3_text_12 : decode cX3_text 12 = .ok (.getfield 20, 3) := by decide +kernel
theorem dX3_text_15 : decode cX3_text 15 = .ok (.areturn, 1) := by decide +kernel
theorem dX3_strength_0 : decode cX3_strength 0 = .ok (.aload_n 0, 1) := by decide +kernel
theorem dX3_strength_1 : decode cX3_strength 1 = .ok (.getfield 14, 3) := by decide +kernel
theorem dX3_strength_4 : decode cX3_strength 4 = .ok (.getfield 43, 3) := by decide +kernel
theorem dX3_strength_7 : decode cX3_strength 7 = .ok (.iload_n 1, 1) := by decide +kernel
theorem dX3_strength_8 : decode cX3_strength 8 = .ok (.iaload, 1) := by decide +kernel
theorem dX3_strength_9 : decode cX3_strength 9 = .ok (.ireturn, 1) := by decide +kernel
theorem dX3_sideOf_0 : decode cX3_sideOf 0 = .ok (.aload_n 0, 1) := by decide +kernel
theorem dX3_sideOf_1 : decode cX3_sideOf 1 = .ok (.getfield 14, 3) := by decide +kernel
theorem dX3_sideOf_4 : decode cX3_sideOf 4 = .ok (.getfield 46, 3) := by decide +kernel
theorem dX3_sideOf_7 : decode cX3_sideOf 7 = .ok (.iload_n 1, 1) := by decide +kernel
theorem dX3_sideOf_8 : decode cX3_sideOf 8 = .ok (.iaload, 1) := by decide +kernel
theorem dX3_sideOf_9 : decode cX3_sideOf 9 = .ok (.ireturn, 1) := by decide +kernel
theorem dX3_weight_0 : decode cX3_weight 0 = .ok (.aload_n 0, 1) := by decide +kernel
theorem dX3_weight_1 : decode cX3_weight 1 = .ok (.getfield 20, 3) := by decide +kernel
theorem dX3_weight_4 : decode cX3_weight 4 = .ok (.getfield 43, 3) := by decide +kernel
theorem dX3_weight_7 : decode cX3_weight 7 = .ok (.iload_n 1, 1) := by decide +kernel
theorem dX3_weight_8 : decode cX3_weight 8 = .ok (.iaload, 1) := by decide +kernel
theorem dX3_weight_9 : decode cX3_weight 9 = .ok (.ireturn, 1) := by decide +kernel
theorem dX3_way_0 : decode cX3_way 0 = .ok (.aload_n 0, 1) := by decide +kernel
theorem dX3_way_1 : decode cX3_way 1 = .ok (.getfield 20, 3) := by decide +kernel
theorem dX3_way_4 : decode cX3_way 4 = .ok (.getfield 46, 3) := by decide +kernel
theorem dX3_way_7 : decode cX3_way 7 = .ok (.iload_n 1, 1) := by decide +kernel
theorem dX3_way_8 : decode cX3_way 8 = .ok (.iaload, 1) := by decide +kernel
theorem dX3_way_9 : decode cX3_way 9 = .ok (.ireturn, 1) := by decide +kernel
theorem dX3_weightOf_0 : decode cX3_weightOf 0 = .ok (.iconst 0, 1) := by decide +kernel
theorem dX3_weightOf_1 : decode cX3_weightOf 1 = .ok (.istore_n 2, 1) := by decide +kernel
theorem dX3_weightOf_2 : decode cX3_weightOf 2 = .ok (.iconst 0, 1) := by decide +kernel
theorem dX3_weightOf_3 : decode cX3_weightOf 3 = .ok (.istore_n 3, 1) := by decide +kernel
theorem dX3_weightOf_4 : decode cX3_weightOf 4 = .ok (.iload_n 3, 1) := by decide +kernel
theorem dX3_weightOf_5 : decode cX3_weightOf 5 = .ok (.aload_n 0, 1) := by decide +kernel
theorem dX3_weightOf_6 : decode cX3_weightOf 6 = .ok (.getfield 20, 3) := by decide +kernel
theorem dX3_weightOf_9 : decode cX3_weightOf 9 = .ok (.getfield 49, 3) := by decide +kernel
theorem dX3_weightOf_12 : decode cX3_weightOf 12 = .ok (.if_icmp .ge 25, 3) := by decide +kernel
theorem dX3_weightOf_15 : decode cX3_weightOf 15 = .ok (.iload_n 1, 1) := by decide +kernel
theorem dX3_weightOf_16 : decode cX3_weightOf 16 = .ok (.iload_n 3, 1) := by decide +kernel
theorem dX3_weightOf_17 : decode cX3_weightOf 17 = .ok (.ishr, 1) := by decide +kernel
theorem dX3_weightOf_18 : decode cX3_weightOf 18 = .ok (.iconst 1, 1) := by decide +kernel
theorem dX3_weightOf_19 : decode cX3_weightOf 19 = .ok (.iand, 1) := by decide +kernel
theorem dX3_weightOf_20 : decode cX3_weightOf 20 = .ok (.ifCond .eq 11, 3) := by decide +kernel
theorem dX3_weightOf_23 : decode cX3_weightOf 23 = .ok (.iload_n 2, 1) := by decide +kernel
theorem dX3_weightOf_24 : decode cX3_weightOf 24 = .ok (.aload_n 0, 1) := by decide +kernel
theorem dX3_weightOf_25 : decode cX3_weightOf 25 = .ok (.iload_n 3, 1) := by decide +kernel
theorem dX3_weightOf_26 : decode cX3_weightOf 26 = .ok (.invokevirtual 52, 3) := by decide +kernel
theorem dX3_weightOf_29 : decode cX3_weightOf 29 = .ok (.iadd, 1) := by decide +kernel
theorem dX3_weightOf_30 : decode cX3_weightOf 30 = .ok (.istore_n 2, 1) := by decide +kernel
theorem dX3_weightOf_31 : decode cX3_weightOf 31 = .ok (.iinc 3 1, 3) := by decide +kernel
theorem dX3_weightOf_34 : decode cX3_weightOf 34 = .ok (.goto (-30), 3) := by decide +kernel
theorem dX3_weightOf_37 : decode cX3_weightOf 37 = .ok (.iload_n 2, 1) := by decide +kernel
theorem dX3_weightOf_38 : decode cX3_weightOf 38 = .ok (.ireturn, 1) := by decide +kernel
theorem dX3_strongest_0 : decode cX3_strongest 0 = .ok (.iconst 0, 1) := by decide +kernel
theorem dX3_strongest_1 : decode cX3_strongest 1 = .ok (.istore_n 2, 1) := by decide +kernel
theorem dX3_strongest_2 : decode cX3_strongest 2 = .ok (.iconst 0, 1) := by decide +kernel
theorem dX3_strongest_3 : decode cX3_strongest 3 = .ok (.istore_n 3, 1) := by decide +kernel
theorem dX3_strongest_4 : decode cX3_strongest 4 = .ok (.iload_n 3, 1) := by decide +kernel
theorem dX3_strongest_5 : decode cX3_strongest 5 = .ok (.aload_n 0, 1) := by decide +kernel
theorem dX3_strongest_6 : decode cX3_strongest 6 = .ok (.getfield 14, 3) := by decide +kernel
theorem dX3_strongest_9 : decode cX3_strongest 9 = .ok (.getfield 49, 3) := by decide +kernel
theorem dX3_strongest_12 : decode cX3_strongest 12 = .ok (.if_icmp .ge 28, 3) := by decide +kernel
theorem dX3_strongest_15 : decode cX3_strongest 15 = .ok (.aload_n 0, 1) := by decide +kernel
theorem dX3_strongest_16 : decode cX3_strongest 16 = .ok (.iload_n 3, 1) := by decide +kernel
theorem dX3_strongest_17 : decode cX3_strongest 17 = .ok (.invokevirtual 56, 3) := by decide +kernel
theorem dX3_strongest_20 : decode cX3_strongest 20 = .ok (.iload_n 1, 1) := by decide +kernel
theorem dX3_strongest_21 : decode cX3_strongest 21 = .ok (.if_icmp .ne 13, 3) := by decide +kernel
theorem dX3_strongest_24 : decode cX3_strongest 24 = .ok (.iload_n 2, 1) := by decide +kernel
theorem dX3_strongest_25 : decode cX3_strongest 25 = .ok (.aload_n 0, 1) := by decide +kernel
theorem dX3_strongest_26 : decode cX3_strongest 26 = .ok (.iload_n 3, 1) := by decide +kernel
theorem dX3_strongest_27 : decode cX3_strongest 27 = .ok (.invokevirtual 59, 3) := by decide +kernel
theorem dX3_strongest_30 : decode cX3_strongest 30 = .ok (.invokestatic 62, 3) := by decide +kernel
theorem dX3_strongest_33 : decode cX3_strongest 33 = .ok (.istore_n 2, 1) := by decide +kernel
theorem dX3_strongest_34 : decode cX3_strongest 34 = .ok (.iinc 3 1, 3) := by decide +kernel
theorem dX3_strongest_37 : decode cX3_strongest 37 = .ok (.goto (-33), 3) := by decide +kernel
theorem dX3_strongest_40 : decode cX3_strongest 40 = .ok (.iload_n 2, 1) := by decide +kernel
theorem dX3_strongest_41 : decode cX3_strongest 41 = .ok (.ireturn, 1) := by decide +kernel
theorem dX4_init_0 : decode cX4_init 0 = .ok (.aload_n 0, 1) := by decide +kernel
theorem dX4_init_1 : decode cX4_init 1 = .ok (.invokespecial 3, 3) := by decide +kernel
theorem dX4_init_4 : decode cX4_init 4 = .ok (.aload_n 0, 1) := by decide +kernel
theorem dX4_init_5 : decode cX4_init 5 = .ok (.bipush 8, 2) := by decide +kernel
theorem dX4_init_7 : decode cX4_init 7 = .ok (.newarray .int, 2) := by decide +kernel
theorem dX4_init_9 : decode cX4_init 9 = .ok (.putfield 9, 3) := by decide +kernel
theorem dX4_init_12 : decode cX4_init 12 = .ok (.aload_n 0, 1) := by decide +kernel
theorem dX4_init_13 : decode cX4_init 13 = .ok (.iconst 0, 1) := by decide +kernel
theorem dX4_init_14 : decode cX4_init 14 = .ok (.putfield 15, 3) := by decide +kernel
theorem dX4_init_17 : decode cX4_init 17 = .ok (.aload_n 0, 1) := by decide +kernel
theorem dX4_init_18 : decode cX4_init 18 = .ok (.sipush 512, 3) := by decide +kernel
theorem dX4_init_21 : decode cX4_init 21 = .ok (.newarray .int, 2) := by decide +kernel
theorem dX4_init_23 : decode cX4_init 23 = .ok (.putfield 19, 3) := by decide +kernel
theorem dX4_init_26 : decode cX4_init 26 = .ok (.aload_n 0, 1) := by decide +kernel
theorem dX4_init_27 : decode cX4_init 27 = .ok (.aload_n 1, 1) := by decide +kernel
theorem dX4_init_28 : decode cX4_init 28 = .ok (.putfield 22, 3) := by decide +kernel
theorem dX4_init_31 : decode cX4_init 31 = .ok (.return_, 1) := by decide +kernel
theorem dX4_mostWeight_0 : decode cX4_mostWeight 0 = .ok (.aload_n 0, 1) := by decide +kernel
theorem dX4_mostWeight_1 : decode cX4_mostWeight 1 = .ok (.iload_n 1, 1) := by decide +kernel
theorem dX4_mostWeight_2 : decode cX4_mostWeight 2 = .ok (.iload_n 2, 1) := by decide +kernel
theorem dX4_mostWeight_3 : decode cX4_mostWeight 3 = .ok (.invokevirtual 26, 3) := by decide +kernel
theorem dX4_mostWeight_6 : decode cX4_mostWeight 6 = .ok (.iconst 0, 1) := by decide +kernel
theorem dX4_mostWeight_7 : decode cX4_mostWeight 7 = .ok (.istore_n 3, 1) := by decide +kernel
theorem dX4_mostWeight_8 : decode cX4_mostWeight 8 = .ok (.aload_n 0, 1) := by decide +kernel
theorem dX4_mostWeight_9 : decode cX4_mostWeight 9 = .ok (.getfield 19, 3) := by decide +kernel
theorem dX4_mostWeight_12 : decode cX4_mostWeight 12 = .ok (.iconst 0, 1) := by decide +kernel
theorem dX4_mostWeight_13 : decode cX4_mostWeight 13 = .ok (.iconst 0, 1) := by decide +kernel
theorem dX4_mostWeight_14 : decode cX4_mostWeight 14 = .ok (.iastore, 1) := by decide +kernel
theorem dX4_mostWeight_15 : decode cX4_mostWeight 15 = .ok (.iconst 1, 1) := by decide +kernel
theorem dX4_mostWeight_16 : decode cX4_mostWeight 16 = .ok (.istore 4, 2) := by decide +kernel
theorem dX4_mostWeight_18 : decode cX4_mostWeight 18 = .ok (.iload 4, 2) := by decide +kernel
theorem dX4_mostWeight_20 : decode cX4_mostWeight 20 = .ok (.iconst 1, 1) := by decide +kernel
theorem dX4_mostWeight_21 : decode cX4_mostWeight 21 = .ok (.aload_n 0, 1) := by decide +kernel
theorem dX4_mostWeight_22 : decode cX4_mostWeight 22 = .ok (.getfield 22, 3) := by decide +kernel
theorem dX4_mostWeight_25 : decode cX4_mostWeight 25 = .ok (.getfield 30, 3) := by decide +kernel
theorem dX4_mostWeight_28 : decode cX4_mostWeight 28 = .ok (.getfield 36, 3) := by decide +kernel
theorem dX4_mostWeight_31 : decode cX4_mostWeight 31 = .ok (.ishl, 1) := by decide +kernel
theorem dX4_mostWeight_32 : decode cX4_mostWeight 32 = .ok (.if_icmp .ge 48, 3) := by decide +kernel
theorem dX4_mostWeight_35 : decode cX4_mostWeight 35 = .ok (.aload_n 0, 1) := by decide +kernel
theorem dX4_mostWeight_36 : decode cX4_mostWeight 36 = .ok (.getfield 19, 3) := by decide +kernel
theorem dX4_mostWeight_39 : decode cX4_mostWeight 39 = .ok (.iload 4, 2) := by decide +kernel
theorem dX4_mostWeight_41 : decode cX4_mostWeight 41 = .ok (.aload_n 0, 1) := by decide +kernel
theorem dX4_mostWeight_42 : decode cX4_mostWeight 42 = .ok (.iload 4, 2) := by decide +kernel
theorem dX4_mostWeight_44 : decode cX4_mostWeight 44 = .ok (.invokevirtual 39, 3) := by decide +kernel
theorem dX4_mostWeight_47 : decode cX4_mostWeight 47 = .ok (.iastore, 1) := by decide +kernel
theorem dX4_mostWeight_48 : decode cX4_mostWeight 48 = .ok (.aload_n 0, 1) := by decide +kernel
theorem dX4_mostWeight_49 : decode cX4_mostWeight 49 = .ok (.getfield 19, 3) := by decide +kernel
theorem dX4_mostWeight_52 : decode cX4_mostWeight 52 = .ok (.iload 4, 2) := by decide +kernel
theorem dX4_mostWeight_54 : decode cX4_mostWeight 54 = .ok (.iaload, 1) := by decide +kernel
theorem dX4_mostWeight_55 : decode cX4_mostWeight 55 = .ok (.ldc 43, 2) := by decide +kernel
theorem dX4_mostWeight_57 : decode cX4_mostWeight 57 = .ok (.if_icmp .ge 17, 3) := by decide +kernel
theorem dX4_mostWeight_60 : decode cX4_mostWeight 60 = .ok (.iload_n 3, 1) := by decide +kernel
theorem dX4_mostWeight_61 : decode cX4_mostWeight 61 = .ok (.aload_n 0, 1) := by decide +kernel
theorem dX4_mostWeight_62 : decode cX4_mostWeight 62 = .ok (.getfield 22, 3) := by decide +kernel
theorem dX4_mostWeight_65 : decode cX4_mostWeight 65 = .ok (.iload 4, 2) := by decide +kernel
theorem dX4_mostWeight_67 : decode cX4_mostWeight 67 = .ok (.invokevirtual 44, 3) := by decide +kernel
theorem dX4_mostWeight_70 : decode cX4_mostWeight 70 = .ok (.invokestatic 47, 3) := by decide +kernel
theorem dX4_mostWeight_73 : decode cX4_mostWeight 73 = .ok (.istore_n 3, 1) := by decide +kernel
theorem dX4_mostWeight_74 : decode cX4_mostWeight 74 = .ok (.iinc 4 1, 3) := by decide +kernel
theorem dX4_mostWeight_77 : decode cX4_mostWeight 77 = .ok (.goto (-59), 3) := by decide +kernel
theorem dX4_mostWeight_80 : decode cX4_mostWeight 80 = .ok (.iload_n 3, 1) := by decide +kernel
theorem dX4_mostWeight_81 : decode cX4_mostWeight 81 = .ok (.ireturn, 1) := by decide +kernel
theorem dX4_gather_0 : decode cX4_gather 0 = .ok (.aload_n 0, 1) := by decide +kernel
theorem dX4_gather_1 : decode cX4_gather 1 = .ok (.iconst 0, 1) := by decide +kernel
theorem dX4_gather_2 : decode cX4_gather 2 = .ok (.putfield 15, 3) := by decide +kernel
theorem dX4_gather_5 : decode cX4_gather 5 = .ok (.iconst 0, 1) := by decide +kernel
theorem dX4_gather_6 : decode cX4_gather 6 = .ok (.istore_n 3, 1) := by decide +kernel
theorem dX4_gather_7 : decode cX4_gather 7 = .ok (.iload_n 3, 1) := by decide +kernel
theorem dX4_gather_8 : decode cX4_gather 8 = .ok (.aload_n 0, 1) := by decide +kernel
theorem dX4_gather_9 : decode cX4_gather 9 = .ok (.getfield 22, 3) := by decide +kernel
theorem dX4_gather_12 : decode cX4_gather 12 = .ok (.getfield 53, 3) := by decide +kernel
theorem dX4_gather_15 : decode cX4_gather 15 = .ok (.getfield 36, 3) := by decide +kernel
theorem dX4_gather_18 : decode cX4_gather 18 = .ok (.if_icmp .ge 53, 3) := by decide +kernel
theorem dX4_gather_21 : decode cX4_gather 21 = .ok (.iload_n 3, 1) := by decide +kernel
theorem dX4_gather_22 : decode cX4_gather 22 = .ok (.iload_n 2, 1) := by decide +kernel
theorem dX4_gather_23 : decode cX4_gather 23 = .ok (.if_icmp .eq 42, 3) := by decide +kernel
theorem dX4_gather_26 : decode cX4_gather 26 = .ok (.aload_n 0, 1) := by decide +kernel
theorem dX4_gather_27 : decode cX4_gather 27 = .ok (.getfield 22, 3) := by decide +kernel
theorem dX4_gather_30 : decode cX4_gather 30 = .ok (.iload_n 3, 1) := by decide +kernel
theorem dX4_gather_31 : decode cX4_gather 31 = .ok (.invokevirtual 56, 3) := by decide +kernel
theorem dX4_gather_34 : decode cX4_gather 34 = .ok (.iload_n 1, 1) := by decide +kernel
theorem dX4_gather_35 : decode cX4_gather 35 = .ok (.if_icmp .ne 30, 3) := by decide +kernel
theorem dX4_gather_38 : decode cX4_gather 38 = .ok (.aload_n 0, 1) := by decide +kernel
theorem dX4_gather_39 : decode cX4_gather 39 = .ok (.getfield 9, 3) := by decide +kernel
theorem dX4_gather_42 : decode cX4_gather 42 = .ok (.aload_n 0, 1) := by decide +kernel
theorem dX4_gather_43 : decode cX4_gather 43 = .ok (.getfield 15, 3) := by decide +kernel
theorem dX4_gather_46 : decode cX4_gather 46 = .ok (.aload_n 0, 1) := by decide +kernel
theorem dX4_gather_47 : decode cX4_gather 47 = .ok (.getfield 22, 3) := by decide +kernel
theorem dX4_gather_50 : decode cX4_gather 50 = .ok (.iload_n 3, 1) := by decide +kernel
theorem dX4_gather_51 : decode cX4_gather 51 = .ok (.invokevirtual 59, 3) := by decide +kernel
theorem dX4_gather_54 : decode cX4_gather 54 = .ok (.iastore, 1) := by decide +kernel
theorem dX4_gather_55 : decode cX4_gather 55 = .ok (.aload_n 0, 1) := by decide +kernel
theorem dX4_gather_56 : decode cX4_gather 56 = .ok (.dup, 1) := by decide +kernel
theorem dX4_gather_57 : decode cX4_gather 57 = .ok (.getfield 15, 3) := by decide +kernel
theorem dX4_gather_60 : decode cX4_gather 60 = .ok (.iconst 1, 1) := by decide +kernel
theorem dX4_gather_61 : decode cX4_gather 61 = .ok (.iadd, 1) := by decide +kernel
theorem dX4_gather_62 : decode cX4_gather 62 = .ok (.putfield 15, 3) := by decide +kernel
theorem dX4_gather_65 : decode cX4_gather 65 = .ok (.iinc 3 1, 3) := by decide +kernel
theorem dX4_gather_68 : decode cX4_gather 68 = .ok (.goto (-61), 3) := by decide +kernel
theorem dX4_gather_71 : decode cX4_gather 71 = .ok (.return_, 1) := by decide +kernel
theorem dX4_leastFor_0 : decode cX4_leastFor 0 = .ok (.ldc 43, 2) := by decide +kernel
theorem dX4_leastFor_2 : decode cX4_leastFor 2 = .ok (.istore_n 2, 1) := by decide +kernel
theorem dX4_leastFor_3 : decode cX4_leastFor 3 = .ok (.iconst 0, 1) := by decide +kernel
theorem dX4_leastFor_4 : decode cX4_leastFor 4 = .ok (.istore_n 3, 1) := by decide +kernel
theorem dX4_leastFor_5 : decode cX4_leastFor 5 = .ok (.iload_n 3, 1) := by decide +kernel
theorem dX4_leastFor_6 : decode cX4_leastFor 6 = .ok (.aload_n 0, 1) := by decide +kernel
theorem dX4_leastFor_7 : decode cX4_leastFor 7 = .ok (.getfield 22, 3) := by decide +kernel
theorem dX4_leastFor_10 : decode cX4_leastFor 10 = .ok (.getfield 30, 3) := by decide +kernel
theorem dX4_leastFor_13 : decode cX4_leastFor 13 = .ok (.getfield 36, 3) := by decide +kernel
theorem dX4_leastFor_16 : decode cX4_leastFor 16 = .ok (.if_icmp .ge 39, 3) := by decide +kernel
theorem dX4_leastFor_19 : decode cX4_leastFor 19 = .ok (.iload_n 1, 1) := by decide +kernel
theorem dX4_leastFor_20 : decode cX4_leastFor 20 = .ok (.iload_n 3, 1) := by decide +kernel
theorem dX4_leastFor_21 : decode cX4_leastFor 21 = .ok (.ishr, 1) := by decide +kernel
theorem dX4_leastFor_22 : decode cX4_leastFor 22 = .ok (.iconst 1, 1) := by decide +kernel
theorem dX4_leastFor_23 : decode cX4_leastFor 23 = .ok (.iand, 1) := by decide +kernel
theorem dX4_leastFor_24 : decode cX4_leastFor 24 = .ok (.ifCond .eq 25, 3) := by decide +kernel
theorem dX4_leastFor_27 : decode cX4_leastFor 27 = .ok (.iload_n 2, 1) := by decide +kernel
theorem dX4_leastFor_28 : decode cX4_leastFor 28 = .ok (.aload_n 0, 1) := by decide +kernel
theorem dX4_leastFor_29 : decode cX4_leastFor 29 = .ok (.aload_n 0, 1) := by decide +kernel
theorem dX4_leastFor_30 : decode cX4_leastFor 30 = .ok (.getfield 19, 3) := by decide +kernel
theorem dX4_leastFor_33 : decode cX4_leastFor 33 = .ok (.iload_n 1, 1) := by decide +kernel
theorem dX4_leastFor_34 : decode cX4_leastFor 34 = .ok (.iconst 1, 1) := by decide +kernel
theorem dX4_leastFor_35 : decode cX4_leastFor 35 = .ok (.iload_n 3, 1) := by decide +kernel
theorem dX4_leastFor_36 : decode cX4_leastFor 36 = .ok (.ishl, 1) := by decide +kernel
theorem dX4_leastFor_37 : decode cX4_leastFor 37 = .ok (.iconst (-1), 1) := by decide +kernel
theorem dX4_leastFor_38 : decode cX4_leastFor 38 = .ok (.ixor, 1) := by decide +kernel
theorem dX4_leastFor_39 : decode cX4_leastFor 39 = .ok (.iand, 1) := by decide +kernel
theorem dX4_leastFor_40 : decode cX4_leastFor 40 = .ok (.iaload, 1) := by decide +kernel
theorem dX4_leastFor_41 : decode cX4_leastFor 41 = .ok (.iload_n 3, 1) := by decide +kernel
theorem dX4_leastFor_42 : decode cX4_leastFor 42 = .ok (.invokevirtual 62, 3) := by decide +kernel
theorem dX4_leastFor_45 : decode cX4_leastFor 45 = .ok (.invokestatic 65, 3) := by decide +kernel
theorem dX4_leastFor_48 : decode cX4_leastFor 48 = .ok (.istore_n 2, 1) := by decide +kernel
theorem dX4_leastFor_49 : decode cX4_leastFor 49 = .ok (.iinc 3 1, 3) := by decide +kernel
theorem dX4_leastFor_52 : decode cX4_leastFor 52 = .ok (.goto (-47), 3) := by decide +kernel
theorem dX4_leastFor_55 : decode cX4_leastFor 55 = .ok (.iload_n 2, 1) := by decide +kernel
theorem dX4_leastFor_56 : decode cX4_leastFor 56 = .ok (.ireturn, 1) := by decide +kernel
theorem dX4_after_0 : decode cX4_after 0 = .ok (.iload_n 1, 1) := by decide +kernel
theorem dX4_after_1 : decode cX4_after 1 = .ok (.ldc 43, 2) := by decide +kernel
theorem dX4_after_3 : decode cX4_after 3 = .ok (.if_icmp .lt 6, 3) := by decide +kernel
theorem dX4_after_6 : decode cX4_after 6 = .ok (.ldc 43, 2) := by decide +kernel
theorem dX4_after_8 : decode cX4_after 8 = .ok (.ireturn, 1) := by decide +kernel
theorem dX4_after_9 : decode cX4_after 9 = .ok (.aload_n 0, 1) := by decide +kernel
theorem dX4_after_10 : decode cX4_after 10 = .ok (.getfield 22, 3) := by decide +kernel
theorem dX4_after_13 : decode cX4_after 13 = .ok (.iload_n 2, 1) := by decide +kernel
theorem dX4_after_14 : decode cX4_after 14 = .ok (.invokevirtual 68, 3) := by decide +kernel
theorem dX4_after_17 : decode cX4_after 17 = .ok (.istore_n 3, 1) := by decide +kernel
theorem dX4_after_18 : decode cX4_after 18 = .ok (.aload_n 0, 1) := by decide +kernel
theorem dX4_after_19 : decode cX4_after 19 = .ok (.getfield 22, 3) := by decide +kernel
theorem dX4_after_22 : decode cX4_after 22 = .ok (.iload_n 2, 1) := by decide +kernel
theorem dX4_after_23 : decode cX4_after 23 = .ok (.invokevirtual 71, 3) := by decide +kernel
theorem dX4_after_26 : decode cX4_after 26 = .ok (.iconst 1, 1) := by decide +kernel
theorem dX4_after_27 : decode cX4_after 27 = .ok (.iadd, 1) := by decide +kernel
theorem dX4_after_28 : decode cX4_after 28 = .ok (.istore 4, 2) := by decide +kernel
theorem dX4_after_30 : decode cX4_after 30 = .ok (.iload_n 1, 1) := by decide +kernel
theorem dX4_after_31 : decode cX4_after 31 = .ok (.bipush 32, 2) := by decide +kernel
theorem dX4_after_33 : decode cX4_after 33 = .ok (.idiv, 1) := by decide +kernel
theorem dX4_after_34 : decode cX4_after 34 = .ok (.istore 5, 2) := by decide +kernel
theorem dX4_after_36 : decode cX4_after 36 = .ok (.iload 5, 2) := by decide +kernel
theorem dX4_after_38 : decode cX4_after 38 = .ok (.istore 6, 2) := by decide +kernel
theorem dX4_after_40 : decode cX4_after 40 = .ok (.iload 6, 2) := by decide +kernel
theorem dX4_after_42 : decode cX4_after 42 = .ok (.aload_n 0, 1) := by decide +kernel
theorem dX4_after_43 : decode cX4_after 43 = .ok (.getfield 15, 3) := by decide +kernel
theorem dX4_after_46 : decode cX4_after 46 = .ok (.if_icmp .ge 61, 3) := by decide +kernel
theorem dX4_after_49 : decode cX4_after 49 = .ok (.iload 6, 2) := by decide +kernel
theorem dX4_after_51 : decode cX4_after 51 = .ok (.iload 5, 2) := by decide +kernel
theorem dX4_after_53 : decode cX4_after 53 = .ok (.if_icmp .ne 10, 3) := by decide +kernel
theorem dX4_after_56 : decode cX4_after 56 = .ok (.iload_n 1, 1) := by decide +kernel
theorem dX4_after_57 : decode cX4_after 57 = .ok (.bipush 32, 2) := by decide +kernel
theorem dX4_after_59 : decode cX4_after 59 = .ok (.irem, 1) := by decide +kernel
theorem dX4_after_60 : decode cX4_after 60 = .ok (.goto 4, 3) := by decide +kernel
theorem dX4_after_63 : decode cX4_after 63 = .ok (.iconst 0, 1) := by decide +kernel
theorem dX4_after_64 : decode cX4_after 64 = .ok (.iload 4, 2) := by decide +kernel
theorem dX4_after_66 : decode cX4_after 66 = .ok (.iadd, 1) := by decide +kernel
theorem dX4_after_67 : decode cX4_after 67 = .ok (.istore 7, 2) := by decide +kernel
theorem dX4_after_69 : decode cX4_after 69 = .ok (.iload_n 3, 1) := by decide +kernel
theorem dX4_after_70 : decode cX4_after 70 = .ok (.aload_n 0, 1) := by decide +kernel
theorem dX4_after_71 : decode cX4_after 71 = .ok (.getfield 9, 3) := by decide +kernel
theorem dX4_after_74 : decode cX4_after 74 = .ok (.iload 6, 2) := by decide +kernel
theorem dX4_after_76 : decode cX4_after 76 = .ok (.iaload, 1) := by decide +kernel
theorem dX4_after_77 : decode cX4_after 77 = .ok (.if_icmp .gt 24, 3) := by decide +kernel
theorem dX4_after_80 : decode cX4_after 80 = .ok (.iload 7, 2) := by decide +kernel
theorem dX4_after_82 : decode cX4_after 82 = .ok (.aload_n 0, 1) := by decide +kernel
theorem dX4_after_83 : decode cX4_after 83 = .ok (.getfield 22, 3) := by decide +kernel
theorem dX4_after_86 : decode cX4_after 86 = .ok (.getfield 74, 3) := by decide +kernel
theorem dX4_after_89 : decode cX4_after 89 = .ok (.if_icmp .gt 12, 3) := by decide +kernel
theorem dX4_after_92 : decode cX4_after 92 = .ok (.iload 6, 2) := by decide +kernel
theorem dX4_after_94 : decode cX4_after 94 = .ok (.bipush 32, 2) := by decide +kernel
theorem dX4_after_96 : decode cX4_after 96 = .ok (.imul, 1) := by decide +kernel
theorem dX4_after_97 : decode cX4_after 97 = .ok (.iload 7, 2) := by decide +kernel
theorem dX4_after_99 : decode cX4_after 99 = .ok (.iadd, 1) := by decide +kernel
theorem dX4_after_100 : decode cX4_after 100 = .ok (.ireturn, 1) := by decide +kernel
theorem dX4_after_101 : decode cX4_after 101 = .ok (.iinc 6 1, 3) := by decide +kernel
theorem dX4_after_104 : decode cX4_after 104 = .ok (.goto (-64), 3) := by decide +kernel
theorem dX4_after_107 : decode cX4_after 107 = .ok (.ldc 43, 2) := by decide +kernel
theorem dX4_after_109 : decode cX4_after 109 = .ok (.ireturn, 1) := by decide +kernel
theorem dX5_init_0 : decode cX5_init 0 = .ok (.aload_n 0, 1) := by decide +kernel
theorem dX5_init_1 : decode cX5_init 1 = .ok (.invokespecial 3, 3) := by decide +kernel
theorem dX5_init_4 : decode cX5_init 4 = .ok (.aload_n 0, 1) := by decide +kernel
theorem dX5_init_5 : decode cX5_init 5 = .ok (.bipush 60, 2) := by decide +kernel
theorem dX5_init_7 : decode cX5_init 7 = .ok (.newarray .int, 2) := by decide +kernel
theorem dX5_init_9 : decode cX5_init 9 = .ok (.putfield 9, 3) := by decide +kernel
theorem dX5_init_12 : decode cX5_init 12 = .ok (.aload_n 0, 1) := by decide +kernel
theorem dX5_init_13 : decode cX5_init 13 = .ok (.iconst 0, 1) := by decide +kernel
theorem dX5_init_14 : decode cX5_init 14 = .ok (.putfield 15, 3) := by decide +kernel
theorem dX5_init_17 : decode cX5_init 17 = .ok (.aload_n 0, 1) := by decide +kernel
theorem dX5_init_18 : decode cX5_init 18 = .ok (.iconst (-1), 1) := by decide +kernel
theorem dX5_init_19 : decode cX5_init 19 = .ok (.putfield 19, 3) := by decide +kernel
theorem dX5_init_22 : decode cX5_init 22 = .ok (.return_, 1) := by decide +kernel
theorem dX5_isLost_0 : decode cX5_isLost 0 = .ok (.aload_n 0, 1) := by decide +kernel
theorem dX5_isLost_1 : decode cX5_isLost 1 = .ok (.getfield 19, 3) := by decide +kernel
theorem dX5_isLost_4 : decode cX5_isLost 4 = .ok (.iconst (-1), 1) := by decide +kernel
theorem dX5_isLost_5 : decode cX5_isLost 5 = .ok (.if_icmp .ne 7, 3) := by decide +kernel
theorem dX5_isLost_8 : decode cX5_isLost 8 = .ok (.iconst 1, 1) := by decide +kernel
theorem dX5_isLost_9 : decode cX5_isLost 9 = .ok (.goto 4, 3) := by decide +kernel
theorem dX5_isLost_12 : decode cX5_isLost 12 = .ok (.iconst 0, 1) := by decide +kernel
theorem dX5_isLost_13 : decode cX5_isLost 13 = .ok (.ireturn, 1) := by decide +kernel
theorem dX5_renew_0 : decode cX5_renew 0 = .ok (.aload_n 0, 1) := by decide +kernel
theorem dX5_renew_1 : decode cX5_renew 1 = .ok (.iload_n 1, 1) := by decide +kernel
theorem dX5_renew_2 : decode cX5_renew 2 = .ok (.putfield 15, 3) := by decide +kernel
theorem dX5_renew_5 : decode cX5_renew 5 = .ok (.aload_n 0, 1) := by decide +kernel
theorem dX5_renew_6 : decode cX5_renew 6 = .ok (.iload_n 2, 1) := by decide +kernel
theorem dX5_renew_7 : decode cX5_renew 7 = .ok (.putfield 19, 3) := by decide +kernel
theorem dX5_renew_10 : decode cX5_renew 10 = .ok (.aload_n 0, 1) := by decide +kernel
theorem dX5_renew_11 : decode cX5_renew 11 = .ok (.getfield 9, 3) := by decide +kernel
theorem dX5_renew_14 : decode cX5_renew 14 = .ok (.iconst 0, 1) := by decide +kernel
theorem dX5_renew_15 : decode cX5_renew 15 = .ok (.invokestatic 22, 3) := by decide +kernel
theorem dX5_renew_18 : decode cX5_renew 18 = .ok (.return_, 1) := by decide +kernel
theorem dX5_put_0 : decode cX5_put 0 = .ok (.aload_n 0, 1) := by decide +kernel
theorem dX5_put_1 : decode cX5_put 1 = .ok (.getfield 15, 3) := by decide +kernel
theorem dX5_put_4 : decode cX5_put 4 = .ok (.ifCond .ne 14, 3) := by decide +kernel
theorem dX5_put_7 : decode cX5_put 7 = .ok (.aload_n 0, 1) := by decide +kernel
theorem dX5_put_8 : decode cX5_put 8 = .ok (.getfield 9, 3) := by decide +kernel
theorem dX5_put_11 : decode cX5_put 11 = .ok (.iload_n 1, 1) := by decide +kernel
theorem dX5_put_12 : decode cX5_put 12 = .ok (.iload_n 2, 1) := by decide +kernel
theorem dX5_put_13 : decode cX5_put 13 = .ok (.i2b, 1) := by decide +kernel
theorem dX5_put_14 : decode cX5_put 14 = .ok (.iastore, 1) := by decide +kernel
theorem dX5_put_15 : decode cX5_put 15 = .ok (.goto 29, 3) := by decide +kernel
theorem dX5_put_18 : decode cX5_put 18 = .ok (.aload_n 0, 1) := by decide +kernel
theorem dX5_put_19 : decode cX5_put 19 = .ok (.getfield 15, 3) := by decide +kernel
theorem dX5_put_22 : decode cX5_put 22 = .ok (.iconst 1, 1) := by decide +kernel
theorem dX5_put_23 : decode cX5_put 23 = .ok (.if_icmp .ne 14, 3) := by decide +kernel
theorem dX5_put_26 : decode cX5_put 26 = .ok (.aload_n 0, 1) := by decide +kernel
theorem dX5_put_27 : decode cX5_put 27 = .ok (.getfield 9, 3) := by decide +kernel
theorem dX5_put_30 : decode cX5_put 30 = .ok (.iload_n 1, 1) := by decide +kernel
theorem dX5_put_31 : decode cX5_put 31 = .ok (.iload_n 2, 1) := by decide +kernel
theorem dX5_put_32 : decode cX5_put 32 = .ok (.i2s, 1) := by decide +kernel
theorem dX5_put_33 : decode cX5_put 33 = .ok (.iastore, 1) := by decide +kernel
theorem dX5_put_34 : decode cX5_put 34 = .ok (.goto 10, 3) := by decide +kernel
theorem dX5_put_37 : decode cX5_put 37 = .ok (.aload_n 0, 1) := by decide +kernel
theorem dX5_put_38 : decode cX5_put 38 = .ok (.getfield 9, 3) := by decide +kernel
theorem dX5_put_41 : decode cX5_put 41 = .ok (.iload_n 1, 1) := by decide +kernel
theorem dX5_put_42 : decode cX5_put 42 = .ok (.iload_n 2, 1) := by decide +kernel
theorem dX5_put_43 : decode cX5_put 43 = .ok (.iastore, 1) := by decide +kernel
theorem dX5_put_44 : decode cX5_put 44 = .ok (.return_, 1) := by decide +kernel
theorem dX5_hasRun_0 : decode cX5_hasRun 0 = .ok (.iload_n 1, 1) := by decide +kernel
theorem dX5_hasRun_1 : decode cX5_hasRun 1 = .ok (.ifCond .lt 29, 3) := by decide +kernel
theorem dX5_hasRun_4 : decode cX5_hasRun 4 = .ok (.iload_n 2, 1) := by decide +kernel
theorem dX5_hasRun_5 : decode cX5_hasRun 5 = .ok (.ifCond .lt 25, 3) := by decide +kernel
theorem dX5_hasRun_8 : decode cX5_hasRun 8 = .ok (.iload_n 1, 1) := by decide +kernel
theorem dX5_hasRun_9 : decode cX5_hasRun 9 = .ok (.aload_n 0, 1) := by decide +kernel
theorem dX5_hasRun_10 : decode cX5_hasRun 10 = .ok (.getfield 19, 3) := by decide +kernel
theorem dX5_hasRun_13 : decode cX5_hasRun 13 = .ok (.if_icmp .gt 17, 3) := by decide +kernel
theorem dX5_hasRun_16 : decode cX5_hasRun 16 = .ok (.iload_n 2, 1) := by decide +kernel
theorem dX5_hasRun_17 : decode cX5_hasRun 17 = .ok (.aload_n 0, 1) := by decide +kernel
theorem dX5_hasRun_18 : decode cX5_hasRun 18 = .ok (.getfield 19, 3) := by decide +kernel
theorem dX5_hasRun_21 : decode cX5_hasRun 21 = .ok (.iload_n 1, 1) := by decide +kernel
theorem dX5_hasRun_22 : decode cX5_hasRun 22 = .ok (.isub, 1) := by decide +kernel
theorem dX5_hasRun_23 : decode cX5_hasRun 23 = .ok (.if_icmp .gt 7, 3) := by decide +kernel
theorem dX5_hasRun_26 : decode cX5_hasRun 26 = .ok (.iconst 1, 1) := by decide +kernel
theorem dX5_hasRun_27 : decode cX5_hasRun 27 = .ok (.goto 4, 3) := by decide +kernel
theorem dX5_hasRun_30 : decode cX5_hasRun 30 = .ok (.iconst 0, 1) := by decide +kernel
theorem dX5_hasRun_31 : decode cX5_hasRun 31 = .ok (.ireturn, 1) := by decide +kernel
theorem dX6_init_0 : decode cX6_init 0 = .ok (.aload_n 0, 1) := by decide +kernel
theorem dX6_init_1 : decode cX6_init 1 = .ok (.invokespecial 3, 3) := by decide +kernel
theorem dX6_init_4 : decode cX6_init 4 = .ok (.aload_n 0, 1) := by decide +kernel
theorem dX6_init_5 : decode cX6_init 5 = .ok (.iconst 0, 1) := by decide +kernel
theorem dX6_init_6 : decode cX6_init 6 = .ok (.putfield 9, 3) := by decide +kernel
theorem dX6_init_9 : decode cX6_init 9 = .ok (.aload_n 0, 1) := by decide +kernel
theorem dX6_init_10 : decode cX6_init 10 = .ok (.iconst (-1), 1) := by decide +kernel
theorem dX6_init_11 : decode cX6_init 11 = .ok (.putfield 15, 3) := by decide +kernel
theorem dX6_init_14 : decode cX6_init 14 = .ok (.aload_n 0, 1) := by decide +kernel
theorem dX6_init_15 : decode cX6_init 15 = .ok (.iconst 0, 1) := by decide +kernel
theorem dX6_init_16 : decode cX6_init 16 = .ok (.putfield 18, 3) := by decide +kernel
theorem dX6_init_19 : decode cX6_init 19 = .ok (.aload_n 0, 1) := by decide +kernel
theorem dX6_init_20 : decode cX6_init 20 = .ok (.iload_n 1, 1) := by decide +kernel
theorem dX6_init_21 : decode cX6_init 21 = .ok (.newarray .int, 2) := by decide +kernel
theorem dX6_init_23 : decode cX6_init 23 = .ok (.putfield 21, 3) := by decide +kernel
theorem dX6_init_26 : decode cX6_init 26 = .ok (.aload_n 0, 1) := by decide +kernel
theorem dX6_init_27 : decode cX6_init 27 = .ok (.iload_n 2, 1) := by decide +kernel
theorem dX6_init_28 : decode cX6_init 28 = .ok (.putfield 25, 3) := by decide +kernel
theorem dX6_init_31 : decode cX6_init 31 = .ok (.aload_n 0, 1) := by decide +kernel
theorem dX6_init_32 : decode cX6_init 32 = .ok (.iload_n 3, 1) := by decide +kernel
theorem dX6_init_33 : decode cX6_init 33 = .ok (.putfield 28, 3) := by decide +kernel
theorem dX6_init_36 : decode cX6_init 36 = .ok (.aload_n 0, 1) := by decide +kernel
theorem dX6_init_37 : decode cX6_init 37 = .ok (.iload_n 2, 1) := by decide +kernel
theorem dX6_init_38 : decode cX6_init 38 = .ok (.newarray .int, 2) := by decide +kernel
theorem dX6_init_40 : decode cX6_init 40 = .ok (.putfield 32, 3) := by decide +kernel
theorem dX6_init_43 : decode cX6_init 43 = .ok (.aload_n 0, 1) := by decide +kernel
theorem dX6_init_44 : decode cX6_init 44 = .ok (.iload_n 2, 1) := by decide +kernel
theorem dX6_init_45 : decode cX6_init 45 = .ok (.newarray .int, 2) := by decide +kernel
theorem dX6_init_47 : decode cX6_init 47 = .ok (.putfield 35, 3) := by decide +kernel
theorem dX6_init_50 : decode cX6_init 50 = .ok (.return_, 1) := by decide +kernel
theorem dX6_isFull_0 : decode cX6_isFull 0 = .ok (.aload_n 0, 1) := by decide +kernel
theorem dX6_isFull_1 : decode cX6_isFull 1 = .ok (.getfield 9, 3) := by decide +kernel
theorem dX6_isFull_4 : decode cX6_isFull 4 = .ok (.aload_n 0, 1) := by decide +kernel
theorem dX6_isFull_5 : decode cX6_isFull 5 = .ok (.getfield 21, 3) := by decide +kernel
theorem dX6_isFull_8 : decode cX6_isFull 8 = .ok (.arraylength, 1) := by decide +kernel
theorem dX6_isFull_9 : decode cX6_isFull 9 = .ok (.if_icmp .lt 7, 3) := by decide +kernel
theorem dX6_isFull_12 : decode cX6_isFull 12 = .ok (.iconst 1, 1) := by decide +kernel
theorem dX6_isFull_13 : decode cX6_isFull 13 = .ok (.goto 4, 3) := by decide +kernel
theorem dX6_isFull_16 : decode cX6_isFull 16 = .ok (.iconst 0, 1) := by decide +kernel
theorem dX6_isFull_17 : decode cX6_isFull 17 = .ok (.ireturn, 1) := by decide +kernel
theorem dX6_append_0 : decode cX6_append 0 = .ok (.aload_n 0, 1) := by decide +kernel
theorem dX6_append_1 : decode cX6_append 1 = .ok (.getfield 21, 3) := by decide +kernel
theorem dX6_append_4 : decode cX6_append 4 = .ok (.aload_n 0, 1) := by decide +kernel
theorem dX6_append_5 : decode cX6_append 5 = .ok (.getfield 9, 3) := by decide +kernel
theorem dX6_append_8 : decode cX6_append 8 = .ok (.iload_n 1, 1) := by decide +kernel
theorem dX6_append_9 : decode cX6_append 9 = .ok (.iastore, 1) := by decide +kernel
theorem dX6_append_10 : decode cX6_append 10 = .ok (.aload_n 0, 1) := by decide +kernel
theorem dX6_append_11 : decode cX6_append 11 = .ok (.dup, 1) := by decide +kernel
theorem dX6_append_12 : decode cX6_append 12 = .ok (.getfield 9, 3) := by decide +kernel
theorem dX6_append_15 : decode cX6_append 15 = .ok (.iconst 1, 1) := by decide +kernel
theorem dX6_append_16 : decode cX6_append 16 = .ok (.iadd, 1) := by decide +kernel
theorem dX6_append_17 : decode cX6_append 17 = .ok (.putfield 9, 3) := by decide +kernel
theorem dX6_append_20 : decode cX6_append 20 = .ok (.aload_n 0, 1) := by decide +kernel
theorem dX6_append_21 : decode cX6_append 21 = .ok (.aload_n 0, 1) := by decide +kernel
theorem dX6_append_22 : decode cX6_append 22 = .ok (.invokevirtual 38, 3) := by decide +kernel
theorem dX6_append_25 : decode cX6_append 25 = .ok (.putfield 15, 3) := by decide +kernel
theorem dX6_append_28 : decode cX6_append 28 = .ok (.aload_n 0, 1) := by decide +kernel
theorem dX6_append_29 : decode cX6_append 29 = .ok (.aload_n 0, 1) := by decide +kernel
theorem dX6_append_30 : decode cX6_append 30 = .ok (.getfield 15, 3) := by decide +kernel
theorem dX6_append_33 : decode cX6_append 33 = .ok (.iconst (-1), 1) := by decide +kernel
theorem dX6_append_34 : decode cX6_append 34 = .ok (.if_icmp .ne 12, 3) := by decide +kernel
theorem dX6_append_37 : decode cX6_append 37 = .ok (.aload_n 0, 1) := by decide +kernel
theorem dX6_append_38 : decode cX6_append 38 = .ok (.getfield 9, 3) := by decide +kernel
theorem dX6_append_41 : decode cX6_append 41 = .ok (.iconst 2, 1) := by decide +kernel
theorem dX6_append_42 : decode cX6_append 42 = .ok (.idiv, 1) := by decide +kernel
theorem dX6_append_43 : decode cX6_append 43 = .ok (.goto 4, 3) := by decide +kernel
theorem dX6_append_46 : decode cX6_append 46 = .ok (.iconst 0, 1) := by decide +kernel
theorem dX6_append_47 : decode cX6_append 47 = .ok (.putfield 18, 3) := by decide +kernel
theorem dX6_append_50 : decode cX6_append 50 = .ok (.aload_n 0, 1) := by decide +kernel
theorem dX6_append_51 : decode cX6_append 51 = .ok (.getfield 18, 3) := by decide +kernel
theorem dX6_append_54 : decode cX6_append 54 = .ok (.ifCond .le 7, 3) := by decide +kernel
theorem dX6_append_57 : decode cX6_append 57 = .ok (.aload_n 0, 1) := by decide +kernel
theorem dX6_append_58 : decode cX6_append 58 = .ok (.invokevirtual 42, 3) := by decide +kernel
theorem dX6_append_61 : decode cX6_append 61 = .ok (.return_, 1) := by decide +kernel
theorem dX6_clear_0 : decode cX6_clear 0 = .ok (.aload_n 0, 1) := by decide +kernel
theorem dX6_clear_1 : decode cX6_clear 1 = .ok (.iconst 0, 1) := by decide +kernel
theorem dX6_clear_2 : decode cX6_clear 2 = .ok (.putfield 9, 3) := by decide +kernel
theorem dX6_clear_5 : decode cX6_clear 5 = .ok (.aload_n 0, 1) := by decide +kernel
theorem dX6_clear_6 : decode cX6_clear 6 = .ok (.iconst (-1), 1) := by decide +kernel
theorem dX6_clear_7 : decode cX6_clear 7 = .ok (.putfield 15, 3) := by decide +kernel
theorem dX6_clear_10 : decode cX6_clear 10 = .ok (.aload_n 0, 1) := by decide +kernel
theorem dX6_clear_11 : decode cX6_clear 11 = .ok (.iconst 0, 1) := by decide +kernel
theorem dX6_clear_12 : decode cX6_clear 12 = .ok (.putfield 18, 3) := by decide +kernel
theorem dX6_clear_15 : decode cX6_clear 15 = .ok (.return_, 1) := by decide +kernel
theorem dX6_readLastPair_0 : decode cX6_readLastPair 0 = .ok (.aload_n 0, 1) := by decide +kernel
theorem dX6_readLastPair_1 : decode cX6_readLastPair 1 = .ok (.getfield 21, 3) := by decide +kernel
theorem dX6_readLastPair_4 : decode cX6_readLastPair 4 = .ok (.iconst 2, 1) := by decide +kernel
theorem dX6_readLastPair_5 : decode cX6_readLastPair 5 = .ok (.aload_n 0, 1) := by decide +kernel
theorem dX6_readLastPair_6 : decode cX6_readLastPair 6 = .ok (.getfield 18, 3) := by decide +kernel
theorem dX6_readLastPair_9 : decode cX6_readLastPair 9 = .ok (.imul, 1) := by decide +kernel
theorem dX6_readLastPair_10 : decode cX6_readLastPair 10 = .ok (.iconst 1, 1) := by decide +kernel
theorem dX6_readLastPair_11 : decode cX6_readLastPair 11 = .ok (.isub, 1) := by decide +kernel
theorem dX6_readLastPair_12 : decode cX6_readLastPair 12 = .ok (.iaload, 1) := by decide +kernel
theorem dX6_readLastPair_13 : decode cX6_readLastPair 13 = .ok (.istore_n 1, 1) := by decide +kernel
theorem dX6_readLastPair_14 : decode cX6_readLastPair 14 = .ok (.aload_n 0, 1) := by decide +kernel
theorem dX6_readLastPair_15 : decode cX6_readLastPair 15 = .ok (.getfield 32, 3) := by decide +kernel
theorem dX6_readLastPair_18 : decode cX6_readLastPair 18 = .ok (.aload_n 0, 1) := by decide +kernel
theorem dX6_readLastPair_19 : decode cX6_readLastPair 19 = .ok (.getfield 18, 3) := by decide +kernel
theorem dX6_readLastPair_22 : decode cX6_readLastPair 22 = .ok (.iconst 1, 1) := by decide +kernel
theorem dX6_readLastPair_23 : decode cX6_readLastPair 23 = .ok (.isub, 1) := by decide +kernel
theorem dX6_readLastPair_24 : decode cX6_readLastPair 24 = .ok (.aload_n 0, 1) := by decide +kernel
theorem dX6_readLastPair_25 : decode cX6_readLastPair 25 = .ok (.getfield 21, 3) := by decide +kernel
theorem dX6_readLastPair_28 : decode cX6_readLastPair 28 = .ok (.iconst 2, 1) := by decide +kernel
theorem dX6_readLastPair_29 : decode cX6_readLastPair 29 = .ok (.aload_n 0, 1) := by decide +kernel
theorem dX6_readLastPair_30 : decode cX6_readLastPair 30 = .ok (.getfield 18, 3) := by decide +kernel
theorem dX6_readLastPair_33 : decode cX6_readLastPair 33 = .ok (.imul, 1) := by decide +kernel
theorem dX6_readLastPair_34 : decode cX6_readLastPair 34 = .ok (.iconst 2, 1) := by decide +kernel
theorem dX6_readLastPair_35 : decode cX6_readLastPair 35 = .ok (.isub, 1) := by decide +kernel
theorem dX6_readLastPair_36 : decode cX6_readLastPair 36 = .ok (.iaload, 1) := by decide +kernel
theorem dX6_readLastPair_37 : decode cX6_readLastPair 37 = .ok (.bipush 48, 2) := by decide +kernel
theorem dX6_readLastPair_39 : decode cX6_readLastPair 39 = .ok (.isub, 1) := by decide +kernel
theorem dX6_readLastPair_40 : decode cX6_readLastPair 40 = .ok (.iastore, 1) := by decide +kernel
theorem dX6_readLastPair_41 : decode cX6_readLastPair 41 = .ok (.aload_n 0, 1) := by decide +kernel
theorem dX6_readLastPair_42 : decode cX6_readLastPair 42 = .ok (.getfield 28, 3) := by decide +kernel
theorem dX6_readLastPair_45 : decode cX6_readLastPair 45 = .ok (.ifCond .eq 28, 3) := by decide +kernel
theorem dX6_readLastPair_48 : decode cX6_readLastPair 48 = .ok (.aload_n 0, 1) := by decide +kernel
theorem dX6_readLastPair_49 : decode cX6_readLastPair 49 = .ok (.getfield 35, 3) := by decide +kernel
theorem dX6_readLastPair_52 : decode cX6_readLastPair 52 = .ok (.aload_n 0, 1) := by decide +kernel
theorem dX6_readLastPair_53 : decode cX6_readLastPair 53 = .ok (.getfield 18, 3) := by decide +kernel
theorem dX6_readLastPair_56 : decode cX6_readLastPair 56 = .ok (.iconst 1, 1) := by decide +kernel
theorem dX6_readLastPair_57 : decode cX6_readLastPair 57 = .ok (.isub, 1) := by decide +kernel
theorem dX6_readLastPair_58 : decode cX6_readLastPair 58 = .ok (.iload_n 1, 1) := by decide +kernel
theorem dX6_readLastPair_59 : decode cX6_readLastPair 59 = .ok (.bipush 121, 2) := by decide +kernel
theorem dX6_readLastPair_61 : decode cX6_readLastPair 61 = .ok (.if_icmp .ne 7, 3) := by decide +kernel
theorem dX6_readLastPair_64 : decode cX6_readLastPair 64 = .ok (.iconst 0, 1) := by decide +kernel
theorem dX6_readLastPair_65 : decode cX6_readLastPair 65 = .ok (.goto 4, 3) := by decide +kernel
theorem dX6_readLastPair_68 : decode cX6_readLastPair 68 = .ok (.iconst 1, 1) := by decide +kernel
theorem dX6_readLastPair_69 : decode cX6_readLastPair 69 = .ok (.iastore, 1) := by decide +kernel
theorem dX6_readLastPair_70 : decode cX6_readLastPair 70 = .ok (.goto 18, 3) := by decide +kernel
theorem dX6_readLastPair_73 : decode cX6_readLastPair 73 = .ok (.aload_n 0, 1) := by decide +kernel
theorem dX6_readLastPair_74 : decode cX6_readLastPair 74 = .ok (.getfield 35, 3) := by decide +kernel
theorem dX6_readLastPair_77 : decode cX6_readLastPair 77 = .ok (.aload_n 0, 1) := by decide +kernel
theorem dX6_readLastPair_78 : decode cX6_readLastPair 78 = .ok (.getfield 18, 3) := by decide +kernel
theorem dX6_readLastPair_81 : decode cX6_readLastPair 81 = .ok (.iconst 1, 1) := by decide +kernel
theorem dX6_readLastPair_82 : decode cX6_readLastPair 82 = .ok (.isub, 1) := by decide +kernel
theorem dX6_readLastPair_83 : decode cX6_readLastPair 83 = .ok (.iload_n 1, 1) := by decide +kernel
theorem dX6_readLastPair_84 : decode cX6_readLastPair 84 = .ok (.bipush 48, 2) := by decide +kernel
theorem dX6_readLastPair_86 : decode cX6_readLastPair 86 = .ok (.isub, 1) := by decide +kernel
theorem dX6_readLastPair_87 : decode cX6_readLastPair 87 = .ok (.iastore, 1) := by decide +kernel
theorem dX6_readLastPair_88 : decode cX6_readLastPair 88 = .ok (.return_, 1) := by decide +kernel
theorem dX6_findFlaw_0 : decode cX6_findFlaw 0 = .ok (.iconst 0, 1) := by decide +kernel
theorem dX6_findFlaw_1 : decode cX6_findFlaw 1 = .ok (.istore_n 1, 1) := by decide +kernel
theorem dX6_findFlaw_2 : decode cX6_findFlaw 2 = .ok (.iload_n 1, 1) := by decide +kernel
theorem dX6_findFlaw_3 : decode cX6_findFlaw 3 = .ok (.aload_n 0, 1) := by decide +kernel
theorem dX6_findFlaw_4 : decode cX6_findFlaw 4 = .ok (.getfield 9, 3) := by decide +kernel
theorem dX6_findFlaw_7 : decode cX6_findFlaw 7 = .ok (.if_icmp .ge 29, 3) := by decide +kernel
theorem dX6_findFlaw_10 : decode cX6_findFlaw 10 = .ok (.iload_n 1, 1) := by decide +kernel
theorem dX6_findFlaw_11 : decode cX6_findFlaw 11 = .ok (.iconst 2, 1) := by decide +kernel
theorem dX6_findFlaw_12 : decode cX6_findFlaw 12 = .ok (.aload_n 0, 1) := by decide +kernel
theorem dX6_findFlaw_13 : decode cX6_findFlaw 13 = .ok (.getfield 25, 3) := by decide +kernel
theorem dX6_findFlaw_16 : decode cX6_findFlaw 16 = .ok (.imul, 1) := by decide +kernel
theorem dX6_findFlaw_17 : decode cX6_findFlaw 17 = .ok (.if_icmp .ge 11, 3) := by decide +kernel
theorem dX6_findFlaw_20 : decode cX6_findFlaw 20 = .ok (.aload_n 0, 1) := by decide +kernel
theorem dX6_findFlaw_21 : decode cX6_findFlaw 21 = .ok (.iload_n 1, 1) := by decide +kernel
theorem dX6_findFlaw_22 : decode cX6_findFlaw 22 = .ok (.invokevirtual 45, 3) := by decide +kernel
theorem dX6_findFlaw_25 : decode cX6_findFlaw 25 = .ok (.ifCond .ne 5, 3) := by decide +kernel
theorem dX6_findFlaw_28 : decode cX6_findFlaw 28 = .ok (.iload_n 1, 1) := by decide +kernel
theorem dX6_findFlaw_29 : decode cX6_findFlaw 29 = .ok (.ireturn, 1) := by decide +kernel
theorem dX6_findFlaw_30 : decode cX6_findFlaw 30 = .ok (.iinc 1 1, 3) := by decide +kernel
theorem dX6_findFlaw_33 : decode cX6_findFlaw 33 = .ok (.goto (-31), 3) := by decide +kernel
theorem dX6_findFlaw_36 : decode cX6_findFlaw 36 = .ok (.aload_n 0, 1) := by decide +kernel
theorem dX6_findFlaw_37 : decode cX6_findFlaw 37 = .ok (.getfield 9, 3) := by decide +kernel
theorem dX6_findFlaw_40 : decode cX6_findFlaw 40 = .ok (.iconst 2, 1) := by decide +kernel
theorem dX6_findFlaw_41 : decode cX6_findFlaw 41 = .ok (.irem, 1) := by decide +kernel
theorem dX6_findFlaw_42 : decode cX6_findFlaw 42 = .ok (.ifCond .ne 7, 3) := by decide +kernel
theorem dX6_findFlaw_45 : decode cX6_findFlaw 45 = .ok (.iconst (-1), 1) := by decide +kernel
theorem dX6_findFlaw_46 : decode cX6_findFlaw 46 = .ok (.goto 7, 3) := by decide +kernel
theorem dX6_findFlaw_49 : decode cX6_findFlaw 49 = .ok (.aload_n 0, 1) := by decide +kernel
theorem dX6_findFlaw_50 : decode cX6_findFlaw 50 = .ok (.getfield 9, 3) := by decide +kernel
theorem dX6_findFlaw_53 : decode cX6_findFlaw 53 = .ok (.ireturn, 1) := by decide +kernel
theorem dX6_fits_0 : decode cX6_fits 0 = .ok (.aload_n 0, 1) := by decide +kernel
theorem dX6_fits_1 : decode cX6_fits 1 = .ok (.getfield 21, 3) := by decide +kernel
theorem dX6_fits_4 : decode cX6_fits 4 = .ok (.iload_n 1, 1) := by decide +kernel
theorem dX6_fits_5 : decode cX6_fits 5 = .ok (.iaload, 1) := by decide +kernel
theorem dX6_fits_6 : decode cX6_fits 6 = .ok (.istore_n 2, 1) := by decide +kernel
theorem dX6_fits_7 : decode cX6_fits 7 = .ok (.iload_n 1, 1) := by decide +kernel
theorem dX6_fits_8 : decode cX6_fits 8 = .ok (.iconst 2, 1) := by decide +kernel
theorem dX6_fits_9 : decode cX6_fits 9 = .ok (.irem, 1) := by decide +kernel
theorem dX6_fits_10 : decode cX6_fits 10 = .ok (.ifCond .ne 12, 3) := by decide +kernel
theorem dX6_fits_13 : decode cX6_fits 13 = .ok (.iload_n 2, 1) := by decide +kernel
theorem dX6_fits_14 : decode cX6_fits 14 = .ok (.bipush 49, 2) := by decide +kernel
theorem dX6_fits_16 : decode cX6_fits 16 = .ok (.bipush 57, 2) := by decide +kernel
theorem dX6_fits_18 : decode cX6_fits 18 = .ok (.invokestatic 49, 3) := by decide +kernel
theorem dX6_fits_21 : decode cX6_fits 21 = .ok (.ireturn, 1) := by decide +kernel
theorem dX6_fits_22 : decode cX6_fits 22 = .ok (.aload_n 0, 1) := by decide +kernel
theorem dX6_fits_23 : decode cX6_fits 23 = .ok (.getfield 28, 3) := by decide +kernel
theorem dX6_fits_26 : decode cX6_fits 26 = .ok (.ifCond .eq 23, 3) := by decide +kernel
theorem dX6_fits_29 : decode cX6_fits 29 = .ok (.iload_n 2, 1) := by decide +kernel
theorem dX6_fits_30 : decode cX6_fits 30 = .ok (.bipush 121, 2) := by decide +kernel
theorem dX6_fits_32 : decode cX6_fits 32 = .ok (.if_icmp .eq 9, 3) := by decide +kernel
theorem dX6_fits_35 : decode cX6_fits 35 = .ok (.iload_n 2, 1) := by decide +kernel
theorem dX6_fits_36 : decode cX6_fits 36 = .ok (.bipush 110, 2) := by decide +kernel
theorem dX6_fits_38 : decode cX6_fits 38 = .ok (.if_icmp .ne 7, 3) := by decide +kernel
theorem dX6_fits_41 : decode cX6_fits 41 = .ok (.iconst 1, 1) := by decide +kernel
theorem dX6_fits_42 : decode cX6_fits 42 = .ok (.goto 15, 3) := by decide +kernel
theorem dX6_fits_45 : decode cX6_fits 45 = .ok (.iconst 0, 1) := by decide +kernel
theorem dX6_fits_46 : decode cX6_fits 46 = .ok (.goto 11, 3) := by decide +kernel
theorem dX6_fits_49 : decode cX6_fits 49 = .ok (.iload_n 2, 1) := by decide +kernel
theorem dX6_fits_50 : decode cX6_fits 50 = .ok (.bipush 48, 2) := by decide +kernel
theorem dX6_fits_52 : decode cX6_fits 52 = .ok (.bipush 57, 2) := by decide +kernel
theorem dX6_fits_54 : decode cX6_fits 54 = .ok (.invokestatic 49, 3) := by decide +kernel
theorem dX6_fits_57 : decode cX6_fits 57 = .ok (.ireturn, 1) := by decide +kernel
theorem dX7_init_0 : decode cX7_init 0 = .ok (.aload_n 0, 1) := by decide +kernel
theorem dX7_init_1 : decode cX7_init 1 = .ok (.invokespecial 1, 3) := by decide +kernel
theorem dX7_init_4 : decode cX7_init 4 = .ok (.aload_n 0, 1) := by decide +kernel
theorem dX7_init_5 : decode cX7_init 5 = .ok (.new 7, 3) := by decide +kernel
theorem dX7_init_8 : decode cX7_init 8 = .ok (.dup, 1) := by decide +kernel
theorem dX7_init_9 : decode cX7_init 9 = .ok (.invokespecial 9, 3) := by decide +kernel
theorem dX7_init_12 : decode cX7_init 12 = .ok (.putfield 10, 3) := by decide +kernel
theorem dX7_init_15 : decode cX7_init 15 = .ok (.aload_n 0, 1) := by decide +kernel
theorem dX7_init_16 : decode cX7_init 16 = .ok (.new 16, 3) := by decide +kernel
theorem dX7_init_19 : decode cX7_init 19 = .ok (.dup, 1) := by decide +kernel
theorem dX7_init_20 : decode cX7_init 20 = .ok (.invokespecial 18, 3) := by decide +kernel
theorem dX7_init_23 : decode cX7_init 23 = .ok (.putfield 19, 3) := by decide +kernel
theorem dX7_init_26 : decode cX7_init 26 = .ok (.aload_n 0, 1) := by decide +kernel
theorem dX7_init_27 : decode cX7_init 27 = .ok (.new 23, 3) := by decide +kernel
theorem dX7_init_30 : decode cX7_init 30 = .ok (.dup, 1) := by decide +kernel
theorem dX7_init_31 : decode cX7_init 31 = .ok (.aload_n 0, 1) := by decide +kernel
theorem dX7_init_32 : decode cX7_init 32 = .ok (.getfield 10, 3) := by decide +kernel
theorem dX7_init_35 : decode cX7_init 35 = .ok (.aload_n 0, 1) := by decide +kernel
theorem dX7_init_36 : decode cX7_init 36 = .ok (.getfield 19, 3) := by decide +kernel
theorem dX7_init_39 : decode cX7_init 39 = .ok (.invokespecial 25, 3) := by decide +kernel
theorem dX7_init_42 : decode cX7_init 42 = .ok (.putfield 28, 3) := by decide +kernel
theorem dX7_init_45 : decode cX7_init 45 = .ok (.aload_n 0, 1) := by decide +kernel
theorem dX7_init_46 : decode cX7_init 46 = .ok (.new 23, 3) := by decide +kernel
theorem dX7_init_49 : decode cX7_init 49 = .ok (.dup, 1) := by decide +kernel
theorem dX7_init_50 : decode cX7_init 50 = .ok (.aload_n 0, 1) := by decide +kernel
theorem dX7_init_51 : decode cX7_init 51 = .ok (.getfield 10, 3) := by decide +kernel
theorem dX7_init_54 : decode cX7_init 54 = .ok (.aload_n 0, 1) := by decide +kernel
theorem dX7_init_55 : decode cX7_init 55 = .ok (.getfield 19, 3) := by decide +kernel
theorem dX7_init_58 : decode cX7_init 58 = .ok (.invokespecial 25, 3) := by decide +kernel
theorem dX7_init_61 : decode cX7_init 61 = .ok (.putfield 32, 3) := by decide +kernel
theorem dX7_init_64 : decode cX7_init 64 = .ok (.aload_n 0, 1) := by decide +kernel
theorem dX7_init_65 : decode cX7_init 65 = .ok (.new 35, 3) := by decide +kernel
theorem dX7_init_68 : decode cX7_init 68 = .ok (.dup, 1) := by decide +kernel
theorem dX7_init_69 : decode cX7_init 69 = .ok (.aload_n 0, 1) := by decide +kernel
theorem dX7_init_70 : decode cX7_init 70 = .ok (.getfield 10, 3) := by decide +kernel
theorem dX7_init_73 : decode cX7_init 73 = .ok (.invokespecial 37, 3) := by decide +kernel
theorem dX7_init_76 : decode cX7_init 76 = .ok (.putfield 40, 3) := by decide +kernel
theorem dX7_init_79 : decode cX7_init 79 = .ok (.aload_n 0, 1) := by decide +kernel
theorem dX7_init_80 : decode cX7_init 80 = .ok (.new 44, 3) := by decide +kernel
theorem dX7_init_83 : decode cX7_init 83 = .ok (.dup, 1) := by decide +kernel
theorem dX7_init_84 : decode cX7_init 84 = .ok (.aload_n 0, 1) := by decide +kernel
theorem dX7_init_85 : decode cX7_init 85 = .ok (.getfield 10, 3) := by decide +kernel
theorem dX7_init_88 : decode cX7_init 88 = .ok (.invokespecial 46, 3) := by decide +kernel
theorem dX7_init_91 : decode cX7_init 91 = .ok (.putfield 47, 3) := by decide +kernel
theorem dX7_init_94 : decode cX7_init 94 = .ok (.aload_n 0, 1) := by decide +kernel
theorem dX7_init_95 : decode cX7_init 95 = .ok (.iconst 4, 1) := by decide +kernel
theorem dX7_init_96 : decode cX7_init 96 = .ok (.anewarray 51, 3) := by decide +kernel
theorem dX7_init_99 : decode cX7_init 99 = .ok (.putfield 53, 3) := by decide +kernel
theorem dX7_init_102 : decode cX7_init 102 = .ok (.aload_n 0, 1) := by decide +kernel
theorem dX7_init_103 : decode cX7_init 103 = .ok (.iconst 0, 1) := by decide +kernel
theorem dX7_init_104 : decode cX7_init 104 = .ok (.putfield 57, 3) := by decide +kernel
theorem dX7_init_107 : decode cX7_init 107 = .ok (.iconst 0, 1) := by decide +kernel
theorem dX7_init_108 : decode cX7_init 108 = .ok (.istore_n 1, 1) := by decide +kernel
theorem dX7_init_109 : decode cX7_init 109 = .ok (.iload_n 1, 1) := by decide +kernel
theorem dX7_init_110 : decode cX7_init 110 = .ok (.iconst 4, 1) := by decide +kernel
theorem dX7_init_111 : decode cX7_init 111 = .ok (.if_icmp .ge 22, 3) := by decide +kernel
theorem dX7_init_114 : decode cX7_init 114 = .ok (.aload_n 0, 1) := by decide +kernel
theorem dX7_init_115 : decode cX7_init 115 = .ok (.getfield 53, 3) := by decide +kernel
theorem dX7_init_118 : decode cX7_init 118 = .ok (.iload_n 1, 1) := by decide +kernel
theorem dX7_init_119 : decode cX7_init 119 = .ok (.new 51, 3) := by decide +kernel
theorem dX7_init_122 : decode cX7_init 122 = .ok (.dup, 1) := by decide +kernel
theorem dX7_init_123 : decode cX7_init 123 = .ok (.invokespecial 61, 3) := by decide +kernel
theorem dX7_init_126 : decode cX7_init 126 = .ok (.aastore, 1) := by decide +kernel
theorem dX7_init_127 : decode cX7_init 127 = .ok (.iinc 1 1, 3) := by decide +kernel
theorem dX7_init_130 : decode cX7_init 130 = .ok (.goto (-21), 3) := by decide +kernel
theorem dX7_init_133 : decode cX7_init 133 = .ok (.return_, 1) := by decide +kernel
theorem dX7_type_0 : decode cX7_type 0 = .ok (.iload_n 1, 1) := by decide +kernel
theorem dX7_type_1 : decode cX7_type 1 = .ok (.iconst 0, 1) := by decide +kernel
theorem dX7_type_2 : decode cX7_type 2 = .ok (.iconst 1, 1) := by decide +kernel
theorem dX7_type_3 : decode cX7_type 3 = .ok (.invokestatic 62, 3) := by decide +kernel
theorem dX7_type_6 : decode cX7_type 6 = .ok (.ifCond .eq 14, 3) := by decide +kernel
theorem dX7_type_9 : decode cX7_type 9 = .ok (.iload_n 2, 1) := by decide +kernel
theorem dX7_type_10 : decode cX7_type 10 = .ok (.iconst 0, 1) := by decide +kernel
theorem dX7_type_11 : decode cX7_type 11 = .ok (.sipush 255, 3) := by decide +kernel
theorem dX7_type_14 : decode cX7_type 14 = .ok (.invokestatic 62, 3) := by decide +kernel
theorem dX7_type_17 : decode cX7_type 17 = .ok (.ifCond .ne 6, 3) := by decide +kernel
theorem dX7_type_20 : decode cX7_type 20 = .ok (.bipush (-2), 2) := by decide +kernel
theorem dX7_type_22 : decode cX7_type 22 = .ok (.ireturn, 1) := by decide +kernel
theorem dX7_type_23 : decode cX7_type 23 = .ok (.aload_n 0, 1) := by decide +kernel
theorem dX7_type_24 : decode cX7_type 24 = .ok (.getfield 10, 3) := by decide +kernel
theorem dX7_type_27 : decode cX7_type 27 = .ok (.iload_n 1, 1) := by decide +kernel
theorem dX7_type_28 : decode cX7_type 28 = .ok (.invokevirtual 66, 3) := by decide +kernel
theorem dX7_type_31 : decode cX7_type 31 = .ok (.astore_n 3, 1) := by decide +kernel
theorem dX7_type_32 : decode cX7_type 32 = .ok (.aload_n 3, 1) := by decide +kernel
theorem dX7_type_33 : decode cX7_type 33 = .ok (.invokevirtual 70, 3) := by decide +kernel
theorem dX7_type_36 : decode cX7_type 36 = .ok (.ifCond .eq 6, 3) := by decide +kernel
theorem dX7_type_39 : decode cX7_type 39 = .ok (.bipush (-4), 2) := by decide +kernel
theorem dX7_type_41 : decode cX7_type 41 = .ok (.ireturn, 1) := by decide +kernel
theorem dX7_type_42 : decode cX7_type 42 = .ok (.aload_n 3, 1) := by decide +kernel
theorem dX7_type_43 : decode cX7_type 43 = .ok (.iload_n 2, 1) := by decide +kernel
theorem dX7_type_44 : decode cX7_type 44 = .ok (.invokevirtual 76, 3) := by decide +kernel
theorem dX7_type_47 : decode cX7_type 47 = .ok (.aload_n 0, 1) := by decide +kernel
theorem dX7_type_48 : decode cX7_type 48 = .ok (.getfield 28, 3) := by decide +kernel
theorem dX7_type_51 : decode cX7_type 51 = .ok (.invokevirtual 80, 3) := by decide +kernel
theorem dX7_type_54 : decode cX7_type 54 = .ok (.aload_n 3, 1) := by decide +kernel
theorem dX7_type_55 : decode cX7_type 55 = .ok (.getfield 83, 3) := by decide +kernel
theorem dX7_type_58 : decode cX7_type 58 = .ok (.ireturn, 1) := by decide +kernel
theorem dX7_wipe_0 : decode cX7_wipe 0 = .ok (.iload_n 1, 1) := by decide +kernel
theorem dX7_wipe_1 : decode cX7_wipe 1 = .ok (.iconst 0, 1) := by decide +kernel
theorem dX7_wipe_2 : decode cX7_wipe 2 = .ok (.iconst 1, 1) := by decide +kernel
theorem dX7_wipe_3 : decode cX7_wipe 3 = .ok (.invokestatic 62, 3) := by decide +kernel
theorem dX7_wipe_6 : decode cX7_wipe 6 = .ok (.ifCond .ne 6, 3) := by decide +kernel
theorem dX7_wipe_9 : decode cX7_wipe 9 = .ok (.bipush (-2), 2) := by decide +kernel
theorem dX7_wipe_11 : decode cX7_wipe 11 = .ok (.ireturn, 1) := by decide +kernel
theorem dX7_wipe_12 : decode cX7_wipe 12 = .ok (.aload_n 0, 1) := by decide +kernel
theorem dX7_wipe_13 : decode cX7_wipe 13 = .ok (.getfield 10, 3) := by decide +kernel
theorem dX7_wipe_16 : decode cX7_wipe 16 = .ok (.iload_n 1, 1) := by decide +kernel
theorem dX7_wipe_17 : decode cX7_wipe 17 = .ok (.invokevirtual 66, 3) := by decide +kernel
theorem dX7_wipe_20 : decode cX7_wipe 20 = .ok (.astore_n 2, 1) := by decide +kernel
theorem dX7_wipe_21 : decode cX7_wipe 21 = .ok (.aload_n 2, 1) := by decide +kernel
theorem dX7_wipe_22 : decode cX7_wipe 22 = .ok (.getfield 83, 3) := by decide +kernel
theorem dX7_wipe_25 : decode cX7_wipe 25 = .ok (.istore_n 3, 1) := by decide +kernel
theorem dX7_wipe_26 : decode cX7_wipe 26 = .ok (.aload_n 2, 1) := by decide +kernel
theorem dX7_wipe_27 : decode cX7_wipe 27 = .ok (.invokevirtual 86, 3) := by decide +kernel
theorem dX7_wipe_30 : decode cX7_wipe 30 = .ok (.aload_n 0, 1) := by decide +kernel
theorem dX7_wipe_31 : decode cX7_wipe 31 = .ok (.getfield 28, 3) := by decide +kernel
theorem dX7_wipe_34 : decode cX7_wipe 34 = .ok (.invokevirtual 80, 3) := by decide +kernel
theorem dX7_wipe_37 : decode cX7_wipe 37 = .ok (.iload_n 3, 1) := by decide +kernel
theorem dX7_wipe_38 : decode cX7_wipe 38 = .ok (.ireturn, 1) := by decide +kernel
theorem dX7_fault_0 : decode cX7_fault 0 = .ok (.iload_n 1, 1) := by decide +kernel
theorem dX7_fault_1 : decode cX7_fault 1 = .ok (.iconst 0, 1) := by decide +kernel
theorem dX7_fault_2 : decode cX7_fault 2 = .ok (.iconst 1, 1) := by decide +kernel
theorem dX7_fault_3 : decode cX7_fault 3 = .ok (.invokestatic 62, 3) := by decide +kernel
theorem dX7_fault_6 : decode cX7_fault 6 = .ok (.ifCond .eq 17, 3) := by decide +kernel
theorem dX7_fault_9 : decode cX7_fault 9 = .ok (.aload_n 0, 1) := by decide +kernel
theorem dX7_fault_10 : decode cX7_fault 10 = .ok (.getfield 10, 3) := by decide +kernel
theorem dX7_fault_13 : decode cX7_fault 13 = .ok (.iload_n 1, 1) := by decide +kernel
theorem dX7_fault_14 : decode cX7_fault 14 = .ok (.invokevirtual 66, 3) := by decide +kernel
theorem dX7_fault_17 : decode cX7_fault 17 = .ok (.getfield 89, 3) := by decide +kernel
theorem dX7_fault_20 : decode cX7_fault 20 = .ok (.goto 5, 3) := by decide +kernel
theorem dX7_fault_23 : decode cX7_fault 23 = .ok (.bipush (-2), 2) := by decide +kernel
theorem dX7_fault_25 : decode cX7_fault 25 = .ok (.ireturn, 1) := by decide +kernel
theorem dX7_person_0 : decode cX7_person 0 = .ok (.iload_n 1, 1) := by decide +kernel
theorem dX7_person_1 : decode cX7_person 1 = .ok (.iconst 0, 1) := by decide +kernel
theorem dX7_person_2 : decode cX7_person 2 = .ok (.aload_n 0, 1) := by decide +kernel
theorem dX7_person_3 : decode cX7_person 3 = .ok (.getfield 10, 3) := by decide +kernel
theorem dX7_person_6 : decode cX7_person 6 = .ok (.getfield 92, 3) := by decide +kernel
theorem dX7_person_9 : decode cX7_person 9 = .ok (.getfield 96, 3) := by decide +kernel
theorem dX7_person_12 : decode cX7_person 12 = .ok (.iconst 1, 1) := by decide +kernel
theorem dX7_person_13 : decode cX7_person 13 = .ok (.isub, 1) := by decide +kernel
theorem dX7_person_14 : decode cX7_person 14 = .ok (.invokestatic 62, 3) := by decide +kernel
theorem dX7_person_17 : decode cX7_person 17 = .ok (.ifCond .eq 12, 3) := by decide +kernel
theorem dX7_person_20 : decode cX7_person 20 = .ok (.iload_n 2, 1) := by decide +kernel
theorem dX7_person_21 : decode cX7_person 21 = .ok (.iconst 0, 1) := by decide +kernel
theorem dX7_person_22 : decode cX7_person 22 = .ok (.iconst 2, 1) := by decide +kernel
theorem dX7_person_23 : decode cX7_person 23 = .ok (.invokestatic 62, 3) := by decide +kernel
theorem dX7_person_26 : decode cX7_person 26 = .ok (.ifCond .ne 6, 3) := by decide +kernel
theorem dX7_person_29 : decode cX7_person 29 = .ok (.bipush (-2), 2) := by decide +kernel
theorem dX7_person_31 : decode cX7_person 31 = .ok (.ireturn, 1) := by decide +kernel
theorem dX7_person_32 : decode cX7_person 32 = .ok (.iload_n 2, 1) := by decide +kernel
theorem dX7_person_33 : decode cX7_person 33 = .ok (.ifCond .ne 12, 3) := by decide +kernel
theorem dX7_person_36 : decode cX7_person 36 = .ok (.aload_n 0, 1) := by decide +kernel
theorem dX7_person_37 : decode cX7_person 37 = .ok (.getfield 10, 3) := by decide +kernel
theorem dX7_person_40 : decode cX7_person 40 = .ok (.iload_n 1, 1) := by decide +kernel
theorem dX7_person_41 : decode cX7_person 41 = .ok (.invokevirtual 99, 3) := by decide +kernel
theorem dX7_person_44 : decode cX7_person 44 = .ok (.ireturn, 1) := by decide +kernel
theorem dX7_person_45 : decode cX7_person 45 = .ok (.iload_n 2, 1) := by decide +kernel
theorem dX7_person_46 : decode cX7_person 46 = .ok (.iconst 1, 1) := by decide +kernel
theorem dX7_person_47 : decode cX7_person 47 = .ok (.if_icmp .ne 14, 3) := by decide +kernel
theorem dX7_person_50 : decode cX7_person 50 = .ok (.aload_n 0, 1) := by decide +kernel
theorem dX7_person_51 : decode cX7_person 51 = .ok (.getfield 10, 3) := by decide +kernel
theorem dX7_person_54 : decode cX7_person 54 = .ok (.iload_n 1, 1) := by decide +kernel
theorem dX7_person_55 : decode cX7_person 55 = .ok (.invokevirtual 103, 3) := by decide +kernel
theorem dX7_person_58 : decode cX7_person 58 = .ok (.goto 12, 3) := by decide +kernel
theorem dX7_person_61 : decode cX7_person 61 = .ok (.aload_n 0, 1) := by decide +kernel
theorem dX7_person_62 : decode cX7_person 62 = .ok (.getfield 28, 3) := by decide +kernel
theorem dX7_person_65 : decode cX7_person 65 = .ok (.getfield 106, 3) := by decide +kernel
theorem dX7_person_68 : decode cX7_person 68 = .ok (.iload_n 1, 1) := by decide +kernel
theorem dX7_person_69 : decode cX7_person 69 = .ok (.iaload, 1) := by decide +kernel
theorem dX7_person_70 : decode cX7_person 70 = .ok (.ireturn, 1) := by decide +kernel
theorem dX7_stone_0 : decode cX7_stone 0 = .ok (.iload_n 1, 1) := by decide +kernel
theorem dX7_stone_1 : decode cX7_stone 1 = .ok (.iconst 0, 1) := by decide +kernel
theorem dX7_stone_2 : decode cX7_stone 2 = .ok (.aload_n 0, 1) := by decide +kernel
theorem dX7_stone_3 : decode cX7_stone 3 = .ok (.getfield 10, 3) := by decide +kernel
theorem dX7_stone_6 : decode cX7_stone 6 = .ok (.getfield 110, 3) := by decide +kernel
theorem dX7_stone_9 : decode cX7_stone 9 = .ok (.getfield 96, 3) := by decide +kernel
theorem dX7_stone_12 : decode cX7_stone 12 = .ok (.iconst 1, 1) := by decide +kernel
theorem dX7_stone_13 : decode cX7_stone 13 = .ok (.isub, 1) := by decide +kernel
theorem dX7_stone_14 : decode cX7_stone 14 = .ok (.invokestatic 62, 3) := by decide +kernel
theorem dX7_stone_17 : decode cX7_stone 17 = .ok (.ifCond .eq 12, 3) := by decide +kernel
theorem dX7_stone_20 : decode cX7_stone 20 = .ok (.iload_n 2, 1) := by decide +kernel
theorem dX7_stone_21 : decode cX7_stone 21 = .ok (.iconst 0, 1) := by decide +kernel
theorem dX7_stone_22 : decode cX7_stone 22 = .ok (.iconst 2, 1) := by decide +kernel
theorem dX7_stone_23 : decode cX7_stone 23 = .ok (.invokestatic 62, 3) := by decide +kernel
theorem dX7_stone_26 : decode cX7_stone 26 = .ok (.ifCond .ne 6, 3) := by decide +kernel
theorem dX7_stone_29 : decode cX7_stone 29 = .ok (.bipush (-2), 2) := by decide +kernel
theorem dX7_stone_31 : decode cX7_stone 31 = .ok (.ireturn, 1) := by decide +kernel
theorem dX7_stone_32 : decode cX7_stone 32 = .ok (.iload_n 2, 1) := by decide +kernel
theorem dX7_stone_33 : decode cX7_stone 33 = .ok (.ifCond .ne 12, 3) := by decide +kernel
theorem dX7_stone_36 : decode cX7_stone 36 = .ok (.aload_n 0, 1) := by decide +kernel
theorem dX7_stone_37 : decode cX7_stone 37 = .ok (.getfield 10, 3) := by decide +kernel
theorem dX7_stone_40 : decode cX7_stone 40 = .ok (.iload_n 1, 1) := by decide +kernel
theorem dX7_stone_41 : decode cX7_stone 41 = .ok (.invokevirtual 113, 3) := by decide +kernel
theorem dX7_stone_44 : decode cX7_stone 44 = .ok (.ireturn, 1) := by decide +kernel
theorem dX7_stone_45 : decode cX7_stone 45 = .ok (.iload_n 2, 1) := by decide +kernel
theorem dX7_stone_46 : decode cX7_stone 46 = .ok (.iconst 1, 1) := by decide +kernel
theorem dX7_stone_47 : decode cX7_stone 47 = .ok (.if_icmp .ne 14, 3) := by decide +kernel
theorem dX7_stone_50 : decode cX7_stone 50 = .ok (.aload_n 0, 1) := by decide +kernel
theorem dX7_stone_51 : decode cX7_stone 51 = .ok (.getfield 10, 3) := by decide +kernel
theorem dX7_stone_54 : decode cX7_stone 54 = .ok (.iload_n 1, 1) := by decide +kernel
theorem dX7_stone_55 : decode cX7_stone 55 = .ok (.invokevirtual 116, 3) := by decide +kernel
theorem dX7_stone_58 : decode cX7_stone 58 = .ok (.goto 12, 3) := by decide +kernel
theorem dX7_stone_61 : decode cX7_stone 61 = .ok (.aload_n 0, 1) := by decide +kernel
theorem dX7_stone_62 : decode cX7_stone 62 = .ok (.getfield 28, 3) := by decide +kernel
theorem dX7_stone_65 : decode cX7_stone 65 = .ok (.getfield 119, 3) := by decide +kernel
theorem dX7_stone_68 : decode cX7_stone 68 = .ok (.iload_n 1, 1) := by decide +kernel
theorem dX7_stone_69 : decode cX7_stone 69 = .ok (.iaload, 1) := by decide +kernel
theorem dX7_stone_70 : decode cX7_stone 70 = .ok (.ireturn, 1) := by decide +kernel
theorem dX7_set_0 : decode cX7_set 0 = .ok (.iload_n 1, 1) := by decide +kernel
theorem dX7_set_1 : decode cX7_set 1 = .ok (.iconst 0, 1) := by decide +kernel
theorem dX7_set_2 : decode cX7_set 2 = .ok (.iconst 1, 1) := by decide +kernel
theorem dX7_set_3 : decode cX7_set 3 = .ok (.invokestatic 62, 3) := by decide +kernel
theorem dX7_set_6 : decode cX7_set 6 = .ok (.ifCond .eq 22, 3) := by decide +kernel
theorem dX7_set_9 : decode cX7_set 9 = .ok (.iload_n 2, 1) := by decide +kernel
theorem dX7_set_10 : decode cX7_set 10 = .ok (.iconst 1, 1) := by decide +kernel
theorem dX7_set_11 : decode cX7_set 11 = .ok (.iload_n 1, 1) := by decide +kernel
theorem dX7_set_12 : decode cX7_set 12 = .ok (.ifCond .ne 8, 3) := by decide +kernel
theorem dX7_set_15 : decode cX7_set 15 = .ok (.bipush 24, 2) := by decide +kernel
theorem dX7_set_17 : decode cX7_set 17 = .ok (.goto 5, 3) := by decide +kernel
theorem dX7_set_20 : decode cX7_set 20 = .ok (.bipush 99, 2) := by decide +kernel
theorem dX7_set_22 : decode cX7_set 22 = .ok (.invokestatic 62, 3) := by decide +kernel
theorem dX7_set_25 : decode cX7_set 25 = .ok (.ifCond .ne 6, 3) := by decide +kernel
theorem dX7_set_28 : decode cX7_set 28 = .ok (.bipush (-2), 2) := by decide +kernel
theorem dX7_set_30 : decode cX7_set 30 = .ok (.ireturn, 1) := by decide +kernel
theorem dX7_set_31 : decode cX7_set 31 = .ok (.iload_n 1, 1) := by decide +kernel
theorem dX7_set_32 : decode cX7_set 32 = .ok (.ifCond .ne 13, 3) := by decide +kernel
theorem dX7_set_35 : decode cX7_set 35 = .ok (.aload_n 0, 1) := by decide +kernel
theorem dX7_set_36 : decode cX7_set 36 = .ok (.getfield 10, 3) := by decide +kernel
theorem dX7_set_39 : decode cX7_set 39 = .ok (.getfield 122, 3) := by decide +kernel
theorem dX7_set_42 : decode cX7_set 42 = .ok (.goto 10, 3) := by decide +kernel
theorem dX7_set_45 : decode cX7_set 45 = .ok (.aload_n 0, 1) := by decide +kernel
theorem dX7_set_46 : decode cX7_set 46 = .ok (.getfield 10, 3) := by decide +kernel
theorem dX7_set_49 : decode cX7_set 49 = .ok (.getfield 125, 3) := by decide +kernel
theorem dX7_set_52 : decode cX7_set 52 = .ok (.istore_n 3, 1) := by decide +kernel
theorem dX7_set_53 : decode cX7_set 53 = .ok (.iload_n 1, 1) := by decide +kernel
theorem dX7_set_54 : decode cX7_set 54 = .ok (.ifCond .ne 21, 3) := by decide +kernel
theorem dX7_set_57 : decode cX7_set 57 = .ok (.aload_n 0, 1) := by decide +kernel
theorem dX7_set_58 : decode cX7_set 58 = .ok (.getfield 10, 3) := by decide +kernel
theorem dX7_set_61 : decode cX7_set 61 = .ok (.iload_n 2, 1) := by decide +kernel
theorem dX7_set_62 : decode cX7_set 62 = .ok (.putfield 122, 3) := by decide +kernel
theorem dX7_set_65 : decode cX7_set 65 = .ok (.aload_n 0, 1) := by decide +kernel
theorem dX7_set_66 : decode cX7_set 66 = .ok (.getfield 28, 3) := by decide +kernel
theorem dX7_set_69 : decode cX7_set 69 = .ok (.invokevirtual 80, 3) := by decide +kernel
theorem dX7_set_72 : decode cX7_set 72 = .ok (.goto 11, 3) := by decide +kernel
theorem dX7_set_75 : decode cX7_set 75 = .ok (.aload_n 0, 1) := by decide +kernel
theorem dX7_set_76 : decode cX7_set 76 = .ok (.getfield 10, 3) := by decide +kernel
theorem dX7_set_79 : decode cX7_set 79 = .ok (.iload_n 2, 1) := by decide +kernel
theorem dX7_set_80 : decode cX7_set 80 = .ok (.putfield 125, 3) := by decide +kernel
theorem dX7_set_83 : decode cX7_set 83 = .ok (.iload_n 3, 1) := by decide +kernel
theorem dX7_set_84 : decode cX7_set 84 = .ok (.ireturn, 1) := by decide +kernel
theorem dX7_tide_0 : decode cX7_tide 0 = .ok (.iload_n 1, 1) := by decide +kernel
theorem dX7_tide_1 : decode cX7_tide 1 = .ok (.iconst 0, 1) := by decide +kernel
theorem dX7_tide_2 : decode cX7_tide 2 = .ok (.bipush 24, 2) := by decide +kernel
theorem dX7_tide_4 : decode cX7_tide 4 = .ok (.invokestatic 62, 3) := by decide +kernel
theorem dX7_tide_7 : decode cX7_tide 7 = .ok (.ifCond .eq 14, 3) := by decide +kernel
theorem dX7_tide_10 : decode cX7_tide 10 = .ok (.iload_n 2, 1) := by decide +kernel
theorem dX7_tide_11 : decode cX7_tide 11 = .ok (.bipush (-50), 2) := by decide +kernel
theorem dX7_tide_13 : decode cX7_tide 13 = .ok (.bipush 50, 2) := by decide +kernel
theorem dX7_tide_15 : decode cX7_tide 15 = .ok (.invokestatic 62, 3) := by decide +kernel
theorem dX7_tide_18 : decode cX7_tide 18 = .ok (.ifCond .ne 7, 3) := by decide +kernel
theorem dX7_tide_21 : decode cX7_tide 21 = .ok (.sipush (-10002), 3) := by decide +kernel
theorem dX7_tide_24 : decode cX7_tide 24 = .ok (.ireturn, 1) := by decide +kernel
theorem dX7_tide_25 : decode cX7_tide 25 = .ok (.aload_n 0, 1) := by decide +kernel
theorem dX7_tide_26 : decode cX7_tide 26 = .ok (.getfield 10, 3) := by decide +kernel
theorem dX7_tide_29 : decode cX7_tide 29 = .ok (.getfield 128, 3) := by decide +kernel
theorem dX7_tide_32 : decode cX7_tide 32 = .ok (.iload_n 1, 1) := by decide +kernel
theorem dX7_tide_33 : decode cX7_tide 33 = .ok (.iaload, 1) := by decide +kernel
theorem dX7_tide_34 : decode cX7_tide 34 = .ok (.istore_n 3, 1) := by decide +kernel
theorem dX7_tide_35 : decode cX7_tide 35 = .ok (.aload_n 0, 1) := by decide +kernel
theorem dX7_tide_36 : decode cX7_tide 36 = .ok (.getfield 10, 3) := by decide +kernel
theorem dX7_tide_39 : decode cX7_tide 39 = .ok (.getfield 128, 3) := by decide +kernel
theorem dX7_tide_42 : decode cX7_tide 42 = .ok (.iload_n 1, 1) := by decide +kernel
theorem dX7_tide_43 : decode cX7_tide 43 = .ok (.iload_n 2, 1) := by decide +kernel
theorem dX7_tide_44 : decode cX7_tide 44 = .ok (.iastore, 1) := by decide +kernel
theorem dX7_tide_45 : decode cX7_tide 45 = .ok (.iload_n 3, 1) := by decide +kernel
theorem dX7_tide_46 : decode cX7_tide 46 = .ok (.ireturn, 1) := by decide +kernel
theorem dX7_carry_0 : decode cX7_carry 0 = .ok (.iload_n 1, 1) := by decide +kernel
theorem dX7_carry_1 : decode cX7_carry 1 = .ok (.iload_n 2, 1) := by decide +kernel
theorem dX7_carry_2 : decode cX7_carry 2 = .ok (.iload_n 3, 1) := by decide +kernel
theorem dX7_carry_3 : decode cX7_carry 3 = .ok (.invokestatic 131, 3) := by decide +kernel
theorem dX7_carry_6 : decode cX7_carry 6 = .ok (.ifCond .ne 6, 3) := by decide +kernel
theorem dX7_carry_9 : decode cX7_carry 9 = .ok (.bipush (-2), 2) := by decide +kernel
theorem dX7_carry_11 : decode cX7_carry 11 = .ok (.ireturn, 1) := by decide +kernel
theorem dX7_carry_12 : decode cX7_carry 12 = .ok (.aload_n 0, 1) := by decide +kernel
theorem dX7_carry_13 : decode cX7_carry 13 = .ok (.getfield 19, 3) := by decide +kernel
theorem dX7_carry_16 : decode cX7_carry 16 = .ok (.invokevirtual 134, 3) := by decide +kernel
theorem dX7_carry_19 : decode cX7_carry 19 = .ok (.ifCond .eq 6, 3) := by decide +kernel
theorem dX7_carry_22 : decode cX7_carry 22 = .ok (.bipush (-4), 2) := by decide +kernel
theorem dX7_carry_24 : decode cX7_carry 24 = .ok (.ireturn, 1) := by decide +kernel
theorem dX7_carry_25 : decode cX7_carry 25 = .ok (.aload_n 0, 1) := by decide +kernel
theorem dX7_carry_26 : decode cX7_carry 26 = .ok (.getfield 19, 3) := by decide +kernel
theorem dX7_carry_29 : decode cX7_carry 29 = .ok (.iload_n 1, 1) := by decide +kernel
theorem dX7_carry_30 : decode cX7_carry 30 = .ok (.iload_n 2, 1) := by decide +kernel
theorem dX7_carry_31 : decode cX7_carry 31 = .ok (.iload_n 3, 1) := by decide +kernel
theorem dX7_carry_32 : decode cX7_carry 32 = .ok (.invokevirtual 135, 3) := by decide +kernel
theorem dX7_carry_35 : decode cX7_carry 35 = .ok (.aload_n 0, 1) := by decide +kernel
theorem dX7_carry_36 : decode cX7_carry 36 = .ok (.getfield 28, 3) := by decide +kernel
theorem dX7_carry_39 : decode cX7_carry 39 = .ok (.invokevirtual 80, 3) := by decide +kernel
theorem dX7_carry_42 : decode cX7_carry 42 = .ok (.aload_n 0, 1) := by decide +kernel
theorem dX7_carry_43 : decode cX7_carry 43 = .ok (.getfield 19, 3) := by decide +kernel
theorem dX7_carry_46 : decode cX7_carry 46 = .ok (.getfield 138, 3) := by decide +kernel
theorem dX7_carry_49 : decode cX7_carry 49 = .ok (.ireturn, 1) := by decide +kernel
theorem dX7_read_0 : decode cX7_read 0 = .ok (.aload_n 0, 1) := by decide +kernel
theorem dX7_read_1 : decode cX7_read 1 = .ok (.iload_n 1, 1) := by decide +kernel
theorem dX7_read_2 : decode cX7_read 2 = .ok (.invokevirtual 139, 3) := by decide +kernel
theorem dX7_read_5 : decode cX7_read 5 = .ok (.istore_n 2, 1) := by decide +kernel
theorem dX7_read_6 : decode cX7_read 6 = .ok (.iload_n 2, 1) := by decide +kernel
theorem dX7_read_7 : decode cX7_read 7 = .ok (.ifCond .eq 5, 3) := by decide +kernel
theorem dX7_read_10 : decode cX7_read 10 = .ok (.iload_n 2, 1) := by decide +kernel
theorem dX7_read_11 : decode cX7_read 11 = .ok (.ireturn, 1) := by decide +kernel
theorem dX7_read_12 : decode cX7_read 12 = .ok (.aload_n 0, 1) := by decide +kernel
theorem dX7_read_13 : decode cX7_read 13 = .ok (.getfield 53, 3) := by decide +kernel
theorem dX7_read_16 : decode cX7_read 16 = .ok (.iload_n 1, 1) := by decide +kernel
theorem dX7_read_17 : decode cX7_read 17 = .ok (.aaload, 1) := by decide +kernel
theorem dX7_read_18 : decode cX7_read 18 = .ok (.astore_n 3, 1) := by decide +kernel
theorem dX7_read_19 : decode cX7_read 19 = .ok (.aload_n 0, 1) := by decide +kernel
theorem dX7_read_20 : decode cX7_read 20 = .ok (.getfield 19, 3) := by decide +kernel
theorem dX7_read_23 : decode cX7_read 23 = .ok (.getfield 138, 3) := by decide +kernel
theorem dX7_read_26 : decode cX7_read 26 = .ok (.istore 4, 2) := by decide +kernel
theorem dX7_read_28 : decode cX7_read 28 = .ok (.iconst 0, 1) := by decide +kernel
theorem dX7_read_29 : decode cX7_read 29 = .ok (.istore 5, 2) := by decide +kernel
theorem dX7_read_31 : decode cX7_read 31 = .ok (.iload 5, 2) := by decide +kernel
theorem dX7_read_33 : decode cX7_read 33 = .ok (.iconst 2, 1) := by decide +kernel
theorem dX7_read_34 : decode cX7_read 34 = .ok (.iadd, 1) := by decide +kernel
theorem dX7_read_35 : decode cX7_read 35 = .ok (.aload_n 3, 1) := by decide +kernel
theorem dX7_read_36 : decode cX7_read 36 = .ok (.getfield 142, 3) := by decide +kernel
theorem dX7_read_39 : decode cX7_read 39 = .ok (.if_icmp .ge 78, 3) := by decide +kernel
theorem dX7_read_42 : decode cX7_read 42 = .ok (.aload_n 3, 1) := by decide +kernel
theorem dX7_read_43 : decode cX7_read 43 = .ok (.getfield 143, 3) := by decide +kernel
theorem dX7_read_46 : decode cX7_read 46 = .ok (.iload 5, 2) := by decide +kernel
theorem dX7_read_48 : decode cX7_read 48 = .ok (.iaload, 1) := by decide +kernel
theorem dX7_read_49 : decode cX7_read 49 = .ok (.istore 6, 2) := by decide +kernel
theorem dX7_read_51 : decode cX7_read 51 = .ok (.aload_n 3, 1) := by decide +kernel
theorem dX7_read_52 : decode cX7_read 52 = .ok (.getfield 143, 3) := by decide +kernel
theorem dX7_read_55 : decode cX7_read 55 = .ok (.iload 5, 2) := by decide +kernel
theorem dX7_read_57 : decode cX7_read 57 = .ok (.iconst 1, 1) := by decide +kernel
theorem dX7_read_58 : decode cX7_read 58 = .ok (.iadd, 1) := by decide +kernel
theorem dX7_read_59 : decode cX7_read 59 = .ok (.iaload, 1) := by decide +kernel
theorem dX7_read_60 : decode cX7_read 60 = .ok (.istore 7, 2) := by decide +kernel
theorem dX7_read_62 : decode cX7_read 62 = .ok (.aload_n 3, 1) := by decide +kernel
theorem dX7_read_63 : decode cX7_read 63 = .ok (.getfield 143, 3) := by decide +kernel
theorem dX7_read_66 : decode cX7_read 66 = .ok (.iload 5, 2) := by decide +kernel
theorem dX7_read_68 : decode cX7_read 68 = .ok (.iconst 2, 1) := by decide +kernel
theorem dX7_read_69 : decode cX7_read 69 = .ok (.iadd, 1) := by decide +kernel
theorem dX7_read_70 : decode cX7_read 70 = .ok (.iaload, 1) := by decide +kernel
theorem dX7_read_71 : decode cX7_read 71 = .ok (.istore 8, 2) := by decide +kernel
theorem dX7_read_73 : decode cX7_read 73 = .ok (.aload_n 0, 1) := by decide +kernel
theorem dX7_read_74 : decode cX7_read 74 = .ok (.getfield 19, 3) := by decide +kernel
theorem dX7_read_77 : decode cX7_read 77 = .ok (.invokevirtual 134, 3) := by decide +kernel
theorem dX7_read_80 : decode cX7_read 80 = .ok (.ifCond .ne 37, 3) := by decide +kernel
theorem dX7_read_83 : decode cX7_read 83 = .ok (.iload 6, 2) := by decide +kernel
theorem dX7_read_85 : decode cX7_read 85 = .ok (.iload 7, 2) := by decide +kernel
theorem dX7_read_87 : decode cX7_read 87 = .ok (.iload 8, 2) := by decide +kernel
theorem dX7_read_89 : decode cX7_read 89 = .ok (.invokestatic 131, 3) := by decide +kernel
theorem dX7_read_92 : decode cX7_read 92 = .ok (.ifCond .ne 6, 3) := by decide +kernel
theorem dX7_read_95 : decode cX7_read 95 = .ok (.goto 22, 3) := by decide +kernel
theorem dX7_read_98 : decode cX7_read 98 = .ok (.aload_n 0, 1) := by decide +kernel
theorem dX7_read_99 : decode cX7_read 99 = .ok (.getfield 19, 3) := by decide +kernel
theorem dX7_read_102 : decode cX7_read 102 = .ok (.iload 6, 2) := by decide +kernel
theorem dX7_read_104 : decode cX7_read 104 = .ok (.iload 7, 2) := by decide +kernel
theorem dX7_read_106 : decode cX7_read 106 = .ok (.iload 8, 2) := by decide +kernel
theorem dX7_read_108 : decode cX7_read 108 = .ok (.invokevirtual 135, 3) := by decide +kernel
theorem dX7_read_111 : decode cX7_read 111 = .ok (.iinc 5 3, 3) := by decide +kernel
theorem dX7_read_114 : decode cX7_read 114 = .ok (.goto (-83), 3) := by decide +kernel
theorem dX7_read_117 : decode cX7_read 117 = .ok (.aload_n 0, 1) := by decide +kernel
theorem dX7_read_118 : decode cX7_read 118 = .ok (.getfield 28, 3) := by decide +kernel
theorem dX7_read_121 : decode cX7_read 121 = .ok (.invokevirtual 80, 3) := by decide +kernel
theorem dX7_read_124 : decode cX7_read 124 = .ok (.aload_n 0, 1) := by decide +kernel
theorem dX7_read_125 : decode cX7_read 125 = .ok (.getfield 19, 3) := by decide +kernel
theorem dX7_read_128 : decode cX7_read 128 = .ok (.getfield 138, 3) := by decide +kernel
theorem dX7_read_131 : decode cX7_read 131 = .ok (.iload 4, 2) := by decide +kernel
theorem dX7_read_133 : decode cX7_read 133 = .ok (.isub, 1) := by decide +kernel
theorem dX7_read_134 : decode cX7_read 134 = .ok (.ireturn, 1) := by decide +kernel
theorem dX7_undo_0 : decode cX7_undo 0 = .ok (.aload_n 0, 1) := by decide +kernel
theorem dX7_undo_1 : decode cX7_undo 1 = .ok (.getfield 19, 3) := by decide +kernel
theorem dX7_undo_4 : decode cX7_undo 4 = .ok (.getfield 138, 3) := by decide +kernel
theorem dX7_undo_7 : decode cX7_undo 7 = .ok (.ifCond .ne 6, 3) := by decide +kernel
theorem dX7_undo_10 : decode cX7_undo 10 = .ok (.bipush (-3), 2) := by decide +kernel
theorem dX7_undo_12 : decode cX7_undo 12 = .ok (.ireturn, 1) := by decide +kernel
theorem dX7_undo_13 : decode cX7_undo 13 = .ok (.aload_n 0, 1) := by decide +kernel
theorem dX7_undo_14 : decode cX7_undo 14 = .ok (.getfield 19, 3) := by decide +kernel
theorem dX7_undo_17 : decode cX7_undo 17 = .ok (.dup, 1) := by decide +kernel
theorem dX7_undo_18 : decode cX7_undo 18 = .ok (.getfield 138, 3) := by decide +kernel
theorem dX7_undo_21 : decode cX7_undo 21 = .ok (.iconst 1, 1) := by decide +kernel
theorem dX7_undo_22 : decode cX7_undo 22 = .ok (.isub, 1) := by decide +kernel
theorem dX7_undo_23 : decode cX7_undo 23 = .ok (.putfield 138, 3) := by decide +kernel
theorem dX7_undo_26 : decode cX7_undo 26 = .ok (.aload_n 0, 1) := by decide +kernel
theorem dX7_undo_27 : decode cX7_undo 27 = .ok (.getfield 28, 3) := by decide +kernel
theorem dX7_undo_30 : decode cX7_undo 30 = .ok (.invokevirtual 80, 3) := by decide +kernel
theorem dX7_undo_33 : decode cX7_undo 33 = .ok (.aload_n 0, 1) := by decide +kernel
theorem dX7_undo_34 : decode cX7_undo 34 = .ok (.getfield 19, 3) := by decide +kernel
theorem dX7_undo_37 : decode cX7_undo 37 = .ok (.getfield 138, 3) := by decide +kernel
theorem dX7_undo_40 : decode cX7_undo 40 = .ok (.ireturn, 1) := by decide +kernel
theorem dX7_judged_0 : decode cX7_judged 0 = .ok (.iconst 0, 1) := by decide +kernel
theorem dX7_judged_1 : decode cX7_judged 1 = .ok (.istore_n 1, 1) := by decide +kernel
theorem dX7_judged_2 : decode cX7_judged 2 = .ok (.iload_n 1, 1) := by decide +kernel
theorem dX7_judged_3 : decode cX7_judged 3 = .ok (.aload_n 0, 1) := by decide +kernel
theorem dX7_judged_4 : decode cX7_judged 4 = .ok (.getfield 19, 3) := by decide +kernel
theorem dX7_judged_7 : decode cX7_judged 7 = .ok (.getfield 138, 3) := by decide +kernel
theorem dX7_judged_10 : decode cX7_judged 10 = .ok (.if_icmp .ge 24, 3) := by decide +kernel
theorem dX7_judged_13 : decode cX7_judged 13 = .ok (.aload_n 0, 1) := by decide +kernel
theorem dX7_judged_14 : decode cX7_judged 14 = .ok (.getfield 28, 3) := by decide +kernel
theorem dX7_judged_17 : decode cX7_judged 17 = .ok (.getfield 146, 3) := by decide +kernel
theorem dX7_judged_20 : decode cX7_judged 20 = .ok (.iload_n 1, 1) := by decide +kernel
theorem dX7_judged_21 : decode cX7_judged 21 = .ok (.iaload, 1) := by decide +kernel
theorem dX7_judged_22 : decode cX7_judged 22 = .ok (.iconst (-1), 1) := by decide +kernel
theorem dX7_judged_23 : decode cX7_judged 23 = .ok (.if_icmp .ne 5, 3) := by decide +kernel
theorem dX7_judged_26 : decode cX7_judged 26 = .ok (.iload_n 1, 1) := by decide +kernel
theorem dX7_judged_27 : decode cX7_judged 27 = .ok (.ireturn, 1) := by decide +kernel
theorem dX7_judged_28 : decode cX7_judged 28 = .ok (.iinc 1 1, 3) := by decide +kernel
theorem dX7_judged_31 : decode cX7_judged 31 = .ok (.goto (-29), 3) := by decide +kernel
theorem dX7_judged_34 : decode cX7_judged 34 = .ok (.iconst (-1), 1) := by decide +kernel
theorem dX7_judged_35 : decode cX7_judged 35 = .ok (.ireturn, 1) := by decide +kernel
theorem dX7_laid_0 : decode cX7_laid 0 = .ok (.iload_n 1, 1) := by decide +kernel
theorem dX7_laid_1 : decode cX7_laid 1 = .ok (.iconst 0, 1) := by decide +kernel
theorem dX7_laid_2 : decode cX7_laid 2 = .ok (.aload_n 0, 1) := by decide +kernel
theorem dX7_laid_3 : decode cX7_laid 3 = .ok (.getfield 19, 3) := by decide +kernel
theorem dX7_laid_6 : decode cX7_laid 6 = .ok (.getfield 138, 3) := by decide +kernel
theorem dX7_laid_9 : decode cX7_laid 9 = .ok (.iconst 1, 1) := by decide +kernel
theorem dX7_laid_10 : decode cX7_laid 10 = .ok (.isub, 1) := by decide +kernel
theorem dX7_laid_11 : decode cX7_laid 11 = .ok (.invokestatic 62, 3) := by decide +kernel
theorem dX7_laid_14 : decode cX7_laid 14 = .ok (.ifCond .eq 15, 3) := by decide +kernel
theorem dX7_laid_17 : decode cX7_laid 17 = .ok (.aload_n 0, 1) := by decide +kernel
theorem dX7_laid_18 : decode cX7_laid 18 = .ok (.getfield 28, 3) := by decide +kernel
theorem dX7_laid_21 : decode cX7_laid 21 = .ok (.getfield 146, 3) := by decide +kernel
theorem dX7_laid_24 : decode cX7_laid 24 = .ok (.iload_n 1, 1) := by decide +kernel
theorem dX7_laid_25 : decode cX7_laid 25 = .ok (.iaload, 1) := by decide +kernel
theorem dX7_laid_26 : decode cX7_laid 26 = .ok (.goto 5, 3) := by decide +kernel
theorem dX7_laid_29 : decode cX7_laid 29 = .ok (.bipush (-2), 2) := by decide +kernel
theorem dX7_laid_31 : decode cX7_laid 31 = .ok (.ireturn, 1) := by decide +kernel
theorem dX7_tip_0 : decode cX7_tip 0 = .ok (.iload_n 1, 1) := by decide +kernel
theorem dX7_tip_1 : decode cX7_tip 1 = .ok (.iconst 0, 1) := by decide +kernel
theorem dX7_tip_2 : decode cX7_tip 2 = .ok (.bipush 24, 2) := by decide +kernel
theorem dX7_tip_4 : decode cX7_tip 4 = .ok (.invokestatic 62, 3) := by decide +kernel
theorem dX7_tip_7 : decode cX7_tip 7 = .ok (.ifCond .eq 14, 3) := by decide +kernel
theorem dX7_tip_10 : decode cX7_tip 10 = .ok (.aload_n 0, 1) := by decide +kernel
theorem dX7_tip_11 : decode cX7_tip 11 = .ok (.getfield 28, 3) := by decide +kernel
theorem dX7_tip_14 : decode cX7_tip 14 = .ok (.iload_n 1, 1) := by decide +kernel
theorem dX7_tip_15 : decode cX7_tip 15 = .ok (.invokevirtual 149, 3) := by decide +kernel
theorem dX7_tip_18 : decode cX7_tip 18 = .ok (.goto 6, 3) := by decide +kernel
theorem dX7_tip_21 : decode cX7_tip 21 = .ok (.sipush (-10002), 3) := by decide +kernel
theorem dX7_tip_24 : decode cX7_tip 24 = .ok (.ireturn, 1) := by decide +kernel
theorem dX7_shelf_0 : decode cX7_shelf 0 = .ok (.iload_n 1, 1) := by decide +kernel
theorem dX7_shelf_1 : decode cX7_shelf 1 = .ok (.iconst 0, 1) := by decide +kernel
theorem dX7_shelf_2 : decode cX7_shelf 2 = .ok (.iconst 1, 1) := by decide +kernel
theorem dX7_shelf_3 : decode cX7_shelf 3 = .ok (.invokestatic 62, 3) := by decide +kernel
theorem dX7_shelf_6 : decode cX7_shelf 6 = .ok (.ifCond .eq 22, 3) := by decide +kernel
theorem dX7_shelf_9 : decode cX7_shelf 9 = .ok (.iload_n 2, 1) := by decide +kernel
theorem dX7_shelf_10 : decode cX7_shelf 10 = .ok (.iconst 1, 1) := by decide +kernel
theorem dX7_shelf_11 : decode cX7_shelf 11 = .ok (.iconst 5, 1) := by decide +kernel
theorem dX7_shelf_12 : decode cX7_shelf 12 = .ok (.invokestatic 62, 3) := by decide +kernel
theorem dX7_shelf_15 : decode cX7_shelf 15 = .ok (.ifCond .eq 13, 3) := by decide +kernel
theorem dX7_shelf_18 : decode cX7_shelf 18 = .ok (.iload_n 3, 1) := by decide +kernel
theorem dX7_shelf_19 : decode cX7_shelf 19 = .ok (.iconst 0, 1) := by decide +kernel
theorem dX7_shelf_20 : decode cX7_shelf 20 = .ok (.bipush 24, 2) := by decide +kernel
theorem dX7_shelf_22 : decode cX7_shelf 22 = .ok (.invokestatic 62, 3) := by decide +kernel
theorem dX7_shelf_25 : decode cX7_shelf 25 = .ok (.ifCond .ne 6, 3) := by decide +kernel
theorem dX7_shelf_28 : decode cX7_shelf 28 = .ok (.bipush (-2), 2) := by decide +kernel
theorem dX7_shelf_30 : decode cX7_shelf 30 = .ok (.ireturn, 1) := by decide +kernel
theorem dX7_shelf_31 : decode cX7_shelf 31 = .ok (.aload_n 0, 1) := by decide +kernel
theorem dX7_shelf_32 : decode cX7_shelf 32 = .ok (.getfield 28, 3) := by decide +kernel
theorem dX7_shelf_35 : decode cX7_shelf 35 = .ok (.iload_n 3, 1) := by decide +kernel
theorem dX7_shelf_36 : decode cX7_shelf 36 = .ok (.invokevirtual 152, 3) := by decide +kernel
theorem dX7_shelf_39 : decode cX7_shelf 39 = .ok (.aload_n 0, 1) := by decide +kernel
theorem dX7_shelf_40 : decode cX7_shelf 40 = .ok (.getfield 28, 3) := by decide +kernel
theorem dX7_shelf_43 : decode cX7_shelf 43 = .ok (.getfield 155, 3) := by decide +kernel
theorem dX7_shelf_46 : decode cX7_shelf 46 = .ok (.iload_n 1, 1) := by decide +kernel
theorem dX7_shelf_47 : decode cX7_shelf 47 = .ok (.iload_n 2, 1) := by decide +kernel
theorem dX7_shelf_48 : decode cX7_shelf 48 = .ok (.invokestatic 158, 3) := by decide +kernel
theorem dX7_shelf_51 : decode cX7_shelf 51 = .ok (.iaload, 1) := by decide +kernel
theorem dX7_shelf_52 : decode cX7_shelf 52 = .ok (.ireturn, 1) := by decide +kernel
theorem dX7_slid_0 : decode cX7_slid 0 = .ok (.iload_n 1, 1) := by decide +kernel
theorem dX7_slid_1 : decode cX7_slid 1 = .ok (.iconst 0, 1) := by decide +kernel
theorem dX7_slid_2 : decode cX7_slid 2 = .ok (.bipush 24, 2) := by decide +kernel
theorem dX7_slid_4 : decode cX7_slid 4 = .ok (.invokestatic 62, 3) := by decide +kernel
theorem dX7_slid_7 : decode cX7_slid 7 = .ok (.ifCond .ne 6, 3) := by decide +kernel
theorem dX7_slid_10 : decode cX7_slid 10 = .ok (.bipush (-2), 2) := by decide +kernel
theorem dX7_slid_12 : decode cX7_slid 12 = .ok (.ireturn, 1) := by decide +kernel
theorem dX7_slid_13 : decode cX7_slid 13 = .ok (.aload_n 0, 1) := by decide +kernel
theorem dX7_slid_14 : decode cX7_slid 14 = .ok (.getfield 28, 3) := by decide +kernel
theorem dX7_slid_17 : decode cX7_slid 17 = .ok (.iload_n 1, 1) := by decide +kernel
theorem dX7_slid_18 : decode cX7_slid 18 = .ok (.invokevirtual 152, 3) := by decide +kernel
theorem dX7_slid_21 : decode cX7_slid 21 = .ok (.aload_n 0, 1) := by decide +kernel
theorem dX7_slid_22 : decode cX7_slid 22 = .ok (.getfield 28, 3) := by decide +kernel
theorem dX7_slid_25 : decode cX7_slid 25 = .ok (.getfield 162, 3) := by decide +kernel
theorem dX7_slid_28 : decode cX7_slid 28 = .ok (.ireturn, 1) := by decide +kernel
theorem dX7_when_0 : decode cX7_when 0 = .ok (.iconst 0, 1) := by decide +kernel
theorem dX7_when_1 : decode cX7_when 1 = .ok (.istore_n 1, 1) := by decide +kernel
theorem dX7_when_2 : decode cX7_when 2 = .ok (.iload_n 1, 1) := by decide +kernel
theorem dX7_when_3 : decode cX7_when 3 = .ok (.aload_n 0, 1) := by decide +kernel
theorem dX7_when_4 : decode cX7_when 4 = .ok (.getfield 10, 3) := by decide +kernel
theorem dX7_when_7 : decode cX7_when 7 = .ok (.getfield 122, 3) := by decide +kernel
theorem dX7_when_10 : decode cX7_when 10 = .ok (.if_icmp .gt 22, 3) := by decide +kernel
theorem dX7_when_13 : decode cX7_when 13 = .ok (.aload_n 0, 1) := by decide +kernel
theorem dX7_when_14 : decode cX7_when 14 = .ok (.getfield 28, 3) := by decide +kernel
theorem dX7_when_17 : decode cX7_when 17 = .ok (.iload_n 1, 1) := by decide +kernel
theorem dX7_when_18 : decode cX7_when 18 = .ok (.invokevirtual 149, 3) := by decide +kernel
theorem dX7_when_21 : decode cX7_when 21 = .ok (.ifCond .le 5, 3) := by decide +kernel
theorem dX7_when_24 : decode cX7_when 24 = .ok (.iload_n 1, 1) := by decide +kernel
theorem dX7_when_25 : decode cX7_when 25 = .ok (.ireturn, 1) := by decide +kernel
theorem dX7_when_26 : decode cX7_when 26 = .ok (.iinc 1 1, 3) := by decide +kernel
theorem dX7_when_29 : decode cX7_when 29 = .ok (.goto (-27), 3) := by decide +kernel
theorem dX7_when_32 : decode cX7_when 32 = .ok (.iconst (-1), 1) := by decide +kernel
theorem dX7_when_33 : decode cX7_when 33 = .ok (.ireturn, 1) := by decide +kernel
theorem dX7_result_0 : decode cX7_result 0 = .ok (.iload_n 1, 1) := by decide +kernel
theorem dX7_result_1 : decode cX7_result 1 = .ok (.iconst 0, 1) := by decide +kernel
theorem dX7_result_2 : decode cX7_result 2 = .ok (.iconst 2, 1) := by decide +kernel
theorem dX7_result_3 : decode cX7_result 3 = .ok (.invokestatic 62, 3) := by decide +kernel
theorem dX7_result_6 : decode cX7_result 6 = .ok (.ifCond .ne 7, 3) := by decide +kernel
theorem dX7_result_9 : decode cX7_result 9 = .ok (.sipush (-10002), 3) := by decide +kernel
theorem dX7_result_12 : decode cX7_result 12 = .ok (.ireturn, 1) := by decide +kernel
theorem dX7_result_13 : decode cX7_result 13 = .ok (.aload_n 0, 1) := by decide +kernel
theorem dX7_result_14 : decode cX7_result 14 = .ok (.getfield 28, 3) := by decide +kernel
theorem dX7_result_17 : decode cX7_result 17 = .ok (.aload_n 0, 1) := by decide +kernel
theorem dX7_result_18 : decode cX7_result 18 = .ok (.getfield 10, 3) := by decide +kernel
theorem dX7_result_21 : decode cX7_result 21 = .ok (.getfield 122, 3) := by decide +kernel
theorem dX7_result_24 : decode cX7_result 24 = .ok (.invokevirtual 149, 3) := by decide +kernel
theorem dX7_result_27 : decode cX7_result 27 = .ok (.istore_n 2, 1) := by decide +kernel
theorem dX7_result_28 : decode cX7_result 28 = .ok (.iload_n 1, 1) := by decide +kernel
theorem dX7_result_29 : decode cX7_result 29 = .ok (.ifCond .ne 5, 3) := by decide +kernel
theorem dX7_result_32 : decode cX7_result 32 = .ok (.iload_n 2, 1) := by decide +kernel
theorem dX7_result_33 : decode cX7_result 33 = .ok (.ireturn, 1) := by decide +kernel
theorem dX7_result_34 : decode cX7_result 34 = .ok (.iload_n 1, 1) := by decide +kernel
theorem dX7_result_35 : decode cX7_result 35 = .ok (.iconst 1, 1) := by decide +kernel
theorem dX7_result_36 : decode cX7_result 36 = .ok (.if_icmp .ne 13, 3) := by decide +kernel
theorem dX7_result_39 : decode cX7_result 39 = .ok (.aload_n 0, 1) := by decide +kernel
theorem dX7_result_40 : decode cX7_result 40 = .ok (.getfield 28, 3) := by decide +kernel
theorem dX7_result_43 : decode cX7_result 43 = .ok (.invokevirtual 165, 3) := by decide +kernel
theorem dX7_result_46 : decode cX7_result 46 = .ok (.goto 10, 3) := by decide +kernel
theorem dX7_result_49 : decode cX7_result 49 = .ok (.aload_n 0, 1) := by decide +kernel
theorem dX7_result_50 : decode cX7_result 50 = .ok (.getfield 28, 3) := by decide +kernel
theorem dX7_result_53 : decode cX7_result 53 = .ok (.invokevirtual 169, 3) := by decide +kernel
theorem dX7_result_56 : decode cX7_result 56 = .ok (.ireturn, 1) := by decide +kernel
theorem dX7_without_0 : decode cX7_without 0 = .ok (.iload_n 1, 1) := by decide +kernel
theorem dX7_without_1 : decode cX7_without 1 = .ok (.iconst 0, 1) := by decide +kernel
theorem dX7_without_2 : decode cX7_without 2 = .ok (.aload_n 0, 1) := by decide +kernel
theorem dX7_without_3 : decode cX7_without 3 = .ok (.getfield 19, 3) := by decide +kernel
theorem dX7_without_6 : decode cX7_without 6 = .ok (.getfield 138, 3) := by decide +kernel
theorem dX7_without_9 : decode cX7_without 9 = .ok (.iconst 1, 1) := by decide +kernel
theorem dX7_without_10 : decode cX7_without 10 = .ok (.isub, 1) := by decide +kernel
theorem dX7_without_11 : decode cX7_without 11 = .ok (.invokestatic 62, 3) := by decide +kernel
theorem dX7_without_14 : decode cX7_without 14 = .ok (.ifCond .ne 7, 3) := by decide +kernel
theorem dX7_without_17 : decode cX7_without 17 = .ok (.sipush (-10002), 3) := by decide +kernel
theorem dX7_without_20 : decode cX7_without 20 = .ok (.ireturn, 1) := by decide +kernel
theorem dX7_without_21 : decode cX7_without 21 = .ok (.aload_n 0, 1) := by decide +kernel
theorem dX7_without_22 : decode cX7_without 22 = .ok (.getfield 32, 3) := by decide +kernel
theorem dX7_without_25 : decode cX7_without 25 = .ok (.iload_n 1, 1) := by decide +kernel
theorem dX7_without_26 : decode cX7_without 26 = .ok (.invokevirtual 172, 3) := by decide +kernel
theorem dX7_without_29 : decode cX7_without 29 = .ok (.aload_n 0, 1) := by decide +kernel
theorem dX7_without_30 : decode cX7_without 30 = .ok (.getfield 32, 3) := by decide +kernel
theorem dX7_without_33 : decode cX7_without 33 = .ok (.aload_n 0, 1) := by decide +kernel
theorem dX7_without_34 : decode cX7_without 34 = .ok (.getfield 10, 3) := by decide +kernel
theorem dX7_without_37 : decode cX7_without 37 = .ok (.getfield 122, 3) := by decide +kernel
theorem dX7_without_40 : decode cX7_without 40 = .ok (.invokevirtual 149, 3) := by decide +kernel
theorem dX7_without_43 : decode cX7_without 43 = .ok (.ireturn, 1) := by decide +kernel
theorem dX7_settled_0 : decode cX7_settled 0 = .ok (.aload_n 0, 1) := by decide +kernel
theorem dX7_settled_1 : decode cX7_settled 1 = .ok (.getfield 28, 3) := by decide +kernel
theorem dX7_settled_4 : decode cX7_settled 4 = .ok (.aload_n 0, 1) := by decide +kernel
theorem dX7_settled_5 : decode cX7_settled 5 = .ok (.getfield 10, 3) := by decide +kernel
theorem dX7_settled_8 : decode cX7_settled 8 = .ok (.getfield 122, 3) := by decide +kernel
theorem dX7_settled_11 : decode cX7_settled 11 = .ok (.invokevirtual 149, 3) := by decide +kernel
theorem dX7_settled_14 : decode cX7_settled 14 = .ok (.iconst 0, 1) := by decide +kernel
theorem dX7_settled_15 : decode cX7_settled 15 = .ok (.invokestatic 175, 3) := by decide +kernel
theorem dX7_settled_18 : decode cX7_settled 18 = .ok (.istore_n 1, 1) := by decide +kernel
theorem dX7_settled_19 : decode cX7_settled 19 = .ok (.iload_n 1, 1) := by decide +kernel
theorem dX7_settled_20 : decode cX7_settled 20 = .ok (.ifCond .ne 5, 3) := by decide +kernel
theorem dX7_settled_23 : decode cX7_settled 23 = .ok (.iconst (-1), 1) := by decide +kernel
theorem dX7_settled_24 : decode cX7_settled 24 = .ok (.ireturn, 1) := by decide +kernel
theorem dX7_settled_25 : decode cX7_settled 25 = .ok (.aload_n 0, 1) := by decide +kernel
theorem dX7_settled_26 : decode cX7_settled 26 = .ok (.getfield 10, 3) := by decide +kernel
theorem dX7_settled_29 : decode cX7_settled 29 = .ok (.getfield 122, 3) := by decide +kernel
theorem dX7_settled_32 : decode cX7_settled 32 = .ok (.istore_n 2, 1) := by decide +kernel
theorem dX7_settled_33 : decode cX7_settled 33 = .ok (.aload_n 0, 1) := by decide +kernel
theorem dX7_settled_34 : decode cX7_settled 34 = .ok (.getfield 10, 3) := by decide +kernel
theorem dX7_settled_37 : decode cX7_settled 37 = .ok (.getfield 122, 3) := by decide +kernel
theorem dX7_settled_40 : decode cX7_settled 40 = .ok (.iconst 1, 1) := by decide +kernel
theorem dX7_settled_41 : decode cX7_settled 41 = .ok (.isub, 1) := by decide +kernel
theorem dX7_settled_42 : decode cX7_settled 42 = .ok (.istore_n 3, 1) := by decide +kernel
theorem dX7_settled_43 : decode cX7_settled 43 = .ok (.iload_n 3, 1) := by decide +kernel
theorem dX7_settled_44 : decode cX7_settled 44 = .ok (.ifCond .lt 30, 3) := by decide +kernel
theorem dX7_settled_47 : decode cX7_settled 47 = .ok (.aload_n 0, 1) := by decide +kernel
theorem dX7_settled_48 : decode cX7_settled 48 = .ok (.getfield 28, 3) := by decide +kernel
theorem dX7_settled_51 : decode cX7_settled 51 = .ok (.iload_n 3, 1) := by decide +kernel
theorem dX7_settled_52 : decode cX7_settled 52 = .ok (.invokevirtual 149, 3) := by decide +kernel
theorem dX7_settled_55 : decode cX7_settled 55 = .ok (.iconst 0, 1) := by decide +kernel
theorem dX7_settled_56 : decode cX7_settled 56 = .ok (.invokestatic 175, 3) := by decide +kernel
theorem dX7_settled_59 : decode cX7_settled 59 = .ok (.iload_n 1, 1) := by decide +kernel
theorem dX7_settled_60 : decode cX7_settled 60 = .ok (.if_icmp .eq 6, 3) := by decide +kernel
theorem dX7_settled_63 : decode cX7_settled 63 = .ok (.goto 11, 3) := by decide +kernel
theorem dX7_settled_66 : decode cX7_settled 66 = .ok (.iload_n 3, 1) := by decide +kernel
theorem dX7_settled_67 : decode cX7_settled 67 = .ok (.istore_n 2, 1) := by decide +kernel
theorem dX7_settled_68 : decode cX7_settled 68 = .ok (.iinc 3 (-1), 3) := by decide +kernel
theorem dX7_settled_71 : decode cX7_settled 71 = .ok (.goto (-28), 3) := by decide +kernel
theorem dX7_settled_74 : decode cX7_settled 74 = .ok (.iload_n 2, 1) := by decide +kernel
theorem dX7_settled_75 : decode cX7_settled 75 = .ok (.ireturn, 1) := by decide +kernel
theorem dX7_doubles_0 : decode cX7_doubles 0 = .ok (.iconst 0, 1) := by decide +kernel
theorem dX7_doubles_1 : decode cX7_doubles 1 = .ok (.istore_n 1, 1) := by decide +kernel
theorem dX7_doubles_2 : decode cX7_doubles 2 = .ok (.iconst 0, 1) := by decide +kernel
theorem dX7_doubles_3 : decode cX7_doubles 3 = .ok (.istore_n 2, 1) := by decide +kernel
theorem dX7_doubles_4 : decode cX7_doubles 4 = .ok (.iconst 0, 1) := by decide +kernel
theorem dX7_doubles_5 : decode cX7_doubles 5 = .ok (.istore_n 3, 1) := by decide +kernel
theorem dX7_doubles_6 : decode cX7_doubles 6 = .ok (.iload_n 3, 1) := by decide +kernel
theorem dX7_doubles_7 : decode cX7_doubles 7 = .ok (.aload_n 0, 1) := by decide +kernel
theorem dX7_doubles_8 : decode cX7_doubles 8 = .ok (.getfield 19, 3) := by decide +kernel
theorem dX7_doubles_11 : decode cX7_doubles 11 = .ok (.getfield 138, 3) := by decide +kernel
theorem dX7_doubles_14 : decode cX7_doubles 14 = .ok (.if_icmp .ge 34, 3) := by decide +kernel
theorem dX7_doubles_17 : decode cX7_doubles 17 = .ok (.iconst 1, 1) := by decide +kernel
theorem dX7_doubles_18 : decode cX7_doubles 18 = .ok (.aload_n 0, 1) := by decide +kernel
theorem dX7_doubles_19 : decode cX7_doubles 19 = .ok (.getfield 19, 3) := by decide +kernel
theorem dX7_doubles_22 : decode cX7_doubles 22 = .ok (.getfield 180, 3) := by decide +kernel
theorem dX7_doubles_25 : decode cX7_doubles 25 = .ok (.iload_n 3, 1) := by decide +kernel
theorem dX7_doubles_26 : decode cX7_doubles 26 = .ok (.iaload, 1) := by decide +kernel
theorem dX7_doubles_27 : decode cX7_doubles 27 = .ok (.ishl, 1) := by decide +kernel
theorem dX7_doubles_28 : decode cX7_doubles 28 = .ok (.istore 4, 2) := by decide +kernel
theorem dX7_doubles_30 : decode cX7_doubles 30 = .ok (.iload_n 2, 1) := by decide +kernel
theorem dX7_doubles_31 : decode cX7_doubles 31 = .ok (.iload_n 1, 1) := by decide +kernel
theorem dX7_doubles_32 : decode cX7_doubles 32 = .ok (.iload 4, 2) := by decide +kernel
theorem dX7_doubles_34 : decode cX7_doubles 34 = .ok (.iand, 1) := by decide +kernel
theorem dX7_doubles_35 : decode cX7_doubles 35 = .ok (.ior, 1) := by decide +kernel
theorem dX7_doubles_36 : decode cX7_doubles 36 = .ok (.istore_n 2, 1) := by decide +kernel
theorem dX7_doubles_37 : decode cX7_doubles 37 = .ok (.iload_n 1, 1) := by decide +kernel
theorem dX7_doubles_38 : decode cX7_doubles 38 = .ok (.iload 4, 2) := by decide +kernel
theorem dX7_doubles_40 : decode cX7_doubles 40 = .ok (.ior, 1) := by decide +kernel
theorem dX7_doubles_41 : decode cX7_doubles 41 = .ok (.istore_n 1, 1) := by decide +kernel
theorem dX7_doubles_42 : decode cX7_doubles 42 = .ok (.iinc 3 1, 3) := by decide +kernel
theorem dX7_doubles_45 : decode cX7_doubles 45 = .ok (.goto (-39), 3) := by decide +kernel
theorem dX7_doubles_48 : decode cX7_doubles 48 = .ok (.iload_n 2, 1) := by decide +kernel
theorem dX7_doubles_49 : decode cX7_doubles 49 = .ok (.ireturn, 1) := by decide +kernel
theorem dX7_fewest_0 : decode cX7_fewest 0 = .ok (.iload_n 1, 1) := by decide +kernel
theorem dX7_fewest_1 : decode cX7_fewest 1 = .ok (.iconst 0, 1) := by decide +kernel
theorem dX7_fewest_2 : decode cX7_fewest 2 = .ok (.iconst 1, 1) := by decide +kernel
theorem dX7_fewest_3 : decode cX7_fewest 3 = .ok (.invokestatic 62, 3) := by decide +kernel
theorem dX7_fewest_6 : decode cX7_fewest 6 = .ok (.ifCond .ne 6, 3) := by decide +kernel
theorem dX7_fewest_9 : decode cX7_fewest 9 = .ok (.bipush (-2), 2) := by decide +kernel
theorem dX7_fewest_11 : decode cX7_fewest 11 = .ok (.ireturn, 1) := by decide +kernel
theorem dX7_fewest_12 : decode cX7_fewest 12 = .ok (.aload_n 0, 1) := by decide +kernel
theorem dX7_fewest_13 : decode cX7_fewest 13 = .ok (.invokevirtual 183, 3) := by decide +kernel
theorem dX7_fewest_16 : decode cX7_fewest 16 = .ok (.istore_n 2, 1) := by decide +kernel
theorem dX7_fewest_17 : decode cX7_fewest 17 = .ok (.iload_n 2, 1) := by decide +kernel
theorem dX7_fewest_18 : decode cX7_fewest 18 = .ok (.iconst (-1), 1) := by decide +kernel
theorem dX7_fewest_19 : decode cX7_fewest 19 = .ok (.if_icmp .ne 5, 3) := by decide +kernel
theorem dX7_fewest_22 : decode cX7_fewest 22 = .ok (.iconst (-1), 1) := by decide +kernel
theorem dX7_fewest_23 : decode cX7_fewest 23 = .ok (.ireturn, 1) := by decide +kernel
theorem dX7_fewest_24 : decode cX7_fewest 24 = .ok (.iload_n 1, 1) := by decide +kernel
theorem dX7_fewest_25 : decode cX7_fewest 25 = .ok (.ifCond .ne 10, 3) := by decide +kernel
theorem dX7_fewest_28 : decode cX7_fewest 28 = .ok (.iload_n 2, 1) := by decide +kernel
theorem dX7_fewest_29 : decode cX7_fewest 29 = .ok (.invokestatic 186, 3) := by decide +kernel
theorem dX7_fewest_32 : decode cX7_fewest 32 = .ok (.goto 4, 3) := by decide +kernel
theorem dX7_fewest_35 : decode cX7_fewest 35 = .ok (.iload_n 2, 1) := by decide +kernel
theorem dX7_fewest_36 : decode cX7_fewest 36 = .ok (.ireturn, 1) := by decide +kernel
theorem dX7_most_0 : decode cX7_most 0 = .ok (.iload_n 1, 1) := by decide +kernel
theorem dX7_most_1 : decode cX7_most 1 = .ok (.iconst 0, 1) := by decide +kernel
theorem dX7_most_2 : decode cX7_most 2 = .ok (.iconst 1, 1) := by decide +kernel
theorem dX7_most_3 : decode cX7_most 3 = .ok (.invokestatic 62, 3) := by decide +kernel
theorem dX7_most_6 : decode cX7_most 6 = .ok (.ifCond .eq 15, 3) := by decide +kernel
theorem dX7_most_9 : decode cX7_most 9 = .ok (.aload_n 0, 1) := by decide +kernel
theorem dX7_most_10 : decode cX7_most 10 = .ok (.getfield 40, 3) := by decide +kernel
theorem dX7_most_13 : decode cX7_most 13 = .ok (.iload_n 1, 1) := by decide +kernel
theorem dX7_most_14 : decode cX7_most 14 = .ok (.iconst (-1), 1) := by decide +kernel
theorem dX7_most_15 : decode cX7_most 15 = .ok (.invokevirtual 189, 3) := by decide +kernel
theorem dX7_most_18 : decode cX7_most 18 = .ok (.goto 5, 3) := by decide +kernel
theorem dX7_most_21 : decode cX7_most 21 = .ok (.bipush (-2), 2) := by decide +kernel
theorem dX7_most_23 : decode cX7_most 23 = .ok (.ireturn, 1) := by decide +kernel
theorem dX7_hold_0 : decode cX7_hold 0 = .ok (.iload_n 1, 1) := by decide +kernel
theorem dX7_hold_1 : decode cX7_hold 1 = .ok (.iconst 0, 1) := by decide +kernel
theorem dX7_hold_2 : decode cX7_hold 2 = .ok (.iconst 1, 1) := by decide +kernel
theorem dX7_hold_3 : decode cX7_hold 3 = .ok (.invokestatic 62, 3) := by decide +kernel
theorem dX7_hold_6 : decode cX7_hold 6 = .ok (.ifCond .ne 6, 3) := by decide +kernel
theorem dX7_hold_9 : decode cX7_hold 9 = .ok (.bipush (-2), 2) := by decide +kernel
theorem dX7_hold_11 : decode cX7_hold 11 = .ok (.ireturn, 1) := by decide +kernel
theorem dX7_hold_12 : decode cX7_hold 12 = .ok (.iconst (-1), 1) := by decide +kernel
theorem dX7_hold_13 : decode cX7_hold 13 = .ok (.istore_n 2, 1) := by decide +kernel
theorem dX7_hold_14 : decode cX7_hold 14 = .ok (.iconst 0, 1) := by decide +kernel
theorem dX7_hold_15 : decode cX7_hold 15 = .ok (.istore_n 3, 1) := by decide +kernel
theorem dX7_hold_16 : decode cX7_hold 16 = .ok (.iconst 0, 1) := by decide +kernel
theorem dX7_hold_17 : decode cX7_hold 17 = .ok (.istore 4, 2) := by decide +kernel
theorem dX7_hold_19 : decode cX7_hold 19 = .ok (.iload 4, 2) := by decide +kernel
theorem dX7_hold_21 : decode cX7_hold 21 = .ok (.aload_n 0, 1) := by decide +kernel
theorem dX7_hold_22 : decode cX7_hold 22 = .ok (.getfield 10, 3) := by decide +kernel
theorem dX7_hold_25 : decode cX7_hold 25 = .ok (.getfield 92, 3) := by decide +kernel
theorem dX7_hold_28 : decode cX7_hold 28 = .ok (.getfield 96, 3) := by decide +kernel
theorem dX7_hold_31 : decode cX7_hold 31 = .ok (.if_icmp .ge 51, 3) := by decide +kernel
theorem dX7_hold_34 : decode cX7_hold 34 = .ok (.aload_n 0, 1) := by decide +kernel
theorem dX7_hold_35 : decode cX7_hold 35 = .ok (.getfield 10, 3) := by decide +kernel
theorem dX7_hold_38 : decode cX7_hold 38 = .ok (.iload 4, 2) := by decide +kernel
theorem dX7_hold_40 : decode cX7_hold 40 = .ok (.invokevirtual 103, 3) := by decide +kernel
theorem dX7_hold_43 : decode cX7_hold 43 = .ok (.iload_n 1, 1) := by decide +kernel
theorem dX7_hold_44 : decode cX7_hold 44 = .ok (.if_icmp .ne 32, 3) := by decide +kernel
theorem dX7_hold_47 : decode cX7_hold 47 = .ok (.aload_n 0, 1) := by decide +kernel
theorem dX7_hold_48 : decode cX7_hold 48 = .ok (.getfield 40, 3) := by decide +kernel
theorem dX7_hold_51 : decode cX7_hold 51 = .ok (.iload_n 1, 1) := by decide +kernel
theorem dX7_hold_52 : decode cX7_hold 52 = .ok (.iload 4, 2) := by decide +kernel
theorem dX7_hold_54 : decode cX7_hold 54 = .ok (.invokevirtual 189, 3) := by decide +kernel
theorem dX7_hold_57 : decode cX7_hold 57 = .ok (.istore 5, 2) := by decide +kernel
theorem dX7_hold_59 : decode cX7_hold 59 = .ok (.iload_n 2, 1) := by decide +kernel
theorem dX7_hold_60 : decode cX7_hold 60 = .ok (.iconst (-1), 1) := by decide +kernel
theorem dX7_hold_61 : decode cX7_hold 61 = .ok (.if_icmp .eq 9, 3) := by decide +kernel
theorem dX7_hold_64 : decode cX7_hold 64 = .ok (.iload 5, 2) := by decide +kernel
theorem dX7_hold_66 : decode cX7_hold 66 = .ok (.iload_n 3, 1) := by decide +kernel
theorem dX7_hold_67 : decode cX7_hold 67 = .ok (.if_icmp .ge 9, 3) := by decide +kernel
theorem dX7_hold_70 : decode cX7_hold 70 = .ok (.iload 4, 2) := by decide +kernel
theorem dX7_hold_72 : decode cX7_hold 72 = .ok (.istore_n 2, 1) := by decide +kernel
theorem dX7_hold_73 : decode cX7_hold 73 = .ok (.iload 5, 2) := by decide +kernel
theorem dX7_hold_75 : decode cX7_hold 75 = .ok (.istore_n 3, 1) := by decide +kernel
theorem dX7_hold_76 : decode cX7_hold 76 = .ok (.iinc 4 1, 3) := by decide +kernel
theorem dX7_hold_79 : decode cX7_hold 79 = .ok (.goto (-60), 3) := by decide +kernel
theorem dX7_hold_82 : decode cX7_hold 82 = .ok (.iload_n 2, 1) := by decide +kernel
theorem dX7_hold_83 : decode cX7_hold 83 = .ok (.ireturn, 1) := by decide +kernel
theorem dX7_game_0 : decode cX7_game 0 = .ok (.iload_n 1, 1) := by decide +kernel
theorem dX7_game_1 : decode cX7_game 1 = .ok (.iconst 1, 1) := by decide +kernel
theorem dX7_game_2 : decode cX7_game 2 = .ok (.iconst 4, 1) := by decide +kernel
theorem dX7_game_3 : decode cX7_game 3 = .ok (.invokestatic 62, 3) := by decide +kernel
theorem dX7_game_6 : decode cX7_game 6 = .ok (.ifCond .eq 12, 3) := by decide +kernel
theorem dX7_game_9 : decode cX7_game 9 = .ok (.iload_n 2, 1) := by decide +kernel
theorem dX7_game_10 : decode cX7_game 10 = .ok (.iconst 0, 1) := by decide +kernel
theorem dX7_game_11 : decode cX7_game 11 = .ok (.iconst 1, 1) := by decide +kernel
theorem dX7_game_12 : decode cX7_game 12 = .ok (.invokestatic 62, 3) := by decide +kernel
theorem dX7_game_15 : decode cX7_game 15 = .ok (.ifCond .ne 7, 3) := by decide +kernel
theorem dX7_game_18 : decode cX7_game 18 = .ok (.sipush (-10002), 3) := by decide +kernel
theorem dX7_game_21 : decode cX7_game 21 = .ok (.ireturn, 1) := by decide +kernel
theorem dX7_game_22 : decode cX7_game 22 = .ok (.aload_n 0, 1) := by decide +kernel
theorem dX7_game_23 : decode cX7_game 23 = .ok (.iconst 0, 1) := by decide +kernel
theorem dX7_game_24 : decode cX7_game 24 = .ok (.invokevirtual 192, 3) := by decide +kernel
theorem dX7_game_27 : decode cX7_game 27 = .ok (.istore_n 3, 1) := by decide +kernel
theorem dX7_game_28 : decode cX7_game 28 = .ok (.aload_n 0, 1) := by decide +kernel
theorem dX7_game_29 : decode cX7_game 29 = .ok (.iconst 1, 1) := by decide +kernel
theorem dX7_game_30 : decode cX7_game 30 = .ok (.invokevirtual 192, 3) := by decide +kernel
theorem dX7_game_33 : decode cX7_game 33 = .ok (.istore 4, 2) := by decide +kernel
theorem dX7_game_35 : decode cX7_game 35 = .ok (.aload_n 0, 1) := by decide +kernel
theorem dX7_game_36 : decode cX7_game 36 = .ok (.getfield 28, 3) := by decide +kernel
theorem dX7_game_39 : decode cX7_game 39 = .ok (.aload_n 0, 1) := by decide +kernel
theorem dX7_game_40 : decode cX7_game 40 = .ok (.getfield 10, 3) := by decide +kernel
theorem dX7_game_43 : decode cX7_game 43 = .ok (.getfield 122, 3) := by decide +kernel
theorem dX7_game_46 : decode cX7_game 46 = .ok (.invokevirtual 149, 3) := by decide +kernel
theorem dX7_game_49 : decode cX7_game 49 = .ok (.istore 5, 2) := by decide +kernel
theorem dX7_game_51 : decode cX7_game 51 = .ok (.iload_n 2, 1) := by decide +kernel
theorem dX7_game_52 : decode cX7_game 52 = .ok (.ifCond .ne 20, 3) := by decide +kernel
theorem dX7_game_55 : decode cX7_game 55 = .ok (.aload_n 0, 1) := by decide +kernel
theorem dX7_game_56 : decode cX7_game 56 = .ok (.getfield 10, 3) := by decide +kernel
theorem dX7_game_59 : decode cX7_game 59 = .ok (.iload_n 1, 1) := by decide +kernel
theorem dX7_game_60 : decode cX7_game 60 = .ok (.iconst 0, 1) := by decide +kernel
theorem dX7_game_61 : decode cX7_game 61 = .ok (.iload_n 3, 1) := by decide +kernel
theorem dX7_game_62 : decode cX7_game 62 = .ok (.iload 4, 2) := by decide +kernel
theorem dX7_game_64 : decode cX7_game 64 = .ok (.iload 5, 2) := by decide +kernel
theorem dX7_game_66 : decode cX7_game 66 = .ok (.invokestatic 195, 3) := by decide +kernel
theorem dX7_game_69 : decode cX7_game 69 = .ok (.goto 13, 3) := by decide +kernel
theorem dX7_game_72 : decode cX7_game 72 = .ok (.aload_n 0, 1) := by decide +kernel
theorem dX7_game_73 : decode cX7_game 73 = .ok (.iload_n 1, 1) := by decide +kernel
theorem dX7_game_74 : decode cX7_game 74 = .ok (.iload_n 3, 1) := by decide +kernel
theorem dX7_game_75 : decode cX7_game 75 = .ok (.iload 4, 2) := by decide +kernel
theorem dX7_game_77 : decode cX7_game 77 = .ok (.iload 5, 2) := by decide +kernel
theorem dX7_game_79 : decode cX7_game 79 = .ok (.invokevirtual 199, 3) := by decide +kernel
theorem dX7_game_82 : decode cX7_game 82 = .ok (.ireturn, 1) := by decide +kernel
theorem dX7_arm_0 : decode cX7_arm 0 = .ok (.iload_n 1, 1) := by decide +kernel
theorem dX7_arm_1 : decode cX7_arm 1 = .ok (.iconst 0, 1) := by decide +kernel
theorem dX7_arm_2 : decode cX7_arm 2 = .ok (.bipush 7, 2) := by decide +kernel
theorem dX7_arm_4 : decode cX7_arm 4 = .ok (.invokestatic 62, 3) := by decide +kernel
theorem dX7_arm_7 : decode cX7_arm 7 = .ok (.ifCond .eq 12, 3) := by decide +kernel
theorem dX7_arm_10 : decode cX7_arm 10 = .ok (.iload_n 2, 1) := by decide +kernel
theorem dX7_arm_11 : decode cX7_arm 11 = .ok (.iconst 0, 1) := by decide +kernel
theorem dX7_arm_12 : decode cX7_arm 12 = .ok (.iconst 5, 1) := by decide +kernel
theorem dX7_arm_13 : decode cX7_arm 13 = .ok (.invokestatic 62, 3) := by decide +kernel
theorem dX7_arm_16 : decode cX7_arm 16 = .ok (.ifCond .ne 6, 3) := by decide +kernel
theorem dX7_arm_19 : decode cX7_arm 19 = .ok (.bipush (-2), 2) := by decide +kernel
theorem dX7_arm_21 : decode cX7_arm 21 = .ok (.ireturn, 1) := by decide +kernel
theorem dX7_arm_22 : decode cX7_arm 22 = .ok (.aload_n 0, 1) := by decide +kernel
theorem dX7_arm_23 : decode cX7_arm 23 = .ok (.getfield 10, 3) := by decide +kernel
theorem dX7_arm_26 : decode cX7_arm 26 = .ok (.getfield 203, 3) := by decide +kernel
theorem dX7_arm_29 : decode cX7_arm 29 = .ok (.iload_n 1, 1) := by decide +kernel
theorem dX7_arm_30 : decode cX7_arm 30 = .ok (.iaload, 1) := by decide +kernel
theorem dX7_arm_31 : decode cX7_arm 31 = .ok (.istore_n 3, 1) := by decide +kernel
theorem dX7_arm_32 : decode cX7_arm 32 = .ok (.aload_n 0, 1) := by decide +kernel
theorem dX7_arm_33 : decode cX7_arm 33 = .ok (.getfield 10, 3) := by decide +kernel
theorem dX7_arm_36 : decode cX7_arm 36 = .ok (.getfield 203, 3) := by decide +kernel
theorem dX7_arm_39 : decode cX7_arm 39 = .ok (.iload_n 1, 1) := by decide +kernel
theorem dX7_arm_40 : decode cX7_arm 40 = .ok (.iload_n 2, 1) := by decide +kernel
theorem dX7_arm_41 : decode cX7_arm 41 = .ok (.iastore, 1) := by decide +kernel
theorem dX7_arm_42 : decode cX7_arm 42 = .ok (.iload_n 3, 1) := by decide +kernel
theorem dX7_arm_43 : decode cX7_arm 43 = .ok (.ireturn, 1) := by decide +kernel
theorem dX7_secret_0 : decode cX7_secret 0 = .ok (.iload_n 1, 1) := by decide +kernel
theorem dX7_secret_1 : decode cX7_secret 1 = .ok (.sipush (-999), 3) := by decide +kernel
theorem dX7_secret_4 : decode cX7_secret 4 = .ok (.sipush 999, 3) := by decide +kernel
theorem dX7_secret_7 : decode cX7_secret 7 = .ok (.invokestatic 62, 3) := by decide +kernel
theorem dX7_secret_10 : decode cX7_secret 10 = .ok (.ifCond .eq 12, 3) := by decide +kernel
theorem dX7_secret_13 : decode cX7_secret 13 = .ok (.iload_n 2, 1) := by decide +kernel
theorem dX7_secret_14 : decode cX7_secret 14 = .ok (.iconst 0, 1) := by decide +kernel
theorem dX7_secret_15 : decode cX7_secret 15 = .ok (.iconst 2, 1) := by decide +kernel
theorem dX7_secret_16 : decode cX7_secret 16 = .ok (.invokestatic 62, 3) := by decide +kernel
theorem dX7_secret_19 : decode cX7_secret 19 = .ok (.ifCond .ne 6, 3) := by decide +kernel
theorem dX7_secret_22 : decode cX7_secret 22 = .ok (.bipush (-2), 2) := by decide +kernel
theorem dX7_secret_24 : decode cX7_secret 24 = .ok (.ireturn, 1) := by decide +kernel
theorem dX7_secret_25 : decode cX7_secret 25 = .ok (.aload_n 0, 1) := by decide +kernel
theorem dX7_secret_26 : decode cX7_secret 26 = .ok (.getfield 47, 3) := by decide +kernel
theorem dX7_secret_29 : decode cX7_secret 29 = .ok (.iload_n 1, 1) := by decide +kernel
theorem dX7_secret_30 : decode cX7_secret 30 = .ok (.invokevirtual 206, 3) := by decide +kernel
theorem dX7_secret_33 : decode cX7_secret 33 = .ok (.iload_n 2, 1) := by decide +kernel
theorem dX7_secret_34 : decode cX7_secret 34 = .ok (.ifCond .ne 11, 3) := by decide +kernel
theorem dX7_secret_37 : decode cX7_secret 37 = .ok (.aload_n 0, 1) := by decide +kernel
theorem dX7_secret_38 : decode cX7_secret 38 = .ok (.getfield 47, 3) := by decide +kernel
theorem dX7_secret_41 : decode cX7_secret 41 = .ok (.getfield 209, 3) := by decide +kernel
theorem dX7_secret_44 : decode cX7_secret 44 = .ok (.ireturn, 1) := by decide +kernel
theorem dX7_secret_45 : decode cX7_secret 45 = .ok (.iload_n 2, 1) := by decide +kernel
theorem dX7_secret_46 : decode cX7_secret 46 = .ok (.iconst 1, 1) := by decide +kernel
theorem dX7_secret_47 : decode cX7_secret 47 = .ok (.if_icmp .ne 13, 3) := by decide +kernel
theorem dX7_secret_50 : decode cX7_secret 50 = .ok (.aload_n 0, 1) := by decide +kernel
theorem dX7_secret_51 : decode cX7_secret 51 = .ok (.getfield 47, 3) := by decide +kernel
theorem dX7_secret_54 : decode cX7_secret 54 = .ok (.getfield 212, 3) := by decide +kernel
theorem dX7_secret_57 : decode cX7_secret 57 = .ok (.goto 10, 3) := by decide +kernel
theorem dX7_secret_60 : decode cX7_secret 60 = .ok (.aload_n 0, 1) := by decide +kernel
theorem dX7_secret_61 : decode cX7_secret 61 = .ok (.getfield 47, 3) := by decide +kernel
theorem dX7_secret_64 : decode cX7_secret 64 = .ok (.getfield 215, 3) := by decide +kernel
theorem dX7_secret_67 : decode cX7_secret 67 = .ok (.ireturn, 1) := by decide +kernel
theorem dX7_sheet_0 : decode cX7_sheet 0 = .ok (.iload_n 1, 1) := by decide +kernel
theorem dX7_sheet_1 : decode cX7_sheet 1 = .ok (.iconst 0, 1) := by decide +kernel
theorem dX7_sheet_2 : decode cX7_sheet 2 = .ok (.iconst 3, 1) := by decide +kernel
theorem dX7_sheet_3 : decode cX7_sheet 3 = .ok (.invokestatic 62, 3) := by decide +kernel
theorem dX7_sheet_6 : decode cX7_sheet 6 = .ok (.ifCond .eq 18, 3) := by decide +kernel
theorem dX7_sheet_9 : decode cX7_sheet 9 = .ok (.iload_n 2, 1) := by decide +kernel
theorem dX7_sheet_10 : decode cX7_sheet 10 = .ok (.iconst 0, 1) := by decide +kernel
theorem dX7_sheet_11 : decode cX7_sheet 11 = .ok (.iconst 2, 1) := by decide +kernel
theorem dX7_sheet_12 : decode cX7_sheet 12 = .ok (.invokestatic 62, 3) := by decide +kernel
theorem dX7_sheet_15 : decode cX7_sheet 15 = .ok (.ifCond .eq 9, 3) := by decide +kernel
theorem dX7_sheet_18 : decode cX7_sheet 18 = .ok (.iload_n 3, 1) := by decide +kernel
theorem dX7_sheet_19 : decode cX7_sheet 19 = .ok (.bipush 60, 2) := by decide +kernel
theorem dX7_sheet_21 : decode cX7_sheet 21 = .ok (.if_icmp .le 6, 3) := by decide +kernel
theorem dX7_sheet_24 : decode cX7_sheet 24 = .ok (.bipush (-2), 2) := by decide +kernel
theorem dX7_sheet_26 : decode cX7_sheet 26 = .ok (.ireturn, 1) := by decide +kernel
theorem dX7_sheet_27 : decode cX7_sheet 27 = .ok (.iload_n 3, 1) := by decide +kernel
theorem dX7_sheet_28 : decode cX7_sheet 28 = .ok (.ifCond .ge 9, 3) := by decide +kernel
theorem dX7_sheet_31 : decode cX7_sheet 31 = .ok (.aload_n 0, 1) := by decide +kernel
theorem dX7_sheet_32 : decode cX7_sheet 32 = .ok (.iconst 5, 1) := by decide +kernel
theorem dX7_sheet_33 : decode cX7_sheet 33 = .ok (.invokevirtual 218, 3) := by decide +kernel
theorem dX7_sheet_36 : decode cX7_sheet 36 = .ok (.ireturn, 1) := by decide +kernel
theorem dX7_sheet_37 : decode cX7_sheet 37 = .ok (.aload_n 0, 1) := by decide +kernel
theorem dX7_sheet_38 : decode cX7_sheet 38 = .ok (.getfield 53, 3) := by decide +kernel
theorem dX7_sheet_41 : decode cX7_sheet 41 = .ok (.iload_n 1, 1) := by decide +kernel
theorem dX7_sheet_42 : decode cX7_sheet 42 = .ok (.aaload, 1) := by decide +kernel
theorem dX7_sheet_43 : decode cX7_sheet 43 = .ok (.iload_n 2, 1) := by decide +kernel
theorem dX7_sheet_44 : decode cX7_sheet 44 = .ok (.iload_n 3, 1) := by decide +kernel
theorem dX7_sheet_45 : decode cX7_sheet 45 = .ok (.invokevirtual 221, 3) := by decide +kernel
theorem dX7_sheet_48 : decode cX7_sheet 48 = .ok (.iload_n 3, 1) := by decide +kernel
theorem dX7_sheet_49 : decode cX7_sheet 49 = .ok (.ireturn, 1) := by decide +kernel
theorem dX7_lose_0 : decode cX7_lose 0 = .ok (.aload_n 0, 1) := by decide +kernel
theorem dX7_lose_1 : decode cX7_lose 1 = .ok (.iload_n 1, 1) := by decide +kernel
theorem dX7_lose_2 : decode cX7_lose 2 = .ok (.invokevirtual 139, 3) := by decide +kernel
theorem dX7_lose_5 : decode cX7_lose 5 = .ok (.istore_n 2, 1) := by decide +kernel
theorem dX7_lose_6 : decode cX7_lose 6 = .ok (.iload_n 2, 1) := by decide +kernel
theorem dX7_lose_7 : decode cX7_lose 7 = .ok (.ifCond .eq 5, 3) := by decide +kernel
theorem dX7_lose_10 : decode cX7_lose 10 = .ok (.iload_n 2, 1) := by decide +kernel
theorem dX7_lose_11 : decode cX7_lose 11 = .ok (.ireturn, 1) := by decide +kernel
theorem dX7_lose_12 : decode cX7_lose 12 = .ok (.aload_n 0, 1) := by decide +kernel
theorem dX7_lose_13 : decode cX7_lose 13 = .ok (.getfield 53, 3) := by decide +kernel
theorem dX7_lose_16 : decode cX7_lose 16 = .ok (.iload_n 1, 1) := by decide +kernel
theorem dX7_lose_17 : decode cX7_lose 17 = .ok (.aaload, 1) := by decide +kernel
theorem dX7_lose_18 : decode cX7_lose 18 = .ok (.getfield 142, 3) := by decide +kernel
theorem dX7_lose_21 : decode cX7_lose 21 = .ok (.istore_n 3, 1) := by decide +kernel
theorem dX7_lose_22 : decode cX7_lose 22 = .ok (.aload_n 0, 1) := by decide +kernel
theorem dX7_lose_23 : decode cX7_lose 23 = .ok (.getfield 53, 3) := by decide +kernel
theorem dX7_lose_26 : decode cX7_lose 26 = .ok (.iload_n 1, 1) := by decide +kernel
theorem dX7_lose_27 : decode cX7_lose 27 = .ok (.aaload, 1) := by decide +kernel
theorem dX7_lose_28 : decode cX7_lose 28 = .ok (.iconst (-1), 1) := by decide +kernel
theorem dX7_lose_29 : decode cX7_lose 29 = .ok (.putfield 142, 3) := by decide +kernel
theorem dX7_lose_32 : decode cX7_lose 32 = .ok (.iload_n 3, 1) := by decide +kernel
theorem dX7_lose_33 : decode cX7_lose 33 = .ok (.ireturn, 1) := by decide +kernel
theorem dX7_lay_0 : decode cX7_lay 0 = .ok (.aload_n 0, 1) := by decide +kernel
theorem dX7_lay_1 : decode cX7_lay 1 = .ok (.iload_n 1, 1) := by decide +kernel
theorem dX7_lay_2 : decode cX7_lay 2 = .ok (.iload_n 2, 1) := by decide +kernel
theorem dX7_lay_3 : decode cX7_lay 3 = .ok (.iload_n 3, 1) := by decide +kernel
theorem dX7_lay_4 : decode cX7_lay 4 = .ok (.invokevirtual 225, 3) := by decide +kernel
theorem dX7_lay_7 : decode cX7_lay 7 = .ok (.istore 5, 2) := by decide +kernel
theorem dX7_lay_9 : decode cX7_lay 9 = .ok (.iload 5, 2) := by decide +kernel
theorem dX7_lay_11 : decode cX7_lay 11 = .ok (.ifCond .eq 6, 3) := by decide +kernel
theorem dX7_lay_14 : decode cX7_lay 14 = .ok (.iload 5, 2) := by decide +kernel
theorem dX7_lay_16 : decode cX7_lay 16 = .ok (.ireturn, 1) := by decide +kernel
theorem dX7_lay_17 : decode cX7_lay 17 = .ok (.aload_n 0, 1) := by decide +kernel
theorem dX7_lay_18 : decode cX7_lay 18 = .ok (.getfield 53, 3) := by decide +kernel
theorem dX7_lay_21 : decode cX7_lay 21 = .ok (.iload_n 1, 1) := by decide +kernel
theorem dX7_lay_22 : decode cX7_lay 22 = .ok (.aaload, 1) := by decide +kernel
theorem dX7_lay_23 : decode cX7_lay 23 = .ok (.iload_n 3, 1) := by decide +kernel
theorem dX7_lay_24 : decode cX7_lay 24 = .ok (.iload 4, 2) := by decide +kernel
theorem dX7_lay_26 : decode cX7_lay 26 = .ok (.invokevirtual 229, 3) := by decide +kernel
theorem dX7_lay_29 : decode cX7_lay 29 = .ok (.iconst 1, 1) := by decide +kernel
theorem dX7_lay_30 : decode cX7_lay 30 = .ok (.ireturn, 1) := by decide +kernel
theorem dX7_get_0 : decode cX7_get 0 = .ok (.aload_n 0, 1) := by decide +kernel
theorem dX7_get_1 : decode cX7_get 1 = .ok (.iload_n 1, 1) := by decide +kernel
theorem dX7_get_2 : decode cX7_get 2 = .ok (.iload_n 2, 1) := by decide +kernel
theorem dX7_get_3 : decode cX7_get 3 = .ok (.iload_n 3, 1) := by decide +kernel
theorem dX7_get_4 : decode cX7_get 4 = .ok (.invokevirtual 225, 3) := by decide +kernel
theorem dX7_get_7 : decode cX7_get 7 = .ok (.ifCond .ne 17, 3) := by decide +kernel
theorem dX7_get_10 : decode cX7_get 10 = .ok (.aload_n 0, 1) := by decide +kernel
theorem dX7_get_11 : decode cX7_get 11 = .ok (.getfield 53, 3) := by decide +kernel
theorem dX7_get_14 : decode cX7_get 14 = .ok (.iload_n 1, 1) := by decide +kernel
theorem dX7_get_15 : decode cX7_get 15 = .ok (.aaload, 1) := by decide +kernel
theorem dX7_get_16 : decode cX7_get 16 = .ok (.getfield 143, 3) := by decide +kernel
theorem dX7_get_19 : decode cX7_get 19 = .ok (.iload_n 3, 1) := by decide +kernel
theorem dX7_get_20 : decode cX7_get 20 = .ok (.iaload, 1) := by decide +kernel
theorem dX7_get_21 : decode cX7_get 21 = .ok (.goto 5, 3) := by decide +kernel
theorem dX7_get_24 : decode cX7_get 24 = .ok (.ldc 232, 2) := by decide +kernel
theorem dX7_get_26 : decode cX7_get 26 = .ok (.ireturn, 1) := by decide +kernel
theorem dX7_copy_0 : decode cX7_copy 0 = .ok (.iload_n 1, 1) := by decide +kernel
theorem dX7_copy_1 : decode cX7_copy 1 = .ok (.iconst 0, 1) := by decide +kernel
theorem dX7_copy_2 : decode cX7_copy 2 = .ok (.iconst 3, 1) := by decide +kernel
theorem dX7_copy_3 : decode cX7_copy 3 = .ok (.invokestatic 62, 3) := by decide +kernel
theorem dX7_copy_6 : decode cX7_copy 6 = .ok (.ifCond .eq 12, 3) := by decide +kernel
theorem dX7_copy_9 : decode cX7_copy 9 = .ok (.iload_n 3, 1) := by decide +kernel
theorem dX7_copy_10 : decode cX7_copy 10 = .ok (.iconst 0, 1) := by decide +kernel
theorem dX7_copy_11 : decode cX7_copy 11 = .ok (.iconst 3, 1) := by decide +kernel
theorem dX7_copy_12 : decode cX7_copy 12 = .ok (.invokestatic 62, 3) := by decide +kernel
theorem dX7_copy_15 : decode cX7_copy 15 = .ok (.ifCond .ne 6, 3) := by decide +kernel
theorem dX7_copy_18 : decode cX7_copy 18 = .ok (.bipush (-2), 2) := by decide +kernel
theorem dX7_copy_20 : decode cX7_copy 20 = .ok (.ireturn, 1) := by decide +kernel
theorem dX7_copy_21 : decode cX7_copy 21 = .ok (.aload_n 0, 1) := by decide +kernel
theorem dX7_copy_22 : decode cX7_copy 22 = .ok (.getfield 53, 3) := by decide +kernel
theorem dX7_copy_25 : decode cX7_copy 25 = .ok (.iload_n 1, 1) := by decide +kernel
theorem dX7_copy_26 : decode cX7_copy 26 = .ok (.aaload, 1) := by decide +kernel
theorem dX7_copy_27 : decode cX7_copy 27 = .ok (.astore 6, 2) := by decide +kernel
theorem dX7_copy_29 : decode cX7_copy 29 = .ok (.aload_n 0, 1) := by decide +kernel
theorem dX7_copy_30 : decode cX7_copy 30 = .ok (.getfield 53, 3) := by decide +kernel
theorem dX7_copy_33 : decode cX7_copy 33 = .ok (.iload_n 3, 1) := by decide +kernel
theorem dX7_copy_34 : decode cX7_copy 34 = .ok (.aaload, 1) := by decide +kernel
theorem dX7_copy_35 : decode cX7_copy 35 = .ok (.astore 7, 2) := by decide +kernel
theorem dX7_copy_37 : decode cX7_copy 37 = .ok (.aload 6, 2) := by decide +kernel
theorem dX7_copy_39 : decode cX7_copy 39 = .ok (.invokevirtual 233, 3) := by decide +kernel
theorem dX7_copy_42 : decode cX7_copy 42 = .ok (.ifCond .ne 11, 3) := by decide +kernel
theorem dX7_copy_45 : decode cX7_copy 45 = .ok (.aload 7, 2) := by decide +kernel
theorem dX7_copy_47 : decode cX7_copy 47 = .ok (.invokevirtual 233, 3) := by decide +kernel
theorem dX7_copy_50 : decode cX7_copy 50 = .ok (.ifCond .eq 9, 3) := by decide +kernel
theorem dX7_copy_53 : decode cX7_copy 53 = .ok (.aload_n 0, 1) := by decide +kernel
theorem dX7_copy_54 : decode cX7_copy 54 = .ok (.iconst 1, 1) := by decide +kernel
theorem dX7_copy_55 : decode cX7_copy 55 = .ok (.invokevirtual 218, 3) := by decide +kernel
theorem dX7_copy_58 : decode cX7_copy 58 = .ok (.ireturn, 1) := by decide +kernel
theorem dX7_copy_59 : decode cX7_copy 59 = .ok (.aload 6, 2) := by decide +kernel
theorem dX7_copy_61 : decode cX7_copy 61 = .ok (.getfield 236, 3) := by decide +kernel
theorem dX7_copy_64 : decode cX7_copy 64 = .ok (.aload 7, 2) := by decide +kernel
theorem dX7_copy_66 : decode cX7_copy 66 = .ok (.getfield 236, 3) := by decide +kernel
theorem dX7_copy_69 : decode cX7_copy 69 = .ok (.if_icmp .eq 9, 3) := by decide +kernel
theorem dX7_copy_72 : decode cX7_copy 72 = .ok (.aload_n 0, 1) := by decide +kernel
theorem dX7_copy_73 : decode cX7_copy 73 = .ok (.iconst 4, 1) := by decide +kernel
theorem dX7_copy_74 : decode cX7_copy 74 = .ok (.invokevirtual 218, 3) := by decide +kernel
theorem dX7_copy_77 : decode cX7_copy 77 = .ok (.ireturn, 1) := by decide +kernel
theorem dX7_copy_78 : decode cX7_copy 78 = .ok (.aload 6, 2) := by decide +kernel
theorem dX7_copy_80 : decode cX7_copy 80 = .ok (.iload_n 2, 1) := by decide +kernel
theorem dX7_copy_81 : decode cX7_copy 81 = .ok (.iload 5, 2) := by decide +kernel
theorem dX7_copy_83 : decode cX7_copy 83 = .ok (.invokevirtual 239, 3) := by decide +kernel
theorem dX7_copy_86 : decode cX7_copy 86 = .ok (.ifCond .eq 15, 3) := by decide +kernel
theorem dX7_copy_89 : decode cX7_copy 89 = .ok (.aload 7, 2) := by decide +kernel
theorem dX7_copy_91 : decode cX7_copy 91 = .ok (.iload 4, 2) := by decide +kernel
theorem dX7_copy_93 : decode cX7_copy 93 = .ok (.iload 5, 2) := by decide +kernel
theorem dX7_copy_95 : decode cX7_copy 95 = .ok (.invokevirtual 239, 3) := by decide +kernel
theorem dX7_copy_98 : decode cX7_copy 98 = .ok (.ifCond .ne 9, 3) := by decide +kernel
theorem dX7_copy_101 : decode cX7_copy 101 = .ok (.aload_n 0, 1) := by decide +kernel
theorem dX7_copy_102 : decode cX7_copy 102 = .ok (.iconst 2, 1) := by decide +kernel
theorem dX7_copy_103 : decode cX7_copy 103 = .ok (.invokevirtual 218, 3) := by decide +kernel
theorem dX7_copy_106 : decode cX7_copy 106 = .ok (.ireturn, 1) := by decide +kernel
theorem dX7_copy_107 : decode cX7_copy 107 = .ok (.aload 6, 2) := by decide +kernel
theorem dX7_copy_109 : decode cX7_copy 109 = .ok (.getfield 143, 3) := by decide +kernel
theorem dX7_copy_112 : decode cX7_copy 112 = .ok (.iload_n 2, 1) := by decide +kernel
theorem dX7_copy_113 : decode cX7_copy 113 = .ok (.aload 7, 2) := by decide +kernel
theorem dX7_copy_115 : decode cX7_copy 115 = .ok (.getfield 143, 3) := by decide +kernel
theorem dX7_copy_118 : decode cX7_copy 118 = .ok (.iload 4, 2) := by decide +kernel
theorem dX7_copy_120 : decode cX7_copy 120 = .ok (.iload 5, 2) := by decide +kernel
theorem dX7_copy_122 : decode cX7_copy 122 = .ok (.invokestatic 243, 3) := by decide +kernel
theorem dX7_copy_125 : decode cX7_copy 125 = .ok (.iconst 1, 1) := by decide +kernel
theorem dX7_copy_126 : decode cX7_copy 126 = .ok (.ireturn, 1) := by decide +kernel
theorem dX7_write_0 : decode cX7_write 0 = .ok (.aload_n 0, 1) := by decide +kernel
theorem dX7_write_1 : decode cX7_write 1 = .ok (.iload_n 1, 1) := by decide +kernel
theorem dX7_write_2 : decode cX7_write 2 = .ok (.invokevirtual 139, 3) := by decide +kernel
theorem dX7_write_5 : decode cX7_write 5 = .ok (.istore_n 2, 1) := by decide +kernel
theorem dX7_write_6 : decode cX7_write 6 = .ok (.iload_n 2, 1) := by decide +kernel
theorem dX7_write_7 : decode cX7_write 7 = .ok (.ifCond .eq 5, 3) := by decide +kernel
theorem dX7_write_10 : decode cX7_write 10 = .ok (.iload_n 2, 1) := by decide +kernel
theorem dX7_write_11 : decode cX7_write 11 = .ok (.ireturn, 1) := by decide +kernel
theorem dX7_write_12 : decode cX7_write 12 = .ok (.aload_n 0, 1) := by decide +kernel
theorem dX7_write_13 : decode cX7_write 13 = .ok (.getfield 53, 3) := by decide +kernel
theorem dX7_write_16 : decode cX7_write 16 = .ok (.iload_n 1, 1) := by decide +kernel
theorem dX7_write_17 : decode cX7_write 17 = .ok (.aaload, 1) := by decide +kernel
theorem dX7_write_18 : decode cX7_write 18 = .ok (.getfield 142, 3) := by decide +kernel
theorem dX7_write_21 : decode cX7_write 21 = .ok (.aload_n 0, 1) := by decide +kernel
theorem dX7_write_22 : decode cX7_write 22 = .ok (.getfield 10, 3) := by decide +kernel
theorem dX7_write_25 : decode cX7_write 25 = .ok (.getfield 122, 3) := by decide +kernel
theorem dX7_write_28 : decode cX7_write 28 = .ok (.iconst 1, 1) := by decide +kernel
theorem dX7_write_29 : decode cX7_write 29 = .ok (.iadd, 1) := by decide +kernel
theorem dX7_write_30 : decode cX7_write 30 = .ok (.invokestatic 249, 3) := by decide +kernel
theorem dX7_write_33 : decode cX7_write 33 = .ok (.istore_n 3, 1) := by decide +kernel
theorem dX7_write_34 : decode cX7_write 34 = .ok (.iconst 0, 1) := by decide +kernel
theorem dX7_write_35 : decode cX7_write 35 = .ok (.istore 4, 2) := by decide +kernel
theorem dX7_write_37 : decode cX7_write 37 = .ok (.iload 4, 2) := by decide +kernel
theorem dX7_write_39 : decode cX7_write 39 = .ok (.iload_n 3, 1) := by decide +kernel
theorem dX7_write_40 : decode cX7_write 40 = .ok (.if_icmp .ge 29, 3) := by decide +kernel
theorem dX7_write_43 : decode cX7_write 43 = .ok (.aload_n 0, 1) := by decide +kernel
theorem dX7_write_44 : decode cX7_write 44 = .ok (.getfield 53, 3) := by decide +kernel
theorem dX7_write_47 : decode cX7_write 47 = .ok (.iload_n 1, 1) := by decide +kernel
theorem dX7_write_48 : decode cX7_write 48 = .ok (.aaload, 1) := by decide +kernel
theorem dX7_write_49 : decode cX7_write 49 = .ok (.iload 4, 2) := by decide +kernel
theorem dX7_write_51 : decode cX7_write 51 = .ok (.aload_n 0, 1) := by decide +kernel
theorem dX7_write_52 : decode cX7_write 52 = .ok (.getfield 28, 3) := by decide +kernel
theorem dX7_write_55 : decode cX7_write 55 = .ok (.iload 4, 2) := by decide +kernel
theorem dX7_write_57 : decode cX7_write 57 = .ok (.invokevirtual 149, 3) := by decide +kernel
theorem dX7_write_60 : decode cX7_write 60 = .ok (.invokevirtual 229, 3) := by decide +kernel
theorem dX7_write_63 : decode cX7_write 63 = .ok (.iinc 4 1, 3) := by decide +kernel
theorem dX7_write_66 : decode cX7_write 66 = .ok (.goto (-29), 3) := by decide +kernel
theorem dX7_write_69 : decode cX7_write 69 = .ok (.iload_n 3, 1) := by decide +kernel
theorem dX7_write_70 : decode cX7_write 70 = .ok (.ireturn, 1) := by decide +kernel
theorem dX7_count_0 : decode cX7_count 0 = .ok (.iload_n 1, 1) := by decide +kernel
theorem dX7_count_1 : decode cX7_count 1 = .ok (.tableswitch 137 0 8 #[51, 62, 73, 84, 95, 103, 119, 124, 132], 51) := by decide +kernel
theorem dX7_count_52 : decode cX7_count 52 = .ok (.aload_n 0, 1) := by decide +kernel
theorem dX7_count_53 : decode cX7_count 53 = .ok (.getfield 10, 3) := by decide +kernel
theorem dX7_count_56 : decode cX7_count 56 = .ok (.getfield 92, 3) := by decide +kernel
theorem dX7_count_59 : decode cX7_count 59 = .ok (.getfield 96, 3) := by decide +kernel
theorem dX7_count_62 : decode cX7_count 62 = .ok (.ireturn, 1) := by decide +kernel
theorem dX7_count_63 : decode cX7_count 63 = .ok (.aload_n 0, 1) := by decide +kernel
theorem dX7_count_64 : decode cX7_count 64 = .ok (.getfield 10, 3) := by decide +kernel
theorem dX7_count_67 : decode cX7_count 67 = .ok (.getfield 110, 3) := by decide +kernel
theorem dX7_count_70 : decode cX7_count 70 = .ok (.getfield 96, 3) := by decide +kernel
theorem dX7_count_73 : decode cX7_count 73 = .ok (.ireturn, 1) := by decide +kernel
theorem dX7_count_74 : decode cX7_count 74 = .ok (.aload_n 0, 1) := by decide +kernel
theorem dX7_count_75 : decode cX7_count 75 = .ok (.getfield 10, 3) := by decide +kernel
theorem dX7_count_78 : decode cX7_count 78 = .ok (.getfield 92, 3) := by decide +kernel
theorem dX7_count_81 : decode cX7_count 81 = .ok (.getfield 83, 3) := by decide +kernel
theorem dX7_count_84 : decode cX7_count 84 = .ok (.ireturn, 1) := by decide +kernel
theorem dX7_count_85 : decode cX7_count 85 = .ok (.aload_n 0, 1) := by decide +kernel
theorem dX7_count_86 : decode cX7_count 86 = .ok (.getfield 10, 3) := by decide +kernel
theorem dX7_count_89 : decode cX7_count 89 = .ok (.getfield 110, 3) := by decide +kernel
theorem dX7_count_92 : decode cX7_count 92 = .ok (.getfield 83, 3) := by decide +kernel
theorem dX7_count_95 : decode cX7_count 95 = .ok (.ireturn, 1) := by decide +kernel
theorem dX7_count_96 : decode cX7_count 96 = .ok (.aload_n 0, 1) := by decide +kernel
theorem dX7_count_97 : decode cX7_count 97 = .ok (.getfield 19, 3) := by decide +kernel
theorem dX7_count_100 : decode cX7_count 100 = .ok (.getfield 138, 3) := by decide +kernel
theorem dX7_count_103 : decode cX7_count 103 = .ok (.ireturn, 1) := by decide +kernel
theorem dX7_count_104 : decode cX7_count 104 = .ok (.aload_n 0, 1) := by decide +kernel
theorem dX7_count_105 : decode cX7_count 105 = .ok (.getfield 19, 3) := by decide +kernel
theorem dX7_count_108 : decode cX7_count 108 = .ok (.getfield 138, 3) := by decide +kernel
theorem dX7_count_111 : decode cX7_count 111 = .ok (.aload_n 0, 1) := by decide +kernel
theorem dX7_count_112 : decode cX7_count 112 = .ok (.getfield 28, 3) := by decide +kernel
theorem dX7_count_115 : decode cX7_count 115 = .ok (.getfield 254, 3) := by decide +kernel
theorem dX7_count_118 : decode cX7_count 118 = .ok (.isub, 1) := by decide +kernel
theorem dX7_count_119 : decode cX7_count 119 = .ok (.ireturn, 1) := by decide +kernel
theorem dX7_count_120 : decode cX7_count 120 = .ok (.aload_n 0, 1) := by decide +kernel
theorem dX7_count_121 : decode cX7_count 121 = .ok (.invokevirtual 257, 3) := by decide +kernel
theorem dX7_count_124 : decode cX7_count 124 = .ok (.ireturn, 1) := by decide +kernel
theorem dX7_count_125 : decode cX7_count 125 = .ok (.aload_n 0, 1) := by decide +kernel
theorem dX7_count_126 : decode cX7_count 126 = .ok (.getfield 10, 3) := by decide +kernel
theorem dX7_count_129 : decode cX7_count 129 = .ok (.getfield 122, 3) := by decide +kernel
theorem dX7_count_132 : decode cX7_count 132 = .ok (.ireturn, 1) := by decide +kernel
theorem dX7_count_133 : decode cX7_count 133 = .ok (.aload_n 0, 1) := by decide +kernel
theorem dX7_count_134 : decode cX7_count 134 = .ok (.getfield 57, 3) := by decide +kernel
theorem dX7_count_137 : decode cX7_count 137 = .ok (.ireturn, 1) := by decide +kernel
theorem dX7_count_138 : decode cX7_count 138 = .ok (.bipush (-2), 2) := by decide +kernel
theorem dX7_count_140 : decode cX7_count 140 = .ok (.ireturn, 1) := by decide +kernel
theorem dX7_digest_0 : decode cX7_digest 0 = .ok (.ldc2_w 260, 3) := by decide +kernel
theorem dX7_digest_3 : decode cX7_digest 3 = .ok (.lstore_n 1, 1) := by decide +kernel
theorem dX7_digest_4 : decode cX7_digest 4 = .ok (.iconst 0, 1) := by decide +kernel
theorem dX7_digest_5 : decode cX7_digest 5 = .ok (.istore_n 3, 1) := by decide +kernel
theorem dX7_digest_6 : decode cX7_digest 6 = .ok (.iload_n 3, 1) := by decide +kernel
theorem dX7_digest_7 : decode cX7_digest 7 = .ok (.bipush 7, 2) := by decide +kernel
theorem dX7_digest_9 : decode cX7_digest 9 = .ok (.if_icmp .gt 22, 3) := by decide +kernel
theorem dX7_digest_12 : decode cX7_digest 12 = .ok (.ldc2_w 262, 3) := by decide +kernel
theorem dX7_digest_15 : decode cX7_digest 15 = .ok (.lload_n 1, 1) := by decide +kernel
theorem dX7_digest_16 : decode cX7_digest 16 = .ok (.lmul, 1) := by decide +kernel
theorem dX7_digest_17 : decode cX7_digest 17 = .ok (.aload_n 0, 1) := by decide +kernel
theorem dX7_digest_18 : decode cX7_digest 18 = .ok (.iload_n 3, 1) := by decide +kernel
theorem dX7_digest_19 : decode cX7_digest 19 = .ok (.invokevirtual 264, 3) := by decide +kernel
theorem dX7_digest_22 : decode cX7_digest 22 = .ok (.i2l, 1) := by decide +kernel
theorem dX7_digest_23 : decode cX7_digest 23 = .ok (.ladd, 1) := by decide +kernel
theorem dX7_digest_24 : decode cX7_digest 24 = .ok (.lstore_n 1, 1) := by decide +kernel
theorem dX7_digest_25 : decode cX7_digest 25 = .ok (.iinc 3 1, 3) := by decide +kernel
theorem dX7_digest_28 : decode cX7_digest 28 = .ok (.goto (-22), 3) := by decide +kernel
theorem dX7_digest_31 : decode cX7_digest 31 = .ok (.ldc2_w 262, 3) := by decide +kernel
theorem dX7_digest_34 : decode cX7_digest 34 = .ok (.lload_n 1, 1) := by decide +kernel
theorem dX7_digest_35 : decode cX7_digest 35 = .ok (.lmul, 1) := by decide +kernel
theorem dX7_digest_36 : decode cX7_digest 36 = .ok (.aload_n 0, 1) := by decide +kernel
theorem dX7_digest_37 : decode cX7_digest 37 = .ok (.iconst 0, 1) := by decide +kernel
theorem dX7_digest_38 : decode cX7_digest 38 = .ok (.invokevirtual 267, 3) := by decide +kernel
theorem dX7_digest_41 : decode cX7_digest 41 = .ok (.i2l, 1) := by decide +kernel
theorem dX7_digest_42 : decode cX7_digest 42 = .ok (.ladd, 1) := by decide +kernel
theorem dX7_digest_43 : decode cX7_digest 43 = .ok (.lstore_n 1, 1) := by decide +kernel
theorem dX7_digest_44 : decode cX7_digest 44 = .ok (.ldc2_w 262, 3) := by decide +kernel
theorem dX7_digest_47 : decode cX7_digest 47 = .ok (.lload_n 1, 1) := by decide +kernel
theorem dX7_digest_48 : decode cX7_digest 48 = .ok (.lmul, 1) := by decide +kernel
theorem dX7_digest_49 : decode cX7_digest 49 = .ok (.aload_n 0, 1) := by decide +kernel
theorem dX7_digest_50 : decode cX7_digest 50 = .ok (.iconst 1, 1) := by decide +kernel
theorem dX7_digest_51 : decode cX7_digest 51 = .ok (.invokevirtual 267, 3) := by decide +kernel
theorem dX7_digest_54 : decode cX7_digest 54 = .ok (.i2l, 1) := by decide +kernel
theorem dX7_digest_55 : decode cX7_digest 55 = .ok (.ladd, 1) := by decide +kernel
theorem dX7_digest_56 : decode cX7_digest 56 = .ok (.lstore_n 1, 1) := by decide +kernel
theorem dX7_digest_57 : decode cX7_digest 57 = .ok (.ldc2_w 262, 3) := by decide +kernel
theorem dX7_digest_60 : decode cX7_digest 60 = .ok (.lload_n 1, 1) := by decide +kernel
theorem dX7_digest_61 : decode cX7_digest 61 = .ok (.lmul, 1) := by decide +kernel
theorem dX7_digest_62 : decode cX7_digest 62 = .ok (.aload_n 0, 1) := by decide +kernel
theorem dX7_digest_63 : decode cX7_digest 63 = .ok (.invokevirtual 270, 3) := by decide +kernel
theorem dX7_digest_66 : decode cX7_digest 66 = .ok (.i2l, 1) := by decide +kernel
theorem dX7_digest_67 : decode cX7_digest 67 = .ok (.ladd, 1) := by decide +kernel
theorem dX7_digest_68 : decode cX7_digest 68 = .ok (.lstore_n 1, 1) := by decide +kernel
theorem dX7_digest_69 : decode cX7_digest 69 = .ok (.aload_n 0, 1) := by decide +kernel
theorem dX7_digest_70 : decode cX7_digest 70 = .ok (.lload_n 1, 1) := by decide +kernel
theorem dX7_digest_71 : decode cX7_digest 71 = .ok (.invokevirtual 273, 3) := by decide +kernel
theorem dX7_digest_74 : decode cX7_digest 74 = .ok (.lstore_n 1, 1) := by decide +kernel
theorem dX7_digest_75 : decode cX7_digest 75 = .ok (.iconst 0, 1) := by decide +kernel
theorem dX7_digest_76 : decode cX7_digest 76 = .ok (.istore_n 3, 1) := by decide +kernel
theorem dX7_digest_77 : decode cX7_digest 77 = .ok (.iload_n 3, 1) := by decide +kernel
theorem dX7_digest_78 : decode cX7_digest 78 = .ok (.aload_n 0, 1) := by decide +kernel
theorem dX7_digest_79 : decode cX7_digest 79 = .ok (.getfield 19, 3) := by decide +kernel
theorem dX7_digest_82 : decode cX7_digest 82 = .ok (.getfield 138, 3) := by decide +kernel
theorem dX7_digest_85 : decode cX7_digest 85 = .ok (.if_icmp .ge 35, 3) := by decide +kernel
theorem dX7_digest_88 : decode cX7_digest 88 = .ok (.ldc2_w 262, 3) := by decide +kernel
theorem dX7_digest_91 : decode cX7_digest 91 = .ok (.lload_n 1, 1) := by decide +kernel
theorem dX7_digest_92 : decode cX7_digest 92 = .ok (.lmul, 1) := by decide +kernel
theorem dX7_digest_93 : decode cX7_digest 93 = .ok (.aload_n 0, 1) := by decide +kernel
theorem dX7_digest_94 : decode cX7_digest 94 = .ok (.iload_n 3, 1) := by decide +kernel
theorem dX7_digest_95 : decode cX7_digest 95 = .ok (.invokevirtual 277, 3) := by decide +kernel
theorem dX7_digest_98 : decode cX7_digest 98 = .ok (.i2l, 1) := by decide +kernel
theorem dX7_digest_99 : decode cX7_digest 99 = .ok (.ladd, 1) := by decide +kernel
theorem dX7_digest_100 : decode cX7_digest 100 = .ok (.lstore_n 1, 1) := by decide +kernel
theorem dX7_digest_101 : decode cX7_digest 101 = .ok (.ldc2_w 262, 3) := by decide +kernel
theorem dX7_digest_104 : decode cX7_digest 104 = .ok (.lload_n 1, 1) := by decide +kernel
theorem dX7_digest_105 : decode cX7_digest 105 = .ok (.lmul, 1) := by decide +kernel
theorem dX7_digest_106 : decode cX7_digest 106 = .ok (.aload_n 0, 1) := by decide +kernel
theorem dX7_digest_107 : decode cX7_digest 107 = .ok (.iload_n 3, 1) := by decide +kernel
theorem dX7_digest_108 : decode cX7_digest 108 = .ok (.invokevirtual 280, 3) := by decide +kernel
theorem dX7_digest_111 : decode cX7_digest 111 = .ok (.i2l, 1) := by decide +kernel
theorem dX7_digest_112 : decode cX7_digest 112 = .ok (.ladd, 1) := by decide +kernel
theorem dX7_digest_113 : decode cX7_digest 113 = .ok (.lstore_n 1, 1) := by decide +kernel
theorem dX7_digest_114 : decode cX7_digest 114 = .ok (.iinc 3 1, 3) := by decide +kernel
theorem dX7_digest_117 : decode cX7_digest 117 = .ok (.goto (-40), 3) := by decide +kernel
theorem dX7_digest_120 : decode cX7_digest 120 = .ok (.aload_n 0, 1) := by decide +kernel
theorem dX7_digest_121 : decode cX7_digest 121 = .ok (.aload_n 0, 1) := by decide +kernel
theorem dX7_digest_122 : decode cX7_digest 122 = .ok (.lload_n 1, 1) := by decide +kernel
theorem dX7_digest_123 : decode cX7_digest 123 = .ok (.invokevirtual 283, 3) := by decide +kernel
theorem dX7_digest_126 : decode cX7_digest 126 = .ok (.invokevirtual 286, 3) := by decide +kernel
theorem dX7_digest_129 : decode cX7_digest 129 = .ok (.lreturn, 1) := by decide +kernel
theorem dX7_digestPeopleAndStones_0 : decode cX7_digestPeopleAndStones 0 = .ok (.lload_n 1, 1) := by decide +kernel
theorem dX7_digestPeopleAndStones_1 : decode cX7_digestPeopleAndStones 1 = .ok (.lstore_n 3, 1) := by decide +kernel
theorem dX7_digestPeopleAndStones_2 : decode cX7_digestPeopleAndStones 2 = .ok (.iconst 0, 1) := by decide +kernel
theorem dX7_digestPeopleAndStones_3 : decode cX7_digestPeopleAndStones 3 = .ok (.istore 5, 2) := by decide +kernel
theorem dX7_digestPeopleAndStones_5 : decode cX7_digestPeopleAndStones 5 = .ok (.iload 5, 2) := by decide +kernel
theorem dX7_digestPeopleAndStones_7 : decode cX7_digestPeopleAndStones 7 = .ok (.aload_n 0, 1) := by decide +kernel
theorem dX7_digestPeopleAndStones_8 : decode cX7_digestPeopleAndStones 8 = .ok (.getfield 10, 3) := by decide +kernel
theorem dX7_digestPeopleAndStones_11 : decode cX7_digestPeopleAndStones 11 = .ok (.getfield 92, 3) := by decide +kernel
theorem dX7_digestPeopleAndStones_14 : decode cX7_digestPeopleAndStones 14 = .ok (.getfield 96, 3) := by decide +kernel
theorem dX7_digestPeopleAndStones_17 : decode cX7_digestPeopleAndStones 17 = .ok (.if_icmp .ge 40, 3) := by decide +kernel
theorem dX7_digestPeopleAndStones_20 : decode cX7_digestPeopleAndStones 20 = .ok (.iconst 0, 1) := by decide +kernel
theorem dX7_digestPeopleAndStones_21 : decode cX7_digestPeopleAndStones 21 = .ok (.istore 6, 2) := by decide +kernel
theorem dX7_digestPeopleAndStones_23 : decode cX7_digestPeopleAndStones 23 = .ok (.iload 6, 2) := by decide +kernel
theorem dX7_digestPeopleAndStones_25 : decode cX7_digestPeopleAndStones 25 = .ok (.iconst 2, 1) := by decide +kernel
theorem dX7_digestPeopleAndStones_26 : decode cX7_digestPeopleAndStones 26 = .ok (.if_icmp .gt 25, 3) := by decide +kernel
theorem dX7_digestPeopleAndStones_29 : decode cX7_digestPeopleAndStones 29 = .ok (.ldc2_w 262, 3) := by decide +kernel
theorem dX7_digestPeopleAndStones_32 : decode cX7_digestPeopleAndStones 32 = .ok (.lload_n 3, 1) := by decide +kernel
theorem dX7_digestPeopleAndStones_33 : decode cX7_digestPeopleAndStones 33 = .ok (.lmul, 1) := by decide +kernel
theorem dX7_digestPeopleAndStones_34 : decode cX7_digestPeopleAndStones 34 = .ok (.aload_n 0, 1) := by decide +kernel
theorem dX7_digestPeopleAndStones_35 : decode cX7_digestPeopleAndStones 35 = .ok (.iload 5, 2) := by decide +kernel
theorem dX7_digestPeopleAndStones_37 : decode cX7_digestPeopleAndStones 37 = .ok (.iload 6, 2) := by decide +kernel
theorem dX7_digestPeopleAndStones_39 : decode cX7_digestPeopleAndStones 39 = .ok (.invokevirtual 289, 3) := by decide +kernel
theorem dX7_digestPeopleAndStones_42 : decode cX7_digestPeopleAndStones 42 = .ok (.i2l, 1) := by decide +kernel
theorem dX7_digestPeopleAndStones_43 : decode cX7_digestPeopleAndStones 43 = .ok (.ladd, 1) := by decide +kernel
theorem dX7_digestPeopleAndStones_44 : decode cX7_digestPeopleAndStones 44 = .ok (.lstore_n 3, 1) := by decide +kernel
theorem dX7_digestPeopleAndStones_45 : decode cX7_digestPeopleAndStones 45 = .ok (.iinc 6 1, 3) := by decide +kernel
theorem dX7_digestPeopleAndStones_48 : decode cX7_digestPeopleAndStones 48 = .ok (.goto (-25), 3) := by decide +kernel
theorem dX7_digestPeopleAndStones_51 : decode cX7_digestPeopleAndStones 51 = .ok (.iinc 5 1, 3) := by decide +kernel
theorem dX7_digestPeopleAndStones_54 : decode cX7_digestPeopleAndStones 54 = .ok (.goto (-49), 3) := by decide +kernel
theorem dX7_digestPeopleAndStones_57 : decode cX7_digestPeopleAndStones 57 = .ok (.iconst 0, 1) := by decide +kernel
theorem dX7_digestPeopleAndStones_58 : decode cX7_digestPeopleAndStones 58 = .ok (.istore 5, 2) := by decide +kernel
theorem dX7_digestPeopleAndStones_60 : decode cX7_digestPeopleAndStones 60 = .ok (.iload 5, 2) := by decide +kernel
theorem dX7_digestPeopleAndStones_62 : decode cX7_digestPeopleAndStones 62 = .ok (.aload_n 0, 1) := by decide +kernel
theorem dX7_digestPeopleAndStones_63 : decode cX7_digestPeopleAndStones 63 = .ok (.getfield 10, 3) := by decide +kernel
theorem dX7_digestPeopleAndStones_66 : decode cX7_digestPeopleAndStones 66 = .ok (.getfield 110, 3) := by decide +kernel
theorem dX7_digestPeopleAndStones_69 : decode cX7_digestPeopleAndStones 69 = .ok (.getfield 96, 3) := by decide +kernel
theorem dX7_digestPeopleAndStones_72 : decode cX7_digestPeopleAndStones 72 = .ok (.if_icmp .ge 40, 3) := by decide +kernel
theorem dX7_digestPeopleAndStones_75 : decode cX7_digestPeopleAndStones 75 = .ok (.iconst 0, 1) := by decide +kernel
theorem dX7_digestPeopleAndStones_76 : decode cX7_digestPeopleAndStones 76 = .ok (.istore 6, 2) := by decide +kernel
theorem dX7_digestPeopleAndStones_78 : decode cX7_digestPeopleAndStones 78 = .ok (.iload 6, 2) := by decide +kernel
theorem dX7_digestPeopleAndStones_80 : decode cX7_digestPeopleAndStones 80 = .ok (.iconst 2, 1) := by decide +kernel
theorem dX7_digestPeopleAndStones_81 : decode cX7_digestPeopleAndStones 81 = .ok (.if_icmp .gt 25, 3) := by decide +kernel
theorem dX7_digestPeopleAndStones_84 : decode cX7_digestPeopleAndStones 84 = .ok (.ldc2_w 262, 3) := by decide +kernel
theorem dX7_digestPeopleAndStones_87 : decode cX7_digestPeopleAndStones 87 = .ok (.lload_n 3, 1) := by decide +kernel
theorem dX7_digestPeopleAndStones_88 : decode cX7_digestPeopleAndStones 88 = .ok (.lmul, 1) := by decide +kernel
theorem dX7_digestPeopleAndStones_89 : decode cX7_digestPeopleAndStones 89 = .ok (.aload_n 0, 1) := by decide +kernel
theorem dX7_digestPeopleAndStones_90 : decode cX7_digestPeopleAndStones 90 = .ok (.iload 5, 2) := by decide +kernel
theorem dX7_digestPeopleAndStones_92 : decode cX7_digestPeopleAndStones 92 = .ok (.iload 6, 2) := by decide +kernel
theorem dX7_digestPeopleAndStones_94 : decode cX7_digestPeopleAndStones 94 = .ok (.invokevirtual 292, 3) := by decide +kernel
theorem dX7_digestPeopleAndStones_97 : decode cX7_digestPeopleAndStones 97 = .ok (.i2l, 1) := by decide +kernel
theorem dX7_digestPeopleAndStones_98 : decode cX7_digestPeopleAndStones 98 = .ok (.ladd, 1) := by decide +kernel
theorem dX7_digestPeopleAndStones_99 : decode cX7_digestPeopleAndStones 99 = .ok (.lstore_n 3, 1) := by decide +kernel
theorem dX7_digestPeopleAndStones_100 : decode cX7_digestPeopleAndStones 100 = .ok (.iinc 6 1, 3) := by decide +kernel
theorem dX7_digestPeopleAndStones_103 : decode cX7_digestPeopleAndStones 103 = .ok (.goto (-25), 3) := by decide +kernel
theorem dX7_digestPeopleAndStones_106 : decode cX7_digestPeopleAndStones 106 = .ok (.iinc 5 1, 3) := by decide +kernel
theorem dX7_digestPeopleAndStones_109 : decode cX7_digestPeopleAndStones 109 = .ok (.goto (-49), 3) := by decide +kernel
theorem dX7_digestPeopleAndStones_112 : decode cX7_digestPeopleAndStones 112 = .ok (.lload_n 3, 1) := by decide +kernel
theorem dX7_digestPeopleAndStones_113 : decode cX7_digestPeopleAndStones 113 = .ok (.lreturn, 1) := by decide +kernel
theorem dX7_digestHeap_0 : decode cX7_digestHeap 0 = .ok (.aload_n 0, 1) := by decide +kernel
theorem dX7_digestHeap_1 : decode cX7_digestHeap 1 = .ok (.getfield 10, 3) := by decide +kernel
theorem dX7_digestHeap_4 : decode cX7_digestHeap 4 = .ok (.getfield 122, 3) := by decide +kernel
theorem dX7_digestHeap_7 : decode cX7_digestHeap 7 = .ok (.istore_n 3, 1) := by decide +kernel
theorem dX7_digestHeap_8 : decode cX7_digestHeap 8 = .ok (.ldc2_w 262, 3) := by decide +kernel
theorem dX7_digestHeap_11 : decode cX7_digestHeap 11 = .ok (.lload_n 1, 1) := by decide +kernel
theorem dX7_digestHeap_12 : decode cX7_digestHeap 12 = .ok (.lmul, 1) := by decide +kernel
theorem dX7_digestHeap_13 : decode cX7_digestHeap 13 = .ok (.aload_n 0, 1) := by decide +kernel
theorem dX7_digestHeap_14 : decode cX7_digestHeap 14 = .ok (.iconst 3, 1) := by decide +kernel
theorem dX7_digestHeap_15 : decode cX7_digestHeap 15 = .ok (.invokevirtual 294, 3) := by decide +kernel
theorem dX7_digestHeap_18 : decode cX7_digestHeap 18 = .ok (.i2l, 1) := by decide +kernel
theorem dX7_digestHeap_19 : decode cX7_digestHeap 19 = .ok (.ladd, 1) := by decide +kernel
theorem dX7_digestHeap_20 : decode cX7_digestHeap 20 = .ok (.lstore 4, 2) := by decide +kernel
theorem dX7_digestHeap_22 : decode cX7_digestHeap 22 = .ok (.ldc2_w 262, 3) := by decide +kernel
theorem dX7_digestHeap_25 : decode cX7_digestHeap 25 = .ok (.lload 4, 2) := by decide +kernel
theorem dX7_digestHeap_27 : decode cX7_digestHeap 27 = .ok (.lmul, 1) := by decide +kernel
theorem dX7_digestHeap_28 : decode cX7_digestHeap 28 = .ok (.aload_n 0, 1) := by decide +kernel
theorem dX7_digestHeap_29 : decode cX7_digestHeap 29 = .ok (.iload_n 3, 1) := by decide +kernel
theorem dX7_digestHeap_30 : decode cX7_digestHeap 30 = .ok (.invokevirtual 294, 3) := by decide +kernel
theorem dX7_digestHeap_33 : decode cX7_digestHeap 33 = .ok (.i2l, 1) := by decide +kernel
theorem dX7_digestHeap_34 : decode cX7_digestHeap 34 = .ok (.ladd, 1) := by decide +kernel
theorem dX7_digestHeap_35 : decode cX7_digestHeap 35 = .ok (.lstore 4, 2) := by decide +kernel
theorem dX7_digestHeap_37 : decode cX7_digestHeap 37 = .ok (.ldc2_w 262, 3) := by decide +kernel
theorem dX7_digestHeap_40 : decode cX7_digestHeap 40 = .ok (.lload 4, 2) := by decide +kernel
theorem dX7_digestHeap_42 : decode cX7_digestHeap 42 = .ok (.lmul, 1) := by decide +kernel
theorem dX7_digestHeap_43 : decode cX7_digestHeap 43 = .ok (.aload_n 0, 1) := by decide +kernel
theorem dX7_digestHeap_44 : decode cX7_digestHeap 44 = .ok (.iconst 0, 1) := by decide +kernel
theorem dX7_digestHeap_45 : decode cX7_digestHeap 45 = .ok (.iconst 5, 1) := by decide +kernel
theorem dX7_digestHeap_46 : decode cX7_digestHeap 46 = .ok (.iload_n 3, 1) := by decide +kernel
theorem dX7_digestHeap_47 : decode cX7_digestHeap 47 = .ok (.invokevirtual 297, 3) := by decide +kernel
theorem dX7_digestHeap_50 : decode cX7_digestHeap 50 = .ok (.i2l, 1) := by decide +kernel
theorem dX7_digestHeap_51 : decode cX7_digestHeap 51 = .ok (.ladd, 1) := by decide +kernel
theorem dX7_digestHeap_52 : decode cX7_digestHeap 52 = .ok (.lstore 4, 2) := by decide +kernel
theorem dX7_digestHeap_54 : decode cX7_digestHeap 54 = .ok (.ldc2_w 262, 3) := by decide +kernel
theorem dX7_digestHeap_57 : decode cX7_digestHeap 57 = .ok (.lload 4, 2) := by decide +kernel
theorem dX7_digestHeap_59 : decode cX7_digestHeap 59 = .ok (.lmul, 1) := by decide +kernel
theorem dX7_digestHeap_60 : decode cX7_digestHeap 60 = .ok (.aload_n 0, 1) := by decide +kernel
theorem dX7_digestHeap_61 : decode cX7_digestHeap 61 = .ok (.iconst 1, 1) := by decide +kernel
theorem dX7_digestHeap_62 : decode cX7_digestHeap 62 = .ok (.iconst 1, 1) := by decide +kernel
theorem dX7_digestHeap_63 : decode cX7_digestHeap 63 = .ok (.iload_n 3, 1) := by decide +kernel
theorem dX7_digestHeap_64 : decode cX7_digestHeap 64 = .ok (.invokevirtual 297, 3) := by decide +kernel
theorem dX7_digestHeap_67 : decode cX7_digestHeap 67 = .ok (.i2l, 1) := by decide +kernel
theorem dX7_digestHeap_68 : decode cX7_digestHeap 68 = .ok (.ladd, 1) := by decide +kernel
theorem dX7_digestHeap_69 : decode cX7_digestHeap 69 = .ok (.lstore 4, 2) := by decide +kernel
theorem dX7_digestHeap_71 : decode cX7_digestHeap 71 = .ok (.ldc2_w 262, 3) := by decide +kernel
theorem dX7_digestHeap_74 : decode cX7_digestHeap 74 = .ok (.lload 4, 2) := by decide +kernel
theorem dX7_digestHeap_76 : decode cX7_digestHeap 76 = .ok (.lmul, 1) := by decide +kernel
theorem dX7_digestHeap_77 : decode cX7_digestHeap 77 = .ok (.aload_n 0, 1) := by decide +kernel
theorem dX7_digestHeap_78 : decode cX7_digestHeap 78 = .ok (.iload_n 3, 1) := by decide +kernel
theorem dX7_digestHeap_79 : decode cX7_digestHeap 79 = .ok (.invokevirtual 300, 3) := by decide +kernel
theorem dX7_digestHeap_82 : decode cX7_digestHeap 82 = .ok (.i2l, 1) := by decide +kernel
theorem dX7_digestHeap_83 : decode cX7_digestHeap 83 = .ok (.ladd, 1) := by decide +kernel
theorem dX7_digestHeap_84 : decode cX7_digestHeap 84 = .ok (.lstore 4, 2) := by decide +kernel
theorem dX7_digestHeap_86 : decode cX7_digestHeap 86 = .ok (.ldc2_w 262, 3) := by decide +kernel
theorem dX7_digestHeap_89 : decode cX7_digestHeap 89 = .ok (.lload 4, 2) := by decide +kernel
theorem dX7_digestHeap_91 : decode cX7_digestHeap 91 = .ok (.lmul, 1) := by decide +kernel
theorem dX7_digestHeap_92 : decode cX7_digestHeap 92 = .ok (.aload_n 0, 1) := by decide +kernel
theorem dX7_digestHeap_93 : decode cX7_digestHeap 93 = .ok (.invokevirtual 303, 3) := by decide +kernel
theorem dX7_digestHeap_96 : decode cX7_digestHeap 96 = .ok (.i2l, 1) := by decide +kernel
theorem dX7_digestHeap_97 : decode cX7_digestHeap 97 = .ok (.ladd, 1) := by decide +kernel
theorem dX7_digestHeap_98 : decode cX7_digestHeap 98 = .ok (.lstore 4, 2) := by decide +kernel
theorem dX7_digestHeap_100 : decode cX7_digestHeap 100 = .ok (.iconst 0, 1) := by decide +kernel
theorem dX7_digestHeap_101 : decode cX7_digestHeap 101 = .ok (.istore 6, 2) := by decide +kernel
theorem dX7_digestHeap_103 : decode cX7_digestHeap 103 = .ok (.iload 6, 2) := by decide +kernel
theorem dX7_digestHeap_105 : decode cX7_digestHeap 105 = .ok (.iconst 2, 1) := by decide +kernel
theorem dX7_digestHeap_106 : decode cX7_digestHeap 106 = .ok (.if_icmp .gt 25, 3) := by decide +kernel
theorem dX7_digestHeap_109 : decode cX7_digestHeap 109 = .ok (.ldc2_w 262, 3) := by decide +kernel
theorem dX7_digestHeap_112 : decode cX7_digestHeap 112 = .ok (.lload 4, 2) := by decide +kernel
theorem dX7_digestHeap_114 : decode cX7_digestHeap 114 = .ok (.lmul, 1) := by decide +kernel
theorem dX7_digestHeap_115 : decode cX7_digestHeap 115 = .ok (.aload_n 0, 1) := by decide +kernel
theorem dX7_digestHeap_116 : decode cX7_digestHeap 116 = .ok (.iload 6, 2) := by decide +kernel
theorem dX7_digestHeap_118 : decode cX7_digestHeap 118 = .ok (.invokevirtual 306, 3) := by decide +kernel
theorem dX7_digestHeap_121 : decode cX7_digestHeap 121 = .ok (.i2l, 1) := by decide +kernel
theorem dX7_digestHeap_122 : decode cX7_digestHeap 122 = .ok (.ladd, 1) := by decide +kernel
theorem dX7_digestHeap_123 : decode cX7_digestHeap 123 = .ok (.lstore 4, 2) := by decide +kernel
theorem dX7_digestHeap_125 : decode cX7_digestHeap 125 = .ok (.iinc 6 1, 3) := by decide +kernel
theorem dX7_digestHeap_128 : decode cX7_digestHeap 128 = .ok (.goto (-25), 3) := by decide +kernel
theorem dX7_digestHeap_131 : decode cX7_digestHeap 131 = .ok (.ldc2_w 262, 3) := by decide +kernel
theorem dX7_digestHeap_134 : decode cX7_digestHeap 134 = .ok (.lload 4, 2) := by decide +kernel
theorem dX7_digestHeap_136 : decode cX7_digestHeap 136 = .ok (.lmul, 1) := by decide +kernel
theorem dX7_digestHeap_137 : decode cX7_digestHeap 137 = .ok (.aload_n 0, 1) := by decide +kernel
theorem dX7_digestHeap_138 : decode cX7_digestHeap 138 = .ok (.invokevirtual 309, 3) := by decide +kernel
theorem dX7_digestHeap_141 : decode cX7_digestHeap 141 = .ok (.i2l, 1) := by decide +kernel
theorem dX7_digestHeap_142 : decode cX7_digestHeap 142 = .ok (.ladd, 1) := by decide +kernel
theorem dX7_digestHeap_143 : decode cX7_digestHeap 143 = .ok (.lstore 4, 2) := by decide +kernel
theorem dX7_digestHeap_145 : decode cX7_digestHeap 145 = .ok (.ldc2_w 262, 3) := by decide +kernel
theorem dX7_digestHeap_148 : decode cX7_digestHeap 148 = .ok (.lload 4, 2) := by decide +kernel
theorem dX7_digestHeap_150 : decode cX7_digestHeap 150 = .ok (.lmul, 1) := by decide +kernel
theorem dX7_digestHeap_151 : decode cX7_digestHeap 151 = .ok (.aload_n 0, 1) := by decide +kernel
theorem dX7_digestHeap_152 : decode cX7_digestHeap 152 = .ok (.invokevirtual 312, 3) := by decide +kernel
theorem dX7_digestHeap_155 : decode cX7_digestHeap 155 = .ok (.i2l, 1) := by decide +kernel
theorem dX7_digestHeap_156 : decode cX7_digestHeap 156 = .ok (.ladd, 1) := by decide +kernel
theorem dX7_digestHeap_157 : decode cX7_digestHeap 157 = .ok (.lreturn, 1) := by decide +kernel
theorem dX7_digestWhatCouldBe_0 : decode cX7_digestWhatCouldBe 0 = .ok (.ldc2_w 262, 3) := by decide +kernel
theorem dX7_digestWhatCouldBe_3 : decode cX7_digestWhatCouldBe 3 = .ok (.lload_n 1, 1) := by decide +kernel
theorem dX7_digestWhatCouldBe_4 : decode cX7_digestWhatCouldBe 4 = .ok (.lmul, 1) := by decide +kernel
theorem dX7_digestWhatCouldBe_5 : decode cX7_digestWhatCouldBe 5 = .ok (.aload_n 0, 1) := by decide +kernel
theorem dX7_digestWhatCouldBe_6 : decode cX7_digestWhatCouldBe 6 = .ok (.iconst 0, 1) := by decide +kernel
theorem dX7_digestWhatCouldBe_7 : decode cX7_digestWhatCouldBe 7 = .ok (.invokevirtual 315, 3) := by decide +kernel
theorem dX7_digestWhatCouldBe_10 : decode cX7_digestWhatCouldBe 10 = .ok (.i2l, 1) := by decide +kernel
theorem dX7_digestWhatCouldBe_11 : decode cX7_digestWhatCouldBe 11 = .ok (.ladd, 1) := by decide +kernel
theorem dX7_digestWhatCouldBe_12 : decode cX7_digestWhatCouldBe 12 = .ok (.lstore_n 3, 1) := by decide +kernel
theorem dX7_digestWhatCouldBe_13 : decode cX7_digestWhatCouldBe 13 = .ok (.ldc2_w 262, 3) := by decide +kernel
theorem dX7_digestWhatCouldBe_16 : decode cX7_digestWhatCouldBe 16 = .ok (.lload_n 3, 1) := by decide +kernel
theorem dX7_digestWhatCouldBe_17 : decode cX7_digestWhatCouldBe 17 = .ok (.lmul, 1) := by decide +kernel
theorem dX7_digestWhatCouldBe_18 : decode cX7_digestWhatCouldBe 18 = .ok (.aload_n 0, 1) := by decide +kernel
theorem dX7_digestWhatCouldBe_19 : decode cX7_digestWhatCouldBe 19 = .ok (.iconst 1, 1) := by decide +kernel
theorem dX7_digestWhatCouldBe_20 : decode cX7_digestWhatCouldBe 20 = .ok (.invokevirtual 315, 3) := by decide +kernel
theorem dX7_digestWhatCouldBe_23 : decode cX7_digestWhatCouldBe 23 = .ok (.i2l, 1) := by decide +kernel
theorem dX7_digestWhatCouldBe_24 : decode cX7_digestWhatCouldBe 24 = .ok (.ladd, 1) := by decide +kernel
theorem dX7_digestWhatCouldBe_25 : decode cX7_digestWhatCouldBe 25 = .ok (.lstore_n 3, 1) := by decide +kernel
theorem dX7_digestWhatCouldBe_26 : decode cX7_digestWhatCouldBe 26 = .ok (.ldc2_w 262, 3) := by decide +kernel
theorem dX7_digestWhatCouldBe_29 : decode cX7_digestWhatCouldBe 29 = .ok (.lload_n 3, 1) := by decide +kernel
theorem dX7_digestWhatCouldBe_30 : decode cX7_digestWhatCouldBe 30 = .ok (.lmul, 1) := by decide +kernel
theorem dX7_digestWhatCouldBe_31 : decode cX7_digestWhatCouldBe 31 = .ok (.aload_n 0, 1) := by decide +kernel
theorem dX7_digestWhatCouldBe_32 : decode cX7_digestWhatCouldBe 32 = .ok (.iconst 0, 1) := by decide +kernel
theorem dX7_digestWhatCouldBe_33 : decode cX7_digestWhatCouldBe 33 = .ok (.invokevirtual 318, 3) := by decide +kernel
theorem dX7_digestWhatCouldBe_36 : decode cX7_digestWhatCouldBe 36 = .ok (.i2l, 1) := by decide +kernel
theorem dX7_digestWhatCouldBe_37 : decode cX7_digestWhatCouldBe 37 = .ok (.ladd, 1) := by decide +kernel
theorem dX7_digestWhatCouldBe_38 : decode cX7_digestWhatCouldBe 38 = .ok (.lstore_n 3, 1) := by decide +kernel
theorem dX7_digestWhatCouldBe_39 : decode cX7_digestWhatCouldBe 39 = .ok (.ldc2_w 262, 3) := by decide +kernel
theorem dX7_digestWhatCouldBe_42 : decode cX7_digestWhatCouldBe 42 = .ok (.lload_n 3, 1) := by decide +kernel
theorem dX7_digestWhatCouldBe_43 : decode cX7_digestWhatCouldBe 43 = .ok (.lmul, 1) := by decide +kernel
theorem dX7_digestWhatCouldBe_44 : decode cX7_digestWhatCouldBe 44 = .ok (.aload_n 0, 1) := by decide +kernel
theorem dX7_digestWhatCouldBe_45 : decode cX7_digestWhatCouldBe 45 = .ok (.iconst 1, 1) := by decide +kernel
theorem dX7_digestWhatCouldBe_46 : decode cX7_digestWhatCouldBe 46 = .ok (.invokevirtual 318, 3) := by decide +kernel
theorem dX7_digestWhatCouldBe_49 : decode cX7_digestWhatCouldBe 49 = .ok (.i2l, 1) := by decide +kernel
theorem dX7_digestWhatCouldBe_50 : decode cX7_digestWhatCouldBe 50 = .ok (.ladd, 1) := by decide +kernel
theorem dX7_digestWhatCouldBe_51 : decode cX7_digestWhatCouldBe 51 = .ok (.lstore_n 3, 1) := by decide +kernel
theorem dX7_digestWhatCouldBe_52 : decode cX7_digestWhatCouldBe 52 = .ok (.ldc2_w 262, 3) := by decide +kernel
theorem dX7_digestWhatCouldBe_55 : decode cX7_digestWhatCouldBe 55 = .ok (.lload_n 3, 1) := by decide +kernel
theorem dX7_digestWhatCouldBe_56 : decode cX7_digestWhatCouldBe 56 = .ok (.lmul, 1) := by decide +kernel
theorem dX7_digestWhatCouldBe_57 : decode cX7_digestWhatCouldBe 57 = .ok (.aload_n 0, 1) := by decide +kernel
theorem dX7_digestWhatCouldBe_58 : decode cX7_digestWhatCouldBe 58 = .ok (.iconst 0, 1) := by decide +kernel
theorem dX7_digestWhatCouldBe_59 : decode cX7_digestWhatCouldBe 59 = .ok (.invokevirtual 321, 3) := by decide +kernel
theorem dX7_digestWhatCouldBe_62 : decode cX7_digestWhatCouldBe 62 = .ok (.i2l, 1) := by decide +kernel
theorem dX7_digestWhatCouldBe_63 : decode cX7_digestWhatCouldBe 63 = .ok (.ladd, 1) := by decide +kernel
theorem dX7_digestWhatCouldBe_64 : decode cX7_digestWhatCouldBe 64 = .ok (.lstore_n 3, 1) := by decide +kernel
theorem dX7_digestWhatCouldBe_65 : decode cX7_digestWhatCouldBe 65 = .ok (.ldc2_w 262, 3) := by decide +kernel
theorem dX7_digestWhatCouldBe_68 : decode cX7_digestWhatCouldBe 68 = .ok (.lload_n 3, 1) := by decide +kernel
theorem dX7_digestWhatCouldBe_69 : decode cX7_digestWhatCouldBe 69 = .ok (.lmul, 1) := by decide +kernel
theorem dX7_digestWhatCouldBe_70 : decode cX7_digestWhatCouldBe 70 = .ok (.aload_n 0, 1) := by decide +kernel
theorem dX7_digestWhatCouldBe_71 : decode cX7_digestWhatCouldBe 71 = .ok (.iconst 1, 1) := by decide +kernel
theorem dX7_digestWhatCouldBe_72 : decode cX7_digestWhatCouldBe 72 = .ok (.invokevirtual 321, 3) := by decide +kernel
theorem dX7_digestWhatCouldBe_75 : decode cX7_digestWhatCouldBe 75 = .ok (.i2l, 1) := by decide +kernel
theorem dX7_digestWhatCouldBe_76 : decode cX7_digestWhatCouldBe 76 = .ok (.ladd, 1) := by decide +kernel
theorem dX7_digestWhatCouldBe_77 : decode cX7_digestWhatCouldBe 77 = .ok (.lstore_n 3, 1) := by decide +kernel
theorem dX7_digestWhatCouldBe_78 : decode cX7_digestWhatCouldBe 78 = .ok (.ldc2_w 262, 3) := by decide +kernel
theorem dX7_digestWhatCouldBe_81 : decode cX7_digestWhatCouldBe 81 = .ok (.lload_n 3, 1) := by decide +kernel
theorem dX7_digestWhatCouldBe_82 : decode cX7_digestWhatCouldBe 82 = .ok (.lmul, 1) := by decide +kernel
theorem dX7_digestWhatCouldBe_83 : decode cX7_digestWhatCouldBe 83 = .ok (.aload_n 0, 1) := by decide +kernel
theorem dX7_digestWhatCouldBe_84 : decode cX7_digestWhatCouldBe 84 = .ok (.iconst 2, 1) := by decide +kernel
theorem dX7_digestWhatCouldBe_85 : decode cX7_digestWhatCouldBe 85 = .ok (.iconst 0, 1) := by decide +kernel
theorem dX7_digestWhatCouldBe_86 : decode cX7_digestWhatCouldBe 86 = .ok (.invokevirtual 324, 3) := by decide +kernel
theorem dX7_digestWhatCouldBe_89 : decode cX7_digestWhatCouldBe 89 = .ok (.i2l, 1) := by decide +kernel
theorem dX7_digestWhatCouldBe_90 : decode cX7_digestWhatCouldBe 90 = .ok (.ladd, 1) := by decide +kernel
theorem dX7_digestWhatCouldBe_91 : decode cX7_digestWhatCouldBe 91 = .ok (.lstore_n 3, 1) := by decide +kernel
theorem dX7_digestWhatCouldBe_92 : decode cX7_digestWhatCouldBe 92 = .ok (.ldc2_w 262, 3) := by decide +kernel
theorem dX7_digestWhatCouldBe_95 : decode cX7_digestWhatCouldBe 95 = .ok (.lload_n 3, 1) := by decide +kernel
theorem dX7_digestWhatCouldBe_96 : decode cX7_digestWhatCouldBe 96 = .ok (.lmul, 1) := by decide +kernel
theorem dX7_digestWhatCouldBe_97 : decode cX7_digestWhatCouldBe 97 = .ok (.aload_n 0, 1) := by decide +kernel
theorem dX7_digestWhatCouldBe_98 : decode cX7_digestWhatCouldBe 98 = .ok (.iconst 2, 1) := by decide +kernel
theorem dX7_digestWhatCouldBe_99 : decode cX7_digestWhatCouldBe 99 = .ok (.iconst 1, 1) := by decide +kernel
theorem dX7_digestWhatCouldBe_100 : decode cX7_digestWhatCouldBe 100 = .ok (.invokevirtual 324, 3) := by decide +kernel
theorem dX7_digestWhatCouldBe_103 : decode cX7_digestWhatCouldBe 103 = .ok (.i2l, 1) := by decide +kernel
theorem dX7_digestWhatCouldBe_104 : decode cX7_digestWhatCouldBe 104 = .ok (.ladd, 1) := by decide +kernel
theorem dX7_digestWhatCouldBe_105 : decode cX7_digestWhatCouldBe 105 = .ok (.lstore_n 3, 1) := by decide +kernel
theorem dX7_digestWhatCouldBe_106 : decode cX7_digestWhatCouldBe 106 = .ok (.iconst 0, 1) := by decide +kernel
theorem dX7_digestWhatCouldBe_107 : decode cX7_digestWhatCouldBe 107 = .ok (.istore 5, 2) := by decide +kernel
theorem dX7_digestWhatCouldBe_109 : decode cX7_digestWhatCouldBe 109 = .ok (.iload 5, 2) := by decide +kernel
theorem dX7_digestWhatCouldBe_111 : decode cX7_digestWhatCouldBe 111 = .ok (.iconst 2, 1) := by decide +kernel
theorem dX7_digestWhatCouldBe_112 : decode cX7_digestWhatCouldBe 112 = .ok (.if_icmp .gt 24, 3) := by decide +kernel
theorem dX7_digestWhatCouldBe_115 : decode cX7_digestWhatCouldBe 115 = .ok (.ldc2_w 262, 3) := by decide +kernel
theorem dX7_digestWhatCouldBe_118 : decode cX7_digestWhatCouldBe 118 = .ok (.lload_n 3, 1) := by decide +kernel
theorem dX7_digestWhatCouldBe_119 : decode cX7_digestWhatCouldBe 119 = .ok (.lmul, 1) := by decide +kernel
theorem dX7_digestWhatCouldBe_120 : decode cX7_digestWhatCouldBe 120 = .ok (.aload_n 0, 1) := by decide +kernel
theorem dX7_digestWhatCouldBe_121 : decode cX7_digestWhatCouldBe 121 = .ok (.iconst 3, 1) := by decide +kernel
theorem dX7_digestWhatCouldBe_122 : decode cX7_digestWhatCouldBe 122 = .ok (.iload 5, 2) := by decide +kernel
theorem dX7_digestWhatCouldBe_124 : decode cX7_digestWhatCouldBe 124 = .ok (.invokevirtual 327, 3) := by decide +kernel
theorem dX7_digestWhatCouldBe_127 : decode cX7_digestWhatCouldBe 127 = .ok (.i2l, 1) := by decide +kernel
theorem dX7_digestWhatCouldBe_128 : decode cX7_digestWhatCouldBe 128 = .ok (.ladd, 1) := by decide +kernel
theorem dX7_digestWhatCouldBe_129 : decode cX7_digestWhatCouldBe 129 = .ok (.lstore_n 3, 1) := by decide +kernel
theorem dX7_digestWhatCouldBe_130 : decode cX7_digestWhatCouldBe 130 = .ok (.iinc 5 1, 3) := by decide +kernel
theorem dX7_digestWhatCouldBe_133 : decode cX7_digestWhatCouldBe 133 = .ok (.goto (-24), 3) := by decide +kernel
theorem dX7_digestWhatCouldBe_136 : decode cX7_digestWhatCouldBe 136 = .ok (.lload_n 3, 1) := by decide +kernel
theorem dX7_digestWhatCouldBe_137 : decode cX7_digestWhatCouldBe 137 = .ok (.lreturn, 1) := by decide +kernel
theorem dX7_stonesLying_0 : decode cX7_stonesLying 0 = .ok (.aload_n 0, 1) := by decide +kernel
theorem dX7_stonesLying_1 : decode cX7_stonesLying 1 = .ok (.getfield 28, 3) := by decide +kernel
theorem dX7_stonesLying_4 : decode cX7_stonesLying 4 = .ok (.aload_n 0, 1) := by decide +kernel
theorem dX7_stonesLying_5 : decode cX7_stonesLying 5 = .ok (.getfield 10, 3) := by decide +kernel
theorem dX7_stonesLying_8 : decode cX7_stonesLying 8 = .ok (.getfield 122, 3) := by decide +kernel
theorem dX7_stonesLying_11 : decode cX7_stonesLying 11 = .ok (.invokevirtual 152, 3) := by decide +kernel
theorem dX7_stonesLying_14 : decode cX7_stonesLying 14 = .ok (.iconst 0, 1) := by decide +kernel
theorem dX7_stonesLying_15 : decode cX7_stonesLying 15 = .ok (.istore_n 1, 1) := by decide +kernel
theorem dX7_stonesLying_16 : decode cX7_stonesLying 16 = .ok (.iconst 0, 1) := by decide +kernel
theorem dX7_stonesLying_17 : decode cX7_stonesLying 17 = .ok (.istore_n 2, 1) := by decide +kernel
theorem dX7_stonesLying_18 : decode cX7_stonesLying 18 = .ok (.iload_n 2, 1) := by decide +kernel
theorem dX7_stonesLying_19 : decode cX7_stonesLying 19 = .ok (.aload_n 0, 1) := by decide +kernel
theorem dX7_stonesLying_20 : decode cX7_stonesLying 20 = .ok (.getfield 10, 3) := by decide +kernel
theorem dX7_stonesLying_23 : decode cX7_stonesLying 23 = .ok (.getfield 110, 3) := by decide +kernel
theorem dX7_stonesLying_26 : decode cX7_stonesLying 26 = .ok (.getfield 96, 3) := by decide +kernel
theorem dX7_stonesLying_29 : decode cX7_stonesLying 29 = .ok (.if_icmp .ge 25, 3) := by decide +kernel
theorem dX7_stonesLying_32 : decode cX7_stonesLying 32 = .ok (.aload_n 0, 1) := by decide +kernel
theorem dX7_stonesLying_33 : decode cX7_stonesLying 33 = .ok (.getfield 28, 3) := by decide +kernel
theorem dX7_stonesLying_36 : decode cX7_stonesLying 36 = .ok (.getfield 330, 3) := by decide +kernel
theorem dX7_stonesLying_39 : decode cX7_stonesLying 39 = .ok (.iload_n 2, 1) := by decide +kernel
theorem dX7_stonesLying_40 : decode cX7_stonesLying 40 = .ok (.iaload, 1) := by decide +kernel
theorem dX7_stonesLying_41 : decode cX7_stonesLying 41 = .ok (.iconst (-1), 1) := by decide +kernel
theorem dX7_stonesLying_42 : decode cX7_stonesLying 42 = .ok (.if_icmp .eq 6, 3) := by decide +kernel
theorem dX7_stonesLying_45 : decode cX7_stonesLying 45 = .ok (.iinc 1 1, 3) := by decide +kernel
theorem dX7_stonesLying_48 : decode cX7_stonesLying 48 = .ok (.iinc 2 1, 3) := by decide +kernel
theorem dX7_stonesLying_51 : decode cX7_stonesLying 51 = .ok (.goto (-33), 3) := by decide +kernel
theorem dX7_stonesLying_54 : decode cX7_stonesLying 54 = .ok (.iload_n 1, 1) := by decide +kernel
theorem dX7_stonesLying_55 : decode cX7_stonesLying 55 = .ok (.ireturn, 1) := by decide +kernel
theorem dX7_layable_0 : decode cX7_layable 0 = .ok (.aload_n 0, 1) := by decide +kernel
theorem dX7_layable_1 : decode cX7_layable 1 = .ok (.getfield 10, 3) := by decide +kernel
theorem dX7_layable_4 : decode cX7_layable 4 = .ok (.iload_n 1, 1) := by decide +kernel
theorem dX7_layable_5 : decode cX7_layable 5 = .ok (.invokevirtual 333, 3) := by decide +kernel
theorem dX7_layable_8 : decode cX7_layable 8 = .ok (.istore_n 2, 1) := by decide +kernel
theorem dX7_layable_9 : decode cX7_layable 9 = .ok (.iconst 0, 1) := by decide +kernel
theorem dX7_layable_10 : decode cX7_layable 10 = .ok (.istore_n 3, 1) := by decide +kernel
theorem dX7_layable_11 : decode cX7_layable 11 = .ok (.iconst 0, 1) := by decide +kernel
theorem dX7_layable_12 : decode cX7_layable 12 = .ok (.istore 4, 2) := by decide +kernel
theorem dX7_layable_14 : decode cX7_layable 14 = .ok (.iload 4, 2) := by decide +kernel
theorem dX7_layable_16 : decode cX7_layable 16 = .ok (.aload_n 0, 1) := by decide +kernel
theorem dX7_layable_17 : decode cX7_layable 17 = .ok (.getfield 10, 3) := by decide +kernel
theorem dX7_layable_20 : decode cX7_layable 20 = .ok (.getfield 110, 3) := by decide +kernel
theorem dX7_layable_23 : decode cX7_layable 23 = .ok (.getfield 96, 3) := by decide +kernel
theorem dX7_layable_26 : decode cX7_layable 26 = .ok (.if_icmp .ge 43, 3) := by decide +kernel
theorem dX7_layable_29 : decode cX7_layable 29 = .ok (.aload_n 0, 1) := by decide +kernel
theorem dX7_layable_30 : decode cX7_layable 30 = .ok (.getfield 28, 3) := by decide +kernel
theorem dX7_layable_33 : decode cX7_layable 33 = .ok (.getfield 119, 3) := by decide +kernel
theorem dX7_layable_36 : decode cX7_layable 36 = .ok (.iload 4, 2) := by decide +kernel
theorem dX7_layable_38 : decode cX7_layable 38 = .ok (.iaload, 1) := by decide +kernel
theorem dX7_layable_39 : decode cX7_layable 39 = .ok (.iconst (-1), 1) := by decide +kernel
theorem dX7_layable_40 : decode cX7_layable 40 = .ok (.if_icmp .ne 23, 3) := by decide +kernel
theorem dX7_layable_43 : decode cX7_layable 43 = .ok (.aload_n 0, 1) := by decide +kernel
theorem dX7_layable_44 : decode cX7_layable 44 = .ok (.getfield 10, 3) := by decide +kernel
theorem dX7_layable_47 : decode cX7_layable 47 = .ok (.iload 4, 2) := by decide +kernel
theorem dX7_layable_49 : decode cX7_layable 49 = .ok (.invokevirtual 113, 3) := by decide +kernel
theorem dX7_layable_52 : decode cX7_layable 52 = .ok (.iload_n 2, 1) := by decide +kernel
theorem dX7_layable_53 : decode cX7_layable 53 = .ok (.if_icmp .gt 10, 3) := by decide +kernel
theorem dX7_layable_56 : decode cX7_layable 56 = .ok (.iload_n 3, 1) := by decide +kernel
theorem dX7_layable_57 : decode cX7_layable 57 = .ok (.iconst 1, 1) := by decide +kernel
theorem dX7_layable_58 : decode cX7_layable 58 = .ok (.iload 4, 2) := by decide +kernel
theorem dX7_layable_60 : decode cX7_layable 60 = .ok (.ishl, 1) := by decide +kernel
theorem dX7_layable_61 : decode cX7_layable 61 = .ok (.ior, 1) := by decide +kernel
theorem dX7_layable_62 : decode cX7_layable 62 = .ok (.istore_n 3, 1) := by decide +kernel
theorem dX7_layable_63 : decode cX7_layable 63 = .ok (.iinc 4 1, 3) := by decide +kernel
theorem dX7_layable_66 : decode cX7_layable 66 = .ok (.goto (-52), 3) := by decide +kernel
theorem dX7_layable_69 : decode cX7_layable 69 = .ok (.iload_n 3, 1) := by decide +kernel
theorem dX7_layable_70 : decode cX7_layable 70 = .ok (.ireturn, 1) := by decide +kernel
theorem dX7_fewestBits_0 : decode cX7_fewestBits 0 = .ok (.aload_n 0, 1) := by decide +kernel
theorem dX7_fewestBits_1 : decode cX7_fewestBits 1 = .ok (.iconst 0, 1) := by decide +kernel
theorem dX7_fewestBits_2 : decode cX7_fewestBits 2 = .ok (.invokevirtual 192, 3) := by decide +kernel
theorem dX7_fewestBits_5 : decode cX7_fewestBits 5 = .ok (.istore_n 1, 1) := by decide +kernel
theorem dX7_fewestBits_6 : decode cX7_fewestBits 6 = .ok (.aload_n 0, 1) := by decide +kernel
theorem dX7_fewestBits_7 : decode cX7_fewestBits 7 = .ok (.getfield 28, 3) := by decide +kernel
theorem dX7_fewestBits_10 : decode cX7_fewestBits 10 = .ok (.aload_n 0, 1) := by decide +kernel
theorem dX7_fewestBits_11 : decode cX7_fewestBits 11 = .ok (.getfield 10, 3) := by decide +kernel
theorem dX7_fewestBits_14 : decode cX7_fewestBits 14 = .ok (.getfield 122, 3) := by decide +kernel
theorem dX7_fewestBits_17 : decode cX7_fewestBits 17 = .ok (.invokevirtual 149, 3) := by decide +kernel
theorem dX7_fewestBits_20 : decode cX7_fewestBits 20 = .ok (.istore_n 2, 1) := by decide +kernel
theorem dX7_fewestBits_21 : decode cX7_fewestBits 21 = .ok (.iconst (-1), 1) := by decide +kernel
theorem dX7_fewestBits_22 : decode cX7_fewestBits 22 = .ok (.istore_n 3, 1) := by decide +kernel
theorem dX7_fewestBits_23 : decode cX7_fewestBits 23 = .ok (.iconst 0, 1) := by decide +kernel
theorem dX7_fewestBits_24 : decode cX7_fewestBits 24 = .ok (.istore 4, 2) := by decide +kernel
theorem dX7_fewestBits_26 : decode cX7_fewestBits 26 = .ok (.iconst 0, 1) := by decide +kernel
theorem dX7_fewestBits_27 : decode cX7_fewestBits 27 = .ok (.istore 5, 2) := by decide +kernel
theorem dX7_fewestBits_29 : decode cX7_fewestBits 29 = .ok (.iconst 0, 1) := by decide +kernel
theorem dX7_fewestBits_30 : decode cX7_fewestBits 30 = .ok (.istore 6, 2) := by decide +kernel
theorem dX7_fewestBits_32 : decode cX7_fewestBits 32 = .ok (.iload 6, 2) := by decide +kernel
theorem dX7_fewestBits_34 : decode cX7_fewestBits 34 = .ok (.iload_n 1, 1) := by decide +kernel
theorem dX7_fewestBits_35 : decode cX7_fewestBits 35 = .ok (.if_icmp .gt 88, 3) := by decide +kernel
theorem dX7_fewestBits_38 : decode cX7_fewestBits 38 = .ok (.iload 6, 2) := by decide +kernel
theorem dX7_fewestBits_40 : decode cX7_fewestBits 40 = .ok (.iload_n 1, 1) := by decide +kernel
theorem dX7_fewestBits_41 : decode cX7_fewestBits 41 = .ok (.iconst (-1), 1) := by decide +kernel
theorem dX7_fewestBits_42 : decode cX7_fewestBits 42 = .ok (.ixor, 1) := by decide +kernel
theorem dX7_fewestBits_43 : decode cX7_fewestBits 43 = .ok (.iand, 1) := by decide +kernel
theorem dX7_fewestBits_44 : decode cX7_fewestBits 44 = .ok (.ifCond .eq 6, 3) := by decide +kernel
theorem dX7_fewestBits_47 : decode cX7_fewestBits 47 = .ok (.goto 70, 3) := by decide +kernel
theorem dX7_fewestBits_50 : decode cX7_fewestBits 50 = .ok (.iload 6, 2) := by decide +kernel
theorem dX7_fewestBits_52 : decode cX7_fewestBits 52 = .ok (.invokestatic 186, 3) := by decide +kernel
theorem dX7_fewestBits_55 : decode cX7_fewestBits 55 = .ok (.istore 7, 2) := by decide +kernel
theorem dX7_fewestBits_57 : decode cX7_fewestBits 57 = .ok (.aload_n 0, 1) := by decide +kernel
theorem dX7_fewestBits_58 : decode cX7_fewestBits 58 = .ok (.getfield 10, 3) := by decide +kernel
theorem dX7_fewestBits_61 : decode cX7_fewestBits 61 = .ok (.iload 6, 2) := by decide +kernel
theorem dX7_fewestBits_63 : decode cX7_fewestBits 63 = .ok (.invokevirtual 336, 3) := by decide +kernel
theorem dX7_fewestBits_66 : decode cX7_fewestBits 66 = .ok (.istore 8, 2) := by decide +kernel
theorem dX7_fewestBits_68 : decode cX7_fewestBits 68 = .ok (.iload_n 2, 1) := by decide +kernel
theorem dX7_fewestBits_69 : decode cX7_fewestBits 69 = .ok (.iconst 5, 1) := by decide +kernel
theorem dX7_fewestBits_70 : decode cX7_fewestBits 70 = .ok (.iload 8, 2) := by decide +kernel
theorem dX7_fewestBits_72 : decode cX7_fewestBits 72 = .ok (.imul, 1) := by decide +kernel
theorem dX7_fewestBits_73 : decode cX7_fewestBits 73 = .ok (.iadd, 1) := by decide +kernel
theorem dX7_fewestBits_74 : decode cX7_fewestBits 74 = .ok (.ifCond .gt 6, 3) := by decide +kernel
theorem dX7_fewestBits_77 : decode cX7_fewestBits 77 = .ok (.goto 40, 3) := by decide +kernel
theorem dX7_fewestBits_80 : decode cX7_fewestBits 80 = .ok (.iload_n 3, 1) := by decide +kernel
theorem dX7_fewestBits_81 : decode cX7_fewestBits 81 = .ok (.iconst (-1), 1) := by decide +kernel
theorem dX7_fewestBits_82 : decode cX7_fewestBits 82 = .ok (.if_icmp .eq 24, 3) := by decide +kernel
theorem dX7_fewestBits_85 : decode cX7_fewestBits 85 = .ok (.iload 7, 2) := by decide +kernel
theorem dX7_fewestBits_87 : decode cX7_fewestBits 87 = .ok (.iload 4, 2) := by decide +kernel
theorem dX7_fewestBits_89 : decode cX7_fewestBits 89 = .ok (.if_icmp .lt 17, 3) := by decide +kernel
theorem dX7_fewestBits_92 : decode cX7_fewestBits 92 = .ok (.iload 7, 2) := by decide +kernel
theorem dX7_fewestBits_94 : decode cX7_fewestBits 94 = .ok (.iload 4, 2) := by decide +kernel
theorem dX7_fewestBits_96 : decode cX7_fewestBits 96 = .ok (.if_icmp .ne 21, 3) := by decide +kernel
theorem dX7_fewestBits_99 : decode cX7_fewestBits 99 = .ok (.iload 8, 2) := by decide +kernel
theorem dX7_fewestBits_101 : decode cX7_fewestBits 101 = .ok (.iload 5, 2) := by decide +kernel
theorem dX7_fewestBits_103 : decode cX7_fewestBits 103 = .ok (.if_icmp .ge 14, 3) := by decide +kernel
theorem dX7_fewestBits_106 : decode cX7_fewestBits 106 = .ok (.iload 6, 2) := by decide +kernel
theorem dX7_fewestBits_108 : decode cX7_fewestBits 108 = .ok (.istore_n 3, 1) := by decide +kernel
theorem dX7_fewestBits_109 : decode cX7_fewestBits 109 = .ok (.iload 7, 2) := by decide +kernel
theorem dX7_fewestBits_111 : decode cX7_fewestBits 111 = .ok (.istore 4, 2) := by decide +kernel
theorem dX7_fewestBits_113 : decode cX7_fewestBits 113 = .ok (.iload 8, 2) := by decide +kernel
theorem dX7_fewestBits_115 : decode cX7_fewestBits 115 = .ok (.istore 5, 2) := by decide +kernel
theorem dX7_fewestBits_117 : decode cX7_fewestBits 117 = .ok (.iinc 6 1, 3) := by decide +kernel
theorem dX7_fewestBits_120 : decode cX7_fewestBits 120 = .ok (.goto (-88), 3) := by decide +kernel
theorem dX7_fewestBits_123 : decode cX7_fewestBits 123 = .ok (.iload_n 3, 1) := by decide +kernel
theorem dX7_fewestBits_124 : decode cX7_fewestBits 124 = .ok (.ireturn, 1) := by decide +kernel
theorem dX7_firstStone_0 : decode cX7_firstStone 0 = .ok (.iconst (-1), 1) := by decide +kernel
theorem dX7_firstStone_1 : decode cX7_firstStone 1 = .ok (.istore 5, 2) := by decide +kernel
theorem dX7_firstStone_3 : decode cX7_firstStone 3 = .ok (.iconst 0, 1) := by decide +kernel
theorem dX7_firstStone_4 : decode cX7_firstStone 4 = .ok (.istore 6, 2) := by decide +kernel
theorem dX7_firstStone_6 : decode cX7_firstStone 6 = .ok (.iconst 0, 1) := by decide +kernel
theorem dX7_firstStone_7 : decode cX7_firstStone 7 = .ok (.istore 7, 2) := by decide +kernel
theorem dX7_firstStone_9 : decode cX7_firstStone 9 = .ok (.iload 7, 2) := by decide +kernel
theorem dX7_firstStone_11 : decode cX7_firstStone 11 = .ok (.aload_n 0, 1) := by decide +kernel
theorem dX7_firstStone_12 : decode cX7_firstStone 12 = .ok (.getfield 10, 3) := by decide +kernel
theorem dX7_firstStone_15 : decode cX7_firstStone 15 = .ok (.getfield 110, 3) := by decide +kernel
theorem dX7_firstStone_18 : decode cX7_firstStone 18 = .ok (.getfield 96, 3) := by decide +kernel
theorem dX7_firstStone_21 : decode cX7_firstStone 21 = .ok (.if_icmp .ge 82, 3) := by decide +kernel
theorem dX7_firstStone_24 : decode cX7_firstStone 24 = .ok (.iconst 1, 1) := by decide +kernel
theorem dX7_firstStone_25 : decode cX7_firstStone 25 = .ok (.iload 7, 2) := by decide +kernel
theorem dX7_firstStone_27 : decode cX7_firstStone 27 = .ok (.ishl, 1) := by decide +kernel
theorem dX7_firstStone_28 : decode cX7_firstStone 28 = .ok (.istore 8, 2) := by decide +kernel
theorem dX7_firstStone_30 : decode cX7_firstStone 30 = .ok (.iload_n 2, 1) := by decide +kernel
theorem dX7_firstStone_31 : decode cX7_firstStone 31 = .ok (.iload 8, 2) := by decide +kernel
theorem dX7_firstStone_33 : decode cX7_firstStone 33 = .ok (.iand, 1) := by decide +kernel
theorem dX7_firstStone_34 : decode cX7_firstStone 34 = .ok (.ifCond .eq 63, 3) := by decide +kernel
theorem dX7_firstStone_37 : decode cX7_firstStone 37 = .ok (.aload_n 0, 1) := by decide +kernel
theorem dX7_firstStone_38 : decode cX7_firstStone 38 = .ok (.getfield 10, 3) := by decide +kernel
theorem dX7_firstStone_41 : decode cX7_firstStone 41 = .ok (.iload_n 1, 1) := by decide +kernel
theorem dX7_firstStone_42 : decode cX7_firstStone 42 = .ok (.iconst 1, 1) := by decide +kernel
theorem dX7_firstStone_43 : decode cX7_firstStone 43 = .ok (.isub, 1) := by decide +kernel
theorem dX7_firstStone_44 : decode cX7_firstStone 44 = .ok (.iconst 1, 1) := by decide +kernel
theorem dX7_firstStone_45 : decode cX7_firstStone 45 = .ok (.iload_n 2, 1) := by decide +kernel
theorem dX7_firstStone_46 : decode cX7_firstStone 46 = .ok (.iload 8, 2) := by decide +kernel
theorem dX7_firstStone_48 : decode cX7_firstStone 48 = .ok (.iconst (-1), 1) := by decide +kernel
theorem dX7_firstStone_49 : decode cX7_firstStone 49 = .ok (.ixor, 1) := by decide +kernel
theorem dX7_firstStone_50 : decode cX7_firstStone 50 = .ok (.iand, 1) := by decide +kernel
theorem dX7_firstStone_51 : decode cX7_firstStone 51 = .ok (.iload_n 3, 1) := by decide +kernel
theorem dX7_firstStone_52 : decode cX7_firstStone 52 = .ok (.iload 8, 2) := by decide +kernel
theorem dX7_firstStone_54 : decode cX7_firstStone 54 = .ok (.iconst (-1), 1) := by decide +kernel
theorem dX7_firstStone_55 : decode cX7_firstStone 55 = .ok (.ixor, 1) := by decide +kernel
theorem dX7_firstStone_56 : decode cX7_firstStone 56 = .ok (.iand, 1) := by decide +kernel
theorem dX7_firstStone_57 : decode cX7_firstStone 57 = .ok (.iload 4, 2) := by decide +kernel
theorem dX7_firstStone_59 : decode cX7_firstStone 59 = .ok (.iconst 5, 1) := by decide +kernel
theorem dX7_firstStone_60 : decode cX7_firstStone 60 = .ok (.aload_n 0, 1) := by decide +kernel
theorem dX7_firstStone_61 : decode cX7_firstStone 61 = .ok (.getfield 10, 3) := by decide +kernel
theorem dX7_firstStone_64 : decode cX7_firstStone 64 = .ok (.iload 7, 2) := by decide +kernel
theorem dX7_firstStone_66 : decode cX7_firstStone 66 = .ok (.invokevirtual 113, 3) := by decide +kernel
theorem dX7_firstStone_69 : decode cX7_firstStone 69 = .ok (.imul, 1) := by decide +kernel
theorem dX7_firstStone_70 : decode cX7_firstStone 70 = .ok (.iadd, 1) := by decide +kernel
theorem dX7_firstStone_71 : decode cX7_firstStone 71 = .ok (.invokestatic 195, 3) := by decide +kernel
theorem dX7_firstStone_74 : decode cX7_firstStone 74 = .ok (.istore 9, 2) := by decide +kernel
theorem dX7_firstStone_76 : decode cX7_firstStone 76 = .ok (.iload 5, 2) := by decide +kernel
theorem dX7_firstStone_78 : decode cX7_firstStone 78 = .ok (.iconst (-1), 1) := by decide +kernel
theorem dX7_firstStone_79 : decode cX7_firstStone 79 = .ok (.if_icmp .eq 10, 3) := by decide +kernel
theorem dX7_firstStone_82 : decode cX7_firstStone 82 = .ok (.iload 9, 2) := by decide +kernel
theorem dX7_firstStone_84 : decode cX7_firstStone 84 = .ok (.iload 6, 2) := by decide +kernel
theorem dX7_firstStone_86 : decode cX7_firstStone 86 = .ok (.if_icmp .le 11, 3) := by decide +kernel
theorem dX7_firstStone_89 : decode cX7_firstStone 89 = .ok (.iload 7, 2) := by decide +kernel
theorem dX7_firstStone_91 : decode cX7_firstStone 91 = .ok (.istore 5, 2) := by decide +kernel
theorem dX7_firstStone_93 : decode cX7_firstStone 93 = .ok (.iload 9, 2) := by decide +kernel
theorem dX7_firstStone_95 : decode cX7_firstStone 95 = .ok (.istore 6, 2) := by decide +kernel
theorem dX7_firstStone_97 : decode cX7_firstStone 97 = .ok (.iinc 7 1, 3) := by decide +kernel
theorem dX7_firstStone_100 : decode cX7_firstStone 100 = .ok (.goto (-91), 3) := by decide +kernel
theorem dX7_firstStone_103 : decode cX7_firstStone 103 = .ok (.iload 5, 2) := by decide +kernel
theorem dX7_firstStone_105 : decode cX7_firstStone 105 = .ok (.ireturn, 1) := by decide +kernel
theorem dX7_playOut_0 : decode cX7_playOut 0 = .ok (.iload_n 1, 1) := by decide +kernel
theorem dX7_playOut_1 : decode cX7_playOut 1 = .ok (.ifCond .gt 6, 3) := by decide +kernel
theorem dX7_playOut_4 : decode cX7_playOut 4 = .ok (.iload 5, 2) := by decide +kernel
theorem dX7_playOut_6 : decode cX7_playOut 6 = .ok (.ireturn, 1) := by decide +kernel
theorem dX7_playOut_7 : decode cX7_playOut 7 = .ok (.iload_n 2, 1) := by decide +kernel
theorem dX7_playOut_8 : decode cX7_playOut 8 = .ok (.ifCond .ne 7, 3) := by decide +kernel
theorem dX7_playOut_11 : decode cX7_playOut 11 = .ok (.iload_n 3, 1) := by decide +kernel
theorem dX7_playOut_12 : decode cX7_playOut 12 = .ok (.goto 5, 3) := by decide +kernel
theorem dX7_playOut_15 : decode cX7_playOut 15 = .ok (.iload 4, 2) := by decide +kernel
theorem dX7_playOut_17 : decode cX7_playOut 17 = .ok (.istore 6, 2) := by decide +kernel
theorem dX7_playOut_19 : decode cX7_playOut 19 = .ok (.iload 6, 2) := by decide +kernel
theorem dX7_playOut_21 : decode cX7_playOut 21 = .ok (.ifCond .ne 19, 3) := by decide +kernel
theorem dX7_playOut_24 : decode cX7_playOut 24 = .ok (.aload_n 0, 1) := by decide +kernel
theorem dX7_playOut_25 : decode cX7_playOut 25 = .ok (.iload_n 1, 1) := by decide +kernel
theorem dX7_playOut_26 : decode cX7_playOut 26 = .ok (.iconst 1, 1) := by decide +kernel
theorem dX7_playOut_27 : decode cX7_playOut 27 = .ok (.isub, 1) := by decide +kernel
theorem dX7_playOut_28 : decode cX7_playOut 28 = .ok (.iconst 1, 1) := by decide +kernel
theorem dX7_playOut_29 : decode cX7_playOut 29 = .ok (.iload_n 2, 1) := by decide +kernel
theorem dX7_playOut_30 : decode cX7_playOut 30 = .ok (.isub, 1) := by decide +kernel
theorem dX7_playOut_31 : decode cX7_playOut 31 = .ok (.iload_n 3, 1) := by decide +kernel
theorem dX7_playOut_32 : decode cX7_playOut 32 = .ok (.iload 4, 2) := by decide +kernel
theorem dX7_playOut_34 : decode cX7_playOut 34 = .ok (.iload 5, 2) := by decide +kernel
theorem dX7_playOut_36 : decode cX7_playOut 36 = .ok (.invokestatic 195, 3) := by decide +kernel
theorem dX7_playOut_39 : decode cX7_playOut 39 = .ok (.ireturn, 1) := by decide +kernel
theorem dX7_playOut_40 : decode cX7_playOut 40 = .ok (.iload_n 2, 1) := by decide +kernel
theorem dX7_playOut_41 : decode cX7_playOut 41 = .ok (.ifCond .ne 7, 3) := by decide +kernel
theorem dX7_playOut_44 : decode cX7_playOut 44 = .ok (.iconst 1, 1) := by decide +kernel
theorem dX7_playOut_45 : decode cX7_playOut 45 = .ok (.goto 4, 3) := by decide +kernel
theorem dX7_playOut_48 : decode cX7_playOut 48 = .ok (.iconst (-1), 1) := by decide +kernel
theorem dX7_playOut_49 : decode cX7_playOut 49 = .ok (.istore 7, 2) := by decide +kernel
theorem dX7_playOut_51 : decode cX7_playOut 51 = .ok (.iconst 0, 1) := by decide +kernel
theorem dX7_playOut_52 : decode cX7_playOut 52 = .ok (.istore 8, 2) := by decide +kernel
theorem dX7_playOut_54 : decode cX7_playOut 54 = .ok (.iconst 0, 1) := by decide +kernel
theorem dX7_playOut_55 : decode cX7_playOut 55 = .ok (.istore 9, 2) := by decide +kernel
theorem dX7_playOut_57 : decode cX7_playOut 57 = .ok (.iconst 0, 1) := by decide +kernel
theorem dX7_playOut_58 : decode cX7_playOut 58 = .ok (.istore 10, 2) := by decide +kernel
theorem dX7_playOut_60 : decode cX7_playOut 60 = .ok (.iload 10, 2) := by decide +kernel
theorem dX7_playOut_62 : decode cX7_playOut 62 = .ok (.aload_n 0, 1) := by decide +kernel
theorem dX7_playOut_63 : decode cX7_playOut 63 = .ok (.getfield 110, 3) := by decide +kernel
theorem dX7_playOut_66 : decode cX7_playOut 66 = .ok (.getfield 96, 3) := by decide +kernel
theorem dX7_playOut_69 : decode cX7_playOut 69 = .ok (.if_icmp .ge 91, 3) := by decide +kernel
theorem dX7_playOut_72 : decode cX7_playOut 72 = .ok (.iconst 1, 1) := by decide +kernel
theorem dX7_playOut_73 : decode cX7_playOut 73 = .ok (.iload 10, 2) := by decide +kernel
theorem dX7_playOut_75 : decode cX7_playOut 75 = .ok (.ishl, 1) := by decide +kernel
theorem dX7_playOut_76 : decode cX7_playOut 76 = .ok (.istore 11, 2) := by decide +kernel
theorem dX7_playOut_78 : decode cX7_playOut 78 = .ok (.iload 6, 2) := by decide +kernel
theorem dX7_playOut_80 : decode cX7_playOut 80 = .ok (.iload 11, 2) := by decide +kernel
theorem dX7_playOut_82 : decode cX7_playOut 82 = .ok (.iand, 1) := by decide +kernel
theorem dX7_playOut_83 : decode cX7_playOut 83 = .ok (.ifCond .eq 71, 3) := by decide +kernel
theorem dX7_playOut_86 : decode cX7_playOut 86 = .ok (.iload 5, 2) := by decide +kernel
theorem dX7_playOut_88 : decode cX7_playOut 88 = .ok (.iload 7, 2) := by decide +kernel
theorem dX7_playOut_90 : decode cX7_playOut 90 = .ok (.iconst 5, 1) := by decide +kernel
theorem dX7_playOut_91 : decode cX7_playOut 91 = .ok (.imul, 1) := by decide +kernel
theorem dX7_playOut_92 : decode cX7_playOut 92 = .ok (.aload_n 0, 1) := by decide +kernel
theorem dX7_playOut_93 : decode cX7_playOut 93 = .ok (.iload 10, 2) := by decide +kernel
theorem dX7_playOut_95 : decode cX7_playOut 95 = .ok (.invokevirtual 113, 3) := by decide +kernel
theorem dX7_playOut_98 : decode cX7_playOut 98 = .ok (.imul, 1) := by decide +kernel
theorem dX7_playOut_99 : decode cX7_playOut 99 = .ok (.iadd, 1) := by decide +kernel
theorem dX7_playOut_100 : decode cX7_playOut 100 = .ok (.istore 12, 2) := by decide +kernel
theorem dX7_playOut_102 : decode cX7_playOut 102 = .ok (.aload_n 0, 1) := by decide +kernel
theorem dX7_playOut_103 : decode cX7_playOut 103 = .ok (.iload_n 1, 1) := by decide +kernel
theorem dX7_playOut_104 : decode cX7_playOut 104 = .ok (.iconst 1, 1) := by decide +kernel
theorem dX7_playOut_105 : decode cX7_playOut 105 = .ok (.isub, 1) := by decide +kernel
theorem dX7_playOut_106 : decode cX7_playOut 106 = .ok (.iconst 1, 1) := by decide +kernel
theorem dX7_playOut_107 : decode cX7_playOut 107 = .ok (.iload_n 2, 1) := by decide +kernel
theorem dX7_playOut_108 : decode cX7_playOut 108 = .ok (.isub, 1) := by decide +kernel
theorem dX7_playOut_109 : decode cX7_playOut 109 = .ok (.iload_n 3, 1) := by decide +kernel
theorem dX7_playOut_110 : decode cX7_playOut 110 = .ok (.iload 11, 2) := by decide +kernel
theorem dX7_playOut_112 : decode cX7_playOut 112 = .ok (.iconst (-1), 1) := by decide +kernel
theorem dX7_playOut_113 : decode cX7_playOut 113 = .ok (.ixor, 1) := by decide +kernel
theorem dX7_playOut_114 : decode cX7_playOut 114 = .ok (.iand, 1) := by decide +kernel
theorem dX7_playOut_115 : decode cX7_playOut 115 = .ok (.iload 4, 2) := by decide +kernel
theorem dX7_playOut_117 : decode cX7_playOut 117 = .ok (.iload 11, 2) := by decide +kernel
theorem dX7_playOut_119 : decode cX7_playOut 119 = .ok (.iconst (-1), 1) := by decide +kernel
theorem dX7_playOut_120 : decode cX7_playOut 120 = .ok (.ixor, 1) := by decide +kernel
theorem dX7_playOut_121 : decode cX7_playOut 121 = .ok (.iand, 1) := by decide +kernel
theorem dX7_playOut_122 : decode cX7_playOut 122 = .ok (.iload 12, 2) := by decide +kernel
theorem dX7_playOut_124 : decode cX7_playOut 124 = .ok (.invokestatic 195, 3) := by decide +kernel
theorem dX7_playOut_127 : decode cX7_playOut 127 = .ok (.istore 13, 2) := by decide +kernel
theorem dX7_playOut_129 : decode cX7_playOut 129 = .ok (.iload 8, 2) := by decide +kernel
theorem dX7_playOut_131 : decode cX7_playOut 131 = .ok (.ifCond .eq 16, 3) := by decide +kernel
theorem dX7_playOut_134 : decode cX7_playOut 134 = .ok (.iload 7, 2) := by decide +kernel
theorem dX7_playOut_136 : decode cX7_playOut 136 = .ok (.iload 13, 2) := by decide +kernel
theorem dX7_playOut_138 : decode cX7_playOut 138 = .ok (.imul, 1) := by decide +kernel
theorem dX7_playOut_139 : decode cX7_playOut 139 = .ok (.iload 7, 2) := by decide +kernel
theorem dX7_playOut_141 : decode cX7_playOut 141 = .ok (.iload 9, 2) := by decide +kernel
theorem dX7_playOut_143 : decode cX7_playOut 143 = .ok (.imul, 1) := by decide +kernel
theorem dX7_playOut_144 : decode cX7_playOut 144 = .ok (.if_icmp .le 10, 3) := by decide +kernel
theorem dX7_playOut_147 : decode cX7_playOut 147 = .ok (.iconst 1, 1) := by decide +kernel
theorem dX7_playOut_148 : decode cX7_playOut 148 = .ok (.istore 8, 2) := by decide +kernel
theorem dX7_playOut_150 : decode cX7_playOut 150 = .ok (.iload 13, 2) := by decide +kernel
theorem dX7_playOut_152 : decode cX7_playOut 152 = .ok (.istore 9, 2) := by decide +kernel
theorem dX7_playOut_154 : decode cX7_playOut 154 = .ok (.iinc 10 1, 3) := by decide +kernel
theorem dX7_playOut_157 : decode cX7_playOut 157 = .ok (.goto (-97), 3) := by decide +kernel
theorem dX7_playOut_160 : decode cX7_playOut 160 = .ok (.iload 9, 2) := by decide +kernel
theorem dX7_playOut_162 : decode cX7_playOut 162 = .ok (.ireturn, 1) := by decide +kernel
theorem dX7_found_0 : decode cX7_found 0 = .ok (.aload_n 0, 1) := by decide +kernel
theorem dX7_found_1 : decode cX7_found 1 = .ok (.iload_n 1, 1) := by decide +kernel
theorem dX7_found_2 : decode cX7_found 2 = .ok (.putfield 57, 3) := by decide +kernel
theorem dX7_found_5 : decode cX7_found 5 = .ok (.bipush (-10), 2) := by decide +kernel
theorem dX7_found_7 : decode cX7_found 7 = .ok (.iload_n 1, 1) := by decide +kernel
theorem dX7_found_8 : decode cX7_found 8 = .ok (.isub, 1) := by decide +kernel
theorem dX7_found_9 : decode cX7_found 9 = .ok (.ireturn, 1) := by decide +kernel
theorem dX7_refusalOf_0 : decode cX7_refusalOf 0 = .ok (.iload_n 1, 1) := by decide +kernel
theorem dX7_refusalOf_1 : decode cX7_refusalOf 1 = .ok (.iconst 0, 1) := by decide +kernel
theorem dX7_refusalOf_2 : decode cX7_refusalOf 2 = .ok (.iconst 3, 1) := by decide +kernel
theorem dX7_refusalOf_3 : decode cX7_refusalOf 3 = .ok (.invokestatic 62, 3) := by decide +kernel
theorem dX7_refusalOf_6 : decode cX7_refusalOf 6 = .ok (.ifCond .ne 6, 3) := by decide +kernel
theorem dX7_refusalOf_9 : decode cX7_refusalOf 9 = .ok (.bipush (-2), 2) := by decide +kernel
theorem dX7_refusalOf_11 : decode cX7_refusalOf 11 = .ok (.ireturn, 1) := by decide +kernel
theorem dX7_refusalOf_12 : decode cX7_refusalOf 12 = .ok (.aload_n 0, 1) := by decide +kernel
theorem dX7_refusalOf_13 : decode cX7_refusalOf 13 = .ok (.getfield 53, 3) := by decide +kernel
theorem dX7_refusalOf_16 : decode cX7_refusalOf 16 = .ok (.iload_n 1, 1) := by decide +kernel
theorem dX7_refusalOf_17 : decode cX7_refusalOf 17 = .ok (.aaload, 1) := by decide +kernel
theorem dX7_refusalOf_18 : decode cX7_refusalOf 18 = .ok (.invokevirtual 233, 3) := by decide +kernel
theorem dX7_refusalOf_21 : decode cX7_refusalOf 21 = .ok (.ifCond .eq 11, 3) := by decide +kernel
theorem dX7_refusalOf_24 : decode cX7_refusalOf 24 = .ok (.aload_n 0, 1) := by decide +kernel
theorem dX7_refusalOf_25 : decode cX7_refusalOf 25 = .ok (.iconst 1, 1) := by decide +kernel
theorem dX7_refusalOf_26 : decode cX7_refusalOf 26 = .ok (.invokevirtual 218, 3) := by decide +kernel
theorem dX7_refusalOf_29 : decode cX7_refusalOf 29 = .ok (.goto 4, 3) := by decide +kernel
theorem dX7_refusalOf_32 : decode cX7_refusalOf 32 = .ok (.iconst 0, 1) := by decide +kernel
theorem dX7_refusalOf_33 : decode cX7_refusalOf 33 = .ok (.ireturn, 1) := by decide +kernel
theorem dX7_refusalOfItem_0 : decode cX7_refusalOfItem 0 = .ok (.iload_n 1, 1) := by decide +kernel
theorem dX7_refusalOfItem_1 : decode cX7_refusalOfItem 1 = .ok (.iconst 0, 1) := by decide +kernel
theorem dX7_refusalOfItem_2 : decode cX7_refusalOfItem 2 = .ok (.iconst 3, 1) := by decide +kernel
theorem dX7_refusalOfItem_3 : decode cX7_refusalOfItem 3 = .ok (.invokestatic 62, 3) := by decide +kernel
theorem dX7_refusalOfItem_6 : decode cX7_refusalOfItem 6 = .ok (.ifCond .eq 12, 3) := by decide +kernel
theorem dX7_refusalOfItem_9 : decode cX7_refusalOfItem 9 = .ok (.iload_n 2, 1) := by decide +kernel
theorem dX7_refusalOfItem_10 : decode cX7_refusalOfItem 10 = .ok (.iconst 0, 1) := by decide +kernel
theorem dX7_refusalOfItem_11 : decode cX7_refusalOfItem 11 = .ok (.iconst 2, 1) := by decide +kernel
theorem dX7_refusalOfItem_12 : decode cX7_refusalOfItem 12 = .ok (.invokestatic 62, 3) := by decide +kernel
theorem dX7_refusalOfItem_15 : decode cX7_refusalOfItem 15 = .ok (.ifCond .ne 6, 3) := by decide +kernel
theorem dX7_refusalOfItem_18 : decode cX7_refusalOfItem 18 = .ok (.bipush (-2), 2) := by decide +kernel
theorem dX7_refusalOfItem_20 : decode cX7_refusalOfItem 20 = .ok (.ireturn, 1) := by decide +kernel
theorem dX7_refusalOfItem_21 : decode cX7_refusalOfItem 21 = .ok (.aload_n 0, 1) := by decide +kernel
theorem dX7_refusalOfItem_22 : decode cX7_refusalOfItem 22 = .ok (.getfield 53, 3) := by decide +kernel
theorem dX7_refusalOfItem_25 : decode cX7_refusalOfItem 25 = .ok (.iload_n 1, 1) := by decide +kernel
theorem dX7_refusalOfItem_26 : decode cX7_refusalOfItem 26 = .ok (.aaload, 1) := by decide +kernel
theorem dX7_refusalOfItem_27 : decode cX7_refusalOfItem 27 = .ok (.invokevirtual 233, 3) := by decide +kernel
theorem dX7_refusalOfItem_30 : decode cX7_refusalOfItem 30 = .ok (.ifCond .eq 9, 3) := by decide +kernel
theorem dX7_refusalOfItem_33 : decode cX7_refusalOfItem 33 = .ok (.aload_n 0, 1) := by decide +kernel
theorem dX7_refusalOfItem_34 : decode cX7_refusalOfItem 34 = .ok (.iconst 1, 1) := by decide +kernel
theorem dX7_refusalOfItem_35 : decode cX7_refusalOfItem 35 = .ok (.invokevirtual 218, 3) := by decide +kernel
theorem dX7_refusalOfItem_38 : decode cX7_refusalOfItem 38 = .ok (.ireturn, 1) := by decide +kernel
theorem dX7_refusalOfItem_39 : decode cX7_refusalOfItem 39 = .ok (.aload_n 0, 1) := by decide +kernel
theorem dX7_refusalOfItem_40 : decode cX7_refusalOfItem 40 = .ok (.getfield 53, 3) := by decide +kernel
theorem dX7_refusalOfItem_43 : decode cX7_refusalOfItem 43 = .ok (.iload_n 1, 1) := by decide +kernel
theorem dX7_refusalOfItem_44 : decode cX7_refusalOfItem 44 = .ok (.aaload, 1) := by decide +kernel
theorem dX7_refusalOfItem_45 : decode cX7_refusalOfItem 45 = .ok (.getfield 236, 3) := by decide +kernel
theorem dX7_refusalOfItem_48 : decode cX7_refusalOfItem 48 = .ok (.iload_n 2, 1) := by decide +kernel
theorem dX7_refusalOfItem_49 : decode cX7_refusalOfItem 49 = .ok (.if_icmp .eq 9, 3) := by decide +kernel
theorem dX7_refusalOfItem_52 : decode cX7_refusalOfItem 52 = .ok (.aload_n 0, 1) := by decide +kernel
theorem dX7_refusalOfItem_53 : decode cX7_refusalOfItem 53 = .ok (.iconst 3, 1) := by decide +kernel
theorem dX7_refusalOfItem_54 : decode cX7_refusalOfItem 54 = .ok (.invokevirtual 218, 3) := by decide +kernel
theorem dX7_refusalOfItem_57 : decode cX7_refusalOfItem 57 = .ok (.ireturn, 1) := by decide +kernel
theorem dX7_refusalOfItem_58 : decode cX7_refusalOfItem 58 = .ok (.iload_n 3, 1) := by decide +kernel
theorem dX7_refusalOfItem_59 : decode cX7_refusalOfItem 59 = .ok (.iconst 0, 1) := by decide +kernel
theorem dX7_refusalOfItem_60 : decode cX7_refusalOfItem 60 = .ok (.aload_n 0, 1) := by decide +kernel
theorem dX7_refusalOfItem_61 : decode cX7_refusalOfItem 61 = .ok (.getfield 53, 3) := by decide +kernel
theorem dX7_refusalOfItem_64 : decode cX7_refusalOfItem 64 = .ok (.iload_n 1, 1) := by decide +kernel
theorem dX7_refusalOfItem_65 : decode cX7_refusalOfItem 65 = .ok (.aaload, 1) := by decide +kernel
theorem dX7_refusalOfItem_66 : decode cX7_refusalOfItem 66 = .ok (.getfield 142, 3) := by decide +kernel
theorem dX7_refusalOfItem_69 : decode cX7_refusalOfItem 69 = .ok (.iconst 1, 1) := by decide +kernel
theorem dX7_refusalOfItem_70 : decode cX7_refusalOfItem 70 = .ok (.isub, 1) := by decide +kernel
theorem dX7_refusalOfItem_71 : decode cX7_refusalOfItem 71 = .ok (.invokestatic 62, 3) := by decide +kernel
theorem dX7_refusalOfItem_74 : decode cX7_refusalOfItem 74 = .ok (.ifCond .eq 7, 3) := by decide +kernel
theorem dX7_refusalOfItem_77 : decode cX7_refusalOfItem 77 = .ok (.iconst 0, 1) := by decide +kernel
theorem dX7_refusalOfItem_78 : decode cX7_refusalOfItem 78 = .ok (.goto 8, 3) := by decide +kernel
theorem dX7_refusalOfItem_81 : decode cX7_refusalOfItem 81 = .ok (.aload_n 0, 1) := by decide +kernel
theorem dX7_refusalOfItem_82 : decode cX7_refusalOfItem 82 = .ok (.iconst 2, 1) := by decide +kernel
theorem dX7_refusalOfItem_83 : decode cX7_refusalOfItem 83 = .ok (.invokevirtual 218, 3) := by decide +kernel
theorem dX7_refusalOfItem_86 : decode cX7_refusalOfItem 86 = .ok (.ireturn, 1) := by decide +kernel
theorem dX7_within_0 : decode cX7_within 0 = .ok (.iload_n 0, 1) := by decide +kernel
theorem dX7_within_1 : decode cX7_within 1 = .ok (.iload_n 1, 1) := by decide +kernel
theorem dX7_within_2 : decode cX7_within 2 = .ok (.if_icmp .lt 12, 3) := by decide +kernel
theorem dX7_within_5 : decode cX7_within 5 = .ok (.iload_n 0, 1) := by decide +kernel
theorem dX7_within_6 : decode cX7_within 6 = .ok (.iload_n 2, 1) := by decide +kernel
theorem dX7_within_7 : decode cX7_within 7 = .ok (.if_icmp .gt 7, 3) := by decide +kernel
theorem dX7_within_10 : decode cX7_within 10 = .ok (.iconst 1, 1) := by decide +kernel
theorem dX7_within_11 : decode cX7_within 11 = .ok (.goto 4, 3) := by decide +kernel
theorem dX7_within_14 : decode cX7_within 14 = .ok (.iconst 0, 1) := by decide +kernel
theorem dX7_within_15 : decode cX7_within 15 = .ok (.ireturn, 1) := by decide +kernel
theorem dX7_shelfNumber_0 : decode cX7_shelfNumber 0 = .ok (.iload_n 0, 1) := by decide +kernel
theorem dX7_shelfNumber_1 : decode cX7_shelfNumber 1 = .ok (.iconst 5, 1) := by decide +kernel
theorem dX7_shelfNumber_2 : decode cX7_shelfNumber 2 = .ok (.imul, 1) := by decide +kernel
theorem dX7_shelfNumber_3 : decode cX7_shelfNumber 3 = .ok (.iload_n 1, 1) := by decide +kernel
theorem dX7_shelfNumber_4 : decode cX7_shelfNumber 4 = .ok (.iadd, 1) := by decide +kernel
theorem dX7_shelfNumber_5 : decode cX7_shelfNumber 5 = .ok (.iconst 1, 1) := by decide +kernel
theorem dX7_shelfNumber_6 : decode cX7_shelfNumber 6 = .ok (.isub, 1) := by decide +kernel
theorem dX7_shelfNumber_7 : decode cX7_shelfNumber 7 = .ok (.ireturn, 1) := by decide +kernel
theorem dX8_init_0 : decode cX8_init 0 = .ok (.aload_n 0, 1) := by decide +kernel
theorem dX8_init_1 : decode cX8_init 1 = .ok (.invokespecial 1, 3) := by decide +kernel
theorem dX8_init_4 : decode cX8_init 4 = .ok (.aload_n 0, 1) := by decide +kernel
theorem dX8_init_5 : decode cX8_init 5 = .ok (.iconst 4, 1) := by decide +kernel
theorem dX8_init_6 : decode cX8_init 6 = .ok (.newarray .int, 2) := by decide +kernel
theorem dX8_init_8 : decode cX8_init 8 = .ok (.putfield 7, 3) := by decide +kernel
theorem dX8_init_11 : decode cX8_init 11 = .ok (.aload_n 0, 1) := by decide +kernel
theorem dX8_init_12 : decode cX8_init 12 = .ok (.iconst 4, 1) := by decide +kernel
theorem dX8_init_13 : decode cX8_init 13 = .ok (.newarray .int, 2) := by decide +kernel
theorem dX8_init_15 : decode cX8_init 15 = .ok (.putfield 13, 3) := by decide +kernel
theorem dX8_init_18 : decode cX8_init 18 = .ok (.aload_n 0, 1) := by decide +kernel
theorem dX8_init_19 : decode cX8_init 19 = .ok (.sipush 240, 3) := by decide +kernel
theorem dX8_init_22 : decode cX8_init 22 = .ok (.newarray .int, 2) := by decide +kernel
theorem dX8_init_24 : decode cX8_init 24 = .ok (.putfield 16, 3) := by decide +kernel
theorem dX8_init_27 : decode cX8_init 27 = .ok (.aload_n 0, 1) := by decide +kernel
theorem dX8_init_28 : decode cX8_init 28 = .ok (.bipush 60, 2) := by decide +kernel
theorem dX8_init_30 : decode cX8_init 30 = .ok (.newarray .int, 2) := by decide +kernel
theorem dX8_init_32 : decode cX8_init 32 = .ok (.putfield 19, 3) := by decide +kernel
theorem dX8_init_35 : decode cX8_init 35 = .ok (.aload_n 0, 1) := by decide +kernel
theorem dX8_init_36 : decode cX8_init 36 = .ok (.bipush 36, 2) := by decide +kernel
theorem dX8_init_38 : decode cX8_init 38 = .ok (.newarray .int, 2) := by decide +kernel
theorem dX8_init_40 : decode cX8_init 40 = .ok (.putfield 22, 3) := by decide +kernel
theorem dX8_init_43 : decode cX8_init 43 = .ok (.aload_n 0, 1) := by decide +kernel
theorem dX8_init_44 : decode cX8_init 44 = .ok (.iconst 2, 1) := by decide +kernel
theorem dX8_init_45 : decode cX8_init 45 = .ok (.newarray .int, 2) := by decide +kernel
theorem dX8_init_47 : decode cX8_init 47 = .ok (.putfield 25, 3) := by decide +kernel
theorem dX8_init_50 : decode cX8_init 50 = .ok (.aload_n 0, 1) := by decide +kernel
theorem dX8_init_51 : decode cX8_init 51 = .ok (.bipush 8, 2) := by decide +kernel
theorem dX8_init_53 : decode cX8_init 53 = .ok (.newarray .int, 2) := by decide +kernel
theorem dX8_init_55 : decode cX8_init 55 = .ok (.putfield 28, 3) := by decide +kernel
theorem dX8_init_58 : decode cX8_init 58 = .ok (.aload_n 0, 1) := by decide +kernel
theorem dX8_init_59 : decode cX8_init 59 = .ok (.bipush 8, 2) := by decide +kernel
theorem dX8_init_61 : decode cX8_init 61 = .ok (.newarray .int, 2) := by decide +kernel
theorem dX8_init_63 : decode cX8_init 63 = .ok (.putfield 31, 3) := by decide +kernel
theorem dX8_init_66 : decode cX8_init 66 = .ok (.aload_n 0, 1) := by decide +kernel
theorem dX8_init_67 : decode cX8_init 67 = .ok (.bipush 9, 2) := by decide +kernel
theorem dX8_init_69 : decode cX8_init 69 = .ok (.newarray .int, 2) := by decide +kernel
theorem dX8_init_71 : decode cX8_init 71 = .ok (.putfield 34, 3) := by decide +kernel
theorem dX8_init_74 : decode cX8_init 74 = .ok (.aload_n 0, 1) := by decide +kernel
theorem dX8_init_75 : decode cX8_init 75 = .ok (.bipush 9, 2) := by decide +kernel
theorem dX8_init_77 : decode cX8_init 77 = .ok (.newarray .int, 2) := by decide +kernel
theorem dX8_init_79 : decode cX8_init 79 = .ok (.putfield 37, 3) := by decide +kernel
theorem dX8_init_82 : decode cX8_init 82 = .ok (.aload_n 0, 1) := by decide +kernel
theorem dX8_init_83 : decode cX8_init 83 = .ok (.iconst 2, 1) := by decide +kernel
theorem dX8_init_84 : decode cX8_init 84 = .ok (.newarray .int, 2) := by decide +kernel
theorem dX8_init_86 : decode cX8_init 86 = .ok (.putfield 40, 3) := by decide +kernel
theorem dX8_init_89 : decode cX8_init 89 = .ok (.aload_n 0, 1) := by decide +kernel
theorem dX8_init_90 : decode cX8_init 90 = .ok (.bipush 25, 2) := by decide +kernel
theorem dX8_init_92 : decode cX8_init 92 = .ok (.newarray .int, 2) := by decide +kernel
theorem dX8_init_94 : decode cX8_init 94 = .ok (.putfield 43, 3) := by decide +kernel
theorem dX8_init_97 : decode cX8_init 97 = .ok (.aload_n 0, 1) := by decide +kernel
theorem dX8_init_98 : decode cX8_init 98 = .ok (.bipush 8, 2) := by decide +kernel
theorem dX8_init_100 : decode cX8_init 100 = .ok (.newarray .int, 2) := by decide +kernel
theorem dX8_init_102 : decode cX8_init 102 = .ok (.putfield 46, 3) := by decide +kernel
theorem dX8_init_105 : decode cX8_init 105 = .ok (.aload_n 0, 1) := by decide +kernel
theorem dX8_init_106 : decode cX8_init 106 = .ok (.bipush 90, 2) := by decide +kernel
theorem dX8_init_108 : decode cX8_init 108 = .ok (.newarray .int, 2) := by decide +kernel
theorem dX8_init_110 : decode cX8_init 110 = .ok (.putfield 49, 3) := by decide +kernel
theorem dX8_init_113 : decode cX8_init 113 = .ok (.aload_n 0, 1) := by decide +kernel
theorem dX8_init_114 : decode cX8_init 114 = .ok (.bipush 30, 2) := by decide +kernel
theorem dX8_init_116 : decode cX8_init 116 = .ok (.newarray .int, 2) := by decide +kernel
theorem dX8_init_118 : decode cX8_init 118 = .ok (.putfield 52, 3) := by decide +kernel
theorem dX8_init_121 : decode cX8_init 121 = .ok (.aload_n 0, 1) := by decide +kernel
theorem dX8_init_122 : decode cX8_init 122 = .ok (.bipush 8, 2) := by decide +kernel
theorem dX8_init_124 : decode cX8_init 124 = .ok (.newarray .int, 2) := by decide +kernel
theorem dX8_init_126 : decode cX8_init 126 = .ok (.putfield 55, 3) := by decide +kernel
theorem dX8_init_129 : decode cX8_init 129 = .ok (.aload_n 0, 1) := by decide +kernel
theorem dX8_init_130 : decode cX8_init 130 = .ok (.bipush 9, 2) := by decide +kernel
theorem dX8_init_132 : decode cX8_init 132 = .ok (.newarray .int, 2) := by decide +kernel
theorem dX8_init_134 : decode cX8_init 134 = .ok (.putfield 58, 3) := by decide +kernel
theorem dX8_init_137 : decode cX8_init 137 = .ok (.aload_n 0, 1) := by decide +kernel
theorem dX8_init_138 : decode cX8_init 138 = .ok (.bipush 12, 2) := by decide +kernel
theorem dX8_init_140 : decode cX8_init 140 = .ok (.newarray .int, 2) := by decide +kernel
theorem dX8_init_142 : decode cX8_init 142 = .ok (.putfield 61, 3) := by decide +kernel
theorem dX8_init_145 : decode cX8_init 145 = .ok (.aload_n 0, 1) := by decide +kernel
theorem dX8_init_146 : decode cX8_init 146 = .ok (.bipush 30, 2) := by decide +kernel
theorem dX8_init_148 : decode cX8_init 148 = .ok (.newarray .boolean, 2) := by decide +kernel
theorem dX8_init_150 : decode cX8_init 150 = .ok (.putfield 64, 3) := by decide +kernel
theorem dX8_init_153 : decode cX8_init 153 = .ok (.aload_n 0, 1) := by decide +kernel
theorem dX8_init_154 : decode cX8_init 154 = .ok (.sipush 512, 3) := by decide +kernel
theorem dX8_init_157 : decode cX8_init 157 = .ok (.newarray .boolean, 2) := by decide +kernel
theorem dX8_init_159 : decode cX8_init 159 = .ok (.putfield 68, 3) := by decide +kernel
theorem dX8_init_162 : decode cX8_init 162 = .ok (.aload_n 0, 1) := by decide +kernel
theorem dX8_init_163 : decode cX8_init 163 = .ok (.sipush 512, 3) := by decide +kernel
theorem dX8_init_166 : decode cX8_init 166 = .ok (.newarray .boolean, 2) := by decide +kernel
theorem dX8_init_168 : decode cX8_init 168 = .ok (.putfield 71, 3) := by decide +kernel
theorem dX8_init_171 : decode cX8_init 171 = .ok (.aload_n 0, 1) := by decide +kernel
theorem dX8_init_172 : decode cX8_init 172 = .ok (.bipush 6, 2) := by decide +kernel
theorem dX8_init_174 : decode cX8_init 174 = .ok (.newarray .int, 2) := by decide +kernel
theorem dX8_init_176 : decode cX8_init 176 = .ok (.putfield 74, 3) := by decide +kernel
theorem dX8_init_179 : decode cX8_init 179 = .ok (.aload_n 0, 1) := by decide +kernel
theorem dX8_init_180 : decode cX8_init 180 = .ok (.bipush 6, 2) := by decide +kernel
theorem dX8_init_182 : decode cX8_init 182 = .ok (.newarray .int, 2) := by decide +kernel
theorem dX8_init_184 : decode cX8_init 184 = .ok (.putfield 77, 3) := by decide +kernel
theorem dX8_init_187 : decode cX8_init 187 = .ok (.aload_n 0, 1) := by decide +kernel
theorem dX8_init_188 : decode cX8_init 188 = .ok (.bipush 6, 2) := by decide +kernel
theorem dX8_init_190 : decode cX8_init 190 = .ok (.newarray .int, 2) := by decide +kernel
theorem dX8_init_192 : decode cX8_init 192 = .ok (.putfield 80, 3) := by decide +kernel
theorem dX8_init_195 : decode cX8_init 195 = .ok (.aload_n 0, 1) := by decide +kernel
theorem dX8_init_196 : decode cX8_init 196 = .ok (.bipush 6, 2) := by decide +kernel
theorem dX8_init_198 : decode cX8_init 198 = .ok (.newarray .int, 2) := by decide +kernel
theorem dX8_init_200 : decode cX8_init 200 = .ok (.putfield 83, 3) := by decide +kernel
theorem dX8_init_203 : decode cX8_init 203 = .ok (.aload_n 0, 1) := by decide +kernel
theorem dX8_init_204 : decode cX8_init 204 = .ok (.bipush 6, 2) := by decide +kernel
theorem dX8_init_206 : decode cX8_init 206 = .ok (.newarray .boolean, 2) := by decide +kernel
theorem dX8_init_208 : decode cX8_init 208 = .ok (.putfield 86, 3) := by decide +kernel
theorem dX8_init_211 : decode cX8_init 211 = .ok (.aload_n 0, 1) := by decide +kernel
theorem dX8_init_212 : decode cX8_init 212 = .ok (.iconst 2, 1) := by decide +kernel
theorem dX8_init_213 : decode cX8_init 213 = .ok (.newarray .int, 2) := by decide +kernel
theorem dX8_init_215 : decode cX8_init 215 = .ok (.putfield 89, 3) := by decide +kernel
theorem dX8_init_218 : decode cX8_init 218 = .ok (.iconst 0, 1) := by decide +kernel
theorem dX8_init_219 : decode cX8_init 219 = .ok (.istore_n 1, 1) := by decide +kernel
theorem dX8_init_220 : decode cX8_init 220 = .ok (.iload_n 1, 1) := by decide +kernel
theorem dX8_init_221 : decode cX8_init 221 = .ok (.iconst 4, 1) := by decide +kernel
theorem dX8_init_222 : decode cX8_init 222 = .ok (.if_icmp .ge 16, 3) := by decide +kernel
theorem dX8_init_225 : decode cX8_init 225 = .ok (.aload_n 0, 1) := by decide +kernel
theorem dX8_init_226 : decode cX8_init 226 = .ok (.getfield 7, 3) := by decide +kernel
theorem dX8_init_229 : decode cX8_init 229 = .ok (.iload_n 1, 1) := by decide +kernel
theorem dX8_init_230 : decode cX8_init 230 = .ok (.iconst (-1), 1) := by decide +kernel
theorem dX8_init_231 : decode cX8_init 231 = .ok (.iastore, 1) := by decide +kernel
theorem dX8_init_232 : decode cX8_init 232 = .ok (.iinc 1 1, 3) := by decide +kernel
theorem dX8_init_235 : decode cX8_init 235 = .ok (.goto (-15), 3) := by decide +kernel
theorem dX8_init_238 : decode cX8_init 238 = .ok (.iconst 0, 1) := by decide +kernel
theorem dX8_init_239 : decode cX8_init 239 = .ok (.istore_n 1, 1) := by decide +kernel
theorem dX8_init_240 : decode cX8_init 240 = .ok (.iload_n 1, 1) := by decide +kernel
theorem dX8_init_241 : decode cX8_init 241 = .ok (.bipush 8, 2) := by decide +kernel
theorem dX8_init_243 : decode cX8_init 243 = .ok (.if_icmp .ge 16, 3) := by decide +kernel
theorem dX8_init_246 : decode cX8_init 246 = .ok (.aload_n 0, 1) := by decide +kernel
theorem dX8_init_247 : decode cX8_init 247 = .ok (.getfield 46, 3) := by decide +kernel
theorem dX8_init_250 : decode cX8_init 250 = .ok (.iload_n 1, 1) := by decide +kernel
theorem dX8_init_251 : decode cX8_init 251 = .ok (.iconst 1, 1) := by decide +kernel
theorem dX8_init_252 : decode cX8_init 252 = .ok (.iastore, 1) := by decide +kernel
theorem dX8_init_253 : decode cX8_init 253 = .ok (.iinc 1 1, 3) := by decide +kernel
theorem dX8_init_256 : decode cX8_init 256 = .ok (.goto (-16), 3) := by decide +kernel
theorem dX8_init_259 : decode cX8_init 259 = .ok (.aload_n 0, 1) := by decide +kernel
theorem dX8_init_260 : decode cX8_init 260 = .ok (.getfield 40, 3) := by decide +kernel
theorem dX8_init_263 : decode cX8_init 263 = .ok (.iconst 0, 1) := by decide +kernel
theorem dX8_init_264 : decode cX8_init 264 = .ok (.bipush 12, 2) := by decide +kernel
theorem dX8_init_266 : decode cX8_init 266 = .ok (.iastore, 1) := by decide +kernel
theorem dX8_init_267 : decode cX8_init 267 = .ok (.aload_n 0, 1) := by decide +kernel
theorem dX8_init_268 : decode cX8_init 268 = .ok (.getfield 40, 3) := by decide +kernel
theorem dX8_init_271 : decode cX8_init 271 = .ok (.iconst 1, 1) := by decide +kernel
theorem dX8_init_272 : decode cX8_init 272 = .ok (.bipush 99, 2) := by decide +kernel
theorem dX8_init_274 : decode cX8_init 274 = .ok (.iastore, 1) := by decide +kernel
theorem dX8_init_275 : decode cX8_init 275 = .ok (.return_, 1) := by decide +kernel
theorem dX8_in_0 : decode cX8_in 0 = .ok (.lload_n 0, 1) := by decide +kernel
theorem dX8_in_1 : decode cX8_in 1 = .ok (.lload_n 2, 1) := by decide +kernel
theorem dX8_in_2 : decode cX8_in 2 = .ok (.lcmp, 1) := by decide +kernel
theorem dX8_in_3 : decode cX8_in 3 = .ok (.ifCond .lt 14, 3) := by decide +kernel
theorem dX8_in_6 : decode cX8_in 6 = .ok (.lload_n 0, 1) := by decide +kernel
theorem dX8_in_7 : decode cX8_in 7 = .ok (.lload 4, 2) := by decide +kernel
theorem dX8_in_9 : decode cX8_in 9 = .ok (.lcmp, 1) := by decide +kernel
theorem dX8_in_10 : decode cX8_in 10 = .ok (.ifCond .gt 7, 3) := by decide +kernel
theorem dX8_in_13 : decode cX8_in 13 = .ok (.iconst 1, 1) := by decide +kernel
theorem dX8_in_14 : decode cX8_in 14 = .ok (.goto 4, 3) := by decide +kernel
theorem dX8_in_17 : decode cX8_in 17 = .ok (.iconst 0, 1) := by decide +kernel
theorem dX8_in_18 : decode cX8_in 18 = .ok (.ireturn, 1) := by decide +kernel
theorem dX8_isTwo_0 : decode cX8_isTwo 0 = .ok (.iload_n 0, 1) := by decide +kernel
theorem dX8_isTwo_1 : decode cX8_isTwo 1 = .ok (.i2l, 1) := by decide +kernel
theorem dX8_isTwo_2 : decode cX8_isTwo 2 = .ok (.lconst 0, 1) := by decide +kernel
theorem dX8_isTwo_3 : decode cX8_isTwo 3 = .ok (.lconst 1, 1) := by decide +kernel
theorem dX8_isTwo_4 : decode cX8_isTwo 4 = .ok (.invokestatic 92, 3) := by decide +kernel
theorem dX8_isTwo_7 : decode cX8_isTwo 7 = .ok (.ireturn, 1) := by decide +kernel
theorem dX8_isIn_0 : decode cX8_isIn 0 = .ok (.iload_n 0, 1) := by decide +kernel
theorem dX8_isIn_1 : decode cX8_isIn 1 = .ok (.iload_n 1, 1) := by decide +kernel
theorem dX8_isIn_2 : decode cX8_isIn 2 = .ok (.ishr, 1) := by decide +kernel
theorem dX8_isIn_3 : decode cX8_isIn 3 = .ok (.iconst 1, 1) := by decide +kernel
theorem dX8_isIn_4 : decode cX8_isIn 4 = .ok (.iand, 1) := by decide +kernel
theorem dX8_isIn_5 : decode cX8_isIn 5 = .ok (.iconst 1, 1) := by decide +kernel
theorem dX8_isIn_6 : decode cX8_isIn 6 = .ok (.if_icmp .ne 7, 3) := by decide +kernel
theorem dX8_isIn_9 : decode cX8_isIn 9 = .ok (.iconst 1, 1) := by decide +kernel
theorem dX8_isIn_10 : decode cX8_isIn 10 = .ok (.goto 4, 3) := by decide +kernel
theorem dX8_isIn_13 : decode cX8_isIn 13 = .ok (.iconst 0, 1) := by decide +kernel
theorem dX8_isIn_14 : decode cX8_isIn 14 = .ok (.ireturn, 1) := by decide +kernel
theorem dX8_ones_0 : decode cX8_ones 0 = .ok (.iconst 0, 1) := by decide +kernel
theorem dX8_ones_1 : decode cX8_ones 1 = .ok (.istore_n 1, 1) := by decide +kernel
theorem dX8_ones_2 : decode cX8_ones 2 = .ok (.iload_n 0, 1) := by decide +kernel
theorem dX8_ones_3 : decode cX8_ones 3 = .ok (.istore_n 2, 1) := by decide +kernel
theorem dX8_ones_4 : decode cX8_ones 4 = .ok (.iload_n 2, 1) := by decide +kernel
theorem dX8_ones_5 : decode cX8_ones 5 = .ok (.ifCond .eq 15, 3) := by decide +kernel
theorem dX8_ones_8 : decode cX8_ones 8 = .ok (.iinc 1 1, 3) := by decide +kernel
theorem dX8_ones_11 : decode cX8_ones 11 = .ok (.iload_n 2, 1) := by decide +kernel
theorem dX8_ones_12 : decode cX8_ones 12 = .ok (.iload_n 2, 1) := by decide +kernel
theorem dX8_ones_13 : decode cX8_ones 13 = .ok (.iconst 1, 1) := by decide +kernel
theorem dX8_ones_14 : decode cX8_ones 14 = .ok (.isub, 1) := by decide +kernel
theorem dX8_ones_15 : decode cX8_ones 15 = .ok (.iand, 1) := by decide +kernel
theorem dX8_ones_16 : decode cX8_ones 16 = .ok (.istore_n 2, 1) := by decide +kernel
theorem dX8_ones_17 : decode cX8_ones 17 = .ok (.goto (-13), 3) := by decide +kernel
theorem dX8_ones_20 : decode cX8_ones 20 = .ok (.iload_n 1, 1) := by decide +kernel
theorem dX8_ones_21 : decode cX8_ones 21 = .ok (.ireturn, 1) := by decide +kernel
theorem dX8_met_0 : decode cX8_met 0 = .ok (.aload_n 0, 1) := by decide +kernel
theorem dX8_met_1 : decode cX8_met 1 = .ok (.iload_n 1, 1) := by decide +kernel
theorem dX8_met_2 : decode cX8_met 2 = .ok (.putfield 96, 3) := by decide +kernel
theorem dX8_met_5 : decode cX8_met 5 = .ok (.bipush (-10), 2) := by decide +kernel
theorem dX8_met_7 : decode cX8_met 7 = .ok (.iload_n 1, 1) := by decide +kernel
theorem dX8_met_8 : decode cX8_met 8 = .ok (.isub, 1) := by decide +kernel
theorem dX8_met_9 : decode cX8_met 9 = .ok (.ireturn, 1) := by decide +kernel
theorem dX8_isSheet_0 : decode cX8_isSheet 0 = .ok (.iload_n 0, 1) := by decide +kernel
theorem dX8_isSheet_1 : decode cX8_isSheet 1 = .ok (.i2l, 1) := by decide +kernel
theorem dX8_isSheet_2 : decode cX8_isSheet 2 = .ok (.lconst 0, 1) := by decide +kernel
theorem dX8_isSheet_3 : decode cX8_isSheet 3 = .ok (.ldc2_w 100, 3) := by decide +kernel
theorem dX8_isSheet_6 : decode cX8_isSheet 6 = .ok (.invokestatic 92, 3) := by decide +kernel
theorem dX8_isSheet_9 : decode cX8_isSheet 9 = .ok (.ireturn, 1) := by decide +kernel
theorem dX8_sheet_0 : decode cX8_sheet 0 = .ok (.iload_n 1, 1) := by decide +kernel
theorem dX8_sheet_1 : decode cX8_sheet 1 = .ok (.invokestatic 102, 3) := by decide +kernel
theorem dX8_sheet_4 : decode cX8_sheet 4 = .ok (.ifCond .eq 21, 3) := by decide +kernel
theorem dX8_sheet_7 : decode cX8_sheet 7 = .ok (.iload_n 2, 1) := by decide +kernel
theorem dX8_sheet_8 : decode cX8_sheet 8 = .ok (.i2l, 1) := by decide +kernel
theorem dX8_sheet_9 : decode cX8_sheet 9 = .ok (.lconst 0, 1) := by decide +kernel
theorem dX8_sheet_10 : decode cX8_sheet 10 = .ok (.ldc2_w 106, 3) := by decide +kernel
theorem dX8_sheet_13 : decode cX8_sheet 13 = .ok (.invokestatic 92, 3) := by decide +kernel
theorem dX8_sheet_16 : decode cX8_sheet 16 = .ok (.ifCond .eq 9, 3) := by decide +kernel
theorem dX8_sheet_19 : decode cX8_sheet 19 = .ok (.iload_n 3, 1) := by decide +kernel
theorem dX8_sheet_20 : decode cX8_sheet 20 = .ok (.bipush 60, 2) := by decide +kernel
theorem dX8_sheet_22 : decode cX8_sheet 22 = .ok (.if_icmp .le 6, 3) := by decide +kernel
theorem dX8_sheet_25 : decode cX8_sheet 25 = .ok (.bipush (-2), 2) := by decide +kernel
theorem dX8_sheet_27 : decode cX8_sheet 27 = .ok (.ireturn, 1) := by decide +kernel
theorem dX8_sheet_28 : decode cX8_sheet 28 = .ok (.iload_n 3, 1) := by decide +kernel
theorem dX8_sheet_29 : decode cX8_sheet 29 = .ok (.ifCond .ge 9, 3) := by decide +kernel
theorem dX8_sheet_32 : decode cX8_sheet 32 = .ok (.aload_n 0, 1) := by decide +kernel
theorem dX8_sheet_33 : decode cX8_sheet 33 = .ok (.iconst 5, 1) := by decide +kernel
theorem dX8_sheet_34 : decode cX8_sheet 34 = .ok (.invokevirtual 108, 3) := by decide +kernel
theorem dX8_sheet_37 : decode cX8_sheet 37 = .ok (.ireturn, 1) := by decide +kernel
theorem dX8_sheet_38 : decode cX8_sheet 38 = .ok (.aload_n 0, 1) := by decide +kernel
theorem dX8_sheet_39 : decode cX8_sheet 39 = .ok (.getfield 7, 3) := by decide +kernel
theorem dX8_sheet_42 : decode cX8_sheet 42 = .ok (.iload_n 1, 1) := by decide +kernel
theorem dX8_sheet_43 : decode cX8_sheet 43 = .ok (.iload_n 2, 1) := by decide +kernel
theorem dX8_sheet_44 : decode cX8_sheet 44 = .ok (.iastore, 1) := by decide +kernel
theorem dX8_sheet_45 : decode cX8_sheet 45 = .ok (.aload_n 0, 1) := by decide +kernel
theorem dX8_sheet_46 : decode cX8_sheet 46 = .ok (.getfield 13, 3) := by decide +kernel
theorem dX8_sheet_49 : decode cX8_sheet 49 = .ok (.iload_n 1, 1) := by decide +kernel
theorem dX8_sheet_50 : decode cX8_sheet 50 = .ok (.iload_n 3, 1) := by decide +kernel
theorem dX8_sheet_51 : decode cX8_sheet 51 = .ok (.iastore, 1) := by decide +kernel
theorem dX8_sheet_52 : decode cX8_sheet 52 = .ok (.iconst 0, 1) := by decide +kernel
theorem dX8_sheet_53 : decode cX8_sheet 53 = .ok (.istore 4, 2) := by decide +kernel
theorem dX8_sheet_55 : decode cX8_sheet 55 = .ok (.iload 4, 2) := by decide +kernel
theorem dX8_sheet_57 : decode cX8_sheet 57 = .ok (.iload_n 3, 1) := by decide +kernel
theorem dX8_sheet_58 : decode cX8_sheet 58 = .ok (.if_icmp .ge 22, 3) := by decide +kernel
theorem dX8_sheet_61 : decode cX8_sheet 61 = .ok (.aload_n 0, 1) := by decide +kernel
theorem dX8_sheet_62 : decode cX8_sheet 62 = .ok (.getfield 16, 3) := by decide +kernel
theorem dX8_sheet_65 : decode cX8_sheet 65 = .ok (.bipush 60, 2) := by decide +kernel
theorem dX8_sheet_67 : decode cX8_sheet 67 = .ok (.iload_n 1, 1) := by decide +kernel
theorem dX8_sheet_68 : decode cX8_sheet 68 = .ok (.imul, 1) := by decide +kernel
theorem dX8_sheet_69 : decode cX8_sheet 69 = .ok (.iload 4, 2) := by decide +kernel
theorem dX8_sheet_71 : decode cX8_sheet 71 = .ok (.iadd, 1) := by decide +kernel
theorem dX8_sheet_72 : decode cX8_sheet 72 = .ok (.iconst 0, 1) := by decide +kernel
theorem dX8_sheet_73 : decode cX8_sheet 73 = .ok (.iastore, 1) := by decide +kernel
theorem dX8_sheet_74 : decode cX8_sheet 74 = .ok (.iinc 4 1, 3) := by decide +kernel
theorem dX8_sheet_77 : decode cX8_sheet 77 = .ok (.goto (-22), 3) := by decide +kernel
theorem dX8_sheet_80 : decode cX8_sheet 80 = .ok (.iload_n 3, 1) := by decide +kernel
theorem dX8_sheet_81 : decode cX8_sheet 81 = .ok (.ireturn, 1) := by decide +kernel
theorem dX8_lose_0 : decode cX8_lose 0 = .ok (.iload_n 1, 1) := by decide +kernel
theorem dX8_lose_1 : decode cX8_lose 1 = .ok (.invokestatic 102, 3) := by decide +kernel
theorem dX8_lose_4 : decode cX8_lose 4 = .ok (.ifCond .ne 6, 3) := by decide +kernel
theorem dX8_lose_7 : decode cX8_lose 7 = .ok (.bipush (-2), 2) := by decide +kernel
theorem dX8_lose_9 : decode cX8_lose 9 = .ok (.ireturn, 1) := by decide +kernel
theorem dX8_lose_10 : decode cX8_lose 10 = .ok (.aload_n 0, 1) := by decide +kernel
theorem dX8_lose_11 : decode cX8_lose 11 = .ok (.getfield 7, 3) := by decide +kernel
theorem dX8_lose_14 : decode cX8_lose 14 = .ok (.iload_n 1, 1) := by decide +kernel
theorem dX8_lose_15 : decode cX8_lose 15 = .ok (.iaload, 1) := by decide +kernel
theorem dX8_lose_16 : decode cX8_lose 16 = .ok (.ifCond .ge 9, 3) := by decide +kernel
theorem dX8_lose_19 : decode cX8_lose 19 = .ok (.aload_n 0, 1) := by decide +kernel
theorem dX8_lose_20 : decode cX8_lose 20 = .ok (.iconst 1, 1) := by decide +kernel
theorem dX8_lose_21 : decode cX8_lose 21 = .ok (.invokevirtual 108, 3) := by decide +kernel
theorem dX8_lose_24 : decode cX8_lose 24 = .ok (.ireturn, 1) := by decide +kernel
theorem dX8_lose_25 : decode cX8_lose 25 = .ok (.aload_n 0, 1) := by decide +kernel
theorem dX8_lose_26 : decode cX8_lose 26 = .ok (.getfield 7, 3) := by decide +kernel
theorem dX8_lose_29 : decode cX8_lose 29 = .ok (.iload_n 1, 1) := by decide +kernel
theorem dX8_lose_30 : decode cX8_lose 30 = .ok (.iconst (-1), 1) := by decide +kernel
theorem dX8_lose_31 : decode cX8_lose 31 = .ok (.iastore, 1) := by decide +kernel
theorem dX8_lose_32 : decode cX8_lose 32 = .ok (.aload_n 0, 1) := by decide +kernel
theorem dX8_lose_33 : decode cX8_lose 33 = .ok (.getfield 13, 3) := by decide +kernel
theorem dX8_lose_36 : decode cX8_lose 36 = .ok (.iload_n 1, 1) := by decide +kernel
theorem dX8_lose_37 : decode cX8_lose 37 = .ok (.iaload, 1) := by decide +kernel
theorem dX8_lose_38 : decode cX8_lose 38 = .ok (.ireturn, 1) := by decide +kernel
theorem dX8_lacks_0 : decode cX8_lacks 0 = .ok (.aload_n 0, 1) := by decide +kernel
theorem dX8_lacks_1 : decode cX8_lacks 1 = .ok (.getfield 7, 3) := by decide +kernel
theorem dX8_lacks_4 : decode cX8_lacks 4 = .ok (.iload_n 1, 1) := by decide +kernel
theorem dX8_lacks_5 : decode cX8_lacks 5 = .ok (.iaload, 1) := by decide +kernel
theorem dX8_lacks_6 : decode cX8_lacks 6 = .ok (.ifCond .ge 9, 3) := by decide +kernel
theorem dX8_lacks_9 : decode cX8_lacks 9 = .ok (.aload_n 0, 1) := by decide +kernel
theorem dX8_lacks_10 : decode cX8_lacks 10 = .ok (.iconst 1, 1) := by decide +kernel
theorem dX8_lacks_11 : decode cX8_lacks 11 = .ok (.invokevirtual 108, 3) := by decide +kernel
theorem dX8_lacks_14 : decode cX8_lacks 14 = .ok (.ireturn, 1) := by decide +kernel
theorem dX8_lacks_15 : decode cX8_lacks 15 = .ok (.aload_n 0, 1) := by decide +kernel
theorem dX8_lacks_16 : decode cX8_lacks 16 = .ok (.getfield 7, 3) := by decide +kernel
theorem dX8_lacks_19 : decode cX8_lacks 19 = .ok (.iload_n 1, 1) := by decide +kernel
theorem dX8_lacks_20 : decode cX8_lacks 20 = .ok (.iaload, 1) := by decide +kernel
theorem dX8_lacks_21 : decode cX8_lacks 21 = .ok (.iload_n 2, 1) := by decide +kernel
theorem dX8_lacks_22 : decode cX8_lacks 22 = .ok (.if_icmp .eq 9, 3) := by decide +kernel
theorem dX8_lacks_25 : decode cX8_lacks 25 = .ok (.aload_n 0, 1) := by decide +kernel
theorem dX8_lacks_26 : decode cX8_lacks 26 = .ok (.iconst 3, 1) := by decide +kernel
theorem dX8_lacks_27 : decode cX8_lacks 27 = .ok (.invokevirtual 108, 3) := by decide +kernel
theorem dX8_lacks_30 : decode cX8_lacks 30 = .ok (.ireturn, 1) := by decide +kernel
theorem dX8_lacks_31 : decode cX8_lacks 31 = .ok (.iload_n 3, 1) := by decide +kernel
theorem dX8_lacks_32 : decode cX8_lacks 32 = .ok (.i2l, 1) := by decide +kernel
theorem dX8_lacks_33 : decode cX8_lacks 33 = .ok (.lconst 0, 1) := by decide +kernel
theorem dX8_lacks_34 : decode cX8_lacks 34 = .ok (.aload_n 0, 1) := by decide +kernel
theorem dX8_lacks_35 : decode cX8_lacks 35 = .ok (.getfield 13, 3) := by decide +kernel
theorem dX8_lacks_38 : decode cX8_lacks 38 = .ok (.iload_n 1, 1) := by decide +kernel
theorem dX8_lacks_39 : decode cX8_lacks 39 = .ok (.iaload, 1) := by decide +kernel
theorem dX8_lacks_40 : decode cX8_lacks 40 = .ok (.iconst 1, 1) := by decide +kernel
theorem dX8_lacks_41 : decode cX8_lacks 41 = .ok (.isub, 1) := by decide +kernel
theorem dX8_lacks_42 : decode cX8_lacks 42 = .ok (.i2l, 1) := by decide +kernel
theorem dX8_lacks_43 : decode cX8_lacks 43 = .ok (.invokestatic 92, 3) := by decide +kernel
theorem dX8_lacks_46 : decode cX8_lacks 46 = .ok (.ifCond .eq 7, 3) := by decide +kernel
theorem dX8_lacks_49 : decode cX8_lacks 49 = .ok (.iconst 0, 1) := by decide +kernel
theorem dX8_lacks_50 : decode cX8_lacks 50 = .ok (.goto 8, 3) := by decide +kernel
theorem dX8_lacks_53 : decode cX8_lacks 53 = .ok (.aload_n 0, 1) := by decide +kernel
theorem dX8_lacks_54 : decode cX8_lacks 54 = .ok (.iconst 2, 1) := by decide +kernel
theorem dX8_lacks_55 : decode cX8_lacks 55 = .ok (.invokevirtual 108, 3) := by decide +kernel
theorem dX8_lacks_58 : decode cX8_lacks 58 = .ok (.ireturn, 1) := by decide +kernel
theorem dX8_cut_0 : decode cX8_cut 0 = .ok (.iload_n 0, 1) := by decide +kernel
theorem dX8_cut_1 : decode cX8_cut 1 = .ok (.ifCond .ne 8, 3) := by decide +kernel
theorem dX8_cut_4 : decode cX8_cut 4 = .ok (.iload_n 1, 1) := by decide +kernel
theorem dX8_cut_5 : decode cX8_cut 5 = .ok (.i2b, 1) := by decide +kernel
theorem dX8_cut_6 : decode cX8_cut 6 = .ok (.goto 14, 3) := by decide +kernel
theorem dX8_cut_9 : decode cX8_cut 9 = .ok (.iload_n 0, 1) := by decide +kernel
theorem dX8_cut_10 : decode cX8_cut 10 = .ok (.iconst 1, 1) := by decide +kernel
theorem dX8_cut_11 : decode cX8_cut 11 = .ok (.if_icmp .ne 8, 3) := by decide +kernel
theorem dX8_cut_14 : decode cX8_cut 14 = .ok (.iload_n 1, 1) := by decide +kernel
theorem dX8_cut_15 : decode cX8_cut 15 = .ok (.i2s, 1) := by decide +kernel
theorem dX8_cut_16 : decode cX8_cut 16 = .ok (.goto 4, 3) := by decide +kernel
theorem dX8_cut_19 : decode cX8_cut 19 = .ok (.iload_n 1, 1) := by decide +kernel
theorem dX8_cut_20 : decode cX8_cut 20 = .ok (.ireturn, 1) := by decide +kernel
theorem dX8_lay_0 : decode cX8_lay 0 = .ok (.iload_n 1, 1) := by decide +kernel
theorem dX8_lay_1 : decode cX8_lay 1 = .ok (.invokestatic 102, 3) := by decide +kernel
theorem dX8_lay_4 : decode cX8_lay 4 = .ok (.ifCond .eq 15, 3) := by decide +kernel
theorem dX8_lay_7 : decode cX8_lay 7 = .ok (.iload_n 2, 1) := by decide +kernel
theorem dX8_lay_8 : decode cX8_lay 8 = .ok (.i2l, 1) := by decide +kernel
theorem dX8_lay_9 : decode cX8_lay 9 = .ok (.lconst 0, 1) := by decide +kernel
theorem dX8_lay_10 : decode cX8_lay 10 = .ok (.ldc2_w 106, 3) := by decide +kernel
theorem dX8_lay_13 : decode cX8_lay 13 = .ok (.invokestatic 92, 3) := by decide +kernel
theorem dX8_lay_16 : decode cX8_lay 16 = .ok (.ifCond .ne 6, 3) := by decide +kernel
theorem dX8_lay_19 : decode cX8_lay 19 = .ok (.bipush (-2), 2) := by decide +kernel
theorem dX8_lay_21 : decode cX8_lay 21 = .ok (.ireturn, 1) := by decide +kernel
theorem dX8_lay_22 : decode cX8_lay 22 = .ok (.aload_n 0, 1) := by decide +kernel
theorem dX8_lay_23 : decode cX8_lay 23 = .ok (.iload_n 1, 1) := by decide +kernel
theorem dX8_lay_24 : decode cX8_lay 24 = .ok (.iload_n 2, 1) := by decide +kernel
theorem dX8_lay_25 : decode cX8_lay 25 = .ok (.iload_n 3, 1) := by decide +kernel
theorem dX8_lay_26 : decode cX8_lay 26 = .ok (.invokevirtual 112, 3) := by decide +kernel
theorem dX8_lay_29 : decode cX8_lay 29 = .ok (.istore 5, 2) := by decide +kernel
theorem dX8_lay_31 : decode cX8_lay 31 = .ok (.iload 5, 2) := by decide +kernel
theorem dX8_lay_33 : decode cX8_lay 33 = .ok (.ifCond .eq 6, 3) := by decide +kernel
theorem dX8_lay_36 : decode cX8_lay 36 = .ok (.iload 5, 2) := by decide +kernel
theorem dX8_lay_38 : decode cX8_lay 38 = .ok (.ireturn, 1) := by decide +kernel
theorem dX8_lay_39 : decode cX8_lay 39 = .ok (.aload_n 0, 1) := by decide +kernel
theorem dX8_lay_40 : decode cX8_lay 40 = .ok (.getfield 16, 3) := by decide +kernel
theorem dX8_lay_43 : decode cX8_lay 43 = .ok (.bipush 60, 2) := by decide +kernel
theorem dX8_lay_45 : decode cX8_lay 45 = .ok (.iload_n 1, 1) := by decide +kernel
theorem dX8_lay_46 : decode cX8_lay 46 = .ok (.imul, 1) := by decide +kernel
theorem dX8_lay_47 : decode cX8_lay 47 = .ok (.iload_n 3, 1) := by decide +kernel
theorem dX8_lay_48 : decode cX8_lay 48 = .ok (.iadd, 1) := by decide +kernel
theorem dX8_lay_49 : decode cX8_lay 49 = .ok (.iload_n 2, 1) := by decide +kernel
theorem dX8_lay_50 : decode cX8_lay 50 = .ok (.iload 4, 2) := by decide +kernel
theorem dX8_lay_52 : decode cX8_lay 52 = .ok (.invokestatic 116, 3) := by decide +kernel
theorem dX8_lay_55 : decode cX8_lay 55 = .ok (.iastore, 1) := by decide +kernel
theorem dX8_lay_56 : decode cX8_lay 56 = .ok (.iconst 1, 1) := by decide +kernel
theorem dX8_lay_57 : decode cX8_lay 57 = .ok (.ireturn, 1) := by decide +kernel
theorem dX8_get_0 : decode cX8_get 0 = .ok (.iload_n 1, 1) := by decide +kernel
theorem dX8_get_1 : decode cX8_get 1 = .ok (.invokestatic 102, 3) := by decide +kernel
theorem dX8_get_4 : decode cX8_get 4 = .ok (.ifCond .eq 25, 3) := by decide +kernel
theorem dX8_get_7 : decode cX8_get 7 = .ok (.iload_n 2, 1) := by decide +kernel
theorem dX8_get_8 : decode cX8_get 8 = .ok (.i2l, 1) := by decide +kernel
theorem dX8_get_9 : decode cX8_get 9 = .ok (.lconst 0, 1) := by decide +kernel
theorem dX8_get_10 : decode cX8_get 10 = .ok (.ldc2_w 106, 3) := by decide +kernel
theorem dX8_get_13 : decode cX8_get 13 = .ok (.invokestatic 92, 3) := by decide +kernel
theorem dX8_get_16 : decode cX8_get 16 = .ok (.ifCond .eq 13, 3) := by decide +kernel
theorem dX8_get_19 : decode cX8_get 19 = .ok (.aload_n 0, 1) := by decide +kernel
theorem dX8_get_20 : decode cX8_get 20 = .ok (.iload_n 1, 1) := by decide +kernel
theorem dX8_get_21 : decode cX8_get 21 = .ok (.iload_n 2, 1) := by decide +kernel
theorem dX8_get_22 : decode cX8_get 22 = .ok (.iload_n 3, 1) := by decide +kernel
theorem dX8_get_23 : decode cX8_get 23 = .ok (.invokevirtual 112, 3) := by decide +kernel
theorem dX8_get_26 : decode cX8_get 26 = .ok (.ifCond .eq 6, 3) := by decide +kernel
theorem dX8_get_29 : decode cX8_get 29 = .ok (.ldc 120, 2) := by decide +kernel
theorem dX8_get_31 : decode cX8_get 31 = .ok (.ireturn, 1) := by decide +kernel
theorem dX8_get_32 : decode cX8_get 32 = .ok (.aload_n 0, 1) := by decide +kernel
theorem dX8_get_33 : decode cX8_get 33 = .ok (.getfield 16, 3) := by decide +kernel
theorem dX8_get_36 : decode cX8_get 36 = .ok (.bipush 60, 2) := by decide +kernel
theorem dX8_get_38 : decode cX8_get 38 = .ok (.iload_n 1, 1) := by decide +kernel
theorem dX8_get_39 : decode cX8_get 39 = .ok (.imul, 1) := by decide +kernel
theorem dX8_get_40 : decode cX8_get 40 = .ok (.iload_n 3, 1) := by decide +kernel
theorem dX8_get_41 : decode cX8_get 41 = .ok (.iadd, 1) := by decide +kernel
theorem dX8_get_42 : decode cX8_get 42 = .ok (.iaload, 1) := by decide +kernel
theorem dX8_get_43 : decode cX8_get 43 = .ok (.ireturn, 1) := by decide +kernel
theorem dX8_copy_0 : decode cX8_copy 0 = .ok (.iload_n 1, 1) := by decide +kernel
theorem dX8_copy_1 : decode cX8_copy 1 = .ok (.invokestatic 102, 3) := by decide +kernel
theorem dX8_copy_4 : decode cX8_copy 4 = .ok (.ifCond .eq 10, 3) := by decide +kernel
theorem dX8_copy_7 : decode cX8_copy 7 = .ok (.iload_n 3, 1) := by decide +kernel
theorem dX8_copy_8 : decode cX8_copy 8 = .ok (.invokestatic 102, 3) := by decide +kernel
theorem dX8_copy_11 : decode cX8_copy 11 = .ok (.ifCond .ne 6, 3) := by decide +kernel
theorem dX8_copy_14 : decode cX8_copy 14 = .ok (.bipush (-2), 2) := by decide +kernel
theorem dX8_copy_16 : decode cX8_copy 16 = .ok (.ireturn, 1) := by decide +kernel
theorem dX8_copy_17 : decode cX8_copy 17 = .ok (.aload_n 0, 1) := by decide +kernel
theorem dX8_copy_18 : decode cX8_copy 18 = .ok (.getfield 7, 3) := by decide +kernel
theorem dX8_copy_21 : decode cX8_copy 21 = .ok (.iload_n 1, 1) := by decide +kernel
theorem dX8_copy_22 : decode cX8_copy 22 = .ok (.iaload, 1) := by decide +kernel
theorem dX8_copy_23 : decode cX8_copy 23 = .ok (.ifCond .lt 12, 3) := by decide +kernel
theorem dX8_copy_26 : decode cX8_copy 26 = .ok (.aload_n 0, 1) := by decide +kernel
theorem dX8_copy_27 : decode cX8_copy 27 = .ok (.getfield 7, 3) := by decide +kernel
theorem dX8_copy_30 : decode cX8_copy 30 = .ok (.iload_n 3, 1) := by decide +kernel
theorem dX8_copy_31 : decode cX8_copy 31 = .ok (.iaload, 1) := by decide +kernel
theorem dX8_copy_32 : decode cX8_copy 32 = .ok (.ifCond .ge 9, 3) := by decide +kernel
theorem dX8_copy_35 : decode cX8_copy 35 = .ok (.aload_n 0, 1) := by decide +kernel
theorem dX8_copy_36 : decode cX8_copy 36 = .ok (.iconst 1, 1) := by decide +kernel
theorem dX8_copy_37 : decode cX8_copy 37 = .ok (.invokevirtual 108, 3) := by decide +kernel
theorem dX8_copy_40 : decode cX8_copy 40 = .ok (.ireturn, 1) := by decide +kernel
theorem dX8_copy_41 : decode cX8_copy 41 = .ok (.aload_n 0, 1) := by decide +kernel
theorem dX8_copy_42 : decode cX8_copy 42 = .ok (.getfield 7, 3) := by decide +kernel
theorem dX8_copy_45 : decode cX8_copy 45 = .ok (.iload_n 1, 1) := by decide +kernel
theorem dX8_copy_46 : decode cX8_copy 46 = .ok (.iaload, 1) := by decide +kernel
theorem dX8_copy_47 : decode cX8_copy 47 = .ok (.aload_n 0, 1) := by decide +kernel
theorem dX8_copy_48 : decode cX8_copy 48 = .ok (.getfield 7, 3) := by decide +kernel
theorem dX8_copy_51 : decode cX8_copy 51 = .ok (.iload_n 3, 1) := by decide +kernel
theorem dX8_copy_52 : decode cX8_copy 52 = .ok (.iaload, 1) := by decide +kernel
theorem dX8_copy_53 : decode cX8_copy 53 = .ok (.if_icmp .eq 9, 3) := by decide +kernel
theorem dX8_copy_56 : decode cX8_copy 56 = .ok (.aload_n 0, 1) := by decide +kernel
theorem dX8_copy_57 : decode cX8_copy 57 = .ok (.iconst 4, 1) := by decide +kernel
theorem dX8_copy_58 : decode cX8_copy 58 = .ok (.invokevirtual 108, 3) := by decide +kernel
theorem dX8_copy_61 : decode cX8_copy 61 = .ok (.ireturn, 1) := by decide +kernel
theorem dX8_copy_62 : decode cX8_copy 62 = .ok (.iload_n 2, 1) := by decide +kernel
theorem dX8_copy_63 : decode cX8_copy 63 = .ok (.ifCond .lt 48, 3) := by decide +kernel
theorem dX8_copy_66 : decode cX8_copy 66 = .ok (.iload 4, 2) := by decide +kernel
theorem dX8_copy_68 : decode cX8_copy 68 = .ok (.ifCond .lt 43, 3) := by decide +kernel
theorem dX8_copy_71 : decode cX8_copy 71 = .ok (.iload 5, 2) := by decide +kernel
theorem dX8_copy_73 : decode cX8_copy 73 = .ok (.ifCond .lt 38, 3) := by decide +kernel
theorem dX8_copy_76 : decode cX8_copy 76 = .ok (.iload_n 2, 1) := by decide +kernel
theorem dX8_copy_77 : decode cX8_copy 77 = .ok (.i2l, 1) := by decide +kernel
theorem dX8_copy_78 : decode cX8_copy 78 = .ok (.iload 5, 2) := by decide +kernel
theorem dX8_copy_80 : decode cX8_copy 80 = .ok (.i2l, 1) := by decide +kernel
theorem dX8_copy_81 : decode cX8_copy 81 = .ok (.ladd, 1) := by decide +kernel
theorem dX8_copy_82 : decode cX8_copy 82 = .ok (.aload_n 0, 1) := by decide +kernel
theorem dX8_copy_83 : decode cX8_copy 83 = .ok (.getfield 13, 3) := by decide +kernel
theorem dX8_copy_86 : decode cX8_copy 86 = .ok (.iload_n 1, 1) := by decide +kernel
theorem dX8_copy_87 : decode cX8_copy 87 = .ok (.iaload, 1) := by decide +kernel
theorem dX8_copy_88 : decode cX8_copy 88 = .ok (.i2l, 1) := by decide +kernel
theorem dX8_copy_89 : decode cX8_copy 89 = .ok (.lcmp, 1) := by decide +kernel
theorem dX8_copy_90 : decode cX8_copy 90 = .ok (.ifCond .gt 21, 3) := by decide +kernel
theorem dX8_copy_93 : decode cX8_copy 93 = .ok (.iload 4, 2) := by decide +kernel
theorem dX8_copy_95 : decode cX8_copy 95 = .ok (.i2l, 1) := by decide +kernel
theorem dX8_copy_96 : decode cX8_copy 96 = .ok (.iload 5, 2) := by decide +kernel
theorem dX8_copy_98 : decode cX8_copy 98 = .ok (.i2l, 1) := by decide +kernel
theorem dX8_copy_99 : decode cX8_copy 99 = .ok (.ladd, 1) := by decide +kernel
theorem dX8_copy_100 : decode cX8_copy 100 = .ok (.aload_n 0, 1) := by decide +kernel
theorem dX8_copy_101 : decode cX8_copy 101 = .ok (.getfield 13, 3) := by decide +kernel
theorem dX8_copy_104 : decode cX8_copy 104 = .ok (.iload_n 3, 1) := by decide +kernel
theorem dX8_copy_105 : decode cX8_copy 105 = .ok (.iaload, 1) := by decide +kernel
theorem dX8_copy_106 : decode cX8_copy 106 = .ok (.i2l, 1) := by decide +kernel
theorem dX8_copy_107 : decode cX8_copy 107 = .ok (.lcmp, 1) := by decide +kernel
theorem dX8_copy_108 : decode cX8_copy 108 = .ok (.ifCond .le 9, 3) := by decide +kernel
theorem dX8_copy_111 : decode cX8_copy 111 = .ok (.aload_n 0, 1) := by decide +kernel
theorem dX8_copy_112 : decode cX8_copy 112 = .ok (.iconst 2, 1) := by decide +kernel
theorem dX8_copy_113 : decode cX8_copy 113 = .ok (.invokevirtual 108, 3) := by decide +kernel
theorem dX8_copy_116 : decode cX8_copy 116 = .ok (.ireturn, 1) := by decide +kernel
theorem dX8_copy_117 : decode cX8_copy 117 = .ok (.iconst 0, 1) := by decide +kernel
theorem dX8_copy_118 : decode cX8_copy 118 = .ok (.istore 6, 2) := by decide +kernel
theorem dX8_copy_120 : decode cX8_copy 120 = .ok (.iload 6, 2) := by decide +kernel
theorem dX8_copy_122 : decode cX8_copy 122 = .ok (.iload 5, 2) := by decide +kernel
theorem dX8_copy_124 : decode cX8_copy 124 = .ok (.if_icmp .ge 30, 3) := by decide +kernel
theorem dX8_copy_127 : decode cX8_copy 127 = .ok (.aload_n 0, 1) := by decide +kernel
theorem dX8_copy_128 : decode cX8_copy 128 = .ok (.getfield 19, 3) := by decide +kernel
theorem dX8_copy_131 : decode cX8_copy 131 = .ok (.iload 6, 2) := by decide +kernel
theorem dX8_copy_133 : decode cX8_copy 133 = .ok (.aload_n 0, 1) := by decide +kernel
theorem dX8_copy_134 : decode cX8_copy 134 = .ok (.getfield 16, 3) := by decide +kernel
theorem dX8_copy_137 : decode cX8_copy 137 = .ok (.bipush 60, 2) := by decide +kernel
theorem dX8_copy_139 : decode cX8_copy 139 = .ok (.iload_n 1, 1) := by decide +kernel
theorem dX8_copy_140 : decode cX8_copy 140 = .ok (.imul, 1) := by decide +kernel
theorem dX8_copy_141 : decode cX8_copy 141 = .ok (.iload_n 2, 1) := by decide +kernel
theorem dX8_copy_142 : decode cX8_copy 142 = .ok (.iadd, 1) := by decide +kernel
theorem dX8_copy_143 : decode cX8_copy 143 = .ok (.iload 6, 2) := by decide +kernel
theorem dX8_copy_145 : decode cX8_copy 145 = .ok (.iadd, 1) := by decide +kernel
theorem dX8_copy_146 : decode cX8_copy 146 = .ok (.iaload, 1) := by decide +kernel
theorem dX8_copy_147 : decode cX8_copy 147 = .ok (.iastore, 1) := by decide +kernel
theorem dX8_copy_148 : decode cX8_copy 148 = .ok (.iinc 6 1, 3) := by decide +kernel
theorem dX8_copy_151 : decode cX8_copy 151 = .ok (.goto (-31), 3) := by decide +kernel
theorem dX8_copy_154 : decode cX8_copy 154 = .ok (.iconst 0, 1) := by decide +kernel
theorem dX8_copy_155 : decode cX8_copy 155 = .ok (.istore 6, 2) := by decide +kernel
theorem dX8_copy_157 : decode cX8_copy 157 = .ok (.iload 6, 2) := by decide +kernel
theorem dX8_copy_159 : decode cX8_copy 159 = .ok (.iload 5, 2) := by decide +kernel
theorem dX8_copy_161 : decode cX8_copy 161 = .ok (.if_icmp .ge 31, 3) := by decide +kernel
theorem dX8_copy_164 : decode cX8_copy 164 = .ok (.aload_n 0, 1) := by decide +kernel
theorem dX8_copy_165 : decode cX8_copy 165 = .ok (.getfield 16, 3) := by decide +kernel
theorem dX8_copy_168 : decode cX8_copy 168 = .ok (.bipush 60, 2) := by decide +kernel
theorem dX8_copy_170 : decode cX8_copy 170 = .ok (.iload_n 3, 1) := by decide +kernel
theorem dX8_copy_171 : decode cX8_copy 171 = .ok (.imul, 1) := by decide +kernel
theorem dX8_copy_172 : decode cX8_copy 172 = .ok (.iload 4, 2) := by decide +kernel
theorem dX8_copy_174 : decode cX8_copy 174 = .ok (.iadd, 1) := by decide +kernel
theorem dX8_copy_175 : decode cX8_copy 175 = .ok (.iload 6, 2) := by decide +kernel
theorem dX8_copy_177 : decode cX8_copy 177 = .ok (.iadd, 1) := by decide +kernel
theorem dX8_copy_178 : decode cX8_copy 178 = .ok (.aload_n 0, 1) := by decide +kernel
theorem dX8_copy_179 : decode cX8_copy 179 = .ok (.getfield 19, 3) := by decide +kernel
theorem dX8_copy_182 : decode cX8_copy 182 = .ok (.iload 6, 2) := by decide +kernel
theorem dX8_copy_184 : decode cX8_copy 184 = .ok (.iaload, 1) := by decide +kernel
theorem dX8_copy_185 : decode cX8_copy 185 = .ok (.iastore, 1) := by decide +kernel
theorem dX8_copy_186 : decode cX8_copy 186 = .ok (.iinc 6 1, 3) := by decide +kernel
theorem dX8_copy_189 : decode cX8_copy 189 = .ok (.goto (-32), 3) := by decide +kernel
theorem dX8_copy_192 : decode cX8_copy 192 = .ok (.iconst 1, 1) := by decide +kernel
theorem dX8_copy_193 : decode cX8_copy 193 = .ok (.ireturn, 1) := by decide +kernel
theorem dX8_room_0 : decode cX8_room 0 = .ok (.iload_n 0, 1) := by decide +kernel
theorem dX8_room_1 : decode cX8_room 1 = .ok (.ifCond .ne 8, 3) := by decide +kernel
theorem dX8_room_4 : decode cX8_room 4 = .ok (.bipush 16, 2) := by decide +kernel
theorem dX8_room_6 : decode cX8_room 6 = .ok (.goto 5, 3) := by decide +kernel
theorem dX8_room_9 : decode cX8_room 9 = .ok (.bipush 20, 2) := by decide +kernel
theorem dX8_room_11 : decode cX8_room 11 = .ok (.ireturn, 1) := by decide +kernel
theorem dX8_type_0 : decode cX8_type 0 = .ok (.iload_n 1, 1) := by decide +kernel
theorem dX8_type_1 : decode cX8_type 1 = .ok (.invokestatic 121, 3) := by decide +kernel
theorem dX8_type_4 : decode cX8_type 4 = .ok (.ifCond .eq 15, 3) := by decide +kernel
theorem dX8_type_7 : decode cX8_type 7 = .ok (.iload_n 2, 1) := by decide +kernel
theorem dX8_type_8 : decode cX8_type 8 = .ok (.i2l, 1) := by decide +kernel
theorem dX8_type_9 : decode cX8_type 9 = .ok (.lconst 0, 1) := by decide +kernel
theorem dX8_type_10 : decode cX8_type 10 = .ok (.ldc2_w 124, 3) := by decide +kernel
theorem dX8_type_13 : decode cX8_type 13 = .ok (.invokestatic 92, 3) := by decide +kernel
theorem dX8_type_16 : decode cX8_type 16 = .ok (.ifCond .ne 6, 3) := by decide +kernel
theorem dX8_type_19 : decode cX8_type 19 = .ok (.bipush (-2), 2) := by decide +kernel
theorem dX8_type_21 : decode cX8_type 21 = .ok (.ireturn, 1) := by decide +kernel
theorem dX8_type_22 : decode cX8_type 22 = .ok (.aload_n 0, 1) := by decide +kernel
theorem dX8_type_23 : decode cX8_type 23 = .ok (.getfield 25, 3) := by decide +kernel
theorem dX8_type_26 : decode cX8_type 26 = .ok (.iload_n 1, 1) := by decide +kernel
theorem dX8_type_27 : decode cX8_type 27 = .ok (.iaload, 1) := by decide +kernel
theorem dX8_type_28 : decode cX8_type 28 = .ok (.iload_n 1, 1) := by decide +kernel
theorem dX8_type_29 : decode cX8_type 29 = .ok (.invokestatic 126, 3) := by decide +kernel
theorem dX8_type_32 : decode cX8_type 32 = .ok (.if_icmp .ne 6, 3) := by decide +kernel
theorem dX8_type_35 : decode cX8_type 35 = .ok (.bipush (-4), 2) := by decide +kernel
theorem dX8_type_37 : decode cX8_type 37 = .ok (.ireturn, 1) := by decide +kernel
theorem dX8_type_38 : decode cX8_type 38 = .ok (.aload_n 0, 1) := by decide +kernel
theorem dX8_type_39 : decode cX8_type 39 = .ok (.getfield 22, 3) := by decide +kernel
theorem dX8_type_42 : decode cX8_type 42 = .ok (.bipush 16, 2) := by decide +kernel
theorem dX8_type_44 : decode cX8_type 44 = .ok (.iload_n 1, 1) := by decide +kernel
theorem dX8_type_45 : decode cX8_type 45 = .ok (.imul, 1) := by decide +kernel
theorem dX8_type_46 : decode cX8_type 46 = .ok (.aload_n 0, 1) := by decide +kernel
theorem dX8_type_47 : decode cX8_type 47 = .ok (.getfield 25, 3) := by decide +kernel
theorem dX8_type_50 : decode cX8_type 50 = .ok (.iload_n 1, 1) := by decide +kernel
theorem dX8_type_51 : decode cX8_type 51 = .ok (.iaload, 1) := by decide +kernel
theorem dX8_type_52 : decode cX8_type 52 = .ok (.iadd, 1) := by decide +kernel
theorem dX8_type_53 : decode cX8_type 53 = .ok (.iload_n 2, 1) := by decide +kernel
theorem dX8_type_54 : decode cX8_type 54 = .ok (.iastore, 1) := by decide +kernel
theorem dX8_type_55 : decode cX8_type 55 = .ok (.aload_n 0, 1) := by decide +kernel
theorem dX8_type_56 : decode cX8_type 56 = .ok (.getfield 25, 3) := by decide +kernel
theorem dX8_type_59 : decode cX8_type 59 = .ok (.iload_n 1, 1) := by decide +kernel
theorem dX8_type_60 : decode cX8_type 60 = .ok (.dup2, 1) := by decide +kernel
theorem dX8_type_61 : decode cX8_type 61 = .ok (.iaload, 1) := by decide +kernel
theorem dX8_type_62 : decode cX8_type 62 = .ok (.iconst 1, 1) := by decide +kernel
theorem dX8_type_63 : decode cX8_type 63 = .ok (.iadd, 1) := by decide +kernel
theorem dX8_type_64 : decode cX8_type 64 = .ok (.iastore, 1) := by decide +kernel
theorem dX8_type_65 : decode cX8_type 65 = .ok (.aload_n 0, 1) := by decide +kernel
theorem dX8_type_66 : decode cX8_type 66 = .ok (.getfield 25, 3) := by decide +kernel
theorem dX8_type_69 : decode cX8_type 69 = .ok (.iload_n 1, 1) := by decide +kernel
theorem dX8_type_70 : decode cX8_type 70 = .ok (.iaload, 1) := by decide +kernel
theorem dX8_type_71 : decode cX8_type 71 = .ok (.ireturn, 1) := by decide +kernel
theorem dX8_wipe_0 : decode cX8_wipe 0 = .ok (.iload_n 1, 1) := by decide +kernel
theorem dX8_wipe_1 : decode cX8_wipe 1 = .ok (.invokestatic 121, 3) := by decide +kernel
theorem dX8_wipe_4 : decode cX8_wipe 4 = .ok (.ifCond .ne 6, 3) := by decide +kernel
theorem dX8_wipe_7 : decode cX8_wipe 7 = .ok (.bipush (-2), 2) := by decide +kernel
theorem dX8_wipe_9 : decode cX8_wipe 9 = .ok (.ireturn, 1) := by decide +kernel
theorem dX8_wipe_10 : decode cX8_wipe 10 = .ok (.aload_n 0, 1) := by decide +kernel
theorem dX8_wipe_11 : decode cX8_wipe 11 = .ok (.getfield 25, 3) := by decide +kernel
theorem dX8_wipe_14 : decode cX8_wipe 14 = .ok (.iload_n 1, 1) := by decide +kernel
theorem dX8_wipe_15 : decode cX8_wipe 15 = .ok (.iaload, 1) := by decide +kernel
theorem dX8_wipe_16 : decode cX8_wipe 16 = .ok (.istore_n 2, 1) := by decide +kernel
theorem dX8_wipe_17 : decode cX8_wipe 17 = .ok (.aload_n 0, 1) := by decide +kernel
theorem dX8_wipe_18 : decode cX8_wipe 18 = .ok (.getfield 25, 3) := by decide +kernel
theorem dX8_wipe_21 : decode cX8_wipe 21 = .ok (.iload_n 1, 1) := by decide +kernel
theorem dX8_wipe_22 : decode cX8_wipe 22 = .ok (.iconst 0, 1) := by decide +kernel
theorem dX8_wipe_23 : decode cX8_wipe 23 = .ok (.iastore, 1) := by decide +kernel
theorem dX8_wipe_24 : decode cX8_wipe 24 = .ok (.iload_n 2, 1) := by decide +kernel
theorem dX8_wipe_25 : decode cX8_wipe 25 = .ok (.ireturn, 1) := by decide +kernel
theorem dX8_byteAt_0 : decode cX8_byteAt 0 = .ok (.iload_n 2, 1) := by decide +kernel
theorem dX8_byteAt_1 : decode cX8_byteAt 1 = .ok (.aload_n 0, 1) := by decide +kernel
theorem dX8_byteAt_2 : decode cX8_byteAt 2 = .ok (.getfield 25, 3) := by decide +kernel
theorem dX8_byteAt_5 : decode cX8_byteAt 5 = .ok (.iload_n 1, 1) := by decide +kernel
theorem dX8_byteAt_6 : decode cX8_byteAt 6 = .ok (.iaload, 1) := by decide +kernel
theorem dX8_byteAt_7 : decode cX8_byteAt 7 = .ok (.if_icmp .ge 17, 3) := by decide +kernel
theorem dX8_byteAt_10 : decode cX8_byteAt 10 = .ok (.aload_n 0, 1) := by decide +kernel
theorem dX8_byteAt_11 : decode cX8_byteAt 11 = .ok (.getfield 22, 3) := by decide +kernel
theorem dX8_byteAt_14 : decode cX8_byteAt 14 = .ok (.bipush 16, 2) := by decide +kernel
theorem dX8_byteAt_16 : decode cX8_byteAt 16 = .ok (.iload_n 1, 1) := by decide +kernel
theorem dX8_byteAt_17 : decode cX8_byteAt 17 = .ok (.imul, 1) := by decide +kernel
theorem dX8_byteAt_18 : decode cX8_byteAt 18 = .ok (.iload_n 2, 1) := by decide +kernel
theorem dX8_byteAt_19 : decode cX8_byteAt 19 = .ok (.iadd, 1) := by decide +kernel
theorem dX8_byteAt_20 : decode cX8_byteAt 20 = .ok (.iaload, 1) := by decide +kernel
theorem dX8_byteAt_21 : decode cX8_byteAt 21 = .ok (.goto 4, 3) := by decide +kernel
theorem dX8_byteAt_24 : decode cX8_byteAt 24 = .ok (.iconst (-1), 1) := by decide +kernel
theorem dX8_byteAt_25 : decode cX8_byteAt 25 = .ok (.ireturn, 1) := by decide +kernel
theorem dX8_readsPeople_0 : decode cX8_readsPeople 0 = .ok (.aload_n 0, 1) := by decide +kernel
theorem dX8_readsPeople_1 : decode cX8_readsPeople 1 = .ok (.iconst 0, 1) := by decide +kernel
theorem dX8_readsPeople_2 : decode cX8_readsPeople 2 = .ok (.putfield 129, 3) := by decide +kernel
theorem dX8_readsPeople_5 : decode cX8_readsPeople 5 = .ok (.iconst 0, 1) := by decide +kernel
theorem dX8_readsPeople_6 : decode cX8_readsPeople 6 = .ok (.istore_n 1, 1) := by decide +kernel
theorem dX8_readsPeople_7 : decode cX8_readsPeople 7 = .ok (.iload_n 1, 1) := by decide +kernel
theorem dX8_readsPeople_8 : decode cX8_readsPeople 8 = .ok (.aload_n 0, 1) := by decide +kernel
theorem dX8_readsPeople_9 : decode cX8_readsPeople 9 = .ok (.getfield 25, 3) := by decide +kernel
theorem dX8_readsPeople_12 : decode cX8_readsPeople 12 = .ok (.iconst 0, 1) := by decide +kernel
theorem dX8_readsPeople_13 : decode cX8_readsPeople 13 = .ok (.iaload, 1) := by decide +kernel
theorem dX8_readsPeople_14 : decode cX8_readsPeople 14 = .ok (.if_icmp .ge 117, 3) := by decide +kernel
theorem dX8_readsPeople_17 : decode cX8_readsPeople 17 = .ok (.aload_n 0, 1) := by decide +kernel
theorem dX8_readsPeople_18 : decode cX8_readsPeople 18 = .ok (.iconst 0, 1) := by decide +kernel
theorem dX8_readsPeople_19 : decode cX8_readsPeople 19 = .ok (.iload_n 1, 1) := by decide +kernel
theorem dX8_readsPeople_20 : decode cX8_readsPeople 20 = .ok (.invokevirtual 132, 3) := by decide +kernel
theorem dX8_readsPeople_23 : decode cX8_readsPeople 23 = .ok (.bipush 48, 2) := by decide +kernel
theorem dX8_readsPeople_25 : decode cX8_readsPeople 25 = .ok (.isub, 1) := by decide +kernel
theorem dX8_readsPeople_26 : decode cX8_readsPeople 26 = .ok (.istore_n 2, 1) := by decide +kernel
theorem dX8_readsPeople_27 : decode cX8_readsPeople 27 = .ok (.aload_n 0, 1) := by decide +kernel
theorem dX8_readsPeople_28 : decode cX8_readsPeople 28 = .ok (.iconst 0, 1) := by decide +kernel
theorem dX8_readsPeople_29 : decode cX8_readsPeople 29 = .ok (.iload_n 1, 1) := by decide +kernel
theorem dX8_readsPeople_30 : decode cX8_readsPeople 30 = .ok (.iconst 1, 1) := by decide +kernel
theorem dX8_readsPeople_31 : decode cX8_readsPeople 31 = .ok (.iadd, 1) := by decide +kernel
theorem dX8_readsPeople_32 : decode cX8_readsPeople 32 = .ok (.invokevirtual 132, 3) := by decide +kernel
theorem dX8_readsPeople_35 : decode cX8_readsPeople 35 = .ok (.istore_n 3, 1) := by decide +kernel
theorem dX8_readsPeople_36 : decode cX8_readsPeople 36 = .ok (.aload_n 0, 1) := by decide +kernel
theorem dX8_readsPeople_37 : decode cX8_readsPeople 37 = .ok (.getfield 129, 3) := by decide +kernel
theorem dX8_readsPeople_40 : decode cX8_readsPeople 40 = .ok (.bipush 8, 2) := by decide +kernel
theorem dX8_readsPeople_42 : decode cX8_readsPeople 42 = .ok (.if_icmp .eq 15, 3) := by decide +kernel
theorem dX8_readsPeople_45 : decode cX8_readsPeople 45 = .ok (.iload_n 2, 1) := by decide +kernel
theorem dX8_readsPeople_46 : decode cX8_readsPeople 46 = .ok (.i2l, 1) := by decide +kernel
theorem dX8_readsPeople_47 : decode cX8_readsPeople 47 = .ok (.lconst 1, 1) := by decide +kernel
theorem dX8_readsPeople_48 : decode cX8_readsPeople 48 = .ok (.ldc2_w 135, 3) := by decide +kernel
theorem dX8_readsPeople_51 : decode cX8_readsPeople 51 = .ok (.invokestatic 92, 3) := by decide +kernel
theorem dX8_readsPeople_54 : decode cX8_readsPeople 54 = .ok (.ifCond .ne 10, 3) := by decide +kernel
theorem dX8_readsPeople_57 : decode cX8_readsPeople 57 = .ok (.aload_n 0, 1) := by decide +kernel
theorem dX8_readsPeople_58 : decode cX8_readsPeople 58 = .ok (.iconst 0, 1) := by decide +kernel
theorem dX8_readsPeople_59 : decode cX8_readsPeople 59 = .ok (.putfield 129, 3) := by decide +kernel
theorem dX8_readsPeople_62 : decode cX8_readsPeople 62 = .ok (.iload_n 1, 1) := by decide +kernel
theorem dX8_readsPeople_63 : decode cX8_readsPeople 63 = .ok (.ireturn, 1) := by decide +kernel
theorem dX8_readsPeople_64 : decode cX8_readsPeople 64 = .ok (.iload_n 3, 1) := by decide +kernel
theorem dX8_readsPeople_65 : decode cX8_readsPeople 65 = .ok (.bipush 121, 2) := by decide +kernel
theorem dX8_readsPeople_67 : decode cX8_readsPeople 67 = .ok (.if_icmp .eq 18, 3) := by decide +kernel
theorem dX8_readsPeople_70 : decode cX8_readsPeople 70 = .ok (.iload_n 3, 1) := by decide +kernel
theorem dX8_readsPeople_71 : decode cX8_readsPeople 71 = .ok (.bipush 110, 2) := by decide +kernel
theorem dX8_readsPeople_73 : decode cX8_readsPeople 73 = .ok (.if_icmp .eq 12, 3) := by decide +kernel
theorem dX8_readsPeople_76 : decode cX8_readsPeople 76 = .ok (.aload_n 0, 1) := by decide +kernel
theorem dX8_readsPeople_77 : decode cX8_readsPeople 77 = .ok (.iconst 0, 1) := by decide +kernel
theorem dX8_readsPeople_78 : decode cX8_readsPeople 78 = .ok (.putfield 129, 3) := by decide +kernel
theorem dX8_readsPeople_81 : decode cX8_readsPeople 81 = .ok (.iload_n 1, 1) := by decide +kernel
theorem dX8_readsPeople_82 : decode cX8_readsPeople 82 = .ok (.iconst 1, 1) := by decide +kernel
theorem dX8_readsPeople_83 : decode cX8_readsPeople 83 = .ok (.iadd, 1) := by decide +kernel
theorem dX8_readsPeople_84 : decode cX8_readsPeople 84 = .ok (.ireturn, 1) := by decide +kernel
theorem dX8_readsPeople_85 : decode cX8_readsPeople 85 = .ok (.aload_n 0, 1) := by decide +kernel
theorem dX8_readsPeople_86 : decode cX8_readsPeople 86 = .ok (.getfield 28, 3) := by decide +kernel
theorem dX8_readsPeople_89 : decode cX8_readsPeople 89 = .ok (.aload_n 0, 1) := by decide +kernel
theorem dX8_readsPeople_90 : decode cX8_readsPeople 90 = .ok (.getfield 129, 3) := by decide +kernel
theorem dX8_readsPeople_93 : decode cX8_readsPeople 93 = .ok (.iload_n 2, 1) := by decide +kernel
theorem dX8_readsPeople_94 : decode cX8_readsPeople 94 = .ok (.iastore, 1) := by decide +kernel
theorem dX8_readsPeople_95 : decode cX8_readsPeople 95 = .ok (.aload_n 0, 1) := by decide +kernel
theorem dX8_readsPeople_96 : decode cX8_readsPeople 96 = .ok (.getfield 31, 3) := by decide +kernel
theorem dX8_readsPeople_99 : decode cX8_readsPeople 99 = .ok (.aload_n 0, 1) := by decide +kernel
theorem dX8_readsPeople_100 : decode cX8_readsPeople 100 = .ok (.getfield 129, 3) := by decide +kernel
theorem dX8_readsPeople_103 : decode cX8_readsPeople 103 = .ok (.iload_n 3, 1) := by decide +kernel
theorem dX8_readsPeople_104 : decode cX8_readsPeople 104 = .ok (.bipush 121, 2) := by decide +kernel
theorem dX8_readsPeople_106 : decode cX8_readsPeople 106 = .ok (.if_icmp .ne 7, 3) := by decide +kernel
theorem dX8_readsPeople_109 : decode cX8_readsPeople 109 = .ok (.iconst 0, 1) := by decide +kernel
theorem dX8_readsPeople_110 : decode cX8_readsPeople 110 = .ok (.goto 4, 3) := by decide +kernel
theorem dX8_readsPeople_113 : decode cX8_readsPeople 113 = .ok (.iconst 1, 1) := by decide +kernel
theorem dX8_readsPeople_114 : decode cX8_readsPeople 114 = .ok (.iastore, 1) := by decide +kernel
theorem dX8_readsPeople_115 : decode cX8_readsPeople 115 = .ok (.aload_n 0, 1) := by decide +kernel
theorem dX8_readsPeople_116 : decode cX8_readsPeople 116 = .ok (.dup, 1) := by decide +kernel
theorem dX8_readsPeople_117 : decode cX8_readsPeople 117 = .ok (.getfield 129, 3) := by decide +kernel
theorem dX8_readsPeople_120 : decode cX8_readsPeople 120 = .ok (.iconst 1, 1) := by decide +kernel
theorem dX8_readsPeople_121 : decode cX8_readsPeople 121 = .ok (.iadd, 1) := by decide +kernel
theorem dX8_readsPeople_122 : decode cX8_readsPeople 122 = .ok (.putfield 129, 3) := by decide +kernel
theorem dX8_readsPeople_125 : decode cX8_readsPeople 125 = .ok (.iinc 1 2, 3) := by decide +kernel
theorem dX8_readsPeople_128 : decode cX8_readsPeople 128 = .ok (.goto (-121), 3) := by decide +kernel
theorem dX8_readsPeople_131 : decode cX8_readsPeople 131 = .ok (.iconst (-1), 1) := by decide +kernel
theorem dX8_readsPeople_132 : decode cX8_readsPeople 132 = .ok (.ireturn, 1) := by decide +kernel
theorem dX8_readsStones_0 : decode cX8_readsStones 0 = .ok (.aload_n 0, 1) := by decide +kernel
theorem dX8_readsStones_1 : decode cX8_readsStones 1 = .ok (.iconst 0, 1) := by decide +kernel
theorem dX8_readsStones_2 : decode cX8_readsStones 2 = .ok (.putfield 137, 3) := by decide +kernel
theorem dX8_readsStones_5 : decode cX8_readsStones 5 = .ok (.iconst 0, 1) := by decide +kernel
theorem dX8_readsStones_6 : decode cX8_readsStones 6 = .ok (.istore_n 1, 1) := by decide +kernel
theorem dX8_readsStones_7 : decode cX8_readsStones 7 = .ok (.iload_n 1, 1) := by decide +kernel
theorem dX8_readsStones_8 : decode cX8_readsStones 8 = .ok (.aload_n 0, 1) := by decide +kernel
theorem dX8_readsStones_9 : decode cX8_readsStones 9 = .ok (.getfield 25, 3) := by decide +kernel
theorem dX8_readsStones_12 : decode cX8_readsStones 12 = .ok (.iconst 1, 1) := by decide +kernel
theorem dX8_readsStones_13 : decode cX8_readsStones 13 = .ok (.iaload, 1) := by decide +kernel
theorem dX8_readsStones_14 : decode cX8_readsStones 14 = .ok (.if_icmp .ge 110, 3) := by decide +kernel
theorem dX8_readsStones_17 : decode cX8_readsStones 17 = .ok (.aload_n 0, 1) := by decide +kernel
theorem dX8_readsStones_18 : decode cX8_readsStones 18 = .ok (.iconst 1, 1) := by decide +kernel
theorem dX8_readsStones_19 : decode cX8_readsStones 19 = .ok (.iload_n 1, 1) := by decide +kernel
theorem dX8_readsStones_20 : decode cX8_readsStones 20 = .ok (.invokevirtual 132, 3) := by decide +kernel
theorem dX8_readsStones_23 : decode cX8_readsStones 23 = .ok (.bipush 48, 2) := by decide +kernel
theorem dX8_readsStones_25 : decode cX8_readsStones 25 = .ok (.isub, 1) := by decide +kernel
theorem dX8_readsStones_26 : decode cX8_readsStones 26 = .ok (.istore_n 2, 1) := by decide +kernel
theorem dX8_readsStones_27 : decode cX8_readsStones 27 = .ok (.aload_n 0, 1) := by decide +kernel
theorem dX8_readsStones_28 : decode cX8_readsStones 28 = .ok (.iconst 1, 1) := by decide +kernel
theorem dX8_readsStones_29 : decode cX8_readsStones 29 = .ok (.iload_n 1, 1) := by decide +kernel
theorem dX8_readsStones_30 : decode cX8_readsStones 30 = .ok (.iconst 1, 1) := by decide +kernel
theorem dX8_readsStones_31 : decode cX8_readsStones 31 = .ok (.iadd, 1) := by decide +kernel
theorem dX8_readsStones_32 : decode cX8_readsStones 32 = .ok (.invokevirtual 132, 3) := by decide +kernel
theorem dX8_readsStones_35 : decode cX8_readsStones 35 = .ok (.bipush 48, 2) := by decide +kernel
theorem dX8_readsStones_37 : decode cX8_readsStones 37 = .ok (.isub, 1) := by decide +kernel
theorem dX8_readsStones_38 : decode cX8_readsStones 38 = .ok (.istore_n 3, 1) := by decide +kernel
theorem dX8_readsStones_39 : decode cX8_readsStones 39 = .ok (.aload_n 0, 1) := by decide +kernel
theorem dX8_readsStones_40 : decode cX8_readsStones 40 = .ok (.getfield 137, 3) := by decide +kernel
theorem dX8_readsStones_43 : decode cX8_readsStones 43 = .ok (.bipush 9, 2) := by decide +kernel
theorem dX8_readsStones_45 : decode cX8_readsStones 45 = .ok (.if_icmp .eq 15, 3) := by decide +kernel
theorem dX8_readsStones_48 : decode cX8_readsStones 48 = .ok (.iload_n 2, 1) := by decide +kernel
theorem dX8_readsStones_49 : decode cX8_readsStones 49 = .ok (.i2l, 1) := by decide +kernel
theorem dX8_readsStones_50 : decode cX8_readsStones 50 = .ok (.lconst 1, 1) := by decide +kernel
theorem dX8_readsStones_51 : decode cX8_readsStones 51 = .ok (.ldc2_w 135, 3) := by decide +kernel
theorem dX8_readsStones_54 : decode cX8_readsStones 54 = .ok (.invokestatic 92, 3) := by decide +kernel
theorem dX8_readsStones_57 : decode cX8_readsStones 57 = .ok (.ifCond .ne 10, 3) := by decide +kernel
theorem dX8_readsStones_60 : decode cX8_readsStones 60 = .ok (.aload_n 0, 1) := by decide +kernel
theorem dX8_readsStones_61 : decode cX8_readsStones 61 = .ok (.iconst 0, 1) := by decide +kernel
theorem dX8_readsStones_62 : decode cX8_readsStones 62 = .ok (.putfield 137, 3) := by decide +kernel
theorem dX8_readsStones_65 : decode cX8_readsStones 65 = .ok (.iload_n 1, 1) := by decide +kernel
theorem dX8_readsStones_66 : decode cX8_readsStones 66 = .ok (.ireturn, 1) := by decide +kernel
theorem dX8_readsStones_67 : decode cX8_readsStones 67 = .ok (.iload_n 3, 1) := by decide +kernel
theorem dX8_readsStones_68 : decode cX8_readsStones 68 = .ok (.i2l, 1) := by decide +kernel
theorem dX8_readsStones_69 : decode cX8_readsStones 69 = .ok (.lconst 0, 1) := by decide +kernel
theorem dX8_readsStones_70 : decode cX8_readsStones 70 = .ok (.ldc2_w 135, 3) := by decide +kernel
theorem dX8_readsStones_73 : decode cX8_readsStones 73 = .ok (.invokestatic 92, 3) := by decide +kernel
theorem dX8_readsStones_76 : decode cX8_readsStones 76 = .ok (.ifCond .ne 12, 3) := by decide +kernel
theorem dX8_readsStones_79 : decode cX8_readsStones 79 = .ok (.aload_n 0, 1) := by decide +kernel
theorem dX8_readsStones_80 : decode cX8_readsStones 80 = .ok (.iconst 0, 1) := by decide +kernel
theorem dX8_readsStones_81 : decode cX8_readsStones 81 = .ok (.putfield 137, 3) := by decide +kernel
theorem dX8_readsStones_84 : decode cX8_readsStones 84 = .ok (.iload_n 1, 1) := by decide +kernel
theorem dX8_readsStones_85 : decode cX8_readsStones 85 = .ok (.iconst 1, 1) := by decide +kernel
theorem dX8_readsStones_86 : decode cX8_readsStones 86 = .ok (.iadd, 1) := by decide +kernel
theorem dX8_readsStones_87 : decode cX8_readsStones 87 = .ok (.ireturn, 1) := by decide +kernel
theorem dX8_readsStones_88 : decode cX8_readsStones 88 = .ok (.aload_n 0, 1) := by decide +kernel
theorem dX8_readsStones_89 : decode cX8_readsStones 89 = .ok (.getfield 34, 3) := by decide +kernel
theorem dX8_readsStones_92 : decode cX8_readsStones 92 = .ok (.aload_n 0, 1) := by decide +kernel
theorem dX8_readsStones_93 : decode cX8_readsStones 93 = .ok (.getfield 137, 3) := by decide +kernel
theorem dX8_readsStones_96 : decode cX8_readsStones 96 = .ok (.iload_n 2, 1) := by decide +kernel
theorem dX8_readsStones_97 : decode cX8_readsStones 97 = .ok (.iastore, 1) := by decide +kernel
theorem dX8_readsStones_98 : decode cX8_readsStones 98 = .ok (.aload_n 0, 1) := by decide +kernel
theorem dX8_readsStones_99 : decode cX8_readsStones 99 = .ok (.getfield 37, 3) := by decide +kernel
theorem dX8_readsStones_102 : decode cX8_readsStones 102 = .ok (.aload_n 0, 1) := by decide +kernel
theorem dX8_readsStones_103 : decode cX8_readsStones 103 = .ok (.getfield 137, 3) := by decide +kernel
theorem dX8_readsStones_106 : decode cX8_readsStones 106 = .ok (.iload_n 3, 1) := by decide +kernel
theorem dX8_readsStones_107 : decode cX8_readsStones 107 = .ok (.iastore, 1) := by decide +kernel
theorem dX8_readsStones_108 : decode cX8_readsStones 108 = .ok (.aload_n 0, 1) := by decide +kernel
theorem dX8_readsStones_109 : decode cX8_readsStones 109 = .ok (.dup, 1) := by decide +kernel
theorem dX8_readsStones_110 : decode cX8_readsStones 110 = .ok (.getfield 137, 3) := by decide +kernel
theorem dX8_readsStones_113 : decode cX8_readsStones 113 = .ok (.iconst 1, 1) := by decide +kernel
theorem dX8_readsStones_114 : decode cX8_readsStones 114 = .ok (.iadd, 1) := by decide +kernel
theorem dX8_readsStones_115 : decode cX8_readsStones 115 = .ok (.putfield 137, 3) := by decide +kernel
theorem dX8_readsStones_118 : decode cX8_readsStones 118 = .ok (.iinc 1 2, 3) := by decide +kernel
theorem dX8_readsStones_121 : decode cX8_readsStones 121 = .ok (.goto (-114), 3) := by decide +kernel
theorem dX8_readsStones_124 : decode cX8_readsStones 124 = .ok (.iconst (-1), 1) := by decide +kernel
theorem dX8_readsStones_125 : decode cX8_readsStones 125 = .ok (.ireturn, 1) := by decide +kernel
theorem dX8_reads_0 : decode cX8_reads 0 = .ok (.aload_n 0, 1) := by decide +kernel
theorem dX8_reads_1 : decode cX8_reads 1 = .ok (.invokevirtual 140, 3) := by decide +kernel
theorem dX8_reads_4 : decode cX8_reads 4 = .ok (.pop, 1) := by decide +kernel
theorem dX8_reads_5 : decode cX8_reads 5 = .ok (.aload_n 0, 1) := by decide +kernel
theorem dX8_reads_6 : decode cX8_reads 6 = .ok (.invokevirtual 144, 3) := by decide +kernel
theorem dX8_reads_9 : decode cX8_reads 9 = .ok (.pop, 1) := by decide +kernel
theorem dX8_reads_10 : decode cX8_reads 10 = .ok (.return_, 1) := by decide +kernel
theorem dX8_fault_0 : decode cX8_fault 0 = .ok (.iload_n 1, 1) := by decide +kernel
theorem dX8_fault_1 : decode cX8_fault 1 = .ok (.invokestatic 121, 3) := by decide +kernel
theorem dX8_fault_4 : decode cX8_fault 4 = .ok (.ifCond .ne 8, 3) := by decide +kernel
theorem dX8_fault_7 : decode cX8_fault 7 = .ok (.bipush (-2), 2) := by decide +kernel
theorem dX8_fault_9 : decode cX8_fault 9 = .ok (.goto 18, 3) := by decide +kernel
theorem dX8_fault_12 : decode cX8_fault 12 = .ok (.iload_n 1, 1) := by decide +kernel
theorem dX8_fault_13 : decode cX8_fault 13 = .ok (.ifCond .ne 10, 3) := by decide +kernel
theorem dX8_fault_16 : decode cX8_fault 16 = .ok (.aload_n 0, 1) := by decide +kernel
theorem dX8_fault_17 : decode cX8_fault 17 = .ok (.invokevirtual 140, 3) := by decide +kernel
theorem dX8_fault_20 : decode cX8_fault 20 = .ok (.goto 7, 3) := by decide +kernel
theorem dX8_fault_23 : decode cX8_fault 23 = .ok (.aload_n 0, 1) := by decide +kernel
theorem dX8_fault_24 : decode cX8_fault 24 = .ok (.invokevirtual 144, 3) := by decide +kernel
theorem dX8_fault_27 : decode cX8_fault 27 = .ok (.ireturn, 1) := by decide +kernel
theorem dX8_isPerson_0 : decode cX8_isPerson 0 = .ok (.aload_n 0, 1) := by decide +kernel
theorem dX8_isPerson_1 : decode cX8_isPerson 1 = .ok (.invokevirtual 147, 3) := by decide +kernel
theorem dX8_isPerson_4 : decode cX8_isPerson 4 = .ok (.iload_n 1, 1) := by decide +kernel
theorem dX8_isPerson_5 : decode cX8_isPerson 5 = .ok (.i2l, 1) := by decide +kernel
theorem dX8_isPerson_6 : decode cX8_isPerson 6 = .ok (.lconst 0, 1) := by decide +kernel
theorem dX8_isPerson_7 : decode cX8_isPerson 7 = .ok (.aload_n 0, 1) := by decide +kernel
theorem dX8_isPerson_8 : decode cX8_isPerson 8 = .ok (.getfield 129, 3) := by decide +kernel
theorem dX8_isPerson_11 : decode cX8_isPerson 11 = .ok (.iconst 1, 1) := by decide +kernel
theorem dX8_isPerson_12 : decode cX8_isPerson 12 = .ok (.isub, 1) := by decide +kernel
theorem dX8_isPerson_13 : decode cX8_isPerson 13 = .ok (.i2l, 1) := by decide +kernel
theorem dX8_isPerson_14 : decode cX8_isPerson 14 = .ok (.invokestatic 92, 3) := by decide +kernel
theorem dX8_isPerson_17 : decode cX8_isPerson 17 = .ok (.ireturn, 1) := by decide +kernel
theorem dX8_isStone_0 : decode cX8_isStone 0 = .ok (.aload_n 0, 1) := by decide +kernel
theorem dX8_isStone_1 : decode cX8_isStone 1 = .ok (.invokevirtual 147, 3) := by decide +kernel
theorem dX8_isStone_4 : decode cX8_isStone 4 = .ok (.iload_n 1, 1) := by decide +kernel
theorem dX8_isStone_5 : decode cX8_isStone 5 = .ok (.i2l, 1) := by decide +kernel
theorem dX8_isStone_6 : decode cX8_isStone 6 = .ok (.lconst 0, 1) := by decide +kernel
theorem dX8_isStone_7 : decode cX8_isStone 7 = .ok (.aload_n 0, 1) := by decide +kernel
theorem dX8_isStone_8 : decode cX8_isStone 8 = .ok (.getfield 137, 3) := by decide +kernel
theorem dX8_isStone_11 : decode cX8_isStone 11 = .ok (.iconst 1, 1) := by decide +kernel
theorem dX8_isStone_12 : decode cX8_isStone 12 = .ok (.isub, 1) := by decide +kernel
theorem dX8_isStone_13 : decode cX8_isStone 13 = .ok (.i2l, 1) := by decide +kernel
theorem dX8_isStone_14 : decode cX8_isStone 14 = .ok (.invokestatic 92, 3) := by decide +kernel
theorem dX8_isStone_17 : decode cX8_isStone 17 = .ok (.ireturn, 1) := by decide +kernel
theorem dX8_set_0 : decode cX8_set 0 = .ok (.iload_n 1, 1) := by decide +kernel
theorem dX8_set_1 : decode cX8_set 1 = .ok (.invokestatic 121, 3) := by decide +kernel
theorem dX8_set_4 : decode cX8_set 4 = .ok (.ifCond .eq 25, 3) := by decide +kernel
theorem dX8_set_7 : decode cX8_set 7 = .ok (.iload_n 2, 1) := by decide +kernel
theorem dX8_set_8 : decode cX8_set 8 = .ok (.i2l, 1) := by decide +kernel
theorem dX8_set_9 : decode cX8_set 9 = .ok (.lconst 1, 1) := by decide +kernel
theorem dX8_set_10 : decode cX8_set 10 = .ok (.iload_n 1, 1) := by decide +kernel
theorem dX8_set_11 : decode cX8_set 11 = .ok (.ifCond .ne 9, 3) := by decide +kernel
theorem dX8_set_14 : decode cX8_set 14 = .ok (.ldc2_w 150, 3) := by decide +kernel
theorem dX8_set_17 : decode cX8_set 17 = .ok (.goto 6, 3) := by decide +kernel
theorem dX8_set_20 : decode cX8_set 20 = .ok (.ldc2_w 152, 3) := by decide +kernel
theorem dX8_set_23 : decode cX8_set 23 = .ok (.invokestatic 92, 3) := by decide +kernel
theorem dX8_set_26 : decode cX8_set 26 = .ok (.ifCond .ne 6, 3) := by decide +kernel
theorem dX8_set_29 : decode cX8_set 29 = .ok (.bipush (-2), 2) := by decide +kernel
theorem dX8_set_31 : decode cX8_set 31 = .ok (.ireturn, 1) := by decide +kernel
theorem dX8_set_32 : decode cX8_set 32 = .ok (.aload_n 0, 1) := by decide +kernel
theorem dX8_set_33 : decode cX8_set 33 = .ok (.getfield 40, 3) := by decide +kernel
theorem dX8_set_36 : decode cX8_set 36 = .ok (.iload_n 1, 1) := by decide +kernel
theorem dX8_set_37 : decode cX8_set 37 = .ok (.iaload, 1) := by decide +kernel
theorem dX8_set_38 : decode cX8_set 38 = .ok (.istore_n 3, 1) := by decide +kernel
theorem dX8_set_39 : decode cX8_set 39 = .ok (.aload_n 0, 1) := by decide +kernel
theorem dX8_set_40 : decode cX8_set 40 = .ok (.getfield 40, 3) := by decide +kernel
theorem dX8_set_43 : decode cX8_set 43 = .ok (.iload_n 1, 1) := by decide +kernel
theorem dX8_set_44 : decode cX8_set 44 = .ok (.iload_n 2, 1) := by decide +kernel
theorem dX8_set_45 : decode cX8_set 45 = .ok (.iastore, 1) := by decide +kernel
theorem dX8_set_46 : decode cX8_set 46 = .ok (.iload_n 3, 1) := by decide +kernel
theorem dX8_set_47 : decode cX8_set 47 = .ok (.ireturn, 1) := by decide +kernel
theorem dX8_isHour_0 : decode cX8_isHour 0 = .ok (.iload_n 0, 1) := by decide +kernel
theorem dX8_isHour_1 : decode cX8_isHour 1 = .ok (.i2l, 1) := by decide +kernel
theorem dX8_isHour_2 : decode cX8_isHour 2 = .ok (.lconst 0, 1) := by decide +kernel
theorem dX8_isHour_3 : decode cX8_isHour 3 = .ok (.ldc2_w 150, 3) := by decide +kernel
theorem dX8_isHour_6 : decode cX8_isHour 6 = .ok (.invokestatic 92, 3) := by decide +kernel
theorem dX8_isHour_9 : decode cX8_isHour 9 = .ok (.ireturn, 1) := by decide +kernel
theorem dX8_tide_0 : decode cX8_tide 0 = .ok (.iload_n 1, 1) := by decide +kernel
theorem dX8_tide_1 : decode cX8_tide 1 = .ok (.invokestatic 154, 3) := by decide +kernel
theorem dX8_tide_4 : decode cX8_tide 4 = .ok (.ifCond .eq 17, 3) := by decide +kernel
theorem dX8_tide_7 : decode cX8_tide 7 = .ok (.iload_n 2, 1) := by decide +kernel
theorem dX8_tide_8 : decode cX8_tide 8 = .ok (.i2l, 1) := by decide +kernel
theorem dX8_tide_9 : decode cX8_tide 9 = .ok (.ldc2_w 157, 3) := by decide +kernel
theorem dX8_tide_12 : decode cX8_tide 12 = .ok (.ldc2_w 159, 3) := by decide +kernel
theorem dX8_tide_15 : decode cX8_tide 15 = .ok (.invokestatic 92, 3) := by decide +kernel
theorem dX8_tide_18 : decode cX8_tide 18 = .ok (.ifCond .ne 7, 3) := by decide +kernel
theorem dX8_tide_21 : decode cX8_tide 21 = .ok (.sipush (-10002), 3) := by decide +kernel
theorem dX8_tide_24 : decode cX8_tide 24 = .ok (.ireturn, 1) := by decide +kernel
theorem dX8_tide_25 : decode cX8_tide 25 = .ok (.aload_n 0, 1) := by decide +kernel
theorem dX8_tide_26 : decode cX8_tide 26 = .ok (.getfield 43, 3) := by decide +kernel
theorem dX8_tide_29 : decode cX8_tide 29 = .ok (.iload_n 1, 1) := by decide +kernel
theorem dX8_tide_30 : decode cX8_tide 30 = .ok (.iaload, 1) := by decide +kernel
theorem dX8_tide_31 : decode cX8_tide 31 = .ok (.istore_n 3, 1) := by decide +kernel
theorem dX8_tide_32 : decode cX8_tide 32 = .ok (.aload_n 0, 1) := by decide +kernel
theorem dX8_tide_33 : decode cX8_tide 33 = .ok (.getfield 43, 3) := by decide +kernel
theorem dX8_tide_36 : decode cX8_tide 36 = .ok (.iload_n 1, 1) := by decide +kernel
theorem dX8_tide_37 : decode cX8_tide 37 = .ok (.iload_n 2, 1) := by decide +kernel
theorem dX8_tide_38 : decode cX8_tide 38 = .ok (.iastore, 1) := by decide +kernel
theorem dX8_tide_39 : decode cX8_tide 39 = .ok (.iload_n 3, 1) := by decide +kernel
theorem dX8_tide_40 : decode cX8_tide 40 = .ok (.ireturn, 1) := by decide +kernel
theorem dX8_carry_0 : decode cX8_carry 0 = .ok (.iload_n 1, 1) := by decide +kernel
theorem dX8_carry_1 : decode cX8_carry 1 = .ok (.i2l, 1) := by decide +kernel
theorem dX8_carry_2 : decode cX8_carry 2 = .ok (.lconst 0, 1) := by decide +kernel
theorem dX8_carry_3 : decode cX8_carry 3 = .ok (.ldc2_w 161, 3) := by decide +kernel
theorem dX8_carry_6 : decode cX8_carry 6 = .ok (.invokestatic 92, 3) := by decide +kernel
theorem dX8_carry_9 : decode cX8_carry 9 = .ok (.ifCond .eq 27, 3) := by decide +kernel
theorem dX8_carry_12 : decode cX8_carry 12 = .ok (.iload_n 2, 1) := by decide +kernel
theorem dX8_carry_13 : decode cX8_carry 13 = .ok (.i2l, 1) := by decide +kernel
theorem dX8_carry_14 : decode cX8_carry 14 = .ok (.lconst 0, 1) := by decide +kernel
theorem dX8_carry_15 : decode cX8_carry 15 = .ok (.ldc2_w 163, 3) := by decide +kernel
theorem dX8_carry_18 : decode cX8_carry 18 = .ok (.invokestatic 92, 3) := by decide +kernel
theorem dX8_carry_21 : decode cX8_carry 21 = .ok (.ifCond .eq 15, 3) := by decide +kernel
theorem dX8_carry_24 : decode cX8_carry 24 = .ok (.iload_n 3, 1) := by decide +kernel
theorem dX8_carry_25 : decode cX8_carry 25 = .ok (.i2l, 1) := by decide +kernel
theorem dX8_carry_26 : decode cX8_carry 26 = .ok (.lconst 1, 1) := by decide +kernel
theorem dX8_carry_27 : decode cX8_carry 27 = .ok (.ldc2_w 165, 3) := by decide +kernel
theorem dX8_carry_30 : decode cX8_carry 30 = .ok (.invokestatic 92, 3) := by decide +kernel
theorem dX8_carry_33 : decode cX8_carry 33 = .ok (.ifCond .ne 6, 3) := by decide +kernel
theorem dX8_carry_36 : decode cX8_carry 36 = .ok (.bipush (-2), 2) := by decide +kernel
theorem dX8_carry_38 : decode cX8_carry 38 = .ok (.ireturn, 1) := by decide +kernel
theorem dX8_carry_39 : decode cX8_carry 39 = .ok (.aload_n 0, 1) := by decide +kernel
theorem dX8_carry_40 : decode cX8_carry 40 = .ok (.getfield 167, 3) := by decide +kernel
theorem dX8_carry_43 : decode cX8_carry 43 = .ok (.bipush 30, 2) := by decide +kernel
theorem dX8_carry_45 : decode cX8_carry 45 = .ok (.if_icmp .ne 6, 3) := by decide +kernel
theorem dX8_carry_48 : decode cX8_carry 48 = .ok (.bipush (-4), 2) := by decide +kernel
theorem dX8_carry_50 : decode cX8_carry 50 = .ok (.ireturn, 1) := by decide +kernel
theorem dX8_carry_51 : decode cX8_carry 51 = .ok (.aload_n 0, 1) := by decide +kernel
theorem dX8_carry_52 : decode cX8_carry 52 = .ok (.getfield 49, 3) := by decide +kernel
theorem dX8_carry_55 : decode cX8_carry 55 = .ok (.iconst 3, 1) := by decide +kernel
theorem dX8_carry_56 : decode cX8_carry 56 = .ok (.aload_n 0, 1) := by decide +kernel
theorem dX8_carry_57 : decode cX8_carry 57 = .ok (.getfield 167, 3) := by decide +kernel
theorem dX8_carry_60 : decode cX8_carry 60 = .ok (.imul, 1) := by decide +kernel
theorem dX8_carry_61 : decode cX8_carry 61 = .ok (.iload_n 1, 1) := by decide +kernel
theorem dX8_carry_62 : decode cX8_carry 62 = .ok (.iastore, 1) := by decide +kernel
theorem dX8_carry_63 : decode cX8_carry 63 = .ok (.aload_n 0, 1) := by decide +kernel
theorem dX8_carry_64 : decode cX8_carry 64 = .ok (.getfield 49, 3) := by decide +kernel
theorem dX8_carry_67 : decode cX8_carry 67 = .ok (.iconst 3, 1) := by decide +kernel
theorem dX8_carry_68 : decode cX8_carry 68 = .ok (.aload_n 0, 1) := by decide +kernel
theorem dX8_carry_69 : decode cX8_carry 69 = .ok (.getfield 167, 3) := by decide +kernel
theorem dX8_carry_72 : decode cX8_carry 72 = .ok (.imul, 1) := by decide +kernel
theorem dX8_carry_73 : decode cX8_carry 73 = .ok (.iconst 1, 1) := by decide +kernel
theorem dX8_carry_74 : decode cX8_carry 74 = .ok (.iadd, 1) := by decide +kernel
theorem dX8_carry_75 : decode cX8_carry 75 = .ok (.iload_n 2, 1) := by decide +kernel
theorem dX8_carry_76 : decode cX8_carry 76 = .ok (.iastore, 1) := by decide +kernel
theorem dX8_carry_77 : decode cX8_carry 77 = .ok (.aload_n 0, 1) := by decide +kernel
theorem dX8_carry_78 : decode cX8_carry 78 = .ok (.getfield 49, 3) := by decide +kernel
theorem dX8_carry_81 : decode cX8_carry 81 = .ok (.iconst 3, 1) := by decide +kernel
theorem dX8_carry_82 : decode cX8_carry 82 = .ok (.aload_n 0, 1) := by decide +kernel
theorem dX8_carry_83 : decode cX8_carry 83 = .ok (.getfield 167, 3) := by decide +kernel
theorem dX8_carry_86 : decode cX8_carry 86 = .ok (.imul, 1) := by decide +kernel
theorem dX8_carry_87 : decode cX8_carry 87 = .ok (.iconst 2, 1) := by decide +kernel
theorem dX8_carry_88 : decode cX8_carry 88 = .ok (.iadd, 1) := by decide +kernel
theorem dX8_carry_89 : decode cX8_carry 89 = .ok (.iload_n 3, 1) := by decide +kernel
theorem dX8_carry_90 : decode cX8_carry 90 = .ok (.iastore, 1) := by decide +kernel
theorem dX8_carry_91 : decode cX8_carry 91 = .ok (.aload_n 0, 1) := by decide +kernel
theorem dX8_carry_92 : decode cX8_carry 92 = .ok (.dup, 1) := by decide +kernel
theorem dX8_carry_93 : decode cX8_carry 93 = .ok (.getfield 167, 3) := by decide +kernel
theorem dX8_carry_96 : decode cX8_carry 96 = .ok (.iconst 1, 1) := by decide +kernel
theorem dX8_carry_97 : decode cX8_carry 97 = .ok (.iadd, 1) := by decide +kernel
theorem dX8_carry_98 : decode cX8_carry 98 = .ok (.putfield 167, 3) := by decide +kernel
theorem dX8_carry_101 : decode cX8_carry 101 = .ok (.aload_n 0, 1) := by decide +kernel
theorem dX8_carry_102 : decode cX8_carry 102 = .ok (.getfield 167, 3) := by decide +kernel
theorem dX8_carry_105 : decode cX8_carry 105 = .ok (.ireturn, 1) := by decide +kernel
theorem dX8_read_0 : decode cX8_read 0 = .ok (.iload_n 1, 1) := by decide +kernel
theorem dX8_read_1 : decode cX8_read 1 = .ok (.invokestatic 102, 3) := by decide +kernel
theorem dX8_read_4 : decode cX8_read 4 = .ok (.ifCond .ne 6, 3) := by decide +kernel
theorem dX8_read_7 : decode cX8_read 7 = .ok (.bipush (-2), 2) := by decide +kernel
theorem dX8_read_9 : decode cX8_read 9 = .ok (.ireturn, 1) := by decide +kernel
theorem dX8_read_10 : decode cX8_read 10 = .ok (.aload_n 0, 1) := by decide +kernel
theorem dX8_read_11 : decode cX8_read 11 = .ok (.getfield 7, 3) := by decide +kernel
theorem dX8_read_14 : decode cX8_read 14 = .ok (.iload_n 1, 1) := by decide +kernel
theorem dX8_read_15 : decode cX8_read 15 = .ok (.iaload, 1) := by decide +kernel
theorem dX8_read_16 : decode cX8_read 16 = .ok (.ifCond .ge 9, 3) := by decide +kernel
theorem dX8_read_19 : decode cX8_read 19 = .ok (.aload_n 0, 1) := by decide +kernel
theorem dX8_read_20 : decode cX8_read 20 = .ok (.iconst 1, 1) := by decide +kernel
theorem dX8_read_21 : decode cX8_read 21 = .ok (.invokevirtual 108, 3) := by decide +kernel
theorem dX8_read_24 : decode cX8_read 24 = .ok (.ireturn, 1) := by decide +kernel
theorem dX8_read_25 : decode cX8_read 25 = .ok (.iconst 0, 1) := by decide +kernel
theorem dX8_read_26 : decode cX8_read 26 = .ok (.istore_n 2, 1) := by decide +kernel
theorem dX8_read_27 : decode cX8_read 27 = .ok (.iconst 1, 1) := by decide +kernel
theorem dX8_read_28 : decode cX8_read 28 = .ok (.istore_n 3, 1) := by decide +kernel
theorem dX8_read_29 : decode cX8_read 29 = .ok (.iload_n 3, 1) := by decide +kernel
theorem dX8_read_30 : decode cX8_read 30 = .ok (.ifCond .eq 80, 3) := by decide +kernel
theorem dX8_read_33 : decode cX8_read 33 = .ok (.iconst 3, 1) := by decide +kernel
theorem dX8_read_34 : decode cX8_read 34 = .ok (.iload_n 2, 1) := by decide +kernel
theorem dX8_read_35 : decode cX8_read 35 = .ok (.imul, 1) := by decide +kernel
theorem dX8_read_36 : decode cX8_read 36 = .ok (.iconst 3, 1) := by decide +kernel
theorem dX8_read_37 : decode cX8_read 37 = .ok (.iadd, 1) := by decide +kernel
theorem dX8_read_38 : decode cX8_read 38 = .ok (.aload_n 0, 1) := by decide +kernel
theorem dX8_read_39 : decode cX8_read 39 = .ok (.getfield 13, 3) := by decide +kernel
theorem dX8_read_42 : decode cX8_read 42 = .ok (.iload_n 1, 1) := by decide +kernel
theorem dX8_read_43 : decode cX8_read 43 = .ok (.iaload, 1) := by decide +kernel
theorem dX8_read_44 : decode cX8_read 44 = .ok (.if_icmp .gt 66, 3) := by decide +kernel
theorem dX8_read_47 : decode cX8_read 47 = .ok (.bipush 60, 2) := by decide +kernel
theorem dX8_read_49 : decode cX8_read 49 = .ok (.iload_n 1, 1) := by decide +kernel
theorem dX8_read_50 : decode cX8_read 50 = .ok (.imul, 1) := by decide +kernel
theorem dX8_read_51 : decode cX8_read 51 = .ok (.iconst 3, 1) := by decide +kernel
theorem dX8_read_52 : decode cX8_read 52 = .ok (.iload_n 2, 1) := by decide +kernel
theorem dX8_read_53 : decode cX8_read 53 = .ok (.imul, 1) := by decide +kernel
theorem dX8_read_54 : decode cX8_read 54 = .ok (.iadd, 1) := by decide +kernel
theorem dX8_read_55 : decode cX8_read 55 = .ok (.istore 4, 2) := by decide +kernel
theorem dX8_read_57 : decode cX8_read 57 = .ok (.aload_n 0, 1) := by decide +kernel
theorem dX8_read_58 : decode cX8_read 58 = .ok (.aload_n 0, 1) := by decide +kernel
theorem dX8_read_59 : decode cX8_read 59 = .ok (.getfield 16, 3) := by decide +kernel
theorem dX8_read_62 : decode cX8_read 62 = .ok (.iload 4, 2) := by decide +kernel
theorem dX8_read_64 : decode cX8_read 64 = .ok (.iaload, 1) := by decide +kernel
theorem dX8_read_65 : decode cX8_read 65 = .ok (.aload_n 0, 1) := by decide +kernel
theorem dX8_read_66 : decode cX8_read 66 = .ok (.getfield 16, 3) := by decide +kernel
theorem dX8_read_69 : decode cX8_read 69 = .ok (.iload 4, 2) := by decide +kernel
theorem dX8_read_71 : decode cX8_read 71 = .ok (.iconst 1, 1) := by decide +kernel
theorem dX8_read_72 : decode cX8_read 72 = .ok (.iadd, 1) := by decide +kernel
theorem dX8_read_73 : decode cX8_read 73 = .ok (.iaload, 1) := by decide +kernel
theorem dX8_read_74 : decode cX8_read 74 = .ok (.aload_n 0, 1) := by decide +kernel
theorem dX8_read_75 : decode cX8_read 75 = .ok (.getfield 16, 3) := by decide +kernel
theorem dX8_read_78 : decode cX8_read 78 = .ok (.iload 4, 2) := by decide +kernel
theorem dX8_read_80 : decode cX8_read 80 = .ok (.iconst 2, 1) := by decide +kernel
theorem dX8_read_81 : decode cX8_read 81 = .ok (.iadd, 1) := by decide +kernel
theorem dX8_read_82 : decode cX8_read 82 = .ok (.iaload, 1) := by decide +kernel
theorem dX8_read_83 : decode cX8_read 83 = .ok (.invokevirtual 170, 3) := by decide +kernel
theorem dX8_read_86 : decode cX8_read 86 = .ok (.ifCond .lt 7, 3) := by decide +kernel
theorem dX8_read_89 : decode cX8_read 89 = .ok (.iconst 1, 1) := by decide +kernel
theorem dX8_read_90 : decode cX8_read 90 = .ok (.goto 4, 3) := by decide +kernel
theorem dX8_read_93 : decode cX8_read 93 = .ok (.iconst 0, 1) := by decide +kernel
theorem dX8_read_94 : decode cX8_read 94 = .ok (.istore_n 3, 1) := by decide +kernel
theorem dX8_read_95 : decode cX8_read 95 = .ok (.iload_n 2, 1) := by decide +kernel
theorem dX8_read_96 : decode cX8_read 96 = .ok (.iload_n 3, 1) := by decide +kernel
theorem dX8_read_97 : decode cX8_read 97 = .ok (.ifCond .eq 7, 3) := by decide +kernel
theorem dX8_read_100 : decode cX8_read 100 = .ok (.iconst 1, 1) := by decide +kernel
theorem dX8_read_101 : decode cX8_read 101 = .ok (.goto 4, 3) := by decide +kernel
theorem dX8_read_104 : decode cX8_read 104 = .ok (.iconst 0, 1) := by decide +kernel
theorem dX8_read_105 : decode cX8_read 105 = .ok (.iadd, 1) := by decide +kernel
theorem dX8_read_106 : decode cX8_read 106 = .ok (.istore_n 2, 1) := by decide +kernel
theorem dX8_read_107 : decode cX8_read 107 = .ok (.goto (-78), 3) := by decide +kernel
theorem dX8_read_110 : decode cX8_read 110 = .ok (.iload_n 2, 1) := by decide +kernel
theorem dX8_read_111 : decode cX8_read 111 = .ok (.ireturn, 1) := by decide +kernel
theorem dX8_undo_0 : decode cX8_undo 0 = .ok (.aload_n 0, 1) := by decide +kernel
theorem dX8_undo_1 : decode cX8_undo 1 = .ok (.getfield 167, 3) := by decide +kernel
theorem dX8_undo_4 : decode cX8_undo 4 = .ok (.ifCond .ne 6, 3) := by decide +kernel
theorem dX8_undo_7 : decode cX8_undo 7 = .ok (.bipush (-3), 2) := by decide +kernel
theorem dX8_undo_9 : decode cX8_undo 9 = .ok (.ireturn, 1) := by decide +kernel
theorem dX8_undo_10 : decode cX8_undo 10 = .ok (.aload_n 0, 1) := by decide +kernel
theorem dX8_undo_11 : decode cX8_undo 11 = .ok (.dup, 1) := by decide +kernel
theorem dX8_undo_12 : decode cX8_undo 12 = .ok (.getfield 167, 3) := by decide +kernel
theorem dX8_undo_15 : decode cX8_undo 15 = .ok (.iconst 1, 1) := by decide +kernel
theorem dX8_undo_16 : decode cX8_undo 16 = .ok (.isub, 1) := by decide +kernel
theorem dX8_undo_17 : decode cX8_undo 17 = .ok (.putfield 167, 3) := by decide +kernel
theorem dX8_undo_20 : decode cX8_undo 20 = .ok (.aload_n 0, 1) := by decide +kernel
theorem dX8_undo_21 : decode cX8_undo 21 = .ok (.getfield 167, 3) := by decide +kernel
theorem dX8_undo_24 : decode cX8_undo 24 = .ok (.ireturn, 1) := by decide +kernel
theorem dX8_mayCarry_0 : decode cX8_mayCarry 0 = .ok (.iload_n 1, 1) := by decide +kernel
theorem dX8_mayCarry_1 : decode cX8_mayCarry 1 = .ok (.aload_n 0, 1) := by decide +kernel
theorem dX8_mayCarry_2 : decode cX8_mayCarry 2 = .ok (.getfield 129, 3) := by decide +kernel
theorem dX8_mayCarry_5 : decode cX8_mayCarry 5 = .ok (.if_icmp .ge 64, 3) := by decide +kernel
theorem dX8_mayCarry_8 : decode cX8_mayCarry 8 = .ok (.iload_n 2, 1) := by decide +kernel
theorem dX8_mayCarry_9 : decode cX8_mayCarry 9 = .ok (.aload_n 0, 1) := by decide +kernel
theorem dX8_mayCarry_10 : decode cX8_mayCarry 10 = .ok (.getfield 137, 3) := by decide +kernel
theorem dX8_mayCarry_13 : decode cX8_mayCarry 13 = .ok (.if_icmp .ge 56, 3) := by decide +kernel
theorem dX8_mayCarry_16 : decode cX8_mayCarry 16 = .ok (.aload_n 0, 1) := by decide +kernel
theorem dX8_mayCarry_17 : decode cX8_mayCarry 17 = .ok (.getfield 58, 3) := by decide +kernel
theorem dX8_mayCarry_20 : decode cX8_mayCarry 20 = .ok (.iload_n 2, 1) := by decide +kernel
theorem dX8_mayCarry_21 : decode cX8_mayCarry 21 = .ok (.iaload, 1) := by decide +kernel
theorem dX8_mayCarry_22 : decode cX8_mayCarry 22 = .ok (.iconst (-1), 1) := by decide +kernel
theorem dX8_mayCarry_23 : decode cX8_mayCarry 23 = .ok (.if_icmp .ne 46, 3) := by decide +kernel
theorem dX8_mayCarry_26 : decode cX8_mayCarry 26 = .ok (.aload_n 0, 1) := by decide +kernel
theorem dX8_mayCarry_27 : decode cX8_mayCarry 27 = .ok (.getfield 34, 3) := by decide +kernel
theorem dX8_mayCarry_30 : decode cX8_mayCarry 30 = .ok (.iload_n 2, 1) := by decide +kernel
theorem dX8_mayCarry_31 : decode cX8_mayCarry 31 = .ok (.iaload, 1) := by decide +kernel
theorem dX8_mayCarry_32 : decode cX8_mayCarry 32 = .ok (.aload_n 0, 1) := by decide +kernel
theorem dX8_mayCarry_33 : decode cX8_mayCarry 33 = .ok (.getfield 28, 3) := by decide +kernel
theorem dX8_mayCarry_36 : decode cX8_mayCarry 36 = .ok (.iload_n 1, 1) := by decide +kernel
theorem dX8_mayCarry_37 : decode cX8_mayCarry 37 = .ok (.iaload, 1) := by decide +kernel
theorem dX8_mayCarry_38 : decode cX8_mayCarry 38 = .ok (.if_icmp .gt 31, 3) := by decide +kernel
theorem dX8_mayCarry_41 : decode cX8_mayCarry 41 = .ok (.aload_n 0, 1) := by decide +kernel
theorem dX8_mayCarry_42 : decode cX8_mayCarry 42 = .ok (.getfield 55, 3) := by decide +kernel
theorem dX8_mayCarry_45 : decode cX8_mayCarry 45 = .ok (.iload_n 1, 1) := by decide +kernel
theorem dX8_mayCarry_46 : decode cX8_mayCarry 46 = .ok (.iaload, 1) := by decide +kernel
theorem dX8_mayCarry_47 : decode cX8_mayCarry 47 = .ok (.aload_n 0, 1) := by decide +kernel
theorem dX8_mayCarry_48 : decode cX8_mayCarry 48 = .ok (.getfield 37, 3) := by decide +kernel
theorem dX8_mayCarry_51 : decode cX8_mayCarry 51 = .ok (.iload_n 2, 1) := by decide +kernel
theorem dX8_mayCarry_52 : decode cX8_mayCarry 52 = .ok (.iaload, 1) := by decide +kernel
theorem dX8_mayCarry_53 : decode cX8_mayCarry 53 = .ok (.iadd, 1) := by decide +kernel
theorem dX8_mayCarry_54 : decode cX8_mayCarry 54 = .ok (.iconst 1, 1) := by decide +kernel
theorem dX8_mayCarry_55 : decode cX8_mayCarry 55 = .ok (.iadd, 1) := by decide +kernel
theorem dX8_mayCarry_56 : decode cX8_mayCarry 56 = .ok (.aload_n 0, 1) := by decide +kernel
theorem dX8_mayCarry_57 : decode cX8_mayCarry 57 = .ok (.getfield 40, 3) := by decide +kernel
theorem dX8_mayCarry_60 : decode cX8_mayCarry 60 = .ok (.iconst 0, 1) := by decide +kernel
theorem dX8_mayCarry_61 : decode cX8_mayCarry 61 = .ok (.iaload, 1) := by decide +kernel
theorem dX8_mayCarry_62 : decode cX8_mayCarry 62 = .ok (.if_icmp .gt 7, 3) := by decide +kernel
theorem dX8_mayCarry_65 : decode cX8_mayCarry 65 = .ok (.iconst 1, 1) := by decide +kernel
theorem dX8_mayCarry_66 : decode cX8_mayCarry 66 = .ok (.goto 4, 3) := by decide +kernel
theorem dX8_mayCarry_69 : decode cX8_mayCarry 69 = .ok (.iconst 0, 1) := by decide +kernel
theorem dX8_mayCarry_70 : decode cX8_mayCarry 70 = .ok (.ireturn, 1) := by decide +kernel
theorem dX8_goes_0 : decode cX8_goes 0 = .ok (.aload_n 0, 1) := by decide +kernel
theorem dX8_goes_1 : decode cX8_goes 1 = .ok (.iconst 0, 1) := by decide +kernel
theorem dX8_goes_2 : decode cX8_goes 2 = .ok (.putfield 173, 3) := by decide +kernel
theorem dX8_goes_5 : decode cX8_goes 5 = .ok (.aload_n 0, 1) := by decide +kernel
theorem dX8_goes_6 : decode cX8_goes 6 = .ok (.iconst (-1), 1) := by decide +kernel
theorem dX8_goes_7 : decode cX8_goes 7 = .ok (.putfield 176, 3) := by decide +kernel
theorem dX8_goes_10 : decode cX8_goes 10 = .ok (.iconst 0, 1) := by decide +kernel
theorem dX8_goes_11 : decode cX8_goes 11 = .ok (.istore_n 2, 1) := by decide +kernel
theorem dX8_goes_12 : decode cX8_goes 12 = .ok (.iload_n 2, 1) := by decide +kernel
theorem dX8_goes_13 : decode cX8_goes 13 = .ok (.bipush 8, 2) := by decide +kernel
theorem dX8_goes_15 : decode cX8_goes 15 = .ok (.if_icmp .ge 16, 3) := by decide +kernel
theorem dX8_goes_18 : decode cX8_goes 18 = .ok (.aload_n 0, 1) := by decide +kernel
theorem dX8_goes_19 : decode cX8_goes 19 = .ok (.getfield 55, 3) := by decide +kernel
theorem dX8_goes_22 : decode cX8_goes 22 = .ok (.iload_n 2, 1) := by decide +kernel
theorem dX8_goes_23 : decode cX8_goes 23 = .ok (.iconst 0, 1) := by decide +kernel
theorem dX8_goes_24 : decode cX8_goes 24 = .ok (.iastore, 1) := by decide +kernel
theorem dX8_goes_25 : decode cX8_goes 25 = .ok (.iinc 2 1, 3) := by decide +kernel
theorem dX8_goes_28 : decode cX8_goes 28 = .ok (.goto (-16), 3) := by decide +kernel
theorem dX8_goes_31 : decode cX8_goes 31 = .ok (.iconst 0, 1) := by decide +kernel
theorem dX8_goes_32 : decode cX8_goes 32 = .ok (.istore_n 2, 1) := by decide +kernel
theorem dX8_goes_33 : decode cX8_goes 33 = .ok (.iload_n 2, 1) := by decide +kernel
theorem dX8_goes_34 : decode cX8_goes 34 = .ok (.bipush 9, 2) := by decide +kernel
theorem dX8_goes_36 : decode cX8_goes 36 = .ok (.if_icmp .ge 16, 3) := by decide +kernel
theorem dX8_goes_39 : decode cX8_goes 39 = .ok (.aload_n 0, 1) := by decide +kernel
theorem dX8_goes_40 : decode cX8_goes 40 = .ok (.getfield 58, 3) := by decide +kernel
theorem dX8_goes_43 : decode cX8_goes 43 = .ok (.iload_n 2, 1) := by decide +kernel
theorem dX8_goes_44 : decode cX8_goes 44 = .ok (.iconst (-1), 1) := by decide +kernel
theorem dX8_goes_45 : decode cX8_goes 45 = .ok (.iastore, 1) := by decide +kernel
theorem dX8_goes_46 : decode cX8_goes 46 = .ok (.iinc 2 1, 3) := by decide +kernel
theorem dX8_goes_49 : decode cX8_goes 49 = .ok (.goto (-16), 3) := by decide +kernel
theorem dX8_goes_52 : decode cX8_goes 52 = .ok (.iconst 0, 1) := by decide +kernel
theorem dX8_goes_53 : decode cX8_goes 53 = .ok (.istore_n 2, 1) := by decide +kernel
theorem dX8_goes_54 : decode cX8_goes 54 = .ok (.iload_n 2, 1) := by decide +kernel
theorem dX8_goes_55 : decode cX8_goes 55 = .ok (.aload_n 0, 1) := by decide +kernel
theorem dX8_goes_56 : decode cX8_goes 56 = .ok (.getfield 167, 3) := by decide +kernel
theorem dX8_goes_59 : decode cX8_goes 59 = .ok (.if_icmp .ge 128, 3) := by decide +kernel
theorem dX8_goes_62 : decode cX8_goes 62 = .ok (.aload_n 0, 1) := by decide +kernel
theorem dX8_goes_63 : decode cX8_goes 63 = .ok (.getfield 49, 3) := by decide +kernel
theorem dX8_goes_66 : decode cX8_goes 66 = .ok (.iconst 3, 1) := by decide +kernel
theorem dX8_goes_67 : decode cX8_goes 67 = .ok (.iload_n 2, 1) := by decide +kernel
theorem dX8_goes_68 : decode cX8_goes 68 = .ok (.imul, 1) := by decide +kernel
theorem dX8_goes_69 : decode cX8_goes 69 = .ok (.iaload, 1) := by decide +kernel
theorem dX8_goes_70 : decode cX8_goes 70 = .ok (.istore_n 3, 1) := by decide +kernel
theorem dX8_goes_71 : decode cX8_goes 71 = .ok (.aload_n 0, 1) := by decide +kernel
theorem dX8_goes_72 : decode cX8_goes 72 = .ok (.getfield 49, 3) := by decide +kernel
theorem dX8_goes_75 : decode cX8_goes 75 = .ok (.iconst 3, 1) := by decide +kernel
theorem dX8_goes_76 : decode cX8_goes 76 = .ok (.iload_n 2, 1) := by decide +kernel
theorem dX8_goes_77 : decode cX8_goes 77 = .ok (.imul, 1) := by decide +kernel
theorem dX8_goes_78 : decode cX8_goes 78 = .ok (.iconst 1, 1) := by decide +kernel
theorem dX8_goes_79 : decode cX8_goes 79 = .ok (.iadd, 1) := by decide +kernel
theorem dX8_goes_80 : decode cX8_goes 80 = .ok (.iaload, 1) := by decide +kernel
theorem dX8_goes_81 : decode cX8_goes 81 = .ok (.istore 4, 2) := by decide +kernel
theorem dX8_goes_83 : decode cX8_goes 83 = .ok (.aload_n 0, 1) := by decide +kernel
theorem dX8_goes_84 : decode cX8_goes 84 = .ok (.getfield 52, 3) := by decide +kernel
theorem dX8_goes_87 : decode cX8_goes 87 = .ok (.iload_n 2, 1) := by decide +kernel
theorem dX8_goes_88 : decode cX8_goes 88 = .ok (.iconst (-1), 1) := by decide +kernel
theorem dX8_goes_89 : decode cX8_goes 89 = .ok (.iastore, 1) := by decide +kernel
theorem dX8_goes_90 : decode cX8_goes 90 = .ok (.iload_n 2, 1) := by decide +kernel
theorem dX8_goes_91 : decode cX8_goes 91 = .ok (.iload_n 1, 1) := by decide +kernel
theorem dX8_goes_92 : decode cX8_goes 92 = .ok (.if_icmp .eq 54, 3) := by decide +kernel
theorem dX8_goes_95 : decode cX8_goes 95 = .ok (.aload_n 0, 1) := by decide +kernel
theorem dX8_goes_96 : decode cX8_goes 96 = .ok (.iload_n 3, 1) := by decide +kernel
theorem dX8_goes_97 : decode cX8_goes 97 = .ok (.iload 4, 2) := by decide +kernel
theorem dX8_goes_99 : decode cX8_goes 99 = .ok (.invokevirtual 179, 3) := by decide +kernel
theorem dX8_goes_102 : decode cX8_goes 102 = .ok (.ifCond .eq 44, 3) := by decide +kernel
theorem dX8_goes_105 : decode cX8_goes 105 = .ok (.aload_n 0, 1) := by decide +kernel
theorem dX8_goes_106 : decode cX8_goes 106 = .ok (.getfield 55, 3) := by decide +kernel
theorem dX8_goes_109 : decode cX8_goes 109 = .ok (.iload_n 3, 1) := by decide +kernel
theorem dX8_goes_110 : decode cX8_goes 110 = .ok (.dup2, 1) := by decide +kernel
theorem dX8_goes_111 : decode cX8_goes 111 = .ok (.iaload, 1) := by decide +kernel
theorem dX8_goes_112 : decode cX8_goes 112 = .ok (.aload_n 0, 1) := by decide +kernel
theorem dX8_goes_113 : decode cX8_goes 113 = .ok (.getfield 37, 3) := by decide +kernel
theorem dX8_goes_116 : decode cX8_goes 116 = .ok (.iload 4, 2) := by decide +kernel
theorem dX8_goes_118 : decode cX8_goes 118 = .ok (.iaload, 1) := by decide +kernel
theorem dX8_goes_119 : decode cX8_goes 119 = .ok (.iconst 1, 1) := by decide +kernel
theorem dX8_goes_120 : decode cX8_goes 120 = .ok (.iadd, 1) := by decide +kernel
theorem dX8_goes_121 : decode cX8_goes 121 = .ok (.iadd, 1) := by decide +kernel
theorem dX8_goes_122 : decode cX8_goes 122 = .ok (.iastore, 1) := by decide +kernel
theorem dX8_goes_123 : decode cX8_goes 123 = .ok (.aload_n 0, 1) := by decide +kernel
theorem dX8_goes_124 : decode cX8_goes 124 = .ok (.getfield 58, 3) := by decide +kernel
theorem dX8_goes_127 : decode cX8_goes 127 = .ok (.iload 4, 2) := by decide +kernel
theorem dX8_goes_129 : decode cX8_goes 129 = .ok (.iload_n 3, 1) := by decide +kernel
theorem dX8_goes_130 : decode cX8_goes 130 = .ok (.iastore, 1) := by decide +kernel
theorem dX8_goes_131 : decode cX8_goes 131 = .ok (.aload_n 0, 1) := by decide +kernel
theorem dX8_goes_132 : decode cX8_goes 132 = .ok (.getfield 52, 3) := by decide +kernel
theorem dX8_goes_135 : decode cX8_goes 135 = .ok (.iload_n 2, 1) := by decide +kernel
theorem dX8_goes_136 : decode cX8_goes 136 = .ok (.aload_n 0, 1) := by decide +kernel
theorem dX8_goes_137 : decode cX8_goes 137 = .ok (.getfield 55, 3) := by decide +kernel
theorem dX8_goes_140 : decode cX8_goes 140 = .ok (.iload_n 3, 1) := by decide +kernel
theorem dX8_goes_141 : decode cX8_goes 141 = .ok (.iaload, 1) := by decide +kernel
theorem dX8_goes_142 : decode cX8_goes 142 = .ok (.iastore, 1) := by decide +kernel
theorem dX8_goes_143 : decode cX8_goes 143 = .ok (.goto 38, 3) := by decide +kernel
theorem dX8_goes_146 : decode cX8_goes 146 = .ok (.iload_n 2, 1) := by decide +kernel
theorem dX8_goes_147 : decode cX8_goes 147 = .ok (.iload_n 1, 1) := by decide +kernel
theorem dX8_goes_148 : decode cX8_goes 148 = .ok (.if_icmp .eq 33, 3) := by decide +kernel
theorem dX8_goes_151 : decode cX8_goes 151 = .ok (.aload_n 0, 1) := by decide +kernel
theorem dX8_goes_152 : decode cX8_goes 152 = .ok (.dup, 1) := by decide +kernel
theorem dX8_goes_153 : decode cX8_goes 153 = .ok (.getfield 173, 3) := by decide +kernel
theorem dX8_goes_156 : decode cX8_goes 156 = .ok (.iconst 1, 1) := by decide +kernel
theorem dX8_goes_157 : decode cX8_goes 157 = .ok (.iadd, 1) := by decide +kernel
theorem dX8_goes_158 : decode cX8_goes 158 = .ok (.putfield 173, 3) := by decide +kernel
theorem dX8_goes_161 : decode cX8_goes 161 = .ok (.aload_n 0, 1) := by decide +kernel
theorem dX8_goes_162 : decode cX8_goes 162 = .ok (.aload_n 0, 1) := by decide +kernel
theorem dX8_goes_163 : decode cX8_goes 163 = .ok (.getfield 176, 3) := by decide +kernel
theorem dX8_goes_166 : decode cX8_goes 166 = .ok (.iconst (-1), 1) := by decide +kernel
theorem dX8_goes_167 : decode cX8_goes 167 = .ok (.if_icmp .ne 7, 3) := by decide +kernel
theorem dX8_goes_170 : decode cX8_goes 170 = .ok (.iload_n 2, 1) := by decide +kernel
theorem dX8_goes_171 : decode cX8_goes 171 = .ok (.goto 7, 3) := by decide +kernel
theorem dX8_goes_174 : decode cX8_goes 174 = .ok (.aload_n 0, 1) := by decide +kernel
theorem dX8_goes_175 : decode cX8_goes 175 = .ok (.getfield 176, 3) := by decide +kernel
theorem dX8_goes_178 : decode cX8_goes 178 = .ok (.putfield 176, 3) := by decide +kernel
theorem dX8_goes_181 : decode cX8_goes 181 = .ok (.iinc 2 1, 3) := by decide +kernel
theorem dX8_goes_184 : decode cX8_goes 184 = .ok (.goto (-130), 3) := by decide +kernel
theorem dX8_goes_187 : decode cX8_goes 187 = .ok (.return_, 1) := by decide +kernel
theorem dX8_personOf_0 : decode cX8_personOf 0 = .ok (.iload_n 2, 1) := by decide +kernel
theorem dX8_personOf_1 : decode cX8_personOf 1 = .ok (.ifCond .ne 12, 3) := by decide +kernel
theorem dX8_personOf_4 : decode cX8_personOf 4 = .ok (.aload_n 0, 1) := by decide +kernel
theorem dX8_personOf_5 : decode cX8_personOf 5 = .ok (.getfield 28, 3) := by decide +kernel
theorem dX8_personOf_8 : decode cX8_personOf 8 = .ok (.iload_n 1, 1) := by decide +kernel
theorem dX8_personOf_9 : decode cX8_personOf 9 = .ok (.iaload, 1) := by decide +kernel
theorem dX8_personOf_10 : decode cX8_personOf 10 = .ok (.goto 23, 3) := by decide +kernel
theorem dX8_personOf_13 : decode cX8_personOf 13 = .ok (.iload_n 2, 1) := by decide +kernel
theorem dX8_personOf_14 : decode cX8_personOf 14 = .ok (.iconst 1, 1) := by decide +kernel
theorem dX8_personOf_15 : decode cX8_personOf 15 = .ok (.if_icmp .ne 12, 3) := by decide +kernel
theorem dX8_personOf_18 : decode cX8_personOf 18 = .ok (.aload_n 0, 1) := by decide +kernel
theorem dX8_personOf_19 : decode cX8_personOf 19 = .ok (.getfield 31, 3) := by decide +kernel
theorem dX8_personOf_22 : decode cX8_personOf 22 = .ok (.iload_n 1, 1) := by decide +kernel
theorem dX8_personOf_23 : decode cX8_personOf 23 = .ok (.iaload, 1) := by decide +kernel
theorem dX8_personOf_24 : decode cX8_personOf 24 = .ok (.goto 9, 3) := by decide +kernel
theorem dX8_personOf_27 : decode cX8_personOf 27 = .ok (.aload_n 0, 1) := by decide +kernel
theorem dX8_personOf_28 : decode cX8_personOf 28 = .ok (.getfield 55, 3) := by decide +kernel
theorem dX8_personOf_31 : decode cX8_personOf 31 = .ok (.iload_n 1, 1) := by decide +kernel
theorem dX8_personOf_32 : decode cX8_personOf 32 = .ok (.iaload, 1) := by decide +kernel
theorem dX8_personOf_33 : decode cX8_personOf 33 = .ok (.ireturn, 1) := by decide +kernel
theorem dX8_person_0 : decode cX8_person 0 = .ok (.aload_n 0, 1) := by decide +kernel
theorem dX8_person_1 : decode cX8_person 1 = .ok (.iload_n 1, 1) := by decide +kernel
theorem dX8_person_2 : decode cX8_person 2 = .ok (.invokevirtual 183, 3) := by decide +kernel
theorem dX8_person_5 : decode cX8_person 5 = .ok (.ifCond .eq 15, 3) := by decide +kernel
theorem dX8_person_8 : decode cX8_person 8 = .ok (.iload_n 2, 1) := by decide +kernel
theorem dX8_person_9 : decode cX8_person 9 = .ok (.i2l, 1) := by decide +kernel
theorem dX8_person_10 : decode cX8_person 10 = .ok (.lconst 0, 1) := by decide +kernel
theorem dX8_person_11 : decode cX8_person 11 = .ok (.ldc2_w 106, 3) := by decide +kernel
theorem dX8_person_14 : decode cX8_person 14 = .ok (.invokestatic 92, 3) := by decide +kernel
theorem dX8_person_17 : decode cX8_person 17 = .ok (.ifCond .ne 6, 3) := by decide +kernel
theorem dX8_person_20 : decode cX8_person 20 = .ok (.bipush (-2), 2) := by decide +kernel
theorem dX8_person_22 : decode cX8_person 22 = .ok (.ireturn, 1) := by decide +kernel
theorem dX8_person_23 : decode cX8_person 23 = .ok (.aload_n 0, 1) := by decide +kernel
theorem dX8_person_24 : decode cX8_person 24 = .ok (.iconst (-1), 1) := by decide +kernel
theorem dX8_person_25 : decode cX8_person 25 = .ok (.invokevirtual 186, 3) := by decide +kernel
theorem dX8_person_28 : decode cX8_person 28 = .ok (.aload_n 0, 1) := by decide +kernel
theorem dX8_person_29 : decode cX8_person 29 = .ok (.iload_n 1, 1) := by decide +kernel
theorem dX8_person_30 : decode cX8_person 30 = .ok (.iload_n 2, 1) := by decide +kernel
theorem dX8_person_31 : decode cX8_person 31 = .ok (.invokevirtual 190, 3) := by decide +kernel
theorem dX8_person_34 : decode cX8_person 34 = .ok (.ireturn, 1) := by decide +kernel
theorem dX8_stoneOf_0 : decode cX8_stoneOf 0 = .ok (.iload_n 2, 1) := by decide +kernel
theorem dX8_stoneOf_1 : decode cX8_stoneOf 1 = .ok (.ifCond .ne 12, 3) := by decide +kernel
theorem dX8_stoneOf_4 : decode cX8_stoneOf 4 = .ok (.aload_n 0, 1) := by decide +kernel
theorem dX8_stoneOf_5 : decode cX8_stoneOf 5 = .ok (.getfield 34, 3) := by decide +kernel
theorem dX8_stoneOf_8 : decode cX8_stoneOf 8 = .ok (.iload_n 1, 1) := by decide +kernel
theorem dX8_stoneOf_9 : decode cX8_stoneOf 9 = .ok (.iaload, 1) := by decide +kernel
theorem dX8_stoneOf_10 : decode cX8_stoneOf 10 = .ok (.goto 23, 3) := by decide +kernel
theorem dX8_stoneOf_13 : decode cX8_stoneOf 13 = .ok (.iload_n 2, 1) := by decide +kernel
theorem dX8_stoneOf_14 : decode cX8_stoneOf 14 = .ok (.iconst 1, 1) := by decide +kernel
theorem dX8_stoneOf_15 : decode cX8_stoneOf 15 = .ok (.if_icmp .ne 12, 3) := by decide +kernel
theorem dX8_stoneOf_18 : decode cX8_stoneOf 18 = .ok (.aload_n 0, 1) := by decide +kernel
theorem dX8_stoneOf_19 : decode cX8_stoneOf 19 = .ok (.getfield 37, 3) := by decide +kernel
theorem dX8_stoneOf_22 : decode cX8_stoneOf 22 = .ok (.iload_n 1, 1) := by decide +kernel
theorem dX8_stoneOf_23 : decode cX8_stoneOf 23 = .ok (.iaload, 1) := by decide +kernel
theorem dX8_stoneOf_24 : decode cX8_stoneOf 24 = .ok (.goto 9, 3) := by decide +kernel
theorem dX8_stoneOf_27 : decode cX8_stoneOf 27 = .ok (.aload_n 0, 1) := by decide +kernel
theorem dX8_stoneOf_28 : decode cX8_stoneOf 28 = .ok (.getfield 58, 3) := by decide +kernel
theorem dX8_stoneOf_31 : decode cX8_stoneOf 31 = .ok (.iload_n 1, 1) := by decide +kernel
theorem dX8_stoneOf_32 : decode cX8_stoneOf 32 = .ok (.iaload, 1) := by decide +kernel
theorem dX8_stoneOf_33 : decode cX8_stoneOf 33 = .ok (.ireturn, 1) := by decide +kernel
theorem dX8_stone_0 : decode cX8_stone 0 = .ok (.aload_n 0, 1) := by decide +kernel
theorem dX8_stone_1 : decode cX8_stone 1 = .ok (.iload_n 1, 1) := by decide +kernel
theorem dX8_stone_2 : decode cX8_stone 2 = .ok (.invokevirtual 193, 3) := by decide +kernel
theorem dX8_stone_5 : decode cX8_stone 5 = .ok (.ifCond .eq 15, 3) := by decide +kernel
theorem dX8_stone_8 : decode cX8_stone 8 = .ok (.iload_n 2, 1) := by decide +kernel
theorem dX8_stone_9 : decode cX8_stone 9 = .ok (.i2l, 1) := by decide +kernel
theorem dX8_stone_10 : decode cX8_stone 10 = .ok (.lconst 0, 1) := by decide +kernel
theorem dX8_stone_11 : decode cX8_stone 11 = .ok (.ldc2_w 106, 3) := by decide +kernel
theorem dX8_stone_14 : decode cX8_stone 14 = .ok (.invokestatic 92, 3) := by decide +kernel
theorem dX8_stone_17 : decode cX8_stone 17 = .ok (.ifCond .ne 6, 3) := by decide +kernel
theorem dX8_stone_20 : decode cX8_stone 20 = .ok (.bipush (-2), 2) := by decide +kernel
theorem dX8_stone_22 : decode cX8_stone 22 = .ok (.ireturn, 1) := by decide +kernel
theorem dX8_stone_23 : decode cX8_stone 23 = .ok (.aload_n 0, 1) := by decide +kernel
theorem dX8_stone_24 : decode cX8_stone 24 = .ok (.iconst (-1), 1) := by decide +kernel
theorem dX8_stone_25 : decode cX8_stone 25 = .ok (.invokevirtual 186, 3) := by decide +kernel
theorem dX8_stone_28 : decode cX8_stone 28 = .ok (.aload_n 0, 1) := by decide +kernel
theorem dX8_stone_29 : decode cX8_stone 29 = .ok (.iload_n 1, 1) := by decide +kernel
theorem dX8_stone_30 : decode cX8_stone 30 = .ok (.iload_n 2, 1) := by decide +kernel
theorem dX8_stone_31 : decode cX8_stone 31 = .ok (.invokevirtual 196, 3) := by decide +kernel
theorem dX8_stone_34 : decode cX8_stone 34 = .ok (.ireturn, 1) := by decide +kernel
theorem dX8_judged_0 : decode cX8_judged 0 = .ok (.aload_n 0, 1) := by decide +kernel
theorem dX8_judged_1 : decode cX8_judged 1 = .ok (.invokevirtual 147, 3) := by decide +kernel
theorem dX8_judged_4 : decode cX8_judged 4 = .ok (.aload_n 0, 1) := by decide +kernel
theorem dX8_judged_5 : decode cX8_judged 5 = .ok (.iconst (-1), 1) := by decide +kernel
theorem dX8_judged_6 : decode cX8_judged 6 = .ok (.invokevirtual 186, 3) := by decide +kernel
theorem dX8_judged_9 : decode cX8_judged 9 = .ok (.aload_n 0, 1) := by decide +kernel
theorem dX8_judged_10 : decode cX8_judged 10 = .ok (.getfield 176, 3) := by decide +kernel
theorem dX8_judged_13 : decode cX8_judged 13 = .ok (.ireturn, 1) := by decide +kernel
theorem dX8_laid_0 : decode cX8_laid 0 = .ok (.aload_n 0, 1) := by decide +kernel
theorem dX8_laid_1 : decode cX8_laid 1 = .ok (.invokevirtual 147, 3) := by decide +kernel
theorem dX8_laid_4 : decode cX8_laid 4 = .ok (.aload_n 0, 1) := by decide +kernel
theorem dX8_laid_5 : decode cX8_laid 5 = .ok (.iconst (-1), 1) := by decide +kernel
theorem dX8_laid_6 : decode cX8_laid 6 = .ok (.invokevirtual 186, 3) := by decide +kernel
theorem dX8_laid_9 : decode cX8_laid 9 = .ok (.iload_n 1, 1) := by decide +kernel
theorem dX8_laid_10 : decode cX8_laid 10 = .ok (.i2l, 1) := by decide +kernel
theorem dX8_laid_11 : decode cX8_laid 11 = .ok (.lconst 0, 1) := by decide +kernel
theorem dX8_laid_12 : decode cX8_laid 12 = .ok (.aload_n 0, 1) := by decide +kernel
theorem dX8_laid_13 : decode cX8_laid 13 = .ok (.getfield 167, 3) := by decide +kernel
theorem dX8_laid_16 : decode cX8_laid 16 = .ok (.iconst 1, 1) := by decide +kernel
theorem dX8_laid_17 : decode cX8_laid 17 = .ok (.isub, 1) := by decide +kernel
theorem dX8_laid_18 : decode cX8_laid 18 = .ok (.i2l, 1) := by decide +kernel
theorem dX8_laid_19 : decode cX8_laid 19 = .ok (.invokestatic 92, 3) := by decide +kernel
theorem dX8_laid_22 : decode cX8_laid 22 = .ok (.ifCond .eq 12, 3) := by decide +kernel
theorem dX8_laid_25 : decode cX8_laid 25 = .ok (.aload_n 0, 1) := by decide +kernel
theorem dX8_laid_26 : decode cX8_laid 26 = .ok (.getfield 52, 3) := by decide +kernel
theorem dX8_laid_29 : decode cX8_laid 29 = .ok (.iload_n 1, 1) := by decide +kernel
theorem dX8_laid_30 : decode cX8_laid 30 = .ok (.iaload, 1) := by decide +kernel
theorem dX8_laid_31 : decode cX8_laid 31 = .ok (.goto 5, 3) := by decide +kernel
theorem dX8_laid_34 : decode cX8_laid 34 = .ok (.bipush (-2), 2) := by decide +kernel
theorem dX8_laid_36 : decode cX8_laid 36 = .ok (.ireturn, 1) := by decide +kernel
theorem dX8_shelfOf_0 : decode cX8_shelfOf 0 = .ok (.bipush 6, 2) := by decide +kernel
theorem dX8_shelfOf_2 : decode cX8_shelfOf 2 = .ok (.aload_n 0, 1) := by decide +kernel
theorem dX8_shelfOf_3 : decode cX8_shelfOf 3 = .ok (.getfield 31, 3) := by decide +kernel
theorem dX8_shelfOf_6 : decode cX8_shelfOf 6 = .ok (.aload_n 0, 1) := by decide +kernel
theorem dX8_shelfOf_7 : decode cX8_shelfOf 7 = .ok (.getfield 49, 3) := by decide +kernel
theorem dX8_shelfOf_10 : decode cX8_shelfOf 10 = .ok (.iconst 3, 1) := by decide +kernel
theorem dX8_shelfOf_11 : decode cX8_shelfOf 11 = .ok (.iload_n 1, 1) := by decide +kernel
theorem dX8_shelfOf_12 : decode cX8_shelfOf 12 = .ok (.imul, 1) := by decide +kernel
theorem dX8_shelfOf_13 : decode cX8_shelfOf 13 = .ok (.iaload, 1) := by decide +kernel
theorem dX8_shelfOf_14 : decode cX8_shelfOf 14 = .ok (.iaload, 1) := by decide +kernel
theorem dX8_shelfOf_15 : decode cX8_shelfOf 15 = .ok (.imul, 1) := by decide +kernel
theorem dX8_shelfOf_16 : decode cX8_shelfOf 16 = .ok (.aload_n 0, 1) := by decide +kernel
theorem dX8_shelfOf_17 : decode cX8_shelfOf 17 = .ok (.getfield 49, 3) := by decide +kernel
theorem dX8_shelfOf_20 : decode cX8_shelfOf 20 = .ok (.iconst 3, 1) := by decide +kernel
theorem dX8_shelfOf_21 : decode cX8_shelfOf 21 = .ok (.iload_n 1, 1) := by decide +kernel
theorem dX8_shelfOf_22 : decode cX8_shelfOf 22 = .ok (.imul, 1) := by decide +kernel
theorem dX8_shelfOf_23 : decode cX8_shelfOf 23 = .ok (.iconst 2, 1) := by decide +kernel
theorem dX8_shelfOf_24 : decode cX8_shelfOf 24 = .ok (.iadd, 1) := by decide +kernel
theorem dX8_shelfOf_25 : decode cX8_shelfOf 25 = .ok (.iaload, 1) := by decide +kernel
theorem dX8_shelfOf_26 : decode cX8_shelfOf 26 = .ok (.iadd, 1) := by decide +kernel
theorem dX8_shelfOf_27 : decode cX8_shelfOf 27 = .ok (.ireturn, 1) := by decide +kernel
theorem dX8_heaps_0 : decode cX8_heaps 0 = .ok (.iconst 0, 1) := by decide +kernel
theorem dX8_heaps_1 : decode cX8_heaps 1 = .ok (.istore_n 2, 1) := by decide +kernel
theorem dX8_heaps_2 : decode cX8_heaps 2 = .ok (.iload_n 2, 1) := by decide +kernel
theorem dX8_heaps_3 : decode cX8_heaps 3 = .ok (.bipush 12, 2) := by decide +kernel
theorem dX8_heaps_5 : decode cX8_heaps 5 = .ok (.if_icmp .ge 16, 3) := by decide +kernel
theorem dX8_heaps_8 : decode cX8_heaps 8 = .ok (.aload_n 0, 1) := by decide +kernel
theorem dX8_heaps_9 : decode cX8_heaps 9 = .ok (.getfield 61, 3) := by decide +kernel
theorem dX8_heaps_12 : decode cX8_heaps 12 = .ok (.iload_n 2, 1) := by decide +kernel
theorem dX8_heaps_13 : decode cX8_heaps 13 = .ok (.iconst 0, 1) := by decide +kernel
theorem dX8_heaps_14 : decode cX8_heaps 14 = .ok (.iastore, 1) := by decide +kernel
theorem dX8_heaps_15 : decode cX8_heaps 15 = .ok (.iinc 2 1, 3) := by decide +kernel
theorem dX8_heaps_18 : decode cX8_heaps 18 = .ok (.goto (-16), 3) := by decide +kernel
theorem dX8_heaps_21 : decode cX8_heaps 21 = .ok (.iconst 0, 1) := by decide +kernel
theorem dX8_heaps_22 : decode cX8_heaps 22 = .ok (.istore_n 2, 1) := by decide +kernel
theorem dX8_heaps_23 : decode cX8_heaps 23 = .ok (.iload_n 2, 1) := by decide +kernel
theorem dX8_heaps_24 : decode cX8_heaps 24 = .ok (.aload_n 0, 1) := by decide +kernel
theorem dX8_heaps_25 : decode cX8_heaps 25 = .ok (.getfield 167, 3) := by decide +kernel
theorem dX8_heaps_28 : decode cX8_heaps 28 = .ok (.if_icmp .ge 16, 3) := by decide +kernel
theorem dX8_heaps_31 : decode cX8_heaps 31 = .ok (.aload_n 0, 1) := by decide +kernel
theorem dX8_heaps_32 : decode cX8_heaps 32 = .ok (.getfield 64, 3) := by decide +kernel
theorem dX8_heaps_35 : decode cX8_heaps 35 = .ok (.iload_n 2, 1) := by decide +kernel
theorem dX8_heaps_36 : decode cX8_heaps 36 = .ok (.iconst 0, 1) := by decide +kernel
theorem dX8_heaps_37 : decode cX8_heaps 37 = .ok (.bastore, 1) := by decide +kernel
theorem dX8_heaps_38 : decode cX8_heaps 38 = .ok (.iinc 2 1, 3) := by decide +kernel
theorem dX8_heaps_41 : decode cX8_heaps 41 = .ok (.goto (-18), 3) := by decide +kernel
theorem dX8_heaps_44 : decode cX8_heaps 44 = .ok (.aload_n 0, 1) := by decide +kernel
theorem dX8_heaps_45 : decode cX8_heaps 45 = .ok (.iconst 0, 1) := by decide +kernel
theorem dX8_heaps_46 : decode cX8_heaps 46 = .ok (.putfield 199, 3) := by decide +kernel
theorem dX8_heaps_49 : decode cX8_heaps 49 = .ok (.iconst 0, 1) := by decide +kernel
theorem dX8_heaps_50 : decode cX8_heaps 50 = .ok (.istore_n 2, 1) := by decide +kernel
theorem dX8_heaps_51 : decode cX8_heaps 51 = .ok (.iload_n 2, 1) := by decide +kernel
theorem dX8_heaps_52 : decode cX8_heaps 52 = .ok (.iload_n 1, 1) := by decide +kernel
theorem dX8_heaps_53 : decode cX8_heaps 53 = .ok (.if_icmp .gt 98, 3) := by decide +kernel
theorem dX8_heaps_56 : decode cX8_heaps 56 = .ok (.iconst 0, 1) := by decide +kernel
theorem dX8_heaps_57 : decode cX8_heaps 57 = .ok (.istore_n 3, 1) := by decide +kernel
theorem dX8_heaps_58 : decode cX8_heaps 58 = .ok (.iload_n 3, 1) := by decide +kernel
theorem dX8_heaps_59 : decode cX8_heaps 59 = .ok (.aload_n 0, 1) := by decide +kernel
theorem dX8_heaps_60 : decode cX8_heaps 60 = .ok (.getfield 167, 3) := by decide +kernel
theorem dX8_heaps_63 : decode cX8_heaps 63 = .ok (.if_icmp .ge 82, 3) := by decide +kernel
theorem dX8_heaps_66 : decode cX8_heaps 66 = .ok (.aload_n 0, 1) := by decide +kernel
theorem dX8_heaps_67 : decode cX8_heaps 67 = .ok (.getfield 52, 3) := by decide +kernel
theorem dX8_heaps_70 : decode cX8_heaps 70 = .ok (.iload_n 3, 1) := by decide +kernel
theorem dX8_heaps_71 : decode cX8_heaps 71 = .ok (.iaload, 1) := by decide +kernel
theorem dX8_heaps_72 : decode cX8_heaps 72 = .ok (.iload_n 2, 1) := by decide +kernel
theorem dX8_heaps_73 : decode cX8_heaps 73 = .ok (.if_icmp .ne 66, 3) := by decide +kernel
theorem dX8_heaps_76 : decode cX8_heaps 76 = .ok (.aload_n 0, 1) := by decide +kernel
theorem dX8_heaps_77 : decode cX8_heaps 77 = .ok (.getfield 64, 3) := by decide +kernel
theorem dX8_heaps_80 : decode cX8_heaps 80 = .ok (.iload_n 3, 1) := by decide +kernel
theorem dX8_heaps_81 : decode cX8_heaps 81 = .ok (.iconst 1, 1) := by decide +kernel
theorem dX8_heaps_82 : decode cX8_heaps 82 = .ok (.bastore, 1) := by decide +kernel
theorem dX8_heaps_83 : decode cX8_heaps 83 = .ok (.aload_n 0, 1) := by decide +kernel
theorem dX8_heaps_84 : decode cX8_heaps 84 = .ok (.getfield 61, 3) := by decide +kernel
theorem dX8_heaps_87 : decode cX8_heaps 87 = .ok (.aload_n 0, 1) := by decide +kernel
theorem dX8_heaps_88 : decode cX8_heaps 88 = .ok (.iload_n 3, 1) := by decide +kernel
theorem dX8_heaps_89 : decode cX8_heaps 89 = .ok (.invokevirtual 202, 3) := by decide +kernel
theorem dX8_heaps_92 : decode cX8_heaps 92 = .ok (.dup2, 1) := by decide +kernel
theorem dX8_heaps_93 : decode cX8_heaps 93 = .ok (.iaload, 1) := by decide +kernel
theorem dX8_heaps_94 : decode cX8_heaps 94 = .ok (.aload_n 0, 1) := by decide +kernel
theorem dX8_heaps_95 : decode cX8_heaps 95 = .ok (.getfield 34, 3) := by decide +kernel
theorem dX8_heaps_98 : decode cX8_heaps 98 = .ok (.aload_n 0, 1) := by decide +kernel
theorem dX8_heaps_99 : decode cX8_heaps 99 = .ok (.getfield 49, 3) := by decide +kernel
theorem dX8_heaps_102 : decode cX8_heaps 102 = .ok (.iconst 3, 1) := by decide +kernel
theorem dX8_heaps_103 : decode cX8_heaps 103 = .ok (.iload_n 3, 1) := by decide +kernel
theorem dX8_heaps_104 : decode cX8_heaps 104 = .ok (.imul, 1) := by decide +kernel
theorem dX8_heaps_105 : decode cX8_heaps 105 = .ok (.iconst 1, 1) := by decide +kernel
theorem dX8_heaps_106 : decode cX8_heaps 106 = .ok (.iadd, 1) := by decide +kernel
theorem dX8_heaps_107 : decode cX8_heaps 107 = .ok (.iaload, 1) := by decide +kernel
theorem dX8_heaps_108 : decode cX8_heaps 108 = .ok (.iaload, 1) := by decide +kernel
theorem dX8_heaps_109 : decode cX8_heaps 109 = .ok (.iadd, 1) := by decide +kernel
theorem dX8_heaps_110 : decode cX8_heaps 110 = .ok (.iastore, 1) := by decide +kernel
theorem dX8_heaps_111 : decode cX8_heaps 111 = .ok (.aload_n 0, 1) := by decide +kernel
theorem dX8_heaps_112 : decode cX8_heaps 112 = .ok (.getfield 61, 3) := by decide +kernel
theorem dX8_heaps_115 : decode cX8_heaps 115 = .ok (.aload_n 0, 1) := by decide +kernel
theorem dX8_heaps_116 : decode cX8_heaps 116 = .ok (.iload_n 3, 1) := by decide +kernel
theorem dX8_heaps_117 : decode cX8_heaps 117 = .ok (.invokevirtual 202, 3) := by decide +kernel
theorem dX8_heaps_120 : decode cX8_heaps 120 = .ok (.iaload, 1) := by decide +kernel
theorem dX8_heaps_121 : decode cX8_heaps 121 = .ok (.aload_n 0, 1) := by decide +kernel
theorem dX8_heaps_122 : decode cX8_heaps 122 = .ok (.getfield 40, 3) := by decide +kernel
theorem dX8_heaps_125 : decode cX8_heaps 125 = .ok (.iconst 1, 1) := by decide +kernel
theorem dX8_heaps_126 : decode cX8_heaps 126 = .ok (.iaload, 1) := by decide +kernel
theorem dX8_heaps_127 : decode cX8_heaps 127 = .ok (.if_icmp .le 12, 3) := by decide +kernel
theorem dX8_heaps_130 : decode cX8_heaps 130 = .ok (.aload_n 0, 1) := by decide +kernel
theorem dX8_heaps_131 : decode cX8_heaps 131 = .ok (.aload_n 0, 1) := by decide +kernel
theorem dX8_heaps_132 : decode cX8_heaps 132 = .ok (.iload_n 3, 1) := by decide +kernel
theorem dX8_heaps_133 : decode cX8_heaps 133 = .ok (.invokevirtual 202, 3) := by decide +kernel
theorem dX8_heaps_136 : decode cX8_heaps 136 = .ok (.invokevirtual 205, 3) := by decide +kernel
theorem dX8_heaps_139 : decode cX8_heaps 139 = .ok (.iinc 3 1, 3) := by decide +kernel
theorem dX8_heaps_142 : decode cX8_heaps 142 = .ok (.goto (-84), 3) := by decide +kernel
theorem dX8_heaps_145 : decode cX8_heaps 145 = .ok (.iinc 2 1, 3) := by decide +kernel
theorem dX8_heaps_148 : decode cX8_heaps 148 = .ok (.goto (-97), 3) := by decide +kernel
theorem dX8_heaps_151 : decode cX8_heaps 151 = .ok (.return_, 1) := by decide +kernel
theorem dX8_slides_0 : decode cX8_slides 0 = .ok (.iconst 0, 1) := by decide +kernel
theorem dX8_slides_1 : decode cX8_slides 1 = .ok (.istore_n 2, 1) := by decide +kernel
theorem dX8_slides_2 : decode cX8_slides 2 = .ok (.iload_n 2, 1) := by decide +kernel
theorem dX8_slides_3 : decode cX8_slides 3 = .ok (.aload_n 0, 1) := by decide +kernel
theorem dX8_slides_4 : decode cX8_slides 4 = .ok (.getfield 167, 3) := by decide +kernel
theorem dX8_slides_7 : decode cX8_slides 7 = .ok (.if_icmp .ge 44, 3) := by decide +kernel
theorem dX8_slides_10 : decode cX8_slides 10 = .ok (.aload_n 0, 1) := by decide +kernel
theorem dX8_slides_11 : decode cX8_slides 11 = .ok (.getfield 64, 3) := by decide +kernel
theorem dX8_slides_14 : decode cX8_slides 14 = .ok (.iload_n 2, 1) := by decide +kernel
theorem dX8_slides_15 : decode cX8_slides 15 = .ok (.baload, 1) := by decide +kernel
theorem dX8_slides_16 : decode cX8_slides 16 = .ok (.ifCond .eq 29, 3) := by decide +kernel
theorem dX8_slides_19 : decode cX8_slides 19 = .ok (.aload_n 0, 1) := by decide +kernel
theorem dX8_slides_20 : decode cX8_slides 20 = .ok (.iload_n 2, 1) := by decide +kernel
theorem dX8_slides_21 : decode cX8_slides 21 = .ok (.invokevirtual 202, 3) := by decide +kernel
theorem dX8_slides_24 : decode cX8_slides 24 = .ok (.iload_n 1, 1) := by decide +kernel
theorem dX8_slides_25 : decode cX8_slides 25 = .ok (.if_icmp .ne 20, 3) := by decide +kernel
theorem dX8_slides_28 : decode cX8_slides 28 = .ok (.aload_n 0, 1) := by decide +kernel
theorem dX8_slides_29 : decode cX8_slides 29 = .ok (.getfield 64, 3) := by decide +kernel
theorem dX8_slides_32 : decode cX8_slides 32 = .ok (.iload_n 2, 1) := by decide +kernel
theorem dX8_slides_33 : decode cX8_slides 33 = .ok (.iconst 0, 1) := by decide +kernel
theorem dX8_slides_34 : decode cX8_slides 34 = .ok (.bastore, 1) := by decide +kernel
theorem dX8_slides_35 : decode cX8_slides 35 = .ok (.aload_n 0, 1) := by decide +kernel
theorem dX8_slides_36 : decode cX8_slides 36 = .ok (.dup, 1) := by decide +kernel
theorem dX8_slides_37 : decode cX8_slides 37 = .ok (.getfield 199, 3) := by decide +kernel
theorem dX8_slides_40 : decode cX8_slides 40 = .ok (.iconst 1, 1) := by decide +kernel
theorem dX8_slides_41 : decode cX8_slides 41 = .ok (.iadd, 1) := by decide +kernel
theorem dX8_slides_42 : decode cX8_slides 42 = .ok (.putfield 199, 3) := by decide +kernel
theorem dX8_slides_45 : decode cX8_slides 45 = .ok (.iinc 2 1, 3) := by decide +kernel
theorem dX8_slides_48 : decode cX8_slides 48 = .ok (.goto (-46), 3) := by decide +kernel
theorem dX8_slides_51 : decode cX8_slides 51 = .ok (.aload_n 0, 1) := by decide +kernel
theorem dX8_slides_52 : decode cX8_slides 52 = .ok (.getfield 61, 3) := by decide +kernel
theorem dX8_slides_55 : decode cX8_slides 55 = .ok (.iload_n 1, 1) := by decide +kernel
theorem dX8_slides_56 : decode cX8_slides 56 = .ok (.iconst 0, 1) := by decide +kernel
theorem dX8_slides_57 : decode cX8_slides 57 = .ok (.iastore, 1) := by decide +kernel
theorem dX8_slides_58 : decode cX8_slides 58 = .ok (.return_, 1) := by decide +kernel
theorem dX8_tipNow_0 : decode cX8_tipNow 0 = .ok (.aload_n 0, 1) := by decide +kernel
theorem dX8_tipNow_1 : decode cX8_tipNow 1 = .ok (.getfield 43, 3) := by decide +kernel
theorem dX8_tipNow_4 : decode cX8_tipNow 4 = .ok (.iload_n 1, 1) := by decide +kernel
theorem dX8_tipNow_5 : decode cX8_tipNow 5 = .ok (.iaload, 1) := by decide +kernel
theorem dX8_tipNow_6 : decode cX8_tipNow 6 = .ok (.istore_n 2, 1) := by decide +kernel
theorem dX8_tipNow_7 : decode cX8_tipNow 7 = .ok (.iconst 1, 1) := by decide +kernel
theorem dX8_tipNow_8 : decode cX8_tipNow 8 = .ok (.istore_n 3, 1) := by decide +kernel
theorem dX8_tipNow_9 : decode cX8_tipNow 9 = .ok (.iload_n 3, 1) := by decide +kernel
theorem dX8_tipNow_10 : decode cX8_tipNow 10 = .ok (.bipush 6, 2) := by decide +kernel
theorem dX8_tipNow_12 : decode cX8_tipNow 12 = .ok (.if_icmp .ge 30, 3) := by decide +kernel
theorem dX8_tipNow_15 : decode cX8_tipNow 15 = .ok (.iload_n 2, 1) := by decide +kernel
theorem dX8_tipNow_16 : decode cX8_tipNow 16 = .ok (.iload_n 3, 1) := by decide +kernel
theorem dX8_tipNow_17 : decode cX8_tipNow 17 = .ok (.aload_n 0, 1) := by decide +kernel
theorem dX8_tipNow_18 : decode cX8_tipNow 18 = .ok (.getfield 61, 3) := by decide +kernel
theorem dX8_tipNow_21 : decode cX8_tipNow 21 = .ok (.iload_n 3, 1) := by decide +kernel
theorem dX8_tipNow_22 : decode cX8_tipNow 22 = .ok (.iaload, 1) := by decide +kernel
theorem dX8_tipNow_23 : decode cX8_tipNow 23 = .ok (.aload_n 0, 1) := by decide +kernel
theorem dX8_tipNow_24 : decode cX8_tipNow 24 = .ok (.getfield 61, 3) := by decide +kernel
theorem dX8_tipNow_27 : decode cX8_tipNow 27 = .ok (.bipush 6, 2) := by decide +kernel
theorem dX8_tipNow_29 : decode cX8_tipNow 29 = .ok (.iload_n 3, 1) := by decide +kernel
theorem dX8_tipNow_30 : decode cX8_tipNow 30 = .ok (.iadd, 1) := by decide +kernel
theorem dX8_tipNow_31 : decode cX8_tipNow 31 = .ok (.iaload, 1) := by decide +kernel
theorem dX8_tipNow_32 : decode cX8_tipNow 32 = .ok (.isub, 1) := by decide +kernel
theorem dX8_tipNow_33 : decode cX8_tipNow 33 = .ok (.imul, 1) := by decide +kernel
theorem dX8_tipNow_34 : decode cX8_tipNow 34 = .ok (.iadd, 1) := by decide +kernel
theorem dX8_tipNow_35 : decode cX8_tipNow 35 = .ok (.istore_n 2, 1) := by decide +kernel
theorem dX8_tipNow_36 : decode cX8_tipNow 36 = .ok (.iinc 3 1, 3) := by decide +kernel
theorem dX8_tipNow_39 : decode cX8_tipNow 39 = .ok (.goto (-30), 3) := by decide +kernel
theorem dX8_tipNow_42 : decode cX8_tipNow 42 = .ok (.iload_n 2, 1) := by decide +kernel
theorem dX8_tipNow_43 : decode cX8_tipNow 43 = .ok (.ireturn, 1) := by decide +kernel
theorem dX8_tipOf_0 : decode cX8_tipOf 0 = .ok (.aload_n 0, 1) := by decide +kernel
theorem dX8_tipOf_1 : decode cX8_tipOf 1 = .ok (.iconst (-1), 1) := by decide +kernel
theorem dX8_tipOf_2 : decode cX8_tipOf 2 = .ok (.invokevirtual 186, 3) := by decide +kernel
theorem dX8_tipOf_5 : decode cX8_tipOf 5 = .ok (.aload_n 0, 1) := by decide +kernel
theorem dX8_tipOf_6 : decode cX8_tipOf 6 = .ok (.iload_n 1, 1) := by decide +kernel
theorem dX8_tipOf_7 : decode cX8_tipOf 7 = .ok (.invokevirtual 208, 3) := by decide +kernel
theorem dX8_tipOf_10 : decode cX8_tipOf 10 = .ok (.aload_n 0, 1) := by decide +kernel
theorem dX8_tipOf_11 : decode cX8_tipOf 11 = .ok (.iload_n 1, 1) := by decide +kernel
theorem dX8_tipOf_12 : decode cX8_tipOf 12 = .ok (.invokevirtual 211, 3) := by decide +kernel
theorem dX8_tipOf_15 : decode cX8_tipOf 15 = .ok (.ireturn, 1) := by decide +kernel
theorem dX8_tip_0 : decode cX8_tip 0 = .ok (.aload_n 0, 1) := by decide +kernel
theorem dX8_tip_1 : decode cX8_tip 1 = .ok (.invokevirtual 147, 3) := by decide +kernel
theorem dX8_tip_4 : decode cX8_tip 4 = .ok (.iload_n 1, 1) := by decide +kernel
theorem dX8_tip_5 : decode cX8_tip 5 = .ok (.invokestatic 154, 3) := by decide +kernel
theorem dX8_tip_8 : decode cX8_tip 8 = .ok (.ifCond .eq 11, 3) := by decide +kernel
theorem dX8_tip_11 : decode cX8_tip 11 = .ok (.aload_n 0, 1) := by decide +kernel
theorem dX8_tip_12 : decode cX8_tip 12 = .ok (.iload_n 1, 1) := by decide +kernel
theorem dX8_tip_13 : decode cX8_tip 13 = .ok (.invokevirtual 214, 3) := by decide +kernel
theorem dX8_tip_16 : decode cX8_tip 16 = .ok (.goto 6, 3) := by decide +kernel
theorem dX8_tip_19 : decode cX8_tip 19 = .ok (.sipush (-10002), 3) := by decide +kernel
theorem dX8_tip_22 : decode cX8_tip 22 = .ok (.ireturn, 1) := by decide +kernel
theorem dX8_end_0 : decode cX8_end 0 = .ok (.aload_n 0, 1) := by decide +kernel
theorem dX8_end_1 : decode cX8_end 1 = .ok (.getfield 40, 3) := by decide +kernel
theorem dX8_end_4 : decode cX8_end 4 = .ok (.iconst 0, 1) := by decide +kernel
theorem dX8_end_5 : decode cX8_end 5 = .ok (.iaload, 1) := by decide +kernel
theorem dX8_end_6 : decode cX8_end 6 = .ok (.ireturn, 1) := by decide +kernel
theorem dX8_shelf_0 : decode cX8_shelf 0 = .ok (.iload_n 1, 1) := by decide +kernel
theorem dX8_shelf_1 : decode cX8_shelf 1 = .ok (.invokestatic 121, 3) := by decide +kernel
theorem dX8_shelf_4 : decode cX8_shelf 4 = .ok (.ifCond .eq 22, 3) := by decide +kernel
theorem dX8_shelf_7 : decode cX8_shelf 7 = .ok (.iload_n 2, 1) := by decide +kernel
theorem dX8_shelf_8 : decode cX8_shelf 8 = .ok (.i2l, 1) := by decide +kernel
theorem dX8_shelf_9 : decode cX8_shelf 9 = .ok (.lconst 1, 1) := by decide +kernel
theorem dX8_shelf_10 : decode cX8_shelf 10 = .ok (.ldc2_w 165, 3) := by decide +kernel
theorem dX8_shelf_13 : decode cX8_shelf 13 = .ok (.invokestatic 92, 3) := by decide +kernel
theorem dX8_shelf_16 : decode cX8_shelf 16 = .ok (.ifCond .eq 10, 3) := by decide +kernel
theorem dX8_shelf_19 : decode cX8_shelf 19 = .ok (.iload_n 3, 1) := by decide +kernel
theorem dX8_shelf_20 : decode cX8_shelf 20 = .ok (.invokestatic 154, 3) := by decide +kernel
theorem dX8_shelf_23 : decode cX8_shelf 23 = .ok (.ifCond .ne 6, 3) := by decide +kernel
theorem dX8_shelf_26 : decode cX8_shelf 26 = .ok (.bipush (-2), 2) := by decide +kernel
theorem dX8_shelf_28 : decode cX8_shelf 28 = .ok (.ireturn, 1) := by decide +kernel
theorem dX8_shelf_29 : decode cX8_shelf 29 = .ok (.aload_n 0, 1) := by decide +kernel
theorem dX8_shelf_30 : decode cX8_shelf 30 = .ok (.invokevirtual 147, 3) := by decide +kernel
theorem dX8_shelf_33 : decode cX8_shelf 33 = .ok (.aload_n 0, 1) := by decide +kernel
theorem dX8_shelf_34 : decode cX8_shelf 34 = .ok (.iconst (-1), 1) := by decide +kernel
theorem dX8_shelf_35 : decode cX8_shelf 35 = .ok (.invokevirtual 186, 3) := by decide +kernel
theorem dX8_shelf_38 : decode cX8_shelf 38 = .ok (.aload_n 0, 1) := by decide +kernel
theorem dX8_shelf_39 : decode cX8_shelf 39 = .ok (.iload_n 3, 1) := by decide +kernel
theorem dX8_shelf_40 : decode cX8_shelf 40 = .ok (.invokevirtual 208, 3) := by decide +kernel
theorem dX8_shelf_43 : decode cX8_shelf 43 = .ok (.aload_n 0, 1) := by decide +kernel
theorem dX8_shelf_44 : decode cX8_shelf 44 = .ok (.getfield 61, 3) := by decide +kernel
theorem dX8_shelf_47 : decode cX8_shelf 47 = .ok (.bipush 6, 2) := by decide +kernel
theorem dX8_shelf_49 : decode cX8_shelf 49 = .ok (.iload_n 1, 1) := by decide +kernel
theorem dX8_shelf_50 : decode cX8_shelf 50 = .ok (.imul, 1) := by decide +kernel
theorem dX8_shelf_51 : decode cX8_shelf 51 = .ok (.iload_n 2, 1) := by decide +kernel
theorem dX8_shelf_52 : decode cX8_shelf 52 = .ok (.iadd, 1) := by decide +kernel
theorem dX8_shelf_53 : decode cX8_shelf 53 = .ok (.iaload, 1) := by decide +kernel
theorem dX8_shelf_54 : decode cX8_shelf 54 = .ok (.ireturn, 1) := by decide +kernel
theorem dX8_slidOf_0 : decode cX8_slidOf 0 = .ok (.aload_n 0, 1) := by decide +kernel
theorem dX8_slidOf_1 : decode cX8_slidOf 1 = .ok (.iconst (-1), 1) := by decide +kernel
theorem dX8_slidOf_2 : decode cX8_slidOf 2 = .ok (.invokevirtual 186, 3) := by decide +kernel
theorem dX8_slidOf_5 : decode cX8_slidOf 5 = .ok (.aload_n 0, 1) := by decide +kernel
theorem dX8_slidOf_6 : decode cX8_slidOf 6 = .ok (.iload_n 1, 1) := by decide +kernel
theorem dX8_slidOf_7 : decode cX8_slidOf 7 = .ok (.invokevirtual 208, 3) := by decide +kernel
theorem dX8_slidOf_10 : decode cX8_slidOf 10 = .ok (.aload_n 0, 1) := by decide +kernel
theorem dX8_slidOf_11 : decode cX8_slidOf 11 = .ok (.getfield 199, 3) := by decide +kernel
theorem dX8_slidOf_14 : decode cX8_slidOf 14 = .ok (.ireturn, 1) := by decide +kernel
theorem dX8_slid_0 : decode cX8_slid 0 = .ok (.aload_n 0, 1) := by decide +kernel
theorem dX8_slid_1 : decode cX8_slid 1 = .ok (.invokevirtual 147, 3) := by decide +kernel
theorem dX8_slid_4 : decode cX8_slid 4 = .ok (.iload_n 1, 1) := by decide +kernel
theorem dX8_slid_5 : decode cX8_slid 5 = .ok (.invokestatic 154, 3) := by decide +kernel
theorem dX8_slid_8 : decode cX8_slid 8 = .ok (.ifCond .eq 11, 3) := by decide +kernel
theorem dX8_slid_11 : decode cX8_slid 11 = .ok (.aload_n 0, 1) := by decide +kernel
theorem dX8_slid_12 : decode cX8_slid 12 = .ok (.iload_n 1, 1) := by decide +kernel
theorem dX8_slid_13 : decode cX8_slid 13 = .ok (.invokevirtual 217, 3) := by decide +kernel
theorem dX8_slid_16 : decode cX8_slid 16 = .ok (.goto 5, 3) := by decide +kernel
theorem dX8_slid_19 : decode cX8_slid 19 = .ok (.bipush (-2), 2) := by decide +kernel
theorem dX8_slid_21 : decode cX8_slid 21 = .ok (.ireturn, 1) := by decide +kernel
theorem dX8_whenNow_0 : decode cX8_whenNow 0 = .ok (.iconst 0, 1) := by decide +kernel
theorem dX8_whenNow_1 : decode cX8_whenNow 1 = .ok (.istore_n 1, 1) := by decide +kernel
theorem dX8_whenNow_2 : decode cX8_whenNow 2 = .ok (.iload_n 1, 1) := by decide +kernel
theorem dX8_whenNow_3 : decode cX8_whenNow 3 = .ok (.aload_n 0, 1) := by decide +kernel
theorem dX8_whenNow_4 : decode cX8_whenNow 4 = .ok (.invokevirtual 220, 3) := by decide +kernel
theorem dX8_whenNow_7 : decode cX8_whenNow 7 = .ok (.if_icmp .gt 19, 3) := by decide +kernel
theorem dX8_whenNow_10 : decode cX8_whenNow 10 = .ok (.aload_n 0, 1) := by decide +kernel
theorem dX8_whenNow_11 : decode cX8_whenNow 11 = .ok (.iload_n 1, 1) := by decide +kernel
theorem dX8_whenNow_12 : decode cX8_whenNow 12 = .ok (.invokevirtual 214, 3) := by decide +kernel
theorem dX8_whenNow_15 : decode cX8_whenNow 15 = .ok (.ifCond .le 5, 3) := by decide +kernel
theorem dX8_whenNow_18 : decode cX8_whenNow 18 = .ok (.iload_n 1, 1) := by decide +kernel
theorem dX8_whenNow_19 : decode cX8_whenNow 19 = .ok (.ireturn, 1) := by decide +kernel
theorem dX8_whenNow_20 : decode cX8_whenNow 20 = .ok (.iinc 1 1, 3) := by decide +kernel
theorem dX8_whenNow_23 : decode cX8_whenNow 23 = .ok (.goto (-21), 3) := by decide +kernel
theorem dX8_whenNow_26 : decode cX8_whenNow 26 = .ok (.iconst (-1), 1) := by decide +kernel
theorem dX8_whenNow_27 : decode cX8_whenNow 27 = .ok (.ireturn, 1) := by decide +kernel
theorem dX8_when_0 : decode cX8_when 0 = .ok (.aload_n 0, 1) := by decide +kernel
theorem dX8_when_1 : decode cX8_when 1 = .ok (.invokevirtual 147, 3) := by decide +kernel
theorem dX8_when_4 : decode cX8_when 4 = .ok (.aload_n 0, 1) := by decide +kernel
theorem dX8_when_5 : decode cX8_when 5 = .ok (.invokevirtual 223, 3) := by decide +kernel
theorem dX8_when_8 : decode cX8_when 8 = .ok (.ireturn, 1) := by decide +kernel
theorem dX8_resultOf_0 : decode cX8_resultOf 0 = .ok (.aload_n 0, 1) := by decide +kernel
theorem dX8_resultOf_1 : decode cX8_resultOf 1 = .ok (.aload_n 0, 1) := by decide +kernel
theorem dX8_resultOf_2 : decode cX8_resultOf 2 = .ok (.invokevirtual 220, 3) := by decide +kernel
theorem dX8_resultOf_5 : decode cX8_resultOf 5 = .ok (.invokevirtual 214, 3) := by decide +kernel
theorem dX8_resultOf_8 : decode cX8_resultOf 8 = .ok (.istore_n 2, 1) := by decide +kernel
theorem dX8_resultOf_9 : decode cX8_resultOf 9 = .ok (.iload_n 1, 1) := by decide +kernel
theorem dX8_resultOf_10 : decode cX8_resultOf 10 = .ok (.ifCond .ne 5, 3) := by decide +kernel
theorem dX8_resultOf_13 : decode cX8_resultOf 13 = .ok (.iload_n 2, 1) := by decide +kernel
theorem dX8_resultOf_14 : decode cX8_resultOf 14 = .ok (.ireturn, 1) := by decide +kernel
theorem dX8_resultOf_15 : decode cX8_resultOf 15 = .ok (.iconst 0, 1) := by decide +kernel
theorem dX8_resultOf_16 : decode cX8_resultOf 16 = .ok (.istore_n 3, 1) := by decide +kernel
theorem dX8_resultOf_17 : decode cX8_resultOf 17 = .ok (.iconst 0, 1) := by decide +kernel
theorem dX8_resultOf_18 : decode cX8_resultOf 18 = .ok (.istore 4, 2) := by decide +kernel
theorem dX8_resultOf_20 : decode cX8_resultOf 20 = .ok (.iconst 0, 1) := by decide +kernel
theorem dX8_resultOf_21 : decode cX8_resultOf 21 = .ok (.istore 5, 2) := by decide +kernel
theorem dX8_resultOf_23 : decode cX8_resultOf 23 = .ok (.iload 5, 2) := by decide +kernel
theorem dX8_resultOf_25 : decode cX8_resultOf 25 = .ok (.aload_n 0, 1) := by decide +kernel
theorem dX8_resultOf_26 : decode cX8_resultOf 26 = .ok (.getfield 167, 3) := by decide +kernel
theorem dX8_resultOf_29 : decode cX8_resultOf 29 = .ok (.if_icmp .ge 88, 3) := by decide +kernel
theorem dX8_resultOf_32 : decode cX8_resultOf 32 = .ok (.aload_n 0, 1) := by decide +kernel
theorem dX8_resultOf_33 : decode cX8_resultOf 33 = .ok (.getfield 64, 3) := by decide +kernel
theorem dX8_resultOf_36 : decode cX8_resultOf 36 = .ok (.iload 5, 2) := by decide +kernel
theorem dX8_resultOf_38 : decode cX8_resultOf 38 = .ok (.baload, 1) := by decide +kernel
theorem dX8_resultOf_39 : decode cX8_resultOf 39 = .ok (.ifCond .eq 72, 3) := by decide +kernel
theorem dX8_resultOf_42 : decode cX8_resultOf 42 = .ok (.aload_n 0, 1) := by decide +kernel
theorem dX8_resultOf_43 : decode cX8_resultOf 43 = .ok (.getfield 49, 3) := by decide +kernel
theorem dX8_resultOf_46 : decode cX8_resultOf 46 = .ok (.iconst 3, 1) := by decide +kernel
theorem dX8_resultOf_47 : decode cX8_resultOf 47 = .ok (.iload 5, 2) := by decide +kernel
theorem dX8_resultOf_49 : decode cX8_resultOf 49 = .ok (.imul, 1) := by decide +kernel
theorem dX8_resultOf_50 : decode cX8_resultOf 50 = .ok (.iaload, 1) := by decide +kernel
theorem dX8_resultOf_51 : decode cX8_resultOf 51 = .ok (.istore 6, 2) := by decide +kernel
theorem dX8_resultOf_53 : decode cX8_resultOf 53 = .ok (.iload_n 3, 1) := by decide +kernel
theorem dX8_resultOf_54 : decode cX8_resultOf 54 = .ok (.aload_n 0, 1) := by decide +kernel
theorem dX8_resultOf_55 : decode cX8_resultOf 55 = .ok (.getfield 31, 3) := by decide +kernel
theorem dX8_resultOf_58 : decode cX8_resultOf 58 = .ok (.iload 6, 2) := by decide +kernel
theorem dX8_resultOf_60 : decode cX8_resultOf 60 = .ok (.iaload, 1) := by decide +kernel
theorem dX8_resultOf_61 : decode cX8_resultOf 61 = .ok (.ifCond .ne 22, 3) := by decide +kernel
theorem dX8_resultOf_64 : decode cX8_resultOf 64 = .ok (.aload_n 0, 1) := by decide +kernel
theorem dX8_resultOf_65 : decode cX8_resultOf 65 = .ok (.getfield 34, 3) := by decide +kernel
theorem dX8_resultOf_68 : decode cX8_resultOf 68 = .ok (.aload_n 0, 1) := by decide +kernel
theorem dX8_resultOf_69 : decode cX8_resultOf 69 = .ok (.getfield 49, 3) := by decide +kernel
theorem dX8_resultOf_72 : decode cX8_resultOf 72 = .ok (.iconst 3, 1) := by decide +kernel
theorem dX8_resultOf_73 : decode cX8_resultOf 73 = .ok (.iload 5, 2) := by decide +kernel
theorem dX8_resultOf_75 : decode cX8_resultOf 75 = .ok (.imul, 1) := by decide +kernel
theorem dX8_resultOf_76 : decode cX8_resultOf 76 = .ok (.iconst 1, 1) := by decide +kernel
theorem dX8_resultOf_77 : decode cX8_resultOf 77 = .ok (.iadd, 1) := by decide +kernel
theorem dX8_resultOf_78 : decode cX8_resultOf 78 = .ok (.iaload, 1) := by decide +kernel
theorem dX8_resultOf_79 : decode cX8_resultOf 79 = .ok (.iaload, 1) := by decide +kernel
theorem dX8_resultOf_80 : decode cX8_resultOf 80 = .ok (.goto 20, 3) := by decide +kernel
theorem dX8_resultOf_83 : decode cX8_resultOf 83 = .ok (.aload_n 0, 1) := by decide +kernel
theorem dX8_resultOf_84 : decode cX8_resultOf 84 = .ok (.getfield 34, 3) := by decide +kernel
theorem dX8_resultOf_87 : decode cX8_resultOf 87 = .ok (.aload_n 0, 1) := by decide +kernel
theorem dX8_resultOf_88 : decode cX8_resultOf 88 = .ok (.getfield 49, 3) := by decide +kernel
theorem dX8_resultOf_91 : decode cX8_resultOf 91 = .ok (.iconst 3, 1) := by decide +kernel
theorem dX8_resultOf_92 : decode cX8_resultOf 92 = .ok (.iload 5, 2) := by decide +kernel
theorem dX8_resultOf_94 : decode cX8_resultOf 94 = .ok (.imul, 1) := by decide +kernel
theorem dX8_resultOf_95 : decode cX8_resultOf 95 = .ok (.iconst 1, 1) := by decide +kernel
theorem dX8_resultOf_96 : decode cX8_resultOf 96 = .ok (.iadd, 1) := by decide +kernel
theorem dX8_resultOf_97 : decode cX8_resultOf 97 = .ok (.iaload, 1) := by decide +kernel
theorem dX8_resultOf_98 : decode cX8_resultOf 98 = .ok (.iaload, 1) := by decide +kernel
theorem dX8_resultOf_99 : decode cX8_resultOf 99 = .ok (.ineg, 1) := by decide +kernel
theorem dX8_resultOf_100 : decode cX8_resultOf 100 = .ok (.iadd, 1) := by decide +kernel
theorem dX8_resultOf_101 : decode cX8_resultOf 101 = .ok (.istore_n 3, 1) := by decide +kernel
theorem dX8_resultOf_102 : decode cX8_resultOf 102 = .ok (.iload 4, 2) := by decide +kernel
theorem dX8_resultOf_104 : decode cX8_resultOf 104 = .ok (.iconst 1, 1) := by decide +kernel
theorem dX8_resultOf_105 : decode cX8_resultOf 105 = .ok (.iload 6, 2) := by decide +kernel
theorem dX8_resultOf_107 : decode cX8_resultOf 107 = .ok (.ishl, 1) := by decide +kernel
theorem dX8_resultOf_108 : decode cX8_resultOf 108 = .ok (.ior, 1) := by decide +kernel
theorem dX8_resultOf_109 : decode cX8_resultOf 109 = .ok (.istore 4, 2) := by decide +kernel
theorem dX8_resultOf_111 : decode cX8_resultOf 111 = .ok (.iinc 5 1, 3) := by decide +kernel
theorem dX8_resultOf_114 : decode cX8_resultOf 114 = .ok (.goto (-91), 3) := by decide +kernel
theorem dX8_resultOf_117 : decode cX8_resultOf 117 = .ok (.iload_n 1, 1) := by decide +kernel
theorem dX8_resultOf_118 : decode cX8_resultOf 118 = .ok (.iconst 1, 1) := by decide +kernel
theorem dX8_resultOf_119 : decode cX8_resultOf 119 = .ok (.if_icmp .ne 5, 3) := by decide +kernel
theorem dX8_resultOf_122 : decode cX8_resultOf 122 = .ok (.iload_n 3, 1) := by decide +kernel
theorem dX8_resultOf_123 : decode cX8_resultOf 123 = .ok (.ireturn, 1) := by decide +kernel
theorem dX8_resultOf_124 : decode cX8_resultOf 124 = .ok (.iconst 0, 1) := by decide +kernel
theorem dX8_resultOf_125 : decode cX8_resultOf 125 = .ok (.istore 5, 2) := by decide +kernel
theorem dX8_resultOf_127 : decode cX8_resultOf 127 = .ok (.iconst 0, 1) := by decide +kernel
theorem dX8_resultOf_128 : decode cX8_resultOf 128 = .ok (.istore 6, 2) := by decide +kernel
theorem dX8_resultOf_130 : decode cX8_resultOf 130 = .ok (.iload 6, 2) := by decide +kernel
theorem dX8_resultOf_132 : decode cX8_resultOf 132 = .ok (.aload_n 0, 1) := by decide +kernel
theorem dX8_resultOf_133 : decode cX8_resultOf 133 = .ok (.getfield 129, 3) := by decide +kernel
theorem dX8_resultOf_136 : decode cX8_resultOf 136 = .ok (.if_icmp .ge 43, 3) := by decide +kernel
theorem dX8_resultOf_139 : decode cX8_resultOf 139 = .ok (.iload 5, 2) := by decide +kernel
theorem dX8_resultOf_141 : decode cX8_resultOf 141 = .ok (.iload 4, 2) := by decide +kernel
theorem dX8_resultOf_143 : decode cX8_resultOf 143 = .ok (.iload 6, 2) := by decide +kernel
theorem dX8_resultOf_145 : decode cX8_resultOf 145 = .ok (.invokestatic 226, 3) := by decide +kernel
theorem dX8_resultOf_148 : decode cX8_resultOf 148 = .ok (.ifCond .ne 7, 3) := by decide +kernel
theorem dX8_resultOf_151 : decode cX8_resultOf 151 = .ok (.iconst 0, 1) := by decide +kernel
theorem dX8_resultOf_152 : decode cX8_resultOf 152 = .ok (.goto 18, 3) := by decide +kernel
theorem dX8_resultOf_155 : decode cX8_resultOf 155 = .ok (.aload_n 0, 1) := by decide +kernel
theorem dX8_resultOf_156 : decode cX8_resultOf 156 = .ok (.getfield 31, 3) := by decide +kernel
theorem dX8_resultOf_159 : decode cX8_resultOf 159 = .ok (.iload 6, 2) := by decide +kernel
theorem dX8_resultOf_161 : decode cX8_resultOf 161 = .ok (.iaload, 1) := by decide +kernel
theorem dX8_resultOf_162 : decode cX8_resultOf 162 = .ok (.ifCond .ne 7, 3) := by decide +kernel
theorem dX8_resultOf_165 : decode cX8_resultOf 165 = .ok (.iconst 1, 1) := by decide +kernel
theorem dX8_resultOf_166 : decode cX8_resultOf 166 = .ok (.goto 4, 3) := by decide +kernel
theorem dX8_resultOf_169 : decode cX8_resultOf 169 = .ok (.iconst (-1), 1) := by decide +kernel
theorem dX8_resultOf_170 : decode cX8_resultOf 170 = .ok (.iadd, 1) := by decide +kernel
theorem dX8_resultOf_171 : decode cX8_resultOf 171 = .ok (.istore 5, 2) := by decide +kernel
theorem dX8_resultOf_173 : decode cX8_resultOf 173 = .ok (.iinc 6 1, 3) := by decide +kernel
theorem dX8_resultOf_176 : decode cX8_resultOf 176 = .ok (.goto (-46), 3) := by decide +kernel
theorem dX8_resultOf_179 : decode cX8_resultOf 179 = .ok (.iload 5, 2) := by decide +kernel
theorem dX8_resultOf_181 : decode cX8_resultOf 181 = .ok (.ireturn, 1) := by decide +kernel
theorem dX8_result_0 : decode cX8_result 0 = .ok (.aload_n 0, 1) := by decide +kernel
theorem dX8_result_1 : decode cX8_result 1 = .ok (.invokevirtual 147, 3) := by decide +kernel
theorem dX8_result_4 : decode cX8_result 4 = .ok (.iload_n 1, 1) := by decide +kernel
theorem dX8_result_5 : decode cX8_result 5 = .ok (.i2l, 1) := by decide +kernel
theorem dX8_result_6 : decode cX8_result 6 = .ok (.lconst 0, 1) := by decide +kernel
theorem dX8_result_7 : decode cX8_result 7 = .ok (.ldc2_w 106, 3) := by decide +kernel
theorem dX8_result_10 : decode cX8_result 10 = .ok (.invokestatic 92, 3) := by decide +kernel
theorem dX8_result_13 : decode cX8_result 13 = .ok (.ifCond .eq 11, 3) := by decide +kernel
theorem dX8_result_16 : decode cX8_result 16 = .ok (.aload_n 0, 1) := by decide +kernel
theorem dX8_result_17 : decode cX8_result 17 = .ok (.iload_n 1, 1) := by decide +kernel
theorem dX8_result_18 : decode cX8_result 18 = .ok (.invokevirtual 229, 3) := by decide +kernel
theorem dX8_result_21 : decode cX8_result 21 = .ok (.goto 6, 3) := by decide +kernel
theorem dX8_result_24 : decode cX8_result 24 = .ok (.sipush (-10002), 3) := by decide +kernel
theorem dX8_result_27 : decode cX8_result 27 = .ok (.ireturn, 1) := by decide +kernel
theorem dX8_withoutOf_0 : decode cX8_withoutOf 0 = .ok (.aload_n 0, 1) := by decide +kernel
theorem dX8_withoutOf_1 : decode cX8_withoutOf 1 = .ok (.iload_n 1, 1) := by decide +kernel
theorem dX8_withoutOf_2 : decode cX8_withoutOf 2 = .ok (.invokevirtual 186, 3) := by decide +kernel
theorem dX8_withoutOf_5 : decode cX8_withoutOf 5 = .ok (.aload_n 0, 1) := by decide +kernel
theorem dX8_withoutOf_6 : decode cX8_withoutOf 6 = .ok (.aload_n 0, 1) := by decide +kernel
theorem dX8_withoutOf_7 : decode cX8_withoutOf 7 = .ok (.invokevirtual 220, 3) := by decide +kernel
theorem dX8_withoutOf_10 : decode cX8_withoutOf 10 = .ok (.invokevirtual 208, 3) := by decide +kernel
theorem dX8_withoutOf_13 : decode cX8_withoutOf 13 = .ok (.aload_n 0, 1) := by decide +kernel
theorem dX8_withoutOf_14 : decode cX8_withoutOf 14 = .ok (.aload_n 0, 1) := by decide +kernel
theorem dX8_withoutOf_15 : decode cX8_withoutOf 15 = .ok (.invokevirtual 220, 3) := by decide +kernel
theorem dX8_withoutOf_18 : decode cX8_withoutOf 18 = .ok (.invokevirtual 211, 3) := by decide +kernel
theorem dX8_withoutOf_21 : decode cX8_withoutOf 21 = .ok (.ireturn, 1) := by decide +kernel
theorem dX8_without_0 : decode cX8_without 0 = .ok (.aload_n 0, 1) := by decide +kernel
theorem dX8_without_1 : decode cX8_without 1 = .ok (.invokevirtual 147, 3) := by decide +kernel
theorem dX8_without_4 : decode cX8_without 4 = .ok (.iload_n 1, 1) := by decide +kernel
theorem dX8_without_5 : decode cX8_without 5 = .ok (.i2l, 1) := by decide +kernel
theorem dX8_without_6 : decode cX8_without 6 = .ok (.lconst 0, 1) := by decide +kernel
theorem dX8_without_7 : decode cX8_without 7 = .ok (.aload_n 0, 1) := by decide +kernel
theorem dX8_without_8 : decode cX8_without 8 = .ok (.getfield 167, 3) := by decide +kernel
theorem dX8_without_11 : decode cX8_without 11 = .ok (.iconst 1, 1) := by decide +kernel
theorem dX8_without_12 : decode cX8_without 12 = .ok (.isub, 1) := by decide +kernel
theorem dX8_without_13 : decode cX8_without 13 = .ok (.i2l, 1) := by decide +kernel
theorem dX8_without_14 : decode cX8_without 14 = .ok (.invokestatic 92, 3) := by decide +kernel
theorem dX8_without_17 : decode cX8_without 17 = .ok (.ifCond .eq 11, 3) := by decide +kernel
theorem dX8_without_20 : decode cX8_without 20 = .ok (.aload_n 0, 1) := by decide +kernel
theorem dX8_without_21 : decode cX8_without 21 = .ok (.iload_n 1, 1) := by decide +kernel
theorem dX8_without_22 : decode cX8_without 22 = .ok (.invokevirtual 232, 3) := by decide +kernel
theorem dX8_without_25 : decode cX8_without 25 = .ok (.goto 6, 3) := by decide +kernel
theorem dX8_without_28 : decode cX8_without 28 = .ok (.sipush (-10002), 3) := by decide +kernel
theorem dX8_without_31 : decode cX8_without 31 = .ok (.ireturn, 1) := by decide +kernel
theorem dX8_sign_0 : decode cX8_sign 0 = .ok (.iload_n 0, 1) := by decide +kernel
theorem dX8_sign_1 : decode cX8_sign 1 = .ok (.ifCond .le 7, 3) := by decide +kernel
theorem dX8_sign_4 : decode cX8_sign 4 = .ok (.iconst 1, 1) := by decide +kernel
theorem dX8_sign_5 : decode cX8_sign 5 = .ok (.goto 12, 3) := by decide +kernel
theorem dX8_sign_8 : decode cX8_sign 8 = .ok (.iload_n 0, 1) := by decide +kernel
theorem dX8_sign_9 : decode cX8_sign 9 = .ok (.ifCond .ge 7, 3) := by decide +kernel
theorem dX8_sign_12 : decode cX8_sign 12 = .ok (.iconst (-1), 1) := by decide +kernel
theorem dX8_sign_13 : decode cX8_sign 13 = .ok (.goto 4, 3) := by decide +kernel
theorem dX8_sign_16 : decode cX8_sign 16 = .ok (.iconst 0, 1) := by decide +kernel
theorem dX8_sign_17 : decode cX8_sign 17 = .ok (.ireturn, 1) := by decide +kernel
theorem dX8_settledNow_0 : decode cX8_settledNow 0 = .ok (.aload_n 0, 1) := by decide +kernel
theorem dX8_settledNow_1 : decode cX8_settledNow 1 = .ok (.aload_n 0, 1) := by decide +kernel
theorem dX8_settledNow_2 : decode cX8_settledNow 2 = .ok (.invokevirtual 220, 3) := by decide +kernel
theorem dX8_settledNow_5 : decode cX8_settledNow 5 = .ok (.invokevirtual 214, 3) := by decide +kernel
theorem dX8_settledNow_8 : decode cX8_settledNow 8 = .ok (.invokestatic 235, 3) := by decide +kernel
theorem dX8_settledNow_11 : decode cX8_settledNow 11 = .ok (.istore_n 1, 1) := by decide +kernel
theorem dX8_settledNow_12 : decode cX8_settledNow 12 = .ok (.iload_n 1, 1) := by decide +kernel
theorem dX8_settledNow_13 : decode cX8_settledNow 13 = .ok (.ifCond .ne 5, 3) := by decide +kernel
theorem dX8_settledNow_16 : decode cX8_settledNow 16 = .ok (.iconst (-1), 1) := by decide +kernel
theorem dX8_settledNow_17 : decode cX8_settledNow 17 = .ok (.ireturn, 1) := by decide +kernel
theorem dX8_settledNow_18 : decode cX8_settledNow 18 = .ok (.aload_n 0, 1) := by decide +kernel
theorem dX8_settledNow_19 : decode cX8_settledNow 19 = .ok (.invokevirtual 220, 3) := by decide +kernel
theorem dX8_settledNow_22 : decode cX8_settledNow 22 = .ok (.istore_n 2, 1) := by decide +kernel
theorem dX8_settledNow_23 : decode cX8_settledNow 23 = .ok (.iload_n 2, 1) := by decide +kernel
theorem dX8_settledNow_24 : decode cX8_settledNow 24 = .ok (.ifCond .le 23, 3) := by decide +kernel
theorem dX8_settledNow_27 : decode cX8_settledNow 27 = .ok (.aload_n 0, 1) := by decide +kernel
theorem dX8_settledNow_28 : decode cX8_settledNow 28 = .ok (.iload_n 2, 1) := by decide +kernel
theorem dX8_settledNow_29 : decode cX8_settledNow 29 = .ok (.iconst 1, 1) := by decide +kernel
theorem dX8_settledNow_30 : decode cX8_settledNow 30 = .ok (.isub, 1) := by decide +kernel
theorem dX8_settledNow_31 : decode cX8_settledNow 31 = .ok (.invokevirtual 214, 3) := by decide +kernel
theorem dX8_settledNow_34 : decode cX8_settledNow 34 = .ok (.invokestatic 235, 3) := by decide +kernel
theorem dX8_settledNow_37 : decode cX8_settledNow 37 = .ok (.iload_n 1, 1) := by decide +kernel
theorem dX8_settledNow_38 : decode cX8_settledNow 38 = .ok (.if_icmp .ne 9, 3) := by decide +kernel
theorem dX8_settledNow_41 : decode cX8_settledNow 41 = .ok (.iinc 2 (-1), 3) := by decide +kernel
theorem dX8_settledNow_44 : decode cX8_settledNow 44 = .ok (.goto (-21), 3) := by decide +kernel
theorem dX8_settledNow_47 : decode cX8_settledNow 47 = .ok (.iload_n 2, 1) := by decide +kernel
theorem dX8_settledNow_48 : decode cX8_settledNow 48 = .ok (.ireturn, 1) := by decide +kernel
theorem dX8_settled_0 : decode cX8_settled 0 = .ok (.aload_n 0, 1) := by decide +kernel
theorem dX8_settled_1 : decode cX8_settled 1 = .ok (.invokevirtual 147, 3) := by decide +kernel
theorem dX8_settled_4 : decode cX8_settled 4 = .ok (.aload_n 0, 1) := by decide +kernel
theorem dX8_settled_5 : decode cX8_settled 5 = .ok (.invokevirtual 238, 3) := by decide +kernel
theorem dX8_settled_8 : decode cX8_settled 8 = .ok (.ireturn, 1) := by decide +kernel
theorem dX8_doubles_0 : decode cX8_doubles 0 = .ok (.iconst 0, 1) := by decide +kernel
theorem dX8_doubles_1 : decode cX8_doubles 1 = .ok (.istore_n 1, 1) := by decide +kernel
theorem dX8_doubles_2 : decode cX8_doubles 2 = .ok (.iconst 0, 1) := by decide +kernel
theorem dX8_doubles_3 : decode cX8_doubles 3 = .ok (.istore_n 2, 1) := by decide +kernel
theorem dX8_doubles_4 : decode cX8_doubles 4 = .ok (.iconst 0, 1) := by decide +kernel
theorem dX8_doubles_5 : decode cX8_doubles 5 = .ok (.istore_n 3, 1) := by decide +kernel
theorem dX8_doubles_6 : decode cX8_doubles 6 = .ok (.iload_n 3, 1) := by decide +kernel
theorem dX8_doubles_7 : decode cX8_doubles 7 = .ok (.aload_n 0, 1) := by decide +kernel
theorem dX8_doubles_8 : decode cX8_doubles 8 = .ok (.getfield 167, 3) := by decide +kernel
theorem dX8_doubles_11 : decode cX8_doubles 11 = .ok (.if_icmp .ge 35, 3) := by decide +kernel
theorem dX8_doubles_14 : decode cX8_doubles 14 = .ok (.iconst 1, 1) := by decide +kernel
theorem dX8_doubles_15 : decode cX8_doubles 15 = .ok (.aload_n 0, 1) := by decide +kernel
theorem dX8_doubles_16 : decode cX8_doubles 16 = .ok (.getfield 49, 3) := by decide +kernel
theorem dX8_doubles_19 : decode cX8_doubles 19 = .ok (.iconst 3, 1) := by decide +kernel
theorem dX8_doubles_20 : decode cX8_doubles 20 = .ok (.iload_n 3, 1) := by decide +kernel
theorem dX8_doubles_21 : decode cX8_doubles 21 = .ok (.imul, 1) := by decide +kernel
theorem dX8_doubles_22 : decode cX8_doubles 22 = .ok (.iconst 1, 1) := by decide +kernel
theorem dX8_doubles_23 : decode cX8_doubles 23 = .ok (.iadd, 1) := by decide +kernel
theorem dX8_doubles_24 : decode cX8_doubles 24 = .ok (.iaload, 1) := by decide +kernel
theorem dX8_doubles_25 : decode cX8_doubles 25 = .ok (.ishl, 1) := by decide +kernel
theorem dX8_doubles_26 : decode cX8_doubles 26 = .ok (.istore 4, 2) := by decide +kernel
theorem dX8_doubles_28 : decode cX8_doubles 28 = .ok (.iload_n 2, 1) := by decide +kernel
theorem dX8_doubles_29 : decode cX8_doubles 29 = .ok (.iload_n 1, 1) := by decide +kernel
theorem dX8_doubles_30 : decode cX8_doubles 30 = .ok (.iload 4, 2) := by decide +kernel
theorem dX8_doubles_32 : decode cX8_doubles 32 = .ok (.iand, 1) := by decide +kernel
theorem dX8_doubles_33 : decode cX8_doubles 33 = .ok (.ior, 1) := by decide +kernel
theorem dX8_doubles_34 : decode cX8_doubles 34 = .ok (.istore_n 2, 1) := by decide +kernel
theorem dX8_doubles_35 : decode cX8_doubles 35 = .ok (.iload_n 1, 1) := by decide +kernel
theorem dX8_doubles_36 : decode cX8_doubles 36 = .ok (.iload 4, 2) := by decide +kernel
theorem dX8_doubles_38 : decode cX8_doubles 38 = .ok (.ior, 1) := by decide +kernel
theorem dX8_doubles_39 : decode cX8_doubles 39 = .ok (.istore_n 1, 1) := by decide +kernel
theorem dX8_doubles_40 : decode cX8_doubles 40 = .ok (.iinc 3 1, 3) := by decide +kernel
theorem dX8_doubles_43 : decode cX8_doubles 43 = .ok (.goto (-37), 3) := by decide +kernel
theorem dX8_doubles_46 : decode cX8_doubles 46 = .ok (.iload_n 2, 1) := by decide +kernel
theorem dX8_doubles_47 : decode cX8_doubles 47 = .ok (.ireturn, 1) := by decide +kernel
theorem dX8_isLifted_0 : decode cX8_isLifted 0 = .ok (.iconst 0, 1) := by decide +kernel
theorem dX8_isLifted_1 : decode cX8_isLifted 1 = .ok (.istore_n 3, 1) := by decide +kernel
theorem dX8_isLifted_2 : decode cX8_isLifted 2 = .ok (.iconst 0, 1) := by decide +kernel
theorem dX8_isLifted_3 : decode cX8_isLifted 3 = .ok (.istore 4, 2) := by decide +kernel
theorem dX8_isLifted_5 : decode cX8_isLifted 5 = .ok (.iload 4, 2) := by decide +kernel
theorem dX8_isLifted_7 : decode cX8_isLifted 7 = .ok (.aload_n 0, 1) := by decide +kernel
theorem dX8_isLifted_8 : decode cX8_isLifted 8 = .ok (.getfield 129, 3) := by decide +kernel
theorem dX8_isLifted_11 : decode cX8_isLifted 11 = .ok (.if_icmp .ge 46, 3) := by decide +kernel
theorem dX8_isLifted_14 : decode cX8_isLifted 14 = .ok (.iload_n 3, 1) := by decide +kernel
theorem dX8_isLifted_15 : decode cX8_isLifted 15 = .ok (.ifCond .ne 30, 3) := by decide +kernel
theorem dX8_isLifted_18 : decode cX8_isLifted 18 = .ok (.aload_n 0, 1) := by decide +kernel
theorem dX8_isLifted_19 : decode cX8_isLifted 19 = .ok (.getfield 31, 3) := by decide +kernel
theorem dX8_isLifted_22 : decode cX8_isLifted 22 = .ok (.iload 4, 2) := by decide +kernel
theorem dX8_isLifted_24 : decode cX8_isLifted 24 = .ok (.iaload, 1) := by decide +kernel
theorem dX8_isLifted_25 : decode cX8_isLifted 25 = .ok (.iload_n 1, 1) := by decide +kernel
theorem dX8_isLifted_26 : decode cX8_isLifted 26 = .ok (.if_icmp .ne 23, 3) := by decide +kernel
theorem dX8_isLifted_29 : decode cX8_isLifted 29 = .ok (.aload_n 0, 1) := by decide +kernel
theorem dX8_isLifted_30 : decode cX8_isLifted 30 = .ok (.getfield 28, 3) := by decide +kernel
theorem dX8_isLifted_33 : decode cX8_isLifted 33 = .ok (.iload 4, 2) := by decide +kernel
theorem dX8_isLifted_35 : decode cX8_isLifted 35 = .ok (.iaload, 1) := by decide +kernel
theorem dX8_isLifted_36 : decode cX8_isLifted 36 = .ok (.aload_n 0, 1) := by decide +kernel
theorem dX8_isLifted_37 : decode cX8_isLifted 37 = .ok (.getfield 34, 3) := by decide +kernel
theorem dX8_isLifted_40 : decode cX8_isLifted 40 = .ok (.iload_n 2, 1) := by decide +kernel
theorem dX8_isLifted_41 : decode cX8_isLifted 41 = .ok (.iaload, 1) := by decide +kernel
theorem dX8_isLifted_42 : decode cX8_isLifted 42 = .ok (.if_icmp .lt 7, 3) := by decide +kernel
theorem dX8_isLifted_45 : decode cX8_isLifted 45 = .ok (.iconst 1, 1) := by decide +kernel
theorem dX8_isLifted_46 : decode cX8_isLifted 46 = .ok (.goto 4, 3) := by decide +kernel
theorem dX8_isLifted_49 : decode cX8_isLifted 49 = .ok (.iconst 0, 1) := by decide +kernel
theorem dX8_isLifted_50 : decode cX8_isLifted 50 = .ok (.istore_n 3, 1) := by decide +kernel
theorem dX8_isLifted_51 : decode cX8_isLifted 51 = .ok (.iinc 4 1, 3) := by decide +kernel
theorem dX8_isLifted_54 : decode cX8_isLifted 54 = .ok (.goto (-49), 3) := by decide +kernel
theorem dX8_isLifted_57 : decode cX8_isLifted 57 = .ok (.iload_n 3, 1) := by decide +kernel
theorem dX8_isLifted_58 : decode cX8_isLifted 58 = .ok (.ireturn, 1) := by decide +kernel
theorem dX8_weightOf_0 : decode cX8_weightOf 0 = .ok (.iconst 0, 1) := by decide +kernel
theorem dX8_weightOf_1 : decode cX8_weightOf 1 = .ok (.istore_n 2, 1) := by decide +kernel
theorem dX8_weightOf_2 : decode cX8_weightOf 2 = .ok (.iconst 0, 1) := by decide +kernel
theorem dX8_weightOf_3 : decode cX8_weightOf 3 = .ok (.istore_n 3, 1) := by decide +kernel
theorem dX8_weightOf_4 : decode cX8_weightOf 4 = .ok (.iload_n 3, 1) := by decide +kernel
theorem dX8_weightOf_5 : decode cX8_weightOf 5 = .ok (.aload_n 0, 1) := by decide +kernel
theorem dX8_weightOf_6 : decode cX8_weightOf 6 = .ok (.getfield 137, 3) := by decide +kernel
theorem dX8_weightOf_9 : decode cX8_weightOf 9 = .ok (.if_icmp .ge 30, 3) := by decide +kernel
theorem dX8_weightOf_12 : decode cX8_weightOf 12 = .ok (.iload_n 2, 1) := by decide +kernel
theorem dX8_weightOf_13 : decode cX8_weightOf 13 = .ok (.iload_n 1, 1) := by decide +kernel
theorem dX8_weightOf_14 : decode cX8_weightOf 14 = .ok (.iload_n 3, 1) := by decide +kernel
theorem dX8_weightOf_15 : decode cX8_weightOf 15 = .ok (.invokestatic 226, 3) := by decide +kernel
theorem dX8_weightOf_18 : decode cX8_weightOf 18 = .ok (.ifCond .eq 12, 3) := by decide +kernel
theorem dX8_weightOf_21 : decode cX8_weightOf 21 = .ok (.aload_n 0, 1) := by decide +kernel
theorem dX8_weightOf_22 : decode cX8_weightOf 22 = .ok (.getfield 34, 3) := by decide +kernel
theorem dX8_weightOf_25 : decode cX8_weightOf 25 = .ok (.iload_n 3, 1) := by decide +kernel
theorem dX8_weightOf_26 : decode cX8_weightOf 26 = .ok (.iaload, 1) := by decide +kernel
theorem dX8_weightOf_27 : decode cX8_weightOf 27 = .ok (.goto 4, 3) := by decide +kernel
theorem dX8_weightOf_30 : decode cX8_weightOf 30 = .ok (.iconst 0, 1) := by decide +kernel
theorem dX8_weightOf_31 : decode cX8_weightOf 31 = .ok (.iadd, 1) := by decide +kernel
theorem dX8_weightOf_32 : decode cX8_weightOf 32 = .ok (.istore_n 2, 1) := by decide +kernel
theorem dX8_weightOf_33 : decode cX8_weightOf 33 = .ok (.iinc 3 1, 3) := by decide +kernel
theorem dX8_weightOf_36 : decode cX8_weightOf 36 = .ok (.goto (-32), 3) := by decide +kernel
theorem dX8_weightOf_39 : decode cX8_weightOf 39 = .ok (.iload_n 2, 1) := by decide +kernel
theorem dX8_weightOf_40 : decode cX8_weightOf 40 = .ok (.ireturn, 1) := by decide +kernel
theorem dX8_freeOf_0 : decode cX8_freeOf 0 = .ok (.iconst 0, 1) := by decide +kernel
theorem dX8_freeOf_1 : decode cX8_freeOf 1 = .ok (.istore_n 2, 1) := by decide +kernel
theorem dX8_freeOf_2 : decode cX8_freeOf 2 = .ok (.iconst 0, 1) := by decide +kernel
theorem dX8_freeOf_3 : decode cX8_freeOf 3 = .ok (.istore_n 3, 1) := by decide +kernel
theorem dX8_freeOf_4 : decode cX8_freeOf 4 = .ok (.iload_n 3, 1) := by decide +kernel
theorem dX8_freeOf_5 : decode cX8_freeOf 5 = .ok (.aload_n 0, 1) := by decide +kernel
theorem dX8_freeOf_6 : decode cX8_freeOf 6 = .ok (.getfield 137, 3) := by decide +kernel
theorem dX8_freeOf_9 : decode cX8_freeOf 9 = .ok (.if_icmp .ge 38, 3) := by decide +kernel
theorem dX8_freeOf_12 : decode cX8_freeOf 12 = .ok (.iload_n 2, 1) := by decide +kernel
theorem dX8_freeOf_13 : decode cX8_freeOf 13 = .ok (.aload_n 0, 1) := by decide +kernel
theorem dX8_freeOf_14 : decode cX8_freeOf 14 = .ok (.getfield 58, 3) := by decide +kernel
theorem dX8_freeOf_17 : decode cX8_freeOf 17 = .ok (.iload_n 3, 1) := by decide +kernel
theorem dX8_freeOf_18 : decode cX8_freeOf 18 = .ok (.iaload, 1) := by decide +kernel
theorem dX8_freeOf_19 : decode cX8_freeOf 19 = .ok (.iconst (-1), 1) := by decide +kernel
theorem dX8_freeOf_20 : decode cX8_freeOf 20 = .ok (.if_icmp .ne 18, 3) := by decide +kernel
theorem dX8_freeOf_23 : decode cX8_freeOf 23 = .ok (.aload_n 0, 1) := by decide +kernel
theorem dX8_freeOf_24 : decode cX8_freeOf 24 = .ok (.iload_n 1, 1) := by decide +kernel
theorem dX8_freeOf_25 : decode cX8_freeOf 25 = .ok (.iload_n 3, 1) := by decide +kernel
theorem dX8_freeOf_26 : decode cX8_freeOf 26 = .ok (.invokevirtual 241, 3) := by decide +kernel
theorem dX8_freeOf_29 : decode cX8_freeOf 29 = .ok (.ifCond .eq 9, 3) := by decide +kernel
theorem dX8_freeOf_32 : decode cX8_freeOf 32 = .ok (.iconst 1, 1) := by decide +kernel
theorem dX8_freeOf_33 : decode cX8_freeOf 33 = .ok (.iload_n 3, 1) := by decide +kernel
theorem dX8_freeOf_34 : decode cX8_freeOf 34 = .ok (.ishl, 1) := by decide +kernel
theorem dX8_freeOf_35 : decode cX8_freeOf 35 = .ok (.goto 4, 3) := by decide +kernel
theorem dX8_freeOf_38 : decode cX8_freeOf 38 = .ok (.iconst 0, 1) := by decide +kernel
theorem dX8_freeOf_39 : decode cX8_freeOf 39 = .ok (.ior, 1) := by decide +kernel
theorem dX8_freeOf_40 : decode cX8_freeOf 40 = .ok (.istore_n 2, 1) := by decide +kernel
theorem dX8_freeOf_41 : decode cX8_freeOf 41 = .ok (.iinc 3 1, 3) := by decide +kernel
theorem dX8_freeOf_44 : decode cX8_freeOf 44 = .ok (.goto (-40), 3) := by decide +kernel
theorem dX8_freeOf_47 : decode cX8_freeOf 47 = .ok (.iload_n 2, 1) := by decide +kernel
theorem dX8_freeOf_48 : decode cX8_freeOf 48 = .ok (.ireturn, 1) := by decide +kernel
theorem dX8_fewestOf_0 : decode cX8_fewestOf 0 = .ok (.aload_n 0, 1) := by decide +kernel
theorem dX8_fewestOf_1 : decode cX8_fewestOf 1 = .ok (.aload_n 0, 1) := by decide +kernel
theorem dX8_fewestOf_2 : decode cX8_fewestOf 2 = .ok (.invokevirtual 220, 3) := by decide +kernel
theorem dX8_fewestOf_5 : decode cX8_fewestOf 5 = .ok (.invokevirtual 214, 3) := by decide +kernel
theorem dX8_fewestOf_8 : decode cX8_fewestOf 8 = .ok (.istore_n 2, 1) := by decide +kernel
theorem dX8_fewestOf_9 : decode cX8_fewestOf 9 = .ok (.aload_n 0, 1) := by decide +kernel
theorem dX8_fewestOf_10 : decode cX8_fewestOf 10 = .ok (.iconst 0, 1) := by decide +kernel
theorem dX8_fewestOf_11 : decode cX8_fewestOf 11 = .ok (.invokevirtual 244, 3) := by decide +kernel
theorem dX8_fewestOf_14 : decode cX8_fewestOf 14 = .ok (.istore_n 3, 1) := by decide +kernel
theorem dX8_fewestOf_15 : decode cX8_fewestOf 15 = .ok (.iconst (-1), 1) := by decide +kernel
theorem dX8_fewestOf_16 : decode cX8_fewestOf 16 = .ok (.istore 4, 2) := by decide +kernel
theorem dX8_fewestOf_18 : decode cX8_fewestOf 18 = .ok (.iconst 0, 1) := by decide +kernel
theorem dX8_fewestOf_19 : decode cX8_fewestOf 19 = .ok (.istore 5, 2) := by decide +kernel
theorem dX8_fewestOf_21 : decode cX8_fewestOf 21 = .ok (.iload 5, 2) := by decide +kernel
theorem dX8_fewestOf_23 : decode cX8_fewestOf 23 = .ok (.iconst 1, 1) := by decide +kernel
theorem dX8_fewestOf_24 : decode cX8_fewestOf 24 = .ok (.aload_n 0, 1) := by decide +kernel
theorem dX8_fewestOf_25 : decode cX8_fewestOf 25 = .ok (.getfield 137, 3) := by decide +kernel
theorem dX8_fewestOf_28 : decode cX8_fewestOf 28 = .ok (.ishl, 1) := by decide +kernel
theorem dX8_fewestOf_29 : decode cX8_fewestOf 29 = .ok (.if_icmp .ge 111, 3) := by decide +kernel
theorem dX8_fewestOf_32 : decode cX8_fewestOf 32 = .ok (.iload 5, 2) := by decide +kernel
theorem dX8_fewestOf_34 : decode cX8_fewestOf 34 = .ok (.iload_n 3, 1) := by decide +kernel
theorem dX8_fewestOf_35 : decode cX8_fewestOf 35 = .ok (.iconst (-1), 1) := by decide +kernel
theorem dX8_fewestOf_36 : decode cX8_fewestOf 36 = .ok (.ixor, 1) := by decide +kernel
theorem dX8_fewestOf_37 : decode cX8_fewestOf 37 = .ok (.iand, 1) := by decide +kernel
theorem dX8_fewestOf_38 : decode cX8_fewestOf 38 = .ok (.ifCond .ne 20, 3) := by decide +kernel
theorem dX8_fewestOf_41 : decode cX8_fewestOf 41 = .ok (.iload_n 2, 1) := by decide +kernel
theorem dX8_fewestOf_42 : decode cX8_fewestOf 42 = .ok (.iconst 5, 1) := by decide +kernel
theorem dX8_fewestOf_43 : decode cX8_fewestOf 43 = .ok (.aload_n 0, 1) := by decide +kernel
theorem dX8_fewestOf_44 : decode cX8_fewestOf 44 = .ok (.iload 5, 2) := by decide +kernel
theorem dX8_fewestOf_46 : decode cX8_fewestOf 46 = .ok (.invokevirtual 247, 3) := by decide +kernel
theorem dX8_fewestOf_49 : decode cX8_fewestOf 49 = .ok (.imul, 1) := by decide +kernel
theorem dX8_fewestOf_50 : decode cX8_fewestOf 50 = .ok (.iadd, 1) := by decide +kernel
theorem dX8_fewestOf_51 : decode cX8_fewestOf 51 = .ok (.ifCond .le 7, 3) := by decide +kernel
theorem dX8_fewestOf_54 : decode cX8_fewestOf 54 = .ok (.iconst 1, 1) := by decide +kernel
theorem dX8_fewestOf_55 : decode cX8_fewestOf 55 = .ok (.goto 4, 3) := by decide +kernel
theorem dX8_fewestOf_58 : decode cX8_fewestOf 58 = .ok (.iconst 0, 1) := by decide +kernel
theorem dX8_fewestOf_59 : decode cX8_fewestOf 59 = .ok (.istore 6, 2) := by decide +kernel
theorem dX8_fewestOf_61 : decode cX8_fewestOf 61 = .ok (.iload 4, 2) := by decide +kernel
theorem dX8_fewestOf_63 : decode cX8_fewestOf 63 = .ok (.iconst (-1), 1) := by decide +kernel
theorem dX8_fewestOf_64 : decode cX8_fewestOf 64 = .ok (.if_icmp .eq 44, 3) := by decide +kernel
theorem dX8_fewestOf_67 : decode cX8_fewestOf 67 = .ok (.iload 5, 2) := by decide +kernel
theorem dX8_fewestOf_69 : decode cX8_fewestOf 69 = .ok (.invokestatic 250, 3) := by decide +kernel
theorem dX8_fewestOf_72 : decode cX8_fewestOf 72 = .ok (.iload 4, 2) := by decide +kernel
theorem dX8_fewestOf_74 : decode cX8_fewestOf 74 = .ok (.invokestatic 250, 3) := by decide +kernel
theorem dX8_fewestOf_77 : decode cX8_fewestOf 77 = .ok (.if_icmp .lt 31, 3) := by decide +kernel
theorem dX8_fewestOf_80 : decode cX8_fewestOf 80 = .ok (.iload 5, 2) := by decide +kernel
theorem dX8_fewestOf_82 : decode cX8_fewestOf 82 = .ok (.invokestatic 250, 3) := by decide +kernel
theorem dX8_fewestOf_85 : decode cX8_fewestOf 85 = .ok (.iload 4, 2) := by decide +kernel
theorem dX8_fewestOf_87 : decode cX8_fewestOf 87 = .ok (.invokestatic 250, 3) := by decide +kernel
theorem dX8_fewestOf_90 : decode cX8_fewestOf 90 = .ok (.if_icmp .ne 22, 3) := by decide +kernel
theorem dX8_fewestOf_93 : decode cX8_fewestOf 93 = .ok (.aload_n 0, 1) := by decide +kernel
theorem dX8_fewestOf_94 : decode cX8_fewestOf 94 = .ok (.iload 5, 2) := by decide +kernel
theorem dX8_fewestOf_96 : decode cX8_fewestOf 96 = .ok (.invokevirtual 247, 3) := by decide +kernel
theorem dX8_fewestOf_99 : decode cX8_fewestOf 99 = .ok (.aload_n 0, 1) := by decide +kernel
theorem dX8_fewestOf_100 : decode cX8_fewestOf 100 = .ok (.iload 4, 2) := by decide +kernel
theorem dX8_fewestOf_102 : decode cX8_fewestOf 102 = .ok (.invokevirtual 247, 3) := by decide +kernel
theorem dX8_fewestOf_105 : decode cX8_fewestOf 105 = .ok (.if_icmp .ge 7, 3) := by decide +kernel
theorem dX8_fewestOf_108 : decode cX8_fewestOf 108 = .ok (.iconst 1, 1) := by decide +kernel
theorem dX8_fewestOf_109 : decode cX8_fewestOf 109 = .ok (.goto 4, 3) := by decide +kernel
theorem dX8_fewestOf_112 : decode cX8_fewestOf 112 = .ok (.iconst 0, 1) := by decide +kernel
theorem dX8_fewestOf_113 : decode cX8_fewestOf 113 = .ok (.istore 7, 2) := by decide +kernel
theorem dX8_fewestOf_115 : decode cX8_fewestOf 115 = .ok (.iload 6, 2) := by decide +kernel
theorem dX8_fewestOf_117 : decode cX8_fewestOf 117 = .ok (.ifCond .eq 13, 3) := by decide +kernel
theorem dX8_fewestOf_120 : decode cX8_fewestOf 120 = .ok (.iload 7, 2) := by decide +kernel
theorem dX8_fewestOf_122 : decode cX8_fewestOf 122 = .ok (.ifCond .eq 8, 3) := by decide +kernel
theorem dX8_fewestOf_125 : decode cX8_fewestOf 125 = .ok (.iload 5, 2) := by decide +kernel
theorem dX8_fewestOf_127 : decode cX8_fewestOf 127 = .ok (.goto 5, 3) := by decide +kernel
theorem dX8_fewestOf_130 : decode cX8_fewestOf 130 = .ok (.iload 4, 2) := by decide +kernel
theorem dX8_fewestOf_132 : decode cX8_fewestOf 132 = .ok (.istore 4, 2) := by decide +kernel
theorem dX8_fewestOf_134 : decode cX8_fewestOf 134 = .ok (.iinc 5 1, 3) := by decide +kernel
theorem dX8_fewestOf_137 : decode cX8_fewestOf 137 = .ok (.goto (-116), 3) := by decide +kernel
theorem dX8_fewestOf_140 : decode cX8_fewestOf 140 = .ok (.iload 4, 2) := by decide +kernel
theorem dX8_fewestOf_142 : decode cX8_fewestOf 142 = .ok (.iconst (-1), 1) := by decide +kernel
theorem dX8_fewestOf_143 : decode cX8_fewestOf 143 = .ok (.if_icmp .eq 8, 3) := by decide +kernel
theorem dX8_fewestOf_146 : decode cX8_fewestOf 146 = .ok (.iload_n 1, 1) := by decide +kernel
theorem dX8_fewestOf_147 : decode cX8_fewestOf 147 = .ok (.iconst 1, 1) := by decide +kernel
theorem dX8_fewestOf_148 : decode cX8_fewestOf 148 = .ok (.if_icmp .ne 8, 3) := by decide +kernel
theorem dX8_fewestOf_151 : decode cX8_fewestOf 151 = .ok (.iload 4, 2) := by decide +kernel
theorem dX8_fewestOf_153 : decode cX8_fewestOf 153 = .ok (.goto 8, 3) := by decide +kernel
theorem dX8_fewestOf_156 : decode cX8_fewestOf 156 = .ok (.iload 4, 2) := by decide +kernel
theorem dX8_fewestOf_158 : decode cX8_fewestOf 158 = .ok (.invokestatic 250, 3) := by decide +kernel
theorem dX8_fewestOf_161 : decode cX8_fewestOf 161 = .ok (.ireturn, 1) := by decide +kernel
theorem dX8_fewest_0 : decode cX8_fewest 0 = .ok (.aload_n 0, 1) := by decide +kernel
theorem dX8_fewest_1 : decode cX8_fewest 1 = .ok (.invokevirtual 147, 3) := by decide +kernel
theorem dX8_fewest_4 : decode cX8_fewest 4 = .ok (.iload_n 1, 1) := by decide +kernel
theorem dX8_fewest_5 : decode cX8_fewest 5 = .ok (.invokestatic 121, 3) := by decide +kernel
theorem dX8_fewest_8 : decode cX8_fewest 8 = .ok (.ifCond .eq 11, 3) := by decide +kernel
theorem dX8_fewest_11 : decode cX8_fewest 11 = .ok (.aload_n 0, 1) := by decide +kernel
theorem dX8_fewest_12 : decode cX8_fewest 12 = .ok (.iload_n 1, 1) := by decide +kernel
theorem dX8_fewest_13 : decode cX8_fewest 13 = .ok (.invokevirtual 253, 3) := by decide +kernel
theorem dX8_fewest_16 : decode cX8_fewest 16 = .ok (.goto 5, 3) := by decide +kernel
theorem dX8_fewest_19 : decode cX8_fewest 19 = .ok (.bipush (-2), 2) := by decide +kernel
theorem dX8_fewest_21 : decode cX8_fewest 21 = .ok (.ireturn, 1) := by decide +kernel
theorem dX8_carriesAll_0 : decode cX8_carriesAll 0 = .ok (.iconst 0, 1) := by decide +kernel
theorem dX8_carriesAll_1 : decode cX8_carriesAll 1 = .ok (.istore_n 3, 1) := by decide +kernel
theorem dX8_carriesAll_2 : decode cX8_carriesAll 2 = .ok (.iconst 1, 1) := by decide +kernel
theorem dX8_carriesAll_3 : decode cX8_carriesAll 3 = .ok (.istore 4, 2) := by decide +kernel
theorem dX8_carriesAll_5 : decode cX8_carriesAll 5 = .ok (.iconst 0, 1) := by decide +kernel
theorem dX8_carriesAll_6 : decode cX8_carriesAll 6 = .ok (.istore 5, 2) := by decide +kernel
theorem dX8_carriesAll_8 : decode cX8_carriesAll 8 = .ok (.iload 5, 2) := by decide +kernel
theorem dX8_carriesAll_10 : decode cX8_carriesAll 10 = .ok (.aload_n 0, 1) := by decide +kernel
theorem dX8_carriesAll_11 : decode cX8_carriesAll 11 = .ok (.getfield 137, 3) := by decide +kernel
theorem dX8_carriesAll_14 : decode cX8_carriesAll 14 = .ok (.if_icmp .ge 71, 3) := by decide +kernel
theorem dX8_carriesAll_17 : decode cX8_carriesAll 17 = .ok (.iload_n 3, 1) := by decide +kernel
theorem dX8_carriesAll_18 : decode cX8_carriesAll 18 = .ok (.iload_n 2, 1) := by decide +kernel
theorem dX8_carriesAll_19 : decode cX8_carriesAll 19 = .ok (.iload 5, 2) := by decide +kernel
theorem dX8_carriesAll_21 : decode cX8_carriesAll 21 = .ok (.invokestatic 226, 3) := by decide +kernel
theorem dX8_carriesAll_24 : decode cX8_carriesAll 24 = .ok (.ifCond .eq 15, 3) := by decide +kernel
theorem dX8_carriesAll_27 : decode cX8_carriesAll 27 = .ok (.aload_n 0, 1) := by decide +kernel
theorem dX8_carriesAll_28 : decode cX8_carriesAll 28 = .ok (.getfield 37, 3) := by decide +kernel
theorem dX8_carriesAll_31 : decode cX8_carriesAll 31 = .ok (.iload 5, 2) := by decide +kernel
theorem dX8_carriesAll_33 : decode cX8_carriesAll 33 = .ok (.iaload, 1) := by decide +kernel
theorem dX8_carriesAll_34 : decode cX8_carriesAll 34 = .ok (.iconst 1, 1) := by decide +kernel
theorem dX8_carriesAll_35 : decode cX8_carriesAll 35 = .ok (.iadd, 1) := by decide +kernel
theorem dX8_carriesAll_36 : decode cX8_carriesAll 36 = .ok (.goto 4, 3) := by decide +kernel
theorem dX8_carriesAll_39 : decode cX8_carriesAll 39 = .ok (.iconst 0, 1) := by decide +kernel
theorem dX8_carriesAll_40 : decode cX8_carriesAll 40 = .ok (.iadd, 1) := by decide +kernel
theorem dX8_carriesAll_41 : decode cX8_carriesAll 41 = .ok (.istore_n 3, 1) := by decide +kernel
theorem dX8_carriesAll_42 : decode cX8_carriesAll 42 = .ok (.iload 4, 2) := by decide +kernel
theorem dX8_carriesAll_44 : decode cX8_carriesAll 44 = .ok (.ifCond .eq 32, 3) := by decide +kernel
theorem dX8_carriesAll_47 : decode cX8_carriesAll 47 = .ok (.iload_n 2, 1) := by decide +kernel
theorem dX8_carriesAll_48 : decode cX8_carriesAll 48 = .ok (.iload 5, 2) := by decide +kernel
theorem dX8_carriesAll_50 : decode cX8_carriesAll 50 = .ok (.invokestatic 226, 3) := by decide +kernel
theorem dX8_carriesAll_53 : decode cX8_carriesAll 53 = .ok (.ifCond .eq 19, 3) := by decide +kernel
theorem dX8_carriesAll_56 : decode cX8_carriesAll 56 = .ok (.aload_n 0, 1) := by decide +kernel
theorem dX8_carriesAll_57 : decode cX8_carriesAll 57 = .ok (.getfield 34, 3) := by decide +kernel
theorem dX8_carriesAll_60 : decode cX8_carriesAll 60 = .ok (.iload 5, 2) := by decide +kernel
theorem dX8_carriesAll_62 : decode cX8_carriesAll 62 = .ok (.iaload, 1) := by decide +kernel
theorem dX8_carriesAll_63 : decode cX8_carriesAll 63 = .ok (.aload_n 0, 1) := by decide +kernel
theorem dX8_carriesAll_64 : decode cX8_carriesAll 64 = .ok (.getfield 28, 3) := by decide +kernel
theorem dX8_carriesAll_67 : decode cX8_carriesAll 67 = .ok (.iload_n 1, 1) := by decide +kernel
theorem dX8_carriesAll_68 : decode cX8_carriesAll 68 = .ok (.iaload, 1) := by decide +kernel
theorem dX8_carriesAll_69 : decode cX8_carriesAll 69 = .ok (.if_icmp .gt 7, 3) := by decide +kernel
theorem dX8_carriesAll_72 : decode cX8_carriesAll 72 = .ok (.iconst 1, 1) := by decide +kernel
theorem dX8_carriesAll_73 : decode cX8_carriesAll 73 = .ok (.goto 4, 3) := by decide +kernel
theorem dX8_carriesAll_76 : decode cX8_carriesAll 76 = .ok (.iconst 0, 1) := by decide +kernel
theorem dX8_carriesAll_77 : decode cX8_carriesAll 77 = .ok (.istore 4, 2) := by decide +kernel
theorem dX8_carriesAll_79 : decode cX8_carriesAll 79 = .ok (.iinc 5 1, 3) := by decide +kernel
theorem dX8_carriesAll_82 : decode cX8_carriesAll 82 = .ok (.goto (-74), 3) := by decide +kernel
theorem dX8_carriesAll_85 : decode cX8_carriesAll 85 = .ok (.iload 4, 2) := by decide +kernel
theorem dX8_carriesAll_87 : decode cX8_carriesAll 87 = .ok (.ifCond .eq 17, 3) := by decide +kernel
theorem dX8_carriesAll_90 : decode cX8_carriesAll 90 = .ok (.iload_n 3, 1) := by decide +kernel
theorem dX8_carriesAll_91 : decode cX8_carriesAll 91 = .ok (.aload_n 0, 1) := by decide +kernel
theorem dX8_carriesAll_92 : decode cX8_carriesAll 92 = .ok (.getfield 40, 3) := by decide +kernel
theorem dX8_carriesAll_95 : decode cX8_carriesAll 95 = .ok (.iconst 0, 1) := by decide +kernel
theorem dX8_carriesAll_96 : decode cX8_carriesAll 96 = .ok (.iaload, 1) := by decide +kernel
theorem dX8_carriesAll_97 : decode cX8_carriesAll 97 = .ok (.if_icmp .gt 7, 3) := by decide +kernel
theorem dX8_carriesAll_100 : decode cX8_carriesAll 100 = .ok (.iconst 1, 1) := by decide +kernel
theorem dX8_carriesAll_101 : decode cX8_carriesAll 101 = .ok (.goto 4, 3) := by decide +kernel
theorem dX8_carriesAll_104 : decode cX8_carriesAll 104 = .ok (.iconst 0, 1) := by decide +kernel
theorem dX8_carriesAll_105 : decode cX8_carriesAll 105 = .ok (.ireturn, 1) := by decide +kernel
theorem dX8_mostOf_0 : decode cX8_mostOf 0 = .ok (.iconst 0, 1) := by decide +kernel
theorem dX8_mostOf_1 : decode cX8_mostOf 1 = .ok (.istore_n 3, 1) := by decide +kernel
theorem dX8_mostOf_2 : decode cX8_mostOf 2 = .ok (.iload_n 3, 1) := by decide +kernel
theorem dX8_mostOf_3 : decode cX8_mostOf 3 = .ok (.sipush 512, 3) := by decide +kernel
theorem dX8_mostOf_6 : decode cX8_mostOf 6 = .ok (.if_icmp .ge 24, 3) := by decide +kernel
theorem dX8_mostOf_9 : decode cX8_mostOf 9 = .ok (.aload_n 0, 1) := by decide +kernel
theorem dX8_mostOf_10 : decode cX8_mostOf 10 = .ok (.getfield 68, 3) := by decide +kernel
theorem dX8_mostOf_13 : decode cX8_mostOf 13 = .ok (.iload_n 3, 1) := by decide +kernel
theorem dX8_mostOf_14 : decode cX8_mostOf 14 = .ok (.iload_n 3, 1) := by decide +kernel
theorem dX8_mostOf_15 : decode cX8_mostOf 15 = .ok (.ifCond .ne 7, 3) := by decide +kernel
theorem dX8_mostOf_18 : decode cX8_mostOf 18 = .ok (.iconst 1, 1) := by decide +kernel
theorem dX8_mostOf_19 : decode cX8_mostOf 19 = .ok (.goto 4, 3) := by decide +kernel
theorem dX8_mostOf_22 : decode cX8_mostOf 22 = .ok (.iconst 0, 1) := by decide +kernel
theorem dX8_mostOf_23 : decode cX8_mostOf 23 = .ok (.bastore, 1) := by decide +kernel
theorem dX8_mostOf_24 : decode cX8_mostOf 24 = .ok (.iinc 3 1, 3) := by decide +kernel
theorem dX8_mostOf_27 : decode cX8_mostOf 27 = .ok (.goto (-25), 3) := by decide +kernel
theorem dX8_mostOf_30 : decode cX8_mostOf 30 = .ok (.iconst 0, 1) := by decide +kernel
theorem dX8_mostOf_31 : decode cX8_mostOf 31 = .ok (.istore_n 3, 1) := by decide +kernel
theorem dX8_mostOf_32 : decode cX8_mostOf 32 = .ok (.iload_n 3, 1) := by decide +kernel
theorem dX8_mostOf_33 : decode cX8_mostOf 33 = .ok (.aload_n 0, 1) := by decide +kernel
theorem dX8_mostOf_34 : decode cX8_mostOf 34 = .ok (.getfield 129, 3) := by decide +kernel
theorem dX8_mostOf_37 : decode cX8_mostOf 37 = .ok (.if_icmp .ge 163, 3) := by decide +kernel
theorem dX8_mostOf_40 : decode cX8_mostOf 40 = .ok (.aload_n 0, 1) := by decide +kernel
theorem dX8_mostOf_41 : decode cX8_mostOf 41 = .ok (.getfield 31, 3) := by decide +kernel
theorem dX8_mostOf_44 : decode cX8_mostOf 44 = .ok (.iload_n 3, 1) := by decide +kernel
theorem dX8_mostOf_45 : decode cX8_mostOf 45 = .ok (.iaload, 1) := by decide +kernel
theorem dX8_mostOf_46 : decode cX8_mostOf 46 = .ok (.iload_n 1, 1) := by decide +kernel
theorem dX8_mostOf_47 : decode cX8_mostOf 47 = .ok (.if_icmp .ne 147, 3) := by decide +kernel
theorem dX8_mostOf_50 : decode cX8_mostOf 50 = .ok (.iload_n 3, 1) := by decide +kernel
theorem dX8_mostOf_51 : decode cX8_mostOf 51 = .ok (.iload_n 2, 1) := by decide +kernel
theorem dX8_mostOf_52 : decode cX8_mostOf 52 = .ok (.if_icmp .eq 142, 3) := by decide +kernel
theorem dX8_mostOf_55 : decode cX8_mostOf 55 = .ok (.iconst 0, 1) := by decide +kernel
theorem dX8_mostOf_56 : decode cX8_mostOf 56 = .ok (.istore 4, 2) := by decide +kernel
theorem dX8_mostOf_58 : decode cX8_mostOf 58 = .ok (.iload 4, 2) := by decide +kernel
theorem dX8_mostOf_60 : decode cX8_mostOf 60 = .ok (.sipush 512, 3) := by decide +kernel
theorem dX8_mostOf_63 : decode cX8_mostOf 63 = .ok (.if_icmp .ge 23, 3) := by decide +kernel
theorem dX8_mostOf_66 : decode cX8_mostOf 66 = .ok (.aload_n 0, 1) := by decide +kernel
theorem dX8_mostOf_67 : decode cX8_mostOf 67 = .ok (.getfield 71, 3) := by decide +kernel
theorem dX8_mostOf_70 : decode cX8_mostOf 70 = .ok (.iload 4, 2) := by decide +kernel
theorem dX8_mostOf_72 : decode cX8_mostOf 72 = .ok (.aload_n 0, 1) := by decide +kernel
theorem dX8_mostOf_73 : decode cX8_mostOf 73 = .ok (.getfield 68, 3) := by decide +kernel
theorem dX8_mostOf_76 : decode cX8_mostOf 76 = .ok (.iload 4, 2) := by decide +kernel
theorem dX8_mostOf_78 : decode cX8_mostOf 78 = .ok (.baload, 1) := by decide +kernel
theorem dX8_mostOf_79 : decode cX8_mostOf 79 = .ok (.bastore, 1) := by decide +kernel
theorem dX8_mostOf_80 : decode cX8_mostOf 80 = .ok (.iinc 4 1, 3) := by decide +kernel
theorem dX8_mostOf_83 : decode cX8_mostOf 83 = .ok (.goto (-25), 3) := by decide +kernel
theorem dX8_mostOf_86 : decode cX8_mostOf 86 = .ok (.iconst 1, 1) := by decide +kernel
theorem dX8_mostOf_87 : decode cX8_mostOf 87 = .ok (.istore 4, 2) := by decide +kernel
theorem dX8_mostOf_89 : decode cX8_mostOf 89 = .ok (.iload 4, 2) := by decide +kernel
theorem dX8_mostOf_91 : decode cX8_mostOf 91 = .ok (.iconst 1, 1) := by decide +kernel
theorem dX8_mostOf_92 : decode cX8_mostOf 92 = .ok (.aload_n 0, 1) := by decide +kernel
theorem dX8_mostOf_93 : decode cX8_mostOf 93 = .ok (.getfield 137, 3) := by decide +kernel
theorem dX8_mostOf_96 : decode cX8_mostOf 96 = .ok (.ishl, 1) := by decide +kernel
theorem dX8_mostOf_97 : decode cX8_mostOf 97 = .ok (.if_icmp .ge 97, 3) := by decide +kernel
theorem dX8_mostOf_100 : decode cX8_mostOf 100 = .ok (.aload_n 0, 1) := by decide +kernel
theorem dX8_mostOf_101 : decode cX8_mostOf 101 = .ok (.iload_n 3, 1) := by decide +kernel
theorem dX8_mostOf_102 : decode cX8_mostOf 102 = .ok (.iload 4, 2) := by decide +kernel
theorem dX8_mostOf_104 : decode cX8_mostOf 104 = .ok (.invokevirtual 256, 3) := by decide +kernel
theorem dX8_mostOf_107 : decode cX8_mostOf 107 = .ok (.ifCond .eq 81, 3) := by decide +kernel
theorem dX8_mostOf_110 : decode cX8_mostOf 110 = .ok (.iconst 0, 1) := by decide +kernel
theorem dX8_mostOf_111 : decode cX8_mostOf 111 = .ok (.istore 5, 2) := by decide +kernel
theorem dX8_mostOf_113 : decode cX8_mostOf 113 = .ok (.iload 5, 2) := by decide +kernel
theorem dX8_mostOf_115 : decode cX8_mostOf 115 = .ok (.iconst 1, 1) := by decide +kernel
theorem dX8_mostOf_116 : decode cX8_mostOf 116 = .ok (.aload_n 0, 1) := by decide +kernel
theorem dX8_mostOf_117 : decode cX8_mostOf 117 = .ok (.getfield 137, 3) := by decide +kernel
theorem dX8_mostOf_120 : decode cX8_mostOf 120 = .ok (.ishl, 1) := by decide +kernel
theorem dX8_mostOf_121 : decode cX8_mostOf 121 = .ok (.if_icmp .ge 67, 3) := by decide +kernel
theorem dX8_mostOf_124 : decode cX8_mostOf 124 = .ok (.aload_n 0, 1) := by decide +kernel
theorem dX8_mostOf_125 : decode cX8_mostOf 125 = .ok (.getfield 71, 3) := by decide +kernel
theorem dX8_mostOf_128 : decode cX8_mostOf 128 = .ok (.iload 5, 2) := by decide +kernel
theorem dX8_mostOf_130 : decode cX8_mostOf 130 = .ok (.baload, 1) := by decide +kernel
theorem dX8_mostOf_131 : decode cX8_mostOf 131 = .ok (.ifCond .eq 15, 3) := by decide +kernel
theorem dX8_mostOf_134 : decode cX8_mostOf 134 = .ok (.iload 5, 2) := by decide +kernel
theorem dX8_mostOf_136 : decode cX8_mostOf 136 = .ok (.iload 4, 2) := by decide +kernel
theorem dX8_mostOf_138 : decode cX8_mostOf 138 = .ok (.iand, 1) := by decide +kernel
theorem dX8_mostOf_139 : decode cX8_mostOf 139 = .ok (.ifCond .ne 7, 3) := by decide +kernel
theorem dX8_mostOf_142 : decode cX8_mostOf 142 = .ok (.iconst 1, 1) := by decide +kernel
theorem dX8_mostOf_143 : decode cX8_mostOf 143 = .ok (.goto 4, 3) := by decide +kernel
theorem dX8_mostOf_146 : decode cX8_mostOf 146 = .ok (.iconst 0, 1) := by decide +kernel
theorem dX8_mostOf_147 : decode cX8_mostOf 147 = .ok (.istore 6, 2) := by decide +kernel
theorem dX8_mostOf_149 : decode cX8_mostOf 149 = .ok (.aload_n 0, 1) := by decide +kernel
theorem dX8_mostOf_150 : decode cX8_mostOf 150 = .ok (.getfield 68, 3) := by decide +kernel
theorem dX8_mostOf_153 : decode cX8_mostOf 153 = .ok (.iload 5, 2) := by decide +kernel
theorem dX8_mostOf_155 : decode cX8_mostOf 155 = .ok (.iload 4, 2) := by decide +kernel
theorem dX8_mostOf_157 : decode cX8_mostOf 157 = .ok (.ior, 1) := by decide +kernel
theorem dX8_mostOf_158 : decode cX8_mostOf 158 = .ok (.aload_n 0, 1) := by decide +kernel
theorem dX8_mostOf_159 : decode cX8_mostOf 159 = .ok (.getfield 68, 3) := by decide +kernel
theorem dX8_mostOf_162 : decode cX8_mostOf 162 = .ok (.iload 5, 2) := by decide +kernel
theorem dX8_mostOf_164 : decode cX8_mostOf 164 = .ok (.iload 4, 2) := by decide +kernel
theorem dX8_mostOf_166 : decode cX8_mostOf 166 = .ok (.ior, 1) := by decide +kernel
theorem dX8_mostOf_167 : decode cX8_mostOf 167 = .ok (.baload, 1) := by decide +kernel
theorem dX8_mostOf_168 : decode cX8_mostOf 168 = .ok (.ifCond .ne 8, 3) := by decide +kernel
theorem dX8_mostOf_171 : decode cX8_mostOf 171 = .ok (.iload 6, 2) := by decide +kernel
theorem dX8_mostOf_173 : decode cX8_mostOf 173 = .ok (.ifCond .eq 7, 3) := by decide +kernel
theorem dX8_mostOf_176 : decode cX8_mostOf 176 = .ok (.iconst 1, 1) := by decide +kernel
theorem dX8_mostOf_177 : decode cX8_mostOf 177 = .ok (.goto 4, 3) := by decide +kernel
theorem dX8_mostOf_180 : decode cX8_mostOf 180 = .ok (.iconst 0, 1) := by decide +kernel
theorem dX8_mostOf_181 : decode cX8_mostOf 181 = .ok (.bastore, 1) := by decide +kernel
theorem dX8_mostOf_182 : decode cX8_mostOf 182 = .ok (.iinc 5 1, 3) := by decide +kernel
theorem dX8_mostOf_185 : decode cX8_mostOf 185 = .ok (.goto (-72), 3) := by decide +kernel
theorem dX8_mostOf_188 : decode cX8_mostOf 188 = .ok (.iinc 4 1, 3) := by decide +kernel
theorem dX8_mostOf_191 : decode cX8_mostOf 191 = .ok (.goto (-102), 3) := by decide +kernel
theorem dX8_mostOf_194 : decode cX8_mostOf 194 = .ok (.iinc 3 1, 3) := by decide +kernel
theorem dX8_mostOf_197 : decode cX8_mostOf 197 = .ok (.goto (-165), 3) := by decide +kernel
theorem dX8_mostOf_200 : decode cX8_mostOf 200 = .ok (.iconst 0, 1) := by decide +kernel
theorem dX8_mostOf_201 : decode cX8_mostOf 201 = .ok (.istore_n 3, 1) := by decide +kernel
theorem dX8_mostOf_202 : decode cX8_mostOf 202 = .ok (.iconst 0, 1) := by decide +kernel
theorem dX8_mostOf_203 : decode cX8_mostOf 203 = .ok (.istore 4, 2) := by decide +kernel
theorem dX8_mostOf_205 : decode cX8_mostOf 205 = .ok (.iload 4, 2) := by decide +kernel
theorem dX8_mostOf_207 : decode cX8_mostOf 207 = .ok (.iconst 1, 1) := by decide +kernel
theorem dX8_mostOf_208 : decode cX8_mostOf 208 = .ok (.aload_n 0, 1) := by decide +kernel
theorem dX8_mostOf_209 : decode cX8_mostOf 209 = .ok (.getfield 137, 3) := by decide +kernel
theorem dX8_mostOf_212 : decode cX8_mostOf 212 = .ok (.ishl, 1) := by decide +kernel
theorem dX8_mostOf_213 : decode cX8_mostOf 213 = .ok (.if_icmp .ge 40, 3) := by decide +kernel
theorem dX8_mostOf_216 : decode cX8_mostOf 216 = .ok (.aload_n 0, 1) := by decide +kernel
theorem dX8_mostOf_217 : decode cX8_mostOf 217 = .ok (.getfield 68, 3) := by decide +kernel
theorem dX8_mostOf_220 : decode cX8_mostOf 220 = .ok (.iload 4, 2) := by decide +kernel
theorem dX8_mostOf_222 : decode cX8_mostOf 222 = .ok (.baload, 1) := by decide +kernel
theorem dX8_mostOf_223 : decode cX8_mostOf 223 = .ok (.ifCond .eq 22, 3) := by decide +kernel
theorem dX8_mostOf_226 : decode cX8_mostOf 226 = .ok (.aload_n 0, 1) := by decide +kernel
theorem dX8_mostOf_227 : decode cX8_mostOf 227 = .ok (.iload 4, 2) := by decide +kernel
theorem dX8_mostOf_229 : decode cX8_mostOf 229 = .ok (.invokevirtual 247, 3) := by decide +kernel
theorem dX8_mostOf_232 : decode cX8_mostOf 232 = .ok (.iload_n 3, 1) := by decide +kernel
theorem dX8_mostOf_233 : decode cX8_mostOf 233 = .ok (.if_icmp .le 12, 3) := by decide +kernel
theorem dX8_mostOf_236 : decode cX8_mostOf 236 = .ok (.aload_n 0, 1) := by decide +kernel
theorem dX8_mostOf_237 : decode cX8_mostOf 237 = .ok (.iload 4, 2) := by decide +kernel
theorem dX8_mostOf_239 : decode cX8_mostOf 239 = .ok (.invokevirtual 247, 3) := by decide +kernel
theorem dX8_mostOf_242 : decode cX8_mostOf 242 = .ok (.goto 4, 3) := by decide +kernel
theorem dX8_mostOf_245 : decode cX8_mostOf 245 = .ok (.iload_n 3, 1) := by decide +kernel
theorem dX8_mostOf_246 : decode cX8_mostOf 246 = .ok (.istore_n 3, 1) := by decide +kernel
theorem dX8_mostOf_247 : decode cX8_mostOf 247 = .ok (.iinc 4 1, 3) := by decide +kernel
theorem dX8_mostOf_250 : decode cX8_mostOf 250 = .ok (.goto (-45), 3) := by decide +kernel
theorem dX8_mostOf_253 : decode cX8_mostOf 253 = .ok (.iload_n 3, 1) := by decide +kernel
theorem dX8_mostOf_254 : decode cX8_mostOf 254 = .ok (.ireturn, 1) := by decide +kernel
theorem dX8_most_0 : decode cX8_most 0 = .ok (.aload_n 0, 1) := by decide +kernel
theorem dX8_most_1 : decode cX8_most 1 = .ok (.invokevirtual 147, 3) := by decide +kernel
theorem dX8_most_4 : decode cX8_most 4 = .ok (.iload_n 1, 1) := by decide +kernel
theorem dX8_most_5 : decode cX8_most 5 = .ok (.invokestatic 121, 3) := by decide +kernel
theorem dX8_most_8 : decode cX8_most 8 = .ok (.ifCond .eq 12, 3) := by decide +kernel
theorem dX8_most_11 : decode cX8_most 11 = .ok (.aload_n 0, 1) := by decide +kernel
theorem dX8_most_12 : decode cX8_most 12 = .ok (.iload_n 1, 1) := by decide +kernel
theorem dX8_most_13 : decode cX8_most 13 = .ok (.iconst (-1), 1) := by decide +kernel
theorem dX8_most_14 : decode cX8_most 14 = .ok (.invokevirtual 259, 3) := by decide +kernel
theorem dX8_most_17 : decode cX8_most 17 = .ok (.goto 5, 3) := by decide +kernel
theorem dX8_most_20 : decode cX8_most 20 = .ok (.bipush (-2), 2) := by decide +kernel
theorem dX8_most_22 : decode cX8_most 22 = .ok (.ireturn, 1) := by decide +kernel
theorem dX8_holdOf_0 : decode cX8_holdOf 0 = .ok (.iconst (-1), 1) := by decide +kernel
theorem dX8_holdOf_1 : decode cX8_holdOf 1 = .ok (.istore_n 2, 1) := by decide +kernel
theorem dX8_holdOf_2 : decode cX8_holdOf 2 = .ok (.iconst 0, 1) := by decide +kernel
theorem dX8_holdOf_3 : decode cX8_holdOf 3 = .ok (.istore_n 3, 1) := by decide +kernel
theorem dX8_holdOf_4 : decode cX8_holdOf 4 = .ok (.iconst 0, 1) := by decide +kernel
theorem dX8_holdOf_5 : decode cX8_holdOf 5 = .ok (.istore 4, 2) := by decide +kernel
theorem dX8_holdOf_7 : decode cX8_holdOf 7 = .ok (.iload 4, 2) := by decide +kernel
theorem dX8_holdOf_9 : decode cX8_holdOf 9 = .ok (.aload_n 0, 1) := by decide +kernel
theorem dX8_holdOf_10 : decode cX8_holdOf 10 = .ok (.getfield 129, 3) := by decide +kernel
theorem dX8_holdOf_13 : decode cX8_holdOf 13 = .ok (.if_icmp .ge 46, 3) := by decide +kernel
theorem dX8_holdOf_16 : decode cX8_holdOf 16 = .ok (.aload_n 0, 1) := by decide +kernel
theorem dX8_holdOf_17 : decode cX8_holdOf 17 = .ok (.getfield 31, 3) := by decide +kernel
theorem dX8_holdOf_20 : decode cX8_holdOf 20 = .ok (.iload 4, 2) := by decide +kernel
theorem dX8_holdOf_22 : decode cX8_holdOf 22 = .ok (.iaload, 1) := by decide +kernel
theorem dX8_holdOf_23 : decode cX8_holdOf 23 = .ok (.iload_n 1, 1) := by decide +kernel
theorem dX8_holdOf_24 : decode cX8_holdOf 24 = .ok (.if_icmp .ne 29, 3) := by decide +kernel
theorem dX8_holdOf_27 : decode cX8_holdOf 27 = .ok (.aload_n 0, 1) := by decide +kernel
theorem dX8_holdOf_28 : decode cX8_holdOf 28 = .ok (.iload_n 1, 1) := by decide +kernel
theorem dX8_holdOf_29 : decode cX8_holdOf 29 = .ok (.iload 4, 2) := by decide +kernel
theorem dX8_holdOf_31 : decode cX8_holdOf 31 = .ok (.invokevirtual 259, 3) := by decide +kernel
theorem dX8_holdOf_34 : decode cX8_holdOf 34 = .ok (.istore 5, 2) := by decide +kernel
theorem dX8_holdOf_36 : decode cX8_holdOf 36 = .ok (.iload_n 2, 1) := by decide +kernel
theorem dX8_holdOf_37 : decode cX8_holdOf 37 = .ok (.iconst (-1), 1) := by decide +kernel
theorem dX8_holdOf_38 : decode cX8_holdOf 38 = .ok (.if_icmp .eq 9, 3) := by decide +kernel
theorem dX8_holdOf_41 : decode cX8_holdOf 41 = .ok (.iload 5, 2) := by decide +kernel
theorem dX8_holdOf_43 : decode cX8_holdOf 43 = .ok (.iload_n 3, 1) := by decide +kernel
theorem dX8_holdOf_44 : decode cX8_holdOf 44 = .ok (.if_icmp .ge 9, 3) := by decide +kernel
theorem dX8_holdOf_47 : decode cX8_holdOf 47 = .ok (.iload 4, 2) := by decide +kernel
theorem dX8_holdOf_49 : decode cX8_holdOf 49 = .ok (.istore_n 2, 1) := by decide +kernel
theorem dX8_holdOf_50 : decode cX8_holdOf 50 = .ok (.iload 5, 2) := by decide +kernel
theorem dX8_holdOf_52 : decode cX8_holdOf 52 = .ok (.istore_n 3, 1) := by decide +kernel
theorem dX8_holdOf_53 : decode cX8_holdOf 53 = .ok (.iinc 4 1, 3) := by decide +kernel
theorem dX8_holdOf_56 : decode cX8_holdOf 56 = .ok (.goto (-49), 3) := by decide +kernel
theorem dX8_holdOf_59 : decode cX8_holdOf 59 = .ok (.iload_n 2, 1) := by decide +kernel
theorem dX8_holdOf_60 : decode cX8_holdOf 60 = .ok (.ireturn, 1) := by decide +kernel
theorem dX8_hold_0 : decode cX8_hold 0 = .ok (.aload_n 0, 1) := by decide +kernel
theorem dX8_hold_1 : decode cX8_hold 1 = .ok (.invokevirtual 147, 3) := by decide +kernel
theorem dX8_hold_4 : decode cX8_hold 4 = .ok (.iload_n 1, 1) := by decide +kernel
theorem dX8_hold_5 : decode cX8_hold 5 = .ok (.invokestatic 121, 3) := by decide +kernel
theorem dX8_hold_8 : decode cX8_hold 8 = .ok (.ifCond .eq 11, 3) := by decide +kernel
theorem dX8_hold_11 : decode cX8_hold 11 = .ok (.aload_n 0, 1) := by decide +kernel
theorem dX8_hold_12 : decode cX8_hold 12 = .ok (.iload_n 1, 1) := by decide +kernel
theorem dX8_hold_13 : decode cX8_hold 13 = .ok (.invokevirtual 262, 3) := by decide +kernel
theorem dX8_hold_16 : decode cX8_hold 16 = .ok (.goto 5, 3) := by decide +kernel
theorem dX8_hold_19 : decode cX8_hold 19 = .ok (.bipush (-2), 2) := by decide +kernel
theorem dX8_hold_21 : decode cX8_hold 21 = .ok (.ireturn, 1) := by decide +kernel
theorem dX8_enters_0 : decode cX8_enters 0 = .ok (.aload_n 0, 1) := by decide +kernel
theorem dX8_enters_1 : decode cX8_enters 1 = .ok (.getfield 74, 3) := by decide +kernel
theorem dX8_enters_4 : decode cX8_enters 4 = .ok (.iload_n 1, 1) := by decide +kernel
theorem dX8_enters_5 : decode cX8_enters 5 = .ok (.iload_n 2, 1) := by decide +kernel
theorem dX8_enters_6 : decode cX8_enters 6 = .ok (.iastore, 1) := by decide +kernel
theorem dX8_enters_7 : decode cX8_enters 7 = .ok (.aload_n 0, 1) := by decide +kernel
theorem dX8_enters_8 : decode cX8_enters 8 = .ok (.getfield 77, 3) := by decide +kernel
theorem dX8_enters_11 : decode cX8_enters 11 = .ok (.iload_n 1, 1) := by decide +kernel
theorem dX8_enters_12 : decode cX8_enters 12 = .ok (.iload_n 3, 1) := by decide +kernel
theorem dX8_enters_13 : decode cX8_enters 13 = .ok (.iastore, 1) := by decide +kernel
theorem dX8_enters_14 : decode cX8_enters 14 = .ok (.aload_n 0, 1) := by decide +kernel
theorem dX8_enters_15 : decode cX8_enters 15 = .ok (.getfield 80, 3) := by decide +kernel
theorem dX8_enters_18 : decode cX8_enters 18 = .ok (.iload_n 1, 1) := by decide +kernel
theorem dX8_enters_19 : decode cX8_enters 19 = .ok (.bipush (-2), 2) := by decide +kernel
theorem dX8_enters_21 : decode cX8_enters 21 = .ok (.iastore, 1) := by decide +kernel
theorem dX8_enters_22 : decode cX8_enters 22 = .ok (.aload_n 0, 1) := by decide +kernel
theorem dX8_enters_23 : decode cX8_enters 23 = .ok (.getfield 86, 3) := by decide +kernel
theorem dX8_enters_26 : decode cX8_enters 26 = .ok (.iload_n 1, 1) := by decide +kernel
theorem dX8_enters_27 : decode cX8_enters 27 = .ok (.iconst 0, 1) := by decide +kernel
theorem dX8_enters_28 : decode cX8_enters 28 = .ok (.bastore, 1) := by decide +kernel
theorem dX8_enters_29 : decode cX8_enters 29 = .ok (.return_, 1) := by decide +kernel
theorem dX8_gameOf_0 : decode cX8_gameOf 0 = .ok (.iconst 0, 1) := by decide +kernel
theorem dX8_gameOf_1 : decode cX8_gameOf 1 = .ok (.istore_n 3, 1) := by decide +kernel
theorem dX8_gameOf_2 : decode cX8_gameOf 2 = .ok (.iconst (-1), 1) := by decide +kernel
theorem dX8_gameOf_3 : decode cX8_gameOf 3 = .ok (.istore 4, 2) := by decide +kernel
theorem dX8_gameOf_5 : decode cX8_gameOf 5 = .ok (.iconst 0, 1) := by decide +kernel
theorem dX8_gameOf_6 : decode cX8_gameOf 6 = .ok (.istore 5, 2) := by decide +kernel
theorem dX8_gameOf_8 : decode cX8_gameOf 8 = .ok (.aload_n 0, 1) := by decide +kernel
theorem dX8_gameOf_9 : decode cX8_gameOf 9 = .ok (.iconst 0, 1) := by decide +kernel
theorem dX8_gameOf_10 : decode cX8_gameOf 10 = .ok (.iconst 0, 1) := by decide +kernel
theorem dX8_gameOf_11 : decode cX8_gameOf 11 = .ok (.aload_n 0, 1) := by decide +kernel
theorem dX8_gameOf_12 : decode cX8_gameOf 12 = .ok (.aload_n 0, 1) := by decide +kernel
theorem dX8_gameOf_13 : decode cX8_gameOf 13 = .ok (.invokevirtual 220, 3) := by decide +kernel
theorem dX8_gameOf_16 : decode cX8_gameOf 16 = .ok (.invokevirtual 214, 3) := by decide +kernel
theorem dX8_gameOf_19 : decode cX8_gameOf 19 = .ok (.invokevirtual 265, 3) := by decide +kernel
theorem dX8_gameOf_22 : decode cX8_gameOf 22 = .ok (.aload_n 0, 1) := by decide +kernel
theorem dX8_gameOf_23 : decode cX8_gameOf 23 = .ok (.getfield 89, 3) := by decide +kernel
theorem dX8_gameOf_26 : decode cX8_gameOf 26 = .ok (.iconst 0, 1) := by decide +kernel
theorem dX8_gameOf_27 : decode cX8_gameOf 27 = .ok (.aload_n 0, 1) := by decide +kernel
theorem dX8_gameOf_28 : decode cX8_gameOf 28 = .ok (.iconst 0, 1) := by decide +kernel
theorem dX8_gameOf_29 : decode cX8_gameOf 29 = .ok (.invokevirtual 244, 3) := by decide +kernel
theorem dX8_gameOf_32 : decode cX8_gameOf 32 = .ok (.iastore, 1) := by decide +kernel
theorem dX8_gameOf_33 : decode cX8_gameOf 33 = .ok (.aload_n 0, 1) := by decide +kernel
theorem dX8_gameOf_34 : decode cX8_gameOf 34 = .ok (.getfield 89, 3) := by decide +kernel
theorem dX8_gameOf_37 : decode cX8_gameOf 37 = .ok (.iconst 1, 1) := by decide +kernel
theorem dX8_gameOf_38 : decode cX8_gameOf 38 = .ok (.aload_n 0, 1) := by decide +kernel
theorem dX8_gameOf_39 : decode cX8_gameOf 39 = .ok (.iconst 1, 1) := by decide +kernel
theorem dX8_gameOf_40 : decode cX8_gameOf 40 = .ok (.invokevirtual 244, 3) := by decide +kernel
theorem dX8_gameOf_43 : decode cX8_gameOf 43 = .ok (.iastore, 1) := by decide +kernel
theorem dX8_gameOf_44 : decode cX8_gameOf 44 = .ok (.iload_n 3, 1) := by decide +kernel
theorem dX8_gameOf_45 : decode cX8_gameOf 45 = .ok (.ifCond .lt 353, 3) := by decide +kernel
theorem dX8_gameOf_48 : decode cX8_gameOf 48 = .ok (.iload_n 3, 1) := by decide +kernel
theorem dX8_gameOf_49 : decode cX8_gameOf 49 = .ok (.iconst 2, 1) := by decide +kernel
theorem dX8_gameOf_50 : decode cX8_gameOf 50 = .ok (.irem, 1) := by decide +kernel
theorem dX8_gameOf_51 : decode cX8_gameOf 51 = .ok (.istore 6, 2) := by decide +kernel
theorem dX8_gameOf_53 : decode cX8_gameOf 53 = .ok (.aload_n 0, 1) := by decide +kernel
theorem dX8_gameOf_54 : decode cX8_gameOf 54 = .ok (.getfield 80, 3) := by decide +kernel
theorem dX8_gameOf_57 : decode cX8_gameOf 57 = .ok (.iload_n 3, 1) := by decide +kernel
theorem dX8_gameOf_58 : decode cX8_gameOf 58 = .ok (.dup2, 1) := by decide +kernel
theorem dX8_gameOf_59 : decode cX8_gameOf 59 = .ok (.iaload, 1) := by decide +kernel
theorem dX8_gameOf_60 : decode cX8_gameOf 60 = .ok (.iconst 1, 1) := by decide +kernel
theorem dX8_gameOf_61 : decode cX8_gameOf 61 = .ok (.iadd, 1) := by decide +kernel
theorem dX8_gameOf_62 : decode cX8_gameOf 62 = .ok (.iastore, 1) := by decide +kernel
theorem dX8_gameOf_63 : decode cX8_gameOf 63 = .ok (.aload_n 0, 1) := by decide +kernel
theorem dX8_gameOf_64 : decode cX8_gameOf 64 = .ok (.getfield 89, 3) := by decide +kernel
theorem dX8_gameOf_67 : decode cX8_gameOf 67 = .ok (.iload 6, 2) := by decide +kernel
theorem dX8_gameOf_69 : decode cX8_gameOf 69 = .ok (.iaload, 1) := by decide +kernel
theorem dX8_gameOf_70 : decode cX8_gameOf 70 = .ok (.aload_n 0, 1) := by decide +kernel
theorem dX8_gameOf_71 : decode cX8_gameOf 71 = .ok (.getfield 74, 3) := by decide +kernel
theorem dX8_gameOf_74 : decode cX8_gameOf 74 = .ok (.iload_n 3, 1) := by decide +kernel
theorem dX8_gameOf_75 : decode cX8_gameOf 75 = .ok (.iaload, 1) := by decide +kernel
theorem dX8_gameOf_76 : decode cX8_gameOf 76 = .ok (.iconst (-1), 1) := by decide +kernel
theorem dX8_gameOf_77 : decode cX8_gameOf 77 = .ok (.ixor, 1) := by decide +kernel
theorem dX8_gameOf_78 : decode cX8_gameOf 78 = .ok (.iand, 1) := by decide +kernel
theorem dX8_gameOf_79 : decode cX8_gameOf 79 = .ok (.istore 7, 2) := by decide +kernel
theorem dX8_gameOf_81 : decode cX8_gameOf 81 = .ok (.aload_n 0, 1) := by decide +kernel
theorem dX8_gameOf_82 : decode cX8_gameOf 82 = .ok (.getfield 80, 3) := by decide +kernel
theorem dX8_gameOf_85 : decode cX8_gameOf 85 = .ok (.iload_n 3, 1) := by decide +kernel
theorem dX8_gameOf_86 : decode cX8_gameOf 86 = .ok (.dup2, 1) := by decide +kernel
theorem dX8_gameOf_87 : decode cX8_gameOf 87 = .ok (.iaload, 1) := by decide +kernel
theorem dX8_gameOf_88 : decode cX8_gameOf 88 = .ok (.aload_n 0, 1) := by decide +kernel
theorem dX8_gameOf_89 : decode cX8_gameOf 89 = .ok (.getfield 80, 3) := by decide +kernel
theorem dX8_gameOf_92 : decode cX8_gameOf 92 = .ok (.iload_n 3, 1) := by decide +kernel
theorem dX8_gameOf_93 : decode cX8_gameOf 93 = .ok (.iaload, 1) := by decide +kernel
theorem dX8_gameOf_94 : decode cX8_gameOf 94 = .ok (.iconst (-1), 1) := by decide +kernel
theorem dX8_gameOf_95 : decode cX8_gameOf 95 = .ok (.if_icmp .ne 12, 3) := by decide +kernel
theorem dX8_gameOf_98 : decode cX8_gameOf 98 = .ok (.iload 7, 2) := by decide +kernel
theorem dX8_gameOf_100 : decode cX8_gameOf 100 = .ok (.ifCond .eq 7, 3) := by decide +kernel
theorem dX8_gameOf_103 : decode cX8_gameOf 103 = .ok (.iconst 1, 1) := by decide +kernel
theorem dX8_gameOf_104 : decode cX8_gameOf 104 = .ok (.goto 4, 3) := by decide +kernel
theorem dX8_gameOf_107 : decode cX8_gameOf 107 = .ok (.iconst 0, 1) := by decide +kernel
theorem dX8_gameOf_108 : decode cX8_gameOf 108 = .ok (.iadd, 1) := by decide +kernel
theorem dX8_gameOf_109 : decode cX8_gameOf 109 = .ok (.iastore, 1) := by decide +kernel
theorem dX8_gameOf_110 : decode cX8_gameOf 110 = .ok (.aload_n 0, 1) := by decide +kernel
theorem dX8_gameOf_111 : decode cX8_gameOf 111 = .ok (.getfield 80, 3) := by decide +kernel
theorem dX8_gameOf_114 : decode cX8_gameOf 114 = .ok (.iload_n 3, 1) := by decide +kernel
theorem dX8_gameOf_115 : decode cX8_gameOf 115 = .ok (.iaload, 1) := by decide +kernel
theorem dX8_gameOf_116 : decode cX8_gameOf 116 = .ok (.ifCond .lt 41, 3) := by decide +kernel
theorem dX8_gameOf_119 : decode cX8_gameOf 119 = .ok (.aload_n 0, 1) := by decide +kernel
theorem dX8_gameOf_120 : decode cX8_gameOf 120 = .ok (.getfield 80, 3) := by decide +kernel
theorem dX8_gameOf_123 : decode cX8_gameOf 123 = .ok (.iload_n 3, 1) := by decide +kernel
theorem dX8_gameOf_124 : decode cX8_gameOf 124 = .ok (.iaload, 1) := by decide +kernel
theorem dX8_gameOf_125 : decode cX8_gameOf 125 = .ok (.bipush 9, 2) := by decide +kernel
theorem dX8_gameOf_127 : decode cX8_gameOf 127 = .ok (.if_icmp .ge 30, 3) := by decide +kernel
theorem dX8_gameOf_130 : decode cX8_gameOf 130 = .ok (.iload 7, 2) := by decide +kernel
theorem dX8_gameOf_132 : decode cX8_gameOf 132 = .ok (.aload_n 0, 1) := by decide +kernel
theorem dX8_gameOf_133 : decode cX8_gameOf 133 = .ok (.getfield 80, 3) := by decide +kernel
theorem dX8_gameOf_136 : decode cX8_gameOf 136 = .ok (.iload_n 3, 1) := by decide +kernel
theorem dX8_gameOf_137 : decode cX8_gameOf 137 = .ok (.iaload, 1) := by decide +kernel
theorem dX8_gameOf_138 : decode cX8_gameOf 138 = .ok (.invokestatic 226, 3) := by decide +kernel
theorem dX8_gameOf_141 : decode cX8_gameOf 141 = .ok (.ifCond .ne 16, 3) := by decide +kernel
theorem dX8_gameOf_144 : decode cX8_gameOf 144 = .ok (.aload_n 0, 1) := by decide +kernel
theorem dX8_gameOf_145 : decode cX8_gameOf 145 = .ok (.getfield 80, 3) := by decide +kernel
theorem dX8_gameOf_148 : decode cX8_gameOf 148 = .ok (.iload_n 3, 1) := by decide +kernel
theorem dX8_gameOf_149 : decode cX8_gameOf 149 = .ok (.dup2, 1) := by decide +kernel
theorem dX8_gameOf_150 : decode cX8_gameOf 150 = .ok (.iaload, 1) := by decide +kernel
theorem dX8_gameOf_151 : decode cX8_gameOf 151 = .ok (.iconst 1, 1) := by decide +kernel
theorem dX8_gameOf_152 : decode cX8_gameOf 152 = .ok (.iadd, 1) := by decide +kernel
theorem dX8_gameOf_153 : decode cX8_gameOf 153 = .ok (.iastore, 1) := by decide +kernel
theorem dX8_gameOf_154 : decode cX8_gameOf 154 = .ok (.goto (-44), 3) := by decide +kernel
theorem dX8_gameOf_157 : decode cX8_gameOf 157 = .ok (.iload_n 3, 1) := by decide +kernel
theorem dX8_gameOf_158 : decode cX8_gameOf 158 = .ok (.iload_n 1, 1) := by decide +kernel
theorem dX8_gameOf_159 : decode cX8_gameOf 159 = .ok (.if_icmp .eq 14, 3) := by decide +kernel
theorem dX8_gameOf_162 : decode cX8_gameOf 162 = .ok (.aload_n 0, 1) := by decide +kernel
theorem dX8_gameOf_163 : decode cX8_gameOf 163 = .ok (.getfield 80, 3) := by decide +kernel
theorem dX8_gameOf_166 : decode cX8_gameOf 166 = .ok (.iload_n 3, 1) := by decide +kernel
theorem dX8_gameOf_167 : decode cX8_gameOf 167 = .ok (.iaload, 1) := by decide +kernel
theorem dX8_gameOf_168 : decode cX8_gameOf 168 = .ok (.bipush 9, 2) := by decide +kernel
theorem dX8_gameOf_170 : decode cX8_gameOf 170 = .ok (.if_icmp .ne 133, 3) := by decide +kernel
theorem dX8_gameOf_173 : decode cX8_gameOf 173 = .ok (.iload_n 3, 1) := by decide +kernel
theorem dX8_gameOf_174 : decode cX8_gameOf 174 = .ok (.iload_n 1, 1) := by decide +kernel
theorem dX8_gameOf_175 : decode cX8_gameOf 175 = .ok (.if_icmp .ne 12, 3) := by decide +kernel
theorem dX8_gameOf_178 : decode cX8_gameOf 178 = .ok (.aload_n 0, 1) := by decide +kernel
theorem dX8_gameOf_179 : decode cX8_gameOf 179 = .ok (.getfield 77, 3) := by decide +kernel
theorem dX8_gameOf_182 : decode cX8_gameOf 182 = .ok (.iload_n 3, 1) := by decide +kernel
theorem dX8_gameOf_183 : decode cX8_gameOf 183 = .ok (.iaload, 1) := by decide +kernel
theorem dX8_gameOf_184 : decode cX8_gameOf 184 = .ok (.goto 9, 3) := by decide +kernel
theorem dX8_gameOf_187 : decode cX8_gameOf 187 = .ok (.aload_n 0, 1) := by decide +kernel
theorem dX8_gameOf_188 : decode cX8_gameOf 188 = .ok (.getfield 83, 3) := by decide +kernel
theorem dX8_gameOf_191 : decode cX8_gameOf 191 = .ok (.iload_n 3, 1) := by decide +kernel
theorem dX8_gameOf_192 : decode cX8_gameOf 192 = .ok (.iaload, 1) := by decide +kernel
theorem dX8_gameOf_193 : decode cX8_gameOf 193 = .ok (.istore 5, 2) := by decide +kernel
theorem dX8_gameOf_195 : decode cX8_gameOf 195 = .ok (.iinc 3 (-1), 3) := by decide +kernel
theorem dX8_gameOf_198 : decode cX8_gameOf 198 = .ok (.iload_n 3, 1) := by decide +kernel
theorem dX8_gameOf_199 : decode cX8_gameOf 199 = .ok (.ifCond .lt 196, 3) := by decide +kernel
theorem dX8_gameOf_202 : decode cX8_gameOf 202 = .ok (.aload_n 0, 1) := by decide +kernel
theorem dX8_gameOf_203 : decode cX8_gameOf 203 = .ok (.getfield 86, 3) := by decide +kernel
theorem dX8_gameOf_206 : decode cX8_gameOf 206 = .ok (.iload_n 3, 1) := by decide +kernel
theorem dX8_gameOf_207 : decode cX8_gameOf 207 = .ok (.baload, 1) := by decide +kernel
theorem dX8_gameOf_208 : decode cX8_gameOf 208 = .ok (.ifCond .eq 34, 3) := by decide +kernel
theorem dX8_gameOf_211 : decode cX8_gameOf 211 = .ok (.iload_n 3, 1) := by decide +kernel
theorem dX8_gameOf_212 : decode cX8_gameOf 212 = .ok (.iconst 2, 1) := by decide +kernel
theorem dX8_gameOf_213 : decode cX8_gameOf 213 = .ok (.irem, 1) := by decide +kernel
theorem dX8_gameOf_214 : decode cX8_gameOf 214 = .ok (.ifCond .ne 17, 3) := by decide +kernel
theorem dX8_gameOf_217 : decode cX8_gameOf 217 = .ok (.iload 5, 2) := by decide +kernel
theorem dX8_gameOf_219 : decode cX8_gameOf 219 = .ok (.aload_n 0, 1) := by decide +kernel
theorem dX8_gameOf_220 : decode cX8_gameOf 220 = .ok (.getfield 83, 3) := by decide +kernel
theorem dX8_gameOf_223 : decode cX8_gameOf 223 = .ok (.iload_n 3, 1) := by decide +kernel
theorem dX8_gameOf_224 : decode cX8_gameOf 224 = .ok (.iaload, 1) := by decide +kernel
theorem dX8_gameOf_225 : decode cX8_gameOf 225 = .ok (.if_icmp .le 21, 3) := by decide +kernel
theorem dX8_gameOf_228 : decode cX8_gameOf 228 = .ok (.goto 14, 3) := by decide +kernel
theorem dX8_gameOf_231 : decode cX8_gameOf 231 = .ok (.iload 5, 2) := by decide +kernel
theorem dX8_gameOf_233 : decode cX8_gameOf 233 = .ok (.aload_n 0, 1) := by decide +kernel
theorem dX8_gameOf_234 : decode cX8_gameOf 234 = .ok (.getfield 83, 3) := by decide +kernel
theorem dX8_gameOf_237 : decode cX8_gameOf 237 = .ok (.iload_n 3, 1) := by decide +kernel
theorem dX8_gameOf_238 : decode cX8_gameOf 238 = .ok (.iaload, 1) := by decide +kernel
theorem dX8_gameOf_239 : decode cX8_gameOf 239 = .ok (.if_icmp .ge 7, 3) := by decide +kernel
theorem dX8_gameOf_242 : decode cX8_gameOf 242 = .ok (.iconst 1, 1) := by decide +kernel
theorem dX8_gameOf_243 : decode cX8_gameOf 243 = .ok (.goto 4, 3) := by decide +kernel
theorem dX8_gameOf_246 : decode cX8_gameOf 246 = .ok (.iconst 0, 1) := by decide +kernel
theorem dX8_gameOf_247 : decode cX8_gameOf 247 = .ok (.istore 8, 2) := by decide +kernel
theorem dX8_gameOf_249 : decode cX8_gameOf 249 = .ok (.aload_n 0, 1) := by decide +kernel
theorem dX8_gameOf_250 : decode cX8_gameOf 250 = .ok (.getfield 86, 3) := by decide +kernel
theorem dX8_gameOf_253 : decode cX8_gameOf 253 = .ok (.iload_n 3, 1) := by decide +kernel
theorem dX8_gameOf_254 : decode cX8_gameOf 254 = .ok (.iconst 1, 1) := by decide +kernel
theorem dX8_gameOf_255 : decode cX8_gameOf 255 = .ok (.bastore, 1) := by decide +kernel
theorem dX8_gameOf_256 : decode cX8_gameOf 256 = .ok (.iload 8, 2) := by decide +kernel
theorem dX8_gameOf_258 : decode cX8_gameOf 258 = .ok (.ifCond .eq 16, 3) := by decide +kernel
theorem dX8_gameOf_261 : decode cX8_gameOf 261 = .ok (.iload_n 3, 1) := by decide +kernel
theorem dX8_gameOf_262 : decode cX8_gameOf 262 = .ok (.ifCond .ne 12, 3) := by decide +kernel
theorem dX8_gameOf_265 : decode cX8_gameOf 265 = .ok (.aload_n 0, 1) := by decide +kernel
theorem dX8_gameOf_266 : decode cX8_gameOf 266 = .ok (.getfield 80, 3) := by decide +kernel
theorem dX8_gameOf_269 : decode cX8_gameOf 269 = .ok (.iconst 0, 1) := by decide +kernel
theorem dX8_gameOf_270 : decode cX8_gameOf 270 = .ok (.iaload, 1) := by decide +kernel
theorem dX8_gameOf_271 : decode cX8_gameOf 271 = .ok (.goto 5, 3) := by decide +kernel
theorem dX8_gameOf_274 : decode cX8_gameOf 274 = .ok (.iload 4, 2) := by decide +kernel
theorem dX8_gameOf_276 : decode cX8_gameOf 276 = .ok (.istore 4, 2) := by decide +kernel
theorem dX8_gameOf_278 : decode cX8_gameOf 278 = .ok (.aload_n 0, 1) := by decide +kernel
theorem dX8_gameOf_279 : decode cX8_gameOf 279 = .ok (.getfield 83, 3) := by decide +kernel
theorem dX8_gameOf_282 : decode cX8_gameOf 282 = .ok (.iload_n 3, 1) := by decide +kernel
theorem dX8_gameOf_283 : decode cX8_gameOf 283 = .ok (.iload 8, 2) := by decide +kernel
theorem dX8_gameOf_285 : decode cX8_gameOf 285 = .ok (.ifCond .eq 8, 3) := by decide +kernel
theorem dX8_gameOf_288 : decode cX8_gameOf 288 = .ok (.iload 5, 2) := by decide +kernel
theorem dX8_gameOf_290 : decode cX8_gameOf 290 = .ok (.goto 9, 3) := by decide +kernel
theorem dX8_gameOf_293 : decode cX8_gameOf 293 = .ok (.aload_n 0, 1) := by decide +kernel
theorem dX8_gameOf_294 : decode cX8_gameOf 294 = .ok (.getfield 83, 3) := by decide +kernel
theorem dX8_gameOf_297 : decode cX8_gameOf 297 = .ok (.iload_n 3, 1) := by decide +kernel
theorem dX8_gameOf_298 : decode cX8_gameOf 298 = .ok (.iaload, 1) := by decide +kernel
theorem dX8_gameOf_299 : decode cX8_gameOf 299 = .ok (.iastore, 1) := by decide +kernel
theorem dX8_gameOf_300 : decode cX8_gameOf 300 = .ok (.goto 95, 3) := by decide +kernel
theorem dX8_gameOf_303 : decode cX8_gameOf 303 = .ok (.aload_n 0, 1) := by decide +kernel
theorem dX8_gameOf_304 : decode cX8_gameOf 304 = .ok (.getfield 80, 3) := by decide +kernel
theorem dX8_gameOf_307 : decode cX8_gameOf 307 = .ok (.iload_n 3, 1) := by decide +kernel
theorem dX8_gameOf_308 : decode cX8_gameOf 308 = .ok (.iaload, 1) := by decide +kernel
theorem dX8_gameOf_309 : decode cX8_gameOf 309 = .ok (.istore 8, 2) := by decide +kernel
theorem dX8_gameOf_311 : decode cX8_gameOf 311 = .ok (.iload 8, 2) := by decide +kernel
theorem dX8_gameOf_313 : decode cX8_gameOf 313 = .ok (.iconst (-1), 1) := by decide +kernel
theorem dX8_gameOf_314 : decode cX8_gameOf 314 = .ok (.if_icmp .ne 7, 3) := by decide +kernel
theorem dX8_gameOf_317 : decode cX8_gameOf 317 = .ok (.iconst 0, 1) := by decide +kernel
theorem dX8_gameOf_318 : decode cX8_gameOf 318 = .ok (.goto 30, 3) := by decide +kernel
theorem dX8_gameOf_321 : decode cX8_gameOf 321 = .ok (.iload 6, 2) := by decide +kernel
theorem dX8_gameOf_323 : decode cX8_gameOf 323 = .ok (.ifCond .ne 15, 3) := by decide +kernel
theorem dX8_gameOf_326 : decode cX8_gameOf 326 = .ok (.iconst 5, 1) := by decide +kernel
theorem dX8_gameOf_327 : decode cX8_gameOf 327 = .ok (.aload_n 0, 1) := by decide +kernel
theorem dX8_gameOf_328 : decode cX8_gameOf 328 = .ok (.getfield 34, 3) := by decide +kernel
theorem dX8_gameOf_331 : decode cX8_gameOf 331 = .ok (.iload 8, 2) := by decide +kernel
theorem dX8_gameOf_333 : decode cX8_gameOf 333 = .ok (.iaload, 1) := by decide +kernel
theorem dX8_gameOf_334 : decode cX8_gameOf 334 = .ok (.imul, 1) := by decide +kernel
theorem dX8_gameOf_335 : decode cX8_gameOf 335 = .ok (.goto 13, 3) := by decide +kernel
theorem dX8_gameOf_338 : decode cX8_gameOf 338 = .ok (.bipush (-5), 2) := by decide +kernel
theorem dX8_gameOf_340 : decode cX8_gameOf 340 = .ok (.aload_n 0, 1) := by decide +kernel
theorem dX8_gameOf_341 : decode cX8_gameOf 341 = .ok (.getfield 34, 3) := by decide +kernel
theorem dX8_gameOf_344 : decode cX8_gameOf 344 = .ok (.iload 8, 2) := by decide +kernel
theorem dX8_gameOf_346 : decode cX8_gameOf 346 = .ok (.iaload, 1) := by decide +kernel
theorem dX8_gameOf_347 : decode cX8_gameOf 347 = .ok (.imul, 1) := by decide +kernel
theorem dX8_gameOf_348 : decode cX8_gameOf 348 = .ok (.istore 9, 2) := by decide +kernel
theorem dX8_gameOf_350 : decode cX8_gameOf 350 = .ok (.aload_n 0, 1) := by decide +kernel
theorem dX8_gameOf_351 : decode cX8_gameOf 351 = .ok (.iload_n 3, 1) := by decide +kernel
theorem dX8_gameOf_352 : decode cX8_gameOf 352 = .ok (.iconst 1, 1) := by decide +kernel
theorem dX8_gameOf_353 : decode cX8_gameOf 353 = .ok (.iadd, 1) := by decide +kernel
theorem dX8_gameOf_354 : decode cX8_gameOf 354 = .ok (.iload 8, 2) := by decide +kernel
theorem dX8_gameOf_356 : decode cX8_gameOf 356 = .ok (.iconst (-1), 1) := by decide +kernel
theorem dX8_gameOf_357 : decode cX8_gameOf 357 = .ok (.if_icmp .ne 12, 3) := by decide +kernel
theorem dX8_gameOf_360 : decode cX8_gameOf 360 = .ok (.aload_n 0, 1) := by decide +kernel
theorem dX8_gameOf_361 : decode cX8_gameOf 361 = .ok (.getfield 74, 3) := by decide +kernel
theorem dX8_gameOf_364 : decode cX8_gameOf 364 = .ok (.iload_n 3, 1) := by decide +kernel
theorem dX8_gameOf_365 : decode cX8_gameOf 365 = .ok (.iaload, 1) := by decide +kernel
theorem dX8_gameOf_366 : decode cX8_gameOf 366 = .ok (.goto 14, 3) := by decide +kernel
theorem dX8_gameOf_369 : decode cX8_gameOf 369 = .ok (.aload_n 0, 1) := by decide +kernel
theorem dX8_gameOf_370 : decode cX8_gameOf 370 = .ok (.getfield 74, 3) := by decide +kernel
theorem dX8_gameOf_373 : decode cX8_gameOf 373 = .ok (.iload_n 3, 1) := by decide +kernel
theorem dX8_gameOf_374 : decode cX8_gameOf 374 = .ok (.iaload, 1) := by decide +kernel
theorem dX8_gameOf_375 : decode cX8_gameOf 375 = .ok (.iconst 1, 1) := by decide +kernel
theorem dX8_gameOf_376 : decode cX8_gameOf 376 = .ok (.iload 8, 2) := by decide +kernel
theorem dX8_gameOf_378 : decode cX8_gameOf 378 = .ok (.ishl, 1) := by decide +kernel
theorem dX8_gameOf_379 : decode cX8_gameOf 379 = .ok (.ior, 1) := by decide +kernel
theorem dX8_gameOf_380 : decode cX8_gameOf 380 = .ok (.aload_n 0, 1) := by decide +kernel
theorem dX8_gameOf_381 : decode cX8_gameOf 381 = .ok (.getfield 77, 3) := by decide +kernel
theorem dX8_gameOf_384 : decode cX8_gameOf 384 = .ok (.iload_n 3, 1) := by decide +kernel
theorem dX8_gameOf_385 : decode cX8_gameOf 385 = .ok (.iaload, 1) := by decide +kernel
theorem dX8_gameOf_386 : decode cX8_gameOf 386 = .ok (.iload 9, 2) := by decide +kernel
theorem dX8_gameOf_388 : decode cX8_gameOf 388 = .ok (.iadd, 1) := by decide +kernel
theorem dX8_gameOf_389 : decode cX8_gameOf 389 = .ok (.invokevirtual 265, 3) := by decide +kernel
theorem dX8_gameOf_392 : decode cX8_gameOf 392 = .ok (.iinc 3 1, 3) := by decide +kernel
theorem dX8_gameOf_395 : decode cX8_gameOf 395 = .ok (.goto (-351), 3) := by decide +kernel
theorem dX8_gameOf_398 : decode cX8_gameOf 398 = .ok (.iload_n 2, 1) := by decide +kernel
theorem dX8_gameOf_399 : decode cX8_gameOf 399 = .ok (.ifCond .ne 8, 3) := by decide +kernel
theorem dX8_gameOf_402 : decode cX8_gameOf 402 = .ok (.iload 5, 2) := by decide +kernel
theorem dX8_gameOf_404 : decode cX8_gameOf 404 = .ok (.goto 5, 3) := by decide +kernel
theorem dX8_gameOf_407 : decode cX8_gameOf 407 = .ok (.iload 4, 2) := by decide +kernel
theorem dX8_gameOf_409 : decode cX8_gameOf 409 = .ok (.ireturn, 1) := by decide +kernel
theorem dX8_game_0 : decode cX8_game 0 = .ok (.aload_n 0, 1) := by decide +kernel
theorem dX8_game_1 : decode cX8_game 1 = .ok (.invokevirtual 147, 3) := by decide +kernel
theorem dX8_game_4 : decode cX8_game 4 = .ok (.iload_n 1, 1) := by decide +kernel
theorem dX8_game_5 : decode cX8_game 5 = .ok (.i2l, 1) := by decide +kernel
theorem dX8_game_6 : decode cX8_game 6 = .ok (.lconst 1, 1) := by decide +kernel
theorem dX8_game_7 : decode cX8_game 7 = .ok (.ldc2_w 269, 3) := by decide +kernel
theorem dX8_game_10 : decode cX8_game 10 = .ok (.invokestatic 92, 3) := by decide +kernel
theorem dX8_game_13 : decode cX8_game 13 = .ok (.ifCond .eq 19, 3) := by decide +kernel
theorem dX8_game_16 : decode cX8_game 16 = .ok (.iload_n 2, 1) := by decide +kernel
theorem dX8_game_17 : decode cX8_game 17 = .ok (.invokestatic 121, 3) := by decide +kernel
theorem dX8_game_20 : decode cX8_game 20 = .ok (.ifCond .eq 12, 3) := by decide +kernel
theorem dX8_game_23 : decode cX8_game 23 = .ok (.aload_n 0, 1) := by decide +kernel
theorem dX8_game_24 : decode cX8_game 24 = .ok (.iload_n 1, 1) := by decide +kernel
theorem dX8_game_25 : decode cX8_game 25 = .ok (.iload_n 2, 1) := by decide +kernel
theorem dX8_game_26 : decode cX8_game 26 = .ok (.invokevirtual 271, 3) := by decide +kernel
theorem dX8_game_29 : decode cX8_game 29 = .ok (.goto 6, 3) := by decide +kernel
theorem dX8_game_32 : decode cX8_game 32 = .ok (.sipush (-10002), 3) := by decide +kernel
theorem dX8_game_35 : decode cX8_game 35 = .ok (.ireturn, 1) := by decide +kernel
theorem dX8_arm_0 : decode cX8_arm 0 = .ok (.iload_n 1, 1) := by decide +kernel
theorem dX8_arm_1 : decode cX8_arm 1 = .ok (.i2l, 1) := by decide +kernel
theorem dX8_arm_2 : decode cX8_arm 2 = .ok (.lconst 0, 1) := by decide +kernel
theorem dX8_arm_3 : decode cX8_arm 3 = .ok (.ldc2_w 161, 3) := by decide +kernel
theorem dX8_arm_6 : decode cX8_arm 6 = .ok (.invokestatic 92, 3) := by decide +kernel
theorem dX8_arm_9 : decode cX8_arm 9 = .ok (.ifCond .eq 15, 3) := by decide +kernel
theorem dX8_arm_12 : decode cX8_arm 12 = .ok (.iload_n 2, 1) := by decide +kernel
theorem dX8_arm_13 : decode cX8_arm 13 = .ok (.i2l, 1) := by decide +kernel
theorem dX8_arm_14 : decode cX8_arm 14 = .ok (.lconst 0, 1) := by decide +kernel
theorem dX8_arm_15 : decode cX8_arm 15 = .ok (.ldc2_w 165, 3) := by decide +kernel
theorem dX8_arm_18 : decode cX8_arm 18 = .ok (.invokestatic 92, 3) := by decide +kernel
theorem dX8_arm_21 : decode cX8_arm 21 = .ok (.ifCond .ne 6, 3) := by decide +kernel
theorem dX8_arm_24 : decode cX8_arm 24 = .ok (.bipush (-2), 2) := by decide +kernel
theorem dX8_arm_26 : decode cX8_arm 26 = .ok (.ireturn, 1) := by decide +kernel
theorem dX8_arm_27 : decode cX8_arm 27 = .ok (.aload_n 0, 1) := by decide +kernel
theorem dX8_arm_28 : decode cX8_arm 28 = .ok (.getfield 46, 3) := by decide +kernel
theorem dX8_arm_31 : decode cX8_arm 31 = .ok (.iload_n 1, 1) := by decide +kernel
theorem dX8_arm_32 : decode cX8_arm 32 = .ok (.iaload, 1) := by decide +kernel
theorem dX8_arm_33 : decode cX8_arm 33 = .ok (.istore_n 3, 1) := by decide +kernel
theorem dX8_arm_34 : decode cX8_arm 34 = .ok (.aload_n 0, 1) := by decide +kernel
theorem dX8_arm_35 : decode cX8_arm 35 = .ok (.getfield 46, 3) := by decide +kernel
theorem dX8_arm_38 : decode cX8_arm 38 = .ok (.iload_n 1, 1) := by decide +kernel
theorem dX8_arm_39 : decode cX8_arm 39 = .ok (.iload_n 2, 1) := by decide +kernel
theorem dX8_arm_40 : decode cX8_arm 40 = .ok (.iastore, 1) := by decide +kernel
theorem dX8_arm_41 : decode cX8_arm 41 = .ok (.iload_n 3, 1) := by decide +kernel
theorem dX8_arm_42 : decode cX8_arm 42 = .ok (.ireturn, 1) := by decide +kernel
theorem dX8_secretOf_0 : decode cX8_secretOf 0 = .ok (.iconst 1, 1) := by decide +kernel
theorem dX8_secretOf_1 : decode cX8_secretOf 1 = .ok (.istore_n 3, 1) := by decide +kernel
theorem dX8_secretOf_2 : decode cX8_secretOf 2 = .ok (.iconst 0, 1) := by decide +kernel
theorem dX8_secretOf_3 : decode cX8_secretOf 3 = .ok (.istore 4, 2) := by decide +kernel
theorem dX8_secretOf_5 : decode cX8_secretOf 5 = .ok (.iload 4, 2) := by decide +kernel
theorem dX8_secretOf_7 : decode cX8_secretOf 7 = .ok (.aload_n 0, 1) := by decide +kernel
theorem dX8_secretOf_8 : decode cX8_secretOf 8 = .ok (.getfield 129, 3) := by decide +kernel
theorem dX8_secretOf_11 : decode cX8_secretOf 11 = .ok (.if_icmp .ge 13, 3) := by decide +kernel
theorem dX8_secretOf_14 : decode cX8_secretOf 14 = .ok (.iload_n 3, 1) := by decide +kernel
theorem dX8_secretOf_15 : decode cX8_secretOf 15 = .ok (.iconst 3, 1) := by decide +kernel
theorem dX8_secretOf_16 : decode cX8_secretOf 16 = .ok (.imul, 1) := by decide +kernel
theorem dX8_secretOf_17 : decode cX8_secretOf 17 = .ok (.istore_n 3, 1) := by decide +kernel
theorem dX8_secretOf_18 : decode cX8_secretOf 18 = .ok (.iinc 4 1, 3) := by decide +kernel
theorem dX8_secretOf_21 : decode cX8_secretOf 21 = .ok (.goto (-16), 3) := by decide +kernel
theorem dX8_secretOf_24 : decode cX8_secretOf 24 = .ok (.iconst 0, 1) := by decide +kernel
theorem dX8_secretOf_25 : decode cX8_secretOf 25 = .ok (.istore 4, 2) := by decide +kernel
theorem dX8_secretOf_27 : decode cX8_secretOf 27 = .ok (.iconst 1, 1) := by decide +kernel
theorem dX8_secretOf_28 : decode cX8_secretOf 28 = .ok (.aload_n 0, 1) := by decide +kernel
theorem dX8_secretOf_29 : decode cX8_secretOf 29 = .ok (.getfield 129, 3) := by decide +kernel
theorem dX8_secretOf_32 : decode cX8_secretOf 32 = .ok (.ishl, 1) := by decide +kernel
theorem dX8_secretOf_33 : decode cX8_secretOf 33 = .ok (.iconst 1, 1) := by decide +kernel
theorem dX8_secretOf_34 : decode cX8_secretOf 34 = .ok (.isub, 1) := by decide +kernel
theorem dX8_secretOf_35 : decode cX8_secretOf 35 = .ok (.istore 5, 2) := by decide +kernel
theorem dX8_secretOf_37 : decode cX8_secretOf 37 = .ok (.iload 5, 2) := by decide +kernel
theorem dX8_secretOf_39 : decode cX8_secretOf 39 = .ok (.istore 6, 2) := by decide +kernel
theorem dX8_secretOf_41 : decode cX8_secretOf 41 = .ok (.iconst 0, 1) := by decide +kernel
theorem dX8_secretOf_42 : decode cX8_secretOf 42 = .ok (.istore 7, 2) := by decide +kernel
theorem dX8_secretOf_44 : decode cX8_secretOf 44 = .ok (.iload 7, 2) := by decide +kernel
theorem dX8_secretOf_46 : decode cX8_secretOf 46 = .ok (.iload_n 3, 1) := by decide +kernel
theorem dX8_secretOf_47 : decode cX8_secretOf 47 = .ok (.if_icmp .ge 159, 3) := by decide +kernel
theorem dX8_secretOf_50 : decode cX8_secretOf 50 = .ok (.iload 7, 2) := by decide +kernel
theorem dX8_secretOf_52 : decode cX8_secretOf 52 = .ok (.istore 8, 2) := by decide +kernel
theorem dX8_secretOf_54 : decode cX8_secretOf 54 = .ok (.iconst 0, 1) := by decide +kernel
theorem dX8_secretOf_55 : decode cX8_secretOf 55 = .ok (.istore 9, 2) := by decide +kernel
theorem dX8_secretOf_57 : decode cX8_secretOf 57 = .ok (.iconst 0, 1) := by decide +kernel
theorem dX8_secretOf_58 : decode cX8_secretOf 58 = .ok (.istore 10, 2) := by decide +kernel
theorem dX8_secretOf_60 : decode cX8_secretOf 60 = .ok (.iconst 0, 1) := by decide +kernel
theorem dX8_secretOf_61 : decode cX8_secretOf 61 = .ok (.istore 11, 2) := by decide +kernel
theorem dX8_secretOf_63 : decode cX8_secretOf 63 = .ok (.iconst 0, 1) := by decide +kernel
theorem dX8_secretOf_64 : decode cX8_secretOf 64 = .ok (.istore 12, 2) := by decide +kernel
theorem dX8_secretOf_66 : decode cX8_secretOf 66 = .ok (.iload 12, 2) := by decide +kernel
theorem dX8_secretOf_68 : decode cX8_secretOf 68 = .ok (.aload_n 0, 1) := by decide +kernel
theorem dX8_secretOf_69 : decode cX8_secretOf 69 = .ok (.getfield 129, 3) := by decide +kernel
theorem dX8_secretOf_72 : decode cX8_secretOf 72 = .ok (.if_icmp .ge 105, 3) := by decide +kernel
theorem dX8_secretOf_75 : decode cX8_secretOf 75 = .ok (.iload 8, 2) := by decide +kernel
theorem dX8_secretOf_77 : decode cX8_secretOf 77 = .ok (.iconst 3, 1) := by decide +kernel
theorem dX8_secretOf_78 : decode cX8_secretOf 78 = .ok (.irem, 1) := by decide +kernel
theorem dX8_secretOf_79 : decode cX8_secretOf 79 = .ok (.istore 13, 2) := by decide +kernel
theorem dX8_secretOf_81 : decode cX8_secretOf 81 = .ok (.iload 8, 2) := by decide +kernel
theorem dX8_secretOf_83 : decode cX8_secretOf 83 = .ok (.iconst 3, 1) := by decide +kernel
theorem dX8_secretOf_84 : decode cX8_secretOf 84 = .ok (.idiv, 1) := by decide +kernel
theorem dX8_secretOf_85 : decode cX8_secretOf 85 = .ok (.istore 8, 2) := by decide +kernel
theorem dX8_secretOf_87 : decode cX8_secretOf 87 = .ok (.aload_n 0, 1) := by decide +kernel
theorem dX8_secretOf_88 : decode cX8_secretOf 88 = .ok (.getfield 28, 3) := by decide +kernel
theorem dX8_secretOf_91 : decode cX8_secretOf 91 = .ok (.iload 12, 2) := by decide +kernel
theorem dX8_secretOf_93 : decode cX8_secretOf 93 = .ok (.iaload, 1) := by decide +kernel
theorem dX8_secretOf_94 : decode cX8_secretOf 94 = .ok (.aload_n 0, 1) := by decide +kernel
theorem dX8_secretOf_95 : decode cX8_secretOf 95 = .ok (.getfield 46, 3) := by decide +kernel
theorem dX8_secretOf_98 : decode cX8_secretOf 98 = .ok (.iload 12, 2) := by decide +kernel
theorem dX8_secretOf_100 : decode cX8_secretOf 100 = .ok (.iaload, 1) := by decide +kernel
theorem dX8_secretOf_101 : decode cX8_secretOf 101 = .ok (.imul, 1) := by decide +kernel
theorem dX8_secretOf_102 : decode cX8_secretOf 102 = .ok (.istore 14, 2) := by decide +kernel
theorem dX8_secretOf_104 : decode cX8_secretOf 104 = .ok (.iload 9, 2) := by decide +kernel
theorem dX8_secretOf_106 : decode cX8_secretOf 106 = .ok (.iload 13, 2) := by decide +kernel
theorem dX8_secretOf_108 : decode cX8_secretOf 108 = .ok (.iconst 1, 1) := by decide +kernel
theorem dX8_secretOf_109 : decode cX8_secretOf 109 = .ok (.if_icmp .ne 8, 3) := by decide +kernel
theorem dX8_secretOf_112 : decode cX8_secretOf 112 = .ok (.iload 14, 2) := by decide +kernel
theorem dX8_secretOf_114 : decode cX8_secretOf 114 = .ok (.goto 16, 3) := by decide +kernel
theorem dX8_secretOf_117 : decode cX8_secretOf 117 = .ok (.iload 13, 2) := by decide +kernel
theorem dX8_secretOf_119 : decode cX8_secretOf 119 = .ok (.iconst 2, 1) := by decide +kernel
theorem dX8_secretOf_120 : decode cX8_secretOf 120 = .ok (.if_icmp .ne 9, 3) := by decide +kernel
theorem dX8_secretOf_123 : decode cX8_secretOf 123 = .ok (.iload 14, 2) := by decide +kernel
theorem dX8_secretOf_125 : decode cX8_secretOf 125 = .ok (.ineg, 1) := by decide +kernel
theorem dX8_secretOf_126 : decode cX8_secretOf 126 = .ok (.goto 4, 3) := by decide +kernel
theorem dX8_secretOf_129 : decode cX8_secretOf 129 = .ok (.iconst 0, 1) := by decide +kernel
theorem dX8_secretOf_130 : decode cX8_secretOf 130 = .ok (.iadd, 1) := by decide +kernel
theorem dX8_secretOf_131 : decode cX8_secretOf 131 = .ok (.istore 9, 2) := by decide +kernel
theorem dX8_secretOf_133 : decode cX8_secretOf 133 = .ok (.iload 10, 2) := by decide +kernel
theorem dX8_secretOf_135 : decode cX8_secretOf 135 = .ok (.iload 13, 2) := by decide +kernel
theorem dX8_secretOf_137 : decode cX8_secretOf 137 = .ok (.iconst 1, 1) := by decide +kernel
theorem dX8_secretOf_138 : decode cX8_secretOf 138 = .ok (.if_icmp .ne 10, 3) := by decide +kernel
theorem dX8_secretOf_141 : decode cX8_secretOf 141 = .ok (.iconst 1, 1) := by decide +kernel
theorem dX8_secretOf_142 : decode cX8_secretOf 142 = .ok (.iload 12, 2) := by decide +kernel
theorem dX8_secretOf_144 : decode cX8_secretOf 144 = .ok (.ishl, 1) := by decide +kernel
theorem dX8_secretOf_145 : decode cX8_secretOf 145 = .ok (.goto 4, 3) := by decide +kernel
theorem dX8_secretOf_148 : decode cX8_secretOf 148 = .ok (.iconst 0, 1) := by decide +kernel
theorem dX8_secretOf_149 : decode cX8_secretOf 149 = .ok (.ior, 1) := by decide +kernel
theorem dX8_secretOf_150 : decode cX8_secretOf 150 = .ok (.istore 10, 2) := by decide +kernel
theorem dX8_secretOf_152 : decode cX8_secretOf 152 = .ok (.iload 11, 2) := by decide +kernel
theorem dX8_secretOf_154 : decode cX8_secretOf 154 = .ok (.iload 13, 2) := by decide +kernel
theorem dX8_secretOf_156 : decode cX8_secretOf 156 = .ok (.iconst 2, 1) := by decide +kernel
theorem dX8_secretOf_157 : decode cX8_secretOf 157 = .ok (.if_icmp .ne 10, 3) := by decide +kernel
theorem dX8_secretOf_160 : decode cX8_secretOf 160 = .ok (.iconst 1, 1) := by decide +kernel
theorem dX8_secretOf_161 : decode cX8_secretOf 161 = .ok (.iload 12, 2) := by decide +kernel
theorem dX8_secretOf_163 : decode cX8_secretOf 163 = .ok (.ishl, 1) := by decide +kernel
theorem dX8_secretOf_164 : decode cX8_secretOf 164 = .ok (.goto 4, 3) := by decide +kernel
theorem dX8_secretOf_167 : decode cX8_secretOf 167 = .ok (.iconst 0, 1) := by decide +kernel
theorem dX8_secretOf_168 : decode cX8_secretOf 168 = .ok (.ior, 1) := by decide +kernel
theorem dX8_secretOf_169 : decode cX8_secretOf 169 = .ok (.istore 11, 2) := by decide +kernel
theorem dX8_secretOf_171 : decode cX8_secretOf 171 = .ok (.iinc 12 1, 3) := by decide +kernel
theorem dX8_secretOf_174 : decode cX8_secretOf 174 = .ok (.goto (-108), 3) := by decide +kernel
theorem dX8_secretOf_177 : decode cX8_secretOf 177 = .ok (.iload 9, 2) := by decide +kernel
theorem dX8_secretOf_179 : decode cX8_secretOf 179 = .ok (.iload_n 1, 1) := by decide +kernel
theorem dX8_secretOf_180 : decode cX8_secretOf 180 = .ok (.if_icmp .ne 20, 3) := by decide +kernel
theorem dX8_secretOf_183 : decode cX8_secretOf 183 = .ok (.iinc 4 1, 3) := by decide +kernel
theorem dX8_secretOf_186 : decode cX8_secretOf 186 = .ok (.iload 5, 2) := by decide +kernel
theorem dX8_secretOf_188 : decode cX8_secretOf 188 = .ok (.iload 10, 2) := by decide +kernel
theorem dX8_secretOf_190 : decode cX8_secretOf 190 = .ok (.iand, 1) := by decide +kernel
theorem dX8_secretOf_191 : decode cX8_secretOf 191 = .ok (.istore 5, 2) := by decide +kernel
theorem dX8_secretOf_193 : decode cX8_secretOf 193 = .ok (.iload 6, 2) := by decide +kernel
theorem dX8_secretOf_195 : decode cX8_secretOf 195 = .ok (.iload 11, 2) := by decide +kernel
theorem dX8_secretOf_197 : decode cX8_secretOf 197 = .ok (.iand, 1) := by decide +kernel
theorem dX8_secretOf_198 : decode cX8_secretOf 198 = .ok (.istore 6, 2) := by decide +kernel
theorem dX8_secretOf_200 : decode cX8_secretOf 200 = .ok (.iinc 7 1, 3) := by decide +kernel
theorem dX8_secretOf_203 : decode cX8_secretOf 203 = .ok (.goto (-159), 3) := by decide +kernel
theorem dX8_secretOf_206 : decode cX8_secretOf 206 = .ok (.iload_n 2, 1) := by decide +kernel
theorem dX8_secretOf_207 : decode cX8_secretOf 207 = .ok (.ifCond .ne 8, 3) := by decide +kernel
theorem dX8_secretOf_210 : decode cX8_secretOf 210 = .ok (.iload 4, 2) := by decide +kernel
theorem dX8_secretOf_212 : decode cX8_secretOf 212 = .ok (.goto 24, 3) := by decide +kernel
theorem dX8_secretOf_215 : decode cX8_secretOf 215 = .ok (.iload 4, 2) := by decide +kernel
theorem dX8_secretOf_217 : decode cX8_secretOf 217 = .ok (.ifCond .ne 7, 3) := by decide +kernel
theorem dX8_secretOf_220 : decode cX8_secretOf 220 = .ok (.iconst 0, 1) := by decide +kernel
theorem dX8_secretOf_221 : decode cX8_secretOf 221 = .ok (.goto 15, 3) := by decide +kernel
theorem dX8_secretOf_224 : decode cX8_secretOf 224 = .ok (.iload_n 2, 1) := by decide +kernel
theorem dX8_secretOf_225 : decode cX8_secretOf 225 = .ok (.iconst 1, 1) := by decide +kernel
theorem dX8_secretOf_226 : decode cX8_secretOf 226 = .ok (.if_icmp .ne 8, 3) := by decide +kernel
theorem dX8_secretOf_229 : decode cX8_secretOf 229 = .ok (.iload 5, 2) := by decide +kernel
theorem dX8_secretOf_231 : decode cX8_secretOf 231 = .ok (.goto 5, 3) := by decide +kernel
theorem dX8_secretOf_234 : decode cX8_secretOf 234 = .ok (.iload 6, 2) := by decide +kernel
theorem dX8_secretOf_236 : decode cX8_secretOf 236 = .ok (.ireturn, 1) := by decide +kernel
theorem dX8_secret_0 : decode cX8_secret 0 = .ok (.aload_n 0, 1) := by decide +kernel
theorem dX8_secret_1 : decode cX8_secret 1 = .ok (.invokevirtual 147, 3) := by decide +kernel
theorem dX8_secret_4 : decode cX8_secret 4 = .ok (.iload_n 1, 1) := by decide +kernel
theorem dX8_secret_5 : decode cX8_secret 5 = .ok (.i2l, 1) := by decide +kernel
theorem dX8_secret_6 : decode cX8_secret 6 = .ok (.ldc2_w 274, 3) := by decide +kernel
theorem dX8_secret_9 : decode cX8_secret 9 = .ok (.ldc2_w 276, 3) := by decide +kernel
theorem dX8_secret_12 : decode cX8_secret 12 = .ok (.invokestatic 92, 3) := by decide +kernel
theorem dX8_secret_15 : decode cX8_secret 15 = .ok (.ifCond .eq 24, 3) := by decide +kernel
theorem dX8_secret_18 : decode cX8_secret 18 = .ok (.iload_n 2, 1) := by decide +kernel
theorem dX8_secret_19 : decode cX8_secret 19 = .ok (.i2l, 1) := by decide +kernel
theorem dX8_secret_20 : decode cX8_secret 20 = .ok (.lconst 0, 1) := by decide +kernel
theorem dX8_secret_21 : decode cX8_secret 21 = .ok (.ldc2_w 106, 3) := by decide +kernel
theorem dX8_secret_24 : decode cX8_secret 24 = .ok (.invokestatic 92, 3) := by decide +kernel
theorem dX8_secret_27 : decode cX8_secret 27 = .ok (.ifCond .eq 12, 3) := by decide +kernel
theorem dX8_secret_30 : decode cX8_secret 30 = .ok (.aload_n 0, 1) := by decide +kernel
theorem dX8_secret_31 : decode cX8_secret 31 = .ok (.iload_n 1, 1) := by decide +kernel
theorem dX8_secret_32 : decode cX8_secret 32 = .ok (.iload_n 2, 1) := by decide +kernel
theorem dX8_secret_33 : decode cX8_secret 33 = .ok (.invokevirtual 278, 3) := by decide +kernel
theorem dX8_secret_36 : decode cX8_secret 36 = .ok (.goto 5, 3) := by decide +kernel
theorem dX8_secret_39 : decode cX8_secret 39 = .ok (.bipush (-2), 2) := by decide +kernel
theorem dX8_secret_41 : decode cX8_secret 41 = .ok (.ireturn, 1) := by decide +kernel
theorem dX8_write_0 : decode cX8_write 0 = .ok (.iload_n 1, 1) := by decide +kernel
theorem dX8_write_1 : decode cX8_write 1 = .ok (.invokestatic 102, 3) := by decide +kernel
theorem dX8_write_4 : decode cX8_write 4 = .ok (.ifCond .ne 6, 3) := by decide +kernel
theorem dX8_write_7 : decode cX8_write 7 = .ok (.bipush (-2), 2) := by decide +kernel
theorem dX8_write_9 : decode cX8_write 9 = .ok (.ireturn, 1) := by decide +kernel
theorem dX8_write_10 : decode cX8_write 10 = .ok (.aload_n 0, 1) := by decide +kernel
theorem dX8_write_11 : decode cX8_write 11 = .ok (.getfield 7, 3) := by decide +kernel
theorem dX8_write_14 : decode cX8_write 14 = .ok (.iload_n 1, 1) := by decide +kernel
theorem dX8_write_15 : decode cX8_write 15 = .ok (.iaload, 1) := by decide +kernel
theorem dX8_write_16 : decode cX8_write 16 = .ok (.ifCond .ge 9, 3) := by decide +kernel
theorem dX8_write_19 : decode cX8_write 19 = .ok (.aload_n 0, 1) := by decide +kernel
theorem dX8_write_20 : decode cX8_write 20 = .ok (.iconst 1, 1) := by decide +kernel
theorem dX8_write_21 : decode cX8_write 21 = .ok (.invokevirtual 108, 3) := by decide +kernel
theorem dX8_write_24 : decode cX8_write 24 = .ok (.ireturn, 1) := by decide +kernel
theorem dX8_write_25 : decode cX8_write 25 = .ok (.aload_n 0, 1) := by decide +kernel
theorem dX8_write_26 : decode cX8_write 26 = .ok (.invokevirtual 147, 3) := by decide +kernel
theorem dX8_write_29 : decode cX8_write 29 = .ok (.aload_n 0, 1) := by decide +kernel
theorem dX8_write_30 : decode cX8_write 30 = .ok (.getfield 13, 3) := by decide +kernel
theorem dX8_write_33 : decode cX8_write 33 = .ok (.iload_n 1, 1) := by decide +kernel
theorem dX8_write_34 : decode cX8_write 34 = .ok (.iaload, 1) := by decide +kernel
theorem dX8_write_35 : decode cX8_write 35 = .ok (.aload_n 0, 1) := by decide +kernel
theorem dX8_write_36 : decode cX8_write 36 = .ok (.invokevirtual 220, 3) := by decide +kernel
theorem dX8_write_39 : decode cX8_write 39 = .ok (.iconst 1, 1) := by decide +kernel
theorem dX8_write_40 : decode cX8_write 40 = .ok (.iadd, 1) := by decide +kernel
theorem dX8_write_41 : decode cX8_write 41 = .ok (.if_icmp .ge 12, 3) := by decide +kernel
theorem dX8_write_44 : decode cX8_write 44 = .ok (.aload_n 0, 1) := by decide +kernel
theorem dX8_write_45 : decode cX8_write 45 = .ok (.getfield 13, 3) := by decide +kernel
theorem dX8_write_48 : decode cX8_write 48 = .ok (.iload_n 1, 1) := by decide +kernel
theorem dX8_write_49 : decode cX8_write 49 = .ok (.iaload, 1) := by decide +kernel
theorem dX8_write_50 : decode cX8_write 50 = .ok (.goto 9, 3) := by decide +kernel
theorem dX8_write_53 : decode cX8_write 53 = .ok (.aload_n 0, 1) := by decide +kernel
theorem dX8_write_54 : decode cX8_write 54 = .ok (.invokevirtual 220, 3) := by decide +kernel
theorem dX8_write_57 : decode cX8_write 57 = .ok (.iconst 1, 1) := by decide +kernel
theorem dX8_write_58 : decode cX8_write 58 = .ok (.iadd, 1) := by decide +kernel
theorem dX8_write_59 : decode cX8_write 59 = .ok (.istore_n 2, 1) := by decide +kernel
theorem dX8_write_60 : decode cX8_write 60 = .ok (.iconst 0, 1) := by decide +kernel
theorem dX8_write_61 : decode cX8_write 61 = .ok (.istore_n 3, 1) := by decide +kernel
theorem dX8_write_62 : decode cX8_write 62 = .ok (.iload_n 3, 1) := by decide +kernel
theorem dX8_write_63 : decode cX8_write 63 = .ok (.iload_n 2, 1) := by decide +kernel
theorem dX8_write_64 : decode cX8_write 64 = .ok (.if_icmp .ge 34, 3) := by decide +kernel
theorem dX8_write_67 : decode cX8_write 67 = .ok (.aload_n 0, 1) := by decide +kernel
theorem dX8_write_68 : decode cX8_write 68 = .ok (.getfield 16, 3) := by decide +kernel
theorem dX8_write_71 : decode cX8_write 71 = .ok (.bipush 60, 2) := by decide +kernel
theorem dX8_write_73 : decode cX8_write 73 = .ok (.iload_n 1, 1) := by decide +kernel
theorem dX8_write_74 : decode cX8_write 74 = .ok (.imul, 1) := by decide +kernel
theorem dX8_write_75 : decode cX8_write 75 = .ok (.iload_n 3, 1) := by decide +kernel
theorem dX8_write_76 : decode cX8_write 76 = .ok (.iadd, 1) := by decide +kernel
theorem dX8_write_77 : decode cX8_write 77 = .ok (.aload_n 0, 1) := by decide +kernel
theorem dX8_write_78 : decode cX8_write 78 = .ok (.getfield 7, 3) := by decide +kernel
theorem dX8_write_81 : decode cX8_write 81 = .ok (.iload_n 1, 1) := by decide +kernel
theorem dX8_write_82 : decode cX8_write 82 = .ok (.iaload, 1) := by decide +kernel
theorem dX8_write_83 : decode cX8_write 83 = .ok (.aload_n 0, 1) := by decide +kernel
theorem dX8_write_84 : decode cX8_write 84 = .ok (.iload_n 3, 1) := by decide +kernel
theorem dX8_write_85 : decode cX8_write 85 = .ok (.invokevirtual 214, 3) := by decide +kernel
theorem dX8_write_88 : decode cX8_write 88 = .ok (.invokestatic 116, 3) := by decide +kernel
theorem dX8_write_91 : decode cX8_write 91 = .ok (.iastore, 1) := by decide +kernel
theorem dX8_write_92 : decode cX8_write 92 = .ok (.iinc 3 1, 3) := by decide +kernel
theorem dX8_write_95 : decode cX8_write 95 = .ok (.goto (-33), 3) := by decide +kernel
theorem dX8_write_98 : decode cX8_write 98 = .ok (.iload_n 2, 1) := by decide +kernel
theorem dX8_write_99 : decode cX8_write 99 = .ok (.ireturn, 1) := by decide +kernel
theorem dX8_count_0 : decode cX8_count 0 = .ok (.iconst 0, 1) := by decide +kernel
theorem dX8_count_1 : decode cX8_count 1 = .ok (.istore_n 2, 1) := by decide +kernel
theorem dX8_count_2 : decode cX8_count 2 = .ok (.aload_n 0, 1) := by decide +kernel
theorem dX8_count_3 : decode cX8_count 3 = .ok (.invokevirtual 147, 3) := by decide +kernel
theorem dX8_count_6 : decode cX8_count 6 = .ok (.aload_n 0, 1) := by decide +kernel
theorem dX8_count_7 : decode cX8_count 7 = .ok (.iconst (-1), 1) := by decide +kernel
theorem dX8_count_8 : decode cX8_count 8 = .ok (.invokevirtual 186, 3) := by decide +kernel
theorem dX8_count_11 : decode cX8_count 11 = .ok (.iload_n 1, 1) := by decide +kernel
theorem dX8_count_12 : decode cX8_count 12 = .ok (.tableswitch 136 0 8 #[52, 57, 62, 62, 71, 76, 81, 124, 131], 52) := by decide +kernel
theorem dX8_count_64 : decode cX8_count 64 = .ok (.aload_n 0, 1) := by decide +kernel
theorem dX8_count_65 : decode cX8_count 65 = .ok (.getfield 129, 3) := by decide +kernel
theorem dX8_count_68 : decode cX8_count 68 = .ok (.ireturn, 1) := by decide +kernel
theorem dX8_count_69 : decode cX8_count 69 = .ok (.aload_n 0, 1) := by decide +kernel
theorem dX8_count_70 : decode cX8_count 70 = .ok (.getfield 137, 3) := by decide +kernel
theorem dX8_count_73 : decode cX8_count 73 = .ok (.ireturn, 1) := by decide +kernel
theorem dX8_count_74 : decode cX8_count 74 = .ok (.aload_n 0, 1) := by decide +kernel
theorem dX8_count_75 : decode cX8_count 75 = .ok (.getfield 25, 3) := by decide +kernel
theorem dX8_count_78 : decode cX8_count 78 = .ok (.iload_n 1, 1) := by decide +kernel
theorem dX8_count_79 : decode cX8_count 79 = .ok (.iconst 2, 1) := by decide +kernel
theorem dX8_count_80 : decode cX8_count 80 = .ok (.isub, 1) := by decide +kernel
theorem dX8_count_81 : decode cX8_count 81 = .ok (.iaload, 1) := by decide +kernel
theorem dX8_count_82 : decode cX8_count 82 = .ok (.ireturn, 1) := by decide +kernel
theorem dX8_count_83 : decode cX8_count 83 = .ok (.aload_n 0, 1) := by decide +kernel
theorem dX8_count_84 : decode cX8_count 84 = .ok (.getfield 167, 3) := by decide +kernel
theorem dX8_count_87 : decode cX8_count 87 = .ok (.ireturn, 1) := by decide +kernel
theorem dX8_count_88 : decode cX8_count 88 = .ok (.aload_n 0, 1) := by decide +kernel
theorem dX8_count_89 : decode cX8_count 89 = .ok (.getfield 173, 3) := by decide +kernel
theorem dX8_count_92 : decode cX8_count 92 = .ok (.ireturn, 1) := by decide +kernel
theorem dX8_count_93 : decode cX8_count 93 = .ok (.aload_n 0, 1) := by decide +kernel
theorem dX8_count_94 : decode cX8_count 94 = .ok (.aload_n 0, 1) := by decide +kernel
theorem dX8_count_95 : decode cX8_count 95 = .ok (.invokevirtual 220, 3) := by decide +kernel
theorem dX8_count_98 : decode cX8_count 98 = .ok (.invokevirtual 208, 3) := by decide +kernel
theorem dX8_count_101 : decode cX8_count 101 = .ok (.iconst 0, 1) := by decide +kernel
theorem dX8_count_102 : decode cX8_count 102 = .ok (.istore_n 3, 1) := by decide +kernel
theorem dX8_count_103 : decode cX8_count 103 = .ok (.iload_n 3, 1) := by decide +kernel
theorem dX8_count_104 : decode cX8_count 104 = .ok (.aload_n 0, 1) := by decide +kernel
theorem dX8_count_105 : decode cX8_count 105 = .ok (.getfield 167, 3) := by decide +kernel
theorem dX8_count_108 : decode cX8_count 108 = .ok (.if_icmp .ge 26, 3) := by decide +kernel
theorem dX8_count_111 : decode cX8_count 111 = .ok (.iload_n 2, 1) := by decide +kernel
theorem dX8_count_112 : decode cX8_count 112 = .ok (.aload_n 0, 1) := by decide +kernel
theorem dX8_count_113 : decode cX8_count 113 = .ok (.getfield 64, 3) := by decide +kernel
theorem dX8_count_116 : decode cX8_count 116 = .ok (.iload_n 3, 1) := by decide +kernel
theorem dX8_count_117 : decode cX8_count 117 = .ok (.baload, 1) := by decide +kernel
theorem dX8_count_118 : decode cX8_count 118 = .ok (.ifCond .eq 7, 3) := by decide +kernel
theorem dX8_count_121 : decode cX8_count 121 = .ok (.iconst 1, 1) := by decide +kernel
theorem dX8_count_122 : decode cX8_count 122 = .ok (.goto 4, 3) := by decide +kernel
theorem dX8_count_125 : decode cX8_count 125 = .ok (.iconst 0, 1) := by decide +kernel
theorem dX8_count_126 : decode cX8_count 126 = .ok (.iadd, 1) := by decide +kernel
theorem dX8_count_127 : decode cX8_count 127 = .ok (.istore_n 2, 1) := by decide +kernel
theorem dX8_count_128 : decode cX8_count 128 = .ok (.iinc 3 1, 3) := by decide +kernel
theorem dX8_count_131 : decode cX8_count 131 = .ok (.goto (-28), 3) := by decide +kernel
theorem dX8_count_134 : decode cX8_count 134 = .ok (.iload_n 2, 1) := by decide +kernel
theorem dX8_count_135 : decode cX8_count 135 = .ok (.ireturn, 1) := by decide +kernel
theorem dX8_count_136 : decode cX8_count 136 = .ok (.aload_n 0, 1) := by decide +kernel
theorem dX8_count_137 : decode cX8_count 137 = .ok (.getfield 40, 3) := by decide +kernel
theorem dX8_count_140 : decode cX8_count 140 = .ok (.iconst 0, 1) := by decide +kernel
theorem dX8_count_141 : decode cX8_count 141 = .ok (.iaload, 1) := by decide +kernel
theorem dX8_count_142 : decode cX8_count 142 = .ok (.ireturn, 1) := by decide +kernel
theorem dX8_count_143 : decode cX8_count 143 = .ok (.aload_n 0, 1) := by decide +kernel
theorem dX8_count_144 : decode cX8_count 144 = .ok (.getfield 96, 3) := by decide +kernel
theorem dX8_count_147 : decode cX8_count 147 = .ok (.ireturn, 1) := by decide +kernel
theorem dX8_count_148 : decode cX8_count 148 = .ok (.bipush (-2), 2) := by decide +kernel
theorem dX8_count_150 : decode cX8_count 150 = .ok (.ireturn, 1) := by decide +kernel
theorem dX8_digest_0 : decode cX8_digest 0 = .ok (.ldc2_w 281, 3) := by decide +kernel
theorem dX8_digest_3 : decode cX8_digest 3 = .ok (.lstore_n 1, 1) := by decide +kernel
theorem dX8_digest_4 : decode cX8_digest 4 = .ok (.iconst 0, 1) := by decide +kernel
theorem dX8_digest_5 : decode cX8_digest 5 = .ok (.istore_n 3, 1) := by decide +kernel
theorem dX8_digest_6 : decode cX8_digest 6 = .ok (.iload_n 3, 1) := by decide +kernel
theorem dX8_digest_7 : decode cX8_digest 7 = .ok (.bipush 8, 2) := by decide +kernel
theorem dX8_digest_9 : decode cX8_digest 9 = .ok (.if_icmp .ge 22, 3) := by decide +kernel
theorem dX8_digest_12 : decode cX8_digest 12 = .ok (.ldc2_w 283, 3) := by decide +kernel
theorem dX8_digest_15 : decode cX8_digest 15 = .ok (.lload_n 1, 1) := by decide +kernel
theorem dX8_digest_16 : decode cX8_digest 16 = .ok (.lmul, 1) := by decide +kernel
theorem dX8_digest_17 : decode cX8_digest 17 = .ok (.aload_n 0, 1) := by decide +kernel
theorem dX8_digest_18 : decode cX8_digest 18 = .ok (.iload_n 3, 1) := by decide +kernel
theorem dX8_digest_19 : decode cX8_digest 19 = .ok (.invokevirtual 285, 3) := by decide +kernel
theorem dX8_digest_22 : decode cX8_digest 22 = .ok (.i2l, 1) := by decide +kernel
theorem dX8_digest_23 : decode cX8_digest 23 = .ok (.ladd, 1) := by decide +kernel
theorem dX8_digest_24 : decode cX8_digest 24 = .ok (.lstore_n 1, 1) := by decide +kernel
theorem dX8_digest_25 : decode cX8_digest 25 = .ok (.iinc 3 1, 3) := by decide +kernel
theorem dX8_digest_28 : decode cX8_digest 28 = .ok (.goto (-22), 3) := by decide +kernel
theorem dX8_digest_31 : decode cX8_digest 31 = .ok (.ldc2_w 283, 3) := by decide +kernel
theorem dX8_digest_34 : decode cX8_digest 34 = .ok (.lload_n 1, 1) := by decide +kernel
theorem dX8_digest_35 : decode cX8_digest 35 = .ok (.lmul, 1) := by decide +kernel
theorem dX8_digest_36 : decode cX8_digest 36 = .ok (.aload_n 0, 1) := by decide +kernel
theorem dX8_digest_37 : decode cX8_digest 37 = .ok (.invokevirtual 140, 3) := by decide +kernel
theorem dX8_digest_40 : decode cX8_digest 40 = .ok (.i2l, 1) := by decide +kernel
theorem dX8_digest_41 : decode cX8_digest 41 = .ok (.ladd, 1) := by decide +kernel
theorem dX8_digest_42 : decode cX8_digest 42 = .ok (.lstore_n 1, 1) := by decide +kernel
theorem dX8_digest_43 : decode cX8_digest 43 = .ok (.ldc2_w 283, 3) := by decide +kernel
theorem dX8_digest_46 : decode cX8_digest 46 = .ok (.lload_n 1, 1) := by decide +kernel
theorem dX8_digest_47 : decode cX8_digest 47 = .ok (.lmul, 1) := by decide +kernel
theorem dX8_digest_48 : decode cX8_digest 48 = .ok (.aload_n 0, 1) := by decide +kernel
theorem dX8_digest_49 : decode cX8_digest 49 = .ok (.invokevirtual 144, 3) := by decide +kernel
theorem dX8_digest_52 : decode cX8_digest 52 = .ok (.i2l, 1) := by decide +kernel
theorem dX8_digest_53 : decode cX8_digest 53 = .ok (.ladd, 1) := by decide +kernel
theorem dX8_digest_54 : decode cX8_digest 54 = .ok (.lstore_n 1, 1) := by decide +kernel
theorem dX8_digest_55 : decode cX8_digest 55 = .ok (.aload_n 0, 1) := by decide +kernel
theorem dX8_digest_56 : decode cX8_digest 56 = .ok (.iconst (-1), 1) := by decide +kernel
theorem dX8_digest_57 : decode cX8_digest 57 = .ok (.invokevirtual 186, 3) := by decide +kernel
theorem dX8_digest_60 : decode cX8_digest 60 = .ok (.ldc2_w 283, 3) := by decide +kernel
theorem dX8_digest_63 : decode cX8_digest 63 = .ok (.lload_n 1, 1) := by decide +kernel
theorem dX8_digest_64 : decode cX8_digest 64 = .ok (.lmul, 1) := by decide +kernel
theorem dX8_digest_65 : decode cX8_digest 65 = .ok (.aload_n 0, 1) := by decide +kernel
theorem dX8_digest_66 : decode cX8_digest 66 = .ok (.getfield 176, 3) := by decide +kernel
theorem dX8_digest_69 : decode cX8_digest 69 = .ok (.i2l, 1) := by decide +kernel
theorem dX8_digest_70 : decode cX8_digest 70 = .ok (.ladd, 1) := by decide +kernel
theorem dX8_digest_71 : decode cX8_digest 71 = .ok (.lstore_n 1, 1) := by decide +kernel
theorem dX8_digest_72 : decode cX8_digest 72 = .ok (.iconst 0, 1) := by decide +kernel
theorem dX8_digest_73 : decode cX8_digest 73 = .ok (.istore_n 3, 1) := by decide +kernel
theorem dX8_digest_74 : decode cX8_digest 74 = .ok (.iload_n 3, 1) := by decide +kernel
theorem dX8_digest_75 : decode cX8_digest 75 = .ok (.aload_n 0, 1) := by decide +kernel
theorem dX8_digest_76 : decode cX8_digest 76 = .ok (.getfield 129, 3) := by decide +kernel
theorem dX8_digest_79 : decode cX8_digest 79 = .ok (.if_icmp .ge 39, 3) := by decide +kernel
theorem dX8_digest_82 : decode cX8_digest 82 = .ok (.iconst 0, 1) := by decide +kernel
theorem dX8_digest_83 : decode cX8_digest 83 = .ok (.istore 4, 2) := by decide +kernel
theorem dX8_digest_85 : decode cX8_digest 85 = .ok (.iload 4, 2) := by decide +kernel
theorem dX8_digest_87 : decode cX8_digest 87 = .ok (.iconst 3, 1) := by decide +kernel
theorem dX8_digest_88 : decode cX8_digest 88 = .ok (.if_icmp .ge 24, 3) := by decide +kernel
theorem dX8_digest_91 : decode cX8_digest 91 = .ok (.ldc2_w 283, 3) := by decide +kernel
theorem dX8_digest_94 : decode cX8_digest 94 = .ok (.lload_n 1, 1) := by decide +kernel
theorem dX8_digest_95 : decode cX8_digest 95 = .ok (.lmul, 1) := by decide +kernel
theorem dX8_digest_96 : decode cX8_digest 96 = .ok (.aload_n 0, 1) := by decide +kernel
theorem dX8_digest_97 : decode cX8_digest 97 = .ok (.iload_n 3, 1) := by decide +kernel
theorem dX8_digest_98 : decode cX8_digest 98 = .ok (.iload 4, 2) := by decide +kernel
theorem dX8_digest_100 : decode cX8_digest 100 = .ok (.invokevirtual 190, 3) := by decide +kernel
theorem dX8_digest_103 : decode cX8_digest 103 = .ok (.i2l, 1) := by decide +kernel
theorem dX8_digest_104 : decode cX8_digest 104 = .ok (.ladd, 1) := by decide +kernel
theorem dX8_digest_105 : decode cX8_digest 105 = .ok (.lstore_n 1, 1) := by decide +kernel
theorem dX8_digest_106 : decode cX8_digest 106 = .ok (.iinc 4 1, 3) := by decide +kernel
theorem dX8_digest_109 : decode cX8_digest 109 = .ok (.goto (-24), 3) := by decide +kernel
theorem dX8_digest_112 : decode cX8_digest 112 = .ok (.iinc 3 1, 3) := by decide +kernel
theorem dX8_digest_115 : decode cX8_digest 115 = .ok (.goto (-41), 3) := by decide +kernel
theorem dX8_digest_118 : decode cX8_digest 118 = .ok (.iconst 0, 1) := by decide +kernel
theorem dX8_digest_119 : decode cX8_digest 119 = .ok (.istore_n 3, 1) := by decide +kernel
theorem dX8_digest_120 : decode cX8_digest 120 = .ok (.iload_n 3, 1) := by decide +kernel
theorem dX8_digest_121 : decode cX8_digest 121 = .ok (.aload_n 0, 1) := by decide +kernel
theorem dX8_digest_122 : decode cX8_digest 122 = .ok (.getfield 137, 3) := by decide +kernel
theorem dX8_digest_125 : decode cX8_digest 125 = .ok (.if_icmp .ge 39, 3) := by decide +kernel
theorem dX8_digest_128 : decode cX8_digest 128 = .ok (.iconst 0, 1) := by decide +kernel
theorem dX8_digest_129 : decode cX8_digest 129 = .ok (.istore 4, 2) := by decide +kernel
theorem dX8_digest_131 : decode cX8_digest 131 = .ok (.iload 4, 2) := by decide +kernel
theorem dX8_digest_133 : decode cX8_digest 133 = .ok (.iconst 3, 1) := by decide +kernel
theorem dX8_digest_134 : decode cX8_digest 134 = .ok (.if_icmp .ge 24, 3) := by decide +kernel
theorem dX8_digest_137 : decode cX8_digest 137 = .ok (.ldc2_w 283, 3) := by decide +kernel
theorem dX8_digest_140 : decode cX8_digest 140 = .ok (.lload_n 1, 1) := by decide +kernel
theorem dX8_digest_141 : decode cX8_digest 141 = .ok (.lmul, 1) := by decide +kernel
theorem dX8_digest_142 : decode cX8_digest 142 = .ok (.aload_n 0, 1) := by decide +kernel
theorem dX8_digest_143 : decode cX8_digest 143 = .ok (.iload_n 3, 1) := by decide +kernel
theorem dX8_digest_144 : decode cX8_digest 144 = .ok (.iload 4, 2) := by decide +kernel
theorem dX8_digest_146 : decode cX8_digest 146 = .ok (.invokevirtual 196, 3) := by decide +kernel
theorem dX8_digest_149 : decode cX8_digest 149 = .ok (.i2l, 1) := by decide +kernel
theorem dX8_digest_150 : decode cX8_digest 150 = .ok (.ladd, 1) := by decide +kernel
theorem dX8_digest_151 : decode cX8_digest 151 = .ok (.lstore_n 1, 1) := by decide +kernel
theorem dX8_digest_152 : decode cX8_digest 152 = .ok (.iinc 4 1, 3) := by decide +kernel
theorem dX8_digest_155 : decode cX8_digest 155 = .ok (.goto (-24), 3) := by decide +kernel
theorem dX8_digest_158 : decode cX8_digest 158 = .ok (.iinc 3 1, 3) := by decide +kernel
theorem dX8_digest_161 : decode cX8_digest 161 = .ok (.goto (-41), 3) := by decide +kernel
theorem dX8_digest_164 : decode cX8_digest 164 = .ok (.iconst 0, 1) := by decide +kernel
theorem dX8_digest_165 : decode cX8_digest 165 = .ok (.istore_n 3, 1) := by decide +kernel
theorem dX8_digest_166 : decode cX8_digest 166 = .ok (.iload_n 3, 1) := by decide +kernel
theorem dX8_digest_167 : decode cX8_digest 167 = .ok (.aload_n 0, 1) := by decide +kernel
theorem dX8_digest_168 : decode cX8_digest 168 = .ok (.getfield 167, 3) := by decide +kernel
theorem dX8_digest_171 : decode cX8_digest 171 = .ok (.if_icmp .ge 41, 3) := by decide +kernel
theorem dX8_digest_174 : decode cX8_digest 174 = .ok (.aload_n 0, 1) := by decide +kernel
theorem dX8_digest_175 : decode cX8_digest 175 = .ok (.iconst (-1), 1) := by decide +kernel
theorem dX8_digest_176 : decode cX8_digest 176 = .ok (.invokevirtual 186, 3) := by decide +kernel
theorem dX8_digest_179 : decode cX8_digest 179 = .ok (.ldc2_w 283, 3) := by decide +kernel
theorem dX8_digest_182 : decode cX8_digest 182 = .ok (.lload_n 1, 1) := by decide +kernel
theorem dX8_digest_183 : decode cX8_digest 183 = .ok (.lmul, 1) := by decide +kernel
theorem dX8_digest_184 : decode cX8_digest 184 = .ok (.aload_n 0, 1) := by decide +kernel
theorem dX8_digest_185 : decode cX8_digest 185 = .ok (.getfield 52, 3) := by decide +kernel
theorem dX8_digest_188 : decode cX8_digest 188 = .ok (.iload_n 3, 1) := by decide +kernel
theorem dX8_digest_189 : decode cX8_digest 189 = .ok (.iaload, 1) := by decide +kernel
theorem dX8_digest_190 : decode cX8_digest 190 = .ok (.i2l, 1) := by decide +kernel
theorem dX8_digest_191 : decode cX8_digest 191 = .ok (.ladd, 1) := by decide +kernel
theorem dX8_digest_192 : decode cX8_digest 192 = .ok (.lstore_n 1, 1) := by decide +kernel
theorem dX8_digest_193 : decode cX8_digest 193 = .ok (.ldc2_w 283, 3) := by decide +kernel
theorem dX8_digest_196 : decode cX8_digest 196 = .ok (.lload_n 1, 1) := by decide +kernel
theorem dX8_digest_197 : decode cX8_digest 197 = .ok (.lmul, 1) := by decide +kernel
theorem dX8_digest_198 : decode cX8_digest 198 = .ok (.aload_n 0, 1) := by decide +kernel
theorem dX8_digest_199 : decode cX8_digest 199 = .ok (.iload_n 3, 1) := by decide +kernel
theorem dX8_digest_200 : decode cX8_digest 200 = .ok (.invokevirtual 232, 3) := by decide +kernel
theorem dX8_digest_203 : decode cX8_digest 203 = .ok (.i2l, 1) := by decide +kernel
theorem dX8_digest_204 : decode cX8_digest 204 = .ok (.ladd, 1) := by decide +kernel
theorem dX8_digest_205 : decode cX8_digest 205 = .ok (.lstore_n 1, 1) := by decide +kernel
theorem dX8_digest_206 : decode cX8_digest 206 = .ok (.iinc 3 1, 3) := by decide +kernel
theorem dX8_digest_209 : decode cX8_digest 209 = .ok (.goto (-43), 3) := by decide +kernel
theorem dX8_digest_212 : decode cX8_digest 212 = .ok (.ldc2_w 283, 3) := by decide +kernel
theorem dX8_digest_215 : decode cX8_digest 215 = .ok (.lload_n 1, 1) := by decide +kernel
theorem dX8_digest_216 : decode cX8_digest 216 = .ok (.lmul, 1) := by decide +kernel
theorem dX8_digest_217 : decode cX8_digest 217 = .ok (.aload_n 0, 1) := by decide +kernel
theorem dX8_digest_218 : decode cX8_digest 218 = .ok (.iconst 3, 1) := by decide +kernel
theorem dX8_digest_219 : decode cX8_digest 219 = .ok (.invokevirtual 214, 3) := by decide +kernel
theorem dX8_digest_222 : decode cX8_digest 222 = .ok (.i2l, 1) := by decide +kernel
theorem dX8_digest_223 : decode cX8_digest 223 = .ok (.ladd, 1) := by decide +kernel
theorem dX8_digest_224 : decode cX8_digest 224 = .ok (.lstore_n 1, 1) := by decide +kernel
theorem dX8_digest_225 : decode cX8_digest 225 = .ok (.ldc2_w 283, 3) := by decide +kernel
theorem dX8_digest_228 : decode cX8_digest 228 = .ok (.lload_n 1, 1) := by decide +kernel
theorem dX8_digest_229 : decode cX8_digest 229 = .ok (.lmul, 1) := by decide +kernel
theorem dX8_digest_230 : decode cX8_digest 230 = .ok (.aload_n 0, 1) := by decide +kernel
theorem dX8_digest_231 : decode cX8_digest 231 = .ok (.aload_n 0, 1) := by decide +kernel
theorem dX8_digest_232 : decode cX8_digest 232 = .ok (.invokevirtual 220, 3) := by decide +kernel
theorem dX8_digest_235 : decode cX8_digest 235 = .ok (.invokevirtual 214, 3) := by decide +kernel
theorem dX8_digest_238 : decode cX8_digest 238 = .ok (.i2l, 1) := by decide +kernel
theorem dX8_digest_239 : decode cX8_digest 239 = .ok (.ladd, 1) := by decide +kernel
theorem dX8_digest_240 : decode cX8_digest 240 = .ok (.lstore_n 1, 1) := by decide +kernel
theorem dX8_digest_241 : decode cX8_digest 241 = .ok (.ldc2_w 283, 3) := by decide +kernel
theorem dX8_digest_244 : decode cX8_digest 244 = .ok (.lload_n 1, 1) := by decide +kernel
theorem dX8_digest_245 : decode cX8_digest 245 = .ok (.lmul, 1) := by decide +kernel
theorem dX8_digest_246 : decode cX8_digest 246 = .ok (.aload_n 0, 1) := by decide +kernel
theorem dX8_digest_247 : decode cX8_digest 247 = .ok (.getfield 61, 3) := by decide +kernel
theorem dX8_digest_250 : decode cX8_digest 250 = .ok (.iconst 5, 1) := by decide +kernel
theorem dX8_digest_251 : decode cX8_digest 251 = .ok (.iaload, 1) := by decide +kernel
theorem dX8_digest_252 : decode cX8_digest 252 = .ok (.i2l, 1) := by decide +kernel
theorem dX8_digest_253 : decode cX8_digest 253 = .ok (.ladd, 1) := by decide +kernel
theorem dX8_digest_254 : decode cX8_digest 254 = .ok (.lstore_n 1, 1) := by decide +kernel
theorem dX8_digest_255 : decode cX8_digest 255 = .ok (.ldc2_w 283, 3) := by decide +kernel
theorem dX8_digest_258 : decode cX8_digest 258 = .ok (.lload_n 1, 1) := by decide +kernel
theorem dX8_digest_259 : decode cX8_digest 259 = .ok (.lmul, 1) := by decide +kernel
theorem dX8_digest_260 : decode cX8_digest 260 = .ok (.aload_n 0, 1) := by decide +kernel
theorem dX8_digest_261 : decode cX8_digest 261 = .ok (.getfield 61, 3) := by decide +kernel
theorem dX8_digest_264 : decode cX8_digest 264 = .ok (.bipush 7, 2) := by decide +kernel
theorem dX8_digest_266 : decode cX8_digest 266 = .ok (.iaload, 1) := by decide +kernel
theorem dX8_digest_267 : decode cX8_digest 267 = .ok (.i2l, 1) := by decide +kernel
theorem dX8_digest_268 : decode cX8_digest 268 = .ok (.ladd, 1) := by decide +kernel
theorem dX8_digest_269 : decode cX8_digest 269 = .ok (.lstore_n 1, 1) := by decide +kernel
theorem dX8_digest_270 : decode cX8_digest 270 = .ok (.ldc2_w 283, 3) := by decide +kernel
theorem dX8_digest_273 : decode cX8_digest 273 = .ok (.lload_n 1, 1) := by decide +kernel
theorem dX8_digest_274 : decode cX8_digest 274 = .ok (.lmul, 1) := by decide +kernel
theorem dX8_digest_275 : decode cX8_digest 275 = .ok (.aload_n 0, 1) := by decide +kernel
theorem dX8_digest_276 : decode cX8_digest 276 = .ok (.getfield 199, 3) := by decide +kernel
theorem dX8_digest_279 : decode cX8_digest 279 = .ok (.i2l, 1) := by decide +kernel
theorem dX8_digest_280 : decode cX8_digest 280 = .ok (.ladd, 1) := by decide +kernel
theorem dX8_digest_281 : decode cX8_digest 281 = .ok (.lstore_n 1, 1) := by decide +kernel
theorem dX8_digest_282 : decode cX8_digest 282 = .ok (.ldc2_w 283, 3) := by decide +kernel
theorem dX8_digest_285 : decode cX8_digest 285 = .ok (.lload_n 1, 1) := by decide +kernel
theorem dX8_digest_286 : decode cX8_digest 286 = .ok (.lmul, 1) := by decide +kernel
theorem dX8_digest_287 : decode cX8_digest 287 = .ok (.aload_n 0, 1) := by decide +kernel
theorem dX8_digest_288 : decode cX8_digest 288 = .ok (.invokevirtual 223, 3) := by decide +kernel
theorem dX8_digest_291 : decode cX8_digest 291 = .ok (.i2l, 1) := by decide +kernel
theorem dX8_digest_292 : decode cX8_digest 292 = .ok (.ladd, 1) := by decide +kernel
theorem dX8_digest_293 : decode cX8_digest 293 = .ok (.lstore_n 1, 1) := by decide +kernel
theorem dX8_digest_294 : decode cX8_digest 294 = .ok (.iconst 0, 1) := by decide +kernel
theorem dX8_digest_295 : decode cX8_digest 295 = .ok (.istore_n 3, 1) := by decide +kernel
theorem dX8_digest_296 : decode cX8_digest 296 = .ok (.iload_n 3, 1) := by decide +kernel
theorem dX8_digest_297 : decode cX8_digest 297 = .ok (.iconst 3, 1) := by decide +kernel
theorem dX8_digest_298 : decode cX8_digest 298 = .ok (.if_icmp .ge 22, 3) := by decide +kernel
theorem dX8_digest_301 : decode cX8_digest 301 = .ok (.ldc2_w 283, 3) := by decide +kernel
theorem dX8_digest_304 : decode cX8_digest 304 = .ok (.lload_n 1, 1) := by decide +kernel
theorem dX8_digest_305 : decode cX8_digest 305 = .ok (.lmul, 1) := by decide +kernel
theorem dX8_digest_306 : decode cX8_digest 306 = .ok (.aload_n 0, 1) := by decide +kernel
theorem dX8_digest_307 : decode cX8_digest 307 = .ok (.iload_n 3, 1) := by decide +kernel
theorem dX8_digest_308 : decode cX8_digest 308 = .ok (.invokevirtual 229, 3) := by decide +kernel
theorem dX8_digest_311 : decode cX8_digest 311 = .ok (.i2l, 1) := by decide +kernel
theorem dX8_digest_312 : decode cX8_digest 312 = .ok (.ladd, 1) := by decide +kernel
theorem dX8_digest_313 : decode cX8_digest 313 = .ok (.lstore_n 1, 1) := by decide +kernel
theorem dX8_digest_314 : decode cX8_digest 314 = .ok (.iinc 3 1, 3) := by decide +kernel
theorem dX8_digest_317 : decode cX8_digest 317 = .ok (.goto (-21), 3) := by decide +kernel
theorem dX8_digest_320 : decode cX8_digest 320 = .ok (.ldc2_w 283, 3) := by decide +kernel
theorem dX8_digest_323 : decode cX8_digest 323 = .ok (.lload_n 1, 1) := by decide +kernel
theorem dX8_digest_324 : decode cX8_digest 324 = .ok (.lmul, 1) := by decide +kernel
theorem dX8_digest_325 : decode cX8_digest 325 = .ok (.aload_n 0, 1) := by decide +kernel
theorem dX8_digest_326 : decode cX8_digest 326 = .ok (.invokevirtual 238, 3) := by decide +kernel
theorem dX8_digest_329 : decode cX8_digest 329 = .ok (.i2l, 1) := by decide +kernel
theorem dX8_digest_330 : decode cX8_digest 330 = .ok (.ladd, 1) := by decide +kernel
theorem dX8_digest_331 : decode cX8_digest 331 = .ok (.lstore_n 1, 1) := by decide +kernel
theorem dX8_digest_332 : decode cX8_digest 332 = .ok (.ldc2_w 283, 3) := by decide +kernel
theorem dX8_digest_335 : decode cX8_digest 335 = .ok (.lload_n 1, 1) := by decide +kernel
theorem dX8_digest_336 : decode cX8_digest 336 = .ok (.lmul, 1) := by decide +kernel
theorem dX8_digest_337 : decode cX8_digest 337 = .ok (.aload_n 0, 1) := by decide +kernel
theorem dX8_digest_338 : decode cX8_digest 338 = .ok (.invokevirtual 288, 3) := by decide +kernel
theorem dX8_digest_341 : decode cX8_digest 341 = .ok (.i2l, 1) := by decide +kernel
theorem dX8_digest_342 : decode cX8_digest 342 = .ok (.ladd, 1) := by decide +kernel
theorem dX8_digest_343 : decode cX8_digest 343 = .ok (.lstore_n 1, 1) := by decide +kernel
theorem dX8_digest_344 : decode cX8_digest 344 = .ok (.ldc2_w 283, 3) := by decide +kernel
theorem dX8_digest_347 : decode cX8_digest 347 = .ok (.lload_n 1, 1) := by decide +kernel
theorem dX8_digest_348 : decode cX8_digest 348 = .ok (.lmul, 1) := by decide +kernel
theorem dX8_digest_349 : decode cX8_digest 349 = .ok (.aload_n 0, 1) := by decide +kernel
theorem dX8_digest_350 : decode cX8_digest 350 = .ok (.iconst 0, 1) := by decide +kernel
theorem dX8_digest_351 : decode cX8_digest 351 = .ok (.invokevirtual 253, 3) := by decide +kernel
theorem dX8_digest_354 : decode cX8_digest 354 = .ok (.i2l, 1) := by decide +kernel
theorem dX8_digest_355 : decode cX8_digest 355 = .ok (.ladd, 1) := by decide +kernel
theorem dX8_digest_356 : decode cX8_digest 356 = .ok (.lstore_n 1, 1) := by decide +kernel
theorem dX8_digest_357 : decode cX8_digest 357 = .ok (.ldc2_w 283, 3) := by decide +kernel
theorem dX8_digest_360 : decode cX8_digest 360 = .ok (.lload_n 1, 1) := by decide +kernel
theorem dX8_digest_361 : decode cX8_digest 361 = .ok (.lmul, 1) := by decide +kernel
theorem dX8_digest_362 : decode cX8_digest 362 = .ok (.aload_n 0, 1) := by decide +kernel
theorem dX8_digest_363 : decode cX8_digest 363 = .ok (.iconst 1, 1) := by decide +kernel
theorem dX8_digest_364 : decode cX8_digest 364 = .ok (.invokevirtual 253, 3) := by decide +kernel
theorem dX8_digest_367 : decode cX8_digest 367 = .ok (.i2l, 1) := by decide +kernel
theorem dX8_digest_368 : decode cX8_digest 368 = .ok (.ladd, 1) := by decide +kernel
theorem dX8_digest_369 : decode cX8_digest 369 = .ok (.lstore_n 1, 1) := by decide +kernel
theorem dX8_digest_370 : decode cX8_digest 370 = .ok (.iconst 0, 1) := by decide +kernel
theorem dX8_digest_371 : decode cX8_digest 371 = .ok (.istore_n 3, 1) := by decide +kernel
theorem dX8_digest_372 : decode cX8_digest 372 = .ok (.iload_n 3, 1) := by decide +kernel
theorem dX8_digest_373 : decode cX8_digest 373 = .ok (.iconst 2, 1) := by decide +kernel
theorem dX8_digest_374 : decode cX8_digest 374 = .ok (.if_icmp .ge 23, 3) := by decide +kernel
theorem dX8_digest_377 : decode cX8_digest 377 = .ok (.ldc2_w 283, 3) := by decide +kernel
theorem dX8_digest_380 : decode cX8_digest 380 = .ok (.lload_n 1, 1) := by decide +kernel
theorem dX8_digest_381 : decode cX8_digest 381 = .ok (.lmul, 1) := by decide +kernel
theorem dX8_digest_382 : decode cX8_digest 382 = .ok (.aload_n 0, 1) := by decide +kernel
theorem dX8_digest_383 : decode cX8_digest 383 = .ok (.iload_n 3, 1) := by decide +kernel
theorem dX8_digest_384 : decode cX8_digest 384 = .ok (.iconst (-1), 1) := by decide +kernel
theorem dX8_digest_385 : decode cX8_digest 385 = .ok (.invokevirtual 259, 3) := by decide +kernel
theorem dX8_digest_388 : decode cX8_digest 388 = .ok (.i2l, 1) := by decide +kernel
theorem dX8_digest_389 : decode cX8_digest 389 = .ok (.ladd, 1) := by decide +kernel
theorem dX8_digest_390 : decode cX8_digest 390 = .ok (.lstore_n 1, 1) := by decide +kernel
theorem dX8_digest_391 : decode cX8_digest 391 = .ok (.iinc 3 1, 3) := by decide +kernel
theorem dX8_digest_394 : decode cX8_digest 394 = .ok (.goto (-22), 3) := by decide +kernel
theorem dX8_digest_397 : decode cX8_digest 397 = .ok (.iconst 0, 1) := by decide +kernel
theorem dX8_digest_398 : decode cX8_digest 398 = .ok (.istore_n 3, 1) := by decide +kernel
theorem dX8_digest_399 : decode cX8_digest 399 = .ok (.iload_n 3, 1) := by decide +kernel
theorem dX8_digest_400 : decode cX8_digest 400 = .ok (.iconst 2, 1) := by decide +kernel
theorem dX8_digest_401 : decode cX8_digest 401 = .ok (.if_icmp .ge 22, 3) := by decide +kernel
theorem dX8_digest_404 : decode cX8_digest 404 = .ok (.ldc2_w 283, 3) := by decide +kernel
theorem dX8_digest_407 : decode cX8_digest 407 = .ok (.lload_n 1, 1) := by decide +kernel
theorem dX8_digest_408 : decode cX8_digest 408 = .ok (.lmul, 1) := by decide +kernel
theorem dX8_digest_409 : decode cX8_digest 409 = .ok (.aload_n 0, 1) := by decide +kernel
theorem dX8_digest_410 : decode cX8_digest 410 = .ok (.iload_n 3, 1) := by decide +kernel
theorem dX8_digest_411 : decode cX8_digest 411 = .ok (.invokevirtual 262, 3) := by decide +kernel
theorem dX8_digest_414 : decode cX8_digest 414 = .ok (.i2l, 1) := by decide +kernel
theorem dX8_digest_415 : decode cX8_digest 415 = .ok (.ladd, 1) := by decide +kernel
theorem dX8_digest_416 : decode cX8_digest 416 = .ok (.lstore_n 1, 1) := by decide +kernel
theorem dX8_digest_417 : decode cX8_digest 417 = .ok (.iinc 3 1, 3) := by decide +kernel
theorem dX8_digest_420 : decode cX8_digest 420 = .ok (.goto (-21), 3) := by decide +kernel
theorem dX8_digest_423 : decode cX8_digest 423 = .ok (.iconst 0, 1) := by decide +kernel
theorem dX8_digest_424 : decode cX8_digest 424 = .ok (.istore_n 3, 1) := by decide +kernel
theorem dX8_digest_425 : decode cX8_digest 425 = .ok (.iload_n 3, 1) := by decide +kernel
theorem dX8_digest_426 : decode cX8_digest 426 = .ok (.iconst 2, 1) := by decide +kernel
theorem dX8_digest_427 : decode cX8_digest 427 = .ok (.if_icmp .ge 23, 3) := by decide +kernel
theorem dX8_digest_430 : decode cX8_digest 430 = .ok (.ldc2_w 283, 3) := by decide +kernel
theorem dX8_digest_433 : decode cX8_digest 433 = .ok (.lload_n 1, 1) := by decide +kernel
theorem dX8_digest_434 : decode cX8_digest 434 = .ok (.lmul, 1) := by decide +kernel
theorem dX8_digest_435 : decode cX8_digest 435 = .ok (.aload_n 0, 1) := by decide +kernel
theorem dX8_digest_436 : decode cX8_digest 436 = .ok (.iconst 2, 1) := by decide +kernel
theorem dX8_digest_437 : decode cX8_digest 437 = .ok (.iload_n 3, 1) := by decide +kernel
theorem dX8_digest_438 : decode cX8_digest 438 = .ok (.invokevirtual 271, 3) := by decide +kernel
theorem dX8_digest_441 : decode cX8_digest 441 = .ok (.i2l, 1) := by decide +kernel
theorem dX8_digest_442 : decode cX8_digest 442 = .ok (.ladd, 1) := by decide +kernel
theorem dX8_digest_443 : decode cX8_digest 443 = .ok (.lstore_n 1, 1) := by decide +kernel
theorem dX8_digest_444 : decode cX8_digest 444 = .ok (.iinc 3 1, 3) := by decide +kernel
theorem dX8_digest_447 : decode cX8_digest 447 = .ok (.goto (-22), 3) := by decide +kernel
theorem dX8_digest_450 : decode cX8_digest 450 = .ok (.iconst 0, 1) := by decide +kernel
theorem dX8_digest_451 : decode cX8_digest 451 = .ok (.istore_n 3, 1) := by decide +kernel
theorem dX8_digest_452 : decode cX8_digest 452 = .ok (.iload_n 3, 1) := by decide +kernel
theorem dX8_digest_453 : decode cX8_digest 453 = .ok (.iconst 3, 1) := by decide +kernel
theorem dX8_digest_454 : decode cX8_digest 454 = .ok (.if_icmp .ge 23, 3) := by decide +kernel
theorem dX8_digest_457 : decode cX8_digest 457 = .ok (.ldc2_w 283, 3) := by decide +kernel
theorem dX8_digest_460 : decode cX8_digest 460 = .ok (.lload_n 1, 1) := by decide +kernel
theorem dX8_digest_461 : decode cX8_digest 461 = .ok (.lmul, 1) := by decide +kernel
theorem dX8_digest_462 : decode cX8_digest 462 = .ok (.aload_n 0, 1) := by decide +kernel
theorem dX8_digest_463 : decode cX8_digest 463 = .ok (.iconst 3, 1) := by decide +kernel
theorem dX8_digest_464 : decode cX8_digest 464 = .ok (.iload_n 3, 1) := by decide +kernel
theorem dX8_digest_465 : decode cX8_digest 465 = .ok (.invokevirtual 278, 3) := by decide +kernel
theorem dX8_digest_468 : decode cX8_digest 468 = .ok (.i2l, 1) := by decide +kernel
theorem dX8_digest_469 : decode cX8_digest 469 = .ok (.ladd, 1) := by decide +kernel
theorem dX8_digest_470 : decode cX8_digest 470 = .ok (.lstore_n 1, 1) := by decide +kernel
theorem dX8_digest_471 : decode cX8_digest 471 = .ok (.iinc 3 1, 3) := by decide +kernel
theorem dX8_digest_474 : decode cX8_digest 474 = .ok (.goto (-22), 3) := by decide +kernel
theorem dX8_digest_477 : decode cX8_digest 477 = .ok (.lload_n 1, 1) := by decide +kernel
theorem dX8_digest_478 : decode cX8_digest 478 = .ok (.lreturn, 1) := by decide +kernel
theorem dJ6_compare_7cf53_0 : decode cJ6_compare_7cf53 0 = .ok (.iload_n 0, 1) := by decide +kernel
theorem dJ6_compare_7cf53_1 : decode cJ6_compare_7cf53 1 = .ok (.iload_n 1, 1) := by decide +kernel
theorem dJ6_compare_7cf53_2 : decode cJ6_compare_7cf53 2 = .ok (.if_icmp .ge 7, 3) := by decide +kernel
theorem dJ6_compare_7cf53_5 : decode cJ6_compare_7cf53 5 = .ok (.iconst (-1), 1) := by decide +kernel
theorem dJ6_compare_7cf53_6 : decode cJ6_compare_7cf53 6 = .ok (.goto 13, 3) := by decide +kernel
theorem dJ6_compare_7cf53_9 : decode cJ6_compare_7cf53 9 = .ok (.iload_n 0, 1) := by decide +kernel
theorem dJ6_compare_7cf53_10 : decode cJ6_compare_7cf53 10 = .ok (.iload_n 1, 1) := by decide +kernel
theorem dJ6_compare_7cf53_11 : decode cJ6_compare_7cf53 11 = .ok (.if_icmp .ne 7, 3) := by decide +kernel
theorem dJ6_compare_7cf53_14 : decode cJ6_compare_7cf53 14 = .ok (.iconst 0, 1) := by decide +kernel
theorem dJ6_compare_7cf53_15 : decode cJ6_compare_7cf53 15 = .ok (.goto 4, 3) := by decide +kernel
theorem dJ6_compare_7cf53_18 : decode cJ6_compare_7cf53 18 = .ok (.iconst 1, 1) := by decide +kernel
theorem dJ6_compare_7cf53_19 : decode cJ6_compare_7cf53 19 = .ok (.ireturn, 1) := by decide +kernel
theorem dJ6_bitCount_0f7a4_0 : decode cJ6_bitCount_0f7a4 0 = .ok (.iload_n 0, 1) := by decide +kernel
theorem dJ6_bitCount_0f7a4_1 : decode cJ6_bitCount_0f7a4 1 = .ok (.iload_n 0, 1) := by decide +kernel
theorem dJ6_bitCount_0f7a4_2 : decode cJ6_bitCount_0f7a4 2 = .ok (.iconst 1, 1) := by decide +kernel
theorem dJ6_bitCount_0f7a4_3 : decode cJ6_bitCount_0f7a4 3 = .ok (.iushr, 1) := by decide +kernel
theorem dJ6_bitCount_0f7a4_4 : decode cJ6_bitCount_0f7a4 4 = .ok (.ldc_w 265, 3) := by decide +kernel
theorem dJ6_bitCount_0f7a4_7 : decode cJ6_bitCount_0f7a4 7 = .ok (.iand, 1) := by decide +kernel
theorem dJ6_bitCount_0f7a4_8 : decode cJ6_bitCount_0f7a4 8 = .ok (.isub, 1) := by decide +kernel
theorem dJ6_bitCount_0f7a4_9 : decode cJ6_bitCount_0f7a4 9 = .ok (.istore_n 0, 1) := by decide +kernel
theorem dJ6_bitCount_0f7a4_10 : decode cJ6_bitCount_0f7a4 10 = .ok (.iload_n 0, 1) := by decide +kernel
theorem dJ6_bitCount_0f7a4_11 : decode cJ6_bitCount_0f7a4 11 = .ok (.ldc_w 266, 3) := by decide +kernel
theorem dJ6_bitCount_0f7a4_14 : decode cJ6_bitCount_0f7a4 14 = .ok (.iand, 1) := by decide +kernel
theorem dJ6_bitCount_0f7a4_15 : decode cJ6_bitCount_0f7a4 15 = .ok (.iload_n 0, 1) := by decide +kernel
theorem dJ6_bitCount_0f7a4_16 : decode cJ6_bitCount_0f7a4 16 = .ok (.iconst 2, 1) := by decide +kernel
theorem dJ6_bitCount_0f7a4_17 : decode cJ6_bitCount_0f7a4 17 = .ok (.iushr, 1) := by decide +kernel
theorem dJ6_bitCount_0f7a4_18 : decode cJ6_bitCount_0f7a4 18 = .ok (.ldc_w 266, 3) := by decide +kernel
theorem dJ6_bitCount_0f7a4_21 : decode cJ6_bitCount_0f7a4 21 = .ok (.iand, 1) := by decide +kernel
theorem dJ6_bitCount_0f7a4_22 : decode cJ6_bitCount_0f7a4 22 = .ok (.iadd, 1) := by decide +kernel
theorem dJ6_bitCount_0f7a4_23 : decode cJ6_bitCount_0f7a4 23 = .ok (.istore_n 0, 1) := by decide +kernel
theorem dJ6_bitCount_0f7a4_24 : decode cJ6_bitCount_0f7a4 24 = .ok (.iload_n 0, 1) := by decide +kernel
theorem dJ6_bitCount_0f7a4_25 : decode cJ6_bitCount_0f7a4 25 = .ok (.iload_n 0, 1) := by decide +kernel
theorem dJ6_bitCount_0f7a4_26 : decode cJ6_bitCount_0f7a4 26 = .ok (.iconst 4, 1) := by decide +kernel
theorem dJ6_bitCount_0f7a4_27 : decode cJ6_bitCount_0f7a4 27 = .ok (.iushr, 1) := by decide +kernel
theorem dJ6_bitCount_0f7a4_28 : decode cJ6_bitCount_0f7a4 28 = .ok (.iadd, 1) := by decide +kernel
theorem dJ6_bitCount_0f7a4_29 : decode cJ6_bitCount_0f7a4 29 = .ok (.ldc_w 267, 3) := by decide +kernel
theorem dJ6_bitCount_0f7a4_32 : decode cJ6_bitCount_0f7a4 32 = .ok (.iand, 1) := by decide +kernel
theorem dJ6_bitCount_0f7a4_33 : decode cJ6_bitCount_0f7a4 33 = .ok (.istore_n 0, 1) := by decide +kernel
theorem dJ6_bitCount_0f7a4_34 : decode cJ6_bitCount_0f7a4 34 = .ok (.iload_n 0, 1) := by decide +kernel
theorem dJ6_bitCount_0f7a4_35 : decode cJ6_bitCount_0f7a4 35 = .ok (.iload_n 0, 1) := by decide +kernel
theorem dJ6_bitCount_0f7a4_36 : decode cJ6_bitCount_0f7a4 36 = .ok (.bipush 8, 2) := by decide +kernel
theorem dJ6_bitCount_0f7a4_38 : decode cJ6_bitCount_0f7a4 38 = .ok (.iushr, 1) := by decide +kernel
theorem dJ6_bitCount_0f7a4_39 : decode cJ6_bitCount_0f7a4 39 = .ok (.iadd, 1) := by decide +kernel
theorem dJ6_bitCount_0f7a4_40 : decode cJ6_bitCount_0f7a4 40 = .ok (.istore_n 0, 1) := by decide +kernel
theorem dJ6_bitCount_0f7a4_41 : decode cJ6_bitCount_0f7a4 41 = .ok (.iload_n 0, 1) := by decide +kernel
theorem dJ6_bitCount_0f7a4_42 : decode cJ6_bitCount_0f7a4 42 = .ok (.iload_n 0, 1) := by decide +kernel
theorem dJ6_bitCount_0f7a4_43 : decode cJ6_bitCount_0f7a4 43 = .ok (.bipush 16, 2) := by decide +kernel
theorem dJ6_bitCount_0f7a4_45 : decode cJ6_bitCount_0f7a4 45 = .ok (.iushr, 1) := by decide +kernel
theorem dJ6_bitCount_0f7a4_46 : decode cJ6_bitCount_0f7a4 46 = .ok (.iadd, 1) := by decide +kernel
theorem dJ6_bitCount_0f7a4_47 : decode cJ6_bitCount_0f7a4 47 = .ok (.istore_n 0, 1) := by decide +kernel
theorem dJ6_bitCount_0f7a4_48 : decode cJ6_bitCount_0f7a4 48 = .ok (.iload_n 0, 1) := by decide +kernel
theorem dJ6_bitCount_0f7a4_49 : decode cJ6_bitCount_0f7a4 49 = .ok (.bipush 63, 2) := by decide +kernel
theorem dJ6_bitCount_0f7a4_51 : decode cJ6_bitCount_0f7a4 51 = .ok (.iand, 1) := by decide +kernel
theorem dJ6_bitCount_0f7a4_52 : decode cJ6_bitCount_0f7a4 52 = .ok (.ireturn, 1) := by decide +kernel
theorem dJ9_abs_0f7a4_0 : decode cJ9_abs_0f7a4 0 = .ok (.iload_n 0, 1) := by decide +kernel
theorem dJ9_abs_0f7a4_1 : decode cJ9_abs_0f7a4 1 = .ok (.ifCond .ge 8, 3) := by decide +kernel
theorem dJ9_abs_0f7a4_4 : decode cJ9_abs_0f7a4 4 = .ok (.iload_n 0, 1) := by decide +kernel
theorem dJ9_abs_0f7a4_5 : decode cJ9_abs_0f7a4 5 = .ok (.ineg, 1) := by decide +kernel
theorem dJ9_abs_0f7a4_6 : decode cJ9_abs_0f7a4 6 = .ok (.goto 4, 3) := by decide +kernel
theorem dJ9_abs_0f7a4_9 : decode cJ9_abs_0f7a4 9 = .ok (.iload_n 0, 1) := by decide +kernel
theorem dJ9_abs_0f7a4_10 : decode cJ9_abs_0f7a4 10 = .ok (.ireturn, 1) := by decide +kernel
theorem dJ9_max_7cf53_0 : decode cJ9_max_7cf53 0 = .ok (.iload_n 0, 1) := by decide +kernel
theorem dJ9_max_7cf53_1 : decode cJ9_max_7cf53 1 = .ok (.iload_n 1, 1) := by decide +kernel
theorem dJ9_max_7cf53_2 : decode cJ9_max_7cf53 2 = .ok (.if_icmp .lt 7, 3) := by decide +kernel
theorem dJ9_max_7cf53_5 : decode cJ9_max_7cf53 5 = .ok (.iload_n 0, 1) := by decide +kernel
theorem dJ9_max_7cf53_6 : decode cJ9_max_7cf53 6 = .ok (.goto 4, 3) := by decide +kernel
theorem dJ9_max_7cf53_9 : decode cJ9_max_7cf53 9 = .ok (.iload_n 1, 1) := by decide +kernel
theorem dJ9_max_7cf53_10 : decode cJ9_max_7cf53 10 = .ok (.ireturn, 1) := by decide +kernel
theorem dJ9_min_7cf53_0 : decode cJ9_min_7cf53 0 = .ok (.iload_n 0, 1) := by decide +kernel
theorem dJ9_min_7cf53_1 : decode cJ9_min_7cf53 1 = .ok (.iload_n 1, 1) := by decide +kernel
theorem dJ9_min_7cf53_2 : decode cJ9_min_7cf53 2 = .ok (.if_icmp .gt 7, 3) := by decide +kernel
theorem dJ9_min_7cf53_5 : decode cJ9_min_7cf53 5 = .ok (.iload_n 0, 1) := by decide +kernel
theorem dJ9_min_7cf53_6 : decode cJ9_min_7cf53 6 = .ok (.goto 4, 3) := by decide +kernel
theorem dJ9_min_7cf53_9 : decode cJ9_min_7cf53 9 = .ok (.iload_n 1, 1) := by decide +kernel
theorem dJ9_min_7cf53_10 : decode cJ9_min_7cf53 10 = .ok (.ireturn, 1) := by decide +kernel
theorem dJ7_fill_53178_0 : decode cJ7_fill_53178 0 = .ok (.iconst 0, 1) := by decide +kernel
theorem dJ7_fill_53178_1 : decode cJ7_fill_53178 1 = .ok (.istore_n 2, 1) := by decide +kernel
theorem dJ7_fill_53178_2 : decode cJ7_fill_53178 2 = .ok (.aload_n 0, 1) := by decide +kernel
theorem dJ7_fill_53178_3 : decode cJ7_fill_53178 3 = .ok (.arraylength, 1) := by decide +kernel
theorem dJ7_fill_53178_4 : decode cJ7_fill_53178 4 = .ok (.istore_n 3, 1) := by decide +kernel
theorem dJ7_fill_53178_5 : decode cJ7_fill_53178 5 = .ok (.iload_n 2, 1) := by decide +kernel
theorem dJ7_fill_53178_6 : decode cJ7_fill_53178 6 = .ok (.iload_n 3, 1) := by decide +kernel
theorem dJ7_fill_53178_7 : decode cJ7_fill_53178 7 = .ok (.if_icmp .ge 13, 3) := by decide +kernel
theorem dJ7_fill_53178_10 : decode cJ7_fill_53178 10 = .ok (.aload_n 0, 1) := by decide +kernel
theorem dJ7_fill_53178_11 : decode cJ7_fill_53178 11 = .ok (.iload_n 2, 1) := by decide +kernel
theorem dJ7_fill_53178_12 : decode cJ7_fill_53178 12 = .ok (.iload_n 1, 1) := by decide +kernel
theorem dJ7_fill_53178_13 : decode cJ7_fill_53178 13 = .ok (.iastore, 1) := by decide +kernel
theorem dJ7_fill_53178_14 : decode cJ7_fill_53178 14 = .ok (.iinc 2 1, 3) := by decide +kernel
theorem dJ7_fill_53178_17 : decode cJ7_fill_53178 17 = .ok (.goto (-12), 3) := by decide +kernel
theorem dJ7_fill_53178_20 : decode cJ7_fill_53178 20 = .ok (.return_, 1) := by decide +kernel
theorem dL_law_0 : decode cL_law 0 = .ok (.new 7, 3) := by decide +kernel
theorem dL_law_3 : decode cL_law 3 = .ok (.dup, 1) := by decide +kernel
theorem dL_law_4 : decode cL_law 4 = .ok (.invokespecial 9, 3) := by decide +kernel
theorem dL_law_7 : decode cL_law 7 = .ok (.astore_n 1, 1) := by decide +kernel
theorem dL_law_8 : decode cL_law 8 = .ok (.new 10, 3) := by decide +kernel
theorem dL_law_11 : decode cL_law 11 = .ok (.dup, 1) := by decide +kernel
theorem dL_law_12 : decode cL_law 12 = .ok (.invokespecial 12, 3) := by decide +kernel
theorem dL_law_15 : decode cL_law 15 = .ok (.astore_n 2, 1) := by decide +kernel
theorem dL_law_16 : decode cL_law 16 = .ok (.iconst 0, 1) := by decide +kernel
theorem dL_law_17 : decode cL_law 17 = .ok (.istore_n 3, 1) := by decide +kernel
theorem dL_law_18 : decode cL_law 18 = .ok (.iload_n 3, 1) := by decide +kernel
theorem dL_law_19 : decode cL_law 19 = .ok (.aload_n 0, 1) := by decide +kernel
theorem dL_law_20 : decode cL_law 20 = .ok (.arraylength, 1) := by decide +kernel
theorem dL_law_21 : decode cL_law 21 = .ok (.bipush 6, 2) := by decide +kernel
theorem dL_law_23 : decode cL_law 23 = .ok (.isub, 1) := by decide +kernel
theorem dL_law_24 : decode cL_law 24 = .ok (.if_icmp .gt 1119, 3) := by decide +kernel
theorem dL_law_27 : decode cL_law 27 = .ok (.aload_n 0, 1) := by decide +kernel
theorem dL_law_28 : decode cL_law 28 = .ok (.iload_n 3, 1) := by decide +kernel
theorem dL_law_29 : decode cL_law 29 = .ok (.iaload, 1) := by decide +kernel
theorem dL_law_30 : decode cL_law 30 = .ok (.bipush 63, 2) := by decide +kernel
theorem dL_law_32 : decode cL_law 32 = .ok (.iand, 1) := by decide +kernel
theorem dL_law_33 : decode cL_law 33 = .ok (.tableswitch 1104 0 33 #[151, 184, 207, 230, 263, 296, 329, 362, 405, 428, 441, 454, 477, 500, 543, 566, 579, 602, 625, 638, 651, 674, 697, 720, 753, 786, 819, 862, 885, 938, 981, 1044, 1067, 1090], 151) := by decide +kernel
theorem dL_law_184 : decode cL_law 184 = .ok (.aload_n 1, 1) := by decide +kernel
theorem dL_law_185 : decode cL_law 185 = .ok (.aload_n 0, 1) := by decide +kernel
theorem dL_law_186 : decode cL_law 186 = .ok (.iload_n 3, 1) := by decide +kernel
theorem dL_law_187 : decode cL_law 187 = .ok (.iconst 1, 1) := by decide +kernel
theorem dL_law_188 : decode cL_law 188 = .ok (.iadd, 1) := by decide +kernel
theorem dL_law_189 : decode cL_law 189 = .ok (.iaload, 1) := by decide +kernel
theorem dL_law_190 : decode cL_law 190 = .ok (.aload_n 0, 1) := by decide +kernel
theorem dL_law_191 : decode cL_law 191 = .ok (.iload_n 3, 1) := by decide +kernel
theorem dL_law_192 : decode cL_law 192 = .ok (.iconst 2, 1) := by decide +kernel
theorem dL_law_193 : decode cL_law 193 = .ok (.iadd, 1) := by decide +kernel
theorem dL_law_194 : decode cL_law 194 = .ok (.iaload, 1) := by decide +kernel
theorem dL_law_195 : decode cL_law 195 = .ok (.invokevirtual 13, 3) := by decide +kernel
theorem dL_law_198 : decode cL_law 198 = .ok (.aload_n 2, 1) := by decide +kernel
theorem dL_law_199 : decode cL_law 199 = .ok (.aload_n 0, 1) := by decide +kernel
theorem dL_law_200 : decode cL_law 200 = .ok (.iload_n 3, 1) := by decide +kernel
theorem dL_law_201 : decode cL_law 201 = .ok (.iconst 1, 1) := by decide +kernel
theorem dL_law_202 : decode cL_law 202 = .ok (.iadd, 1) := by decide +kernel
theorem dL_law_203 : decode cL_law 203 = .ok (.iaload, 1) := by decide +kernel
theorem dL_law_204 : decode cL_law 204 = .ok (.aload_n 0, 1) := by decide +kernel
theorem dL_law_205 : decode cL_law 205 = .ok (.iload_n 3, 1) := by decide +kernel
theorem dL_law_206 : decode cL_law 206 = .ok (.iconst 2, 1) := by decide +kernel
theorem dL_law_207 : decode cL_law 207 = .ok (.iadd, 1) := by decide +kernel
theorem dL_law_208 : decode cL_law 208 = .ok (.iaload, 1) := by decide +kernel
theorem dL_law_209 : decode cL_law 209 = .ok (.invokevirtual 17, 3) := by decide +kernel
theorem dL_law_212 : decode cL_law 212 = .ok (.if_icmp .eq 925, 3) := by decide +kernel
theorem dL_law_215 : decode cL_law 215 = .ok (.iconst 0, 1) := by decide +kernel
theorem dL_law_216 : decode cL_law 216 = .ok (.ireturn, 1) := by decide +kernel
theorem dL_law_217 : decode cL_law 217 = .ok (.aload_n 1, 1) := by decide +kernel
theorem dL_law_218 : decode cL_law 218 = .ok (.aload_n 0, 1) := by decide +kernel
theorem dL_law_219 : decode cL_law 219 = .ok (.iload_n 3, 1) := by decide +kernel
theorem dL_law_220 : decode cL_law 220 = .ok (.iconst 1, 1) := by decide +kernel
theorem dL_law_221 : decode cL_law 221 = .ok (.iadd, 1) := by decide +kernel
theorem dL_law_222 : decode cL_law 222 = .ok (.iaload, 1) := by decide +kernel
theorem dL_law_223 : decode cL_law 223 = .ok (.invokevirtual 18, 3) := by decide +kernel
theorem dL_law_226 : decode cL_law 226 = .ok (.aload_n 2, 1) := by decide +kernel
theorem dL_law_227 : decode cL_law 227 = .ok (.aload_n 0, 1) := by decide +kernel
theorem dL_law_228 : decode cL_law 228 = .ok (.iload_n 3, 1) := by decide +kernel
theorem dL_law_229 : decode cL_law 229 = .ok (.iconst 1, 1) := by decide +kernel
theorem dL_law_230 : decode cL_law 230 = .ok (.iadd, 1) := by decide +kernel
theorem dL_law_231 : decode cL_law 231 = .ok (.iaload, 1) := by decide +kernel
theorem dL_law_232 : decode cL_law 232 = .ok (.invokevirtual 22, 3) := by decide +kernel
theorem dL_law_235 : decode cL_law 235 = .ok (.if_icmp .eq 902, 3) := by decide +kernel
theorem dL_law_238 : decode cL_law 238 = .ok (.iconst 0, 1) := by decide +kernel
theorem dL_law_239 : decode cL_law 239 = .ok (.ireturn, 1) := by decide +kernel
theorem dL_law_240 : decode cL_law 240 = .ok (.aload_n 1, 1) := by decide +kernel
theorem dL_law_241 : decode cL_law 241 = .ok (.aload_n 0, 1) := by decide +kernel
theorem dL_law_242 : decode cL_law 242 = .ok (.iload_n 3, 1) := by decide +kernel
theorem dL_law_243 : decode cL_law 243 = .ok (.iconst 1, 1) := by decide +kernel
theorem dL_law_244 : decode cL_law 244 = .ok (.iadd, 1) := by decide +kernel
theorem dL_law_245 : decode cL_law 245 = .ok (.iaload, 1) := by decide +kernel
theorem dL_law_246 : decode cL_law 246 = .ok (.invokevirtual 23, 3) := by decide +kernel
theorem dL_law_249 : decode cL_law 249 = .ok (.aload_n 2, 1) := by decide +kernel
theorem dL_law_250 : decode cL_law 250 = .ok (.aload_n 0, 1) := by decide +kernel
theorem dL_law_251 : decode cL_law 251 = .ok (.iload_n 3, 1) := by decide +kernel
theorem dL_law_252 : decode cL_law 252 = .ok (.iconst 1, 1) := by decide +kernel
theorem dL_law_253 : decode cL_law 253 = .ok (.iadd, 1) := by decide +kernel
theorem dL_law_254 : decode cL_law 254 = .ok (.iaload, 1) := by decide +kernel
theorem dL_law_255 : decode cL_law 255 = .ok (.invokevirtual 26, 3) := by decide +kernel
theorem dL_law_258 : decode cL_law 258 = .ok (.if_icmp .eq 879, 3) := by decide +kernel
theorem dL_law_261 : decode cL_law 261 = .ok (.iconst 0, 1) := by decide +kernel
theorem dL_law_262 : decode cL_law 262 = .ok (.ireturn, 1) := by decide +kernel
theorem dL_law_263 : decode cL_law 263 = .ok (.aload_n 1, 1) := by decide +kernel
theorem dL_law_264 : decode cL_law 264 = .ok (.aload_n 0, 1) := by decide +kernel
theorem dL_law_265 : decode cL_law 265 = .ok (.iload_n 3, 1) := by decide +kernel
theorem dL_law_266 : decode cL_law 266 = .ok (.iconst 1, 1) := by decide +kernel
theorem dL_law_267 : decode cL_law 267 = .ok (.iadd, 1) := by decide +kernel
theorem dL_law_268 : decode cL_law 268 = .ok (.iaload, 1) := by decide +kernel
theorem dL_law_269 : decode cL_law 269 = .ok (.aload_n 0, 1) := by decide +kernel
theorem dL_law_270 : decode cL_law 270 = .ok (.iload_n 3, 1) := by decide +kernel
theorem dL_law_271 : decode cL_law 271 = .ok (.iconst 2, 1) := by decide +kernel
theorem dL_law_272 : decode cL_law 272 = .ok (.iadd, 1) := by decide +kernel
theorem dL_law_273 : decode cL_law 273 = .ok (.iaload, 1) := by decide +kernel
theorem dL_law_274 : decode cL_law 274 = .ok (.invokevirtual 27, 3) := by decide +kernel
theorem dL_law_277 : decode cL_law 277 = .ok (.aload_n 2, 1) := by decide +kernel
theorem dL_law_278 : decode cL_law 278 = .ok (.aload_n 0, 1) := by decide +kernel
theorem dL_law_279 : decode cL_law 279 = .ok (.iload_n 3, 1) := by decide +kernel
theorem dL_law_280 : decode cL_law 280 = .ok (.iconst 1, 1) := by decide +kernel
theorem dL_law_281 : decode cL_law 281 = .ok (.iadd, 1) := by decide +kernel
theorem dL_law_282 : decode cL_law 282 = .ok (.iaload, 1) := by decide +kernel
theorem dL_law_283 : decode cL_law 283 = .ok (.aload_n 0, 1) := by decide +kernel
theorem dL_law_284 : decode cL_law 284 = .ok (.iload_n 3, 1) := by decide +kernel
theorem dL_law_285 : decode cL_law 285 = .ok (.iconst 2, 1) := by decide +kernel
theorem dL_law_286 : decode cL_law 286 = .ok (.iadd, 1) := by decide +kernel
theorem dL_law_287 : decode cL_law 287 = .ok (.iaload, 1) := by decide +kernel
theorem dL_law_288 : decode cL_law 288 = .ok (.invokevirtual 30, 3) := by decide +kernel
theorem dL_law_291 : decode cL_law 291 = .ok (.if_icmp .eq 846, 3) := by decide +kernel
theorem dL_law_294 : decode cL_law 294 = .ok (.iconst 0, 1) := by decide +kernel
theorem dL_law_295 : decode cL_law 295 = .ok (.ireturn, 1) := by decide +kernel
theorem dL_law_296 : decode cL_law 296 = .ok (.aload_n 1, 1) := by decide +kernel
theorem dL_law_297 : decode cL_law 297 = .ok (.aload_n 0, 1) := by decide +kernel
theorem dL_law_298 : decode cL_law 298 = .ok (.iload_n 3, 1) := by decide +kernel
theorem dL_law_299 : decode cL_law 299 = .ok (.iconst 1, 1) := by decide +kernel
theorem dL_law_300 : decode cL_law 300 = .ok (.iadd, 1) := by decide +kernel
theorem dL_law_301 : decode cL_law 301 = .ok (.iaload, 1) := by decide +kernel
theorem dL_law_302 : decode cL_law 302 = .ok (.aload_n 0, 1) := by decide +kernel
theorem dL_law_303 : decode cL_law 303 = .ok (.iload_n 3, 1) := by decide +kernel
theorem dL_law_304 : decode cL_law 304 = .ok (.iconst 2, 1) := by decide +kernel
theorem dL_law_305 : decode cL_law 305 = .ok (.iadd, 1) := by decide +kernel
theorem dL_law_306 : decode cL_law 306 = .ok (.iaload, 1) := by decide +kernel
theorem dL_law_307 : decode cL_law 307 = .ok (.invokevirtual 31, 3) := by decide +kernel
theorem dL_law_310 : decode cL_law 310 = .ok (.aload_n 2, 1) := by decide +kernel
theorem dL_law_311 : decode cL_law 311 = .ok (.aload_n 0, 1) := by decide +kernel
theorem dL_law_312 : decode cL_law 312 = .ok (.iload_n 3, 1) := by decide +kernel
theorem dL_law_313 : decode cL_law 313 = .ok (.iconst 1, 1) := by decide +kernel
theorem dL_law_314 : decode cL_law 314 = .ok (.iadd, 1) := by decide +kernel
theorem dL_law_315 : decode cL_law 315 = .ok (.iaload, 1) := by decide +kernel
theorem dL_law_316 : decode cL_law 316 = .ok (.aload_n 0, 1) := by decide +kernel
theorem dL_law_317 : decode cL_law 317 = .ok (.iload_n 3, 1) := by decide +kernel
theorem dL_law_318 : decode cL_law 318 = .ok (.iconst 2, 1) := by decide +kernel
theorem dL_law_319 : decode cL_law 319 = .ok (.iadd, 1) := by decide +kernel
theorem dL_law_320 : decode cL_law 320 = .ok (.iaload, 1) := by decide +kernel
theorem dL_law_321 : decode cL_law 321 = .ok (.invokevirtual 34, 3) := by decide +kernel
theorem dL_law_324 : decode cL_law 324 = .ok (.if_icmp .eq 813, 3) := by decide +kernel
theorem dL_law_327 : decode cL_law 327 = .ok (.iconst 0, 1) := by decide +kernel
theorem dL_law_328 : decode cL_law 328 = .ok (.ireturn, 1) := by decide +kernel
theorem dL_law_329 : decode cL_law 329 = .ok (.aload_n 1, 1) := by decide +kernel
theorem dL_law_330 : decode cL_law 330 = .ok (.aload_n 0, 1) := by decide +kernel
theorem dL_law_331 : decode cL_law 331 = .ok (.iload_n 3, 1) := by decide +kernel
theorem dL_law_332 : decode cL_law 332 = .ok (.iconst 1, 1) := by decide +kernel
theorem dL_law_333 : decode cL_law 333 = .ok (.iadd, 1) := by decide +kernel
theorem dL_law_334 : decode cL_law 334 = .ok (.iaload, 1) := by decide +kernel
theorem dL_law_335 : decode cL_law 335 = .ok (.aload_n 0, 1) := by decide +kernel
theorem dL_law_336 : decode cL_law 336 = .ok (.iload_n 3, 1) := by decide +kernel
theorem dL_law_337 : decode cL_law 337 = .ok (.iconst 2, 1) := by decide +kernel
theorem dL_law_338 : decode cL_law 338 = .ok (.iadd, 1) := by decide +kernel
theorem dL_law_339 : decode cL_law 339 = .ok (.iaload, 1) := by decide +kernel
theorem dL_law_340 : decode cL_law 340 = .ok (.invokevirtual 35, 3) := by decide +kernel
theorem dL_law_343 : decode cL_law 343 = .ok (.aload_n 2, 1) := by decide +kernel
theorem dL_law_344 : decode cL_law 344 = .ok (.aload_n 0, 1) := by decide +kernel
theorem dL_law_345 : decode cL_law 345 = .ok (.iload_n 3, 1) := by decide +kernel
theorem dL_law_346 : decode cL_law 346 = .ok (.iconst 1, 1) := by decide +kernel
theorem dL_law_347 : decode cL_law 347 = .ok (.iadd, 1) := by decide +kernel
theorem dL_law_348 : decode cL_law 348 = .ok (.iaload, 1) := by decide +kernel
theorem dL_law_349 : decode cL_law 349 = .ok (.aload_n 0, 1) := by decide +kernel
theorem dL_law_350 : decode cL_law 350 = .ok (.iload_n 3, 1) := by decide +kernel
theorem dL_law_351 : decode cL_law 351 = .ok (.iconst 2, 1) := by decide +kernel
theorem dL_law_352 : decode cL_law 352 = .ok (.iadd, 1) := by decide +kernel
theorem dL_law_353 : decode cL_law 353 = .ok (.iaload, 1) := by decide +kernel
theorem dL_law_354 : decode cL_law 354 = .ok (.invokevirtual 38, 3) := by decide +kernel
theorem dL_law_357 : decode cL_law 357 = .ok (.if_icmp .eq 780, 3) := by decide +kernel
theorem dL_law_360 : decode cL_law 360 = .ok (.iconst 0, 1) := by decide +kernel
theorem dL_law_361 : decode cL_law 361 = .ok (.ireturn, 1) := by decide +kernel
theorem dL_law_362 : decode cL_law 362 = .ok (.aload_n 1, 1) := by decide +kernel
theorem dL_law_363 : decode cL_law 363 = .ok (.aload_n 0, 1) := by decide +kernel
theorem dL_law_364 : decode cL_law 364 = .ok (.iload_n 3, 1) := by decide +kernel
theorem dL_law_365 : decode cL_law 365 = .ok (.iconst 1, 1) := by decide +kernel
theorem dL_law_366 : decode cL_law 366 = .ok (.iadd, 1) := by decide +kernel
theorem dL_law_367 : decode cL_law 367 = .ok (.iaload, 1) := by decide +kernel
theorem dL_law_368 : decode cL_law 368 = .ok (.aload_n 0, 1) := by decide +kernel
theorem dL_law_369 : decode cL_law 369 = .ok (.iload_n 3, 1) := by decide +kernel
theorem dL_law_370 : decode cL_law 370 = .ok (.iconst 2, 1) := by decide +kernel
theorem dL_law_371 : decode cL_law 371 = .ok (.iadd, 1) := by decide +kernel
theorem dL_law_372 : decode cL_law 372 = .ok (.iaload, 1) := by decide +kernel
theorem dL_law_373 : decode cL_law 373 = .ok (.invokevirtual 39, 3) := by decide +kernel
theorem dL_law_376 : decode cL_law 376 = .ok (.aload_n 2, 1) := by decide +kernel
theorem dL_law_377 : decode cL_law 377 = .ok (.aload_n 0, 1) := by decide +kernel
theorem dL_law_378 : decode cL_law 378 = .ok (.iload_n 3, 1) := by decide +kernel
theorem dL_law_379 : decode cL_law 379 = .ok (.iconst 1, 1) := by decide +kernel
theorem dL_law_380 : decode cL_law 380 = .ok (.iadd, 1) := by decide +kernel
theorem dL_law_381 : decode cL_law 381 = .ok (.iaload, 1) := by decide +kernel
theorem dL_law_382 : decode cL_law 382 = .ok (.aload_n 0, 1) := by decide +kernel
theorem dL_law_383 : decode cL_law 383 = .ok (.iload_n 3, 1) := by decide +kernel
theorem dL_law_384 : decode cL_law 384 = .ok (.iconst 2, 1) := by decide +kernel
theorem dL_law_385 : decode cL_law 385 = .ok (.iadd, 1) := by decide +kernel
theorem dL_law_386 : decode cL_law 386 = .ok (.iaload, 1) := by decide +kernel
theorem dL_law_387 : decode cL_law 387 = .ok (.invokevirtual 42, 3) := by decide +kernel
theorem dL_law_390 : decode cL_law 390 = .ok (.if_icmp .eq 747, 3) := by decide +kernel
theorem dL_law_393 : decode cL_law 393 = .ok (.iconst 0, 1) := by decide +kernel
theorem dL_law_394 : decode cL_law 394 = .ok (.ireturn, 1) := by decide +kernel
theorem dL_law_395 : decode cL_law 395 = .ok (.aload_n 1, 1) := by decide +kernel
theorem dL_law_396 : decode cL_law 396 = .ok (.aload_n 0, 1) := by decide +kernel
theorem dL_law_397 : decode cL_law 397 = .ok (.iload_n 3, 1) := by decide +kernel
theorem dL_law_398 : decode cL_law 398 = .ok (.iconst 1, 1) := by decide +kernel
theorem dL_law_399 : decode cL_law 399 = .ok (.iadd, 1) := by decide +kernel
theorem dL_law_400 : decode cL_law 400 = .ok (.iaload, 1) := by decide +kernel
theorem dL_law_401 : decode cL_law 401 = .ok (.aload_n 0, 1) := by decide +kernel
theorem dL_law_402 : decode cL_law 402 = .ok (.iload_n 3, 1) := by decide +kernel
theorem dL_law_403 : decode cL_law 403 = .ok (.iconst 2, 1) := by decide +kernel
theorem dL_law_404 : decode cL_law 404 = .ok (.iadd, 1) := by decide +kernel
theorem dL_law_405 : decode cL_law 405 = .ok (.iaload, 1) := by decide +kernel
theorem dL_law_406 : decode cL_law 406 = .ok (.aload_n 0, 1) := by decide +kernel
theorem dL_law_407 : decode cL_law 407 = .ok (.iload_n 3, 1) := by decide +kernel
theorem dL_law_408 : decode cL_law 408 = .ok (.iconst 3, 1) := by decide +kernel
theorem dL_law_409 : decode cL_law 409 = .ok (.iadd, 1) := by decide +kernel
theorem dL_law_410 : decode cL_law 410 = .ok (.iaload, 1) := by decide +kernel
theorem dL_law_411 : decode cL_law 411 = .ok (.invokevirtual 43, 3) := by decide +kernel
theorem dL_law_414 : decode cL_law 414 = .ok (.aload_n 2, 1) := by decide +kernel
theorem dL_law_415 : decode cL_law 415 = .ok (.aload_n 0, 1) := by decide +kernel
theorem dL_law_416 : decode cL_law 416 = .ok (.iload_n 3, 1) := by decide +kernel
theorem dL_law_417 : decode cL_law 417 = .ok (.iconst 1, 1) := by decide +kernel
theorem dL_law_418 : decode cL_law 418 = .ok (.iadd, 1) := by decide +kernel
theorem dL_law_419 : decode cL_law 419 = .ok (.iaload, 1) := by decide +kernel
theorem dL_law_420 : decode cL_law 420 = .ok (.aload_n 0, 1) := by decide +kernel
theorem dL_law_421 : decode cL_law 421 = .ok (.iload_n 3, 1) := by decide +kernel
theorem dL_law_422 : decode cL_law 422 = .ok (.iconst 2, 1) := by decide +kernel
theorem dL_law_423 : decode cL_law 423 = .ok (.iadd, 1) := by decide +kernel
theorem dL_law_424 : decode cL_law 424 = .ok (.iaload, 1) := by decide +kernel
theorem dL_law_425 : decode cL_law 425 = .ok (.aload_n 0, 1) := by decide +kernel
theorem dL_law_426 : decode cL_law 426 = .ok (.iload_n 3, 1) := by decide +kernel
theorem dL_law_427 : decode cL_law 427 = .ok (.iconst 3, 1) := by decide +kernel
theorem dL_law_428 : decode cL_law 428 = .ok (.iadd, 1) := by decide +kernel
theorem dL_law_429 : decode cL_law 429 = .ok (.iaload, 1) := by decide +kernel
theorem dL_law_430 : decode cL_law 430 = .ok (.invokevirtual 47, 3) := by decide +kernel
theorem dL_law_433 : decode cL_law 433 = .ok (.if_icmp .eq 704, 3) := by decide +kernel
theorem dL_law_436 : decode cL_law 436 = .ok (.iconst 0, 1) := by decide +kernel
theorem dL_law_437 : decode cL_law 437 = .ok (.ireturn, 1) := by decide +kernel
theorem dL_law_438 : decode cL_law 438 = .ok (.aload_n 1, 1) := by decide +kernel
theorem dL_law_439 : decode cL_law 439 = .ok (.aload_n 0, 1) := by decide +kernel
theorem dL_law_440 : decode cL_law 440 = .ok (.iload_n 3, 1) := by decide +kernel
theorem dL_law_441 : decode cL_law 441 = .ok (.iconst 1, 1) := by decide +kernel
theorem dL_law_442 : decode cL_law 442 = .ok (.iadd, 1) := by decide +kernel
theorem dL_law_443 : decode cL_law 443 = .ok (.iaload, 1) := by decide +kernel
theorem dL_law_444 : decode cL_law 444 = .ok (.invokevirtual 48, 3) := by decide +kernel
theorem dL_law_447 : decode cL_law 447 = .ok (.aload_n 2, 1) := by decide +kernel
theorem dL_law_448 : decode cL_law 448 = .ok (.aload_n 0, 1) := by decide +kernel
theorem dL_law_449 : decode cL_law 449 = .ok (.iload_n 3, 1) := by decide +kernel
theorem dL_law_450 : decode cL_law 450 = .ok (.iconst 1, 1) := by decide +kernel
theorem dL_law_451 : decode cL_law 451 = .ok (.iadd, 1) := by decide +kernel
theorem dL_law_452 : decode cL_law 452 = .ok (.iaload, 1) := by decide +kernel
theorem dL_law_453 : decode cL_law 453 = .ok (.invokevirtual 51, 3) := by decide +kernel
theorem dL_law_456 : decode cL_law 456 = .ok (.if_icmp .eq 681, 3) := by decide +kernel
theorem dL_law_459 : decode cL_law 459 = .ok (.iconst 0, 1) := by decide +kernel
theorem dL_law_460 : decode cL_law 460 = .ok (.ireturn, 1) := by decide +kernel
theorem dL_law_461 : decode cL_law 461 = .ok (.aload_n 1, 1) := by decide +kernel
theorem dL_law_462 : decode cL_law 462 = .ok (.invokevirtual 52, 3) := by decide +kernel
theorem dL_law_465 : decode cL_law 465 = .ok (.aload_n 2, 1) := by decide +kernel
theorem dL_law_466 : decode cL_law 466 = .ok (.invokevirtual 56, 3) := by decide +kernel
theorem dL_law_469 : decode cL_law 469 = .ok (.if_icmp .eq 668, 3) := by decide +kernel
theorem dL_law_472 : decode cL_law 472 = .ok (.iconst 0, 1) := by decide +kernel
theorem dL_law_473 : decode cL_law 473 = .ok (.ireturn, 1) := by decide +kernel
theorem dL_law_474 : decode cL_law 474 = .ok (.aload_n 1, 1) := by decide +kernel
theorem dL_law_475 : decode cL_law 475 = .ok (.invokevirtual 57, 3) := by decide +kernel
theorem dL_law_478 : decode cL_law 478 = .ok (.aload_n 2, 1) := by decide +kernel
theorem dL_law_479 : decode cL_law 479 = .ok (.invokevirtual 60, 3) := by decide +kernel
theorem dL_law_482 : decode cL_law 482 = .ok (.if_icmp .eq 655, 3) := by decide +kernel
theorem dL_law_485 : decode cL_law 485 = .ok (.iconst 0, 1) := by decide +kernel
theorem dL_law_486 : decode cL_law 486 = .ok (.ireturn, 1) := by decide +kernel
theorem dL_law_487 : decode cL_law 487 = .ok (.aload_n 1, 1) := by decide +kernel
theorem dL_law_488 : decode cL_law 488 = .ok (.aload_n 0, 1) := by decide +kernel
theorem dL_law_489 : decode cL_law 489 = .ok (.iload_n 3, 1) := by decide +kernel
theorem dL_law_490 : decode cL_law 490 = .ok (.iconst 1, 1) := by decide +kernel
theorem dL_law_491 : decode cL_law 491 = .ok (.iadd, 1) := by decide +kernel
theorem dL_law_492 : decode cL_law 492 = .ok (.iaload, 1) := by decide +kernel
theorem dL_law_493 : decode cL_law 493 = .ok (.invokevirtual 61, 3) := by decide +kernel
theorem dL_law_496 : decode cL_law 496 = .ok (.aload_n 2, 1) := by decide +kernel
theorem dL_law_497 : decode cL_law 497 = .ok (.aload_n 0, 1) := by decide +kernel
theorem dL_law_498 : decode cL_law 498 = .ok (.iload_n 3, 1) := by decide +kernel
theorem dL_law_499 : decode cL_law 499 = .ok (.iconst 1, 1) := by decide +kernel
theorem dL_law_500 : decode cL_law 500 = .ok (.iadd, 1) := by decide +kernel
theorem dL_law_501 : decode cL_law 501 = .ok (.iaload, 1) := by decide +kernel
theorem dL_law_502 : decode cL_law 502 = .ok (.invokevirtual 64, 3) := by decide +kernel
theorem dL_law_505 : decode cL_law 505 = .ok (.if_icmp .eq 632, 3) := by decide +kernel
theorem dL_law_508 : decode cL_law 508 = .ok (.iconst 0, 1) := by decide +kernel
theorem dL_law_509 : decode cL_law 509 = .ok (.ireturn, 1) := by decide +kernel
theorem dL_law_510 : decode cL_law 510 = .ok (.aload_n 1, 1) := by decide +kernel
theorem dL_law_511 : decode cL_law 511 = .ok (.aload_n 0, 1) := by decide +kernel
theorem dL_law_512 : decode cL_law 512 = .ok (.iload_n 3, 1) := by decide +kernel
theorem dL_law_513 : decode cL_law 513 = .ok (.iconst 1, 1) := by decide +kernel
theorem dL_law_514 : decode cL_law 514 = .ok (.iadd, 1) := by decide +kernel
theorem dL_law_515 : decode cL_law 515 = .ok (.iaload, 1) := by decide +kernel
theorem dL_law_516 : decode cL_law 516 = .ok (.invokevirtual 65, 3) := by decide +kernel
theorem dL_law_519 : decode cL_law 519 = .ok (.aload_n 2, 1) := by decide +kernel
theorem dL_law_520 : decode cL_law 520 = .ok (.aload_n 0, 1) := by decide +kernel
theorem dL_law_521 : decode cL_law 521 = .ok (.iload_n 3, 1) := by decide +kernel
theorem dL_law_522 : decode cL_law 522 = .ok (.iconst 1, 1) := by decide +kernel
theorem dL_law_523 : decode cL_law 523 = .ok (.iadd, 1) := by decide +kernel
theorem dL_law_524 : decode cL_law 524 = .ok (.iaload, 1) := by decide +kernel
theorem dL_law_525 : decode cL_law 525 = .ok (.invokevirtual 68, 3) := by decide +kernel
theorem dL_law_528 : decode cL_law 528 = .ok (.if_icmp .eq 609, 3) := by decide +kernel
theorem dL_law_531 : decode cL_law 531 = .ok (.iconst 0, 1) := by decide +kernel
theorem dL_law_532 : decode cL_law 532 = .ok (.ireturn, 1) := by decide +kernel
theorem dL_law_533 : decode cL_law 533 = .ok (.aload_n 1, 1) := by decide +kernel
theorem dL_law_534 : decode cL_law 534 = .ok (.aload_n 0, 1) := by decide +kernel
theorem dL_law_535 : decode cL_law 535 = .ok (.iload_n 3, 1) := by decide +kernel
theorem dL_law_536 : decode cL_law 536 = .ok (.iconst 1, 1) := by decide +kernel
theorem dL_law_537 : decode cL_law 537 = .ok (.iadd, 1) := by decide +kernel
theorem dL_law_538 : decode cL_law 538 = .ok (.iaload, 1) := by decide +kernel
theorem dL_law_539 : decode cL_law 539 = .ok (.aload_n 0, 1) := by decide +kernel
theorem dL_law_540 : decode cL_law 540 = .ok (.iload_n 3, 1) := by decide +kernel
theorem dL_law_541 : decode cL_law 541 = .ok (.iconst 2, 1) := by decide +kernel
theorem dL_law_542 : decode cL_law 542 = .ok (.iadd, 1) := by decide +kernel
theorem dL_law_543 : decode cL_law 543 = .ok (.iaload, 1) := by decide +kernel
theorem dL_law_544 : decode cL_law 544 = .ok (.aload_n 0, 1) := by decide +kernel
theorem dL_law_545 : decode cL_law 545 = .ok (.iload_n 3, 1) := by decide +kernel
theorem dL_law_546 : decode cL_law 546 = .ok (.iconst 3, 1) := by decide +kernel
theorem dL_law_547 : decode cL_law 547 = .ok (.iadd, 1) := by decide +kernel
theorem dL_law_548 : decode cL_law 548 = .ok (.iaload, 1) := by decide +kernel
theorem dL_law_549 : decode cL_law 549 = .ok (.invokevirtual 69, 3) := by decide +kernel
theorem dL_law_552 : decode cL_law 552 = .ok (.aload_n 2, 1) := by decide +kernel
theorem dL_law_553 : decode cL_law 553 = .ok (.aload_n 0, 1) := by decide +kernel
theorem dL_law_554 : decode cL_law 554 = .ok (.iload_n 3, 1) := by decide +kernel
theorem dL_law_555 : decode cL_law 555 = .ok (.iconst 1, 1) := by decide +kernel
theorem dL_law_556 : decode cL_law 556 = .ok (.iadd, 1) := by decide +kernel
theorem dL_law_557 : decode cL_law 557 = .ok (.iaload, 1) := by decide +kernel
theorem dL_law_558 : decode cL_law 558 = .ok (.aload_n 0, 1) := by decide +kernel
theorem dL_law_559 : decode cL_law 559 = .ok (.iload_n 3, 1) := by decide +kernel
theorem dL_law_560 : decode cL_law 560 = .ok (.iconst 2, 1) := by decide +kernel
theorem dL_law_561 : decode cL_law 561 = .ok (.iadd, 1) := by decide +kernel
theorem dL_law_562 : decode cL_law 562 = .ok (.iaload, 1) := by decide +kernel
theorem dL_law_563 : decode cL_law 563 = .ok (.aload_n 0, 1) := by decide +kernel
theorem dL_law_564 : decode cL_law 564 = .ok (.iload_n 3, 1) := by decide +kernel
theorem dL_law_565 : decode cL_law 565 = .ok (.iconst 3, 1) := by decide +kernel
theorem dL_law_566 : decode cL_law 566 = .ok (.iadd, 1) := by decide +kernel
theorem dL_law_567 : decode cL_law 567 = .ok (.iaload, 1) := by decide +kernel
theorem dL_law_568 : decode cL_law 568 = .ok (.invokevirtual 72, 3) := by decide +kernel
theorem dL_law_571 : decode cL_law 571 = .ok (.if_icmp .eq 566, 3) := by decide +kernel
theorem dL_law_574 : decode cL_law 574 = .ok (.iconst 0, 1) := by decide +kernel
theorem dL_law_575 : decode cL_law 575 = .ok (.ireturn, 1) := by decide +kernel
theorem dL_law_576 : decode cL_law 576 = .ok (.aload_n 1, 1) := by decide +kernel
theorem dL_law_577 : decode cL_law 577 = .ok (.aload_n 0, 1) := by decide +kernel
theorem dL_law_578 : decode cL_law 578 = .ok (.iload_n 3, 1) := by decide +kernel
theorem dL_law_579 : decode cL_law 579 = .ok (.iconst 1, 1) := by decide +kernel
theorem dL_law_580 : decode cL_law 580 = .ok (.iadd, 1) := by decide +kernel
theorem dL_law_581 : decode cL_law 581 = .ok (.iaload, 1) := by decide +kernel
theorem dL_law_582 : decode cL_law 582 = .ok (.invokevirtual 73, 3) := by decide +kernel
theorem dL_law_585 : decode cL_law 585 = .ok (.aload_n 2, 1) := by decide +kernel
theorem dL_law_586 : decode cL_law 586 = .ok (.aload_n 0, 1) := by decide +kernel
theorem dL_law_587 : decode cL_law 587 = .ok (.iload_n 3, 1) := by decide +kernel
theorem dL_law_588 : decode cL_law 588 = .ok (.iconst 1, 1) := by decide +kernel
theorem dL_law_589 : decode cL_law 589 = .ok (.iadd, 1) := by decide +kernel
theorem dL_law_590 : decode cL_law 590 = .ok (.iaload, 1) := by decide +kernel
theorem dL_law_591 : decode cL_law 591 = .ok (.invokevirtual 76, 3) := by decide +kernel
theorem dL_law_594 : decode cL_law 594 = .ok (.if_icmp .eq 543, 3) := by decide +kernel
theorem dL_law_597 : decode cL_law 597 = .ok (.iconst 0, 1) := by decide +kernel
theorem dL_law_598 : decode cL_law 598 = .ok (.ireturn, 1) := by decide +kernel
theorem dL_law_599 : decode cL_law 599 = .ok (.aload_n 1, 1) := by decide +kernel
theorem dL_law_600 : decode cL_law 600 = .ok (.invokevirtual 77, 3) := by decide +kernel
theorem dL_law_603 : decode cL_law 603 = .ok (.aload_n 2, 1) := by decide +kernel
theorem dL_law_604 : decode cL_law 604 = .ok (.invokevirtual 80, 3) := by decide +kernel
theorem dL_law_607 : decode cL_law 607 = .ok (.if_icmp .eq 530, 3) := by decide +kernel
theorem dL_law_610 : decode cL_law 610 = .ok (.iconst 0, 1) := by decide +kernel
theorem dL_law_611 : decode cL_law 611 = .ok (.ireturn, 1) := by decide +kernel
theorem dL_law_612 : decode cL_law 612 = .ok (.aload_n 1, 1) := by decide +kernel
theorem dL_law_613 : decode cL_law 613 = .ok (.aload_n 0, 1) := by decide +kernel
theorem dL_law_614 : decode cL_law 614 = .ok (.iload_n 3, 1) := by decide +kernel
theorem dL_law_615 : decode cL_law 615 = .ok (.iconst 1, 1) := by decide +kernel
theorem dL_law_616 : decode cL_law 616 = .ok (.iadd, 1) := by decide +kernel
theorem dL_law_617 : decode cL_law 617 = .ok (.iaload, 1) := by decide +kernel
theorem dL_law_618 : decode cL_law 618 = .ok (.invokevirtual 81, 3) := by decide +kernel
theorem dL_law_621 : decode cL_law 621 = .ok (.aload_n 2, 1) := by decide +kernel
theorem dL_law_622 : decode cL_law 622 = .ok (.aload_n 0, 1) := by decide +kernel
theorem dL_law_623 : decode cL_law 623 = .ok (.iload_n 3, 1) := by decide +kernel
theorem dL_law_624 : decode cL_law 624 = .ok (.iconst 1, 1) := by decide +kernel
theorem dL_law_625 : decode cL_law 625 = .ok (.iadd, 1) := by decide +kernel
theorem dL_law_626 : decode cL_law 626 = .ok (.iaload, 1) := by decide +kernel
theorem dL_law_627 : decode cL_law 627 = .ok (.invokevirtual 84, 3) := by decide +kernel
theorem dL_law_630 : decode cL_law 630 = .ok (.if_icmp .eq 507, 3) := by decide +kernel
theorem dL_law_633 : decode cL_law 633 = .ok (.iconst 0, 1) := by decide +kernel
theorem dL_law_634 : decode cL_law 634 = .ok (.ireturn, 1) := by decide +kernel
theorem dL_law_635 : decode cL_law 635 = .ok (.aload_n 1, 1) := by decide +kernel
theorem dL_law_636 : decode cL_law 636 = .ok (.aload_n 0, 1) := by decide +kernel
theorem dL_law_637 : decode cL_law 637 = .ok (.iload_n 3, 1) := by decide +kernel
theorem dL_law_638 : decode cL_law 638 = .ok (.iconst 1, 1) := by decide +kernel
theorem dL_law_639 : decode cL_law 639 = .ok (.iadd, 1) := by decide +kernel
theorem dL_law_640 : decode cL_law 640 = .ok (.iaload, 1) := by decide +kernel
theorem dL_law_641 : decode cL_law 641 = .ok (.invokevirtual 85, 3) := by decide +kernel
theorem dL_law_644 : decode cL_law 644 = .ok (.aload_n 2, 1) := by decide +kernel
theorem dL_law_645 : decode cL_law 645 = .ok (.aload_n 0, 1) := by decide +kernel
theorem dL_law_646 : decode cL_law 646 = .ok (.iload_n 3, 1) := by decide +kernel
theorem dL_law_647 : decode cL_law 647 = .ok (.iconst 1, 1) := by decide +kernel
theorem dL_law_648 : decode cL_law 648 = .ok (.iadd, 1) := by decide +kernel
theorem dL_law_649 : decode cL_law 649 = .ok (.iaload, 1) := by decide +kernel
theorem dL_law_650 : decode cL_law 650 = .ok (.invokevirtual 88, 3) := by decide +kernel
theorem dL_law_653 : decode cL_law 653 = .ok (.if_icmp .eq 484, 3) := by decide +kernel
theorem dL_law_656 : decode cL_law 656 = .ok (.iconst 0, 1) := by decide +kernel
theorem dL_law_657 : decode cL_law 657 = .ok (.ireturn, 1) := by decide +kernel
theorem dL_law_658 : decode cL_law 658 = .ok (.aload_n 1, 1) := by decide +kernel
theorem dL_law_659 : decode cL_law 659 = .ok (.invokevirtual 89, 3) := by decide +kernel
theorem dL_law_662 : decode cL_law 662 = .ok (.aload_n 2, 1) := by decide +kernel
theorem dL_law_663 : decode cL_law 663 = .ok (.invokevirtual 92, 3) := by decide +kernel
theorem dL_law_666 : decode cL_law 666 = .ok (.if_icmp .eq 471, 3) := by decide +kernel
theorem dL_law_669 : decode cL_law 669 = .ok (.iconst 0, 1) := by decide +kernel
theorem dL_law_670 : decode cL_law 670 = .ok (.ireturn, 1) := by decide +kernel
theorem dL_law_671 : decode cL_law 671 = .ok (.aload_n 1, 1) := by decide +kernel
theorem dL_law_672 : decode cL_law 672 = .ok (.invokevirtual 93, 3) := by decide +kernel
theorem dL_law_675 : decode cL_law 675 = .ok (.aload_n 2, 1) := by decide +kernel
theorem dL_law_676 : decode cL_law 676 = .ok (.invokevirtual 96, 3) := by decide +kernel
theorem dL_law_679 : decode cL_law 679 = .ok (.if_icmp .eq 458, 3) := by decide +kernel
theorem dL_law_682 : decode cL_law 682 = .ok (.iconst 0, 1) := by decide +kernel
theorem dL_law_683 : decode cL_law 683 = .ok (.ireturn, 1) := by decide +kernel
theorem dL_law_684 : decode cL_law 684 = .ok (.aload_n 1, 1) := by decide +kernel
theorem dL_law_685 : decode cL_law 685 = .ok (.aload_n 0, 1) := by decide +kernel
theorem dL_law_686 : decode cL_law 686 = .ok (.iload_n 3, 1) := by decide +kernel
theorem dL_law_687 : decode cL_law 687 = .ok (.iconst 1, 1) := by decide +kernel
theorem dL_law_688 : decode cL_law 688 = .ok (.iadd, 1) := by decide +kernel
theorem dL_law_689 : decode cL_law 689 = .ok (.iaload, 1) := by decide +kernel
theorem dL_law_690 : decode cL_law 690 = .ok (.invokevirtual 97, 3) := by decide +kernel
theorem dL_law_693 : decode cL_law 693 = .ok (.aload_n 2, 1) := by decide +kernel
theorem dL_law_694 : decode cL_law 694 = .ok (.aload_n 0, 1) := by decide +kernel
theorem dL_law_695 : decode cL_law 695 = .ok (.iload_n 3, 1) := by decide +kernel
theorem dL_law_696 : decode cL_law 696 = .ok (.iconst 1, 1) := by decide +kernel
theorem dL_law_697 : decode cL_law 697 = .ok (.iadd, 1) := by decide +kernel
theorem dL_law_698 : decode cL_law 698 = .ok (.iaload, 1) := by decide +kernel
theorem dL_law_699 : decode cL_law 699 = .ok (.invokevirtual 100, 3) := by decide +kernel
theorem dL_law_702 : decode cL_law 702 = .ok (.if_icmp .eq 435, 3) := by decide +kernel
theorem dL_law_705 : decode cL_law 705 = .ok (.iconst 0, 1) := by decide +kernel
theorem dL_law_706 : decode cL_law 706 = .ok (.ireturn, 1) := by decide +kernel
theorem dL_law_707 : decode cL_law 707 = .ok (.aload_n 1, 1) := by decide +kernel
theorem dL_law_708 : decode cL_law 708 = .ok (.aload_n 0, 1) := by decide +kernel
theorem dL_law_709 : decode cL_law 709 = .ok (.iload_n 3, 1) := by decide +kernel
theorem dL_law_710 : decode cL_law 710 = .ok (.iconst 1, 1) := by decide +kernel
theorem dL_law_711 : decode cL_law 711 = .ok (.iadd, 1) := by decide +kernel
theorem dL_law_712 : decode cL_law 712 = .ok (.iaload, 1) := by decide +kernel
theorem dL_law_713 : decode cL_law 713 = .ok (.invokevirtual 101, 3) := by decide +kernel
theorem dL_law_716 : decode cL_law 716 = .ok (.aload_n 2, 1) := by decide +kernel
theorem dL_law_717 : decode cL_law 717 = .ok (.aload_n 0, 1) := by decide +kernel
theorem dL_law_718 : decode cL_law 718 = .ok (.iload_n 3, 1) := by decide +kernel
theorem dL_law_719 : decode cL_law 719 = .ok (.iconst 1, 1) := by decide +kernel
theorem dL_law_720 : decode cL_law 720 = .ok (.iadd, 1) := by decide +kernel
theorem dL_law_721 : decode cL_law 721 = .ok (.iaload, 1) := by decide +kernel
theorem dL_law_722 : decode cL_law 722 = .ok (.invokevirtual 104, 3) := by decide +kernel
theorem dL_law_725 : decode cL_law 725 = .ok (.if_icmp .eq 412, 3) := by decide +kernel
theorem dL_law_728 : decode cL_law 728 = .ok (.iconst 0, 1) := by decide +kernel
theorem dL_law_729 : decode cL_law 729 = .ok (.ireturn, 1) := by decide +kernel
theorem dL_law_730 : decode cL_law 730 = .ok (.aload_n 1, 1) := by decide +kernel
theorem dL_law_731 : decode cL_law 731 = .ok (.aload_n 0, 1) := by decide +kernel
theorem dL_law_732 : decode cL_law 732 = .ok (.iload_n 3, 1) := by decide +kernel
theorem dL_law_733 : decode cL_law 733 = .ok (.iconst 1, 1) := by decide +kernel
theorem dL_law_734 : decode cL_law 734 = .ok (.iadd, 1) := by decide +kernel
theorem dL_law_735 : decode cL_law 735 = .ok (.iaload, 1) := by decide +kernel
theorem dL_law_736 : decode cL_law 736 = .ok (.invokevirtual 105, 3) := by decide +kernel
theorem dL_law_739 : decode cL_law 739 = .ok (.aload_n 2, 1) := by decide +kernel
theorem dL_law_740 : decode cL_law 740 = .ok (.aload_n 0, 1) := by decide +kernel
theorem dL_law_741 : decode cL_law 741 = .ok (.iload_n 3, 1) := by decide +kernel
theorem dL_law_742 : decode cL_law 742 = .ok (.iconst 1, 1) := by decide +kernel
theorem dL_law_743 : decode cL_law 743 = .ok (.iadd, 1) := by decide +kernel
theorem dL_law_744 : decode cL_law 744 = .ok (.iaload, 1) := by decide +kernel
theorem dL_law_745 : decode cL_law 745 = .ok (.invokevirtual 108, 3) := by decide +kernel
theorem dL_law_748 : decode cL_law 748 = .ok (.if_icmp .eq 389, 3) := by decide +kernel
theorem dL_law_751 : decode cL_law 751 = .ok (.iconst 0, 1) := by decide +kernel
theorem dL_law_752 : decode cL_law 752 = .ok (.ireturn, 1) := by decide +kernel
theorem dL_law_753 : decode cL_law 753 = .ok (.aload_n 1, 1) := by decide +kernel
theorem dL_law_754 : decode cL_law 754 = .ok (.aload_n 0, 1) := by decide +kernel
theorem dL_law_755 : decode cL_law 755 = .ok (.iload_n 3, 1) := by decide +kernel
theorem dL_law_756 : decode cL_law 756 = .ok (.iconst 1, 1) := by decide +kernel
theorem dL_law_757 : decode cL_law 757 = .ok (.iadd, 1) := by decide +kernel
theorem dL_law_758 : decode cL_law 758 = .ok (.iaload, 1) := by decide +kernel
theorem dL_law_759 : decode cL_law 759 = .ok (.aload_n 0, 1) := by decide +kernel
theorem dL_law_760 : decode cL_law 760 = .ok (.iload_n 3, 1) := by decide +kernel
theorem dL_law_761 : decode cL_law 761 = .ok (.iconst 2, 1) := by decide +kernel
theorem dL_law_762 : decode cL_law 762 = .ok (.iadd, 1) := by decide +kernel
theorem dL_law_763 : decode cL_law 763 = .ok (.iaload, 1) := by decide +kernel
theorem dL_law_764 : decode cL_law 764 = .ok (.invokevirtual 109, 3) := by decide +kernel
theorem dL_law_767 : decode cL_law 767 = .ok (.aload_n 2, 1) := by decide +kernel
theorem dL_law_768 : decode cL_law 768 = .ok (.aload_n 0, 1) := by decide +kernel
theorem dL_law_769 : decode cL_law 769 = .ok (.iload_n 3, 1) := by decide +kernel
theorem dL_law_770 : decode cL_law 770 = .ok (.iconst 1, 1) := by decide +kernel
theorem dL_law_771 : decode cL_law 771 = .ok (.iadd, 1) := by decide +kernel
theorem dL_law_772 : decode cL_law 772 = .ok (.iaload, 1) := by decide +kernel
theorem dL_law_773 : decode cL_law 773 = .ok (.aload_n 0, 1) := by decide +kernel
theorem dL_law_774 : decode cL_law 774 = .ok (.iload_n 3, 1) := by decide +kernel
theorem dL_law_775 : decode cL_law 775 = .ok (.iconst 2, 1) := by decide +kernel
theorem dL_law_776 : decode cL_law 776 = .ok (.iadd, 1) := by decide +kernel
theorem dL_law_777 : decode cL_law 777 = .ok (.iaload, 1) := by decide +kernel
theorem dL_law_778 : decode cL_law 778 = .ok (.invokevirtual 112, 3) := by decide +kernel
theorem dL_law_781 : decode cL_law 781 = .ok (.if_icmp .eq 356, 3) := by decide +kernel
theorem dL_law_784 : decode cL_law 784 = .ok (.iconst 0, 1) := by decide +kernel
theorem dL_law_785 : decode cL_law 785 = .ok (.ireturn, 1) := by decide +kernel
theorem dL_law_786 : decode cL_law 786 = .ok (.aload_n 1, 1) := by decide +kernel
theorem dL_law_787 : decode cL_law 787 = .ok (.aload_n 0, 1) := by decide +kernel
theorem dL_law_788 : decode cL_law 788 = .ok (.iload_n 3, 1) := by decide +kernel
theorem dL_law_789 : decode cL_law 789 = .ok (.iconst 1, 1) := by decide +kernel
theorem dL_law_790 : decode cL_law 790 = .ok (.iadd, 1) := by decide +kernel
theorem dL_law_791 : decode cL_law 791 = .ok (.iaload, 1) := by decide +kernel
theorem dL_law_792 : decode cL_law 792 = .ok (.aload_n 0, 1) := by decide +kernel
theorem dL_law_793 : decode cL_law 793 = .ok (.iload_n 3, 1) := by decide +kernel
theorem dL_law_794 : decode cL_law 794 = .ok (.iconst 2, 1) := by decide +kernel
theorem dL_law_795 : decode cL_law 795 = .ok (.iadd, 1) := by decide +kernel
theorem dL_law_796 : decode cL_law 796 = .ok (.iaload, 1) := by decide +kernel
theorem dL_law_797 : decode cL_law 797 = .ok (.invokevirtual 113, 3) := by decide +kernel
theorem dL_law_800 : decode cL_law 800 = .ok (.aload_n 2, 1) := by decide +kernel
theorem dL_law_801 : decode cL_law 801 = .ok (.aload_n 0, 1) := by decide +kernel
theorem dL_law_802 : decode cL_law 802 = .ok (.iload_n 3, 1) := by decide +kernel
theorem dL_law_803 : decode cL_law 803 = .ok (.iconst 1, 1) := by decide +kernel
theorem dL_law_804 : decode cL_law 804 = .ok (.iadd, 1) := by decide +kernel
theorem dL_law_805 : decode cL_law 805 = .ok (.iaload, 1) := by decide +kernel
theorem dL_law_806 : decode cL_law 806 = .ok (.aload_n 0, 1) := by decide +kernel
theorem dL_law_807 : decode cL_law 807 = .ok (.iload_n 3, 1) := by decide +kernel
theorem dL_law_808 : decode cL_law 808 = .ok (.iconst 2, 1) := by decide +kernel
theorem dL_law_809 : decode cL_law 809 = .ok (.iadd, 1) := by decide +kernel
theorem dL_law_810 : decode cL_law 810 = .ok (.iaload, 1) := by decide +kernel
theorem dL_law_811 : decode cL_law 811 = .ok (.invokevirtual 116, 3) := by decide +kernel
theorem dL_law_814 : decode cL_law 814 = .ok (.if_icmp .eq 323, 3) := by decide +kernel
theorem dL_law_817 : decode cL_law 817 = .ok (.iconst 0, 1) := by decide +kernel
theorem dL_law_818 : decode cL_law 818 = .ok (.ireturn, 1) := by decide +kernel
theorem dL_law_819 : decode cL_law 819 = .ok (.aload_n 1, 1) := by decide +kernel
theorem dL_law_820 : decode cL_law 820 = .ok (.aload_n 0, 1) := by decide +kernel
theorem dL_law_821 : decode cL_law 821 = .ok (.iload_n 3, 1) := by decide +kernel
theorem dL_law_822 : decode cL_law 822 = .ok (.iconst 1, 1) := by decide +kernel
theorem dL_law_823 : decode cL_law 823 = .ok (.iadd, 1) := by decide +kernel
theorem dL_law_824 : decode cL_law 824 = .ok (.iaload, 1) := by decide +kernel
theorem dL_law_825 : decode cL_law 825 = .ok (.aload_n 0, 1) := by decide +kernel
theorem dL_law_826 : decode cL_law 826 = .ok (.iload_n 3, 1) := by decide +kernel
theorem dL_law_827 : decode cL_law 827 = .ok (.iconst 2, 1) := by decide +kernel
theorem dL_law_828 : decode cL_law 828 = .ok (.iadd, 1) := by decide +kernel
theorem dL_law_829 : decode cL_law 829 = .ok (.iaload, 1) := by decide +kernel
theorem dL_law_830 : decode cL_law 830 = .ok (.invokevirtual 117, 3) := by decide +kernel
theorem dL_law_833 : decode cL_law 833 = .ok (.aload_n 2, 1) := by decide +kernel
theorem dL_law_834 : decode cL_law 834 = .ok (.aload_n 0, 1) := by decide +kernel
theorem dL_law_835 : decode cL_law 835 = .ok (.iload_n 3, 1) := by decide +kernel
theorem dL_law_836 : decode cL_law 836 = .ok (.iconst 1, 1) := by decide +kernel
theorem dL_law_837 : decode cL_law 837 = .ok (.iadd, 1) := by decide +kernel
theorem dL_law_838 : decode cL_law 838 = .ok (.iaload, 1) := by decide +kernel
theorem dL_law_839 : decode cL_law 839 = .ok (.aload_n 0, 1) := by decide +kernel
theorem dL_law_840 : decode cL_law 840 = .ok (.iload_n 3, 1) := by decide +kernel
theorem dL_law_841 : decode cL_law 841 = .ok (.iconst 2, 1) := by decide +kernel
theorem dL_law_842 : decode cL_law 842 = .ok (.iadd, 1) := by decide +kernel
theorem dL_law_843 : decode cL_law 843 = .ok (.iaload, 1) := by decide +kernel
theorem dL_law_844 : decode cL_law 844 = .ok (.invokevirtual 120, 3) := by decide +kernel
theorem dL_law_847 : decode cL_law 847 = .ok (.if_icmp .eq 290, 3) := by decide +kernel
theorem dL_law_850 : decode cL_law 850 = .ok (.iconst 0, 1) := by decide +kernel
theorem dL_law_851 : decode cL_law 851 = .ok (.ireturn, 1) := by decide +kernel
theorem dL_law_852 : decode cL_law 852 = .ok (.aload_n 1, 1) := by decide +kernel
theorem dL_law_853 : decode cL_law 853 = .ok (.aload_n 0, 1) := by decide +kernel
theorem dL_law_854 : decode cL_law 854 = .ok (.iload_n 3, 1) := by decide +kernel
theorem dL_law_855 : decode cL_law 855 = .ok (.iconst 1, 1) := by decide +kernel
theorem dL_law_856 : decode cL_law 856 = .ok (.iadd, 1) := by decide +kernel
theorem dL_law_857 : decode cL_law 857 = .ok (.iaload, 1) := by decide +kernel
theorem dL_law_858 : decode cL_law 858 = .ok (.aload_n 0, 1) := by decide +kernel
theorem dL_law_859 : decode cL_law 859 = .ok (.iload_n 3, 1) := by decide +kernel
theorem dL_law_860 : decode cL_law 860 = .ok (.iconst 2, 1) := by decide +kernel
theorem dL_law_861 : decode cL_law 861 = .ok (.iadd, 1) := by decide +kernel
theorem dL_law_862 : decode cL_law 862 = .ok (.iaload, 1) := by decide +kernel
theorem dL_law_863 : decode cL_law 863 = .ok (.aload_n 0, 1) := by decide +kernel
theorem dL_law_864 : decode cL_law 864 = .ok (.iload_n 3, 1) := by decide +kernel
theorem dL_law_865 : decode cL_law 865 = .ok (.iconst 3, 1) := by decide +kernel
theorem dL_law_866 : decode cL_law 866 = .ok (.iadd, 1) := by decide +kernel
theorem dL_law_867 : decode cL_law 867 = .ok (.iaload, 1) := by decide +kernel
theorem dL_law_868 : decode cL_law 868 = .ok (.invokevirtual 121, 3) := by decide +kernel
theorem dL_law_871 : decode cL_law 871 = .ok (.aload_n 2, 1) := by decide +kernel
theorem dL_law_872 : decode cL_law 872 = .ok (.aload_n 0, 1) := by decide +kernel
theorem dL_law_873 : decode cL_law 873 = .ok (.iload_n 3, 1) := by decide +kernel
theorem dL_law_874 : decode cL_law 874 = .ok (.iconst 1, 1) := by decide +kernel
theorem dL_law_875 : decode cL_law 875 = .ok (.iadd, 1) := by decide +kernel
theorem dL_law_876 : decode cL_law 876 = .ok (.iaload, 1) := by decide +kernel
theorem dL_law_877 : decode cL_law 877 = .ok (.aload_n 0, 1) := by decide +kernel
theorem dL_law_878 : decode cL_law 878 = .ok (.iload_n 3, 1) := by decide +kernel
theorem dL_law_879 : decode cL_law 879 = .ok (.iconst 2, 1) := by decide +kernel
theorem dL_law_880 : decode cL_law 880 = .ok (.iadd, 1) := by decide +kernel
theorem dL_law_881 : decode cL_law 881 = .ok (.iaload, 1) := by decide +kernel
theorem dL_law_882 : decode cL_law 882 = .ok (.aload_n 0, 1) := by decide +kernel
theorem dL_law_883 : decode cL_law 883 = .ok (.iload_n 3, 1) := by decide +kernel
theorem dL_law_884 : decode cL_law 884 = .ok (.iconst 3, 1) := by decide +kernel
theorem dL_law_885 : decode cL_law 885 = .ok (.iadd, 1) := by decide +kernel
theorem dL_law_886 : decode cL_law 886 = .ok (.iaload, 1) := by decide +kernel
theorem dL_law_887 : decode cL_law 887 = .ok (.invokevirtual 124, 3) := by decide +kernel
theorem dL_law_890 : decode cL_law 890 = .ok (.if_icmp .eq 247, 3) := by decide +kernel
theorem dL_law_893 : decode cL_law 893 = .ok (.iconst 0, 1) := by decide +kernel
theorem dL_law_894 : decode cL_law 894 = .ok (.ireturn, 1) := by decide +kernel
theorem dL_law_895 : decode cL_law 895 = .ok (.aload_n 1, 1) := by decide +kernel
theorem dL_law_896 : decode cL_law 896 = .ok (.aload_n 0, 1) := by decide +kernel
theorem dL_law_897 : decode cL_law 897 = .ok (.iload_n 3, 1) := by decide +kernel
theorem dL_law_898 : decode cL_law 898 = .ok (.iconst 1, 1) := by decide +kernel
theorem dL_law_899 : decode cL_law 899 = .ok (.iadd, 1) := by decide +kernel
theorem dL_law_900 : decode cL_law 900 = .ok (.iaload, 1) := by decide +kernel
theorem dL_law_901 : decode cL_law 901 = .ok (.invokevirtual 125, 3) := by decide +kernel
theorem dL_law_904 : decode cL_law 904 = .ok (.aload_n 2, 1) := by decide +kernel
theorem dL_law_905 : decode cL_law 905 = .ok (.aload_n 0, 1) := by decide +kernel
theorem dL_law_906 : decode cL_law 906 = .ok (.iload_n 3, 1) := by decide +kernel
theorem dL_law_907 : decode cL_law 907 = .ok (.iconst 1, 1) := by decide +kernel
theorem dL_law_908 : decode cL_law 908 = .ok (.iadd, 1) := by decide +kernel
theorem dL_law_909 : decode cL_law 909 = .ok (.iaload, 1) := by decide +kernel
theorem dL_law_910 : decode cL_law 910 = .ok (.invokevirtual 128, 3) := by decide +kernel
theorem dL_law_913 : decode cL_law 913 = .ok (.if_icmp .eq 224, 3) := by decide +kernel
theorem dL_law_916 : decode cL_law 916 = .ok (.iconst 0, 1) := by decide +kernel
theorem dL_law_917 : decode cL_law 917 = .ok (.ireturn, 1) := by decide +kernel
theorem dL_law_918 : decode cL_law 918 = .ok (.aload_n 1, 1) := by decide +kernel
theorem dL_law_919 : decode cL_law 919 = .ok (.aload_n 0, 1) := by decide +kernel
theorem dL_law_920 : decode cL_law 920 = .ok (.iload_n 3, 1) := by decide +kernel
theorem dL_law_921 : decode cL_law 921 = .ok (.iconst 1, 1) := by decide +kernel
theorem dL_law_922 : decode cL_law 922 = .ok (.iadd, 1) := by decide +kernel
theorem dL_law_923 : decode cL_law 923 = .ok (.iaload, 1) := by decide +kernel
theorem dL_law_924 : decode cL_law 924 = .ok (.aload_n 0, 1) := by decide +kernel
theorem dL_law_925 : decode cL_law 925 = .ok (.iload_n 3, 1) := by decide +kernel
theorem dL_law_926 : decode cL_law 926 = .ok (.iconst 2, 1) := by decide +kernel
theorem dL_law_927 : decode cL_law 927 = .ok (.iadd, 1) := by decide +kernel
theorem dL_law_928 : decode cL_law 928 = .ok (.iaload, 1) := by decide +kernel
theorem dL_law_929 : decode cL_law 929 = .ok (.aload_n 0, 1) := by decide +kernel
theorem dL_law_930 : decode cL_law 930 = .ok (.iload_n 3, 1) := by decide +kernel
theorem dL_law_931 : decode cL_law 931 = .ok (.iconst 3, 1) := by decide +kernel
theorem dL_law_932 : decode cL_law 932 = .ok (.iadd, 1) := by decide +kernel
theorem dL_law_933 : decode cL_law 933 = .ok (.iaload, 1) := by decide +kernel
theorem dL_law_934 : decode cL_law 934 = .ok (.aload_n 0, 1) := by decide +kernel
theorem dL_law_935 : decode cL_law 935 = .ok (.iload_n 3, 1) := by decide +kernel
theorem dL_law_936 : decode cL_law 936 = .ok (.iconst 4, 1) := by decide +kernel
theorem dL_law_937 : decode cL_law 937 = .ok (.iadd, 1) := by decide +kernel
theorem dL_law_938 : decode cL_law 938 = .ok (.iaload, 1) := by decide +kernel
theorem dL_law_939 : decode cL_law 939 = .ok (.invokevirtual 129, 3) := by decide +kernel
theorem dL_law_942 : decode cL_law 942 = .ok (.aload_n 2, 1) := by decide +kernel
theorem dL_law_943 : decode cL_law 943 = .ok (.aload_n 0, 1) := by decide +kernel
theorem dL_law_944 : decode cL_law 944 = .ok (.iload_n 3, 1) := by decide +kernel
theorem dL_law_945 : decode cL_law 945 = .ok (.iconst 1, 1) := by decide +kernel
theorem dL_law_946 : decode cL_law 946 = .ok (.iadd, 1) := by decide +kernel
theorem dL_law_947 : decode cL_law 947 = .ok (.iaload, 1) := by decide +kernel
theorem dL_law_948 : decode cL_law 948 = .ok (.aload_n 0, 1) := by decide +kernel
theorem dL_law_949 : decode cL_law 949 = .ok (.iload_n 3, 1) := by decide +kernel
theorem dL_law_950 : decode cL_law 950 = .ok (.iconst 2, 1) := by decide +kernel
theorem dL_law_951 : decode cL_law 951 = .ok (.iadd, 1) := by decide +kernel
theorem dL_law_952 : decode cL_law 952 = .ok (.iaload, 1) := by decide +kernel
theorem dL_law_953 : decode cL_law 953 = .ok (.aload_n 0, 1) := by decide +kernel
theorem dL_law_954 : decode cL_law 954 = .ok (.iload_n 3, 1) := by decide +kernel
theorem dL_law_955 : decode cL_law 955 = .ok (.iconst 3, 1) := by decide +kernel
theorem dL_law_956 : decode cL_law 956 = .ok (.iadd, 1) := by decide +kernel
theorem dL_law_957 : decode cL_law 957 = .ok (.iaload, 1) := by decide +kernel
theorem dL_law_958 : decode cL_law 958 = .ok (.aload_n 0, 1) := by decide +kernel
theorem dL_law_959 : decode cL_law 959 = .ok (.iload_n 3, 1) := by decide +kernel
theorem dL_law_960 : decode cL_law 960 = .ok (.iconst 4, 1) := by decide +kernel
theorem dL_law_961 : decode cL_law 961 = .ok (.iadd, 1) := by decide +kernel
theorem dL_law_962 : decode cL_law 962 = .ok (.iaload, 1) := by decide +kernel
theorem dL_law_963 : decode cL_law 963 = .ok (.invokevirtual 133, 3) := by decide +kernel
theorem dL_law_966 : decode cL_law 966 = .ok (.if_icmp .eq 171, 3) := by decide +kernel
theorem dL_law_969 : decode cL_law 969 = .ok (.iconst 0, 1) := by decide +kernel
theorem dL_law_970 : decode cL_law 970 = .ok (.ireturn, 1) := by decide +kernel
theorem dL_law_971 : decode cL_law 971 = .ok (.aload_n 1, 1) := by decide +kernel
theorem dL_law_972 : decode cL_law 972 = .ok (.aload_n 0, 1) := by decide +kernel
theorem dL_law_973 : decode cL_law 973 = .ok (.iload_n 3, 1) := by decide +kernel
theorem dL_law_974 : decode cL_law 974 = .ok (.iconst 1, 1) := by decide +kernel
theorem dL_law_975 : decode cL_law 975 = .ok (.iadd, 1) := by decide +kernel
theorem dL_law_976 : decode cL_law 976 = .ok (.iaload, 1) := by decide +kernel
theorem dL_law_977 : decode cL_law 977 = .ok (.aload_n 0, 1) := by decide +kernel
theorem dL_law_978 : decode cL_law 978 = .ok (.iload_n 3, 1) := by decide +kernel
theorem dL_law_979 : decode cL_law 979 = .ok (.iconst 2, 1) := by decide +kernel
theorem dL_law_980 : decode cL_law 980 = .ok (.iadd, 1) := by decide +kernel
theorem dL_law_981 : decode cL_law 981 = .ok (.iaload, 1) := by decide +kernel
theorem dL_law_982 : decode cL_law 982 = .ok (.aload_n 0, 1) := by decide +kernel
theorem dL_law_983 : decode cL_law 983 = .ok (.iload_n 3, 1) := by decide +kernel
theorem dL_law_984 : decode cL_law 984 = .ok (.iconst 3, 1) := by decide +kernel
theorem dL_law_985 : decode cL_law 985 = .ok (.iadd, 1) := by decide +kernel
theorem dL_law_986 : decode cL_law 986 = .ok (.iaload, 1) := by decide +kernel
theorem dL_law_987 : decode cL_law 987 = .ok (.invokevirtual 134, 3) := by decide +kernel
theorem dL_law_990 : decode cL_law 990 = .ok (.aload_n 2, 1) := by decide +kernel
theorem dL_law_991 : decode cL_law 991 = .ok (.aload_n 0, 1) := by decide +kernel
theorem dL_law_992 : decode cL_law 992 = .ok (.iload_n 3, 1) := by decide +kernel
theorem dL_law_993 : decode cL_law 993 = .ok (.iconst 1, 1) := by decide +kernel
theorem dL_law_994 : decode cL_law 994 = .ok (.iadd, 1) := by decide +kernel
theorem dL_law_995 : decode cL_law 995 = .ok (.iaload, 1) := by decide +kernel
theorem dL_law_996 : decode cL_law 996 = .ok (.aload_n 0, 1) := by decide +kernel
theorem dL_law_997 : decode cL_law 997 = .ok (.iload_n 3, 1) := by decide +kernel
theorem dL_law_998 : decode cL_law 998 = .ok (.iconst 2, 1) := by decide +kernel
theorem dL_law_999 : decode cL_law 999 = .ok (.iadd, 1) := by decide +kernel
theorem dL_law_1000 : decode cL_law 1000 = .ok (.iaload, 1) := by decide +kernel
theorem dL_law_1001 : decode cL_law 1001 = .ok (.aload_n 0, 1) := by decide +kernel
theorem dL_law_1002 : decode cL_law 1002 = .ok (.iload_n 3, 1) := by decide +kernel
theorem dL_law_1003 : decode cL_law 1003 = .ok (.iconst 3, 1) := by decide +kernel
theorem dL_law_1004 : decode cL_law 1004 = .ok (.iadd, 1) := by decide +kernel
theorem dL_law_1005 : decode cL_law 1005 = .ok (.iaload, 1) := by decide +kernel
theorem dL_law_1006 : decode cL_law 1006 = .ok (.invokevirtual 137, 3) := by decide +kernel
theorem dL_law_1009 : decode cL_law 1009 = .ok (.if_icmp .eq 128, 3) := by decide +kernel
theorem dL_law_1012 : decode cL_law 1012 = .ok (.iconst 0, 1) := by decide +kernel
theorem dL_law_1013 : decode cL_law 1013 = .ok (.ireturn, 1) := by decide +kernel
theorem dL_law_1014 : decode cL_law 1014 = .ok (.aload_n 1, 1) := by decide +kernel
theorem dL_law_1015 : decode cL_law 1015 = .ok (.aload_n 0, 1) := by decide +kernel
theorem dL_law_1016 : decode cL_law 1016 = .ok (.iload_n 3, 1) := by decide +kernel
theorem dL_law_1017 : decode cL_law 1017 = .ok (.iconst 1, 1) := by decide +kernel
theorem dL_law_1018 : decode cL_law 1018 = .ok (.iadd, 1) := by decide +kernel
theorem dL_law_1019 : decode cL_law 1019 = .ok (.iaload, 1) := by decide +kernel
theorem dL_law_1020 : decode cL_law 1020 = .ok (.aload_n 0, 1) := by decide +kernel
theorem dL_law_1021 : decode cL_law 1021 = .ok (.iload_n 3, 1) := by decide +kernel
theorem dL_law_1022 : decode cL_law 1022 = .ok (.iconst 2, 1) := by decide +kernel
theorem dL_law_1023 : decode cL_law 1023 = .ok (.iadd, 1) := by decide +kernel
theorem dL_law_1024 : decode cL_law 1024 = .ok (.iaload, 1) := by decide +kernel
theorem dL_law_1025 : decode cL_law 1025 = .ok (.aload_n 0, 1) := by decide +kernel
theorem dL_law_1026 : decode cL_law 1026 = .ok (.iload_n 3, 1) := by decide +kernel
theorem dL_law_1027 : decode cL_law 1027 = .ok (.iconst 3, 1) := by decide +kernel
theorem dL_law_1028 : decode cL_law 1028 = .ok (.iadd, 1) := by decide +kernel
theorem dL_law_1029 : decode cL_law 1029 = .ok (.iaload, 1) := by decide +kernel
theorem dL_law_1030 : decode cL_law 1030 = .ok (.aload_n 0, 1) := by decide +kernel
theorem dL_law_1031 : decode cL_law 1031 = .ok (.iload_n 3, 1) := by decide +kernel
theorem dL_law_1032 : decode cL_law 1032 = .ok (.iconst 4, 1) := by decide +kernel
theorem dL_law_1033 : decode cL_law 1033 = .ok (.iadd, 1) := by decide +kernel
theorem dL_law_1034 : decode cL_law 1034 = .ok (.iaload, 1) := by decide +kernel
theorem dL_law_1035 : decode cL_law 1035 = .ok (.aload_n 0, 1) := by decide +kernel
theorem dL_law_1036 : decode cL_law 1036 = .ok (.iload_n 3, 1) := by decide +kernel
theorem dL_law_1037 : decode cL_law 1037 = .ok (.iconst 5, 1) := by decide +kernel
theorem dL_law_1038 : decode cL_law 1038 = .ok (.iadd, 1) := by decide +kernel
theorem dL_law_1039 : decode cL_law 1039 = .ok (.iaload, 1) := by decide +kernel
theorem dL_law_1040 : decode cL_law 1040 = .ok (.invokevirtual 138, 3) := by decide +kernel
theorem dL_law_1043 : decode cL_law 1043 = .ok (.aload_n 2, 1) := by decide +kernel
theorem dL_law_1044 : decode cL_law 1044 = .ok (.aload_n 0, 1) := by decide +kernel
theorem dL_law_1045 : decode cL_law 1045 = .ok (.iload_n 3, 1) := by decide +kernel
theorem dL_law_1046 : decode cL_law 1046 = .ok (.iconst 1, 1) := by decide +kernel
theorem dL_law_1047 : decode cL_law 1047 = .ok (.iadd, 1) := by decide +kernel
theorem dL_law_1048 : decode cL_law 1048 = .ok (.iaload, 1) := by decide +kernel
theorem dL_law_1049 : decode cL_law 1049 = .ok (.aload_n 0, 1) := by decide +kernel
theorem dL_law_1050 : decode cL_law 1050 = .ok (.iload_n 3, 1) := by decide +kernel
theorem dL_law_1051 : decode cL_law 1051 = .ok (.iconst 2, 1) := by decide +kernel
theorem dL_law_1052 : decode cL_law 1052 = .ok (.iadd, 1) := by decide +kernel
theorem dL_law_1053 : decode cL_law 1053 = .ok (.iaload, 1) := by decide +kernel
theorem dL_law_1054 : decode cL_law 1054 = .ok (.aload_n 0, 1) := by decide +kernel
theorem dL_law_1055 : decode cL_law 1055 = .ok (.iload_n 3, 1) := by decide +kernel
theorem dL_law_1056 : decode cL_law 1056 = .ok (.iconst 3, 1) := by decide +kernel
theorem dL_law_1057 : decode cL_law 1057 = .ok (.iadd, 1) := by decide +kernel
theorem dL_law_1058 : decode cL_law 1058 = .ok (.iaload, 1) := by decide +kernel
theorem dL_law_1059 : decode cL_law 1059 = .ok (.aload_n 0, 1) := by decide +kernel
theorem dL_law_1060 : decode cL_law 1060 = .ok (.iload_n 3, 1) := by decide +kernel
theorem dL_law_1061 : decode cL_law 1061 = .ok (.iconst 4, 1) := by decide +kernel
theorem dL_law_1062 : decode cL_law 1062 = .ok (.iadd, 1) := by decide +kernel
theorem dL_law_1063 : decode cL_law 1063 = .ok (.iaload, 1) := by decide +kernel
theorem dL_law_1064 : decode cL_law 1064 = .ok (.aload_n 0, 1) := by decide +kernel
theorem dL_law_1065 : decode cL_law 1065 = .ok (.iload_n 3, 1) := by decide +kernel
theorem dL_law_1066 : decode cL_law 1066 = .ok (.iconst 5, 1) := by decide +kernel
theorem dL_law_1067 : decode cL_law 1067 = .ok (.iadd, 1) := by decide +kernel
theorem dL_law_1068 : decode cL_law 1068 = .ok (.iaload, 1) := by decide +kernel
theorem dL_law_1069 : decode cL_law 1069 = .ok (.invokevirtual 142, 3) := by decide +kernel
theorem dL_law_1072 : decode cL_law 1072 = .ok (.if_icmp .eq 65, 3) := by decide +kernel
theorem dL_law_1075 : decode cL_law 1075 = .ok (.iconst 0, 1) := by decide +kernel
theorem dL_law_1076 : decode cL_law 1076 = .ok (.ireturn, 1) := by decide +kernel
theorem dL_law_1077 : decode cL_law 1077 = .ok (.aload_n 1, 1) := by decide +kernel
theorem dL_law_1078 : decode cL_law 1078 = .ok (.aload_n 0, 1) := by decide +kernel
theorem dL_law_1079 : decode cL_law 1079 = .ok (.iload_n 3, 1) := by decide +kernel
theorem dL_law_1080 : decode cL_law 1080 = .ok (.iconst 1, 1) := by decide +kernel
theorem dL_law_1081 : decode cL_law 1081 = .ok (.iadd, 1) := by decide +kernel
theorem dL_law_1082 : decode cL_law 1082 = .ok (.iaload, 1) := by decide +kernel
theorem dL_law_1083 : decode cL_law 1083 = .ok (.invokevirtual 143, 3) := by decide +kernel
theorem dL_law_1086 : decode cL_law 1086 = .ok (.aload_n 2, 1) := by decide +kernel
theorem dL_law_1087 : decode cL_law 1087 = .ok (.aload_n 0, 1) := by decide +kernel
theorem dL_law_1088 : decode cL_law 1088 = .ok (.iload_n 3, 1) := by decide +kernel
theorem dL_law_1089 : decode cL_law 1089 = .ok (.iconst 1, 1) := by decide +kernel
theorem dL_law_1090 : decode cL_law 1090 = .ok (.iadd, 1) := by decide +kernel
theorem dL_law_1091 : decode cL_law 1091 = .ok (.iaload, 1) := by decide +kernel
theorem dL_law_1092 : decode cL_law 1092 = .ok (.invokevirtual 146, 3) := by decide +kernel
theorem dL_law_1095 : decode cL_law 1095 = .ok (.if_icmp .eq 42, 3) := by decide +kernel
theorem dL_law_1098 : decode cL_law 1098 = .ok (.iconst 0, 1) := by decide +kernel
theorem dL_law_1099 : decode cL_law 1099 = .ok (.ireturn, 1) := by decide +kernel
theorem dL_law_1100 : decode cL_law 1100 = .ok (.aload_n 1, 1) := by decide +kernel
theorem dL_law_1101 : decode cL_law 1101 = .ok (.aload_n 0, 1) := by decide +kernel
theorem dL_law_1102 : decode cL_law 1102 = .ok (.iload_n 3, 1) := by decide +kernel
theorem dL_law_1103 : decode cL_law 1103 = .ok (.iconst 1, 1) := by decide +kernel
theorem dL_law_1104 : decode cL_law 1104 = .ok (.iadd, 1) := by decide +kernel
theorem dL_law_1105 : decode cL_law 1105 = .ok (.iaload, 1) := by decide +kernel
theorem dL_law_1106 : decode cL_law 1106 = .ok (.invokevirtual 147, 3) := by decide +kernel
theorem dL_law_1109 : decode cL_law 1109 = .ok (.aload_n 2, 1) := by decide +kernel
theorem dL_law_1110 : decode cL_law 1110 = .ok (.aload_n 0, 1) := by decide +kernel
theorem dL_law_1111 : decode cL_law 1111 = .ok (.iload_n 3, 1) := by decide +kernel
theorem dL_law_1112 : decode cL_law 1112 = .ok (.iconst 1, 1) := by decide +kernel
theorem dL_law_1113 : decode cL_law 1113 = .ok (.iadd, 1) := by decide +kernel
theorem dL_law_1114 : decode cL_law 1114 = .ok (.iaload, 1) := by decide +kernel
theorem dL_law_1115 : decode cL_law 1115 = .ok (.invokevirtual 150, 3) := by decide +kernel
theorem dL_law_1118 : decode cL_law 1118 = .ok (.if_icmp .eq 19, 3) := by decide +kernel
theorem dL_law_1121 : decode cL_law 1121 = .ok (.iconst 0, 1) := by decide +kernel
theorem dL_law_1122 : decode cL_law 1122 = .ok (.ireturn, 1) := by decide +kernel
theorem dL_law_1123 : decode cL_law 1123 = .ok (.aload_n 1, 1) := by decide +kernel
theorem dL_law_1124 : decode cL_law 1124 = .ok (.invokevirtual 151, 3) := by decide +kernel
theorem dL_law_1127 : decode cL_law 1127 = .ok (.aload_n 2, 1) := by decide +kernel
theorem dL_law_1128 : decode cL_law 1128 = .ok (.invokevirtual 155, 3) := by decide +kernel
theorem dL_law_1131 : decode cL_law 1131 = .ok (.lcmp, 1) := by decide +kernel
theorem dL_law_1132 : decode cL_law 1132 = .ok (.ifCond .eq 5, 3) := by decide +kernel
theorem dL_law_1135 : decode cL_law 1135 = .ok (.iconst 0, 1) := by decide +kernel
theorem dL_law_1136 : decode cL_law 1136 = .ok (.ireturn, 1) := by decide +kernel
theorem dL_law_1137 : decode cL_law 1137 = .ok (.iinc 3 6, 3) := by decide +kernel
theorem dL_law_1140 : decode cL_law 1140 = .ok (.goto (-1122), 3) := by decide +kernel
theorem dL_law_1143 : decode cL_law 1143 = .ok (.iconst 1, 1) := by decide +kernel
theorem dL_law_1144 : decode cL_law 1144 = .ok (.ireturn, 1) := by decide +kernel
end
section
def gz_nst : List (String × Nat × MethodName) := [(RX7, 18, yX1_init), (RX7, 61, yX5_init), (RX6, 49, yX7_within), (RX1, 25, yX7_within), (RX2, 106, yX7_shelfNumber)]
end
section
/-! A judgement over an abstract world: cells by their number, all whole numbers in one function of cell and place -/
abbrev gz_G : Type := (Nat × Nat) ⊕ ((Bool × Nat) × List (Option (Option Nat)))
abbrev gz_S : Type := Nat → Nat → Int32
abbrev gz_E : Type := Launch × Nat × va_G × (Nat → ClassId) × (Nat × Nat × (Nat → Int32))
abbrev gz_M : Type := MethodName × ByteArray × Nat × Option FieldType
abbrev gz_Q : Type := Option Value → List gz_G → gz_S → Prop
def gz_l (E : gz_E) : Launch := E.1
def gz_B (E : gz_E) : Nat := E.2.1
def gz_D (E : gz_E) : va_G := E.2.2.1
def gz_tc (E : gz_E) : Nat → ClassId := E.2.2.2.1
def gz_b (E : gz_E) : Nat := E.2.2.2.2.1
def gz_L (E : gz_E) : Nat := E.2.2.2.2.2.1
def gz_xs (E : gz_E) : Nat → Int32 := E.2.2.2.2.2.2
def gz_ty : Nat → FieldType
  | 0 => .int
  | 1 => .boolean
  | _ => .object "StoneVotes$Sheet"
def gz_tys (E : gz_E) : List (ClassId × FieldType) := [(gz_tc E 0, .int), (gz_tc E 1, .boolean), (gz_tc E 2, .object "StoneVotes$Sheet")]
def gz_tbl : List Cond := lw_tbl.filter goodWord
def gz_ws (M : gz_M) : List Cond := .code M.1 M.2.1 M.2.2.1 M.2.2.2 :: gz_tbl
def gz_v (E : gz_E) : Value → Value
  | .ref k => .ref (gz_B E + k)
  | .float _ => .ref (gz_b E)
  | v => v
def gz_f (E : gz_E) (S : gz_S) (k j : Nat) : Option (Option Nat) → Value
  | none => .int (S k j)
  | some none => .null
  | some (some a) => .ref (gz_B E + a)
def gz_r (E : gz_E) (fl : List (Option (Option Nat))) (i : Nat) : Option Nat := match fl[i]? with
  | some (some (some a)) => some (gz_B E + a)
  | _ => none
def gz_c (E : gz_E) (S : gz_S) (k : Nat) : gz_G → va_E
  | .inl (t, n) => .inl (gz_tc E t, n, .inl (S k))
  | .inr ((false, ci), fl) => .inr (ci, fl.mapIdx (fun j f => gz_f E S k j f))
  | .inr ((true, t), fl) => .inl (gz_tc E t, fl.length, .inr (.inr (.inr (.inr (gz_r E fl)))))
def gz_w (E : gz_E) (S : gz_S) (G : List gz_G) : va_W := G.mapIdx (fun k g => (gz_B E + k, gz_c E S k g))
def gz_A (E : gz_E) : Nat → Prop := fun q => gz_B E ≤ q
def gz_wd (E : gz_E) (G : List gz_G) (S : gz_S) (s : State) (H : Heap) (locs : List Loc) : Prop := va_P (gz_D E) vwCl (gz_w E S G) H ∧ va_S (gz_A E) s.heap H locs
def gz_h (E : gz_E) (ls : Array Slot) (n : Nat) (L : List (Option Value)) : Prop := ls.size = n ∧ lv_wf ls ∧ ∀ (i : Nat) (v : Value), L[i]? = some (some v) → ls[i]? = some (.val (gz_v E v))
def gz_ret (i : Instr) (v : Option Value) (ret : Option FieldType) : Prop :=
  (i = .ireturn ∧ ∃ x : Int32, v = some (.int x) ∧ ∃ ty : FieldType, ret = some ty ∧ narrow ty (.int x) = .int x) ∨ (i = .lreturn ∧ ∃ x : Int64, v = some (.long x) ∧ ret = some .long) ∨ (i = .areturn ∧ ∃ a : Nat, v = some (.ref a) ∧ ∃ n : String, ret = some (.object n)) ∨ (i = .return_ ∧ v = none ∧ ret = none)
/-- the tables as the worlds need them, and the links between nest mates -/
def gz_KN (E : gz_E) (U : State) : Prop := va_K (gz_D E) vwCl (gz_tys E) U ∧ ∀ q ∈ gz_nst, va_Nw (.methodLinkNest q.1 q.2.1 q.2.2 "StoneVotes") U
theorem gz_KN.moved {E : gz_E} {s U : State} (hW : s.WarmedH U.vm) (h : gz_KN E s) : gz_KN E U := ⟨va_K.moved hW.alike h.1, fun q hq => va_Nw.warmM hW (h.2 q hq)⟩
theorem gz_KN.calling {E : gz_E} {U : State} {g : JFrame} {mk : MethodId} {a : Array Value} (h : gz_KN E U) : gz_KN E (U.calling g mk a) := ⟨va_K.moved (u := U) (U := U.calling g mk a) (Vm.Alike.refl U.vm) h.1, fun q hq => va_Nw.same (u := U) (U := U.calling g mk a) rfl rfl (h.2 q hq)⟩
/-- depth, cells and slots that may be made, cells at the entry -/
abbrev gz_N : Type := Nat × Nat × Nat × Nat
/-- what surrounds a method's run -/
def gz_x (E : gz_E) (M : gz_M) (N : gz_N) (Q : gz_Q) (p : Program) (e : Env) (s : State) (m : MethodId) (args : Array Value) (below : List Frame) (meth : Method) (c : Code) (Z : State → Prop) (R : Room) : Prop :=
  p.tables.exec = Jvm.exec ∧ c.code = M.2.1 ∧ c.maxLocals = M.2.2.1 ∧ s.vm.findClass M.1.cls = some m.cls ∧ (∀ w ∈ gz_tbl, w.before args s = true) ∧ (N.1 ≤ R.frames ∧ 60 * N.1 ≤ R.locals ∧ N.2.1 ≤ R.cells ∧ N.2.2.1 ≤ R.slots) ∧ meth.name = M.1.name ∧ gz_KN E s ∧
  (M.1.name = "law" → va_X (gz_b E) (gz_L E) (gz_xs E) s s.heap ∧ gz_b E < s.heap.size ∧ gz_b E < gz_B E) ∧ (N.2.1 ≠ 0 → s.heap.size = gz_B E + N.2.2.2) ∧
  ∀ (H : Heap) (locs : List Loc) (pc : Nat) (ls : Array Slot) (i : Instr) (v : Option Value) (G : List gz_G) (S : gz_S), gz_wd E G S s H locs → Q v G S → decode M.2.1 pc = .ok (i, 1) → gz_ret i v M.2.2.2 → W p (gz_l E) e R s m args below meth c H locs N.2.1 N.2.2.1 Z (F0 m pc ls ((v.map (gz_v E)).toList))
/-- from this place of a method, with these locals, this stack, this world, it comes to its end with Q -/
def gz_k (E : gz_E) (M : gz_M) (N : gz_N) (cells slots pc : Nat) (L : List (Option Value)) (st : List Value) (G : List gz_G) (S : gz_S) (Q : gz_Q) : Prop :=
  ∀ (p : Program) (e : Env) (s : State) (m : MethodId) (args : Array Value) (below : List Frame) (meth : Method) (c : Code) (Z : State → Prop) (R : Room), gz_x E M N Q p e s m args below meth c Z R →
  ∀ (H : Heap) (locs : List Loc) (ls : Array Slot), gz_wd E G S s H locs → gz_h E ls M.2.2.1 L → W p (gz_l E) e R s m args below meth c H locs cells slots Z (F0 m pc ls (st.map (gz_v E)))
def gz_rm (D mc ms : Nat) : Room := { frames := D, cells := mc, slots := ms, locals := 60 * D }
/-- a method's contract -/
def gz_m (E : gz_E) (M : gz_M) (D mc ms : Nat) (as : List Value) (G : List gz_G) (S : gz_S) (Q : gz_Q) : Prop :=
  Met (gz_l E) M.1 (gz_ws M) (gz_rm D mc ms) (va_Pc (as.map (gz_v E)) (fun U => gz_KN E U ∧ va_P (gz_D E) vwCl (gz_w E S G) U.heap ∧ (mc ≠ 0 → U.heap.size = gz_B E + G.length)))
    (fun _ st oc t => (∃ (v : Option Value) (G2 : List gz_G) (S2 : gz_S), oc = .returned (v.map (gz_v E)) ∧ Q v G2 S2 ∧ va_P (gz_D E) vwCl (gz_w E S2 G2) t.heap) ∧ va_F (gz_A E) st t) mc ms (gz_A E)
theorem gz_w_at {E : gz_E} {S : gz_S} {G : List gz_G} {k : Nat} {g : gz_G} (h : G[k]? = some g) : (gz_w E S G)[k]? = some (gz_B E + k, gz_c E S k g) := by
  unfold gz_w
  rw [List.getElem?_mapIdx, h]
  rfl
theorem gz_dd (E : gz_E) (S : gz_S) (G : List gz_G) : va_D (gz_A E) (gz_w E S G) := by
  have key : ∀ (k : Nat) (q : Nat × va_E), (gz_w E S G)[k]? = some q → q.1 = gz_B E + k := by
    intro k q h
    unfold gz_w at h
    rw [List.getElem?_mapIdx] at h
    cases hg : G[k]? with
    | none => rw [hg] at h; cases h
    | some g => rw [hg] at h; cases h; rfl
  refine ⟨fun i j x y hi hj hxy => ?_, fun k q hk => ?_⟩
  · have h1 := key i x hi
    have h2 := key j y hj
    omega
  · have h1 := key k q hk
    show gz_B E ≤ q.1
    omega
/-- one cell's numbers -/
def gz_u (S : gz_S) (k : Nat) (f : Nat → Int32) : gz_S := fun a => if a = k then f else S a
theorem gz_c_cong {E : gz_E} {S S' : gz_S} {k : Nat} (g : gz_G) (h : S' k = S k) : gz_c E S' k g = gz_c E S k g := by
  rcases g with ⟨t, n⟩ | ⟨⟨b, ci⟩, fl⟩
  · simp only [gz_c, h]
  · cases b
    · simp only [gz_c]
      congr 2
      congr 1
      funext j f
      cases f with
      | none => simp only [gz_f, h]
      | some o => cases o <;> rfl
    · rfl
theorem gz_w_put {E : gz_E} {S : gz_S} {G : List gz_G} {k : Nat} {g : gz_G} (h : G[k]? = some g) (f : Nat → Int32) : (gz_w E S G).set k (gz_B E + k, gz_c E (gz_u S k f) k g) = gz_w E (gz_u S k f) G := by
  apply List.ext_getElem?
  intro i
  have hk : k < (gz_w E S G).length := (List.getElem?_eq_some_iff.mp (gz_w_at h)).1
  by_cases hi : i = k
  · subst hi
    rw [List.getElem?_set_self hk, gz_w_at h]
  · rw [List.getElem?_set_ne (Ne.symm hi)]
    unfold gz_w
    rw [List.getElem?_mapIdx, List.getElem?_mapIdx]
    cases hg : G[i]? with
    | none => rfl
    | some g' =>
      simp only [Option.map_some]
      rw [gz_c_cong g' (show gz_u S k f i = S i by unfold gz_u; rw [if_neg hi])]
theorem gz_u_at (S : gz_S) (k : Nat) (f : Nat → Int32) : gz_u S k f k = f := by unfold gz_u; rw [if_pos rfl]
theorem gz_u_ne (S : gz_S) {k a : Nat} (f : Nat → Int32) (h : a ≠ k) : gz_u S k f a = S a := by unfold gz_u; rw [if_neg h]
def gz_p (E : gz_E) (L : List (Option Value)) : List (Nat × Value) := (List.range L.length).filterMap (fun i => match L[i]? with
  | some (some v) => some (i, gz_v E v)
  | _ => none)
theorem gz_p_mem {E : gz_E} {L : List (Option Value)} {i : Nat} {v : Value} (h : L[i]? = some (some v)) : (i, gz_v E v) ∈ gz_p E L := by
  unfold gz_p
  refine List.mem_filterMap.mpr ⟨i, List.mem_range.mpr (List.getElem?_eq_some_iff.mp h).1, ?_⟩
  simp only [h]
theorem gz_p_has {E : gz_E} {ls : Array Slot} {n : Nat} {L : List (Option Value)} (h : gz_h E ls n L) : lv_has ls n (gz_p E L) := by
  refine ⟨h.1, h.2.1, fun q hq => ?_⟩
  unfold gz_p at hq
  obtain ⟨i, hi, hq⟩ := List.mem_filterMap.mp hq
  cases hl : L[i]? with
  | none => rw [hl] at hq; cases hq
  | some o =>
    cases o with
    | none => rw [hl] at hq; cases hq
    | some v => rw [hl] at hq; cases hq; exact h.2.2 i v hl
/-- a long doesn't stand just before -/
def gz_o (L : List (Option Value)) : Nat → Bool
  | 0 => true
  | i + 1 => match L[i]? with
    | some (some v) => v.category == 1
    | _ => true
theorem gz_v_cat (E : gz_E) (v : Value) : (gz_v E v).category = v.category := by cases v <;> rfl
theorem gz_h_set1 {E : gz_E} {ls : Array Slot} {n : Nat} {L : List (Option Value)} {i : Nat} {v : Value} (ho : gz_o L i = true) (h : lv_has ls n ((i, gz_v E v) :: (gz_p E L).filter (fun q => !(q.1 == i) && !(q.1 + 1 == i && q.2.category == 2)))) : gz_h E ls n (L.set i (some v)) := by
  refine ⟨h.1, h.2.1, fun j w hj => ?_⟩
  by_cases hji : j = i
  · subst hji
    have hl : j < L.length := by
      have := (List.getElem?_eq_some_iff.mp hj).1
      simpa using this
    rw [List.getElem?_set_self hl] at hj
    cases hj
    exact h.2.2 _ List.mem_cons_self
  · rw [List.getElem?_set_ne (Ne.symm hji)] at hj
    refine h.2.2 (j, gz_v E w) (List.mem_cons_of_mem _ (List.mem_filter.mpr ⟨gz_p_mem hj, ?_⟩))
    have h1 : (j == i) = false := by simpa using hji
    simp only [h1, Bool.not_false, Bool.true_and]
    cases i with
    | zero => simp
    | succ i' =>
      by_cases h2 : j = i'
      · subst h2
        simp only [gz_o, hj] at ho
        simp only [gz_v_cat]
        have h3 : w.category = 1 := by simpa using ho
        simp [h3]
      · have : (j + 1 == i' + 1) = false := by simpa using h2
        simp [h2]
theorem gz_h_set2 {E : gz_E} {ls : Array Slot} {n : Nat} {L : List (Option Value)} {i : Nat} {v : Value} (ho : gz_o L i = true) (h : lv_has ls n ((i, gz_v E v) :: (gz_p E L).filter (fun q => !(q.1 == i) && (!(q.1 == i + 1) && !(q.1 + 1 == i && q.2.category == 2))))) : gz_h E ls n ((L.set i (some v)).set (i + 1) none) := by
  refine ⟨h.1, h.2.1, fun j w hj => ?_⟩
  by_cases hj1 : j = i + 1
  · subst hj1
    have hl : i + 1 < (L.set i (some v)).length := by
      have := (List.getElem?_eq_some_iff.mp hj).1
      simpa using this
    rw [List.getElem?_set_self hl] at hj
    cases hj
  rw [List.getElem?_set_ne (Ne.symm hj1)] at hj
  by_cases hji : j = i
  · subst hji
    have hl : j < L.length := by
      have := (List.getElem?_eq_some_iff.mp hj).1
      simpa using this
    rw [List.getElem?_set_self hl] at hj
    cases hj
    exact h.2.2 _ List.mem_cons_self
  · rw [List.getElem?_set_ne (Ne.symm hji)] at hj
    refine h.2.2 (j, gz_v E w) (List.mem_cons_of_mem _ (List.mem_filter.mpr ⟨gz_p_mem hj, ?_⟩))
    have h1 : (j == i) = false := by simpa using hji
    have h0 : (j == i + 1) = false := by simpa using hj1
    simp only [h1, h0, Bool.not_false, Bool.true_and]
    cases i with
    | zero => simp
    | succ i' =>
      by_cases h2 : j = i'
      · subst h2
        simp only [gz_o, hj] at ho
        simp only [gz_v_cat]
        have h3 : w.category = 1 := by simpa using ho
        simp [h3]
      · simp [h2]
end
section
section
variable {E : gz_E} {M : gz_M} {N : gz_N} {cells slots pc : Nat} {L : List (Option Value)} {st : List Value} {G : List gz_G} {S : gz_S} {Q : gz_Q}
theorem gk_iconst {n : Int} {v : Int32} (hd : decode M.2.1 pc = .ok (.iconst n, 1)) (hv : Int32.ofInt n = v) (k : gz_k E M N cells slots (pc + 1) L (.int v :: st) G S Q) : gz_k E M N cells slots pc L (st) G S Q := by
  intro p e s m args below meth c Z R C H locs ls hw hh
  exact lv_iconst C.1 C.2.1 hd hv (k p e s m args below meth c Z R C H locs ls hw hh)
theorem gk_bipush {n : Int} {v : Int32} (hd : decode M.2.1 pc = .ok (.bipush n, 2)) (hv : (Int8.ofInt n).toInt32 = v) (k : gz_k E M N cells slots (pc + 2) L (.int v :: st) G S Q) : gz_k E M N cells slots pc L (st) G S Q := by
  intro p e s m args below meth c Z R C H locs ls hw hh
  exact lv_bipush C.1 C.2.1 hd hv (k p e s m args below meth c Z R C H locs ls hw hh)
theorem gk_sipush {n : Int} {v : Int32} (hd : decode M.2.1 pc = .ok (.sipush n, 3)) (hv : (Int16.ofInt n).toInt32 = v) (k : gz_k E M N cells slots (pc + 3) L (.int v :: st) G S Q) : gz_k E M N cells slots pc L (st) G S Q := by
  intro p e s m args below meth c Z R C H locs ls hw hh
  exact lv_sipush C.1 C.2.1 hd hv (k p e s m args below meth c Z R C H locs ls hw hh)
theorem gk_lconst {n : Fin 2} {v : Int64} (hd : decode M.2.1 pc = .ok (.lconst n, 1)) (hv : Int64.ofNat (n : Nat) = v) (k : gz_k E M N cells slots (pc + 1) L (.long v :: st) G S Q) : gz_k E M N cells slots pc L (st) G S Q := by
  intro p e s m args below meth c Z R C H locs ls hw hh
  exact lv_lconst C.1 C.2.1 hd hv (k p e s m args below meth c Z R C H locs ls hw hh)
theorem gk_iadd {x y : Int32} (hd : decode M.2.1 pc = .ok (.iadd, 1)) (k : gz_k E M N cells slots (pc + 1) L (.int (x + y) :: st) G S Q) : gz_k E M N cells slots pc L (.int y :: .int x :: st) G S Q := by
  intro p e s m args below meth c Z R C H locs ls hw hh
  exact lv_iadd C.1 C.2.1 hd (k p e s m args below meth c Z R C H locs ls hw hh)
theorem gk_isub {x y : Int32} (hd : decode M.2.1 pc = .ok (.isub, 1)) (k : gz_k E M N cells slots (pc + 1) L (.int (x - y) :: st) G S Q) : gz_k E M N cells slots pc L (.int y :: .int x :: st) G S Q := by
  intro p e s m args below meth c Z R C H locs ls hw hh
  exact lv_isub C.1 C.2.1 hd (k p e s m args below meth c Z R C H locs ls hw hh)
theorem gk_imul {x y : Int32} (hd : decode M.2.1 pc = .ok (.imul, 1)) (k : gz_k E M N cells slots (pc + 1) L (.int (x * y) :: st) G S Q) : gz_k E M N cells slots pc L (.int y :: .int x :: st) G S Q := by
  intro p e s m args below meth c Z R C H locs ls hw hh
  exact lv_imul C.1 C.2.1 hd (k p e s m args below meth c Z R C H locs ls hw hh)
theorem gk_iand {x y : Int32} (hd : decode M.2.1 pc = .ok (.iand, 1)) (k : gz_k E M N cells slots (pc + 1) L (.int (x &&& y) :: st) G S Q) : gz_k E M N cells slots pc L (.int y :: .int x :: st) G S Q := by
  intro p e s m args below meth c Z R C H locs ls hw hh
  exact lv_iand C.1 C.2.1 hd (k p e s m args below meth c Z R C H locs ls hw hh)
theorem gk_ior {x y : Int32} (hd : decode M.2.1 pc = .ok (.ior, 1)) (k : gz_k E M N cells slots (pc + 1) L (.int (x ||| y) :: st) G S Q) : gz_k E M N cells slots pc L (.int y :: .int x :: st) G S Q := by
  intro p e s m args below meth c Z R C H locs ls hw hh
  exact lv_ior C.1 C.2.1 hd (k p e s m args below meth c Z R C H locs ls hw hh)
theorem gk_ixor {x y : Int32} (hd : decode M.2.1 pc = .ok (.ixor, 1)) (k : gz_k E M N cells slots (pc + 1) L (.int (x ^^^ y) :: st) G S Q) : gz_k E M N cells slots pc L (.int y :: .int x :: st) G S Q := by
  intro p e s m args below meth c Z R C H locs ls hw hh
  exact lv_ixor C.1 C.2.1 hd (k p e s m args below meth c Z R C H locs ls hw hh)
theorem gk_ladd {x y : Int64} (hd : decode M.2.1 pc = .ok (.ladd, 1)) (k : gz_k E M N cells slots (pc + 1) L (.long (x + y) :: st) G S Q) : gz_k E M N cells slots pc L (.long y :: .long x :: st) G S Q := by
  intro p e s m args below meth c Z R C H locs ls hw hh
  exact lv_ladd C.1 C.2.1 hd (k p e s m args below meth c Z R C H locs ls hw hh)
theorem gk_lmul {x y : Int64} (hd : decode M.2.1 pc = .ok (.lmul, 1)) (k : gz_k E M N cells slots (pc + 1) L (.long (x * y) :: st) G S Q) : gz_k E M N cells slots pc L (.long y :: .long x :: st) G S Q := by
  intro p e s m args below meth c Z R C H locs ls hw hh
  exact lv_lmul C.1 C.2.1 hd (k p e s m args below meth c Z R C H locs ls hw hh)
theorem gk_lsub {x y : Int64} (hd : decode M.2.1 pc = .ok (.lsub, 1)) (k : gz_k E M N cells slots (pc + 1) L (.long (x - y) :: st) G S Q) : gz_k E M N cells slots pc L (.long y :: .long x :: st) G S Q := by
  intro p e s m args below meth c Z R C H locs ls hw hh
  exact lv_lsub C.1 C.2.1 hd (k p e s m args below meth c Z R C H locs ls hw hh)
theorem gk_idiv {x y : Int32} (hd : decode M.2.1 pc = .ok (.idiv, 1)) (hne : ¬ y = 0) (k : gz_k E M N cells slots (pc + 1) L (.int (x / y) :: st) G S Q) : gz_k E M N cells slots pc L (.int y :: .int x :: st) G S Q := by
  intro p e s m args below meth c Z R C H locs ls hw hh
  exact lv_idiv C.1 C.2.1 hd hne (k p e s m args below meth c Z R C H locs ls hw hh)
theorem gk_irem {x y : Int32} (hd : decode M.2.1 pc = .ok (.irem, 1)) (hne : ¬ y = 0) (k : gz_k E M N cells slots (pc + 1) L (.int (x - x / y * y) :: st) G S Q) : gz_k E M N cells slots pc L (.int y :: .int x :: st) G S Q := by
  intro p e s m args below meth c Z R C H locs ls hw hh
  exact lv_irem C.1 C.2.1 hd hne (k p e s m args below meth c Z R C H locs ls hw hh)
theorem gk_ineg {x : Int32} (hd : decode M.2.1 pc = .ok (.ineg, 1)) (k : gz_k E M N cells slots (pc + 1) L (.int (-x) :: st) G S Q) : gz_k E M N cells slots pc L (.int x :: st) G S Q := by
  intro p e s m args below meth c Z R C H locs ls hw hh
  exact lv_ineg C.1 C.2.1 hd (k p e s m args below meth c Z R C H locs ls hw hh)
theorem gk_ishl {x y : Int32} (hd : decode M.2.1 pc = .ok (.ishl, 1)) (k : gz_k E M N cells slots (pc + 1) L (.int (x <<< (y &&& 31)) :: st) G S Q) : gz_k E M N cells slots pc L (.int y :: .int x :: st) G S Q := by
  intro p e s m args below meth c Z R C H locs ls hw hh
  exact lv_ishl C.1 C.2.1 hd (k p e s m args below meth c Z R C H locs ls hw hh)
theorem gk_ishr {x y : Int32} (hd : decode M.2.1 pc = .ok (.ishr, 1)) (k : gz_k E M N cells slots (pc + 1) L (.int (x >>> (y &&& 31)) :: st) G S Q) : gz_k E M N cells slots pc L (.int y :: .int x :: st) G S Q := by
  intro p e s m args below meth c Z R C H locs ls hw hh
  exact lv_ishr C.1 C.2.1 hd (k p e s m args below meth c Z R C H locs ls hw hh)
theorem gk_iushr {x y : Int32} (hd : decode M.2.1 pc = .ok (.iushr, 1)) (k : gz_k E M N cells slots (pc + 1) L (.int ((x.toUInt32 >>> (y.toUInt32 &&& Int32.toUInt32 31)).toInt32) :: st) G S Q) : gz_k E M N cells slots pc L (.int y :: .int x :: st) G S Q := by
  intro p e s m args below meth c Z R C H locs ls hw hh
  exact lv_iushr C.1 C.2.1 hd rfl (k p e s m args below meth c Z R C H locs ls hw hh)
theorem gk_i2l {x : Int32} (hd : decode M.2.1 pc = .ok (.i2l, 1)) (k : gz_k E M N cells slots (pc + 1) L (.long x.toInt64 :: st) G S Q) : gz_k E M N cells slots pc L (.int x :: st) G S Q := by
  intro p e s m args below meth c Z R C H locs ls hw hh
  exact lv_i2l C.1 C.2.1 hd rfl (k p e s m args below meth c Z R C H locs ls hw hh)
theorem gk_i2b {x : Int32} (hd : decode M.2.1 pc = .ok (.i2b, 1)) (k : gz_k E M N cells slots (pc + 1) L (.int x.toInt8.toInt32 :: st) G S Q) : gz_k E M N cells slots pc L (.int x :: st) G S Q := by
  intro p e s m args below meth c Z R C H locs ls hw hh
  exact lv_i2b C.1 C.2.1 hd rfl (k p e s m args below meth c Z R C H locs ls hw hh)
theorem gk_i2s {x : Int32} (hd : decode M.2.1 pc = .ok (.i2s, 1)) (k : gz_k E M N cells slots (pc + 1) L (.int x.toInt16.toInt32 :: st) G S Q) : gz_k E M N cells slots pc L (.int x :: st) G S Q := by
  intro p e s m args below meth c Z R C H locs ls hw hh
  exact lv_i2s C.1 C.2.1 hd rfl (k p e s m args below meth c Z R C H locs ls hw hh)
theorem gk_lcmp {x y : Int64} (hd : decode M.2.1 pc = .ok (.lcmp, 1)) (k : gz_k E M N cells slots (pc + 1) L (.int (lg_cmp x y) :: st) G S Q) : gz_k E M N cells slots pc L (.long y :: .long x :: st) G S Q := by
  intro p e s m args below meth c Z R C H locs ls hw hh
  exact W.lcmp C.1 C.2.1 hd (k p e s m args below meth c Z R C H locs ls hw hh)
theorem gk_dup {v : Value} (hd : decode M.2.1 pc = .ok (.dup, 1)) (hv : v.category = 1) (k : gz_k E M N cells slots (pc + 1) L (v :: v :: st) G S Q) : gz_k E M N cells slots pc L (v :: st) G S Q := by
  intro p e s m args below meth c Z R C H locs ls hw hh
  exact lv_dup C.1 C.2.1 hd ((gz_v_cat E v).trans hv) (k p e s m args below meth c Z R C H locs ls hw hh)
theorem gk_pop {v : Value} (hd : decode M.2.1 pc = .ok (.pop, 1)) (hv : v.category = 1) (k : gz_k E M N cells slots (pc + 1) L (st) G S Q) : gz_k E M N cells slots pc L (v :: st) G S Q := by
  intro p e s m args below meth c Z R C H locs ls hw hh
  exact lv_pop C.1 C.2.1 hd ((gz_v_cat E v).trans hv) (k p e s m args below meth c Z R C H locs ls hw hh)
theorem gk_dup2 {v u : Value} (hd : decode M.2.1 pc = .ok (.dup2, 1)) (hv : v.category = 1) (hu : u.category = 1) (k : gz_k E M N cells slots (pc + 1) L (v :: u :: v :: u :: st) G S Q) : gz_k E M N cells slots pc L (v :: u :: st) G S Q := by
  intro p e s m args below meth c Z R C H locs ls hw hh
  exact lv_dup2_11 C.1 C.2.1 hd ((gz_v_cat E v).trans hv) ((gz_v_cat E u).trans hu) (k p e s m args below meth c Z R C H locs ls hw hh)
theorem gk_dup_x1 {v u : Value} (hd : decode M.2.1 pc = .ok (.dup_x1, 1)) (hv : v.category = 1) (hu : u.category = 1) (k : gz_k E M N cells slots (pc + 1) L (v :: u :: v :: st) G S Q) : gz_k E M N cells slots pc L (v :: u :: st) G S Q := by
  intro p e s m args below meth c Z R C H locs ls hw hh
  exact lv_dup_x1 C.1 C.2.1 hd ((gz_v_cat E v).trans hv) ((gz_v_cat E u).trans hu) (k p e s m args below meth c Z R C H locs ls hw hh)
theorem gk_iload_n {k : Fin 4} {x : Int32} (hd : decode M.2.1 pc = .ok (.iload_n k, 1)) (hl : L[(k : Nat)]? = some (some (.int x))) (k : gz_k E M N cells slots (pc + 1) L (.int x :: st) G S Q) : gz_k E M N cells slots pc L st G S Q := by
  intro p e s m args below meth c Z R C H locs ls hw hh
  exact lv_iload_n C.1 C.2.1 hd rfl (hh.2.2 _ _ hl) (k p e s m args below meth c Z R C H locs ls hw hh)
theorem gk_iload {i : Nat} {x : Int32} (hd : decode M.2.1 pc = .ok (.iload i, 2)) (hl : L[i]? = some (some (.int x))) (k : gz_k E M N cells slots (pc + 2) L (.int x :: st) G S Q) : gz_k E M N cells slots pc L st G S Q := by
  intro p e s m args below meth c Z R C H locs ls hw hh
  exact lv_iload C.1 C.2.1 hd (hh.2.2 _ _ hl) (k p e s m args below meth c Z R C H locs ls hw hh)
theorem gk_lload_n {k : Fin 4} {x : Int64} (hd : decode M.2.1 pc = .ok (.lload_n k, 1)) (hl : L[(k : Nat)]? = some (some (.long x))) (k : gz_k E M N cells slots (pc + 1) L (.long x :: st) G S Q) : gz_k E M N cells slots pc L st G S Q := by
  intro p e s m args below meth c Z R C H locs ls hw hh
  exact lv_lload_n C.1 C.2.1 hd rfl (hh.2.2 _ _ hl) (k p e s m args below meth c Z R C H locs ls hw hh)
theorem gk_lload {i : Nat} {x : Int64} (hd : decode M.2.1 pc = .ok (.lload i, 2)) (hl : L[i]? = some (some (.long x))) (k : gz_k E M N cells slots (pc + 2) L (.long x :: st) G S Q) : gz_k E M N cells slots pc L st G S Q := by
  intro p e s m args below meth c Z R C H locs ls hw hh
  exact lv_lload C.1 C.2.1 hd (hh.2.2 _ _ hl) (k p e s m args below meth c Z R C H locs ls hw hh)
theorem gk_aload_n {k : Fin 4} {x : Nat} (hd : decode M.2.1 pc = .ok (.aload_n k, 1)) (hl : L[(k : Nat)]? = some (some (.ref x))) (k : gz_k E M N cells slots (pc + 1) L (.ref x :: st) G S Q) : gz_k E M N cells slots pc L st G S Q := by
  intro p e s m args below meth c Z R C H locs ls hw hh
  exact lv_aload_n C.1 C.2.1 hd rfl (hh.2.2 _ _ hl) (k p e s m args below meth c Z R C H locs ls hw hh)
theorem gk_aload {i : Nat} {x : Nat} (hd : decode M.2.1 pc = .ok (.aload i, 2)) (hl : L[i]? = some (some (.ref x))) (k : gz_k E M N cells slots (pc + 2) L (.ref x :: st) G S Q) : gz_k E M N cells slots pc L st G S Q := by
  intro p e s m args below meth c Z R C H locs ls hw hh
  exact lv_aload C.1 C.2.1 hd (hh.2.2 _ _ hl) (k p e s m args below meth c Z R C H locs ls hw hh)
theorem gk_sload_n {k : Fin 4} {x : UInt32} (hd : decode M.2.1 pc = .ok (.aload_n k, 1)) (hl : L[(k : Nat)]? = some (some (.float x))) (k : gz_k E M N cells slots (pc + 1) L (.float x :: st) G S Q) : gz_k E M N cells slots pc L st G S Q := by
  intro p e s m args below meth c Z R C H locs ls hw hh
  exact lv_aload_n C.1 C.2.1 hd rfl (hh.2.2 _ _ hl) (k p e s m args below meth c Z R C H locs ls hw hh)
theorem gk_istore_n {k : Fin 4} {x : Int32} {L2 : List (Option Value)} (hd : decode M.2.1 pc = .ok (.istore_n k, 1)) (hn : (k : Nat) < M.2.2.1) (ho : gz_o L (k : Nat) = true) (h2 : L.set (k : Nat) (some (.int x)) = L2) (k : gz_k E M N cells slots (pc + 1) L2 st G S Q) : gz_k E M N cells slots pc L (.int x :: st) G S Q := by
  intro p e s m args below meth c Z R C H locs ls hw hh
  subst h2
  exact lv_istore_n C.1 C.2.1 hd rfl (gz_p_has hh) hn rfl (fun ls2 h2 => k p e s m args below meth c Z R C H locs ls2 hw (gz_h_set1 (v := .int x) ho h2))
theorem gk_istore {i : Nat} {x : Int32} {L2 : List (Option Value)} (hd : decode M.2.1 pc = .ok (.istore i, 2)) (hn : i < M.2.2.1) (ho : gz_o L i = true) (h2 : L.set i (some (.int x)) = L2) (k : gz_k E M N cells slots (pc + 2) L2 st G S Q) : gz_k E M N cells slots pc L (.int x :: st) G S Q := by
  intro p e s m args below meth c Z R C H locs ls hw hh
  subst h2
  exact lv_istore C.1 C.2.1 hd (gz_p_has hh) hn rfl (fun ls2 h2 => k p e s m args below meth c Z R C H locs ls2 hw (gz_h_set1 (v := .int x) ho h2))
theorem gk_astore_n {k : Fin 4} {x : Nat} {L2 : List (Option Value)} (hd : decode M.2.1 pc = .ok (.astore_n k, 1)) (hn : (k : Nat) < M.2.2.1) (ho : gz_o L (k : Nat) = true) (h2 : L.set (k : Nat) (some (.ref x)) = L2) (k : gz_k E M N cells slots (pc + 1) L2 st G S Q) : gz_k E M N cells slots pc L (.ref x :: st) G S Q := by
  intro p e s m args below meth c Z R C H locs ls hw hh
  subst h2
  exact lv_astore_n C.1 C.2.1 hd rfl (gz_p_has hh) hn rfl (fun ls2 h2 => k p e s m args below meth c Z R C H locs ls2 hw (gz_h_set1 (v := .ref x) ho h2))
theorem gk_astore {i : Nat} {x : Nat} {L2 : List (Option Value)} (hd : decode M.2.1 pc = .ok (.astore i, 2)) (hn : i < M.2.2.1) (ho : gz_o L i = true) (h2 : L.set i (some (.ref x)) = L2) (k : gz_k E M N cells slots (pc + 2) L2 st G S Q) : gz_k E M N cells slots pc L (.ref x :: st) G S Q := by
  intro p e s m args below meth c Z R C H locs ls hw hh
  subst h2
  exact lv_astore C.1 C.2.1 hd (gz_p_has hh) hn rfl (fun ls2 h2 => k p e s m args below meth c Z R C H locs ls2 hw (gz_h_set1 (v := .ref x) ho h2))
theorem gk_lstore_n {k : Fin 4} {x : Int64} {L2 : List (Option Value)} (hd : decode M.2.1 pc = .ok (.lstore_n k, 1)) (hn : (k : Nat) + 1 < M.2.2.1) (ho : gz_o L (k : Nat) = true) (h2 : (L.set (k : Nat) (some (.long x))).set ((k : Nat) + 1) none = L2) (k : gz_k E M N cells slots (pc + 1) L2 st G S Q) : gz_k E M N cells slots pc L (.long x :: st) G S Q := by
  intro p e s m args below meth c Z R C H locs ls hw hh
  subst h2
  exact lv_lstore_n C.1 C.2.1 hd rfl (gz_p_has hh) hn rfl (fun ls2 h2 => k p e s m args below meth c Z R C H locs ls2 hw (gz_h_set2 (v := .long x) ho h2))
theorem gk_lstore {i : Nat} {x : Int64} {L2 : List (Option Value)} (hd : decode M.2.1 pc = .ok (.lstore i, 2)) (hn : i + 1 < M.2.2.1) (ho : gz_o L i = true) (h2 : (L.set i (some (.long x))).set (i + 1) none = L2) (k : gz_k E M N cells slots (pc + 2) L2 st G S Q) : gz_k E M N cells slots pc L (.long x :: st) G S Q := by
  intro p e s m args below meth c Z R C H locs ls hw hh
  subst h2
  exact lv_lstore C.1 C.2.1 hd (gz_p_has hh) hn rfl (fun ls2 h2 => k p e s m args below meth c Z R C H locs ls2 hw (gz_h_set2 (v := .long x) ho h2))
theorem gz_p_has1 {ls : Array Slot} {n i : Nat} {v : Value} (h : gz_h E ls n L) (hl : L[i]? = some (some v)) : lv_has ls n ((i, gz_v E v) :: gz_p E L) := by
  have h1 := gz_p_has h
  refine ⟨h1.1, h1.2.1, fun q hq => ?_⟩
  rcases List.mem_cons.mp hq with rfl | hq
  · exact h.2.2 _ _ hl
  · exact h1.2.2 q hq
theorem gz_h_inc {ls : Array Slot} {n i : Nat} {u v : Value} (ho : gz_o L i = true) (h : lv_has ls n ((i, gz_v E v) :: ((i, gz_v E u) :: gz_p E L).filter (fun q => !(q.1 == i) && !(q.1 + 1 == i && q.2.category == 2)))) : gz_h E ls n (L.set i (some v)) := by
  refine gz_h_set1 ho ?_
  have e : ((i, gz_v E u) :: gz_p E L).filter (fun q => !(q.1 == i) && !(q.1 + 1 == i && q.2.category == 2)) = (gz_p E L).filter (fun q => !(q.1 == i) && !(q.1 + 1 == i && q.2.category == 2)) := by simp
  rw [e] at h
  exact h
theorem gk_iinc {i : Nat} {n : Int} {x v : Int32} {L2 : List (Option Value)} (hd : decode M.2.1 pc = .ok (.iinc i n, 3)) (hl : L[i]? = some (some (.int x))) (hn : i < M.2.2.1) (ho : gz_o L i = true) (hv : x + Int32.ofInt n = v) (h2 : L.set i (some (.int v)) = L2) (k : gz_k E M N cells slots (pc + 3) L2 st G S Q) : gz_k E M N cells slots pc L st G S Q := by
  intro p e s m args below meth c Z R C H locs ls hw hh
  subst h2
  exact lv_iinc C.1 C.2.1 hd (gz_p_has1 (v := .int x) hh hl) (k := 0) rfl hv hn rfl (fun ls2 h2 => k p e s m args below meth c Z R C H locs ls2 hw (gz_h_inc (u := .int x) (v := .int v) ho h2))
theorem gk_if_eq {x : Int32} {off : Int} {tgt : Nat} (hd : decode M.2.1 pc = .ok (.ifCond .eq off, 3)) (ht : (pc : Int) + off = (tgt : Int)) (kt : x = 0 → gz_k E M N cells slots tgt L st G S Q) (kf : ¬ x = 0 → gz_k E M N cells slots (pc + 3) L st G S Q) : gz_k E M N cells slots pc L (.int x :: st) G S Q := by
  intro p e s m args below meth c Z R C H locs ls hw hh
  exact lv_if_eq C.1 C.2.1 hd ht (fun h => kt h p e s m args below meth c Z R C H locs ls hw hh) (fun h => kf h p e s m args below meth c Z R C H locs ls hw hh)
theorem gk_if_ne {x : Int32} {off : Int} {tgt : Nat} (hd : decode M.2.1 pc = .ok (.ifCond .ne off, 3)) (ht : (pc : Int) + off = (tgt : Int)) (kt : ¬ x = 0 → gz_k E M N cells slots tgt L st G S Q) (kf : x = 0 → gz_k E M N cells slots (pc + 3) L st G S Q) : gz_k E M N cells slots pc L (.int x :: st) G S Q := by
  intro p e s m args below meth c Z R C H locs ls hw hh
  exact lv_if_ne C.1 C.2.1 hd ht (fun h => kt h p e s m args below meth c Z R C H locs ls hw hh) (fun h => kf h p e s m args below meth c Z R C H locs ls hw hh)
theorem gk_if_lt {x : Int32} {off : Int} {tgt : Nat} (hd : decode M.2.1 pc = .ok (.ifCond .lt off, 3)) (ht : (pc : Int) + off = (tgt : Int)) (kt : x < 0 → gz_k E M N cells slots tgt L st G S Q) (kf : ¬ x < 0 → gz_k E M N cells slots (pc + 3) L st G S Q) : gz_k E M N cells slots pc L (.int x :: st) G S Q := by
  intro p e s m args below meth c Z R C H locs ls hw hh
  exact lv_if_lt C.1 C.2.1 hd ht (fun h => kt h p e s m args below meth c Z R C H locs ls hw hh) (fun h => kf h p e s m args below meth c Z R C H locs ls hw hh)
theorem gk_if_ge {x : Int32} {off : Int} {tgt : Nat} (hd : decode M.2.1 pc = .ok (.ifCond .ge off, 3)) (ht : (pc : Int) + off = (tgt : Int)) (kt : 0 ≤ x → gz_k E M N cells slots tgt L st G S Q) (kf : ¬ 0 ≤ x → gz_k E M N cells slots (pc + 3) L st G S Q) : gz_k E M N cells slots pc L (.int x :: st) G S Q := by
  intro p e s m args below meth c Z R C H locs ls hw hh
  exact lv_if_ge C.1 C.2.1 hd ht (fun h => kt h p e s m args below meth c Z R C H locs ls hw hh) (fun h => kf h p e s m args below meth c Z R C H locs ls hw hh)
theorem gk_if_gt {x : Int32} {off : Int} {tgt : Nat} (hd : decode M.2.1 pc = .ok (.ifCond .gt off, 3)) (ht : (pc : Int) + off = (tgt : Int)) (kt : 0 < x → gz_k E M N cells slots tgt L st G S Q) (kf : ¬ 0 < x → gz_k E M N cells slots (pc + 3) L st G S Q) : gz_k E M N cells slots pc L (.int x :: st) G S Q := by
  intro p e s m args below meth c Z R C H locs ls hw hh
  exact lv_if_gt C.1 C.2.1 hd ht (fun h => kt h p e s m args below meth c Z R C H locs ls hw hh) (fun h => kf h p e s m args below meth c Z R C H locs ls hw hh)
theorem gk_if_le {x : Int32} {off : Int} {tgt : Nat} (hd : decode M.2.1 pc = .ok (.ifCond .le off, 3)) (ht : (pc : Int) + off = (tgt : Int)) (kt : x ≤ 0 → gz_k E M N cells slots tgt L st G S Q) (kf : ¬ x ≤ 0 → gz_k E M N cells slots (pc + 3) L st G S Q) : gz_k E M N cells slots pc L (.int x :: st) G S Q := by
  intro p e s m args below meth c Z R C H locs ls hw hh
  exact lv_if_le C.1 C.2.1 hd ht (fun h => kt h p e s m args below meth c Z R C H locs ls hw hh) (fun h => kf h p e s m args below meth c Z R C H locs ls hw hh)
theorem gk_icmp_eq {x y : Int32} {off : Int} {tgt : Nat} (hd : decode M.2.1 pc = .ok (.if_icmp .eq off, 3)) (ht : (pc : Int) + off = (tgt : Int)) (kt : x = y → gz_k E M N cells slots tgt L st G S Q) (kf : ¬ x = y → gz_k E M N cells slots (pc + 3) L st G S Q) : gz_k E M N cells slots pc L (.int y :: .int x :: st) G S Q := by
  intro p e s m args below meth c Z R C H locs ls hw hh
  exact lv_icmp_eq C.1 C.2.1 hd ht (fun h => kt h p e s m args below meth c Z R C H locs ls hw hh) (fun h => kf h p e s m args below meth c Z R C H locs ls hw hh)
theorem gk_icmp_ne {x y : Int32} {off : Int} {tgt : Nat} (hd : decode M.2.1 pc = .ok (.if_icmp .ne off, 3)) (ht : (pc : Int) + off = (tgt : Int)) (kt : ¬ x = y → gz_k E M N cells slots tgt L st G S Q) (kf : x = y → gz_k E M N cells slots (pc + 3) L st G S Q) : gz_k E M N cells slots pc L (.int y :: .int x :: st) G S Q := by
  intro p e s m args below meth c Z R C H locs ls hw hh
  exact lv_icmp_ne C.1 C.2.1 hd ht (fun h => kt h p e s m args below meth c Z R C H locs ls hw hh) (fun h => kf h p e s m args below meth c Z R C H locs ls hw hh)
theorem gk_icmp_lt {x y : Int32} {off : Int} {tgt : Nat} (hd : decode M.2.1 pc = .ok (.if_icmp .lt off, 3)) (ht : (pc : Int) + off = (tgt : Int)) (kt : x < y → gz_k E M N cells slots tgt L st G S Q) (kf : ¬ x < y → gz_k E M N cells slots (pc + 3) L st G S Q) : gz_k E M N cells slots pc L (.int y :: .int x :: st) G S Q := by
  intro p e s m args below meth c Z R C H locs ls hw hh
  exact lv_icmp_lt C.1 C.2.1 hd ht (fun h => kt h p e s m args below meth c Z R C H locs ls hw hh) (fun h => kf h p e s m args below meth c Z R C H locs ls hw hh)
theorem gk_icmp_ge {x y : Int32} {off : Int} {tgt : Nat} (hd : decode M.2.1 pc = .ok (.if_icmp .ge off, 3)) (ht : (pc : Int) + off = (tgt : Int)) (kt : y ≤ x → gz_k E M N cells slots tgt L st G S Q) (kf : ¬ y ≤ x → gz_k E M N cells slots (pc + 3) L st G S Q) : gz_k E M N cells slots pc L (.int y :: .int x :: st) G S Q := by
  intro p e s m args below meth c Z R C H locs ls hw hh
  exact lv_icmp_ge C.1 C.2.1 hd ht (fun h => kt h p e s m args below meth c Z R C H locs ls hw hh) (fun h => kf h p e s m args below meth c Z R C H locs ls hw hh)
theorem gk_icmp_gt {x y : Int32} {off : Int} {tgt : Nat} (hd : decode M.2.1 pc = .ok (.if_icmp .gt off, 3)) (ht : (pc : Int) + off = (tgt : Int)) (kt : y < x → gz_k E M N cells slots tgt L st G S Q) (kf : ¬ y < x → gz_k E M N cells slots (pc + 3) L st G S Q) : gz_k E M N cells slots pc L (.int y :: .int x :: st) G S Q := by
  intro p e s m args below meth c Z R C H locs ls hw hh
  exact lv_icmp_gt C.1 C.2.1 hd ht (fun h => kt h p e s m args below meth c Z R C H locs ls hw hh) (fun h => kf h p e s m args below meth c Z R C H locs ls hw hh)
theorem gk_icmp_le {x y : Int32} {off : Int} {tgt : Nat} (hd : decode M.2.1 pc = .ok (.if_icmp .le off, 3)) (ht : (pc : Int) + off = (tgt : Int)) (kt : x ≤ y → gz_k E M N cells slots tgt L st G S Q) (kf : ¬ x ≤ y → gz_k E M N cells slots (pc + 3) L st G S Q) : gz_k E M N cells slots pc L (.int y :: .int x :: st) G S Q := by
  intro p e s m args below meth c Z R C H locs ls hw hh
  exact lv_icmp_le C.1 C.2.1 hd ht (fun h => kt h p e s m args below meth c Z R C H locs ls hw hh) (fun h => kf h p e s m args below meth c Z R C H locs ls hw hh)
theorem gk_goto {off : Int} {tgt : Nat} (hd : decode M.2.1 pc = .ok (.goto off, 3)) (ht : (pc : Int) + off = (tgt : Int)) (k : gz_k E M N cells slots tgt L st G S Q) : gz_k E M N cells slots pc L st G S Q := by
  intro p e s m args below meth c Z R C H locs ls hw hh
  exact lv_goto C.1 C.2.1 hd ht (k p e s m args below meth c Z R C H locs ls hw hh)
theorem gk_tableOut {dflt lo hi : Int} {offs : Array Int} {len : Nat} {x : Int32} {tgt : Nat} (hd : decode M.2.1 pc = .ok (.tableswitch dflt lo hi offs, len)) (h : x.toInt < lo ∨ hi < x.toInt) (ht : (pc : Int) + dflt = (tgt : Int)) (k : gz_k E M N cells slots tgt L st G S Q) : gz_k E M N cells slots pc L (.int x :: st) G S Q := by
  intro p e s m args below meth c Z R C H locs ls hw hh
  exact lv_tableOut C.1 C.2.1 hd h ht (k p e s m args below meth c Z R C H locs ls hw hh)
theorem gk_tableIn {dflt lo hi : Int} {offs : Array Int} {len : Nat} {x : Int32} {off : Int} {tgt : Nat} (hd : decode M.2.1 pc = .ok (.tableswitch dflt lo hi offs, len)) (h1 : ¬ x.toInt < lo) (h2 : ¬ hi < x.toInt) (ho : offs[(x.toInt - lo).toNat]? = some off) (ht : (pc : Int) + off = (tgt : Int)) (k : gz_k E M N cells slots tgt L st G S Q) : gz_k E M N cells slots pc L (.int x :: st) G S Q := by
  intro p e s m args below meth c Z R C H locs ls hw hh
  exact lv_tableIn C.1 C.2.1 hd h1 h2 ho ht (k p e s m args below meth c Z R C H locs ls hw hh)
theorem gk_ldc {i : Nat} {v : Int32} (hd : decode M.2.1 pc = .ok (.ldc i, 2)) (hc : Cond.constant M.1.cls i v ∈ gz_tbl) (k : gz_k E M N cells slots (pc + 2) L (.int v :: st) G S Q) : gz_k E M N cells slots pc L st G S Q := by
  intro p e s m args below meth c Z R C H locs ls hw hh
  exact lv_ldc C.1 C.2.1 C.2.2.2.1 (C.2.2.2.2.1 _ hc) hd (k p e s m args below meth c Z R C H locs ls hw hh)
theorem gk_ldcw {i : Nat} {v : Int32} (hd : decode M.2.1 pc = .ok (.ldc_w i, 3)) (hc : Cond.constant M.1.cls i v ∈ gz_tbl) (k : gz_k E M N cells slots (pc + 3) L (.int v :: st) G S Q) : gz_k E M N cells slots pc L st G S Q := by
  intro p e s m args below meth c Z R C H locs ls hw hh
  exact lv_ldcw C.1 C.2.1 C.2.2.2.1 (C.2.2.2.2.1 _ hc) hd (k p e s m args below meth c Z R C H locs ls hw hh)
theorem gk_ldc2 {i : Nat} {v : Int64} (hd : decode M.2.1 pc = .ok (.ldc2_w i, 3)) (hc : Cond.constantLong M.1.cls i v ∈ gz_tbl) (k : gz_k E M N cells slots (pc + 3) L (.long v :: st) G S Q) : gz_k E M N cells slots pc L st G S Q := by
  intro p e s m args below meth c Z R C H locs ls hw hh
  exact lv_ldc2 C.1 C.2.1 C.2.2.2.1 (C.2.2.2.2.1 _ hc) hd (k p e s m args below meth c Z R C H locs ls hw hh)
theorem gz_tys_at (E : gz_E) {t : Nat} (h : t < 3) : (gz_tys E)[t]? = some (gz_tc E t, gz_ty t) := by
  rcases (show t = 0 ∨ t = 1 ∨ t = 2 by omega) with rfl | rfl | rfl <;> rfl
theorem gk_iaload {a n : Nat} {i : Int32} (hd : decode M.2.1 pc = .ok (.iaload, 1)) (hg : G[a]? = some (.inl (0, n))) (hin : vp_in i n) (k : gz_k E M N cells slots (pc + 1) L (.int (S a i.toNatClampNeg) :: st) G S Q) : gz_k E M N cells slots pc L (.int i :: .ref a :: st) G S Q := by
  intro p e s m args below meth c Z R C H locs ls hw hh
  exact va_iald C.1 C.2.1 C.2.2.2.2.2.2.2.1.1 hw.1 a 0 (gz_w_at hg) rfl hin hd (k p e s m args below meth c Z R C H locs ls hw hh)
theorem gk_baload {a n : Nat} {i : Int32} (hd : decode M.2.1 pc = .ok (.baload, 1)) (hg : G[a]? = some (.inl (1, n))) (hin : vp_in i n) (k : gz_k E M N cells slots (pc + 1) L (.int (S a i.toNatClampNeg) :: st) G S Q) : gz_k E M N cells slots pc L (.int i :: .ref a :: st) G S Q := by
  intro p e s m args below meth c Z R C H locs ls hw hh
  exact va_zald C.1 C.2.1 C.2.2.2.2.2.2.2.1.1 hw.1 a 1 (gz_w_at hg) rfl hin hd (k p e s m args below meth c Z R C H locs ls hw hh)
theorem gk_iastore {a n : Nat} {i x : Int32} (hd : decode M.2.1 pc = .ok (.iastore, 1)) (hg : G[a]? = some (.inl (0, n))) (hin : vp_in i n) (k : gz_k E M N cells slots (pc + 1) L st G (gz_u S a (upd (S a) i.toNatClampNeg x)) Q) : gz_k E M N cells slots pc L (.int x :: .int i :: .ref a :: st) G S Q := by
  intro p e s m args below meth c Z R C H locs ls hw hh
  refine va_iast C.1 C.2.1 C.2.2.2.2.2.2.2.1.1 hw.1 (gz_dd E S G) hw.2 a 0 (gz_w_at hg) rfl hin hd (fun H1 locs1 hP hD hS => ?_)
  refine k p e s m args below meth c Z R C H1 locs1 ls ⟨?_, hS⟩ hh
  rw [← gz_w_put hg (upd (S a) i.toNatClampNeg x)]
  simpa only [gz_c, gz_u_at] using hP
theorem gk_bastore {a n : Nat} {i x : Int32} (hd : decode M.2.1 pc = .ok (.bastore, 1)) (hg : G[a]? = some (.inl (1, n))) (hin : vp_in i n) (hx01 : vp_nar .boolean x = x) (k : gz_k E M N cells slots (pc + 1) L st G (gz_u S a (upd (S a) i.toNatClampNeg x)) Q) : gz_k E M N cells slots pc L (.int x :: .int i :: .ref a :: st) G S Q := by
  intro p e s m args below meth c Z R C H locs ls hw hh
  refine va_zast C.1 C.2.1 C.2.2.2.2.2.2.2.1.1 hw.1 (gz_dd E S G) hw.2 a 1 (gz_w_at hg) rfl hin hd (fun H1 locs1 hP hD hS => ?_)
  refine k p e s m args below meth c Z R C H1 locs1 ls ⟨?_, hS⟩ hh
  rw [← gz_w_put hg (upd (S a) i.toNatClampNeg x)]
  rw [hx01] at hP
  simpa only [gz_c, gz_u_at] using hP
theorem gk_ilen {a n : Nat} {v : Int32} (hd : decode M.2.1 pc = .ok (.arraylength, 1)) (hg : G[a]? = some (.inl (0, n))) (hv : Int32.ofNat n = v) (k : gz_k E M N cells slots (pc + 1) L (.int v :: st) G S Q) : gz_k E M N cells slots pc L (.ref a :: st) G S Q := by
  intro p e s m args below meth c Z R C H locs ls hw hh
  exact va_alen (ty := .int) C.1 C.2.1 C.2.2.2.2.2.2.2.1.1 hw.1 a 0 (gz_w_at hg) rfl hv hd (k p e s m args below meth c Z R C H locs ls hw hh)
theorem gk_aaload {a t r : Nat} {fl : List (Option (Option Nat))} {i : Int32} (hd : decode M.2.1 pc = .ok (.aaload, 1)) (hg : G[a]? = some (.inr ((true, 2), fl))) (hin : vp_in i fl.length) (hr : fl[i.toNatClampNeg]? = some (some (some r))) (k : gz_k E M N cells slots (pc + 1) L (.ref r :: st) G S Q) : gz_k E M N cells slots pc L (.int i :: .ref a :: st) G S Q := by
  intro p e s m args below meth c Z R C H locs ls hw hh
  refine va_aldq (C := "StoneVotes$Sheet") C.1 C.2.1 C.2.2.2.2.2.2.2.1.1 hw.1 a 2 (gz_w_at hg) rfl hin hd ?_
  have e1 : gz_r E fl i.toNatClampNeg = some (gz_B E + r) := by unfold gz_r; rw [hr]
  rw [e1]
  exact (k p e s m args below meth c Z R C H locs ls hw hh)
/-- the link of a field: class number ci of vwCl, place j -/
def gz_fw (own : String) (idx ci j : Nat) : Prop := ∃ (C : String) (T : u_T) (n : Nat), vwCl[ci]? = some (C, T, n) ∧ j < n ∧ Cond.fieldLink own idx (T j).1 (T j).2.1 (T j).2.2.1 ∈ gz_tbl ∧ ∀ w ∈ u_ws C T n, w ∈ gz_tbl
theorem gz_fl_at {fl : List (Option (Option Nat))} {j a : Nat} {f : Option (Option Nat)} (h : fl[j]? = some f) : (fl.mapIdx (fun j f => gz_f E S a j f))[j]? = some (gz_f E S a j f) := by
  rw [List.getElem?_mapIdx, h]
  rfl
theorem gk_geti {a idx ci j : Nat} {fl : List (Option (Option Nat))} (hd : decode M.2.1 pc = .ok (.getfield idx, 3)) (hg : G[a]? = some (.inr ((false, ci), fl))) (hf : fl[j]? = some none) (hF : gz_fw M.1.cls idx ci j) (k : gz_k E M N cells slots (pc + 3) L (.int (S a j) :: st) G S Q) : gz_k E M N cells slots pc L (.ref a :: st) G S Q := by
  intro p e s m args below meth c Z R C H locs ls hw hh
  obtain ⟨Cn, T, n, h1, h2, h3, h4⟩ := hF
  exact va_get C.1 C.2.1 C.2.2.2.2.1 h4 C.2.2.2.1 C.2.2.2.2.2.2.2.1.1 hw.1 a (gz_w_at hg) h1 j h2 (C.2.2.2.2.1 _ h3) (fun _ h9 => h9) (gz_fl_at hf) hd (k p e s m args below meth c Z R C H locs ls hw hh)
theorem gk_getr {a idx ci j r : Nat} {fl : List (Option (Option Nat))} (hd : decode M.2.1 pc = .ok (.getfield idx, 3)) (hg : G[a]? = some (.inr ((false, ci), fl))) (hf : fl[j]? = some (some (some r))) (hF : gz_fw M.1.cls idx ci j) (k : gz_k E M N cells slots (pc + 3) L (.ref r :: st) G S Q) : gz_k E M N cells slots pc L (.ref a :: st) G S Q := by
  intro p e s m args below meth c Z R C H locs ls hw hh
  obtain ⟨Cn, T, n, h1, h2, h3, h4⟩ := hF
  exact va_get C.1 C.2.1 C.2.2.2.2.1 h4 C.2.2.2.1 C.2.2.2.2.2.2.2.1.1 hw.1 a (gz_w_at hg) h1 j h2 (C.2.2.2.2.1 _ h3) (fun _ h9 => h9) (gz_fl_at hf) hd (k p e s m args below meth c Z R C H locs ls hw hh)
/-- of a field that is written: the types of its class's fields, their names apart -/
def gz_pw (ci j : Nat) (fin : Bool) (ty : FieldType) : Prop := ∃ (C : String) (T : u_T) (n : Nat) (t0 : Nat → FieldType), vwCl[ci]? = some (C, T, n) ∧ (∀ k, k < n → parseFieldDescriptor (T k).2.2.1 = some (t0 k)) ∧ (∀ a, a < n → ∀ b, b < n → a ≠ b → (T a).2.1 ≠ (T b).2.1) ∧ (T j).2.2.2 = fin ∧ parseFieldDescriptor (T j).2.2.1 = some ty
theorem gz_w_set {a : Nat} {g g2 : gz_G} (h : G[a]? = some g) : (gz_w E S G).set a (gz_B E + a, gz_c E S a g2) = gz_w E S (G.set a g2) := by
  apply List.ext_getElem?
  intro i
  have hk : a < (gz_w E S G).length := (List.getElem?_eq_some_iff.mp (gz_w_at h)).1
  have hk2 : a < G.length := (List.getElem?_eq_some_iff.mp h).1
  by_cases hi : i = a
  · subst hi
    rw [List.getElem?_set_self hk, gz_w_at (List.getElem?_set_self hk2)]
  · rw [List.getElem?_set_ne (Ne.symm hi)]
    unfold gz_w
    rw [List.getElem?_mapIdx, List.getElem?_mapIdx, List.getElem?_set_ne (Ne.symm hi)]
theorem gz_fl_puti {fl : List (Option (Option Nat))} {j a : Nat} {v : Int32} (hf : fl[j]? = some none) : (fl.mapIdx (fun j f => gz_f E S a j f)).set j (.int v) = fl.mapIdx (fun i f => gz_f E (gz_u S a (upd (S a) j v)) a i f) := by
  apply List.ext_getElem?
  intro i
  have hl : j < (fl.mapIdx (fun j f => gz_f E S a j f)).length := by
    rw [List.length_mapIdx]; exact (List.getElem?_eq_some_iff.mp hf).1
  by_cases hi : i = j
  · subst hi
    rw [List.getElem?_set_self hl, List.getElem?_mapIdx, hf]
    simp [gz_f, gz_u_at, upd]
  · rw [List.getElem?_set_ne (Ne.symm hi), List.getElem?_mapIdx, List.getElem?_mapIdx]
    cases hfi : fl[i]? with
    | none => rfl
    | some f =>
      cases f with
      | none => simp [gz_f, gz_u_at, upd, hi]
      | some o => cases o <;> rfl
theorem gz_fl_putr {fl : List (Option (Option Nat))} {j a r : Nat} {o : Option (Option Nat)} (hf : fl[j]? = some o) : (fl.mapIdx (fun j f => gz_f E S a j f)).set j (.ref (gz_B E + r)) = (fl.set j (some (some r))).mapIdx (fun j f => gz_f E S a j f) := by
  apply List.ext_getElem?
  intro i
  have hl0 : j < fl.length := (List.getElem?_eq_some_iff.mp hf).1
  have hl : j < (fl.mapIdx (fun j f => gz_f E S a j f)).length := by
    rw [List.length_mapIdx]; exact hl0
  by_cases hi : i = j
  · subst hi
    rw [List.getElem?_set_self hl, List.getElem?_mapIdx, List.getElem?_set_self hl0]
    rfl
  · rw [List.getElem?_set_ne (Ne.symm hi), List.getElem?_mapIdx, List.getElem?_mapIdx, List.getElem?_set_ne (Ne.symm hi)]
theorem gk_puti {a idx ci j : Nat} {v : Int32} {ty : FieldType} {fl : List (Option (Option Nat))} (hd : decode M.2.1 pc = .ok (.putfield idx, 3)) (hg : G[a]? = some (.inr ((false, ci), fl))) (hf : fl[j]? = some none) (hF : gz_fw M.1.cls idx ci j) (hp : gz_pw ci j false ty) (hn : narrow ty (.int v) = .int v) (hfit : fits ty (.int v) = true) (k : gz_k E M N cells slots (pc + 3) L st G (gz_u S a (upd (S a) j v)) Q) : gz_k E M N cells slots pc L (.int v :: .ref a :: st) G S Q := by
  intro p e s m args below meth c Z R C H locs ls hw hh
  obtain ⟨Cn, T, n, h1, h2, h3, h4⟩ := hF
  obtain ⟨Cn2, T2, n2, t0, g1, g2, g3, g4, g5⟩ := hp
  obtain ⟨rfl, rfl, rfl⟩ : Cn2 = Cn ∧ T2 = T ∧ n2 = n := by
    have := g1.symm.trans h1
    simp only [Option.some.injEq, Prod.mk.injEq] at this
    exact this
  refine va_put C.1 C.2.1 C.2.2.2.2.1 h4 t0 g2 g3 C.2.2.2.1 C.2.2.2.2.2.2.2.1.1 hw.1 (gz_dd E S G) hw.2 a (gz_w_at hg) h1 j h2 (C.2.2.2.2.1 _ h3) (fun _ h9 => h9) g4 g5 hn hfit (by rw [List.length_mapIdx]; exact (List.getElem?_eq_some_iff.mp hf).1) hd (fun H1 locs1 hP hD hS => ?_)
  refine k p e s m args below meth c Z R C H1 locs1 ls ⟨?_, hS⟩ hh
  rw [← gz_w_put hg (upd (S a) j v)]
  rw [show gz_v E (Value.int v) = Value.int v from rfl, gz_fl_puti hf] at hP
  exact hP
theorem gk_putr {a idx ci j r : Nat} {ty : FieldType} {fl : List (Option (Option Nat))} {G2 : List gz_G} (hd : decode M.2.1 pc = .ok (.putfield idx, 3)) (hg : G[a]? = some (.inr ((false, ci), fl))) (hf : fl[j]? = some (some none)) (hF : gz_fw M.1.cls idx ci j) (hp : gz_pw ci j true ty) (hn : ∀ q : Nat, narrow ty (.ref q) = .ref q ∧ fits ty (.ref q) = true) (hi : M.1.name = "<init>") (hc : vwCl[ci]?.map (fun q => (q.2.1 j).1) = some M.1.cls) (hG2 : G.set a (.inr ((false, ci), fl.set j (some (some r)))) = G2) (k : gz_k E M N cells slots (pc + 3) L st G2 S Q) : gz_k E M N cells slots pc L (.ref r :: .ref a :: st) G S Q := by
  intro p e s m args below meth c Z R C H locs ls hw hh
  subst hG2
  obtain ⟨Cn, T, n, h1, h2, h3, h4⟩ := hF
  obtain ⟨Cn2, T2, n2, t0, g1, g2, g3, g4, g5⟩ := hp
  obtain ⟨rfl, rfl, rfl⟩ : Cn2 = Cn ∧ T2 = T ∧ n2 = n := by
    have := g1.symm.trans h1
    simp only [Option.some.injEq, Prod.mk.injEq] at this
    exact this
  have hdc : (T2 j).1 = M.1.cls := by
    rw [h1] at hc
    exact Option.some.inj hc
  refine va_putF C.1 C.2.1 C.2.2.2.2.1 h4 t0 g2 g3 C.2.2.2.1 C.2.2.2.2.2.2.2.1.1 hw.1 (gz_dd E S G) hw.2 a (gz_w_at hg) h1 j h2 (C.2.2.2.2.1 _ h3) (fun _ h9 => h9) g4 (C.2.2.2.2.2.2.1.trans hi) hdc g5 (hn _).1 (hn _).2 (by rw [List.length_mapIdx]; exact (List.getElem?_eq_some_iff.mp hf).1) hd (fun H1 locs1 hP hD hS => ?_)
  refine k p e s m args below meth c Z R C H1 locs1 ls ⟨?_, hS⟩ hh
  rw [← gz_w_set hg]
  rw [show gz_v E (Value.ref r) = Value.ref (gz_B E + r) from rfl, gz_fl_putr hf] at hP
  exact hP
theorem gk_putiF {a idx ci j : Nat} {v : Int32} {ty : FieldType} {fl : List (Option (Option Nat))} (hd : decode M.2.1 pc = .ok (.putfield idx, 3)) (hg : G[a]? = some (.inr ((false, ci), fl))) (hf : fl[j]? = some none) (hF : gz_fw M.1.cls idx ci j) (hp : gz_pw ci j true ty) (hn : narrow ty (.int v) = .int v) (hfit : fits ty (.int v) = true) (hi : M.1.name = "<init>") (hc : vwCl[ci]?.map (fun q => (q.2.1 j).1) = some M.1.cls) (k : gz_k E M N cells slots (pc + 3) L st G (gz_u S a (upd (S a) j v)) Q) : gz_k E M N cells slots pc L (.int v :: .ref a :: st) G S Q := by
  intro p e s m args below meth c Z R C H locs ls hw hh
  obtain ⟨Cn, T, n, h1, h2, h3, h4⟩ := hF
  obtain ⟨Cn2, T2, n2, t0, g1, g2, g3, g4, g5⟩ := hp
  obtain ⟨rfl, rfl, rfl⟩ : Cn2 = Cn ∧ T2 = T ∧ n2 = n := by
    have := g1.symm.trans h1
    simp only [Option.some.injEq, Prod.mk.injEq] at this
    exact this
  have hdc : (T2 j).1 = M.1.cls := by
    rw [h1] at hc
    exact Option.some.inj hc
  refine va_putF C.1 C.2.1 C.2.2.2.2.1 h4 t0 g2 g3 C.2.2.2.1 C.2.2.2.2.2.2.2.1.1 hw.1 (gz_dd E S G) hw.2 a (gz_w_at hg) h1 j h2 (C.2.2.2.2.1 _ h3) (fun _ h9 => h9) g4 (C.2.2.2.2.2.2.1.trans hi) hdc g5 hn hfit (by rw [List.length_mapIdx]; exact (List.getElem?_eq_some_iff.mp hf).1) hd (fun H1 locs1 hP hD hS => ?_)
  refine k p e s m args below meth c Z R C H1 locs1 ls ⟨?_, hS⟩ hh
  rw [← gz_w_put hg (upd (S a) j v)]
  rw [show gz_v E (Value.int v) = Value.int v from rfl, gz_fl_puti hf] at hP
  exact hP
-- the ends
theorem gk_iret {x : Int32} {ty : FieldType} (hd : decode M.2.1 pc = .ok (.ireturn, 1)) (hc : cells = N.2.1) (hs : slots = N.2.2.1) (hr : M.2.2.2 = some ty) (hn : narrow ty (.int x) = .int x) (hq : Q (some (.int x)) G S) : gz_k E M N cells slots pc L [.int x] G S Q := by
  intro p e s m args below meth c Z R C H locs ls hw hh
  subst hc
  subst hs
  exact C.2.2.2.2.2.2.2.2.2.2 H locs pc ls .ireturn (some (.int x)) G S hw hq hd (Or.inl ⟨rfl, x, rfl, ty, hr, hn⟩)
theorem gk_lret {x : Int64} (hd : decode M.2.1 pc = .ok (.lreturn, 1)) (hc : cells = N.2.1) (hs : slots = N.2.2.1) (hr : M.2.2.2 = some .long) (hq : Q (some (.long x)) G S) : gz_k E M N cells slots pc L [.long x] G S Q := by
  intro p e s m args below meth c Z R C H locs ls hw hh
  subst hc
  subst hs
  exact C.2.2.2.2.2.2.2.2.2.2 H locs pc ls .lreturn (some (.long x)) G S hw hq hd (Or.inr (Or.inl ⟨rfl, x, rfl, hr⟩))
theorem gk_aret {a : Nat} {n : String} (hd : decode M.2.1 pc = .ok (.areturn, 1)) (hc : cells = N.2.1) (hs : slots = N.2.2.1) (hr : M.2.2.2 = some (.object n)) (hq : Q (some (.ref a)) G S) : gz_k E M N cells slots pc L [.ref a] G S Q := by
  intro p e s m args below meth c Z R C H locs ls hw hh
  subst hc
  subst hs
  exact C.2.2.2.2.2.2.2.2.2.2 H locs pc ls .areturn (some (.ref a)) G S hw hq hd (Or.inr (Or.inr (Or.inl ⟨rfl, a, rfl, n, hr⟩)))
theorem gk_vret (hd : decode M.2.1 pc = .ok (.return_, 1)) (hc : cells = N.2.1) (hs : slots = N.2.2.1) (hr : M.2.2.2 = none) (hq : Q none G S) : gz_k E M N cells slots pc L [] G S Q := by
  intro p e s m args below meth c Z R C H locs ls hw hh
  subst hc
  subst hs
  exact C.2.2.2.2.2.2.2.2.2.2 H locs pc ls .return_ none G S hw hq hd (Or.inr (Or.inr (Or.inr ⟨rfl, rfl, hr⟩)))
-- the script
theorem gk_sld {u : UInt32} {i : Int32} (hd : decode M.2.1 pc = .ok (.iaload, 1)) (hm : M.1.name = "law") (hin : vp_in i (gz_L E)) (k : gz_k E M N cells slots (pc + 1) L (.int (gz_xs E i.toNatClampNeg) :: st) G S Q) : gz_k E M N cells slots pc L (.int i :: .float u :: st) G S Q := by
  intro p e s m args below meth c Z R C H locs ls hw hh
  obtain ⟨hX, hbl, hbB⟩ := C.2.2.2.2.2.2.2.2.1 hm
  exact va_sld C.1 C.2.1 hX hbl (show ¬ gz_A E (gz_b E) from Nat.not_le.mpr hbB) hw.2 hin hd (k p e s m args below meth c Z R C H locs ls hw hh)
theorem gk_slen {u : UInt32} {v : Int32} (hd : decode M.2.1 pc = .ok (.arraylength, 1)) (hm : M.1.name = "law") (hv : Int32.ofNat (gz_L E) = v) (k : gz_k E M N cells slots (pc + 1) L (.int v :: st) G S Q) : gz_k E M N cells slots pc L (.float u :: st) G S Q := by
  intro p e s m args below meth c Z R C H locs ls hw hh
  obtain ⟨hX, hbl, hbB⟩ := C.2.2.2.2.2.2.2.2.1 hm
  subst hv
  exact va_slen C.1 C.2.1 hX hbl (show ¬ gz_A E (gz_b E) from Nat.not_le.mpr hbB) hw.2 hd (k p e s m args below meth c Z R C H locs ls hw hh)

end
end
section
theorem gz_ws_good (M : gz_M) (hc : Cond.code M.1 M.2.1 M.2.2.1 M.2.2.2 ∈ gz_tbl) : GoodIn gz_tbl (gz_ws M) := by
  intro w hw
  have h1 : w ∈ gz_tbl := by
    rcases List.mem_cons.mp hw with rfl | h
    · exact hc
    · exact h
  exact ⟨h1, good_of_word (List.mem_filter.mp h1).2⟩
/-- what a call's words are: the callee's code, its class initialised, its count of parameters -/
def gz_cw (M : gz_M) (n : Nat) : Prop := Cond.code M.1 M.2.1 M.2.2.1 M.2.2.2 ∈ gz_tbl ∧ Cond.initialized M.1.cls ∈ gz_tbl ∧ (M.1.cls ≠ "java/lang/invoke/MethodHandle" ∧ M.1.cls ≠ "java/lang/invoke/VarHandle" ∧ (parseMethodDescriptor M.1.desc).map (fun d => d.parameters.length) = some n) ∧ M.2.2.1 ≤ 41
def gz_wV (own : String) (idx : Nat) (M : gz_M) : Prop := Cond.methodLink own idx M.1 ∈ gz_tbl ∧ Cond.instanceMethod M.1 ∈ gz_tbl ∧ Cond.selects M.1.cls M.1 M.1 ∈ gz_tbl
def gz_wS (own : String) (idx : Nat) (M : gz_M) : Prop := Cond.methodLink own idx M.1 ∈ gz_tbl ∧ Cond.static M.1 ∈ gz_tbl
def gz_wSN (own : String) (idx : Nat) (M : gz_M) : Prop := (own, idx, M.1) ∈ gz_nst ∧ Cond.static M.1 ∈ gz_tbl
def gz_wI (own : String) (idx : Nat) (M : gz_M) : Prop := Cond.methodLink own idx M.1 ∈ gz_tbl ∧ Cond.instanceMethod M.1 ∈ gz_tbl
def gz_wIN (own : String) (idx : Nat) (M : gz_M) : Prop := (own, idx, M.1) ∈ gz_nst ∧ Cond.instanceMethod M.1 ∈ gz_tbl
section
variable {E : gz_E} {M : gz_M} {N : gz_N} {cells slots pc : Nat} {L : List (Option Value)} {st : List Value} {G : List gz_G} {S : gz_S} {Q : gz_Q}
variable {p : Program} {e : Env} {s : State} {m : MethodId} {args : Array Value} {below : List Frame} {meth : Method} {c : Code} {Z : State → Prop} {R : Room} {H : Heap} {locs : List Loc} {ls : Array Slot}
theorem gz_lo (hw : gz_wd E G S s H locs) (h : gz_B E ≤ s.heap.size) : gz_B E + G.length ≤ H.size := by
  cases hG : G.length with
  | zero => have := hw.2.1; omega
  | succ n =>
    have hl : n < G.length := by omega
    have h1 := (hw.1 n _ (gz_w_at (List.getElem?_eq_getElem hl))).lt
    have h2 : gz_B E + n < H.size := h1
    omega
theorem gz_size {T : State} (X : Stand p (gz_l E) e R s m args below meth c T locs cells slots) (hT : T.heap = H) (hw : gz_wd E G S s H locs) (h0 : s.heap.size = gz_B E + N.2.2.2) (hn : G.length = N.2.2.2 + cells) : H.size = gz_B E + G.length := by
  have h1 : T.heap.size ≤ s.heap.size + cells := X.same.2.2.1
  have h2 := gz_lo hw (by omega)
  rw [hT] at h1
  omega
/-- behind a call -/
theorem gz_back {mc2 ms2 : Nat} {rest : List Value} {Q2 : gz_Q} {a : Array Value} {st0 : List Value}
    (hr : va_Run p (gz_l E) e R s m args below meth c H locs cells slots mc2 ms2 (F0 m pc ls st0) (rest.map (gz_v E)) (fun st oc t => (∃ (v : Option Value) (G2 : List gz_G) (S2 : gz_S), oc = .returned (v.map (gz_v E)) ∧ Q2 v G2 S2 ∧ va_P (gz_D E) vwCl (gz_w E S2 G2) t.heap) ∧ va_F (gz_A E) st t) (gz_A E))
    (hw : gz_wd E G S s H locs) (C : gz_x E M N Q p e s m args below meth c Z R) (hh : gz_h E ls M.2.2.1 L)
    (k : ∀ (v : Option Value) (G2 : List gz_G) (S2 : gz_S), Q2 v G2 S2 → gz_k E M N (cells + mc2) (slots + ms2) (pc + 3) L (v.toList ++ rest) G2 S2 Q) : W p (gz_l E) e R s m args below meth c H locs cells slots Z (F0 m pc ls st0) := by
  intro T hT X
  obtain ⟨v, st₀, t, T', L1, h0, X', hL, e1, e2, ⟨⟨v2, G2, S2, hv, hq, hP⟩, hz, hkk⟩, stp⟩ := hr T hT X
  cases hv
  rw [h0] at hz hkk
  have hw2 : gz_wd E G2 S2 s T'.heap (locs ++ L1) := by
    refine ⟨by rw [e1]; exact hP, Nat.le_trans hw.2.1 (by rw [e1]; exact hz), fun q h1 h2 => ?_, fun q hq => ?_⟩
    · rw [e1, hkk q (Nat.lt_of_lt_of_le h1 hw.2.1) h2]
      exact hw.2.2.1 q h1 h2
    · rcases List.mem_append.mp hq with h | h
      · exact hw.2.2.2 q h
      · exact hL q h
  obtain ⟨t2, a1, b1⟩ := k v2 G2 S2 hq p e s m args below meth c Z R C T'.heap (locs ++ L1) ls hw2 hh T' rfl X'
  refine ⟨t2, stp t2 ?_, b1⟩
  have e3 : (v2.toList ++ rest).map (gz_v E) = (v2.map (gz_v E)).toList ++ rest.map (gz_v E) := by cases v2 <;> simp
  rw [e3] at a1
  exact a1
theorem gz_pre {mc2 : Nat} (hw : gz_wd E G S s H locs) (C : gz_x E M N Q p e s m args below meth c Z R) (hz : mc2 ≠ 0 → H.size = gz_B E + G.length) (as : List Value) :
    FrameBlind (va_Pc (as.map (gz_v E)) (fun U => gz_KN E U ∧ va_P (gz_D E) vwCl (gz_w E S G) U.heap ∧ (mc2 ≠ 0 → U.heap.size = gz_B E + G.length))) ∧
    ∀ U : State, U.heap = H → s.WarmedH U.vm → va_Pc (as.map (gz_v E)) (fun U => gz_KN E U ∧ va_P (gz_D E) vwCl (gz_w E S G) U.heap ∧ (mc2 ≠ 0 → U.heap.size = gz_B E + G.length)) (as.map (gz_v E)).toArray U := by
  refine ⟨fun a U g mk q => ?_, fun U hU hW => ⟨rfl, gz_KN.moved hW C.2.2.2.2.2.2.2.1, by rw [hU]; exact hw.1, fun h => by rw [hU]; exact hz h⟩⟩
  obtain ⟨q0, qK, qP, qz⟩ := q
  exact ⟨q0, qK.calling, qP, qz⟩
theorem gz_fit {D2 mc2 ms2 : Nat} (C : gz_x E M N Q p e s m args below meth c Z R) (hD : D2 + 1 ≤ N.1) {mL : Nat} (hm : mL ≤ 41) : (gz_rm D2 mc2 ms2).frames + 1 ≤ R.frames ∧ 8 + (mL + 11) + (gz_rm D2 mc2 ms2).locals ≤ R.locals := by
  obtain ⟨r1, r2, -, -⟩ := C.2.2.2.2.2.1
  show D2 + 1 ≤ R.frames ∧ 8 + (mL + 11) + 60 * D2 ≤ R.locals
  omega
theorem gz_rest {rest : List Value} (h : (rest.map fun v => v.category).sum ≤ 8) : ((rest.map (gz_v E)).map fun v => v.category).sum ≤ 8 := by
  rw [List.map_map]
  have e1 : ((fun v : Value => v.category) ∘ gz_v E) = fun v => v.category := by funext v; exact gz_v_cat E v
  rw [e1]
  exact h
theorem gk_callV {M2 : gz_M} {D2 mc2 ms2 a idx ci n : Nat} {fl : List (Option (Option Nat))} {as rest stk : List Value} {Q2 : gz_Q} (hM : gz_m E M2 D2 mc2 ms2 (.ref a :: as) G S Q2) (hd : decode M.2.1 pc = .ok (.invokevirtual idx, 3)) (hg : G[a]? = some (.inr ((false, ci), fl))) (hcl : vwCl[ci]?.map (fun q => q.1) = some M2.1.cls) (hV : gz_wV M.1.cls idx M2) (hc : gz_cw M2 n) (hn : as.length = n) (hD : D2 + 1 ≤ N.1) (hf : cells + mc2 ≤ N.2.1 ∧ slots + ms2 ≤ N.2.2.1) (hz : mc2 ≠ 0 → G.length = N.2.2.2 + cells) (hr : (rest.map fun v => v.category).sum ≤ 8) (hs : stk = as.reverse ++ .ref a :: rest)
    (k : ∀ (v : Option Value) (G2 : List gz_G) (S2 : gz_S), Q2 v G2 S2 → gz_k E M N (cells + mc2) (slots + ms2) (pc + 3) L (v.toList ++ rest) G2 S2 Q) : gz_k E M N cells slots pc L stk G S Q := by
  intro p e s m args below meth c Z R C H locs ls hw hh
  subst hs
  obtain ⟨c1, c2, c3, c4⟩ := hc
  intro T hT X
  have hsz : mc2 ≠ 0 → H.size = gz_B E + G.length := fun h => gz_size (N := N) X hT hw (C.2.2.2.2.2.2.2.2.2.1 (by have := hf.1; omega)) (hz h)
  have hts := C.2.2.2.2.1
  obtain ⟨r1, r2, r3, r4⟩ := C.2.2.2.2.2.1
  cases hv : vwCl[ci]? with
  | none => rw [hv] at hcl; cases hcl
  | some q =>
    have hq1 : q.1 = M2.1.cls := by rw [hv] at hcl; exact Option.some.inj hcl
    have hp := gz_pre (mc2 := mc2) hw C hsz (.ref a :: as)
    refine gz_back (a := (Value.ref (gz_B E + a) :: as.map (gz_v E)).toArray) (va_runV (C := M2.1.cls) (b := gz_B E + a) (As := as.map (gz_v E)) (rest := rest.map (gz_v E)) ⟨C.1, C.2.1, C.2.2.1, C.2.2.2.1, hts⟩ hM ⟨callB_of n hts (gz_ws_good M2 c1) rfl rfl rfl (hts _ c2) (hts _ hV.1) c3 (gz_fit C hD c4), hts _ hV.2.1, hts _ hV.2.2⟩ ⟨hp.1, ?_, hp.2⟩ rfl (by rw [List.length_map]; exact hn) hh.1 ?_ (lv_room (gz_rest hr)) hd ⟨by omega, by omega⟩) hw C hh k T hT X
    · rw [← hq1]
      exact va_recv C.2.2.2.2.2.2.2.1.1 hw.1 hv (gz_w_at hg)
    · show List.map (gz_v E) (as.reverse ++ .ref a :: rest) = _
      rw [List.map_append, List.map_reverse]
      rfl
theorem gk_callS {M2 : gz_M} {D2 mc2 ms2 idx n : Nat} {as rest stk : List Value} {Q2 : gz_Q} (hM : gz_m E M2 D2 mc2 ms2 as G S Q2) (hd : decode M.2.1 pc = .ok (.invokestatic idx, 3)) (hV : gz_wS M.1.cls idx M2) (hc : gz_cw M2 n) (hn : as.length = n) (hD : D2 + 1 ≤ N.1) (hf : cells + mc2 ≤ N.2.1 ∧ slots + ms2 ≤ N.2.2.1) (hz : mc2 ≠ 0 → G.length = N.2.2.2 + cells) (hr : (rest.map fun v => v.category).sum ≤ 8) (hs : stk = as.reverse ++ rest)
    (k : ∀ (v : Option Value) (G2 : List gz_G) (S2 : gz_S), Q2 v G2 S2 → gz_k E M N (cells + mc2) (slots + ms2) (pc + 3) L (v.toList ++ rest) G2 S2 Q) : gz_k E M N cells slots pc L stk G S Q := by
  intro p e s m args below meth c Z R C H locs ls hw hh
  subst hs
  obtain ⟨c1, c2, c3, c4⟩ := hc
  intro T hT X
  have hsz : mc2 ≠ 0 → H.size = gz_B E + G.length := fun h => gz_size (N := N) X hT hw (C.2.2.2.2.2.2.2.2.2.1 (by have := hf.1; omega)) (hz h)
  have hts := C.2.2.2.2.1
  obtain ⟨r1, r2, r3, r4⟩ := C.2.2.2.2.2.1
  refine gz_back (a := (as.map (gz_v E)).toArray) (va_runS (As := as.map (gz_v E)) (rest := rest.map (gz_v E)) ⟨C.1, C.2.1, C.2.2.1, C.2.2.2.1, hts⟩ hM ⟨callB_of n hts (gz_ws_good M2 c1) rfl rfl rfl (hts _ c2) (hts _ hV.1) c3 (gz_fit C hD c4), hts _ hV.2⟩ (gz_pre hw C hsz as) rfl (by rw [List.length_map]; exact hn) hh.1 ?_ (lv_room (gz_rest hr)) hd ⟨by omega, by omega⟩) hw C hh k T hT X
  show List.map (gz_v E) (as.reverse ++ rest) = _
  rw [List.map_append, List.map_reverse]
theorem gk_callSN {M2 : gz_M} {D2 mc2 ms2 idx n : Nat} {as rest stk : List Value} {Q2 : gz_Q} (hM : gz_m E M2 D2 mc2 ms2 as G S Q2) (hd : decode M.2.1 pc = .ok (.invokestatic idx, 3)) (hV : gz_wSN M.1.cls idx M2) (hc : gz_cw M2 n) (hn : as.length = n) (hD : D2 + 1 ≤ N.1) (hf : cells + mc2 ≤ N.2.1 ∧ slots + ms2 ≤ N.2.2.1) (hz : mc2 ≠ 0 → G.length = N.2.2.2 + cells) (hr : (rest.map fun v => v.category).sum ≤ 8) (hs : stk = as.reverse ++ rest)
    (k : ∀ (v : Option Value) (G2 : List gz_G) (S2 : gz_S), Q2 v G2 S2 → gz_k E M N (cells + mc2) (slots + ms2) (pc + 3) L (v.toList ++ rest) G2 S2 Q) : gz_k E M N cells slots pc L stk G S Q := by
  intro p e s m args below meth c Z R C H locs ls hw hh
  subst hs
  obtain ⟨c1, c2, c3, c4⟩ := hc
  intro T hT X
  have hsz : mc2 ≠ 0 → H.size = gz_B E + G.length := fun h => gz_size (N := N) X hT hw (C.2.2.2.2.2.2.2.2.2.1 (by have := hf.1; omega)) (hz h)
  have hts := C.2.2.2.2.1
  obtain ⟨r1, r2, r3, r4⟩ := C.2.2.2.2.2.1
  have hnw : va_Nw (.methodLinkNest M.1.cls idx M2.1 "StoneVotes") s := by
    exact C.2.2.2.2.2.2.2.1.2 _ hV.1
  refine gz_back (a := (as.map (gz_v E)).toArray) (va_runSN (As := as.map (gz_v E)) (rest := rest.map (gz_v E)) ⟨C.1, C.2.1, C.2.2.1, C.2.2.2.1, hts⟩ hM ⟨va_cnB n hts (gz_ws_good M2 c1) rfl rfl rfl hnw (hts _ c2) c3 (gz_fit C hD c4), hts _ hV.2, trivial⟩ (gz_pre hw C hsz as) rfl (by rw [List.length_map]; exact hn) hh.1 ?_ (lv_room (gz_rest hr)) hd ⟨by omega, by omega⟩) hw C hh k T hT X
  show List.map (gz_v E) (as.reverse ++ rest) = _
  rw [List.map_append, List.map_reverse]
theorem gk_callI {M2 : gz_M} {D2 mc2 ms2 a idx n : Nat} {as rest stk : List Value} {Q2 : gz_Q} (hM : gz_m E M2 D2 mc2 ms2 (.ref a :: as) G S Q2) (hd : decode M.2.1 pc = .ok (.invokespecial idx, 3)) (hV : gz_wI M.1.cls idx M2) (hi : M2.1.name = "<init>") (hrt : M2.2.2.2 = none) (hc : gz_cw M2 n) (hn : as.length = n) (hD : D2 + 1 ≤ N.1) (hf : cells + mc2 ≤ N.2.1 ∧ slots + ms2 ≤ N.2.2.1) (hz : mc2 ≠ 0 → G.length = N.2.2.2 + cells) (hr : (rest.map fun v => v.category).sum ≤ 8) (hs : stk = as.reverse ++ .ref a :: rest)
    (k : ∀ (v : Option Value) (G2 : List gz_G) (S2 : gz_S), Q2 v G2 S2 → gz_k E M N (cells + mc2) (slots + ms2) (pc + 3) L (v.toList ++ rest) G2 S2 Q) : gz_k E M N cells slots pc L stk G S Q := by
  intro p e s m args below meth c Z R C H locs ls hw hh
  subst hs
  obtain ⟨c1, c2, c3, c4⟩ := hc
  intro T hT X
  have hsz : mc2 ≠ 0 → H.size = gz_B E + G.length := fun h => gz_size (N := N) X hT hw (C.2.2.2.2.2.2.2.2.2.1 (by have := hf.1; omega)) (hz h)
  have hts := C.2.2.2.2.1
  obtain ⟨r1, r2, r3, r4⟩ := C.2.2.2.2.2.1
  have hw0 : gz_ws M2 = Cond.code M2.1 M2.2.1 M2.2.2.1 none :: gz_tbl := by unfold gz_ws; rw [hrt]
  refine gz_back (a := (Value.ref (gz_B E + a) :: as.map (gz_v E)).toArray) (va_runI (b := gz_B E + a) (As := as.map (gz_v E)) (rest := rest.map (gz_v E)) ⟨C.1, C.2.1, C.2.2.1, C.2.2.2.1, hts⟩ hM ⟨callB_of n hts (gz_ws_good M2 c1) hw0 rfl rfl (hts _ c2) (hts _ hV.1) c3 (gz_fit C hD c4), hi, hts _ hV.2⟩ (gz_pre hw C hsz (.ref a :: as)) rfl (by rw [List.length_map]; exact hn) hh.1 ?_ (lv_room (gz_rest hr)) hd ⟨by omega, by omega⟩) hw C hh k T hT X
  show List.map (gz_v E) (as.reverse ++ .ref a :: rest) = _
  rw [List.map_append, List.map_reverse]
  rfl
theorem gk_callIN {M2 : gz_M} {D2 mc2 ms2 a idx n : Nat} {as rest stk : List Value} {Q2 : gz_Q} (hM : gz_m E M2 D2 mc2 ms2 (.ref a :: as) G S Q2) (hd : decode M.2.1 pc = .ok (.invokespecial idx, 3)) (hV : gz_wIN M.1.cls idx M2) (hi : M2.1.name = "<init>") (hrt : M2.2.2.2 = none) (hc : gz_cw M2 n) (hn : as.length = n) (hD : D2 + 1 ≤ N.1) (hf : cells + mc2 ≤ N.2.1 ∧ slots + ms2 ≤ N.2.2.1) (hz : mc2 ≠ 0 → G.length = N.2.2.2 + cells) (hr : (rest.map fun v => v.category).sum ≤ 8) (hs : stk = as.reverse ++ .ref a :: rest)
    (k : ∀ (v : Option Value) (G2 : List gz_G) (S2 : gz_S), Q2 v G2 S2 → gz_k E M N (cells + mc2) (slots + ms2) (pc + 3) L (v.toList ++ rest) G2 S2 Q) : gz_k E M N cells slots pc L stk G S Q := by
  intro p e s m args below meth c Z R C H locs ls hw hh
  subst hs
  obtain ⟨c1, c2, c3, c4⟩ := hc
  intro T hT X
  have hsz : mc2 ≠ 0 → H.size = gz_B E + G.length := fun h => gz_size (N := N) X hT hw (C.2.2.2.2.2.2.2.2.2.1 (by have := hf.1; omega)) (hz h)
  have hts := C.2.2.2.2.1
  obtain ⟨r1, r2, r3, r4⟩ := C.2.2.2.2.2.1
  have hw0 : gz_ws M2 = Cond.code M2.1 M2.2.1 M2.2.2.1 none :: gz_tbl := by unfold gz_ws; rw [hrt]
  have hnw : va_Nw (.methodLinkNest M.1.cls idx M2.1 "StoneVotes") s := by
    exact C.2.2.2.2.2.2.2.1.2 _ hV.1
  refine gz_back (a := (Value.ref (gz_B E + a) :: as.map (gz_v E)).toArray) (va_runIN (b := gz_B E + a) (As := as.map (gz_v E)) (rest := rest.map (gz_v E)) ⟨C.1, C.2.1, C.2.2.1, C.2.2.2.1, hts⟩ hM ⟨va_cnB n hts (gz_ws_good M2 c1) hw0 rfl rfl hnw (hts _ c2) c3 (gz_fit C hD c4), hi, hts _ hV.2⟩ (gz_pre hw C hsz (.ref a :: as)) rfl (by rw [List.length_map]; exact hn) hh.1 ?_ (lv_room (gz_rest hr)) hd ⟨by omega, by omega⟩) hw C hh k T hT X
  show List.map (gz_v E) (as.reverse ++ .ref a :: rest) = _
  rw [List.map_append, List.map_reverse]
  rfl
/-- Object's constructor -/
theorem gk_obj {a idx : Nat} {rest : List Value} (hd : decode M.2.1 pc = .ok (.invokespecial idx, 3)) (h1 : Cond.methodLink M.1.cls idx objectInit ∈ gz_tbl) (h2 : Cond.instanceMethod objectInit ∈ gz_tbl) (h3 : Cond.code objectInit ⟨#[0xb1]⟩ 1 none ∈ gz_tbl) (hD : 1 ≤ N.1) (hr : (rest.map fun v => v.category).sum ≤ 8) (k : gz_k E M N cells slots (pc + 3) L rest G S Q) : gz_k E M N cells slots pc L (.ref a :: rest) G S Q := by
  intro p e s m args below meth c Z R C H locs ls hw hh
  obtain ⟨r1, r2, r3, r4⟩ := C.2.2.2.2.2.1
  have hts := C.2.2.2.2.1
  have hrr := gz_rest (E := E) hr
  refine W.objInit C.1 C.2.1 C.2.2.2.1 (hts _ h1) (hts _ h2) (hts _ h3) rfl (by rw [C.2.2.1]; exact hh.1) rfl hd (by omega) ?_ (k p e s m args below meth c Z R C H locs ls hw hh)
  show 2 * 0 + _ + 12 ≤ _
  omega
end
end
section
section
variable {E : gz_E} {M : gz_M} {N : gz_N} {cells slots pc : Nat} {L : List (Option Value)} {st : List Value} {G : List gz_G} {S : gz_S} {Q : gz_Q}
variable {p : Program} {e : Env} {s : State} {m : MethodId} {args : Array Value} {below : List Frame} {meth : Method} {c : Code} {Z : State → Prop} {R : Room} {H : Heap} {locs : List Loc} {ls : Array Slot}
theorem gz_w_app (S : gz_S) (G : List gz_G) (g : gz_G) (f : Nat → Int32) : gz_w E (gz_u S G.length f) (G ++ [g]) = gz_w E S G ++ [(gz_B E + G.length, gz_c E (gz_u S G.length f) G.length g)] := by
  apply List.ext_getElem?
  intro i
  have hlen : (gz_w E S G).length = G.length := by unfold gz_w; rw [List.length_mapIdx]
  by_cases h : i < G.length
  · rw [List.getElem?_append_left (by omega)]
    unfold gz_w
    rw [List.getElem?_mapIdx, List.getElem?_mapIdx, List.getElem?_append_left h]
    cases hg : G[i]? with
    | none => rfl
    | some g' =>
      simp only [Option.map_some]
      rw [gz_c_cong g' (gz_u_ne S f (by omega))]
  · rw [List.getElem?_append_right (by omega), hlen]
    unfold gz_w
    rw [List.getElem?_mapIdx, List.getElem?_append_right (by omega)]
    by_cases h2 : i = G.length
    · subst h2
      simp
    · have h3 : i - G.length ≠ 0 := by omega
      obtain ⟨j, hj⟩ : ∃ j, i - G.length = j + 1 := ⟨i - G.length - 1, by omega⟩
      rw [hj]
      rfl
/-- one cell more -/
theorem gz_made {H1 : Heap} {g : gz_G} (hw : gz_wd E G S s H locs) (hsz : H.size = gz_B E + G.length) (e1 : va_at (gz_D E) vwCl (gz_B E + G.length, gz_c E (gz_u S G.length (fun _ => 0)) G.length g) H1) (z1 : H1.size = H.size + 1) (o1 : ∀ q : Nat, q < H.size → H1[q]? = H[q]?) (hb : gz_B E ≤ s.heap.size) : gz_wd E (G ++ [g]) (gz_u S G.length (fun _ => 0)) s H1 locs := by
  refine ⟨?_, Nat.le_trans hw.2.1 (by omega), fun q h1 h2 => ?_, hw.2.2.2⟩
  · rw [gz_w_app]
    refine va_P.app (hw.1.kept (fun k x hx => o1 x.1 ((hw.1 k x hx).lt))) (fun k x hx => ?_)
    have hz : k < 1 := (List.getElem?_eq_some_iff.mp hx).1
    rw [show k = 0 by omega] at hx
    cases hx
    exact e1
  · rw [o1 q (Nat.lt_of_lt_of_le h1 hw.2.1)]
    exact hw.2.2.1 q h1 h2
theorem gk_newa {t n : Nat} {v : Int32} {aty : ArrayType} (hd : decode M.2.1 pc = .ok (.newarray aty, 2)) (ht : t < 2) (hty : newarray.typeOf aty = gz_ty t) (hA : Cond.arrayClass (gz_ty t) ∈ gz_tbl) (hv : nI n = v) (hn : n < 100000) (hcl : cells + 1 ≤ N.2.1) (hsl : slots + n ≤ N.2.2.1) (hz : G.length = N.2.2.2 + cells)
    (k : gz_k E M N (cells + 1) (slots + n) (pc + 2) L (.ref G.length :: st) (G ++ [.inl (t, n)]) (gz_u S G.length (fun _ => 0)) Q) : gz_k E M N cells slots pc L (.int v :: st) G S Q := by
  intro p e s m args below meth c Z R C H locs ls hw hh
  subst hv
  intro T hT X
  have h0 := C.2.2.2.2.2.2.2.2.2.1 (by omega)
  have hsz : H.size = gz_B E + G.length := gz_size (N := N) X hT hw h0 hz
  obtain ⟨r1, r2, r3, r4⟩ := C.2.2.2.2.2.1
  have hts := C.2.2.2.2.1
  have key : W p (gz_l E) e R s m args below meth c H locs cells slots Z (F0 m pc ls (.int (nI n) :: st.map (gz_v E))) := by
   refine va_newaK (rest := st.map (gz_v E)) C.1 C.2.1 (by rw [hty]; exact hts _ hA) rfl hd rfl (N := n) (nI_pos (by omega)) (nI_clamp (by omega)) ?_ (by omega) (by omega) rfl (fun H1 cA e1 z1 o1 hAr hNm => ?_)
   · rw [hty]
     rcases (show t = 0 ∨ t = 1 by omega) with rfl | rfl
     · show n * 4 ≤ _
       omega
     · show n * 1 ≤ _
       omega
   · rw [hty] at e1 hAr hNm
     have hcA : cA = gz_tc E t := by
       have hK := (C.2.2.2.2.2.2.2.1.1.2 t _ (gz_tys_at E (show t < 3 by omega))).2
       rcases (show t = 0 ∨ t = 1 by omega) with rfl | rfl
       · exact Option.some.inj (hNm.symm.trans hK)
       · exact Option.some.inj (hNm.symm.trans hK)
     subst hcA
     have h2 : gz_wd E (G ++ [.inl (t, n)]) (gz_u S G.length (fun _ => 0)) s H1 locs := by
       refine gz_made hw hsz ?_ (by omega) o1 (by omega)
       show H1[gz_B E + G.length]? = some (vp_cell _ _)
       rw [← hsz, e1]
       simp only [gz_u_at]
       rcases (show t = 0 ∨ t = 1 by omega) with rfl | rfl
       · rfl
       · rfl
     have h3 := k p e s m args below meth c Z R C H1 locs ls h2 hh
     simp only [List.map_cons, gz_v] at h3
     rw [← hsz] at h3
     exact h3
  exact key T hT X
/-- what a class's blank object is -/
def gz_nw (own : String) (idx ci : Nat) (fl : List (Option (Option Nat))) : Prop := ∃ (C : String) (T : u_T) (n : Nat) (t0 : Nat → FieldType), vwCl[ci]? = some (C, T, n) ∧ fl.length = n ∧ (∀ k, k < n → parseFieldDescriptor (T k).2.2.1 = some (t0 k)) ∧ (∀ w ∈ u_ws C T n, w ∈ gz_tbl) ∧ Cond.classLink own idx C ∈ gz_tbl ∧ Cond.instantiable C n ∈ gz_tbl ∧ Cond.initialized C ∈ gz_tbl ∧ (∀ j, j < n → (fl[j]? = some none ∧ defaultValue (t0 j) = .int 0) ∨ (fl[j]? = some (some none) ∧ defaultValue (t0 j) = .null))
theorem gk_new {idx ci : Nat} {fl : List (Option (Option Nat))} (hd : decode M.2.1 pc = .ok (.new idx, 3)) (hw0 : gz_nw M.1.cls idx ci fl) (hcl : cells + 1 ≤ N.2.1) (hsl : slots + fl.length ≤ N.2.2.1) (hz : G.length = N.2.2.2 + cells)
    (k : gz_k E M N (cells + 1) (slots + fl.length) (pc + 3) L (.ref G.length :: st) (G ++ [.inr ((false, ci), fl)]) (gz_u S G.length (fun _ => 0)) Q) : gz_k E M N cells slots pc L st G S Q := by
  intro p e s m args below meth c Z R C H locs ls hw hh
  obtain ⟨Cn, T0, n, t0, g1, g2, g3, g4, g5, g6, g7, g8⟩ := hw0
  intro T hT X
  have h0 := C.2.2.2.2.2.2.2.2.2.1 (by omega)
  have hsz : H.size = gz_B E + G.length := gz_size (N := N) X hT hw h0 hz
  obtain ⟨r1, r2, r3, r4⟩ := C.2.2.2.2.2.1
  have hts := C.2.2.2.2.1
  have hKn := C.2.2.2.2.2.2.2.1.1.1 ci _ g1
  subst g2
  have key : W p (gz_l E) e R s m args below meth c H locs cells slots Z (F0 m pc ls (st.map (gz_v E))) := by
   refine W.newcK C.1 C.2.1 C.2.2.2.1 (hts _ g5) (hts _ g6) (hts _ g7) rfl hd (by omega) (by omega) hKn.2.1 rfl (fun H1 kC hkC e1 z1 o1 => ?_)
   have h2 : gz_wd E (G ++ [.inr ((false, ci), fl)]) (gz_u S G.length (fun _ => 0)) s H1 locs := by
     refine gz_made hw hsz ?_ (by omega) o1 (by omega)
     refine ⟨_, g1, ?_⟩
     rw [hsz] at e1
     refine (u_born t0 hts g4 hKn hkC e1 g3).to (fun j hj => ?_)
     show defaultValue (t0 j) = (List.mapIdx (fun j f => gz_f E (gz_u S G.length (fun _ => 0)) G.length j f) fl).getD j .null
     rw [List.getD_eq_getElem?_getD, List.getElem?_mapIdx]
     rcases g8 j hj with ⟨a1, a2⟩ | ⟨a1, a2⟩
     · rw [a1, a2]
       simp [gz_f, gz_u_at]
     · rw [a1, a2]
       rfl
   have h3 := k p e s m args below meth c Z R C H1 locs ls h2 hh
   simp only [List.map_cons, gz_v] at h3
   rw [← hsz] at h3
   exact h3
  exact key T hT X
theorem gk_newq {idx n : Nat} {v : Int32} (hd : decode M.2.1 pc = .ok (.anewarray idx, 3)) (hA : Cond.arrayOver (.object "StoneVotes$Sheet") ∈ gz_tbl) (hL : Cond.classLink M.1.cls idx "StoneVotes$Sheet" ∈ gz_tbl) (hv : nI n = v) (hn : n < 100000) (hcl : cells + 1 ≤ N.2.1) (hsl : slots + n ≤ N.2.2.1) (hz : G.length = N.2.2.2 + cells)
    (k : gz_k E M N (cells + 1) (slots + n) (pc + 3) L (.ref G.length :: st) (G ++ [.inr ((true, 2), List.replicate n (some none))]) (gz_u S G.length (fun _ => 0)) Q) : gz_k E M N cells slots pc L (.int v :: st) G S Q := by
  intro p e s m args below meth c Z R C H locs ls hw hh
  subst hv
  intro T hT X
  have h0 := C.2.2.2.2.2.2.2.2.2.1 (by omega)
  have hsz : H.size = gz_B E + G.length := gz_size (N := N) X hT hw h0 hz
  obtain ⟨r1, r2, r3, r4⟩ := C.2.2.2.2.2.1
  have hts := C.2.2.2.2.1
  have ecl : (nI n).toNatClampNeg = n := nI_clamp (by omega)
  have key : W p (gz_l E) e R s m args below meth c H locs cells slots Z (F0 m pc ls (.int (nI n) :: st.map (gz_v E))) := by
   refine W.anew (rest := st.map (gz_v E)) C.1 C.2.1 C.2.2.2.1 (hts _ hL) (hts _ hA) rfl hd rfl (nI_pos (by omega)) (by rw [ecl]; omega) (by omega) (by rw [ecl]; omega) (fun cA kA comp f1 f2 f3 f4 => ?_)
   rw [ecl]
   have hcA : cA = gz_tc E 2 := by
     obtain ⟨kA2, comp2, -, -, -, q4⟩ := (C.2.2.2.2.2.2.2.1.1.2 2 _ (gz_tys_at E (show 2 < 3 by omega))).2
     exact Option.some.inj (f1.symm.trans q4)
   subst hcA
   have h2 : gz_wd E (G ++ [.inr ((true, 2), List.replicate n (some none))]) (gz_u S G.length (fun _ => 0)) s (H.push { cls := gz_tc E 2, slots := Array.replicate n .null, vm := .none }) locs := by
     refine gz_made hw hsz ?_ (by rw [Array.size_push]) (fun q hq => by rw [Array.getElem?_push, if_neg (Nat.ne_of_lt hq)]) (by omega)
     show (H.push _)[gz_B E + G.length]? = some (vp_cell _ _)
     rw [← hsz, Array.getElem?_push_size]
     have e2 : (List.replicate n (some (none : Option Nat))).length = n := List.length_replicate
     rw [e2]
     have e3 : gz_r E (List.replicate n (some none)) = fun _ => none := by
       funext i
       unfold gz_r
       cases h : (List.replicate n (some (none : Option Nat)))[i]? with
       | none => rfl
       | some o =>
         have := List.eq_of_mem_replicate (List.mem_of_getElem? h)
         subst this
         rfl
     rw [e3]
     show _ = some (arrV _ _ (fun _ => .null))
     rw [← arrV_new]
   have h3 := k p e s m args below meth c Z R C _ locs ls h2 hh
   simp only [List.map_cons, gz_v] at h3
   rw [← hsz] at h3
   exact h3
  exact key T hT X
theorem gk_aastore {a r ci : Nat} {q : vw_C} {fl fr : List (Option (Option Nat))} {i : Int32} {G2 : List gz_G} (hd : decode M.2.1 pc = .ok (.aastore, 1)) (hg : G[a]? = some (.inr ((true, 2), fl))) (hr : G[r]? = some (.inr ((false, ci), fr))) (hc : vwCl[ci]? = some q) (hq : q.1 = "StoneVotes$Sheet") (hin : vp_in i fl.length) (hG2 : G.set a (.inr ((true, 2), fl.set i.toNatClampNeg (some (some r)))) = G2) (k : gz_k E M N cells slots (pc + 1) L st G2 S Q) : gz_k E M N cells slots pc L (.ref r :: .int i :: .ref a :: st) G S Q := by
  intro p e s m args below meth c Z R C H locs ls hw hh
  subst hG2
  have hlt : i.toNatClampNeg < fl.length := Nat.not_le.mp fun q => hin (Or.inr q)
  refine va_astq (r := q) C.1 C.2.1 C.2.2.2.2.2.2.2.1.1 hw.1 (gz_dd E S G) hw.2 a 2 r ci (gz_w_at hg) (by rw [hq]; rfl) (gz_w_at hr) hc hin hd (fun H1 locs1 hP hD hS => ?_)
  refine k p e s m args below meth c Z R C H1 locs1 ls ⟨?_, hS⟩ hh
  rw [← gz_w_set hg]
  have e1 : va_up (gz_r E fl) i.toNatClampNeg (some (gz_B E + r)) = gz_r E (fl.set i.toNatClampNeg (some (some r))) := by
    funext j
    unfold va_up gz_r
    by_cases hj : j = i.toNatClampNeg
    · subst hj
      rw [if_pos rfl, List.getElem?_set_self hlt]
    · rw [if_neg hj, List.getElem?_set_ne (Ne.symm hj)]
  rw [e1] at hP
  show va_P (gz_D E) vwCl ((gz_w E S G).set a (gz_B E + a, .inl (gz_tc E 2, (fl.set i.toNatClampNeg (some (some r))).length, .inr (.inr (.inr (.inr (gz_r E (fl.set i.toNatClampNeg (some (some r)))))))))) H1
  rw [List.length_set]
  exact hP
theorem gk_copy {a b n0 n1 idx : Nat} {sp dp n : Int32} (hd : decode M.2.1 pc = .ok (.invokestatic idx, 3)) (hw1 : Cond.methodLink M.1.cls idx arraycopyName ∈ gz_tbl) (hw2 : Cond.native arraycopyName ∈ gz_tbl) (hw3 : Cond.static arraycopyName ∈ gz_tbl) (hw4 : Cond.initialized "java/lang/System" ∈ gz_tbl) (hg0 : G[a]? = some (.inl (0, n0))) (hg1 : G[b]? = some (.inl (0, n1))) (h1 : ¬ sp < 0) (h2 : ¬ dp < 0) (h3 : ¬ n < 0) (h4 : sp.toNatClampNeg + n.toNatClampNeg ≤ n0) (h5 : dp.toNatClampNeg + n.toNatClampNeg ≤ n1) (hD : 2 ≤ N.1) (hr : (st.map fun v => v.category).sum ≤ 8)
    (k : gz_k E M N cells slots (pc + 3) L st G (gz_u S b (va_cpy (S a) (S b) sp.toNatClampNeg dp.toNatClampNeg n.toNatClampNeg)) Q) : gz_k E M N cells slots pc L (.int n :: .int dp :: .ref b :: .int sp :: .ref a :: st) G S Q := by
  intro p e s m args below meth c Z R C H locs ls hw hh
  obtain ⟨r1, r2, r3, r4⟩ := C.2.2.2.2.2.1
  have hts := C.2.2.2.2.1
  have hrr := gz_rest (E := E) hr
  refine va_copyi (ty := .int) C.1 C.2.1 (by rw [C.2.2.1]; exact hh.1.symm) C.2.2.2.1 (hts _ hw1) (hts _ hw2) (hts _ hw3) (hts _ hw4) C.2.2.2.2.2.2.2.1.1 hw.1 (gz_dd E S G) hw.2 a b 0 0 (gz_w_at hg0) (gz_w_at hg1) rfl rfl rfl h1 h2 h3 h4 h5 (fun i hi => rfl) (by omega) ?_ hd (fun H1 locs1 hP hD hS => ?_)
  · have e1 : nativeFrameWords "java/lang/System" "arraycopy" 5 + 11 ≤ 60 := by decide +kernel
    omega
  · refine k p e s m args below meth c Z R C H1 locs1 ls ⟨?_, hS⟩ hh
    rw [← gz_w_put hg1 (va_cpy (S a) (S b) sp.toNatClampNeg dp.toNatClampNeg n.toNatClampNeg)]
    simpa only [gz_c, gz_u_at] using hP
/-- locals at the entry -/
def gz_e (as : List Value) (n : Nat) : List (Option Value) := let l := as.flatMap (fun v => if v.category = 2 then [some v, none] else [some v]); l ++ List.replicate (n - l.length) none
theorem gz_e_at : ∀ (as : List Value) (i0 i : Nat) (v : Value), (as.flatMap (fun v => if v.category = 2 then [some v, none] else [some v]))[i]? = some (some v) → (i0 + i, gz_v E v) ∈ lv_args i0 (as.map (gz_v E))
  | [], i0, i, v, h => by simp at h
  | a :: as, i0, i, v, h => by
    rw [List.flatMap_cons] at h
    rw [List.map_cons]
    unfold lv_args
    rw [gz_v_cat]
    by_cases hc : a.category = 2
    · rw [if_pos hc] at h ⊢
      rcases i with _ | _ | i
      · simp at h
        rw [h]
        exact List.mem_cons_self
      · simp at h
      · refine List.mem_cons_of_mem _ ?_
        have := gz_e_at as (i0 + 2) i v (by simpa using h)
        rw [show i0 + (i + 1 + 1) = i0 + 2 + i by omega]
        exact this
    · rw [if_neg hc] at h ⊢
      rcases i with _ | i
      · simp at h
        rw [h]
        exact List.mem_cons_self
      · refine List.mem_cons_of_mem _ ?_
        have := gz_e_at as (i0 + 1) i v (by simpa using h)
        rw [show i0 + (i + 1) = i0 + 1 + i by omega]
        exact this
theorem gz_e_len (as : List Value) : (lg_sl (as.map (gz_v E))).length = (as.flatMap (fun v => if v.category = 2 then [some v, none] else [some v])).length := by
  induction as with
  | nil => rfl
  | cons a as ih =>
    unfold lg_sl at ih ⊢
    rw [List.map_cons, List.flatMap_cons, List.flatMap_cons, List.length_append, List.length_append, ih, gz_v_cat]
    by_cases hc : a.category = 2
    · simp [hc]
    · simp [hc]
/-- a contract out of the walk of the body -/
theorem gz_meet {D mc ms : Nat} {as : List Value} {L0 : List (Option Value)} (hpl : plainName M.1.cls = true) (hL : gz_e as M.2.2.1 = L0) (hlen : (as.flatMap (fun v => if v.category = 2 then [some v, none] else [some v])).length ≤ M.2.2.1) (hlaw : M.1.name ≠ "law") (k : gz_k E M (D, mc, ms, G.length) 0 0 0 L0 [] G S Q) : gz_m E M D mc ms as G S Q := by
  subst hL
  refine Met.ofW (cc := M.2.1) (maxL := M.2.2.1) (ret := M.2.2.2) (ws' := gz_tbl) hpl rfl ?_
  intro p e s m args below meth c s₁ B hml hv
  obtain ⟨rfl, hK, hP, hsz⟩ := hv
  have hts : ∀ w ∈ gz_tbl, w.before (as.map (gz_v E)).toArray s = true := fun w hw => atoms_spec (ws := gz_ws M) B.pre w (List.mem_cons_of_mem _ hw)
  have hl := lv_entry (as.map (gz_v E)) (n := M.2.2.1) (by rw [gz_e_len]; exact hlen)
  rw [lg_entry_eq]
  have hh : gz_h E ((lg_sl (as.map (gz_v E)) ++ List.replicate (M.2.2.1 - (lg_sl (as.map (gz_v E))).length) Slot.unset).toArray) M.2.2.1 (gz_e as M.2.2.1) := by
    refine ⟨hl.1, hl.2.1, fun i v hi => ?_⟩
    have h1 : (as.flatMap (fun v => if v.category = 2 then [some v, none] else [some v]))[i]? = some (some v) := by
      unfold gz_e at hi
      dsimp only at hi
      by_cases hlt : i < (as.flatMap (fun v => if v.category = 2 then [some v, none] else [some v])).length
      · rw [List.getElem?_append_left hlt] at hi
        exact hi
      · rw [List.getElem?_append_right (by omega)] at hi
        have := List.eq_of_mem_replicate (List.mem_of_getElem? hi)
        cases this
    have h2 := hl.2.2 _ (gz_e_at as 0 i v h1)
    simpa using h2
  refine k p e s m _ below meth c _ _ ⟨B.exec, B.bytes, hml, findClass_of_methodNamed B.named, hts, ⟨Nat.le_refl _, Nat.le_refl _, Nat.le_refl _, Nat.le_refl _⟩, (name_of_methodNamed B.named B.method).1, hK, fun h => absurd h hlaw, hsz, ?_⟩ s.heap [] _ ⟨hP, va_S.rf⟩ hh
  intro H locs pc ls i v G2 S2 hw hq hd hret
  rcases hret with ⟨rfl, x, rfl, ty, hr, hn⟩ | ⟨rfl, x, rfl, hr⟩ | ⟨rfl, a, rfl, n, hr⟩ | ⟨rfl, rfl, hr⟩
  · exact W.zret (v := x) B.exec B.bytes (B.returns.trans hr) hn (fun t ht hW => ⟨⟨some (.int x), G2, S2, rfl, hq, by rw [ht]; exact hw.1⟩, hw.2.F ht⟩) hw.2.2.2 hd
  · exact W.lret (v := x) B.exec B.bytes (B.returns.trans hr) (fun t ht hW => ⟨⟨some (.long x), G2, S2, rfl, hq, by rw [ht]; exact hw.1⟩, hw.2.F ht⟩) hw.2.2.2 hd
  · exact W.aret (v := .ref (gz_B E + a)) B.exec B.bytes (B.returns.trans hr) (Or.inl ⟨n, rfl⟩) (Or.inr ⟨_, rfl⟩) (fun t ht hW => ⟨⟨some (.ref a), G2, S2, rfl, hq, by rw [ht]; exact hw.1⟩, hw.2.F ht⟩) hw.2.2.2 hd
  · exact W.vret B.exec B.bytes (B.returns.trans hr) (fun t ht hW => ⟨⟨none, G2, S2, rfl, hq, by rw [ht]; exact hw.1⟩, hw.2.F ht⟩) hw.2.2.2 hd
theorem gz_k.mono {Q2 : gz_Q} (h : ∀ v G S, Q v G S → Q2 v G S) (k : gz_k E M N cells slots pc L st G S Q) : gz_k E M N cells slots pc L st G S Q2 := by
  intro p e s m args below meth c Z R C H locs ls hw hh
  refine k p e s m args below meth c Z R ?_ H locs ls hw hh
  obtain ⟨c1, c2, c3, c4, c5, c6, c7, c8, c9, c10, c11⟩ := C
  exact ⟨c1, c2, c3, c4, c5, c6, c7, c8, c9, c10, fun H locs pc ls i v G S h1 h2 h3 h4 => c11 H locs pc ls i v G S h1 (h v G S h2) h3 h4⟩
end
end
section
/-- the world once both objects are made -/
def gz_F : List gz_G := [.inr ((false, 7), [some (some 1), some (some 12), some (some 16), some (some 23), some (some 30), some (some 33), some (some 36), none]), .inr ((false, 3), [some (some 2), some (some 6), some (some 10), some (some 11), none, none]), .inr ((false, 6), [some (some 3), none, none, some (some 4), some (some 5), none, none, none]), .inl (0, 16), .inl (0, 8), .inl (0, 8), .inr ((false, 6), [some (some 7), none, none, some (some 8), some (some 9), none, none, none]), .inl (0, 20), .inl (0, 9), .inl (0, 9), .inl (0, 25), .inl (0, 8), .inr ((false, 1), [some (some 13), some (some 14), some (some 15), none]), .inl (0, 30), .inl (0, 30), .inl (0, 30), .inr ((false, 2), [some (some 1), some (some 12), some (some 17), some (some 18), some (some 19), some (some 20), none, some (some 21), some (some 22), none]), .inl (0, 30), .inl (0, 9), .inl (0, 8), .inl (0, 9), .inl (0, 10), .inl (0, 9), .inr ((false, 2), [some (some 1), some (some 12), some (some 24), some (some 25), some (some 26), some (some 27), none, some (some 28), some (some 29), none]), .inl (0, 30), .inl (0, 9), .inl (0, 8), .inl (0, 9), .inl (0, 10), .inl (0, 9), .inr ((false, 4), [some (some 1), some (some 31), none, some (some 32)]), .inl (0, 8), .inl (0, 512), .inr ((false, 0), [some (some 1), some (some 34), some (some 35), none, none, none, none, none]), .inl (0, 8), .inl (0, 9), .inr ((true, 2), [some (some 37), some (some 39), some (some 41), some (some 43)]), .inr ((false, 5), [some (some 38), none, none]), .inl (0, 60), .inr ((false, 5), [some (some 40), none, none]), .inl (0, 60), .inr ((false, 5), [some (some 42), none, none]), .inl (0, 60), .inr ((false, 5), [some (some 44), none, none]), .inl (0, 60), .inr ((false, 8), [some (some 46), some (some 47), some (some 48), some (some 49), none, some (some 50), some (some 51), none, some (some 52), some (some 53), none, some (some 54), some (some 55), some (some 56), some (some 57), some (some 58), none, some (some 59), some (some 60), some (some 61), some (some 62), none, none, some (some 63), some (some 64), none, some (some 65), some (some 66), some (some 67), some (some 68), some (some 69), some (some 70), some (some 71), some (some 72)]), .inl (0, 4), .inl (0, 4), .inl (0, 240), .inl (0, 60), .inl (0, 36), .inl (0, 2), .inl (0, 8), .inl (0, 8), .inl (0, 9), .inl (0, 9), .inl (0, 2), .inl (0, 25), .inl (0, 8), .inl (0, 90), .inl (0, 30), .inl (0, 8), .inl (0, 9), .inl (0, 12), .inl (1, 30), .inl (1, 512), .inl (1, 512), .inl (0, 6), .inl (0, 6), .inl (0, 6), .inl (0, 6), .inl (1, 6), .inl (0, 2)]
def gz_n (a : Nat) : Nat := match gz_F[a]? with
  | some (.inl q) => q.2
  | some (.inr q) => q.2.length
  | none => 0
def gz_st (S : gz_S) (a j : Nat) (v : Int32) : gz_S := gz_u S a (upd (S a) j v)
def gz_b01 (x : Int32) : Prop := x = 0 ∨ x = 1
theorem gz_b01_nar {x : Int32} (h : gz_b01 x) : vp_nar .boolean x = x := by
  rcases h with rfl | rfl <;> rfl
theorem gz_b01_nz {x : Int32} (h : gz_b01 x) : narrow .boolean (.int x) = .int x := by
  rcases h with rfl | rfl <;> rfl
def gz_qv (Q : gz_S → Prop) : gz_Q := fun v G S => G = gz_F ∧ v = none ∧ Q S
def gz_qi (Q : Int32 → gz_S → Prop) : gz_Q := fun v G S => G = gz_F ∧ ∃ r : Int32, v = some (.int r) ∧ Q r S
def gz_ql (Q : Int64 → gz_S → Prop) : gz_Q := fun v G S => G = gz_F ∧ ∃ r : Int64, v = some (.long r) ∧ Q r S
def gz_qr (Q : Nat → gz_S → Prop) : gz_Q := fun v G S => G = gz_F ∧ ∃ r : Nat, v = some (.ref r) ∧ (r = 2 ∨ r = 6) ∧ Q r S
theorem gz_four {i : Int32} (h : vp_in i 4) : i.toNatClampNeg = 0 ∨ i.toNatClampNeg = 1 ∨ i.toNatClampNeg = 2 ∨ i.toNatClampNeg = 3 := by
  have h1 : i.toNatClampNeg < 4 := Nat.not_le.mp fun q => h (Or.inr q)
  omega
def gz_le : List (Option Value) → List (Option Value) → Prop
  | [], _ => True
  | none :: a, _ :: b => gz_le a b
  | some v :: a, o :: b => o = some v ∧ gz_le a b
  | _ :: _, [] => False
theorem gz_le_0 {b : List (Option Value)} : gz_le [] b := trivial
theorem gz_le_n {a b : List (Option Value)} {o : Option Value} (h : gz_le a b) : gz_le (none :: a) (o :: b) := h
theorem gz_le_s {a b : List (Option Value)} {o : Option Value} {v : Value} (h1 : o = some v) (h : gz_le a b) : gz_le (some v :: a) (o :: b) := ⟨h1, h⟩
theorem gz_le_at : ∀ {a b : List (Option Value)}, gz_le a b → ∀ (i : Nat) (v : Value), a[i]? = some (some v) → b[i]? = some (some v)
  | [], _, _, i, v, h => by simp at h
  | none :: a, o :: b, hl, i, v, h => by
    cases i with
    | zero => simp at h
    | succ i => exact gz_le_at (a := a) (b := b) hl i v (by simpa using h)
  | some u :: a, o :: b, hl, i, v, h => by
    cases i with
    | zero =>
      have e : u = v := by simpa using h
      rw [← e, ← hl.1]
      rfl
    | succ i => exact gz_le_at (a := a) (b := b) hl.2 i v (by simpa using h)
  | none :: a, [], hl, i, v, h => hl.elim
  | some u :: a, [], hl, i, v, h => hl.elim
section
variable {E : gz_E} {M : gz_M} {N : gz_N} {cells slots pc : Nat} {L : List (Option Value)} {st : List Value} {G : List gz_G} {S : gz_S} {Q : gz_Q}
theorem gk_less {L2 : List (Option Value)} (h : gz_le L2 L) (k : gz_k E M N cells slots pc L2 st G S Q) : gz_k E M N cells slots pc L st G S Q :=
  fun p e s m args below meth c Z R C H locs ls hw hh => k p e s m args below meth c Z R C H locs ls hw ⟨hh.1, hh.2.1, fun i v hv => hh.2.2 i v (gz_le_at h i v hv)⟩
theorem gk_nmi {x : Int32} (k : ∀ y : Int32, y = x → gz_k E M N cells slots pc L (.int y :: st) G S Q) : gz_k E M N cells slots pc L (.int x :: st) G S Q := k x rfl
theorem gk_nml {x : Int64} (k : ∀ y : Int64, y = x → gz_k E M N cells slots pc L (.long y :: st) G S Q) : gz_k E M N cells slots pc L (.long x :: st) G S Q := k x rfl
theorem gk_nmS {S : gz_S} (k : ∀ T : gz_S, T = S → gz_k E M N cells slots pc L st G T Q) : gz_k E M N cells slots pc L st G S Q := k S rfl
theorem gz_meet0 {D : Nat} {as : List Value} {L0 : List (Option Value)} (hpl : plainName M.1.cls = true) (hL : gz_e as M.2.2.1 = L0) (hlen : (as.flatMap (fun v => if v.category = 2 then [some v, none] else [some v])).length ≤ M.2.2.1) (hlaw : M.1.name ≠ "law") (k : gz_k E M (D, 0, 0, 73) 0 0 0 L0 [] gz_F S Q) : gz_m E M D 0 0 as gz_F S Q := gz_meet (G := gz_F) hpl hL hlen hlaw k
end
theorem gz_in1 {w : Cond} (i : Nat) (h : lw_tbl[i]? = some w) (hg : goodWord w = true) : w ∈ gz_tbl := List.mem_filter.mpr ⟨List.mem_of_getElem? h, hg⟩
theorem gz_inl {ws : List Cond} (ps : List Nat) (h : ws = ps.filterMap (fun i => lw_tbl[i]?)) (hg : ws.all goodWord = true) : ∀ w ∈ ws, w ∈ gz_tbl := by
  intro w hw
  have h1 := List.all_eq_true.mp hg w hw
  rw [h] at hw
  obtain ⟨i, -, hi⟩ := List.mem_filterMap.mp hw
  exact gz_in1 i hi h1
end
