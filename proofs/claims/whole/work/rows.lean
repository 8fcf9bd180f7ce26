section
-- ===== PART A: goes FIRST, ahead of the names: the tables' words, and 'selects' of the private methods out of them =====
/-- a private method of a class that the tables say can be made, by its rows of tables_1 -/
def lw_okq (q : MethodName × Nat) : Prop := (q.1.cls ≠ "java/lang/invoke/MethodHandle" ∧ q.1.cls ≠ "java/lang/invoke/VarHandle") ∧ Cond.instantiable q.1.cls q.2 ∈ tables_1 ∧ Cond.privateMethod q.1 ∈ tables_1 ∧ Cond.instanceMethod q.1 ∈ tables_1
theorem lw_p0 : lw_okq (⟨"AvalancheVote", "bad", "(I)I"⟩, 11) := ⟨⟨by decide +kernel, by decide +kernel⟩, List.mem_of_getElem? (i := 23) (by decide +kernel), List.mem_of_getElem? (i := 327) (by decide +kernel), List.mem_of_getElem? (i := 328) (by decide +kernel)⟩
theorem lw_p1 : lw_okq (⟨"AvalancheVote", "full", "()I"⟩, 11) := ⟨⟨by decide +kernel, by decide +kernel⟩, List.mem_of_getElem? (i := 23) (by decide +kernel), List.mem_of_getElem? (i := 331) (by decide +kernel), List.mem_of_getElem? (i := 332) (by decide +kernel)⟩
theorem lw_p2 : lw_okq (⟨"AvalancheVote", "isLedge", "(I)Z"⟩, 11) := ⟨⟨by decide +kernel, by decide +kernel⟩, List.mem_of_getElem? (i := 23) (by decide +kernel), List.mem_of_getElem? (i := 343) (by decide +kernel), List.mem_of_getElem? (i := 344) (by decide +kernel)⟩
theorem lw_p3 : lw_okq (⟨"AvalancheVote$Reader", "readItem", "(LAvalancheVote$State;Z)V"⟩, 5) := ⟨⟨by decide +kernel, by decide +kernel⟩, List.mem_of_getElem? (i := 216) (by decide +kernel), List.mem_of_getElem? (i := 372) (by decide +kernel), List.mem_of_getElem? (i := 373) (by decide +kernel)⟩
theorem lw_p4 : lw_okq (⟨"AvalancheVote$Reader", "takeWord", "()V"⟩, 5) := ⟨⟨by decide +kernel, by decide +kernel⟩, List.mem_of_getElem? (i := 216) (by decide +kernel), List.mem_of_getElem? (i := 376) (by decide +kernel), List.mem_of_getElem? (i := 377) (by decide +kernel)⟩
theorem lw_p5 : lw_okq (⟨"AvalancheVote$Reader", "skipBlanks", "()V"⟩, 5) := ⟨⟨by decide +kernel, by decide +kernel⟩, List.mem_of_getElem? (i := 216) (by decide +kernel), List.mem_of_getElem? (i := 380) (by decide +kernel), List.mem_of_getElem? (i := 381) (by decide +kernel)⟩
theorem lw_p6 : lw_okq (⟨"AvalancheVote$Reader", "isBetween", "(CC)Z"⟩, 5) := ⟨⟨by decide +kernel, by decide +kernel⟩, List.mem_of_getElem? (i := 216) (by decide +kernel), List.mem_of_getElem? (i := 384) (by decide +kernel), List.mem_of_getElem? (i := 385) (by decide +kernel)⟩
theorem lw_p7 : lw_okq (⟨"AvalancheVote$Reader", "wordIs", "(Ljava/lang/String;)Z"⟩, 5) := ⟨⟨by decide +kernel, by decide +kernel⟩, List.mem_of_getElem? (i := 216) (by decide +kernel), List.mem_of_getElem? (i := 389) (by decide +kernel), List.mem_of_getElem? (i := 390) (by decide +kernel)⟩
theorem lw_p8 : lw_okq (⟨"AvalancheVote$Reader", "readLedge", "(LAvalancheVote$State;Z)V"⟩, 5) := ⟨⟨by decide +kernel, by decide +kernel⟩, List.mem_of_getElem? (i := 216) (by decide +kernel), List.mem_of_getElem? (i := 442) (by decide +kernel), List.mem_of_getElem? (i := 443) (by decide +kernel)⟩
theorem lw_p9 : lw_okq (⟨"AvalancheVote$Reader", "takeNumber", "(II)I"⟩, 5) := ⟨⟨by decide +kernel, by decide +kernel⟩, List.mem_of_getElem? (i := 216) (by decide +kernel), List.mem_of_getElem? (i := 446) (by decide +kernel), List.mem_of_getElem? (i := 447) (by decide +kernel)⟩
theorem lw_p10 : lw_okq (⟨"AvalancheVote$Reader", "readVoter", "(LAvalancheVote$State;)V"⟩, 5) := ⟨⟨by decide +kernel, by decide +kernel⟩, List.mem_of_getElem? (i := 216) (by decide +kernel), List.mem_of_getElem? (i := 454) (by decide +kernel), List.mem_of_getElem? (i := 455) (by decide +kernel)⟩
theorem lw_p11 : lw_okq (⟨"AvalancheVote$Reader", "takeEnd", "()V"⟩, 5) := ⟨⟨by decide +kernel, by decide +kernel⟩, List.mem_of_getElem? (i := 216) (by decide +kernel), List.mem_of_getElem? (i := 459) (by decide +kernel), List.mem_of_getElem? (i := 460) (by decide +kernel)⟩
theorem lw_p12 : lw_okq (⟨"AvalancheVote", "isVoter", "(I)Z"⟩, 11) := ⟨⟨by decide +kernel, by decide +kernel⟩, List.mem_of_getElem? (i := 23) (by decide +kernel), List.mem_of_getElem? (i := 484) (by decide +kernel), List.mem_of_getElem? (i := 485) (by decide +kernel)⟩
theorem lw_p13 : lw_okq (⟨"AvalancheVote$Slope", "drop", "(I)I"⟩, 9) := ⟨⟨by decide +kernel, by decide +kernel⟩, List.mem_of_getElem? (i := 137) (by decide +kernel), List.mem_of_getElem? (i := 568) (by decide +kernel), List.mem_of_getElem? (i := 569) (by decide +kernel)⟩
theorem lw_p14 : lw_okq (⟨"AvalancheVote", "no", "()I"⟩, 11) := ⟨⟨by decide +kernel, by decide +kernel⟩, List.mem_of_getElem? (i := 23) (by decide +kernel), List.mem_of_getElem? (i := 593) (by decide +kernel), List.mem_of_getElem? (i := 594) (by decide +kernel)⟩
theorem lw_p15 : lw_okq (⟨"AvalancheVote", "placeAs", "(II)I"⟩, 11) := ⟨⟨by decide +kernel, by decide +kernel⟩, List.mem_of_getElem? (i := 23) (by decide +kernel), List.mem_of_getElem? (i := 613) (by decide +kernel), List.mem_of_getElem? (i := 614) (by decide +kernel)⟩
def lw_privs_1 : List (MethodName × Nat) := [(⟨"AvalancheVote", "bad", "(I)I"⟩, 11), (⟨"AvalancheVote", "full", "()I"⟩, 11), (⟨"AvalancheVote", "isLedge", "(I)Z"⟩, 11), (⟨"AvalancheVote$Reader", "readItem", "(LAvalancheVote$State;Z)V"⟩, 5), (⟨"AvalancheVote$Reader", "takeWord", "()V"⟩, 5), (⟨"AvalancheVote$Reader", "skipBlanks", "()V"⟩, 5), (⟨"AvalancheVote$Reader", "isBetween", "(CC)Z"⟩, 5), (⟨"AvalancheVote$Reader", "wordIs", "(Ljava/lang/String;)Z"⟩, 5), (⟨"AvalancheVote$Reader", "readLedge", "(LAvalancheVote$State;Z)V"⟩, 5), (⟨"AvalancheVote$Reader", "takeNumber", "(II)I"⟩, 5), (⟨"AvalancheVote$Reader", "readVoter", "(LAvalancheVote$State;)V"⟩, 5), (⟨"AvalancheVote$Reader", "takeEnd", "()V"⟩, 5), (⟨"AvalancheVote", "isVoter", "(I)Z"⟩, 11), (⟨"AvalancheVote$Slope", "drop", "(I)I"⟩, 9), (⟨"AvalancheVote", "no", "()I"⟩, 11), (⟨"AvalancheVote", "placeAs", "(II)I"⟩, 11)]
theorem lw_r1 : ∀ q ∈ lw_privs_1, lw_okq q := List.forall_mem_cons.mpr ⟨lw_p0, List.forall_mem_cons.mpr ⟨lw_p1, List.forall_mem_cons.mpr ⟨lw_p2, List.forall_mem_cons.mpr ⟨lw_p3, List.forall_mem_cons.mpr ⟨lw_p4, List.forall_mem_cons.mpr ⟨lw_p5, List.forall_mem_cons.mpr ⟨lw_p6, List.forall_mem_cons.mpr ⟨lw_p7, List.forall_mem_cons.mpr ⟨lw_p8, List.forall_mem_cons.mpr ⟨lw_p9, List.forall_mem_cons.mpr ⟨lw_p10, List.forall_mem_cons.mpr ⟨lw_p11, List.forall_mem_cons.mpr ⟨lw_p12, List.forall_mem_cons.mpr ⟨lw_p13, List.forall_mem_cons.mpr ⟨lw_p14, List.forall_mem_cons.mpr ⟨lw_p15, fun _ h => absurd h List.not_mem_nil⟩⟩⟩⟩⟩⟩⟩⟩⟩⟩⟩⟩⟩⟩⟩⟩
theorem lw_p16 : lw_okq (⟨"AvalancheVote", "heftAs", "(II)I"⟩, 11) := ⟨⟨by decide +kernel, by decide +kernel⟩, List.mem_of_getElem? (i := 23) (by decide +kernel), List.mem_of_getElem? (i := 619) (by decide +kernel), List.mem_of_getElem? (i := 620) (by decide +kernel)⟩
theorem lw_p17 : lw_okq (⟨"AvalancheVote$Foresight", "fresh", "()LAvalancheVote$Slope;"⟩, 6) := ⟨⟨by decide +kernel, by decide +kernel⟩, List.mem_of_getElem? (i := 241) (by decide +kernel), List.mem_of_getElem? (i := 640) (by decide +kernel), List.mem_of_getElem? (i := 641) (by decide +kernel)⟩
theorem lw_p18 : lw_okq (⟨"AvalancheVote$Foresight", "countOrders", "(III)V"⟩, 6) := ⟨⟨by decide +kernel, by decide +kernel⟩, List.mem_of_getElem? (i := 241) (by decide +kernel), List.mem_of_getElem? (i := 654) (by decide +kernel), List.mem_of_getElem? (i := 655) (by decide +kernel)⟩
theorem lw_p19 : lw_okq (⟨"AvalancheVote$Foresight", "isDeepest", "(I)Z"⟩, 6) := ⟨⟨by decide +kernel, by decide +kernel⟩, List.mem_of_getElem? (i := 241) (by decide +kernel), List.mem_of_getElem? (i := 658) (by decide +kernel), List.mem_of_getElem? (i := 659) (by decide +kernel)⟩
theorem lw_p20 : lw_okq (⟨"AvalancheVote$Foresight", "fillOrder", "(II)V"⟩, 6) := ⟨⟨by decide +kernel, by decide +kernel⟩, List.mem_of_getElem? (i := 241) (by decide +kernel), List.mem_of_getElem? (i := 662) (by decide +kernel), List.mem_of_getElem? (i := 663) (by decide +kernel)⟩
theorem lw_p21 : lw_okq (⟨"AvalancheVote$Foresight", "fallsBy", "(IIIII)Z"⟩, 6) := ⟨⟨by decide +kernel, by decide +kernel⟩, List.mem_of_getElem? (i := 241) (by decide +kernel), List.mem_of_getElem? (i := 683) (by decide +kernel), List.mem_of_getElem? (i := 684) (by decide +kernel)⟩
theorem lw_p22 : lw_okq (⟨"AvalancheVote$Foresight", "afterStone", "(II)LAvalancheVote$Slope;"⟩, 6) := ⟨⟨by decide +kernel, by decide +kernel⟩, List.mem_of_getElem? (i := 241) (by decide +kernel), List.mem_of_getElem? (i := 687) (by decide +kernel), List.mem_of_getElem? (i := 688) (by decide +kernel)⟩
theorem lw_p23 : lw_okq (⟨"AvalancheVote$Foresight", "fallsWithin", "(IIII)Z"⟩, 6) := ⟨⟨by decide +kernel, by decide +kernel⟩, List.mem_of_getElem? (i := 241) (by decide +kernel), List.mem_of_getElem? (i := 693) (by decide +kernel), List.mem_of_getElem? (i := 694) (by decide +kernel)⟩
theorem lw_p24 : lw_okq (⟨"AvalancheVote$Foresight", "outcomeOf", "(IIIII)I"⟩, 6) := ⟨⟨by decide +kernel, by decide +kernel⟩, List.mem_of_getElem? (i := 241) (by decide +kernel), List.mem_of_getElem? (i := 726) (by decide +kernel), List.mem_of_getElem? (i := 727) (by decide +kernel)⟩
theorem lw_p25 : lw_okq (⟨"AvalancheVote$Foresight", "bestOutcome", "(IIII)I"⟩, 6) := ⟨⟨by decide +kernel, by decide +kernel⟩, List.mem_of_getElem? (i := 241) (by decide +kernel), List.mem_of_getElem? (i := 734) (by decide +kernel), List.mem_of_getElem? (i := 735) (by decide +kernel)⟩
theorem lw_p26 : lw_okq (⟨"AvalancheVote$Foresight", "partsFrom", "(IIII)J"⟩, 6) := ⟨⟨by decide +kernel, by decide +kernel⟩, List.mem_of_getElem? (i := 241) (by decide +kernel), List.mem_of_getElem? (i := 790) (by decide +kernel), List.mem_of_getElem? (i := 791) (by decide +kernel)⟩
theorem lw_p27 : lw_okq (⟨"AvalancheVote", "howMany", "(I)I"⟩, 11) := ⟨⟨by decide +kernel, by decide +kernel⟩, List.mem_of_getElem? (i := 23) (by decide +kernel), List.mem_of_getElem? (i := 840) (by decide +kernel), List.mem_of_getElem? (i := 841) (by decide +kernel)⟩
theorem lw_p28 : lw_okq (⟨"AvalancheVoteModel", "ledges", "()I"⟩, 29) := ⟨⟨by decide +kernel, by decide +kernel⟩, List.mem_of_getElem? (i := 856) (by decide +kernel), List.mem_of_getElem? (i := 958) (by decide +kernel), List.mem_of_getElem? (i := 959) (by decide +kernel)⟩
theorem lw_p29 : lw_okq (⟨"AvalancheVoteModel", "bad", "(I)I"⟩, 29) := ⟨⟨by decide +kernel, by decide +kernel⟩, List.mem_of_getElem? (i := 856) (by decide +kernel), List.mem_of_getElem? (i := 972) (by decide +kernel), List.mem_of_getElem? (i := 973) (by decide +kernel)⟩
theorem lw_p30 : lw_okq (⟨"AvalancheVoteModel", "full", "()I"⟩, 29) := ⟨⟨by decide +kernel, by decide +kernel⟩, List.mem_of_getElem? (i := 856) (by decide +kernel), List.mem_of_getElem? (i := 976) (by decide +kernel), List.mem_of_getElem? (i := 977) (by decide +kernel)⟩
theorem lw_p31 : lw_okq (⟨"AvalancheVoteModel", "isLedge", "(I)Z"⟩, 29) := ⟨⟨by decide +kernel, by decide +kernel⟩, List.mem_of_getElem? (i := 856) (by decide +kernel), List.mem_of_getElem? (i := 988) (by decide +kernel), List.mem_of_getElem? (i := 989) (by decide +kernel)⟩
def lw_privs_2 : List (MethodName × Nat) := [(⟨"AvalancheVote", "heftAs", "(II)I"⟩, 11), (⟨"AvalancheVote$Foresight", "fresh", "()LAvalancheVote$Slope;"⟩, 6), (⟨"AvalancheVote$Foresight", "countOrders", "(III)V"⟩, 6), (⟨"AvalancheVote$Foresight", "isDeepest", "(I)Z"⟩, 6), (⟨"AvalancheVote$Foresight", "fillOrder", "(II)V"⟩, 6), (⟨"AvalancheVote$Foresight", "fallsBy", "(IIIII)Z"⟩, 6), (⟨"AvalancheVote$Foresight", "afterStone", "(II)LAvalancheVote$Slope;"⟩, 6), (⟨"AvalancheVote$Foresight", "fallsWithin", "(IIII)Z"⟩, 6), (⟨"AvalancheVote$Foresight", "outcomeOf", "(IIIII)I"⟩, 6), (⟨"AvalancheVote$Foresight", "bestOutcome", "(IIII)I"⟩, 6), (⟨"AvalancheVote$Foresight", "partsFrom", "(IIII)J"⟩, 6), (⟨"AvalancheVote", "howMany", "(I)I"⟩, 11), (⟨"AvalancheVoteModel", "ledges", "()I"⟩, 29), (⟨"AvalancheVoteModel", "bad", "(I)I"⟩, 29), (⟨"AvalancheVoteModel", "full", "()I"⟩, 29), (⟨"AvalancheVoteModel", "isLedge", "(I)Z"⟩, 29)]
theorem lw_r2 : ∀ q ∈ lw_privs_2, lw_okq q := List.forall_mem_cons.mpr ⟨lw_p16, List.forall_mem_cons.mpr ⟨lw_p17, List.forall_mem_cons.mpr ⟨lw_p18, List.forall_mem_cons.mpr ⟨lw_p19, List.forall_mem_cons.mpr ⟨lw_p20, List.forall_mem_cons.mpr ⟨lw_p21, List.forall_mem_cons.mpr ⟨lw_p22, List.forall_mem_cons.mpr ⟨lw_p23, List.forall_mem_cons.mpr ⟨lw_p24, List.forall_mem_cons.mpr ⟨lw_p25, List.forall_mem_cons.mpr ⟨lw_p26, List.forall_mem_cons.mpr ⟨lw_p27, List.forall_mem_cons.mpr ⟨lw_p28, List.forall_mem_cons.mpr ⟨lw_p29, List.forall_mem_cons.mpr ⟨lw_p30, List.forall_mem_cons.mpr ⟨lw_p31, fun _ h => absurd h List.not_mem_nil⟩⟩⟩⟩⟩⟩⟩⟩⟩⟩⟩⟩⟩⟩⟩⟩
theorem lw_p32 : lw_okq (⟨"AvalancheVoteModel", "voters", "()I"⟩, 29) := ⟨⟨by decide +kernel, by decide +kernel⟩, List.mem_of_getElem? (i := 856) (by decide +kernel), List.mem_of_getElem? (i := 993) (by decide +kernel), List.mem_of_getElem? (i := 994) (by decide +kernel)⟩
theorem lw_p33 : lw_okq (⟨"AvalancheVoteModel", "isVoter", "(I)Z"⟩, 29) := ⟨⟨by decide +kernel, by decide +kernel⟩, List.mem_of_getElem? (i := 856) (by decide +kernel), List.mem_of_getElem? (i := 1004) (by decide +kernel), List.mem_of_getElem? (i := 1005) (by decide +kernel)⟩
theorem lw_p34 : lw_okq (⟨"AvalancheVoteModel", "keep", "()V"⟩, 29) := ⟨⟨by decide +kernel, by decide +kernel⟩, List.mem_of_getElem? (i := 856) (by decide +kernel), List.mem_of_getElem? (i := 1008) (by decide +kernel), List.mem_of_getElem? (i := 1009) (by decide +kernel)⟩
theorem lw_p35 : lw_okq (⟨"AvalancheVoteModel", "get", "(II)I"⟩, 29) := ⟨⟨by decide +kernel, by decide +kernel⟩, List.mem_of_getElem? (i := 856) (by decide +kernel), List.mem_of_getElem? (i := 1012) (by decide +kernel), List.mem_of_getElem? (i := 1013) (by decide +kernel)⟩
theorem lw_p36 : lw_okq (⟨"AvalancheVoteModel", "layHand", "()V"⟩, 29) := ⟨⟨by decide +kernel, by decide +kernel⟩, List.mem_of_getElem? (i := 856) (by decide +kernel), List.mem_of_getElem? (i := 1016) (by decide +kernel), List.mem_of_getElem? (i := 1017) (by decide +kernel)⟩
theorem lw_p37 : lw_okq (⟨"AvalancheVoteModel", "goVote", "(I)I"⟩, 29) := ⟨⟨by decide +kernel, by decide +kernel⟩, List.mem_of_getElem? (i := 856) (by decide +kernel), List.mem_of_getElem? (i := 1020) (by decide +kernel), List.mem_of_getElem? (i := 1021) (by decide +kernel)⟩
theorem lw_p38 : lw_okq (⟨"AvalancheVoteModel", "whereBy", "(I)I"⟩, 29) := ⟨⟨by decide +kernel, by decide +kernel⟩, List.mem_of_getElem? (i := 856) (by decide +kernel), List.mem_of_getElem? (i := 1024) (by decide +kernel), List.mem_of_getElem? (i := 1025) (by decide +kernel)⟩
theorem lw_p39 : lw_okq (⟨"AvalancheVoteModel", "tells", "(II)I"⟩, 29) := ⟨⟨by decide +kernel, by decide +kernel⟩, List.mem_of_getElem? (i := 856) (by decide +kernel), List.mem_of_getElem? (i := 1028) (by decide +kernel), List.mem_of_getElem? (i := 1029) (by decide +kernel)⟩
theorem lw_p40 : lw_okq (⟨"AvalancheVoteModel", "where", "(III)I"⟩, 29) := ⟨⟨by decide +kernel, by decide +kernel⟩, List.mem_of_getElem? (i := 856) (by decide +kernel), List.mem_of_getElem? (i := 1032) (by decide +kernel), List.mem_of_getElem? (i := 1033) (by decide +kernel)⟩
theorem lw_p41 : lw_okq (⟨"AvalancheVoteModel", "load", "(I)I"⟩, 29) := ⟨⟨by decide +kernel, by decide +kernel⟩, List.mem_of_getElem? (i := 856) (by decide +kernel), List.mem_of_getElem? (i := 1036) (by decide +kernel), List.mem_of_getElem? (i := 1037) (by decide +kernel)⟩
theorem lw_p42 : lw_okq (⟨"AvalancheVoteModel", "heavy", "(II)I"⟩, 29) := ⟨⟨by decide +kernel, by decide +kernel⟩, List.mem_of_getElem? (i := 856) (by decide +kernel), List.mem_of_getElem? (i := 1040) (by decide +kernel), List.mem_of_getElem? (i := 1041) (by decide +kernel)⟩
theorem lw_p43 : lw_okq (⟨"AvalancheVoteModel", "byLoad", "(Z)I"⟩, 29) := ⟨⟨by decide +kernel, by decide +kernel⟩, List.mem_of_getElem? (i := 856) (by decide +kernel), List.mem_of_getElem? (i := 1044) (by decide +kernel), List.mem_of_getElem? (i := 1045) (by decide +kernel)⟩
theorem lw_p44 : lw_okq (⟨"AvalancheVoteModel", "heavyBy", "(I)I"⟩, 29) := ⟨⟨by decide +kernel, by decide +kernel⟩, List.mem_of_getElem? (i := 856) (by decide +kernel), List.mem_of_getElem? (i := 1048) (by decide +kernel), List.mem_of_getElem? (i := 1049) (by decide +kernel)⟩
theorem lw_p45 : lw_okq (⟨"AvalancheVoteModel", "goStone", "(II)I"⟩, 29) := ⟨⟨by decide +kernel, by decide +kernel⟩, List.mem_of_getElem? (i := 856) (by decide +kernel), List.mem_of_getElem? (i := 1052) (by decide +kernel), List.mem_of_getElem? (i := 1053) (by decide +kernel)⟩
theorem lw_p46 : lw_okq (⟨"AvalancheVoteModel", "comesDown", "()I"⟩, 29) := ⟨⟨by decide +kernel, by decide +kernel⟩, List.mem_of_getElem? (i := 856) (by decide +kernel), List.mem_of_getElem? (i := 1056) (by decide +kernel), List.mem_of_getElem? (i := 1057) (by decide +kernel)⟩
theorem lw_p47 : lw_okq (⟨"AvalancheVoteModel", "firstOver", "()I"⟩, 29) := ⟨⟨by decide +kernel, by decide +kernel⟩, List.mem_of_getElem? (i := 856) (by decide +kernel), List.mem_of_getElem? (i := 1060) (by decide +kernel), List.mem_of_getElem? (i := 1061) (by decide +kernel)⟩
def lw_privs_3 : List (MethodName × Nat) := [(⟨"AvalancheVoteModel", "voters", "()I"⟩, 29), (⟨"AvalancheVoteModel", "isVoter", "(I)Z"⟩, 29), (⟨"AvalancheVoteModel", "keep", "()V"⟩, 29), (⟨"AvalancheVoteModel", "get", "(II)I"⟩, 29), (⟨"AvalancheVoteModel", "layHand", "()V"⟩, 29), (⟨"AvalancheVoteModel", "goVote", "(I)I"⟩, 29), (⟨"AvalancheVoteModel", "whereBy", "(I)I"⟩, 29), (⟨"AvalancheVoteModel", "tells", "(II)I"⟩, 29), (⟨"AvalancheVoteModel", "where", "(III)I"⟩, 29), (⟨"AvalancheVoteModel", "load", "(I)I"⟩, 29), (⟨"AvalancheVoteModel", "heavy", "(II)I"⟩, 29), (⟨"AvalancheVoteModel", "byLoad", "(Z)I"⟩, 29), (⟨"AvalancheVoteModel", "heavyBy", "(I)I"⟩, 29), (⟨"AvalancheVoteModel", "goStone", "(II)I"⟩, 29), (⟨"AvalancheVoteModel", "comesDown", "()I"⟩, 29), (⟨"AvalancheVoteModel", "firstOver", "()I"⟩, 29)]
theorem lw_r3 : ∀ q ∈ lw_privs_3, lw_okq q := List.forall_mem_cons.mpr ⟨lw_p32, List.forall_mem_cons.mpr ⟨lw_p33, List.forall_mem_cons.mpr ⟨lw_p34, List.forall_mem_cons.mpr ⟨lw_p35, List.forall_mem_cons.mpr ⟨lw_p36, List.forall_mem_cons.mpr ⟨lw_p37, List.forall_mem_cons.mpr ⟨lw_p38, List.forall_mem_cons.mpr ⟨lw_p39, List.forall_mem_cons.mpr ⟨lw_p40, List.forall_mem_cons.mpr ⟨lw_p41, List.forall_mem_cons.mpr ⟨lw_p42, List.forall_mem_cons.mpr ⟨lw_p43, List.forall_mem_cons.mpr ⟨lw_p44, List.forall_mem_cons.mpr ⟨lw_p45, List.forall_mem_cons.mpr ⟨lw_p46, List.forall_mem_cons.mpr ⟨lw_p47, fun _ h => absurd h List.not_mem_nil⟩⟩⟩⟩⟩⟩⟩⟩⟩⟩⟩⟩⟩⟩⟩⟩
theorem lw_p48 : lw_okq (⟨"AvalancheVoteModel", "layNow", "()V"⟩, 29) := ⟨⟨by decide +kernel, by decide +kernel⟩, List.mem_of_getElem? (i := 856) (by decide +kernel), List.mem_of_getElem? (i := 1064) (by decide +kernel), List.mem_of_getElem? (i := 1065) (by decide +kernel)⟩
theorem lw_p49 : lw_okq (⟨"AvalancheVoteModel", "goNight", "(I)I"⟩, 29) := ⟨⟨by decide +kernel, by decide +kernel⟩, List.mem_of_getElem? (i := 856) (by decide +kernel), List.mem_of_getElem? (i := 1072) (by decide +kernel), List.mem_of_getElem? (i := 1073) (by decide +kernel)⟩
theorem lw_p50 : lw_okq (⟨"AvalancheVoteModel", "no", "()I"⟩, 29) := ⟨⟨by decide +kernel, by decide +kernel⟩, List.mem_of_getElem? (i := 856) (by decide +kernel), List.mem_of_getElem? (i := 1080) (by decide +kernel), List.mem_of_getElem? (i := 1081) (by decide +kernel)⟩
theorem lw_p51 : lw_okq (⟨"AvalancheVoteModel", "layRow", "(III)V"⟩, 29) := ⟨⟨by decide +kernel, by decide +kernel⟩, List.mem_of_getElem? (i := 856) (by decide +kernel), List.mem_of_getElem? (i := 1113) (by decide +kernel), List.mem_of_getElem? (i := 1114) (by decide +kernel)⟩
theorem lw_p52 : lw_okq (⟨"AvalancheVoteModel", "areUnlike", "()Z"⟩, 29) := ⟨⟨by decide +kernel, by decide +kernel⟩, List.mem_of_getElem? (i := 856) (by decide +kernel), List.mem_of_getElem? (i := 1117) (by decide +kernel), List.mem_of_getElem? (i := 1118) (by decide +kernel)⟩
theorem lw_p53 : lw_okq (⟨"AvalancheVoteModel", "layParties", "(III)I"⟩, 29) := ⟨⟨by decide +kernel, by decide +kernel⟩, List.mem_of_getElem? (i := 856) (by decide +kernel), List.mem_of_getElem? (i := 1138) (by decide +kernel), List.mem_of_getElem? (i := 1139) (by decide +kernel)⟩
theorem lw_p54 : lw_okq (⟨"AvalancheVoteModel", "layTurn", "(I)V"⟩, 29) := ⟨⟨by decide +kernel, by decide +kernel⟩, List.mem_of_getElem? (i := 856) (by decide +kernel), List.mem_of_getElem? (i := 1142) (by decide +kernel), List.mem_of_getElem? (i := 1143) (by decide +kernel)⟩
theorem lw_p55 : lw_okq (⟨"AvalancheVoteModel", "backTo", "(I)V"⟩, 29) := ⟨⟨by decide +kernel, by decide +kernel⟩, List.mem_of_getElem? (i := 856) (by decide +kernel), List.mem_of_getElem? (i := 1146) (by decide +kernel), List.mem_of_getElem? (i := 1147) (by decide +kernel)⟩
theorem lw_p56 : lw_okq (⟨"AvalancheVoteModel", "judge", "(II)V"⟩, 29) := ⟨⟨by decide +kernel, by decide +kernel⟩, List.mem_of_getElem? (i := 856) (by decide +kernel), List.mem_of_getElem? (i := 1150) (by decide +kernel), List.mem_of_getElem? (i := 1151) (by decide +kernel)⟩
theorem lw_p57 : lw_okq (⟨"AvalancheVoteModel", "goParty", "(III)V"⟩, 29) := ⟨⟨by decide +kernel, by decide +kernel⟩, List.mem_of_getElem? (i := 856) (by decide +kernel), List.mem_of_getElem? (i := 1154) (by decide +kernel), List.mem_of_getElem? (i := 1155) (by decide +kernel)⟩
theorem lw_p58 : lw_okq (⟨"AvalancheVoteModel", "manyFrom", "(I)I"⟩, 29) := ⟨⟨by decide +kernel, by decide +kernel⟩, List.mem_of_getElem? (i := 856) (by decide +kernel), List.mem_of_getElem? (i := 1171) (by decide +kernel), List.mem_of_getElem? (i := 1172) (by decide +kernel)⟩
theorem lw_p59 : lw_okq (⟨"AvalancheVoteModel", "canHold", "(I)Z"⟩, 29) := ⟨⟨by decide +kernel, by decide +kernel⟩, List.mem_of_getElem? (i := 856) (by decide +kernel), List.mem_of_getElem? (i := 1175) (by decide +kernel), List.mem_of_getElem? (i := 1176) (by decide +kernel)⟩
theorem lw_p60 : lw_okq (⟨"AvalancheVoteModel", "leastHold", "()I"⟩, 29) := ⟨⟨by decide +kernel, by decide +kernel⟩, List.mem_of_getElem? (i := 856) (by decide +kernel), List.mem_of_getElem? (i := 1179) (by decide +kernel), List.mem_of_getElem? (i := 1180) (by decide +kernel)⟩
theorem lw_p61 : lw_okq (⟨"AvalancheVoteModel", "fraction", "(JJ)V"⟩, 29) := ⟨⟨by decide +kernel, by decide +kernel⟩, List.mem_of_getElem? (i := 856) (by decide +kernel), List.mem_of_getElem? (i := 1200) (by decide +kernel), List.mem_of_getElem? (i := 1201) (by decide +kernel)⟩
theorem lw_p62 : lw_okq (⟨"AvalancheVoteModel", "lookAt", "(I)V"⟩, 29) := ⟨⟨by decide +kernel, by decide +kernel⟩, List.mem_of_getElem? (i := 856) (by decide +kernel), List.mem_of_getElem? (i := 1226) (by decide +kernel), List.mem_of_getElem? (i := 1227) (by decide +kernel)⟩
theorem lw_p63 : lw_okq (⟨"AvalancheVoteModel", "isWord", "(IIIIIIII)Z"⟩, 29) := ⟨⟨by decide +kernel, by decide +kernel⟩, List.mem_of_getElem? (i := 856) (by decide +kernel), List.mem_of_getElem? (i := 1240) (by decide +kernel), List.mem_of_getElem? (i := 1241) (by decide +kernel)⟩
def lw_privs_4 : List (MethodName × Nat) := [(⟨"AvalancheVoteModel", "layNow", "()V"⟩, 29), (⟨"AvalancheVoteModel", "goNight", "(I)I"⟩, 29), (⟨"AvalancheVoteModel", "no", "()I"⟩, 29), (⟨"AvalancheVoteModel", "layRow", "(III)V"⟩, 29), (⟨"AvalancheVoteModel", "areUnlike", "()Z"⟩, 29), (⟨"AvalancheVoteModel", "layParties", "(III)I"⟩, 29), (⟨"AvalancheVoteModel", "layTurn", "(I)V"⟩, 29), (⟨"AvalancheVoteModel", "backTo", "(I)V"⟩, 29), (⟨"AvalancheVoteModel", "judge", "(II)V"⟩, 29), (⟨"AvalancheVoteModel", "goParty", "(III)V"⟩, 29), (⟨"AvalancheVoteModel", "manyFrom", "(I)I"⟩, 29), (⟨"AvalancheVoteModel", "canHold", "(I)Z"⟩, 29), (⟨"AvalancheVoteModel", "leastHold", "()I"⟩, 29), (⟨"AvalancheVoteModel", "fraction", "(JJ)V"⟩, 29), (⟨"AvalancheVoteModel", "lookAt", "(I)V"⟩, 29), (⟨"AvalancheVoteModel", "isWord", "(IIIIIIII)Z"⟩, 29)]
theorem lw_r4 : ∀ q ∈ lw_privs_4, lw_okq q := List.forall_mem_cons.mpr ⟨lw_p48, List.forall_mem_cons.mpr ⟨lw_p49, List.forall_mem_cons.mpr ⟨lw_p50, List.forall_mem_cons.mpr ⟨lw_p51, List.forall_mem_cons.mpr ⟨lw_p52, List.forall_mem_cons.mpr ⟨lw_p53, List.forall_mem_cons.mpr ⟨lw_p54, List.forall_mem_cons.mpr ⟨lw_p55, List.forall_mem_cons.mpr ⟨lw_p56, List.forall_mem_cons.mpr ⟨lw_p57, List.forall_mem_cons.mpr ⟨lw_p58, List.forall_mem_cons.mpr ⟨lw_p59, List.forall_mem_cons.mpr ⟨lw_p60, List.forall_mem_cons.mpr ⟨lw_p61, List.forall_mem_cons.mpr ⟨lw_p62, List.forall_mem_cons.mpr ⟨lw_p63, fun _ h => absurd h List.not_mem_nil⟩⟩⟩⟩⟩⟩⟩⟩⟩⟩⟩⟩⟩⟩⟩⟩
theorem lw_p64 : lw_okq (⟨"AvalancheVoteModel", "goBehind", "()V"⟩, 29) := ⟨⟨by decide +kernel, by decide +kernel⟩, List.mem_of_getElem? (i := 856) (by decide +kernel), List.mem_of_getElem? (i := 1244) (by decide +kernel), List.mem_of_getElem? (i := 1245) (by decide +kernel)⟩
theorem lw_p65 : lw_okq (⟨"AvalancheVoteModel", "takesItem", "()Z"⟩, 29) := ⟨⟨by decide +kernel, by decide +kernel⟩, List.mem_of_getElem? (i := 856) (by decide +kernel), List.mem_of_getElem? (i := 1248) (by decide +kernel), List.mem_of_getElem? (i := 1249) (by decide +kernel)⟩
theorem lw_p66 : lw_okq (⟨"AvalancheVoteModel", "takesLedge", "(Z)Z"⟩, 29) := ⟨⟨by decide +kernel, by decide +kernel⟩, List.mem_of_getElem? (i := 856) (by decide +kernel), List.mem_of_getElem? (i := 1252) (by decide +kernel), List.mem_of_getElem? (i := 1253) (by decide +kernel)⟩
theorem lw_p67 : lw_okq (⟨"AvalancheVoteModel", "takes", "(III)Z"⟩, 29) := ⟨⟨by decide +kernel, by decide +kernel⟩, List.mem_of_getElem? (i := 856) (by decide +kernel), List.mem_of_getElem? (i := 1256) (by decide +kernel), List.mem_of_getElem? (i := 1257) (by decide +kernel)⟩
theorem lw_p68 : lw_okq (⟨"AvalancheVoteModel", "takesVoter", "()Z"⟩, 29) := ⟨⟨by decide +kernel, by decide +kernel⟩, List.mem_of_getElem? (i := 856) (by decide +kernel), List.mem_of_getElem? (i := 1260) (by decide +kernel), List.mem_of_getElem? (i := 1261) (by decide +kernel)⟩
theorem lw_p69 : lw_okq (⟨"AvalancheVoteModel", "counted", "(I)I"⟩, 29) := ⟨⟨by decide +kernel, by decide +kernel⟩, List.mem_of_getElem? (i := 856) (by decide +kernel), List.mem_of_getElem? (i := 1286) (by decide +kernel), List.mem_of_getElem? (i := 1287) (by decide +kernel)⟩
theorem lw_p70 : lw_okq (⟨"AvalancheVoteModel", "allLoads", "()I"⟩, 29) := ⟨⟨by decide +kernel, by decide +kernel⟩, List.mem_of_getElem? (i := 856) (by decide +kernel), List.mem_of_getElem? (i := 1290) (by decide +kernel), List.mem_of_getElem? (i := 1291) (by decide +kernel)⟩
theorem lw_p71 : lw_okq (⟨"AvalancheVoteModel", "sums", "(JII)J"⟩, 29) := ⟨⟨by decide +kernel, by decide +kernel⟩, List.mem_of_getElem? (i := 856) (by decide +kernel), List.mem_of_getElem? (i := 1300) (by decide +kernel), List.mem_of_getElem? (i := 1301) (by decide +kernel)⟩
def lw_privs_5 : List (MethodName × Nat) := [(⟨"AvalancheVoteModel", "goBehind", "()V"⟩, 29), (⟨"AvalancheVoteModel", "takesItem", "()Z"⟩, 29), (⟨"AvalancheVoteModel", "takesLedge", "(Z)Z"⟩, 29), (⟨"AvalancheVoteModel", "takes", "(III)Z"⟩, 29), (⟨"AvalancheVoteModel", "takesVoter", "()Z"⟩, 29), (⟨"AvalancheVoteModel", "counted", "(I)I"⟩, 29), (⟨"AvalancheVoteModel", "allLoads", "()I"⟩, 29), (⟨"AvalancheVoteModel", "sums", "(JII)J"⟩, 29)]
theorem lw_r5 : ∀ q ∈ lw_privs_5, lw_okq q := List.forall_mem_cons.mpr ⟨lw_p64, List.forall_mem_cons.mpr ⟨lw_p65, List.forall_mem_cons.mpr ⟨lw_p66, List.forall_mem_cons.mpr ⟨lw_p67, List.forall_mem_cons.mpr ⟨lw_p68, List.forall_mem_cons.mpr ⟨lw_p69, List.forall_mem_cons.mpr ⟨lw_p70, List.forall_mem_cons.mpr ⟨lw_p71, fun _ h => absurd h List.not_mem_nil⟩⟩⟩⟩⟩⟩⟩⟩
def lw_privs : List (MethodName × Nat) := lw_privs_1 ++ (lw_privs_2 ++ (lw_privs_3 ++ (lw_privs_4 ++ (lw_privs_5))))
def lw_tbl : List Cond := k2_sels lw_privs ++ tables_1
theorem lw_privs_ok : ∀ q ∈ lw_privs, lw_okq q := by
  show ∀ q ∈ lw_privs_1 ++ (lw_privs_2 ++ (lw_privs_3 ++ (lw_privs_4 ++ (lw_privs_5)))), lw_okq q
  exact List.forall_mem_append.mpr ⟨lw_r1, List.forall_mem_append.mpr ⟨lw_r2, List.forall_mem_append.mpr ⟨lw_r3, List.forall_mem_append.mpr ⟨lw_r4, lw_r5⟩⟩⟩⟩
end
section
def RX0 : String := "AvalancheVote$Cautious"
def TX0 : u_T := fun k => match k with
  | _ => ("", "", "", false)
def tyX0 : Nat → FieldType := fun k => match k with
  | _ => .int
theorem nmX0 : ∀ a, a < 0 → ∀ b, b < 0 → a ≠ b → (TX0 a).2.1 ≠ (TX0 b).2.1 := by decide +kernel
theorem tyX0_ok : ∀ k, k < 0 → parseFieldDescriptor (TX0 k).2.2.1 = some (tyX0 k) := by decide +kernel
abbrev cX0_init : ByteArray := prog_2_method_1_code
def yX0_init : MethodName := ⟨RX0, "<init>", "()V"⟩
abbrev cX0_place : ByteArray := prog_2_method_2_code
def yX0_place : MethodName := ⟨RX0, "place", "(LAvalancheVote$Slope;II)I"⟩
def RX1 : String := "AvalancheVote$Foresight"
def TX1 : u_T := fun k => match k with
  | 0 => ("AvalancheVote$Foresight", "told", "LAvalancheVote$Told;", true)
  | 1 => ("AvalancheVote$Foresight", "real", "LAvalancheVote$Slope;", true)
  | 2 => ("AvalancheVote$Foresight", "rows", "[LAvalancheVote$Slope;", true)
  | 3 => ("AvalancheVote$Foresight", "order", "[I", true)
  | 4 => ("AvalancheVote$Foresight", "won", "I", false)
  | _ => ("AvalancheVote$Foresight", "firstLedge", "I", false)
def tyX1 : Nat → FieldType := fun k => match k with
  | 0 => .object "AvalancheVote$Told"
  | 1 => .object "AvalancheVote$Slope"
  | 2 => .array (.object "AvalancheVote$Slope")
  | 3 => .array .int
  | 4 => .int
  | _ => .int
theorem nmX1 : ∀ a, a < 6 → ∀ b, b < 6 → a ≠ b → (TX1 a).2.1 ≠ (TX1 b).2.1 := by decide +kernel
theorem tyX1_ok : ∀ k, k < 6 → parseFieldDescriptor (TX1 k).2.2.1 = some (tyX1 k) := by decide +kernel
abbrev cX1_init : ByteArray := prog_3_method_1_code
def yX1_init : MethodName := ⟨RX1, "<init>", "(LAvalancheVote$State;)V"⟩
abbrev cX1_fresh : ByteArray := prog_3_method_2_code
def yX1_fresh : MethodName := ⟨RX1, "fresh", "()LAvalancheVote$Slope;"⟩
abbrev cX1_isDeepest : ByteArray := prog_3_method_3_code
def yX1_isDeepest : MethodName := ⟨RX1, "isDeepest", "(I)Z"⟩
abbrev cX1_afterFebruary : ByteArray := prog_3_method_4_code
def yX1_afterFebruary : MethodName := ⟨RX1, "afterFebruary", "()LAvalancheVote$Slope;"⟩
abbrev cX1_ordersWon : ByteArray := prog_3_method_5_code
def yX1_ordersWon : MethodName := ⟨RX1, "ordersWon", "(I)I"⟩
abbrev cX1_countOrders : ByteArray := prog_3_method_6_code
def yX1_countOrders : MethodName := ⟨RX1, "countOrders", "(III)V"⟩
abbrev cX1_fillOrder : ByteArray := prog_3_method_7_code
def yX1_fillOrder : MethodName := ⟨RX1, "fillOrder", "(II)V"⟩
abbrev cX1_ordersOf : ByteArray := prog_3_method_8_code
def yX1_ordersOf : MethodName := ⟨RX1, "ordersOf", "(I)I"⟩
abbrev cX1_fewestStones : ByteArray := prog_3_method_9_code
def yX1_fewestStones : MethodName := ⟨RX1, "fewestStones", "(I)I"⟩
abbrev cX1_fallsBy : ByteArray := prog_3_method_10_code
def yX1_fallsBy : MethodName := ⟨RX1, "fallsBy", "(IIIII)Z"⟩
abbrev cX1_fallsWithin : ByteArray := prog_3_method_11_code
def yX1_fallsWithin : MethodName := ⟨RX1, "fallsWithin", "(IIII)Z"⟩
abbrev cX1_afterStone : ByteArray := prog_3_method_12_code
def yX1_afterStone : MethodName := ⟨RX1, "afterStone", "(II)LAvalancheVote$Slope;"⟩
abbrev cX1_buriedBy : ByteArray := prog_3_method_13_code
def yX1_buriedBy : MethodName := ⟨RX1, "buriedBy", "(II)I"⟩
abbrev cX1_nightsTill : ByteArray := prog_3_method_14_code
def yX1_nightsTill : MethodName := ⟨RX1, "nightsTill", "(II)I"⟩
abbrev cX1_play : ByteArray := prog_3_method_15_code
def yX1_play : MethodName := ⟨RX1, "play", "(III)I"⟩
abbrev cX1_outcomeOf : ByteArray := prog_3_method_16_code
def yX1_outcomeOf : MethodName := ⟨RX1, "outcomeOf", "(IIIII)I"⟩
abbrev cX1_bestOutcome : ByteArray := prog_3_method_17_code
def yX1_bestOutcome : MethodName := ⟨RX1, "bestOutcome", "(IIII)I"⟩
abbrev cX1_partsWon : ByteArray := prog_3_method_18_code
def yX1_partsWon : MethodName := ⟨RX1, "partsWon", "(II)J"⟩
abbrev cX1_partsFrom : ByteArray := prog_3_method_19_code
def yX1_partsFrom : MethodName := ⟨RX1, "partsFrom", "(IIII)J"⟩
abbrev cX1_loadAfter : ByteArray := prog_3_method_20_code
def yX1_loadAfter : MethodName := ⟨RX1, "loadAfter", "(II)I"⟩
def RX2 : String := "AvalancheVote$Goat"
def TX2 : u_T := fun k => match k with
  | _ => ("", "", "", false)
def tyX2 : Nat → FieldType := fun k => match k with
  | _ => .int
theorem nmX2 : ∀ a, a < 0 → ∀ b, b < 0 → a ≠ b → (TX2 a).2.1 ≠ (TX2 b).2.1 := by decide +kernel
theorem tyX2_ok : ∀ k, k < 0 → parseFieldDescriptor (TX2 k).2.2.1 = some (tyX2 k) := by decide +kernel
abbrev cX2_init : ByteArray := prog_4_method_1_code
def yX2_init : MethodName := ⟨RX2, "<init>", "()V"⟩
abbrev cX2_place : ByteArray := prog_4_method_2_code
def yX2_place : MethodName := ⟨RX2, "place", "(LAvalancheVote$Slope;II)I"⟩
def RX3 : String := "AvalancheVote$Loud"
def TX3 : u_T := fun k => match k with
  | _ => ("", "", "", false)
def tyX3 : Nat → FieldType := fun k => match k with
  | _ => .int
theorem nmX3 : ∀ a, a < 0 → ∀ b, b < 0 → a ≠ b → (TX3 a).2.1 ≠ (TX3 b).2.1 := by decide +kernel
theorem tyX3_ok : ∀ k, k < 0 → parseFieldDescriptor (TX3 k).2.2.1 = some (tyX3 k) := by decide +kernel
abbrev cX3_init : ByteArray := prog_5_method_1_code
def yX3_init : MethodName := ⟨RX3, "<init>", "()V"⟩
abbrev cX3_heft : ByteArray := prog_5_method_2_code
def yX3_heft : MethodName := ⟨RX3, "heft", "(I)I"⟩
def RX4 : String := "AvalancheVote$Plain"
def TX4 : u_T := fun k => match k with
  | _ => ("", "", "", false)
def tyX4 : Nat → FieldType := fun k => match k with
  | _ => .int
theorem nmX4 : ∀ a, a < 0 → ∀ b, b < 0 → a ≠ b → (TX4 a).2.1 ≠ (TX4 b).2.1 := by decide +kernel
theorem tyX4_ok : ∀ k, k < 0 → parseFieldDescriptor (TX4 k).2.2.1 = some (tyX4 k) := by decide +kernel
abbrev cX4_init : ByteArray := prog_6_method_1_code
def yX4_init : MethodName := ⟨RX4, "<init>", "()V"⟩
abbrev cX4_heft : ByteArray := prog_6_method_2_code
def yX4_heft : MethodName := ⟨RX4, "heft", "(I)I"⟩
abbrev cX4_place : ByteArray := prog_6_method_3_code
def yX4_place : MethodName := ⟨RX4, "place", "(LAvalancheVote$Slope;II)I"⟩
def RX5 : String := "AvalancheVote$Reader"
def TX5 : u_T := fun k => match k with
  | 0 => ("AvalancheVote$Reader", "text", "[B", true)
  | 1 => ("AvalancheVote$Reader", "length", "I", false)
  | 2 => ("AvalancheVote$Reader", "at", "I", false)
  | 3 => ("AvalancheVote$Reader", "start", "I", false)
  | _ => ("AvalancheVote$Reader", "fault", "I", false)
def tyX5 : Nat → FieldType := fun k => match k with
  | 0 => .array .byte
  | 1 => .int
  | 2 => .int
  | 3 => .int
  | _ => .int
theorem nmX5 : ∀ a, a < 5 → ∀ b, b < 5 → a ≠ b → (TX5 a).2.1 ≠ (TX5 b).2.1 := by decide +kernel
theorem tyX5_ok : ∀ k, k < 5 → parseFieldDescriptor (TX5 k).2.2.1 = some (tyX5 k) := by decide +kernel
abbrev cX5_init : ByteArray := prog_7_method_1_code
def yX5_init : MethodName := ⟨RX5, "<init>", "()V"⟩
abbrev cX5_append : ByteArray := prog_7_method_2_code
def yX5_append : MethodName := ⟨RX5, "append", "(I)V"⟩
abbrev cX5_readInto : ByteArray := prog_7_method_3_code
def yX5_readInto : MethodName := ⟨RX5, "readInto", "(LAvalancheVote$State;)I"⟩
abbrev cX5_readItem : ByteArray := prog_7_method_4_code
def yX5_readItem : MethodName := ⟨RX5, "readItem", "(LAvalancheVote$State;Z)V"⟩
abbrev cX5_readLedge : ByteArray := prog_7_method_5_code
def yX5_readLedge : MethodName := ⟨RX5, "readLedge", "(LAvalancheVote$State;Z)V"⟩
abbrev cX5_readVoter : ByteArray := prog_7_method_6_code
def yX5_readVoter : MethodName := ⟨RX5, "readVoter", "(LAvalancheVote$State;)V"⟩
abbrev cX5_takeWord : ByteArray := prog_7_method_7_code
def yX5_takeWord : MethodName := ⟨RX5, "takeWord", "()V"⟩
abbrev cX5_wordIs : ByteArray := prog_7_method_8_code
def yX5_wordIs : MethodName := ⟨RX5, "wordIs", "(Ljava/lang/String;)Z"⟩
abbrev cX5_takeNumber : ByteArray := prog_7_method_9_code
def yX5_takeNumber : MethodName := ⟨RX5, "takeNumber", "(II)I"⟩
abbrev cX5_takeEnd : ByteArray := prog_7_method_10_code
def yX5_takeEnd : MethodName := ⟨RX5, "takeEnd", "()V"⟩
abbrev cX5_skipBlanks : ByteArray := prog_7_method_11_code
def yX5_skipBlanks : MethodName := ⟨RX5, "skipBlanks", "()V"⟩
abbrev cX5_isBetween : ByteArray := prog_7_method_12_code
def yX5_isBetween : MethodName := ⟨RX5, "isBetween", "(CC)Z"⟩
def RX6 : String := "AvalancheVote$Skier"
def TX6 : u_T := fun k => match k with
  | _ => ("", "", "", false)
def tyX6 : Nat → FieldType := fun k => match k with
  | _ => .int
theorem nmX6 : ∀ a, a < 0 → ∀ b, b < 0 → a ≠ b → (TX6 a).2.1 ≠ (TX6 b).2.1 := by decide +kernel
theorem tyX6_ok : ∀ k, k < 0 → parseFieldDescriptor (TX6 k).2.2.1 = some (tyX6 k) := by decide +kernel
abbrev cX6_init : ByteArray := prog_8_method_1_code
def yX6_init : MethodName := ⟨RX6, "<init>", "()V"⟩
abbrev cX6_heft : ByteArray := prog_8_method_2_code
def yX6_heft : MethodName := ⟨RX6, "heft", "(I)I"⟩
def RX7 : String := "AvalancheVote$Slope"
def TX7 : u_T := fun k => match k with
  | 0 => ("AvalancheVote$Slope", "told", "LAvalancheVote$Told;", true)
  | 1 => ("AvalancheVote$Slope", "snow", "[I", true)
  | 2 => ("AvalancheVote$Slope", "stones", "[I", true)
  | 3 => ("AvalancheVote$Slope", "votes", "I", false)
  | 4 => ("AvalancheVote$Slope", "winner", "I", false)
  | 5 => ("AvalancheVote$Slope", "coalition", "I", false)
  | 6 => ("AvalancheVote$Slope", "fell", "I", false)
  | 7 => ("AvalancheVote$Slope", "covered", "I", false)
  | _ => ("AvalancheVote$Slope", "turn", "[I", true)
def tyX7 : Nat → FieldType := fun k => match k with
  | 0 => .object "AvalancheVote$Told"
  | 1 => .array .int
  | 2 => .array .int
  | 3 => .int
  | 4 => .int
  | 5 => .int
  | 6 => .int
  | 7 => .int
  | _ => .array .int
theorem nmX7 : ∀ a, a < 9 → ∀ b, b < 9 → a ≠ b → (TX7 a).2.1 ≠ (TX7 b).2.1 := by decide +kernel
theorem tyX7_ok : ∀ k, k < 9 → parseFieldDescriptor (TX7 k).2.2.1 = some (tyX7 k) := by decide +kernel
abbrev cX7_init : ByteArray := prog_9_method_1_code
def yX7_init : MethodName := ⟨RX7, "<init>", "(LAvalancheVote$Told;)V"⟩
abbrev cX7_copyFrom : ByteArray := prog_9_method_2_code
def yX7_copyFrom : MethodName := ⟨RX7, "copyFrom", "(LAvalancheVote$Slope;)V"⟩
abbrev cX7_saveTo : ByteArray := prog_9_method_3_code
def yX7_saveTo : MethodName := ⟨RX7, "saveTo", "([II)V"⟩
abbrev cX7_loadFrom : ByteArray := prog_9_method_4_code
def yX7_loadFrom : MethodName := ⟨RX7, "loadFrom", "([II)V"⟩
abbrev cX7_startAnew : ByteArray := prog_9_method_5_code
def yX7_startAnew : MethodName := ⟨RX7, "startAnew", "()V"⟩
abbrev cX7_cast : ByteArray := prog_9_method_6_code
def yX7_cast : MethodName := ⟨RX7, "cast", "(I)V"⟩
abbrev cX7_lay : ByteArray := prog_9_method_7_code
def yX7_lay : MethodName := ⟨RX7, "lay", "(II)V"⟩
abbrev cX7_snowOver : ByteArray := prog_9_method_8_code
def yX7_snowOver : MethodName := ⟨RX7, "snowOver", "(I)V"⟩
abbrev cX7_comeDown : ByteArray := prog_9_method_9_code
def yX7_comeDown : MethodName := ⟨RX7, "comeDown", "()V"⟩
abbrev cX7_drop : ByteArray := prog_9_method_10_code
def yX7_drop : MethodName := ⟨RX7, "drop", "(I)I"⟩
abbrev cX7_fellAhead : ByteArray := prog_9_method_11_code
def yX7_fellAhead : MethodName := ⟨RX7, "fellAhead", "(II)Z"⟩
abbrev cX7_bears : ByteArray := prog_9_method_12_code
def yX7_bears : MethodName := ⟨RX7, "bears", "(II)Z"⟩
abbrev cX7_loadOf : ByteArray := prog_9_method_13_code
def yX7_loadOf : MethodName := ⟨RX7, "loadOf", "(I)I"⟩
abbrev cX7_loadOfAll : ByteArray := prog_9_method_14_code
def yX7_loadOfAll : MethodName := ⟨RX7, "loadOfAll", "()I"⟩
abbrev cX7_lightest : ByteArray := prog_9_method_15_code
def yX7_lightest : MethodName := ⟨RX7, "lightest", "()I"⟩
abbrev cX7_heaviest : ByteArray := prog_9_method_16_code
def yX7_heaviest : MethodName := ⟨RX7, "heaviest", "()I"⟩
abbrev cX7_mayStart : ByteArray := prog_9_method_17_code
def yX7_mayStart : MethodName := ⟨RX7, "mayStart", "(II)Z"⟩
def RX8 : String := "AvalancheVote$State"
def TX8 : u_T := fun k => match k with
  | 0 => ("AvalancheVote$State", "told", "LAvalancheVote$Told;", true)
  | 1 => ("AvalancheVote$State", "slope", "LAvalancheVote$Slope;", true)
  | 2 => ("AvalancheVote$State", "past", "[I", true)
  | 3 => ("AvalancheVote$State", "pasts", "I", false)
  | 4 => ("AvalancheVote$State", "seenLoad", "[I", true)
  | 5 => ("AvalancheVote$State", "seenBore", "[I", true)
  | _ => ("AvalancheVote$State", "seens", "I", false)
def tyX8 : Nat → FieldType := fun k => match k with
  | 0 => .object "AvalancheVote$Told"
  | 1 => .object "AvalancheVote$Slope"
  | 2 => .array .int
  | 3 => .int
  | 4 => .array .int
  | 5 => .array .int
  | _ => .int
theorem nmX8 : ∀ a, a < 7 → ∀ b, b < 7 → a ≠ b → (TX8 a).2.1 ≠ (TX8 b).2.1 := by decide +kernel
theorem tyX8_ok : ∀ k, k < 7 → parseFieldDescriptor (TX8 k).2.2.1 = some (tyX8 k) := by decide +kernel
abbrev cX8_init : ByteArray := prog_10_method_1_code
def yX8_init : MethodName := ⟨RX8, "<init>", "([LAvalancheVote$Plain;)V"⟩
abbrev cX8_startAnew : ByteArray := prog_10_method_2_code
def yX8_startAnew : MethodName := ⟨RX8, "startAnew", "()V"⟩
abbrev cX8_copyFrom : ByteArray := prog_10_method_3_code
def yX8_copyFrom : MethodName := ⟨RX8, "copyFrom", "(LAvalancheVote$State;)V"⟩
abbrev cX8_addLedge : ByteArray := prog_10_method_4_code
def yX8_addLedge : MethodName := ⟨RX8, "addLedge", "(III)I"⟩
abbrev cX8_addVoter : ByteArray := prog_10_method_5_code
def yX8_addVoter : MethodName := ⟨RX8, "addVoter", "(III)I"⟩
abbrev cX8_addSeen : ByteArray := prog_10_method_6_code
def yX8_addSeen : MethodName := ⟨RX8, "addSeen", "(II)I"⟩
abbrev cX8_keepPast : ByteArray := prog_10_method_7_code
def yX8_keepPast : MethodName := ⟨RX8, "keepPast", "()V"⟩
abbrev cX8_goBack : ByteArray := prog_10_method_8_code
def yX8_goBack : MethodName := ⟨RX8, "goBack", "()V"⟩
abbrev cX8_leastHold : ByteArray := prog_10_method_9_code
def yX8_leastHold : MethodName := ⟨RX8, "leastHold", "()I"⟩
abbrev cX8_greatestHold : ByteArray := prog_10_method_10_code
def yX8_greatestHold : MethodName := ⟨RX8, "greatestHold", "()I"⟩
abbrev cX8_digestFrom : ByteArray := prog_10_method_11_code
def yX8_digestFrom : MethodName := ⟨RX8, "digestFrom", "(J)J"⟩
def RX9 : String := "AvalancheVote$Told"
def TX9 : u_T := fun k => match k with
  | 0 => ("AvalancheVote$Told", "kinds", "[LAvalancheVote$Plain;", true)
  | 1 => ("AvalancheVote$Told", "ledges", "I", false)
  | 2 => ("AvalancheVote$Told", "holds", "[I", true)
  | 3 => ("AvalancheVote$Told", "below", "[I", true)
  | 4 => ("AvalancheVote$Told", "voters", "I", false)
  | 5 => ("AvalancheVote$Told", "kind", "[I", true)
  | 6 => ("AvalancheVote$Told", "goal", "[I", true)
  | _ => ("AvalancheVote$Told", "stone", "[I", true)
def tyX9 : Nat → FieldType := fun k => match k with
  | 0 => .array (.object "AvalancheVote$Plain")
  | 1 => .int
  | 2 => .array .int
  | 3 => .array .int
  | 4 => .int
  | 5 => .array .int
  | 6 => .array .int
  | _ => .array .int
theorem nmX9 : ∀ a, a < 8 → ∀ b, b < 8 → a ≠ b → (TX9 a).2.1 ≠ (TX9 b).2.1 := by decide +kernel
theorem tyX9_ok : ∀ k, k < 8 → parseFieldDescriptor (TX9 k).2.2.1 = some (tyX9 k) := by decide +kernel
abbrev cX9_init : ByteArray := prog_11_method_1_code
def yX9_init : MethodName := ⟨RX9, "<init>", "([LAvalancheVote$Plain;)V"⟩
abbrev cX9_copyFrom : ByteArray := prog_11_method_2_code
def yX9_copyFrom : MethodName := ⟨RX9, "copyFrom", "(LAvalancheVote$Told;)V"⟩
abbrev cX9_kindOf : ByteArray := prog_11_method_3_code
def yX9_kindOf : MethodName := ⟨RX9, "kindOf", "(I)LAvalancheVote$Plain;"⟩
abbrev cX9_ledgeBelow : ByteArray := prog_11_method_4_code
def yX9_ledgeBelow : MethodName := ⟨RX9, "ledgeBelow", "(I)I"⟩
abbrev cX9_bitsAbove : ByteArray := prog_11_method_5_code
def yX9_bitsAbove : MethodName := ⟨RX9, "bitsAbove", "(I)I"⟩
def RX10 : String := "AvalancheVote$Whip"
def TX10 : u_T := fun k => match k with
  | _ => ("", "", "", false)
def tyX10 : Nat → FieldType := fun k => match k with
  | _ => .int
theorem nmX10 : ∀ a, a < 0 → ∀ b, b < 0 → a ≠ b → (TX10 a).2.1 ≠ (TX10 b).2.1 := by decide +kernel
theorem tyX10_ok : ∀ k, k < 0 → parseFieldDescriptor (TX10 k).2.2.1 = some (tyX10 k) := by decide +kernel
abbrev cX10_init : ByteArray := prog_12_method_1_code
def yX10_init : MethodName := ⟨RX10, "<init>", "()V"⟩
abbrev cX10_place : ByteArray := prog_12_method_2_code
def yX10_place : MethodName := ⟨RX10, "place", "(LAvalancheVote$Slope;II)I"⟩
def RX11 : String := "AvalancheVote"
def TX11 : u_T := fun k => match k with
  | 0 => ("AvalancheVote", "now", "LAvalancheVote$State;", true)
  | 1 => ("AvalancheVote", "draft", "LAvalancheVote$State;", true)
  | 2 => ("AvalancheVote", "images", "[LAvalancheVote$State;", true)
  | 3 => ("AvalancheVote", "keptImages", "I", false)
  | 4 => ("AvalancheVote", "reader", "LAvalancheVote$Reader;", true)
  | 5 => ("AvalancheVote", "foresight", "LAvalancheVote$Foresight;", true)
  | 6 => ("AvalancheVote", "fractionAbove", "J", false)
  | 7 => ("AvalancheVote", "fractionBelow", "J", false)
  | 8 => ("AvalancheVote", "bads", "I", false)
  | 9 => ("AvalancheVote", "nos", "I", false)
  | _ => ("AvalancheVote", "fulls", "I", false)
def tyX11 : Nat → FieldType := fun k => match k with
  | 0 => .object "AvalancheVote$State"
  | 1 => .object "AvalancheVote$State"
  | 2 => .array (.object "AvalancheVote$State")
  | 3 => .int
  | 4 => .object "AvalancheVote$Reader"
  | 5 => .object "AvalancheVote$Foresight"
  | 6 => .long
  | 7 => .long
  | 8 => .int
  | 9 => .int
  | _ => .int
theorem nmX11 : ∀ a, a < 11 → ∀ b, b < 11 → a ≠ b → (TX11 a).2.1 ≠ (TX11 b).2.1 := by decide +kernel
theorem tyX11_ok : ∀ k, k < 11 → parseFieldDescriptor (TX11 k).2.2.1 = some (tyX11 k) := by decide +kernel
abbrev cX11_init : ByteArray := prog_1_method_1_code
def yX11_init : MethodName := ⟨RX11, "<init>", "()V"⟩
abbrev cX11_mountain : ByteArray := prog_1_method_2_code
def yX11_mountain : MethodName := ⟨RX11, "mountain", "()I"⟩
abbrev cX11_ledge : ByteArray := prog_1_method_3_code
def yX11_ledge : MethodName := ⟨RX11, "ledge", "(III)I"⟩
abbrev cX11_voter : ByteArray := prog_1_method_4_code
def yX11_voter : MethodName := ⟨RX11, "voter", "(III)I"⟩
abbrev cX11_type : ByteArray := prog_1_method_5_code
def yX11_type : MethodName := ⟨RX11, "type", "(I)I"⟩
abbrev cX11_clear : ByteArray := prog_1_method_6_code
def yX11_clear : MethodName := ⟨RX11, "clear", "()I"⟩
abbrev cX11_read : ByteArray := prog_1_method_7_code
def yX11_read : MethodName := ⟨RX11, "read", "()I"⟩
abbrev cX11_vote : ByteArray := prog_1_method_8_code
def yX11_vote : MethodName := ⟨RX11, "vote", "(I)I"⟩
abbrev cX11_night : ByteArray := prog_1_method_9_code
def yX11_night : MethodName := ⟨RX11, "night", "(I)I"⟩
abbrev cX11_undo : ByteArray := prog_1_method_10_code
def yX11_undo : MethodName := ⟨RX11, "undo", "()I"⟩
abbrev cX11_of : ByteArray := prog_1_method_11_code
def yX11_of : MethodName := ⟨RX11, "of", "(II)I"⟩
abbrev cX11_about : ByteArray := prog_1_method_12_code
def yX11_about : MethodName := ⟨RX11, "about", "(II)I"⟩
abbrev cX11_winner : ByteArray := prog_1_method_13_code
def yX11_winner : MethodName := ⟨RX11, "winner", "()I"⟩
abbrev cX11_coalition : ByteArray := prog_1_method_14_code
def yX11_coalition : MethodName := ⟨RX11, "coalition", "()I"⟩
abbrev cX11_february : ByteArray := prog_1_method_15_code
def yX11_february : MethodName := ⟨RX11, "february", "(I)I"⟩
abbrev cX11_orders : ByteArray := prog_1_method_16_code
def yX11_orders : MethodName := ⟨RX11, "orders", "(II)I"⟩
abbrev cX11_stones : ByteArray := prog_1_method_17_code
def yX11_stones : MethodName := ⟨RX11, "stones", "(II)I"⟩
abbrev cX11_buried : ByteArray := prog_1_method_18_code
def yX11_buried : MethodName := ⟨RX11, "buried", "(II)I"⟩
abbrev cX11_nights : ByteArray := prog_1_method_19_code
def yX11_nights : MethodName := ⟨RX11, "nights", "(II)I"⟩
abbrev cX11_parties : ByteArray := prog_1_method_20_code
def yX11_parties : MethodName := ⟨RX11, "parties", "(IIII)I"⟩
abbrev cX11_seen : ByteArray := prog_1_method_21_code
def yX11_seen : MethodName := ⟨RX11, "seen", "(II)I"⟩
abbrev cX11_forget : ByteArray := prog_1_method_22_code
def yX11_forget : MethodName := ⟨RX11, "forget", "()I"⟩
abbrev cX11_hold : ByteArray := prog_1_method_23_code
def yX11_hold : MethodName := ⟨RX11, "hold", "(I)I"⟩
abbrev cX11_stick : ByteArray := prog_1_method_24_code
def yX11_stick : MethodName := ⟨RX11, "stick", "()I"⟩
abbrev cX11_is : ByteArray := prog_1_method_25_code
def yX11_is : MethodName := ⟨RX11, "is", "(III)I"⟩
abbrev cX11_sneeze : ByteArray := prog_1_method_26_code
def yX11_sneeze : MethodName := ⟨RX11, "sneeze", "(II)I"⟩
abbrev cX11_februaries : ByteArray := prog_1_method_27_code
def yX11_februaries : MethodName := ⟨RX11, "februaries", "(II)I"⟩
abbrev cX11_part : ByteArray := prog_1_method_28_code
def yX11_part : MethodName := ⟨RX11, "part", "(I)J"⟩
abbrev cX11_image : ByteArray := prog_1_method_29_code
def yX11_image : MethodName := ⟨RX11, "image", "(I)I"⟩
abbrev cX11_from : ByteArray := prog_1_method_30_code
def yX11_from : MethodName := ⟨RX11, "from", "(I)I"⟩
abbrev cX11_status : ByteArray := prog_1_method_31_code
def yX11_status : MethodName := ⟨RX11, "status", "(I)I"⟩
abbrev cX11_count : ByteArray := prog_1_method_32_code
def yX11_count : MethodName := ⟨RX11, "count", "(I)I"⟩
abbrev cX11_digest : ByteArray := prog_1_method_33_code
def yX11_digest : MethodName := ⟨RX11, "digest", "()J"⟩
abbrev cX11_howMany : ByteArray := prog_1_method_34_code
def yX11_howMany : MethodName := ⟨RX11, "howMany", "(I)I"⟩
abbrev cX11_placeAs : ByteArray := prog_1_method_35_code
def yX11_placeAs : MethodName := ⟨RX11, "placeAs", "(II)I"⟩
abbrev cX11_heftAs : ByteArray := prog_1_method_36_code
def yX11_heftAs : MethodName := ⟨RX11, "heftAs", "(II)I"⟩
abbrev cX11_isLedge : ByteArray := prog_1_method_37_code
def yX11_isLedge : MethodName := ⟨RX11, "isLedge", "(I)Z"⟩
abbrev cX11_isVoter : ByteArray := prog_1_method_38_code
def yX11_isVoter : MethodName := ⟨RX11, "isVoter", "(I)Z"⟩
abbrev cX11_bad : ByteArray := prog_1_method_39_code
def yX11_bad : MethodName := ⟨RX11, "bad", "(I)I"⟩
abbrev cX11_no : ByteArray := prog_1_method_40_code
def yX11_no : MethodName := ⟨RX11, "no", "()I"⟩
abbrev cX11_full : ByteArray := prog_1_method_41_code
def yX11_full : MethodName := ⟨RX11, "full", "()I"⟩
abbrev cX11_within : ByteArray := prog_1_method_42_code
def yX11_within : MethodName := ⟨RX11, "within", "(III)Z"⟩
abbrev cX11_hasBit : ByteArray := prog_1_method_43_code
def yX11_hasBit : MethodName := ⟨RX11, "hasBit", "(II)Z"⟩
abbrev cX11_spread : ByteArray := prog_1_method_44_code
def yX11_spread : MethodName := ⟨RX11, "spread", "(II)I"⟩
abbrev cX11_tenTo : ByteArray := prog_1_method_45_code
def yX11_tenTo : MethodName := ⟨RX11, "tenTo", "(I)J"⟩
abbrev cX11_commonDivisor : ByteArray := prog_1_method_46_code
def yX11_commonDivisor : MethodName := ⟨RX11, "commonDivisor", "(JJ)J"⟩
def RX12 : String := "AvalancheVoteModel"
def TX12 : u_T := fun k => match k with
  | 0 => ("AvalancheVoteModel", "now", "[I", true)
  | 1 => ("AvalancheVoteModel", "kept", "[I", true)
  | 2 => ("AvalancheVoteModel", "isKept", "[Z", true)
  | 3 => ("AvalancheVoteModel", "refused", "[I", true)
  | 4 => ("AvalancheVoteModel", "above", "J", false)
  | 5 => ("AvalancheVoteModel", "below", "J", false)
  | 6 => ("AvalancheVoteModel", "snow", "[I", true)
  | 7 => ("AvalancheVoteModel", "laid", "[I", true)
  | 8 => ("AvalancheVoteModel", "votes", "I", false)
  | 9 => ("AvalancheVoteModel", "won", "I", false)
  | 10 => ("AvalancheVoteModel", "together", "I", false)
  | 11 => ("AvalancheVoteModel", "firstDown", "I", false)
  | 12 => ("AvalancheVoteModel", "buriedBits", "I", false)
  | 13 => ("AvalancheVoteModel", "row", "[I", true)
  | 14 => ("AvalancheVoteModel", "firstRow", "[I", true)
  | 15 => ("AvalancheVoteModel", "tries", "[I", true)
  | 16 => ("AvalancheVoteModel", "bests", "[I", true)
  | 17 => ("AvalancheVoteModel", "snowAt", "[I", true)
  | 18 => ("AvalancheVoteModel", "stonesAt", "[I", true)
  | 19 => ("AvalancheVoteModel", "bestFirst", "I", false)
  | 20 => ("AvalancheVoteModel", "firstOfTwo", "I", false)
  | 21 => ("AvalancheVoteModel", "bytes", "[I", true)
  | 22 => ("AvalancheVoteModel", "bytesLong", "I", false)
  | 23 => ("AvalancheVoteModel", "tokenAt", "I", false)
  | 24 => ("AvalancheVoteModel", "tokenLong", "I", false)
  | 25 => ("AvalancheVoteModel", "token", "I", false)
  | 26 => ("AvalancheVoteModel", "value", "I", false)
  | 27 => ("AvalancheVoteModel", "anew", "[I", true)
  | _ => ("AvalancheVoteModel", "values", "[I", true)
def tyX12 : Nat → FieldType := fun k => match k with
  | 0 => .array .int
  | 1 => .array .int
  | 2 => .array .boolean
  | 3 => .array .int
  | 4 => .long
  | 5 => .long
  | 6 => .array .int
  | 7 => .array .int
  | 8 => .int
  | 9 => .int
  | 10 => .int
  | 11 => .int
  | 12 => .int
  | 13 => .array .int
  | 14 => .array .int
  | 15 => .array .int
  | 16 => .array .int
  | 17 => .array .int
  | 18 => .array .int
  | 19 => .int
  | 20 => .int
  | 21 => .array .int
  | 22 => .int
  | 23 => .int
  | 24 => .int
  | 25 => .int
  | 26 => .int
  | 27 => .array .int
  | _ => .array .int
theorem nmX12 : ∀ a, a < 29 → ∀ b, b < 29 → a ≠ b → (TX12 a).2.1 ≠ (TX12 b).2.1 := by decide +kernel
theorem tyX12_ok : ∀ k, k < 29 → parseFieldDescriptor (TX12 k).2.2.1 = some (tyX12 k) := by decide +kernel
abbrev cX12_init : ByteArray := prog_14_method_1_code
def yX12_init : MethodName := ⟨RX12, "<init>", "()V"⟩
abbrev cX12_in : ByteArray := prog_14_method_3_code
def yX12_in : MethodName := ⟨RX12, "in", "(JJJ)Z"⟩
abbrev cX12_bad : ByteArray := prog_14_method_4_code
def yX12_bad : MethodName := ⟨RX12, "bad", "(I)I"⟩
abbrev cX12_no : ByteArray := prog_14_method_5_code
def yX12_no : MethodName := ⟨RX12, "no", "()I"⟩
abbrev cX12_full : ByteArray := prog_14_method_6_code
def yX12_full : MethodName := ⟨RX12, "full", "()I"⟩
abbrev cX12_begin : ByteArray := prog_14_method_8_code
def yX12_begin : MethodName := ⟨RX12, "begin", "([I)V"⟩
abbrev cX12_ledges : ByteArray := prog_14_method_9_code
def yX12_ledges : MethodName := ⟨RX12, "ledges", "()I"⟩
abbrev cX12_voters : ByteArray := prog_14_method_10_code
def yX12_voters : MethodName := ⟨RX12, "voters", "()I"⟩
abbrev cX12_isLedge : ByteArray := prog_14_method_11_code
def yX12_isLedge : MethodName := ⟨RX12, "isLedge", "(I)Z"⟩
abbrev cX12_isVoter : ByteArray := prog_14_method_12_code
def yX12_isVoter : MethodName := ⟨RX12, "isVoter", "(I)Z"⟩
abbrev cX12_get : ByteArray := prog_14_method_13_code
def yX12_get : MethodName := ⟨RX12, "get", "(II)I"⟩
abbrev cX12_tells : ByteArray := prog_14_method_14_code
def yX12_tells : MethodName := ⟨RX12, "tells", "(II)I"⟩
abbrev cX12_mountain : ByteArray := prog_14_method_15_code
def yX12_mountain : MethodName := ⟨RX12, "mountain", "()I"⟩
abbrev cX12_layLedge : ByteArray := prog_14_method_16_code
def yX12_layLedge : MethodName := ⟨RX12, "layLedge", "([IIII)V"⟩
abbrev cX12_ledge : ByteArray := prog_14_method_17_code
def yX12_ledge : MethodName := ⟨RX12, "ledge", "(III)I"⟩
abbrev cX12_layVoter : ByteArray := prog_14_method_18_code
def yX12_layVoter : MethodName := ⟨RX12, "layVoter", "([IIII)V"⟩
abbrev cX12_voter : ByteArray := prog_14_method_19_code
def yX12_voter : MethodName := ⟨RX12, "voter", "(III)I"⟩
abbrev cX12_layHand : ByteArray := prog_14_method_20_code
def yX12_layHand : MethodName := ⟨RX12, "layHand", "()V"⟩
abbrev cX12_load : ByteArray := prog_14_method_21_code
def yX12_load : MethodName := ⟨RX12, "load", "(I)I"⟩
abbrev cX12_firstOver : ByteArray := prog_14_method_22_code
def yX12_firstOver : MethodName := ⟨RX12, "firstOver", "()I"⟩
abbrev cX12_comesDown : ByteArray := prog_14_method_23_code
def yX12_comesDown : MethodName := ⟨RX12, "comesDown", "()I"⟩
abbrev cX12_heavy : ByteArray := prog_14_method_24_code
def yX12_heavy : MethodName := ⟨RX12, "heavy", "(II)I"⟩
abbrev cX12_byLoad : ByteArray := prog_14_method_25_code
def yX12_byLoad : MethodName := ⟨RX12, "byLoad", "(Z)I"⟩
abbrev cX12_where : ByteArray := prog_14_method_26_code
def yX12_where : MethodName := ⟨RX12, "where", "(III)I"⟩
abbrev cX12_whereBy : ByteArray := prog_14_method_27_code
def yX12_whereBy : MethodName := ⟨RX12, "whereBy", "(I)I"⟩
abbrev cX12_heavyBy : ByteArray := prog_14_method_28_code
def yX12_heavyBy : MethodName := ⟨RX12, "heavyBy", "(I)I"⟩
abbrev cX12_goStone : ByteArray := prog_14_method_29_code
def yX12_goStone : MethodName := ⟨RX12, "goStone", "(II)I"⟩
abbrev cX12_goVote : ByteArray := prog_14_method_30_code
def yX12_goVote : MethodName := ⟨RX12, "goVote", "(I)I"⟩
abbrev cX12_goNight : ByteArray := prog_14_method_31_code
def yX12_goNight : MethodName := ⟨RX12, "goNight", "(I)I"⟩
abbrev cX12_keep : ByteArray := prog_14_method_32_code
def yX12_keep : MethodName := ⟨RX12, "keep", "()V"⟩
abbrev cX12_layNow : ByteArray := prog_14_method_33_code
def yX12_layNow : MethodName := ⟨RX12, "layNow", "()V"⟩
abbrev cX12_vote : ByteArray := prog_14_method_34_code
def yX12_vote : MethodName := ⟨RX12, "vote", "(I)I"⟩
abbrev cX12_night : ByteArray := prog_14_method_35_code
def yX12_night : MethodName := ⟨RX12, "night", "(I)I"⟩
abbrev cX12_undo : ByteArray := prog_14_method_36_code
def yX12_undo : MethodName := ⟨RX12, "undo", "()I"⟩
abbrev cX12_of : ByteArray := prog_14_method_37_code
def yX12_of : MethodName := ⟨RX12, "of", "(II)I"⟩
abbrev cX12_about : ByteArray := prog_14_method_38_code
def yX12_about : MethodName := ⟨RX12, "about", "(II)I"⟩
abbrev cX12_winner : ByteArray := prog_14_method_39_code
def yX12_winner : MethodName := ⟨RX12, "winner", "()I"⟩
abbrev cX12_coalition : ByteArray := prog_14_method_40_code
def yX12_coalition : MethodName := ⟨RX12, "coalition", "()I"⟩
abbrev cX12_february : ByteArray := prog_14_method_41_code
def yX12_february : MethodName := ⟨RX12, "february", "(I)I"⟩
abbrev cX12_areUnlike : ByteArray := prog_14_method_42_code
def yX12_areUnlike : MethodName := ⟨RX12, "areUnlike", "()Z"⟩
abbrev cX12_layRow : ByteArray := prog_14_method_43_code
def yX12_layRow : MethodName := ⟨RX12, "layRow", "(III)V"⟩
abbrev cX12_power : ByteArray := prog_14_method_44_code
def yX12_power : MethodName := ⟨RX12, "power", "(II)I"⟩
abbrev cX12_orders : ByteArray := prog_14_method_45_code
def yX12_orders : MethodName := ⟨RX12, "orders", "(II)I"⟩
abbrev cX12_stones : ByteArray := prog_14_method_46_code
def yX12_stones : MethodName := ⟨RX12, "stones", "(II)I"⟩
abbrev cX12_buried : ByteArray := prog_14_method_47_code
def yX12_buried : MethodName := ⟨RX12, "buried", "(II)I"⟩
abbrev cX12_nights : ByteArray := prog_14_method_48_code
def yX12_nights : MethodName := ⟨RX12, "nights", "(II)I"⟩
abbrev cX12_layTurn : ByteArray := prog_14_method_49_code
def yX12_layTurn : MethodName := ⟨RX12, "layTurn", "(I)V"⟩
abbrev cX12_backTo : ByteArray := prog_14_method_50_code
def yX12_backTo : MethodName := ⟨RX12, "backTo", "(I)V"⟩
abbrev cX12_judge : ByteArray := prog_14_method_51_code
def yX12_judge : MethodName := ⟨RX12, "judge", "(II)V"⟩
abbrev cX12_has : ByteArray := prog_14_method_52_code
def yX12_has : MethodName := ⟨RX12, "has", "(II)Z"⟩
abbrev cX12_goParty : ByteArray := prog_14_method_53_code
def yX12_goParty : MethodName := ⟨RX12, "goParty", "(III)V"⟩
abbrev cX12_layParties : ByteArray := prog_14_method_54_code
def yX12_layParties : MethodName := ⟨RX12, "layParties", "(III)I"⟩
abbrev cX12_parties : ByteArray := prog_14_method_55_code
def yX12_parties : MethodName := ⟨RX12, "parties", "(IIII)I"⟩
abbrev cX12_seen : ByteArray := prog_14_method_56_code
def yX12_seen : MethodName := ⟨RX12, "seen", "(II)I"⟩
abbrev cX12_forget : ByteArray := prog_14_method_57_code
def yX12_forget : MethodName := ⟨RX12, "forget", "()I"⟩
abbrev cX12_canHold : ByteArray := prog_14_method_58_code
def yX12_canHold : MethodName := ⟨RX12, "canHold", "(I)Z"⟩
abbrev cX12_manyFrom : ByteArray := prog_14_method_59_code
def yX12_manyFrom : MethodName := ⟨RX12, "manyFrom", "(I)I"⟩
abbrev cX12_leastHold : ByteArray := prog_14_method_60_code
def yX12_leastHold : MethodName := ⟨RX12, "leastHold", "()I"⟩
abbrev cX12_hold : ByteArray := prog_14_method_61_code
def yX12_hold : MethodName := ⟨RX12, "hold", "(I)I"⟩
abbrev cX12_stick : ByteArray := prog_14_method_62_code
def yX12_stick : MethodName := ⟨RX12, "stick", "()I"⟩
abbrev cX12_is : ByteArray := prog_14_method_63_code
def yX12_is : MethodName := ⟨RX12, "is", "(III)I"⟩
abbrev cX12_fraction : ByteArray := prog_14_method_64_code
def yX12_fraction : MethodName := ⟨RX12, "fraction", "(JJ)V"⟩
abbrev cX12_sneeze : ByteArray := prog_14_method_65_code
def yX12_sneeze : MethodName := ⟨RX12, "sneeze", "(II)I"⟩
abbrev cX12_februaries : ByteArray := prog_14_method_66_code
def yX12_februaries : MethodName := ⟨RX12, "februaries", "(II)I"⟩
abbrev cX12_type : ByteArray := prog_14_method_67_code
def yX12_type : MethodName := ⟨RX12, "type", "(I)I"⟩
abbrev cX12_clear : ByteArray := prog_14_method_68_code
def yX12_clear : MethodName := ⟨RX12, "clear", "()I"⟩
abbrev cX12_isSmall : ByteArray := prog_14_method_69_code
def yX12_isSmall : MethodName := ⟨RX12, "isSmall", "(I)Z"⟩
abbrev cX12_isFigure : ByteArray := prog_14_method_70_code
def yX12_isFigure : MethodName := ⟨RX12, "isFigure", "(I)Z"⟩
abbrev cX12_lookAt : ByteArray := prog_14_method_71_code
def yX12_lookAt : MethodName := ⟨RX12, "lookAt", "(I)V"⟩
abbrev cX12_goBehind : ByteArray := prog_14_method_72_code
def yX12_goBehind : MethodName := ⟨RX12, "goBehind", "()V"⟩
abbrev cX12_isWord : ByteArray := prog_14_method_73_code
def yX12_isWord : MethodName := ⟨RX12, "isWord", "(IIIIIIII)Z"⟩
abbrev cX12_takes : ByteArray := prog_14_method_74_code
def yX12_takes : MethodName := ⟨RX12, "takes", "(III)Z"⟩
abbrev cX12_takesLedge : ByteArray := prog_14_method_75_code
def yX12_takesLedge : MethodName := ⟨RX12, "takesLedge", "(Z)Z"⟩
abbrev cX12_takesVoter : ByteArray := prog_14_method_76_code
def yX12_takesVoter : MethodName := ⟨RX12, "takesVoter", "()Z"⟩
abbrev cX12_takesItem : ByteArray := prog_14_method_77_code
def yX12_takesItem : MethodName := ⟨RX12, "takesItem", "()Z"⟩
abbrev cX12_read : ByteArray := prog_14_method_78_code
def yX12_read : MethodName := ⟨RX12, "read", "()I"⟩
abbrev cX12_part : ByteArray := prog_14_method_79_code
def yX12_part : MethodName := ⟨RX12, "part", "(I)J"⟩
abbrev cX12_image : ByteArray := prog_14_method_80_code
def yX12_image : MethodName := ⟨RX12, "image", "(I)I"⟩
abbrev cX12_from : ByteArray := prog_14_method_81_code
def yX12_from : MethodName := ⟨RX12, "from", "(I)I"⟩
abbrev cX12_status : ByteArray := prog_14_method_82_code
def yX12_status : MethodName := ⟨RX12, "status", "(I)I"⟩
abbrev cX12_allLoads : ByteArray := prog_14_method_83_code
def yX12_allLoads : MethodName := ⟨RX12, "allLoads", "()I"⟩
abbrev cX12_counted : ByteArray := prog_14_method_84_code
def yX12_counted : MethodName := ⟨RX12, "counted", "(I)I"⟩
abbrev cX12_count : ByteArray := prog_14_method_85_code
def yX12_count : MethodName := ⟨RX12, "count", "(I)I"⟩
abbrev cX12_sums : ByteArray := prog_14_method_86_code
def yX12_sums : MethodName := ⟨RX12, "sums", "(JII)J"⟩
abbrev cX12_digest : ByteArray := prog_14_method_87_code
def yX12_digest : MethodName := ⟨RX12, "digest", "()J"⟩
def RJ6 : String := "java/lang/Integer"
abbrev cJ6_bitCount_0f7a4 : ByteArray := prog_15_method_49_code
def yJ6_bitCount_0f7a4 : MethodName := ⟨RJ6, "bitCount", "(I)I"⟩
def RJ9 : String := "java/lang/Math"
abbrev cJ9_max_7cf53 : ByteArray := prog_16_method_65_code
def yJ9_max_7cf53 : MethodName := ⟨RJ9, "max", "(II)I"⟩
abbrev cJ9_min_7cf53 : ByteArray := prog_16_method_69_code
def yJ9_min_7cf53 : MethodName := ⟨RJ9, "min", "(II)I"⟩
def RJ0 : String := "java/lang/String"
abbrev cJ0_length_8abf5 : ByteArray := prog_17_method_54_code
def yJ0_length_8abf5 : MethodName := ⟨RJ0, "length", "()I"⟩
abbrev cJ0_charAt_5068e : ByteArray := prog_17_method_56_code
def yJ0_charAt_5068e : MethodName := ⟨RJ0, "charAt", "(I)C"⟩
abbrev cJ0_coder_7d493 : ByteArray := prog_17_method_152_code
def yJ0_coder_7d493 : MethodName := ⟨RJ0, "coder", "()B"⟩
abbrev cJ0_isLatin1_aae02 : ByteArray := prog_17_method_154_code
def yJ0_isLatin1_aae02 : MethodName := ⟨RJ0, "isLatin1", "()Z"⟩
abbrev cJ0_checkIndex_df160 : ByteArray := prog_17_method_155_code
def yJ0_checkIndex_df160 : MethodName := ⟨RJ0, "checkIndex", "(II)V"⟩
def RJ1 : String := "java/lang/StringLatin1"
abbrev cJ1_charAt_3b067 : ByteArray := prog_18_method_2_code
def yJ1_charAt_3b067 : MethodName := ⟨RJ1, "charAt", "([BI)C"⟩
def RJ2 : String := "java/lang/StringUTF16"
abbrev cJ2_getChar_3b067 : ByteArray := prog_19_method_5_code
def yJ2_getChar_3b067 : MethodName := ⟨RJ2, "getChar", "([BI)C"⟩
abbrev cJ2_length_9d52b : ByteArray := prog_19_method_6_code
def yJ2_length_9d52b : MethodName := ⟨RJ2, "length", "([B)I"⟩
abbrev cJ2_charAt_3b067 : ByteArray := prog_19_method_83_code
def yJ2_charAt_3b067 : MethodName := ⟨RJ2, "charAt", "([BI)C"⟩
abbrev cJ2_checkIndex_2214a : ByteArray := prog_19_method_91_code
def yJ2_checkIndex_2214a : MethodName := ⟨RJ2, "checkIndex", "(I[B)V"⟩
def RJ10 : String := "java/lang/System"
def RJ7 : String := "java/util/Arrays"
abbrev cJ7_fill_53178 : ByteArray := prog_21_method_103_code
def yJ7_fill_53178 : MethodName := ⟨RJ7, "fill", "([II)V"⟩
def RJ3 : String := "jdk/internal/util/Preconditions"
abbrev cJ3_checkIndex_8e157 : ByteArray := prog_22_method_11_code
def yJ3_checkIndex_8e157 : MethodName := ⟨RJ3, "checkIndex", "(IILjava/util/function/BiFunction;)I"⟩
def RL : String := "AvalancheVoteLaw"
abbrev cL_law : ByteArray := code
def yL_law : MethodName := ⟨RL, "law", "([I)Z"⟩
abbrev vwCl : List vw_C := [(RX0, TX0, 0), (RX1, TX1, 6), (RX2, TX2, 0), (RX3, TX3, 0), (RX4, TX4, 0), (RX5, TX5, 5), (RX6, TX6, 0), (RX7, TX7, 9), (RX8, TX8, 7), (RX9, TX9, 8), (RX10, TX10, 0), (RX11, TX11, 11), (RX12, TX12, 29)]
end
section
theorem dJ6_bitCount_0f7a4_0 : decode cJ6_bitCount_0f7a4 0 = .ok (.iload_n 0, 1) := by decide +kernel
theorem dJ6_bitCount_0f7a4_1 : decode cJ6_bitCount_0f7a4 1 = .ok (.iload_n 0, 1) := by decide +kernel
theorem dJ6_bitCount_0f7a4_2 : decode cJ6_bitCount_0f7a4 2 = .ok (.iconst 1, 1) := by decide +kernel
theorem dJ6_bitCount_0f7a4_3 : decode cJ6_bitCount_0f7a4 3 = .ok (.iushr, 1) := by decide +kernel
theorem dJ6_bitCount_0f7a4_4 : decode cJ6_bitCount_0f7a4 4 = .ok (.ldc_w 265, 3) := by decide +kernel
theorem dJ6_bitCount_0f7a4_7 : decode cJ6_bitCount_0f7a4 7 = .ok (.iand, 1) := by decide +kernel
theorem dJ6_bitCount_0f7a4_8 : decode cJ6_bitCount_0f7a4 8 = .ok (.isub, 1) := by decide +kernel
theorem dJ6_bitCount_0f7a4_9 : decode cJ6_bitCount_0f7a4 9 = .ok (.istore_n 0, 1) := by decide +kernel
theorem dJ6_bitCount_0f7a4_10 : decode cJ6_bitCount_0f7a4 10 = .ok (.iload_n 0, 1) := by decide +kernel
theorem dJ6_bitCount_0f7a4_11 : decode cJ6_bitCount_0f7a4 11 = .ok (.ldc_w 266, 3) := by decide +kernel
theorem dJ6_bitCount_0f7a4_14 : decode cJ6_bitCount_0f7a4 14 = .ok (.iand, 1) := by decide +kernel
theorem dJ6_bitCount_0f7a4_15 : decode cJ6_bitCount_0f7a4 15 = .ok (.iload_n 0, 1) := by decide +kernel
theorem dJ6_bitCount_0f7a4_16 : decode cJ6_bitCount_0f7a4 16 = .ok (.iconst 2, 1) := by decide +kernel
theorem dJ6_bitCount_0f7a4_17 : decode cJ6_bitCount_0f7a4 17 = .ok (.iushr, 1) := by decide +kernel
theorem dJ6_bitCount_0f7a4_18 : decode cJ6_bitCount_0f7a4 18 = .ok (.ldc_w 266, 3) := by decide +kernel
theorem dJ6_bitCount_0f7a4_21 : decode cJ6_bitCount_0f7a4 21 = .ok (.iand, 1) := by decide +kernel
theorem dJ6_bitCount_0f7a4_22 : decode cJ6_bitCount_0f7a4 22 = .ok (.iadd, 1) := by decide +kernel
theorem dJ6_bitCount_0f7a4_23 : decode cJ6_bitCount_0f7a4 23 = .ok (.istore_n 0, 1) := by decide +kernel
theorem dJ6_bitCount_0f7a4_24 : decode cJ6_bitCount_0f7a4 24 = .ok (.iload_n 0, 1) := by decide +kernel
theorem dJ6_bitCount_0f7a4_25 : decode cJ6_bitCount_0f7a4 25 = .ok (.iload_n 0, 1) := by decide +kernel
theorem dJ6_bitCount_0f7a4_26 : decode cJ6_bitCount_0f7a4 26 = .ok (.iconst 4, 1) := by decide +kernel
theorem dJ6_bitCount_0f7a4_27 : decode cJ6_bitCount_0f7a4 27 = .ok (.iushr, 1) := by decide +kernel
theorem dJ6_bitCount_0f7a4_28 : decode cJ6_bitCount_0f7a4 28 = .ok (.iadd, 1) := by decide +kernel
theorem dJ6_bitCount_0f7a4_29 : decode cJ6_bitCount_0f7a4 29 = .ok (.ldc_w 267, 3) := by decide +kernel
theorem dJ6_bitCount_0f7a4_32 : decode cJ6_bitCount_0f7a4 32 = .ok (.iand, 1) := by decide +kernel
theorem dJ6_bitCount_0f7a4_33 : decode cJ6_bitCount_0f7a4 33 = .ok (.istore_n 0, 1) := by decide +kernel
theorem dJ6_bitCount_0f7a4_34 : decode cJ6_bitCount_0f7a4 34 = .ok (.iload_n 0, 1) := by decide +kernel
theorem dJ6_bitCount_0f7a4_35 : decode cJ6_bitCount_0f7a4 35 = .ok (.iload_n 0, 1) := by decide +kernel
theorem dJ6_bitCount_0f7a4_36 : decode cJ6_bitCount_0f7a4 36 = .ok (.bipush 8, 2) := by decide +kernel
theorem dJ6_bitCount_0f7a4_38 : decode cJ6_bitCount_0f7a4 38 = .ok (.iushr, 1) := by decide +kernel
theorem dJ6_bitCount_0f7a4_39 : decode cJ6_bitCount_0f7a4 39 = .ok (.iadd, 1) := by decide +kernel
theorem dJ6_bitCount_0f7a4_40 : decode cJ6_bitCount_0f7a4 40 = .ok (.istore_n 0, 1) := by decide +kernel
theorem dJ6_bitCount_0f7a4_41 : decode cJ6_bitCount_0f7a4 41 = .ok (.iload_n 0, 1) := by decide +kernel
theorem dJ6_bitCount_0f7a4_42 : decode cJ6_bitCount_0f7a4 42 = .ok (.iload_n 0, 1) := by decide +kernel
theorem dJ6_bitCount_0f7a4_43 : decode cJ6_bitCount_0f7a4 43 = .ok (.bipush 16, 2) := by decide +kernel
theorem dJ6_bitCount_0f7a4_45 : decode cJ6_bitCount_0f7a4 45 = .ok (.iushr, 1) := by decide +kernel
theorem dJ6_bitCount_0f7a4_46 : decode cJ6_bitCount_0f7a4 46 = .ok (.iadd, 1) := by decide +kernel
theorem dJ6_bitCount_0f7a4_47 : decode cJ6_bitCount_0f7a4 47 = .ok (.istore_n 0, 1) := by decide +kernel
theorem dJ6_bitCount_0f7a4_48 : decode cJ6_bitCount_0f7a4 48 = .ok (.iload_n 0, 1) := by decide +kernel
theorem dJ6_bitCount_0f7a4_49 : decode cJ6_bitCount_0f7a4 49 = .ok (.bipush 63, 2) := by decide +kernel
theorem dJ6_bitCount_0f7a4_51 : decode cJ6_bitCount_0f7a4 51 = .ok (.iand, 1) := by decide +kernel
theorem dJ6_bitCount_0f7a4_52 : decode cJ6_bitCount_0f7a4 52 = .ok (.ireturn, 1) := by decide +kernel
theorem dJ9_max_7cf53_0 : decode cJ9_max_7cf53 0 = .ok (.iload_n 0, 1) := by decide +kernel
theorem dJ9_max_7cf53_1 : decode cJ9_max_7cf53 1 = .ok (.iload_n 1, 1) := by decide +kernel
theorem dJ9_max_7cf53_2 : decode cJ9_max_7cf53 2 = .ok (.if_icmp .lt 7, 3) := by decide +kernel
theorem dJ9_max_7cf53_5 : decode cJ9_max_7cf53 5 = .ok (.iload_n 0, 1) := by decide +kernel
theorem dJ9_max_7cf53_6 : decode cJ9_max_7cf53 6 = .ok (.goto 4, 3) := by decide +kernel
theorem dJ9_max_7cf53_9 : decode cJ9_max_7cf53 9 = .ok (.iload_n 1, 1) := by decide +kernel
theorem dJ9_max_7cf53_10 : decode cJ9_max_7cf53 10 = .ok (.ireturn, 1) := by decide +kernel
theorem dJ9_min_7cf53_0 : decode cJ9_min_7cf53 0 = .ok (.iload_n 0, 1) := by decide +kernel
theorem dJ9_min_7cf53_1 : decode cJ9_min_7cf53 1 = .ok (.iload_n 1, 1) := by decide +kernel
theorem dJ9_min_7cf53_2 : decode cJ9_min_7cf53 2 = .ok (.if_icmp .gt 7, 3) := by decide +kernel
theorem dJ9_min_7cf53_5 : decode cJ9_min_7cf53 5 = .ok (.iload_n 0, 1) := by decide +kernel
theorem dJ9_min_7cf53_6 : decode cJ9_min_7cf53 6 = .ok (.goto 4, 3) := by decide +kernel
theorem dJ9_min_7cf53_9 : decode cJ9_min_7cf53 9 = .ok (.iload_n 1, 1) := by decide +kernel
theorem dJ9_min_7cf53_10 : decode cJ9_min_7cf53 10 = .ok (.ireturn, 1) := by decide +kernel
theorem dJ0_length_8abf5_0 : decode cJ0_length_8abf5 0 = .ok (.aload_n 0, 1) := by decide +kernel
theorem dJ0_length_8abf5_1 : decode cJ0_length_8abf5 1 = .ok (.getfield 9, 3) := by decide +kernel
theorem dJ0_length_8abf5_4 : decode cJ0_length_8abf5 4 = .ok (.arraylength, 1) := by decide +kernel
theorem dJ0_length_8abf5_5 : decode cJ0_length_8abf5 5 = .ok (.aload_n 0, 1) := by decide +kernel
theorem dJ0_length_8abf5_6 : decode cJ0_length_8abf5 6 = .ok (.invokevirtual 335, 3) := by decide +kernel
theorem dJ0_length_8abf5_9 : decode cJ0_length_8abf5 9 = .ok (.ishr, 1) := by decide +kernel
theorem dJ0_length_8abf5_10 : decode cJ0_length_8abf5 10 = .ok (.ireturn, 1) := by decide +kernel
theorem dJ0_charAt_5068e_0 : decode cJ0_charAt_5068e 0 = .ok (.aload_n 0, 1) := by decide +kernel
theorem dJ0_charAt_5068e_1 : decode cJ0_charAt_5068e 1 = .ok (.invokevirtual 492, 3) := by decide +kernel
theorem dJ0_charAt_5068e_4 : decode cJ0_charAt_5068e 4 = .ok (.ifCond .eq 12, 3) := by decide +kernel
theorem dJ0_charAt_5068e_7 : decode cJ0_charAt_5068e 7 = .ok (.aload_n 0, 1) := by decide +kernel
theorem dJ0_charAt_5068e_8 : decode cJ0_charAt_5068e 8 = .ok (.getfield 9, 3) := by decide +kernel
theorem dJ0_charAt_5068e_11 : decode cJ0_charAt_5068e 11 = .ok (.iload_n 1, 1) := by decide +kernel
theorem dJ0_charAt_5068e_12 : decode cJ0_charAt_5068e 12 = .ok (.invokestatic 495, 3) := by decide +kernel
theorem dJ0_charAt_5068e_15 : decode cJ0_charAt_5068e 15 = .ok (.ireturn, 1) := by decide +kernel
theorem dJ0_charAt_5068e_16 : decode cJ0_charAt_5068e 16 = .ok (.aload_n 0, 1) := by decide +kernel
theorem dJ0_charAt_5068e_17 : decode cJ0_charAt_5068e 17 = .ok (.getfield 9, 3) := by decide +kernel
theorem dJ0_charAt_5068e_20 : decode cJ0_charAt_5068e 20 = .ok (.iload_n 1, 1) := by decide +kernel
theorem dJ0_charAt_5068e_21 : decode cJ0_charAt_5068e 21 = .ok (.invokestatic 498, 3) := by decide +kernel
theorem dJ0_charAt_5068e_24 : decode cJ0_charAt_5068e 24 = .ok (.ireturn, 1) := by decide +kernel
theorem dJ0_coder_7d493_0 : decode cJ0_coder_7d493 0 = .ok (.getstatic 38, 3) := by decide +kernel
theorem dJ0_coder_7d493_3 : decode cJ0_coder_7d493 3 = .ok (.ifCond .eq 10, 3) := by decide +kernel
theorem dJ0_coder_7d493_6 : decode cJ0_coder_7d493 6 = .ok (.aload_n 0, 1) := by decide +kernel
theorem dJ0_coder_7d493_7 : decode cJ0_coder_7d493 7 = .ok (.getfield 15, 3) := by decide +kernel
theorem dJ0_coder_7d493_10 : decode cJ0_coder_7d493 10 = .ok (.goto 4, 3) := by decide +kernel
theorem dJ0_coder_7d493_13 : decode cJ0_coder_7d493 13 = .ok (.iconst 1, 1) := by decide +kernel
theorem dJ0_coder_7d493_14 : decode cJ0_coder_7d493 14 = .ok (.ireturn, 1) := by decide +kernel
theorem dJ0_isLatin1_aae02_0 : decode cJ0_isLatin1_aae02 0 = .ok (.getstatic 38, 3) := by decide +kernel
theorem dJ0_isLatin1_aae02_3 : decode cJ0_isLatin1_aae02 3 = .ok (.ifCond .eq 14, 3) := by decide +kernel
theorem dJ0_isLatin1_aae02_6 : decode cJ0_isLatin1_aae02 6 = .ok (.aload_n 0, 1) := by decide +kernel
theorem dJ0_isLatin1_aae02_7 : decode cJ0_isLatin1_aae02 7 = .ok (.getfield 15, 3) := by decide +kernel
theorem dJ0_isLatin1_aae02_10 : decode cJ0_isLatin1_aae02 10 = .ok (.ifCond .ne 7, 3) := by decide +kernel
theorem dJ0_isLatin1_aae02_13 : decode cJ0_isLatin1_aae02 13 = .ok (.iconst 1, 1) := by decide +kernel
theorem dJ0_isLatin1_aae02_14 : decode cJ0_isLatin1_aae02 14 = .ok (.goto 4, 3) := by decide +kernel
theorem dJ0_isLatin1_aae02_17 : decode cJ0_isLatin1_aae02 17 = .ok (.iconst 0, 1) := by decide +kernel
theorem dJ0_isLatin1_aae02_18 : decode cJ0_isLatin1_aae02 18 = .ok (.ireturn, 1) := by decide +kernel
theorem dJ0_checkIndex_df160_0 : decode cJ0_checkIndex_df160 0 = .ok (.iload_n 0, 1) := by decide +kernel
theorem dJ0_checkIndex_df160_1 : decode cJ0_checkIndex_df160 1 = .ok (.iload_n 1, 1) := by decide +kernel
theorem dJ0_checkIndex_df160_2 : decode cJ0_checkIndex_df160 2 = .ok (.getstatic 1053, 3) := by decide +kernel
theorem dJ0_checkIndex_df160_5 : decode cJ0_checkIndex_df160 5 = .ok (.invokestatic 1059, 3) := by decide +kernel
theorem dJ0_checkIndex_df160_8 : decode cJ0_checkIndex_df160 8 = .ok (.pop, 1) := by decide +kernel
theorem dJ0_checkIndex_df160_9 : decode cJ0_checkIndex_df160 9 = .ok (.return_, 1) := by decide +kernel
theorem dJ1_charAt_3b067_0 : decode cJ1_charAt_3b067 0 = .ok (.iload_n 1, 1) := by decide +kernel
theorem dJ1_charAt_3b067_1 : decode cJ1_charAt_3b067 1 = .ok (.aload_n 0, 1) := by decide +kernel
theorem dJ1_charAt_3b067_2 : decode cJ1_charAt_3b067 2 = .ok (.arraylength, 1) := by decide +kernel
theorem dJ1_charAt_3b067_3 : decode cJ1_charAt_3b067 3 = .ok (.invokestatic 9, 3) := by decide +kernel
theorem dJ1_charAt_3b067_6 : decode cJ1_charAt_3b067 6 = .ok (.aload_n 0, 1) := by decide +kernel
theorem dJ1_charAt_3b067_7 : decode cJ1_charAt_3b067 7 = .ok (.iload_n 1, 1) := by decide +kernel
theorem dJ1_charAt_3b067_8 : decode cJ1_charAt_3b067 8 = .ok (.baload, 1) := by decide +kernel
theorem dJ1_charAt_3b067_9 : decode cJ1_charAt_3b067 9 = .ok (.sipush 255, 3) := by decide +kernel
theorem dJ1_charAt_3b067_12 : decode cJ1_charAt_3b067 12 = .ok (.iand, 1) := by decide +kernel
theorem dJ1_charAt_3b067_13 : decode cJ1_charAt_3b067 13 = .ok (.i2c, 1) := by decide +kernel
theorem dJ1_charAt_3b067_14 : decode cJ1_charAt_3b067 14 = .ok (.ireturn, 1) := by decide +kernel
theorem dJ2_getChar_3b067_0 : decode cJ2_getChar_3b067 0 = .ok (.getstatic 44, 3) := by decide +kernel
theorem dJ2_getChar_3b067_3 : decode cJ2_getChar_3b067 3 = .ok (.ifCond .ne 25, 3) := by decide +kernel
theorem dJ2_getChar_3b067_6 : decode cJ2_getChar_3b067 6 = .ok (.iload_n 1, 1) := by decide +kernel
theorem dJ2_getChar_3b067_7 : decode cJ2_getChar_3b067 7 = .ok (.ifCond .lt 11, 3) := by decide +kernel
theorem dJ2_getChar_3b067_10 : decode cJ2_getChar_3b067 10 = .ok (.iload_n 1, 1) := by decide +kernel
theorem dJ2_getChar_3b067_11 : decode cJ2_getChar_3b067 11 = .ok (.aload_n 0, 1) := by decide +kernel
theorem dJ2_getChar_3b067_12 : decode cJ2_getChar_3b067 12 = .ok (.invokestatic 48, 3) := by decide +kernel
theorem dJ2_getChar_3b067_15 : decode cJ2_getChar_3b067 15 = .ok (.if_icmp .lt 13, 3) := by decide +kernel
theorem dJ2_getChar_3b067_18 : decode cJ2_getChar_3b067 18 = .ok (.new 52, 3) := by decide +kernel
theorem dJ2_getChar_3b067_21 : decode cJ2_getChar_3b067 21 = .ok (.dup, 1) := by decide +kernel
theorem dJ2_getChar_3b067_22 : decode cJ2_getChar_3b067 22 = .ok (.ldc 54, 2) := by decide +kernel
theorem dJ2_getChar_3b067_24 : decode cJ2_getChar_3b067 24 = .ok (.invokespecial 56, 3) := by decide +kernel
theorem dJ2_getChar_3b067_27 : decode cJ2_getChar_3b067 27 = .ok (.athrow, 1) := by decide +kernel
theorem dJ2_getChar_3b067_28 : decode cJ2_getChar_3b067 28 = .ok (.iload_n 1, 1) := by decide +kernel
theorem dJ2_getChar_3b067_29 : decode cJ2_getChar_3b067 29 = .ok (.iconst 1, 1) := by decide +kernel
theorem dJ2_getChar_3b067_30 : decode cJ2_getChar_3b067 30 = .ok (.ishl, 1) := by decide +kernel
theorem dJ2_getChar_3b067_31 : decode cJ2_getChar_3b067 31 = .ok (.istore_n 1, 1) := by decide +kernel
theorem dJ2_getChar_3b067_32 : decode cJ2_getChar_3b067 32 = .ok (.aload_n 0, 1) := by decide +kernel
theorem dJ2_getChar_3b067_33 : decode cJ2_getChar_3b067 33 = .ok (.iload_n 1, 1) := by decide +kernel
theorem dJ2_getChar_3b067_34 : decode cJ2_getChar_3b067 34 = .ok (.iinc 1 1, 3) := by decide +kernel
theorem dJ2_getChar_3b067_37 : decode cJ2_getChar_3b067 37 = .ok (.baload, 1) := by decide +kernel
theorem dJ2_getChar_3b067_38 : decode cJ2_getChar_3b067 38 = .ok (.sipush 255, 3) := by decide +kernel
theorem dJ2_getChar_3b067_41 : decode cJ2_getChar_3b067 41 = .ok (.iand, 1) := by decide +kernel
theorem dJ2_getChar_3b067_42 : decode cJ2_getChar_3b067 42 = .ok (.getstatic 59, 3) := by decide +kernel
theorem dJ2_getChar_3b067_45 : decode cJ2_getChar_3b067 45 = .ok (.ishl, 1) := by decide +kernel
theorem dJ2_getChar_3b067_46 : decode cJ2_getChar_3b067 46 = .ok (.aload_n 0, 1) := by decide +kernel
theorem dJ2_getChar_3b067_47 : decode cJ2_getChar_3b067 47 = .ok (.iload_n 1, 1) := by decide +kernel
theorem dJ2_getChar_3b067_48 : decode cJ2_getChar_3b067 48 = .ok (.baload, 1) := by decide +kernel
theorem dJ2_getChar_3b067_49 : decode cJ2_getChar_3b067 49 = .ok (.sipush 255, 3) := by decide +kernel
theorem dJ2_getChar_3b067_52 : decode cJ2_getChar_3b067 52 = .ok (.iand, 1) := by decide +kernel
theorem dJ2_getChar_3b067_53 : decode cJ2_getChar_3b067 53 = .ok (.getstatic 63, 3) := by decide +kernel
theorem dJ2_getChar_3b067_56 : decode cJ2_getChar_3b067 56 = .ok (.ishl, 1) := by decide +kernel
theorem dJ2_getChar_3b067_57 : decode cJ2_getChar_3b067 57 = .ok (.ior, 1) := by decide +kernel
theorem dJ2_getChar_3b067_58 : decode cJ2_getChar_3b067 58 = .ok (.i2c, 1) := by decide +kernel
theorem dJ2_getChar_3b067_59 : decode cJ2_getChar_3b067 59 = .ok (.ireturn, 1) := by decide +kernel
theorem dJ2_length_9d52b_0 : decode cJ2_length_9d52b 0 = .ok (.aload_n 0, 1) := by decide +kernel
theorem dJ2_length_9d52b_1 : decode cJ2_length_9d52b 1 = .ok (.arraylength, 1) := by decide +kernel
theorem dJ2_length_9d52b_2 : decode cJ2_length_9d52b 2 = .ok (.iconst 1, 1) := by decide +kernel
theorem dJ2_length_9d52b_3 : decode cJ2_length_9d52b 3 = .ok (.ishr, 1) := by decide +kernel
theorem dJ2_length_9d52b_4 : decode cJ2_length_9d52b 4 = .ok (.ireturn, 1) := by decide +kernel
theorem dJ2_charAt_3b067_0 : decode cJ2_charAt_3b067 0 = .ok (.iload_n 1, 1) := by decide +kernel
theorem dJ2_charAt_3b067_1 : decode cJ2_charAt_3b067 1 = .ok (.aload_n 0, 1) := by decide +kernel
theorem dJ2_charAt_3b067_2 : decode cJ2_charAt_3b067 2 = .ok (.invokestatic 67, 3) := by decide +kernel
theorem dJ2_charAt_3b067_5 : decode cJ2_charAt_3b067 5 = .ok (.aload_n 0, 1) := by decide +kernel
theorem dJ2_charAt_3b067_6 : decode cJ2_charAt_3b067 6 = .ok (.iload_n 1, 1) := by decide +kernel
theorem dJ2_charAt_3b067_7 : decode cJ2_charAt_3b067 7 = .ok (.invokestatic 71, 3) := by decide +kernel
theorem dJ2_charAt_3b067_10 : decode cJ2_charAt_3b067 10 = .ok (.ireturn, 1) := by decide +kernel
theorem dJ2_checkIndex_2214a_0 : decode cJ2_checkIndex_2214a 0 = .ok (.iload_n 0, 1) := by decide +kernel
theorem dJ2_checkIndex_2214a_1 : decode cJ2_checkIndex_2214a 1 = .ok (.aload_n 1, 1) := by decide +kernel
theorem dJ2_checkIndex_2214a_2 : decode cJ2_checkIndex_2214a 2 = .ok (.invokestatic 48, 3) := by decide +kernel
theorem dJ2_checkIndex_2214a_5 : decode cJ2_checkIndex_2214a 5 = .ok (.invokestatic 414, 3) := by decide +kernel
theorem dJ2_checkIndex_2214a_8 : decode cJ2_checkIndex_2214a 8 = .ok (.return_, 1) := by decide +kernel
theorem dJ7_fill_53178_0 : decode cJ7_fill_53178 0 = .ok (.iconst 0, 1) := by decide +kernel
theorem dJ7_fill_53178_1 : decode cJ7_fill_53178 1 = .ok (.istore_n 2, 1) := by decide +kernel
theorem dJ7_fill_53178_2 : decode cJ7_fill_53178 2 = .ok (.aload_n 0, 1) := by decide +kernel
theorem dJ7_fill_53178_3 : decode cJ7_fill_53178 3 = .ok (.arraylength, 1) := by decide +kernel
theorem dJ7_fill_53178_4 : decode cJ7_fill_53178 4 = .ok (.istore_n 3, 1) := by decide +kernel
theorem dJ7_fill_53178_5 : decode cJ7_fill_53178 5 = .ok (.iload_n 2, 1) := by decide +kernel
theorem dJ7_fill_53178_6 : decode cJ7_fill_53178 6 = .ok (.iload_n 3, 1) := by decide +kernel
theorem dJ7_fill_53178_7 : decode cJ7_fill_53178 7 = .ok (.if_icmp .ge 13, 3) := by decide +kernel
theorem dJ7_fill_53178_10 : decode cJ7_fill_53178 10 = .ok (.aload_n 0, 1) := by decide +kernel
theorem dJ7_fill_53178_11 : decode cJ7_fill_53178 11 = .ok (.iload_n 2, 1) := by decide +kernel
theorem dJ7_fill_53178_12 : decode cJ7_fill_53178 12 = .ok (.iload_n 1, 1) := by decide +kernel
theorem dJ7_fill_53178_13 : decode cJ7_fill_53178 13 = .ok (.iastore, 1) := by decide +kernel
theorem dJ7_fill_53178_14 : decode cJ7_fill_53178 14 = .ok (.iinc 2 1, 3) := by decide +kernel
theorem dJ7_fill_53178_17 : decode cJ7_fill_53178 17 = .ok (.goto (-12), 3) := by decide +kernel
theorem dJ7_fill_53178_20 : decode cJ7_fill_53178 20 = .ok (.return_, 1) := by decide +kernel
theorem dJ3_checkIndex_8e157_0 : decode cJ3_checkIndex_8e157 0 = .ok (.iload_n 0, 1) := by decide +kernel
theorem dJ3_checkIndex_8e157_1 : decode cJ3_checkIndex_8e157 1 = .ok (.ifCond .lt 8, 3) := by decide +kernel
theorem dJ3_checkIndex_8e157_4 : decode cJ3_checkIndex_8e157 4 = .ok (.iload_n 0, 1) := by decide +kernel
theorem dJ3_checkIndex_8e157_5 : decode cJ3_checkIndex_8e157 5 = .ok (.iload_n 1, 1) := by decide +kernel
theorem dJ3_checkIndex_8e157_6 : decode cJ3_checkIndex_8e157 6 = .ok (.if_icmp .lt 10, 3) := by decide +kernel
theorem dJ3_checkIndex_8e157_9 : decode cJ3_checkIndex_8e157 9 = .ok (.aload_n 2, 1) := by decide +kernel
theorem dJ3_checkIndex_8e157_10 : decode cJ3_checkIndex_8e157 10 = .ok (.iload_n 0, 1) := by decide +kernel
theorem dJ3_checkIndex_8e157_11 : decode cJ3_checkIndex_8e157 11 = .ok (.iload_n 1, 1) := by decide +kernel
theorem dJ3_checkIndex_8e157_12 : decode cJ3_checkIndex_8e157 12 = .ok (.invokestatic 95, 3) := by decide +kernel
theorem dJ3_checkIndex_8e157_15 : decode cJ3_checkIndex_8e157 15 = .ok (.athrow, 1) := by decide +kernel
theorem dJ3_checkIndex_8e157_16 : decode cJ3_checkIndex_8e157 16 = .ok (.iload_n 0, 1) := by decide +kernel
theorem dJ3_checkIndex_8e157_17 : decode cJ3_checkIndex_8e157 17 = .ok (.ireturn, 1) := by decide +kernel
end
section
theorem dX12_init_0 : decode cX12_init 0 = .ok (.aload_n 0, 1) := by decide +kernel
theorem dX12_init_1 : decode cX12_init 1 = .ok (.invokespecial 1, 3) := by decide +kernel
theorem dX12_init_4 : decode cX12_init 4 = .ok (.aload_n 0, 1) := by decide +kernel
theorem dX12_init_5 : decode cX12_init 5 = .ok (.sipush 221, 3) := by decide +kernel
theorem dX12_init_8 : decode cX12_init 8 = .ok (.newarray .int, 2) := by decide +kernel
theorem dX12_init_10 : decode cX12_init 10 = .ok (.putfield 7, 3) := by decide +kernel
theorem dX12_init_13 : decode cX12_init 13 = .ok (.aload_n 0, 1) := by decide +kernel
theorem dX12_init_14 : decode cX12_init 14 = .ok (.sipush 442, 3) := by decide +kernel
theorem dX12_init_17 : decode cX12_init 17 = .ok (.newarray .int, 2) := by decide +kernel
theorem dX12_init_19 : decode cX12_init 19 = .ok (.putfield 13, 3) := by decide +kernel
theorem dX12_init_22 : decode cX12_init 22 = .ok (.aload_n 0, 1) := by decide +kernel
theorem dX12_init_23 : decode cX12_init 23 = .ok (.iconst 2, 1) := by decide +kernel
theorem dX12_init_24 : decode cX12_init 24 = .ok (.newarray .boolean, 2) := by decide +kernel
theorem dX12_init_26 : decode cX12_init 26 = .ok (.putfield 16, 3) := by decide +kernel
theorem dX12_init_29 : decode cX12_init 29 = .ok (.aload_n 0, 1) := by decide +kernel
theorem dX12_init_30 : decode cX12_init 30 = .ok (.iconst 3, 1) := by decide +kernel
theorem dX12_init_31 : decode cX12_init 31 = .ok (.newarray .int, 2) := by decide +kernel
theorem dX12_init_33 : decode cX12_init 33 = .ok (.putfield 20, 3) := by decide +kernel
theorem dX12_init_36 : decode cX12_init 36 = .ok (.aload_n 0, 1) := by decide +kernel
theorem dX12_init_37 : decode cX12_init 37 = .ok (.lconst 1, 1) := by decide +kernel
theorem dX12_init_38 : decode cX12_init 38 = .ok (.putfield 23, 3) := by decide +kernel
theorem dX12_init_41 : decode cX12_init 41 = .ok (.aload_n 0, 1) := by decide +kernel
theorem dX12_init_42 : decode cX12_init 42 = .ok (.bipush 8, 2) := by decide +kernel
theorem dX12_init_44 : decode cX12_init 44 = .ok (.newarray .int, 2) := by decide +kernel
theorem dX12_init_46 : decode cX12_init 46 = .ok (.putfield 27, 3) := by decide +kernel
theorem dX12_init_49 : decode cX12_init 49 = .ok (.aload_n 0, 1) := by decide +kernel
theorem dX12_init_50 : decode cX12_init 50 = .ok (.bipush 8, 2) := by decide +kernel
theorem dX12_init_52 : decode cX12_init 52 = .ok (.newarray .int, 2) := by decide +kernel
theorem dX12_init_54 : decode cX12_init 54 = .ok (.putfield 30, 3) := by decide +kernel
theorem dX12_init_57 : decode cX12_init 57 = .ok (.aload_n 0, 1) := by decide +kernel
theorem dX12_init_58 : decode cX12_init 58 = .ok (.bipush 6, 2) := by decide +kernel
theorem dX12_init_60 : decode cX12_init 60 = .ok (.newarray .int, 2) := by decide +kernel
theorem dX12_init_62 : decode cX12_init 62 = .ok (.putfield 33, 3) := by decide +kernel
theorem dX12_init_65 : decode cX12_init 65 = .ok (.aload_n 0, 1) := by decide +kernel
theorem dX12_init_66 : decode cX12_init 66 = .ok (.bipush 6, 2) := by decide +kernel
theorem dX12_init_68 : decode cX12_init 68 = .ok (.newarray .int, 2) := by decide +kernel
theorem dX12_init_70 : decode cX12_init 70 = .ok (.putfield 36, 3) := by decide +kernel
theorem dX12_init_73 : decode cX12_init 73 = .ok (.aload_n 0, 1) := by decide +kernel
theorem dX12_init_74 : decode cX12_init 74 = .ok (.iconst 5, 1) := by decide +kernel
theorem dX12_init_75 : decode cX12_init 75 = .ok (.newarray .int, 2) := by decide +kernel
theorem dX12_init_77 : decode cX12_init 77 = .ok (.putfield 39, 3) := by decide +kernel
theorem dX12_init_80 : decode cX12_init 80 = .ok (.aload_n 0, 1) := by decide +kernel
theorem dX12_init_81 : decode cX12_init 81 = .ok (.iconst 5, 1) := by decide +kernel
theorem dX12_init_82 : decode cX12_init 82 = .ok (.newarray .int, 2) := by decide +kernel
theorem dX12_init_84 : decode cX12_init 84 = .ok (.putfield 42, 3) := by decide +kernel
theorem dX12_init_87 : decode cX12_init 87 = .ok (.aload_n 0, 1) := by decide +kernel
theorem dX12_init_88 : decode cX12_init 88 = .ok (.bipush 40, 2) := by decide +kernel
theorem dX12_init_90 : decode cX12_init 90 = .ok (.newarray .int, 2) := by decide +kernel
theorem dX12_init_92 : decode cX12_init 92 = .ok (.putfield 45, 3) := by decide +kernel
theorem dX12_init_95 : decode cX12_init 95 = .ok (.aload_n 0, 1) := by decide +kernel
theorem dX12_init_96 : decode cX12_init 96 = .ok (.bipush 40, 2) := by decide +kernel
theorem dX12_init_98 : decode cX12_init 98 = .ok (.newarray .int, 2) := by decide +kernel
theorem dX12_init_100 : decode cX12_init 100 = .ok (.putfield 48, 3) := by decide +kernel
theorem dX12_init_103 : decode cX12_init 103 = .ok (.aload_n 0, 1) := by decide +kernel
theorem dX12_init_104 : decode cX12_init 104 = .ok (.sipush 150, 3) := by decide +kernel
theorem dX12_init_107 : decode cX12_init 107 = .ok (.newarray .int, 2) := by decide +kernel
theorem dX12_init_109 : decode cX12_init 109 = .ok (.putfield 51, 3) := by decide +kernel
theorem dX12_init_112 : decode cX12_init 112 = .ok (.aload_n 0, 1) := by decide +kernel
theorem dX12_init_113 : decode cX12_init 113 = .ok (.bipush 69, 2) := by decide +kernel
theorem dX12_init_115 : decode cX12_init 115 = .ok (.newarray .int, 2) := by decide +kernel
theorem dX12_init_117 : decode cX12_init 117 = .ok (.putfield 54, 3) := by decide +kernel
theorem dX12_init_120 : decode cX12_init 120 = .ok (.aload_n 0, 1) := by decide +kernel
theorem dX12_init_121 : decode cX12_init 121 = .ok (.iconst 3, 1) := by decide +kernel
theorem dX12_init_122 : decode cX12_init 122 = .ok (.newarray .int, 2) := by decide +kernel
theorem dX12_init_124 : decode cX12_init 124 = .ok (.putfield 57, 3) := by decide +kernel
theorem dX12_init_127 : decode cX12_init 127 = .ok (.aload_n 0, 1) := by decide +kernel
theorem dX12_init_128 : decode cX12_init 128 = .ok (.getfield 7, 3) := by decide +kernel
theorem dX12_init_131 : decode cX12_init 131 = .ok (.invokestatic 60, 3) := by decide +kernel
theorem dX12_init_134 : decode cX12_init 134 = .ok (.return_, 1) := by decide +kernel
theorem dX12_in_0 : decode cX12_in 0 = .ok (.lload_n 0, 1) := by decide +kernel
theorem dX12_in_1 : decode cX12_in 1 = .ok (.lload_n 2, 1) := by decide +kernel
theorem dX12_in_2 : decode cX12_in 2 = .ok (.lcmp, 1) := by decide +kernel
theorem dX12_in_3 : decode cX12_in 3 = .ok (.ifCond .lt 14, 3) := by decide +kernel
theorem dX12_in_6 : decode cX12_in 6 = .ok (.lload_n 0, 1) := by decide +kernel
theorem dX12_in_7 : decode cX12_in 7 = .ok (.lload 4, 2) := by decide +kernel
theorem dX12_in_9 : decode cX12_in 9 = .ok (.lcmp, 1) := by decide +kernel
theorem dX12_in_10 : decode cX12_in 10 = .ok (.ifCond .gt 7, 3) := by decide +kernel
theorem dX12_in_13 : decode cX12_in 13 = .ok (.iconst 1, 1) := by decide +kernel
theorem dX12_in_14 : decode cX12_in 14 = .ok (.goto 4, 3) := by decide +kernel
theorem dX12_in_17 : decode cX12_in 17 = .ok (.iconst 0, 1) := by decide +kernel
theorem dX12_in_18 : decode cX12_in 18 = .ok (.ireturn, 1) := by decide +kernel
theorem dX12_bad_0 : decode cX12_bad 0 = .ok (.aload_n 0, 1) := by decide +kernel
theorem dX12_bad_1 : decode cX12_bad 1 = .ok (.getfield 20, 3) := by decide +kernel
theorem dX12_bad_4 : decode cX12_bad 4 = .ok (.iconst 0, 1) := by decide +kernel
theorem dX12_bad_5 : decode cX12_bad 5 = .ok (.dup2, 1) := by decide +kernel
theorem dX12_bad_6 : decode cX12_bad 6 = .ok (.iaload, 1) := by decide +kernel
theorem dX12_bad_7 : decode cX12_bad 7 = .ok (.iconst 1, 1) := by decide +kernel
theorem dX12_bad_8 : decode cX12_bad 8 = .ok (.iadd, 1) := by decide +kernel
theorem dX12_bad_9 : decode cX12_bad 9 = .ok (.iastore, 1) := by decide +kernel
theorem dX12_bad_10 : decode cX12_bad 10 = .ok (.iload_n 1, 1) := by decide +kernel
theorem dX12_bad_11 : decode cX12_bad 11 = .ok (.ireturn, 1) := by decide +kernel
theorem dX12_no_0 : decode cX12_no 0 = .ok (.aload_n 0, 1) := by decide +kernel
theorem dX12_no_1 : decode cX12_no 1 = .ok (.getfield 20, 3) := by decide +kernel
theorem dX12_no_4 : decode cX12_no 4 = .ok (.iconst 1, 1) := by decide +kernel
theorem dX12_no_5 : decode cX12_no 5 = .ok (.dup2, 1) := by decide +kernel
theorem dX12_no_6 : decode cX12_no 6 = .ok (.iaload, 1) := by decide +kernel
theorem dX12_no_7 : decode cX12_no 7 = .ok (.iconst 1, 1) := by decide +kernel
theorem dX12_no_8 : decode cX12_no 8 = .ok (.iadd, 1) := by decide +kernel
theorem dX12_no_9 : decode cX12_no 9 = .ok (.iastore, 1) := by decide +kernel
theorem dX12_no_10 : decode cX12_no 10 = .ok (.bipush (-3), 2) := by decide +kernel
theorem dX12_no_12 : decode cX12_no 12 = .ok (.ireturn, 1) := by decide +kernel
theorem dX12_full_0 : decode cX12_full 0 = .ok (.aload_n 0, 1) := by decide +kernel
theorem dX12_full_1 : decode cX12_full 1 = .ok (.getfield 20, 3) := by decide +kernel
theorem dX12_full_4 : decode cX12_full 4 = .ok (.iconst 2, 1) := by decide +kernel
theorem dX12_full_5 : decode cX12_full 5 = .ok (.dup2, 1) := by decide +kernel
theorem dX12_full_6 : decode cX12_full 6 = .ok (.iaload, 1) := by decide +kernel
theorem dX12_full_7 : decode cX12_full 7 = .ok (.iconst 1, 1) := by decide +kernel
theorem dX12_full_8 : decode cX12_full 8 = .ok (.iadd, 1) := by decide +kernel
theorem dX12_full_9 : decode cX12_full 9 = .ok (.iastore, 1) := by decide +kernel
theorem dX12_full_10 : decode cX12_full 10 = .ok (.bipush (-4), 2) := by decide +kernel
theorem dX12_full_12 : decode cX12_full 12 = .ok (.ireturn, 1) := by decide +kernel
theorem dX12_begin_0 : decode cX12_begin 0 = .ok (.iconst 0, 1) := by decide +kernel
theorem dX12_begin_1 : decode cX12_begin 1 = .ok (.istore_n 1, 1) := by decide +kernel
theorem dX12_begin_2 : decode cX12_begin 2 = .ok (.iload_n 1, 1) := by decide +kernel
theorem dX12_begin_3 : decode cX12_begin 3 = .ok (.bipush 69, 2) := by decide +kernel
theorem dX12_begin_5 : decode cX12_begin 5 = .ok (.if_icmp .ge 13, 3) := by decide +kernel
theorem dX12_begin_8 : decode cX12_begin 8 = .ok (.aload_n 0, 1) := by decide +kernel
theorem dX12_begin_9 : decode cX12_begin 9 = .ok (.iload_n 1, 1) := by decide +kernel
theorem dX12_begin_10 : decode cX12_begin 10 = .ok (.iconst 0, 1) := by decide +kernel
theorem dX12_begin_11 : decode cX12_begin 11 = .ok (.iastore, 1) := by decide +kernel
theorem dX12_begin_12 : decode cX12_begin 12 = .ok (.iinc 1 1, 3) := by decide +kernel
theorem dX12_begin_15 : decode cX12_begin 15 = .ok (.goto (-13), 3) := by decide +kernel
theorem dX12_begin_18 : decode cX12_begin 18 = .ok (.aload_n 0, 1) := by decide +kernel
theorem dX12_begin_19 : decode cX12_begin 19 = .ok (.iconst 5, 1) := by decide +kernel
theorem dX12_begin_20 : decode cX12_begin 20 = .ok (.iconst (-1), 1) := by decide +kernel
theorem dX12_begin_21 : decode cX12_begin 21 = .ok (.iastore, 1) := by decide +kernel
theorem dX12_begin_22 : decode cX12_begin 22 = .ok (.return_, 1) := by decide +kernel
theorem dX12_ledges_0 : decode cX12_ledges 0 = .ok (.aload_n 0, 1) := by decide +kernel
theorem dX12_ledges_1 : decode cX12_ledges 1 = .ok (.getfield 7, 3) := by decide +kernel
theorem dX12_ledges_4 : decode cX12_ledges 4 = .ok (.iconst 0, 1) := by decide +kernel
theorem dX12_ledges_5 : decode cX12_ledges 5 = .ok (.iaload, 1) := by decide +kernel
theorem dX12_ledges_6 : decode cX12_ledges 6 = .ok (.ireturn, 1) := by decide +kernel
theorem dX12_voters_0 : decode cX12_voters 0 = .ok (.aload_n 0, 1) := by decide +kernel
theorem dX12_voters_1 : decode cX12_voters 1 = .ok (.getfield 7, 3) := by decide +kernel
theorem dX12_voters_4 : decode cX12_voters 4 = .ok (.iconst 1, 1) := by decide +kernel
theorem dX12_voters_5 : decode cX12_voters 5 = .ok (.iaload, 1) := by decide +kernel
theorem dX12_voters_6 : decode cX12_voters 6 = .ok (.ireturn, 1) := by decide +kernel
theorem dX12_isLedge_0 : decode cX12_isLedge 0 = .ok (.iload_n 1, 1) := by decide +kernel
theorem dX12_isLedge_1 : decode cX12_isLedge 1 = .ok (.i2l, 1) := by decide +kernel
theorem dX12_isLedge_2 : decode cX12_isLedge 2 = .ok (.lconst 0, 1) := by decide +kernel
theorem dX12_isLedge_3 : decode cX12_isLedge 3 = .ok (.aload_n 0, 1) := by decide +kernel
theorem dX12_isLedge_4 : decode cX12_isLedge 4 = .ok (.invokevirtual 64, 3) := by decide +kernel
theorem dX12_isLedge_7 : decode cX12_isLedge 7 = .ok (.iconst 1, 1) := by decide +kernel
theorem dX12_isLedge_8 : decode cX12_isLedge 8 = .ok (.isub, 1) := by decide +kernel
theorem dX12_isLedge_9 : decode cX12_isLedge 9 = .ok (.i2l, 1) := by decide +kernel
theorem dX12_isLedge_10 : decode cX12_isLedge 10 = .ok (.invokestatic 68, 3) := by decide +kernel
theorem dX12_isLedge_13 : decode cX12_isLedge 13 = .ok (.ireturn, 1) := by decide +kernel
theorem dX12_isVoter_0 : decode cX12_isVoter 0 = .ok (.iload_n 1, 1) := by decide +kernel
theorem dX12_isVoter_1 : decode cX12_isVoter 1 = .ok (.i2l, 1) := by decide +kernel
theorem dX12_isVoter_2 : decode cX12_isVoter 2 = .ok (.lconst 0, 1) := by decide +kernel
theorem dX12_isVoter_3 : decode cX12_isVoter 3 = .ok (.aload_n 0, 1) := by decide +kernel
theorem dX12_isVoter_4 : decode cX12_isVoter 4 = .ok (.invokevirtual 72, 3) := by decide +kernel
theorem dX12_isVoter_7 : decode cX12_isVoter 7 = .ok (.iconst 1, 1) := by decide +kernel
theorem dX12_isVoter_8 : decode cX12_isVoter 8 = .ok (.isub, 1) := by decide +kernel
theorem dX12_isVoter_9 : decode cX12_isVoter 9 = .ok (.i2l, 1) := by decide +kernel
theorem dX12_isVoter_10 : decode cX12_isVoter 10 = .ok (.invokestatic 68, 3) := by decide +kernel
theorem dX12_isVoter_13 : decode cX12_isVoter 13 = .ok (.ireturn, 1) := by decide +kernel
theorem dX12_get_0 : decode cX12_get 0 = .ok (.aload_n 0, 1) := by decide +kernel
theorem dX12_get_1 : decode cX12_get 1 = .ok (.getfield 7, 3) := by decide +kernel
theorem dX12_get_4 : decode cX12_get 4 = .ok (.bipush 7, 2) := by decide +kernel
theorem dX12_get_6 : decode cX12_get 6 = .ok (.iconst 4, 1) := by decide +kernel
theorem dX12_get_7 : decode cX12_get 7 = .ok (.iload_n 1, 1) := by decide +kernel
theorem dX12_get_8 : decode cX12_get 8 = .ok (.imul, 1) := by decide +kernel
theorem dX12_get_9 : decode cX12_get 9 = .ok (.iadd, 1) := by decide +kernel
theorem dX12_get_10 : decode cX12_get 10 = .ok (.iload_n 2, 1) := by decide +kernel
theorem dX12_get_11 : decode cX12_get 11 = .ok (.iadd, 1) := by decide +kernel
theorem dX12_get_12 : decode cX12_get 12 = .ok (.iaload, 1) := by decide +kernel
theorem dX12_get_13 : decode cX12_get 13 = .ok (.ireturn, 1) := by decide +kernel
theorem dX12_tells_0 : decode cX12_tells 0 = .ok (.aload_n 0, 1) := by decide +kernel
theorem dX12_tells_1 : decode cX12_tells 1 = .ok (.getfield 7, 3) := by decide +kernel
theorem dX12_tells_4 : decode cX12_tells 4 = .ok (.bipush 39, 2) := by decide +kernel
theorem dX12_tells_6 : decode cX12_tells 6 = .ok (.iconst 3, 1) := by decide +kernel
theorem dX12_tells_7 : decode cX12_tells 7 = .ok (.iload_n 1, 1) := by decide +kernel
theorem dX12_tells_8 : decode cX12_tells 8 = .ok (.imul, 1) := by decide +kernel
theorem dX12_tells_9 : decode cX12_tells 9 = .ok (.iadd, 1) := by decide +kernel
theorem dX12_tells_10 : decode cX12_tells 10 = .ok (.iload_n 2, 1) := by decide +kernel
theorem dX12_tells_11 : decode cX12_tells 11 = .ok (.iadd, 1) := by decide +kernel
theorem dX12_tells_12 : decode cX12_tells 12 = .ok (.iaload, 1) := by decide +kernel
theorem dX12_tells_13 : decode cX12_tells 13 = .ok (.ireturn, 1) := by decide +kernel
theorem dX12_mountain_0 : decode cX12_mountain 0 = .ok (.aload_n 0, 1) := by decide +kernel
theorem dX12_mountain_1 : decode cX12_mountain 1 = .ok (.invokevirtual 64, 3) := by decide +kernel
theorem dX12_mountain_4 : decode cX12_mountain 4 = .ok (.istore_n 1, 1) := by decide +kernel
theorem dX12_mountain_5 : decode cX12_mountain 5 = .ok (.aload_n 0, 1) := by decide +kernel
theorem dX12_mountain_6 : decode cX12_mountain 6 = .ok (.getfield 7, 3) := by decide +kernel
theorem dX12_mountain_9 : decode cX12_mountain 9 = .ok (.invokestatic 60, 3) := by decide +kernel
theorem dX12_mountain_12 : decode cX12_mountain 12 = .ok (.iload_n 1, 1) := by decide +kernel
theorem dX12_mountain_13 : decode cX12_mountain 13 = .ok (.ireturn, 1) := by decide +kernel
theorem dX12_layLedge_0 : decode cX12_layLedge 0 = .ok (.bipush 7, 2) := by decide +kernel
theorem dX12_layLedge_2 : decode cX12_layLedge 2 = .ok (.iconst 4, 1) := by decide +kernel
theorem dX12_layLedge_3 : decode cX12_layLedge 3 = .ok (.aload_n 0, 1) := by decide +kernel
theorem dX12_layLedge_4 : decode cX12_layLedge 4 = .ok (.iconst 0, 1) := by decide +kernel
theorem dX12_layLedge_5 : decode cX12_layLedge 5 = .ok (.iaload, 1) := by decide +kernel
theorem dX12_layLedge_6 : decode cX12_layLedge 6 = .ok (.imul, 1) := by decide +kernel
theorem dX12_layLedge_7 : decode cX12_layLedge 7 = .ok (.iadd, 1) := by decide +kernel
theorem dX12_layLedge_8 : decode cX12_layLedge 8 = .ok (.istore 4, 2) := by decide +kernel
theorem dX12_layLedge_10 : decode cX12_layLedge 10 = .ok (.aload_n 0, 1) := by decide +kernel
theorem dX12_layLedge_11 : decode cX12_layLedge 11 = .ok (.iload 4, 2) := by decide +kernel
theorem dX12_layLedge_13 : decode cX12_layLedge 13 = .ok (.iconst 0, 1) := by decide +kernel
theorem dX12_layLedge_14 : decode cX12_layLedge 14 = .ok (.iadd, 1) := by decide +kernel
theorem dX12_layLedge_15 : decode cX12_layLedge 15 = .ok (.iload_n 1, 1) := by decide +kernel
theorem dX12_layLedge_16 : decode cX12_layLedge 16 = .ok (.iastore, 1) := by decide +kernel
theorem dX12_layLedge_17 : decode cX12_layLedge 17 = .ok (.aload_n 0, 1) := by decide +kernel
theorem dX12_layLedge_18 : decode cX12_layLedge 18 = .ok (.iload 4, 2) := by decide +kernel
theorem dX12_layLedge_20 : decode cX12_layLedge 20 = .ok (.iconst 1, 1) := by decide +kernel
theorem dX12_layLedge_21 : decode cX12_layLedge 21 = .ok (.iadd, 1) := by decide +kernel
theorem dX12_layLedge_22 : decode cX12_layLedge 22 = .ok (.iload_n 2, 1) := by decide +kernel
theorem dX12_layLedge_23 : decode cX12_layLedge 23 = .ok (.iastore, 1) := by decide +kernel
theorem dX12_layLedge_24 : decode cX12_layLedge 24 = .ok (.aload_n 0, 1) := by decide +kernel
theorem dX12_layLedge_25 : decode cX12_layLedge 25 = .ok (.iload 4, 2) := by decide +kernel
theorem dX12_layLedge_27 : decode cX12_layLedge 27 = .ok (.iconst 2, 1) := by decide +kernel
theorem dX12_layLedge_28 : decode cX12_layLedge 28 = .ok (.iadd, 1) := by decide +kernel
theorem dX12_layLedge_29 : decode cX12_layLedge 29 = .ok (.iconst 0, 1) := by decide +kernel
theorem dX12_layLedge_30 : decode cX12_layLedge 30 = .ok (.iastore, 1) := by decide +kernel
theorem dX12_layLedge_31 : decode cX12_layLedge 31 = .ok (.aload_n 0, 1) := by decide +kernel
theorem dX12_layLedge_32 : decode cX12_layLedge 32 = .ok (.iload 4, 2) := by decide +kernel
theorem dX12_layLedge_34 : decode cX12_layLedge 34 = .ok (.iconst 3, 1) := by decide +kernel
theorem dX12_layLedge_35 : decode cX12_layLedge 35 = .ok (.iadd, 1) := by decide +kernel
theorem dX12_layLedge_36 : decode cX12_layLedge 36 = .ok (.iload_n 3, 1) := by decide +kernel
theorem dX12_layLedge_37 : decode cX12_layLedge 37 = .ok (.iastore, 1) := by decide +kernel
theorem dX12_layLedge_38 : decode cX12_layLedge 38 = .ok (.aload_n 0, 1) := by decide +kernel
theorem dX12_layLedge_39 : decode cX12_layLedge 39 = .ok (.iconst 0, 1) := by decide +kernel
theorem dX12_layLedge_40 : decode cX12_layLedge 40 = .ok (.dup2, 1) := by decide +kernel
theorem dX12_layLedge_41 : decode cX12_layLedge 41 = .ok (.iaload, 1) := by decide +kernel
theorem dX12_layLedge_42 : decode cX12_layLedge 42 = .ok (.iconst 1, 1) := by decide +kernel
theorem dX12_layLedge_43 : decode cX12_layLedge 43 = .ok (.iadd, 1) := by decide +kernel
theorem dX12_layLedge_44 : decode cX12_layLedge 44 = .ok (.iastore, 1) := by decide +kernel
theorem dX12_layLedge_45 : decode cX12_layLedge 45 = .ok (.return_, 1) := by decide +kernel
theorem dX12_ledge_0 : decode cX12_ledge 0 = .ok (.iload_n 1, 1) := by decide +kernel
theorem dX12_ledge_1 : decode cX12_ledge 1 = .ok (.i2l, 1) := by decide +kernel
theorem dX12_ledge_2 : decode cX12_ledge 2 = .ok (.lconst 1, 1) := by decide +kernel
theorem dX12_ledge_3 : decode cX12_ledge 3 = .ok (.ldc2_w 75, 3) := by decide +kernel
theorem dX12_ledge_6 : decode cX12_ledge 6 = .ok (.invokestatic 68, 3) := by decide +kernel
theorem dX12_ledge_9 : decode cX12_ledge 9 = .ok (.ifCond .eq 33, 3) := by decide +kernel
theorem dX12_ledge_12 : decode cX12_ledge 12 = .ok (.iload_n 2, 1) := by decide +kernel
theorem dX12_ledge_13 : decode cX12_ledge 13 = .ok (.i2l, 1) := by decide +kernel
theorem dX12_ledge_14 : decode cX12_ledge 14 = .ok (.lconst 0, 1) := by decide +kernel
theorem dX12_ledge_15 : decode cX12_ledge 15 = .ok (.ldc2_w 77, 3) := by decide +kernel
theorem dX12_ledge_18 : decode cX12_ledge 18 = .ok (.invokestatic 68, 3) := by decide +kernel
theorem dX12_ledge_21 : decode cX12_ledge 21 = .ok (.ifCond .eq 21, 3) := by decide +kernel
theorem dX12_ledge_24 : decode cX12_ledge 24 = .ok (.iload_n 3, 1) := by decide +kernel
theorem dX12_ledge_25 : decode cX12_ledge 25 = .ok (.i2l, 1) := by decide +kernel
theorem dX12_ledge_26 : decode cX12_ledge 26 = .ok (.ldc2_w 79, 3) := by decide +kernel
theorem dX12_ledge_29 : decode cX12_ledge 29 = .ok (.aload_n 0, 1) := by decide +kernel
theorem dX12_ledge_30 : decode cX12_ledge 30 = .ok (.invokevirtual 64, 3) := by decide +kernel
theorem dX12_ledge_33 : decode cX12_ledge 33 = .ok (.iconst 1, 1) := by decide +kernel
theorem dX12_ledge_34 : decode cX12_ledge 34 = .ok (.isub, 1) := by decide +kernel
theorem dX12_ledge_35 : decode cX12_ledge 35 = .ok (.i2l, 1) := by decide +kernel
theorem dX12_ledge_36 : decode cX12_ledge 36 = .ok (.invokestatic 68, 3) := by decide +kernel
theorem dX12_ledge_39 : decode cX12_ledge 39 = .ok (.ifCond .ne 10, 3) := by decide +kernel
theorem dX12_ledge_42 : decode cX12_ledge 42 = .ok (.aload_n 0, 1) := by decide +kernel
theorem dX12_ledge_43 : decode cX12_ledge 43 = .ok (.bipush (-2), 2) := by decide +kernel
theorem dX12_ledge_45 : decode cX12_ledge 45 = .ok (.invokevirtual 81, 3) := by decide +kernel
theorem dX12_ledge_48 : decode cX12_ledge 48 = .ok (.ireturn, 1) := by decide +kernel
theorem dX12_ledge_49 : decode cX12_ledge 49 = .ok (.aload_n 0, 1) := by decide +kernel
theorem dX12_ledge_50 : decode cX12_ledge 50 = .ok (.invokevirtual 64, 3) := by decide +kernel
theorem dX12_ledge_53 : decode cX12_ledge 53 = .ok (.bipush 8, 2) := by decide +kernel
theorem dX12_ledge_55 : decode cX12_ledge 55 = .ok (.if_icmp .ne 8, 3) := by decide +kernel
theorem dX12_ledge_58 : decode cX12_ledge 58 = .ok (.aload_n 0, 1) := by decide +kernel
theorem dX12_ledge_59 : decode cX12_ledge 59 = .ok (.invokevirtual 85, 3) := by decide +kernel
theorem dX12_ledge_62 : decode cX12_ledge 62 = .ok (.ireturn, 1) := by decide +kernel
theorem dX12_ledge_63 : decode cX12_ledge 63 = .ok (.aload_n 0, 1) := by decide +kernel
theorem dX12_ledge_64 : decode cX12_ledge 64 = .ok (.getfield 7, 3) := by decide +kernel
theorem dX12_ledge_67 : decode cX12_ledge 67 = .ok (.iload_n 1, 1) := by decide +kernel
theorem dX12_ledge_68 : decode cX12_ledge 68 = .ok (.iload_n 2, 1) := by decide +kernel
theorem dX12_ledge_69 : decode cX12_ledge 69 = .ok (.iload_n 3, 1) := by decide +kernel
theorem dX12_ledge_70 : decode cX12_ledge 70 = .ok (.invokestatic 88, 3) := by decide +kernel
theorem dX12_ledge_73 : decode cX12_ledge 73 = .ok (.aload_n 0, 1) := by decide +kernel
theorem dX12_ledge_74 : decode cX12_ledge 74 = .ok (.getfield 7, 3) := by decide +kernel
theorem dX12_ledge_77 : decode cX12_ledge 77 = .ok (.iconst 4, 1) := by decide +kernel
theorem dX12_ledge_78 : decode cX12_ledge 78 = .ok (.iconst 0, 1) := by decide +kernel
theorem dX12_ledge_79 : decode cX12_ledge 79 = .ok (.iastore, 1) := by decide +kernel
theorem dX12_ledge_80 : decode cX12_ledge 80 = .ok (.aload_n 0, 1) := by decide +kernel
theorem dX12_ledge_81 : decode cX12_ledge 81 = .ok (.invokevirtual 64, 3) := by decide +kernel
theorem dX12_ledge_84 : decode cX12_ledge 84 = .ok (.iconst 1, 1) := by decide +kernel
theorem dX12_ledge_85 : decode cX12_ledge 85 = .ok (.isub, 1) := by decide +kernel
theorem dX12_ledge_86 : decode cX12_ledge 86 = .ok (.ireturn, 1) := by decide +kernel
theorem dX12_layVoter_0 : decode cX12_layVoter 0 = .ok (.bipush 39, 2) := by decide +kernel
theorem dX12_layVoter_2 : decode cX12_layVoter 2 = .ok (.iconst 3, 1) := by decide +kernel
theorem dX12_layVoter_3 : decode cX12_layVoter 3 = .ok (.aload_n 0, 1) := by decide +kernel
theorem dX12_layVoter_4 : decode cX12_layVoter 4 = .ok (.iconst 1, 1) := by decide +kernel
theorem dX12_layVoter_5 : decode cX12_layVoter 5 = .ok (.iaload, 1) := by decide +kernel
theorem dX12_layVoter_6 : decode cX12_layVoter 6 = .ok (.imul, 1) := by decide +kernel
theorem dX12_layVoter_7 : decode cX12_layVoter 7 = .ok (.iadd, 1) := by decide +kernel
theorem dX12_layVoter_8 : decode cX12_layVoter 8 = .ok (.istore 4, 2) := by decide +kernel
theorem dX12_layVoter_10 : decode cX12_layVoter 10 = .ok (.aload_n 0, 1) := by decide +kernel
theorem dX12_layVoter_11 : decode cX12_layVoter 11 = .ok (.iload 4, 2) := by decide +kernel
theorem dX12_layVoter_13 : decode cX12_layVoter 13 = .ok (.iconst 0, 1) := by decide +kernel
theorem dX12_layVoter_14 : decode cX12_layVoter 14 = .ok (.iadd, 1) := by decide +kernel
theorem dX12_layVoter_15 : decode cX12_layVoter 15 = .ok (.iload_n 1, 1) := by decide +kernel
theorem dX12_layVoter_16 : decode cX12_layVoter 16 = .ok (.iastore, 1) := by decide +kernel
theorem dX12_layVoter_17 : decode cX12_layVoter 17 = .ok (.aload_n 0, 1) := by decide +kernel
theorem dX12_layVoter_18 : decode cX12_layVoter 18 = .ok (.iload 4, 2) := by decide +kernel
theorem dX12_layVoter_20 : decode cX12_layVoter 20 = .ok (.iconst 1, 1) := by decide +kernel
theorem dX12_layVoter_21 : decode cX12_layVoter 21 = .ok (.iadd, 1) := by decide +kernel
theorem dX12_layVoter_22 : decode cX12_layVoter 22 = .ok (.iload_n 2, 1) := by decide +kernel
theorem dX12_layVoter_23 : decode cX12_layVoter 23 = .ok (.iastore, 1) := by decide +kernel
theorem dX12_layVoter_24 : decode cX12_layVoter 24 = .ok (.aload_n 0, 1) := by decide +kernel
theorem dX12_layVoter_25 : decode cX12_layVoter 25 = .ok (.iload 4, 2) := by decide +kernel
theorem dX12_layVoter_27 : decode cX12_layVoter 27 = .ok (.iconst 2, 1) := by decide +kernel
theorem dX12_layVoter_28 : decode cX12_layVoter 28 = .ok (.iadd, 1) := by decide +kernel
theorem dX12_layVoter_29 : decode cX12_layVoter 29 = .ok (.iload_n 3, 1) := by decide +kernel
theorem dX12_layVoter_30 : decode cX12_layVoter 30 = .ok (.iastore, 1) := by decide +kernel
theorem dX12_layVoter_31 : decode cX12_layVoter 31 = .ok (.aload_n 0, 1) := by decide +kernel
theorem dX12_layVoter_32 : decode cX12_layVoter 32 = .ok (.iconst 1, 1) := by decide +kernel
theorem dX12_layVoter_33 : decode cX12_layVoter 33 = .ok (.dup2, 1) := by decide +kernel
theorem dX12_layVoter_34 : decode cX12_layVoter 34 = .ok (.iaload, 1) := by decide +kernel
theorem dX12_layVoter_35 : decode cX12_layVoter 35 = .ok (.iconst 1, 1) := by decide +kernel
theorem dX12_layVoter_36 : decode cX12_layVoter 36 = .ok (.iadd, 1) := by decide +kernel
theorem dX12_layVoter_37 : decode cX12_layVoter 37 = .ok (.iastore, 1) := by decide +kernel
theorem dX12_layVoter_38 : decode cX12_layVoter 38 = .ok (.return_, 1) := by decide +kernel
theorem dX12_voter_0 : decode cX12_voter 0 = .ok (.iload_n 1, 1) := by decide +kernel
theorem dX12_voter_1 : decode cX12_voter 1 = .ok (.i2l, 1) := by decide +kernel
theorem dX12_voter_2 : decode cX12_voter 2 = .ok (.lconst 0, 1) := by decide +kernel
theorem dX12_voter_3 : decode cX12_voter 3 = .ok (.ldc2_w 92, 3) := by decide +kernel
theorem dX12_voter_6 : decode cX12_voter 6 = .ok (.invokestatic 68, 3) := by decide +kernel
theorem dX12_voter_9 : decode cX12_voter 9 = .ok (.ifCond .eq 23, 3) := by decide +kernel
theorem dX12_voter_12 : decode cX12_voter 12 = .ok (.aload_n 0, 1) := by decide +kernel
theorem dX12_voter_13 : decode cX12_voter 13 = .ok (.iload_n 2, 1) := by decide +kernel
theorem dX12_voter_14 : decode cX12_voter 14 = .ok (.invokevirtual 94, 3) := by decide +kernel
theorem dX12_voter_17 : decode cX12_voter 17 = .ok (.ifCond .eq 15, 3) := by decide +kernel
theorem dX12_voter_20 : decode cX12_voter 20 = .ok (.iload_n 3, 1) := by decide +kernel
theorem dX12_voter_21 : decode cX12_voter 21 = .ok (.i2l, 1) := by decide +kernel
theorem dX12_voter_22 : decode cX12_voter 22 = .ok (.lconst 1, 1) := by decide +kernel
theorem dX12_voter_23 : decode cX12_voter 23 = .ok (.ldc2_w 98, 3) := by decide +kernel
theorem dX12_voter_26 : decode cX12_voter 26 = .ok (.invokestatic 68, 3) := by decide +kernel
theorem dX12_voter_29 : decode cX12_voter 29 = .ok (.ifCond .ne 10, 3) := by decide +kernel
theorem dX12_voter_32 : decode cX12_voter 32 = .ok (.aload_n 0, 1) := by decide +kernel
theorem dX12_voter_33 : decode cX12_voter 33 = .ok (.bipush (-2), 2) := by decide +kernel
theorem dX12_voter_35 : decode cX12_voter 35 = .ok (.invokevirtual 81, 3) := by decide +kernel
theorem dX12_voter_38 : decode cX12_voter 38 = .ok (.ireturn, 1) := by decide +kernel
theorem dX12_voter_39 : decode cX12_voter 39 = .ok (.aload_n 0, 1) := by decide +kernel
theorem dX12_voter_40 : decode cX12_voter 40 = .ok (.invokevirtual 72, 3) := by decide +kernel
theorem dX12_voter_43 : decode cX12_voter 43 = .ok (.bipush 6, 2) := by decide +kernel
theorem dX12_voter_45 : decode cX12_voter 45 = .ok (.if_icmp .ne 8, 3) := by decide +kernel
theorem dX12_voter_48 : decode cX12_voter 48 = .ok (.aload_n 0, 1) := by decide +kernel
theorem dX12_voter_49 : decode cX12_voter 49 = .ok (.invokevirtual 85, 3) := by decide +kernel
theorem dX12_voter_52 : decode cX12_voter 52 = .ok (.ireturn, 1) := by decide +kernel
theorem dX12_voter_53 : decode cX12_voter 53 = .ok (.aload_n 0, 1) := by decide +kernel
theorem dX12_voter_54 : decode cX12_voter 54 = .ok (.getfield 7, 3) := by decide +kernel
theorem dX12_voter_57 : decode cX12_voter 57 = .ok (.iload_n 1, 1) := by decide +kernel
theorem dX12_voter_58 : decode cX12_voter 58 = .ok (.iload_n 2, 1) := by decide +kernel
theorem dX12_voter_59 : decode cX12_voter 59 = .ok (.iload_n 3, 1) := by decide +kernel
theorem dX12_voter_60 : decode cX12_voter 60 = .ok (.invokestatic 100, 3) := by decide +kernel
theorem dX12_voter_63 : decode cX12_voter 63 = .ok (.aload_n 0, 1) := by decide +kernel
theorem dX12_voter_64 : decode cX12_voter 64 = .ok (.getfield 7, 3) := by decide +kernel
theorem dX12_voter_67 : decode cX12_voter 67 = .ok (.iconst 4, 1) := by decide +kernel
theorem dX12_voter_68 : decode cX12_voter 68 = .ok (.iconst 0, 1) := by decide +kernel
theorem dX12_voter_69 : decode cX12_voter 69 = .ok (.iastore, 1) := by decide +kernel
theorem dX12_voter_70 : decode cX12_voter 70 = .ok (.aload_n 0, 1) := by decide +kernel
theorem dX12_voter_71 : decode cX12_voter 71 = .ok (.invokevirtual 72, 3) := by decide +kernel
theorem dX12_voter_74 : decode cX12_voter 74 = .ok (.iconst 1, 1) := by decide +kernel
theorem dX12_voter_75 : decode cX12_voter 75 = .ok (.isub, 1) := by decide +kernel
theorem dX12_voter_76 : decode cX12_voter 76 = .ok (.ireturn, 1) := by decide +kernel
theorem dX12_layHand_0 : decode cX12_layHand 0 = .ok (.iconst 0, 1) := by decide +kernel
theorem dX12_layHand_1 : decode cX12_layHand 1 = .ok (.istore_n 1, 1) := by decide +kernel
theorem dX12_layHand_2 : decode cX12_layHand 2 = .ok (.iload_n 1, 1) := by decide +kernel
theorem dX12_layHand_3 : decode cX12_layHand 3 = .ok (.aload_n 0, 1) := by decide +kernel
theorem dX12_layHand_4 : decode cX12_layHand 4 = .ok (.invokevirtual 64, 3) := by decide +kernel
theorem dX12_layHand_7 : decode cX12_layHand 7 = .ok (.if_icmp .ge 33, 3) := by decide +kernel
theorem dX12_layHand_10 : decode cX12_layHand 10 = .ok (.aload_n 0, 1) := by decide +kernel
theorem dX12_layHand_11 : decode cX12_layHand 11 = .ok (.getfield 27, 3) := by decide +kernel
theorem dX12_layHand_14 : decode cX12_layHand 14 = .ok (.iload_n 1, 1) := by decide +kernel
theorem dX12_layHand_15 : decode cX12_layHand 15 = .ok (.aload_n 0, 1) := by decide +kernel
theorem dX12_layHand_16 : decode cX12_layHand 16 = .ok (.iload_n 1, 1) := by decide +kernel
theorem dX12_layHand_17 : decode cX12_layHand 17 = .ok (.iconst 1, 1) := by decide +kernel
theorem dX12_layHand_18 : decode cX12_layHand 18 = .ok (.invokevirtual 103, 3) := by decide +kernel
theorem dX12_layHand_21 : decode cX12_layHand 21 = .ok (.iastore, 1) := by decide +kernel
theorem dX12_layHand_22 : decode cX12_layHand 22 = .ok (.aload_n 0, 1) := by decide +kernel
theorem dX12_layHand_23 : decode cX12_layHand 23 = .ok (.getfield 30, 3) := by decide +kernel
theorem dX12_layHand_26 : decode cX12_layHand 26 = .ok (.iload_n 1, 1) := by decide +kernel
theorem dX12_layHand_27 : decode cX12_layHand 27 = .ok (.aload_n 0, 1) := by decide +kernel
theorem dX12_layHand_28 : decode cX12_layHand 28 = .ok (.iload_n 1, 1) := by decide +kernel
theorem dX12_layHand_29 : decode cX12_layHand 29 = .ok (.iconst 2, 1) := by decide +kernel
theorem dX12_layHand_30 : decode cX12_layHand 30 = .ok (.invokevirtual 103, 3) := by decide +kernel
theorem dX12_layHand_33 : decode cX12_layHand 33 = .ok (.iastore, 1) := by decide +kernel
theorem dX12_layHand_34 : decode cX12_layHand 34 = .ok (.iinc 1 1, 3) := by decide +kernel
theorem dX12_layHand_37 : decode cX12_layHand 37 = .ok (.goto (-35), 3) := by decide +kernel
theorem dX12_layHand_40 : decode cX12_layHand 40 = .ok (.aload_n 0, 1) := by decide +kernel
theorem dX12_layHand_41 : decode cX12_layHand 41 = .ok (.aload_n 0, 1) := by decide +kernel
theorem dX12_layHand_42 : decode cX12_layHand 42 = .ok (.getfield 7, 3) := by decide +kernel
theorem dX12_layHand_45 : decode cX12_layHand 45 = .ok (.iconst 2, 1) := by decide +kernel
theorem dX12_layHand_46 : decode cX12_layHand 46 = .ok (.iaload, 1) := by decide +kernel
theorem dX12_layHand_47 : decode cX12_layHand 47 = .ok (.putfield 107, 3) := by decide +kernel
theorem dX12_layHand_50 : decode cX12_layHand 50 = .ok (.aload_n 0, 1) := by decide +kernel
theorem dX12_layHand_51 : decode cX12_layHand 51 = .ok (.aload_n 0, 1) := by decide +kernel
theorem dX12_layHand_52 : decode cX12_layHand 52 = .ok (.getfield 7, 3) := by decide +kernel
theorem dX12_layHand_55 : decode cX12_layHand 55 = .ok (.iconst 5, 1) := by decide +kernel
theorem dX12_layHand_56 : decode cX12_layHand 56 = .ok (.iaload, 1) := by decide +kernel
theorem dX12_layHand_57 : decode cX12_layHand 57 = .ok (.putfield 111, 3) := by decide +kernel
theorem dX12_layHand_60 : decode cX12_layHand 60 = .ok (.aload_n 0, 1) := by decide +kernel
theorem dX12_layHand_61 : decode cX12_layHand 61 = .ok (.aload_n 0, 1) := by decide +kernel
theorem dX12_layHand_62 : decode cX12_layHand 62 = .ok (.getfield 7, 3) := by decide +kernel
theorem dX12_layHand_65 : decode cX12_layHand 65 = .ok (.bipush 6, 2) := by decide +kernel
theorem dX12_layHand_67 : decode cX12_layHand 67 = .ok (.iaload, 1) := by decide +kernel
theorem dX12_layHand_68 : decode cX12_layHand 68 = .ok (.putfield 114, 3) := by decide +kernel
theorem dX12_layHand_71 : decode cX12_layHand 71 = .ok (.return_, 1) := by decide +kernel
theorem dX12_load_0 : decode cX12_load 0 = .ok (.aload_n 0, 1) := by decide +kernel
theorem dX12_load_1 : decode cX12_load 1 = .ok (.getfield 27, 3) := by decide +kernel
theorem dX12_load_4 : decode cX12_load 4 = .ok (.iload_n 1, 1) := by decide +kernel
theorem dX12_load_5 : decode cX12_load 5 = .ok (.iaload, 1) := by decide +kernel
theorem dX12_load_6 : decode cX12_load 6 = .ok (.aload_n 0, 1) := by decide +kernel
theorem dX12_load_7 : decode cX12_load 7 = .ok (.getfield 30, 3) := by decide +kernel
theorem dX12_load_10 : decode cX12_load 10 = .ok (.iload_n 1, 1) := by decide +kernel
theorem dX12_load_11 : decode cX12_load 11 = .ok (.iaload, 1) := by decide +kernel
theorem dX12_load_12 : decode cX12_load 12 = .ok (.iadd, 1) := by decide +kernel
theorem dX12_load_13 : decode cX12_load 13 = .ok (.ireturn, 1) := by decide +kernel
theorem dX12_firstOver_0 : decode cX12_firstOver 0 = .ok (.iconst 0, 1) := by decide +kernel
theorem dX12_firstOver_1 : decode cX12_firstOver 1 = .ok (.istore_n 1, 1) := by decide +kernel
theorem dX12_firstOver_2 : decode cX12_firstOver 2 = .ok (.iload_n 1, 1) := by decide +kernel
theorem dX12_firstOver_3 : decode cX12_firstOver 3 = .ok (.aload_n 0, 1) := by decide +kernel
theorem dX12_firstOver_4 : decode cX12_firstOver 4 = .ok (.invokevirtual 64, 3) := by decide +kernel
theorem dX12_firstOver_7 : decode cX12_firstOver 7 = .ok (.if_icmp .ge 25, 3) := by decide +kernel
theorem dX12_firstOver_10 : decode cX12_firstOver 10 = .ok (.aload_n 0, 1) := by decide +kernel
theorem dX12_firstOver_11 : decode cX12_firstOver 11 = .ok (.iload_n 1, 1) := by decide +kernel
theorem dX12_firstOver_12 : decode cX12_firstOver 12 = .ok (.invokevirtual 117, 3) := by decide +kernel
theorem dX12_firstOver_15 : decode cX12_firstOver 15 = .ok (.aload_n 0, 1) := by decide +kernel
theorem dX12_firstOver_16 : decode cX12_firstOver 16 = .ok (.iload_n 1, 1) := by decide +kernel
theorem dX12_firstOver_17 : decode cX12_firstOver 17 = .ok (.iconst 0, 1) := by decide +kernel
theorem dX12_firstOver_18 : decode cX12_firstOver 18 = .ok (.invokevirtual 103, 3) := by decide +kernel
theorem dX12_firstOver_21 : decode cX12_firstOver 21 = .ok (.if_icmp .le 5, 3) := by decide +kernel
theorem dX12_firstOver_24 : decode cX12_firstOver 24 = .ok (.iload_n 1, 1) := by decide +kernel
theorem dX12_firstOver_25 : decode cX12_firstOver 25 = .ok (.ireturn, 1) := by decide +kernel
theorem dX12_firstOver_26 : decode cX12_firstOver 26 = .ok (.iinc 1 1, 3) := by decide +kernel
theorem dX12_firstOver_29 : decode cX12_firstOver 29 = .ok (.goto (-27), 3) := by decide +kernel
theorem dX12_firstOver_32 : decode cX12_firstOver 32 = .ok (.iconst (-1), 1) := by decide +kernel
theorem dX12_firstOver_33 : decode cX12_firstOver 33 = .ok (.ireturn, 1) := by decide +kernel
theorem dX12_comesDown_0 : decode cX12_comesDown 0 = .ok (.iconst 0, 1) := by decide +kernel
theorem dX12_comesDown_1 : decode cX12_comesDown 1 = .ok (.istore_n 1, 1) := by decide +kernel
theorem dX12_comesDown_2 : decode cX12_comesDown 2 = .ok (.aload_n 0, 1) := by decide +kernel
theorem dX12_comesDown_3 : decode cX12_comesDown 3 = .ok (.iconst (-1), 1) := by decide +kernel
theorem dX12_comesDown_4 : decode cX12_comesDown 4 = .ok (.putfield 120, 3) := by decide +kernel
theorem dX12_comesDown_7 : decode cX12_comesDown 7 = .ok (.aload_n 0, 1) := by decide +kernel
theorem dX12_comesDown_8 : decode cX12_comesDown 8 = .ok (.iconst 0, 1) := by decide +kernel
theorem dX12_comesDown_9 : decode cX12_comesDown 9 = .ok (.putfield 123, 3) := by decide +kernel
theorem dX12_comesDown_12 : decode cX12_comesDown 12 = .ok (.aload_n 0, 1) := by decide +kernel
theorem dX12_comesDown_13 : decode cX12_comesDown 13 = .ok (.invokevirtual 126, 3) := by decide +kernel
theorem dX12_comesDown_16 : decode cX12_comesDown 16 = .ok (.istore_n 2, 1) := by decide +kernel
theorem dX12_comesDown_17 : decode cX12_comesDown 17 = .ok (.iload_n 2, 1) := by decide +kernel
theorem dX12_comesDown_18 : decode cX12_comesDown 18 = .ok (.iconst (-1), 1) := by decide +kernel
theorem dX12_comesDown_19 : decode cX12_comesDown 19 = .ok (.if_icmp .eq 89, 3) := by decide +kernel
theorem dX12_comesDown_22 : decode cX12_comesDown 22 = .ok (.aload_n 0, 1) := by decide +kernel
theorem dX12_comesDown_23 : decode cX12_comesDown 23 = .ok (.iload_n 2, 1) := by decide +kernel
theorem dX12_comesDown_24 : decode cX12_comesDown 24 = .ok (.iconst 3, 1) := by decide +kernel
theorem dX12_comesDown_25 : decode cX12_comesDown 25 = .ok (.invokevirtual 103, 3) := by decide +kernel
theorem dX12_comesDown_28 : decode cX12_comesDown 28 = .ok (.istore_n 3, 1) := by decide +kernel
theorem dX12_comesDown_29 : decode cX12_comesDown 29 = .ok (.iload_n 3, 1) := by decide +kernel
theorem dX12_comesDown_30 : decode cX12_comesDown 30 = .ok (.iconst (-1), 1) := by decide +kernel
theorem dX12_comesDown_31 : decode cX12_comesDown 31 = .ok (.if_icmp .eq 29, 3) := by decide +kernel
theorem dX12_comesDown_34 : decode cX12_comesDown 34 = .ok (.aload_n 0, 1) := by decide +kernel
theorem dX12_comesDown_35 : decode cX12_comesDown 35 = .ok (.getfield 27, 3) := by decide +kernel
theorem dX12_comesDown_38 : decode cX12_comesDown 38 = .ok (.iload_n 3, 1) := by decide +kernel
theorem dX12_comesDown_39 : decode cX12_comesDown 39 = .ok (.dup2, 1) := by decide +kernel
theorem dX12_comesDown_40 : decode cX12_comesDown 40 = .ok (.iaload, 1) := by decide +kernel
theorem dX12_comesDown_41 : decode cX12_comesDown 41 = .ok (.aload_n 0, 1) := by decide +kernel
theorem dX12_comesDown_42 : decode cX12_comesDown 42 = .ok (.iload_n 2, 1) := by decide +kernel
theorem dX12_comesDown_43 : decode cX12_comesDown 43 = .ok (.invokevirtual 117, 3) := by decide +kernel
theorem dX12_comesDown_46 : decode cX12_comesDown 46 = .ok (.iadd, 1) := by decide +kernel
theorem dX12_comesDown_47 : decode cX12_comesDown 47 = .ok (.iastore, 1) := by decide +kernel
theorem dX12_comesDown_48 : decode cX12_comesDown 48 = .ok (.aload_n 0, 1) := by decide +kernel
theorem dX12_comesDown_49 : decode cX12_comesDown 49 = .ok (.dup, 1) := by decide +kernel
theorem dX12_comesDown_50 : decode cX12_comesDown 50 = .ok (.getfield 123, 3) := by decide +kernel
theorem dX12_comesDown_53 : decode cX12_comesDown 53 = .ok (.iconst 1, 1) := by decide +kernel
theorem dX12_comesDown_54 : decode cX12_comesDown 54 = .ok (.iload_n 3, 1) := by decide +kernel
theorem dX12_comesDown_55 : decode cX12_comesDown 55 = .ok (.ishl, 1) := by decide +kernel
theorem dX12_comesDown_56 : decode cX12_comesDown 56 = .ok (.ior, 1) := by decide +kernel
theorem dX12_comesDown_57 : decode cX12_comesDown 57 = .ok (.putfield 123, 3) := by decide +kernel
theorem dX12_comesDown_60 : decode cX12_comesDown 60 = .ok (.aload_n 0, 1) := by decide +kernel
theorem dX12_comesDown_61 : decode cX12_comesDown 61 = .ok (.getfield 27, 3) := by decide +kernel
theorem dX12_comesDown_64 : decode cX12_comesDown 64 = .ok (.iload_n 2, 1) := by decide +kernel
theorem dX12_comesDown_65 : decode cX12_comesDown 65 = .ok (.iconst 0, 1) := by decide +kernel
theorem dX12_comesDown_66 : decode cX12_comesDown 66 = .ok (.iastore, 1) := by decide +kernel
theorem dX12_comesDown_67 : decode cX12_comesDown 67 = .ok (.aload_n 0, 1) := by decide +kernel
theorem dX12_comesDown_68 : decode cX12_comesDown 68 = .ok (.getfield 30, 3) := by decide +kernel
theorem dX12_comesDown_71 : decode cX12_comesDown 71 = .ok (.iload_n 2, 1) := by decide +kernel
theorem dX12_comesDown_72 : decode cX12_comesDown 72 = .ok (.iconst 0, 1) := by decide +kernel
theorem dX12_comesDown_73 : decode cX12_comesDown 73 = .ok (.iastore, 1) := by decide +kernel
theorem dX12_comesDown_74 : decode cX12_comesDown 74 = .ok (.aload_n 0, 1) := by decide +kernel
theorem dX12_comesDown_75 : decode cX12_comesDown 75 = .ok (.aload_n 0, 1) := by decide +kernel
theorem dX12_comesDown_76 : decode cX12_comesDown 76 = .ok (.getfield 120, 3) := by decide +kernel
theorem dX12_comesDown_79 : decode cX12_comesDown 79 = .ok (.iconst (-1), 1) := by decide +kernel
theorem dX12_comesDown_80 : decode cX12_comesDown 80 = .ok (.if_icmp .ne 7, 3) := by decide +kernel
theorem dX12_comesDown_83 : decode cX12_comesDown 83 = .ok (.iload_n 2, 1) := by decide +kernel
theorem dX12_comesDown_84 : decode cX12_comesDown 84 = .ok (.goto 7, 3) := by decide +kernel
theorem dX12_comesDown_87 : decode cX12_comesDown 87 = .ok (.aload_n 0, 1) := by decide +kernel
theorem dX12_comesDown_88 : decode cX12_comesDown 88 = .ok (.getfield 120, 3) := by decide +kernel
theorem dX12_comesDown_91 : decode cX12_comesDown 91 = .ok (.putfield 120, 3) := by decide +kernel
theorem dX12_comesDown_94 : decode cX12_comesDown 94 = .ok (.iload_n 1, 1) := by decide +kernel
theorem dX12_comesDown_95 : decode cX12_comesDown 95 = .ok (.iconst 1, 1) := by decide +kernel
theorem dX12_comesDown_96 : decode cX12_comesDown 96 = .ok (.iload_n 2, 1) := by decide +kernel
theorem dX12_comesDown_97 : decode cX12_comesDown 97 = .ok (.ishl, 1) := by decide +kernel
theorem dX12_comesDown_98 : decode cX12_comesDown 98 = .ok (.ior, 1) := by decide +kernel
theorem dX12_comesDown_99 : decode cX12_comesDown 99 = .ok (.istore_n 1, 1) := by decide +kernel
theorem dX12_comesDown_100 : decode cX12_comesDown 100 = .ok (.aload_n 0, 1) := by decide +kernel
theorem dX12_comesDown_101 : decode cX12_comesDown 101 = .ok (.invokevirtual 126, 3) := by decide +kernel
theorem dX12_comesDown_104 : decode cX12_comesDown 104 = .ok (.istore_n 2, 1) := by decide +kernel
theorem dX12_comesDown_105 : decode cX12_comesDown 105 = .ok (.goto (-88), 3) := by decide +kernel
theorem dX12_comesDown_108 : decode cX12_comesDown 108 = .ok (.aload_n 0, 1) := by decide +kernel
theorem dX12_comesDown_109 : decode cX12_comesDown 109 = .ok (.getfield 111, 3) := by decide +kernel
theorem dX12_comesDown_112 : decode cX12_comesDown 112 = .ok (.iconst (-1), 1) := by decide +kernel
theorem dX12_comesDown_113 : decode cX12_comesDown 113 = .ok (.if_icmp .ne 20, 3) := by decide +kernel
theorem dX12_comesDown_116 : decode cX12_comesDown 116 = .ok (.iload_n 1, 1) := by decide +kernel
theorem dX12_comesDown_117 : decode cX12_comesDown 117 = .ok (.ifCond .eq 16, 3) := by decide +kernel
theorem dX12_comesDown_120 : decode cX12_comesDown 120 = .ok (.aload_n 0, 1) := by decide +kernel
theorem dX12_comesDown_121 : decode cX12_comesDown 121 = .ok (.aload_n 0, 1) := by decide +kernel
theorem dX12_comesDown_122 : decode cX12_comesDown 122 = .ok (.getfield 120, 3) := by decide +kernel
theorem dX12_comesDown_125 : decode cX12_comesDown 125 = .ok (.putfield 111, 3) := by decide +kernel
theorem dX12_comesDown_128 : decode cX12_comesDown 128 = .ok (.aload_n 0, 1) := by decide +kernel
theorem dX12_comesDown_129 : decode cX12_comesDown 129 = .ok (.iload_n 1, 1) := by decide +kernel
theorem dX12_comesDown_130 : decode cX12_comesDown 130 = .ok (.putfield 114, 3) := by decide +kernel
theorem dX12_comesDown_133 : decode cX12_comesDown 133 = .ok (.iload_n 1, 1) := by decide +kernel
theorem dX12_comesDown_134 : decode cX12_comesDown 134 = .ok (.ireturn, 1) := by decide +kernel
theorem dX12_heavy_0 : decode cX12_heavy 0 = .ok (.iload_n 1, 1) := by decide +kernel
theorem dX12_heavy_1 : decode cX12_heavy 1 = .ok (.iconst 2, 1) := by decide +kernel
theorem dX12_heavy_2 : decode cX12_heavy 2 = .ok (.if_icmp .eq 8, 3) := by decide +kernel
theorem dX12_heavy_5 : decode cX12_heavy 5 = .ok (.iload_n 1, 1) := by decide +kernel
theorem dX12_heavy_6 : decode cX12_heavy 6 = .ok (.iconst 5, 1) := by decide +kernel
theorem dX12_heavy_7 : decode cX12_heavy 7 = .ok (.if_icmp .ne 9, 3) := by decide +kernel
theorem dX12_heavy_10 : decode cX12_heavy 10 = .ok (.iconst 2, 1) := by decide +kernel
theorem dX12_heavy_11 : decode cX12_heavy 11 = .ok (.iload_n 2, 1) := by decide +kernel
theorem dX12_heavy_12 : decode cX12_heavy 12 = .ok (.imul, 1) := by decide +kernel
theorem dX12_heavy_13 : decode cX12_heavy 13 = .ok (.goto 17, 3) := by decide +kernel
theorem dX12_heavy_16 : decode cX12_heavy 16 = .ok (.iload_n 1, 1) := by decide +kernel
theorem dX12_heavy_17 : decode cX12_heavy 17 = .ok (.iconst 3, 1) := by decide +kernel
theorem dX12_heavy_18 : decode cX12_heavy 18 = .ok (.if_icmp .ne 11, 3) := by decide +kernel
theorem dX12_heavy_21 : decode cX12_heavy 21 = .ok (.iload_n 2, 1) := by decide +kernel
theorem dX12_heavy_22 : decode cX12_heavy 22 = .ok (.iconst 1, 1) := by decide +kernel
theorem dX12_heavy_23 : decode cX12_heavy 23 = .ok (.iadd, 1) := by decide +kernel
theorem dX12_heavy_24 : decode cX12_heavy 24 = .ok (.iconst 2, 1) := by decide +kernel
theorem dX12_heavy_25 : decode cX12_heavy 25 = .ok (.idiv, 1) := by decide +kernel
theorem dX12_heavy_26 : decode cX12_heavy 26 = .ok (.goto 4, 3) := by decide +kernel
theorem dX12_heavy_29 : decode cX12_heavy 29 = .ok (.iload_n 2, 1) := by decide +kernel
theorem dX12_heavy_30 : decode cX12_heavy 30 = .ok (.ireturn, 1) := by decide +kernel
theorem dX12_byLoad_0 : decode cX12_byLoad 0 = .ok (.iconst 0, 1) := by decide +kernel
theorem dX12_byLoad_1 : decode cX12_byLoad 1 = .ok (.istore_n 2, 1) := by decide +kernel
theorem dX12_byLoad_2 : decode cX12_byLoad 2 = .ok (.iconst 1, 1) := by decide +kernel
theorem dX12_byLoad_3 : decode cX12_byLoad 3 = .ok (.istore_n 3, 1) := by decide +kernel
theorem dX12_byLoad_4 : decode cX12_byLoad 4 = .ok (.iload_n 3, 1) := by decide +kernel
theorem dX12_byLoad_5 : decode cX12_byLoad 5 = .ok (.aload_n 0, 1) := by decide +kernel
theorem dX12_byLoad_6 : decode cX12_byLoad 6 = .ok (.invokevirtual 64, 3) := by decide +kernel
theorem dX12_byLoad_9 : decode cX12_byLoad 9 = .ok (.if_icmp .ge 65, 3) := by decide +kernel
theorem dX12_byLoad_12 : decode cX12_byLoad 12 = .ok (.iload_n 1, 1) := by decide +kernel
theorem dX12_byLoad_13 : decode cX12_byLoad 13 = .ok (.ifCond .eq 24, 3) := by decide +kernel
theorem dX12_byLoad_16 : decode cX12_byLoad 16 = .ok (.aload_n 0, 1) := by decide +kernel
theorem dX12_byLoad_17 : decode cX12_byLoad 17 = .ok (.iload_n 3, 1) := by decide +kernel
theorem dX12_byLoad_18 : decode cX12_byLoad 18 = .ok (.invokevirtual 117, 3) := by decide +kernel
theorem dX12_byLoad_21 : decode cX12_byLoad 21 = .ok (.aload_n 0, 1) := by decide +kernel
theorem dX12_byLoad_22 : decode cX12_byLoad 22 = .ok (.iload_n 2, 1) := by decide +kernel
theorem dX12_byLoad_23 : decode cX12_byLoad 23 = .ok (.invokevirtual 117, 3) := by decide +kernel
theorem dX12_byLoad_26 : decode cX12_byLoad 26 = .ok (.if_icmp .ge 7, 3) := by decide +kernel
theorem dX12_byLoad_29 : decode cX12_byLoad 29 = .ok (.iconst 1, 1) := by decide +kernel
theorem dX12_byLoad_30 : decode cX12_byLoad 30 = .ok (.goto 25, 3) := by decide +kernel
theorem dX12_byLoad_33 : decode cX12_byLoad 33 = .ok (.iconst 0, 1) := by decide +kernel
theorem dX12_byLoad_34 : decode cX12_byLoad 34 = .ok (.goto 21, 3) := by decide +kernel
theorem dX12_byLoad_37 : decode cX12_byLoad 37 = .ok (.aload_n 0, 1) := by decide +kernel
theorem dX12_byLoad_38 : decode cX12_byLoad 38 = .ok (.iload_n 3, 1) := by decide +kernel
theorem dX12_byLoad_39 : decode cX12_byLoad 39 = .ok (.invokevirtual 117, 3) := by decide +kernel
theorem dX12_byLoad_42 : decode cX12_byLoad 42 = .ok (.aload_n 0, 1) := by decide +kernel
theorem dX12_byLoad_43 : decode cX12_byLoad 43 = .ok (.iload_n 2, 1) := by decide +kernel
theorem dX12_byLoad_44 : decode cX12_byLoad 44 = .ok (.invokevirtual 117, 3) := by decide +kernel
theorem dX12_byLoad_47 : decode cX12_byLoad 47 = .ok (.if_icmp .le 7, 3) := by decide +kernel
theorem dX12_byLoad_50 : decode cX12_byLoad 50 = .ok (.iconst 1, 1) := by decide +kernel
theorem dX12_byLoad_51 : decode cX12_byLoad 51 = .ok (.goto 4, 3) := by decide +kernel
theorem dX12_byLoad_54 : decode cX12_byLoad 54 = .ok (.iconst 0, 1) := by decide +kernel
theorem dX12_byLoad_55 : decode cX12_byLoad 55 = .ok (.istore 4, 2) := by decide +kernel
theorem dX12_byLoad_57 : decode cX12_byLoad 57 = .ok (.iload 4, 2) := by decide +kernel
theorem dX12_byLoad_59 : decode cX12_byLoad 59 = .ok (.ifCond .eq 7, 3) := by decide +kernel
theorem dX12_byLoad_62 : decode cX12_byLoad 62 = .ok (.iload_n 3, 1) := by decide +kernel
theorem dX12_byLoad_63 : decode cX12_byLoad 63 = .ok (.goto 4, 3) := by decide +kernel
theorem dX12_byLoad_66 : decode cX12_byLoad 66 = .ok (.iload_n 2, 1) := by decide +kernel
theorem dX12_byLoad_67 : decode cX12_byLoad 67 = .ok (.istore_n 2, 1) := by decide +kernel
theorem dX12_byLoad_68 : decode cX12_byLoad 68 = .ok (.iinc 3 1, 3) := by decide +kernel
theorem dX12_byLoad_71 : decode cX12_byLoad 71 = .ok (.goto (-67), 3) := by decide +kernel
theorem dX12_byLoad_74 : decode cX12_byLoad 74 = .ok (.iload_n 2, 1) := by decide +kernel
theorem dX12_byLoad_75 : decode cX12_byLoad 75 = .ok (.ireturn, 1) := by decide +kernel
theorem dX12_where_0 : decode cX12_where 0 = .ok (.iload_n 1, 1) := by decide +kernel
theorem dX12_where_1 : decode cX12_where 1 = .ok (.tableswitch 107 1 5 #[35, 107, 35, 66, 87], 35) := by decide +kernel
theorem dX12_where_36 : decode cX12_where 36 = .ok (.aload_n 0, 1) := by decide +kernel
theorem dX12_where_37 : decode cX12_where 37 = .ok (.iload_n 2, 1) := by decide +kernel
theorem dX12_where_38 : decode cX12_where 38 = .ok (.invokevirtual 117, 3) := by decide +kernel
theorem dX12_where_41 : decode cX12_where 41 = .ok (.aload_n 0, 1) := by decide +kernel
theorem dX12_where_42 : decode cX12_where 42 = .ok (.iload_n 1, 1) := by decide +kernel
theorem dX12_where_43 : decode cX12_where 43 = .ok (.iload_n 3, 1) := by decide +kernel
theorem dX12_where_44 : decode cX12_where 44 = .ok (.invokevirtual 129, 3) := by decide +kernel
theorem dX12_where_47 : decode cX12_where 47 = .ok (.iadd, 1) := by decide +kernel
theorem dX12_where_48 : decode cX12_where 48 = .ok (.aload_n 0, 1) := by decide +kernel
theorem dX12_where_49 : decode cX12_where 49 = .ok (.iload_n 2, 1) := by decide +kernel
theorem dX12_where_50 : decode cX12_where 50 = .ok (.iconst 0, 1) := by decide +kernel
theorem dX12_where_51 : decode cX12_where 51 = .ok (.invokevirtual 103, 3) := by decide +kernel
theorem dX12_where_54 : decode cX12_where 54 = .ok (.if_icmp .le 11, 3) := by decide +kernel
theorem dX12_where_57 : decode cX12_where 57 = .ok (.aload_n 0, 1) := by decide +kernel
theorem dX12_where_58 : decode cX12_where 58 = .ok (.iconst 1, 1) := by decide +kernel
theorem dX12_where_59 : decode cX12_where 59 = .ok (.invokevirtual 132, 3) := by decide +kernel
theorem dX12_where_62 : decode cX12_where 62 = .ok (.goto 4, 3) := by decide +kernel
theorem dX12_where_65 : decode cX12_where 65 = .ok (.iload_n 2, 1) := by decide +kernel
theorem dX12_where_66 : decode cX12_where 66 = .ok (.ireturn, 1) := by decide +kernel
theorem dX12_where_67 : decode cX12_where 67 = .ok (.aload_n 0, 1) := by decide +kernel
theorem dX12_where_68 : decode cX12_where 68 = .ok (.iload_n 2, 1) := by decide +kernel
theorem dX12_where_69 : decode cX12_where 69 = .ok (.iconst 3, 1) := by decide +kernel
theorem dX12_where_70 : decode cX12_where 70 = .ok (.invokevirtual 103, 3) := by decide +kernel
theorem dX12_where_73 : decode cX12_where 73 = .ok (.iconst (-1), 1) := by decide +kernel
theorem dX12_where_74 : decode cX12_where 74 = .ok (.if_icmp .ne 7, 3) := by decide +kernel
theorem dX12_where_77 : decode cX12_where 77 = .ok (.iload_n 2, 1) := by decide +kernel
theorem dX12_where_78 : decode cX12_where 78 = .ok (.goto 9, 3) := by decide +kernel
theorem dX12_where_81 : decode cX12_where 81 = .ok (.aload_n 0, 1) := by decide +kernel
theorem dX12_where_82 : decode cX12_where 82 = .ok (.iload_n 2, 1) := by decide +kernel
theorem dX12_where_83 : decode cX12_where 83 = .ok (.iconst 3, 1) := by decide +kernel
theorem dX12_where_84 : decode cX12_where 84 = .ok (.invokevirtual 103, 3) := by decide +kernel
theorem dX12_where_87 : decode cX12_where 87 = .ok (.ireturn, 1) := by decide +kernel
theorem dX12_where_88 : decode cX12_where 88 = .ok (.aload_n 0, 1) := by decide +kernel
theorem dX12_where_89 : decode cX12_where 89 = .ok (.getfield 107, 3) := by decide +kernel
theorem dX12_where_92 : decode cX12_where 92 = .ok (.iconst 2, 1) := by decide +kernel
theorem dX12_where_93 : decode cX12_where 93 = .ok (.irem, 1) := by decide +kernel
theorem dX12_where_94 : decode cX12_where 94 = .ok (.iconst 1, 1) := by decide +kernel
theorem dX12_where_95 : decode cX12_where 95 = .ok (.if_icmp .ne 11, 3) := by decide +kernel
theorem dX12_where_98 : decode cX12_where 98 = .ok (.aload_n 0, 1) := by decide +kernel
theorem dX12_where_99 : decode cX12_where 99 = .ok (.iconst 0, 1) := by decide +kernel
theorem dX12_where_100 : decode cX12_where 100 = .ok (.invokevirtual 132, 3) := by decide +kernel
theorem dX12_where_103 : decode cX12_where 103 = .ok (.goto 4, 3) := by decide +kernel
theorem dX12_where_106 : decode cX12_where 106 = .ok (.iload_n 2, 1) := by decide +kernel
theorem dX12_where_107 : decode cX12_where 107 = .ok (.ireturn, 1) := by decide +kernel
theorem dX12_where_108 : decode cX12_where 108 = .ok (.iload_n 2, 1) := by decide +kernel
theorem dX12_where_109 : decode cX12_where 109 = .ok (.ireturn, 1) := by decide +kernel
theorem dX12_whereBy_0 : decode cX12_whereBy 0 = .ok (.aload_n 0, 1) := by decide +kernel
theorem dX12_whereBy_1 : decode cX12_whereBy 1 = .ok (.aload_n 0, 1) := by decide +kernel
theorem dX12_whereBy_2 : decode cX12_whereBy 2 = .ok (.iload_n 1, 1) := by decide +kernel
theorem dX12_whereBy_3 : decode cX12_whereBy 3 = .ok (.iconst 0, 1) := by decide +kernel
theorem dX12_whereBy_4 : decode cX12_whereBy 4 = .ok (.invokevirtual 136, 3) := by decide +kernel
theorem dX12_whereBy_7 : decode cX12_whereBy 7 = .ok (.aload_n 0, 1) := by decide +kernel
theorem dX12_whereBy_8 : decode cX12_whereBy 8 = .ok (.iload_n 1, 1) := by decide +kernel
theorem dX12_whereBy_9 : decode cX12_whereBy 9 = .ok (.iconst 1, 1) := by decide +kernel
theorem dX12_whereBy_10 : decode cX12_whereBy 10 = .ok (.invokevirtual 136, 3) := by decide +kernel
theorem dX12_whereBy_13 : decode cX12_whereBy 13 = .ok (.aload_n 0, 1) := by decide +kernel
theorem dX12_whereBy_14 : decode cX12_whereBy 14 = .ok (.iload_n 1, 1) := by decide +kernel
theorem dX12_whereBy_15 : decode cX12_whereBy 15 = .ok (.iconst 2, 1) := by decide +kernel
theorem dX12_whereBy_16 : decode cX12_whereBy 16 = .ok (.invokevirtual 136, 3) := by decide +kernel
theorem dX12_whereBy_19 : decode cX12_whereBy 19 = .ok (.invokevirtual 139, 3) := by decide +kernel
theorem dX12_whereBy_22 : decode cX12_whereBy 22 = .ok (.ireturn, 1) := by decide +kernel
theorem dX12_heavyBy_0 : decode cX12_heavyBy 0 = .ok (.aload_n 0, 1) := by decide +kernel
theorem dX12_heavyBy_1 : decode cX12_heavyBy 1 = .ok (.aload_n 0, 1) := by decide +kernel
theorem dX12_heavyBy_2 : decode cX12_heavyBy 2 = .ok (.iload_n 1, 1) := by decide +kernel
theorem dX12_heavyBy_3 : decode cX12_heavyBy 3 = .ok (.iconst 0, 1) := by decide +kernel
theorem dX12_heavyBy_4 : decode cX12_heavyBy 4 = .ok (.invokevirtual 136, 3) := by decide +kernel
theorem dX12_heavyBy_7 : decode cX12_heavyBy 7 = .ok (.aload_n 0, 1) := by decide +kernel
theorem dX12_heavyBy_8 : decode cX12_heavyBy 8 = .ok (.iload_n 1, 1) := by decide +kernel
theorem dX12_heavyBy_9 : decode cX12_heavyBy 9 = .ok (.iconst 2, 1) := by decide +kernel
theorem dX12_heavyBy_10 : decode cX12_heavyBy 10 = .ok (.invokevirtual 136, 3) := by decide +kernel
theorem dX12_heavyBy_13 : decode cX12_heavyBy 13 = .ok (.invokevirtual 129, 3) := by decide +kernel
theorem dX12_heavyBy_16 : decode cX12_heavyBy 16 = .ok (.ireturn, 1) := by decide +kernel
theorem dX12_goStone_0 : decode cX12_goStone 0 = .ok (.aload_n 0, 1) := by decide +kernel
theorem dX12_goStone_1 : decode cX12_goStone 1 = .ok (.getfield 30, 3) := by decide +kernel
theorem dX12_goStone_4 : decode cX12_goStone 4 = .ok (.iload_n 1, 1) := by decide +kernel
theorem dX12_goStone_5 : decode cX12_goStone 5 = .ok (.dup2, 1) := by decide +kernel
theorem dX12_goStone_6 : decode cX12_goStone 6 = .ok (.iaload, 1) := by decide +kernel
theorem dX12_goStone_7 : decode cX12_goStone 7 = .ok (.iload_n 2, 1) := by decide +kernel
theorem dX12_goStone_8 : decode cX12_goStone 8 = .ok (.iadd, 1) := by decide +kernel
theorem dX12_goStone_9 : decode cX12_goStone 9 = .ok (.iastore, 1) := by decide +kernel
theorem dX12_goStone_10 : decode cX12_goStone 10 = .ok (.aload_n 0, 1) := by decide +kernel
theorem dX12_goStone_11 : decode cX12_goStone 11 = .ok (.invokevirtual 143, 3) := by decide +kernel
theorem dX12_goStone_14 : decode cX12_goStone 14 = .ok (.ireturn, 1) := by decide +kernel
theorem dX12_goVote_0 : decode cX12_goVote 0 = .ok (.aload_n 0, 1) := by decide +kernel
theorem dX12_goVote_1 : decode cX12_goVote 1 = .ok (.aload_n 0, 1) := by decide +kernel
theorem dX12_goVote_2 : decode cX12_goVote 2 = .ok (.iload_n 1, 1) := by decide +kernel
theorem dX12_goVote_3 : decode cX12_goVote 3 = .ok (.invokevirtual 146, 3) := by decide +kernel
theorem dX12_goVote_6 : decode cX12_goVote 6 = .ok (.aload_n 0, 1) := by decide +kernel
theorem dX12_goVote_7 : decode cX12_goVote 7 = .ok (.iload_n 1, 1) := by decide +kernel
theorem dX12_goVote_8 : decode cX12_goVote 8 = .ok (.invokevirtual 149, 3) := by decide +kernel
theorem dX12_goVote_11 : decode cX12_goVote 11 = .ok (.invokevirtual 152, 3) := by decide +kernel
theorem dX12_goVote_14 : decode cX12_goVote 14 = .ok (.istore_n 2, 1) := by decide +kernel
theorem dX12_goVote_15 : decode cX12_goVote 15 = .ok (.aload_n 0, 1) := by decide +kernel
theorem dX12_goVote_16 : decode cX12_goVote 16 = .ok (.dup, 1) := by decide +kernel
theorem dX12_goVote_17 : decode cX12_goVote 17 = .ok (.getfield 107, 3) := by decide +kernel
theorem dX12_goVote_20 : decode cX12_goVote 20 = .ok (.iconst 1, 1) := by decide +kernel
theorem dX12_goVote_21 : decode cX12_goVote 21 = .ok (.iadd, 1) := by decide +kernel
theorem dX12_goVote_22 : decode cX12_goVote 22 = .ok (.putfield 107, 3) := by decide +kernel
theorem dX12_goVote_25 : decode cX12_goVote 25 = .ok (.iload_n 2, 1) := by decide +kernel
theorem dX12_goVote_26 : decode cX12_goVote 26 = .ok (.ireturn, 1) := by decide +kernel
theorem dX12_goNight_0 : decode cX12_goNight 0 = .ok (.iconst 0, 1) := by decide +kernel
theorem dX12_goNight_1 : decode cX12_goNight 1 = .ok (.istore_n 2, 1) := by decide +kernel
theorem dX12_goNight_2 : decode cX12_goNight 2 = .ok (.iload_n 2, 1) := by decide +kernel
theorem dX12_goNight_3 : decode cX12_goNight 3 = .ok (.aload_n 0, 1) := by decide +kernel
theorem dX12_goNight_4 : decode cX12_goNight 4 = .ok (.invokevirtual 64, 3) := by decide +kernel
theorem dX12_goNight_7 : decode cX12_goNight 7 = .ok (.if_icmp .ge 19, 3) := by decide +kernel
theorem dX12_goNight_10 : decode cX12_goNight 10 = .ok (.aload_n 0, 1) := by decide +kernel
theorem dX12_goNight_11 : decode cX12_goNight 11 = .ok (.getfield 27, 3) := by decide +kernel
theorem dX12_goNight_14 : decode cX12_goNight 14 = .ok (.iload_n 2, 1) := by decide +kernel
theorem dX12_goNight_15 : decode cX12_goNight 15 = .ok (.dup2, 1) := by decide +kernel
theorem dX12_goNight_16 : decode cX12_goNight 16 = .ok (.iaload, 1) := by decide +kernel
theorem dX12_goNight_17 : decode cX12_goNight 17 = .ok (.iload_n 1, 1) := by decide +kernel
theorem dX12_goNight_18 : decode cX12_goNight 18 = .ok (.iadd, 1) := by decide +kernel
theorem dX12_goNight_19 : decode cX12_goNight 19 = .ok (.iastore, 1) := by decide +kernel
theorem dX12_goNight_20 : decode cX12_goNight 20 = .ok (.iinc 2 1, 3) := by decide +kernel
theorem dX12_goNight_23 : decode cX12_goNight 23 = .ok (.goto (-21), 3) := by decide +kernel
theorem dX12_goNight_26 : decode cX12_goNight 26 = .ok (.aload_n 0, 1) := by decide +kernel
theorem dX12_goNight_27 : decode cX12_goNight 27 = .ok (.invokevirtual 143, 3) := by decide +kernel
theorem dX12_goNight_30 : decode cX12_goNight 30 = .ok (.ireturn, 1) := by decide +kernel
theorem dX12_keep_0 : decode cX12_keep 0 = .ok (.aload_n 0, 1) := by decide +kernel
theorem dX12_keep_1 : decode cX12_keep 1 = .ok (.getfield 7, 3) := by decide +kernel
theorem dX12_keep_4 : decode cX12_keep 4 = .ok (.iconst 4, 1) := by decide +kernel
theorem dX12_keep_5 : decode cX12_keep 5 = .ok (.iaload, 1) := by decide +kernel
theorem dX12_keep_6 : decode cX12_keep 6 = .ok (.bipush 8, 2) := by decide +kernel
theorem dX12_keep_8 : decode cX12_keep 8 = .ok (.if_icmp .ne 44, 3) := by decide +kernel
theorem dX12_keep_11 : decode cX12_keep 11 = .ok (.iconst 0, 1) := by decide +kernel
theorem dX12_keep_12 : decode cX12_keep 12 = .ok (.istore_n 1, 1) := by decide +kernel
theorem dX12_keep_13 : decode cX12_keep 13 = .ok (.iload_n 1, 1) := by decide +kernel
theorem dX12_keep_14 : decode cX12_keep 14 = .ok (.sipush 133, 3) := by decide +kernel
theorem dX12_keep_17 : decode cX12_keep 17 = .ok (.if_icmp .ge 27, 3) := by decide +kernel
theorem dX12_keep_20 : decode cX12_keep 20 = .ok (.aload_n 0, 1) := by decide +kernel
theorem dX12_keep_21 : decode cX12_keep 21 = .ok (.getfield 7, 3) := by decide +kernel
theorem dX12_keep_24 : decode cX12_keep 24 = .ok (.bipush 69, 2) := by decide +kernel
theorem dX12_keep_26 : decode cX12_keep 26 = .ok (.iload_n 1, 1) := by decide +kernel
theorem dX12_keep_27 : decode cX12_keep 27 = .ok (.iadd, 1) := by decide +kernel
theorem dX12_keep_28 : decode cX12_keep 28 = .ok (.aload_n 0, 1) := by decide +kernel
theorem dX12_keep_29 : decode cX12_keep 29 = .ok (.getfield 7, 3) := by decide +kernel
theorem dX12_keep_32 : decode cX12_keep 32 = .ok (.bipush 88, 2) := by decide +kernel
theorem dX12_keep_34 : decode cX12_keep 34 = .ok (.iload_n 1, 1) := by decide +kernel
theorem dX12_keep_35 : decode cX12_keep 35 = .ok (.iadd, 1) := by decide +kernel
theorem dX12_keep_36 : decode cX12_keep 36 = .ok (.iaload, 1) := by decide +kernel
theorem dX12_keep_37 : decode cX12_keep 37 = .ok (.iastore, 1) := by decide +kernel
theorem dX12_keep_38 : decode cX12_keep 38 = .ok (.iinc 1 1, 3) := by decide +kernel
theorem dX12_keep_41 : decode cX12_keep 41 = .ok (.goto (-28), 3) := by decide +kernel
theorem dX12_keep_44 : decode cX12_keep 44 = .ok (.aload_n 0, 1) := by decide +kernel
theorem dX12_keep_45 : decode cX12_keep 45 = .ok (.getfield 7, 3) := by decide +kernel
theorem dX12_keep_48 : decode cX12_keep 48 = .ok (.iconst 4, 1) := by decide +kernel
theorem dX12_keep_49 : decode cX12_keep 49 = .ok (.bipush 7, 2) := by decide +kernel
theorem dX12_keep_51 : decode cX12_keep 51 = .ok (.iastore, 1) := by decide +kernel
theorem dX12_keep_52 : decode cX12_keep 52 = .ok (.bipush 69, 2) := by decide +kernel
theorem dX12_keep_54 : decode cX12_keep 54 = .ok (.bipush 19, 2) := by decide +kernel
theorem dX12_keep_56 : decode cX12_keep 56 = .ok (.aload_n 0, 1) := by decide +kernel
theorem dX12_keep_57 : decode cX12_keep 57 = .ok (.getfield 7, 3) := by decide +kernel
theorem dX12_keep_60 : decode cX12_keep 60 = .ok (.iconst 4, 1) := by decide +kernel
theorem dX12_keep_61 : decode cX12_keep 61 = .ok (.iaload, 1) := by decide +kernel
theorem dX12_keep_62 : decode cX12_keep 62 = .ok (.imul, 1) := by decide +kernel
theorem dX12_keep_63 : decode cX12_keep 63 = .ok (.iadd, 1) := by decide +kernel
theorem dX12_keep_64 : decode cX12_keep 64 = .ok (.istore_n 1, 1) := by decide +kernel
theorem dX12_keep_65 : decode cX12_keep 65 = .ok (.iconst 0, 1) := by decide +kernel
theorem dX12_keep_66 : decode cX12_keep 66 = .ok (.istore_n 2, 1) := by decide +kernel
theorem dX12_keep_67 : decode cX12_keep 67 = .ok (.iload_n 2, 1) := by decide +kernel
theorem dX12_keep_68 : decode cX12_keep 68 = .ok (.bipush 8, 2) := by decide +kernel
theorem dX12_keep_70 : decode cX12_keep 70 = .ok (.if_icmp .ge 40, 3) := by decide +kernel
theorem dX12_keep_73 : decode cX12_keep 73 = .ok (.aload_n 0, 1) := by decide +kernel
theorem dX12_keep_74 : decode cX12_keep 74 = .ok (.getfield 7, 3) := by decide +kernel
theorem dX12_keep_77 : decode cX12_keep 77 = .ok (.iload_n 1, 1) := by decide +kernel
theorem dX12_keep_78 : decode cX12_keep 78 = .ok (.iload_n 2, 1) := by decide +kernel
theorem dX12_keep_79 : decode cX12_keep 79 = .ok (.iadd, 1) := by decide +kernel
theorem dX12_keep_80 : decode cX12_keep 80 = .ok (.aload_n 0, 1) := by decide +kernel
theorem dX12_keep_81 : decode cX12_keep 81 = .ok (.iload_n 2, 1) := by decide +kernel
theorem dX12_keep_82 : decode cX12_keep 82 = .ok (.iconst 1, 1) := by decide +kernel
theorem dX12_keep_83 : decode cX12_keep 83 = .ok (.invokevirtual 103, 3) := by decide +kernel
theorem dX12_keep_86 : decode cX12_keep 86 = .ok (.iastore, 1) := by decide +kernel
theorem dX12_keep_87 : decode cX12_keep 87 = .ok (.aload_n 0, 1) := by decide +kernel
theorem dX12_keep_88 : decode cX12_keep 88 = .ok (.getfield 7, 3) := by decide +kernel
theorem dX12_keep_91 : decode cX12_keep 91 = .ok (.iload_n 1, 1) := by decide +kernel
theorem dX12_keep_92 : decode cX12_keep 92 = .ok (.bipush 8, 2) := by decide +kernel
theorem dX12_keep_94 : decode cX12_keep 94 = .ok (.iadd, 1) := by decide +kernel
theorem dX12_keep_95 : decode cX12_keep 95 = .ok (.iload_n 2, 1) := by decide +kernel
theorem dX12_keep_96 : decode cX12_keep 96 = .ok (.iadd, 1) := by decide +kernel
theorem dX12_keep_97 : decode cX12_keep 97 = .ok (.aload_n 0, 1) := by decide +kernel
theorem dX12_keep_98 : decode cX12_keep 98 = .ok (.iload_n 2, 1) := by decide +kernel
theorem dX12_keep_99 : decode cX12_keep 99 = .ok (.iconst 2, 1) := by decide +kernel
theorem dX12_keep_100 : decode cX12_keep 100 = .ok (.invokevirtual 103, 3) := by decide +kernel
theorem dX12_keep_103 : decode cX12_keep 103 = .ok (.iastore, 1) := by decide +kernel
theorem dX12_keep_104 : decode cX12_keep 104 = .ok (.iinc 2 1, 3) := by decide +kernel
theorem dX12_keep_107 : decode cX12_keep 107 = .ok (.goto (-40), 3) := by decide +kernel
theorem dX12_keep_110 : decode cX12_keep 110 = .ok (.aload_n 0, 1) := by decide +kernel
theorem dX12_keep_111 : decode cX12_keep 111 = .ok (.getfield 7, 3) := by decide +kernel
theorem dX12_keep_114 : decode cX12_keep 114 = .ok (.iload_n 1, 1) := by decide +kernel
theorem dX12_keep_115 : decode cX12_keep 115 = .ok (.bipush 16, 2) := by decide +kernel
theorem dX12_keep_117 : decode cX12_keep 117 = .ok (.iadd, 1) := by decide +kernel
theorem dX12_keep_118 : decode cX12_keep 118 = .ok (.aload_n 0, 1) := by decide +kernel
theorem dX12_keep_119 : decode cX12_keep 119 = .ok (.getfield 7, 3) := by decide +kernel
theorem dX12_keep_122 : decode cX12_keep 122 = .ok (.iconst 2, 1) := by decide +kernel
theorem dX12_keep_123 : decode cX12_keep 123 = .ok (.iaload, 1) := by decide +kernel
theorem dX12_keep_124 : decode cX12_keep 124 = .ok (.iastore, 1) := by decide +kernel
theorem dX12_keep_125 : decode cX12_keep 125 = .ok (.aload_n 0, 1) := by decide +kernel
theorem dX12_keep_126 : decode cX12_keep 126 = .ok (.getfield 7, 3) := by decide +kernel
theorem dX12_keep_129 : decode cX12_keep 129 = .ok (.iload_n 1, 1) := by decide +kernel
theorem dX12_keep_130 : decode cX12_keep 130 = .ok (.bipush 17, 2) := by decide +kernel
theorem dX12_keep_132 : decode cX12_keep 132 = .ok (.iadd, 1) := by decide +kernel
theorem dX12_keep_133 : decode cX12_keep 133 = .ok (.aload_n 0, 1) := by decide +kernel
theorem dX12_keep_134 : decode cX12_keep 134 = .ok (.getfield 7, 3) := by decide +kernel
theorem dX12_keep_137 : decode cX12_keep 137 = .ok (.iconst 5, 1) := by decide +kernel
theorem dX12_keep_138 : decode cX12_keep 138 = .ok (.iaload, 1) := by decide +kernel
theorem dX12_keep_139 : decode cX12_keep 139 = .ok (.iastore, 1) := by decide +kernel
theorem dX12_keep_140 : decode cX12_keep 140 = .ok (.aload_n 0, 1) := by decide +kernel
theorem dX12_keep_141 : decode cX12_keep 141 = .ok (.getfield 7, 3) := by decide +kernel
theorem dX12_keep_144 : decode cX12_keep 144 = .ok (.iload_n 1, 1) := by decide +kernel
theorem dX12_keep_145 : decode cX12_keep 145 = .ok (.bipush 18, 2) := by decide +kernel
theorem dX12_keep_147 : decode cX12_keep 147 = .ok (.iadd, 1) := by decide +kernel
theorem dX12_keep_148 : decode cX12_keep 148 = .ok (.aload_n 0, 1) := by decide +kernel
theorem dX12_keep_149 : decode cX12_keep 149 = .ok (.getfield 7, 3) := by decide +kernel
theorem dX12_keep_152 : decode cX12_keep 152 = .ok (.bipush 6, 2) := by decide +kernel
theorem dX12_keep_154 : decode cX12_keep 154 = .ok (.iaload, 1) := by decide +kernel
theorem dX12_keep_155 : decode cX12_keep 155 = .ok (.iastore, 1) := by decide +kernel
theorem dX12_keep_156 : decode cX12_keep 156 = .ok (.aload_n 0, 1) := by decide +kernel
theorem dX12_keep_157 : decode cX12_keep 157 = .ok (.getfield 7, 3) := by decide +kernel
theorem dX12_keep_160 : decode cX12_keep 160 = .ok (.iconst 4, 1) := by decide +kernel
theorem dX12_keep_161 : decode cX12_keep 161 = .ok (.dup2, 1) := by decide +kernel
theorem dX12_keep_162 : decode cX12_keep 162 = .ok (.iaload, 1) := by decide +kernel
theorem dX12_keep_163 : decode cX12_keep 163 = .ok (.iconst 1, 1) := by decide +kernel
theorem dX12_keep_164 : decode cX12_keep 164 = .ok (.iadd, 1) := by decide +kernel
theorem dX12_keep_165 : decode cX12_keep 165 = .ok (.iastore, 1) := by decide +kernel
theorem dX12_keep_166 : decode cX12_keep 166 = .ok (.return_, 1) := by decide +kernel
theorem dX12_layNow_0 : decode cX12_layNow 0 = .ok (.iconst 0, 1) := by decide +kernel
theorem dX12_layNow_1 : decode cX12_layNow 1 = .ok (.istore_n 1, 1) := by decide +kernel
theorem dX12_layNow_2 : decode cX12_layNow 2 = .ok (.iload_n 1, 1) := by decide +kernel
theorem dX12_layNow_3 : decode cX12_layNow 3 = .ok (.aload_n 0, 1) := by decide +kernel
theorem dX12_layNow_4 : decode cX12_layNow 4 = .ok (.invokevirtual 64, 3) := by decide +kernel
theorem dX12_layNow_7 : decode cX12_layNow 7 = .ok (.if_icmp .ge 47, 3) := by decide +kernel
theorem dX12_layNow_10 : decode cX12_layNow 10 = .ok (.aload_n 0, 1) := by decide +kernel
theorem dX12_layNow_11 : decode cX12_layNow 11 = .ok (.getfield 7, 3) := by decide +kernel
theorem dX12_layNow_14 : decode cX12_layNow 14 = .ok (.bipush 7, 2) := by decide +kernel
theorem dX12_layNow_16 : decode cX12_layNow 16 = .ok (.iconst 4, 1) := by decide +kernel
theorem dX12_layNow_17 : decode cX12_layNow 17 = .ok (.iload_n 1, 1) := by decide +kernel
theorem dX12_layNow_18 : decode cX12_layNow 18 = .ok (.imul, 1) := by decide +kernel
theorem dX12_layNow_19 : decode cX12_layNow 19 = .ok (.iadd, 1) := by decide +kernel
theorem dX12_layNow_20 : decode cX12_layNow 20 = .ok (.iconst 1, 1) := by decide +kernel
theorem dX12_layNow_21 : decode cX12_layNow 21 = .ok (.iadd, 1) := by decide +kernel
theorem dX12_layNow_22 : decode cX12_layNow 22 = .ok (.aload_n 0, 1) := by decide +kernel
theorem dX12_layNow_23 : decode cX12_layNow 23 = .ok (.getfield 27, 3) := by decide +kernel
theorem dX12_layNow_26 : decode cX12_layNow 26 = .ok (.iload_n 1, 1) := by decide +kernel
theorem dX12_layNow_27 : decode cX12_layNow 27 = .ok (.iaload, 1) := by decide +kernel
theorem dX12_layNow_28 : decode cX12_layNow 28 = .ok (.iastore, 1) := by decide +kernel
theorem dX12_layNow_29 : decode cX12_layNow 29 = .ok (.aload_n 0, 1) := by decide +kernel
theorem dX12_layNow_30 : decode cX12_layNow 30 = .ok (.getfield 7, 3) := by decide +kernel
theorem dX12_layNow_33 : decode cX12_layNow 33 = .ok (.bipush 7, 2) := by decide +kernel
theorem dX12_layNow_35 : decode cX12_layNow 35 = .ok (.iconst 4, 1) := by decide +kernel
theorem dX12_layNow_36 : decode cX12_layNow 36 = .ok (.iload_n 1, 1) := by decide +kernel
theorem dX12_layNow_37 : decode cX12_layNow 37 = .ok (.imul, 1) := by decide +kernel
theorem dX12_layNow_38 : decode cX12_layNow 38 = .ok (.iadd, 1) := by decide +kernel
theorem dX12_layNow_39 : decode cX12_layNow 39 = .ok (.iconst 2, 1) := by decide +kernel
theorem dX12_layNow_40 : decode cX12_layNow 40 = .ok (.iadd, 1) := by decide +kernel
theorem dX12_layNow_41 : decode cX12_layNow 41 = .ok (.aload_n 0, 1) := by decide +kernel
theorem dX12_layNow_42 : decode cX12_layNow 42 = .ok (.getfield 30, 3) := by decide +kernel
theorem dX12_layNow_45 : decode cX12_layNow 45 = .ok (.iload_n 1, 1) := by decide +kernel
theorem dX12_layNow_46 : decode cX12_layNow 46 = .ok (.iaload, 1) := by decide +kernel
theorem dX12_layNow_47 : decode cX12_layNow 47 = .ok (.iastore, 1) := by decide +kernel
theorem dX12_layNow_48 : decode cX12_layNow 48 = .ok (.iinc 1 1, 3) := by decide +kernel
theorem dX12_layNow_51 : decode cX12_layNow 51 = .ok (.goto (-49), 3) := by decide +kernel
theorem dX12_layNow_54 : decode cX12_layNow 54 = .ok (.aload_n 0, 1) := by decide +kernel
theorem dX12_layNow_55 : decode cX12_layNow 55 = .ok (.getfield 7, 3) := by decide +kernel
theorem dX12_layNow_58 : decode cX12_layNow 58 = .ok (.iconst 2, 1) := by decide +kernel
theorem dX12_layNow_59 : decode cX12_layNow 59 = .ok (.aload_n 0, 1) := by decide +kernel
theorem dX12_layNow_60 : decode cX12_layNow 60 = .ok (.getfield 107, 3) := by decide +kernel
theorem dX12_layNow_63 : decode cX12_layNow 63 = .ok (.iastore, 1) := by decide +kernel
theorem dX12_layNow_64 : decode cX12_layNow 64 = .ok (.aload_n 0, 1) := by decide +kernel
theorem dX12_layNow_65 : decode cX12_layNow 65 = .ok (.getfield 7, 3) := by decide +kernel
theorem dX12_layNow_68 : decode cX12_layNow 68 = .ok (.iconst 5, 1) := by decide +kernel
theorem dX12_layNow_69 : decode cX12_layNow 69 = .ok (.aload_n 0, 1) := by decide +kernel
theorem dX12_layNow_70 : decode cX12_layNow 70 = .ok (.getfield 111, 3) := by decide +kernel
theorem dX12_layNow_73 : decode cX12_layNow 73 = .ok (.iastore, 1) := by decide +kernel
theorem dX12_layNow_74 : decode cX12_layNow 74 = .ok (.aload_n 0, 1) := by decide +kernel
theorem dX12_layNow_75 : decode cX12_layNow 75 = .ok (.getfield 7, 3) := by decide +kernel
theorem dX12_layNow_78 : decode cX12_layNow 78 = .ok (.bipush 6, 2) := by decide +kernel
theorem dX12_layNow_80 : decode cX12_layNow 80 = .ok (.aload_n 0, 1) := by decide +kernel
theorem dX12_layNow_81 : decode cX12_layNow 81 = .ok (.getfield 114, 3) := by decide +kernel
theorem dX12_layNow_84 : decode cX12_layNow 84 = .ok (.iastore, 1) := by decide +kernel
theorem dX12_layNow_85 : decode cX12_layNow 85 = .ok (.return_, 1) := by decide +kernel
theorem dX12_vote_0 : decode cX12_vote 0 = .ok (.aload_n 0, 1) := by decide +kernel
theorem dX12_vote_1 : decode cX12_vote 1 = .ok (.iload_n 1, 1) := by decide +kernel
theorem dX12_vote_2 : decode cX12_vote 2 = .ok (.invokevirtual 155, 3) := by decide +kernel
theorem dX12_vote_5 : decode cX12_vote 5 = .ok (.ifCond .ne 10, 3) := by decide +kernel
theorem dX12_vote_8 : decode cX12_vote 8 = .ok (.aload_n 0, 1) := by decide +kernel
theorem dX12_vote_9 : decode cX12_vote 9 = .ok (.bipush (-2), 2) := by decide +kernel
theorem dX12_vote_11 : decode cX12_vote 11 = .ok (.invokevirtual 81, 3) := by decide +kernel
theorem dX12_vote_14 : decode cX12_vote 14 = .ok (.ireturn, 1) := by decide +kernel
theorem dX12_vote_15 : decode cX12_vote 15 = .ok (.aload_n 0, 1) := by decide +kernel
theorem dX12_vote_16 : decode cX12_vote 16 = .ok (.invokevirtual 158, 3) := by decide +kernel
theorem dX12_vote_19 : decode cX12_vote 19 = .ok (.aload_n 0, 1) := by decide +kernel
theorem dX12_vote_20 : decode cX12_vote 20 = .ok (.invokevirtual 161, 3) := by decide +kernel
theorem dX12_vote_23 : decode cX12_vote 23 = .ok (.aload_n 0, 1) := by decide +kernel
theorem dX12_vote_24 : decode cX12_vote 24 = .ok (.iload_n 1, 1) := by decide +kernel
theorem dX12_vote_25 : decode cX12_vote 25 = .ok (.invokevirtual 164, 3) := by decide +kernel
theorem dX12_vote_28 : decode cX12_vote 28 = .ok (.istore_n 2, 1) := by decide +kernel
theorem dX12_vote_29 : decode cX12_vote 29 = .ok (.aload_n 0, 1) := by decide +kernel
theorem dX12_vote_30 : decode cX12_vote 30 = .ok (.invokevirtual 167, 3) := by decide +kernel
theorem dX12_vote_33 : decode cX12_vote 33 = .ok (.iload_n 2, 1) := by decide +kernel
theorem dX12_vote_34 : decode cX12_vote 34 = .ok (.ireturn, 1) := by decide +kernel
theorem dX12_night_0 : decode cX12_night 0 = .ok (.iload_n 1, 1) := by decide +kernel
theorem dX12_night_1 : decode cX12_night 1 = .ok (.i2l, 1) := by decide +kernel
theorem dX12_night_2 : decode cX12_night 2 = .ok (.lconst 1, 1) := by decide +kernel
theorem dX12_night_3 : decode cX12_night 3 = .ok (.ldc2_w 98, 3) := by decide +kernel
theorem dX12_night_6 : decode cX12_night 6 = .ok (.invokestatic 68, 3) := by decide +kernel
theorem dX12_night_9 : decode cX12_night 9 = .ok (.ifCond .ne 10, 3) := by decide +kernel
theorem dX12_night_12 : decode cX12_night 12 = .ok (.aload_n 0, 1) := by decide +kernel
theorem dX12_night_13 : decode cX12_night 13 = .ok (.bipush (-2), 2) := by decide +kernel
theorem dX12_night_15 : decode cX12_night 15 = .ok (.invokevirtual 81, 3) := by decide +kernel
theorem dX12_night_18 : decode cX12_night 18 = .ok (.ireturn, 1) := by decide +kernel
theorem dX12_night_19 : decode cX12_night 19 = .ok (.aload_n 0, 1) := by decide +kernel
theorem dX12_night_20 : decode cX12_night 20 = .ok (.invokevirtual 158, 3) := by decide +kernel
theorem dX12_night_23 : decode cX12_night 23 = .ok (.aload_n 0, 1) := by decide +kernel
theorem dX12_night_24 : decode cX12_night 24 = .ok (.invokevirtual 161, 3) := by decide +kernel
theorem dX12_night_27 : decode cX12_night 27 = .ok (.aload_n 0, 1) := by decide +kernel
theorem dX12_night_28 : decode cX12_night 28 = .ok (.iload_n 1, 1) := by decide +kernel
theorem dX12_night_29 : decode cX12_night 29 = .ok (.invokevirtual 170, 3) := by decide +kernel
theorem dX12_night_32 : decode cX12_night 32 = .ok (.istore_n 2, 1) := by decide +kernel
theorem dX12_night_33 : decode cX12_night 33 = .ok (.aload_n 0, 1) := by decide +kernel
theorem dX12_night_34 : decode cX12_night 34 = .ok (.invokevirtual 167, 3) := by decide +kernel
theorem dX12_night_37 : decode cX12_night 37 = .ok (.iload_n 2, 1) := by decide +kernel
theorem dX12_night_38 : decode cX12_night 38 = .ok (.ireturn, 1) := by decide +kernel
theorem dX12_undo_0 : decode cX12_undo 0 = .ok (.aload_n 0, 1) := by decide +kernel
theorem dX12_undo_1 : decode cX12_undo 1 = .ok (.getfield 7, 3) := by decide +kernel
theorem dX12_undo_4 : decode cX12_undo 4 = .ok (.iconst 4, 1) := by decide +kernel
theorem dX12_undo_5 : decode cX12_undo 5 = .ok (.iaload, 1) := by decide +kernel
theorem dX12_undo_6 : decode cX12_undo 6 = .ok (.ifCond .ne 8, 3) := by decide +kernel
theorem dX12_undo_9 : decode cX12_undo 9 = .ok (.aload_n 0, 1) := by decide +kernel
theorem dX12_undo_10 : decode cX12_undo 10 = .ok (.invokevirtual 173, 3) := by decide +kernel
theorem dX12_undo_13 : decode cX12_undo 13 = .ok (.ireturn, 1) := by decide +kernel
theorem dX12_undo_14 : decode cX12_undo 14 = .ok (.aload_n 0, 1) := by decide +kernel
theorem dX12_undo_15 : decode cX12_undo 15 = .ok (.getfield 7, 3) := by decide +kernel
theorem dX12_undo_18 : decode cX12_undo 18 = .ok (.iconst 4, 1) := by decide +kernel
theorem dX12_undo_19 : decode cX12_undo 19 = .ok (.dup2, 1) := by decide +kernel
theorem dX12_undo_20 : decode cX12_undo 20 = .ok (.iaload, 1) := by decide +kernel
theorem dX12_undo_21 : decode cX12_undo 21 = .ok (.iconst 1, 1) := by decide +kernel
theorem dX12_undo_22 : decode cX12_undo 22 = .ok (.isub, 1) := by decide +kernel
theorem dX12_undo_23 : decode cX12_undo 23 = .ok (.iastore, 1) := by decide +kernel
theorem dX12_undo_24 : decode cX12_undo 24 = .ok (.bipush 69, 2) := by decide +kernel
theorem dX12_undo_26 : decode cX12_undo 26 = .ok (.bipush 19, 2) := by decide +kernel
theorem dX12_undo_28 : decode cX12_undo 28 = .ok (.aload_n 0, 1) := by decide +kernel
theorem dX12_undo_29 : decode cX12_undo 29 = .ok (.getfield 7, 3) := by decide +kernel
theorem dX12_undo_32 : decode cX12_undo 32 = .ok (.iconst 4, 1) := by decide +kernel
theorem dX12_undo_33 : decode cX12_undo 33 = .ok (.iaload, 1) := by decide +kernel
theorem dX12_undo_34 : decode cX12_undo 34 = .ok (.imul, 1) := by decide +kernel
theorem dX12_undo_35 : decode cX12_undo 35 = .ok (.iadd, 1) := by decide +kernel
theorem dX12_undo_36 : decode cX12_undo 36 = .ok (.istore_n 1, 1) := by decide +kernel
theorem dX12_undo_37 : decode cX12_undo 37 = .ok (.iconst 0, 1) := by decide +kernel
theorem dX12_undo_38 : decode cX12_undo 38 = .ok (.istore_n 2, 1) := by decide +kernel
theorem dX12_undo_39 : decode cX12_undo 39 = .ok (.iload_n 2, 1) := by decide +kernel
theorem dX12_undo_40 : decode cX12_undo 40 = .ok (.bipush 8, 2) := by decide +kernel
theorem dX12_undo_42 : decode cX12_undo 42 = .ok (.if_icmp .ge 54, 3) := by decide +kernel
theorem dX12_undo_45 : decode cX12_undo 45 = .ok (.aload_n 0, 1) := by decide +kernel
theorem dX12_undo_46 : decode cX12_undo 46 = .ok (.getfield 7, 3) := by decide +kernel
theorem dX12_undo_49 : decode cX12_undo 49 = .ok (.bipush 7, 2) := by decide +kernel
theorem dX12_undo_51 : decode cX12_undo 51 = .ok (.iconst 4, 1) := by decide +kernel
theorem dX12_undo_52 : decode cX12_undo 52 = .ok (.iload_n 2, 1) := by decide +kernel
theorem dX12_undo_53 : decode cX12_undo 53 = .ok (.imul, 1) := by decide +kernel
theorem dX12_undo_54 : decode cX12_undo 54 = .ok (.iadd, 1) := by decide +kernel
theorem dX12_undo_55 : decode cX12_undo 55 = .ok (.iconst 1, 1) := by decide +kernel
theorem dX12_undo_56 : decode cX12_undo 56 = .ok (.iadd, 1) := by decide +kernel
theorem dX12_undo_57 : decode cX12_undo 57 = .ok (.aload_n 0, 1) := by decide +kernel
theorem dX12_undo_58 : decode cX12_undo 58 = .ok (.getfield 7, 3) := by decide +kernel
theorem dX12_undo_61 : decode cX12_undo 61 = .ok (.iload_n 1, 1) := by decide +kernel
theorem dX12_undo_62 : decode cX12_undo 62 = .ok (.iload_n 2, 1) := by decide +kernel
theorem dX12_undo_63 : decode cX12_undo 63 = .ok (.iadd, 1) := by decide +kernel
theorem dX12_undo_64 : decode cX12_undo 64 = .ok (.iaload, 1) := by decide +kernel
theorem dX12_undo_65 : decode cX12_undo 65 = .ok (.iastore, 1) := by decide +kernel
theorem dX12_undo_66 : decode cX12_undo 66 = .ok (.aload_n 0, 1) := by decide +kernel
theorem dX12_undo_67 : decode cX12_undo 67 = .ok (.getfield 7, 3) := by decide +kernel
theorem dX12_undo_70 : decode cX12_undo 70 = .ok (.bipush 7, 2) := by decide +kernel
theorem dX12_undo_72 : decode cX12_undo 72 = .ok (.iconst 4, 1) := by decide +kernel
theorem dX12_undo_73 : decode cX12_undo 73 = .ok (.iload_n 2, 1) := by decide +kernel
theorem dX12_undo_74 : decode cX12_undo 74 = .ok (.imul, 1) := by decide +kernel
theorem dX12_undo_75 : decode cX12_undo 75 = .ok (.iadd, 1) := by decide +kernel
theorem dX12_undo_76 : decode cX12_undo 76 = .ok (.iconst 2, 1) := by decide +kernel
theorem dX12_undo_77 : decode cX12_undo 77 = .ok (.iadd, 1) := by decide +kernel
theorem dX12_undo_78 : decode cX12_undo 78 = .ok (.aload_n 0, 1) := by decide +kernel
theorem dX12_undo_79 : decode cX12_undo 79 = .ok (.getfield 7, 3) := by decide +kernel
theorem dX12_undo_82 : decode cX12_undo 82 = .ok (.iload_n 1, 1) := by decide +kernel
theorem dX12_undo_83 : decode cX12_undo 83 = .ok (.bipush 8, 2) := by decide +kernel
theorem dX12_undo_85 : decode cX12_undo 85 = .ok (.iadd, 1) := by decide +kernel
theorem dX12_undo_86 : decode cX12_undo 86 = .ok (.iload_n 2, 1) := by decide +kernel
theorem dX12_undo_87 : decode cX12_undo 87 = .ok (.iadd, 1) := by decide +kernel
theorem dX12_undo_88 : decode cX12_undo 88 = .ok (.iaload, 1) := by decide +kernel
theorem dX12_undo_89 : decode cX12_undo 89 = .ok (.iastore, 1) := by decide +kernel
theorem dX12_undo_90 : decode cX12_undo 90 = .ok (.iinc 2 1, 3) := by decide +kernel
theorem dX12_undo_93 : decode cX12_undo 93 = .ok (.goto (-54), 3) := by decide +kernel
theorem dX12_undo_96 : decode cX12_undo 96 = .ok (.aload_n 0, 1) := by decide +kernel
theorem dX12_undo_97 : decode cX12_undo 97 = .ok (.getfield 7, 3) := by decide +kernel
theorem dX12_undo_100 : decode cX12_undo 100 = .ok (.iconst 2, 1) := by decide +kernel
theorem dX12_undo_101 : decode cX12_undo 101 = .ok (.aload_n 0, 1) := by decide +kernel
theorem dX12_undo_102 : decode cX12_undo 102 = .ok (.getfield 7, 3) := by decide +kernel
theorem dX12_undo_105 : decode cX12_undo 105 = .ok (.iload_n 1, 1) := by decide +kernel
theorem dX12_undo_106 : decode cX12_undo 106 = .ok (.bipush 16, 2) := by decide +kernel
theorem dX12_undo_108 : decode cX12_undo 108 = .ok (.iadd, 1) := by decide +kernel
theorem dX12_undo_109 : decode cX12_undo 109 = .ok (.iaload, 1) := by decide +kernel
theorem dX12_undo_110 : decode cX12_undo 110 = .ok (.iastore, 1) := by decide +kernel
theorem dX12_undo_111 : decode cX12_undo 111 = .ok (.aload_n 0, 1) := by decide +kernel
theorem dX12_undo_112 : decode cX12_undo 112 = .ok (.getfield 7, 3) := by decide +kernel
theorem dX12_undo_115 : decode cX12_undo 115 = .ok (.iconst 5, 1) := by decide +kernel
theorem dX12_undo_116 : decode cX12_undo 116 = .ok (.aload_n 0, 1) := by decide +kernel
theorem dX12_undo_117 : decode cX12_undo 117 = .ok (.getfield 7, 3) := by decide +kernel
theorem dX12_undo_120 : decode cX12_undo 120 = .ok (.iload_n 1, 1) := by decide +kernel
theorem dX12_undo_121 : decode cX12_undo 121 = .ok (.bipush 17, 2) := by decide +kernel
theorem dX12_undo_123 : decode cX12_undo 123 = .ok (.iadd, 1) := by decide +kernel
theorem dX12_undo_124 : decode cX12_undo 124 = .ok (.iaload, 1) := by decide +kernel
theorem dX12_undo_125 : decode cX12_undo 125 = .ok (.iastore, 1) := by decide +kernel
theorem dX12_undo_126 : decode cX12_undo 126 = .ok (.aload_n 0, 1) := by decide +kernel
theorem dX12_undo_127 : decode cX12_undo 127 = .ok (.getfield 7, 3) := by decide +kernel
theorem dX12_undo_130 : decode cX12_undo 130 = .ok (.bipush 6, 2) := by decide +kernel
theorem dX12_undo_132 : decode cX12_undo 132 = .ok (.aload_n 0, 1) := by decide +kernel
theorem dX12_undo_133 : decode cX12_undo 133 = .ok (.getfield 7, 3) := by decide +kernel
theorem dX12_undo_136 : decode cX12_undo 136 = .ok (.iload_n 1, 1) := by decide +kernel
theorem dX12_undo_137 : decode cX12_undo 137 = .ok (.bipush 18, 2) := by decide +kernel
theorem dX12_undo_139 : decode cX12_undo 139 = .ok (.iadd, 1) := by decide +kernel
theorem dX12_undo_140 : decode cX12_undo 140 = .ok (.iaload, 1) := by decide +kernel
theorem dX12_undo_141 : decode cX12_undo 141 = .ok (.iastore, 1) := by decide +kernel
theorem dX12_undo_142 : decode cX12_undo 142 = .ok (.aload_n 0, 1) := by decide +kernel
theorem dX12_undo_143 : decode cX12_undo 143 = .ok (.getfield 7, 3) := by decide +kernel
theorem dX12_undo_146 : decode cX12_undo 146 = .ok (.iconst 2, 1) := by decide +kernel
theorem dX12_undo_147 : decode cX12_undo 147 = .ok (.iaload, 1) := by decide +kernel
theorem dX12_undo_148 : decode cX12_undo 148 = .ok (.ireturn, 1) := by decide +kernel
theorem dX12_of_0 : decode cX12_of 0 = .ok (.aload_n 0, 1) := by decide +kernel
theorem dX12_of_1 : decode cX12_of 1 = .ok (.iload_n 1, 1) := by decide +kernel
theorem dX12_of_2 : decode cX12_of 2 = .ok (.invokevirtual 94, 3) := by decide +kernel
theorem dX12_of_5 : decode cX12_of 5 = .ok (.ifCond .eq 24, 3) := by decide +kernel
theorem dX12_of_8 : decode cX12_of 8 = .ok (.iload_n 2, 1) := by decide +kernel
theorem dX12_of_9 : decode cX12_of 9 = .ok (.i2l, 1) := by decide +kernel
theorem dX12_of_10 : decode cX12_of 10 = .ok (.lconst 0, 1) := by decide +kernel
theorem dX12_of_11 : decode cX12_of 11 = .ok (.ldc2_w 176, 3) := by decide +kernel
theorem dX12_of_14 : decode cX12_of 14 = .ok (.invokestatic 68, 3) := by decide +kernel
theorem dX12_of_17 : decode cX12_of 17 = .ok (.ifCond .eq 12, 3) := by decide +kernel
theorem dX12_of_20 : decode cX12_of 20 = .ok (.aload_n 0, 1) := by decide +kernel
theorem dX12_of_21 : decode cX12_of 21 = .ok (.iload_n 1, 1) := by decide +kernel
theorem dX12_of_22 : decode cX12_of 22 = .ok (.iload_n 2, 1) := by decide +kernel
theorem dX12_of_23 : decode cX12_of 23 = .ok (.invokevirtual 103, 3) := by decide +kernel
theorem dX12_of_26 : decode cX12_of 26 = .ok (.goto 9, 3) := by decide +kernel
theorem dX12_of_29 : decode cX12_of 29 = .ok (.aload_n 0, 1) := by decide +kernel
theorem dX12_of_30 : decode cX12_of 30 = .ok (.bipush (-10), 2) := by decide +kernel
theorem dX12_of_32 : decode cX12_of 32 = .ok (.invokevirtual 81, 3) := by decide +kernel
theorem dX12_of_35 : decode cX12_of 35 = .ok (.ireturn, 1) := by decide +kernel
theorem dX12_about_0 : decode cX12_about 0 = .ok (.aload_n 0, 1) := by decide +kernel
theorem dX12_about_1 : decode cX12_about 1 = .ok (.iload_n 1, 1) := by decide +kernel
theorem dX12_about_2 : decode cX12_about 2 = .ok (.invokevirtual 155, 3) := by decide +kernel
theorem dX12_about_5 : decode cX12_about 5 = .ok (.ifCond .eq 15, 3) := by decide +kernel
theorem dX12_about_8 : decode cX12_about 8 = .ok (.iload_n 2, 1) := by decide +kernel
theorem dX12_about_9 : decode cX12_about 9 = .ok (.i2l, 1) := by decide +kernel
theorem dX12_about_10 : decode cX12_about 10 = .ok (.lconst 0, 1) := by decide +kernel
theorem dX12_about_11 : decode cX12_about 11 = .ok (.ldc2_w 178, 3) := by decide +kernel
theorem dX12_about_14 : decode cX12_about 14 = .ok (.invokestatic 68, 3) := by decide +kernel
theorem dX12_about_17 : decode cX12_about 17 = .ok (.ifCond .ne 10, 3) := by decide +kernel
theorem dX12_about_20 : decode cX12_about 20 = .ok (.aload_n 0, 1) := by decide +kernel
theorem dX12_about_21 : decode cX12_about 21 = .ok (.bipush (-2), 2) := by decide +kernel
theorem dX12_about_23 : decode cX12_about 23 = .ok (.invokevirtual 81, 3) := by decide +kernel
theorem dX12_about_26 : decode cX12_about 26 = .ok (.ireturn, 1) := by decide +kernel
theorem dX12_about_27 : decode cX12_about 27 = .ok (.aload_n 0, 1) := by decide +kernel
theorem dX12_about_28 : decode cX12_about 28 = .ok (.invokevirtual 161, 3) := by decide +kernel
theorem dX12_about_31 : decode cX12_about 31 = .ok (.iload_n 2, 1) := by decide +kernel
theorem dX12_about_32 : decode cX12_about 32 = .ok (.iconst 3, 1) := by decide +kernel
theorem dX12_about_33 : decode cX12_about 33 = .ok (.if_icmp .ge 12, 3) := by decide +kernel
theorem dX12_about_36 : decode cX12_about 36 = .ok (.aload_n 0, 1) := by decide +kernel
theorem dX12_about_37 : decode cX12_about 37 = .ok (.iload_n 1, 1) := by decide +kernel
theorem dX12_about_38 : decode cX12_about 38 = .ok (.iload_n 2, 1) := by decide +kernel
theorem dX12_about_39 : decode cX12_about 39 = .ok (.invokevirtual 136, 3) := by decide +kernel
theorem dX12_about_42 : decode cX12_about 42 = .ok (.goto 21, 3) := by decide +kernel
theorem dX12_about_45 : decode cX12_about 45 = .ok (.iload_n 2, 1) := by decide +kernel
theorem dX12_about_46 : decode cX12_about 46 = .ok (.iconst 3, 1) := by decide +kernel
theorem dX12_about_47 : decode cX12_about 47 = .ok (.if_icmp .ne 11, 3) := by decide +kernel
theorem dX12_about_50 : decode cX12_about 50 = .ok (.aload_n 0, 1) := by decide +kernel
theorem dX12_about_51 : decode cX12_about 51 = .ok (.iload_n 1, 1) := by decide +kernel
theorem dX12_about_52 : decode cX12_about 52 = .ok (.invokevirtual 146, 3) := by decide +kernel
theorem dX12_about_55 : decode cX12_about 55 = .ok (.goto 8, 3) := by decide +kernel
theorem dX12_about_58 : decode cX12_about 58 = .ok (.aload_n 0, 1) := by decide +kernel
theorem dX12_about_59 : decode cX12_about 59 = .ok (.iload_n 1, 1) := by decide +kernel
theorem dX12_about_60 : decode cX12_about 60 = .ok (.invokevirtual 149, 3) := by decide +kernel
theorem dX12_about_63 : decode cX12_about 63 = .ok (.ireturn, 1) := by decide +kernel
theorem dX12_winner_0 : decode cX12_winner 0 = .ok (.aload_n 0, 1) := by decide +kernel
theorem dX12_winner_1 : decode cX12_winner 1 = .ok (.getfield 7, 3) := by decide +kernel
theorem dX12_winner_4 : decode cX12_winner 4 = .ok (.iconst 5, 1) := by decide +kernel
theorem dX12_winner_5 : decode cX12_winner 5 = .ok (.iaload, 1) := by decide +kernel
theorem dX12_winner_6 : decode cX12_winner 6 = .ok (.ireturn, 1) := by decide +kernel
theorem dX12_coalition_0 : decode cX12_coalition 0 = .ok (.aload_n 0, 1) := by decide +kernel
theorem dX12_coalition_1 : decode cX12_coalition 1 = .ok (.getfield 7, 3) := by decide +kernel
theorem dX12_coalition_4 : decode cX12_coalition 4 = .ok (.bipush 6, 2) := by decide +kernel
theorem dX12_coalition_6 : decode cX12_coalition 6 = .ok (.iaload, 1) := by decide +kernel
theorem dX12_coalition_7 : decode cX12_coalition 7 = .ok (.ireturn, 1) := by decide +kernel
theorem dX12_february_0 : decode cX12_february 0 = .ok (.iload_n 1, 1) := by decide +kernel
theorem dX12_february_1 : decode cX12_february 1 = .ok (.i2l, 1) := by decide +kernel
theorem dX12_february_2 : decode cX12_february 2 = .ok (.lconst 0, 1) := by decide +kernel
theorem dX12_february_3 : decode cX12_february 3 = .ok (.lconst 1, 1) := by decide +kernel
theorem dX12_february_4 : decode cX12_february 4 = .ok (.invokestatic 68, 3) := by decide +kernel
theorem dX12_february_7 : decode cX12_february 7 = .ok (.ifCond .ne 10, 3) := by decide +kernel
theorem dX12_february_10 : decode cX12_february 10 = .ok (.aload_n 0, 1) := by decide +kernel
theorem dX12_february_11 : decode cX12_february 11 = .ok (.bipush (-2), 2) := by decide +kernel
theorem dX12_february_13 : decode cX12_february 13 = .ok (.invokevirtual 81, 3) := by decide +kernel
theorem dX12_february_16 : decode cX12_february 16 = .ok (.ireturn, 1) := by decide +kernel
theorem dX12_february_17 : decode cX12_february 17 = .ok (.aload_n 0, 1) := by decide +kernel
theorem dX12_february_18 : decode cX12_february 18 = .ok (.invokevirtual 161, 3) := by decide +kernel
theorem dX12_february_21 : decode cX12_february 21 = .ok (.iconst 0, 1) := by decide +kernel
theorem dX12_february_22 : decode cX12_february 22 = .ok (.istore_n 2, 1) := by decide +kernel
theorem dX12_february_23 : decode cX12_february 23 = .ok (.iload_n 2, 1) := by decide +kernel
theorem dX12_february_24 : decode cX12_february 24 = .ok (.aload_n 0, 1) := by decide +kernel
theorem dX12_february_25 : decode cX12_february 25 = .ok (.invokevirtual 72, 3) := by decide +kernel
theorem dX12_february_28 : decode cX12_february 28 = .ok (.if_icmp .ge 15, 3) := by decide +kernel
theorem dX12_february_31 : decode cX12_february 31 = .ok (.aload_n 0, 1) := by decide +kernel
theorem dX12_february_32 : decode cX12_february 32 = .ok (.iload_n 2, 1) := by decide +kernel
theorem dX12_february_33 : decode cX12_february 33 = .ok (.invokevirtual 164, 3) := by decide +kernel
theorem dX12_february_36 : decode cX12_february 36 = .ok (.istore_n 3, 1) := by decide +kernel
theorem dX12_february_37 : decode cX12_february 37 = .ok (.iinc 2 1, 3) := by decide +kernel
theorem dX12_february_40 : decode cX12_february 40 = .ok (.goto (-17), 3) := by decide +kernel
theorem dX12_february_43 : decode cX12_february 43 = .ok (.iload_n 1, 1) := by decide +kernel
theorem dX12_february_44 : decode cX12_february 44 = .ok (.ifCond .ne 10, 3) := by decide +kernel
theorem dX12_february_47 : decode cX12_february 47 = .ok (.aload_n 0, 1) := by decide +kernel
theorem dX12_february_48 : decode cX12_february 48 = .ok (.getfield 111, 3) := by decide +kernel
theorem dX12_february_51 : decode cX12_february 51 = .ok (.goto 7, 3) := by decide +kernel
theorem dX12_february_54 : decode cX12_february 54 = .ok (.aload_n 0, 1) := by decide +kernel
theorem dX12_february_55 : decode cX12_february 55 = .ok (.getfield 114, 3) := by decide +kernel
theorem dX12_february_58 : decode cX12_february 58 = .ok (.ireturn, 1) := by decide +kernel
theorem dX12_areUnlike_0 : decode cX12_areUnlike 0 = .ok (.iconst 0, 1) := by decide +kernel
theorem dX12_areUnlike_1 : decode cX12_areUnlike 1 = .ok (.istore_n 1, 1) := by decide +kernel
theorem dX12_areUnlike_2 : decode cX12_areUnlike 2 = .ok (.iconst 0, 1) := by decide +kernel
theorem dX12_areUnlike_3 : decode cX12_areUnlike 3 = .ok (.istore_n 2, 1) := by decide +kernel
theorem dX12_areUnlike_4 : decode cX12_areUnlike 4 = .ok (.iload_n 2, 1) := by decide +kernel
theorem dX12_areUnlike_5 : decode cX12_areUnlike 5 = .ok (.aload_n 0, 1) := by decide +kernel
theorem dX12_areUnlike_6 : decode cX12_areUnlike 6 = .ok (.invokevirtual 72, 3) := by decide +kernel
theorem dX12_areUnlike_9 : decode cX12_areUnlike 9 = .ok (.if_icmp .ge 20, 3) := by decide +kernel
theorem dX12_areUnlike_12 : decode cX12_areUnlike 12 = .ok (.iload_n 1, 1) := by decide +kernel
theorem dX12_areUnlike_13 : decode cX12_areUnlike 13 = .ok (.iconst 1, 1) := by decide +kernel
theorem dX12_areUnlike_14 : decode cX12_areUnlike 14 = .ok (.aload_n 0, 1) := by decide +kernel
theorem dX12_areUnlike_15 : decode cX12_areUnlike 15 = .ok (.getfield 33, 3) := by decide +kernel
theorem dX12_areUnlike_18 : decode cX12_areUnlike 18 = .ok (.iload_n 2, 1) := by decide +kernel
theorem dX12_areUnlike_19 : decode cX12_areUnlike 19 = .ok (.iaload, 1) := by decide +kernel
theorem dX12_areUnlike_20 : decode cX12_areUnlike 20 = .ok (.ishl, 1) := by decide +kernel
theorem dX12_areUnlike_21 : decode cX12_areUnlike 21 = .ok (.ior, 1) := by decide +kernel
theorem dX12_areUnlike_22 : decode cX12_areUnlike 22 = .ok (.istore_n 1, 1) := by decide +kernel
theorem dX12_areUnlike_23 : decode cX12_areUnlike 23 = .ok (.iinc 2 1, 3) := by decide +kernel
theorem dX12_areUnlike_26 : decode cX12_areUnlike 26 = .ok (.goto (-22), 3) := by decide +kernel
theorem dX12_areUnlike_29 : decode cX12_areUnlike 29 = .ok (.iload_n 1, 1) := by decide +kernel
theorem dX12_areUnlike_30 : decode cX12_areUnlike 30 = .ok (.iconst 1, 1) := by decide +kernel
theorem dX12_areUnlike_31 : decode cX12_areUnlike 31 = .ok (.aload_n 0, 1) := by decide +kernel
theorem dX12_areUnlike_32 : decode cX12_areUnlike 32 = .ok (.invokevirtual 72, 3) := by decide +kernel
theorem dX12_areUnlike_35 : decode cX12_areUnlike 35 = .ok (.ishl, 1) := by decide +kernel
theorem dX12_areUnlike_36 : decode cX12_areUnlike 36 = .ok (.iconst 1, 1) := by decide +kernel
theorem dX12_areUnlike_37 : decode cX12_areUnlike 37 = .ok (.isub, 1) := by decide +kernel
theorem dX12_areUnlike_38 : decode cX12_areUnlike 38 = .ok (.if_icmp .ne 7, 3) := by decide +kernel
theorem dX12_areUnlike_41 : decode cX12_areUnlike 41 = .ok (.iconst 1, 1) := by decide +kernel
theorem dX12_areUnlike_42 : decode cX12_areUnlike 42 = .ok (.goto 4, 3) := by decide +kernel
theorem dX12_areUnlike_45 : decode cX12_areUnlike 45 = .ok (.iconst 0, 1) := by decide +kernel
theorem dX12_areUnlike_46 : decode cX12_areUnlike 46 = .ok (.ireturn, 1) := by decide +kernel
theorem dX12_layRow_0 : decode cX12_layRow 0 = .ok (.iload_n 1, 1) := by decide +kernel
theorem dX12_layRow_1 : decode cX12_layRow 1 = .ok (.istore 4, 2) := by decide +kernel
theorem dX12_layRow_3 : decode cX12_layRow 3 = .ok (.iload_n 2, 1) := by decide +kernel
theorem dX12_layRow_4 : decode cX12_layRow 4 = .ok (.iconst 1, 1) := by decide +kernel
theorem dX12_layRow_5 : decode cX12_layRow 5 = .ok (.isub, 1) := by decide +kernel
theorem dX12_layRow_6 : decode cX12_layRow 6 = .ok (.istore 5, 2) := by decide +kernel
theorem dX12_layRow_8 : decode cX12_layRow 8 = .ok (.iload 5, 2) := by decide +kernel
theorem dX12_layRow_10 : decode cX12_layRow 10 = .ok (.ifCond .lt 26, 3) := by decide +kernel
theorem dX12_layRow_13 : decode cX12_layRow 13 = .ok (.aload_n 0, 1) := by decide +kernel
theorem dX12_layRow_14 : decode cX12_layRow 14 = .ok (.getfield 33, 3) := by decide +kernel
theorem dX12_layRow_17 : decode cX12_layRow 17 = .ok (.iload 5, 2) := by decide +kernel
theorem dX12_layRow_19 : decode cX12_layRow 19 = .ok (.iload 4, 2) := by decide +kernel
theorem dX12_layRow_21 : decode cX12_layRow 21 = .ok (.iload_n 3, 1) := by decide +kernel
theorem dX12_layRow_22 : decode cX12_layRow 22 = .ok (.irem, 1) := by decide +kernel
theorem dX12_layRow_23 : decode cX12_layRow 23 = .ok (.iastore, 1) := by decide +kernel
theorem dX12_layRow_24 : decode cX12_layRow 24 = .ok (.iload 4, 2) := by decide +kernel
theorem dX12_layRow_26 : decode cX12_layRow 26 = .ok (.iload_n 3, 1) := by decide +kernel
theorem dX12_layRow_27 : decode cX12_layRow 27 = .ok (.idiv, 1) := by decide +kernel
theorem dX12_layRow_28 : decode cX12_layRow 28 = .ok (.istore 4, 2) := by decide +kernel
theorem dX12_layRow_30 : decode cX12_layRow 30 = .ok (.iinc 5 (-1), 3) := by decide +kernel
theorem dX12_layRow_33 : decode cX12_layRow 33 = .ok (.goto (-25), 3) := by decide +kernel
theorem dX12_layRow_36 : decode cX12_layRow 36 = .ok (.return_, 1) := by decide +kernel
theorem dX12_power_0 : decode cX12_power 0 = .ok (.iconst 1, 1) := by decide +kernel
theorem dX12_power_1 : decode cX12_power 1 = .ok (.istore_n 2, 1) := by decide +kernel
theorem dX12_power_2 : decode cX12_power 2 = .ok (.iconst 0, 1) := by decide +kernel
theorem dX12_power_3 : decode cX12_power 3 = .ok (.istore_n 3, 1) := by decide +kernel
theorem dX12_power_4 : decode cX12_power 4 = .ok (.iload_n 3, 1) := by decide +kernel
theorem dX12_power_5 : decode cX12_power 5 = .ok (.iload_n 1, 1) := by decide +kernel
theorem dX12_power_6 : decode cX12_power 6 = .ok (.if_icmp .ge 13, 3) := by decide +kernel
theorem dX12_power_9 : decode cX12_power 9 = .ok (.iload_n 2, 1) := by decide +kernel
theorem dX12_power_10 : decode cX12_power 10 = .ok (.iload_n 0, 1) := by decide +kernel
theorem dX12_power_11 : decode cX12_power 11 = .ok (.imul, 1) := by decide +kernel
theorem dX12_power_12 : decode cX12_power 12 = .ok (.istore_n 2, 1) := by decide +kernel
theorem dX12_power_13 : decode cX12_power 13 = .ok (.iinc 3 1, 3) := by decide +kernel
theorem dX12_power_16 : decode cX12_power 16 = .ok (.goto (-12), 3) := by decide +kernel
theorem dX12_power_19 : decode cX12_power 19 = .ok (.iload_n 2, 1) := by decide +kernel
theorem dX12_power_20 : decode cX12_power 20 = .ok (.ireturn, 1) := by decide +kernel
theorem dX12_orders_0 : decode cX12_orders 0 = .ok (.aload_n 0, 1) := by decide +kernel
theorem dX12_orders_1 : decode cX12_orders 1 = .ok (.iload_n 1, 1) := by decide +kernel
theorem dX12_orders_2 : decode cX12_orders 2 = .ok (.invokevirtual 94, 3) := by decide +kernel
theorem dX12_orders_5 : decode cX12_orders 5 = .ok (.ifCond .eq 8, 3) := by decide +kernel
theorem dX12_orders_8 : decode cX12_orders 8 = .ok (.iload_n 2, 1) := by decide +kernel
theorem dX12_orders_9 : decode cX12_orders 9 = .ok (.iconst (-1), 1) := by decide +kernel
theorem dX12_orders_10 : decode cX12_orders 10 = .ok (.if_icmp .ge 10, 3) := by decide +kernel
theorem dX12_orders_13 : decode cX12_orders 13 = .ok (.aload_n 0, 1) := by decide +kernel
theorem dX12_orders_14 : decode cX12_orders 14 = .ok (.bipush (-10), 2) := by decide +kernel
theorem dX12_orders_16 : decode cX12_orders 16 = .ok (.invokevirtual 81, 3) := by decide +kernel
theorem dX12_orders_19 : decode cX12_orders 19 = .ok (.ireturn, 1) := by decide +kernel
theorem dX12_orders_20 : decode cX12_orders 20 = .ok (.aload_n 0, 1) := by decide +kernel
theorem dX12_orders_21 : decode cX12_orders 21 = .ok (.getfield 7, 3) := by decide +kernel
theorem dX12_orders_24 : decode cX12_orders 24 = .ok (.iconst 5, 1) := by decide +kernel
theorem dX12_orders_25 : decode cX12_orders 25 = .ok (.iaload, 1) := by decide +kernel
theorem dX12_orders_26 : decode cX12_orders 26 = .ok (.iconst (-1), 1) := by decide +kernel
theorem dX12_orders_27 : decode cX12_orders 27 = .ok (.if_icmp .eq 8, 3) := by decide +kernel
theorem dX12_orders_30 : decode cX12_orders 30 = .ok (.aload_n 0, 1) := by decide +kernel
theorem dX12_orders_31 : decode cX12_orders 31 = .ok (.invokevirtual 173, 3) := by decide +kernel
theorem dX12_orders_34 : decode cX12_orders 34 = .ok (.ireturn, 1) := by decide +kernel
theorem dX12_orders_35 : decode cX12_orders 35 = .ok (.aload_n 0, 1) := by decide +kernel
theorem dX12_orders_36 : decode cX12_orders 36 = .ok (.invokevirtual 72, 3) := by decide +kernel
theorem dX12_orders_39 : decode cX12_orders 39 = .ok (.istore_n 3, 1) := by decide +kernel
theorem dX12_orders_40 : decode cX12_orders 40 = .ok (.iconst 0, 1) := by decide +kernel
theorem dX12_orders_41 : decode cX12_orders 41 = .ok (.istore 4, 2) := by decide +kernel
theorem dX12_orders_43 : decode cX12_orders 43 = .ok (.iconst 0, 1) := by decide +kernel
theorem dX12_orders_44 : decode cX12_orders 44 = .ok (.istore 5, 2) := by decide +kernel
theorem dX12_orders_46 : decode cX12_orders 46 = .ok (.iload 5, 2) := by decide +kernel
theorem dX12_orders_48 : decode cX12_orders 48 = .ok (.iload_n 3, 1) := by decide +kernel
theorem dX12_orders_49 : decode cX12_orders 49 = .ok (.iload_n 3, 1) := by decide +kernel
theorem dX12_orders_50 : decode cX12_orders 50 = .ok (.invokestatic 180, 3) := by decide +kernel
theorem dX12_orders_53 : decode cX12_orders 53 = .ok (.if_icmp .ge 116, 3) := by decide +kernel
theorem dX12_orders_56 : decode cX12_orders 56 = .ok (.aload_n 0, 1) := by decide +kernel
theorem dX12_orders_57 : decode cX12_orders 57 = .ok (.iload 5, 2) := by decide +kernel
theorem dX12_orders_59 : decode cX12_orders 59 = .ok (.iload_n 3, 1) := by decide +kernel
theorem dX12_orders_60 : decode cX12_orders 60 = .ok (.iload_n 3, 1) := by decide +kernel
theorem dX12_orders_61 : decode cX12_orders 61 = .ok (.invokevirtual 183, 3) := by decide +kernel
theorem dX12_orders_64 : decode cX12_orders 64 = .ok (.aload_n 0, 1) := by decide +kernel
theorem dX12_orders_65 : decode cX12_orders 65 = .ok (.invokevirtual 187, 3) := by decide +kernel
theorem dX12_orders_68 : decode cX12_orders 68 = .ok (.ifCond .eq 95, 3) := by decide +kernel
theorem dX12_orders_71 : decode cX12_orders 71 = .ok (.aload_n 0, 1) := by decide +kernel
theorem dX12_orders_72 : decode cX12_orders 72 = .ok (.invokevirtual 161, 3) := by decide +kernel
theorem dX12_orders_75 : decode cX12_orders 75 = .ok (.iconst 0, 1) := by decide +kernel
theorem dX12_orders_76 : decode cX12_orders 76 = .ok (.istore 6, 2) := by decide +kernel
theorem dX12_orders_78 : decode cX12_orders 78 = .ok (.iload 6, 2) := by decide +kernel
theorem dX12_orders_80 : decode cX12_orders 80 = .ok (.iload_n 3, 1) := by decide +kernel
theorem dX12_orders_81 : decode cX12_orders 81 = .ok (.if_icmp .ge 22, 3) := by decide +kernel
theorem dX12_orders_84 : decode cX12_orders 84 = .ok (.aload_n 0, 1) := by decide +kernel
theorem dX12_orders_85 : decode cX12_orders 85 = .ok (.aload_n 0, 1) := by decide +kernel
theorem dX12_orders_86 : decode cX12_orders 86 = .ok (.getfield 33, 3) := by decide +kernel
theorem dX12_orders_89 : decode cX12_orders 89 = .ok (.iload 6, 2) := by decide +kernel
theorem dX12_orders_91 : decode cX12_orders 91 = .ok (.iaload, 1) := by decide +kernel
theorem dX12_orders_92 : decode cX12_orders 92 = .ok (.invokevirtual 164, 3) := by decide +kernel
theorem dX12_orders_95 : decode cX12_orders 95 = .ok (.istore 7, 2) := by decide +kernel
theorem dX12_orders_97 : decode cX12_orders 97 = .ok (.iinc 6 1, 3) := by decide +kernel
theorem dX12_orders_100 : decode cX12_orders 100 = .ok (.goto (-22), 3) := by decide +kernel
theorem dX12_orders_103 : decode cX12_orders 103 = .ok (.iconst 0, 1) := by decide +kernel
theorem dX12_orders_104 : decode cX12_orders 104 = .ok (.istore 6, 2) := by decide +kernel
theorem dX12_orders_106 : decode cX12_orders 106 = .ok (.iload 6, 2) := by decide +kernel
theorem dX12_orders_108 : decode cX12_orders 108 = .ok (.iload_n 3, 1) := by decide +kernel
theorem dX12_orders_109 : decode cX12_orders 109 = .ok (.if_icmp .ge 36, 3) := by decide +kernel
theorem dX12_orders_112 : decode cX12_orders 112 = .ok (.aload_n 0, 1) := by decide +kernel
theorem dX12_orders_113 : decode cX12_orders 113 = .ok (.getfield 111, 3) := by decide +kernel
theorem dX12_orders_116 : decode cX12_orders 116 = .ok (.iload_n 1, 1) := by decide +kernel
theorem dX12_orders_117 : decode cX12_orders 117 = .ok (.if_icmp .ne 28, 3) := by decide +kernel
theorem dX12_orders_120 : decode cX12_orders 120 = .ok (.iload 4, 2) := by decide +kernel
theorem dX12_orders_122 : decode cX12_orders 122 = .ok (.ifCond .ne 23, 3) := by decide +kernel
theorem dX12_orders_125 : decode cX12_orders 125 = .ok (.aload_n 0, 1) := by decide +kernel
theorem dX12_orders_126 : decode cX12_orders 126 = .ok (.getfield 36, 3) := by decide +kernel
theorem dX12_orders_129 : decode cX12_orders 129 = .ok (.iload 6, 2) := by decide +kernel
theorem dX12_orders_131 : decode cX12_orders 131 = .ok (.aload_n 0, 1) := by decide +kernel
theorem dX12_orders_132 : decode cX12_orders 132 = .ok (.getfield 33, 3) := by decide +kernel
theorem dX12_orders_135 : decode cX12_orders 135 = .ok (.iload 6, 2) := by decide +kernel
theorem dX12_orders_137 : decode cX12_orders 137 = .ok (.iaload, 1) := by decide +kernel
theorem dX12_orders_138 : decode cX12_orders 138 = .ok (.iastore, 1) := by decide +kernel
theorem dX12_orders_139 : decode cX12_orders 139 = .ok (.iinc 6 1, 3) := by decide +kernel
theorem dX12_orders_142 : decode cX12_orders 142 = .ok (.goto (-36), 3) := by decide +kernel
theorem dX12_orders_145 : decode cX12_orders 145 = .ok (.iload 4, 2) := by decide +kernel
theorem dX12_orders_147 : decode cX12_orders 147 = .ok (.aload_n 0, 1) := by decide +kernel
theorem dX12_orders_148 : decode cX12_orders 148 = .ok (.getfield 111, 3) := by decide +kernel
theorem dX12_orders_151 : decode cX12_orders 151 = .ok (.iload_n 1, 1) := by decide +kernel
theorem dX12_orders_152 : decode cX12_orders 152 = .ok (.if_icmp .ne 7, 3) := by decide +kernel
theorem dX12_orders_155 : decode cX12_orders 155 = .ok (.iconst 1, 1) := by decide +kernel
theorem dX12_orders_156 : decode cX12_orders 156 = .ok (.goto 4, 3) := by decide +kernel
theorem dX12_orders_159 : decode cX12_orders 159 = .ok (.iconst 0, 1) := by decide +kernel
theorem dX12_orders_160 : decode cX12_orders 160 = .ok (.iadd, 1) := by decide +kernel
theorem dX12_orders_161 : decode cX12_orders 161 = .ok (.istore 4, 2) := by decide +kernel
theorem dX12_orders_163 : decode cX12_orders 163 = .ok (.iinc 5 1, 3) := by decide +kernel
theorem dX12_orders_166 : decode cX12_orders 166 = .ok (.goto (-120), 3) := by decide +kernel
theorem dX12_orders_169 : decode cX12_orders 169 = .ok (.iload_n 2, 1) := by decide +kernel
theorem dX12_orders_170 : decode cX12_orders 170 = .ok (.iconst (-1), 1) := by decide +kernel
theorem dX12_orders_171 : decode cX12_orders 171 = .ok (.if_icmp .ne 8, 3) := by decide +kernel
theorem dX12_orders_174 : decode cX12_orders 174 = .ok (.iload 4, 2) := by decide +kernel
theorem dX12_orders_176 : decode cX12_orders 176 = .ok (.goto 28, 3) := by decide +kernel
theorem dX12_orders_179 : decode cX12_orders 179 = .ok (.iload 4, 2) := by decide +kernel
theorem dX12_orders_181 : decode cX12_orders 181 = .ok (.ifCond .ne 7, 3) := by decide +kernel
theorem dX12_orders_184 : decode cX12_orders 184 = .ok (.iconst (-1), 1) := by decide +kernel
theorem dX12_orders_185 : decode cX12_orders 185 = .ok (.goto 19, 3) := by decide +kernel
theorem dX12_orders_188 : decode cX12_orders 188 = .ok (.iload_n 2, 1) := by decide +kernel
theorem dX12_orders_189 : decode cX12_orders 189 = .ok (.iload_n 3, 1) := by decide +kernel
theorem dX12_orders_190 : decode cX12_orders 190 = .ok (.if_icmp .ge 12, 3) := by decide +kernel
theorem dX12_orders_193 : decode cX12_orders 193 = .ok (.aload_n 0, 1) := by decide +kernel
theorem dX12_orders_194 : decode cX12_orders 194 = .ok (.getfield 36, 3) := by decide +kernel
theorem dX12_orders_197 : decode cX12_orders 197 = .ok (.iload_n 2, 1) := by decide +kernel
theorem dX12_orders_198 : decode cX12_orders 198 = .ok (.iaload, 1) := by decide +kernel
theorem dX12_orders_199 : decode cX12_orders 199 = .ok (.goto 5, 3) := by decide +kernel
theorem dX12_orders_202 : decode cX12_orders 202 = .ok (.bipush (-5), 2) := by decide +kernel
theorem dX12_orders_204 : decode cX12_orders 204 = .ok (.ireturn, 1) := by decide +kernel
theorem dX12_stones_0 : decode cX12_stones 0 = .ok (.aload_n 0, 1) := by decide +kernel
theorem dX12_stones_1 : decode cX12_stones 1 = .ok (.iload_n 1, 1) := by decide +kernel
theorem dX12_stones_2 : decode cX12_stones 2 = .ok (.invokevirtual 94, 3) := by decide +kernel
theorem dX12_stones_5 : decode cX12_stones 5 = .ok (.ifCond .eq 13, 3) := by decide +kernel
theorem dX12_stones_8 : decode cX12_stones 8 = .ok (.iload_n 2, 1) := by decide +kernel
theorem dX12_stones_9 : decode cX12_stones 9 = .ok (.i2l, 1) := by decide +kernel
theorem dX12_stones_10 : decode cX12_stones 10 = .ok (.lconst 0, 1) := by decide +kernel
theorem dX12_stones_11 : decode cX12_stones 11 = .ok (.lconst 1, 1) := by decide +kernel
theorem dX12_stones_12 : decode cX12_stones 12 = .ok (.invokestatic 68, 3) := by decide +kernel
theorem dX12_stones_15 : decode cX12_stones 15 = .ok (.ifCond .ne 10, 3) := by decide +kernel
theorem dX12_stones_18 : decode cX12_stones 18 = .ok (.aload_n 0, 1) := by decide +kernel
theorem dX12_stones_19 : decode cX12_stones 19 = .ok (.bipush (-2), 2) := by decide +kernel
theorem dX12_stones_21 : decode cX12_stones 21 = .ok (.invokevirtual 81, 3) := by decide +kernel
theorem dX12_stones_24 : decode cX12_stones 24 = .ok (.ireturn, 1) := by decide +kernel
theorem dX12_stones_25 : decode cX12_stones 25 = .ok (.iconst 1, 1) := by decide +kernel
theorem dX12_stones_26 : decode cX12_stones 26 = .ok (.istore_n 3, 1) := by decide +kernel
theorem dX12_stones_27 : decode cX12_stones 27 = .ok (.iload_n 3, 1) := by decide +kernel
theorem dX12_stones_28 : decode cX12_stones 28 = .ok (.bipush 6, 2) := by decide +kernel
theorem dX12_stones_30 : decode cX12_stones 30 = .ok (.if_icmp .ge 103, 3) := by decide +kernel
theorem dX12_stones_33 : decode cX12_stones 33 = .ok (.iconst 0, 1) := by decide +kernel
theorem dX12_stones_34 : decode cX12_stones 34 = .ok (.istore 4, 2) := by decide +kernel
theorem dX12_stones_36 : decode cX12_stones 36 = .ok (.iload 4, 2) := by decide +kernel
theorem dX12_stones_38 : decode cX12_stones 38 = .ok (.aload_n 0, 1) := by decide +kernel
theorem dX12_stones_39 : decode cX12_stones 39 = .ok (.invokevirtual 64, 3) := by decide +kernel
theorem dX12_stones_42 : decode cX12_stones 42 = .ok (.iload_n 3, 1) := by decide +kernel
theorem dX12_stones_43 : decode cX12_stones 43 = .ok (.invokestatic 180, 3) := by decide +kernel
theorem dX12_stones_46 : decode cX12_stones 46 = .ok (.if_icmp .ge 81, 3) := by decide +kernel
theorem dX12_stones_49 : decode cX12_stones 49 = .ok (.aload_n 0, 1) := by decide +kernel
theorem dX12_stones_50 : decode cX12_stones 50 = .ok (.iload 4, 2) := by decide +kernel
theorem dX12_stones_52 : decode cX12_stones 52 = .ok (.iload_n 3, 1) := by decide +kernel
theorem dX12_stones_53 : decode cX12_stones 53 = .ok (.aload_n 0, 1) := by decide +kernel
theorem dX12_stones_54 : decode cX12_stones 54 = .ok (.invokevirtual 64, 3) := by decide +kernel
theorem dX12_stones_57 : decode cX12_stones 57 = .ok (.invokevirtual 183, 3) := by decide +kernel
theorem dX12_stones_60 : decode cX12_stones 60 = .ok (.aload_n 0, 1) := by decide +kernel
theorem dX12_stones_61 : decode cX12_stones 61 = .ok (.invokevirtual 161, 3) := by decide +kernel
theorem dX12_stones_64 : decode cX12_stones 64 = .ok (.iconst 0, 1) := by decide +kernel
theorem dX12_stones_65 : decode cX12_stones 65 = .ok (.istore 5, 2) := by decide +kernel
theorem dX12_stones_67 : decode cX12_stones 67 = .ok (.iconst 0, 1) := by decide +kernel
theorem dX12_stones_68 : decode cX12_stones 68 = .ok (.istore 6, 2) := by decide +kernel
theorem dX12_stones_70 : decode cX12_stones 70 = .ok (.iload 6, 2) := by decide +kernel
theorem dX12_stones_72 : decode cX12_stones 72 = .ok (.iload_n 3, 1) := by decide +kernel
theorem dX12_stones_73 : decode cX12_stones 73 = .ok (.if_icmp .ge 23, 3) := by decide +kernel
theorem dX12_stones_76 : decode cX12_stones 76 = .ok (.aload_n 0, 1) := by decide +kernel
theorem dX12_stones_77 : decode cX12_stones 77 = .ok (.aload_n 0, 1) := by decide +kernel
theorem dX12_stones_78 : decode cX12_stones 78 = .ok (.getfield 33, 3) := by decide +kernel
theorem dX12_stones_81 : decode cX12_stones 81 = .ok (.iload 6, 2) := by decide +kernel
theorem dX12_stones_83 : decode cX12_stones 83 = .ok (.iaload, 1) := by decide +kernel
theorem dX12_stones_84 : decode cX12_stones 84 = .ok (.iconst 1, 1) := by decide +kernel
theorem dX12_stones_85 : decode cX12_stones 85 = .ok (.invokevirtual 152, 3) := by decide +kernel
theorem dX12_stones_88 : decode cX12_stones 88 = .ok (.istore 5, 2) := by decide +kernel
theorem dX12_stones_90 : decode cX12_stones 90 = .ok (.iinc 6 1, 3) := by decide +kernel
theorem dX12_stones_93 : decode cX12_stones 93 = .ok (.goto (-23), 3) := by decide +kernel
theorem dX12_stones_96 : decode cX12_stones 96 = .ok (.iload 5, 2) := by decide +kernel
theorem dX12_stones_98 : decode cX12_stones 98 = .ok (.iload_n 1, 1) := by decide +kernel
theorem dX12_stones_99 : decode cX12_stones 99 = .ok (.ishr, 1) := by decide +kernel
theorem dX12_stones_100 : decode cX12_stones 100 = .ok (.iconst 1, 1) := by decide +kernel
theorem dX12_stones_101 : decode cX12_stones 101 = .ok (.iand, 1) := by decide +kernel
theorem dX12_stones_102 : decode cX12_stones 102 = .ok (.iconst 1, 1) := by decide +kernel
theorem dX12_stones_103 : decode cX12_stones 103 = .ok (.if_icmp .ne 18, 3) := by decide +kernel
theorem dX12_stones_106 : decode cX12_stones 106 = .ok (.iload_n 2, 1) := by decide +kernel
theorem dX12_stones_107 : decode cX12_stones 107 = .ok (.ifCond .ne 7, 3) := by decide +kernel
theorem dX12_stones_110 : decode cX12_stones 110 = .ok (.iload_n 3, 1) := by decide +kernel
theorem dX12_stones_111 : decode cX12_stones 111 = .ok (.goto 9, 3) := by decide +kernel
theorem dX12_stones_114 : decode cX12_stones 114 = .ok (.aload_n 0, 1) := by decide +kernel
theorem dX12_stones_115 : decode cX12_stones 115 = .ok (.getfield 33, 3) := by decide +kernel
theorem dX12_stones_118 : decode cX12_stones 118 = .ok (.iconst 0, 1) := by decide +kernel
theorem dX12_stones_119 : decode cX12_stones 119 = .ok (.iaload, 1) := by decide +kernel
theorem dX12_stones_120 : decode cX12_stones 120 = .ok (.ireturn, 1) := by decide +kernel
theorem dX12_stones_121 : decode cX12_stones 121 = .ok (.iinc 4 1, 3) := by decide +kernel
theorem dX12_stones_124 : decode cX12_stones 124 = .ok (.goto (-88), 3) := by decide +kernel
theorem dX12_stones_127 : decode cX12_stones 127 = .ok (.iinc 3 1, 3) := by decide +kernel
theorem dX12_stones_130 : decode cX12_stones 130 = .ok (.goto (-103), 3) := by decide +kernel
theorem dX12_stones_133 : decode cX12_stones 133 = .ok (.iconst (-1), 1) := by decide +kernel
theorem dX12_stones_134 : decode cX12_stones 134 = .ok (.ireturn, 1) := by decide +kernel
theorem dX12_buried_0 : decode cX12_buried 0 = .ok (.aload_n 0, 1) := by decide +kernel
theorem dX12_buried_1 : decode cX12_buried 1 = .ok (.iload_n 1, 1) := by decide +kernel
theorem dX12_buried_2 : decode cX12_buried 2 = .ok (.invokevirtual 94, 3) := by decide +kernel
theorem dX12_buried_5 : decode cX12_buried 5 = .ok (.ifCond .eq 15, 3) := by decide +kernel
theorem dX12_buried_8 : decode cX12_buried 8 = .ok (.iload_n 2, 1) := by decide +kernel
theorem dX12_buried_9 : decode cX12_buried 9 = .ok (.i2l, 1) := by decide +kernel
theorem dX12_buried_10 : decode cX12_buried 10 = .ok (.lconst 1, 1) := by decide +kernel
theorem dX12_buried_11 : decode cX12_buried 11 = .ok (.ldc2_w 191, 3) := by decide +kernel
theorem dX12_buried_14 : decode cX12_buried 14 = .ok (.invokestatic 68, 3) := by decide +kernel
theorem dX12_buried_17 : decode cX12_buried 17 = .ok (.ifCond .ne 10, 3) := by decide +kernel
theorem dX12_buried_20 : decode cX12_buried 20 = .ok (.aload_n 0, 1) := by decide +kernel
theorem dX12_buried_21 : decode cX12_buried 21 = .ok (.bipush (-2), 2) := by decide +kernel
theorem dX12_buried_23 : decode cX12_buried 23 = .ok (.invokevirtual 81, 3) := by decide +kernel
theorem dX12_buried_26 : decode cX12_buried 26 = .ok (.ireturn, 1) := by decide +kernel
theorem dX12_buried_27 : decode cX12_buried 27 = .ok (.aload_n 0, 1) := by decide +kernel
theorem dX12_buried_28 : decode cX12_buried 28 = .ok (.invokevirtual 161, 3) := by decide +kernel
theorem dX12_buried_31 : decode cX12_buried 31 = .ok (.aload_n 0, 1) := by decide +kernel
theorem dX12_buried_32 : decode cX12_buried 32 = .ok (.iload_n 1, 1) := by decide +kernel
theorem dX12_buried_33 : decode cX12_buried 33 = .ok (.iload_n 2, 1) := by decide +kernel
theorem dX12_buried_34 : decode cX12_buried 34 = .ok (.invokevirtual 152, 3) := by decide +kernel
theorem dX12_buried_37 : decode cX12_buried 37 = .ok (.istore_n 3, 1) := by decide +kernel
theorem dX12_buried_38 : decode cX12_buried 38 = .ok (.aload_n 0, 1) := by decide +kernel
theorem dX12_buried_39 : decode cX12_buried 39 = .ok (.getfield 123, 3) := by decide +kernel
theorem dX12_buried_42 : decode cX12_buried 42 = .ok (.ireturn, 1) := by decide +kernel
theorem dX12_nights_0 : decode cX12_nights 0 = .ok (.aload_n 0, 1) := by decide +kernel
theorem dX12_nights_1 : decode cX12_nights 1 = .ok (.iload_n 1, 1) := by decide +kernel
theorem dX12_nights_2 : decode cX12_nights 2 = .ok (.invokevirtual 94, 3) := by decide +kernel
theorem dX12_nights_5 : decode cX12_nights 5 = .ok (.ifCond .eq 15, 3) := by decide +kernel
theorem dX12_nights_8 : decode cX12_nights 8 = .ok (.iload_n 2, 1) := by decide +kernel
theorem dX12_nights_9 : decode cX12_nights 9 = .ok (.i2l, 1) := by decide +kernel
theorem dX12_nights_10 : decode cX12_nights 10 = .ok (.lconst 1, 1) := by decide +kernel
theorem dX12_nights_11 : decode cX12_nights 11 = .ok (.ldc2_w 98, 3) := by decide +kernel
theorem dX12_nights_14 : decode cX12_nights 14 = .ok (.invokestatic 68, 3) := by decide +kernel
theorem dX12_nights_17 : decode cX12_nights 17 = .ok (.ifCond .ne 10, 3) := by decide +kernel
theorem dX12_nights_20 : decode cX12_nights 20 = .ok (.aload_n 0, 1) := by decide +kernel
theorem dX12_nights_21 : decode cX12_nights 21 = .ok (.bipush (-2), 2) := by decide +kernel
theorem dX12_nights_23 : decode cX12_nights 23 = .ok (.invokevirtual 81, 3) := by decide +kernel
theorem dX12_nights_26 : decode cX12_nights 26 = .ok (.ireturn, 1) := by decide +kernel
theorem dX12_nights_27 : decode cX12_nights 27 = .ok (.aload_n 0, 1) := by decide +kernel
theorem dX12_nights_28 : decode cX12_nights 28 = .ok (.invokevirtual 161, 3) := by decide +kernel
theorem dX12_nights_31 : decode cX12_nights 31 = .ok (.iconst 1, 1) := by decide +kernel
theorem dX12_nights_32 : decode cX12_nights 32 = .ok (.istore_n 3, 1) := by decide +kernel
theorem dX12_nights_33 : decode cX12_nights 33 = .ok (.iload_n 3, 1) := by decide +kernel
theorem dX12_nights_34 : decode cX12_nights 34 = .ok (.bipush 60, 2) := by decide +kernel
theorem dX12_nights_36 : decode cX12_nights 36 = .ok (.if_icmp .gt 24, 3) := by decide +kernel
theorem dX12_nights_39 : decode cX12_nights 39 = .ok (.aload_n 0, 1) := by decide +kernel
theorem dX12_nights_40 : decode cX12_nights 40 = .ok (.iload_n 2, 1) := by decide +kernel
theorem dX12_nights_41 : decode cX12_nights 41 = .ok (.invokevirtual 170, 3) := by decide +kernel
theorem dX12_nights_44 : decode cX12_nights 44 = .ok (.iload_n 1, 1) := by decide +kernel
theorem dX12_nights_45 : decode cX12_nights 45 = .ok (.ishr, 1) := by decide +kernel
theorem dX12_nights_46 : decode cX12_nights 46 = .ok (.iconst 1, 1) := by decide +kernel
theorem dX12_nights_47 : decode cX12_nights 47 = .ok (.iand, 1) := by decide +kernel
theorem dX12_nights_48 : decode cX12_nights 48 = .ok (.iconst 1, 1) := by decide +kernel
theorem dX12_nights_49 : decode cX12_nights 49 = .ok (.if_icmp .ne 5, 3) := by decide +kernel
theorem dX12_nights_52 : decode cX12_nights 52 = .ok (.iload_n 3, 1) := by decide +kernel
theorem dX12_nights_53 : decode cX12_nights 53 = .ok (.ireturn, 1) := by decide +kernel
theorem dX12_nights_54 : decode cX12_nights 54 = .ok (.iinc 3 1, 3) := by decide +kernel
theorem dX12_nights_57 : decode cX12_nights 57 = .ok (.goto (-24), 3) := by decide +kernel
theorem dX12_nights_60 : decode cX12_nights 60 = .ok (.iconst (-1), 1) := by decide +kernel
theorem dX12_nights_61 : decode cX12_nights 61 = .ok (.ireturn, 1) := by decide +kernel
theorem dX12_layTurn_0 : decode cX12_layTurn 0 = .ok (.aload_n 0, 1) := by decide +kernel
theorem dX12_layTurn_1 : decode cX12_layTurn 1 = .ok (.getfield 39, 3) := by decide +kernel
theorem dX12_layTurn_4 : decode cX12_layTurn 4 = .ok (.iload_n 1, 1) := by decide +kernel
theorem dX12_layTurn_5 : decode cX12_layTurn 5 = .ok (.iconst 0, 1) := by decide +kernel
theorem dX12_layTurn_6 : decode cX12_layTurn 6 = .ok (.iastore, 1) := by decide +kernel
theorem dX12_layTurn_7 : decode cX12_layTurn 7 = .ok (.aload_n 0, 1) := by decide +kernel
theorem dX12_layTurn_8 : decode cX12_layTurn 8 = .ok (.getfield 42, 3) := by decide +kernel
theorem dX12_layTurn_11 : decode cX12_layTurn 11 = .ok (.iload_n 1, 1) := by decide +kernel
theorem dX12_layTurn_12 : decode cX12_layTurn 12 = .ok (.iconst (-1), 1) := by decide +kernel
theorem dX12_layTurn_13 : decode cX12_layTurn 13 = .ok (.iastore, 1) := by decide +kernel
theorem dX12_layTurn_14 : decode cX12_layTurn 14 = .ok (.iconst 0, 1) := by decide +kernel
theorem dX12_layTurn_15 : decode cX12_layTurn 15 = .ok (.istore_n 2, 1) := by decide +kernel
theorem dX12_layTurn_16 : decode cX12_layTurn 16 = .ok (.iload_n 2, 1) := by decide +kernel
theorem dX12_layTurn_17 : decode cX12_layTurn 17 = .ok (.bipush 8, 2) := by decide +kernel
theorem dX12_layTurn_19 : decode cX12_layTurn 19 = .ok (.if_icmp .ge 43, 3) := by decide +kernel
theorem dX12_layTurn_22 : decode cX12_layTurn 22 = .ok (.aload_n 0, 1) := by decide +kernel
theorem dX12_layTurn_23 : decode cX12_layTurn 23 = .ok (.getfield 45, 3) := by decide +kernel
theorem dX12_layTurn_26 : decode cX12_layTurn 26 = .ok (.bipush 8, 2) := by decide +kernel
theorem dX12_layTurn_28 : decode cX12_layTurn 28 = .ok (.iload_n 1, 1) := by decide +kernel
theorem dX12_layTurn_29 : decode cX12_layTurn 29 = .ok (.imul, 1) := by decide +kernel
theorem dX12_layTurn_30 : decode cX12_layTurn 30 = .ok (.iload_n 2, 1) := by decide +kernel
theorem dX12_layTurn_31 : decode cX12_layTurn 31 = .ok (.iadd, 1) := by decide +kernel
theorem dX12_layTurn_32 : decode cX12_layTurn 32 = .ok (.aload_n 0, 1) := by decide +kernel
theorem dX12_layTurn_33 : decode cX12_layTurn 33 = .ok (.getfield 27, 3) := by decide +kernel
theorem dX12_layTurn_36 : decode cX12_layTurn 36 = .ok (.iload_n 2, 1) := by decide +kernel
theorem dX12_layTurn_37 : decode cX12_layTurn 37 = .ok (.iaload, 1) := by decide +kernel
theorem dX12_layTurn_38 : decode cX12_layTurn 38 = .ok (.iastore, 1) := by decide +kernel
theorem dX12_layTurn_39 : decode cX12_layTurn 39 = .ok (.aload_n 0, 1) := by decide +kernel
theorem dX12_layTurn_40 : decode cX12_layTurn 40 = .ok (.getfield 48, 3) := by decide +kernel
theorem dX12_layTurn_43 : decode cX12_layTurn 43 = .ok (.bipush 8, 2) := by decide +kernel
theorem dX12_layTurn_45 : decode cX12_layTurn 45 = .ok (.iload_n 1, 1) := by decide +kernel
theorem dX12_layTurn_46 : decode cX12_layTurn 46 = .ok (.imul, 1) := by decide +kernel
theorem dX12_layTurn_47 : decode cX12_layTurn 47 = .ok (.iload_n 2, 1) := by decide +kernel
theorem dX12_layTurn_48 : decode cX12_layTurn 48 = .ok (.iadd, 1) := by decide +kernel
theorem dX12_layTurn_49 : decode cX12_layTurn 49 = .ok (.aload_n 0, 1) := by decide +kernel
theorem dX12_layTurn_50 : decode cX12_layTurn 50 = .ok (.getfield 30, 3) := by decide +kernel
theorem dX12_layTurn_53 : decode cX12_layTurn 53 = .ok (.iload_n 2, 1) := by decide +kernel
theorem dX12_layTurn_54 : decode cX12_layTurn 54 = .ok (.iaload, 1) := by decide +kernel
theorem dX12_layTurn_55 : decode cX12_layTurn 55 = .ok (.iastore, 1) := by decide +kernel
theorem dX12_layTurn_56 : decode cX12_layTurn 56 = .ok (.iinc 2 1, 3) := by decide +kernel
theorem dX12_layTurn_59 : decode cX12_layTurn 59 = .ok (.goto (-43), 3) := by decide +kernel
theorem dX12_layTurn_62 : decode cX12_layTurn 62 = .ok (.return_, 1) := by decide +kernel
theorem dX12_backTo_0 : decode cX12_backTo 0 = .ok (.iconst 0, 1) := by decide +kernel
theorem dX12_backTo_1 : decode cX12_backTo 1 = .ok (.istore_n 2, 1) := by decide +kernel
theorem dX12_backTo_2 : decode cX12_backTo 2 = .ok (.iload_n 2, 1) := by decide +kernel
theorem dX12_backTo_3 : decode cX12_backTo 3 = .ok (.bipush 8, 2) := by decide +kernel
theorem dX12_backTo_5 : decode cX12_backTo 5 = .ok (.if_icmp .ge 43, 3) := by decide +kernel
theorem dX12_backTo_8 : decode cX12_backTo 8 = .ok (.aload_n 0, 1) := by decide +kernel
theorem dX12_backTo_9 : decode cX12_backTo 9 = .ok (.getfield 27, 3) := by decide +kernel
theorem dX12_backTo_12 : decode cX12_backTo 12 = .ok (.iload_n 2, 1) := by decide +kernel
theorem dX12_backTo_13 : decode cX12_backTo 13 = .ok (.aload_n 0, 1) := by decide +kernel
theorem dX12_backTo_14 : decode cX12_backTo 14 = .ok (.getfield 45, 3) := by decide +kernel
theorem dX12_backTo_17 : decode cX12_backTo 17 = .ok (.bipush 8, 2) := by decide +kernel
theorem dX12_backTo_19 : decode cX12_backTo 19 = .ok (.iload_n 1, 1) := by decide +kernel
theorem dX12_backTo_20 : decode cX12_backTo 20 = .ok (.imul, 1) := by decide +kernel
theorem dX12_backTo_21 : decode cX12_backTo 21 = .ok (.iload_n 2, 1) := by decide +kernel
theorem dX12_backTo_22 : decode cX12_backTo 22 = .ok (.iadd, 1) := by decide +kernel
theorem dX12_backTo_23 : decode cX12_backTo 23 = .ok (.iaload, 1) := by decide +kernel
theorem dX12_backTo_24 : decode cX12_backTo 24 = .ok (.iastore, 1) := by decide +kernel
theorem dX12_backTo_25 : decode cX12_backTo 25 = .ok (.aload_n 0, 1) := by decide +kernel
theorem dX12_backTo_26 : decode cX12_backTo 26 = .ok (.getfield 30, 3) := by decide +kernel
theorem dX12_backTo_29 : decode cX12_backTo 29 = .ok (.iload_n 2, 1) := by decide +kernel
theorem dX12_backTo_30 : decode cX12_backTo 30 = .ok (.aload_n 0, 1) := by decide +kernel
theorem dX12_backTo_31 : decode cX12_backTo 31 = .ok (.getfield 48, 3) := by decide +kernel
theorem dX12_backTo_34 : decode cX12_backTo 34 = .ok (.bipush 8, 2) := by decide +kernel
theorem dX12_backTo_36 : decode cX12_backTo 36 = .ok (.iload_n 1, 1) := by decide +kernel
theorem dX12_backTo_37 : decode cX12_backTo 37 = .ok (.imul, 1) := by decide +kernel
theorem dX12_backTo_38 : decode cX12_backTo 38 = .ok (.iload_n 2, 1) := by decide +kernel
theorem dX12_backTo_39 : decode cX12_backTo 39 = .ok (.iadd, 1) := by decide +kernel
theorem dX12_backTo_40 : decode cX12_backTo 40 = .ok (.iaload, 1) := by decide +kernel
theorem dX12_backTo_41 : decode cX12_backTo 41 = .ok (.iastore, 1) := by decide +kernel
theorem dX12_backTo_42 : decode cX12_backTo 42 = .ok (.iinc 2 1, 3) := by decide +kernel
theorem dX12_backTo_45 : decode cX12_backTo 45 = .ok (.goto (-43), 3) := by decide +kernel
theorem dX12_backTo_48 : decode cX12_backTo 48 = .ok (.return_, 1) := by decide +kernel
theorem dX12_judge_0 : decode cX12_judge 0 = .ok (.aload_n 0, 1) := by decide +kernel
theorem dX12_judge_1 : decode cX12_judge 1 = .ok (.getfield 42, 3) := by decide +kernel
theorem dX12_judge_4 : decode cX12_judge 4 = .ok (.iload_n 1, 1) := by decide +kernel
theorem dX12_judge_5 : decode cX12_judge 5 = .ok (.iaload, 1) := by decide +kernel
theorem dX12_judge_6 : decode cX12_judge 6 = .ok (.iconst (-1), 1) := by decide +kernel
theorem dX12_judge_7 : decode cX12_judge 7 = .ok (.if_icmp .eq 32, 3) := by decide +kernel
theorem dX12_judge_10 : decode cX12_judge 10 = .ok (.iload_n 1, 1) := by decide +kernel
theorem dX12_judge_11 : decode cX12_judge 11 = .ok (.iconst 2, 1) := by decide +kernel
theorem dX12_judge_12 : decode cX12_judge 12 = .ok (.irem, 1) := by decide +kernel
theorem dX12_judge_13 : decode cX12_judge 13 = .ok (.ifCond .ne 16, 3) := by decide +kernel
theorem dX12_judge_16 : decode cX12_judge 16 = .ok (.iload_n 2, 1) := by decide +kernel
theorem dX12_judge_17 : decode cX12_judge 17 = .ok (.aload_n 0, 1) := by decide +kernel
theorem dX12_judge_18 : decode cX12_judge 18 = .ok (.getfield 42, 3) := by decide +kernel
theorem dX12_judge_21 : decode cX12_judge 21 = .ok (.iload_n 1, 1) := by decide +kernel
theorem dX12_judge_22 : decode cX12_judge 22 = .ok (.iaload, 1) := by decide +kernel
theorem dX12_judge_23 : decode cX12_judge 23 = .ok (.if_icmp .le 20, 3) := by decide +kernel
theorem dX12_judge_26 : decode cX12_judge 26 = .ok (.goto 13, 3) := by decide +kernel
theorem dX12_judge_29 : decode cX12_judge 29 = .ok (.iload_n 2, 1) := by decide +kernel
theorem dX12_judge_30 : decode cX12_judge 30 = .ok (.aload_n 0, 1) := by decide +kernel
theorem dX12_judge_31 : decode cX12_judge 31 = .ok (.getfield 42, 3) := by decide +kernel
theorem dX12_judge_34 : decode cX12_judge 34 = .ok (.iload_n 1, 1) := by decide +kernel
theorem dX12_judge_35 : decode cX12_judge 35 = .ok (.iaload, 1) := by decide +kernel
theorem dX12_judge_36 : decode cX12_judge 36 = .ok (.if_icmp .ge 7, 3) := by decide +kernel
theorem dX12_judge_39 : decode cX12_judge 39 = .ok (.iconst 1, 1) := by decide +kernel
theorem dX12_judge_40 : decode cX12_judge 40 = .ok (.goto 4, 3) := by decide +kernel
theorem dX12_judge_43 : decode cX12_judge 43 = .ok (.iconst 0, 1) := by decide +kernel
theorem dX12_judge_44 : decode cX12_judge 44 = .ok (.istore_n 3, 1) := by decide +kernel
theorem dX12_judge_45 : decode cX12_judge 45 = .ok (.aload_n 0, 1) := by decide +kernel
theorem dX12_judge_46 : decode cX12_judge 46 = .ok (.getfield 42, 3) := by decide +kernel
theorem dX12_judge_49 : decode cX12_judge 49 = .ok (.iload_n 1, 1) := by decide +kernel
theorem dX12_judge_50 : decode cX12_judge 50 = .ok (.iload_n 3, 1) := by decide +kernel
theorem dX12_judge_51 : decode cX12_judge 51 = .ok (.ifCond .eq 7, 3) := by decide +kernel
theorem dX12_judge_54 : decode cX12_judge 54 = .ok (.iload_n 2, 1) := by decide +kernel
theorem dX12_judge_55 : decode cX12_judge 55 = .ok (.goto 9, 3) := by decide +kernel
theorem dX12_judge_58 : decode cX12_judge 58 = .ok (.aload_n 0, 1) := by decide +kernel
theorem dX12_judge_59 : decode cX12_judge 59 = .ok (.getfield 42, 3) := by decide +kernel
theorem dX12_judge_62 : decode cX12_judge 62 = .ok (.iload_n 1, 1) := by decide +kernel
theorem dX12_judge_63 : decode cX12_judge 63 = .ok (.iaload, 1) := by decide +kernel
theorem dX12_judge_64 : decode cX12_judge 64 = .ok (.iastore, 1) := by decide +kernel
theorem dX12_judge_65 : decode cX12_judge 65 = .ok (.aload_n 0, 1) := by decide +kernel
end
section
theorem dX12_judge_66 : decode cX12_judge 66 = .ok (.iload_n 3, 1) := by decide +kernel
theorem dX12_judge_67 : decode cX12_judge 67 = .ok (.ifCond .eq 16, 3) := by decide +kernel
theorem dX12_judge_70 : decode cX12_judge 70 = .ok (.iload_n 1, 1) := by decide +kernel
theorem dX12_judge_71 : decode cX12_judge 71 = .ok (.ifCond .ne 12, 3) := by decide +kernel
theorem dX12_judge_74 : decode cX12_judge 74 = .ok (.aload_n 0, 1) := by decide +kernel
theorem dX12_judge_75 : decode cX12_judge 75 = .ok (.getfield 39, 3) := by decide +kernel
theorem dX12_judge_78 : decode cX12_judge 78 = .ok (.iconst 0, 1) := by decide +kernel
theorem dX12_judge_79 : decode cX12_judge 79 = .ok (.iaload, 1) := by decide +kernel
theorem dX12_judge_80 : decode cX12_judge 80 = .ok (.goto 7, 3) := by decide +kernel
theorem dX12_judge_83 : decode cX12_judge 83 = .ok (.aload_n 0, 1) := by decide +kernel
theorem dX12_judge_84 : decode cX12_judge 84 = .ok (.getfield 193, 3) := by decide +kernel
theorem dX12_judge_87 : decode cX12_judge 87 = .ok (.putfield 193, 3) := by decide +kernel
theorem dX12_judge_90 : decode cX12_judge 90 = .ok (.aload_n 0, 1) := by decide +kernel
theorem dX12_judge_91 : decode cX12_judge 91 = .ok (.getfield 39, 3) := by decide +kernel
theorem dX12_judge_94 : decode cX12_judge 94 = .ok (.iload_n 1, 1) := by decide +kernel
theorem dX12_judge_95 : decode cX12_judge 95 = .ok (.dup2, 1) := by decide +kernel
theorem dX12_judge_96 : decode cX12_judge 96 = .ok (.iaload, 1) := by decide +kernel
theorem dX12_judge_97 : decode cX12_judge 97 = .ok (.iconst 1, 1) := by decide +kernel
theorem dX12_judge_98 : decode cX12_judge 98 = .ok (.iadd, 1) := by decide +kernel
theorem dX12_judge_99 : decode cX12_judge 99 = .ok (.iastore, 1) := by decide +kernel
theorem dX12_judge_100 : decode cX12_judge 100 = .ok (.return_, 1) := by decide +kernel
theorem dX12_has_0 : decode cX12_has 0 = .ok (.iload_n 0, 1) := by decide +kernel
theorem dX12_has_1 : decode cX12_has 1 = .ok (.iload_n 1, 1) := by decide +kernel
theorem dX12_has_2 : decode cX12_has 2 = .ok (.ishr, 1) := by decide +kernel
theorem dX12_has_3 : decode cX12_has 3 = .ok (.iconst 1, 1) := by decide +kernel
theorem dX12_has_4 : decode cX12_has 4 = .ok (.iand, 1) := by decide +kernel
theorem dX12_has_5 : decode cX12_has 5 = .ok (.iconst 1, 1) := by decide +kernel
theorem dX12_has_6 : decode cX12_has 6 = .ok (.if_icmp .ne 7, 3) := by decide +kernel
theorem dX12_has_9 : decode cX12_has 9 = .ok (.iconst 1, 1) := by decide +kernel
theorem dX12_has_10 : decode cX12_has 10 = .ok (.goto 4, 3) := by decide +kernel
theorem dX12_has_13 : decode cX12_has 13 = .ok (.iconst 0, 1) := by decide +kernel
theorem dX12_has_14 : decode cX12_has 14 = .ok (.ireturn, 1) := by decide +kernel
theorem dX12_goParty_0 : decode cX12_goParty 0 = .ok (.aload_n 0, 1) := by decide +kernel
theorem dX12_goParty_1 : decode cX12_goParty 1 = .ok (.getfield 30, 3) := by decide +kernel
theorem dX12_goParty_4 : decode cX12_goParty 4 = .ok (.iload_n 1, 1) := by decide +kernel
theorem dX12_goParty_5 : decode cX12_goParty 5 = .ok (.dup2, 1) := by decide +kernel
theorem dX12_goParty_6 : decode cX12_goParty 6 = .ok (.iaload, 1) := by decide +kernel
theorem dX12_goParty_7 : decode cX12_goParty 7 = .ok (.iconst 1, 1) := by decide +kernel
theorem dX12_goParty_8 : decode cX12_goParty 8 = .ok (.iadd, 1) := by decide +kernel
theorem dX12_goParty_9 : decode cX12_goParty 9 = .ok (.iastore, 1) := by decide +kernel
theorem dX12_goParty_10 : decode cX12_goParty 10 = .ok (.aload_n 0, 1) := by decide +kernel
theorem dX12_goParty_11 : decode cX12_goParty 11 = .ok (.iconst (-1), 1) := by decide +kernel
theorem dX12_goParty_12 : decode cX12_goParty 12 = .ok (.putfield 196, 3) := by decide +kernel
theorem dX12_goParty_15 : decode cX12_goParty 15 = .ok (.aload_n 0, 1) := by decide +kernel
theorem dX12_goParty_16 : decode cX12_goParty 16 = .ok (.invokevirtual 126, 3) := by decide +kernel
theorem dX12_goParty_19 : decode cX12_goParty 19 = .ok (.istore 4, 2) := by decide +kernel
theorem dX12_goParty_21 : decode cX12_goParty 21 = .ok (.iload 4, 2) := by decide +kernel
theorem dX12_goParty_23 : decode cX12_goParty 23 = .ok (.iconst (-1), 1) := by decide +kernel
theorem dX12_goParty_24 : decode cX12_goParty 24 = .ok (.if_icmp .eq 89, 3) := by decide +kernel
theorem dX12_goParty_27 : decode cX12_goParty 27 = .ok (.aload_n 0, 1) := by decide +kernel
theorem dX12_goParty_28 : decode cX12_goParty 28 = .ok (.getfield 196, 3) := by decide +kernel
theorem dX12_goParty_31 : decode cX12_goParty 31 = .ok (.iconst (-1), 1) := by decide +kernel
theorem dX12_goParty_32 : decode cX12_goParty 32 = .ok (.if_icmp .ne 81, 3) := by decide +kernel
theorem dX12_goParty_35 : decode cX12_goParty 35 = .ok (.aload_n 0, 1) := by decide +kernel
theorem dX12_goParty_36 : decode cX12_goParty 36 = .ok (.iload 4, 2) := by decide +kernel
theorem dX12_goParty_38 : decode cX12_goParty 38 = .ok (.iconst 3, 1) := by decide +kernel
theorem dX12_goParty_39 : decode cX12_goParty 39 = .ok (.invokevirtual 103, 3) := by decide +kernel
theorem dX12_goParty_42 : decode cX12_goParty 42 = .ok (.istore 5, 2) := by decide +kernel
theorem dX12_goParty_44 : decode cX12_goParty 44 = .ok (.iload 5, 2) := by decide +kernel
theorem dX12_goParty_46 : decode cX12_goParty 46 = .ok (.iconst (-1), 1) := by decide +kernel
theorem dX12_goParty_47 : decode cX12_goParty 47 = .ok (.if_icmp .eq 19, 3) := by decide +kernel
theorem dX12_goParty_50 : decode cX12_goParty 50 = .ok (.aload_n 0, 1) := by decide +kernel
theorem dX12_goParty_51 : decode cX12_goParty 51 = .ok (.getfield 27, 3) := by decide +kernel
theorem dX12_goParty_54 : decode cX12_goParty 54 = .ok (.iload 5, 2) := by decide +kernel
theorem dX12_goParty_56 : decode cX12_goParty 56 = .ok (.dup2, 1) := by decide +kernel
theorem dX12_goParty_57 : decode cX12_goParty 57 = .ok (.iaload, 1) := by decide +kernel
theorem dX12_goParty_58 : decode cX12_goParty 58 = .ok (.aload_n 0, 1) := by decide +kernel
theorem dX12_goParty_59 : decode cX12_goParty 59 = .ok (.iload 4, 2) := by decide +kernel
theorem dX12_goParty_61 : decode cX12_goParty 61 = .ok (.invokevirtual 117, 3) := by decide +kernel
theorem dX12_goParty_64 : decode cX12_goParty 64 = .ok (.iadd, 1) := by decide +kernel
theorem dX12_goParty_65 : decode cX12_goParty 65 = .ok (.iastore, 1) := by decide +kernel
theorem dX12_goParty_66 : decode cX12_goParty 66 = .ok (.aload_n 0, 1) := by decide +kernel
theorem dX12_goParty_67 : decode cX12_goParty 67 = .ok (.getfield 27, 3) := by decide +kernel
theorem dX12_goParty_70 : decode cX12_goParty 70 = .ok (.iload 4, 2) := by decide +kernel
theorem dX12_goParty_72 : decode cX12_goParty 72 = .ok (.iconst 0, 1) := by decide +kernel
theorem dX12_goParty_73 : decode cX12_goParty 73 = .ok (.iastore, 1) := by decide +kernel
theorem dX12_goParty_74 : decode cX12_goParty 74 = .ok (.aload_n 0, 1) := by decide +kernel
theorem dX12_goParty_75 : decode cX12_goParty 75 = .ok (.getfield 30, 3) := by decide +kernel
theorem dX12_goParty_78 : decode cX12_goParty 78 = .ok (.iload 4, 2) := by decide +kernel
theorem dX12_goParty_80 : decode cX12_goParty 80 = .ok (.iconst 0, 1) := by decide +kernel
theorem dX12_goParty_81 : decode cX12_goParty 81 = .ok (.iastore, 1) := by decide +kernel
theorem dX12_goParty_82 : decode cX12_goParty 82 = .ok (.aload_n 0, 1) := by decide +kernel
theorem dX12_goParty_83 : decode cX12_goParty 83 = .ok (.iload 4, 2) := by decide +kernel
theorem dX12_goParty_85 : decode cX12_goParty 85 = .ok (.iload_n 2, 1) := by decide +kernel
theorem dX12_goParty_86 : decode cX12_goParty 86 = .ok (.if_icmp .eq 9, 3) := by decide +kernel
theorem dX12_goParty_89 : decode cX12_goParty 89 = .ok (.iload 4, 2) := by decide +kernel
theorem dX12_goParty_91 : decode cX12_goParty 91 = .ok (.iload_n 3, 1) := by decide +kernel
theorem dX12_goParty_92 : decode cX12_goParty 92 = .ok (.if_icmp .ne 8, 3) := by decide +kernel
theorem dX12_goParty_95 : decode cX12_goParty 95 = .ok (.iload 4, 2) := by decide +kernel
theorem dX12_goParty_97 : decode cX12_goParty 97 = .ok (.goto 4, 3) := by decide +kernel
theorem dX12_goParty_100 : decode cX12_goParty 100 = .ok (.iconst (-1), 1) := by decide +kernel
theorem dX12_goParty_101 : decode cX12_goParty 101 = .ok (.putfield 196, 3) := by decide +kernel
theorem dX12_goParty_104 : decode cX12_goParty 104 = .ok (.aload_n 0, 1) := by decide +kernel
theorem dX12_goParty_105 : decode cX12_goParty 105 = .ok (.invokevirtual 126, 3) := by decide +kernel
theorem dX12_goParty_108 : decode cX12_goParty 108 = .ok (.istore 4, 2) := by decide +kernel
theorem dX12_goParty_110 : decode cX12_goParty 110 = .ok (.goto (-89), 3) := by decide +kernel
theorem dX12_goParty_113 : decode cX12_goParty 113 = .ok (.return_, 1) := by decide +kernel
theorem dX12_layParties_0 : decode cX12_layParties 0 = .ok (.iconst 0, 1) := by decide +kernel
theorem dX12_layParties_1 : decode cX12_layParties 1 = .ok (.istore 4, 2) := by decide +kernel
theorem dX12_layParties_3 : decode cX12_layParties 3 = .ok (.aload_n 0, 1) := by decide +kernel
theorem dX12_layParties_4 : decode cX12_layParties 4 = .ok (.invokevirtual 161, 3) := by decide +kernel
theorem dX12_layParties_7 : decode cX12_layParties 7 = .ok (.aload_n 0, 1) := by decide +kernel
theorem dX12_layParties_8 : decode cX12_layParties 8 = .ok (.iconst 0, 1) := by decide +kernel
theorem dX12_layParties_9 : decode cX12_layParties 9 = .ok (.invokevirtual 199, 3) := by decide +kernel
theorem dX12_layParties_12 : decode cX12_layParties 12 = .ok (.iload 4, 2) := by decide +kernel
theorem dX12_layParties_14 : decode cX12_layParties 14 = .ok (.ifCond .gt 16, 3) := by decide +kernel
theorem dX12_layParties_17 : decode cX12_layParties 17 = .ok (.aload_n 0, 1) := by decide +kernel
theorem dX12_layParties_18 : decode cX12_layParties 18 = .ok (.getfield 39, 3) := by decide +kernel
theorem dX12_layParties_21 : decode cX12_layParties 21 = .ok (.iconst 0, 1) := by decide +kernel
theorem dX12_layParties_22 : decode cX12_layParties 22 = .ok (.iaload, 1) := by decide +kernel
theorem dX12_layParties_23 : decode cX12_layParties 23 = .ok (.aload_n 0, 1) := by decide +kernel
theorem dX12_layParties_24 : decode cX12_layParties 24 = .ok (.invokevirtual 64, 3) := by decide +kernel
theorem dX12_layParties_27 : decode cX12_layParties 27 = .ok (.if_icmp .ge 123, 3) := by decide +kernel
theorem dX12_layParties_30 : decode cX12_layParties 30 = .ok (.iload 4, 2) := by decide +kernel
theorem dX12_layParties_32 : decode cX12_layParties 32 = .ok (.iload_n 3, 1) := by decide +kernel
theorem dX12_layParties_33 : decode cX12_layParties 33 = .ok (.if_icmp .eq 17, 3) := by decide +kernel
theorem dX12_layParties_36 : decode cX12_layParties 36 = .ok (.aload_n 0, 1) := by decide +kernel
theorem dX12_layParties_37 : decode cX12_layParties 37 = .ok (.getfield 39, 3) := by decide +kernel
theorem dX12_layParties_40 : decode cX12_layParties 40 = .ok (.iload 4, 2) := by decide +kernel
theorem dX12_layParties_42 : decode cX12_layParties 42 = .ok (.iaload, 1) := by decide +kernel
theorem dX12_layParties_43 : decode cX12_layParties 43 = .ok (.aload_n 0, 1) := by decide +kernel
theorem dX12_layParties_44 : decode cX12_layParties 44 = .ok (.invokevirtual 64, 3) := by decide +kernel
theorem dX12_layParties_47 : decode cX12_layParties 47 = .ok (.if_icmp .ne 42, 3) := by decide +kernel
theorem dX12_layParties_50 : decode cX12_layParties 50 = .ok (.iload 4, 2) := by decide +kernel
theorem dX12_layParties_52 : decode cX12_layParties 52 = .ok (.iload_n 3, 1) := by decide +kernel
theorem dX12_layParties_53 : decode cX12_layParties 53 = .ok (.if_icmp .ne 7, 3) := by decide +kernel
theorem dX12_layParties_56 : decode cX12_layParties 56 = .ok (.iconst 1, 1) := by decide +kernel
theorem dX12_layParties_57 : decode cX12_layParties 57 = .ok (.goto 10, 3) := by decide +kernel
theorem dX12_layParties_60 : decode cX12_layParties 60 = .ok (.aload_n 0, 1) := by decide +kernel
theorem dX12_layParties_61 : decode cX12_layParties 61 = .ok (.getfield 42, 3) := by decide +kernel
theorem dX12_layParties_64 : decode cX12_layParties 64 = .ok (.iload 4, 2) := by decide +kernel
theorem dX12_layParties_66 : decode cX12_layParties 66 = .ok (.iaload, 1) := by decide +kernel
theorem dX12_layParties_67 : decode cX12_layParties 67 = .ok (.istore 5, 2) := by decide +kernel
theorem dX12_layParties_69 : decode cX12_layParties 69 = .ok (.iinc 4 (-1), 3) := by decide +kernel
theorem dX12_layParties_72 : decode cX12_layParties 72 = .ok (.aload_n 0, 1) := by decide +kernel
theorem dX12_layParties_73 : decode cX12_layParties 73 = .ok (.iload 4, 2) := by decide +kernel
theorem dX12_layParties_75 : decode cX12_layParties 75 = .ok (.invokevirtual 203, 3) := by decide +kernel
theorem dX12_layParties_78 : decode cX12_layParties 78 = .ok (.aload_n 0, 1) := by decide +kernel
theorem dX12_layParties_79 : decode cX12_layParties 79 = .ok (.iload 4, 2) := by decide +kernel
theorem dX12_layParties_81 : decode cX12_layParties 81 = .ok (.iload 5, 2) := by decide +kernel
theorem dX12_layParties_83 : decode cX12_layParties 83 = .ok (.invokevirtual 206, 3) := by decide +kernel
theorem dX12_layParties_86 : decode cX12_layParties 86 = .ok (.goto (-74), 3) := by decide +kernel
theorem dX12_layParties_89 : decode cX12_layParties 89 = .ok (.aload_n 0, 1) := by decide +kernel
theorem dX12_layParties_90 : decode cX12_layParties 90 = .ok (.aload_n 0, 1) := by decide +kernel
theorem dX12_layParties_91 : decode cX12_layParties 91 = .ok (.getfield 39, 3) := by decide +kernel
theorem dX12_layParties_94 : decode cX12_layParties 94 = .ok (.iload 4, 2) := by decide +kernel
theorem dX12_layParties_96 : decode cX12_layParties 96 = .ok (.iaload, 1) := by decide +kernel
theorem dX12_layParties_97 : decode cX12_layParties 97 = .ok (.iload_n 1, 1) := by decide +kernel
theorem dX12_layParties_98 : decode cX12_layParties 98 = .ok (.iload_n 2, 1) := by decide +kernel
theorem dX12_layParties_99 : decode cX12_layParties 99 = .ok (.invokevirtual 210, 3) := by decide +kernel
theorem dX12_layParties_102 : decode cX12_layParties 102 = .ok (.aload_n 0, 1) := by decide +kernel
theorem dX12_layParties_103 : decode cX12_layParties 103 = .ok (.getfield 196, 3) := by decide +kernel
theorem dX12_layParties_106 : decode cX12_layParties 106 = .ok (.iconst (-1), 1) := by decide +kernel
theorem dX12_layParties_107 : decode cX12_layParties 107 = .ok (.if_icmp .eq 31, 3) := by decide +kernel
theorem dX12_layParties_110 : decode cX12_layParties 110 = .ok (.aload_n 0, 1) := by decide +kernel
theorem dX12_layParties_111 : decode cX12_layParties 111 = .ok (.iload 4, 2) := by decide +kernel
theorem dX12_layParties_113 : decode cX12_layParties 113 = .ok (.invokevirtual 203, 3) := by decide +kernel
theorem dX12_layParties_116 : decode cX12_layParties 116 = .ok (.aload_n 0, 1) := by decide +kernel
theorem dX12_layParties_117 : decode cX12_layParties 117 = .ok (.iload 4, 2) := by decide +kernel
theorem dX12_layParties_119 : decode cX12_layParties 119 = .ok (.aload_n 0, 1) := by decide +kernel
theorem dX12_layParties_120 : decode cX12_layParties 120 = .ok (.getfield 196, 3) := by decide +kernel
theorem dX12_layParties_123 : decode cX12_layParties 123 = .ok (.iload_n 1, 1) := by decide +kernel
theorem dX12_layParties_124 : decode cX12_layParties 124 = .ok (.if_icmp .ne 7, 3) := by decide +kernel
theorem dX12_layParties_127 : decode cX12_layParties 127 = .ok (.iconst 2, 1) := by decide +kernel
theorem dX12_layParties_128 : decode cX12_layParties 128 = .ok (.goto 4, 3) := by decide +kernel
theorem dX12_layParties_131 : decode cX12_layParties 131 = .ok (.iconst 0, 1) := by decide +kernel
theorem dX12_layParties_132 : decode cX12_layParties 132 = .ok (.invokevirtual 206, 3) := by decide +kernel
theorem dX12_layParties_135 : decode cX12_layParties 135 = .ok (.goto (-123), 3) := by decide +kernel
theorem dX12_layParties_138 : decode cX12_layParties 138 = .ok (.iinc 4 1, 3) := by decide +kernel
theorem dX12_layParties_141 : decode cX12_layParties 141 = .ok (.aload_n 0, 1) := by decide +kernel
theorem dX12_layParties_142 : decode cX12_layParties 142 = .ok (.iload 4, 2) := by decide +kernel
theorem dX12_layParties_144 : decode cX12_layParties 144 = .ok (.invokevirtual 199, 3) := by decide +kernel
theorem dX12_layParties_147 : decode cX12_layParties 147 = .ok (.goto (-135), 3) := by decide +kernel
theorem dX12_layParties_150 : decode cX12_layParties 150 = .ok (.aload_n 0, 1) := by decide +kernel
theorem dX12_layParties_151 : decode cX12_layParties 151 = .ok (.getfield 42, 3) := by decide +kernel
theorem dX12_layParties_154 : decode cX12_layParties 154 = .ok (.iconst 0, 1) := by decide +kernel
theorem dX12_layParties_155 : decode cX12_layParties 155 = .ok (.iaload, 1) := by decide +kernel
theorem dX12_layParties_156 : decode cX12_layParties 156 = .ok (.ireturn, 1) := by decide +kernel
theorem dX12_parties_0 : decode cX12_parties 0 = .ok (.aload_n 0, 1) := by decide +kernel
theorem dX12_parties_1 : decode cX12_parties 1 = .ok (.iload_n 1, 1) := by decide +kernel
theorem dX12_parties_2 : decode cX12_parties 2 = .ok (.invokevirtual 94, 3) := by decide +kernel
theorem dX12_parties_5 : decode cX12_parties 5 = .ok (.ifCond .eq 39, 3) := by decide +kernel
theorem dX12_parties_8 : decode cX12_parties 8 = .ok (.aload_n 0, 1) := by decide +kernel
theorem dX12_parties_9 : decode cX12_parties 9 = .ok (.iload_n 2, 1) := by decide +kernel
theorem dX12_parties_10 : decode cX12_parties 10 = .ok (.invokevirtual 94, 3) := by decide +kernel
theorem dX12_parties_13 : decode cX12_parties 13 = .ok (.ifCond .eq 31, 3) := by decide +kernel
theorem dX12_parties_16 : decode cX12_parties 16 = .ok (.iload_n 1, 1) := by decide +kernel
theorem dX12_parties_17 : decode cX12_parties 17 = .ok (.iload_n 2, 1) := by decide +kernel
theorem dX12_parties_18 : decode cX12_parties 18 = .ok (.if_icmp .eq 26, 3) := by decide +kernel
theorem dX12_parties_21 : decode cX12_parties 21 = .ok (.iload_n 3, 1) := by decide +kernel
theorem dX12_parties_22 : decode cX12_parties 22 = .ok (.i2l, 1) := by decide +kernel
theorem dX12_parties_23 : decode cX12_parties 23 = .ok (.lconst 1, 1) := by decide +kernel
theorem dX12_parties_24 : decode cX12_parties 24 = .ok (.ldc2_w 178, 3) := by decide +kernel
theorem dX12_parties_27 : decode cX12_parties 27 = .ok (.invokestatic 68, 3) := by decide +kernel
theorem dX12_parties_30 : decode cX12_parties 30 = .ok (.ifCond .eq 14, 3) := by decide +kernel
theorem dX12_parties_33 : decode cX12_parties 33 = .ok (.iload 4, 2) := by decide +kernel
theorem dX12_parties_35 : decode cX12_parties 35 = .ok (.i2l, 1) := by decide +kernel
theorem dX12_parties_36 : decode cX12_parties 36 = .ok (.lconst 0, 1) := by decide +kernel
theorem dX12_parties_37 : decode cX12_parties 37 = .ok (.lconst 1, 1) := by decide +kernel
theorem dX12_parties_38 : decode cX12_parties 38 = .ok (.invokestatic 68, 3) := by decide +kernel
theorem dX12_parties_41 : decode cX12_parties 41 = .ok (.ifCond .ne 10, 3) := by decide +kernel
theorem dX12_parties_44 : decode cX12_parties 44 = .ok (.aload_n 0, 1) := by decide +kernel
theorem dX12_parties_45 : decode cX12_parties 45 = .ok (.bipush (-10), 2) := by decide +kernel
theorem dX12_parties_47 : decode cX12_parties 47 = .ok (.invokevirtual 81, 3) := by decide +kernel
theorem dX12_parties_50 : decode cX12_parties 50 = .ok (.ireturn, 1) := by decide +kernel
theorem dX12_parties_51 : decode cX12_parties 51 = .ok (.aload_n 0, 1) := by decide +kernel
theorem dX12_parties_52 : decode cX12_parties 52 = .ok (.iload_n 1, 1) := by decide +kernel
theorem dX12_parties_53 : decode cX12_parties 53 = .ok (.iload_n 2, 1) := by decide +kernel
theorem dX12_parties_54 : decode cX12_parties 54 = .ok (.iload_n 3, 1) := by decide +kernel
theorem dX12_parties_55 : decode cX12_parties 55 = .ok (.invokevirtual 213, 3) := by decide +kernel
theorem dX12_parties_58 : decode cX12_parties 58 = .ok (.istore 5, 2) := by decide +kernel
theorem dX12_parties_60 : decode cX12_parties 60 = .ok (.iload 4, 2) := by decide +kernel
theorem dX12_parties_62 : decode cX12_parties 62 = .ok (.ifCond .ne 8, 3) := by decide +kernel
theorem dX12_parties_65 : decode cX12_parties 65 = .ok (.iload 5, 2) := by decide +kernel
theorem dX12_parties_67 : decode cX12_parties 67 = .ok (.goto 7, 3) := by decide +kernel
theorem dX12_parties_70 : decode cX12_parties 70 = .ok (.aload_n 0, 1) := by decide +kernel
theorem dX12_parties_71 : decode cX12_parties 71 = .ok (.getfield 193, 3) := by decide +kernel
theorem dX12_parties_74 : decode cX12_parties 74 = .ok (.ireturn, 1) := by decide +kernel
theorem dX12_seen_0 : decode cX12_seen 0 = .ok (.iload_n 1, 1) := by decide +kernel
theorem dX12_seen_1 : decode cX12_seen 1 = .ok (.i2l, 1) := by decide +kernel
theorem dX12_seen_2 : decode cX12_seen 2 = .ok (.lconst 0, 1) := by decide +kernel
theorem dX12_seen_3 : decode cX12_seen 3 = .ok (.ldc2_w 216, 3) := by decide +kernel
theorem dX12_seen_6 : decode cX12_seen 6 = .ok (.invokestatic 68, 3) := by decide +kernel
theorem dX12_seen_9 : decode cX12_seen 9 = .ok (.ifCond .eq 13, 3) := by decide +kernel
theorem dX12_seen_12 : decode cX12_seen 12 = .ok (.iload_n 2, 1) := by decide +kernel
theorem dX12_seen_13 : decode cX12_seen 13 = .ok (.i2l, 1) := by decide +kernel
theorem dX12_seen_14 : decode cX12_seen 14 = .ok (.lconst 0, 1) := by decide +kernel
theorem dX12_seen_15 : decode cX12_seen 15 = .ok (.lconst 1, 1) := by decide +kernel
theorem dX12_seen_16 : decode cX12_seen 16 = .ok (.invokestatic 68, 3) := by decide +kernel
theorem dX12_seen_19 : decode cX12_seen 19 = .ok (.ifCond .ne 10, 3) := by decide +kernel
theorem dX12_seen_22 : decode cX12_seen 22 = .ok (.aload_n 0, 1) := by decide +kernel
theorem dX12_seen_23 : decode cX12_seen 23 = .ok (.bipush (-2), 2) := by decide +kernel
theorem dX12_seen_25 : decode cX12_seen 25 = .ok (.invokevirtual 81, 3) := by decide +kernel
theorem dX12_seen_28 : decode cX12_seen 28 = .ok (.ireturn, 1) := by decide +kernel
theorem dX12_seen_29 : decode cX12_seen 29 = .ok (.aload_n 0, 1) := by decide +kernel
theorem dX12_seen_30 : decode cX12_seen 30 = .ok (.getfield 7, 3) := by decide +kernel
theorem dX12_seen_33 : decode cX12_seen 33 = .ok (.iconst 3, 1) := by decide +kernel
theorem dX12_seen_34 : decode cX12_seen 34 = .ok (.iaload, 1) := by decide +kernel
theorem dX12_seen_35 : decode cX12_seen 35 = .ok (.bipush 6, 2) := by decide +kernel
theorem dX12_seen_37 : decode cX12_seen 37 = .ok (.if_icmp .ne 8, 3) := by decide +kernel
theorem dX12_seen_40 : decode cX12_seen 40 = .ok (.aload_n 0, 1) := by decide +kernel
theorem dX12_seen_41 : decode cX12_seen 41 = .ok (.invokevirtual 85, 3) := by decide +kernel
theorem dX12_seen_44 : decode cX12_seen 44 = .ok (.ireturn, 1) := by decide +kernel
theorem dX12_seen_45 : decode cX12_seen 45 = .ok (.aload_n 0, 1) := by decide +kernel
theorem dX12_seen_46 : decode cX12_seen 46 = .ok (.getfield 7, 3) := by decide +kernel
theorem dX12_seen_49 : decode cX12_seen 49 = .ok (.bipush 57, 2) := by decide +kernel
theorem dX12_seen_51 : decode cX12_seen 51 = .ok (.iconst 2, 1) := by decide +kernel
theorem dX12_seen_52 : decode cX12_seen 52 = .ok (.aload_n 0, 1) := by decide +kernel
theorem dX12_seen_53 : decode cX12_seen 53 = .ok (.getfield 7, 3) := by decide +kernel
theorem dX12_seen_56 : decode cX12_seen 56 = .ok (.iconst 3, 1) := by decide +kernel
theorem dX12_seen_57 : decode cX12_seen 57 = .ok (.iaload, 1) := by decide +kernel
theorem dX12_seen_58 : decode cX12_seen 58 = .ok (.imul, 1) := by decide +kernel
theorem dX12_seen_59 : decode cX12_seen 59 = .ok (.iadd, 1) := by decide +kernel
theorem dX12_seen_60 : decode cX12_seen 60 = .ok (.iload_n 1, 1) := by decide +kernel
theorem dX12_seen_61 : decode cX12_seen 61 = .ok (.iastore, 1) := by decide +kernel
theorem dX12_seen_62 : decode cX12_seen 62 = .ok (.aload_n 0, 1) := by decide +kernel
theorem dX12_seen_63 : decode cX12_seen 63 = .ok (.getfield 7, 3) := by decide +kernel
theorem dX12_seen_66 : decode cX12_seen 66 = .ok (.bipush 57, 2) := by decide +kernel
theorem dX12_seen_68 : decode cX12_seen 68 = .ok (.iconst 2, 1) := by decide +kernel
theorem dX12_seen_69 : decode cX12_seen 69 = .ok (.aload_n 0, 1) := by decide +kernel
theorem dX12_seen_70 : decode cX12_seen 70 = .ok (.getfield 7, 3) := by decide +kernel
theorem dX12_seen_73 : decode cX12_seen 73 = .ok (.iconst 3, 1) := by decide +kernel
theorem dX12_seen_74 : decode cX12_seen 74 = .ok (.iaload, 1) := by decide +kernel
theorem dX12_seen_75 : decode cX12_seen 75 = .ok (.imul, 1) := by decide +kernel
theorem dX12_seen_76 : decode cX12_seen 76 = .ok (.iadd, 1) := by decide +kernel
theorem dX12_seen_77 : decode cX12_seen 77 = .ok (.iconst 1, 1) := by decide +kernel
theorem dX12_seen_78 : decode cX12_seen 78 = .ok (.iadd, 1) := by decide +kernel
theorem dX12_seen_79 : decode cX12_seen 79 = .ok (.iload_n 2, 1) := by decide +kernel
theorem dX12_seen_80 : decode cX12_seen 80 = .ok (.iastore, 1) := by decide +kernel
theorem dX12_seen_81 : decode cX12_seen 81 = .ok (.aload_n 0, 1) := by decide +kernel
theorem dX12_seen_82 : decode cX12_seen 82 = .ok (.getfield 7, 3) := by decide +kernel
theorem dX12_seen_85 : decode cX12_seen 85 = .ok (.iconst 3, 1) := by decide +kernel
theorem dX12_seen_86 : decode cX12_seen 86 = .ok (.dup2, 1) := by decide +kernel
theorem dX12_seen_87 : decode cX12_seen 87 = .ok (.iaload, 1) := by decide +kernel
theorem dX12_seen_88 : decode cX12_seen 88 = .ok (.iconst 1, 1) := by decide +kernel
theorem dX12_seen_89 : decode cX12_seen 89 = .ok (.iadd, 1) := by decide +kernel
theorem dX12_seen_90 : decode cX12_seen 90 = .ok (.iastore, 1) := by decide +kernel
theorem dX12_seen_91 : decode cX12_seen 91 = .ok (.aload_n 0, 1) := by decide +kernel
theorem dX12_seen_92 : decode cX12_seen 92 = .ok (.getfield 7, 3) := by decide +kernel
theorem dX12_seen_95 : decode cX12_seen 95 = .ok (.iconst 3, 1) := by decide +kernel
theorem dX12_seen_96 : decode cX12_seen 96 = .ok (.iaload, 1) := by decide +kernel
theorem dX12_seen_97 : decode cX12_seen 97 = .ok (.ireturn, 1) := by decide +kernel
theorem dX12_forget_0 : decode cX12_forget 0 = .ok (.aload_n 0, 1) := by decide +kernel
theorem dX12_forget_1 : decode cX12_forget 1 = .ok (.getfield 7, 3) := by decide +kernel
theorem dX12_forget_4 : decode cX12_forget 4 = .ok (.iconst 3, 1) := by decide +kernel
theorem dX12_forget_5 : decode cX12_forget 5 = .ok (.iaload, 1) := by decide +kernel
theorem dX12_forget_6 : decode cX12_forget 6 = .ok (.istore_n 1, 1) := by decide +kernel
theorem dX12_forget_7 : decode cX12_forget 7 = .ok (.aload_n 0, 1) := by decide +kernel
theorem dX12_forget_8 : decode cX12_forget 8 = .ok (.getfield 7, 3) := by decide +kernel
theorem dX12_forget_11 : decode cX12_forget 11 = .ok (.iconst 3, 1) := by decide +kernel
theorem dX12_forget_12 : decode cX12_forget 12 = .ok (.iconst 0, 1) := by decide +kernel
theorem dX12_forget_13 : decode cX12_forget 13 = .ok (.iastore, 1) := by decide +kernel
theorem dX12_forget_14 : decode cX12_forget 14 = .ok (.iload_n 1, 1) := by decide +kernel
theorem dX12_forget_15 : decode cX12_forget 15 = .ok (.ireturn, 1) := by decide +kernel
theorem dX12_canHold_0 : decode cX12_canHold 0 = .ok (.iconst 1, 1) := by decide +kernel
theorem dX12_canHold_1 : decode cX12_canHold 1 = .ok (.istore_n 2, 1) := by decide +kernel
theorem dX12_canHold_2 : decode cX12_canHold 2 = .ok (.iconst 0, 1) := by decide +kernel
theorem dX12_canHold_3 : decode cX12_canHold 3 = .ok (.istore_n 3, 1) := by decide +kernel
theorem dX12_canHold_4 : decode cX12_canHold 4 = .ok (.iload_n 3, 1) := by decide +kernel
theorem dX12_canHold_5 : decode cX12_canHold 5 = .ok (.aload_n 0, 1) := by decide +kernel
theorem dX12_canHold_6 : decode cX12_canHold 6 = .ok (.getfield 7, 3) := by decide +kernel
theorem dX12_canHold_9 : decode cX12_canHold 9 = .ok (.iconst 3, 1) := by decide +kernel
theorem dX12_canHold_10 : decode cX12_canHold 10 = .ok (.iaload, 1) := by decide +kernel
theorem dX12_canHold_11 : decode cX12_canHold 11 = .ok (.if_icmp .ge 68, 3) := by decide +kernel
theorem dX12_canHold_14 : decode cX12_canHold 14 = .ok (.iload_n 1, 1) := by decide +kernel
theorem dX12_canHold_15 : decode cX12_canHold 15 = .ok (.aload_n 0, 1) := by decide +kernel
theorem dX12_canHold_16 : decode cX12_canHold 16 = .ok (.getfield 7, 3) := by decide +kernel
theorem dX12_canHold_19 : decode cX12_canHold 19 = .ok (.bipush 57, 2) := by decide +kernel
theorem dX12_canHold_21 : decode cX12_canHold 21 = .ok (.iconst 2, 1) := by decide +kernel
theorem dX12_canHold_22 : decode cX12_canHold 22 = .ok (.iload_n 3, 1) := by decide +kernel
theorem dX12_canHold_23 : decode cX12_canHold 23 = .ok (.imul, 1) := by decide +kernel
theorem dX12_canHold_24 : decode cX12_canHold 24 = .ok (.iadd, 1) := by decide +kernel
theorem dX12_canHold_25 : decode cX12_canHold 25 = .ok (.iaload, 1) := by decide +kernel
theorem dX12_canHold_26 : decode cX12_canHold 26 = .ok (.if_icmp .lt 7, 3) := by decide +kernel
theorem dX12_canHold_29 : decode cX12_canHold 29 = .ok (.iconst 1, 1) := by decide +kernel
theorem dX12_canHold_30 : decode cX12_canHold 30 = .ok (.goto 4, 3) := by decide +kernel
theorem dX12_canHold_33 : decode cX12_canHold 33 = .ok (.iconst 0, 1) := by decide +kernel
theorem dX12_canHold_34 : decode cX12_canHold 34 = .ok (.istore 4, 2) := by decide +kernel
theorem dX12_canHold_36 : decode cX12_canHold 36 = .ok (.iload_n 2, 1) := by decide +kernel
theorem dX12_canHold_37 : decode cX12_canHold 37 = .ok (.ifCond .eq 34, 3) := by decide +kernel
theorem dX12_canHold_40 : decode cX12_canHold 40 = .ok (.iload 4, 2) := by decide +kernel
theorem dX12_canHold_42 : decode cX12_canHold 42 = .ok (.aload_n 0, 1) := by decide +kernel
theorem dX12_canHold_43 : decode cX12_canHold 43 = .ok (.getfield 7, 3) := by decide +kernel
theorem dX12_canHold_46 : decode cX12_canHold 46 = .ok (.bipush 57, 2) := by decide +kernel
theorem dX12_canHold_48 : decode cX12_canHold 48 = .ok (.iconst 2, 1) := by decide +kernel
theorem dX12_canHold_49 : decode cX12_canHold 49 = .ok (.iload_n 3, 1) := by decide +kernel
theorem dX12_canHold_50 : decode cX12_canHold 50 = .ok (.imul, 1) := by decide +kernel
theorem dX12_canHold_51 : decode cX12_canHold 51 = .ok (.iadd, 1) := by decide +kernel
theorem dX12_canHold_52 : decode cX12_canHold 52 = .ok (.iconst 1, 1) := by decide +kernel
theorem dX12_canHold_53 : decode cX12_canHold 53 = .ok (.iadd, 1) := by decide +kernel
theorem dX12_canHold_54 : decode cX12_canHold 54 = .ok (.iaload, 1) := by decide +kernel
theorem dX12_canHold_55 : decode cX12_canHold 55 = .ok (.iconst 1, 1) := by decide +kernel
theorem dX12_canHold_56 : decode cX12_canHold 56 = .ok (.if_icmp .ne 7, 3) := by decide +kernel
theorem dX12_canHold_59 : decode cX12_canHold 59 = .ok (.iconst 1, 1) := by decide +kernel
theorem dX12_canHold_60 : decode cX12_canHold 60 = .ok (.goto 4, 3) := by decide +kernel
theorem dX12_canHold_63 : decode cX12_canHold 63 = .ok (.iconst 0, 1) := by decide +kernel
theorem dX12_canHold_64 : decode cX12_canHold 64 = .ok (.if_icmp .ne 7, 3) := by decide +kernel
theorem dX12_canHold_67 : decode cX12_canHold 67 = .ok (.iconst 1, 1) := by decide +kernel
theorem dX12_canHold_68 : decode cX12_canHold 68 = .ok (.goto 4, 3) := by decide +kernel
theorem dX12_canHold_71 : decode cX12_canHold 71 = .ok (.iconst 0, 1) := by decide +kernel
theorem dX12_canHold_72 : decode cX12_canHold 72 = .ok (.istore_n 2, 1) := by decide +kernel
theorem dX12_canHold_73 : decode cX12_canHold 73 = .ok (.iinc 3 1, 3) := by decide +kernel
theorem dX12_canHold_76 : decode cX12_canHold 76 = .ok (.goto (-72), 3) := by decide +kernel
theorem dX12_canHold_79 : decode cX12_canHold 79 = .ok (.iload_n 2, 1) := by decide +kernel
theorem dX12_canHold_80 : decode cX12_canHold 80 = .ok (.ireturn, 1) := by decide +kernel
theorem dX12_manyFrom_0 : decode cX12_manyFrom 0 = .ok (.iconst 0, 1) := by decide +kernel
theorem dX12_manyFrom_1 : decode cX12_manyFrom 1 = .ok (.istore_n 2, 1) := by decide +kernel
theorem dX12_manyFrom_2 : decode cX12_manyFrom 2 = .ok (.iconst 1, 1) := by decide +kernel
theorem dX12_manyFrom_3 : decode cX12_manyFrom 3 = .ok (.istore_n 3, 1) := by decide +kernel
theorem dX12_manyFrom_4 : decode cX12_manyFrom 4 = .ok (.iload_n 3, 1) := by decide +kernel
theorem dX12_manyFrom_5 : decode cX12_manyFrom 5 = .ok (.bipush 60, 2) := by decide +kernel
theorem dX12_manyFrom_7 : decode cX12_manyFrom 7 = .ok (.if_icmp .gt 30, 3) := by decide +kernel
theorem dX12_manyFrom_10 : decode cX12_manyFrom 10 = .ok (.iload_n 2, 1) := by decide +kernel
theorem dX12_manyFrom_11 : decode cX12_manyFrom 11 = .ok (.iload_n 3, 1) := by decide +kernel
theorem dX12_manyFrom_12 : decode cX12_manyFrom 12 = .ok (.iload_n 1, 1) := by decide +kernel
theorem dX12_manyFrom_13 : decode cX12_manyFrom 13 = .ok (.if_icmp .lt 15, 3) := by decide +kernel
theorem dX12_manyFrom_16 : decode cX12_manyFrom 16 = .ok (.aload_n 0, 1) := by decide +kernel
theorem dX12_manyFrom_17 : decode cX12_manyFrom 17 = .ok (.iload_n 3, 1) := by decide +kernel
theorem dX12_manyFrom_18 : decode cX12_manyFrom 18 = .ok (.invokevirtual 218, 3) := by decide +kernel
theorem dX12_manyFrom_21 : decode cX12_manyFrom 21 = .ok (.ifCond .eq 7, 3) := by decide +kernel
theorem dX12_manyFrom_24 : decode cX12_manyFrom 24 = .ok (.iconst 1, 1) := by decide +kernel
theorem dX12_manyFrom_25 : decode cX12_manyFrom 25 = .ok (.goto 4, 3) := by decide +kernel
theorem dX12_manyFrom_28 : decode cX12_manyFrom 28 = .ok (.iconst 0, 1) := by decide +kernel
theorem dX12_manyFrom_29 : decode cX12_manyFrom 29 = .ok (.iadd, 1) := by decide +kernel
theorem dX12_manyFrom_30 : decode cX12_manyFrom 30 = .ok (.istore_n 2, 1) := by decide +kernel
theorem dX12_manyFrom_31 : decode cX12_manyFrom 31 = .ok (.iinc 3 1, 3) := by decide +kernel
theorem dX12_manyFrom_34 : decode cX12_manyFrom 34 = .ok (.goto (-30), 3) := by decide +kernel
theorem dX12_manyFrom_37 : decode cX12_manyFrom 37 = .ok (.iload_n 2, 1) := by decide +kernel
theorem dX12_manyFrom_38 : decode cX12_manyFrom 38 = .ok (.ireturn, 1) := by decide +kernel
theorem dX12_leastHold_0 : decode cX12_leastHold 0 = .ok (.iconst 1, 1) := by decide +kernel
theorem dX12_leastHold_1 : decode cX12_leastHold 1 = .ok (.istore_n 1, 1) := by decide +kernel
theorem dX12_leastHold_2 : decode cX12_leastHold 2 = .ok (.iload_n 1, 1) := by decide +kernel
theorem dX12_leastHold_3 : decode cX12_leastHold 3 = .ok (.bipush 60, 2) := by decide +kernel
theorem dX12_leastHold_5 : decode cX12_leastHold 5 = .ok (.if_icmp .gt 19, 3) := by decide +kernel
theorem dX12_leastHold_8 : decode cX12_leastHold 8 = .ok (.aload_n 0, 1) := by decide +kernel
theorem dX12_leastHold_9 : decode cX12_leastHold 9 = .ok (.iload_n 1, 1) := by decide +kernel
theorem dX12_leastHold_10 : decode cX12_leastHold 10 = .ok (.invokevirtual 218, 3) := by decide +kernel
theorem dX12_leastHold_13 : decode cX12_leastHold 13 = .ok (.ifCond .eq 5, 3) := by decide +kernel
theorem dX12_leastHold_16 : decode cX12_leastHold 16 = .ok (.iload_n 1, 1) := by decide +kernel
theorem dX12_leastHold_17 : decode cX12_leastHold 17 = .ok (.ireturn, 1) := by decide +kernel
theorem dX12_leastHold_18 : decode cX12_leastHold 18 = .ok (.iinc 1 1, 3) := by decide +kernel
theorem dX12_leastHold_21 : decode cX12_leastHold 21 = .ok (.goto (-19), 3) := by decide +kernel
theorem dX12_leastHold_24 : decode cX12_leastHold 24 = .ok (.iconst (-1), 1) := by decide +kernel
theorem dX12_leastHold_25 : decode cX12_leastHold 25 = .ok (.ireturn, 1) := by decide +kernel
theorem dX12_hold_0 : decode cX12_hold 0 = .ok (.iload_n 1, 1) := by decide +kernel
theorem dX12_hold_1 : decode cX12_hold 1 = .ok (.i2l, 1) := by decide +kernel
theorem dX12_hold_2 : decode cX12_hold 2 = .ok (.lconst 0, 1) := by decide +kernel
theorem dX12_hold_3 : decode cX12_hold 3 = .ok (.lconst 1, 1) := by decide +kernel
theorem dX12_hold_4 : decode cX12_hold 4 = .ok (.invokestatic 68, 3) := by decide +kernel
theorem dX12_hold_7 : decode cX12_hold 7 = .ok (.ifCond .ne 12, 3) := by decide +kernel
theorem dX12_hold_10 : decode cX12_hold 10 = .ok (.aload_n 0, 1) := by decide +kernel
theorem dX12_hold_11 : decode cX12_hold 11 = .ok (.bipush (-10), 2) := by decide +kernel
theorem dX12_hold_13 : decode cX12_hold 13 = .ok (.invokevirtual 81, 3) := by decide +kernel
theorem dX12_hold_16 : decode cX12_hold 16 = .ok (.goto 19, 3) := by decide +kernel
theorem dX12_hold_19 : decode cX12_hold 19 = .ok (.iload_n 1, 1) := by decide +kernel
theorem dX12_hold_20 : decode cX12_hold 20 = .ok (.ifCond .ne 11, 3) := by decide +kernel
theorem dX12_hold_23 : decode cX12_hold 23 = .ok (.aload_n 0, 1) := by decide +kernel
theorem dX12_hold_24 : decode cX12_hold 24 = .ok (.iconst 0, 1) := by decide +kernel
theorem dX12_hold_25 : decode cX12_hold 25 = .ok (.invokevirtual 221, 3) := by decide +kernel
theorem dX12_hold_28 : decode cX12_hold 28 = .ok (.goto 7, 3) := by decide +kernel
theorem dX12_hold_31 : decode cX12_hold 31 = .ok (.aload_n 0, 1) := by decide +kernel
theorem dX12_hold_32 : decode cX12_hold 32 = .ok (.invokevirtual 224, 3) := by decide +kernel
theorem dX12_hold_35 : decode cX12_hold 35 = .ok (.ireturn, 1) := by decide +kernel
theorem dX12_stick_0 : decode cX12_stick 0 = .ok (.aload_n 0, 1) := by decide +kernel
theorem dX12_stick_1 : decode cX12_stick 1 = .ok (.iconst 0, 1) := by decide +kernel
theorem dX12_stick_2 : decode cX12_stick 2 = .ok (.invokevirtual 221, 3) := by decide +kernel
theorem dX12_stick_5 : decode cX12_stick 5 = .ok (.istore_n 1, 1) := by decide +kernel
theorem dX12_stick_6 : decode cX12_stick 6 = .ok (.iconst (-1), 1) := by decide +kernel
theorem dX12_stick_7 : decode cX12_stick 7 = .ok (.istore_n 2, 1) := by decide +kernel
theorem dX12_stick_8 : decode cX12_stick 8 = .ok (.ldc 227, 2) := by decide +kernel
theorem dX12_stick_10 : decode cX12_stick 10 = .ok (.istore_n 3, 1) := by decide +kernel
theorem dX12_stick_11 : decode cX12_stick 11 = .ok (.iconst 0, 1) := by decide +kernel
theorem dX12_stick_12 : decode cX12_stick 12 = .ok (.istore 4, 2) := by decide +kernel
theorem dX12_stick_14 : decode cX12_stick 14 = .ok (.iload 4, 2) := by decide +kernel
theorem dX12_stick_16 : decode cX12_stick 16 = .ok (.bipush 60, 2) := by decide +kernel
theorem dX12_stick_18 : decode cX12_stick 18 = .ok (.if_icmp .gt 67, 3) := by decide +kernel
theorem dX12_stick_21 : decode cX12_stick 21 = .ok (.iload_n 1, 1) := by decide +kernel
theorem dX12_stick_22 : decode cX12_stick 22 = .ok (.ifCond .le 63, 3) := by decide +kernel
theorem dX12_stick_25 : decode cX12_stick 25 = .ok (.aload_n 0, 1) := by decide +kernel
theorem dX12_stick_26 : decode cX12_stick 26 = .ok (.iload 4, 2) := by decide +kernel
theorem dX12_stick_28 : decode cX12_stick 28 = .ok (.invokevirtual 221, 3) := by decide +kernel
theorem dX12_stick_31 : decode cX12_stick 31 = .ok (.istore 5, 2) := by decide +kernel
theorem dX12_stick_33 : decode cX12_stick 33 = .ok (.iload 5, 2) := by decide +kernel
theorem dX12_stick_35 : decode cX12_stick 35 = .ok (.iload_n 1, 1) := by decide +kernel
theorem dX12_stick_36 : decode cX12_stick 36 = .ok (.iload 5, 2) := by decide +kernel
theorem dX12_stick_38 : decode cX12_stick 38 = .ok (.isub, 1) := by decide +kernel
theorem dX12_stick_39 : decode cX12_stick 39 = .ok (.if_icmp .le 8, 3) := by decide +kernel
theorem dX12_stick_42 : decode cX12_stick 42 = .ok (.iload 5, 2) := by decide +kernel
theorem dX12_stick_44 : decode cX12_stick 44 = .ok (.goto 7, 3) := by decide +kernel
theorem dX12_stick_47 : decode cX12_stick 47 = .ok (.iload_n 1, 1) := by decide +kernel
theorem dX12_stick_48 : decode cX12_stick 48 = .ok (.iload 5, 2) := by decide +kernel
theorem dX12_stick_50 : decode cX12_stick 50 = .ok (.isub, 1) := by decide +kernel
theorem dX12_stick_51 : decode cX12_stick 51 = .ok (.istore 6, 2) := by decide +kernel
theorem dX12_stick_53 : decode cX12_stick 53 = .ok (.iload 6, 2) := by decide +kernel
theorem dX12_stick_55 : decode cX12_stick 55 = .ok (.iload_n 3, 1) := by decide +kernel
theorem dX12_stick_56 : decode cX12_stick 56 = .ok (.if_icmp .ge 8, 3) := by decide +kernel
theorem dX12_stick_59 : decode cX12_stick 59 = .ok (.iload 4, 2) := by decide +kernel
theorem dX12_stick_61 : decode cX12_stick 61 = .ok (.goto 4, 3) := by decide +kernel
theorem dX12_stick_64 : decode cX12_stick 64 = .ok (.iload_n 2, 1) := by decide +kernel
theorem dX12_stick_65 : decode cX12_stick 65 = .ok (.istore_n 2, 1) := by decide +kernel
theorem dX12_stick_66 : decode cX12_stick 66 = .ok (.iload 6, 2) := by decide +kernel
theorem dX12_stick_68 : decode cX12_stick 68 = .ok (.iload_n 3, 1) := by decide +kernel
theorem dX12_stick_69 : decode cX12_stick 69 = .ok (.if_icmp .ge 8, 3) := by decide +kernel
theorem dX12_stick_72 : decode cX12_stick 72 = .ok (.iload 6, 2) := by decide +kernel
theorem dX12_stick_74 : decode cX12_stick 74 = .ok (.goto 4, 3) := by decide +kernel
theorem dX12_stick_77 : decode cX12_stick 77 = .ok (.iload_n 3, 1) := by decide +kernel
theorem dX12_stick_78 : decode cX12_stick 78 = .ok (.istore_n 3, 1) := by decide +kernel
theorem dX12_stick_79 : decode cX12_stick 79 = .ok (.iinc 4 1, 3) := by decide +kernel
theorem dX12_stick_82 : decode cX12_stick 82 = .ok (.goto (-68), 3) := by decide +kernel
theorem dX12_stick_85 : decode cX12_stick 85 = .ok (.iload_n 2, 1) := by decide +kernel
theorem dX12_stick_86 : decode cX12_stick 86 = .ok (.ireturn, 1) := by decide +kernel
theorem dX12_is_0 : decode cX12_is 0 = .ok (.aload_n 0, 1) := by decide +kernel
theorem dX12_is_1 : decode cX12_is 1 = .ok (.iload_n 1, 1) := by decide +kernel
theorem dX12_is_2 : decode cX12_is 2 = .ok (.invokevirtual 155, 3) := by decide +kernel
theorem dX12_is_5 : decode cX12_is 5 = .ok (.ifCond .eq 23, 3) := by decide +kernel
theorem dX12_is_8 : decode cX12_is 8 = .ok (.aload_n 0, 1) := by decide +kernel
theorem dX12_is_9 : decode cX12_is 9 = .ok (.iload_n 2, 1) := by decide +kernel
theorem dX12_is_10 : decode cX12_is 10 = .ok (.invokevirtual 94, 3) := by decide +kernel
theorem dX12_is_13 : decode cX12_is 13 = .ok (.ifCond .eq 15, 3) := by decide +kernel
theorem dX12_is_16 : decode cX12_is 16 = .ok (.iload_n 3, 1) := by decide +kernel
theorem dX12_is_17 : decode cX12_is 17 = .ok (.i2l, 1) := by decide +kernel
theorem dX12_is_18 : decode cX12_is 18 = .ok (.lconst 1, 1) := by decide +kernel
theorem dX12_is_19 : decode cX12_is 19 = .ok (.ldc2_w 191, 3) := by decide +kernel
theorem dX12_is_22 : decode cX12_is 22 = .ok (.invokestatic 68, 3) := by decide +kernel
theorem dX12_is_25 : decode cX12_is 25 = .ok (.ifCond .ne 10, 3) := by decide +kernel
theorem dX12_is_28 : decode cX12_is 28 = .ok (.aload_n 0, 1) := by decide +kernel
theorem dX12_is_29 : decode cX12_is 29 = .ok (.bipush (-2), 2) := by decide +kernel
theorem dX12_is_31 : decode cX12_is 31 = .ok (.invokevirtual 81, 3) := by decide +kernel
theorem dX12_is_34 : decode cX12_is 34 = .ok (.ireturn, 1) := by decide +kernel
theorem dX12_is_35 : decode cX12_is 35 = .ok (.iconst 0, 1) := by decide +kernel
theorem dX12_is_36 : decode cX12_is 36 = .ok (.istore 4, 2) := by decide +kernel
theorem dX12_is_38 : decode cX12_is 38 = .ok (.aload_n 0, 1) := by decide +kernel
theorem dX12_is_39 : decode cX12_is 39 = .ok (.invokevirtual 161, 3) := by decide +kernel
theorem dX12_is_42 : decode cX12_is 42 = .ok (.iconst 0, 1) := by decide +kernel
theorem dX12_is_43 : decode cX12_is 43 = .ok (.istore 5, 2) := by decide +kernel
theorem dX12_is_45 : decode cX12_is 45 = .ok (.iload 5, 2) := by decide +kernel
theorem dX12_is_47 : decode cX12_is 47 = .ok (.bipush 6, 2) := by decide +kernel
theorem dX12_is_49 : decode cX12_is 49 = .ok (.if_icmp .ge 72, 3) := by decide +kernel
theorem dX12_is_52 : decode cX12_is 52 = .ok (.aload_n 0, 1) := by decide +kernel
theorem dX12_is_53 : decode cX12_is 53 = .ok (.iload 5, 2) := by decide +kernel
theorem dX12_is_55 : decode cX12_is 55 = .ok (.aload_n 0, 1) := by decide +kernel
theorem dX12_is_56 : decode cX12_is 56 = .ok (.iload_n 1, 1) := by decide +kernel
theorem dX12_is_57 : decode cX12_is 57 = .ok (.iconst 1, 1) := by decide +kernel
theorem dX12_is_58 : decode cX12_is 58 = .ok (.invokevirtual 136, 3) := by decide +kernel
theorem dX12_is_61 : decode cX12_is 61 = .ok (.aload_n 0, 1) := by decide +kernel
theorem dX12_is_62 : decode cX12_is 62 = .ok (.iload_n 1, 1) := by decide +kernel
theorem dX12_is_63 : decode cX12_is 63 = .ok (.iconst 2, 1) := by decide +kernel
theorem dX12_is_64 : decode cX12_is 64 = .ok (.invokevirtual 136, 3) := by decide +kernel
theorem dX12_is_67 : decode cX12_is 67 = .ok (.invokevirtual 139, 3) := by decide +kernel
theorem dX12_is_70 : decode cX12_is 70 = .ok (.iload_n 2, 1) := by decide +kernel
theorem dX12_is_71 : decode cX12_is 71 = .ok (.if_icmp .ne 23, 3) := by decide +kernel
theorem dX12_is_74 : decode cX12_is 74 = .ok (.aload_n 0, 1) := by decide +kernel
theorem dX12_is_75 : decode cX12_is 75 = .ok (.iload 5, 2) := by decide +kernel
theorem dX12_is_77 : decode cX12_is 77 = .ok (.aload_n 0, 1) := by decide +kernel
theorem dX12_is_78 : decode cX12_is 78 = .ok (.iload_n 1, 1) := by decide +kernel
theorem dX12_is_79 : decode cX12_is 79 = .ok (.iconst 2, 1) := by decide +kernel
theorem dX12_is_80 : decode cX12_is 80 = .ok (.invokevirtual 136, 3) := by decide +kernel
theorem dX12_is_83 : decode cX12_is 83 = .ok (.invokevirtual 129, 3) := by decide +kernel
theorem dX12_is_86 : decode cX12_is 86 = .ok (.iload_n 3, 1) := by decide +kernel
theorem dX12_is_87 : decode cX12_is 87 = .ok (.if_icmp .ne 7, 3) := by decide +kernel
theorem dX12_is_90 : decode cX12_is 90 = .ok (.iconst 1, 1) := by decide +kernel
theorem dX12_is_91 : decode cX12_is 91 = .ok (.goto 4, 3) := by decide +kernel
theorem dX12_is_94 : decode cX12_is 94 = .ok (.iconst 0, 1) := by decide +kernel
theorem dX12_is_95 : decode cX12_is 95 = .ok (.istore 6, 2) := by decide +kernel
theorem dX12_is_97 : decode cX12_is 97 = .ok (.iload 4, 2) := by decide +kernel
theorem dX12_is_99 : decode cX12_is 99 = .ok (.iload 6, 2) := by decide +kernel
theorem dX12_is_101 : decode cX12_is 101 = .ok (.ifCond .eq 10, 3) := by decide +kernel
theorem dX12_is_104 : decode cX12_is 104 = .ok (.iconst 1, 1) := by decide +kernel
theorem dX12_is_105 : decode cX12_is 105 = .ok (.iload 5, 2) := by decide +kernel
theorem dX12_is_107 : decode cX12_is 107 = .ok (.ishl, 1) := by decide +kernel
theorem dX12_is_108 : decode cX12_is 108 = .ok (.goto 4, 3) := by decide +kernel
theorem dX12_is_111 : decode cX12_is 111 = .ok (.iconst 0, 1) := by decide +kernel
theorem dX12_is_112 : decode cX12_is 112 = .ok (.ior, 1) := by decide +kernel
theorem dX12_is_113 : decode cX12_is 113 = .ok (.istore 4, 2) := by decide +kernel
theorem dX12_is_115 : decode cX12_is 115 = .ok (.iinc 5 1, 3) := by decide +kernel
theorem dX12_is_118 : decode cX12_is 118 = .ok (.goto (-73), 3) := by decide +kernel
theorem dX12_is_121 : decode cX12_is 121 = .ok (.iload 4, 2) := by decide +kernel
theorem dX12_is_123 : decode cX12_is 123 = .ok (.ireturn, 1) := by decide +kernel
theorem dX12_fraction_0 : decode cX12_fraction 0 = .ok (.lload_n 1, 1) := by decide +kernel
theorem dX12_fraction_1 : decode cX12_fraction 1 = .ok (.lstore 5, 2) := by decide +kernel
theorem dX12_fraction_3 : decode cX12_fraction 3 = .ok (.lload_n 3, 1) := by decide +kernel
theorem dX12_fraction_4 : decode cX12_fraction 4 = .ok (.lstore 7, 2) := by decide +kernel
theorem dX12_fraction_6 : decode cX12_fraction 6 = .ok (.lload 7, 2) := by decide +kernel
theorem dX12_fraction_8 : decode cX12_fraction 8 = .ok (.lconst 0, 1) := by decide +kernel
theorem dX12_fraction_9 : decode cX12_fraction 9 = .ok (.lcmp, 1) := by decide +kernel
theorem dX12_fraction_10 : decode cX12_fraction 10 = .ok (.ifCond .eq 21, 3) := by decide +kernel
theorem dX12_fraction_13 : decode cX12_fraction 13 = .ok (.lload 5, 2) := by decide +kernel
theorem dX12_fraction_15 : decode cX12_fraction 15 = .ok (.lload 7, 2) := by decide +kernel
theorem dX12_fraction_17 : decode cX12_fraction 17 = .ok (.lrem, 1) := by decide +kernel
theorem dX12_fraction_18 : decode cX12_fraction 18 = .ok (.lstore 9, 2) := by decide +kernel
theorem dX12_fraction_20 : decode cX12_fraction 20 = .ok (.lload 7, 2) := by decide +kernel
theorem dX12_fraction_22 : decode cX12_fraction 22 = .ok (.lstore 5, 2) := by decide +kernel
theorem dX12_fraction_24 : decode cX12_fraction 24 = .ok (.lload 9, 2) := by decide +kernel
theorem dX12_fraction_26 : decode cX12_fraction 26 = .ok (.lstore 7, 2) := by decide +kernel
theorem dX12_fraction_28 : decode cX12_fraction 28 = .ok (.goto (-22), 3) := by decide +kernel
theorem dX12_fraction_31 : decode cX12_fraction 31 = .ok (.aload_n 0, 1) := by decide +kernel
theorem dX12_fraction_32 : decode cX12_fraction 32 = .ok (.lload_n 1, 1) := by decide +kernel
theorem dX12_fraction_33 : decode cX12_fraction 33 = .ok (.lload 5, 2) := by decide +kernel
theorem dX12_fraction_35 : decode cX12_fraction 35 = .ok (.ldiv, 1) := by decide +kernel
theorem dX12_fraction_36 : decode cX12_fraction 36 = .ok (.putfield 228, 3) := by decide +kernel
theorem dX12_fraction_39 : decode cX12_fraction 39 = .ok (.aload_n 0, 1) := by decide +kernel
theorem dX12_fraction_40 : decode cX12_fraction 40 = .ok (.lload_n 3, 1) := by decide +kernel
theorem dX12_fraction_41 : decode cX12_fraction 41 = .ok (.lload 5, 2) := by decide +kernel
theorem dX12_fraction_43 : decode cX12_fraction 43 = .ok (.ldiv, 1) := by decide +kernel
theorem dX12_fraction_44 : decode cX12_fraction 44 = .ok (.putfield 23, 3) := by decide +kernel
theorem dX12_fraction_47 : decode cX12_fraction 47 = .ok (.return_, 1) := by decide +kernel
theorem dX12_sneeze_0 : decode cX12_sneeze 0 = .ok (.aload_n 0, 1) := by decide +kernel
theorem dX12_sneeze_1 : decode cX12_sneeze 1 = .ok (.iload_n 1, 1) := by decide +kernel
theorem dX12_sneeze_2 : decode cX12_sneeze 2 = .ok (.invokevirtual 94, 3) := by decide +kernel
theorem dX12_sneeze_5 : decode cX12_sneeze 5 = .ok (.ifCond .eq 15, 3) := by decide +kernel
theorem dX12_sneeze_8 : decode cX12_sneeze 8 = .ok (.iload_n 2, 1) := by decide +kernel
theorem dX12_sneeze_9 : decode cX12_sneeze 9 = .ok (.i2l, 1) := by decide +kernel
theorem dX12_sneeze_10 : decode cX12_sneeze 10 = .ok (.lconst 0, 1) := by decide +kernel
theorem dX12_sneeze_11 : decode cX12_sneeze 11 = .ok (.ldc2_w 231, 3) := by decide +kernel
theorem dX12_sneeze_14 : decode cX12_sneeze 14 = .ok (.invokestatic 68, 3) := by decide +kernel
theorem dX12_sneeze_17 : decode cX12_sneeze 17 = .ok (.ifCond .ne 10, 3) := by decide +kernel
theorem dX12_sneeze_20 : decode cX12_sneeze 20 = .ok (.aload_n 0, 1) := by decide +kernel
theorem dX12_sneeze_21 : decode cX12_sneeze 21 = .ok (.bipush (-2), 2) := by decide +kernel
theorem dX12_sneeze_23 : decode cX12_sneeze 23 = .ok (.invokevirtual 81, 3) := by decide +kernel
theorem dX12_sneeze_26 : decode cX12_sneeze 26 = .ok (.ireturn, 1) := by decide +kernel
theorem dX12_sneeze_27 : decode cX12_sneeze 27 = .ok (.lconst 0, 1) := by decide +kernel
theorem dX12_sneeze_28 : decode cX12_sneeze 28 = .ok (.lstore_n 3, 1) := by decide +kernel
theorem dX12_sneeze_29 : decode cX12_sneeze 29 = .ok (.lconst 1, 1) := by decide +kernel
theorem dX12_sneeze_30 : decode cX12_sneeze 30 = .ok (.lstore 5, 2) := by decide +kernel
theorem dX12_sneeze_32 : decode cX12_sneeze 32 = .ok (.iconst 0, 1) := by decide +kernel
theorem dX12_sneeze_33 : decode cX12_sneeze 33 = .ok (.istore 7, 2) := by decide +kernel
theorem dX12_sneeze_35 : decode cX12_sneeze 35 = .ok (.iload 7, 2) := by decide +kernel
theorem dX12_sneeze_37 : decode cX12_sneeze 37 = .ok (.aload_n 0, 1) := by decide +kernel
theorem dX12_sneeze_38 : decode cX12_sneeze 38 = .ok (.invokevirtual 72, 3) := by decide +kernel
theorem dX12_sneeze_41 : decode cX12_sneeze 41 = .ok (.if_icmp .ge 17, 3) := by decide +kernel
theorem dX12_sneeze_44 : decode cX12_sneeze 44 = .ok (.lload 5, 2) := by decide +kernel
theorem dX12_sneeze_46 : decode cX12_sneeze 46 = .ok (.ldc2_w 231, 3) := by decide +kernel
theorem dX12_sneeze_49 : decode cX12_sneeze 49 = .ok (.lmul, 1) := by decide +kernel
theorem dX12_sneeze_50 : decode cX12_sneeze 50 = .ok (.lstore 5, 2) := by decide +kernel
theorem dX12_sneeze_52 : decode cX12_sneeze 52 = .ok (.iinc 7 1, 3) := by decide +kernel
theorem dX12_sneeze_55 : decode cX12_sneeze 55 = .ok (.goto (-20), 3) := by decide +kernel
theorem dX12_sneeze_58 : decode cX12_sneeze 58 = .ok (.iconst 0, 1) := by decide +kernel
theorem dX12_sneeze_59 : decode cX12_sneeze 59 = .ok (.istore 7, 2) := by decide +kernel
theorem dX12_sneeze_61 : decode cX12_sneeze 61 = .ok (.iload 7, 2) := by decide +kernel
theorem dX12_sneeze_63 : decode cX12_sneeze 63 = .ok (.iconst 1, 1) := by decide +kernel
theorem dX12_sneeze_64 : decode cX12_sneeze 64 = .ok (.aload_n 0, 1) := by decide +kernel
theorem dX12_sneeze_65 : decode cX12_sneeze 65 = .ok (.invokevirtual 72, 3) := by decide +kernel
theorem dX12_sneeze_68 : decode cX12_sneeze 68 = .ok (.ishl, 1) := by decide +kernel
theorem dX12_sneeze_69 : decode cX12_sneeze 69 = .ok (.if_icmp .ge 94, 3) := by decide +kernel
theorem dX12_sneeze_72 : decode cX12_sneeze 72 = .ok (.lconst 1, 1) := by decide +kernel
theorem dX12_sneeze_73 : decode cX12_sneeze 73 = .ok (.lstore 8, 2) := by decide +kernel
theorem dX12_sneeze_75 : decode cX12_sneeze 75 = .ok (.aload_n 0, 1) := by decide +kernel
theorem dX12_sneeze_76 : decode cX12_sneeze 76 = .ok (.invokevirtual 161, 3) := by decide +kernel
theorem dX12_sneeze_79 : decode cX12_sneeze 79 = .ok (.iconst 0, 1) := by decide +kernel
theorem dX12_sneeze_80 : decode cX12_sneeze 80 = .ok (.istore 10, 2) := by decide +kernel
theorem dX12_sneeze_82 : decode cX12_sneeze 82 = .ok (.iload 10, 2) := by decide +kernel
theorem dX12_sneeze_84 : decode cX12_sneeze 84 = .ok (.aload_n 0, 1) := by decide +kernel
theorem dX12_sneeze_85 : decode cX12_sneeze 85 = .ok (.invokevirtual 72, 3) := by decide +kernel
theorem dX12_sneeze_88 : decode cX12_sneeze 88 = .ok (.if_icmp .ge 52, 3) := by decide +kernel
theorem dX12_sneeze_91 : decode cX12_sneeze 91 = .ok (.lload 8, 2) := by decide +kernel
theorem dX12_sneeze_93 : decode cX12_sneeze 93 = .ok (.iload 7, 2) := by decide +kernel
theorem dX12_sneeze_95 : decode cX12_sneeze 95 = .ok (.iload 10, 2) := by decide +kernel
theorem dX12_sneeze_97 : decode cX12_sneeze 97 = .ok (.invokestatic 233, 3) := by decide +kernel
theorem dX12_sneeze_100 : decode cX12_sneeze 100 = .ok (.ifCond .eq 11, 3) := by decide +kernel
theorem dX12_sneeze_103 : decode cX12_sneeze 103 = .ok (.bipush 10, 2) := by decide +kernel
theorem dX12_sneeze_105 : decode cX12_sneeze 105 = .ok (.iload_n 2, 1) := by decide +kernel
theorem dX12_sneeze_106 : decode cX12_sneeze 106 = .ok (.isub, 1) := by decide +kernel
theorem dX12_sneeze_107 : decode cX12_sneeze 107 = .ok (.i2l, 1) := by decide +kernel
theorem dX12_sneeze_108 : decode cX12_sneeze 108 = .ok (.goto 5, 3) := by decide +kernel
theorem dX12_sneeze_111 : decode cX12_sneeze 111 = .ok (.iload_n 2, 1) := by decide +kernel
theorem dX12_sneeze_112 : decode cX12_sneeze 112 = .ok (.i2l, 1) := by decide +kernel
theorem dX12_sneeze_113 : decode cX12_sneeze 113 = .ok (.lmul, 1) := by decide +kernel
theorem dX12_sneeze_114 : decode cX12_sneeze 114 = .ok (.lstore 8, 2) := by decide +kernel
theorem dX12_sneeze_116 : decode cX12_sneeze 116 = .ok (.iload 7, 2) := by decide +kernel
theorem dX12_sneeze_118 : decode cX12_sneeze 118 = .ok (.iload 10, 2) := by decide +kernel
theorem dX12_sneeze_120 : decode cX12_sneeze 120 = .ok (.invokestatic 233, 3) := by decide +kernel
theorem dX12_sneeze_123 : decode cX12_sneeze 123 = .ok (.ifCond .eq 11, 3) := by decide +kernel
theorem dX12_sneeze_126 : decode cX12_sneeze 126 = .ok (.aload_n 0, 1) := by decide +kernel
theorem dX12_sneeze_127 : decode cX12_sneeze 127 = .ok (.iload 10, 2) := by decide +kernel
theorem dX12_sneeze_129 : decode cX12_sneeze 129 = .ok (.invokevirtual 164, 3) := by decide +kernel
theorem dX12_sneeze_132 : decode cX12_sneeze 132 = .ok (.istore 11, 2) := by decide +kernel
theorem dX12_sneeze_134 : decode cX12_sneeze 134 = .ok (.iinc 10 1, 3) := by decide +kernel
theorem dX12_sneeze_137 : decode cX12_sneeze 137 = .ok (.goto (-55), 3) := by decide +kernel
theorem dX12_sneeze_140 : decode cX12_sneeze 140 = .ok (.lload_n 3, 1) := by decide +kernel
theorem dX12_sneeze_141 : decode cX12_sneeze 141 = .ok (.aload_n 0, 1) := by decide +kernel
theorem dX12_sneeze_142 : decode cX12_sneeze 142 = .ok (.getfield 111, 3) := by decide +kernel
theorem dX12_sneeze_145 : decode cX12_sneeze 145 = .ok (.iload_n 1, 1) := by decide +kernel
theorem dX12_sneeze_146 : decode cX12_sneeze 146 = .ok (.if_icmp .ne 8, 3) := by decide +kernel
theorem dX12_sneeze_149 : decode cX12_sneeze 149 = .ok (.lload 8, 2) := by decide +kernel
theorem dX12_sneeze_151 : decode cX12_sneeze 151 = .ok (.goto 4, 3) := by decide +kernel
theorem dX12_sneeze_154 : decode cX12_sneeze 154 = .ok (.lconst 0, 1) := by decide +kernel
theorem dX12_sneeze_155 : decode cX12_sneeze 155 = .ok (.ladd, 1) := by decide +kernel
theorem dX12_sneeze_156 : decode cX12_sneeze 156 = .ok (.lstore_n 3, 1) := by decide +kernel
theorem dX12_sneeze_157 : decode cX12_sneeze 157 = .ok (.iinc 7 1, 3) := by decide +kernel
theorem dX12_sneeze_160 : decode cX12_sneeze 160 = .ok (.goto (-99), 3) := by decide +kernel
theorem dX12_sneeze_163 : decode cX12_sneeze 163 = .ok (.aload_n 0, 1) := by decide +kernel
theorem dX12_sneeze_164 : decode cX12_sneeze 164 = .ok (.lload_n 3, 1) := by decide +kernel
theorem dX12_sneeze_165 : decode cX12_sneeze 165 = .ok (.lload 5, 2) := by decide +kernel
theorem dX12_sneeze_167 : decode cX12_sneeze 167 = .ok (.invokevirtual 237, 3) := by decide +kernel
theorem dX12_sneeze_170 : decode cX12_sneeze 170 = .ok (.iconst 1, 1) := by decide +kernel
theorem dX12_sneeze_171 : decode cX12_sneeze 171 = .ok (.ireturn, 1) := by decide +kernel
theorem dX12_februaries_0 : decode cX12_februaries 0 = .ok (.iload_n 1, 1) := by decide +kernel
theorem dX12_februaries_1 : decode cX12_februaries 1 = .ok (.i2l, 1) := by decide +kernel
theorem dX12_februaries_2 : decode cX12_februaries 2 = .ok (.lconst 0, 1) := by decide +kernel
theorem dX12_februaries_3 : decode cX12_februaries 3 = .ok (.ldc2_w 241, 3) := by decide +kernel
theorem dX12_februaries_6 : decode cX12_februaries 6 = .ok (.invokestatic 68, 3) := by decide +kernel
theorem dX12_februaries_9 : decode cX12_februaries 9 = .ok (.ifCond .eq 15, 3) := by decide +kernel
theorem dX12_februaries_12 : decode cX12_februaries 12 = .ok (.iload_n 2, 1) := by decide +kernel
theorem dX12_februaries_13 : decode cX12_februaries 13 = .ok (.i2l, 1) := by decide +kernel
theorem dX12_februaries_14 : decode cX12_februaries 14 = .ok (.lconst 0, 1) := by decide +kernel
theorem dX12_februaries_15 : decode cX12_februaries 15 = .ok (.ldc2_w 75, 3) := by decide +kernel
theorem dX12_februaries_18 : decode cX12_februaries 18 = .ok (.invokestatic 68, 3) := by decide +kernel
theorem dX12_februaries_21 : decode cX12_februaries 21 = .ok (.ifCond .ne 10, 3) := by decide +kernel
theorem dX12_februaries_24 : decode cX12_februaries 24 = .ok (.aload_n 0, 1) := by decide +kernel
theorem dX12_februaries_25 : decode cX12_februaries 25 = .ok (.bipush (-2), 2) := by decide +kernel
theorem dX12_februaries_27 : decode cX12_februaries 27 = .ok (.invokevirtual 81, 3) := by decide +kernel
theorem dX12_februaries_30 : decode cX12_februaries 30 = .ok (.ireturn, 1) := by decide +kernel
theorem dX12_februaries_31 : decode cX12_februaries 31 = .ok (.aload_n 0, 1) := by decide +kernel
theorem dX12_februaries_32 : decode cX12_februaries 32 = .ok (.invokevirtual 72, 3) := by decide +kernel
theorem dX12_februaries_35 : decode cX12_februaries 35 = .ok (.ifCond .eq 10, 3) := by decide +kernel
theorem dX12_februaries_38 : decode cX12_februaries 38 = .ok (.aload_n 0, 1) := by decide +kernel
theorem dX12_februaries_39 : decode cX12_februaries 39 = .ok (.invokevirtual 64, 3) := by decide +kernel
theorem dX12_februaries_42 : decode cX12_februaries 42 = .ok (.ifCond .ne 8, 3) := by decide +kernel
theorem dX12_februaries_45 : decode cX12_februaries 45 = .ok (.aload_n 0, 1) := by decide +kernel
theorem dX12_februaries_46 : decode cX12_februaries 46 = .ok (.invokevirtual 173, 3) := by decide +kernel
theorem dX12_februaries_49 : decode cX12_februaries 49 = .ok (.ireturn, 1) := by decide +kernel
theorem dX12_februaries_50 : decode cX12_februaries 50 = .ok (.iload_n 1, 1) := by decide +kernel
theorem dX12_februaries_51 : decode cX12_februaries 51 = .ok (.i2l, 1) := by decide +kernel
theorem dX12_februaries_52 : decode cX12_februaries 52 = .ok (.lstore_n 3, 1) := by decide +kernel
theorem dX12_februaries_53 : decode cX12_februaries 53 = .ok (.aload_n 0, 1) := by decide +kernel
theorem dX12_februaries_54 : decode cX12_februaries 54 = .ok (.invokevirtual 161, 3) := by decide +kernel
theorem dX12_februaries_57 : decode cX12_februaries 57 = .ok (.iconst 0, 1) := by decide +kernel
theorem dX12_februaries_58 : decode cX12_februaries 58 = .ok (.istore 5, 2) := by decide +kernel
theorem dX12_februaries_60 : decode cX12_februaries 60 = .ok (.iload 5, 2) := by decide +kernel
theorem dX12_februaries_62 : decode cX12_februaries 62 = .ok (.iload_n 2, 1) := by decide +kernel
theorem dX12_februaries_63 : decode cX12_februaries 63 = .ok (.if_icmp .ge 41, 3) := by decide +kernel
theorem dX12_februaries_66 : decode cX12_februaries 66 = .ok (.lload_n 3, 1) := by decide +kernel
theorem dX12_februaries_67 : decode cX12_februaries 67 = .ok (.ldc2_w 243, 3) := by decide +kernel
theorem dX12_februaries_70 : decode cX12_februaries 70 = .ok (.lmul, 1) := by decide +kernel
theorem dX12_februaries_71 : decode cX12_februaries 71 = .ok (.ldc2_w 245, 3) := by decide +kernel
theorem dX12_februaries_74 : decode cX12_februaries 74 = .ok (.ladd, 1) := by decide +kernel
theorem dX12_februaries_75 : decode cX12_februaries 75 = .ok (.ldc2_w 247, 3) := by decide +kernel
theorem dX12_februaries_78 : decode cX12_februaries 78 = .ok (.lrem, 1) := by decide +kernel
theorem dX12_februaries_79 : decode cX12_februaries 79 = .ok (.lstore_n 3, 1) := by decide +kernel
theorem dX12_februaries_80 : decode cX12_februaries 80 = .ok (.aload_n 0, 1) := by decide +kernel
theorem dX12_februaries_81 : decode cX12_februaries 81 = .ok (.lload_n 3, 1) := by decide +kernel
theorem dX12_februaries_82 : decode cX12_februaries 82 = .ok (.ldc2_w 249, 3) := by decide +kernel
theorem dX12_februaries_85 : decode cX12_februaries 85 = .ok (.ldiv, 1) := by decide +kernel
theorem dX12_februaries_86 : decode cX12_februaries 86 = .ok (.aload_n 0, 1) := by decide +kernel
theorem dX12_februaries_87 : decode cX12_februaries 87 = .ok (.invokevirtual 72, 3) := by decide +kernel
theorem dX12_februaries_90 : decode cX12_februaries 90 = .ok (.i2l, 1) := by decide +kernel
theorem dX12_februaries_91 : decode cX12_februaries 91 = .ok (.lrem, 1) := by decide +kernel
theorem dX12_februaries_92 : decode cX12_februaries 92 = .ok (.l2i, 1) := by decide +kernel
theorem dX12_februaries_93 : decode cX12_februaries 93 = .ok (.invokevirtual 164, 3) := by decide +kernel
theorem dX12_februaries_96 : decode cX12_februaries 96 = .ok (.istore 6, 2) := by decide +kernel
theorem dX12_februaries_98 : decode cX12_februaries 98 = .ok (.iinc 5 1, 3) := by decide +kernel
theorem dX12_februaries_101 : decode cX12_februaries 101 = .ok (.goto (-41), 3) := by decide +kernel
theorem dX12_februaries_104 : decode cX12_februaries 104 = .ok (.iconst 0, 1) := by decide +kernel
theorem dX12_februaries_105 : decode cX12_februaries 105 = .ok (.istore 5, 2) := by decide +kernel
theorem dX12_februaries_107 : decode cX12_februaries 107 = .ok (.iconst 0, 1) := by decide +kernel
theorem dX12_februaries_108 : decode cX12_februaries 108 = .ok (.istore 6, 2) := by decide +kernel
theorem dX12_februaries_110 : decode cX12_februaries 110 = .ok (.iload 6, 2) := by decide +kernel
theorem dX12_februaries_112 : decode cX12_februaries 112 = .ok (.aload_n 0, 1) := by decide +kernel
theorem dX12_februaries_113 : decode cX12_februaries 113 = .ok (.invokevirtual 64, 3) := by decide +kernel
theorem dX12_februaries_116 : decode cX12_februaries 116 = .ok (.if_icmp .ge 20, 3) := by decide +kernel
theorem dX12_februaries_119 : decode cX12_februaries 119 = .ok (.iload 5, 2) := by decide +kernel
theorem dX12_februaries_121 : decode cX12_februaries 121 = .ok (.aload_n 0, 1) := by decide +kernel
theorem dX12_februaries_122 : decode cX12_februaries 122 = .ok (.iload 6, 2) := by decide +kernel
theorem dX12_februaries_124 : decode cX12_februaries 124 = .ok (.invokevirtual 117, 3) := by decide +kernel
theorem dX12_februaries_127 : decode cX12_februaries 127 = .ok (.iadd, 1) := by decide +kernel
theorem dX12_februaries_128 : decode cX12_februaries 128 = .ok (.istore 5, 2) := by decide +kernel
theorem dX12_februaries_130 : decode cX12_februaries 130 = .ok (.iinc 6 1, 3) := by decide +kernel
theorem dX12_februaries_133 : decode cX12_februaries 133 = .ok (.goto (-23), 3) := by decide +kernel
theorem dX12_februaries_136 : decode cX12_februaries 136 = .ok (.iload 5, 2) := by decide +kernel
theorem dX12_februaries_138 : decode cX12_februaries 138 = .ok (.ireturn, 1) := by decide +kernel
theorem dX12_type_0 : decode cX12_type 0 = .ok (.iload_n 1, 1) := by decide +kernel
theorem dX12_type_1 : decode cX12_type 1 = .ok (.i2l, 1) := by decide +kernel
theorem dX12_type_2 : decode cX12_type 2 = .ok (.lconst 0, 1) := by decide +kernel
theorem dX12_type_3 : decode cX12_type 3 = .ok (.ldc2_w 251, 3) := by decide +kernel
theorem dX12_type_6 : decode cX12_type 6 = .ok (.invokestatic 68, 3) := by decide +kernel
theorem dX12_type_9 : decode cX12_type 9 = .ok (.ifCond .ne 10, 3) := by decide +kernel
theorem dX12_type_12 : decode cX12_type 12 = .ok (.aload_n 0, 1) := by decide +kernel
theorem dX12_type_13 : decode cX12_type 13 = .ok (.bipush (-2), 2) := by decide +kernel
theorem dX12_type_15 : decode cX12_type 15 = .ok (.invokevirtual 81, 3) := by decide +kernel
theorem dX12_type_18 : decode cX12_type 18 = .ok (.ireturn, 1) := by decide +kernel
theorem dX12_type_19 : decode cX12_type 19 = .ok (.aload_n 0, 1) := by decide +kernel
theorem dX12_type_20 : decode cX12_type 20 = .ok (.getfield 253, 3) := by decide +kernel
theorem dX12_type_23 : decode cX12_type 23 = .ok (.sipush 150, 3) := by decide +kernel
theorem dX12_type_26 : decode cX12_type 26 = .ok (.if_icmp .ne 8, 3) := by decide +kernel
theorem dX12_type_29 : decode cX12_type 29 = .ok (.aload_n 0, 1) := by decide +kernel
theorem dX12_type_30 : decode cX12_type 30 = .ok (.invokevirtual 85, 3) := by decide +kernel
theorem dX12_type_33 : decode cX12_type 33 = .ok (.ireturn, 1) := by decide +kernel
theorem dX12_type_34 : decode cX12_type 34 = .ok (.aload_n 0, 1) := by decide +kernel
theorem dX12_type_35 : decode cX12_type 35 = .ok (.getfield 51, 3) := by decide +kernel
theorem dX12_type_38 : decode cX12_type 38 = .ok (.aload_n 0, 1) := by decide +kernel
theorem dX12_type_39 : decode cX12_type 39 = .ok (.getfield 253, 3) := by decide +kernel
theorem dX12_type_42 : decode cX12_type 42 = .ok (.iload_n 1, 1) := by decide +kernel
theorem dX12_type_43 : decode cX12_type 43 = .ok (.iastore, 1) := by decide +kernel
theorem dX12_type_44 : decode cX12_type 44 = .ok (.aload_n 0, 1) := by decide +kernel
theorem dX12_type_45 : decode cX12_type 45 = .ok (.dup, 1) := by decide +kernel
theorem dX12_type_46 : decode cX12_type 46 = .ok (.getfield 253, 3) := by decide +kernel
theorem dX12_type_49 : decode cX12_type 49 = .ok (.iconst 1, 1) := by decide +kernel
theorem dX12_type_50 : decode cX12_type 50 = .ok (.iadd, 1) := by decide +kernel
theorem dX12_type_51 : decode cX12_type 51 = .ok (.putfield 253, 3) := by decide +kernel
theorem dX12_type_54 : decode cX12_type 54 = .ok (.aload_n 0, 1) := by decide +kernel
theorem dX12_type_55 : decode cX12_type 55 = .ok (.getfield 253, 3) := by decide +kernel
theorem dX12_type_58 : decode cX12_type 58 = .ok (.ireturn, 1) := by decide +kernel
theorem dX12_clear_0 : decode cX12_clear 0 = .ok (.aload_n 0, 1) := by decide +kernel
theorem dX12_clear_1 : decode cX12_clear 1 = .ok (.getfield 253, 3) := by decide +kernel
theorem dX12_clear_4 : decode cX12_clear 4 = .ok (.istore_n 1, 1) := by decide +kernel
theorem dX12_clear_5 : decode cX12_clear 5 = .ok (.aload_n 0, 1) := by decide +kernel
theorem dX12_clear_6 : decode cX12_clear 6 = .ok (.iconst 0, 1) := by decide +kernel
theorem dX12_clear_7 : decode cX12_clear 7 = .ok (.putfield 253, 3) := by decide +kernel
theorem dX12_clear_10 : decode cX12_clear 10 = .ok (.iload_n 1, 1) := by decide +kernel
theorem dX12_clear_11 : decode cX12_clear 11 = .ok (.ireturn, 1) := by decide +kernel
theorem dX12_isSmall_0 : decode cX12_isSmall 0 = .ok (.iload_n 0, 1) := by decide +kernel
theorem dX12_isSmall_1 : decode cX12_isSmall 1 = .ok (.i2l, 1) := by decide +kernel
theorem dX12_isSmall_2 : decode cX12_isSmall 2 = .ok (.ldc2_w 256, 3) := by decide +kernel
theorem dX12_isSmall_5 : decode cX12_isSmall 5 = .ok (.ldc2_w 258, 3) := by decide +kernel
theorem dX12_isSmall_8 : decode cX12_isSmall 8 = .ok (.invokestatic 68, 3) := by decide +kernel
theorem dX12_isSmall_11 : decode cX12_isSmall 11 = .ok (.ireturn, 1) := by decide +kernel
theorem dX12_isFigure_0 : decode cX12_isFigure 0 = .ok (.iload_n 0, 1) := by decide +kernel
theorem dX12_isFigure_1 : decode cX12_isFigure 1 = .ok (.i2l, 1) := by decide +kernel
theorem dX12_isFigure_2 : decode cX12_isFigure 2 = .ok (.ldc2_w 260, 3) := by decide +kernel
theorem dX12_isFigure_5 : decode cX12_isFigure 5 = .ok (.ldc2_w 262, 3) := by decide +kernel
theorem dX12_isFigure_8 : decode cX12_isFigure 8 = .ok (.invokestatic 68, 3) := by decide +kernel
theorem dX12_isFigure_11 : decode cX12_isFigure 11 = .ok (.ireturn, 1) := by decide +kernel
theorem dX12_lookAt_0 : decode cX12_lookAt 0 = .ok (.aload_n 0, 1) := by decide +kernel
theorem dX12_lookAt_1 : decode cX12_lookAt 1 = .ok (.iload_n 1, 1) := by decide +kernel
theorem dX12_lookAt_2 : decode cX12_lookAt 2 = .ok (.putfield 264, 3) := by decide +kernel
theorem dX12_lookAt_5 : decode cX12_lookAt 5 = .ok (.aload_n 0, 1) := by decide +kernel
theorem dX12_lookAt_6 : decode cX12_lookAt 6 = .ok (.getfield 264, 3) := by decide +kernel
theorem dX12_lookAt_9 : decode cX12_lookAt 9 = .ok (.aload_n 0, 1) := by decide +kernel
theorem dX12_lookAt_10 : decode cX12_lookAt 10 = .ok (.getfield 253, 3) := by decide +kernel
theorem dX12_lookAt_13 : decode cX12_lookAt 13 = .ok (.if_icmp .ge 30, 3) := by decide +kernel
theorem dX12_lookAt_16 : decode cX12_lookAt 16 = .ok (.aload_n 0, 1) := by decide +kernel
theorem dX12_lookAt_17 : decode cX12_lookAt 17 = .ok (.getfield 51, 3) := by decide +kernel
theorem dX12_lookAt_20 : decode cX12_lookAt 20 = .ok (.aload_n 0, 1) := by decide +kernel
theorem dX12_lookAt_21 : decode cX12_lookAt 21 = .ok (.getfield 264, 3) := by decide +kernel
theorem dX12_lookAt_24 : decode cX12_lookAt 24 = .ok (.iaload, 1) := by decide +kernel
theorem dX12_lookAt_25 : decode cX12_lookAt 25 = .ok (.bipush 32, 2) := by decide +kernel
theorem dX12_lookAt_27 : decode cX12_lookAt 27 = .ok (.if_icmp .ne 16, 3) := by decide +kernel
theorem dX12_lookAt_30 : decode cX12_lookAt 30 = .ok (.aload_n 0, 1) := by decide +kernel
theorem dX12_lookAt_31 : decode cX12_lookAt 31 = .ok (.dup, 1) := by decide +kernel
theorem dX12_lookAt_32 : decode cX12_lookAt 32 = .ok (.getfield 264, 3) := by decide +kernel
theorem dX12_lookAt_35 : decode cX12_lookAt 35 = .ok (.iconst 1, 1) := by decide +kernel
theorem dX12_lookAt_36 : decode cX12_lookAt 36 = .ok (.iadd, 1) := by decide +kernel
theorem dX12_lookAt_37 : decode cX12_lookAt 37 = .ok (.putfield 264, 3) := by decide +kernel
theorem dX12_lookAt_40 : decode cX12_lookAt 40 = .ok (.goto (-35), 3) := by decide +kernel
theorem dX12_lookAt_43 : decode cX12_lookAt 43 = .ok (.aload_n 0, 1) := by decide +kernel
theorem dX12_lookAt_44 : decode cX12_lookAt 44 = .ok (.iconst 0, 1) := by decide +kernel
theorem dX12_lookAt_45 : decode cX12_lookAt 45 = .ok (.putfield 267, 3) := by decide +kernel
theorem dX12_lookAt_48 : decode cX12_lookAt 48 = .ok (.aload_n 0, 1) := by decide +kernel
theorem dX12_lookAt_49 : decode cX12_lookAt 49 = .ok (.iconst 0, 1) := by decide +kernel
theorem dX12_lookAt_50 : decode cX12_lookAt 50 = .ok (.putfield 270, 3) := by decide +kernel
theorem dX12_lookAt_53 : decode cX12_lookAt 53 = .ok (.aload_n 0, 1) := by decide +kernel
theorem dX12_lookAt_54 : decode cX12_lookAt 54 = .ok (.iconst 0, 1) := by decide +kernel
theorem dX12_lookAt_55 : decode cX12_lookAt 55 = .ok (.putfield 273, 3) := by decide +kernel
theorem dX12_lookAt_58 : decode cX12_lookAt 58 = .ok (.aload_n 0, 1) := by decide +kernel
theorem dX12_lookAt_59 : decode cX12_lookAt 59 = .ok (.getfield 264, 3) := by decide +kernel
theorem dX12_lookAt_62 : decode cX12_lookAt 62 = .ok (.aload_n 0, 1) := by decide +kernel
theorem dX12_lookAt_63 : decode cX12_lookAt 63 = .ok (.getfield 253, 3) := by decide +kernel
theorem dX12_lookAt_66 : decode cX12_lookAt 66 = .ok (.if_icmp .ne 4, 3) := by decide +kernel
theorem dX12_lookAt_69 : decode cX12_lookAt 69 = .ok (.return_, 1) := by decide +kernel
theorem dX12_lookAt_70 : decode cX12_lookAt 70 = .ok (.aload_n 0, 1) := by decide +kernel
theorem dX12_lookAt_71 : decode cX12_lookAt 71 = .ok (.getfield 51, 3) := by decide +kernel
theorem dX12_lookAt_74 : decode cX12_lookAt 74 = .ok (.aload_n 0, 1) := by decide +kernel
theorem dX12_lookAt_75 : decode cX12_lookAt 75 = .ok (.getfield 264, 3) := by decide +kernel
theorem dX12_lookAt_78 : decode cX12_lookAt 78 = .ok (.iaload, 1) := by decide +kernel
theorem dX12_lookAt_79 : decode cX12_lookAt 79 = .ok (.istore_n 2, 1) := by decide +kernel
theorem dX12_lookAt_80 : decode cX12_lookAt 80 = .ok (.aload_n 0, 1) := by decide +kernel
theorem dX12_lookAt_81 : decode cX12_lookAt 81 = .ok (.iload_n 2, 1) := by decide +kernel
theorem dX12_lookAt_82 : decode cX12_lookAt 82 = .ok (.invokestatic 276, 3) := by decide +kernel
theorem dX12_lookAt_85 : decode cX12_lookAt 85 = .ok (.ifCond .eq 7, 3) := by decide +kernel
theorem dX12_lookAt_88 : decode cX12_lookAt 88 = .ok (.iconst 1, 1) := by decide +kernel
theorem dX12_lookAt_89 : decode cX12_lookAt 89 = .ok (.goto 25, 3) := by decide +kernel
theorem dX12_lookAt_92 : decode cX12_lookAt 92 = .ok (.iload_n 2, 1) := by decide +kernel
theorem dX12_lookAt_93 : decode cX12_lookAt 93 = .ok (.invokestatic 279, 3) := by decide +kernel
theorem dX12_lookAt_96 : decode cX12_lookAt 96 = .ok (.ifCond .eq 7, 3) := by decide +kernel
theorem dX12_lookAt_99 : decode cX12_lookAt 99 = .ok (.iconst 2, 1) := by decide +kernel
theorem dX12_lookAt_100 : decode cX12_lookAt 100 = .ok (.goto 14, 3) := by decide +kernel
theorem dX12_lookAt_103 : decode cX12_lookAt 103 = .ok (.iload_n 2, 1) := by decide +kernel
theorem dX12_lookAt_104 : decode cX12_lookAt 104 = .ok (.bipush 59, 2) := by decide +kernel
theorem dX12_lookAt_106 : decode cX12_lookAt 106 = .ok (.if_icmp .ne 7, 3) := by decide +kernel
theorem dX12_lookAt_109 : decode cX12_lookAt 109 = .ok (.iconst 3, 1) := by decide +kernel
theorem dX12_lookAt_110 : decode cX12_lookAt 110 = .ok (.goto 4, 3) := by decide +kernel
theorem dX12_lookAt_113 : decode cX12_lookAt 113 = .ok (.iconst 4, 1) := by decide +kernel
theorem dX12_lookAt_114 : decode cX12_lookAt 114 = .ok (.putfield 270, 3) := by decide +kernel
theorem dX12_lookAt_117 : decode cX12_lookAt 117 = .ok (.aload_n 0, 1) := by decide +kernel
theorem dX12_lookAt_118 : decode cX12_lookAt 118 = .ok (.iconst 1, 1) := by decide +kernel
theorem dX12_lookAt_119 : decode cX12_lookAt 119 = .ok (.putfield 267, 3) := by decide +kernel
theorem dX12_lookAt_122 : decode cX12_lookAt 122 = .ok (.aload_n 0, 1) := by decide +kernel
theorem dX12_lookAt_123 : decode cX12_lookAt 123 = .ok (.getfield 270, 3) := by decide +kernel
theorem dX12_lookAt_126 : decode cX12_lookAt 126 = .ok (.iconst 3, 1) := by decide +kernel
theorem dX12_lookAt_127 : decode cX12_lookAt 127 = .ok (.if_icmp .ge 7, 3) := by decide +kernel
theorem dX12_lookAt_130 : decode cX12_lookAt 130 = .ok (.iconst 1, 1) := by decide +kernel
theorem dX12_lookAt_131 : decode cX12_lookAt 131 = .ok (.goto 4, 3) := by decide +kernel
theorem dX12_lookAt_134 : decode cX12_lookAt 134 = .ok (.iconst 0, 1) := by decide +kernel
theorem dX12_lookAt_135 : decode cX12_lookAt 135 = .ok (.istore_n 3, 1) := by decide +kernel
theorem dX12_lookAt_136 : decode cX12_lookAt 136 = .ok (.iload_n 3, 1) := by decide +kernel
theorem dX12_lookAt_137 : decode cX12_lookAt 137 = .ok (.ifCond .eq 78, 3) := by decide +kernel
theorem dX12_lookAt_140 : decode cX12_lookAt 140 = .ok (.aload_n 0, 1) := by decide +kernel
theorem dX12_lookAt_141 : decode cX12_lookAt 141 = .ok (.getfield 264, 3) := by decide +kernel
theorem dX12_lookAt_144 : decode cX12_lookAt 144 = .ok (.aload_n 0, 1) := by decide +kernel
theorem dX12_lookAt_145 : decode cX12_lookAt 145 = .ok (.getfield 267, 3) := by decide +kernel
theorem dX12_lookAt_148 : decode cX12_lookAt 148 = .ok (.iadd, 1) := by decide +kernel
theorem dX12_lookAt_149 : decode cX12_lookAt 149 = .ok (.aload_n 0, 1) := by decide +kernel
theorem dX12_lookAt_150 : decode cX12_lookAt 150 = .ok (.getfield 253, 3) := by decide +kernel
theorem dX12_lookAt_153 : decode cX12_lookAt 153 = .ok (.if_icmp .ge 62, 3) := by decide +kernel
theorem dX12_lookAt_156 : decode cX12_lookAt 156 = .ok (.aload_n 0, 1) := by decide +kernel
theorem dX12_lookAt_157 : decode cX12_lookAt 157 = .ok (.getfield 51, 3) := by decide +kernel
theorem dX12_lookAt_160 : decode cX12_lookAt 160 = .ok (.aload_n 0, 1) := by decide +kernel
theorem dX12_lookAt_161 : decode cX12_lookAt 161 = .ok (.getfield 264, 3) := by decide +kernel
theorem dX12_lookAt_164 : decode cX12_lookAt 164 = .ok (.aload_n 0, 1) := by decide +kernel
theorem dX12_lookAt_165 : decode cX12_lookAt 165 = .ok (.getfield 267, 3) := by decide +kernel
theorem dX12_lookAt_168 : decode cX12_lookAt 168 = .ok (.iadd, 1) := by decide +kernel
theorem dX12_lookAt_169 : decode cX12_lookAt 169 = .ok (.iaload, 1) := by decide +kernel
theorem dX12_lookAt_170 : decode cX12_lookAt 170 = .ok (.istore 4, 2) := by decide +kernel
theorem dX12_lookAt_172 : decode cX12_lookAt 172 = .ok (.aload_n 0, 1) := by decide +kernel
theorem dX12_lookAt_173 : decode cX12_lookAt 173 = .ok (.getfield 270, 3) := by decide +kernel
theorem dX12_lookAt_176 : decode cX12_lookAt 176 = .ok (.iconst 1, 1) := by decide +kernel
theorem dX12_lookAt_177 : decode cX12_lookAt 177 = .ok (.if_icmp .ne 11, 3) := by decide +kernel
theorem dX12_lookAt_180 : decode cX12_lookAt 180 = .ok (.iload 4, 2) := by decide +kernel
theorem dX12_lookAt_182 : decode cX12_lookAt 182 = .ok (.invokestatic 276, 3) := by decide +kernel
theorem dX12_lookAt_185 : decode cX12_lookAt 185 = .ok (.goto 8, 3) := by decide +kernel
theorem dX12_lookAt_188 : decode cX12_lookAt 188 = .ok (.iload 4, 2) := by decide +kernel
theorem dX12_lookAt_190 : decode cX12_lookAt 190 = .ok (.invokestatic 279, 3) := by decide +kernel
theorem dX12_lookAt_193 : decode cX12_lookAt 193 = .ok (.istore_n 3, 1) := by decide +kernel
theorem dX12_lookAt_194 : decode cX12_lookAt 194 = .ok (.aload_n 0, 1) := by decide +kernel
theorem dX12_lookAt_195 : decode cX12_lookAt 195 = .ok (.dup, 1) := by decide +kernel
theorem dX12_lookAt_196 : decode cX12_lookAt 196 = .ok (.getfield 267, 3) := by decide +kernel
theorem dX12_lookAt_199 : decode cX12_lookAt 199 = .ok (.iload_n 3, 1) := by decide +kernel
theorem dX12_lookAt_200 : decode cX12_lookAt 200 = .ok (.ifCond .eq 7, 3) := by decide +kernel
theorem dX12_lookAt_203 : decode cX12_lookAt 203 = .ok (.iconst 1, 1) := by decide +kernel
theorem dX12_lookAt_204 : decode cX12_lookAt 204 = .ok (.goto 4, 3) := by decide +kernel
theorem dX12_lookAt_207 : decode cX12_lookAt 207 = .ok (.iconst 0, 1) := by decide +kernel
theorem dX12_lookAt_208 : decode cX12_lookAt 208 = .ok (.iadd, 1) := by decide +kernel
theorem dX12_lookAt_209 : decode cX12_lookAt 209 = .ok (.putfield 267, 3) := by decide +kernel
theorem dX12_lookAt_212 : decode cX12_lookAt 212 = .ok (.goto (-76), 3) := by decide +kernel
theorem dX12_lookAt_215 : decode cX12_lookAt 215 = .ok (.iconst 0, 1) := by decide +kernel
theorem dX12_lookAt_216 : decode cX12_lookAt 216 = .ok (.istore 4, 2) := by decide +kernel
theorem dX12_lookAt_218 : decode cX12_lookAt 218 = .ok (.iload 4, 2) := by decide +kernel
theorem dX12_lookAt_220 : decode cX12_lookAt 220 = .ok (.aload_n 0, 1) := by decide +kernel
theorem dX12_lookAt_221 : decode cX12_lookAt 221 = .ok (.getfield 267, 3) := by decide +kernel
theorem dX12_lookAt_224 : decode cX12_lookAt 224 = .ok (.if_icmp .ge 50, 3) := by decide +kernel
theorem dX12_lookAt_227 : decode cX12_lookAt 227 = .ok (.iload 4, 2) := by decide +kernel
theorem dX12_lookAt_229 : decode cX12_lookAt 229 = .ok (.iconst 2, 1) := by decide +kernel
theorem dX12_lookAt_230 : decode cX12_lookAt 230 = .ok (.if_icmp .ge 44, 3) := by decide +kernel
theorem dX12_lookAt_233 : decode cX12_lookAt 233 = .ok (.aload_n 0, 1) := by decide +kernel
theorem dX12_lookAt_234 : decode cX12_lookAt 234 = .ok (.getfield 270, 3) := by decide +kernel
theorem dX12_lookAt_237 : decode cX12_lookAt 237 = .ok (.iconst 2, 1) := by decide +kernel
theorem dX12_lookAt_238 : decode cX12_lookAt 238 = .ok (.if_icmp .ne 36, 3) := by decide +kernel
theorem dX12_lookAt_241 : decode cX12_lookAt 241 = .ok (.aload_n 0, 1) := by decide +kernel
theorem dX12_lookAt_242 : decode cX12_lookAt 242 = .ok (.bipush 10, 2) := by decide +kernel
theorem dX12_lookAt_244 : decode cX12_lookAt 244 = .ok (.aload_n 0, 1) := by decide +kernel
theorem dX12_lookAt_245 : decode cX12_lookAt 245 = .ok (.getfield 273, 3) := by decide +kernel
theorem dX12_lookAt_248 : decode cX12_lookAt 248 = .ok (.imul, 1) := by decide +kernel
theorem dX12_lookAt_249 : decode cX12_lookAt 249 = .ok (.aload_n 0, 1) := by decide +kernel
theorem dX12_lookAt_250 : decode cX12_lookAt 250 = .ok (.getfield 51, 3) := by decide +kernel
theorem dX12_lookAt_253 : decode cX12_lookAt 253 = .ok (.aload_n 0, 1) := by decide +kernel
theorem dX12_lookAt_254 : decode cX12_lookAt 254 = .ok (.getfield 264, 3) := by decide +kernel
theorem dX12_lookAt_257 : decode cX12_lookAt 257 = .ok (.iload 4, 2) := by decide +kernel
theorem dX12_lookAt_259 : decode cX12_lookAt 259 = .ok (.iadd, 1) := by decide +kernel
theorem dX12_lookAt_260 : decode cX12_lookAt 260 = .ok (.iaload, 1) := by decide +kernel
theorem dX12_lookAt_261 : decode cX12_lookAt 261 = .ok (.iadd, 1) := by decide +kernel
theorem dX12_lookAt_262 : decode cX12_lookAt 262 = .ok (.bipush 48, 2) := by decide +kernel
theorem dX12_lookAt_264 : decode cX12_lookAt 264 = .ok (.isub, 1) := by decide +kernel
theorem dX12_lookAt_265 : decode cX12_lookAt 265 = .ok (.putfield 273, 3) := by decide +kernel
theorem dX12_lookAt_268 : decode cX12_lookAt 268 = .ok (.iinc 4 1, 3) := by decide +kernel
theorem dX12_lookAt_271 : decode cX12_lookAt 271 = .ok (.goto (-53), 3) := by decide +kernel
theorem dX12_lookAt_274 : decode cX12_lookAt 274 = .ok (.aload_n 0, 1) := by decide +kernel
theorem dX12_lookAt_275 : decode cX12_lookAt 275 = .ok (.aload_n 0, 1) := by decide +kernel
theorem dX12_lookAt_276 : decode cX12_lookAt 276 = .ok (.getfield 270, 3) := by decide +kernel
theorem dX12_lookAt_279 : decode cX12_lookAt 279 = .ok (.iconst 2, 1) := by decide +kernel
theorem dX12_lookAt_280 : decode cX12_lookAt 280 = .ok (.if_icmp .ne 15, 3) := by decide +kernel
theorem dX12_lookAt_283 : decode cX12_lookAt 283 = .ok (.aload_n 0, 1) := by decide +kernel
theorem dX12_lookAt_284 : decode cX12_lookAt 284 = .ok (.getfield 267, 3) := by decide +kernel
theorem dX12_lookAt_287 : decode cX12_lookAt 287 = .ok (.iconst 2, 1) := by decide +kernel
theorem dX12_lookAt_288 : decode cX12_lookAt 288 = .ok (.if_icmp .le 7, 3) := by decide +kernel
theorem dX12_lookAt_291 : decode cX12_lookAt 291 = .ok (.iconst 4, 1) := by decide +kernel
theorem dX12_lookAt_292 : decode cX12_lookAt 292 = .ok (.goto 7, 3) := by decide +kernel
theorem dX12_lookAt_295 : decode cX12_lookAt 295 = .ok (.aload_n 0, 1) := by decide +kernel
theorem dX12_lookAt_296 : decode cX12_lookAt 296 = .ok (.getfield 270, 3) := by decide +kernel
theorem dX12_lookAt_299 : decode cX12_lookAt 299 = .ok (.putfield 270, 3) := by decide +kernel
theorem dX12_lookAt_302 : decode cX12_lookAt 302 = .ok (.return_, 1) := by decide +kernel
theorem dX12_goBehind_0 : decode cX12_goBehind 0 = .ok (.aload_n 0, 1) := by decide +kernel
theorem dX12_goBehind_1 : decode cX12_goBehind 1 = .ok (.aload_n 0, 1) := by decide +kernel
theorem dX12_goBehind_2 : decode cX12_goBehind 2 = .ok (.getfield 264, 3) := by decide +kernel
theorem dX12_goBehind_5 : decode cX12_goBehind 5 = .ok (.aload_n 0, 1) := by decide +kernel
theorem dX12_goBehind_6 : decode cX12_goBehind 6 = .ok (.getfield 267, 3) := by decide +kernel
theorem dX12_goBehind_9 : decode cX12_goBehind 9 = .ok (.iadd, 1) := by decide +kernel
theorem dX12_goBehind_10 : decode cX12_goBehind 10 = .ok (.invokevirtual 282, 3) := by decide +kernel
theorem dX12_goBehind_13 : decode cX12_goBehind 13 = .ok (.return_, 1) := by decide +kernel
theorem dX12_isWord_0 : decode cX12_isWord 0 = .ok (.aload_n 0, 1) := by decide +kernel
theorem dX12_isWord_1 : decode cX12_isWord 1 = .ok (.getfield 270, 3) := by decide +kernel
theorem dX12_isWord_4 : decode cX12_isWord 4 = .ok (.iconst 1, 1) := by decide +kernel
theorem dX12_isWord_5 : decode cX12_isWord 5 = .ok (.if_icmp .ne 15, 3) := by decide +kernel
theorem dX12_isWord_8 : decode cX12_isWord 8 = .ok (.aload_n 0, 1) := by decide +kernel
theorem dX12_isWord_9 : decode cX12_isWord 9 = .ok (.getfield 267, 3) := by decide +kernel
theorem dX12_isWord_12 : decode cX12_isWord 12 = .ok (.iload_n 1, 1) := by decide +kernel
theorem dX12_isWord_13 : decode cX12_isWord 13 = .ok (.if_icmp .ne 7, 3) := by decide +kernel
theorem dX12_isWord_16 : decode cX12_isWord 16 = .ok (.iconst 1, 1) := by decide +kernel
theorem dX12_isWord_17 : decode cX12_isWord 17 = .ok (.goto 4, 3) := by decide +kernel
theorem dX12_isWord_20 : decode cX12_isWord 20 = .ok (.iconst 0, 1) := by decide +kernel
theorem dX12_isWord_21 : decode cX12_isWord 21 = .ok (.istore 9, 2) := by decide +kernel
theorem dX12_isWord_23 : decode cX12_isWord 23 = .ok (.iconst 0, 1) := by decide +kernel
theorem dX12_isWord_24 : decode cX12_isWord 24 = .ok (.istore 10, 2) := by decide +kernel
theorem dX12_isWord_26 : decode cX12_isWord 26 = .ok (.iload 10, 2) := by decide +kernel
theorem dX12_isWord_28 : decode cX12_isWord 28 = .ok (.iload_n 1, 1) := by decide +kernel
theorem dX12_isWord_29 : decode cX12_isWord 29 = .ok (.if_icmp .ge 125, 3) := by decide +kernel
theorem dX12_isWord_32 : decode cX12_isWord 32 = .ok (.iload 9, 2) := by decide +kernel
theorem dX12_isWord_34 : decode cX12_isWord 34 = .ok (.ifCond .eq 120, 3) := by decide +kernel
theorem dX12_isWord_37 : decode cX12_isWord 37 = .ok (.iload 10, 2) := by decide +kernel
theorem dX12_isWord_39 : decode cX12_isWord 39 = .ok (.ifCond .ne 7, 3) := by decide +kernel
theorem dX12_isWord_42 : decode cX12_isWord 42 = .ok (.iload_n 2, 1) := by decide +kernel
theorem dX12_isWord_43 : decode cX12_isWord 43 = .ok (.goto 79, 3) := by decide +kernel
theorem dX12_isWord_46 : decode cX12_isWord 46 = .ok (.iload 10, 2) := by decide +kernel
theorem dX12_isWord_48 : decode cX12_isWord 48 = .ok (.iconst 1, 1) := by decide +kernel
theorem dX12_isWord_49 : decode cX12_isWord 49 = .ok (.if_icmp .ne 7, 3) := by decide +kernel
theorem dX12_isWord_52 : decode cX12_isWord 52 = .ok (.iload_n 3, 1) := by decide +kernel
theorem dX12_isWord_53 : decode cX12_isWord 53 = .ok (.goto 69, 3) := by decide +kernel
theorem dX12_isWord_56 : decode cX12_isWord 56 = .ok (.iload 10, 2) := by decide +kernel
theorem dX12_isWord_58 : decode cX12_isWord 58 = .ok (.iconst 2, 1) := by decide +kernel
theorem dX12_isWord_59 : decode cX12_isWord 59 = .ok (.if_icmp .ne 8, 3) := by decide +kernel
theorem dX12_isWord_62 : decode cX12_isWord 62 = .ok (.iload 4, 2) := by decide +kernel
theorem dX12_isWord_64 : decode cX12_isWord 64 = .ok (.goto 58, 3) := by decide +kernel
theorem dX12_isWord_67 : decode cX12_isWord 67 = .ok (.iload 10, 2) := by decide +kernel
theorem dX12_isWord_69 : decode cX12_isWord 69 = .ok (.iconst 3, 1) := by decide +kernel
theorem dX12_isWord_70 : decode cX12_isWord 70 = .ok (.if_icmp .ne 8, 3) := by decide +kernel
theorem dX12_isWord_73 : decode cX12_isWord 73 = .ok (.iload 5, 2) := by decide +kernel
theorem dX12_isWord_75 : decode cX12_isWord 75 = .ok (.goto 47, 3) := by decide +kernel
theorem dX12_isWord_78 : decode cX12_isWord 78 = .ok (.iload 10, 2) := by decide +kernel
theorem dX12_isWord_80 : decode cX12_isWord 80 = .ok (.iconst 4, 1) := by decide +kernel
theorem dX12_isWord_81 : decode cX12_isWord 81 = .ok (.if_icmp .ne 8, 3) := by decide +kernel
theorem dX12_isWord_84 : decode cX12_isWord 84 = .ok (.iload 6, 2) := by decide +kernel
theorem dX12_isWord_86 : decode cX12_isWord 86 = .ok (.goto 36, 3) := by decide +kernel
theorem dX12_isWord_89 : decode cX12_isWord 89 = .ok (.iload 10, 2) := by decide +kernel
theorem dX12_isWord_91 : decode cX12_isWord 91 = .ok (.iconst 5, 1) := by decide +kernel
theorem dX12_isWord_92 : decode cX12_isWord 92 = .ok (.if_icmp .ne 8, 3) := by decide +kernel
theorem dX12_isWord_95 : decode cX12_isWord 95 = .ok (.iload 7, 2) := by decide +kernel
theorem dX12_isWord_97 : decode cX12_isWord 97 = .ok (.goto 25, 3) := by decide +kernel
theorem dX12_isWord_100 : decode cX12_isWord 100 = .ok (.iload 10, 2) := by decide +kernel
theorem dX12_isWord_102 : decode cX12_isWord 102 = .ok (.bipush 6, 2) := by decide +kernel
theorem dX12_isWord_104 : decode cX12_isWord 104 = .ok (.if_icmp .ne 12, 3) := by decide +kernel
theorem dX12_isWord_107 : decode cX12_isWord 107 = .ok (.iload 8, 2) := by decide +kernel
theorem dX12_isWord_109 : decode cX12_isWord 109 = .ok (.sipush 128, 3) := by decide +kernel
theorem dX12_isWord_112 : decode cX12_isWord 112 = .ok (.idiv, 1) := by decide +kernel
theorem dX12_isWord_113 : decode cX12_isWord 113 = .ok (.goto 9, 3) := by decide +kernel
theorem dX12_isWord_116 : decode cX12_isWord 116 = .ok (.iload 8, 2) := by decide +kernel
theorem dX12_isWord_118 : decode cX12_isWord 118 = .ok (.sipush 128, 3) := by decide +kernel
theorem dX12_isWord_121 : decode cX12_isWord 121 = .ok (.irem, 1) := by decide +kernel
theorem dX12_isWord_122 : decode cX12_isWord 122 = .ok (.istore 11, 2) := by decide +kernel
theorem dX12_isWord_124 : decode cX12_isWord 124 = .ok (.aload_n 0, 1) := by decide +kernel
theorem dX12_isWord_125 : decode cX12_isWord 125 = .ok (.getfield 51, 3) := by decide +kernel
theorem dX12_isWord_128 : decode cX12_isWord 128 = .ok (.aload_n 0, 1) := by decide +kernel
theorem dX12_isWord_129 : decode cX12_isWord 129 = .ok (.getfield 264, 3) := by decide +kernel
theorem dX12_isWord_132 : decode cX12_isWord 132 = .ok (.iload 10, 2) := by decide +kernel
theorem dX12_isWord_134 : decode cX12_isWord 134 = .ok (.iadd, 1) := by decide +kernel
theorem dX12_isWord_135 : decode cX12_isWord 135 = .ok (.iaload, 1) := by decide +kernel
theorem dX12_isWord_136 : decode cX12_isWord 136 = .ok (.iload 11, 2) := by decide +kernel
theorem dX12_isWord_138 : decode cX12_isWord 138 = .ok (.if_icmp .ne 7, 3) := by decide +kernel
theorem dX12_isWord_141 : decode cX12_isWord 141 = .ok (.iconst 1, 1) := by decide +kernel
theorem dX12_isWord_142 : decode cX12_isWord 142 = .ok (.goto 4, 3) := by decide +kernel
theorem dX12_isWord_145 : decode cX12_isWord 145 = .ok (.iconst 0, 1) := by decide +kernel
theorem dX12_isWord_146 : decode cX12_isWord 146 = .ok (.istore 9, 2) := by decide +kernel
theorem dX12_isWord_148 : decode cX12_isWord 148 = .ok (.iinc 10 1, 3) := by decide +kernel
theorem dX12_isWord_151 : decode cX12_isWord 151 = .ok (.goto (-125), 3) := by decide +kernel
theorem dX12_isWord_154 : decode cX12_isWord 154 = .ok (.iload 9, 2) := by decide +kernel
theorem dX12_isWord_156 : decode cX12_isWord 156 = .ok (.ireturn, 1) := by decide +kernel
theorem dX12_takes_0 : decode cX12_takes 0 = .ok (.aload_n 0, 1) := by decide +kernel
theorem dX12_takes_1 : decode cX12_takes 1 = .ok (.getfield 270, 3) := by decide +kernel
theorem dX12_takes_4 : decode cX12_takes 4 = .ok (.iconst 2, 1) := by decide +kernel
theorem dX12_takes_5 : decode cX12_takes 5 = .ok (.if_icmp .ne 18, 3) := by decide +kernel
theorem dX12_takes_8 : decode cX12_takes 8 = .ok (.aload_n 0, 1) := by decide +kernel
theorem dX12_takes_9 : decode cX12_takes 9 = .ok (.getfield 273, 3) := by decide +kernel
theorem dX12_takes_12 : decode cX12_takes 12 = .ok (.i2l, 1) := by decide +kernel
theorem dX12_takes_13 : decode cX12_takes 13 = .ok (.iload_n 2, 1) := by decide +kernel
theorem dX12_takes_14 : decode cX12_takes 14 = .ok (.i2l, 1) := by decide +kernel
theorem dX12_takes_15 : decode cX12_takes 15 = .ok (.iload_n 3, 1) := by decide +kernel
theorem dX12_takes_16 : decode cX12_takes 16 = .ok (.i2l, 1) := by decide +kernel
theorem dX12_takes_17 : decode cX12_takes 17 = .ok (.invokestatic 68, 3) := by decide +kernel
theorem dX12_takes_20 : decode cX12_takes 20 = .ok (.ifCond .ne 5, 3) := by decide +kernel
theorem dX12_takes_23 : decode cX12_takes 23 = .ok (.iconst 0, 1) := by decide +kernel
theorem dX12_takes_24 : decode cX12_takes 24 = .ok (.ireturn, 1) := by decide +kernel
theorem dX12_takes_25 : decode cX12_takes 25 = .ok (.aload_n 0, 1) := by decide +kernel
theorem dX12_takes_26 : decode cX12_takes 26 = .ok (.getfield 57, 3) := by decide +kernel
theorem dX12_takes_29 : decode cX12_takes 29 = .ok (.iload_n 1, 1) := by decide +kernel
theorem dX12_takes_30 : decode cX12_takes 30 = .ok (.aload_n 0, 1) := by decide +kernel
theorem dX12_takes_31 : decode cX12_takes 31 = .ok (.getfield 273, 3) := by decide +kernel
theorem dX12_takes_34 : decode cX12_takes 34 = .ok (.iastore, 1) := by decide +kernel
theorem dX12_takes_35 : decode cX12_takes 35 = .ok (.aload_n 0, 1) := by decide +kernel
theorem dX12_takes_36 : decode cX12_takes 36 = .ok (.invokevirtual 285, 3) := by decide +kernel
theorem dX12_takes_39 : decode cX12_takes 39 = .ok (.iconst 1, 1) := by decide +kernel
theorem dX12_takes_40 : decode cX12_takes 40 = .ok (.ireturn, 1) := by decide +kernel
theorem dX12_takesLedge_0 : decode cX12_takesLedge 0 = .ok (.aload_n 0, 1) := by decide +kernel
theorem dX12_takesLedge_1 : decode cX12_takesLedge 1 = .ok (.getfield 54, 3) := by decide +kernel
theorem dX12_takesLedge_4 : decode cX12_takesLedge 4 = .ok (.iconst 0, 1) := by decide +kernel
theorem dX12_takesLedge_5 : decode cX12_takesLedge 5 = .ok (.iaload, 1) := by decide +kernel
theorem dX12_takesLedge_6 : decode cX12_takesLedge 6 = .ok (.bipush 8, 2) := by decide +kernel
theorem dX12_takesLedge_8 : decode cX12_takesLedge 8 = .ok (.if_icmp .ne 5, 3) := by decide +kernel
theorem dX12_takesLedge_11 : decode cX12_takesLedge 11 = .ok (.iconst 0, 1) := by decide +kernel
theorem dX12_takesLedge_12 : decode cX12_takesLedge 12 = .ok (.ireturn, 1) := by decide +kernel
theorem dX12_takesLedge_13 : decode cX12_takesLedge 13 = .ok (.aload_n 0, 1) := by decide +kernel
theorem dX12_takesLedge_14 : decode cX12_takesLedge 14 = .ok (.invokevirtual 285, 3) := by decide +kernel
theorem dX12_takesLedge_17 : decode cX12_takesLedge 17 = .ok (.aload_n 0, 1) := by decide +kernel
theorem dX12_takesLedge_18 : decode cX12_takesLedge 18 = .ok (.iconst 0, 1) := by decide +kernel
theorem dX12_takesLedge_19 : decode cX12_takesLedge 19 = .ok (.iconst 1, 1) := by decide +kernel
theorem dX12_takesLedge_20 : decode cX12_takesLedge 20 = .ok (.bipush 60, 2) := by decide +kernel
theorem dX12_takesLedge_22 : decode cX12_takesLedge 22 = .ok (.invokevirtual 288, 3) := by decide +kernel
theorem dX12_takesLedge_25 : decode cX12_takesLedge 25 = .ok (.ifCond .eq 35, 3) := by decide +kernel
theorem dX12_takesLedge_28 : decode cX12_takesLedge 28 = .ok (.aload_n 0, 1) := by decide +kernel
theorem dX12_takesLedge_29 : decode cX12_takesLedge 29 = .ok (.iconst 1, 1) := by decide +kernel
theorem dX12_takesLedge_30 : decode cX12_takesLedge 30 = .ok (.iconst 0, 1) := by decide +kernel
theorem dX12_takesLedge_31 : decode cX12_takesLedge 31 = .ok (.bipush 30, 2) := by decide +kernel
theorem dX12_takesLedge_33 : decode cX12_takesLedge 33 = .ok (.invokevirtual 288, 3) := by decide +kernel
theorem dX12_takesLedge_36 : decode cX12_takesLedge 36 = .ok (.ifCond .eq 24, 3) := by decide +kernel
theorem dX12_takesLedge_39 : decode cX12_takesLedge 39 = .ok (.iload_n 1, 1) := by decide +kernel
theorem dX12_takesLedge_40 : decode cX12_takesLedge 40 = .ok (.ifCond .eq 22, 3) := by decide +kernel
theorem dX12_takesLedge_43 : decode cX12_takesLedge 43 = .ok (.aload_n 0, 1) := by decide +kernel
theorem dX12_takesLedge_44 : decode cX12_takesLedge 44 = .ok (.iconst 2, 1) := by decide +kernel
theorem dX12_takesLedge_45 : decode cX12_takesLedge 45 = .ok (.iconst 0, 1) := by decide +kernel
theorem dX12_takesLedge_46 : decode cX12_takesLedge 46 = .ok (.aload_n 0, 1) := by decide +kernel
theorem dX12_takesLedge_47 : decode cX12_takesLedge 47 = .ok (.getfield 54, 3) := by decide +kernel
theorem dX12_takesLedge_50 : decode cX12_takesLedge 50 = .ok (.iconst 0, 1) := by decide +kernel
theorem dX12_takesLedge_51 : decode cX12_takesLedge 51 = .ok (.iaload, 1) := by decide +kernel
theorem dX12_takesLedge_52 : decode cX12_takesLedge 52 = .ok (.iconst 1, 1) := by decide +kernel
theorem dX12_takesLedge_53 : decode cX12_takesLedge 53 = .ok (.isub, 1) := by decide +kernel
theorem dX12_takesLedge_54 : decode cX12_takesLedge 54 = .ok (.invokevirtual 288, 3) := by decide +kernel
theorem dX12_takesLedge_57 : decode cX12_takesLedge 57 = .ok (.ifCond .ne 5, 3) := by decide +kernel
theorem dX12_takesLedge_60 : decode cX12_takesLedge 60 = .ok (.iconst 0, 1) := by decide +kernel
theorem dX12_takesLedge_61 : decode cX12_takesLedge 61 = .ok (.ireturn, 1) := by decide +kernel
theorem dX12_takesLedge_62 : decode cX12_takesLedge 62 = .ok (.aload_n 0, 1) := by decide +kernel
theorem dX12_takesLedge_63 : decode cX12_takesLedge 63 = .ok (.getfield 54, 3) := by decide +kernel
theorem dX12_takesLedge_66 : decode cX12_takesLedge 66 = .ok (.aload_n 0, 1) := by decide +kernel
theorem dX12_takesLedge_67 : decode cX12_takesLedge 67 = .ok (.getfield 57, 3) := by decide +kernel
theorem dX12_takesLedge_70 : decode cX12_takesLedge 70 = .ok (.iconst 0, 1) := by decide +kernel
theorem dX12_takesLedge_71 : decode cX12_takesLedge 71 = .ok (.iaload, 1) := by decide +kernel
theorem dX12_takesLedge_72 : decode cX12_takesLedge 72 = .ok (.aload_n 0, 1) := by decide +kernel
theorem dX12_takesLedge_73 : decode cX12_takesLedge 73 = .ok (.getfield 57, 3) := by decide +kernel
theorem dX12_takesLedge_76 : decode cX12_takesLedge 76 = .ok (.iconst 1, 1) := by decide +kernel
theorem dX12_takesLedge_77 : decode cX12_takesLedge 77 = .ok (.iaload, 1) := by decide +kernel
theorem dX12_takesLedge_78 : decode cX12_takesLedge 78 = .ok (.iload_n 1, 1) := by decide +kernel
theorem dX12_takesLedge_79 : decode cX12_takesLedge 79 = .ok (.ifCond .eq 12, 3) := by decide +kernel
theorem dX12_takesLedge_82 : decode cX12_takesLedge 82 = .ok (.aload_n 0, 1) := by decide +kernel
theorem dX12_takesLedge_83 : decode cX12_takesLedge 83 = .ok (.getfield 57, 3) := by decide +kernel
theorem dX12_takesLedge_86 : decode cX12_takesLedge 86 = .ok (.iconst 2, 1) := by decide +kernel
theorem dX12_takesLedge_87 : decode cX12_takesLedge 87 = .ok (.iaload, 1) := by decide +kernel
theorem dX12_takesLedge_88 : decode cX12_takesLedge 88 = .ok (.goto 4, 3) := by decide +kernel
theorem dX12_takesLedge_91 : decode cX12_takesLedge 91 = .ok (.iconst (-1), 1) := by decide +kernel
theorem dX12_takesLedge_92 : decode cX12_takesLedge 92 = .ok (.invokestatic 88, 3) := by decide +kernel
theorem dX12_takesLedge_95 : decode cX12_takesLedge 95 = .ok (.iconst 1, 1) := by decide +kernel
theorem dX12_takesLedge_96 : decode cX12_takesLedge 96 = .ok (.ireturn, 1) := by decide +kernel
theorem dX12_takesVoter_0 : decode cX12_takesVoter 0 = .ok (.aload_n 0, 1) := by decide +kernel
theorem dX12_takesVoter_1 : decode cX12_takesVoter 1 = .ok (.getfield 54, 3) := by decide +kernel
theorem dX12_takesVoter_4 : decode cX12_takesVoter 4 = .ok (.iconst 1, 1) := by decide +kernel
theorem dX12_takesVoter_5 : decode cX12_takesVoter 5 = .ok (.iaload, 1) := by decide +kernel
theorem dX12_takesVoter_6 : decode cX12_takesVoter 6 = .ok (.bipush 6, 2) := by decide +kernel
theorem dX12_takesVoter_8 : decode cX12_takesVoter 8 = .ok (.if_icmp .ne 5, 3) := by decide +kernel
theorem dX12_takesVoter_11 : decode cX12_takesVoter 11 = .ok (.iconst 0, 1) := by decide +kernel
theorem dX12_takesVoter_12 : decode cX12_takesVoter 12 = .ok (.ireturn, 1) := by decide +kernel
theorem dX12_takesVoter_13 : decode cX12_takesVoter 13 = .ok (.aload_n 0, 1) := by decide +kernel
theorem dX12_takesVoter_14 : decode cX12_takesVoter 14 = .ok (.invokevirtual 285, 3) := by decide +kernel
theorem dX12_takesVoter_17 : decode cX12_takesVoter 17 = .ok (.aload_n 0, 1) := by decide +kernel
theorem dX12_takesVoter_18 : decode cX12_takesVoter 18 = .ok (.iconst 0, 1) := by decide +kernel
theorem dX12_takesVoter_19 : decode cX12_takesVoter 19 = .ok (.iconst 0, 1) := by decide +kernel
theorem dX12_takesVoter_20 : decode cX12_takesVoter 20 = .ok (.iconst 5, 1) := by decide +kernel
theorem dX12_takesVoter_21 : decode cX12_takesVoter 21 = .ok (.invokevirtual 288, 3) := by decide +kernel
theorem dX12_takesVoter_24 : decode cX12_takesVoter 24 = .ok (.ifCond .eq 31, 3) := by decide +kernel
theorem dX12_takesVoter_27 : decode cX12_takesVoter 27 = .ok (.aload_n 0, 1) := by decide +kernel
theorem dX12_takesVoter_28 : decode cX12_takesVoter 28 = .ok (.iconst 1, 1) := by decide +kernel
theorem dX12_takesVoter_29 : decode cX12_takesVoter 29 = .ok (.iconst 0, 1) := by decide +kernel
theorem dX12_takesVoter_30 : decode cX12_takesVoter 30 = .ok (.aload_n 0, 1) := by decide +kernel
theorem dX12_takesVoter_31 : decode cX12_takesVoter 31 = .ok (.getfield 54, 3) := by decide +kernel
theorem dX12_takesVoter_34 : decode cX12_takesVoter 34 = .ok (.iconst 0, 1) := by decide +kernel
theorem dX12_takesVoter_35 : decode cX12_takesVoter 35 = .ok (.iaload, 1) := by decide +kernel
theorem dX12_takesVoter_36 : decode cX12_takesVoter 36 = .ok (.iconst 1, 1) := by decide +kernel
theorem dX12_takesVoter_37 : decode cX12_takesVoter 37 = .ok (.isub, 1) := by decide +kernel
theorem dX12_takesVoter_38 : decode cX12_takesVoter 38 = .ok (.invokevirtual 288, 3) := by decide +kernel
theorem dX12_takesVoter_41 : decode cX12_takesVoter 41 = .ok (.ifCond .eq 14, 3) := by decide +kernel
theorem dX12_takesVoter_44 : decode cX12_takesVoter 44 = .ok (.aload_n 0, 1) := by decide +kernel
theorem dX12_takesVoter_45 : decode cX12_takesVoter 45 = .ok (.iconst 2, 1) := by decide +kernel
theorem dX12_takesVoter_46 : decode cX12_takesVoter 46 = .ok (.iconst 1, 1) := by decide +kernel
theorem dX12_takesVoter_47 : decode cX12_takesVoter 47 = .ok (.bipush 9, 2) := by decide +kernel
theorem dX12_takesVoter_49 : decode cX12_takesVoter 49 = .ok (.invokevirtual 288, 3) := by decide +kernel
theorem dX12_takesVoter_52 : decode cX12_takesVoter 52 = .ok (.ifCond .ne 5, 3) := by decide +kernel
theorem dX12_takesVoter_55 : decode cX12_takesVoter 55 = .ok (.iconst 0, 1) := by decide +kernel
theorem dX12_takesVoter_56 : decode cX12_takesVoter 56 = .ok (.ireturn, 1) := by decide +kernel
theorem dX12_takesVoter_57 : decode cX12_takesVoter 57 = .ok (.aload_n 0, 1) := by decide +kernel
theorem dX12_takesVoter_58 : decode cX12_takesVoter 58 = .ok (.getfield 54, 3) := by decide +kernel
theorem dX12_takesVoter_61 : decode cX12_takesVoter 61 = .ok (.aload_n 0, 1) := by decide +kernel
theorem dX12_takesVoter_62 : decode cX12_takesVoter 62 = .ok (.getfield 57, 3) := by decide +kernel
theorem dX12_takesVoter_65 : decode cX12_takesVoter 65 = .ok (.iconst 0, 1) := by decide +kernel
theorem dX12_takesVoter_66 : decode cX12_takesVoter 66 = .ok (.iaload, 1) := by decide +kernel
theorem dX12_takesVoter_67 : decode cX12_takesVoter 67 = .ok (.aload_n 0, 1) := by decide +kernel
theorem dX12_takesVoter_68 : decode cX12_takesVoter 68 = .ok (.getfield 57, 3) := by decide +kernel
theorem dX12_takesVoter_71 : decode cX12_takesVoter 71 = .ok (.iconst 1, 1) := by decide +kernel
theorem dX12_takesVoter_72 : decode cX12_takesVoter 72 = .ok (.iaload, 1) := by decide +kernel
theorem dX12_takesVoter_73 : decode cX12_takesVoter 73 = .ok (.aload_n 0, 1) := by decide +kernel
theorem dX12_takesVoter_74 : decode cX12_takesVoter 74 = .ok (.getfield 57, 3) := by decide +kernel
theorem dX12_takesVoter_77 : decode cX12_takesVoter 77 = .ok (.iconst 2, 1) := by decide +kernel
theorem dX12_takesVoter_78 : decode cX12_takesVoter 78 = .ok (.iaload, 1) := by decide +kernel
theorem dX12_takesVoter_79 : decode cX12_takesVoter 79 = .ok (.invokestatic 100, 3) := by decide +kernel
theorem dX12_takesVoter_82 : decode cX12_takesVoter 82 = .ok (.iconst 1, 1) := by decide +kernel
theorem dX12_takesVoter_83 : decode cX12_takesVoter 83 = .ok (.ireturn, 1) := by decide +kernel
theorem dX12_takesItem_0 : decode cX12_takesItem 0 = .ok (.aload_n 0, 1) := by decide +kernel
theorem dX12_takesItem_1 : decode cX12_takesItem 1 = .ok (.iconst 5, 1) := by decide +kernel
theorem dX12_takesItem_2 : decode cX12_takesItem 2 = .ok (.bipush 108, 2) := by decide +kernel
theorem dX12_takesItem_4 : decode cX12_takesItem 4 = .ok (.bipush 101, 2) := by decide +kernel
theorem dX12_takesItem_6 : decode cX12_takesItem 6 = .ok (.bipush 100, 2) := by decide +kernel
theorem dX12_takesItem_8 : decode cX12_takesItem 8 = .ok (.bipush 103, 2) := by decide +kernel
theorem dX12_takesItem_10 : decode cX12_takesItem 10 = .ok (.bipush 101, 2) := by decide +kernel
theorem dX12_takesItem_12 : decode cX12_takesItem 12 = .ok (.iconst 0, 1) := by decide +kernel
theorem dX12_takesItem_13 : decode cX12_takesItem 13 = .ok (.iconst 0, 1) := by decide +kernel
theorem dX12_takesItem_14 : decode cX12_takesItem 14 = .ok (.invokevirtual 292, 3) := by decide +kernel
theorem dX12_takesItem_17 : decode cX12_takesItem 17 = .ok (.ifCond .eq 9, 3) := by decide +kernel
theorem dX12_takesItem_20 : decode cX12_takesItem 20 = .ok (.aload_n 0, 1) := by decide +kernel
theorem dX12_takesItem_21 : decode cX12_takesItem 21 = .ok (.iconst 0, 1) := by decide +kernel
theorem dX12_takesItem_22 : decode cX12_takesItem 22 = .ok (.invokevirtual 296, 3) := by decide +kernel
theorem dX12_takesItem_25 : decode cX12_takesItem 25 = .ok (.ireturn, 1) := by decide +kernel
theorem dX12_takesItem_26 : decode cX12_takesItem 26 = .ok (.aload_n 0, 1) := by decide +kernel
theorem dX12_takesItem_27 : decode cX12_takesItem 27 = .ok (.iconst 5, 1) := by decide +kernel
theorem dX12_takesItem_28 : decode cX12_takesItem 28 = .ok (.bipush 98, 2) := by decide +kernel
theorem dX12_takesItem_30 : decode cX12_takesItem 30 = .ok (.bipush 101, 2) := by decide +kernel
theorem dX12_takesItem_32 : decode cX12_takesItem 32 = .ok (.bipush 108, 2) := by decide +kernel
theorem dX12_takesItem_34 : decode cX12_takesItem 34 = .ok (.bipush 111, 2) := by decide +kernel
theorem dX12_takesItem_36 : decode cX12_takesItem 36 = .ok (.bipush 119, 2) := by decide +kernel
theorem dX12_takesItem_38 : decode cX12_takesItem 38 = .ok (.iconst 0, 1) := by decide +kernel
theorem dX12_takesItem_39 : decode cX12_takesItem 39 = .ok (.iconst 0, 1) := by decide +kernel
theorem dX12_takesItem_40 : decode cX12_takesItem 40 = .ok (.invokevirtual 292, 3) := by decide +kernel
theorem dX12_takesItem_43 : decode cX12_takesItem 43 = .ok (.ifCond .eq 9, 3) := by decide +kernel
theorem dX12_takesItem_46 : decode cX12_takesItem 46 = .ok (.aload_n 0, 1) := by decide +kernel
theorem dX12_takesItem_47 : decode cX12_takesItem 47 = .ok (.iconst 1, 1) := by decide +kernel
theorem dX12_takesItem_48 : decode cX12_takesItem 48 = .ok (.invokevirtual 296, 3) := by decide +kernel
theorem dX12_takesItem_51 : decode cX12_takesItem 51 = .ok (.ireturn, 1) := by decide +kernel
theorem dX12_takesItem_52 : decode cX12_takesItem 52 = .ok (.aload_n 0, 1) := by decide +kernel
theorem dX12_takesItem_53 : decode cX12_takesItem 53 = .ok (.iconst 5, 1) := by decide +kernel
theorem dX12_takesItem_54 : decode cX12_takesItem 54 = .ok (.bipush 118, 2) := by decide +kernel
theorem dX12_takesItem_56 : decode cX12_takesItem 56 = .ok (.bipush 111, 2) := by decide +kernel
theorem dX12_takesItem_58 : decode cX12_takesItem 58 = .ok (.bipush 116, 2) := by decide +kernel
theorem dX12_takesItem_60 : decode cX12_takesItem 60 = .ok (.bipush 101, 2) := by decide +kernel
theorem dX12_takesItem_62 : decode cX12_takesItem 62 = .ok (.bipush 114, 2) := by decide +kernel
theorem dX12_takesItem_64 : decode cX12_takesItem 64 = .ok (.iconst 0, 1) := by decide +kernel
theorem dX12_takesItem_65 : decode cX12_takesItem 65 = .ok (.iconst 0, 1) := by decide +kernel
theorem dX12_takesItem_66 : decode cX12_takesItem 66 = .ok (.invokevirtual 292, 3) := by decide +kernel
theorem dX12_takesItem_69 : decode cX12_takesItem 69 = .ok (.ifCond .eq 14, 3) := by decide +kernel
theorem dX12_takesItem_72 : decode cX12_takesItem 72 = .ok (.aload_n 0, 1) := by decide +kernel
theorem dX12_takesItem_73 : decode cX12_takesItem 73 = .ok (.invokevirtual 300, 3) := by decide +kernel
theorem dX12_takesItem_76 : decode cX12_takesItem 76 = .ok (.ifCond .eq 7, 3) := by decide +kernel
theorem dX12_takesItem_79 : decode cX12_takesItem 79 = .ok (.iconst 1, 1) := by decide +kernel
theorem dX12_takesItem_80 : decode cX12_takesItem 80 = .ok (.goto 4, 3) := by decide +kernel
theorem dX12_takesItem_83 : decode cX12_takesItem 83 = .ok (.iconst 0, 1) := by decide +kernel
theorem dX12_takesItem_84 : decode cX12_takesItem 84 = .ok (.ireturn, 1) := by decide +kernel
theorem dX12_read_0 : decode cX12_read 0 = .ok (.aload_n 0, 1) := by decide +kernel
theorem dX12_read_1 : decode cX12_read 1 = .ok (.iconst 0, 1) := by decide +kernel
theorem dX12_read_2 : decode cX12_read 2 = .ok (.invokevirtual 282, 3) := by decide +kernel
theorem dX12_read_5 : decode cX12_read 5 = .ok (.aload_n 0, 1) := by decide +kernel
theorem dX12_read_6 : decode cX12_read 6 = .ok (.bipush 8, 2) := by decide +kernel
theorem dX12_read_8 : decode cX12_read 8 = .ok (.bipush 109, 2) := by decide +kernel
theorem dX12_read_10 : decode cX12_read 10 = .ok (.bipush 111, 2) := by decide +kernel
theorem dX12_read_12 : decode cX12_read 12 = .ok (.bipush 117, 2) := by decide +kernel
theorem dX12_read_14 : decode cX12_read 14 = .ok (.bipush 110, 2) := by decide +kernel
theorem dX12_read_16 : decode cX12_read 16 = .ok (.bipush 116, 2) := by decide +kernel
theorem dX12_read_18 : decode cX12_read 18 = .ok (.bipush 97, 2) := by decide +kernel
theorem dX12_read_20 : decode cX12_read 20 = .ok (.sipush 13550, 3) := by decide +kernel
theorem dX12_read_23 : decode cX12_read 23 = .ok (.invokevirtual 292, 3) := by decide +kernel
theorem dX12_read_26 : decode cX12_read 26 = .ok (.ifCond .ne 11, 3) := by decide +kernel
theorem dX12_read_29 : decode cX12_read 29 = .ok (.bipush (-10), 2) := by decide +kernel
theorem dX12_read_31 : decode cX12_read 31 = .ok (.aload_n 0, 1) := by decide +kernel
theorem dX12_read_32 : decode cX12_read 32 = .ok (.getfield 264, 3) := by decide +kernel
theorem dX12_read_35 : decode cX12_read 35 = .ok (.isub, 1) := by decide +kernel
theorem dX12_read_36 : decode cX12_read 36 = .ok (.ireturn, 1) := by decide +kernel
theorem dX12_read_37 : decode cX12_read 37 = .ok (.aload_n 0, 1) := by decide +kernel
theorem dX12_read_38 : decode cX12_read 38 = .ok (.invokevirtual 285, 3) := by decide +kernel
theorem dX12_read_41 : decode cX12_read 41 = .ok (.aload_n 0, 1) := by decide +kernel
theorem dX12_read_42 : decode cX12_read 42 = .ok (.getfield 270, 3) := by decide +kernel
theorem dX12_read_45 : decode cX12_read 45 = .ok (.iconst 3, 1) := by decide +kernel
theorem dX12_read_46 : decode cX12_read 46 = .ok (.if_icmp .eq 11, 3) := by decide +kernel
theorem dX12_read_49 : decode cX12_read 49 = .ok (.bipush (-10), 2) := by decide +kernel
theorem dX12_read_51 : decode cX12_read 51 = .ok (.aload_n 0, 1) := by decide +kernel
theorem dX12_read_52 : decode cX12_read 52 = .ok (.getfield 264, 3) := by decide +kernel
theorem dX12_read_55 : decode cX12_read 55 = .ok (.isub, 1) := by decide +kernel
theorem dX12_read_56 : decode cX12_read 56 = .ok (.ireturn, 1) := by decide +kernel
theorem dX12_read_57 : decode cX12_read 57 = .ok (.aload_n 0, 1) := by decide +kernel
theorem dX12_read_58 : decode cX12_read 58 = .ok (.invokevirtual 285, 3) := by decide +kernel
theorem dX12_read_61 : decode cX12_read 61 = .ok (.aload_n 0, 1) := by decide +kernel
theorem dX12_read_62 : decode cX12_read 62 = .ok (.getfield 54, 3) := by decide +kernel
theorem dX12_read_65 : decode cX12_read 65 = .ok (.invokestatic 60, 3) := by decide +kernel
theorem dX12_read_68 : decode cX12_read 68 = .ok (.iconst 1, 1) := by decide +kernel
theorem dX12_read_69 : decode cX12_read 69 = .ok (.istore_n 1, 1) := by decide +kernel
theorem dX12_read_70 : decode cX12_read 70 = .ok (.aload_n 0, 1) := by decide +kernel
theorem dX12_read_71 : decode cX12_read 71 = .ok (.getfield 270, 3) := by decide +kernel
theorem dX12_read_74 : decode cX12_read 74 = .ok (.ifCond .eq 36, 3) := by decide +kernel
theorem dX12_read_77 : decode cX12_read 77 = .ok (.aload_n 0, 1) := by decide +kernel
theorem dX12_read_78 : decode cX12_read 78 = .ok (.invokevirtual 303, 3) := by decide +kernel
theorem dX12_read_81 : decode cX12_read 81 = .ok (.ifCond .eq 11, 3) := by decide +kernel
theorem dX12_read_84 : decode cX12_read 84 = .ok (.aload_n 0, 1) := by decide +kernel
theorem dX12_read_85 : decode cX12_read 85 = .ok (.getfield 270, 3) := by decide +kernel
theorem dX12_read_88 : decode cX12_read 88 = .ok (.iconst 3, 1) := by decide +kernel
theorem dX12_read_89 : decode cX12_read 89 = .ok (.if_icmp .eq 11, 3) := by decide +kernel
theorem dX12_read_92 : decode cX12_read 92 = .ok (.bipush (-10), 2) := by decide +kernel
theorem dX12_read_94 : decode cX12_read 94 = .ok (.aload_n 0, 1) := by decide +kernel
theorem dX12_read_95 : decode cX12_read 95 = .ok (.getfield 264, 3) := by decide +kernel
theorem dX12_read_98 : decode cX12_read 98 = .ok (.isub, 1) := by decide +kernel
theorem dX12_read_99 : decode cX12_read 99 = .ok (.ireturn, 1) := by decide +kernel
theorem dX12_read_100 : decode cX12_read 100 = .ok (.aload_n 0, 1) := by decide +kernel
theorem dX12_read_101 : decode cX12_read 101 = .ok (.invokevirtual 285, 3) := by decide +kernel
theorem dX12_read_104 : decode cX12_read 104 = .ok (.iinc 1 1, 3) := by decide +kernel
theorem dX12_read_107 : decode cX12_read 107 = .ok (.goto (-37), 3) := by decide +kernel
theorem dX12_read_110 : decode cX12_read 110 = .ok (.iconst 0, 1) := by decide +kernel
theorem dX12_read_111 : decode cX12_read 111 = .ok (.istore_n 2, 1) := by decide +kernel
theorem dX12_read_112 : decode cX12_read 112 = .ok (.iload_n 2, 1) := by decide +kernel
theorem dX12_read_113 : decode cX12_read 113 = .ok (.bipush 69, 2) := by decide +kernel
theorem dX12_read_115 : decode cX12_read 115 = .ok (.if_icmp .ge 21, 3) := by decide +kernel
theorem dX12_read_118 : decode cX12_read 118 = .ok (.aload_n 0, 1) := by decide +kernel
theorem dX12_read_119 : decode cX12_read 119 = .ok (.getfield 7, 3) := by decide +kernel
theorem dX12_read_122 : decode cX12_read 122 = .ok (.iload_n 2, 1) := by decide +kernel
theorem dX12_read_123 : decode cX12_read 123 = .ok (.aload_n 0, 1) := by decide +kernel
theorem dX12_read_124 : decode cX12_read 124 = .ok (.getfield 54, 3) := by decide +kernel
theorem dX12_read_127 : decode cX12_read 127 = .ok (.iload_n 2, 1) := by decide +kernel
theorem dX12_read_128 : decode cX12_read 128 = .ok (.iaload, 1) := by decide +kernel
theorem dX12_read_129 : decode cX12_read 129 = .ok (.iastore, 1) := by decide +kernel
theorem dX12_read_130 : decode cX12_read 130 = .ok (.iinc 2 1, 3) := by decide +kernel
theorem dX12_read_133 : decode cX12_read 133 = .ok (.goto (-21), 3) := by decide +kernel
theorem dX12_read_136 : decode cX12_read 136 = .ok (.iload_n 1, 1) := by decide +kernel
theorem dX12_read_137 : decode cX12_read 137 = .ok (.ireturn, 1) := by decide +kernel
theorem dX12_part_0 : decode cX12_part 0 = .ok (.iload_n 1, 1) := by decide +kernel
theorem dX12_part_1 : decode cX12_part 1 = .ok (.ifCond .ne 10, 3) := by decide +kernel
theorem dX12_part_4 : decode cX12_part 4 = .ok (.aload_n 0, 1) := by decide +kernel
theorem dX12_part_5 : decode cX12_part 5 = .ok (.getfield 228, 3) := by decide +kernel
theorem dX12_part_8 : decode cX12_part 8 = .ok (.goto 22, 3) := by decide +kernel
theorem dX12_part_11 : decode cX12_part 11 = .ok (.iload_n 1, 1) := by decide +kernel
theorem dX12_part_12 : decode cX12_part 12 = .ok (.iconst 1, 1) := by decide +kernel
theorem dX12_part_13 : decode cX12_part 13 = .ok (.if_icmp .ne 10, 3) := by decide +kernel
theorem dX12_part_16 : decode cX12_part 16 = .ok (.aload_n 0, 1) := by decide +kernel
theorem dX12_part_17 : decode cX12_part 17 = .ok (.getfield 23, 3) := by decide +kernel
theorem dX12_part_20 : decode cX12_part 20 = .ok (.goto 10, 3) := by decide +kernel
theorem dX12_part_23 : decode cX12_part 23 = .ok (.aload_n 0, 1) := by decide +kernel
theorem dX12_part_24 : decode cX12_part 24 = .ok (.bipush (-2), 2) := by decide +kernel
theorem dX12_part_26 : decode cX12_part 26 = .ok (.invokevirtual 81, 3) := by decide +kernel
theorem dX12_part_29 : decode cX12_part 29 = .ok (.i2l, 1) := by decide +kernel
theorem dX12_part_30 : decode cX12_part 30 = .ok (.lreturn, 1) := by decide +kernel
theorem dX12_image_0 : decode cX12_image 0 = .ok (.iload_n 1, 1) := by decide +kernel
theorem dX12_image_1 : decode cX12_image 1 = .ok (.i2l, 1) := by decide +kernel
theorem dX12_image_2 : decode cX12_image 2 = .ok (.lconst 0, 1) := by decide +kernel
theorem dX12_image_3 : decode cX12_image 3 = .ok (.lconst 1, 1) := by decide +kernel
theorem dX12_image_4 : decode cX12_image 4 = .ok (.invokestatic 68, 3) := by decide +kernel
theorem dX12_image_7 : decode cX12_image 7 = .ok (.ifCond .ne 10, 3) := by decide +kernel
theorem dX12_image_10 : decode cX12_image 10 = .ok (.aload_n 0, 1) := by decide +kernel
theorem dX12_image_11 : decode cX12_image 11 = .ok (.bipush (-2), 2) := by decide +kernel
theorem dX12_image_13 : decode cX12_image 13 = .ok (.invokevirtual 81, 3) := by decide +kernel
theorem dX12_image_16 : decode cX12_image 16 = .ok (.ireturn, 1) := by decide +kernel
theorem dX12_image_17 : decode cX12_image 17 = .ok (.iconst 0, 1) := by decide +kernel
theorem dX12_image_18 : decode cX12_image 18 = .ok (.istore_n 2, 1) := by decide +kernel
theorem dX12_image_19 : decode cX12_image 19 = .ok (.iload_n 2, 1) := by decide +kernel
theorem dX12_image_20 : decode cX12_image 20 = .ok (.sipush 221, 3) := by decide +kernel
theorem dX12_image_23 : decode cX12_image 23 = .ok (.if_icmp .ge 27, 3) := by decide +kernel
theorem dX12_image_26 : decode cX12_image 26 = .ok (.aload_n 0, 1) := by decide +kernel
theorem dX12_image_27 : decode cX12_image 27 = .ok (.getfield 13, 3) := by decide +kernel
theorem dX12_image_30 : decode cX12_image 30 = .ok (.sipush 221, 3) := by decide +kernel
theorem dX12_image_33 : decode cX12_image 33 = .ok (.iload_n 1, 1) := by decide +kernel
theorem dX12_image_34 : decode cX12_image 34 = .ok (.imul, 1) := by decide +kernel
theorem dX12_image_35 : decode cX12_image 35 = .ok (.iload_n 2, 1) := by decide +kernel
theorem dX12_image_36 : decode cX12_image 36 = .ok (.iadd, 1) := by decide +kernel
theorem dX12_image_37 : decode cX12_image 37 = .ok (.aload_n 0, 1) := by decide +kernel
theorem dX12_image_38 : decode cX12_image 38 = .ok (.getfield 7, 3) := by decide +kernel
theorem dX12_image_41 : decode cX12_image 41 = .ok (.iload_n 2, 1) := by decide +kernel
theorem dX12_image_42 : decode cX12_image 42 = .ok (.iaload, 1) := by decide +kernel
theorem dX12_image_43 : decode cX12_image 43 = .ok (.iastore, 1) := by decide +kernel
theorem dX12_image_44 : decode cX12_image 44 = .ok (.iinc 2 1, 3) := by decide +kernel
theorem dX12_image_47 : decode cX12_image 47 = .ok (.goto (-28), 3) := by decide +kernel
theorem dX12_image_50 : decode cX12_image 50 = .ok (.aload_n 0, 1) := by decide +kernel
theorem dX12_image_51 : decode cX12_image 51 = .ok (.getfield 16, 3) := by decide +kernel
theorem dX12_image_54 : decode cX12_image 54 = .ok (.iload_n 1, 1) := by decide +kernel
theorem dX12_image_55 : decode cX12_image 55 = .ok (.iconst 1, 1) := by decide +kernel
theorem dX12_image_56 : decode cX12_image 56 = .ok (.bastore, 1) := by decide +kernel
theorem dX12_image_57 : decode cX12_image 57 = .ok (.iconst 1, 1) := by decide +kernel
theorem dX12_image_58 : decode cX12_image 58 = .ok (.ireturn, 1) := by decide +kernel
theorem dX12_from_0 : decode cX12_from 0 = .ok (.iload_n 1, 1) := by decide +kernel
theorem dX12_from_1 : decode cX12_from 1 = .ok (.i2l, 1) := by decide +kernel
theorem dX12_from_2 : decode cX12_from 2 = .ok (.lconst 0, 1) := by decide +kernel
theorem dX12_from_3 : decode cX12_from 3 = .ok (.lconst 1, 1) := by decide +kernel
theorem dX12_from_4 : decode cX12_from 4 = .ok (.invokestatic 68, 3) := by decide +kernel
theorem dX12_from_7 : decode cX12_from 7 = .ok (.ifCond .ne 10, 3) := by decide +kernel
theorem dX12_from_10 : decode cX12_from 10 = .ok (.aload_n 0, 1) := by decide +kernel
theorem dX12_from_11 : decode cX12_from 11 = .ok (.bipush (-2), 2) := by decide +kernel
theorem dX12_from_13 : decode cX12_from 13 = .ok (.invokevirtual 81, 3) := by decide +kernel
theorem dX12_from_16 : decode cX12_from 16 = .ok (.ireturn, 1) := by decide +kernel
theorem dX12_from_17 : decode cX12_from 17 = .ok (.aload_n 0, 1) := by decide +kernel
theorem dX12_from_18 : decode cX12_from 18 = .ok (.getfield 16, 3) := by decide +kernel
theorem dX12_from_21 : decode cX12_from 21 = .ok (.iload_n 1, 1) := by decide +kernel
theorem dX12_from_22 : decode cX12_from 22 = .ok (.baload, 1) := by decide +kernel
theorem dX12_from_23 : decode cX12_from 23 = .ok (.ifCond .ne 8, 3) := by decide +kernel
theorem dX12_from_26 : decode cX12_from 26 = .ok (.aload_n 0, 1) := by decide +kernel
theorem dX12_from_27 : decode cX12_from 27 = .ok (.invokevirtual 173, 3) := by decide +kernel
theorem dX12_from_30 : decode cX12_from 30 = .ok (.ireturn, 1) := by decide +kernel
theorem dX12_from_31 : decode cX12_from 31 = .ok (.iconst 0, 1) := by decide +kernel
theorem dX12_from_32 : decode cX12_from 32 = .ok (.istore_n 2, 1) := by decide +kernel
theorem dX12_from_33 : decode cX12_from 33 = .ok (.iload_n 2, 1) := by decide +kernel
theorem dX12_from_34 : decode cX12_from 34 = .ok (.sipush 221, 3) := by decide +kernel
theorem dX12_from_37 : decode cX12_from 37 = .ok (.if_icmp .ge 27, 3) := by decide +kernel
theorem dX12_from_40 : decode cX12_from 40 = .ok (.aload_n 0, 1) := by decide +kernel
theorem dX12_from_41 : decode cX12_from 41 = .ok (.getfield 7, 3) := by decide +kernel
theorem dX12_from_44 : decode cX12_from 44 = .ok (.iload_n 2, 1) := by decide +kernel
theorem dX12_from_45 : decode cX12_from 45 = .ok (.aload_n 0, 1) := by decide +kernel
theorem dX12_from_46 : decode cX12_from 46 = .ok (.getfield 13, 3) := by decide +kernel
theorem dX12_from_49 : decode cX12_from 49 = .ok (.sipush 221, 3) := by decide +kernel
theorem dX12_from_52 : decode cX12_from 52 = .ok (.iload_n 1, 1) := by decide +kernel
theorem dX12_from_53 : decode cX12_from 53 = .ok (.imul, 1) := by decide +kernel
theorem dX12_from_54 : decode cX12_from 54 = .ok (.iload_n 2, 1) := by decide +kernel
theorem dX12_from_55 : decode cX12_from 55 = .ok (.iadd, 1) := by decide +kernel
theorem dX12_from_56 : decode cX12_from 56 = .ok (.iaload, 1) := by decide +kernel
theorem dX12_from_57 : decode cX12_from 57 = .ok (.iastore, 1) := by decide +kernel
theorem dX12_from_58 : decode cX12_from 58 = .ok (.iinc 2 1, 3) := by decide +kernel
theorem dX12_from_61 : decode cX12_from 61 = .ok (.goto (-28), 3) := by decide +kernel
theorem dX12_from_64 : decode cX12_from 64 = .ok (.iconst 1, 1) := by decide +kernel
theorem dX12_from_65 : decode cX12_from 65 = .ok (.ireturn, 1) := by decide +kernel
theorem dX12_status_0 : decode cX12_status 0 = .ok (.iload_n 1, 1) := by decide +kernel
theorem dX12_status_1 : decode cX12_status 1 = .ok (.i2l, 1) := by decide +kernel
theorem dX12_status_2 : decode cX12_status 2 = .ok (.lconst 0, 1) := by decide +kernel
theorem dX12_status_3 : decode cX12_status 3 = .ok (.ldc2_w 306, 3) := by decide +kernel
theorem dX12_status_6 : decode cX12_status 6 = .ok (.invokestatic 68, 3) := by decide +kernel
theorem dX12_status_9 : decode cX12_status 9 = .ok (.ifCond .eq 12, 3) := by decide +kernel
theorem dX12_status_12 : decode cX12_status 12 = .ok (.aload_n 0, 1) := by decide +kernel
theorem dX12_status_13 : decode cX12_status 13 = .ok (.getfield 20, 3) := by decide +kernel
theorem dX12_status_16 : decode cX12_status 16 = .ok (.iload_n 1, 1) := by decide +kernel
theorem dX12_status_17 : decode cX12_status 17 = .ok (.iaload, 1) := by decide +kernel
theorem dX12_status_18 : decode cX12_status 18 = .ok (.goto 8, 3) := by decide +kernel
theorem dX12_status_21 : decode cX12_status 21 = .ok (.aload_n 0, 1) := by decide +kernel
theorem dX12_status_22 : decode cX12_status 22 = .ok (.iconst (-1), 1) := by decide +kernel
theorem dX12_status_23 : decode cX12_status 23 = .ok (.invokevirtual 81, 3) := by decide +kernel
theorem dX12_status_26 : decode cX12_status 26 = .ok (.ireturn, 1) := by decide +kernel
theorem dX12_allLoads_0 : decode cX12_allLoads 0 = .ok (.iconst 0, 1) := by decide +kernel
theorem dX12_allLoads_1 : decode cX12_allLoads 1 = .ok (.istore_n 1, 1) := by decide +kernel
theorem dX12_allLoads_2 : decode cX12_allLoads 2 = .ok (.iconst 0, 1) := by decide +kernel
theorem dX12_allLoads_3 : decode cX12_allLoads 3 = .ok (.istore_n 2, 1) := by decide +kernel
theorem dX12_allLoads_4 : decode cX12_allLoads 4 = .ok (.iload_n 2, 1) := by decide +kernel
theorem dX12_allLoads_5 : decode cX12_allLoads 5 = .ok (.aload_n 0, 1) := by decide +kernel
theorem dX12_allLoads_6 : decode cX12_allLoads 6 = .ok (.invokevirtual 64, 3) := by decide +kernel
theorem dX12_allLoads_9 : decode cX12_allLoads 9 = .ok (.if_icmp .ge 25, 3) := by decide +kernel
theorem dX12_allLoads_12 : decode cX12_allLoads 12 = .ok (.iload_n 1, 1) := by decide +kernel
theorem dX12_allLoads_13 : decode cX12_allLoads 13 = .ok (.aload_n 0, 1) := by decide +kernel
theorem dX12_allLoads_14 : decode cX12_allLoads 14 = .ok (.iload_n 2, 1) := by decide +kernel
theorem dX12_allLoads_15 : decode cX12_allLoads 15 = .ok (.iconst 1, 1) := by decide +kernel
theorem dX12_allLoads_16 : decode cX12_allLoads 16 = .ok (.invokevirtual 103, 3) := by decide +kernel
theorem dX12_allLoads_19 : decode cX12_allLoads 19 = .ok (.aload_n 0, 1) := by decide +kernel
theorem dX12_allLoads_20 : decode cX12_allLoads 20 = .ok (.iload_n 2, 1) := by decide +kernel
theorem dX12_allLoads_21 : decode cX12_allLoads 21 = .ok (.iconst 2, 1) := by decide +kernel
theorem dX12_allLoads_22 : decode cX12_allLoads 22 = .ok (.invokevirtual 103, 3) := by decide +kernel
theorem dX12_allLoads_25 : decode cX12_allLoads 25 = .ok (.iadd, 1) := by decide +kernel
theorem dX12_allLoads_26 : decode cX12_allLoads 26 = .ok (.iadd, 1) := by decide +kernel
theorem dX12_allLoads_27 : decode cX12_allLoads 27 = .ok (.istore_n 1, 1) := by decide +kernel
theorem dX12_allLoads_28 : decode cX12_allLoads 28 = .ok (.iinc 2 1, 3) := by decide +kernel
theorem dX12_allLoads_31 : decode cX12_allLoads 31 = .ok (.goto (-27), 3) := by decide +kernel
theorem dX12_allLoads_34 : decode cX12_allLoads 34 = .ok (.iload_n 1, 1) := by decide +kernel
theorem dX12_allLoads_35 : decode cX12_allLoads 35 = .ok (.ireturn, 1) := by decide +kernel
theorem dX12_counted_0 : decode cX12_counted 0 = .ok (.iload_n 1, 1) := by decide +kernel
theorem dX12_counted_1 : decode cX12_counted 1 = .ok (.tableswitch 75 0 5 #[39, 44, 49, 56, 61, 68], 39) := by decide +kernel
theorem dX12_counted_40 : decode cX12_counted 40 = .ok (.aload_n 0, 1) := by decide +kernel
theorem dX12_counted_41 : decode cX12_counted 41 = .ok (.invokevirtual 64, 3) := by decide +kernel
theorem dX12_counted_44 : decode cX12_counted 44 = .ok (.ireturn, 1) := by decide +kernel
theorem dX12_counted_45 : decode cX12_counted 45 = .ok (.aload_n 0, 1) := by decide +kernel
theorem dX12_counted_46 : decode cX12_counted 46 = .ok (.invokevirtual 72, 3) := by decide +kernel
theorem dX12_counted_49 : decode cX12_counted 49 = .ok (.ireturn, 1) := by decide +kernel
theorem dX12_counted_50 : decode cX12_counted 50 = .ok (.aload_n 0, 1) := by decide +kernel
theorem dX12_counted_51 : decode cX12_counted 51 = .ok (.getfield 7, 3) := by decide +kernel
theorem dX12_counted_54 : decode cX12_counted 54 = .ok (.iconst 2, 1) := by decide +kernel
theorem dX12_counted_55 : decode cX12_counted 55 = .ok (.iaload, 1) := by decide +kernel
theorem dX12_counted_56 : decode cX12_counted 56 = .ok (.ireturn, 1) := by decide +kernel
theorem dX12_counted_57 : decode cX12_counted 57 = .ok (.aload_n 0, 1) := by decide +kernel
theorem dX12_counted_58 : decode cX12_counted 58 = .ok (.invokevirtual 308, 3) := by decide +kernel
theorem dX12_counted_61 : decode cX12_counted 61 = .ok (.ireturn, 1) := by decide +kernel
theorem dX12_counted_62 : decode cX12_counted 62 = .ok (.aload_n 0, 1) := by decide +kernel
theorem dX12_counted_63 : decode cX12_counted 63 = .ok (.getfield 7, 3) := by decide +kernel
theorem dX12_counted_66 : decode cX12_counted 66 = .ok (.iconst 3, 1) := by decide +kernel
theorem dX12_counted_67 : decode cX12_counted 67 = .ok (.iaload, 1) := by decide +kernel
theorem dX12_counted_68 : decode cX12_counted 68 = .ok (.ireturn, 1) := by decide +kernel
theorem dX12_counted_69 : decode cX12_counted 69 = .ok (.aload_n 0, 1) := by decide +kernel
theorem dX12_counted_70 : decode cX12_counted 70 = .ok (.getfield 7, 3) := by decide +kernel
theorem dX12_counted_73 : decode cX12_counted 73 = .ok (.iconst 4, 1) := by decide +kernel
theorem dX12_counted_74 : decode cX12_counted 74 = .ok (.iaload, 1) := by decide +kernel
theorem dX12_counted_75 : decode cX12_counted 75 = .ok (.ireturn, 1) := by decide +kernel
theorem dX12_counted_76 : decode cX12_counted 76 = .ok (.aload_n 0, 1) := by decide +kernel
theorem dX12_counted_77 : decode cX12_counted 77 = .ok (.getfield 253, 3) := by decide +kernel
theorem dX12_counted_80 : decode cX12_counted 80 = .ok (.ireturn, 1) := by decide +kernel
theorem dX12_count_0 : decode cX12_count 0 = .ok (.iload_n 1, 1) := by decide +kernel
theorem dX12_count_1 : decode cX12_count 1 = .ok (.i2l, 1) := by decide +kernel
theorem dX12_count_2 : decode cX12_count 2 = .ok (.lconst 0, 1) := by decide +kernel
theorem dX12_count_3 : decode cX12_count 3 = .ok (.ldc2_w 311, 3) := by decide +kernel
theorem dX12_count_6 : decode cX12_count 6 = .ok (.invokestatic 68, 3) := by decide +kernel
theorem dX12_count_9 : decode cX12_count 9 = .ok (.ifCond .eq 11, 3) := by decide +kernel
theorem dX12_count_12 : decode cX12_count 12 = .ok (.aload_n 0, 1) := by decide +kernel
theorem dX12_count_13 : decode cX12_count 13 = .ok (.iload_n 1, 1) := by decide +kernel
theorem dX12_count_14 : decode cX12_count 14 = .ok (.invokevirtual 313, 3) := by decide +kernel
theorem dX12_count_17 : decode cX12_count 17 = .ok (.goto 9, 3) := by decide +kernel
theorem dX12_count_20 : decode cX12_count 20 = .ok (.aload_n 0, 1) := by decide +kernel
theorem dX12_count_21 : decode cX12_count 21 = .ok (.bipush (-2), 2) := by decide +kernel
theorem dX12_count_23 : decode cX12_count 23 = .ok (.invokevirtual 81, 3) := by decide +kernel
theorem dX12_count_26 : decode cX12_count 26 = .ok (.ireturn, 1) := by decide +kernel
theorem dX12_sums_0 : decode cX12_sums 0 = .ok (.lload_n 1, 1) := by decide +kernel
theorem dX12_sums_1 : decode cX12_sums 1 = .ok (.lstore 5, 2) := by decide +kernel
theorem dX12_sums_3 : decode cX12_sums 3 = .ok (.iconst 0, 1) := by decide +kernel
theorem dX12_sums_4 : decode cX12_sums 4 = .ok (.istore 7, 2) := by decide +kernel
theorem dX12_sums_6 : decode cX12_sums 6 = .ok (.iload 7, 2) := by decide +kernel
theorem dX12_sums_8 : decode cX12_sums 8 = .ok (.iload 4, 2) := by decide +kernel
theorem dX12_sums_10 : decode cX12_sums 10 = .ok (.if_icmp .ge 28, 3) := by decide +kernel
theorem dX12_sums_13 : decode cX12_sums 13 = .ok (.ldc2_w 316, 3) := by decide +kernel
theorem dX12_sums_16 : decode cX12_sums 16 = .ok (.lload 5, 2) := by decide +kernel
theorem dX12_sums_18 : decode cX12_sums 18 = .ok (.lmul, 1) := by decide +kernel
theorem dX12_sums_19 : decode cX12_sums 19 = .ok (.aload_n 0, 1) := by decide +kernel
theorem dX12_sums_20 : decode cX12_sums 20 = .ok (.getfield 7, 3) := by decide +kernel
theorem dX12_sums_23 : decode cX12_sums 23 = .ok (.iload_n 3, 1) := by decide +kernel
theorem dX12_sums_24 : decode cX12_sums 24 = .ok (.iload 7, 2) := by decide +kernel
theorem dX12_sums_26 : decode cX12_sums 26 = .ok (.iadd, 1) := by decide +kernel
theorem dX12_sums_27 : decode cX12_sums 27 = .ok (.iaload, 1) := by decide +kernel
theorem dX12_sums_28 : decode cX12_sums 28 = .ok (.i2l, 1) := by decide +kernel
theorem dX12_sums_29 : decode cX12_sums 29 = .ok (.ladd, 1) := by decide +kernel
theorem dX12_sums_30 : decode cX12_sums 30 = .ok (.lstore 5, 2) := by decide +kernel
theorem dX12_sums_32 : decode cX12_sums 32 = .ok (.iinc 7 1, 3) := by decide +kernel
theorem dX12_sums_35 : decode cX12_sums 35 = .ok (.goto (-29), 3) := by decide +kernel
theorem dX12_sums_38 : decode cX12_sums 38 = .ok (.lload 5, 2) := by decide +kernel
theorem dX12_sums_40 : decode cX12_sums 40 = .ok (.lreturn, 1) := by decide +kernel
theorem dX12_digest_0 : decode cX12_digest 0 = .ok (.ldc2_w 318, 3) := by decide +kernel
theorem dX12_digest_3 : decode cX12_digest 3 = .ok (.lstore_n 1, 1) := by decide +kernel
theorem dX12_digest_4 : decode cX12_digest 4 = .ok (.iconst 0, 1) := by decide +kernel
theorem dX12_digest_5 : decode cX12_digest 5 = .ok (.istore_n 3, 1) := by decide +kernel
theorem dX12_digest_6 : decode cX12_digest 6 = .ok (.iload_n 3, 1) := by decide +kernel
theorem dX12_digest_7 : decode cX12_digest 7 = .ok (.bipush 7, 2) := by decide +kernel
theorem dX12_digest_9 : decode cX12_digest 9 = .ok (.if_icmp .ge 22, 3) := by decide +kernel
theorem dX12_digest_12 : decode cX12_digest 12 = .ok (.ldc2_w 316, 3) := by decide +kernel
theorem dX12_digest_15 : decode cX12_digest 15 = .ok (.lload_n 1, 1) := by decide +kernel
theorem dX12_digest_16 : decode cX12_digest 16 = .ok (.lmul, 1) := by decide +kernel
theorem dX12_digest_17 : decode cX12_digest 17 = .ok (.aload_n 0, 1) := by decide +kernel
theorem dX12_digest_18 : decode cX12_digest 18 = .ok (.iload_n 3, 1) := by decide +kernel
theorem dX12_digest_19 : decode cX12_digest 19 = .ok (.invokevirtual 313, 3) := by decide +kernel
theorem dX12_digest_22 : decode cX12_digest 22 = .ok (.i2l, 1) := by decide +kernel
theorem dX12_digest_23 : decode cX12_digest 23 = .ok (.ladd, 1) := by decide +kernel
theorem dX12_digest_24 : decode cX12_digest 24 = .ok (.lstore_n 1, 1) := by decide +kernel
theorem dX12_digest_25 : decode cX12_digest 25 = .ok (.iinc 3 1, 3) := by decide +kernel
theorem dX12_digest_28 : decode cX12_digest 28 = .ok (.goto (-22), 3) := by decide +kernel
theorem dX12_digest_31 : decode cX12_digest 31 = .ok (.aload_n 0, 1) := by decide +kernel
theorem dX12_digest_32 : decode cX12_digest 32 = .ok (.lload_n 1, 1) := by decide +kernel
theorem dX12_digest_33 : decode cX12_digest 33 = .ok (.iconst 5, 1) := by decide +kernel
theorem dX12_digest_34 : decode cX12_digest 34 = .ok (.iconst 2, 1) := by decide +kernel
theorem dX12_digest_35 : decode cX12_digest 35 = .ok (.invokevirtual 320, 3) := by decide +kernel
theorem dX12_digest_38 : decode cX12_digest 38 = .ok (.lstore_n 1, 1) := by decide +kernel
theorem dX12_digest_39 : decode cX12_digest 39 = .ok (.aload_n 0, 1) := by decide +kernel
theorem dX12_digest_40 : decode cX12_digest 40 = .ok (.lload_n 1, 1) := by decide +kernel
theorem dX12_digest_41 : decode cX12_digest 41 = .ok (.bipush 7, 2) := by decide +kernel
theorem dX12_digest_43 : decode cX12_digest 43 = .ok (.iconst 4, 1) := by decide +kernel
theorem dX12_digest_44 : decode cX12_digest 44 = .ok (.aload_n 0, 1) := by decide +kernel
theorem dX12_digest_45 : decode cX12_digest 45 = .ok (.invokevirtual 64, 3) := by decide +kernel
theorem dX12_digest_48 : decode cX12_digest 48 = .ok (.imul, 1) := by decide +kernel
theorem dX12_digest_49 : decode cX12_digest 49 = .ok (.invokevirtual 320, 3) := by decide +kernel
theorem dX12_digest_52 : decode cX12_digest 52 = .ok (.lstore_n 1, 1) := by decide +kernel
theorem dX12_digest_53 : decode cX12_digest 53 = .ok (.aload_n 0, 1) := by decide +kernel
theorem dX12_digest_54 : decode cX12_digest 54 = .ok (.lload_n 1, 1) := by decide +kernel
theorem dX12_digest_55 : decode cX12_digest 55 = .ok (.bipush 39, 2) := by decide +kernel
theorem dX12_digest_57 : decode cX12_digest 57 = .ok (.iconst 3, 1) := by decide +kernel
theorem dX12_digest_58 : decode cX12_digest 58 = .ok (.aload_n 0, 1) := by decide +kernel
theorem dX12_digest_59 : decode cX12_digest 59 = .ok (.invokevirtual 72, 3) := by decide +kernel
theorem dX12_digest_62 : decode cX12_digest 62 = .ok (.imul, 1) := by decide +kernel
theorem dX12_digest_63 : decode cX12_digest 63 = .ok (.invokevirtual 320, 3) := by decide +kernel
theorem dX12_digest_66 : decode cX12_digest 66 = .ok (.lstore_n 1, 1) := by decide +kernel
theorem dX12_digest_67 : decode cX12_digest 67 = .ok (.aload_n 0, 1) := by decide +kernel
theorem dX12_digest_68 : decode cX12_digest 68 = .ok (.lload_n 1, 1) := by decide +kernel
theorem dX12_digest_69 : decode cX12_digest 69 = .ok (.bipush 57, 2) := by decide +kernel
theorem dX12_digest_71 : decode cX12_digest 71 = .ok (.iconst 2, 1) := by decide +kernel
theorem dX12_digest_72 : decode cX12_digest 72 = .ok (.aload_n 0, 1) := by decide +kernel
theorem dX12_digest_73 : decode cX12_digest 73 = .ok (.getfield 7, 3) := by decide +kernel
theorem dX12_digest_76 : decode cX12_digest 76 = .ok (.iconst 3, 1) := by decide +kernel
theorem dX12_digest_77 : decode cX12_digest 77 = .ok (.iaload, 1) := by decide +kernel
theorem dX12_digest_78 : decode cX12_digest 78 = .ok (.imul, 1) := by decide +kernel
theorem dX12_digest_79 : decode cX12_digest 79 = .ok (.invokevirtual 320, 3) := by decide +kernel
theorem dX12_digest_82 : decode cX12_digest 82 = .ok (.lstore_n 1, 1) := by decide +kernel
theorem dX12_digest_83 : decode cX12_digest 83 = .ok (.ldc2_w 316, 3) := by decide +kernel
theorem dX12_digest_86 : decode cX12_digest 86 = .ok (.ldc2_w 316, 3) := by decide +kernel
theorem dX12_digest_89 : decode cX12_digest 89 = .ok (.lload_n 1, 1) := by decide +kernel
theorem dX12_digest_90 : decode cX12_digest 90 = .ok (.lmul, 1) := by decide +kernel
theorem dX12_digest_91 : decode cX12_digest 91 = .ok (.aload_n 0, 1) := by decide +kernel
theorem dX12_digest_92 : decode cX12_digest 92 = .ok (.getfield 228, 3) := by decide +kernel
theorem dX12_digest_95 : decode cX12_digest 95 = .ok (.ladd, 1) := by decide +kernel
theorem dX12_digest_96 : decode cX12_digest 96 = .ok (.lmul, 1) := by decide +kernel
theorem dX12_digest_97 : decode cX12_digest 97 = .ok (.aload_n 0, 1) := by decide +kernel
theorem dX12_digest_98 : decode cX12_digest 98 = .ok (.getfield 23, 3) := by decide +kernel
theorem dX12_digest_101 : decode cX12_digest 101 = .ok (.ladd, 1) := by decide +kernel
theorem dX12_digest_102 : decode cX12_digest 102 = .ok (.lreturn, 1) := by decide +kernel
end
section
theorem dL_law_0 : decode cL_law 0 = .ok (.new 7, 3) := by decide +kernel
theorem dL_law_3 : decode cL_law 3 = .ok (.dup, 1) := by decide +kernel
theorem dL_law_4 : decode cL_law 4 = .ok (.invokespecial 9, 3) := by decide +kernel
theorem dL_law_7 : decode cL_law 7 = .ok (.astore_n 1, 1) := by decide +kernel
theorem dL_law_8 : decode cL_law 8 = .ok (.new 10, 3) := by decide +kernel
theorem dL_law_11 : decode cL_law 11 = .ok (.dup, 1) := by decide +kernel
theorem dL_law_12 : decode cL_law 12 = .ok (.invokespecial 12, 3) := by decide +kernel
theorem dL_law_15 : decode cL_law 15 = .ok (.astore_n 2, 1) := by decide +kernel
theorem dL_law_16 : decode cL_law 16 = .ok (.iconst 0, 1) := by decide +kernel
theorem dL_law_17 : decode cL_law 17 = .ok (.istore_n 3, 1) := by decide +kernel
theorem dL_law_18 : decode cL_law 18 = .ok (.iload_n 3, 1) := by decide +kernel
theorem dL_law_19 : decode cL_law 19 = .ok (.aload_n 0, 1) := by decide +kernel
theorem dL_law_20 : decode cL_law 20 = .ok (.arraylength, 1) := by decide +kernel
theorem dL_law_21 : decode cL_law 21 = .ok (.iconst 5, 1) := by decide +kernel
theorem dL_law_22 : decode cL_law 22 = .ok (.isub, 1) := by decide +kernel
theorem dL_law_23 : decode cL_law 23 = .ok (.if_icmp .gt 987, 3) := by decide +kernel
theorem dL_law_26 : decode cL_law 26 = .ok (.aload_n 0, 1) := by decide +kernel
theorem dL_law_27 : decode cL_law 27 = .ok (.iload_n 3, 1) := by decide +kernel
theorem dL_law_28 : decode cL_law 28 = .ok (.iaload, 1) := by decide +kernel
theorem dL_law_29 : decode cL_law 29 = .ok (.bipush 31, 2) := by decide +kernel
theorem dL_law_31 : decode cL_law 31 = .ok (.iand, 1) := by decide +kernel
theorem dL_law_32 : decode cL_law 32 = .ok (.tableswitch 972 0 31 #[144, 157, 200, 243, 266, 279, 292, 315, 338, 351, 384, 417, 430, 443, 466, 499, 532, 565, 598, 651, 684, 697, 720, 733, 776, 809, 842, 866, 889, 912, 935, 958], 144) := by decide +kernel
theorem dL_law_176 : decode cL_law 176 = .ok (.aload_n 1, 1) := by decide +kernel
theorem dL_law_177 : decode cL_law 177 = .ok (.invokevirtual 13, 3) := by decide +kernel
theorem dL_law_180 : decode cL_law 180 = .ok (.aload_n 2, 1) := by decide +kernel
theorem dL_law_181 : decode cL_law 181 = .ok (.invokevirtual 17, 3) := by decide +kernel
theorem dL_law_184 : decode cL_law 184 = .ok (.if_icmp .eq 820, 3) := by decide +kernel
theorem dL_law_187 : decode cL_law 187 = .ok (.iconst 0, 1) := by decide +kernel
theorem dL_law_188 : decode cL_law 188 = .ok (.ireturn, 1) := by decide +kernel
theorem dL_law_189 : decode cL_law 189 = .ok (.aload_n 1, 1) := by decide +kernel
theorem dL_law_190 : decode cL_law 190 = .ok (.aload_n 0, 1) := by decide +kernel
theorem dL_law_191 : decode cL_law 191 = .ok (.iload_n 3, 1) := by decide +kernel
theorem dL_law_192 : decode cL_law 192 = .ok (.iconst 1, 1) := by decide +kernel
theorem dL_law_193 : decode cL_law 193 = .ok (.iadd, 1) := by decide +kernel
theorem dL_law_194 : decode cL_law 194 = .ok (.iaload, 1) := by decide +kernel
theorem dL_law_195 : decode cL_law 195 = .ok (.aload_n 0, 1) := by decide +kernel
theorem dL_law_196 : decode cL_law 196 = .ok (.iload_n 3, 1) := by decide +kernel
theorem dL_law_197 : decode cL_law 197 = .ok (.iconst 2, 1) := by decide +kernel
theorem dL_law_198 : decode cL_law 198 = .ok (.iadd, 1) := by decide +kernel
theorem dL_law_199 : decode cL_law 199 = .ok (.iaload, 1) := by decide +kernel
theorem dL_law_200 : decode cL_law 200 = .ok (.aload_n 0, 1) := by decide +kernel
theorem dL_law_201 : decode cL_law 201 = .ok (.iload_n 3, 1) := by decide +kernel
theorem dL_law_202 : decode cL_law 202 = .ok (.iconst 3, 1) := by decide +kernel
theorem dL_law_203 : decode cL_law 203 = .ok (.iadd, 1) := by decide +kernel
theorem dL_law_204 : decode cL_law 204 = .ok (.iaload, 1) := by decide +kernel
theorem dL_law_205 : decode cL_law 205 = .ok (.invokevirtual 18, 3) := by decide +kernel
theorem dL_law_208 : decode cL_law 208 = .ok (.aload_n 2, 1) := by decide +kernel
theorem dL_law_209 : decode cL_law 209 = .ok (.aload_n 0, 1) := by decide +kernel
theorem dL_law_210 : decode cL_law 210 = .ok (.iload_n 3, 1) := by decide +kernel
theorem dL_law_211 : decode cL_law 211 = .ok (.iconst 1, 1) := by decide +kernel
theorem dL_law_212 : decode cL_law 212 = .ok (.iadd, 1) := by decide +kernel
theorem dL_law_213 : decode cL_law 213 = .ok (.iaload, 1) := by decide +kernel
theorem dL_law_214 : decode cL_law 214 = .ok (.aload_n 0, 1) := by decide +kernel
theorem dL_law_215 : decode cL_law 215 = .ok (.iload_n 3, 1) := by decide +kernel
theorem dL_law_216 : decode cL_law 216 = .ok (.iconst 2, 1) := by decide +kernel
theorem dL_law_217 : decode cL_law 217 = .ok (.iadd, 1) := by decide +kernel
theorem dL_law_218 : decode cL_law 218 = .ok (.iaload, 1) := by decide +kernel
theorem dL_law_219 : decode cL_law 219 = .ok (.aload_n 0, 1) := by decide +kernel
theorem dL_law_220 : decode cL_law 220 = .ok (.iload_n 3, 1) := by decide +kernel
theorem dL_law_221 : decode cL_law 221 = .ok (.iconst 3, 1) := by decide +kernel
theorem dL_law_222 : decode cL_law 222 = .ok (.iadd, 1) := by decide +kernel
theorem dL_law_223 : decode cL_law 223 = .ok (.iaload, 1) := by decide +kernel
theorem dL_law_224 : decode cL_law 224 = .ok (.invokevirtual 22, 3) := by decide +kernel
theorem dL_law_227 : decode cL_law 227 = .ok (.if_icmp .eq 777, 3) := by decide +kernel
theorem dL_law_230 : decode cL_law 230 = .ok (.iconst 0, 1) := by decide +kernel
theorem dL_law_231 : decode cL_law 231 = .ok (.ireturn, 1) := by decide +kernel
theorem dL_law_232 : decode cL_law 232 = .ok (.aload_n 1, 1) := by decide +kernel
theorem dL_law_233 : decode cL_law 233 = .ok (.aload_n 0, 1) := by decide +kernel
theorem dL_law_234 : decode cL_law 234 = .ok (.iload_n 3, 1) := by decide +kernel
theorem dL_law_235 : decode cL_law 235 = .ok (.iconst 1, 1) := by decide +kernel
theorem dL_law_236 : decode cL_law 236 = .ok (.iadd, 1) := by decide +kernel
theorem dL_law_237 : decode cL_law 237 = .ok (.iaload, 1) := by decide +kernel
theorem dL_law_238 : decode cL_law 238 = .ok (.aload_n 0, 1) := by decide +kernel
theorem dL_law_239 : decode cL_law 239 = .ok (.iload_n 3, 1) := by decide +kernel
theorem dL_law_240 : decode cL_law 240 = .ok (.iconst 2, 1) := by decide +kernel
theorem dL_law_241 : decode cL_law 241 = .ok (.iadd, 1) := by decide +kernel
theorem dL_law_242 : decode cL_law 242 = .ok (.iaload, 1) := by decide +kernel
theorem dL_law_243 : decode cL_law 243 = .ok (.aload_n 0, 1) := by decide +kernel
theorem dL_law_244 : decode cL_law 244 = .ok (.iload_n 3, 1) := by decide +kernel
theorem dL_law_245 : decode cL_law 245 = .ok (.iconst 3, 1) := by decide +kernel
theorem dL_law_246 : decode cL_law 246 = .ok (.iadd, 1) := by decide +kernel
theorem dL_law_247 : decode cL_law 247 = .ok (.iaload, 1) := by decide +kernel
theorem dL_law_248 : decode cL_law 248 = .ok (.invokevirtual 23, 3) := by decide +kernel
theorem dL_law_251 : decode cL_law 251 = .ok (.aload_n 2, 1) := by decide +kernel
theorem dL_law_252 : decode cL_law 252 = .ok (.aload_n 0, 1) := by decide +kernel
theorem dL_law_253 : decode cL_law 253 = .ok (.iload_n 3, 1) := by decide +kernel
theorem dL_law_254 : decode cL_law 254 = .ok (.iconst 1, 1) := by decide +kernel
theorem dL_law_255 : decode cL_law 255 = .ok (.iadd, 1) := by decide +kernel
theorem dL_law_256 : decode cL_law 256 = .ok (.iaload, 1) := by decide +kernel
theorem dL_law_257 : decode cL_law 257 = .ok (.aload_n 0, 1) := by decide +kernel
theorem dL_law_258 : decode cL_law 258 = .ok (.iload_n 3, 1) := by decide +kernel
theorem dL_law_259 : decode cL_law 259 = .ok (.iconst 2, 1) := by decide +kernel
theorem dL_law_260 : decode cL_law 260 = .ok (.iadd, 1) := by decide +kernel
theorem dL_law_261 : decode cL_law 261 = .ok (.iaload, 1) := by decide +kernel
theorem dL_law_262 : decode cL_law 262 = .ok (.aload_n 0, 1) := by decide +kernel
theorem dL_law_263 : decode cL_law 263 = .ok (.iload_n 3, 1) := by decide +kernel
theorem dL_law_264 : decode cL_law 264 = .ok (.iconst 3, 1) := by decide +kernel
theorem dL_law_265 : decode cL_law 265 = .ok (.iadd, 1) := by decide +kernel
theorem dL_law_266 : decode cL_law 266 = .ok (.iaload, 1) := by decide +kernel
theorem dL_law_267 : decode cL_law 267 = .ok (.invokevirtual 26, 3) := by decide +kernel
theorem dL_law_270 : decode cL_law 270 = .ok (.if_icmp .eq 734, 3) := by decide +kernel
theorem dL_law_273 : decode cL_law 273 = .ok (.iconst 0, 1) := by decide +kernel
theorem dL_law_274 : decode cL_law 274 = .ok (.ireturn, 1) := by decide +kernel
theorem dL_law_275 : decode cL_law 275 = .ok (.aload_n 1, 1) := by decide +kernel
theorem dL_law_276 : decode cL_law 276 = .ok (.aload_n 0, 1) := by decide +kernel
theorem dL_law_277 : decode cL_law 277 = .ok (.iload_n 3, 1) := by decide +kernel
theorem dL_law_278 : decode cL_law 278 = .ok (.iconst 1, 1) := by decide +kernel
theorem dL_law_279 : decode cL_law 279 = .ok (.iadd, 1) := by decide +kernel
theorem dL_law_280 : decode cL_law 280 = .ok (.iaload, 1) := by decide +kernel
theorem dL_law_281 : decode cL_law 281 = .ok (.invokevirtual 27, 3) := by decide +kernel
theorem dL_law_284 : decode cL_law 284 = .ok (.aload_n 2, 1) := by decide +kernel
theorem dL_law_285 : decode cL_law 285 = .ok (.aload_n 0, 1) := by decide +kernel
theorem dL_law_286 : decode cL_law 286 = .ok (.iload_n 3, 1) := by decide +kernel
theorem dL_law_287 : decode cL_law 287 = .ok (.iconst 1, 1) := by decide +kernel
theorem dL_law_288 : decode cL_law 288 = .ok (.iadd, 1) := by decide +kernel
theorem dL_law_289 : decode cL_law 289 = .ok (.iaload, 1) := by decide +kernel
theorem dL_law_290 : decode cL_law 290 = .ok (.invokevirtual 31, 3) := by decide +kernel
theorem dL_law_293 : decode cL_law 293 = .ok (.if_icmp .eq 711, 3) := by decide +kernel
theorem dL_law_296 : decode cL_law 296 = .ok (.iconst 0, 1) := by decide +kernel
theorem dL_law_297 : decode cL_law 297 = .ok (.ireturn, 1) := by decide +kernel
theorem dL_law_298 : decode cL_law 298 = .ok (.aload_n 1, 1) := by decide +kernel
theorem dL_law_299 : decode cL_law 299 = .ok (.invokevirtual 32, 3) := by decide +kernel
theorem dL_law_302 : decode cL_law 302 = .ok (.aload_n 2, 1) := by decide +kernel
theorem dL_law_303 : decode cL_law 303 = .ok (.invokevirtual 35, 3) := by decide +kernel
theorem dL_law_306 : decode cL_law 306 = .ok (.if_icmp .eq 698, 3) := by decide +kernel
theorem dL_law_309 : decode cL_law 309 = .ok (.iconst 0, 1) := by decide +kernel
theorem dL_law_310 : decode cL_law 310 = .ok (.ireturn, 1) := by decide +kernel
theorem dL_law_311 : decode cL_law 311 = .ok (.aload_n 1, 1) := by decide +kernel
theorem dL_law_312 : decode cL_law 312 = .ok (.invokevirtual 36, 3) := by decide +kernel
theorem dL_law_315 : decode cL_law 315 = .ok (.aload_n 2, 1) := by decide +kernel
theorem dL_law_316 : decode cL_law 316 = .ok (.invokevirtual 39, 3) := by decide +kernel
theorem dL_law_319 : decode cL_law 319 = .ok (.if_icmp .eq 685, 3) := by decide +kernel
theorem dL_law_322 : decode cL_law 322 = .ok (.iconst 0, 1) := by decide +kernel
theorem dL_law_323 : decode cL_law 323 = .ok (.ireturn, 1) := by decide +kernel
theorem dL_law_324 : decode cL_law 324 = .ok (.aload_n 1, 1) := by decide +kernel
theorem dL_law_325 : decode cL_law 325 = .ok (.aload_n 0, 1) := by decide +kernel
theorem dL_law_326 : decode cL_law 326 = .ok (.iload_n 3, 1) := by decide +kernel
theorem dL_law_327 : decode cL_law 327 = .ok (.iconst 1, 1) := by decide +kernel
theorem dL_law_328 : decode cL_law 328 = .ok (.iadd, 1) := by decide +kernel
theorem dL_law_329 : decode cL_law 329 = .ok (.iaload, 1) := by decide +kernel
theorem dL_law_330 : decode cL_law 330 = .ok (.invokevirtual 40, 3) := by decide +kernel
theorem dL_law_333 : decode cL_law 333 = .ok (.aload_n 2, 1) := by decide +kernel
theorem dL_law_334 : decode cL_law 334 = .ok (.aload_n 0, 1) := by decide +kernel
theorem dL_law_335 : decode cL_law 335 = .ok (.iload_n 3, 1) := by decide +kernel
theorem dL_law_336 : decode cL_law 336 = .ok (.iconst 1, 1) := by decide +kernel
theorem dL_law_337 : decode cL_law 337 = .ok (.iadd, 1) := by decide +kernel
theorem dL_law_338 : decode cL_law 338 = .ok (.iaload, 1) := by decide +kernel
theorem dL_law_339 : decode cL_law 339 = .ok (.invokevirtual 43, 3) := by decide +kernel
theorem dL_law_342 : decode cL_law 342 = .ok (.if_icmp .eq 662, 3) := by decide +kernel
theorem dL_law_345 : decode cL_law 345 = .ok (.iconst 0, 1) := by decide +kernel
theorem dL_law_346 : decode cL_law 346 = .ok (.ireturn, 1) := by decide +kernel
theorem dL_law_347 : decode cL_law 347 = .ok (.aload_n 1, 1) := by decide +kernel
theorem dL_law_348 : decode cL_law 348 = .ok (.aload_n 0, 1) := by decide +kernel
theorem dL_law_349 : decode cL_law 349 = .ok (.iload_n 3, 1) := by decide +kernel
theorem dL_law_350 : decode cL_law 350 = .ok (.iconst 1, 1) := by decide +kernel
theorem dL_law_351 : decode cL_law 351 = .ok (.iadd, 1) := by decide +kernel
theorem dL_law_352 : decode cL_law 352 = .ok (.iaload, 1) := by decide +kernel
theorem dL_law_353 : decode cL_law 353 = .ok (.invokevirtual 44, 3) := by decide +kernel
theorem dL_law_356 : decode cL_law 356 = .ok (.aload_n 2, 1) := by decide +kernel
theorem dL_law_357 : decode cL_law 357 = .ok (.aload_n 0, 1) := by decide +kernel
theorem dL_law_358 : decode cL_law 358 = .ok (.iload_n 3, 1) := by decide +kernel
theorem dL_law_359 : decode cL_law 359 = .ok (.iconst 1, 1) := by decide +kernel
theorem dL_law_360 : decode cL_law 360 = .ok (.iadd, 1) := by decide +kernel
theorem dL_law_361 : decode cL_law 361 = .ok (.iaload, 1) := by decide +kernel
theorem dL_law_362 : decode cL_law 362 = .ok (.invokevirtual 47, 3) := by decide +kernel
theorem dL_law_365 : decode cL_law 365 = .ok (.if_icmp .eq 639, 3) := by decide +kernel
theorem dL_law_368 : decode cL_law 368 = .ok (.iconst 0, 1) := by decide +kernel
theorem dL_law_369 : decode cL_law 369 = .ok (.ireturn, 1) := by decide +kernel
theorem dL_law_370 : decode cL_law 370 = .ok (.aload_n 1, 1) := by decide +kernel
theorem dL_law_371 : decode cL_law 371 = .ok (.invokevirtual 48, 3) := by decide +kernel
theorem dL_law_374 : decode cL_law 374 = .ok (.aload_n 2, 1) := by decide +kernel
theorem dL_law_375 : decode cL_law 375 = .ok (.invokevirtual 51, 3) := by decide +kernel
theorem dL_law_378 : decode cL_law 378 = .ok (.if_icmp .eq 626, 3) := by decide +kernel
theorem dL_law_381 : decode cL_law 381 = .ok (.iconst 0, 1) := by decide +kernel
theorem dL_law_382 : decode cL_law 382 = .ok (.ireturn, 1) := by decide +kernel
theorem dL_law_383 : decode cL_law 383 = .ok (.aload_n 1, 1) := by decide +kernel
theorem dL_law_384 : decode cL_law 384 = .ok (.aload_n 0, 1) := by decide +kernel
theorem dL_law_385 : decode cL_law 385 = .ok (.iload_n 3, 1) := by decide +kernel
theorem dL_law_386 : decode cL_law 386 = .ok (.iconst 1, 1) := by decide +kernel
theorem dL_law_387 : decode cL_law 387 = .ok (.iadd, 1) := by decide +kernel
theorem dL_law_388 : decode cL_law 388 = .ok (.iaload, 1) := by decide +kernel
theorem dL_law_389 : decode cL_law 389 = .ok (.aload_n 0, 1) := by decide +kernel
theorem dL_law_390 : decode cL_law 390 = .ok (.iload_n 3, 1) := by decide +kernel
theorem dL_law_391 : decode cL_law 391 = .ok (.iconst 2, 1) := by decide +kernel
theorem dL_law_392 : decode cL_law 392 = .ok (.iadd, 1) := by decide +kernel
theorem dL_law_393 : decode cL_law 393 = .ok (.iaload, 1) := by decide +kernel
theorem dL_law_394 : decode cL_law 394 = .ok (.invokevirtual 52, 3) := by decide +kernel
theorem dL_law_397 : decode cL_law 397 = .ok (.aload_n 2, 1) := by decide +kernel
theorem dL_law_398 : decode cL_law 398 = .ok (.aload_n 0, 1) := by decide +kernel
theorem dL_law_399 : decode cL_law 399 = .ok (.iload_n 3, 1) := by decide +kernel
theorem dL_law_400 : decode cL_law 400 = .ok (.iconst 1, 1) := by decide +kernel
theorem dL_law_401 : decode cL_law 401 = .ok (.iadd, 1) := by decide +kernel
theorem dL_law_402 : decode cL_law 402 = .ok (.iaload, 1) := by decide +kernel
theorem dL_law_403 : decode cL_law 403 = .ok (.aload_n 0, 1) := by decide +kernel
theorem dL_law_404 : decode cL_law 404 = .ok (.iload_n 3, 1) := by decide +kernel
theorem dL_law_405 : decode cL_law 405 = .ok (.iconst 2, 1) := by decide +kernel
theorem dL_law_406 : decode cL_law 406 = .ok (.iadd, 1) := by decide +kernel
theorem dL_law_407 : decode cL_law 407 = .ok (.iaload, 1) := by decide +kernel
theorem dL_law_408 : decode cL_law 408 = .ok (.invokevirtual 56, 3) := by decide +kernel
theorem dL_law_411 : decode cL_law 411 = .ok (.if_icmp .eq 593, 3) := by decide +kernel
theorem dL_law_414 : decode cL_law 414 = .ok (.iconst 0, 1) := by decide +kernel
theorem dL_law_415 : decode cL_law 415 = .ok (.ireturn, 1) := by decide +kernel
theorem dL_law_416 : decode cL_law 416 = .ok (.aload_n 1, 1) := by decide +kernel
theorem dL_law_417 : decode cL_law 417 = .ok (.aload_n 0, 1) := by decide +kernel
theorem dL_law_418 : decode cL_law 418 = .ok (.iload_n 3, 1) := by decide +kernel
theorem dL_law_419 : decode cL_law 419 = .ok (.iconst 1, 1) := by decide +kernel
theorem dL_law_420 : decode cL_law 420 = .ok (.iadd, 1) := by decide +kernel
theorem dL_law_421 : decode cL_law 421 = .ok (.iaload, 1) := by decide +kernel
theorem dL_law_422 : decode cL_law 422 = .ok (.aload_n 0, 1) := by decide +kernel
theorem dL_law_423 : decode cL_law 423 = .ok (.iload_n 3, 1) := by decide +kernel
theorem dL_law_424 : decode cL_law 424 = .ok (.iconst 2, 1) := by decide +kernel
theorem dL_law_425 : decode cL_law 425 = .ok (.iadd, 1) := by decide +kernel
theorem dL_law_426 : decode cL_law 426 = .ok (.iaload, 1) := by decide +kernel
theorem dL_law_427 : decode cL_law 427 = .ok (.invokevirtual 57, 3) := by decide +kernel
theorem dL_law_430 : decode cL_law 430 = .ok (.aload_n 2, 1) := by decide +kernel
theorem dL_law_431 : decode cL_law 431 = .ok (.aload_n 0, 1) := by decide +kernel
theorem dL_law_432 : decode cL_law 432 = .ok (.iload_n 3, 1) := by decide +kernel
theorem dL_law_433 : decode cL_law 433 = .ok (.iconst 1, 1) := by decide +kernel
theorem dL_law_434 : decode cL_law 434 = .ok (.iadd, 1) := by decide +kernel
theorem dL_law_435 : decode cL_law 435 = .ok (.iaload, 1) := by decide +kernel
theorem dL_law_436 : decode cL_law 436 = .ok (.aload_n 0, 1) := by decide +kernel
theorem dL_law_437 : decode cL_law 437 = .ok (.iload_n 3, 1) := by decide +kernel
theorem dL_law_438 : decode cL_law 438 = .ok (.iconst 2, 1) := by decide +kernel
theorem dL_law_439 : decode cL_law 439 = .ok (.iadd, 1) := by decide +kernel
theorem dL_law_440 : decode cL_law 440 = .ok (.iaload, 1) := by decide +kernel
theorem dL_law_441 : decode cL_law 441 = .ok (.invokevirtual 60, 3) := by decide +kernel
theorem dL_law_444 : decode cL_law 444 = .ok (.if_icmp .eq 560, 3) := by decide +kernel
theorem dL_law_447 : decode cL_law 447 = .ok (.iconst 0, 1) := by decide +kernel
theorem dL_law_448 : decode cL_law 448 = .ok (.ireturn, 1) := by decide +kernel
theorem dL_law_449 : decode cL_law 449 = .ok (.aload_n 1, 1) := by decide +kernel
theorem dL_law_450 : decode cL_law 450 = .ok (.invokevirtual 61, 3) := by decide +kernel
theorem dL_law_453 : decode cL_law 453 = .ok (.aload_n 2, 1) := by decide +kernel
theorem dL_law_454 : decode cL_law 454 = .ok (.invokevirtual 64, 3) := by decide +kernel
theorem dL_law_457 : decode cL_law 457 = .ok (.if_icmp .eq 547, 3) := by decide +kernel
theorem dL_law_460 : decode cL_law 460 = .ok (.iconst 0, 1) := by decide +kernel
theorem dL_law_461 : decode cL_law 461 = .ok (.ireturn, 1) := by decide +kernel
theorem dL_law_462 : decode cL_law 462 = .ok (.aload_n 1, 1) := by decide +kernel
theorem dL_law_463 : decode cL_law 463 = .ok (.invokevirtual 65, 3) := by decide +kernel
theorem dL_law_466 : decode cL_law 466 = .ok (.aload_n 2, 1) := by decide +kernel
theorem dL_law_467 : decode cL_law 467 = .ok (.invokevirtual 68, 3) := by decide +kernel
theorem dL_law_470 : decode cL_law 470 = .ok (.if_icmp .eq 534, 3) := by decide +kernel
theorem dL_law_473 : decode cL_law 473 = .ok (.iconst 0, 1) := by decide +kernel
theorem dL_law_474 : decode cL_law 474 = .ok (.ireturn, 1) := by decide +kernel
theorem dL_law_475 : decode cL_law 475 = .ok (.aload_n 1, 1) := by decide +kernel
theorem dL_law_476 : decode cL_law 476 = .ok (.aload_n 0, 1) := by decide +kernel
theorem dL_law_477 : decode cL_law 477 = .ok (.iload_n 3, 1) := by decide +kernel
theorem dL_law_478 : decode cL_law 478 = .ok (.iconst 1, 1) := by decide +kernel
theorem dL_law_479 : decode cL_law 479 = .ok (.iadd, 1) := by decide +kernel
theorem dL_law_480 : decode cL_law 480 = .ok (.iaload, 1) := by decide +kernel
theorem dL_law_481 : decode cL_law 481 = .ok (.invokevirtual 69, 3) := by decide +kernel
theorem dL_law_484 : decode cL_law 484 = .ok (.aload_n 2, 1) := by decide +kernel
theorem dL_law_485 : decode cL_law 485 = .ok (.aload_n 0, 1) := by decide +kernel
theorem dL_law_486 : decode cL_law 486 = .ok (.iload_n 3, 1) := by decide +kernel
theorem dL_law_487 : decode cL_law 487 = .ok (.iconst 1, 1) := by decide +kernel
theorem dL_law_488 : decode cL_law 488 = .ok (.iadd, 1) := by decide +kernel
theorem dL_law_489 : decode cL_law 489 = .ok (.iaload, 1) := by decide +kernel
theorem dL_law_490 : decode cL_law 490 = .ok (.invokevirtual 72, 3) := by decide +kernel
theorem dL_law_493 : decode cL_law 493 = .ok (.if_icmp .eq 511, 3) := by decide +kernel
theorem dL_law_496 : decode cL_law 496 = .ok (.iconst 0, 1) := by decide +kernel
theorem dL_law_497 : decode cL_law 497 = .ok (.ireturn, 1) := by decide +kernel
theorem dL_law_498 : decode cL_law 498 = .ok (.aload_n 1, 1) := by decide +kernel
theorem dL_law_499 : decode cL_law 499 = .ok (.aload_n 0, 1) := by decide +kernel
theorem dL_law_500 : decode cL_law 500 = .ok (.iload_n 3, 1) := by decide +kernel
theorem dL_law_501 : decode cL_law 501 = .ok (.iconst 1, 1) := by decide +kernel
theorem dL_law_502 : decode cL_law 502 = .ok (.iadd, 1) := by decide +kernel
theorem dL_law_503 : decode cL_law 503 = .ok (.iaload, 1) := by decide +kernel
theorem dL_law_504 : decode cL_law 504 = .ok (.aload_n 0, 1) := by decide +kernel
theorem dL_law_505 : decode cL_law 505 = .ok (.iload_n 3, 1) := by decide +kernel
theorem dL_law_506 : decode cL_law 506 = .ok (.iconst 2, 1) := by decide +kernel
theorem dL_law_507 : decode cL_law 507 = .ok (.iadd, 1) := by decide +kernel
theorem dL_law_508 : decode cL_law 508 = .ok (.iaload, 1) := by decide +kernel
theorem dL_law_509 : decode cL_law 509 = .ok (.invokevirtual 73, 3) := by decide +kernel
theorem dL_law_512 : decode cL_law 512 = .ok (.aload_n 2, 1) := by decide +kernel
theorem dL_law_513 : decode cL_law 513 = .ok (.aload_n 0, 1) := by decide +kernel
theorem dL_law_514 : decode cL_law 514 = .ok (.iload_n 3, 1) := by decide +kernel
theorem dL_law_515 : decode cL_law 515 = .ok (.iconst 1, 1) := by decide +kernel
theorem dL_law_516 : decode cL_law 516 = .ok (.iadd, 1) := by decide +kernel
theorem dL_law_517 : decode cL_law 517 = .ok (.iaload, 1) := by decide +kernel
theorem dL_law_518 : decode cL_law 518 = .ok (.aload_n 0, 1) := by decide +kernel
theorem dL_law_519 : decode cL_law 519 = .ok (.iload_n 3, 1) := by decide +kernel
theorem dL_law_520 : decode cL_law 520 = .ok (.iconst 2, 1) := by decide +kernel
theorem dL_law_521 : decode cL_law 521 = .ok (.iadd, 1) := by decide +kernel
theorem dL_law_522 : decode cL_law 522 = .ok (.iaload, 1) := by decide +kernel
theorem dL_law_523 : decode cL_law 523 = .ok (.invokevirtual 76, 3) := by decide +kernel
theorem dL_law_526 : decode cL_law 526 = .ok (.if_icmp .eq 478, 3) := by decide +kernel
theorem dL_law_529 : decode cL_law 529 = .ok (.iconst 0, 1) := by decide +kernel
theorem dL_law_530 : decode cL_law 530 = .ok (.ireturn, 1) := by decide +kernel
theorem dL_law_531 : decode cL_law 531 = .ok (.aload_n 1, 1) := by decide +kernel
theorem dL_law_532 : decode cL_law 532 = .ok (.aload_n 0, 1) := by decide +kernel
theorem dL_law_533 : decode cL_law 533 = .ok (.iload_n 3, 1) := by decide +kernel
theorem dL_law_534 : decode cL_law 534 = .ok (.iconst 1, 1) := by decide +kernel
theorem dL_law_535 : decode cL_law 535 = .ok (.iadd, 1) := by decide +kernel
theorem dL_law_536 : decode cL_law 536 = .ok (.iaload, 1) := by decide +kernel
theorem dL_law_537 : decode cL_law 537 = .ok (.aload_n 0, 1) := by decide +kernel
theorem dL_law_538 : decode cL_law 538 = .ok (.iload_n 3, 1) := by decide +kernel
theorem dL_law_539 : decode cL_law 539 = .ok (.iconst 2, 1) := by decide +kernel
theorem dL_law_540 : decode cL_law 540 = .ok (.iadd, 1) := by decide +kernel
theorem dL_law_541 : decode cL_law 541 = .ok (.iaload, 1) := by decide +kernel
theorem dL_law_542 : decode cL_law 542 = .ok (.invokevirtual 77, 3) := by decide +kernel
theorem dL_law_545 : decode cL_law 545 = .ok (.aload_n 2, 1) := by decide +kernel
theorem dL_law_546 : decode cL_law 546 = .ok (.aload_n 0, 1) := by decide +kernel
theorem dL_law_547 : decode cL_law 547 = .ok (.iload_n 3, 1) := by decide +kernel
theorem dL_law_548 : decode cL_law 548 = .ok (.iconst 1, 1) := by decide +kernel
theorem dL_law_549 : decode cL_law 549 = .ok (.iadd, 1) := by decide +kernel
theorem dL_law_550 : decode cL_law 550 = .ok (.iaload, 1) := by decide +kernel
theorem dL_law_551 : decode cL_law 551 = .ok (.aload_n 0, 1) := by decide +kernel
theorem dL_law_552 : decode cL_law 552 = .ok (.iload_n 3, 1) := by decide +kernel
theorem dL_law_553 : decode cL_law 553 = .ok (.iconst 2, 1) := by decide +kernel
theorem dL_law_554 : decode cL_law 554 = .ok (.iadd, 1) := by decide +kernel
theorem dL_law_555 : decode cL_law 555 = .ok (.iaload, 1) := by decide +kernel
theorem dL_law_556 : decode cL_law 556 = .ok (.invokevirtual 80, 3) := by decide +kernel
theorem dL_law_559 : decode cL_law 559 = .ok (.if_icmp .eq 445, 3) := by decide +kernel
theorem dL_law_562 : decode cL_law 562 = .ok (.iconst 0, 1) := by decide +kernel
theorem dL_law_563 : decode cL_law 563 = .ok (.ireturn, 1) := by decide +kernel
theorem dL_law_564 : decode cL_law 564 = .ok (.aload_n 1, 1) := by decide +kernel
theorem dL_law_565 : decode cL_law 565 = .ok (.aload_n 0, 1) := by decide +kernel
theorem dL_law_566 : decode cL_law 566 = .ok (.iload_n 3, 1) := by decide +kernel
theorem dL_law_567 : decode cL_law 567 = .ok (.iconst 1, 1) := by decide +kernel
theorem dL_law_568 : decode cL_law 568 = .ok (.iadd, 1) := by decide +kernel
theorem dL_law_569 : decode cL_law 569 = .ok (.iaload, 1) := by decide +kernel
theorem dL_law_570 : decode cL_law 570 = .ok (.aload_n 0, 1) := by decide +kernel
theorem dL_law_571 : decode cL_law 571 = .ok (.iload_n 3, 1) := by decide +kernel
theorem dL_law_572 : decode cL_law 572 = .ok (.iconst 2, 1) := by decide +kernel
theorem dL_law_573 : decode cL_law 573 = .ok (.iadd, 1) := by decide +kernel
theorem dL_law_574 : decode cL_law 574 = .ok (.iaload, 1) := by decide +kernel
theorem dL_law_575 : decode cL_law 575 = .ok (.invokevirtual 81, 3) := by decide +kernel
theorem dL_law_578 : decode cL_law 578 = .ok (.aload_n 2, 1) := by decide +kernel
theorem dL_law_579 : decode cL_law 579 = .ok (.aload_n 0, 1) := by decide +kernel
theorem dL_law_580 : decode cL_law 580 = .ok (.iload_n 3, 1) := by decide +kernel
theorem dL_law_581 : decode cL_law 581 = .ok (.iconst 1, 1) := by decide +kernel
theorem dL_law_582 : decode cL_law 582 = .ok (.iadd, 1) := by decide +kernel
theorem dL_law_583 : decode cL_law 583 = .ok (.iaload, 1) := by decide +kernel
theorem dL_law_584 : decode cL_law 584 = .ok (.aload_n 0, 1) := by decide +kernel
theorem dL_law_585 : decode cL_law 585 = .ok (.iload_n 3, 1) := by decide +kernel
theorem dL_law_586 : decode cL_law 586 = .ok (.iconst 2, 1) := by decide +kernel
theorem dL_law_587 : decode cL_law 587 = .ok (.iadd, 1) := by decide +kernel
theorem dL_law_588 : decode cL_law 588 = .ok (.iaload, 1) := by decide +kernel
theorem dL_law_589 : decode cL_law 589 = .ok (.invokevirtual 84, 3) := by decide +kernel
theorem dL_law_592 : decode cL_law 592 = .ok (.if_icmp .eq 412, 3) := by decide +kernel
theorem dL_law_595 : decode cL_law 595 = .ok (.iconst 0, 1) := by decide +kernel
theorem dL_law_596 : decode cL_law 596 = .ok (.ireturn, 1) := by decide +kernel
theorem dL_law_597 : decode cL_law 597 = .ok (.aload_n 1, 1) := by decide +kernel
theorem dL_law_598 : decode cL_law 598 = .ok (.aload_n 0, 1) := by decide +kernel
theorem dL_law_599 : decode cL_law 599 = .ok (.iload_n 3, 1) := by decide +kernel
theorem dL_law_600 : decode cL_law 600 = .ok (.iconst 1, 1) := by decide +kernel
theorem dL_law_601 : decode cL_law 601 = .ok (.iadd, 1) := by decide +kernel
theorem dL_law_602 : decode cL_law 602 = .ok (.iaload, 1) := by decide +kernel
theorem dL_law_603 : decode cL_law 603 = .ok (.aload_n 0, 1) := by decide +kernel
theorem dL_law_604 : decode cL_law 604 = .ok (.iload_n 3, 1) := by decide +kernel
theorem dL_law_605 : decode cL_law 605 = .ok (.iconst 2, 1) := by decide +kernel
theorem dL_law_606 : decode cL_law 606 = .ok (.iadd, 1) := by decide +kernel
theorem dL_law_607 : decode cL_law 607 = .ok (.iaload, 1) := by decide +kernel
theorem dL_law_608 : decode cL_law 608 = .ok (.invokevirtual 85, 3) := by decide +kernel
theorem dL_law_611 : decode cL_law 611 = .ok (.aload_n 2, 1) := by decide +kernel
theorem dL_law_612 : decode cL_law 612 = .ok (.aload_n 0, 1) := by decide +kernel
theorem dL_law_613 : decode cL_law 613 = .ok (.iload_n 3, 1) := by decide +kernel
theorem dL_law_614 : decode cL_law 614 = .ok (.iconst 1, 1) := by decide +kernel
theorem dL_law_615 : decode cL_law 615 = .ok (.iadd, 1) := by decide +kernel
theorem dL_law_616 : decode cL_law 616 = .ok (.iaload, 1) := by decide +kernel
theorem dL_law_617 : decode cL_law 617 = .ok (.aload_n 0, 1) := by decide +kernel
theorem dL_law_618 : decode cL_law 618 = .ok (.iload_n 3, 1) := by decide +kernel
theorem dL_law_619 : decode cL_law 619 = .ok (.iconst 2, 1) := by decide +kernel
theorem dL_law_620 : decode cL_law 620 = .ok (.iadd, 1) := by decide +kernel
theorem dL_law_621 : decode cL_law 621 = .ok (.iaload, 1) := by decide +kernel
theorem dL_law_622 : decode cL_law 622 = .ok (.invokevirtual 88, 3) := by decide +kernel
theorem dL_law_625 : decode cL_law 625 = .ok (.if_icmp .eq 379, 3) := by decide +kernel
theorem dL_law_628 : decode cL_law 628 = .ok (.iconst 0, 1) := by decide +kernel
theorem dL_law_629 : decode cL_law 629 = .ok (.ireturn, 1) := by decide +kernel
theorem dL_law_630 : decode cL_law 630 = .ok (.aload_n 1, 1) := by decide +kernel
theorem dL_law_631 : decode cL_law 631 = .ok (.aload_n 0, 1) := by decide +kernel
theorem dL_law_632 : decode cL_law 632 = .ok (.iload_n 3, 1) := by decide +kernel
theorem dL_law_633 : decode cL_law 633 = .ok (.iconst 1, 1) := by decide +kernel
theorem dL_law_634 : decode cL_law 634 = .ok (.iadd, 1) := by decide +kernel
theorem dL_law_635 : decode cL_law 635 = .ok (.iaload, 1) := by decide +kernel
theorem dL_law_636 : decode cL_law 636 = .ok (.aload_n 0, 1) := by decide +kernel
theorem dL_law_637 : decode cL_law 637 = .ok (.iload_n 3, 1) := by decide +kernel
theorem dL_law_638 : decode cL_law 638 = .ok (.iconst 2, 1) := by decide +kernel
theorem dL_law_639 : decode cL_law 639 = .ok (.iadd, 1) := by decide +kernel
theorem dL_law_640 : decode cL_law 640 = .ok (.iaload, 1) := by decide +kernel
theorem dL_law_641 : decode cL_law 641 = .ok (.aload_n 0, 1) := by decide +kernel
theorem dL_law_642 : decode cL_law 642 = .ok (.iload_n 3, 1) := by decide +kernel
theorem dL_law_643 : decode cL_law 643 = .ok (.iconst 3, 1) := by decide +kernel
theorem dL_law_644 : decode cL_law 644 = .ok (.iadd, 1) := by decide +kernel
theorem dL_law_645 : decode cL_law 645 = .ok (.iaload, 1) := by decide +kernel
theorem dL_law_646 : decode cL_law 646 = .ok (.aload_n 0, 1) := by decide +kernel
theorem dL_law_647 : decode cL_law 647 = .ok (.iload_n 3, 1) := by decide +kernel
theorem dL_law_648 : decode cL_law 648 = .ok (.iconst 4, 1) := by decide +kernel
theorem dL_law_649 : decode cL_law 649 = .ok (.iadd, 1) := by decide +kernel
theorem dL_law_650 : decode cL_law 650 = .ok (.iaload, 1) := by decide +kernel
theorem dL_law_651 : decode cL_law 651 = .ok (.invokevirtual 89, 3) := by decide +kernel
theorem dL_law_654 : decode cL_law 654 = .ok (.aload_n 2, 1) := by decide +kernel
theorem dL_law_655 : decode cL_law 655 = .ok (.aload_n 0, 1) := by decide +kernel
theorem dL_law_656 : decode cL_law 656 = .ok (.iload_n 3, 1) := by decide +kernel
theorem dL_law_657 : decode cL_law 657 = .ok (.iconst 1, 1) := by decide +kernel
theorem dL_law_658 : decode cL_law 658 = .ok (.iadd, 1) := by decide +kernel
theorem dL_law_659 : decode cL_law 659 = .ok (.iaload, 1) := by decide +kernel
theorem dL_law_660 : decode cL_law 660 = .ok (.aload_n 0, 1) := by decide +kernel
theorem dL_law_661 : decode cL_law 661 = .ok (.iload_n 3, 1) := by decide +kernel
theorem dL_law_662 : decode cL_law 662 = .ok (.iconst 2, 1) := by decide +kernel
theorem dL_law_663 : decode cL_law 663 = .ok (.iadd, 1) := by decide +kernel
theorem dL_law_664 : decode cL_law 664 = .ok (.iaload, 1) := by decide +kernel
theorem dL_law_665 : decode cL_law 665 = .ok (.aload_n 0, 1) := by decide +kernel
theorem dL_law_666 : decode cL_law 666 = .ok (.iload_n 3, 1) := by decide +kernel
theorem dL_law_667 : decode cL_law 667 = .ok (.iconst 3, 1) := by decide +kernel
theorem dL_law_668 : decode cL_law 668 = .ok (.iadd, 1) := by decide +kernel
theorem dL_law_669 : decode cL_law 669 = .ok (.iaload, 1) := by decide +kernel
theorem dL_law_670 : decode cL_law 670 = .ok (.aload_n 0, 1) := by decide +kernel
theorem dL_law_671 : decode cL_law 671 = .ok (.iload_n 3, 1) := by decide +kernel
theorem dL_law_672 : decode cL_law 672 = .ok (.iconst 4, 1) := by decide +kernel
theorem dL_law_673 : decode cL_law 673 = .ok (.iadd, 1) := by decide +kernel
theorem dL_law_674 : decode cL_law 674 = .ok (.iaload, 1) := by decide +kernel
theorem dL_law_675 : decode cL_law 675 = .ok (.invokevirtual 93, 3) := by decide +kernel
theorem dL_law_678 : decode cL_law 678 = .ok (.if_icmp .eq 326, 3) := by decide +kernel
theorem dL_law_681 : decode cL_law 681 = .ok (.iconst 0, 1) := by decide +kernel
theorem dL_law_682 : decode cL_law 682 = .ok (.ireturn, 1) := by decide +kernel
theorem dL_law_683 : decode cL_law 683 = .ok (.aload_n 1, 1) := by decide +kernel
theorem dL_law_684 : decode cL_law 684 = .ok (.aload_n 0, 1) := by decide +kernel
theorem dL_law_685 : decode cL_law 685 = .ok (.iload_n 3, 1) := by decide +kernel
theorem dL_law_686 : decode cL_law 686 = .ok (.iconst 1, 1) := by decide +kernel
theorem dL_law_687 : decode cL_law 687 = .ok (.iadd, 1) := by decide +kernel
theorem dL_law_688 : decode cL_law 688 = .ok (.iaload, 1) := by decide +kernel
theorem dL_law_689 : decode cL_law 689 = .ok (.aload_n 0, 1) := by decide +kernel
theorem dL_law_690 : decode cL_law 690 = .ok (.iload_n 3, 1) := by decide +kernel
theorem dL_law_691 : decode cL_law 691 = .ok (.iconst 2, 1) := by decide +kernel
theorem dL_law_692 : decode cL_law 692 = .ok (.iadd, 1) := by decide +kernel
theorem dL_law_693 : decode cL_law 693 = .ok (.iaload, 1) := by decide +kernel
theorem dL_law_694 : decode cL_law 694 = .ok (.invokevirtual 94, 3) := by decide +kernel
theorem dL_law_697 : decode cL_law 697 = .ok (.aload_n 2, 1) := by decide +kernel
theorem dL_law_698 : decode cL_law 698 = .ok (.aload_n 0, 1) := by decide +kernel
theorem dL_law_699 : decode cL_law 699 = .ok (.iload_n 3, 1) := by decide +kernel
theorem dL_law_700 : decode cL_law 700 = .ok (.iconst 1, 1) := by decide +kernel
theorem dL_law_701 : decode cL_law 701 = .ok (.iadd, 1) := by decide +kernel
theorem dL_law_702 : decode cL_law 702 = .ok (.iaload, 1) := by decide +kernel
theorem dL_law_703 : decode cL_law 703 = .ok (.aload_n 0, 1) := by decide +kernel
theorem dL_law_704 : decode cL_law 704 = .ok (.iload_n 3, 1) := by decide +kernel
theorem dL_law_705 : decode cL_law 705 = .ok (.iconst 2, 1) := by decide +kernel
theorem dL_law_706 : decode cL_law 706 = .ok (.iadd, 1) := by decide +kernel
theorem dL_law_707 : decode cL_law 707 = .ok (.iaload, 1) := by decide +kernel
theorem dL_law_708 : decode cL_law 708 = .ok (.invokevirtual 97, 3) := by decide +kernel
theorem dL_law_711 : decode cL_law 711 = .ok (.if_icmp .eq 293, 3) := by decide +kernel
theorem dL_law_714 : decode cL_law 714 = .ok (.iconst 0, 1) := by decide +kernel
theorem dL_law_715 : decode cL_law 715 = .ok (.ireturn, 1) := by decide +kernel
theorem dL_law_716 : decode cL_law 716 = .ok (.aload_n 1, 1) := by decide +kernel
theorem dL_law_717 : decode cL_law 717 = .ok (.invokevirtual 98, 3) := by decide +kernel
theorem dL_law_720 : decode cL_law 720 = .ok (.aload_n 2, 1) := by decide +kernel
theorem dL_law_721 : decode cL_law 721 = .ok (.invokevirtual 101, 3) := by decide +kernel
theorem dL_law_724 : decode cL_law 724 = .ok (.if_icmp .eq 280, 3) := by decide +kernel
theorem dL_law_727 : decode cL_law 727 = .ok (.iconst 0, 1) := by decide +kernel
theorem dL_law_728 : decode cL_law 728 = .ok (.ireturn, 1) := by decide +kernel
theorem dL_law_729 : decode cL_law 729 = .ok (.aload_n 1, 1) := by decide +kernel
theorem dL_law_730 : decode cL_law 730 = .ok (.aload_n 0, 1) := by decide +kernel
theorem dL_law_731 : decode cL_law 731 = .ok (.iload_n 3, 1) := by decide +kernel
theorem dL_law_732 : decode cL_law 732 = .ok (.iconst 1, 1) := by decide +kernel
theorem dL_law_733 : decode cL_law 733 = .ok (.iadd, 1) := by decide +kernel
theorem dL_law_734 : decode cL_law 734 = .ok (.iaload, 1) := by decide +kernel
theorem dL_law_735 : decode cL_law 735 = .ok (.invokevirtual 102, 3) := by decide +kernel
theorem dL_law_738 : decode cL_law 738 = .ok (.aload_n 2, 1) := by decide +kernel
theorem dL_law_739 : decode cL_law 739 = .ok (.aload_n 0, 1) := by decide +kernel
theorem dL_law_740 : decode cL_law 740 = .ok (.iload_n 3, 1) := by decide +kernel
theorem dL_law_741 : decode cL_law 741 = .ok (.iconst 1, 1) := by decide +kernel
theorem dL_law_742 : decode cL_law 742 = .ok (.iadd, 1) := by decide +kernel
theorem dL_law_743 : decode cL_law 743 = .ok (.iaload, 1) := by decide +kernel
theorem dL_law_744 : decode cL_law 744 = .ok (.invokevirtual 105, 3) := by decide +kernel
theorem dL_law_747 : decode cL_law 747 = .ok (.if_icmp .eq 257, 3) := by decide +kernel
theorem dL_law_750 : decode cL_law 750 = .ok (.iconst 0, 1) := by decide +kernel
theorem dL_law_751 : decode cL_law 751 = .ok (.ireturn, 1) := by decide +kernel
theorem dL_law_752 : decode cL_law 752 = .ok (.aload_n 1, 1) := by decide +kernel
theorem dL_law_753 : decode cL_law 753 = .ok (.invokevirtual 106, 3) := by decide +kernel
theorem dL_law_756 : decode cL_law 756 = .ok (.aload_n 2, 1) := by decide +kernel
theorem dL_law_757 : decode cL_law 757 = .ok (.invokevirtual 109, 3) := by decide +kernel
theorem dL_law_760 : decode cL_law 760 = .ok (.if_icmp .eq 244, 3) := by decide +kernel
theorem dL_law_763 : decode cL_law 763 = .ok (.iconst 0, 1) := by decide +kernel
theorem dL_law_764 : decode cL_law 764 = .ok (.ireturn, 1) := by decide +kernel
theorem dL_law_765 : decode cL_law 765 = .ok (.aload_n 1, 1) := by decide +kernel
theorem dL_law_766 : decode cL_law 766 = .ok (.aload_n 0, 1) := by decide +kernel
theorem dL_law_767 : decode cL_law 767 = .ok (.iload_n 3, 1) := by decide +kernel
theorem dL_law_768 : decode cL_law 768 = .ok (.iconst 1, 1) := by decide +kernel
theorem dL_law_769 : decode cL_law 769 = .ok (.iadd, 1) := by decide +kernel
theorem dL_law_770 : decode cL_law 770 = .ok (.iaload, 1) := by decide +kernel
theorem dL_law_771 : decode cL_law 771 = .ok (.aload_n 0, 1) := by decide +kernel
theorem dL_law_772 : decode cL_law 772 = .ok (.iload_n 3, 1) := by decide +kernel
theorem dL_law_773 : decode cL_law 773 = .ok (.iconst 2, 1) := by decide +kernel
theorem dL_law_774 : decode cL_law 774 = .ok (.iadd, 1) := by decide +kernel
theorem dL_law_775 : decode cL_law 775 = .ok (.iaload, 1) := by decide +kernel
theorem dL_law_776 : decode cL_law 776 = .ok (.aload_n 0, 1) := by decide +kernel
theorem dL_law_777 : decode cL_law 777 = .ok (.iload_n 3, 1) := by decide +kernel
theorem dL_law_778 : decode cL_law 778 = .ok (.iconst 3, 1) := by decide +kernel
theorem dL_law_779 : decode cL_law 779 = .ok (.iadd, 1) := by decide +kernel
theorem dL_law_780 : decode cL_law 780 = .ok (.iaload, 1) := by decide +kernel
theorem dL_law_781 : decode cL_law 781 = .ok (.invokevirtual 110, 3) := by decide +kernel
theorem dL_law_784 : decode cL_law 784 = .ok (.aload_n 2, 1) := by decide +kernel
theorem dL_law_785 : decode cL_law 785 = .ok (.aload_n 0, 1) := by decide +kernel
theorem dL_law_786 : decode cL_law 786 = .ok (.iload_n 3, 1) := by decide +kernel
theorem dL_law_787 : decode cL_law 787 = .ok (.iconst 1, 1) := by decide +kernel
theorem dL_law_788 : decode cL_law 788 = .ok (.iadd, 1) := by decide +kernel
theorem dL_law_789 : decode cL_law 789 = .ok (.iaload, 1) := by decide +kernel
theorem dL_law_790 : decode cL_law 790 = .ok (.aload_n 0, 1) := by decide +kernel
theorem dL_law_791 : decode cL_law 791 = .ok (.iload_n 3, 1) := by decide +kernel
theorem dL_law_792 : decode cL_law 792 = .ok (.iconst 2, 1) := by decide +kernel
theorem dL_law_793 : decode cL_law 793 = .ok (.iadd, 1) := by decide +kernel
theorem dL_law_794 : decode cL_law 794 = .ok (.iaload, 1) := by decide +kernel
theorem dL_law_795 : decode cL_law 795 = .ok (.aload_n 0, 1) := by decide +kernel
theorem dL_law_796 : decode cL_law 796 = .ok (.iload_n 3, 1) := by decide +kernel
theorem dL_law_797 : decode cL_law 797 = .ok (.iconst 3, 1) := by decide +kernel
theorem dL_law_798 : decode cL_law 798 = .ok (.iadd, 1) := by decide +kernel
theorem dL_law_799 : decode cL_law 799 = .ok (.iaload, 1) := by decide +kernel
theorem dL_law_800 : decode cL_law 800 = .ok (.invokevirtual 113, 3) := by decide +kernel
theorem dL_law_803 : decode cL_law 803 = .ok (.if_icmp .eq 201, 3) := by decide +kernel
theorem dL_law_806 : decode cL_law 806 = .ok (.iconst 0, 1) := by decide +kernel
theorem dL_law_807 : decode cL_law 807 = .ok (.ireturn, 1) := by decide +kernel
theorem dL_law_808 : decode cL_law 808 = .ok (.aload_n 1, 1) := by decide +kernel
theorem dL_law_809 : decode cL_law 809 = .ok (.aload_n 0, 1) := by decide +kernel
theorem dL_law_810 : decode cL_law 810 = .ok (.iload_n 3, 1) := by decide +kernel
theorem dL_law_811 : decode cL_law 811 = .ok (.iconst 1, 1) := by decide +kernel
theorem dL_law_812 : decode cL_law 812 = .ok (.iadd, 1) := by decide +kernel
theorem dL_law_813 : decode cL_law 813 = .ok (.iaload, 1) := by decide +kernel
theorem dL_law_814 : decode cL_law 814 = .ok (.aload_n 0, 1) := by decide +kernel
theorem dL_law_815 : decode cL_law 815 = .ok (.iload_n 3, 1) := by decide +kernel
theorem dL_law_816 : decode cL_law 816 = .ok (.iconst 2, 1) := by decide +kernel
theorem dL_law_817 : decode cL_law 817 = .ok (.iadd, 1) := by decide +kernel
theorem dL_law_818 : decode cL_law 818 = .ok (.iaload, 1) := by decide +kernel
theorem dL_law_819 : decode cL_law 819 = .ok (.invokevirtual 114, 3) := by decide +kernel
theorem dL_law_822 : decode cL_law 822 = .ok (.aload_n 2, 1) := by decide +kernel
theorem dL_law_823 : decode cL_law 823 = .ok (.aload_n 0, 1) := by decide +kernel
theorem dL_law_824 : decode cL_law 824 = .ok (.iload_n 3, 1) := by decide +kernel
theorem dL_law_825 : decode cL_law 825 = .ok (.iconst 1, 1) := by decide +kernel
theorem dL_law_826 : decode cL_law 826 = .ok (.iadd, 1) := by decide +kernel
theorem dL_law_827 : decode cL_law 827 = .ok (.iaload, 1) := by decide +kernel
theorem dL_law_828 : decode cL_law 828 = .ok (.aload_n 0, 1) := by decide +kernel
theorem dL_law_829 : decode cL_law 829 = .ok (.iload_n 3, 1) := by decide +kernel
theorem dL_law_830 : decode cL_law 830 = .ok (.iconst 2, 1) := by decide +kernel
theorem dL_law_831 : decode cL_law 831 = .ok (.iadd, 1) := by decide +kernel
theorem dL_law_832 : decode cL_law 832 = .ok (.iaload, 1) := by decide +kernel
theorem dL_law_833 : decode cL_law 833 = .ok (.invokevirtual 117, 3) := by decide +kernel
theorem dL_law_836 : decode cL_law 836 = .ok (.if_icmp .eq 168, 3) := by decide +kernel
theorem dL_law_839 : decode cL_law 839 = .ok (.iconst 0, 1) := by decide +kernel
theorem dL_law_840 : decode cL_law 840 = .ok (.ireturn, 1) := by decide +kernel
theorem dL_law_841 : decode cL_law 841 = .ok (.aload_n 1, 1) := by decide +kernel
theorem dL_law_842 : decode cL_law 842 = .ok (.aload_n 0, 1) := by decide +kernel
theorem dL_law_843 : decode cL_law 843 = .ok (.iload_n 3, 1) := by decide +kernel
theorem dL_law_844 : decode cL_law 844 = .ok (.iconst 1, 1) := by decide +kernel
theorem dL_law_845 : decode cL_law 845 = .ok (.iadd, 1) := by decide +kernel
theorem dL_law_846 : decode cL_law 846 = .ok (.iaload, 1) := by decide +kernel
theorem dL_law_847 : decode cL_law 847 = .ok (.aload_n 0, 1) := by decide +kernel
theorem dL_law_848 : decode cL_law 848 = .ok (.iload_n 3, 1) := by decide +kernel
theorem dL_law_849 : decode cL_law 849 = .ok (.iconst 2, 1) := by decide +kernel
theorem dL_law_850 : decode cL_law 850 = .ok (.iadd, 1) := by decide +kernel
theorem dL_law_851 : decode cL_law 851 = .ok (.iaload, 1) := by decide +kernel
theorem dL_law_852 : decode cL_law 852 = .ok (.invokevirtual 118, 3) := by decide +kernel
theorem dL_law_855 : decode cL_law 855 = .ok (.aload_n 2, 1) := by decide +kernel
theorem dL_law_856 : decode cL_law 856 = .ok (.aload_n 0, 1) := by decide +kernel
theorem dL_law_857 : decode cL_law 857 = .ok (.iload_n 3, 1) := by decide +kernel
theorem dL_law_858 : decode cL_law 858 = .ok (.iconst 1, 1) := by decide +kernel
theorem dL_law_859 : decode cL_law 859 = .ok (.iadd, 1) := by decide +kernel
theorem dL_law_860 : decode cL_law 860 = .ok (.iaload, 1) := by decide +kernel
theorem dL_law_861 : decode cL_law 861 = .ok (.aload_n 0, 1) := by decide +kernel
theorem dL_law_862 : decode cL_law 862 = .ok (.iload_n 3, 1) := by decide +kernel
theorem dL_law_863 : decode cL_law 863 = .ok (.iconst 2, 1) := by decide +kernel
theorem dL_law_864 : decode cL_law 864 = .ok (.iadd, 1) := by decide +kernel
theorem dL_law_865 : decode cL_law 865 = .ok (.iaload, 1) := by decide +kernel
theorem dL_law_866 : decode cL_law 866 = .ok (.invokevirtual 121, 3) := by decide +kernel
theorem dL_law_869 : decode cL_law 869 = .ok (.if_icmp .eq 135, 3) := by decide +kernel
theorem dL_law_872 : decode cL_law 872 = .ok (.iconst 0, 1) := by decide +kernel
theorem dL_law_873 : decode cL_law 873 = .ok (.ireturn, 1) := by decide +kernel
theorem dL_law_874 : decode cL_law 874 = .ok (.aload_n 1, 1) := by decide +kernel
theorem dL_law_875 : decode cL_law 875 = .ok (.aload_n 0, 1) := by decide +kernel
theorem dL_law_876 : decode cL_law 876 = .ok (.iload_n 3, 1) := by decide +kernel
theorem dL_law_877 : decode cL_law 877 = .ok (.iconst 1, 1) := by decide +kernel
theorem dL_law_878 : decode cL_law 878 = .ok (.iadd, 1) := by decide +kernel
theorem dL_law_879 : decode cL_law 879 = .ok (.iaload, 1) := by decide +kernel
theorem dL_law_880 : decode cL_law 880 = .ok (.invokevirtual 122, 3) := by decide +kernel
theorem dL_law_883 : decode cL_law 883 = .ok (.aload_n 2, 1) := by decide +kernel
theorem dL_law_884 : decode cL_law 884 = .ok (.aload_n 0, 1) := by decide +kernel
theorem dL_law_885 : decode cL_law 885 = .ok (.iload_n 3, 1) := by decide +kernel
theorem dL_law_886 : decode cL_law 886 = .ok (.iconst 1, 1) := by decide +kernel
theorem dL_law_887 : decode cL_law 887 = .ok (.iadd, 1) := by decide +kernel
theorem dL_law_888 : decode cL_law 888 = .ok (.iaload, 1) := by decide +kernel
theorem dL_law_889 : decode cL_law 889 = .ok (.invokevirtual 126, 3) := by decide +kernel
theorem dL_law_892 : decode cL_law 892 = .ok (.lcmp, 1) := by decide +kernel
theorem dL_law_893 : decode cL_law 893 = .ok (.ifCond .eq 111, 3) := by decide +kernel
theorem dL_law_896 : decode cL_law 896 = .ok (.iconst 0, 1) := by decide +kernel
theorem dL_law_897 : decode cL_law 897 = .ok (.ireturn, 1) := by decide +kernel
theorem dL_law_898 : decode cL_law 898 = .ok (.aload_n 1, 1) := by decide +kernel
theorem dL_law_899 : decode cL_law 899 = .ok (.aload_n 0, 1) := by decide +kernel
theorem dL_law_900 : decode cL_law 900 = .ok (.iload_n 3, 1) := by decide +kernel
theorem dL_law_901 : decode cL_law 901 = .ok (.iconst 1, 1) := by decide +kernel
theorem dL_law_902 : decode cL_law 902 = .ok (.iadd, 1) := by decide +kernel
theorem dL_law_903 : decode cL_law 903 = .ok (.iaload, 1) := by decide +kernel
theorem dL_law_904 : decode cL_law 904 = .ok (.invokevirtual 127, 3) := by decide +kernel
theorem dL_law_907 : decode cL_law 907 = .ok (.aload_n 2, 1) := by decide +kernel
theorem dL_law_908 : decode cL_law 908 = .ok (.aload_n 0, 1) := by decide +kernel
theorem dL_law_909 : decode cL_law 909 = .ok (.iload_n 3, 1) := by decide +kernel
theorem dL_law_910 : decode cL_law 910 = .ok (.iconst 1, 1) := by decide +kernel
theorem dL_law_911 : decode cL_law 911 = .ok (.iadd, 1) := by decide +kernel
theorem dL_law_912 : decode cL_law 912 = .ok (.iaload, 1) := by decide +kernel
theorem dL_law_913 : decode cL_law 913 = .ok (.invokevirtual 130, 3) := by decide +kernel
theorem dL_law_916 : decode cL_law 916 = .ok (.if_icmp .eq 88, 3) := by decide +kernel
theorem dL_law_919 : decode cL_law 919 = .ok (.iconst 0, 1) := by decide +kernel
theorem dL_law_920 : decode cL_law 920 = .ok (.ireturn, 1) := by decide +kernel
theorem dL_law_921 : decode cL_law 921 = .ok (.aload_n 1, 1) := by decide +kernel
theorem dL_law_922 : decode cL_law 922 = .ok (.aload_n 0, 1) := by decide +kernel
theorem dL_law_923 : decode cL_law 923 = .ok (.iload_n 3, 1) := by decide +kernel
theorem dL_law_924 : decode cL_law 924 = .ok (.iconst 1, 1) := by decide +kernel
theorem dL_law_925 : decode cL_law 925 = .ok (.iadd, 1) := by decide +kernel
theorem dL_law_926 : decode cL_law 926 = .ok (.iaload, 1) := by decide +kernel
theorem dL_law_927 : decode cL_law 927 = .ok (.invokevirtual 131, 3) := by decide +kernel
theorem dL_law_930 : decode cL_law 930 = .ok (.aload_n 2, 1) := by decide +kernel
theorem dL_law_931 : decode cL_law 931 = .ok (.aload_n 0, 1) := by decide +kernel
theorem dL_law_932 : decode cL_law 932 = .ok (.iload_n 3, 1) := by decide +kernel
theorem dL_law_933 : decode cL_law 933 = .ok (.iconst 1, 1) := by decide +kernel
theorem dL_law_934 : decode cL_law 934 = .ok (.iadd, 1) := by decide +kernel
theorem dL_law_935 : decode cL_law 935 = .ok (.iaload, 1) := by decide +kernel
theorem dL_law_936 : decode cL_law 936 = .ok (.invokevirtual 134, 3) := by decide +kernel
theorem dL_law_939 : decode cL_law 939 = .ok (.if_icmp .eq 65, 3) := by decide +kernel
theorem dL_law_942 : decode cL_law 942 = .ok (.iconst 0, 1) := by decide +kernel
theorem dL_law_943 : decode cL_law 943 = .ok (.ireturn, 1) := by decide +kernel
theorem dL_law_944 : decode cL_law 944 = .ok (.aload_n 1, 1) := by decide +kernel
theorem dL_law_945 : decode cL_law 945 = .ok (.aload_n 0, 1) := by decide +kernel
theorem dL_law_946 : decode cL_law 946 = .ok (.iload_n 3, 1) := by decide +kernel
theorem dL_law_947 : decode cL_law 947 = .ok (.iconst 1, 1) := by decide +kernel
theorem dL_law_948 : decode cL_law 948 = .ok (.iadd, 1) := by decide +kernel
theorem dL_law_949 : decode cL_law 949 = .ok (.iaload, 1) := by decide +kernel
theorem dL_law_950 : decode cL_law 950 = .ok (.invokevirtual 135, 3) := by decide +kernel
theorem dL_law_953 : decode cL_law 953 = .ok (.aload_n 2, 1) := by decide +kernel
theorem dL_law_954 : decode cL_law 954 = .ok (.aload_n 0, 1) := by decide +kernel
theorem dL_law_955 : decode cL_law 955 = .ok (.iload_n 3, 1) := by decide +kernel
theorem dL_law_956 : decode cL_law 956 = .ok (.iconst 1, 1) := by decide +kernel
theorem dL_law_957 : decode cL_law 957 = .ok (.iadd, 1) := by decide +kernel
theorem dL_law_958 : decode cL_law 958 = .ok (.iaload, 1) := by decide +kernel
theorem dL_law_959 : decode cL_law 959 = .ok (.invokevirtual 138, 3) := by decide +kernel
theorem dL_law_962 : decode cL_law 962 = .ok (.if_icmp .eq 42, 3) := by decide +kernel
theorem dL_law_965 : decode cL_law 965 = .ok (.iconst 0, 1) := by decide +kernel
theorem dL_law_966 : decode cL_law 966 = .ok (.ireturn, 1) := by decide +kernel
theorem dL_law_967 : decode cL_law 967 = .ok (.aload_n 1, 1) := by decide +kernel
theorem dL_law_968 : decode cL_law 968 = .ok (.aload_n 0, 1) := by decide +kernel
theorem dL_law_969 : decode cL_law 969 = .ok (.iload_n 3, 1) := by decide +kernel
theorem dL_law_970 : decode cL_law 970 = .ok (.iconst 1, 1) := by decide +kernel
theorem dL_law_971 : decode cL_law 971 = .ok (.iadd, 1) := by decide +kernel
theorem dL_law_972 : decode cL_law 972 = .ok (.iaload, 1) := by decide +kernel
theorem dL_law_973 : decode cL_law 973 = .ok (.invokevirtual 139, 3) := by decide +kernel
theorem dL_law_976 : decode cL_law 976 = .ok (.aload_n 2, 1) := by decide +kernel
theorem dL_law_977 : decode cL_law 977 = .ok (.aload_n 0, 1) := by decide +kernel
theorem dL_law_978 : decode cL_law 978 = .ok (.iload_n 3, 1) := by decide +kernel
theorem dL_law_979 : decode cL_law 979 = .ok (.iconst 1, 1) := by decide +kernel
theorem dL_law_980 : decode cL_law 980 = .ok (.iadd, 1) := by decide +kernel
theorem dL_law_981 : decode cL_law 981 = .ok (.iaload, 1) := by decide +kernel
theorem dL_law_982 : decode cL_law 982 = .ok (.invokevirtual 142, 3) := by decide +kernel
theorem dL_law_985 : decode cL_law 985 = .ok (.if_icmp .eq 19, 3) := by decide +kernel
theorem dL_law_988 : decode cL_law 988 = .ok (.iconst 0, 1) := by decide +kernel
theorem dL_law_989 : decode cL_law 989 = .ok (.ireturn, 1) := by decide +kernel
theorem dL_law_990 : decode cL_law 990 = .ok (.aload_n 1, 1) := by decide +kernel
theorem dL_law_991 : decode cL_law 991 = .ok (.invokevirtual 143, 3) := by decide +kernel
theorem dL_law_994 : decode cL_law 994 = .ok (.aload_n 2, 1) := by decide +kernel
theorem dL_law_995 : decode cL_law 995 = .ok (.invokevirtual 147, 3) := by decide +kernel
theorem dL_law_998 : decode cL_law 998 = .ok (.lcmp, 1) := by decide +kernel
theorem dL_law_999 : decode cL_law 999 = .ok (.ifCond .eq 5, 3) := by decide +kernel
theorem dL_law_1002 : decode cL_law 1002 = .ok (.iconst 0, 1) := by decide +kernel
theorem dL_law_1003 : decode cL_law 1003 = .ok (.ireturn, 1) := by decide +kernel
theorem dL_law_1004 : decode cL_law 1004 = .ok (.iinc 3 5, 3) := by decide +kernel
theorem dL_law_1007 : decode cL_law 1007 = .ok (.goto (-989), 3) := by decide +kernel
theorem dL_law_1010 : decode cL_law 1010 = .ok (.iconst 1, 1) := by decide +kernel
theorem dL_law_1011 : decode cL_law 1011 = .ok (.ireturn, 1) := by decide +kernel
end
section
theorem dX0_init_0 : decode cX0_init 0 = .ok (.aload_n 0, 1) := by decide +kernel
theorem dX0_init_1 : decode cX0_init 1 = .ok (.invokespecial 1, 3) := by decide +kernel
theorem dX0_init_4 : decode cX0_init 4 = .ok (.return_, 1) := by decide +kernel
theorem dX0_place_0 : decode cX0_place 0 = .ok (.aload_n 0, 1) := by decide +kernel
theorem dX0_place_1 : decode cX0_place 1 = .ok (.aload_n 1, 1) := by decide +kernel
theorem dX0_place_2 : decode cX0_place 2 = .ok (.iload_n 2, 1) := by decide +kernel
theorem dX0_place_3 : decode cX0_place 3 = .ok (.iload_n 3, 1) := by decide +kernel
theorem dX0_place_4 : decode cX0_place 4 = .ok (.invokespecial 7, 3) := by decide +kernel
theorem dX0_place_7 : decode cX0_place 7 = .ok (.istore 4, 2) := by decide +kernel
theorem dX0_place_9 : decode cX0_place 9 = .ok (.aload_n 1, 1) := by decide +kernel
theorem dX0_place_10 : decode cX0_place 10 = .ok (.iload 4, 2) := by decide +kernel
theorem dX0_place_12 : decode cX0_place 12 = .ok (.aload_n 0, 1) := by decide +kernel
theorem dX0_place_13 : decode cX0_place 13 = .ok (.iload_n 3, 1) := by decide +kernel
theorem dX0_place_14 : decode cX0_place 14 = .ok (.invokevirtual 11, 3) := by decide +kernel
theorem dX0_place_17 : decode cX0_place 17 = .ok (.invokevirtual 17, 3) := by decide +kernel
theorem dX0_place_20 : decode cX0_place 20 = .ok (.ifCond .eq 8, 3) := by decide +kernel
theorem dX0_place_23 : decode cX0_place 23 = .ok (.iload 4, 2) := by decide +kernel
theorem dX0_place_25 : decode cX0_place 25 = .ok (.goto 7, 3) := by decide +kernel
theorem dX0_place_28 : decode cX0_place 28 = .ok (.aload_n 1, 1) := by decide +kernel
theorem dX0_place_29 : decode cX0_place 29 = .ok (.invokevirtual 23, 3) := by decide +kernel
theorem dX0_place_32 : decode cX0_place 32 = .ok (.ireturn, 1) := by decide +kernel
theorem dX1_init_0 : decode cX1_init 0 = .ok (.aload_n 0, 1) := by decide +kernel
theorem dX1_init_1 : decode cX1_init 1 = .ok (.invokespecial 3, 3) := by decide +kernel
theorem dX1_init_4 : decode cX1_init 4 = .ok (.aload_n 0, 1) := by decide +kernel
theorem dX1_init_5 : decode cX1_init 5 = .ok (.bipush 7, 2) := by decide +kernel
theorem dX1_init_7 : decode cX1_init 7 = .ok (.anewarray 9, 3) := by decide +kernel
theorem dX1_init_10 : decode cX1_init 10 = .ok (.putfield 11, 3) := by decide +kernel
theorem dX1_init_13 : decode cX1_init 13 = .ok (.aload_n 0, 1) := by decide +kernel
theorem dX1_init_14 : decode cX1_init 14 = .ok (.bipush 6, 2) := by decide +kernel
theorem dX1_init_16 : decode cX1_init 16 = .ok (.newarray .int, 2) := by decide +kernel
theorem dX1_init_18 : decode cX1_init 18 = .ok (.putfield 17, 3) := by decide +kernel
theorem dX1_init_21 : decode cX1_init 21 = .ok (.aload_n 0, 1) := by decide +kernel
theorem dX1_init_22 : decode cX1_init 22 = .ok (.aload_n 1, 1) := by decide +kernel
theorem dX1_init_23 : decode cX1_init 23 = .ok (.getfield 21, 3) := by decide +kernel
theorem dX1_init_26 : decode cX1_init 26 = .ok (.putfield 27, 3) := by decide +kernel
theorem dX1_init_29 : decode cX1_init 29 = .ok (.aload_n 0, 1) := by decide +kernel
theorem dX1_init_30 : decode cX1_init 30 = .ok (.aload_n 1, 1) := by decide +kernel
theorem dX1_init_31 : decode cX1_init 31 = .ok (.getfield 28, 3) := by decide +kernel
theorem dX1_init_34 : decode cX1_init 34 = .ok (.putfield 32, 3) := by decide +kernel
theorem dX1_init_37 : decode cX1_init 37 = .ok (.iconst 0, 1) := by decide +kernel
theorem dX1_init_38 : decode cX1_init 38 = .ok (.istore_n 2, 1) := by decide +kernel
theorem dX1_init_39 : decode cX1_init 39 = .ok (.iload_n 2, 1) := by decide +kernel
theorem dX1_init_40 : decode cX1_init 40 = .ok (.aload_n 0, 1) := by decide +kernel
theorem dX1_init_41 : decode cX1_init 41 = .ok (.getfield 11, 3) := by decide +kernel
theorem dX1_init_44 : decode cX1_init 44 = .ok (.arraylength, 1) := by decide +kernel
theorem dX1_init_45 : decode cX1_init 45 = .ok (.if_icmp .ge 26, 3) := by decide +kernel
theorem dX1_init_48 : decode cX1_init 48 = .ok (.aload_n 0, 1) := by decide +kernel
theorem dX1_init_49 : decode cX1_init 49 = .ok (.getfield 11, 3) := by decide +kernel
theorem dX1_init_52 : decode cX1_init 52 = .ok (.iload_n 2, 1) := by decide +kernel
theorem dX1_init_53 : decode cX1_init 53 = .ok (.new 9, 3) := by decide +kernel
theorem dX1_init_56 : decode cX1_init 56 = .ok (.dup, 1) := by decide +kernel
theorem dX1_init_57 : decode cX1_init 57 = .ok (.aload_n 0, 1) := by decide +kernel
theorem dX1_init_58 : decode cX1_init 58 = .ok (.getfield 27, 3) := by decide +kernel
theorem dX1_init_61 : decode cX1_init 61 = .ok (.invokespecial 35, 3) := by decide +kernel
theorem dX1_init_64 : decode cX1_init 64 = .ok (.aastore, 1) := by decide +kernel
theorem dX1_init_65 : decode cX1_init 65 = .ok (.iinc 2 1, 3) := by decide +kernel
theorem dX1_init_68 : decode cX1_init 68 = .ok (.goto (-29), 3) := by decide +kernel
theorem dX1_init_71 : decode cX1_init 71 = .ok (.return_, 1) := by decide +kernel
theorem dX1_fresh_0 : decode cX1_fresh 0 = .ok (.aload_n 0, 1) := by decide +kernel
theorem dX1_fresh_1 : decode cX1_fresh 1 = .ok (.getfield 11, 3) := by decide +kernel
theorem dX1_fresh_4 : decode cX1_fresh 4 = .ok (.iconst 0, 1) := by decide +kernel
theorem dX1_fresh_5 : decode cX1_fresh 5 = .ok (.aaload, 1) := by decide +kernel
theorem dX1_fresh_6 : decode cX1_fresh 6 = .ok (.aload_n 0, 1) := by decide +kernel
theorem dX1_fresh_7 : decode cX1_fresh 7 = .ok (.getfield 32, 3) := by decide +kernel
theorem dX1_fresh_10 : decode cX1_fresh 10 = .ok (.invokevirtual 38, 3) := by decide +kernel
theorem dX1_fresh_13 : decode cX1_fresh 13 = .ok (.aload_n 0, 1) := by decide +kernel
theorem dX1_fresh_14 : decode cX1_fresh 14 = .ok (.getfield 11, 3) := by decide +kernel
theorem dX1_fresh_17 : decode cX1_fresh 17 = .ok (.iconst 0, 1) := by decide +kernel
theorem dX1_fresh_18 : decode cX1_fresh 18 = .ok (.aaload, 1) := by decide +kernel
theorem dX1_fresh_19 : decode cX1_fresh 19 = .ok (.areturn, 1) := by decide +kernel
theorem dX1_isDeepest_0 : decode cX1_isDeepest 0 = .ok (.iload_n 1, 1) := by decide +kernel
theorem dX1_isDeepest_1 : decode cX1_isDeepest 1 = .ok (.ifCond .lt 9, 3) := by decide +kernel
theorem dX1_isDeepest_4 : decode cX1_isDeepest 4 = .ok (.iload_n 1, 1) := by decide +kernel
theorem dX1_isDeepest_5 : decode cX1_isDeepest 5 = .ok (.bipush 6, 2) := by decide +kernel
theorem dX1_isDeepest_7 : decode cX1_isDeepest 7 = .ok (.if_icmp .lt 7, 3) := by decide +kernel
theorem dX1_isDeepest_10 : decode cX1_isDeepest 10 = .ok (.iconst 1, 1) := by decide +kernel
theorem dX1_isDeepest_11 : decode cX1_isDeepest 11 = .ok (.goto 4, 3) := by decide +kernel
theorem dX1_isDeepest_14 : decode cX1_isDeepest 14 = .ok (.iconst 0, 1) := by decide +kernel
theorem dX1_isDeepest_15 : decode cX1_isDeepest 15 = .ok (.ireturn, 1) := by decide +kernel
theorem dX1_afterFebruary_0 : decode cX1_afterFebruary 0 = .ok (.aload_n 0, 1) := by decide +kernel
theorem dX1_afterFebruary_1 : decode cX1_afterFebruary 1 = .ok (.invokevirtual 42, 3) := by decide +kernel
theorem dX1_afterFebruary_4 : decode cX1_afterFebruary 4 = .ok (.astore_n 1, 1) := by decide +kernel
theorem dX1_afterFebruary_5 : decode cX1_afterFebruary 5 = .ok (.iconst 0, 1) := by decide +kernel
theorem dX1_afterFebruary_6 : decode cX1_afterFebruary 6 = .ok (.istore_n 2, 1) := by decide +kernel
theorem dX1_afterFebruary_7 : decode cX1_afterFebruary 7 = .ok (.iload_n 2, 1) := by decide +kernel
theorem dX1_afterFebruary_8 : decode cX1_afterFebruary 8 = .ok (.aload_n 0, 1) := by decide +kernel
theorem dX1_afterFebruary_9 : decode cX1_afterFebruary 9 = .ok (.getfield 27, 3) := by decide +kernel
theorem dX1_afterFebruary_12 : decode cX1_afterFebruary 12 = .ok (.getfield 46, 3) := by decide +kernel
theorem dX1_afterFebruary_15 : decode cX1_afterFebruary 15 = .ok (.if_icmp .ge 14, 3) := by decide +kernel
theorem dX1_afterFebruary_18 : decode cX1_afterFebruary 18 = .ok (.aload_n 1, 1) := by decide +kernel
theorem dX1_afterFebruary_19 : decode cX1_afterFebruary 19 = .ok (.iload_n 2, 1) := by decide +kernel
theorem dX1_afterFebruary_20 : decode cX1_afterFebruary 20 = .ok (.invokevirtual 52, 3) := by decide +kernel
theorem dX1_afterFebruary_23 : decode cX1_afterFebruary 23 = .ok (.iinc 2 1, 3) := by decide +kernel
theorem dX1_afterFebruary_26 : decode cX1_afterFebruary 26 = .ok (.goto (-19), 3) := by decide +kernel
theorem dX1_afterFebruary_29 : decode cX1_afterFebruary 29 = .ok (.aload_n 1, 1) := by decide +kernel
theorem dX1_afterFebruary_30 : decode cX1_afterFebruary 30 = .ok (.areturn, 1) := by decide +kernel
theorem dX1_ordersWon_0 : decode cX1_ordersWon 0 = .ok (.aload_n 0, 1) := by decide +kernel
theorem dX1_ordersWon_1 : decode cX1_ordersWon 1 = .ok (.invokevirtual 42, 3) := by decide +kernel
theorem dX1_ordersWon_4 : decode cX1_ordersWon 4 = .ok (.pop, 1) := by decide +kernel
theorem dX1_ordersWon_5 : decode cX1_ordersWon 5 = .ok (.aload_n 0, 1) := by decide +kernel
theorem dX1_ordersWon_6 : decode cX1_ordersWon 6 = .ok (.iconst 0, 1) := by decide +kernel
theorem dX1_ordersWon_7 : decode cX1_ordersWon 7 = .ok (.putfield 56, 3) := by decide +kernel
theorem dX1_ordersWon_10 : decode cX1_ordersWon 10 = .ok (.aload_n 0, 1) := by decide +kernel
theorem dX1_ordersWon_11 : decode cX1_ordersWon 11 = .ok (.iconst 0, 1) := by decide +kernel
theorem dX1_ordersWon_12 : decode cX1_ordersWon 12 = .ok (.iload_n 1, 1) := by decide +kernel
theorem dX1_ordersWon_13 : decode cX1_ordersWon 13 = .ok (.iconst 0, 1) := by decide +kernel
theorem dX1_ordersWon_14 : decode cX1_ordersWon 14 = .ok (.invokevirtual 59, 3) := by decide +kernel
theorem dX1_ordersWon_17 : decode cX1_ordersWon 17 = .ok (.aload_n 0, 1) := by decide +kernel
theorem dX1_ordersWon_18 : decode cX1_ordersWon 18 = .ok (.getfield 56, 3) := by decide +kernel
theorem dX1_ordersWon_21 : decode cX1_ordersWon 21 = .ok (.ireturn, 1) := by decide +kernel
theorem dX1_countOrders_0 : decode cX1_countOrders 0 = .ok (.aload_n 0, 1) := by decide +kernel
theorem dX1_countOrders_1 : decode cX1_countOrders 1 = .ok (.getfield 27, 3) := by decide +kernel
theorem dX1_countOrders_4 : decode cX1_countOrders 4 = .ok (.getfield 46, 3) := by decide +kernel
theorem dX1_countOrders_7 : decode cX1_countOrders 7 = .ok (.iload_n 1, 1) := by decide +kernel
theorem dX1_countOrders_8 : decode cX1_countOrders 8 = .ok (.isub, 1) := by decide +kernel
theorem dX1_countOrders_9 : decode cX1_countOrders 9 = .ok (.istore 4, 2) := by decide +kernel
theorem dX1_countOrders_11 : decode cX1_countOrders 11 = .ok (.aload_n 0, 1) := by decide +kernel
theorem dX1_countOrders_12 : decode cX1_countOrders 12 = .ok (.getfield 11, 3) := by decide +kernel
theorem dX1_countOrders_15 : decode cX1_countOrders 15 = .ok (.iload_n 1, 1) := by decide +kernel
theorem dX1_countOrders_16 : decode cX1_countOrders 16 = .ok (.aaload, 1) := by decide +kernel
theorem dX1_countOrders_17 : decode cX1_countOrders 17 = .ok (.getfield 63, 3) := by decide +kernel
theorem dX1_countOrders_20 : decode cX1_countOrders 20 = .ok (.iconst (-1), 1) := by decide +kernel
theorem dX1_countOrders_21 : decode cX1_countOrders 21 = .ok (.if_icmp .ne 16, 3) := by decide +kernel
theorem dX1_countOrders_24 : decode cX1_countOrders 24 = .ok (.iload 4, 2) := by decide +kernel
theorem dX1_countOrders_26 : decode cX1_countOrders 26 = .ok (.ifCond .le 11, 3) := by decide +kernel
theorem dX1_countOrders_29 : decode cX1_countOrders 29 = .ok (.aload_n 0, 1) := by decide +kernel
theorem dX1_countOrders_30 : decode cX1_countOrders 30 = .ok (.iload_n 1, 1) := by decide +kernel
theorem dX1_countOrders_31 : decode cX1_countOrders 31 = .ok (.invokevirtual 66, 3) := by decide +kernel
theorem dX1_countOrders_34 : decode cX1_countOrders 34 = .ok (.ifCond .eq 37, 3) := by decide +kernel
theorem dX1_countOrders_37 : decode cX1_countOrders 37 = .ok (.aload_n 0, 1) := by decide +kernel
theorem dX1_countOrders_38 : decode cX1_countOrders 38 = .ok (.getfield 11, 3) := by decide +kernel
theorem dX1_countOrders_41 : decode cX1_countOrders 41 = .ok (.iload_n 1, 1) := by decide +kernel
theorem dX1_countOrders_42 : decode cX1_countOrders 42 = .ok (.aaload, 1) := by decide +kernel
theorem dX1_countOrders_43 : decode cX1_countOrders 43 = .ok (.getfield 63, 3) := by decide +kernel
theorem dX1_countOrders_46 : decode cX1_countOrders 46 = .ok (.iload_n 2, 1) := by decide +kernel
theorem dX1_countOrders_47 : decode cX1_countOrders 47 = .ok (.if_icmp .ne 23, 3) := by decide +kernel
theorem dX1_countOrders_50 : decode cX1_countOrders 50 = .ok (.aload_n 0, 1) := by decide +kernel
theorem dX1_countOrders_51 : decode cX1_countOrders 51 = .ok (.iload_n 1, 1) := by decide +kernel
theorem dX1_countOrders_52 : decode cX1_countOrders 52 = .ok (.iload_n 3, 1) := by decide +kernel
theorem dX1_countOrders_53 : decode cX1_countOrders 53 = .ok (.invokevirtual 70, 3) := by decide +kernel
theorem dX1_countOrders_56 : decode cX1_countOrders 56 = .ok (.aload_n 0, 1) := by decide +kernel
theorem dX1_countOrders_57 : decode cX1_countOrders 57 = .ok (.dup, 1) := by decide +kernel
theorem dX1_countOrders_58 : decode cX1_countOrders 58 = .ok (.getfield 56, 3) := by decide +kernel
theorem dX1_countOrders_61 : decode cX1_countOrders 61 = .ok (.iload 4, 2) := by decide +kernel
theorem dX1_countOrders_63 : decode cX1_countOrders 63 = .ok (.invokestatic 74, 3) := by decide +kernel
theorem dX1_countOrders_66 : decode cX1_countOrders 66 = .ok (.iadd, 1) := by decide +kernel
theorem dX1_countOrders_67 : decode cX1_countOrders 67 = .ok (.putfield 56, 3) := by decide +kernel
theorem dX1_countOrders_70 : decode cX1_countOrders 70 = .ok (.return_, 1) := by decide +kernel
theorem dX1_countOrders_71 : decode cX1_countOrders 71 = .ok (.iconst 0, 1) := by decide +kernel
theorem dX1_countOrders_72 : decode cX1_countOrders 72 = .ok (.istore 5, 2) := by decide +kernel
theorem dX1_countOrders_74 : decode cX1_countOrders 74 = .ok (.iload 5, 2) := by decide +kernel
theorem dX1_countOrders_76 : decode cX1_countOrders 76 = .ok (.aload_n 0, 1) := by decide +kernel
theorem dX1_countOrders_77 : decode cX1_countOrders 77 = .ok (.getfield 27, 3) := by decide +kernel
theorem dX1_countOrders_80 : decode cX1_countOrders 80 = .ok (.getfield 46, 3) := by decide +kernel
theorem dX1_countOrders_83 : decode cX1_countOrders 83 = .ok (.if_icmp .ge 77, 3) := by decide +kernel
theorem dX1_countOrders_86 : decode cX1_countOrders 86 = .ok (.iload_n 3, 1) := by decide +kernel
theorem dX1_countOrders_87 : decode cX1_countOrders 87 = .ok (.iload 5, 2) := by decide +kernel
theorem dX1_countOrders_89 : decode cX1_countOrders 89 = .ok (.invokestatic 78, 3) := by decide +kernel
theorem dX1_countOrders_92 : decode cX1_countOrders 92 = .ok (.ifCond .ne 62, 3) := by decide +kernel
theorem dX1_countOrders_95 : decode cX1_countOrders 95 = .ok (.aload_n 0, 1) := by decide +kernel
theorem dX1_countOrders_96 : decode cX1_countOrders 96 = .ok (.getfield 56, 3) := by decide +kernel
theorem dX1_countOrders_99 : decode cX1_countOrders 99 = .ok (.ifCond .ne 11, 3) := by decide +kernel
theorem dX1_countOrders_102 : decode cX1_countOrders 102 = .ok (.aload_n 0, 1) := by decide +kernel
theorem dX1_countOrders_103 : decode cX1_countOrders 103 = .ok (.getfield 17, 3) := by decide +kernel
theorem dX1_countOrders_106 : decode cX1_countOrders 106 = .ok (.iload_n 1, 1) := by decide +kernel
theorem dX1_countOrders_107 : decode cX1_countOrders 107 = .ok (.iload 5, 2) := by decide +kernel
theorem dX1_countOrders_109 : decode cX1_countOrders 109 = .ok (.iastore, 1) := by decide +kernel
theorem dX1_countOrders_110 : decode cX1_countOrders 110 = .ok (.aload_n 0, 1) := by decide +kernel
theorem dX1_countOrders_111 : decode cX1_countOrders 111 = .ok (.getfield 11, 3) := by decide +kernel
theorem dX1_countOrders_114 : decode cX1_countOrders 114 = .ok (.iload_n 1, 1) := by decide +kernel
theorem dX1_countOrders_115 : decode cX1_countOrders 115 = .ok (.iconst 1, 1) := by decide +kernel
theorem dX1_countOrders_116 : decode cX1_countOrders 116 = .ok (.iadd, 1) := by decide +kernel
theorem dX1_countOrders_117 : decode cX1_countOrders 117 = .ok (.aaload, 1) := by decide +kernel
theorem dX1_countOrders_118 : decode cX1_countOrders 118 = .ok (.aload_n 0, 1) := by decide +kernel
theorem dX1_countOrders_119 : decode cX1_countOrders 119 = .ok (.getfield 11, 3) := by decide +kernel
theorem dX1_countOrders_122 : decode cX1_countOrders 122 = .ok (.iload_n 1, 1) := by decide +kernel
theorem dX1_countOrders_123 : decode cX1_countOrders 123 = .ok (.aaload, 1) := by decide +kernel
theorem dX1_countOrders_124 : decode cX1_countOrders 124 = .ok (.invokevirtual 38, 3) := by decide +kernel
theorem dX1_countOrders_127 : decode cX1_countOrders 127 = .ok (.aload_n 0, 1) := by decide +kernel
theorem dX1_countOrders_128 : decode cX1_countOrders 128 = .ok (.getfield 11, 3) := by decide +kernel
theorem dX1_countOrders_131 : decode cX1_countOrders 131 = .ok (.iload_n 1, 1) := by decide +kernel
theorem dX1_countOrders_132 : decode cX1_countOrders 132 = .ok (.iconst 1, 1) := by decide +kernel
theorem dX1_countOrders_133 : decode cX1_countOrders 133 = .ok (.iadd, 1) := by decide +kernel
theorem dX1_countOrders_134 : decode cX1_countOrders 134 = .ok (.aaload, 1) := by decide +kernel
theorem dX1_countOrders_135 : decode cX1_countOrders 135 = .ok (.iload 5, 2) := by decide +kernel
theorem dX1_countOrders_137 : decode cX1_countOrders 137 = .ok (.invokevirtual 52, 3) := by decide +kernel
theorem dX1_countOrders_140 : decode cX1_countOrders 140 = .ok (.aload_n 0, 1) := by decide +kernel
theorem dX1_countOrders_141 : decode cX1_countOrders 141 = .ok (.iload_n 1, 1) := by decide +kernel
theorem dX1_countOrders_142 : decode cX1_countOrders 142 = .ok (.iconst 1, 1) := by decide +kernel
theorem dX1_countOrders_143 : decode cX1_countOrders 143 = .ok (.iadd, 1) := by decide +kernel
theorem dX1_countOrders_144 : decode cX1_countOrders 144 = .ok (.iload_n 2, 1) := by decide +kernel
theorem dX1_countOrders_145 : decode cX1_countOrders 145 = .ok (.iload_n 3, 1) := by decide +kernel
theorem dX1_countOrders_146 : decode cX1_countOrders 146 = .ok (.iconst 1, 1) := by decide +kernel
theorem dX1_countOrders_147 : decode cX1_countOrders 147 = .ok (.iload 5, 2) := by decide +kernel
theorem dX1_countOrders_149 : decode cX1_countOrders 149 = .ok (.ishl, 1) := by decide +kernel
theorem dX1_countOrders_150 : decode cX1_countOrders 150 = .ok (.ior, 1) := by decide +kernel
theorem dX1_countOrders_151 : decode cX1_countOrders 151 = .ok (.invokevirtual 59, 3) := by decide +kernel
theorem dX1_countOrders_154 : decode cX1_countOrders 154 = .ok (.iinc 5 1, 3) := by decide +kernel
theorem dX1_countOrders_157 : decode cX1_countOrders 157 = .ok (.goto (-83), 3) := by decide +kernel
theorem dX1_countOrders_160 : decode cX1_countOrders 160 = .ok (.return_, 1) := by decide +kernel
theorem dX1_fillOrder_0 : decode cX1_fillOrder 0 = .ok (.iload_n 1, 1) := by decide +kernel
theorem dX1_fillOrder_1 : decode cX1_fillOrder 1 = .ok (.istore_n 3, 1) := by decide +kernel
theorem dX1_fillOrder_2 : decode cX1_fillOrder 2 = .ok (.iconst 0, 1) := by decide +kernel
theorem dX1_fillOrder_3 : decode cX1_fillOrder 3 = .ok (.istore 4, 2) := by decide +kernel
theorem dX1_fillOrder_5 : decode cX1_fillOrder 5 = .ok (.iload 4, 2) := by decide +kernel
theorem dX1_fillOrder_7 : decode cX1_fillOrder 7 = .ok (.aload_n 0, 1) := by decide +kernel
theorem dX1_fillOrder_8 : decode cX1_fillOrder 8 = .ok (.getfield 27, 3) := by decide +kernel
theorem dX1_fillOrder_11 : decode cX1_fillOrder 11 = .ok (.getfield 46, 3) := by decide +kernel
theorem dX1_fillOrder_14 : decode cX1_fillOrder 14 = .ok (.if_icmp .ge 42, 3) := by decide +kernel
theorem dX1_fillOrder_17 : decode cX1_fillOrder 17 = .ok (.aload_n 0, 1) := by decide +kernel
theorem dX1_fillOrder_18 : decode cX1_fillOrder 18 = .ok (.getfield 56, 3) := by decide +kernel
theorem dX1_fillOrder_21 : decode cX1_fillOrder 21 = .ok (.ifCond .ne 35, 3) := by decide +kernel
theorem dX1_fillOrder_24 : decode cX1_fillOrder 24 = .ok (.iload_n 2, 1) := by decide +kernel
theorem dX1_fillOrder_25 : decode cX1_fillOrder 25 = .ok (.iload 4, 2) := by decide +kernel
theorem dX1_fillOrder_27 : decode cX1_fillOrder 27 = .ok (.invokestatic 78, 3) := by decide +kernel
theorem dX1_fillOrder_30 : decode cX1_fillOrder 30 = .ok (.ifCond .ne 20, 3) := by decide +kernel
theorem dX1_fillOrder_33 : decode cX1_fillOrder 33 = .ok (.iload_n 3, 1) := by decide +kernel
theorem dX1_fillOrder_34 : decode cX1_fillOrder 34 = .ok (.bipush 6, 2) := by decide +kernel
theorem dX1_fillOrder_36 : decode cX1_fillOrder 36 = .ok (.if_icmp .ge 14, 3) := by decide +kernel
theorem dX1_fillOrder_39 : decode cX1_fillOrder 39 = .ok (.aload_n 0, 1) := by decide +kernel
theorem dX1_fillOrder_40 : decode cX1_fillOrder 40 = .ok (.getfield 17, 3) := by decide +kernel
theorem dX1_fillOrder_43 : decode cX1_fillOrder 43 = .ok (.iload_n 3, 1) := by decide +kernel
theorem dX1_fillOrder_44 : decode cX1_fillOrder 44 = .ok (.iload 4, 2) := by decide +kernel
theorem dX1_fillOrder_46 : decode cX1_fillOrder 46 = .ok (.iastore, 1) := by decide +kernel
theorem dX1_fillOrder_47 : decode cX1_fillOrder 47 = .ok (.iinc 3 1, 3) := by decide +kernel
theorem dX1_fillOrder_50 : decode cX1_fillOrder 50 = .ok (.iinc 4 1, 3) := by decide +kernel
theorem dX1_fillOrder_53 : decode cX1_fillOrder 53 = .ok (.goto (-48), 3) := by decide +kernel
theorem dX1_fillOrder_56 : decode cX1_fillOrder 56 = .ok (.return_, 1) := by decide +kernel
theorem dX1_ordersOf_0 : decode cX1_ordersOf 0 = .ok (.iconst 1, 1) := by decide +kernel
theorem dX1_ordersOf_1 : decode cX1_ordersOf 1 = .ok (.istore_n 1, 1) := by decide +kernel
theorem dX1_ordersOf_2 : decode cX1_ordersOf 2 = .ok (.iconst 2, 1) := by decide +kernel
theorem dX1_ordersOf_3 : decode cX1_ordersOf 3 = .ok (.istore_n 2, 1) := by decide +kernel
theorem dX1_ordersOf_4 : decode cX1_ordersOf 4 = .ok (.iload_n 2, 1) := by decide +kernel
theorem dX1_ordersOf_5 : decode cX1_ordersOf 5 = .ok (.iload_n 0, 1) := by decide +kernel
theorem dX1_ordersOf_6 : decode cX1_ordersOf 6 = .ok (.if_icmp .gt 13, 3) := by decide +kernel
theorem dX1_ordersOf_9 : decode cX1_ordersOf 9 = .ok (.iload_n 1, 1) := by decide +kernel
theorem dX1_ordersOf_10 : decode cX1_ordersOf 10 = .ok (.iload_n 2, 1) := by decide +kernel
theorem dX1_ordersOf_11 : decode cX1_ordersOf 11 = .ok (.imul, 1) := by decide +kernel
theorem dX1_ordersOf_12 : decode cX1_ordersOf 12 = .ok (.istore_n 1, 1) := by decide +kernel
theorem dX1_ordersOf_13 : decode cX1_ordersOf 13 = .ok (.iinc 2 1, 3) := by decide +kernel
theorem dX1_ordersOf_16 : decode cX1_ordersOf 16 = .ok (.goto (-12), 3) := by decide +kernel
theorem dX1_ordersOf_19 : decode cX1_ordersOf 19 = .ok (.iload_n 1, 1) := by decide +kernel
theorem dX1_ordersOf_20 : decode cX1_ordersOf 20 = .ok (.ireturn, 1) := by decide +kernel
theorem dX1_fewestStones_0 : decode cX1_fewestStones 0 = .ok (.aload_n 0, 1) := by decide +kernel
theorem dX1_fewestStones_1 : decode cX1_fewestStones 1 = .ok (.invokevirtual 42, 3) := by decide +kernel
theorem dX1_fewestStones_4 : decode cX1_fewestStones 4 = .ok (.pop, 1) := by decide +kernel
theorem dX1_fewestStones_5 : decode cX1_fewestStones 5 = .ok (.aload_n 0, 1) := by decide +kernel
theorem dX1_fewestStones_6 : decode cX1_fewestStones 6 = .ok (.getfield 27, 3) := by decide +kernel
theorem dX1_fewestStones_9 : decode cX1_fewestStones 9 = .ok (.iload_n 1, 1) := by decide +kernel
theorem dX1_fewestStones_10 : decode cX1_fewestStones 10 = .ok (.invokevirtual 82, 3) := by decide +kernel
theorem dX1_fewestStones_13 : decode cX1_fewestStones 13 = .ok (.istore_n 2, 1) := by decide +kernel
theorem dX1_fewestStones_14 : decode cX1_fewestStones 14 = .ok (.iconst 1, 1) := by decide +kernel
theorem dX1_fewestStones_15 : decode cX1_fewestStones 15 = .ok (.istore_n 3, 1) := by decide +kernel
theorem dX1_fewestStones_16 : decode cX1_fewestStones 16 = .ok (.iload_n 3, 1) := by decide +kernel
theorem dX1_fewestStones_17 : decode cX1_fewestStones 17 = .ok (.iconst 5, 1) := by decide +kernel
theorem dX1_fewestStones_18 : decode cX1_fewestStones 18 = .ok (.if_icmp .gt 53, 3) := by decide +kernel
theorem dX1_fewestStones_21 : decode cX1_fewestStones 21 = .ok (.iconst 0, 1) := by decide +kernel
theorem dX1_fewestStones_22 : decode cX1_fewestStones 22 = .ok (.istore 4, 2) := by decide +kernel
theorem dX1_fewestStones_24 : decode cX1_fewestStones 24 = .ok (.iload 4, 2) := by decide +kernel
theorem dX1_fewestStones_26 : decode cX1_fewestStones 26 = .ok (.aload_n 0, 1) := by decide +kernel
theorem dX1_fewestStones_27 : decode cX1_fewestStones 27 = .ok (.getfield 27, 3) := by decide +kernel
theorem dX1_fewestStones_30 : decode cX1_fewestStones 30 = .ok (.getfield 85, 3) := by decide +kernel
theorem dX1_fewestStones_33 : decode cX1_fewestStones 33 = .ok (.if_icmp .ge 32, 3) := by decide +kernel
theorem dX1_fewestStones_36 : decode cX1_fewestStones 36 = .ok (.aload_n 0, 1) := by decide +kernel
theorem dX1_fewestStones_37 : decode cX1_fewestStones 37 = .ok (.iload 4, 2) := by decide +kernel
theorem dX1_fewestStones_39 : decode cX1_fewestStones 39 = .ok (.iload_n 1, 1) := by decide +kernel
theorem dX1_fewestStones_40 : decode cX1_fewestStones 40 = .ok (.iload_n 2, 1) := by decide +kernel
theorem dX1_fewestStones_41 : decode cX1_fewestStones 41 = .ok (.iload_n 3, 1) := by decide +kernel
theorem dX1_fewestStones_42 : decode cX1_fewestStones 42 = .ok (.iconst 1, 1) := by decide +kernel
theorem dX1_fewestStones_43 : decode cX1_fewestStones 43 = .ok (.isub, 1) := by decide +kernel
theorem dX1_fewestStones_44 : decode cX1_fewestStones 44 = .ok (.iconst 0, 1) := by decide +kernel
theorem dX1_fewestStones_45 : decode cX1_fewestStones 45 = .ok (.invokevirtual 88, 3) := by decide +kernel
theorem dX1_fewestStones_48 : decode cX1_fewestStones 48 = .ok (.ifCond .eq 11, 3) := by decide +kernel
theorem dX1_fewestStones_51 : decode cX1_fewestStones 51 = .ok (.aload_n 0, 1) := by decide +kernel
theorem dX1_fewestStones_52 : decode cX1_fewestStones 52 = .ok (.iload 4, 2) := by decide +kernel
theorem dX1_fewestStones_54 : decode cX1_fewestStones 54 = .ok (.putfield 92, 3) := by decide +kernel
theorem dX1_fewestStones_57 : decode cX1_fewestStones 57 = .ok (.iload_n 3, 1) := by decide +kernel
theorem dX1_fewestStones_58 : decode cX1_fewestStones 58 = .ok (.ireturn, 1) := by decide +kernel
theorem dX1_fewestStones_59 : decode cX1_fewestStones 59 = .ok (.iinc 4 1, 3) := by decide +kernel
theorem dX1_fewestStones_62 : decode cX1_fewestStones 62 = .ok (.goto (-38), 3) := by decide +kernel
theorem dX1_fewestStones_65 : decode cX1_fewestStones 65 = .ok (.iinc 3 1, 3) := by decide +kernel
theorem dX1_fewestStones_68 : decode cX1_fewestStones 68 = .ok (.goto (-52), 3) := by decide +kernel
theorem dX1_fewestStones_71 : decode cX1_fewestStones 71 = .ok (.aload_n 0, 1) := by decide +kernel
theorem dX1_fewestStones_72 : decode cX1_fewestStones 72 = .ok (.iconst (-1), 1) := by decide +kernel
theorem dX1_fewestStones_73 : decode cX1_fewestStones 73 = .ok (.putfield 92, 3) := by decide +kernel
theorem dX1_fewestStones_76 : decode cX1_fewestStones 76 = .ok (.iconst (-1), 1) := by decide +kernel
theorem dX1_fewestStones_77 : decode cX1_fewestStones 77 = .ok (.ireturn, 1) := by decide +kernel
theorem dX1_fallsBy_0 : decode cX1_fallsBy 0 = .ok (.aload_n 0, 1) := by decide +kernel
theorem dX1_fallsBy_1 : decode cX1_fallsBy 1 = .ok (.iload 5, 2) := by decide +kernel
theorem dX1_fallsBy_3 : decode cX1_fallsBy 3 = .ok (.invokevirtual 66, 3) := by decide +kernel
theorem dX1_fallsBy_6 : decode cX1_fallsBy 6 = .ok (.ifCond .eq 5, 3) := by decide +kernel
theorem dX1_fallsBy_9 : decode cX1_fallsBy 9 = .ok (.iconst 0, 1) := by decide +kernel
theorem dX1_fallsBy_10 : decode cX1_fallsBy 10 = .ok (.ireturn, 1) := by decide +kernel
theorem dX1_fallsBy_11 : decode cX1_fallsBy 11 = .ok (.aload_n 0, 1) := by decide +kernel
theorem dX1_fallsBy_12 : decode cX1_fallsBy 12 = .ok (.iload_n 1, 1) := by decide +kernel
theorem dX1_fallsBy_13 : decode cX1_fallsBy 13 = .ok (.iload 5, 2) := by decide +kernel
theorem dX1_fallsBy_15 : decode cX1_fallsBy 15 = .ok (.invokevirtual 95, 3) := by decide +kernel
theorem dX1_fallsBy_18 : decode cX1_fallsBy 18 = .ok (.astore 6, 2) := by decide +kernel
theorem dX1_fallsBy_20 : decode cX1_fallsBy 20 = .ok (.aload 6, 2) := by decide +kernel
theorem dX1_fallsBy_22 : decode cX1_fallsBy 22 = .ok (.getfield 99, 3) := by decide +kernel
theorem dX1_fallsBy_25 : decode cX1_fallsBy 25 = .ok (.iload_n 2, 1) := by decide +kernel
theorem dX1_fallsBy_26 : decode cX1_fallsBy 26 = .ok (.invokestatic 78, 3) := by decide +kernel
theorem dX1_fallsBy_29 : decode cX1_fallsBy 29 = .ok (.ifCond .ne 18, 3) := by decide +kernel
theorem dX1_fallsBy_32 : decode cX1_fallsBy 32 = .ok (.aload_n 0, 1) := by decide +kernel
theorem dX1_fallsBy_33 : decode cX1_fallsBy 33 = .ok (.iload_n 2, 1) := by decide +kernel
theorem dX1_fallsBy_34 : decode cX1_fallsBy 34 = .ok (.iload_n 3, 1) := by decide +kernel
theorem dX1_fallsBy_35 : decode cX1_fallsBy 35 = .ok (.iload 4, 2) := by decide +kernel
theorem dX1_fallsBy_37 : decode cX1_fallsBy 37 = .ok (.iload 5, 2) := by decide +kernel
theorem dX1_fallsBy_39 : decode cX1_fallsBy 39 = .ok (.iconst 1, 1) := by decide +kernel
theorem dX1_fallsBy_40 : decode cX1_fallsBy 40 = .ok (.iadd, 1) := by decide +kernel
theorem dX1_fallsBy_41 : decode cX1_fallsBy 41 = .ok (.invokevirtual 102, 3) := by decide +kernel
theorem dX1_fallsBy_44 : decode cX1_fallsBy 44 = .ok (.ifCond .eq 7, 3) := by decide +kernel
theorem dX1_fallsBy_47 : decode cX1_fallsBy 47 = .ok (.iconst 1, 1) := by decide +kernel
theorem dX1_fallsBy_48 : decode cX1_fallsBy 48 = .ok (.goto 4, 3) := by decide +kernel
theorem dX1_fallsBy_51 : decode cX1_fallsBy 51 = .ok (.iconst 0, 1) := by decide +kernel
theorem dX1_fallsBy_52 : decode cX1_fallsBy 52 = .ok (.ireturn, 1) := by decide +kernel
theorem dX1_fallsWithin_0 : decode cX1_fallsWithin 0 = .ok (.iload_n 3, 1) := by decide +kernel
theorem dX1_fallsWithin_1 : decode cX1_fallsWithin 1 = .ok (.ifCond .le 18, 3) := by decide +kernel
theorem dX1_fallsWithin_4 : decode cX1_fallsWithin 4 = .ok (.aload_n 0, 1) := by decide +kernel
theorem dX1_fallsWithin_5 : decode cX1_fallsWithin 5 = .ok (.getfield 11, 3) := by decide +kernel
theorem dX1_fallsWithin_8 : decode cX1_fallsWithin 8 = .ok (.iload 4, 2) := by decide +kernel
theorem dX1_fallsWithin_10 : decode cX1_fallsWithin 10 = .ok (.aaload, 1) := by decide +kernel
theorem dX1_fallsWithin_11 : decode cX1_fallsWithin 11 = .ok (.iload_n 2, 1) := by decide +kernel
theorem dX1_fallsWithin_12 : decode cX1_fallsWithin 12 = .ok (.iload_n 3, 1) := by decide +kernel
theorem dX1_fallsWithin_13 : decode cX1_fallsWithin 13 = .ok (.invokevirtual 106, 3) := by decide +kernel
theorem dX1_fallsWithin_16 : decode cX1_fallsWithin 16 = .ok (.ifCond .ne 5, 3) := by decide +kernel
theorem dX1_fallsWithin_19 : decode cX1_fallsWithin 19 = .ok (.iconst 0, 1) := by decide +kernel
theorem dX1_fallsWithin_20 : decode cX1_fallsWithin 20 = .ok (.ireturn, 1) := by decide +kernel
theorem dX1_fallsWithin_21 : decode cX1_fallsWithin 21 = .ok (.iconst 0, 1) := by decide +kernel
theorem dX1_fallsWithin_22 : decode cX1_fallsWithin 22 = .ok (.istore 5, 2) := by decide +kernel
theorem dX1_fallsWithin_24 : decode cX1_fallsWithin 24 = .ok (.iload 5, 2) := by decide +kernel
theorem dX1_fallsWithin_26 : decode cX1_fallsWithin 26 = .ok (.aload_n 0, 1) := by decide +kernel
theorem dX1_fallsWithin_27 : decode cX1_fallsWithin 27 = .ok (.getfield 27, 3) := by decide +kernel
theorem dX1_fallsWithin_30 : decode cX1_fallsWithin 30 = .ok (.getfield 85, 3) := by decide +kernel
theorem dX1_fallsWithin_33 : decode cX1_fallsWithin 33 = .ok (.if_icmp .ge 36, 3) := by decide +kernel
theorem dX1_fallsWithin_36 : decode cX1_fallsWithin 36 = .ok (.iload_n 2, 1) := by decide +kernel
theorem dX1_fallsWithin_37 : decode cX1_fallsWithin 37 = .ok (.iload 5, 2) := by decide +kernel
theorem dX1_fallsWithin_39 : decode cX1_fallsWithin 39 = .ok (.invokestatic 78, 3) := by decide +kernel
theorem dX1_fallsWithin_42 : decode cX1_fallsWithin 42 = .ok (.ifCond .eq 21, 3) := by decide +kernel
theorem dX1_fallsWithin_45 : decode cX1_fallsWithin 45 = .ok (.aload_n 0, 1) := by decide +kernel
theorem dX1_fallsWithin_46 : decode cX1_fallsWithin 46 = .ok (.iload 5, 2) := by decide +kernel
theorem dX1_fallsWithin_48 : decode cX1_fallsWithin 48 = .ok (.iload_n 1, 1) := by decide +kernel
theorem dX1_fallsWithin_49 : decode cX1_fallsWithin 49 = .ok (.iload_n 2, 1) := by decide +kernel
theorem dX1_fallsWithin_50 : decode cX1_fallsWithin 50 = .ok (.iload_n 3, 1) := by decide +kernel
theorem dX1_fallsWithin_51 : decode cX1_fallsWithin 51 = .ok (.iconst 1, 1) := by decide +kernel
theorem dX1_fallsWithin_52 : decode cX1_fallsWithin 52 = .ok (.isub, 1) := by decide +kernel
theorem dX1_fallsWithin_53 : decode cX1_fallsWithin 53 = .ok (.iload 4, 2) := by decide +kernel
theorem dX1_fallsWithin_55 : decode cX1_fallsWithin 55 = .ok (.invokevirtual 88, 3) := by decide +kernel
theorem dX1_fallsWithin_58 : decode cX1_fallsWithin 58 = .ok (.ifCond .eq 5, 3) := by decide +kernel
theorem dX1_fallsWithin_61 : decode cX1_fallsWithin 61 = .ok (.iconst 1, 1) := by decide +kernel
theorem dX1_fallsWithin_62 : decode cX1_fallsWithin 62 = .ok (.ireturn, 1) := by decide +kernel
theorem dX1_fallsWithin_63 : decode cX1_fallsWithin 63 = .ok (.iinc 5 1, 3) := by decide +kernel
theorem dX1_fallsWithin_66 : decode cX1_fallsWithin 66 = .ok (.goto (-42), 3) := by decide +kernel
theorem dX1_fallsWithin_69 : decode cX1_fallsWithin 69 = .ok (.iconst 0, 1) := by decide +kernel
theorem dX1_fallsWithin_70 : decode cX1_fallsWithin 70 = .ok (.ireturn, 1) := by decide +kernel
theorem dX1_afterStone_0 : decode cX1_afterStone 0 = .ok (.aload_n 0, 1) := by decide +kernel
theorem dX1_afterStone_1 : decode cX1_afterStone 1 = .ok (.getfield 11, 3) := by decide +kernel
theorem dX1_afterStone_4 : decode cX1_afterStone 4 = .ok (.iload_n 2, 1) := by decide +kernel
theorem dX1_afterStone_5 : decode cX1_afterStone 5 = .ok (.iconst 1, 1) := by decide +kernel
theorem dX1_afterStone_6 : decode cX1_afterStone 6 = .ok (.iadd, 1) := by decide +kernel
theorem dX1_afterStone_7 : decode cX1_afterStone 7 = .ok (.aaload, 1) := by decide +kernel
theorem dX1_afterStone_8 : decode cX1_afterStone 8 = .ok (.astore_n 3, 1) := by decide +kernel
theorem dX1_afterStone_9 : decode cX1_afterStone 9 = .ok (.aload_n 3, 1) := by decide +kernel
theorem dX1_afterStone_10 : decode cX1_afterStone 10 = .ok (.aload_n 0, 1) := by decide +kernel
theorem dX1_afterStone_11 : decode cX1_afterStone 11 = .ok (.getfield 11, 3) := by decide +kernel
theorem dX1_afterStone_14 : decode cX1_afterStone 14 = .ok (.iload_n 2, 1) := by decide +kernel
theorem dX1_afterStone_15 : decode cX1_afterStone 15 = .ok (.aaload, 1) := by decide +kernel
theorem dX1_afterStone_16 : decode cX1_afterStone 16 = .ok (.invokevirtual 38, 3) := by decide +kernel
theorem dX1_afterStone_19 : decode cX1_afterStone 19 = .ok (.aload_n 3, 1) := by decide +kernel
theorem dX1_afterStone_20 : decode cX1_afterStone 20 = .ok (.iload_n 1, 1) := by decide +kernel
theorem dX1_afterStone_21 : decode cX1_afterStone 21 = .ok (.iconst 1, 1) := by decide +kernel
theorem dX1_afterStone_22 : decode cX1_afterStone 22 = .ok (.invokevirtual 109, 3) := by decide +kernel
theorem dX1_afterStone_25 : decode cX1_afterStone 25 = .ok (.aload_n 3, 1) := by decide +kernel
theorem dX1_afterStone_26 : decode cX1_afterStone 26 = .ok (.invokevirtual 112, 3) := by decide +kernel
theorem dX1_afterStone_29 : decode cX1_afterStone 29 = .ok (.aload_n 3, 1) := by decide +kernel
theorem dX1_afterStone_30 : decode cX1_afterStone 30 = .ok (.areturn, 1) := by decide +kernel
theorem dX1_buriedBy_0 : decode cX1_buriedBy 0 = .ok (.aload_n 0, 1) := by decide +kernel
theorem dX1_buriedBy_1 : decode cX1_buriedBy 1 = .ok (.invokevirtual 42, 3) := by decide +kernel
theorem dX1_buriedBy_4 : decode cX1_buriedBy 4 = .ok (.astore_n 3, 1) := by decide +kernel
theorem dX1_buriedBy_5 : decode cX1_buriedBy 5 = .ok (.aload_n 3, 1) := by decide +kernel
theorem dX1_buriedBy_6 : decode cX1_buriedBy 6 = .ok (.iload_n 1, 1) := by decide +kernel
theorem dX1_buriedBy_7 : decode cX1_buriedBy 7 = .ok (.iload_n 2, 1) := by decide +kernel
theorem dX1_buriedBy_8 : decode cX1_buriedBy 8 = .ok (.invokevirtual 109, 3) := by decide +kernel
theorem dX1_buriedBy_11 : decode cX1_buriedBy 11 = .ok (.aload_n 3, 1) := by decide +kernel
theorem dX1_buriedBy_12 : decode cX1_buriedBy 12 = .ok (.invokevirtual 112, 3) := by decide +kernel
theorem dX1_buriedBy_15 : decode cX1_buriedBy 15 = .ok (.aload_n 3, 1) := by decide +kernel
theorem dX1_buriedBy_16 : decode cX1_buriedBy 16 = .ok (.getfield 115, 3) := by decide +kernel
theorem dX1_buriedBy_19 : decode cX1_buriedBy 19 = .ok (.ireturn, 1) := by decide +kernel
theorem dX1_nightsTill_0 : decode cX1_nightsTill 0 = .ok (.aload_n 0, 1) := by decide +kernel
theorem dX1_nightsTill_1 : decode cX1_nightsTill 1 = .ok (.invokevirtual 42, 3) := by decide +kernel
theorem dX1_nightsTill_4 : decode cX1_nightsTill 4 = .ok (.astore_n 3, 1) := by decide +kernel
theorem dX1_nightsTill_5 : decode cX1_nightsTill 5 = .ok (.iconst 1, 1) := by decide +kernel
theorem dX1_nightsTill_6 : decode cX1_nightsTill 6 = .ok (.istore 4, 2) := by decide +kernel
theorem dX1_nightsTill_8 : decode cX1_nightsTill 8 = .ok (.iload 4, 2) := by decide +kernel
theorem dX1_nightsTill_10 : decode cX1_nightsTill 10 = .ok (.bipush 60, 2) := by decide +kernel
theorem dX1_nightsTill_12 : decode cX1_nightsTill 12 = .ok (.if_icmp .gt 28, 3) := by decide +kernel
theorem dX1_nightsTill_15 : decode cX1_nightsTill 15 = .ok (.aload_n 3, 1) := by decide +kernel
theorem dX1_nightsTill_16 : decode cX1_nightsTill 16 = .ok (.iload_n 2, 1) := by decide +kernel
theorem dX1_nightsTill_17 : decode cX1_nightsTill 17 = .ok (.invokevirtual 118, 3) := by decide +kernel
theorem dX1_nightsTill_20 : decode cX1_nightsTill 20 = .ok (.aload_n 3, 1) := by decide +kernel
theorem dX1_nightsTill_21 : decode cX1_nightsTill 21 = .ok (.getfield 99, 3) := by decide +kernel
theorem dX1_nightsTill_24 : decode cX1_nightsTill 24 = .ok (.iload_n 1, 1) := by decide +kernel
theorem dX1_nightsTill_25 : decode cX1_nightsTill 25 = .ok (.invokestatic 78, 3) := by decide +kernel
theorem dX1_nightsTill_28 : decode cX1_nightsTill 28 = .ok (.ifCond .eq 6, 3) := by decide +kernel
theorem dX1_nightsTill_31 : decode cX1_nightsTill 31 = .ok (.iload 4, 2) := by decide +kernel
theorem dX1_nightsTill_33 : decode cX1_nightsTill 33 = .ok (.ireturn, 1) := by decide +kernel
theorem dX1_nightsTill_34 : decode cX1_nightsTill 34 = .ok (.iinc 4 1, 3) := by decide +kernel
theorem dX1_nightsTill_37 : decode cX1_nightsTill 37 = .ok (.goto (-29), 3) := by decide +kernel
theorem dX1_nightsTill_40 : decode cX1_nightsTill 40 = .ok (.iconst (-1), 1) := by decide +kernel
theorem dX1_nightsTill_41 : decode cX1_nightsTill 41 = .ok (.ireturn, 1) := by decide +kernel
theorem dX1_play_0 : decode cX1_play 0 = .ok (.aload_n 0, 1) := by decide +kernel
theorem dX1_play_1 : decode cX1_play 1 = .ok (.invokevirtual 42, 3) := by decide +kernel
theorem dX1_play_4 : decode cX1_play 4 = .ok (.pop, 1) := by decide +kernel
theorem dX1_play_5 : decode cX1_play 5 = .ok (.iconst (-1), 1) := by decide +kernel
theorem dX1_play_6 : decode cX1_play 6 = .ok (.istore 4, 2) := by decide +kernel
theorem dX1_play_8 : decode cX1_play 8 = .ok (.iconst 0, 1) := by decide +kernel
theorem dX1_play_9 : decode cX1_play 9 = .ok (.istore 5, 2) := by decide +kernel
theorem dX1_play_11 : decode cX1_play 11 = .ok (.iload 5, 2) := by decide +kernel
theorem dX1_play_13 : decode cX1_play 13 = .ok (.aload_n 0, 1) := by decide +kernel
theorem dX1_play_14 : decode cX1_play 14 = .ok (.getfield 27, 3) := by decide +kernel
theorem dX1_play_17 : decode cX1_play 17 = .ok (.getfield 85, 3) := by decide +kernel
theorem dX1_play_20 : decode cX1_play 20 = .ok (.if_icmp .ge 46, 3) := by decide +kernel
theorem dX1_play_23 : decode cX1_play 23 = .ok (.iload 4, 2) := by decide +kernel
theorem dX1_play_25 : decode cX1_play 25 = .ok (.iconst 2, 1) := by decide +kernel
theorem dX1_play_26 : decode cX1_play 26 = .ok (.if_icmp .ge 40, 3) := by decide +kernel
theorem dX1_play_29 : decode cX1_play 29 = .ok (.aload_n 0, 1) := by decide +kernel
theorem dX1_play_30 : decode cX1_play 30 = .ok (.iload 5, 2) := by decide +kernel
theorem dX1_play_32 : decode cX1_play 32 = .ok (.iload_n 1, 1) := by decide +kernel
theorem dX1_play_33 : decode cX1_play 33 = .ok (.iload_n 2, 1) := by decide +kernel
theorem dX1_play_34 : decode cX1_play 34 = .ok (.iload_n 3, 1) := by decide +kernel
theorem dX1_play_35 : decode cX1_play 35 = .ok (.iconst 1, 1) := by decide +kernel
theorem dX1_play_36 : decode cX1_play 36 = .ok (.isub, 1) := by decide +kernel
theorem dX1_play_37 : decode cX1_play 37 = .ok (.iconst 0, 1) := by decide +kernel
theorem dX1_play_38 : decode cX1_play 38 = .ok (.invokevirtual 121, 3) := by decide +kernel
theorem dX1_play_41 : decode cX1_play 41 = .ok (.istore 6, 2) := by decide +kernel
theorem dX1_play_43 : decode cX1_play 43 = .ok (.iload 6, 2) := by decide +kernel
theorem dX1_play_45 : decode cX1_play 45 = .ok (.iload 4, 2) := by decide +kernel
theorem dX1_play_47 : decode cX1_play 47 = .ok (.if_icmp .le 13, 3) := by decide +kernel
theorem dX1_play_50 : decode cX1_play 50 = .ok (.iload 6, 2) := by decide +kernel
theorem dX1_play_52 : decode cX1_play 52 = .ok (.istore 4, 2) := by decide +kernel
theorem dX1_play_54 : decode cX1_play 54 = .ok (.aload_n 0, 1) := by decide +kernel
theorem dX1_play_55 : decode cX1_play 55 = .ok (.iload 5, 2) := by decide +kernel
theorem dX1_play_57 : decode cX1_play 57 = .ok (.putfield 92, 3) := by decide +kernel
theorem dX1_play_60 : decode cX1_play 60 = .ok (.iinc 5 1, 3) := by decide +kernel
theorem dX1_play_63 : decode cX1_play 63 = .ok (.goto (-52), 3) := by decide +kernel
theorem dX1_play_66 : decode cX1_play 66 = .ok (.iload 4, 2) := by decide +kernel
theorem dX1_play_68 : decode cX1_play 68 = .ok (.ireturn, 1) := by decide +kernel
theorem dX1_outcomeOf_0 : decode cX1_outcomeOf 0 = .ok (.aload_n 0, 1) := by decide +kernel
theorem dX1_outcomeOf_1 : decode cX1_outcomeOf 1 = .ok (.iload 5, 2) := by decide +kernel
theorem dX1_outcomeOf_3 : decode cX1_outcomeOf 3 = .ok (.invokevirtual 66, 3) := by decide +kernel
theorem dX1_outcomeOf_6 : decode cX1_outcomeOf 6 = .ok (.ifCond .eq 5, 3) := by decide +kernel
theorem dX1_outcomeOf_9 : decode cX1_outcomeOf 9 = .ok (.iconst 1, 1) := by decide +kernel
theorem dX1_outcomeOf_10 : decode cX1_outcomeOf 10 = .ok (.ireturn, 1) := by decide +kernel
theorem dX1_outcomeOf_11 : decode cX1_outcomeOf 11 = .ok (.aload_n 0, 1) := by decide +kernel
theorem dX1_outcomeOf_12 : decode cX1_outcomeOf 12 = .ok (.iload_n 1, 1) := by decide +kernel
theorem dX1_outcomeOf_13 : decode cX1_outcomeOf 13 = .ok (.iload 5, 2) := by decide +kernel
theorem dX1_outcomeOf_15 : decode cX1_outcomeOf 15 = .ok (.invokevirtual 95, 3) := by decide +kernel
theorem dX1_outcomeOf_18 : decode cX1_outcomeOf 18 = .ok (.astore 6, 2) := by decide +kernel
theorem dX1_outcomeOf_20 : decode cX1_outcomeOf 20 = .ok (.aload 6, 2) := by decide +kernel
theorem dX1_outcomeOf_22 : decode cX1_outcomeOf 22 = .ok (.iload_n 2, 1) := by decide +kernel
theorem dX1_outcomeOf_23 : decode cX1_outcomeOf 23 = .ok (.iload_n 3, 1) := by decide +kernel
theorem dX1_outcomeOf_24 : decode cX1_outcomeOf 24 = .ok (.invokevirtual 125, 3) := by decide +kernel
theorem dX1_outcomeOf_27 : decode cX1_outcomeOf 27 = .ok (.ifCond .eq 5, 3) := by decide +kernel
theorem dX1_outcomeOf_30 : decode cX1_outcomeOf 30 = .ok (.iconst 2, 1) := by decide +kernel
theorem dX1_outcomeOf_31 : decode cX1_outcomeOf 31 = .ok (.ireturn, 1) := by decide +kernel
theorem dX1_outcomeOf_32 : decode cX1_outcomeOf 32 = .ok (.aload 6, 2) := by decide +kernel
theorem dX1_outcomeOf_34 : decode cX1_outcomeOf 34 = .ok (.iload_n 3, 1) := by decide +kernel
theorem dX1_outcomeOf_35 : decode cX1_outcomeOf 35 = .ok (.iload_n 2, 1) := by decide +kernel
theorem dX1_outcomeOf_36 : decode cX1_outcomeOf 36 = .ok (.invokevirtual 125, 3) := by decide +kernel
theorem dX1_outcomeOf_39 : decode cX1_outcomeOf 39 = .ok (.ifCond .eq 7, 3) := by decide +kernel
theorem dX1_outcomeOf_42 : decode cX1_outcomeOf 42 = .ok (.iconst 0, 1) := by decide +kernel
theorem dX1_outcomeOf_43 : decode cX1_outcomeOf 43 = .ok (.goto 15, 3) := by decide +kernel
theorem dX1_outcomeOf_46 : decode cX1_outcomeOf 46 = .ok (.aload_n 0, 1) := by decide +kernel
theorem dX1_outcomeOf_47 : decode cX1_outcomeOf 47 = .ok (.iload_n 2, 1) := by decide +kernel
theorem dX1_outcomeOf_48 : decode cX1_outcomeOf 48 = .ok (.iload_n 3, 1) := by decide +kernel
theorem dX1_outcomeOf_49 : decode cX1_outcomeOf 49 = .ok (.iload 4, 2) := by decide +kernel
theorem dX1_outcomeOf_51 : decode cX1_outcomeOf 51 = .ok (.iload 5, 2) := by decide +kernel
theorem dX1_outcomeOf_53 : decode cX1_outcomeOf 53 = .ok (.iconst 1, 1) := by decide +kernel
theorem dX1_outcomeOf_54 : decode cX1_outcomeOf 54 = .ok (.iadd, 1) := by decide +kernel
theorem dX1_outcomeOf_55 : decode cX1_outcomeOf 55 = .ok (.invokevirtual 128, 3) := by decide +kernel
theorem dX1_outcomeOf_58 : decode cX1_outcomeOf 58 = .ok (.ireturn, 1) := by decide +kernel
theorem dX1_bestOutcome_0 : decode cX1_bestOutcome 0 = .ok (.iload_n 3, 1) := by decide +kernel
theorem dX1_bestOutcome_1 : decode cX1_bestOutcome 1 = .ok (.ifCond .le 34, 3) := by decide +kernel
theorem dX1_bestOutcome_4 : decode cX1_bestOutcome 4 = .ok (.aload_n 0, 1) := by decide +kernel
theorem dX1_bestOutcome_5 : decode cX1_bestOutcome 5 = .ok (.getfield 11, 3) := by decide +kernel
theorem dX1_bestOutcome_8 : decode cX1_bestOutcome 8 = .ok (.iload 4, 2) := by decide +kernel
theorem dX1_bestOutcome_10 : decode cX1_bestOutcome 10 = .ok (.aaload, 1) := by decide +kernel
theorem dX1_bestOutcome_11 : decode cX1_bestOutcome 11 = .ok (.aload_n 0, 1) := by decide +kernel
theorem dX1_bestOutcome_12 : decode cX1_bestOutcome 12 = .ok (.getfield 27, 3) := by decide +kernel
theorem dX1_bestOutcome_15 : decode cX1_bestOutcome 15 = .ok (.iload_n 1, 1) := by decide +kernel
theorem dX1_bestOutcome_16 : decode cX1_bestOutcome 16 = .ok (.invokevirtual 82, 3) := by decide +kernel
theorem dX1_bestOutcome_19 : decode cX1_bestOutcome 19 = .ok (.aload_n 0, 1) := by decide +kernel
theorem dX1_bestOutcome_20 : decode cX1_bestOutcome 20 = .ok (.getfield 27, 3) := by decide +kernel
theorem dX1_bestOutcome_23 : decode cX1_bestOutcome 23 = .ok (.iload_n 2, 1) := by decide +kernel
theorem dX1_bestOutcome_24 : decode cX1_bestOutcome 24 = .ok (.invokevirtual 82, 3) := by decide +kernel
theorem dX1_bestOutcome_27 : decode cX1_bestOutcome 27 = .ok (.ior, 1) := by decide +kernel
theorem dX1_bestOutcome_28 : decode cX1_bestOutcome 28 = .ok (.iload_n 3, 1) := by decide +kernel
theorem dX1_bestOutcome_29 : decode cX1_bestOutcome 29 = .ok (.invokevirtual 106, 3) := by decide +kernel
theorem dX1_bestOutcome_32 : decode cX1_bestOutcome 32 = .ok (.ifCond .ne 5, 3) := by decide +kernel
theorem dX1_bestOutcome_35 : decode cX1_bestOutcome 35 = .ok (.iconst 1, 1) := by decide +kernel
theorem dX1_bestOutcome_36 : decode cX1_bestOutcome 36 = .ok (.ireturn, 1) := by decide +kernel
theorem dX1_bestOutcome_37 : decode cX1_bestOutcome 37 = .ok (.iload 4, 2) := by decide +kernel
theorem dX1_bestOutcome_39 : decode cX1_bestOutcome 39 = .ok (.iconst 2, 1) := by decide +kernel
theorem dX1_bestOutcome_40 : decode cX1_bestOutcome 40 = .ok (.irem, 1) := by decide +kernel
theorem dX1_bestOutcome_41 : decode cX1_bestOutcome 41 = .ok (.ifCond .ne 7, 3) := by decide +kernel
theorem dX1_bestOutcome_44 : decode cX1_bestOutcome 44 = .ok (.iconst 1, 1) := by decide +kernel
theorem dX1_bestOutcome_45 : decode cX1_bestOutcome 45 = .ok (.goto 4, 3) := by decide +kernel
theorem dX1_bestOutcome_48 : decode cX1_bestOutcome 48 = .ok (.iconst 0, 1) := by decide +kernel
theorem dX1_bestOutcome_49 : decode cX1_bestOutcome 49 = .ok (.istore 5, 2) := by decide +kernel
theorem dX1_bestOutcome_51 : decode cX1_bestOutcome 51 = .ok (.iload 5, 2) := by decide +kernel
theorem dX1_bestOutcome_53 : decode cX1_bestOutcome 53 = .ok (.ifCond .eq 7, 3) := by decide +kernel
theorem dX1_bestOutcome_56 : decode cX1_bestOutcome 56 = .ok (.iconst 2, 1) := by decide +kernel
theorem dX1_bestOutcome_57 : decode cX1_bestOutcome 57 = .ok (.goto 4, 3) := by decide +kernel
theorem dX1_bestOutcome_60 : decode cX1_bestOutcome 60 = .ok (.iconst 0, 1) := by decide +kernel
theorem dX1_bestOutcome_61 : decode cX1_bestOutcome 61 = .ok (.istore 6, 2) := by decide +kernel
theorem dX1_bestOutcome_63 : decode cX1_bestOutcome 63 = .ok (.iload 5, 2) := by decide +kernel
theorem dX1_bestOutcome_65 : decode cX1_bestOutcome 65 = .ok (.ifCond .eq 7, 3) := by decide +kernel
theorem dX1_bestOutcome_68 : decode cX1_bestOutcome 68 = .ok (.iconst 0, 1) := by decide +kernel
theorem dX1_bestOutcome_69 : decode cX1_bestOutcome 69 = .ok (.goto 4, 3) := by decide +kernel
theorem dX1_bestOutcome_72 : decode cX1_bestOutcome 72 = .ok (.iconst 2, 1) := by decide +kernel
theorem dX1_bestOutcome_73 : decode cX1_bestOutcome 73 = .ok (.istore 7, 2) := by decide +kernel
theorem dX1_bestOutcome_75 : decode cX1_bestOutcome 75 = .ok (.iconst 0, 1) := by decide +kernel
theorem dX1_bestOutcome_76 : decode cX1_bestOutcome 76 = .ok (.istore 8, 2) := by decide +kernel
theorem dX1_bestOutcome_78 : decode cX1_bestOutcome 78 = .ok (.iload 8, 2) := by decide +kernel
theorem dX1_bestOutcome_80 : decode cX1_bestOutcome 80 = .ok (.aload_n 0, 1) := by decide +kernel
theorem dX1_bestOutcome_81 : decode cX1_bestOutcome 81 = .ok (.getfield 27, 3) := by decide +kernel
theorem dX1_bestOutcome_84 : decode cX1_bestOutcome 84 = .ok (.getfield 85, 3) := by decide +kernel
theorem dX1_bestOutcome_87 : decode cX1_bestOutcome 87 = .ok (.if_icmp .ge 55, 3) := by decide +kernel
theorem dX1_bestOutcome_90 : decode cX1_bestOutcome 90 = .ok (.iload 7, 2) := by decide +kernel
theorem dX1_bestOutcome_92 : decode cX1_bestOutcome 92 = .ok (.iload 6, 2) := by decide +kernel
theorem dX1_bestOutcome_94 : decode cX1_bestOutcome 94 = .ok (.if_icmp .eq 48, 3) := by decide +kernel
theorem dX1_bestOutcome_97 : decode cX1_bestOutcome 97 = .ok (.aload_n 0, 1) := by decide +kernel
theorem dX1_bestOutcome_98 : decode cX1_bestOutcome 98 = .ok (.iload 8, 2) := by decide +kernel
theorem dX1_bestOutcome_100 : decode cX1_bestOutcome 100 = .ok (.iload_n 1, 1) := by decide +kernel
theorem dX1_bestOutcome_101 : decode cX1_bestOutcome 101 = .ok (.iload_n 2, 1) := by decide +kernel
theorem dX1_bestOutcome_102 : decode cX1_bestOutcome 102 = .ok (.iload_n 3, 1) := by decide +kernel
theorem dX1_bestOutcome_103 : decode cX1_bestOutcome 103 = .ok (.iconst 1, 1) := by decide +kernel
theorem dX1_bestOutcome_104 : decode cX1_bestOutcome 104 = .ok (.isub, 1) := by decide +kernel
theorem dX1_bestOutcome_105 : decode cX1_bestOutcome 105 = .ok (.iload 4, 2) := by decide +kernel
theorem dX1_bestOutcome_107 : decode cX1_bestOutcome 107 = .ok (.invokevirtual 121, 3) := by decide +kernel
theorem dX1_bestOutcome_110 : decode cX1_bestOutcome 110 = .ok (.istore 9, 2) := by decide +kernel
theorem dX1_bestOutcome_112 : decode cX1_bestOutcome 112 = .ok (.iload 5, 2) := by decide +kernel
theorem dX1_bestOutcome_114 : decode cX1_bestOutcome 114 = .ok (.ifCond .eq 13, 3) := by decide +kernel
theorem dX1_bestOutcome_117 : decode cX1_bestOutcome 117 = .ok (.iload 7, 2) := by decide +kernel
theorem dX1_bestOutcome_119 : decode cX1_bestOutcome 119 = .ok (.iload 9, 2) := by decide +kernel
theorem dX1_bestOutcome_121 : decode cX1_bestOutcome 121 = .ok (.invokestatic 132, 3) := by decide +kernel
theorem dX1_bestOutcome_124 : decode cX1_bestOutcome 124 = .ok (.goto 10, 3) := by decide +kernel
theorem dX1_bestOutcome_127 : decode cX1_bestOutcome 127 = .ok (.iload 7, 2) := by decide +kernel
theorem dX1_bestOutcome_129 : decode cX1_bestOutcome 129 = .ok (.iload 9, 2) := by decide +kernel
theorem dX1_bestOutcome_131 : decode cX1_bestOutcome 131 = .ok (.invokestatic 138, 3) := by decide +kernel
theorem dX1_bestOutcome_134 : decode cX1_bestOutcome 134 = .ok (.istore 7, 2) := by decide +kernel
theorem dX1_bestOutcome_136 : decode cX1_bestOutcome 136 = .ok (.iinc 8 1, 3) := by decide +kernel
theorem dX1_bestOutcome_139 : decode cX1_bestOutcome 139 = .ok (.goto (-61), 3) := by decide +kernel
theorem dX1_bestOutcome_142 : decode cX1_bestOutcome 142 = .ok (.iload 7, 2) := by decide +kernel
theorem dX1_bestOutcome_144 : decode cX1_bestOutcome 144 = .ok (.ireturn, 1) := by decide +kernel
theorem dX1_partsWon_0 : decode cX1_partsWon 0 = .ok (.aload_n 0, 1) := by decide +kernel
theorem dX1_partsWon_1 : decode cX1_partsWon 1 = .ok (.invokevirtual 42, 3) := by decide +kernel
theorem dX1_partsWon_4 : decode cX1_partsWon 4 = .ok (.pop, 1) := by decide +kernel
theorem dX1_partsWon_5 : decode cX1_partsWon 5 = .ok (.aload_n 0, 1) := by decide +kernel
theorem dX1_partsWon_6 : decode cX1_partsWon 6 = .ok (.iconst 0, 1) := by decide +kernel
theorem dX1_partsWon_7 : decode cX1_partsWon 7 = .ok (.iload_n 1, 1) := by decide +kernel
theorem dX1_partsWon_8 : decode cX1_partsWon 8 = .ok (.iload_n 2, 1) := by decide +kernel
theorem dX1_partsWon_9 : decode cX1_partsWon 9 = .ok (.iconst 0, 1) := by decide +kernel
theorem dX1_partsWon_10 : decode cX1_partsWon 10 = .ok (.invokevirtual 141, 3) := by decide +kernel
theorem dX1_partsWon_13 : decode cX1_partsWon 13 = .ok (.lreturn, 1) := by decide +kernel
theorem dX1_partsFrom_0 : decode cX1_partsFrom 0 = .ok (.aload_n 0, 1) := by decide +kernel
theorem dX1_partsFrom_1 : decode cX1_partsFrom 1 = .ok (.getfield 11, 3) := by decide +kernel
theorem dX1_partsFrom_4 : decode cX1_partsFrom 4 = .ok (.iload 4, 2) := by decide +kernel
theorem dX1_partsFrom_6 : decode cX1_partsFrom 6 = .ok (.aaload, 1) := by decide +kernel
theorem dX1_partsFrom_7 : decode cX1_partsFrom 7 = .ok (.astore 5, 2) := by decide +kernel
theorem dX1_partsFrom_9 : decode cX1_partsFrom 9 = .ok (.aload_n 0, 1) := by decide +kernel
theorem dX1_partsFrom_10 : decode cX1_partsFrom 10 = .ok (.getfield 27, 3) := by decide +kernel
theorem dX1_partsFrom_13 : decode cX1_partsFrom 13 = .ok (.getfield 46, 3) := by decide +kernel
theorem dX1_partsFrom_16 : decode cX1_partsFrom 16 = .ok (.iload_n 1, 1) := by decide +kernel
theorem dX1_partsFrom_17 : decode cX1_partsFrom 17 = .ok (.isub, 1) := by decide +kernel
theorem dX1_partsFrom_18 : decode cX1_partsFrom 18 = .ok (.istore 6, 2) := by decide +kernel
theorem dX1_partsFrom_20 : decode cX1_partsFrom 20 = .ok (.aload 5, 2) := by decide +kernel
theorem dX1_partsFrom_22 : decode cX1_partsFrom 22 = .ok (.getfield 63, 3) := by decide +kernel
theorem dX1_partsFrom_25 : decode cX1_partsFrom 25 = .ok (.iconst (-1), 1) := by decide +kernel
theorem dX1_partsFrom_26 : decode cX1_partsFrom 26 = .ok (.if_icmp .ne 17, 3) := by decide +kernel
theorem dX1_partsFrom_29 : decode cX1_partsFrom 29 = .ok (.iload 6, 2) := by decide +kernel
theorem dX1_partsFrom_31 : decode cX1_partsFrom 31 = .ok (.ifCond .le 12, 3) := by decide +kernel
theorem dX1_partsFrom_34 : decode cX1_partsFrom 34 = .ok (.aload_n 0, 1) := by decide +kernel
theorem dX1_partsFrom_35 : decode cX1_partsFrom 35 = .ok (.iload 4, 2) := by decide +kernel
theorem dX1_partsFrom_37 : decode cX1_partsFrom 37 = .ok (.invokevirtual 66, 3) := by decide +kernel
theorem dX1_partsFrom_40 : decode cX1_partsFrom 40 = .ok (.ifCond .eq 22, 3) := by decide +kernel
theorem dX1_partsFrom_43 : decode cX1_partsFrom 43 = .ok (.aload 5, 2) := by decide +kernel
theorem dX1_partsFrom_45 : decode cX1_partsFrom 45 = .ok (.getfield 63, 3) := by decide +kernel
theorem dX1_partsFrom_48 : decode cX1_partsFrom 48 = .ok (.iload_n 2, 1) := by decide +kernel
theorem dX1_partsFrom_49 : decode cX1_partsFrom 49 = .ok (.if_icmp .ne 11, 3) := by decide +kernel
theorem dX1_partsFrom_52 : decode cX1_partsFrom 52 = .ok (.iload 6, 2) := by decide +kernel
theorem dX1_partsFrom_54 : decode cX1_partsFrom 54 = .ok (.invokestatic 145, 3) := by decide +kernel
theorem dX1_partsFrom_57 : decode cX1_partsFrom 57 = .ok (.goto 4, 3) := by decide +kernel
theorem dX1_partsFrom_60 : decode cX1_partsFrom 60 = .ok (.lconst 0, 1) := by decide +kernel
theorem dX1_partsFrom_61 : decode cX1_partsFrom 61 = .ok (.lreturn, 1) := by decide +kernel
theorem dX1_partsFrom_62 : decode cX1_partsFrom 62 = .ok (.lconst 0, 1) := by decide +kernel
theorem dX1_partsFrom_63 : decode cX1_partsFrom 63 = .ok (.lstore 7, 2) := by decide +kernel
theorem dX1_partsFrom_65 : decode cX1_partsFrom 65 = .ok (.iload_n 3, 1) := by decide +kernel
theorem dX1_partsFrom_66 : decode cX1_partsFrom 66 = .ok (.ifCond .le 22, 3) := by decide +kernel
theorem dX1_partsFrom_69 : decode cX1_partsFrom 69 = .ok (.lload 7, 2) := by decide +kernel
theorem dX1_partsFrom_71 : decode cX1_partsFrom 71 = .ok (.iload_n 3, 1) := by decide +kernel
theorem dX1_partsFrom_72 : decode cX1_partsFrom 72 = .ok (.i2l, 1) := by decide +kernel
theorem dX1_partsFrom_73 : decode cX1_partsFrom 73 = .ok (.aload_n 0, 1) := by decide +kernel
theorem dX1_partsFrom_74 : decode cX1_partsFrom 74 = .ok (.iload_n 1, 1) := by decide +kernel
theorem dX1_partsFrom_75 : decode cX1_partsFrom 75 = .ok (.iconst 1, 1) := by decide +kernel
theorem dX1_partsFrom_76 : decode cX1_partsFrom 76 = .ok (.iadd, 1) := by decide +kernel
theorem dX1_partsFrom_77 : decode cX1_partsFrom 77 = .ok (.iload_n 2, 1) := by decide +kernel
theorem dX1_partsFrom_78 : decode cX1_partsFrom 78 = .ok (.iload_n 3, 1) := by decide +kernel
theorem dX1_partsFrom_79 : decode cX1_partsFrom 79 = .ok (.iload 4, 2) := by decide +kernel
theorem dX1_partsFrom_81 : decode cX1_partsFrom 81 = .ok (.invokevirtual 141, 3) := by decide +kernel
theorem dX1_partsFrom_84 : decode cX1_partsFrom 84 = .ok (.lmul, 1) := by decide +kernel
theorem dX1_partsFrom_85 : decode cX1_partsFrom 85 = .ok (.ladd, 1) := by decide +kernel
theorem dX1_partsFrom_86 : decode cX1_partsFrom 86 = .ok (.lstore 7, 2) := by decide +kernel
theorem dX1_partsFrom_88 : decode cX1_partsFrom 88 = .ok (.iload_n 3, 1) := by decide +kernel
theorem dX1_partsFrom_89 : decode cX1_partsFrom 89 = .ok (.bipush 10, 2) := by decide +kernel
theorem dX1_partsFrom_91 : decode cX1_partsFrom 91 = .ok (.if_icmp .ge 54, 3) := by decide +kernel
theorem dX1_partsFrom_94 : decode cX1_partsFrom 94 = .ok (.aload_n 0, 1) := by decide +kernel
theorem dX1_partsFrom_95 : decode cX1_partsFrom 95 = .ok (.getfield 11, 3) := by decide +kernel
theorem dX1_partsFrom_98 : decode cX1_partsFrom 98 = .ok (.iload 4, 2) := by decide +kernel
theorem dX1_partsFrom_100 : decode cX1_partsFrom 100 = .ok (.iconst 1, 1) := by decide +kernel
theorem dX1_partsFrom_101 : decode cX1_partsFrom 101 = .ok (.iadd, 1) := by decide +kernel
theorem dX1_partsFrom_102 : decode cX1_partsFrom 102 = .ok (.aaload, 1) := by decide +kernel
theorem dX1_partsFrom_103 : decode cX1_partsFrom 103 = .ok (.aload 5, 2) := by decide +kernel
theorem dX1_partsFrom_105 : decode cX1_partsFrom 105 = .ok (.invokevirtual 38, 3) := by decide +kernel
theorem dX1_partsFrom_108 : decode cX1_partsFrom 108 = .ok (.aload_n 0, 1) := by decide +kernel
theorem dX1_partsFrom_109 : decode cX1_partsFrom 109 = .ok (.getfield 11, 3) := by decide +kernel
theorem dX1_partsFrom_112 : decode cX1_partsFrom 112 = .ok (.iload 4, 2) := by decide +kernel
theorem dX1_partsFrom_114 : decode cX1_partsFrom 114 = .ok (.iconst 1, 1) := by decide +kernel
theorem dX1_partsFrom_115 : decode cX1_partsFrom 115 = .ok (.iadd, 1) := by decide +kernel
theorem dX1_partsFrom_116 : decode cX1_partsFrom 116 = .ok (.aaload, 1) := by decide +kernel
theorem dX1_partsFrom_117 : decode cX1_partsFrom 117 = .ok (.iload_n 1, 1) := by decide +kernel
theorem dX1_partsFrom_118 : decode cX1_partsFrom 118 = .ok (.invokevirtual 52, 3) := by decide +kernel
theorem dX1_partsFrom_121 : decode cX1_partsFrom 121 = .ok (.lload 7, 2) := by decide +kernel
theorem dX1_partsFrom_123 : decode cX1_partsFrom 123 = .ok (.bipush 10, 2) := by decide +kernel
theorem dX1_partsFrom_125 : decode cX1_partsFrom 125 = .ok (.iload_n 3, 1) := by decide +kernel
theorem dX1_partsFrom_126 : decode cX1_partsFrom 126 = .ok (.isub, 1) := by decide +kernel
theorem dX1_partsFrom_127 : decode cX1_partsFrom 127 = .ok (.i2l, 1) := by decide +kernel
theorem dX1_partsFrom_128 : decode cX1_partsFrom 128 = .ok (.aload_n 0, 1) := by decide +kernel
theorem dX1_partsFrom_129 : decode cX1_partsFrom 129 = .ok (.iload_n 1, 1) := by decide +kernel
theorem dX1_partsFrom_130 : decode cX1_partsFrom 130 = .ok (.iconst 1, 1) := by decide +kernel
theorem dX1_partsFrom_131 : decode cX1_partsFrom 131 = .ok (.iadd, 1) := by decide +kernel
theorem dX1_partsFrom_132 : decode cX1_partsFrom 132 = .ok (.iload_n 2, 1) := by decide +kernel
theorem dX1_partsFrom_133 : decode cX1_partsFrom 133 = .ok (.iload_n 3, 1) := by decide +kernel
theorem dX1_partsFrom_134 : decode cX1_partsFrom 134 = .ok (.iload 4, 2) := by decide +kernel
theorem dX1_partsFrom_136 : decode cX1_partsFrom 136 = .ok (.iconst 1, 1) := by decide +kernel
theorem dX1_partsFrom_137 : decode cX1_partsFrom 137 = .ok (.iadd, 1) := by decide +kernel
theorem dX1_partsFrom_138 : decode cX1_partsFrom 138 = .ok (.invokevirtual 141, 3) := by decide +kernel
theorem dX1_partsFrom_141 : decode cX1_partsFrom 141 = .ok (.lmul, 1) := by decide +kernel
theorem dX1_partsFrom_142 : decode cX1_partsFrom 142 = .ok (.ladd, 1) := by decide +kernel
theorem dX1_partsFrom_143 : decode cX1_partsFrom 143 = .ok (.lstore 7, 2) := by decide +kernel
theorem dX1_partsFrom_145 : decode cX1_partsFrom 145 = .ok (.lload 7, 2) := by decide +kernel
theorem dX1_partsFrom_147 : decode cX1_partsFrom 147 = .ok (.lreturn, 1) := by decide +kernel
theorem dX1_loadAfter_0 : decode cX1_loadAfter 0 = .ok (.aload_n 0, 1) := by decide +kernel
theorem dX1_loadAfter_1 : decode cX1_loadAfter 1 = .ok (.invokevirtual 42, 3) := by decide +kernel
theorem dX1_loadAfter_4 : decode cX1_loadAfter 4 = .ok (.astore_n 3, 1) := by decide +kernel
theorem dX1_loadAfter_5 : decode cX1_loadAfter 5 = .ok (.iload_n 1, 1) := by decide +kernel
theorem dX1_loadAfter_6 : decode cX1_loadAfter 6 = .ok (.i2l, 1) := by decide +kernel
theorem dX1_loadAfter_7 : decode cX1_loadAfter 7 = .ok (.lstore 4, 2) := by decide +kernel
theorem dX1_loadAfter_9 : decode cX1_loadAfter 9 = .ok (.iconst 0, 1) := by decide +kernel
theorem dX1_loadAfter_10 : decode cX1_loadAfter 10 = .ok (.istore 6, 2) := by decide +kernel
theorem dX1_loadAfter_12 : decode cX1_loadAfter 12 = .ok (.iload 6, 2) := by decide +kernel
theorem dX1_loadAfter_14 : decode cX1_loadAfter 14 = .ok (.iload_n 2, 1) := by decide +kernel
theorem dX1_loadAfter_15 : decode cX1_loadAfter 15 = .ok (.if_icmp .ge 55, 3) := by decide +kernel
theorem dX1_loadAfter_18 : decode cX1_loadAfter 18 = .ok (.aload_n 0, 1) := by decide +kernel
theorem dX1_loadAfter_19 : decode cX1_loadAfter 19 = .ok (.getfield 27, 3) := by decide +kernel
theorem dX1_loadAfter_22 : decode cX1_loadAfter 22 = .ok (.getfield 46, 3) := by decide +kernel
theorem dX1_loadAfter_25 : decode cX1_loadAfter 25 = .ok (.ifCond .le 45, 3) := by decide +kernel
theorem dX1_loadAfter_28 : decode cX1_loadAfter 28 = .ok (.lload 4, 2) := by decide +kernel
theorem dX1_loadAfter_30 : decode cX1_loadAfter 30 = .ok (.ldc2_w 149, 3) := by decide +kernel
theorem dX1_loadAfter_33 : decode cX1_loadAfter 33 = .ok (.lmul, 1) := by decide +kernel
theorem dX1_loadAfter_34 : decode cX1_loadAfter 34 = .ok (.ldc2_w 151, 3) := by decide +kernel
theorem dX1_loadAfter_37 : decode cX1_loadAfter 37 = .ok (.ladd, 1) := by decide +kernel
theorem dX1_loadAfter_38 : decode cX1_loadAfter 38 = .ok (.ldc2_w 153, 3) := by decide +kernel
theorem dX1_loadAfter_41 : decode cX1_loadAfter 41 = .ok (.lrem, 1) := by decide +kernel
theorem dX1_loadAfter_42 : decode cX1_loadAfter 42 = .ok (.lstore 4, 2) := by decide +kernel
theorem dX1_loadAfter_44 : decode cX1_loadAfter 44 = .ok (.aload_n 3, 1) := by decide +kernel
theorem dX1_loadAfter_45 : decode cX1_loadAfter 45 = .ok (.lload 4, 2) := by decide +kernel
theorem dX1_loadAfter_47 : decode cX1_loadAfter 47 = .ok (.ldc2_w 155, 3) := by decide +kernel
theorem dX1_loadAfter_50 : decode cX1_loadAfter 50 = .ok (.ldiv, 1) := by decide +kernel
theorem dX1_loadAfter_51 : decode cX1_loadAfter 51 = .ok (.aload_n 0, 1) := by decide +kernel
theorem dX1_loadAfter_52 : decode cX1_loadAfter 52 = .ok (.getfield 27, 3) := by decide +kernel
theorem dX1_loadAfter_55 : decode cX1_loadAfter 55 = .ok (.getfield 46, 3) := by decide +kernel
theorem dX1_loadAfter_58 : decode cX1_loadAfter 58 = .ok (.i2l, 1) := by decide +kernel
theorem dX1_loadAfter_59 : decode cX1_loadAfter 59 = .ok (.lrem, 1) := by decide +kernel
theorem dX1_loadAfter_60 : decode cX1_loadAfter 60 = .ok (.l2i, 1) := by decide +kernel
theorem dX1_loadAfter_61 : decode cX1_loadAfter 61 = .ok (.invokevirtual 52, 3) := by decide +kernel
theorem dX1_loadAfter_64 : decode cX1_loadAfter 64 = .ok (.iinc 6 1, 3) := by decide +kernel
theorem dX1_loadAfter_67 : decode cX1_loadAfter 67 = .ok (.goto (-55), 3) := by decide +kernel
theorem dX1_loadAfter_70 : decode cX1_loadAfter 70 = .ok (.aload_n 3, 1) := by decide +kernel
theorem dX1_loadAfter_71 : decode cX1_loadAfter 71 = .ok (.invokevirtual 157, 3) := by decide +kernel
theorem dX1_loadAfter_74 : decode cX1_loadAfter 74 = .ok (.ireturn, 1) := by decide +kernel
theorem dX2_init_0 : decode cX2_init 0 = .ok (.aload_n 0, 1) := by decide +kernel
theorem dX2_init_1 : decode cX2_init 1 = .ok (.invokespecial 3, 3) := by decide +kernel
theorem dX2_init_4 : decode cX2_init 4 = .ok (.return_, 1) := by decide +kernel
theorem dX2_place_0 : decode cX2_place 0 = .ok (.aload_n 0, 1) := by decide +kernel
theorem dX2_place_1 : decode cX2_place 1 = .ok (.aload_n 1, 1) := by decide +kernel
theorem dX2_place_2 : decode cX2_place 2 = .ok (.iload_n 2, 1) := by decide +kernel
theorem dX2_place_3 : decode cX2_place 3 = .ok (.iload_n 3, 1) := by decide +kernel
theorem dX2_place_4 : decode cX2_place 4 = .ok (.invokespecial 9, 3) := by decide +kernel
theorem dX2_place_7 : decode cX2_place 7 = .ok (.istore 4, 2) := by decide +kernel
theorem dX2_place_9 : decode cX2_place 9 = .ok (.aload_n 1, 1) := by decide +kernel
theorem dX2_place_10 : decode cX2_place 10 = .ok (.getfield 13, 3) := by decide +kernel
theorem dX2_place_13 : decode cX2_place 13 = .ok (.iload 4, 2) := by decide +kernel
theorem dX2_place_15 : decode cX2_place 15 = .ok (.invokevirtual 19, 3) := by decide +kernel
theorem dX2_place_18 : decode cX2_place 18 = .ok (.istore 5, 2) := by decide +kernel
theorem dX2_place_20 : decode cX2_place 20 = .ok (.iload 5, 2) := by decide +kernel
theorem dX2_place_22 : decode cX2_place 22 = .ok (.iconst (-1), 1) := by decide +kernel
theorem dX2_place_23 : decode cX2_place 23 = .ok (.if_icmp .ne 8, 3) := by decide +kernel
theorem dX2_place_26 : decode cX2_place 26 = .ok (.iload 4, 2) := by decide +kernel
theorem dX2_place_28 : decode cX2_place 28 = .ok (.goto 5, 3) := by decide +kernel
theorem dX2_place_31 : decode cX2_place 31 = .ok (.iload 5, 2) := by decide +kernel
theorem dX2_place_33 : decode cX2_place 33 = .ok (.ireturn, 1) := by decide +kernel
theorem dX3_init_0 : decode cX3_init 0 = .ok (.aload_n 0, 1) := by decide +kernel
theorem dX3_init_1 : decode cX3_init 1 = .ok (.invokespecial 1, 3) := by decide +kernel
theorem dX3_init_4 : decode cX3_init 4 = .ok (.return_, 1) := by decide +kernel
theorem dX3_heft_0 : decode cX3_heft 0 = .ok (.iconst 2, 1) := by decide +kernel
theorem dX3_heft_1 : decode cX3_heft 1 = .ok (.iload_n 1, 1) := by decide +kernel
theorem dX3_heft_2 : decode cX3_heft 2 = .ok (.imul, 1) := by decide +kernel
theorem dX3_heft_3 : decode cX3_heft 3 = .ok (.ireturn, 1) := by decide +kernel
theorem dX4_init_0 : decode cX4_init 0 = .ok (.aload_n 0, 1) := by decide +kernel
theorem dX4_init_1 : decode cX4_init 1 = .ok (.invokespecial 1, 3) := by decide +kernel
theorem dX4_init_4 : decode cX4_init 4 = .ok (.return_, 1) := by decide +kernel
theorem dX4_heft_0 : decode cX4_heft 0 = .ok (.iload_n 1, 1) := by decide +kernel
theorem dX4_heft_1 : decode cX4_heft 1 = .ok (.ireturn, 1) := by decide +kernel
theorem dX4_place_0 : decode cX4_place 0 = .ok (.iload_n 2, 1) := by decide +kernel
theorem dX4_place_1 : decode cX4_place 1 = .ok (.ireturn, 1) := by decide +kernel
theorem dX5_init_0 : decode cX5_init 0 = .ok (.aload_n 0, 1) := by decide +kernel
theorem dX5_init_1 : decode cX5_init 1 = .ok (.invokespecial 3, 3) := by decide +kernel
theorem dX5_init_4 : decode cX5_init 4 = .ok (.aload_n 0, 1) := by decide +kernel
theorem dX5_init_5 : decode cX5_init 5 = .ok (.sipush 150, 3) := by decide +kernel
theorem dX5_init_8 : decode cX5_init 8 = .ok (.newarray .byte, 2) := by decide +kernel
theorem dX5_init_10 : decode cX5_init 10 = .ok (.putfield 9, 3) := by decide +kernel
theorem dX5_init_13 : decode cX5_init 13 = .ok (.aload_n 0, 1) := by decide +kernel
theorem dX5_init_14 : decode cX5_init 14 = .ok (.iconst (-1), 1) := by decide +kernel
theorem dX5_init_15 : decode cX5_init 15 = .ok (.putfield 15, 3) := by decide +kernel
theorem dX5_init_18 : decode cX5_init 18 = .ok (.return_, 1) := by decide +kernel
theorem dX5_append_0 : decode cX5_append 0 = .ok (.aload_n 0, 1) := by decide +kernel
theorem dX5_append_1 : decode cX5_append 1 = .ok (.getfield 19, 3) := by decide +kernel
theorem dX5_append_4 : decode cX5_append 4 = .ok (.ifCond .lt 13, 3) := by decide +kernel
theorem dX5_append_7 : decode cX5_append 7 = .ok (.aload_n 0, 1) := by decide +kernel
theorem dX5_append_8 : decode cX5_append 8 = .ok (.getfield 19, 3) := by decide +kernel
theorem dX5_append_11 : decode cX5_append 11 = .ok (.sipush 150, 3) := by decide +kernel
theorem dX5_append_14 : decode cX5_append 14 = .ok (.if_icmp .lt 4, 3) := by decide +kernel
theorem dX5_append_17 : decode cX5_append 17 = .ok (.return_, 1) := by decide +kernel
theorem dX5_append_18 : decode cX5_append 18 = .ok (.aload_n 0, 1) := by decide +kernel
theorem dX5_append_19 : decode cX5_append 19 = .ok (.getfield 9, 3) := by decide +kernel
theorem dX5_append_22 : decode cX5_append 22 = .ok (.aload_n 0, 1) := by decide +kernel
theorem dX5_append_23 : decode cX5_append 23 = .ok (.getfield 19, 3) := by decide +kernel
theorem dX5_append_26 : decode cX5_append 26 = .ok (.iload_n 1, 1) := by decide +kernel
theorem dX5_append_27 : decode cX5_append 27 = .ok (.i2b, 1) := by decide +kernel
theorem dX5_append_28 : decode cX5_append 28 = .ok (.bastore, 1) := by decide +kernel
theorem dX5_append_29 : decode cX5_append 29 = .ok (.aload_n 0, 1) := by decide +kernel
theorem dX5_append_30 : decode cX5_append 30 = .ok (.dup, 1) := by decide +kernel
theorem dX5_append_31 : decode cX5_append 31 = .ok (.getfield 19, 3) := by decide +kernel
theorem dX5_append_34 : decode cX5_append 34 = .ok (.iconst 1, 1) := by decide +kernel
theorem dX5_append_35 : decode cX5_append 35 = .ok (.iadd, 1) := by decide +kernel
theorem dX5_append_36 : decode cX5_append 36 = .ok (.putfield 19, 3) := by decide +kernel
theorem dX5_append_39 : decode cX5_append 39 = .ok (.return_, 1) := by decide +kernel
theorem dX5_readInto_0 : decode cX5_readInto 0 = .ok (.aload_n 1, 1) := by decide +kernel
theorem dX5_readInto_1 : decode cX5_readInto 1 = .ok (.invokevirtual 22, 3) := by decide +kernel
theorem dX5_readInto_4 : decode cX5_readInto 4 = .ok (.aload_n 0, 1) := by decide +kernel
theorem dX5_readInto_5 : decode cX5_readInto 5 = .ok (.iconst 0, 1) := by decide +kernel
theorem dX5_readInto_6 : decode cX5_readInto 6 = .ok (.putfield 27, 3) := by decide +kernel
theorem dX5_readInto_9 : decode cX5_readInto 9 = .ok (.aload_n 0, 1) := by decide +kernel
theorem dX5_readInto_10 : decode cX5_readInto 10 = .ok (.iconst (-1), 1) := by decide +kernel
theorem dX5_readInto_11 : decode cX5_readInto 11 = .ok (.putfield 15, 3) := by decide +kernel
theorem dX5_readInto_14 : decode cX5_readInto 14 = .ok (.iconst 0, 1) := by decide +kernel
theorem dX5_readInto_15 : decode cX5_readInto 15 = .ok (.istore_n 2, 1) := by decide +kernel
theorem dX5_readInto_16 : decode cX5_readInto 16 = .ok (.iconst 0, 1) := by decide +kernel
theorem dX5_readInto_17 : decode cX5_readInto 17 = .ok (.istore_n 3, 1) := by decide +kernel
theorem dX5_readInto_18 : decode cX5_readInto 18 = .ok (.iload_n 3, 1) := by decide +kernel
theorem dX5_readInto_19 : decode cX5_readInto 19 = .ok (.aload_n 0, 1) := by decide +kernel
theorem dX5_readInto_20 : decode cX5_readInto 20 = .ok (.getfield 19, 3) := by decide +kernel
theorem dX5_readInto_23 : decode cX5_readInto 23 = .ok (.if_icmp .gt 53, 3) := by decide +kernel
theorem dX5_readInto_26 : decode cX5_readInto 26 = .ok (.aload_n 0, 1) := by decide +kernel
theorem dX5_readInto_27 : decode cX5_readInto 27 = .ok (.getfield 15, 3) := by decide +kernel
theorem dX5_readInto_30 : decode cX5_readInto 30 = .ok (.iconst (-1), 1) := by decide +kernel
theorem dX5_readInto_31 : decode cX5_readInto 31 = .ok (.if_icmp .ne 45, 3) := by decide +kernel
theorem dX5_readInto_34 : decode cX5_readInto 34 = .ok (.iload_n 3, 1) := by decide +kernel
theorem dX5_readInto_35 : decode cX5_readInto 35 = .ok (.ifCond .eq 14, 3) := by decide +kernel
theorem dX5_readInto_38 : decode cX5_readInto 38 = .ok (.aload_n 0, 1) := by decide +kernel
theorem dX5_readInto_39 : decode cX5_readInto 39 = .ok (.getfield 27, 3) := by decide +kernel
theorem dX5_readInto_42 : decode cX5_readInto 42 = .ok (.aload_n 0, 1) := by decide +kernel
theorem dX5_readInto_43 : decode cX5_readInto 43 = .ok (.getfield 19, 3) := by decide +kernel
theorem dX5_readInto_46 : decode cX5_readInto 46 = .ok (.if_icmp .ge 30, 3) := by decide +kernel
theorem dX5_readInto_49 : decode cX5_readInto 49 = .ok (.aload_n 0, 1) := by decide +kernel
theorem dX5_readInto_50 : decode cX5_readInto 50 = .ok (.aload_n 1, 1) := by decide +kernel
theorem dX5_readInto_51 : decode cX5_readInto 51 = .ok (.iload_n 3, 1) := by decide +kernel
theorem dX5_readInto_52 : decode cX5_readInto 52 = .ok (.ifCond .ne 7, 3) := by decide +kernel
theorem dX5_readInto_55 : decode cX5_readInto 55 = .ok (.iconst 1, 1) := by decide +kernel
theorem dX5_readInto_56 : decode cX5_readInto 56 = .ok (.goto 4, 3) := by decide +kernel
theorem dX5_readInto_59 : decode cX5_readInto 59 = .ok (.iconst 0, 1) := by decide +kernel
theorem dX5_readInto_60 : decode cX5_readInto 60 = .ok (.invokevirtual 30, 3) := by decide +kernel
theorem dX5_readInto_63 : decode cX5_readInto 63 = .ok (.iinc 2 1, 3) := by decide +kernel
theorem dX5_readInto_66 : decode cX5_readInto 66 = .ok (.aload_n 0, 1) := by decide +kernel
theorem dX5_readInto_67 : decode cX5_readInto 67 = .ok (.invokevirtual 34, 3) := by decide +kernel
theorem dX5_readInto_70 : decode cX5_readInto 70 = .ok (.iinc 3 1, 3) := by decide +kernel
theorem dX5_readInto_73 : decode cX5_readInto 73 = .ok (.goto (-55), 3) := by decide +kernel
theorem dX5_readInto_76 : decode cX5_readInto 76 = .ok (.iload_n 2, 1) := by decide +kernel
theorem dX5_readInto_77 : decode cX5_readInto 77 = .ok (.ireturn, 1) := by decide +kernel
theorem dX5_readItem_0 : decode cX5_readItem 0 = .ok (.aload_n 0, 1) := by decide +kernel
theorem dX5_readItem_1 : decode cX5_readItem 1 = .ok (.invokevirtual 37, 3) := by decide +kernel
theorem dX5_readItem_4 : decode cX5_readItem 4 = .ok (.aload_n 0, 1) := by decide +kernel
theorem dX5_readItem_5 : decode cX5_readItem 5 = .ok (.ldc 40, 2) := by decide +kernel
theorem dX5_readItem_7 : decode cX5_readItem 7 = .ok (.invokevirtual 42, 3) := by decide +kernel
theorem dX5_readItem_10 : decode cX5_readItem 10 = .ok (.iload_n 2, 1) := by decide +kernel
theorem dX5_readItem_11 : decode cX5_readItem 11 = .ok (.if_icmp .eq 14, 3) := by decide +kernel
theorem dX5_readItem_14 : decode cX5_readItem 14 = .ok (.aload_n 0, 1) := by decide +kernel
theorem dX5_readItem_15 : decode cX5_readItem 15 = .ok (.aload_n 0, 1) := by decide +kernel
theorem dX5_readItem_16 : decode cX5_readItem 16 = .ok (.getfield 46, 3) := by decide +kernel
theorem dX5_readItem_19 : decode cX5_readItem 19 = .ok (.putfield 15, 3) := by decide +kernel
theorem dX5_readItem_22 : decode cX5_readItem 22 = .ok (.goto 68, 3) := by decide +kernel
theorem dX5_readItem_25 : decode cX5_readItem 25 = .ok (.aload_n 0, 1) := by decide +kernel
theorem dX5_readItem_26 : decode cX5_readItem 26 = .ok (.ldc 49, 2) := by decide +kernel
theorem dX5_readItem_28 : decode cX5_readItem 28 = .ok (.invokevirtual 42, 3) := by decide +kernel
theorem dX5_readItem_31 : decode cX5_readItem 31 = .ok (.ifCond .eq 12, 3) := by decide +kernel
theorem dX5_readItem_34 : decode cX5_readItem 34 = .ok (.aload_n 0, 1) := by decide +kernel
theorem dX5_readItem_35 : decode cX5_readItem 35 = .ok (.aload_n 1, 1) := by decide +kernel
theorem dX5_readItem_36 : decode cX5_readItem 36 = .ok (.iconst 0, 1) := by decide +kernel
theorem dX5_readItem_37 : decode cX5_readItem 37 = .ok (.invokevirtual 51, 3) := by decide +kernel
theorem dX5_readItem_40 : decode cX5_readItem 40 = .ok (.goto 50, 3) := by decide +kernel
theorem dX5_readItem_43 : decode cX5_readItem 43 = .ok (.aload_n 0, 1) := by decide +kernel
theorem dX5_readItem_44 : decode cX5_readItem 44 = .ok (.ldc 54, 2) := by decide +kernel
theorem dX5_readItem_46 : decode cX5_readItem 46 = .ok (.invokevirtual 42, 3) := by decide +kernel
theorem dX5_readItem_49 : decode cX5_readItem 49 = .ok (.ifCond .eq 12, 3) := by decide +kernel
theorem dX5_readItem_52 : decode cX5_readItem 52 = .ok (.aload_n 0, 1) := by decide +kernel
theorem dX5_readItem_53 : decode cX5_readItem 53 = .ok (.aload_n 1, 1) := by decide +kernel
theorem dX5_readItem_54 : decode cX5_readItem 54 = .ok (.iconst 1, 1) := by decide +kernel
theorem dX5_readItem_55 : decode cX5_readItem 55 = .ok (.invokevirtual 51, 3) := by decide +kernel
theorem dX5_readItem_58 : decode cX5_readItem 58 = .ok (.goto 32, 3) := by decide +kernel
theorem dX5_readItem_61 : decode cX5_readItem 61 = .ok (.aload_n 0, 1) := by decide +kernel
theorem dX5_readItem_62 : decode cX5_readItem 62 = .ok (.ldc 56, 2) := by decide +kernel
theorem dX5_readItem_64 : decode cX5_readItem 64 = .ok (.invokevirtual 42, 3) := by decide +kernel
theorem dX5_readItem_67 : decode cX5_readItem 67 = .ok (.ifCond .eq 11, 3) := by decide +kernel
theorem dX5_readItem_70 : decode cX5_readItem 70 = .ok (.aload_n 0, 1) := by decide +kernel
theorem dX5_readItem_71 : decode cX5_readItem 71 = .ok (.aload_n 1, 1) := by decide +kernel
theorem dX5_readItem_72 : decode cX5_readItem 72 = .ok (.invokevirtual 58, 3) := by decide +kernel
theorem dX5_readItem_75 : decode cX5_readItem 75 = .ok (.goto 15, 3) := by decide +kernel
theorem dX5_readItem_78 : decode cX5_readItem 78 = .ok (.iload_n 2, 1) := by decide +kernel
theorem dX5_readItem_79 : decode cX5_readItem 79 = .ok (.ifCond .ne 11, 3) := by decide +kernel
theorem dX5_readItem_82 : decode cX5_readItem 82 = .ok (.aload_n 0, 1) := by decide +kernel
theorem dX5_readItem_83 : decode cX5_readItem 83 = .ok (.aload_n 0, 1) := by decide +kernel
theorem dX5_readItem_84 : decode cX5_readItem 84 = .ok (.getfield 46, 3) := by decide +kernel
theorem dX5_readItem_87 : decode cX5_readItem 87 = .ok (.putfield 15, 3) := by decide +kernel
theorem dX5_readItem_90 : decode cX5_readItem 90 = .ok (.aload_n 0, 1) := by decide +kernel
theorem dX5_readItem_91 : decode cX5_readItem 91 = .ok (.invokevirtual 62, 3) := by decide +kernel
theorem dX5_readItem_94 : decode cX5_readItem 94 = .ok (.return_, 1) := by decide +kernel
theorem dX5_readLedge_0 : decode cX5_readLedge 0 = .ok (.aload_n 1, 1) := by decide +kernel
theorem dX5_readLedge_1 : decode cX5_readLedge 1 = .ok (.getfield 65, 3) := by decide +kernel
theorem dX5_readLedge_4 : decode cX5_readLedge 4 = .ok (.getfield 69, 3) := by decide +kernel
theorem dX5_readLedge_7 : decode cX5_readLedge 7 = .ok (.bipush 8, 2) := by decide +kernel
theorem dX5_readLedge_9 : decode cX5_readLedge 9 = .ok (.if_icmp .lt 12, 3) := by decide +kernel
theorem dX5_readLedge_12 : decode cX5_readLedge 12 = .ok (.aload_n 0, 1) := by decide +kernel
theorem dX5_readLedge_13 : decode cX5_readLedge 13 = .ok (.aload_n 0, 1) := by decide +kernel
theorem dX5_readLedge_14 : decode cX5_readLedge 14 = .ok (.getfield 46, 3) := by decide +kernel
theorem dX5_readLedge_17 : decode cX5_readLedge 17 = .ok (.putfield 15, 3) := by decide +kernel
theorem dX5_readLedge_20 : decode cX5_readLedge 20 = .ok (.return_, 1) := by decide +kernel
theorem dX5_readLedge_21 : decode cX5_readLedge 21 = .ok (.aload_n 0, 1) := by decide +kernel
theorem dX5_readLedge_22 : decode cX5_readLedge 22 = .ok (.iconst 1, 1) := by decide +kernel
theorem dX5_readLedge_23 : decode cX5_readLedge 23 = .ok (.bipush 60, 2) := by decide +kernel
theorem dX5_readLedge_25 : decode cX5_readLedge 25 = .ok (.invokevirtual 74, 3) := by decide +kernel
theorem dX5_readLedge_28 : decode cX5_readLedge 28 = .ok (.istore_n 3, 1) := by decide +kernel
theorem dX5_readLedge_29 : decode cX5_readLedge 29 = .ok (.aload_n 0, 1) := by decide +kernel
theorem dX5_readLedge_30 : decode cX5_readLedge 30 = .ok (.iconst 0, 1) := by decide +kernel
theorem dX5_readLedge_31 : decode cX5_readLedge 31 = .ok (.bipush 30, 2) := by decide +kernel
theorem dX5_readLedge_33 : decode cX5_readLedge 33 = .ok (.invokevirtual 74, 3) := by decide +kernel
theorem dX5_readLedge_36 : decode cX5_readLedge 36 = .ok (.istore 4, 2) := by decide +kernel
theorem dX5_readLedge_38 : decode cX5_readLedge 38 = .ok (.iload_n 2, 1) := by decide +kernel
theorem dX5_readLedge_39 : decode cX5_readLedge 39 = .ok (.ifCond .eq 20, 3) := by decide +kernel
theorem dX5_readLedge_42 : decode cX5_readLedge 42 = .ok (.aload_n 0, 1) := by decide +kernel
theorem dX5_readLedge_43 : decode cX5_readLedge 43 = .ok (.iconst 0, 1) := by decide +kernel
theorem dX5_readLedge_44 : decode cX5_readLedge 44 = .ok (.aload_n 1, 1) := by decide +kernel
theorem dX5_readLedge_45 : decode cX5_readLedge 45 = .ok (.getfield 65, 3) := by decide +kernel
theorem dX5_readLedge_48 : decode cX5_readLedge 48 = .ok (.getfield 69, 3) := by decide +kernel
theorem dX5_readLedge_51 : decode cX5_readLedge 51 = .ok (.iconst 1, 1) := by decide +kernel
theorem dX5_readLedge_52 : decode cX5_readLedge 52 = .ok (.isub, 1) := by decide +kernel
theorem dX5_readLedge_53 : decode cX5_readLedge 53 = .ok (.invokevirtual 74, 3) := by decide +kernel
theorem dX5_readLedge_56 : decode cX5_readLedge 56 = .ok (.goto 4, 3) := by decide +kernel
theorem dX5_readLedge_59 : decode cX5_readLedge 59 = .ok (.iconst (-1), 1) := by decide +kernel
theorem dX5_readLedge_60 : decode cX5_readLedge 60 = .ok (.istore 5, 2) := by decide +kernel
theorem dX5_readLedge_62 : decode cX5_readLedge 62 = .ok (.aload_n 0, 1) := by decide +kernel
theorem dX5_readLedge_63 : decode cX5_readLedge 63 = .ok (.getfield 15, 3) := by decide +kernel
theorem dX5_readLedge_66 : decode cX5_readLedge 66 = .ok (.iconst (-1), 1) := by decide +kernel
theorem dX5_readLedge_67 : decode cX5_readLedge 67 = .ok (.if_icmp .ne 13, 3) := by decide +kernel
theorem dX5_readLedge_70 : decode cX5_readLedge 70 = .ok (.aload_n 1, 1) := by decide +kernel
theorem dX5_readLedge_71 : decode cX5_readLedge 71 = .ok (.iload_n 3, 1) := by decide +kernel
theorem dX5_readLedge_72 : decode cX5_readLedge 72 = .ok (.iload 4, 2) := by decide +kernel
theorem dX5_readLedge_74 : decode cX5_readLedge 74 = .ok (.iload 5, 2) := by decide +kernel
theorem dX5_readLedge_76 : decode cX5_readLedge 76 = .ok (.invokevirtual 78, 3) := by decide +kernel
theorem dX5_readLedge_79 : decode cX5_readLedge 79 = .ok (.pop, 1) := by decide +kernel
theorem dX5_readLedge_80 : decode cX5_readLedge 80 = .ok (.return_, 1) := by decide +kernel
theorem dX5_readVoter_0 : decode cX5_readVoter 0 = .ok (.aload_n 1, 1) := by decide +kernel
theorem dX5_readVoter_1 : decode cX5_readVoter 1 = .ok (.getfield 65, 3) := by decide +kernel
theorem dX5_readVoter_4 : decode cX5_readVoter 4 = .ok (.getfield 82, 3) := by decide +kernel
theorem dX5_readVoter_7 : decode cX5_readVoter 7 = .ok (.bipush 6, 2) := by decide +kernel
theorem dX5_readVoter_9 : decode cX5_readVoter 9 = .ok (.if_icmp .lt 12, 3) := by decide +kernel
theorem dX5_readVoter_12 : decode cX5_readVoter 12 = .ok (.aload_n 0, 1) := by decide +kernel
theorem dX5_readVoter_13 : decode cX5_readVoter 13 = .ok (.aload_n 0, 1) := by decide +kernel
theorem dX5_readVoter_14 : decode cX5_readVoter 14 = .ok (.getfield 46, 3) := by decide +kernel
theorem dX5_readVoter_17 : decode cX5_readVoter 17 = .ok (.putfield 15, 3) := by decide +kernel
theorem dX5_readVoter_20 : decode cX5_readVoter 20 = .ok (.return_, 1) := by decide +kernel
theorem dX5_readVoter_21 : decode cX5_readVoter 21 = .ok (.aload_n 0, 1) := by decide +kernel
theorem dX5_readVoter_22 : decode cX5_readVoter 22 = .ok (.iconst 0, 1) := by decide +kernel
theorem dX5_readVoter_23 : decode cX5_readVoter 23 = .ok (.iconst 5, 1) := by decide +kernel
theorem dX5_readVoter_24 : decode cX5_readVoter 24 = .ok (.invokevirtual 74, 3) := by decide +kernel
theorem dX5_readVoter_27 : decode cX5_readVoter 27 = .ok (.istore_n 2, 1) := by decide +kernel
theorem dX5_readVoter_28 : decode cX5_readVoter 28 = .ok (.aload_n 0, 1) := by decide +kernel
theorem dX5_readVoter_29 : decode cX5_readVoter 29 = .ok (.iconst 0, 1) := by decide +kernel
theorem dX5_readVoter_30 : decode cX5_readVoter 30 = .ok (.aload_n 1, 1) := by decide +kernel
theorem dX5_readVoter_31 : decode cX5_readVoter 31 = .ok (.getfield 65, 3) := by decide +kernel
theorem dX5_readVoter_34 : decode cX5_readVoter 34 = .ok (.getfield 69, 3) := by decide +kernel
theorem dX5_readVoter_37 : decode cX5_readVoter 37 = .ok (.iconst 1, 1) := by decide +kernel
theorem dX5_readVoter_38 : decode cX5_readVoter 38 = .ok (.isub, 1) := by decide +kernel
theorem dX5_readVoter_39 : decode cX5_readVoter 39 = .ok (.invokevirtual 74, 3) := by decide +kernel
theorem dX5_readVoter_42 : decode cX5_readVoter 42 = .ok (.istore_n 3, 1) := by decide +kernel
theorem dX5_readVoter_43 : decode cX5_readVoter 43 = .ok (.aload_n 0, 1) := by decide +kernel
theorem dX5_readVoter_44 : decode cX5_readVoter 44 = .ok (.iconst 1, 1) := by decide +kernel
theorem dX5_readVoter_45 : decode cX5_readVoter 45 = .ok (.bipush 9, 2) := by decide +kernel
theorem dX5_readVoter_47 : decode cX5_readVoter 47 = .ok (.invokevirtual 74, 3) := by decide +kernel
theorem dX5_readVoter_50 : decode cX5_readVoter 50 = .ok (.istore 4, 2) := by decide +kernel
theorem dX5_readVoter_52 : decode cX5_readVoter 52 = .ok (.aload_n 0, 1) := by decide +kernel
theorem dX5_readVoter_53 : decode cX5_readVoter 53 = .ok (.getfield 15, 3) := by decide +kernel
theorem dX5_readVoter_56 : decode cX5_readVoter 56 = .ok (.iconst (-1), 1) := by decide +kernel
theorem dX5_readVoter_57 : decode cX5_readVoter 57 = .ok (.if_icmp .ne 12, 3) := by decide +kernel
theorem dX5_readVoter_60 : decode cX5_readVoter 60 = .ok (.aload_n 1, 1) := by decide +kernel
theorem dX5_readVoter_61 : decode cX5_readVoter 61 = .ok (.iload_n 2, 1) := by decide +kernel
theorem dX5_readVoter_62 : decode cX5_readVoter 62 = .ok (.iload_n 3, 1) := by decide +kernel
theorem dX5_readVoter_63 : decode cX5_readVoter 63 = .ok (.iload 4, 2) := by decide +kernel
theorem dX5_readVoter_65 : decode cX5_readVoter 65 = .ok (.invokevirtual 85, 3) := by decide +kernel
theorem dX5_readVoter_68 : decode cX5_readVoter 68 = .ok (.pop, 1) := by decide +kernel
theorem dX5_readVoter_69 : decode cX5_readVoter 69 = .ok (.return_, 1) := by decide +kernel
theorem dX5_takeWord_0 : decode cX5_takeWord 0 = .ok (.aload_n 0, 1) := by decide +kernel
theorem dX5_takeWord_1 : decode cX5_takeWord 1 = .ok (.invokevirtual 34, 3) := by decide +kernel
theorem dX5_takeWord_4 : decode cX5_takeWord 4 = .ok (.aload_n 0, 1) := by decide +kernel
theorem dX5_takeWord_5 : decode cX5_takeWord 5 = .ok (.aload_n 0, 1) := by decide +kernel
theorem dX5_takeWord_6 : decode cX5_takeWord 6 = .ok (.getfield 27, 3) := by decide +kernel
theorem dX5_takeWord_9 : decode cX5_takeWord 9 = .ok (.putfield 46, 3) := by decide +kernel
theorem dX5_takeWord_12 : decode cX5_takeWord 12 = .ok (.aload_n 0, 1) := by decide +kernel
theorem dX5_takeWord_13 : decode cX5_takeWord 13 = .ok (.getfield 27, 3) := by decide +kernel
theorem dX5_takeWord_16 : decode cX5_takeWord 16 = .ok (.aload_n 0, 1) := by decide +kernel
theorem dX5_takeWord_17 : decode cX5_takeWord 17 = .ok (.getfield 19, 3) := by decide +kernel
theorem dX5_takeWord_20 : decode cX5_takeWord 20 = .ok (.if_icmp .ge 27, 3) := by decide +kernel
theorem dX5_takeWord_23 : decode cX5_takeWord 23 = .ok (.aload_n 0, 1) := by decide +kernel
theorem dX5_takeWord_24 : decode cX5_takeWord 24 = .ok (.bipush 97, 2) := by decide +kernel
theorem dX5_takeWord_26 : decode cX5_takeWord 26 = .ok (.bipush 122, 2) := by decide +kernel
theorem dX5_takeWord_28 : decode cX5_takeWord 28 = .ok (.invokevirtual 88, 3) := by decide +kernel
theorem dX5_takeWord_31 : decode cX5_takeWord 31 = .ok (.ifCond .eq 16, 3) := by decide +kernel
theorem dX5_takeWord_34 : decode cX5_takeWord 34 = .ok (.aload_n 0, 1) := by decide +kernel
theorem dX5_takeWord_35 : decode cX5_takeWord 35 = .ok (.dup, 1) := by decide +kernel
theorem dX5_takeWord_36 : decode cX5_takeWord 36 = .ok (.getfield 27, 3) := by decide +kernel
theorem dX5_takeWord_39 : decode cX5_takeWord 39 = .ok (.iconst 1, 1) := by decide +kernel
theorem dX5_takeWord_40 : decode cX5_takeWord 40 = .ok (.iadd, 1) := by decide +kernel
theorem dX5_takeWord_41 : decode cX5_takeWord 41 = .ok (.putfield 27, 3) := by decide +kernel
theorem dX5_takeWord_44 : decode cX5_takeWord 44 = .ok (.goto (-32), 3) := by decide +kernel
theorem dX5_takeWord_47 : decode cX5_takeWord 47 = .ok (.return_, 1) := by decide +kernel
theorem dX5_wordIs_0 : decode cX5_wordIs 0 = .ok (.aload_n 0, 1) := by decide +kernel
theorem dX5_wordIs_1 : decode cX5_wordIs 1 = .ok (.getfield 27, 3) := by decide +kernel
theorem dX5_wordIs_4 : decode cX5_wordIs 4 = .ok (.aload_n 0, 1) := by decide +kernel
theorem dX5_wordIs_5 : decode cX5_wordIs 5 = .ok (.getfield 46, 3) := by decide +kernel
theorem dX5_wordIs_8 : decode cX5_wordIs 8 = .ok (.isub, 1) := by decide +kernel
theorem dX5_wordIs_9 : decode cX5_wordIs 9 = .ok (.aload_n 1, 1) := by decide +kernel
theorem dX5_wordIs_10 : decode cX5_wordIs 10 = .ok (.invokevirtual 92, 3) := by decide +kernel
theorem dX5_wordIs_13 : decode cX5_wordIs 13 = .ok (.if_icmp .eq 5, 3) := by decide +kernel
theorem dX5_wordIs_16 : decode cX5_wordIs 16 = .ok (.iconst 0, 1) := by decide +kernel
theorem dX5_wordIs_17 : decode cX5_wordIs 17 = .ok (.ireturn, 1) := by decide +kernel
theorem dX5_wordIs_18 : decode cX5_wordIs 18 = .ok (.iconst 0, 1) := by decide +kernel
theorem dX5_wordIs_19 : decode cX5_wordIs 19 = .ok (.istore_n 2, 1) := by decide +kernel
theorem dX5_wordIs_20 : decode cX5_wordIs 20 = .ok (.iload_n 2, 1) := by decide +kernel
theorem dX5_wordIs_21 : decode cX5_wordIs 21 = .ok (.aload_n 1, 1) := by decide +kernel
theorem dX5_wordIs_22 : decode cX5_wordIs 22 = .ok (.invokevirtual 92, 3) := by decide +kernel
theorem dX5_wordIs_25 : decode cX5_wordIs 25 = .ok (.if_icmp .ge 30, 3) := by decide +kernel
theorem dX5_wordIs_28 : decode cX5_wordIs 28 = .ok (.aload_n 0, 1) := by decide +kernel
theorem dX5_wordIs_29 : decode cX5_wordIs 29 = .ok (.getfield 9, 3) := by decide +kernel
theorem dX5_wordIs_32 : decode cX5_wordIs 32 = .ok (.aload_n 0, 1) := by decide +kernel
theorem dX5_wordIs_33 : decode cX5_wordIs 33 = .ok (.getfield 46, 3) := by decide +kernel
theorem dX5_wordIs_36 : decode cX5_wordIs 36 = .ok (.iload_n 2, 1) := by decide +kernel
theorem dX5_wordIs_37 : decode cX5_wordIs 37 = .ok (.iadd, 1) := by decide +kernel
theorem dX5_wordIs_38 : decode cX5_wordIs 38 = .ok (.baload, 1) := by decide +kernel
theorem dX5_wordIs_39 : decode cX5_wordIs 39 = .ok (.aload_n 1, 1) := by decide +kernel
theorem dX5_wordIs_40 : decode cX5_wordIs 40 = .ok (.iload_n 2, 1) := by decide +kernel
theorem dX5_wordIs_41 : decode cX5_wordIs 41 = .ok (.invokevirtual 97, 3) := by decide +kernel
theorem dX5_wordIs_44 : decode cX5_wordIs 44 = .ok (.if_icmp .eq 5, 3) := by decide +kernel
theorem dX5_wordIs_47 : decode cX5_wordIs 47 = .ok (.iconst 0, 1) := by decide +kernel
theorem dX5_wordIs_48 : decode cX5_wordIs 48 = .ok (.ireturn, 1) := by decide +kernel
theorem dX5_wordIs_49 : decode cX5_wordIs 49 = .ok (.iinc 2 1, 3) := by decide +kernel
theorem dX5_wordIs_52 : decode cX5_wordIs 52 = .ok (.goto (-32), 3) := by decide +kernel
theorem dX5_wordIs_55 : decode cX5_wordIs 55 = .ok (.iconst 1, 1) := by decide +kernel
theorem dX5_wordIs_56 : decode cX5_wordIs 56 = .ok (.ireturn, 1) := by decide +kernel
theorem dX5_takeNumber_0 : decode cX5_takeNumber 0 = .ok (.aload_n 0, 1) := by decide +kernel
theorem dX5_takeNumber_1 : decode cX5_takeNumber 1 = .ok (.getfield 15, 3) := by decide +kernel
theorem dX5_takeNumber_4 : decode cX5_takeNumber 4 = .ok (.iconst (-1), 1) := by decide +kernel
theorem dX5_takeNumber_5 : decode cX5_takeNumber 5 = .ok (.if_icmp .eq 5, 3) := by decide +kernel
theorem dX5_takeNumber_8 : decode cX5_takeNumber 8 = .ok (.iconst 0, 1) := by decide +kernel
theorem dX5_takeNumber_9 : decode cX5_takeNumber 9 = .ok (.ireturn, 1) := by decide +kernel
theorem dX5_takeNumber_10 : decode cX5_takeNumber 10 = .ok (.aload_n 0, 1) := by decide +kernel
theorem dX5_takeNumber_11 : decode cX5_takeNumber 11 = .ok (.invokevirtual 34, 3) := by decide +kernel
theorem dX5_takeNumber_14 : decode cX5_takeNumber 14 = .ok (.aload_n 0, 1) := by decide +kernel
theorem dX5_takeNumber_15 : decode cX5_takeNumber 15 = .ok (.aload_n 0, 1) := by decide +kernel
theorem dX5_takeNumber_16 : decode cX5_takeNumber 16 = .ok (.getfield 27, 3) := by decide +kernel
theorem dX5_takeNumber_19 : decode cX5_takeNumber 19 = .ok (.putfield 46, 3) := by decide +kernel
theorem dX5_takeNumber_22 : decode cX5_takeNumber 22 = .ok (.iconst 0, 1) := by decide +kernel
theorem dX5_takeNumber_23 : decode cX5_takeNumber 23 = .ok (.istore_n 3, 1) := by decide +kernel
theorem dX5_takeNumber_24 : decode cX5_takeNumber 24 = .ok (.aload_n 0, 1) := by decide +kernel
theorem dX5_takeNumber_25 : decode cX5_takeNumber 25 = .ok (.getfield 27, 3) := by decide +kernel
theorem dX5_takeNumber_28 : decode cX5_takeNumber 28 = .ok (.aload_n 0, 1) := by decide +kernel
theorem dX5_takeNumber_29 : decode cX5_takeNumber 29 = .ok (.getfield 19, 3) := by decide +kernel
theorem dX5_takeNumber_32 : decode cX5_takeNumber 32 = .ok (.if_icmp .ge 62, 3) := by decide +kernel
theorem dX5_takeNumber_35 : decode cX5_takeNumber 35 = .ok (.aload_n 0, 1) := by decide +kernel
theorem dX5_takeNumber_36 : decode cX5_takeNumber 36 = .ok (.bipush 48, 2) := by decide +kernel
theorem dX5_takeNumber_38 : decode cX5_takeNumber 38 = .ok (.bipush 57, 2) := by decide +kernel
theorem dX5_takeNumber_40 : decode cX5_takeNumber 40 = .ok (.invokevirtual 88, 3) := by decide +kernel
theorem dX5_takeNumber_43 : decode cX5_takeNumber 43 = .ok (.ifCond .eq 51, 3) := by decide +kernel
theorem dX5_takeNumber_46 : decode cX5_takeNumber 46 = .ok (.aload_n 0, 1) := by decide +kernel
theorem dX5_takeNumber_47 : decode cX5_takeNumber 47 = .ok (.getfield 27, 3) := by decide +kernel
theorem dX5_takeNumber_50 : decode cX5_takeNumber 50 = .ok (.aload_n 0, 1) := by decide +kernel
theorem dX5_takeNumber_51 : decode cX5_takeNumber 51 = .ok (.getfield 46, 3) := by decide +kernel
theorem dX5_takeNumber_54 : decode cX5_takeNumber 54 = .ok (.isub, 1) := by decide +kernel
theorem dX5_takeNumber_55 : decode cX5_takeNumber 55 = .ok (.iconst 2, 1) := by decide +kernel
theorem dX5_takeNumber_56 : decode cX5_takeNumber 56 = .ok (.if_icmp .ge 23, 3) := by decide +kernel
theorem dX5_takeNumber_59 : decode cX5_takeNumber 59 = .ok (.bipush 10, 2) := by decide +kernel
theorem dX5_takeNumber_61 : decode cX5_takeNumber 61 = .ok (.iload_n 3, 1) := by decide +kernel
theorem dX5_takeNumber_62 : decode cX5_takeNumber 62 = .ok (.imul, 1) := by decide +kernel
theorem dX5_takeNumber_63 : decode cX5_takeNumber 63 = .ok (.aload_n 0, 1) := by decide +kernel
theorem dX5_takeNumber_64 : decode cX5_takeNumber 64 = .ok (.getfield 9, 3) := by decide +kernel
theorem dX5_takeNumber_67 : decode cX5_takeNumber 67 = .ok (.aload_n 0, 1) := by decide +kernel
theorem dX5_takeNumber_68 : decode cX5_takeNumber 68 = .ok (.getfield 27, 3) := by decide +kernel
theorem dX5_takeNumber_71 : decode cX5_takeNumber 71 = .ok (.baload, 1) := by decide +kernel
theorem dX5_takeNumber_72 : decode cX5_takeNumber 72 = .ok (.iadd, 1) := by decide +kernel
theorem dX5_takeNumber_73 : decode cX5_takeNumber 73 = .ok (.bipush 48, 2) := by decide +kernel
theorem dX5_takeNumber_75 : decode cX5_takeNumber 75 = .ok (.isub, 1) := by decide +kernel
theorem dX5_takeNumber_76 : decode cX5_takeNumber 76 = .ok (.goto 4, 3) := by decide +kernel
theorem dX5_takeNumber_79 : decode cX5_takeNumber 79 = .ok (.iload_n 3, 1) := by decide +kernel
theorem dX5_takeNumber_80 : decode cX5_takeNumber 80 = .ok (.istore_n 3, 1) := by decide +kernel
theorem dX5_takeNumber_81 : decode cX5_takeNumber 81 = .ok (.aload_n 0, 1) := by decide +kernel
theorem dX5_takeNumber_82 : decode cX5_takeNumber 82 = .ok (.dup, 1) := by decide +kernel
theorem dX5_takeNumber_83 : decode cX5_takeNumber 83 = .ok (.getfield 27, 3) := by decide +kernel
theorem dX5_takeNumber_86 : decode cX5_takeNumber 86 = .ok (.iconst 1, 1) := by decide +kernel
theorem dX5_takeNumber_87 : decode cX5_takeNumber 87 = .ok (.iadd, 1) := by decide +kernel
theorem dX5_takeNumber_88 : decode cX5_takeNumber 88 = .ok (.putfield 27, 3) := by decide +kernel
theorem dX5_takeNumber_91 : decode cX5_takeNumber 91 = .ok (.goto (-67), 3) := by decide +kernel
theorem dX5_takeNumber_94 : decode cX5_takeNumber 94 = .ok (.aload_n 0, 1) := by decide +kernel
theorem dX5_takeNumber_95 : decode cX5_takeNumber 95 = .ok (.getfield 27, 3) := by decide +kernel
theorem dX5_takeNumber_98 : decode cX5_takeNumber 98 = .ok (.aload_n 0, 1) := by decide +kernel
theorem dX5_takeNumber_99 : decode cX5_takeNumber 99 = .ok (.getfield 46, 3) := by decide +kernel
theorem dX5_takeNumber_102 : decode cX5_takeNumber 102 = .ok (.isub, 1) := by decide +kernel
theorem dX5_takeNumber_103 : decode cX5_takeNumber 103 = .ok (.istore 4, 2) := by decide +kernel
theorem dX5_takeNumber_105 : decode cX5_takeNumber 105 = .ok (.iload 4, 2) := by decide +kernel
theorem dX5_takeNumber_107 : decode cX5_takeNumber 107 = .ok (.iconst 1, 1) := by decide +kernel
theorem dX5_takeNumber_108 : decode cX5_takeNumber 108 = .ok (.if_icmp .lt 18, 3) := by decide +kernel
theorem dX5_takeNumber_111 : decode cX5_takeNumber 111 = .ok (.iload 4, 2) := by decide +kernel
theorem dX5_takeNumber_113 : decode cX5_takeNumber 113 = .ok (.iconst 2, 1) := by decide +kernel
theorem dX5_takeNumber_114 : decode cX5_takeNumber 114 = .ok (.if_icmp .gt 12, 3) := by decide +kernel
theorem dX5_takeNumber_117 : decode cX5_takeNumber 117 = .ok (.iload_n 3, 1) := by decide +kernel
theorem dX5_takeNumber_118 : decode cX5_takeNumber 118 = .ok (.iload_n 1, 1) := by decide +kernel
theorem dX5_takeNumber_119 : decode cX5_takeNumber 119 = .ok (.iload_n 2, 1) := by decide +kernel
theorem dX5_takeNumber_120 : decode cX5_takeNumber 120 = .ok (.invokestatic 101, 3) := by decide +kernel
theorem dX5_takeNumber_123 : decode cX5_takeNumber 123 = .ok (.ifCond .ne 11, 3) := by decide +kernel
theorem dX5_takeNumber_126 : decode cX5_takeNumber 126 = .ok (.aload_n 0, 1) := by decide +kernel
theorem dX5_takeNumber_127 : decode cX5_takeNumber 127 = .ok (.aload_n 0, 1) := by decide +kernel
theorem dX5_takeNumber_128 : decode cX5_takeNumber 128 = .ok (.getfield 46, 3) := by decide +kernel
theorem dX5_takeNumber_131 : decode cX5_takeNumber 131 = .ok (.putfield 15, 3) := by decide +kernel
theorem dX5_takeNumber_134 : decode cX5_takeNumber 134 = .ok (.iload_n 3, 1) := by decide +kernel
theorem dX5_takeNumber_135 : decode cX5_takeNumber 135 = .ok (.ireturn, 1) := by decide +kernel
theorem dX5_takeEnd_0 : decode cX5_takeEnd 0 = .ok (.aload_n 0, 1) := by decide +kernel
theorem dX5_takeEnd_1 : decode cX5_takeEnd 1 = .ok (.getfield 15, 3) := by decide +kernel
theorem dX5_takeEnd_4 : decode cX5_takeEnd 4 = .ok (.iconst (-1), 1) := by decide +kernel
theorem dX5_takeEnd_5 : decode cX5_takeEnd 5 = .ok (.if_icmp .eq 4, 3) := by decide +kernel
theorem dX5_takeEnd_8 : decode cX5_takeEnd 8 = .ok (.return_, 1) := by decide +kernel
theorem dX5_takeEnd_9 : decode cX5_takeEnd 9 = .ok (.aload_n 0, 1) := by decide +kernel
theorem dX5_takeEnd_10 : decode cX5_takeEnd 10 = .ok (.invokevirtual 34, 3) := by decide +kernel
theorem dX5_takeEnd_13 : decode cX5_takeEnd 13 = .ok (.aload_n 0, 1) := by decide +kernel
theorem dX5_takeEnd_14 : decode cX5_takeEnd 14 = .ok (.getfield 27, 3) := by decide +kernel
theorem dX5_takeEnd_17 : decode cX5_takeEnd 17 = .ok (.aload_n 0, 1) := by decide +kernel
theorem dX5_takeEnd_18 : decode cX5_takeEnd 18 = .ok (.getfield 19, 3) := by decide +kernel
theorem dX5_takeEnd_21 : decode cX5_takeEnd 21 = .ok (.if_icmp .ge 27, 3) := by decide +kernel
theorem dX5_takeEnd_24 : decode cX5_takeEnd 24 = .ok (.aload_n 0, 1) := by decide +kernel
theorem dX5_takeEnd_25 : decode cX5_takeEnd 25 = .ok (.bipush 59, 2) := by decide +kernel
theorem dX5_takeEnd_27 : decode cX5_takeEnd 27 = .ok (.bipush 59, 2) := by decide +kernel
theorem dX5_takeEnd_29 : decode cX5_takeEnd 29 = .ok (.invokevirtual 88, 3) := by decide +kernel
theorem dX5_takeEnd_32 : decode cX5_takeEnd 32 = .ok (.ifCond .eq 16, 3) := by decide +kernel
theorem dX5_takeEnd_35 : decode cX5_takeEnd 35 = .ok (.aload_n 0, 1) := by decide +kernel
theorem dX5_takeEnd_36 : decode cX5_takeEnd 36 = .ok (.dup, 1) := by decide +kernel
theorem dX5_takeEnd_37 : decode cX5_takeEnd 37 = .ok (.getfield 27, 3) := by decide +kernel
theorem dX5_takeEnd_40 : decode cX5_takeEnd 40 = .ok (.iconst 1, 1) := by decide +kernel
theorem dX5_takeEnd_41 : decode cX5_takeEnd 41 = .ok (.iadd, 1) := by decide +kernel
theorem dX5_takeEnd_42 : decode cX5_takeEnd 42 = .ok (.putfield 27, 3) := by decide +kernel
theorem dX5_takeEnd_45 : decode cX5_takeEnd 45 = .ok (.goto 11, 3) := by decide +kernel
theorem dX5_takeEnd_48 : decode cX5_takeEnd 48 = .ok (.aload_n 0, 1) := by decide +kernel
theorem dX5_takeEnd_49 : decode cX5_takeEnd 49 = .ok (.aload_n 0, 1) := by decide +kernel
theorem dX5_takeEnd_50 : decode cX5_takeEnd 50 = .ok (.getfield 27, 3) := by decide +kernel
theorem dX5_takeEnd_53 : decode cX5_takeEnd 53 = .ok (.putfield 15, 3) := by decide +kernel
theorem dX5_takeEnd_56 : decode cX5_takeEnd 56 = .ok (.return_, 1) := by decide +kernel
theorem dX5_skipBlanks_0 : decode cX5_skipBlanks 0 = .ok (.aload_n 0, 1) := by decide +kernel
theorem dX5_skipBlanks_1 : decode cX5_skipBlanks 1 = .ok (.getfield 27, 3) := by decide +kernel
theorem dX5_skipBlanks_4 : decode cX5_skipBlanks 4 = .ok (.aload_n 0, 1) := by decide +kernel
theorem dX5_skipBlanks_5 : decode cX5_skipBlanks 5 = .ok (.getfield 19, 3) := by decide +kernel
theorem dX5_skipBlanks_8 : decode cX5_skipBlanks 8 = .ok (.if_icmp .ge 27, 3) := by decide +kernel
theorem dX5_skipBlanks_11 : decode cX5_skipBlanks 11 = .ok (.aload_n 0, 1) := by decide +kernel
theorem dX5_skipBlanks_12 : decode cX5_skipBlanks 12 = .ok (.bipush 32, 2) := by decide +kernel
theorem dX5_skipBlanks_14 : decode cX5_skipBlanks 14 = .ok (.bipush 32, 2) := by decide +kernel
theorem dX5_skipBlanks_16 : decode cX5_skipBlanks 16 = .ok (.invokevirtual 88, 3) := by decide +kernel
theorem dX5_skipBlanks_19 : decode cX5_skipBlanks 19 = .ok (.ifCond .eq 16, 3) := by decide +kernel
theorem dX5_skipBlanks_22 : decode cX5_skipBlanks 22 = .ok (.aload_n 0, 1) := by decide +kernel
theorem dX5_skipBlanks_23 : decode cX5_skipBlanks 23 = .ok (.dup, 1) := by decide +kernel
theorem dX5_skipBlanks_24 : decode cX5_skipBlanks 24 = .ok (.getfield 27, 3) := by decide +kernel
theorem dX5_skipBlanks_27 : decode cX5_skipBlanks 27 = .ok (.iconst 1, 1) := by decide +kernel
theorem dX5_skipBlanks_28 : decode cX5_skipBlanks 28 = .ok (.iadd, 1) := by decide +kernel
theorem dX5_skipBlanks_29 : decode cX5_skipBlanks 29 = .ok (.putfield 27, 3) := by decide +kernel
theorem dX5_skipBlanks_32 : decode cX5_skipBlanks 32 = .ok (.goto (-32), 3) := by decide +kernel
theorem dX5_skipBlanks_35 : decode cX5_skipBlanks 35 = .ok (.return_, 1) := by decide +kernel
theorem dX5_isBetween_0 : decode cX5_isBetween 0 = .ok (.aload_n 0, 1) := by decide +kernel
theorem dX5_isBetween_1 : decode cX5_isBetween 1 = .ok (.getfield 27, 3) := by decide +kernel
theorem dX5_isBetween_4 : decode cX5_isBetween 4 = .ok (.ifCond .lt 43, 3) := by decide +kernel
theorem dX5_isBetween_7 : decode cX5_isBetween 7 = .ok (.aload_n 0, 1) := by decide +kernel
theorem dX5_isBetween_8 : decode cX5_isBetween 8 = .ok (.getfield 27, 3) := by decide +kernel
theorem dX5_isBetween_11 : decode cX5_isBetween 11 = .ok (.sipush 150, 3) := by decide +kernel
theorem dX5_isBetween_14 : decode cX5_isBetween 14 = .ok (.if_icmp .ge 33, 3) := by decide +kernel
theorem dX5_isBetween_17 : decode cX5_isBetween 17 = .ok (.aload_n 0, 1) := by decide +kernel
theorem dX5_isBetween_18 : decode cX5_isBetween 18 = .ok (.getfield 9, 3) := by decide +kernel
theorem dX5_isBetween_21 : decode cX5_isBetween 21 = .ok (.aload_n 0, 1) := by decide +kernel
theorem dX5_isBetween_22 : decode cX5_isBetween 22 = .ok (.getfield 27, 3) := by decide +kernel
theorem dX5_isBetween_25 : decode cX5_isBetween 25 = .ok (.baload, 1) := by decide +kernel
theorem dX5_isBetween_26 : decode cX5_isBetween 26 = .ok (.iload_n 1, 1) := by decide +kernel
theorem dX5_isBetween_27 : decode cX5_isBetween 27 = .ok (.if_icmp .lt 20, 3) := by decide +kernel
theorem dX5_isBetween_30 : decode cX5_isBetween 30 = .ok (.aload_n 0, 1) := by decide +kernel
theorem dX5_isBetween_31 : decode cX5_isBetween 31 = .ok (.getfield 9, 3) := by decide +kernel
theorem dX5_isBetween_34 : decode cX5_isBetween 34 = .ok (.aload_n 0, 1) := by decide +kernel
theorem dX5_isBetween_35 : decode cX5_isBetween 35 = .ok (.getfield 27, 3) := by decide +kernel
theorem dX5_isBetween_38 : decode cX5_isBetween 38 = .ok (.baload, 1) := by decide +kernel
theorem dX5_isBetween_39 : decode cX5_isBetween 39 = .ok (.iload_n 2, 1) := by decide +kernel
theorem dX5_isBetween_40 : decode cX5_isBetween 40 = .ok (.if_icmp .gt 7, 3) := by decide +kernel
theorem dX5_isBetween_43 : decode cX5_isBetween 43 = .ok (.iconst 1, 1) := by decide +kernel
theorem dX5_isBetween_44 : decode cX5_isBetween 44 = .ok (.goto 4, 3) := by decide +kernel
theorem dX5_isBetween_47 : decode cX5_isBetween 47 = .ok (.iconst 0, 1) := by decide +kernel
theorem dX5_isBetween_48 : decode cX5_isBetween 48 = .ok (.ireturn, 1) := by decide +kernel
theorem dX6_init_0 : decode cX6_init 0 = .ok (.aload_n 0, 1) := by decide +kernel
theorem dX6_init_1 : decode cX6_init 1 = .ok (.invokespecial 1, 3) := by decide +kernel
theorem dX6_init_4 : decode cX6_init 4 = .ok (.return_, 1) := by decide +kernel
theorem dX6_heft_0 : decode cX6_heft 0 = .ok (.iload_n 1, 1) := by decide +kernel
theorem dX6_heft_1 : decode cX6_heft 1 = .ok (.iconst 1, 1) := by decide +kernel
theorem dX6_heft_2 : decode cX6_heft 2 = .ok (.iadd, 1) := by decide +kernel
theorem dX6_heft_3 : decode cX6_heft 3 = .ok (.iconst 2, 1) := by decide +kernel
theorem dX6_heft_4 : decode cX6_heft 4 = .ok (.idiv, 1) := by decide +kernel
theorem dX6_heft_5 : decode cX6_heft 5 = .ok (.ireturn, 1) := by decide +kernel
theorem dX7_init_0 : decode cX7_init 0 = .ok (.aload_n 0, 1) := by decide +kernel
theorem dX7_init_1 : decode cX7_init 1 = .ok (.invokespecial 3, 3) := by decide +kernel
theorem dX7_init_4 : decode cX7_init 4 = .ok (.aload_n 0, 1) := by decide +kernel
theorem dX7_init_5 : decode cX7_init 5 = .ok (.bipush 8, 2) := by decide +kernel
theorem dX7_init_7 : decode cX7_init 7 = .ok (.newarray .int, 2) := by decide +kernel
theorem dX7_init_9 : decode cX7_init 9 = .ok (.putfield 9, 3) := by decide +kernel
theorem dX7_init_12 : decode cX7_init 12 = .ok (.aload_n 0, 1) := by decide +kernel
theorem dX7_init_13 : decode cX7_init 13 = .ok (.bipush 8, 2) := by decide +kernel
theorem dX7_init_15 : decode cX7_init 15 = .ok (.newarray .int, 2) := by decide +kernel
theorem dX7_init_17 : decode cX7_init 17 = .ok (.putfield 15, 3) := by decide +kernel
theorem dX7_init_20 : decode cX7_init 20 = .ok (.aload_n 0, 1) := by decide +kernel
theorem dX7_init_21 : decode cX7_init 21 = .ok (.iconst (-1), 1) := by decide +kernel
theorem dX7_init_22 : decode cX7_init 22 = .ok (.putfield 18, 3) := by decide +kernel
theorem dX7_init_25 : decode cX7_init 25 = .ok (.aload_n 0, 1) := by decide +kernel
theorem dX7_init_26 : decode cX7_init 26 = .ok (.bipush 8, 2) := by decide +kernel
theorem dX7_init_28 : decode cX7_init 28 = .ok (.newarray .int, 2) := by decide +kernel
theorem dX7_init_30 : decode cX7_init 30 = .ok (.putfield 22, 3) := by decide +kernel
theorem dX7_init_33 : decode cX7_init 33 = .ok (.aload_n 0, 1) := by decide +kernel
theorem dX7_init_34 : decode cX7_init 34 = .ok (.aload_n 1, 1) := by decide +kernel
theorem dX7_init_35 : decode cX7_init 35 = .ok (.putfield 25, 3) := by decide +kernel
theorem dX7_init_38 : decode cX7_init 38 = .ok (.return_, 1) := by decide +kernel
theorem dX7_copyFrom_0 : decode cX7_copyFrom 0 = .ok (.aload_n 1, 1) := by decide +kernel
theorem dX7_copyFrom_1 : decode cX7_copyFrom 1 = .ok (.getfield 9, 3) := by decide +kernel
theorem dX7_copyFrom_4 : decode cX7_copyFrom 4 = .ok (.iconst 0, 1) := by decide +kernel
theorem dX7_copyFrom_5 : decode cX7_copyFrom 5 = .ok (.aload_n 0, 1) := by decide +kernel
theorem dX7_copyFrom_6 : decode cX7_copyFrom 6 = .ok (.getfield 9, 3) := by decide +kernel
theorem dX7_copyFrom_9 : decode cX7_copyFrom 9 = .ok (.iconst 0, 1) := by decide +kernel
theorem dX7_copyFrom_10 : decode cX7_copyFrom 10 = .ok (.bipush 8, 2) := by decide +kernel
theorem dX7_copyFrom_12 : decode cX7_copyFrom 12 = .ok (.invokestatic 29, 3) := by decide +kernel
theorem dX7_copyFrom_15 : decode cX7_copyFrom 15 = .ok (.aload_n 1, 1) := by decide +kernel
theorem dX7_copyFrom_16 : decode cX7_copyFrom 16 = .ok (.getfield 15, 3) := by decide +kernel
theorem dX7_copyFrom_19 : decode cX7_copyFrom 19 = .ok (.iconst 0, 1) := by decide +kernel
theorem dX7_copyFrom_20 : decode cX7_copyFrom 20 = .ok (.aload_n 0, 1) := by decide +kernel
theorem dX7_copyFrom_21 : decode cX7_copyFrom 21 = .ok (.getfield 15, 3) := by decide +kernel
theorem dX7_copyFrom_24 : decode cX7_copyFrom 24 = .ok (.iconst 0, 1) := by decide +kernel
theorem dX7_copyFrom_25 : decode cX7_copyFrom 25 = .ok (.bipush 8, 2) := by decide +kernel
theorem dX7_copyFrom_27 : decode cX7_copyFrom 27 = .ok (.invokestatic 29, 3) := by decide +kernel
theorem dX7_copyFrom_30 : decode cX7_copyFrom 30 = .ok (.aload_n 0, 1) := by decide +kernel
theorem dX7_copyFrom_31 : decode cX7_copyFrom 31 = .ok (.aload_n 1, 1) := by decide +kernel
theorem dX7_copyFrom_32 : decode cX7_copyFrom 32 = .ok (.getfield 35, 3) := by decide +kernel
theorem dX7_copyFrom_35 : decode cX7_copyFrom 35 = .ok (.putfield 35, 3) := by decide +kernel
theorem dX7_copyFrom_38 : decode cX7_copyFrom 38 = .ok (.aload_n 0, 1) := by decide +kernel
theorem dX7_copyFrom_39 : decode cX7_copyFrom 39 = .ok (.aload_n 1, 1) := by decide +kernel
theorem dX7_copyFrom_40 : decode cX7_copyFrom 40 = .ok (.getfield 18, 3) := by decide +kernel
theorem dX7_copyFrom_43 : decode cX7_copyFrom 43 = .ok (.putfield 18, 3) := by decide +kernel
theorem dX7_copyFrom_46 : decode cX7_copyFrom 46 = .ok (.aload_n 0, 1) := by decide +kernel
theorem dX7_copyFrom_47 : decode cX7_copyFrom 47 = .ok (.aload_n 1, 1) := by decide +kernel
theorem dX7_copyFrom_48 : decode cX7_copyFrom 48 = .ok (.getfield 38, 3) := by decide +kernel
theorem dX7_copyFrom_51 : decode cX7_copyFrom 51 = .ok (.putfield 38, 3) := by decide +kernel
theorem dX7_copyFrom_54 : decode cX7_copyFrom 54 = .ok (.return_, 1) := by decide +kernel
theorem dX7_saveTo_0 : decode cX7_saveTo 0 = .ok (.iload_n 2, 1) := by decide +kernel
theorem dX7_saveTo_1 : decode cX7_saveTo 1 = .ok (.ifCond .lt 12, 3) := by decide +kernel
theorem dX7_saveTo_4 : decode cX7_saveTo 4 = .ok (.iload_n 2, 1) := by decide +kernel
theorem dX7_saveTo_5 : decode cX7_saveTo 5 = .ok (.bipush 19, 2) := by decide +kernel
theorem dX7_saveTo_7 : decode cX7_saveTo 7 = .ok (.iadd, 1) := by decide +kernel
theorem dX7_saveTo_8 : decode cX7_saveTo 8 = .ok (.aload_n 1, 1) := by decide +kernel
theorem dX7_saveTo_9 : decode cX7_saveTo 9 = .ok (.arraylength, 1) := by decide +kernel
theorem dX7_saveTo_10 : decode cX7_saveTo 10 = .ok (.if_icmp .le 4, 3) := by decide +kernel
theorem dX7_saveTo_13 : decode cX7_saveTo 13 = .ok (.return_, 1) := by decide +kernel
theorem dX7_saveTo_14 : decode cX7_saveTo 14 = .ok (.aload_n 0, 1) := by decide +kernel
theorem dX7_saveTo_15 : decode cX7_saveTo 15 = .ok (.getfield 9, 3) := by decide +kernel
theorem dX7_saveTo_18 : decode cX7_saveTo 18 = .ok (.iconst 0, 1) := by decide +kernel
theorem dX7_saveTo_19 : decode cX7_saveTo 19 = .ok (.aload_n 1, 1) := by decide +kernel
theorem dX7_saveTo_20 : decode cX7_saveTo 20 = .ok (.iload_n 2, 1) := by decide +kernel
theorem dX7_saveTo_21 : decode cX7_saveTo 21 = .ok (.bipush 8, 2) := by decide +kernel
theorem dX7_saveTo_23 : decode cX7_saveTo 23 = .ok (.invokestatic 29, 3) := by decide +kernel
theorem dX7_saveTo_26 : decode cX7_saveTo 26 = .ok (.aload_n 0, 1) := by decide +kernel
theorem dX7_saveTo_27 : decode cX7_saveTo 27 = .ok (.getfield 15, 3) := by decide +kernel
theorem dX7_saveTo_30 : decode cX7_saveTo 30 = .ok (.iconst 0, 1) := by decide +kernel
theorem dX7_saveTo_31 : decode cX7_saveTo 31 = .ok (.aload_n 1, 1) := by decide +kernel
theorem dX7_saveTo_32 : decode cX7_saveTo 32 = .ok (.iload_n 2, 1) := by decide +kernel
theorem dX7_saveTo_33 : decode cX7_saveTo 33 = .ok (.bipush 8, 2) := by decide +kernel
theorem dX7_saveTo_35 : decode cX7_saveTo 35 = .ok (.iadd, 1) := by decide +kernel
theorem dX7_saveTo_36 : decode cX7_saveTo 36 = .ok (.bipush 8, 2) := by decide +kernel
theorem dX7_saveTo_38 : decode cX7_saveTo 38 = .ok (.invokestatic 29, 3) := by decide +kernel
theorem dX7_saveTo_41 : decode cX7_saveTo 41 = .ok (.aload_n 1, 1) := by decide +kernel
theorem dX7_saveTo_42 : decode cX7_saveTo 42 = .ok (.iload_n 2, 1) := by decide +kernel
theorem dX7_saveTo_43 : decode cX7_saveTo 43 = .ok (.bipush 16, 2) := by decide +kernel
theorem dX7_saveTo_45 : decode cX7_saveTo 45 = .ok (.iadd, 1) := by decide +kernel
theorem dX7_saveTo_46 : decode cX7_saveTo 46 = .ok (.aload_n 0, 1) := by decide +kernel
theorem dX7_saveTo_47 : decode cX7_saveTo 47 = .ok (.getfield 35, 3) := by decide +kernel
theorem dX7_saveTo_50 : decode cX7_saveTo 50 = .ok (.iastore, 1) := by decide +kernel
theorem dX7_saveTo_51 : decode cX7_saveTo 51 = .ok (.aload_n 1, 1) := by decide +kernel
theorem dX7_saveTo_52 : decode cX7_saveTo 52 = .ok (.iload_n 2, 1) := by decide +kernel
theorem dX7_saveTo_53 : decode cX7_saveTo 53 = .ok (.bipush 16, 2) := by decide +kernel
theorem dX7_saveTo_55 : decode cX7_saveTo 55 = .ok (.iadd, 1) := by decide +kernel
theorem dX7_saveTo_56 : decode cX7_saveTo 56 = .ok (.iconst 1, 1) := by decide +kernel
theorem dX7_saveTo_57 : decode cX7_saveTo 57 = .ok (.iadd, 1) := by decide +kernel
theorem dX7_saveTo_58 : decode cX7_saveTo 58 = .ok (.aload_n 0, 1) := by decide +kernel
theorem dX7_saveTo_59 : decode cX7_saveTo 59 = .ok (.getfield 18, 3) := by decide +kernel
theorem dX7_saveTo_62 : decode cX7_saveTo 62 = .ok (.iastore, 1) := by decide +kernel
theorem dX7_saveTo_63 : decode cX7_saveTo 63 = .ok (.aload_n 1, 1) := by decide +kernel
theorem dX7_saveTo_64 : decode cX7_saveTo 64 = .ok (.iload_n 2, 1) := by decide +kernel
theorem dX7_saveTo_65 : decode cX7_saveTo 65 = .ok (.bipush 16, 2) := by decide +kernel
theorem dX7_saveTo_67 : decode cX7_saveTo 67 = .ok (.iadd, 1) := by decide +kernel
theorem dX7_saveTo_68 : decode cX7_saveTo 68 = .ok (.iconst 2, 1) := by decide +kernel
theorem dX7_saveTo_69 : decode cX7_saveTo 69 = .ok (.iadd, 1) := by decide +kernel
theorem dX7_saveTo_70 : decode cX7_saveTo 70 = .ok (.aload_n 0, 1) := by decide +kernel
theorem dX7_saveTo_71 : decode cX7_saveTo 71 = .ok (.getfield 38, 3) := by decide +kernel
theorem dX7_saveTo_74 : decode cX7_saveTo 74 = .ok (.iastore, 1) := by decide +kernel
theorem dX7_saveTo_75 : decode cX7_saveTo 75 = .ok (.return_, 1) := by decide +kernel
theorem dX7_loadFrom_0 : decode cX7_loadFrom 0 = .ok (.iload_n 2, 1) := by decide +kernel
theorem dX7_loadFrom_1 : decode cX7_loadFrom 1 = .ok (.ifCond .lt 12, 3) := by decide +kernel
theorem dX7_loadFrom_4 : decode cX7_loadFrom 4 = .ok (.iload_n 2, 1) := by decide +kernel
theorem dX7_loadFrom_5 : decode cX7_loadFrom 5 = .ok (.bipush 19, 2) := by decide +kernel
theorem dX7_loadFrom_7 : decode cX7_loadFrom 7 = .ok (.iadd, 1) := by decide +kernel
theorem dX7_loadFrom_8 : decode cX7_loadFrom 8 = .ok (.aload_n 1, 1) := by decide +kernel
theorem dX7_loadFrom_9 : decode cX7_loadFrom 9 = .ok (.arraylength, 1) := by decide +kernel
theorem dX7_loadFrom_10 : decode cX7_loadFrom 10 = .ok (.if_icmp .le 4, 3) := by decide +kernel
theorem dX7_loadFrom_13 : decode cX7_loadFrom 13 = .ok (.return_, 1) := by decide +kernel
theorem dX7_loadFrom_14 : decode cX7_loadFrom 14 = .ok (.aload_n 1, 1) := by decide +kernel
theorem dX7_loadFrom_15 : decode cX7_loadFrom 15 = .ok (.iload_n 2, 1) := by decide +kernel
theorem dX7_loadFrom_16 : decode cX7_loadFrom 16 = .ok (.aload_n 0, 1) := by decide +kernel
theorem dX7_loadFrom_17 : decode cX7_loadFrom 17 = .ok (.getfield 9, 3) := by decide +kernel
theorem dX7_loadFrom_20 : decode cX7_loadFrom 20 = .ok (.iconst 0, 1) := by decide +kernel
theorem dX7_loadFrom_21 : decode cX7_loadFrom 21 = .ok (.bipush 8, 2) := by decide +kernel
theorem dX7_loadFrom_23 : decode cX7_loadFrom 23 = .ok (.invokestatic 29, 3) := by decide +kernel
theorem dX7_loadFrom_26 : decode cX7_loadFrom 26 = .ok (.aload_n 1, 1) := by decide +kernel
theorem dX7_loadFrom_27 : decode cX7_loadFrom 27 = .ok (.iload_n 2, 1) := by decide +kernel
theorem dX7_loadFrom_28 : decode cX7_loadFrom 28 = .ok (.bipush 8, 2) := by decide +kernel
theorem dX7_loadFrom_30 : decode cX7_loadFrom 30 = .ok (.iadd, 1) := by decide +kernel
theorem dX7_loadFrom_31 : decode cX7_loadFrom 31 = .ok (.aload_n 0, 1) := by decide +kernel
theorem dX7_loadFrom_32 : decode cX7_loadFrom 32 = .ok (.getfield 15, 3) := by decide +kernel
theorem dX7_loadFrom_35 : decode cX7_loadFrom 35 = .ok (.iconst 0, 1) := by decide +kernel
theorem dX7_loadFrom_36 : decode cX7_loadFrom 36 = .ok (.bipush 8, 2) := by decide +kernel
theorem dX7_loadFrom_38 : decode cX7_loadFrom 38 = .ok (.invokestatic 29, 3) := by decide +kernel
theorem dX7_loadFrom_41 : decode cX7_loadFrom 41 = .ok (.aload_n 0, 1) := by decide +kernel
theorem dX7_loadFrom_42 : decode cX7_loadFrom 42 = .ok (.aload_n 1, 1) := by decide +kernel
theorem dX7_loadFrom_43 : decode cX7_loadFrom 43 = .ok (.iload_n 2, 1) := by decide +kernel
theorem dX7_loadFrom_44 : decode cX7_loadFrom 44 = .ok (.bipush 16, 2) := by decide +kernel
theorem dX7_loadFrom_46 : decode cX7_loadFrom 46 = .ok (.iadd, 1) := by decide +kernel
theorem dX7_loadFrom_47 : decode cX7_loadFrom 47 = .ok (.iaload, 1) := by decide +kernel
theorem dX7_loadFrom_48 : decode cX7_loadFrom 48 = .ok (.putfield 35, 3) := by decide +kernel
theorem dX7_loadFrom_51 : decode cX7_loadFrom 51 = .ok (.aload_n 0, 1) := by decide +kernel
theorem dX7_loadFrom_52 : decode cX7_loadFrom 52 = .ok (.aload_n 1, 1) := by decide +kernel
theorem dX7_loadFrom_53 : decode cX7_loadFrom 53 = .ok (.iload_n 2, 1) := by decide +kernel
theorem dX7_loadFrom_54 : decode cX7_loadFrom 54 = .ok (.bipush 16, 2) := by decide +kernel
theorem dX7_loadFrom_56 : decode cX7_loadFrom 56 = .ok (.iadd, 1) := by decide +kernel
theorem dX7_loadFrom_57 : decode cX7_loadFrom 57 = .ok (.iconst 1, 1) := by decide +kernel
theorem dX7_loadFrom_58 : decode cX7_loadFrom 58 = .ok (.iadd, 1) := by decide +kernel
theorem dX7_loadFrom_59 : decode cX7_loadFrom 59 = .ok (.iaload, 1) := by decide +kernel
theorem dX7_loadFrom_60 : decode cX7_loadFrom 60 = .ok (.putfield 18, 3) := by decide +kernel
theorem dX7_loadFrom_63 : decode cX7_loadFrom 63 = .ok (.aload_n 0, 1) := by decide +kernel
theorem dX7_loadFrom_64 : decode cX7_loadFrom 64 = .ok (.aload_n 1, 1) := by decide +kernel
theorem dX7_loadFrom_65 : decode cX7_loadFrom 65 = .ok (.iload_n 2, 1) := by decide +kernel
theorem dX7_loadFrom_66 : decode cX7_loadFrom 66 = .ok (.bipush 16, 2) := by decide +kernel
theorem dX7_loadFrom_68 : decode cX7_loadFrom 68 = .ok (.iadd, 1) := by decide +kernel
theorem dX7_loadFrom_69 : decode cX7_loadFrom 69 = .ok (.iconst 2, 1) := by decide +kernel
theorem dX7_loadFrom_70 : decode cX7_loadFrom 70 = .ok (.iadd, 1) := by decide +kernel
theorem dX7_loadFrom_71 : decode cX7_loadFrom 71 = .ok (.iaload, 1) := by decide +kernel
theorem dX7_loadFrom_72 : decode cX7_loadFrom 72 = .ok (.putfield 38, 3) := by decide +kernel
theorem dX7_loadFrom_75 : decode cX7_loadFrom 75 = .ok (.return_, 1) := by decide +kernel
theorem dX7_startAnew_0 : decode cX7_startAnew 0 = .ok (.aload_n 0, 1) := by decide +kernel
theorem dX7_startAnew_1 : decode cX7_startAnew 1 = .ok (.getfield 9, 3) := by decide +kernel
theorem dX7_startAnew_4 : decode cX7_startAnew 4 = .ok (.iconst 0, 1) := by decide +kernel
theorem dX7_startAnew_5 : decode cX7_startAnew 5 = .ok (.invokestatic 41, 3) := by decide +kernel
theorem dX7_startAnew_8 : decode cX7_startAnew 8 = .ok (.aload_n 0, 1) := by decide +kernel
theorem dX7_startAnew_9 : decode cX7_startAnew 9 = .ok (.getfield 15, 3) := by decide +kernel
theorem dX7_startAnew_12 : decode cX7_startAnew 12 = .ok (.iconst 0, 1) := by decide +kernel
theorem dX7_startAnew_13 : decode cX7_startAnew 13 = .ok (.invokestatic 41, 3) := by decide +kernel
theorem dX7_startAnew_16 : decode cX7_startAnew 16 = .ok (.aload_n 0, 1) := by decide +kernel
theorem dX7_startAnew_17 : decode cX7_startAnew 17 = .ok (.iconst 0, 1) := by decide +kernel
theorem dX7_startAnew_18 : decode cX7_startAnew 18 = .ok (.putfield 35, 3) := by decide +kernel
theorem dX7_startAnew_21 : decode cX7_startAnew 21 = .ok (.aload_n 0, 1) := by decide +kernel
theorem dX7_startAnew_22 : decode cX7_startAnew 22 = .ok (.iconst (-1), 1) := by decide +kernel
theorem dX7_startAnew_23 : decode cX7_startAnew 23 = .ok (.putfield 18, 3) := by decide +kernel
theorem dX7_startAnew_26 : decode cX7_startAnew 26 = .ok (.aload_n 0, 1) := by decide +kernel
theorem dX7_startAnew_27 : decode cX7_startAnew 27 = .ok (.iconst 0, 1) := by decide +kernel
theorem dX7_startAnew_28 : decode cX7_startAnew 28 = .ok (.putfield 38, 3) := by decide +kernel
theorem dX7_startAnew_31 : decode cX7_startAnew 31 = .ok (.return_, 1) := by decide +kernel
theorem dX7_cast_0 : decode cX7_cast 0 = .ok (.iload_n 1, 1) := by decide +kernel
theorem dX7_cast_1 : decode cX7_cast 1 = .ok (.iconst 0, 1) := by decide +kernel
theorem dX7_cast_2 : decode cX7_cast 2 = .ok (.aload_n 0, 1) := by decide +kernel
theorem dX7_cast_3 : decode cX7_cast 3 = .ok (.getfield 25, 3) := by decide +kernel
theorem dX7_cast_6 : decode cX7_cast 6 = .ok (.getfield 47, 3) := by decide +kernel
theorem dX7_cast_9 : decode cX7_cast 9 = .ok (.iconst 1, 1) := by decide +kernel
theorem dX7_cast_10 : decode cX7_cast 10 = .ok (.isub, 1) := by decide +kernel
theorem dX7_cast_11 : decode cX7_cast 11 = .ok (.invokestatic 52, 3) := by decide +kernel
theorem dX7_cast_14 : decode cX7_cast 14 = .ok (.ifCond .ne 4, 3) := by decide +kernel
theorem dX7_cast_17 : decode cX7_cast 17 = .ok (.return_, 1) := by decide +kernel
theorem dX7_cast_18 : decode cX7_cast 18 = .ok (.aload_n 0, 1) := by decide +kernel
theorem dX7_cast_19 : decode cX7_cast 19 = .ok (.getfield 25, 3) := by decide +kernel
theorem dX7_cast_22 : decode cX7_cast 22 = .ok (.aload_n 0, 1) := by decide +kernel
theorem dX7_cast_23 : decode cX7_cast 23 = .ok (.getfield 25, 3) := by decide +kernel
theorem dX7_cast_26 : decode cX7_cast 26 = .ok (.getfield 56, 3) := by decide +kernel
theorem dX7_cast_29 : decode cX7_cast 29 = .ok (.iload_n 1, 1) := by decide +kernel
theorem dX7_cast_30 : decode cX7_cast 30 = .ok (.iaload, 1) := by decide +kernel
theorem dX7_cast_31 : decode cX7_cast 31 = .ok (.invokevirtual 59, 3) := by decide +kernel
theorem dX7_cast_34 : decode cX7_cast 34 = .ok (.astore_n 2, 1) := by decide +kernel
theorem dX7_cast_35 : decode cX7_cast 35 = .ok (.aload_n 0, 1) := by decide +kernel
theorem dX7_cast_36 : decode cX7_cast 36 = .ok (.getfield 25, 3) := by decide +kernel
theorem dX7_cast_39 : decode cX7_cast 39 = .ok (.getfield 63, 3) := by decide +kernel
theorem dX7_cast_42 : decode cX7_cast 42 = .ok (.iload_n 1, 1) := by decide +kernel
theorem dX7_cast_43 : decode cX7_cast 43 = .ok (.iaload, 1) := by decide +kernel
theorem dX7_cast_44 : decode cX7_cast 44 = .ok (.istore_n 3, 1) := by decide +kernel
theorem dX7_cast_45 : decode cX7_cast 45 = .ok (.aload_n 0, 1) := by decide +kernel
theorem dX7_cast_46 : decode cX7_cast 46 = .ok (.aload_n 2, 1) := by decide +kernel
theorem dX7_cast_47 : decode cX7_cast 47 = .ok (.aload_n 0, 1) := by decide +kernel
theorem dX7_cast_48 : decode cX7_cast 48 = .ok (.aload_n 0, 1) := by decide +kernel
theorem dX7_cast_49 : decode cX7_cast 49 = .ok (.getfield 25, 3) := by decide +kernel
theorem dX7_cast_52 : decode cX7_cast 52 = .ok (.getfield 66, 3) := by decide +kernel
theorem dX7_cast_55 : decode cX7_cast 55 = .ok (.iload_n 1, 1) := by decide +kernel
theorem dX7_cast_56 : decode cX7_cast 56 = .ok (.iaload, 1) := by decide +kernel
theorem dX7_cast_57 : decode cX7_cast 57 = .ok (.iload_n 3, 1) := by decide +kernel
theorem dX7_cast_58 : decode cX7_cast 58 = .ok (.invokevirtual 69, 3) := by decide +kernel
theorem dX7_cast_61 : decode cX7_cast 61 = .ok (.aload_n 2, 1) := by decide +kernel
theorem dX7_cast_62 : decode cX7_cast 62 = .ok (.iload_n 3, 1) := by decide +kernel
theorem dX7_cast_63 : decode cX7_cast 63 = .ok (.invokevirtual 75, 3) := by decide +kernel
theorem dX7_cast_66 : decode cX7_cast 66 = .ok (.invokevirtual 79, 3) := by decide +kernel
theorem dX7_cast_69 : decode cX7_cast 69 = .ok (.aload_n 0, 1) := by decide +kernel
theorem dX7_cast_70 : decode cX7_cast 70 = .ok (.invokevirtual 83, 3) := by decide +kernel
theorem dX7_cast_73 : decode cX7_cast 73 = .ok (.aload_n 0, 1) := by decide +kernel
theorem dX7_cast_74 : decode cX7_cast 74 = .ok (.dup, 1) := by decide +kernel
theorem dX7_cast_75 : decode cX7_cast 75 = .ok (.getfield 35, 3) := by decide +kernel
theorem dX7_cast_78 : decode cX7_cast 78 = .ok (.iconst 1, 1) := by decide +kernel
theorem dX7_cast_79 : decode cX7_cast 79 = .ok (.iadd, 1) := by decide +kernel
theorem dX7_cast_80 : decode cX7_cast 80 = .ok (.putfield 35, 3) := by decide +kernel
theorem dX7_cast_83 : decode cX7_cast 83 = .ok (.return_, 1) := by decide +kernel
theorem dX7_lay_0 : decode cX7_lay 0 = .ok (.iload_n 1, 1) := by decide +kernel
theorem dX7_lay_1 : decode cX7_lay 1 = .ok (.iconst 0, 1) := by decide +kernel
theorem dX7_lay_2 : decode cX7_lay 2 = .ok (.aload_n 0, 1) := by decide +kernel
theorem dX7_lay_3 : decode cX7_lay 3 = .ok (.getfield 25, 3) := by decide +kernel
theorem dX7_lay_6 : decode cX7_lay 6 = .ok (.getfield 86, 3) := by decide +kernel
theorem dX7_lay_9 : decode cX7_lay 9 = .ok (.iconst 1, 1) := by decide +kernel
theorem dX7_lay_10 : decode cX7_lay 10 = .ok (.isub, 1) := by decide +kernel
theorem dX7_lay_11 : decode cX7_lay 11 = .ok (.invokestatic 52, 3) := by decide +kernel
theorem dX7_lay_14 : decode cX7_lay 14 = .ok (.ifCond .eq 13, 3) := by decide +kernel
theorem dX7_lay_17 : decode cX7_lay 17 = .ok (.aload_n 0, 1) := by decide +kernel
theorem dX7_lay_18 : decode cX7_lay 18 = .ok (.getfield 15, 3) := by decide +kernel
theorem dX7_lay_21 : decode cX7_lay 21 = .ok (.iload_n 1, 1) := by decide +kernel
theorem dX7_lay_22 : decode cX7_lay 22 = .ok (.dup2, 1) := by decide +kernel
theorem dX7_lay_23 : decode cX7_lay 23 = .ok (.iaload, 1) := by decide +kernel
theorem dX7_lay_24 : decode cX7_lay 24 = .ok (.iload_n 2, 1) := by decide +kernel
theorem dX7_lay_25 : decode cX7_lay 25 = .ok (.iadd, 1) := by decide +kernel
theorem dX7_lay_26 : decode cX7_lay 26 = .ok (.iastore, 1) := by decide +kernel
theorem dX7_lay_27 : decode cX7_lay 27 = .ok (.return_, 1) := by decide +kernel
theorem dX7_snowOver_0 : decode cX7_snowOver 0 = .ok (.iconst 0, 1) := by decide +kernel
theorem dX7_snowOver_1 : decode cX7_snowOver 1 = .ok (.istore_n 2, 1) := by decide +kernel
theorem dX7_snowOver_2 : decode cX7_snowOver 2 = .ok (.iload_n 2, 1) := by decide +kernel
theorem dX7_snowOver_3 : decode cX7_snowOver 3 = .ok (.aload_n 0, 1) := by decide +kernel
theorem dX7_snowOver_4 : decode cX7_snowOver 4 = .ok (.getfield 25, 3) := by decide +kernel
theorem dX7_snowOver_7 : decode cX7_snowOver 7 = .ok (.getfield 86, 3) := by decide +kernel
theorem dX7_snowOver_10 : decode cX7_snowOver 10 = .ok (.if_icmp .ge 19, 3) := by decide +kernel
theorem dX7_snowOver_13 : decode cX7_snowOver 13 = .ok (.aload_n 0, 1) := by decide +kernel
theorem dX7_snowOver_14 : decode cX7_snowOver 14 = .ok (.getfield 9, 3) := by decide +kernel
theorem dX7_snowOver_17 : decode cX7_snowOver 17 = .ok (.iload_n 2, 1) := by decide +kernel
theorem dX7_snowOver_18 : decode cX7_snowOver 18 = .ok (.dup2, 1) := by decide +kernel
theorem dX7_snowOver_19 : decode cX7_snowOver 19 = .ok (.iaload, 1) := by decide +kernel
theorem dX7_snowOver_20 : decode cX7_snowOver 20 = .ok (.iload_n 1, 1) := by decide +kernel
theorem dX7_snowOver_21 : decode cX7_snowOver 21 = .ok (.iadd, 1) := by decide +kernel
theorem dX7_snowOver_22 : decode cX7_snowOver 22 = .ok (.iastore, 1) := by decide +kernel
theorem dX7_snowOver_23 : decode cX7_snowOver 23 = .ok (.iinc 2 1, 3) := by decide +kernel
theorem dX7_snowOver_26 : decode cX7_snowOver 26 = .ok (.goto (-24), 3) := by decide +kernel
theorem dX7_snowOver_29 : decode cX7_snowOver 29 = .ok (.aload_n 0, 1) := by decide +kernel
theorem dX7_snowOver_30 : decode cX7_snowOver 30 = .ok (.invokevirtual 83, 3) := by decide +kernel
theorem dX7_snowOver_33 : decode cX7_snowOver 33 = .ok (.return_, 1) := by decide +kernel
theorem dX7_comeDown_0 : decode cX7_comeDown 0 = .ok (.aload_n 0, 1) := by decide +kernel
theorem dX7_comeDown_1 : decode cX7_comeDown 1 = .ok (.getfield 18, 3) := by decide +kernel
theorem dX7_comeDown_4 : decode cX7_comeDown 4 = .ok (.iconst (-1), 1) := by decide +kernel
theorem dX7_comeDown_5 : decode cX7_comeDown 5 = .ok (.if_icmp .ne 7, 3) := by decide +kernel
theorem dX7_comeDown_8 : decode cX7_comeDown 8 = .ok (.iconst 1, 1) := by decide +kernel
theorem dX7_comeDown_9 : decode cX7_comeDown 9 = .ok (.goto 4, 3) := by decide +kernel
theorem dX7_comeDown_12 : decode cX7_comeDown 12 = .ok (.iconst 0, 1) := by decide +kernel
theorem dX7_comeDown_13 : decode cX7_comeDown 13 = .ok (.istore_n 1, 1) := by decide +kernel
theorem dX7_comeDown_14 : decode cX7_comeDown 14 = .ok (.aload_n 0, 1) := by decide +kernel
theorem dX7_comeDown_15 : decode cX7_comeDown 15 = .ok (.iconst 0, 1) := by decide +kernel
theorem dX7_comeDown_16 : decode cX7_comeDown 16 = .ok (.putfield 89, 3) := by decide +kernel
theorem dX7_comeDown_19 : decode cX7_comeDown 19 = .ok (.aload_n 0, 1) := by decide +kernel
theorem dX7_comeDown_20 : decode cX7_comeDown 20 = .ok (.iconst 0, 1) := by decide +kernel
theorem dX7_comeDown_21 : decode cX7_comeDown 21 = .ok (.putfield 92, 3) := by decide +kernel
theorem dX7_comeDown_24 : decode cX7_comeDown 24 = .ok (.iconst 0, 1) := by decide +kernel
theorem dX7_comeDown_25 : decode cX7_comeDown 25 = .ok (.istore_n 2, 1) := by decide +kernel
theorem dX7_comeDown_26 : decode cX7_comeDown 26 = .ok (.iload_n 2, 1) := by decide +kernel
theorem dX7_comeDown_27 : decode cX7_comeDown 27 = .ok (.aload_n 0, 1) := by decide +kernel
theorem dX7_comeDown_28 : decode cX7_comeDown 28 = .ok (.getfield 25, 3) := by decide +kernel
theorem dX7_comeDown_31 : decode cX7_comeDown 31 = .ok (.getfield 86, 3) := by decide +kernel
theorem dX7_comeDown_34 : decode cX7_comeDown 34 = .ok (.if_icmp .ge 42, 3) := by decide +kernel
theorem dX7_comeDown_37 : decode cX7_comeDown 37 = .ok (.iload_n 2, 1) := by decide +kernel
theorem dX7_comeDown_38 : decode cX7_comeDown 38 = .ok (.istore_n 3, 1) := by decide +kernel
theorem dX7_comeDown_39 : decode cX7_comeDown 39 = .ok (.iconst 0, 1) := by decide +kernel
theorem dX7_comeDown_40 : decode cX7_comeDown 40 = .ok (.istore 4, 2) := by decide +kernel
theorem dX7_comeDown_42 : decode cX7_comeDown 42 = .ok (.iload 4, 2) := by decide +kernel
theorem dX7_comeDown_44 : decode cX7_comeDown 44 = .ok (.bipush 8, 2) := by decide +kernel
theorem dX7_comeDown_46 : decode cX7_comeDown 46 = .ok (.if_icmp .ge 24, 3) := by decide +kernel
theorem dX7_comeDown_49 : decode cX7_comeDown 49 = .ok (.aload_n 0, 1) := by decide +kernel
theorem dX7_comeDown_50 : decode cX7_comeDown 50 = .ok (.iload_n 3, 1) := by decide +kernel
theorem dX7_comeDown_51 : decode cX7_comeDown 51 = .ok (.iconst 0, 1) := by decide +kernel
theorem dX7_comeDown_52 : decode cX7_comeDown 52 = .ok (.invokevirtual 95, 3) := by decide +kernel
theorem dX7_comeDown_55 : decode cX7_comeDown 55 = .ok (.ifCond .ne 15, 3) := by decide +kernel
theorem dX7_comeDown_58 : decode cX7_comeDown 58 = .ok (.aload_n 0, 1) := by decide +kernel
theorem dX7_comeDown_59 : decode cX7_comeDown 59 = .ok (.iload_n 3, 1) := by decide +kernel
theorem dX7_comeDown_60 : decode cX7_comeDown 60 = .ok (.invokevirtual 99, 3) := by decide +kernel
theorem dX7_comeDown_63 : decode cX7_comeDown 63 = .ok (.istore_n 3, 1) := by decide +kernel
theorem dX7_comeDown_64 : decode cX7_comeDown 64 = .ok (.iinc 4 1, 3) := by decide +kernel
theorem dX7_comeDown_67 : decode cX7_comeDown 67 = .ok (.goto (-25), 3) := by decide +kernel
theorem dX7_comeDown_70 : decode cX7_comeDown 70 = .ok (.iinc 2 1, 3) := by decide +kernel
theorem dX7_comeDown_73 : decode cX7_comeDown 73 = .ok (.goto (-47), 3) := by decide +kernel
theorem dX7_comeDown_76 : decode cX7_comeDown 76 = .ok (.iload_n 1, 1) := by decide +kernel
theorem dX7_comeDown_77 : decode cX7_comeDown 77 = .ok (.ifCond .eq 11, 3) := by decide +kernel
theorem dX7_comeDown_80 : decode cX7_comeDown 80 = .ok (.aload_n 0, 1) := by decide +kernel
theorem dX7_comeDown_81 : decode cX7_comeDown 81 = .ok (.aload_n 0, 1) := by decide +kernel
theorem dX7_comeDown_82 : decode cX7_comeDown 82 = .ok (.getfield 89, 3) := by decide +kernel
theorem dX7_comeDown_85 : decode cX7_comeDown 85 = .ok (.putfield 38, 3) := by decide +kernel
theorem dX7_comeDown_88 : decode cX7_comeDown 88 = .ok (.return_, 1) := by decide +kernel
theorem dX7_drop_0 : decode cX7_drop 0 = .ok (.aload_n 0, 1) := by decide +kernel
theorem dX7_drop_1 : decode cX7_drop 1 = .ok (.getfield 18, 3) := by decide +kernel
theorem dX7_drop_4 : decode cX7_drop 4 = .ok (.iconst (-1), 1) := by decide +kernel
theorem dX7_drop_5 : decode cX7_drop 5 = .ok (.if_icmp .ne 8, 3) := by decide +kernel
theorem dX7_drop_8 : decode cX7_drop 8 = .ok (.aload_n 0, 1) := by decide +kernel
theorem dX7_drop_9 : decode cX7_drop 9 = .ok (.iload_n 1, 1) := by decide +kernel
theorem dX7_drop_10 : decode cX7_drop 10 = .ok (.putfield 18, 3) := by decide +kernel
theorem dX7_drop_13 : decode cX7_drop 13 = .ok (.aload_n 0, 1) := by decide +kernel
theorem dX7_drop_14 : decode cX7_drop 14 = .ok (.getfield 89, 3) := by decide +kernel
theorem dX7_drop_17 : decode cX7_drop 17 = .ok (.iload_n 1, 1) := by decide +kernel
theorem dX7_drop_18 : decode cX7_drop 18 = .ok (.invokestatic 102, 3) := by decide +kernel
theorem dX7_drop_21 : decode cX7_drop 21 = .ok (.ifCond .ne 28, 3) := by decide +kernel
theorem dX7_drop_24 : decode cX7_drop 24 = .ok (.aload_n 0, 1) := by decide +kernel
theorem dX7_drop_25 : decode cX7_drop 25 = .ok (.getfield 22, 3) := by decide +kernel
theorem dX7_drop_28 : decode cX7_drop 28 = .ok (.iload_n 1, 1) := by decide +kernel
theorem dX7_drop_29 : decode cX7_drop 29 = .ok (.aload_n 0, 1) := by decide +kernel
theorem dX7_drop_30 : decode cX7_drop 30 = .ok (.getfield 89, 3) := by decide +kernel
theorem dX7_drop_33 : decode cX7_drop 33 = .ok (.invokestatic 105, 3) := by decide +kernel
theorem dX7_drop_36 : decode cX7_drop 36 = .ok (.iastore, 1) := by decide +kernel
theorem dX7_drop_37 : decode cX7_drop 37 = .ok (.aload_n 0, 1) := by decide +kernel
theorem dX7_drop_38 : decode cX7_drop 38 = .ok (.dup, 1) := by decide +kernel
theorem dX7_drop_39 : decode cX7_drop 39 = .ok (.getfield 89, 3) := by decide +kernel
theorem dX7_drop_42 : decode cX7_drop 42 = .ok (.iconst 1, 1) := by decide +kernel
theorem dX7_drop_43 : decode cX7_drop 43 = .ok (.iload_n 1, 1) := by decide +kernel
theorem dX7_drop_44 : decode cX7_drop 44 = .ok (.ishl, 1) := by decide +kernel
theorem dX7_drop_45 : decode cX7_drop 45 = .ok (.ior, 1) := by decide +kernel
theorem dX7_drop_46 : decode cX7_drop 46 = .ok (.putfield 89, 3) := by decide +kernel
theorem dX7_drop_49 : decode cX7_drop 49 = .ok (.aload_n 0, 1) := by decide +kernel
theorem dX7_drop_50 : decode cX7_drop 50 = .ok (.getfield 25, 3) := by decide +kernel
theorem dX7_drop_53 : decode cX7_drop 53 = .ok (.getfield 110, 3) := by decide +kernel
theorem dX7_drop_56 : decode cX7_drop 56 = .ok (.iload_n 1, 1) := by decide +kernel
theorem dX7_drop_57 : decode cX7_drop 57 = .ok (.iaload, 1) := by decide +kernel
theorem dX7_drop_58 : decode cX7_drop 58 = .ok (.istore_n 2, 1) := by decide +kernel
theorem dX7_drop_59 : decode cX7_drop 59 = .ok (.iload_n 2, 1) := by decide +kernel
theorem dX7_drop_60 : decode cX7_drop 60 = .ok (.iconst (-1), 1) := by decide +kernel
theorem dX7_drop_61 : decode cX7_drop 61 = .ok (.if_icmp .eq 29, 3) := by decide +kernel
theorem dX7_drop_64 : decode cX7_drop 64 = .ok (.aload_n 0, 1) := by decide +kernel
theorem dX7_drop_65 : decode cX7_drop 65 = .ok (.getfield 9, 3) := by decide +kernel
theorem dX7_drop_68 : decode cX7_drop 68 = .ok (.iload_n 2, 1) := by decide +kernel
theorem dX7_drop_69 : decode cX7_drop 69 = .ok (.dup2, 1) := by decide +kernel
theorem dX7_drop_70 : decode cX7_drop 70 = .ok (.iaload, 1) := by decide +kernel
theorem dX7_drop_71 : decode cX7_drop 71 = .ok (.aload_n 0, 1) := by decide +kernel
theorem dX7_drop_72 : decode cX7_drop 72 = .ok (.iload_n 1, 1) := by decide +kernel
theorem dX7_drop_73 : decode cX7_drop 73 = .ok (.invokevirtual 113, 3) := by decide +kernel
theorem dX7_drop_76 : decode cX7_drop 76 = .ok (.iadd, 1) := by decide +kernel
theorem dX7_drop_77 : decode cX7_drop 77 = .ok (.iastore, 1) := by decide +kernel
theorem dX7_drop_78 : decode cX7_drop 78 = .ok (.aload_n 0, 1) := by decide +kernel
theorem dX7_drop_79 : decode cX7_drop 79 = .ok (.dup, 1) := by decide +kernel
theorem dX7_drop_80 : decode cX7_drop 80 = .ok (.getfield 92, 3) := by decide +kernel
theorem dX7_drop_83 : decode cX7_drop 83 = .ok (.iconst 1, 1) := by decide +kernel
theorem dX7_drop_84 : decode cX7_drop 84 = .ok (.iload_n 2, 1) := by decide +kernel
theorem dX7_drop_85 : decode cX7_drop 85 = .ok (.ishl, 1) := by decide +kernel
theorem dX7_drop_86 : decode cX7_drop 86 = .ok (.ior, 1) := by decide +kernel
theorem dX7_drop_87 : decode cX7_drop 87 = .ok (.putfield 92, 3) := by decide +kernel
theorem dX7_drop_90 : decode cX7_drop 90 = .ok (.aload_n 0, 1) := by decide +kernel
theorem dX7_drop_91 : decode cX7_drop 91 = .ok (.getfield 9, 3) := by decide +kernel
theorem dX7_drop_94 : decode cX7_drop 94 = .ok (.iload_n 1, 1) := by decide +kernel
theorem dX7_drop_95 : decode cX7_drop 95 = .ok (.iconst 0, 1) := by decide +kernel
theorem dX7_drop_96 : decode cX7_drop 96 = .ok (.iastore, 1) := by decide +kernel
theorem dX7_drop_97 : decode cX7_drop 97 = .ok (.aload_n 0, 1) := by decide +kernel
theorem dX7_drop_98 : decode cX7_drop 98 = .ok (.getfield 15, 3) := by decide +kernel
theorem dX7_drop_101 : decode cX7_drop 101 = .ok (.iload_n 1, 1) := by decide +kernel
theorem dX7_drop_102 : decode cX7_drop 102 = .ok (.iconst 0, 1) := by decide +kernel
theorem dX7_drop_103 : decode cX7_drop 103 = .ok (.iastore, 1) := by decide +kernel
theorem dX7_drop_104 : decode cX7_drop 104 = .ok (.iload_n 2, 1) := by decide +kernel
theorem dX7_drop_105 : decode cX7_drop 105 = .ok (.ireturn, 1) := by decide +kernel
theorem dX7_fellAhead_0 : decode cX7_fellAhead 0 = .ok (.aload_n 0, 1) := by decide +kernel
theorem dX7_fellAhead_1 : decode cX7_fellAhead 1 = .ok (.getfield 89, 3) := by decide +kernel
theorem dX7_fellAhead_4 : decode cX7_fellAhead 4 = .ok (.iload_n 1, 1) := by decide +kernel
theorem dX7_fellAhead_5 : decode cX7_fellAhead 5 = .ok (.invokestatic 102, 3) := by decide +kernel
theorem dX7_fellAhead_8 : decode cX7_fellAhead 8 = .ok (.ifCond .eq 33, 3) := by decide +kernel
theorem dX7_fellAhead_11 : decode cX7_fellAhead 11 = .ok (.aload_n 0, 1) := by decide +kernel
theorem dX7_fellAhead_12 : decode cX7_fellAhead 12 = .ok (.getfield 89, 3) := by decide +kernel
theorem dX7_fellAhead_15 : decode cX7_fellAhead 15 = .ok (.iload_n 2, 1) := by decide +kernel
theorem dX7_fellAhead_16 : decode cX7_fellAhead 16 = .ok (.invokestatic 102, 3) := by decide +kernel
theorem dX7_fellAhead_19 : decode cX7_fellAhead 19 = .ok (.ifCond .eq 18, 3) := by decide +kernel
theorem dX7_fellAhead_22 : decode cX7_fellAhead 22 = .ok (.aload_n 0, 1) := by decide +kernel
theorem dX7_fellAhead_23 : decode cX7_fellAhead 23 = .ok (.getfield 22, 3) := by decide +kernel
theorem dX7_fellAhead_26 : decode cX7_fellAhead 26 = .ok (.iload_n 1, 1) := by decide +kernel
theorem dX7_fellAhead_27 : decode cX7_fellAhead 27 = .ok (.iaload, 1) := by decide +kernel
theorem dX7_fellAhead_28 : decode cX7_fellAhead 28 = .ok (.aload_n 0, 1) := by decide +kernel
theorem dX7_fellAhead_29 : decode cX7_fellAhead 29 = .ok (.getfield 22, 3) := by decide +kernel
theorem dX7_fellAhead_32 : decode cX7_fellAhead 32 = .ok (.iload_n 2, 1) := by decide +kernel
theorem dX7_fellAhead_33 : decode cX7_fellAhead 33 = .ok (.iaload, 1) := by decide +kernel
theorem dX7_fellAhead_34 : decode cX7_fellAhead 34 = .ok (.if_icmp .ge 7, 3) := by decide +kernel
theorem dX7_fellAhead_37 : decode cX7_fellAhead 37 = .ok (.iconst 1, 1) := by decide +kernel
theorem dX7_fellAhead_38 : decode cX7_fellAhead 38 = .ok (.goto 4, 3) := by decide +kernel
theorem dX7_fellAhead_41 : decode cX7_fellAhead 41 = .ok (.iconst 0, 1) := by decide +kernel
theorem dX7_fellAhead_42 : decode cX7_fellAhead 42 = .ok (.ireturn, 1) := by decide +kernel
theorem dX7_bears_0 : decode cX7_bears 0 = .ok (.iload_n 1, 1) := by decide +kernel
theorem dX7_bears_1 : decode cX7_bears 1 = .ok (.iconst 0, 1) := by decide +kernel
theorem dX7_bears_2 : decode cX7_bears 2 = .ok (.aload_n 0, 1) := by decide +kernel
theorem dX7_bears_3 : decode cX7_bears 3 = .ok (.getfield 25, 3) := by decide +kernel
theorem dX7_bears_6 : decode cX7_bears 6 = .ok (.getfield 86, 3) := by decide +kernel
theorem dX7_bears_9 : decode cX7_bears 9 = .ok (.iconst 1, 1) := by decide +kernel
theorem dX7_bears_10 : decode cX7_bears 10 = .ok (.isub, 1) := by decide +kernel
theorem dX7_bears_11 : decode cX7_bears 11 = .ok (.invokestatic 52, 3) := by decide +kernel
theorem dX7_bears_14 : decode cX7_bears 14 = .ok (.ifCond .eq 22, 3) := by decide +kernel
theorem dX7_bears_17 : decode cX7_bears 17 = .ok (.aload_n 0, 1) := by decide +kernel
theorem dX7_bears_18 : decode cX7_bears 18 = .ok (.iload_n 1, 1) := by decide +kernel
theorem dX7_bears_19 : decode cX7_bears 19 = .ok (.invokevirtual 113, 3) := by decide +kernel
theorem dX7_bears_22 : decode cX7_bears 22 = .ok (.iload_n 2, 1) := by decide +kernel
theorem dX7_bears_23 : decode cX7_bears 23 = .ok (.iadd, 1) := by decide +kernel
theorem dX7_bears_24 : decode cX7_bears 24 = .ok (.aload_n 0, 1) := by decide +kernel
theorem dX7_bears_25 : decode cX7_bears 25 = .ok (.getfield 25, 3) := by decide +kernel
theorem dX7_bears_28 : decode cX7_bears 28 = .ok (.getfield 116, 3) := by decide +kernel
theorem dX7_bears_31 : decode cX7_bears 31 = .ok (.iload_n 1, 1) := by decide +kernel
theorem dX7_bears_32 : decode cX7_bears 32 = .ok (.iaload, 1) := by decide +kernel
theorem dX7_bears_33 : decode cX7_bears 33 = .ok (.if_icmp .gt 7, 3) := by decide +kernel
theorem dX7_bears_36 : decode cX7_bears 36 = .ok (.iconst 1, 1) := by decide +kernel
theorem dX7_bears_37 : decode cX7_bears 37 = .ok (.goto 4, 3) := by decide +kernel
theorem dX7_bears_40 : decode cX7_bears 40 = .ok (.iconst 0, 1) := by decide +kernel
theorem dX7_bears_41 : decode cX7_bears 41 = .ok (.ireturn, 1) := by decide +kernel
theorem dX7_loadOf_0 : decode cX7_loadOf 0 = .ok (.aload_n 0, 1) := by decide +kernel
theorem dX7_loadOf_1 : decode cX7_loadOf 1 = .ok (.getfield 9, 3) := by decide +kernel
theorem dX7_loadOf_4 : decode cX7_loadOf 4 = .ok (.iload_n 1, 1) := by decide +kernel
theorem dX7_loadOf_5 : decode cX7_loadOf 5 = .ok (.iaload, 1) := by decide +kernel
theorem dX7_loadOf_6 : decode cX7_loadOf 6 = .ok (.aload_n 0, 1) := by decide +kernel
theorem dX7_loadOf_7 : decode cX7_loadOf 7 = .ok (.getfield 15, 3) := by decide +kernel
theorem dX7_loadOf_10 : decode cX7_loadOf 10 = .ok (.iload_n 1, 1) := by decide +kernel
theorem dX7_loadOf_11 : decode cX7_loadOf 11 = .ok (.iaload, 1) := by decide +kernel
theorem dX7_loadOf_12 : decode cX7_loadOf 12 = .ok (.iadd, 1) := by decide +kernel
theorem dX7_loadOf_13 : decode cX7_loadOf 13 = .ok (.ireturn, 1) := by decide +kernel
theorem dX7_loadOfAll_0 : decode cX7_loadOfAll 0 = .ok (.iconst 0, 1) := by decide +kernel
theorem dX7_loadOfAll_1 : decode cX7_loadOfAll 1 = .ok (.istore_n 1, 1) := by decide +kernel
theorem dX7_loadOfAll_2 : decode cX7_loadOfAll 2 = .ok (.iconst 0, 1) := by decide +kernel
theorem dX7_loadOfAll_3 : decode cX7_loadOfAll 3 = .ok (.istore_n 2, 1) := by decide +kernel
theorem dX7_loadOfAll_4 : decode cX7_loadOfAll 4 = .ok (.iload_n 2, 1) := by decide +kernel
theorem dX7_loadOfAll_5 : decode cX7_loadOfAll 5 = .ok (.aload_n 0, 1) := by decide +kernel
theorem dX7_loadOfAll_6 : decode cX7_loadOfAll 6 = .ok (.getfield 25, 3) := by decide +kernel
theorem dX7_loadOfAll_9 : decode cX7_loadOfAll 9 = .ok (.getfield 86, 3) := by decide +kernel
theorem dX7_loadOfAll_12 : decode cX7_loadOfAll 12 = .ok (.if_icmp .ge 17, 3) := by decide +kernel
theorem dX7_loadOfAll_15 : decode cX7_loadOfAll 15 = .ok (.iload_n 1, 1) := by decide +kernel
theorem dX7_loadOfAll_16 : decode cX7_loadOfAll 16 = .ok (.aload_n 0, 1) := by decide +kernel
theorem dX7_loadOfAll_17 : decode cX7_loadOfAll 17 = .ok (.iload_n 2, 1) := by decide +kernel
theorem dX7_loadOfAll_18 : decode cX7_loadOfAll 18 = .ok (.invokevirtual 113, 3) := by decide +kernel
theorem dX7_loadOfAll_21 : decode cX7_loadOfAll 21 = .ok (.iadd, 1) := by decide +kernel
theorem dX7_loadOfAll_22 : decode cX7_loadOfAll 22 = .ok (.istore_n 1, 1) := by decide +kernel
theorem dX7_loadOfAll_23 : decode cX7_loadOfAll 23 = .ok (.iinc 2 1, 3) := by decide +kernel
theorem dX7_loadOfAll_26 : decode cX7_loadOfAll 26 = .ok (.goto (-22), 3) := by decide +kernel
theorem dX7_loadOfAll_29 : decode cX7_loadOfAll 29 = .ok (.iload_n 1, 1) := by decide +kernel
theorem dX7_loadOfAll_30 : decode cX7_loadOfAll 30 = .ok (.ireturn, 1) := by decide +kernel
theorem dX7_lightest_0 : decode cX7_lightest 0 = .ok (.iconst 0, 1) := by decide +kernel
theorem dX7_lightest_1 : decode cX7_lightest 1 = .ok (.istore_n 1, 1) := by decide +kernel
theorem dX7_lightest_2 : decode cX7_lightest 2 = .ok (.iconst 1, 1) := by decide +kernel
theorem dX7_lightest_3 : decode cX7_lightest 3 = .ok (.istore_n 2, 1) := by decide +kernel
theorem dX7_lightest_4 : decode cX7_lightest 4 = .ok (.iload_n 2, 1) := by decide +kernel
theorem dX7_lightest_5 : decode cX7_lightest 5 = .ok (.aload_n 0, 1) := by decide +kernel
theorem dX7_lightest_6 : decode cX7_lightest 6 = .ok (.getfield 25, 3) := by decide +kernel
theorem dX7_lightest_9 : decode cX7_lightest 9 = .ok (.getfield 86, 3) := by decide +kernel
theorem dX7_lightest_12 : decode cX7_lightest 12 = .ok (.if_icmp .ge 24, 3) := by decide +kernel
theorem dX7_lightest_15 : decode cX7_lightest 15 = .ok (.aload_n 0, 1) := by decide +kernel
theorem dX7_lightest_16 : decode cX7_lightest 16 = .ok (.iload_n 2, 1) := by decide +kernel
theorem dX7_lightest_17 : decode cX7_lightest 17 = .ok (.invokevirtual 113, 3) := by decide +kernel
theorem dX7_lightest_20 : decode cX7_lightest 20 = .ok (.aload_n 0, 1) := by decide +kernel
theorem dX7_lightest_21 : decode cX7_lightest 21 = .ok (.iload_n 1, 1) := by decide +kernel
theorem dX7_lightest_22 : decode cX7_lightest 22 = .ok (.invokevirtual 113, 3) := by decide +kernel
theorem dX7_lightest_25 : decode cX7_lightest 25 = .ok (.if_icmp .ge 5, 3) := by decide +kernel
theorem dX7_lightest_28 : decode cX7_lightest 28 = .ok (.iload_n 2, 1) := by decide +kernel
theorem dX7_lightest_29 : decode cX7_lightest 29 = .ok (.istore_n 1, 1) := by decide +kernel
theorem dX7_lightest_30 : decode cX7_lightest 30 = .ok (.iinc 2 1, 3) := by decide +kernel
theorem dX7_lightest_33 : decode cX7_lightest 33 = .ok (.goto (-29), 3) := by decide +kernel
theorem dX7_lightest_36 : decode cX7_lightest 36 = .ok (.iload_n 1, 1) := by decide +kernel
theorem dX7_lightest_37 : decode cX7_lightest 37 = .ok (.ireturn, 1) := by decide +kernel
theorem dX7_heaviest_0 : decode cX7_heaviest 0 = .ok (.iconst 0, 1) := by decide +kernel
theorem dX7_heaviest_1 : decode cX7_heaviest 1 = .ok (.istore_n 1, 1) := by decide +kernel
theorem dX7_heaviest_2 : decode cX7_heaviest 2 = .ok (.iconst 1, 1) := by decide +kernel
theorem dX7_heaviest_3 : decode cX7_heaviest 3 = .ok (.istore_n 2, 1) := by decide +kernel
theorem dX7_heaviest_4 : decode cX7_heaviest 4 = .ok (.iload_n 2, 1) := by decide +kernel
theorem dX7_heaviest_5 : decode cX7_heaviest 5 = .ok (.aload_n 0, 1) := by decide +kernel
theorem dX7_heaviest_6 : decode cX7_heaviest 6 = .ok (.getfield 25, 3) := by decide +kernel
theorem dX7_heaviest_9 : decode cX7_heaviest 9 = .ok (.getfield 86, 3) := by decide +kernel
theorem dX7_heaviest_12 : decode cX7_heaviest 12 = .ok (.if_icmp .ge 24, 3) := by decide +kernel
theorem dX7_heaviest_15 : decode cX7_heaviest 15 = .ok (.aload_n 0, 1) := by decide +kernel
theorem dX7_heaviest_16 : decode cX7_heaviest 16 = .ok (.iload_n 2, 1) := by decide +kernel
theorem dX7_heaviest_17 : decode cX7_heaviest 17 = .ok (.invokevirtual 113, 3) := by decide +kernel
theorem dX7_heaviest_20 : decode cX7_heaviest 20 = .ok (.aload_n 0, 1) := by decide +kernel
theorem dX7_heaviest_21 : decode cX7_heaviest 21 = .ok (.iload_n 1, 1) := by decide +kernel
theorem dX7_heaviest_22 : decode cX7_heaviest 22 = .ok (.invokevirtual 113, 3) := by decide +kernel
theorem dX7_heaviest_25 : decode cX7_heaviest 25 = .ok (.if_icmp .le 5, 3) := by decide +kernel
theorem dX7_heaviest_28 : decode cX7_heaviest 28 = .ok (.iload_n 2, 1) := by decide +kernel
theorem dX7_heaviest_29 : decode cX7_heaviest 29 = .ok (.istore_n 1, 1) := by decide +kernel
theorem dX7_heaviest_30 : decode cX7_heaviest 30 = .ok (.iinc 2 1, 3) := by decide +kernel
theorem dX7_heaviest_33 : decode cX7_heaviest 33 = .ok (.goto (-29), 3) := by decide +kernel
theorem dX7_heaviest_36 : decode cX7_heaviest 36 = .ok (.iload_n 1, 1) := by decide +kernel
theorem dX7_heaviest_37 : decode cX7_heaviest 37 = .ok (.ireturn, 1) := by decide +kernel
theorem dX7_mayStart_0 : decode cX7_mayStart 0 = .ok (.iconst 0, 1) := by decide +kernel
theorem dX7_mayStart_1 : decode cX7_mayStart 1 = .ok (.istore_n 3, 1) := by decide +kernel
theorem dX7_mayStart_2 : decode cX7_mayStart 2 = .ok (.iload_n 3, 1) := by decide +kernel
theorem dX7_mayStart_3 : decode cX7_mayStart 3 = .ok (.aload_n 0, 1) := by decide +kernel
theorem dX7_mayStart_4 : decode cX7_mayStart 4 = .ok (.getfield 25, 3) := by decide +kernel
theorem dX7_mayStart_7 : decode cX7_mayStart 7 = .ok (.getfield 86, 3) := by decide +kernel
theorem dX7_mayStart_10 : decode cX7_mayStart 10 = .ok (.if_icmp .ge 28, 3) := by decide +kernel
theorem dX7_mayStart_13 : decode cX7_mayStart 13 = .ok (.iload_n 1, 1) := by decide +kernel
theorem dX7_mayStart_14 : decode cX7_mayStart 14 = .ok (.iload_n 3, 1) := by decide +kernel
theorem dX7_mayStart_15 : decode cX7_mayStart 15 = .ok (.invokestatic 102, 3) := by decide +kernel
theorem dX7_mayStart_18 : decode cX7_mayStart 18 = .ok (.ifCond .eq 14, 3) := by decide +kernel
theorem dX7_mayStart_21 : decode cX7_mayStart 21 = .ok (.aload_n 0, 1) := by decide +kernel
theorem dX7_mayStart_22 : decode cX7_mayStart 22 = .ok (.iload_n 3, 1) := by decide +kernel
theorem dX7_mayStart_23 : decode cX7_mayStart 23 = .ok (.iload_n 2, 1) := by decide +kernel
theorem dX7_mayStart_24 : decode cX7_mayStart 24 = .ok (.invokevirtual 95, 3) := by decide +kernel
theorem dX7_mayStart_27 : decode cX7_mayStart 27 = .ok (.ifCond .ne 5, 3) := by decide +kernel
theorem dX7_mayStart_30 : decode cX7_mayStart 30 = .ok (.iconst 1, 1) := by decide +kernel
theorem dX7_mayStart_31 : decode cX7_mayStart 31 = .ok (.ireturn, 1) := by decide +kernel
theorem dX7_mayStart_32 : decode cX7_mayStart 32 = .ok (.iinc 3 1, 3) := by decide +kernel
theorem dX7_mayStart_35 : decode cX7_mayStart 35 = .ok (.goto (-33), 3) := by decide +kernel
theorem dX7_mayStart_38 : decode cX7_mayStart 38 = .ok (.iconst 0, 1) := by decide +kernel
theorem dX7_mayStart_39 : decode cX7_mayStart 39 = .ok (.ireturn, 1) := by decide +kernel
end
section
theorem dX8_init_0 : decode cX8_init 0 = .ok (.aload_n 0, 1) := by decide +kernel
theorem dX8_init_1 : decode cX8_init 1 = .ok (.invokespecial 3, 3) := by decide +kernel
theorem dX8_init_4 : decode cX8_init 4 = .ok (.aload_n 0, 1) := by decide +kernel
theorem dX8_init_5 : decode cX8_init 5 = .ok (.sipush 152, 3) := by decide +kernel
theorem dX8_init_8 : decode cX8_init 8 = .ok (.newarray .int, 2) := by decide +kernel
theorem dX8_init_10 : decode cX8_init 10 = .ok (.putfield 9, 3) := by decide +kernel
theorem dX8_init_13 : decode cX8_init 13 = .ok (.aload_n 0, 1) := by decide +kernel
theorem dX8_init_14 : decode cX8_init 14 = .ok (.bipush 6, 2) := by decide +kernel
theorem dX8_init_16 : decode cX8_init 16 = .ok (.newarray .int, 2) := by decide +kernel
theorem dX8_init_18 : decode cX8_init 18 = .ok (.putfield 15, 3) := by decide +kernel
theorem dX8_init_21 : decode cX8_init 21 = .ok (.aload_n 0, 1) := by decide +kernel
theorem dX8_init_22 : decode cX8_init 22 = .ok (.bipush 6, 2) := by decide +kernel
theorem dX8_init_24 : decode cX8_init 24 = .ok (.newarray .int, 2) := by decide +kernel
theorem dX8_init_26 : decode cX8_init 26 = .ok (.putfield 18, 3) := by decide +kernel
theorem dX8_init_29 : decode cX8_init 29 = .ok (.aload_n 0, 1) := by decide +kernel
theorem dX8_init_30 : decode cX8_init 30 = .ok (.new 21, 3) := by decide +kernel
theorem dX8_init_33 : decode cX8_init 33 = .ok (.dup, 1) := by decide +kernel
theorem dX8_init_34 : decode cX8_init 34 = .ok (.aload_n 1, 1) := by decide +kernel
theorem dX8_init_35 : decode cX8_init 35 = .ok (.invokespecial 23, 3) := by decide +kernel
theorem dX8_init_38 : decode cX8_init 38 = .ok (.putfield 26, 3) := by decide +kernel
theorem dX8_init_41 : decode cX8_init 41 = .ok (.aload_n 0, 1) := by decide +kernel
theorem dX8_init_42 : decode cX8_init 42 = .ok (.new 30, 3) := by decide +kernel
theorem dX8_init_45 : decode cX8_init 45 = .ok (.dup, 1) := by decide +kernel
theorem dX8_init_46 : decode cX8_init 46 = .ok (.aload_n 0, 1) := by decide +kernel
theorem dX8_init_47 : decode cX8_init 47 = .ok (.getfield 26, 3) := by decide +kernel
theorem dX8_init_50 : decode cX8_init 50 = .ok (.invokespecial 32, 3) := by decide +kernel
theorem dX8_init_53 : decode cX8_init 53 = .ok (.putfield 35, 3) := by decide +kernel
theorem dX8_init_56 : decode cX8_init 56 = .ok (.return_, 1) := by decide +kernel
theorem dX8_startAnew_0 : decode cX8_startAnew 0 = .ok (.aload_n 0, 1) := by decide +kernel
theorem dX8_startAnew_1 : decode cX8_startAnew 1 = .ok (.getfield 26, 3) := by decide +kernel
theorem dX8_startAnew_4 : decode cX8_startAnew 4 = .ok (.iconst 0, 1) := by decide +kernel
theorem dX8_startAnew_5 : decode cX8_startAnew 5 = .ok (.putfield 39, 3) := by decide +kernel
theorem dX8_startAnew_8 : decode cX8_startAnew 8 = .ok (.aload_n 0, 1) := by decide +kernel
theorem dX8_startAnew_9 : decode cX8_startAnew 9 = .ok (.getfield 26, 3) := by decide +kernel
theorem dX8_startAnew_12 : decode cX8_startAnew 12 = .ok (.iconst 0, 1) := by decide +kernel
theorem dX8_startAnew_13 : decode cX8_startAnew 13 = .ok (.putfield 43, 3) := by decide +kernel
theorem dX8_startAnew_16 : decode cX8_startAnew 16 = .ok (.aload_n 0, 1) := by decide +kernel
theorem dX8_startAnew_17 : decode cX8_startAnew 17 = .ok (.getfield 35, 3) := by decide +kernel
theorem dX8_startAnew_20 : decode cX8_startAnew 20 = .ok (.invokevirtual 46, 3) := by decide +kernel
theorem dX8_startAnew_23 : decode cX8_startAnew 23 = .ok (.aload_n 0, 1) := by decide +kernel
theorem dX8_startAnew_24 : decode cX8_startAnew 24 = .ok (.iconst 0, 1) := by decide +kernel
theorem dX8_startAnew_25 : decode cX8_startAnew 25 = .ok (.putfield 49, 3) := by decide +kernel
theorem dX8_startAnew_28 : decode cX8_startAnew 28 = .ok (.aload_n 0, 1) := by decide +kernel
theorem dX8_startAnew_29 : decode cX8_startAnew 29 = .ok (.iconst 0, 1) := by decide +kernel
theorem dX8_startAnew_30 : decode cX8_startAnew 30 = .ok (.putfield 52, 3) := by decide +kernel
theorem dX8_startAnew_33 : decode cX8_startAnew 33 = .ok (.return_, 1) := by decide +kernel
theorem dX8_copyFrom_0 : decode cX8_copyFrom 0 = .ok (.aload_n 0, 1) := by decide +kernel
theorem dX8_copyFrom_1 : decode cX8_copyFrom 1 = .ok (.getfield 26, 3) := by decide +kernel
theorem dX8_copyFrom_4 : decode cX8_copyFrom 4 = .ok (.aload_n 1, 1) := by decide +kernel
theorem dX8_copyFrom_5 : decode cX8_copyFrom 5 = .ok (.getfield 26, 3) := by decide +kernel
theorem dX8_copyFrom_8 : decode cX8_copyFrom 8 = .ok (.invokevirtual 55, 3) := by decide +kernel
theorem dX8_copyFrom_11 : decode cX8_copyFrom 11 = .ok (.aload_n 0, 1) := by decide +kernel
theorem dX8_copyFrom_12 : decode cX8_copyFrom 12 = .ok (.getfield 35, 3) := by decide +kernel
theorem dX8_copyFrom_15 : decode cX8_copyFrom 15 = .ok (.aload_n 1, 1) := by decide +kernel
theorem dX8_copyFrom_16 : decode cX8_copyFrom 16 = .ok (.getfield 35, 3) := by decide +kernel
theorem dX8_copyFrom_19 : decode cX8_copyFrom 19 = .ok (.invokevirtual 58, 3) := by decide +kernel
theorem dX8_copyFrom_22 : decode cX8_copyFrom 22 = .ok (.aload_n 1, 1) := by decide +kernel
theorem dX8_copyFrom_23 : decode cX8_copyFrom 23 = .ok (.getfield 9, 3) := by decide +kernel
theorem dX8_copyFrom_26 : decode cX8_copyFrom 26 = .ok (.iconst 0, 1) := by decide +kernel
theorem dX8_copyFrom_27 : decode cX8_copyFrom 27 = .ok (.aload_n 0, 1) := by decide +kernel
theorem dX8_copyFrom_28 : decode cX8_copyFrom 28 = .ok (.getfield 9, 3) := by decide +kernel
theorem dX8_copyFrom_31 : decode cX8_copyFrom 31 = .ok (.iconst 0, 1) := by decide +kernel
theorem dX8_copyFrom_32 : decode cX8_copyFrom 32 = .ok (.sipush 152, 3) := by decide +kernel
theorem dX8_copyFrom_35 : decode cX8_copyFrom 35 = .ok (.invokestatic 61, 3) := by decide +kernel
theorem dX8_copyFrom_38 : decode cX8_copyFrom 38 = .ok (.aload_n 0, 1) := by decide +kernel
theorem dX8_copyFrom_39 : decode cX8_copyFrom 39 = .ok (.aload_n 1, 1) := by decide +kernel
theorem dX8_copyFrom_40 : decode cX8_copyFrom 40 = .ok (.getfield 49, 3) := by decide +kernel
theorem dX8_copyFrom_43 : decode cX8_copyFrom 43 = .ok (.putfield 49, 3) := by decide +kernel
theorem dX8_copyFrom_46 : decode cX8_copyFrom 46 = .ok (.aload_n 1, 1) := by decide +kernel
theorem dX8_copyFrom_47 : decode cX8_copyFrom 47 = .ok (.getfield 15, 3) := by decide +kernel
theorem dX8_copyFrom_50 : decode cX8_copyFrom 50 = .ok (.iconst 0, 1) := by decide +kernel
theorem dX8_copyFrom_51 : decode cX8_copyFrom 51 = .ok (.aload_n 0, 1) := by decide +kernel
theorem dX8_copyFrom_52 : decode cX8_copyFrom 52 = .ok (.getfield 15, 3) := by decide +kernel
theorem dX8_copyFrom_55 : decode cX8_copyFrom 55 = .ok (.iconst 0, 1) := by decide +kernel
theorem dX8_copyFrom_56 : decode cX8_copyFrom 56 = .ok (.bipush 6, 2) := by decide +kernel
theorem dX8_copyFrom_58 : decode cX8_copyFrom 58 = .ok (.invokestatic 61, 3) := by decide +kernel
theorem dX8_copyFrom_61 : decode cX8_copyFrom 61 = .ok (.aload_n 1, 1) := by decide +kernel
theorem dX8_copyFrom_62 : decode cX8_copyFrom 62 = .ok (.getfield 18, 3) := by decide +kernel
theorem dX8_copyFrom_65 : decode cX8_copyFrom 65 = .ok (.iconst 0, 1) := by decide +kernel
theorem dX8_copyFrom_66 : decode cX8_copyFrom 66 = .ok (.aload_n 0, 1) := by decide +kernel
theorem dX8_copyFrom_67 : decode cX8_copyFrom 67 = .ok (.getfield 18, 3) := by decide +kernel
theorem dX8_copyFrom_70 : decode cX8_copyFrom 70 = .ok (.iconst 0, 1) := by decide +kernel
theorem dX8_copyFrom_71 : decode cX8_copyFrom 71 = .ok (.bipush 6, 2) := by decide +kernel
theorem dX8_copyFrom_73 : decode cX8_copyFrom 73 = .ok (.invokestatic 61, 3) := by decide +kernel
theorem dX8_copyFrom_76 : decode cX8_copyFrom 76 = .ok (.aload_n 0, 1) := by decide +kernel
theorem dX8_copyFrom_77 : decode cX8_copyFrom 77 = .ok (.aload_n 1, 1) := by decide +kernel
theorem dX8_copyFrom_78 : decode cX8_copyFrom 78 = .ok (.getfield 52, 3) := by decide +kernel
theorem dX8_copyFrom_81 : decode cX8_copyFrom 81 = .ok (.putfield 52, 3) := by decide +kernel
theorem dX8_copyFrom_84 : decode cX8_copyFrom 84 = .ok (.return_, 1) := by decide +kernel
theorem dX8_addLedge_0 : decode cX8_addLedge 0 = .ok (.aload_n 0, 1) := by decide +kernel
theorem dX8_addLedge_1 : decode cX8_addLedge 1 = .ok (.getfield 26, 3) := by decide +kernel
theorem dX8_addLedge_4 : decode cX8_addLedge 4 = .ok (.getfield 39, 3) := by decide +kernel
theorem dX8_addLedge_7 : decode cX8_addLedge 7 = .ok (.istore 4, 2) := by decide +kernel
theorem dX8_addLedge_9 : decode cX8_addLedge 9 = .ok (.iload 4, 2) := by decide +kernel
theorem dX8_addLedge_11 : decode cX8_addLedge 11 = .ok (.ifCond .lt 10, 3) := by decide +kernel
theorem dX8_addLedge_14 : decode cX8_addLedge 14 = .ok (.iload 4, 2) := by decide +kernel
theorem dX8_addLedge_16 : decode cX8_addLedge 16 = .ok (.bipush 8, 2) := by decide +kernel
theorem dX8_addLedge_18 : decode cX8_addLedge 18 = .ok (.if_icmp .lt 6, 3) := by decide +kernel
theorem dX8_addLedge_21 : decode cX8_addLedge 21 = .ok (.bipush (-4), 2) := by decide +kernel
theorem dX8_addLedge_23 : decode cX8_addLedge 23 = .ok (.ireturn, 1) := by decide +kernel
theorem dX8_addLedge_24 : decode cX8_addLedge 24 = .ok (.aload_n 0, 1) := by decide +kernel
theorem dX8_addLedge_25 : decode cX8_addLedge 25 = .ok (.getfield 26, 3) := by decide +kernel
theorem dX8_addLedge_28 : decode cX8_addLedge 28 = .ok (.getfield 67, 3) := by decide +kernel
theorem dX8_addLedge_31 : decode cX8_addLedge 31 = .ok (.iload 4, 2) := by decide +kernel
theorem dX8_addLedge_33 : decode cX8_addLedge 33 = .ok (.iload_n 1, 1) := by decide +kernel
theorem dX8_addLedge_34 : decode cX8_addLedge 34 = .ok (.iastore, 1) := by decide +kernel
theorem dX8_addLedge_35 : decode cX8_addLedge 35 = .ok (.aload_n 0, 1) := by decide +kernel
theorem dX8_addLedge_36 : decode cX8_addLedge 36 = .ok (.getfield 26, 3) := by decide +kernel
theorem dX8_addLedge_39 : decode cX8_addLedge 39 = .ok (.getfield 70, 3) := by decide +kernel
theorem dX8_addLedge_42 : decode cX8_addLedge 42 = .ok (.iload 4, 2) := by decide +kernel
theorem dX8_addLedge_44 : decode cX8_addLedge 44 = .ok (.iload_n 3, 1) := by decide +kernel
theorem dX8_addLedge_45 : decode cX8_addLedge 45 = .ok (.iastore, 1) := by decide +kernel
theorem dX8_addLedge_46 : decode cX8_addLedge 46 = .ok (.aload_n 0, 1) := by decide +kernel
theorem dX8_addLedge_47 : decode cX8_addLedge 47 = .ok (.getfield 35, 3) := by decide +kernel
theorem dX8_addLedge_50 : decode cX8_addLedge 50 = .ok (.getfield 73, 3) := by decide +kernel
theorem dX8_addLedge_53 : decode cX8_addLedge 53 = .ok (.iload 4, 2) := by decide +kernel
theorem dX8_addLedge_55 : decode cX8_addLedge 55 = .ok (.iload_n 2, 1) := by decide +kernel
theorem dX8_addLedge_56 : decode cX8_addLedge 56 = .ok (.iastore, 1) := by decide +kernel
theorem dX8_addLedge_57 : decode cX8_addLedge 57 = .ok (.aload_n 0, 1) := by decide +kernel
theorem dX8_addLedge_58 : decode cX8_addLedge 58 = .ok (.getfield 35, 3) := by decide +kernel
theorem dX8_addLedge_61 : decode cX8_addLedge 61 = .ok (.getfield 76, 3) := by decide +kernel
theorem dX8_addLedge_64 : decode cX8_addLedge 64 = .ok (.iload 4, 2) := by decide +kernel
theorem dX8_addLedge_66 : decode cX8_addLedge 66 = .ok (.iconst 0, 1) := by decide +kernel
theorem dX8_addLedge_67 : decode cX8_addLedge 67 = .ok (.iastore, 1) := by decide +kernel
theorem dX8_addLedge_68 : decode cX8_addLedge 68 = .ok (.aload_n 0, 1) := by decide +kernel
theorem dX8_addLedge_69 : decode cX8_addLedge 69 = .ok (.getfield 26, 3) := by decide +kernel
theorem dX8_addLedge_72 : decode cX8_addLedge 72 = .ok (.iload 4, 2) := by decide +kernel
theorem dX8_addLedge_74 : decode cX8_addLedge 74 = .ok (.iconst 1, 1) := by decide +kernel
theorem dX8_addLedge_75 : decode cX8_addLedge 75 = .ok (.iadd, 1) := by decide +kernel
theorem dX8_addLedge_76 : decode cX8_addLedge 76 = .ok (.putfield 39, 3) := by decide +kernel
theorem dX8_addLedge_79 : decode cX8_addLedge 79 = .ok (.aload_n 0, 1) := by decide +kernel
theorem dX8_addLedge_80 : decode cX8_addLedge 80 = .ok (.iconst 0, 1) := by decide +kernel
theorem dX8_addLedge_81 : decode cX8_addLedge 81 = .ok (.putfield 49, 3) := by decide +kernel
theorem dX8_addLedge_84 : decode cX8_addLedge 84 = .ok (.iload 4, 2) := by decide +kernel
theorem dX8_addLedge_86 : decode cX8_addLedge 86 = .ok (.ireturn, 1) := by decide +kernel
theorem dX8_addVoter_0 : decode cX8_addVoter 0 = .ok (.aload_n 0, 1) := by decide +kernel
theorem dX8_addVoter_1 : decode cX8_addVoter 1 = .ok (.getfield 26, 3) := by decide +kernel
theorem dX8_addVoter_4 : decode cX8_addVoter 4 = .ok (.getfield 43, 3) := by decide +kernel
theorem dX8_addVoter_7 : decode cX8_addVoter 7 = .ok (.istore 4, 2) := by decide +kernel
theorem dX8_addVoter_9 : decode cX8_addVoter 9 = .ok (.iload 4, 2) := by decide +kernel
theorem dX8_addVoter_11 : decode cX8_addVoter 11 = .ok (.ifCond .lt 10, 3) := by decide +kernel
theorem dX8_addVoter_14 : decode cX8_addVoter 14 = .ok (.iload 4, 2) := by decide +kernel
theorem dX8_addVoter_16 : decode cX8_addVoter 16 = .ok (.bipush 6, 2) := by decide +kernel
theorem dX8_addVoter_18 : decode cX8_addVoter 18 = .ok (.if_icmp .lt 6, 3) := by decide +kernel
theorem dX8_addVoter_21 : decode cX8_addVoter 21 = .ok (.bipush (-4), 2) := by decide +kernel
theorem dX8_addVoter_23 : decode cX8_addVoter 23 = .ok (.ireturn, 1) := by decide +kernel
theorem dX8_addVoter_24 : decode cX8_addVoter 24 = .ok (.aload_n 0, 1) := by decide +kernel
theorem dX8_addVoter_25 : decode cX8_addVoter 25 = .ok (.getfield 26, 3) := by decide +kernel
theorem dX8_addVoter_28 : decode cX8_addVoter 28 = .ok (.getfield 79, 3) := by decide +kernel
theorem dX8_addVoter_31 : decode cX8_addVoter 31 = .ok (.iload 4, 2) := by decide +kernel
theorem dX8_addVoter_33 : decode cX8_addVoter 33 = .ok (.iload_n 1, 1) := by decide +kernel
theorem dX8_addVoter_34 : decode cX8_addVoter 34 = .ok (.iastore, 1) := by decide +kernel
theorem dX8_addVoter_35 : decode cX8_addVoter 35 = .ok (.aload_n 0, 1) := by decide +kernel
theorem dX8_addVoter_36 : decode cX8_addVoter 36 = .ok (.getfield 26, 3) := by decide +kernel
theorem dX8_addVoter_39 : decode cX8_addVoter 39 = .ok (.getfield 82, 3) := by decide +kernel
theorem dX8_addVoter_42 : decode cX8_addVoter 42 = .ok (.iload 4, 2) := by decide +kernel
theorem dX8_addVoter_44 : decode cX8_addVoter 44 = .ok (.iload_n 2, 1) := by decide +kernel
theorem dX8_addVoter_45 : decode cX8_addVoter 45 = .ok (.iastore, 1) := by decide +kernel
theorem dX8_addVoter_46 : decode cX8_addVoter 46 = .ok (.aload_n 0, 1) := by decide +kernel
theorem dX8_addVoter_47 : decode cX8_addVoter 47 = .ok (.getfield 26, 3) := by decide +kernel
theorem dX8_addVoter_50 : decode cX8_addVoter 50 = .ok (.getfield 85, 3) := by decide +kernel
theorem dX8_addVoter_53 : decode cX8_addVoter 53 = .ok (.iload 4, 2) := by decide +kernel
theorem dX8_addVoter_55 : decode cX8_addVoter 55 = .ok (.iload_n 3, 1) := by decide +kernel
theorem dX8_addVoter_56 : decode cX8_addVoter 56 = .ok (.iastore, 1) := by decide +kernel
theorem dX8_addVoter_57 : decode cX8_addVoter 57 = .ok (.aload_n 0, 1) := by decide +kernel
theorem dX8_addVoter_58 : decode cX8_addVoter 58 = .ok (.getfield 26, 3) := by decide +kernel
theorem dX8_addVoter_61 : decode cX8_addVoter 61 = .ok (.iload 4, 2) := by decide +kernel
theorem dX8_addVoter_63 : decode cX8_addVoter 63 = .ok (.iconst 1, 1) := by decide +kernel
theorem dX8_addVoter_64 : decode cX8_addVoter 64 = .ok (.iadd, 1) := by decide +kernel
theorem dX8_addVoter_65 : decode cX8_addVoter 65 = .ok (.putfield 43, 3) := by decide +kernel
theorem dX8_addVoter_68 : decode cX8_addVoter 68 = .ok (.aload_n 0, 1) := by decide +kernel
theorem dX8_addVoter_69 : decode cX8_addVoter 69 = .ok (.iconst 0, 1) := by decide +kernel
theorem dX8_addVoter_70 : decode cX8_addVoter 70 = .ok (.putfield 49, 3) := by decide +kernel
theorem dX8_addVoter_73 : decode cX8_addVoter 73 = .ok (.iload 4, 2) := by decide +kernel
theorem dX8_addVoter_75 : decode cX8_addVoter 75 = .ok (.ireturn, 1) := by decide +kernel
theorem dX8_addSeen_0 : decode cX8_addSeen 0 = .ok (.aload_n 0, 1) := by decide +kernel
theorem dX8_addSeen_1 : decode cX8_addSeen 1 = .ok (.getfield 52, 3) := by decide +kernel
theorem dX8_addSeen_4 : decode cX8_addSeen 4 = .ok (.ifCond .lt 12, 3) := by decide +kernel
theorem dX8_addSeen_7 : decode cX8_addSeen 7 = .ok (.aload_n 0, 1) := by decide +kernel
theorem dX8_addSeen_8 : decode cX8_addSeen 8 = .ok (.getfield 52, 3) := by decide +kernel
theorem dX8_addSeen_11 : decode cX8_addSeen 11 = .ok (.bipush 6, 2) := by decide +kernel
theorem dX8_addSeen_13 : decode cX8_addSeen 13 = .ok (.if_icmp .lt 6, 3) := by decide +kernel
theorem dX8_addSeen_16 : decode cX8_addSeen 16 = .ok (.bipush (-4), 2) := by decide +kernel
theorem dX8_addSeen_18 : decode cX8_addSeen 18 = .ok (.ireturn, 1) := by decide +kernel
theorem dX8_addSeen_19 : decode cX8_addSeen 19 = .ok (.aload_n 0, 1) := by decide +kernel
theorem dX8_addSeen_20 : decode cX8_addSeen 20 = .ok (.getfield 15, 3) := by decide +kernel
theorem dX8_addSeen_23 : decode cX8_addSeen 23 = .ok (.aload_n 0, 1) := by decide +kernel
theorem dX8_addSeen_24 : decode cX8_addSeen 24 = .ok (.getfield 52, 3) := by decide +kernel
theorem dX8_addSeen_27 : decode cX8_addSeen 27 = .ok (.iload_n 1, 1) := by decide +kernel
theorem dX8_addSeen_28 : decode cX8_addSeen 28 = .ok (.iastore, 1) := by decide +kernel
theorem dX8_addSeen_29 : decode cX8_addSeen 29 = .ok (.aload_n 0, 1) := by decide +kernel
theorem dX8_addSeen_30 : decode cX8_addSeen 30 = .ok (.getfield 18, 3) := by decide +kernel
theorem dX8_addSeen_33 : decode cX8_addSeen 33 = .ok (.aload_n 0, 1) := by decide +kernel
theorem dX8_addSeen_34 : decode cX8_addSeen 34 = .ok (.getfield 52, 3) := by decide +kernel
theorem dX8_addSeen_37 : decode cX8_addSeen 37 = .ok (.iload_n 2, 1) := by decide +kernel
theorem dX8_addSeen_38 : decode cX8_addSeen 38 = .ok (.iastore, 1) := by decide +kernel
theorem dX8_addSeen_39 : decode cX8_addSeen 39 = .ok (.aload_n 0, 1) := by decide +kernel
theorem dX8_addSeen_40 : decode cX8_addSeen 40 = .ok (.dup, 1) := by decide +kernel
theorem dX8_addSeen_41 : decode cX8_addSeen 41 = .ok (.getfield 52, 3) := by decide +kernel
theorem dX8_addSeen_44 : decode cX8_addSeen 44 = .ok (.iconst 1, 1) := by decide +kernel
theorem dX8_addSeen_45 : decode cX8_addSeen 45 = .ok (.iadd, 1) := by decide +kernel
theorem dX8_addSeen_46 : decode cX8_addSeen 46 = .ok (.putfield 52, 3) := by decide +kernel
theorem dX8_addSeen_49 : decode cX8_addSeen 49 = .ok (.aload_n 0, 1) := by decide +kernel
theorem dX8_addSeen_50 : decode cX8_addSeen 50 = .ok (.getfield 52, 3) := by decide +kernel
theorem dX8_addSeen_53 : decode cX8_addSeen 53 = .ok (.ireturn, 1) := by decide +kernel
theorem dX8_keepPast_0 : decode cX8_keepPast 0 = .ok (.aload_n 0, 1) := by decide +kernel
theorem dX8_keepPast_1 : decode cX8_keepPast 1 = .ok (.getfield 49, 3) := by decide +kernel
theorem dX8_keepPast_4 : decode cX8_keepPast 4 = .ok (.bipush 8, 2) := by decide +kernel
theorem dX8_keepPast_6 : decode cX8_keepPast 6 = .ok (.if_icmp .lt 26, 3) := by decide +kernel
theorem dX8_keepPast_9 : decode cX8_keepPast 9 = .ok (.aload_n 0, 1) := by decide +kernel
theorem dX8_keepPast_10 : decode cX8_keepPast 10 = .ok (.getfield 9, 3) := by decide +kernel
theorem dX8_keepPast_13 : decode cX8_keepPast 13 = .ok (.bipush 19, 2) := by decide +kernel
theorem dX8_keepPast_15 : decode cX8_keepPast 15 = .ok (.aload_n 0, 1) := by decide +kernel
theorem dX8_keepPast_16 : decode cX8_keepPast 16 = .ok (.getfield 9, 3) := by decide +kernel
theorem dX8_keepPast_19 : decode cX8_keepPast 19 = .ok (.iconst 0, 1) := by decide +kernel
theorem dX8_keepPast_20 : decode cX8_keepPast 20 = .ok (.sipush 133, 3) := by decide +kernel
theorem dX8_keepPast_23 : decode cX8_keepPast 23 = .ok (.invokestatic 61, 3) := by decide +kernel
theorem dX8_keepPast_26 : decode cX8_keepPast 26 = .ok (.aload_n 0, 1) := by decide +kernel
theorem dX8_keepPast_27 : decode cX8_keepPast 27 = .ok (.bipush 7, 2) := by decide +kernel
theorem dX8_keepPast_29 : decode cX8_keepPast 29 = .ok (.putfield 49, 3) := by decide +kernel
theorem dX8_keepPast_32 : decode cX8_keepPast 32 = .ok (.aload_n 0, 1) := by decide +kernel
theorem dX8_keepPast_33 : decode cX8_keepPast 33 = .ok (.getfield 35, 3) := by decide +kernel
theorem dX8_keepPast_36 : decode cX8_keepPast 36 = .ok (.aload_n 0, 1) := by decide +kernel
theorem dX8_keepPast_37 : decode cX8_keepPast 37 = .ok (.getfield 9, 3) := by decide +kernel
theorem dX8_keepPast_40 : decode cX8_keepPast 40 = .ok (.aload_n 0, 1) := by decide +kernel
theorem dX8_keepPast_41 : decode cX8_keepPast 41 = .ok (.getfield 49, 3) := by decide +kernel
theorem dX8_keepPast_44 : decode cX8_keepPast 44 = .ok (.bipush 19, 2) := by decide +kernel
theorem dX8_keepPast_46 : decode cX8_keepPast 46 = .ok (.imul, 1) := by decide +kernel
theorem dX8_keepPast_47 : decode cX8_keepPast 47 = .ok (.invokevirtual 88, 3) := by decide +kernel
theorem dX8_keepPast_50 : decode cX8_keepPast 50 = .ok (.aload_n 0, 1) := by decide +kernel
theorem dX8_keepPast_51 : decode cX8_keepPast 51 = .ok (.dup, 1) := by decide +kernel
theorem dX8_keepPast_52 : decode cX8_keepPast 52 = .ok (.getfield 49, 3) := by decide +kernel
theorem dX8_keepPast_55 : decode cX8_keepPast 55 = .ok (.iconst 1, 1) := by decide +kernel
theorem dX8_keepPast_56 : decode cX8_keepPast 56 = .ok (.iadd, 1) := by decide +kernel
theorem dX8_keepPast_57 : decode cX8_keepPast 57 = .ok (.putfield 49, 3) := by decide +kernel
theorem dX8_keepPast_60 : decode cX8_keepPast 60 = .ok (.return_, 1) := by decide +kernel
theorem dX8_goBack_0 : decode cX8_goBack 0 = .ok (.aload_n 0, 1) := by decide +kernel
theorem dX8_goBack_1 : decode cX8_goBack 1 = .ok (.getfield 49, 3) := by decide +kernel
theorem dX8_goBack_4 : decode cX8_goBack 4 = .ok (.ifCond .le 31, 3) := by decide +kernel
theorem dX8_goBack_7 : decode cX8_goBack 7 = .ok (.aload_n 0, 1) := by decide +kernel
theorem dX8_goBack_8 : decode cX8_goBack 8 = .ok (.dup, 1) := by decide +kernel
theorem dX8_goBack_9 : decode cX8_goBack 9 = .ok (.getfield 49, 3) := by decide +kernel
theorem dX8_goBack_12 : decode cX8_goBack 12 = .ok (.iconst 1, 1) := by decide +kernel
theorem dX8_goBack_13 : decode cX8_goBack 13 = .ok (.isub, 1) := by decide +kernel
theorem dX8_goBack_14 : decode cX8_goBack 14 = .ok (.putfield 49, 3) := by decide +kernel
theorem dX8_goBack_17 : decode cX8_goBack 17 = .ok (.aload_n 0, 1) := by decide +kernel
theorem dX8_goBack_18 : decode cX8_goBack 18 = .ok (.getfield 35, 3) := by decide +kernel
theorem dX8_goBack_21 : decode cX8_goBack 21 = .ok (.aload_n 0, 1) := by decide +kernel
theorem dX8_goBack_22 : decode cX8_goBack 22 = .ok (.getfield 9, 3) := by decide +kernel
theorem dX8_goBack_25 : decode cX8_goBack 25 = .ok (.aload_n 0, 1) := by decide +kernel
theorem dX8_goBack_26 : decode cX8_goBack 26 = .ok (.getfield 49, 3) := by decide +kernel
theorem dX8_goBack_29 : decode cX8_goBack 29 = .ok (.bipush 19, 2) := by decide +kernel
theorem dX8_goBack_31 : decode cX8_goBack 31 = .ok (.imul, 1) := by decide +kernel
theorem dX8_goBack_32 : decode cX8_goBack 32 = .ok (.invokevirtual 92, 3) := by decide +kernel
theorem dX8_goBack_35 : decode cX8_goBack 35 = .ok (.return_, 1) := by decide +kernel
theorem dX8_leastHold_0 : decode cX8_leastHold 0 = .ok (.iconst 1, 1) := by decide +kernel
theorem dX8_leastHold_1 : decode cX8_leastHold 1 = .ok (.istore_n 1, 1) := by decide +kernel
theorem dX8_leastHold_2 : decode cX8_leastHold 2 = .ok (.iconst 0, 1) := by decide +kernel
theorem dX8_leastHold_3 : decode cX8_leastHold 3 = .ok (.istore_n 2, 1) := by decide +kernel
theorem dX8_leastHold_4 : decode cX8_leastHold 4 = .ok (.iload_n 2, 1) := by decide +kernel
theorem dX8_leastHold_5 : decode cX8_leastHold 5 = .ok (.aload_n 0, 1) := by decide +kernel
theorem dX8_leastHold_6 : decode cX8_leastHold 6 = .ok (.getfield 52, 3) := by decide +kernel
theorem dX8_leastHold_9 : decode cX8_leastHold 9 = .ok (.if_icmp .ge 30, 3) := by decide +kernel
theorem dX8_leastHold_12 : decode cX8_leastHold 12 = .ok (.aload_n 0, 1) := by decide +kernel
theorem dX8_leastHold_13 : decode cX8_leastHold 13 = .ok (.getfield 18, 3) := by decide +kernel
theorem dX8_leastHold_16 : decode cX8_leastHold 16 = .ok (.iload_n 2, 1) := by decide +kernel
theorem dX8_leastHold_17 : decode cX8_leastHold 17 = .ok (.iaload, 1) := by decide +kernel
theorem dX8_leastHold_18 : decode cX8_leastHold 18 = .ok (.iconst 1, 1) := by decide +kernel
theorem dX8_leastHold_19 : decode cX8_leastHold 19 = .ok (.if_icmp .ne 14, 3) := by decide +kernel
theorem dX8_leastHold_22 : decode cX8_leastHold 22 = .ok (.iload_n 1, 1) := by decide +kernel
theorem dX8_leastHold_23 : decode cX8_leastHold 23 = .ok (.aload_n 0, 1) := by decide +kernel
theorem dX8_leastHold_24 : decode cX8_leastHold 24 = .ok (.getfield 15, 3) := by decide +kernel
theorem dX8_leastHold_27 : decode cX8_leastHold 27 = .ok (.iload_n 2, 1) := by decide +kernel
theorem dX8_leastHold_28 : decode cX8_leastHold 28 = .ok (.iaload, 1) := by decide +kernel
theorem dX8_leastHold_29 : decode cX8_leastHold 29 = .ok (.invokestatic 95, 3) := by decide +kernel
theorem dX8_leastHold_32 : decode cX8_leastHold 32 = .ok (.istore_n 1, 1) := by decide +kernel
theorem dX8_leastHold_33 : decode cX8_leastHold 33 = .ok (.iinc 2 1, 3) := by decide +kernel
theorem dX8_leastHold_36 : decode cX8_leastHold 36 = .ok (.goto (-32), 3) := by decide +kernel
theorem dX8_leastHold_39 : decode cX8_leastHold 39 = .ok (.iload_n 1, 1) := by decide +kernel
theorem dX8_leastHold_40 : decode cX8_leastHold 40 = .ok (.ireturn, 1) := by decide +kernel
theorem dX8_greatestHold_0 : decode cX8_greatestHold 0 = .ok (.bipush 60, 2) := by decide +kernel
theorem dX8_greatestHold_2 : decode cX8_greatestHold 2 = .ok (.istore_n 1, 1) := by decide +kernel
theorem dX8_greatestHold_3 : decode cX8_greatestHold 3 = .ok (.iconst 0, 1) := by decide +kernel
theorem dX8_greatestHold_4 : decode cX8_greatestHold 4 = .ok (.istore_n 2, 1) := by decide +kernel
theorem dX8_greatestHold_5 : decode cX8_greatestHold 5 = .ok (.iload_n 2, 1) := by decide +kernel
theorem dX8_greatestHold_6 : decode cX8_greatestHold 6 = .ok (.aload_n 0, 1) := by decide +kernel
theorem dX8_greatestHold_7 : decode cX8_greatestHold 7 = .ok (.getfield 52, 3) := by decide +kernel
theorem dX8_greatestHold_10 : decode cX8_greatestHold 10 = .ok (.if_icmp .ge 31, 3) := by decide +kernel
theorem dX8_greatestHold_13 : decode cX8_greatestHold 13 = .ok (.aload_n 0, 1) := by decide +kernel
theorem dX8_greatestHold_14 : decode cX8_greatestHold 14 = .ok (.getfield 18, 3) := by decide +kernel
theorem dX8_greatestHold_17 : decode cX8_greatestHold 17 = .ok (.iload_n 2, 1) := by decide +kernel
theorem dX8_greatestHold_18 : decode cX8_greatestHold 18 = .ok (.iaload, 1) := by decide +kernel
theorem dX8_greatestHold_19 : decode cX8_greatestHold 19 = .ok (.ifCond .ne 16, 3) := by decide +kernel
theorem dX8_greatestHold_22 : decode cX8_greatestHold 22 = .ok (.iload_n 1, 1) := by decide +kernel
theorem dX8_greatestHold_23 : decode cX8_greatestHold 23 = .ok (.aload_n 0, 1) := by decide +kernel
theorem dX8_greatestHold_24 : decode cX8_greatestHold 24 = .ok (.getfield 15, 3) := by decide +kernel
theorem dX8_greatestHold_27 : decode cX8_greatestHold 27 = .ok (.iload_n 2, 1) := by decide +kernel
theorem dX8_greatestHold_28 : decode cX8_greatestHold 28 = .ok (.iaload, 1) := by decide +kernel
theorem dX8_greatestHold_29 : decode cX8_greatestHold 29 = .ok (.iconst 1, 1) := by decide +kernel
theorem dX8_greatestHold_30 : decode cX8_greatestHold 30 = .ok (.isub, 1) := by decide +kernel
theorem dX8_greatestHold_31 : decode cX8_greatestHold 31 = .ok (.invokestatic 101, 3) := by decide +kernel
theorem dX8_greatestHold_34 : decode cX8_greatestHold 34 = .ok (.istore_n 1, 1) := by decide +kernel
theorem dX8_greatestHold_35 : decode cX8_greatestHold 35 = .ok (.iinc 2 1, 3) := by decide +kernel
theorem dX8_greatestHold_38 : decode cX8_greatestHold 38 = .ok (.goto (-33), 3) := by decide +kernel
theorem dX8_greatestHold_41 : decode cX8_greatestHold 41 = .ok (.iload_n 1, 1) := by decide +kernel
theorem dX8_greatestHold_42 : decode cX8_greatestHold 42 = .ok (.ireturn, 1) := by decide +kernel
theorem dX8_digestFrom_0 : decode cX8_digestFrom 0 = .ok (.ldc2_w 104, 3) := by decide +kernel
theorem dX8_digestFrom_3 : decode cX8_digestFrom 3 = .ok (.lload_n 1, 1) := by decide +kernel
theorem dX8_digestFrom_4 : decode cX8_digestFrom 4 = .ok (.lmul, 1) := by decide +kernel
theorem dX8_digestFrom_5 : decode cX8_digestFrom 5 = .ok (.aload_n 0, 1) := by decide +kernel
theorem dX8_digestFrom_6 : decode cX8_digestFrom 6 = .ok (.getfield 35, 3) := by decide +kernel
theorem dX8_digestFrom_9 : decode cX8_digestFrom 9 = .ok (.getfield 106, 3) := by decide +kernel
theorem dX8_digestFrom_12 : decode cX8_digestFrom 12 = .ok (.i2l, 1) := by decide +kernel
theorem dX8_digestFrom_13 : decode cX8_digestFrom 13 = .ok (.ladd, 1) := by decide +kernel
theorem dX8_digestFrom_14 : decode cX8_digestFrom 14 = .ok (.lstore_n 3, 1) := by decide +kernel
theorem dX8_digestFrom_15 : decode cX8_digestFrom 15 = .ok (.ldc2_w 104, 3) := by decide +kernel
theorem dX8_digestFrom_18 : decode cX8_digestFrom 18 = .ok (.lload_n 3, 1) := by decide +kernel
theorem dX8_digestFrom_19 : decode cX8_digestFrom 19 = .ok (.lmul, 1) := by decide +kernel
theorem dX8_digestFrom_20 : decode cX8_digestFrom 20 = .ok (.aload_n 0, 1) := by decide +kernel
theorem dX8_digestFrom_21 : decode cX8_digestFrom 21 = .ok (.getfield 35, 3) := by decide +kernel
theorem dX8_digestFrom_24 : decode cX8_digestFrom 24 = .ok (.getfield 109, 3) := by decide +kernel
theorem dX8_digestFrom_27 : decode cX8_digestFrom 27 = .ok (.i2l, 1) := by decide +kernel
theorem dX8_digestFrom_28 : decode cX8_digestFrom 28 = .ok (.ladd, 1) := by decide +kernel
theorem dX8_digestFrom_29 : decode cX8_digestFrom 29 = .ok (.lstore_n 3, 1) := by decide +kernel
theorem dX8_digestFrom_30 : decode cX8_digestFrom 30 = .ok (.iconst 0, 1) := by decide +kernel
theorem dX8_digestFrom_31 : decode cX8_digestFrom 31 = .ok (.istore 5, 2) := by decide +kernel
theorem dX8_digestFrom_33 : decode cX8_digestFrom 33 = .ok (.iload 5, 2) := by decide +kernel
theorem dX8_digestFrom_35 : decode cX8_digestFrom 35 = .ok (.aload_n 0, 1) := by decide +kernel
theorem dX8_digestFrom_36 : decode cX8_digestFrom 36 = .ok (.getfield 26, 3) := by decide +kernel
theorem dX8_digestFrom_39 : decode cX8_digestFrom 39 = .ok (.getfield 39, 3) := by decide +kernel
theorem dX8_digestFrom_42 : decode cX8_digestFrom 42 = .ok (.if_icmp .ge 81, 3) := by decide +kernel
theorem dX8_digestFrom_45 : decode cX8_digestFrom 45 = .ok (.ldc2_w 104, 3) := by decide +kernel
theorem dX8_digestFrom_48 : decode cX8_digestFrom 48 = .ok (.lload_n 3, 1) := by decide +kernel
theorem dX8_digestFrom_49 : decode cX8_digestFrom 49 = .ok (.lmul, 1) := by decide +kernel
theorem dX8_digestFrom_50 : decode cX8_digestFrom 50 = .ok (.aload_n 0, 1) := by decide +kernel
theorem dX8_digestFrom_51 : decode cX8_digestFrom 51 = .ok (.getfield 26, 3) := by decide +kernel
theorem dX8_digestFrom_54 : decode cX8_digestFrom 54 = .ok (.getfield 67, 3) := by decide +kernel
theorem dX8_digestFrom_57 : decode cX8_digestFrom 57 = .ok (.iload 5, 2) := by decide +kernel
theorem dX8_digestFrom_59 : decode cX8_digestFrom 59 = .ok (.iaload, 1) := by decide +kernel
theorem dX8_digestFrom_60 : decode cX8_digestFrom 60 = .ok (.i2l, 1) := by decide +kernel
theorem dX8_digestFrom_61 : decode cX8_digestFrom 61 = .ok (.ladd, 1) := by decide +kernel
theorem dX8_digestFrom_62 : decode cX8_digestFrom 62 = .ok (.lstore_n 3, 1) := by decide +kernel
theorem dX8_digestFrom_63 : decode cX8_digestFrom 63 = .ok (.ldc2_w 104, 3) := by decide +kernel
theorem dX8_digestFrom_66 : decode cX8_digestFrom 66 = .ok (.lload_n 3, 1) := by decide +kernel
theorem dX8_digestFrom_67 : decode cX8_digestFrom 67 = .ok (.lmul, 1) := by decide +kernel
theorem dX8_digestFrom_68 : decode cX8_digestFrom 68 = .ok (.aload_n 0, 1) := by decide +kernel
theorem dX8_digestFrom_69 : decode cX8_digestFrom 69 = .ok (.getfield 35, 3) := by decide +kernel
theorem dX8_digestFrom_72 : decode cX8_digestFrom 72 = .ok (.getfield 73, 3) := by decide +kernel
theorem dX8_digestFrom_75 : decode cX8_digestFrom 75 = .ok (.iload 5, 2) := by decide +kernel
theorem dX8_digestFrom_77 : decode cX8_digestFrom 77 = .ok (.iaload, 1) := by decide +kernel
theorem dX8_digestFrom_78 : decode cX8_digestFrom 78 = .ok (.i2l, 1) := by decide +kernel
theorem dX8_digestFrom_79 : decode cX8_digestFrom 79 = .ok (.ladd, 1) := by decide +kernel
theorem dX8_digestFrom_80 : decode cX8_digestFrom 80 = .ok (.lstore_n 3, 1) := by decide +kernel
theorem dX8_digestFrom_81 : decode cX8_digestFrom 81 = .ok (.ldc2_w 104, 3) := by decide +kernel
theorem dX8_digestFrom_84 : decode cX8_digestFrom 84 = .ok (.lload_n 3, 1) := by decide +kernel
theorem dX8_digestFrom_85 : decode cX8_digestFrom 85 = .ok (.lmul, 1) := by decide +kernel
theorem dX8_digestFrom_86 : decode cX8_digestFrom 86 = .ok (.aload_n 0, 1) := by decide +kernel
theorem dX8_digestFrom_87 : decode cX8_digestFrom 87 = .ok (.getfield 35, 3) := by decide +kernel
theorem dX8_digestFrom_90 : decode cX8_digestFrom 90 = .ok (.getfield 76, 3) := by decide +kernel
theorem dX8_digestFrom_93 : decode cX8_digestFrom 93 = .ok (.iload 5, 2) := by decide +kernel
theorem dX8_digestFrom_95 : decode cX8_digestFrom 95 = .ok (.iaload, 1) := by decide +kernel
theorem dX8_digestFrom_96 : decode cX8_digestFrom 96 = .ok (.i2l, 1) := by decide +kernel
theorem dX8_digestFrom_97 : decode cX8_digestFrom 97 = .ok (.ladd, 1) := by decide +kernel
theorem dX8_digestFrom_98 : decode cX8_digestFrom 98 = .ok (.lstore_n 3, 1) := by decide +kernel
theorem dX8_digestFrom_99 : decode cX8_digestFrom 99 = .ok (.ldc2_w 104, 3) := by decide +kernel
theorem dX8_digestFrom_102 : decode cX8_digestFrom 102 = .ok (.lload_n 3, 1) := by decide +kernel
theorem dX8_digestFrom_103 : decode cX8_digestFrom 103 = .ok (.lmul, 1) := by decide +kernel
theorem dX8_digestFrom_104 : decode cX8_digestFrom 104 = .ok (.aload_n 0, 1) := by decide +kernel
theorem dX8_digestFrom_105 : decode cX8_digestFrom 105 = .ok (.getfield 26, 3) := by decide +kernel
theorem dX8_digestFrom_108 : decode cX8_digestFrom 108 = .ok (.getfield 70, 3) := by decide +kernel
theorem dX8_digestFrom_111 : decode cX8_digestFrom 111 = .ok (.iload 5, 2) := by decide +kernel
theorem dX8_digestFrom_113 : decode cX8_digestFrom 113 = .ok (.iaload, 1) := by decide +kernel
theorem dX8_digestFrom_114 : decode cX8_digestFrom 114 = .ok (.i2l, 1) := by decide +kernel
theorem dX8_digestFrom_115 : decode cX8_digestFrom 115 = .ok (.ladd, 1) := by decide +kernel
theorem dX8_digestFrom_116 : decode cX8_digestFrom 116 = .ok (.lstore_n 3, 1) := by decide +kernel
theorem dX8_digestFrom_117 : decode cX8_digestFrom 117 = .ok (.iinc 5 1, 3) := by decide +kernel
theorem dX8_digestFrom_120 : decode cX8_digestFrom 120 = .ok (.goto (-87), 3) := by decide +kernel
theorem dX8_digestFrom_123 : decode cX8_digestFrom 123 = .ok (.iconst 0, 1) := by decide +kernel
theorem dX8_digestFrom_124 : decode cX8_digestFrom 124 = .ok (.istore 5, 2) := by decide +kernel
theorem dX8_digestFrom_126 : decode cX8_digestFrom 126 = .ok (.iload 5, 2) := by decide +kernel
theorem dX8_digestFrom_128 : decode cX8_digestFrom 128 = .ok (.aload_n 0, 1) := by decide +kernel
theorem dX8_digestFrom_129 : decode cX8_digestFrom 129 = .ok (.getfield 26, 3) := by decide +kernel
theorem dX8_digestFrom_132 : decode cX8_digestFrom 132 = .ok (.getfield 43, 3) := by decide +kernel
theorem dX8_digestFrom_135 : decode cX8_digestFrom 135 = .ok (.if_icmp .ge 63, 3) := by decide +kernel
theorem dX8_digestFrom_138 : decode cX8_digestFrom 138 = .ok (.ldc2_w 104, 3) := by decide +kernel
theorem dX8_digestFrom_141 : decode cX8_digestFrom 141 = .ok (.lload_n 3, 1) := by decide +kernel
theorem dX8_digestFrom_142 : decode cX8_digestFrom 142 = .ok (.lmul, 1) := by decide +kernel
theorem dX8_digestFrom_143 : decode cX8_digestFrom 143 = .ok (.aload_n 0, 1) := by decide +kernel
theorem dX8_digestFrom_144 : decode cX8_digestFrom 144 = .ok (.getfield 26, 3) := by decide +kernel
theorem dX8_digestFrom_147 : decode cX8_digestFrom 147 = .ok (.getfield 79, 3) := by decide +kernel
theorem dX8_digestFrom_150 : decode cX8_digestFrom 150 = .ok (.iload 5, 2) := by decide +kernel
theorem dX8_digestFrom_152 : decode cX8_digestFrom 152 = .ok (.iaload, 1) := by decide +kernel
theorem dX8_digestFrom_153 : decode cX8_digestFrom 153 = .ok (.i2l, 1) := by decide +kernel
theorem dX8_digestFrom_154 : decode cX8_digestFrom 154 = .ok (.ladd, 1) := by decide +kernel
theorem dX8_digestFrom_155 : decode cX8_digestFrom 155 = .ok (.lstore_n 3, 1) := by decide +kernel
theorem dX8_digestFrom_156 : decode cX8_digestFrom 156 = .ok (.ldc2_w 104, 3) := by decide +kernel
theorem dX8_digestFrom_159 : decode cX8_digestFrom 159 = .ok (.lload_n 3, 1) := by decide +kernel
theorem dX8_digestFrom_160 : decode cX8_digestFrom 160 = .ok (.lmul, 1) := by decide +kernel
theorem dX8_digestFrom_161 : decode cX8_digestFrom 161 = .ok (.aload_n 0, 1) := by decide +kernel
theorem dX8_digestFrom_162 : decode cX8_digestFrom 162 = .ok (.getfield 26, 3) := by decide +kernel
theorem dX8_digestFrom_165 : decode cX8_digestFrom 165 = .ok (.getfield 82, 3) := by decide +kernel
theorem dX8_digestFrom_168 : decode cX8_digestFrom 168 = .ok (.iload 5, 2) := by decide +kernel
theorem dX8_digestFrom_170 : decode cX8_digestFrom 170 = .ok (.iaload, 1) := by decide +kernel
theorem dX8_digestFrom_171 : decode cX8_digestFrom 171 = .ok (.i2l, 1) := by decide +kernel
theorem dX8_digestFrom_172 : decode cX8_digestFrom 172 = .ok (.ladd, 1) := by decide +kernel
theorem dX8_digestFrom_173 : decode cX8_digestFrom 173 = .ok (.lstore_n 3, 1) := by decide +kernel
theorem dX8_digestFrom_174 : decode cX8_digestFrom 174 = .ok (.ldc2_w 104, 3) := by decide +kernel
theorem dX8_digestFrom_177 : decode cX8_digestFrom 177 = .ok (.lload_n 3, 1) := by decide +kernel
theorem dX8_digestFrom_178 : decode cX8_digestFrom 178 = .ok (.lmul, 1) := by decide +kernel
theorem dX8_digestFrom_179 : decode cX8_digestFrom 179 = .ok (.aload_n 0, 1) := by decide +kernel
theorem dX8_digestFrom_180 : decode cX8_digestFrom 180 = .ok (.getfield 26, 3) := by decide +kernel
theorem dX8_digestFrom_183 : decode cX8_digestFrom 183 = .ok (.getfield 85, 3) := by decide +kernel
theorem dX8_digestFrom_186 : decode cX8_digestFrom 186 = .ok (.iload 5, 2) := by decide +kernel
theorem dX8_digestFrom_188 : decode cX8_digestFrom 188 = .ok (.iaload, 1) := by decide +kernel
theorem dX8_digestFrom_189 : decode cX8_digestFrom 189 = .ok (.i2l, 1) := by decide +kernel
theorem dX8_digestFrom_190 : decode cX8_digestFrom 190 = .ok (.ladd, 1) := by decide +kernel
theorem dX8_digestFrom_191 : decode cX8_digestFrom 191 = .ok (.lstore_n 3, 1) := by decide +kernel
theorem dX8_digestFrom_192 : decode cX8_digestFrom 192 = .ok (.iinc 5 1, 3) := by decide +kernel
theorem dX8_digestFrom_195 : decode cX8_digestFrom 195 = .ok (.goto (-69), 3) := by decide +kernel
theorem dX8_digestFrom_198 : decode cX8_digestFrom 198 = .ok (.iconst 0, 1) := by decide +kernel
theorem dX8_digestFrom_199 : decode cX8_digestFrom 199 = .ok (.istore 5, 2) := by decide +kernel
theorem dX8_digestFrom_201 : decode cX8_digestFrom 201 = .ok (.iload 5, 2) := by decide +kernel
theorem dX8_digestFrom_203 : decode cX8_digestFrom 203 = .ok (.aload_n 0, 1) := by decide +kernel
theorem dX8_digestFrom_204 : decode cX8_digestFrom 204 = .ok (.getfield 52, 3) := by decide +kernel
theorem dX8_digestFrom_207 : decode cX8_digestFrom 207 = .ok (.if_icmp .ge 39, 3) := by decide +kernel
theorem dX8_digestFrom_210 : decode cX8_digestFrom 210 = .ok (.ldc2_w 104, 3) := by decide +kernel
theorem dX8_digestFrom_213 : decode cX8_digestFrom 213 = .ok (.lload_n 3, 1) := by decide +kernel
theorem dX8_digestFrom_214 : decode cX8_digestFrom 214 = .ok (.lmul, 1) := by decide +kernel
theorem dX8_digestFrom_215 : decode cX8_digestFrom 215 = .ok (.aload_n 0, 1) := by decide +kernel
theorem dX8_digestFrom_216 : decode cX8_digestFrom 216 = .ok (.getfield 15, 3) := by decide +kernel
theorem dX8_digestFrom_219 : decode cX8_digestFrom 219 = .ok (.iload 5, 2) := by decide +kernel
theorem dX8_digestFrom_221 : decode cX8_digestFrom 221 = .ok (.iaload, 1) := by decide +kernel
theorem dX8_digestFrom_222 : decode cX8_digestFrom 222 = .ok (.i2l, 1) := by decide +kernel
theorem dX8_digestFrom_223 : decode cX8_digestFrom 223 = .ok (.ladd, 1) := by decide +kernel
theorem dX8_digestFrom_224 : decode cX8_digestFrom 224 = .ok (.lstore_n 3, 1) := by decide +kernel
theorem dX8_digestFrom_225 : decode cX8_digestFrom 225 = .ok (.ldc2_w 104, 3) := by decide +kernel
theorem dX8_digestFrom_228 : decode cX8_digestFrom 228 = .ok (.lload_n 3, 1) := by decide +kernel
theorem dX8_digestFrom_229 : decode cX8_digestFrom 229 = .ok (.lmul, 1) := by decide +kernel
theorem dX8_digestFrom_230 : decode cX8_digestFrom 230 = .ok (.aload_n 0, 1) := by decide +kernel
theorem dX8_digestFrom_231 : decode cX8_digestFrom 231 = .ok (.getfield 18, 3) := by decide +kernel
theorem dX8_digestFrom_234 : decode cX8_digestFrom 234 = .ok (.iload 5, 2) := by decide +kernel
theorem dX8_digestFrom_236 : decode cX8_digestFrom 236 = .ok (.iaload, 1) := by decide +kernel
theorem dX8_digestFrom_237 : decode cX8_digestFrom 237 = .ok (.i2l, 1) := by decide +kernel
theorem dX8_digestFrom_238 : decode cX8_digestFrom 238 = .ok (.ladd, 1) := by decide +kernel
theorem dX8_digestFrom_239 : decode cX8_digestFrom 239 = .ok (.lstore_n 3, 1) := by decide +kernel
theorem dX8_digestFrom_240 : decode cX8_digestFrom 240 = .ok (.iinc 5 1, 3) := by decide +kernel
theorem dX8_digestFrom_243 : decode cX8_digestFrom 243 = .ok (.goto (-42), 3) := by decide +kernel
theorem dX8_digestFrom_246 : decode cX8_digestFrom 246 = .ok (.lload_n 3, 1) := by decide +kernel
theorem dX8_digestFrom_247 : decode cX8_digestFrom 247 = .ok (.lreturn, 1) := by decide +kernel
theorem dX9_init_0 : decode cX9_init 0 = .ok (.aload_n 0, 1) := by decide +kernel
theorem dX9_init_1 : decode cX9_init 1 = .ok (.invokespecial 3, 3) := by decide +kernel
theorem dX9_init_4 : decode cX9_init 4 = .ok (.aload_n 0, 1) := by decide +kernel
theorem dX9_init_5 : decode cX9_init 5 = .ok (.bipush 8, 2) := by decide +kernel
theorem dX9_init_7 : decode cX9_init 7 = .ok (.newarray .int, 2) := by decide +kernel
theorem dX9_init_9 : decode cX9_init 9 = .ok (.putfield 9, 3) := by decide +kernel
theorem dX9_init_12 : decode cX9_init 12 = .ok (.aload_n 0, 1) := by decide +kernel
theorem dX9_init_13 : decode cX9_init 13 = .ok (.bipush 8, 2) := by decide +kernel
theorem dX9_init_15 : decode cX9_init 15 = .ok (.newarray .int, 2) := by decide +kernel
theorem dX9_init_17 : decode cX9_init 17 = .ok (.putfield 15, 3) := by decide +kernel
theorem dX9_init_20 : decode cX9_init 20 = .ok (.aload_n 0, 1) := by decide +kernel
theorem dX9_init_21 : decode cX9_init 21 = .ok (.bipush 6, 2) := by decide +kernel
theorem dX9_init_23 : decode cX9_init 23 = .ok (.newarray .int, 2) := by decide +kernel
theorem dX9_init_25 : decode cX9_init 25 = .ok (.putfield 18, 3) := by decide +kernel
theorem dX9_init_28 : decode cX9_init 28 = .ok (.aload_n 0, 1) := by decide +kernel
theorem dX9_init_29 : decode cX9_init 29 = .ok (.bipush 6, 2) := by decide +kernel
theorem dX9_init_31 : decode cX9_init 31 = .ok (.newarray .int, 2) := by decide +kernel
theorem dX9_init_33 : decode cX9_init 33 = .ok (.putfield 21, 3) := by decide +kernel
theorem dX9_init_36 : decode cX9_init 36 = .ok (.aload_n 0, 1) := by decide +kernel
theorem dX9_init_37 : decode cX9_init 37 = .ok (.bipush 6, 2) := by decide +kernel
theorem dX9_init_39 : decode cX9_init 39 = .ok (.newarray .int, 2) := by decide +kernel
theorem dX9_init_41 : decode cX9_init 41 = .ok (.putfield 24, 3) := by decide +kernel
theorem dX9_init_44 : decode cX9_init 44 = .ok (.aload_n 0, 1) := by decide +kernel
theorem dX9_init_45 : decode cX9_init 45 = .ok (.aload_n 1, 1) := by decide +kernel
theorem dX9_init_46 : decode cX9_init 46 = .ok (.putfield 27, 3) := by decide +kernel
theorem dX9_init_49 : decode cX9_init 49 = .ok (.return_, 1) := by decide +kernel
theorem dX9_copyFrom_0 : decode cX9_copyFrom 0 = .ok (.aload_n 0, 1) := by decide +kernel
theorem dX9_copyFrom_1 : decode cX9_copyFrom 1 = .ok (.aload_n 1, 1) := by decide +kernel
theorem dX9_copyFrom_2 : decode cX9_copyFrom 2 = .ok (.getfield 31, 3) := by decide +kernel
theorem dX9_copyFrom_5 : decode cX9_copyFrom 5 = .ok (.putfield 31, 3) := by decide +kernel
theorem dX9_copyFrom_8 : decode cX9_copyFrom 8 = .ok (.aload_n 1, 1) := by decide +kernel
theorem dX9_copyFrom_9 : decode cX9_copyFrom 9 = .ok (.getfield 9, 3) := by decide +kernel
theorem dX9_copyFrom_12 : decode cX9_copyFrom 12 = .ok (.iconst 0, 1) := by decide +kernel
theorem dX9_copyFrom_13 : decode cX9_copyFrom 13 = .ok (.aload_n 0, 1) := by decide +kernel
theorem dX9_copyFrom_14 : decode cX9_copyFrom 14 = .ok (.getfield 9, 3) := by decide +kernel
theorem dX9_copyFrom_17 : decode cX9_copyFrom 17 = .ok (.iconst 0, 1) := by decide +kernel
theorem dX9_copyFrom_18 : decode cX9_copyFrom 18 = .ok (.bipush 8, 2) := by decide +kernel
theorem dX9_copyFrom_20 : decode cX9_copyFrom 20 = .ok (.invokestatic 35, 3) := by decide +kernel
theorem dX9_copyFrom_23 : decode cX9_copyFrom 23 = .ok (.aload_n 1, 1) := by decide +kernel
theorem dX9_copyFrom_24 : decode cX9_copyFrom 24 = .ok (.getfield 15, 3) := by decide +kernel
theorem dX9_copyFrom_27 : decode cX9_copyFrom 27 = .ok (.iconst 0, 1) := by decide +kernel
theorem dX9_copyFrom_28 : decode cX9_copyFrom 28 = .ok (.aload_n 0, 1) := by decide +kernel
theorem dX9_copyFrom_29 : decode cX9_copyFrom 29 = .ok (.getfield 15, 3) := by decide +kernel
theorem dX9_copyFrom_32 : decode cX9_copyFrom 32 = .ok (.iconst 0, 1) := by decide +kernel
theorem dX9_copyFrom_33 : decode cX9_copyFrom 33 = .ok (.bipush 8, 2) := by decide +kernel
theorem dX9_copyFrom_35 : decode cX9_copyFrom 35 = .ok (.invokestatic 35, 3) := by decide +kernel
theorem dX9_copyFrom_38 : decode cX9_copyFrom 38 = .ok (.aload_n 0, 1) := by decide +kernel
theorem dX9_copyFrom_39 : decode cX9_copyFrom 39 = .ok (.aload_n 1, 1) := by decide +kernel
theorem dX9_copyFrom_40 : decode cX9_copyFrom 40 = .ok (.getfield 41, 3) := by decide +kernel
theorem dX9_copyFrom_43 : decode cX9_copyFrom 43 = .ok (.putfield 41, 3) := by decide +kernel
theorem dX9_copyFrom_46 : decode cX9_copyFrom 46 = .ok (.aload_n 1, 1) := by decide +kernel
theorem dX9_copyFrom_47 : decode cX9_copyFrom 47 = .ok (.getfield 18, 3) := by decide +kernel
theorem dX9_copyFrom_50 : decode cX9_copyFrom 50 = .ok (.iconst 0, 1) := by decide +kernel
theorem dX9_copyFrom_51 : decode cX9_copyFrom 51 = .ok (.aload_n 0, 1) := by decide +kernel
theorem dX9_copyFrom_52 : decode cX9_copyFrom 52 = .ok (.getfield 18, 3) := by decide +kernel
theorem dX9_copyFrom_55 : decode cX9_copyFrom 55 = .ok (.iconst 0, 1) := by decide +kernel
theorem dX9_copyFrom_56 : decode cX9_copyFrom 56 = .ok (.bipush 6, 2) := by decide +kernel
theorem dX9_copyFrom_58 : decode cX9_copyFrom 58 = .ok (.invokestatic 35, 3) := by decide +kernel
theorem dX9_copyFrom_61 : decode cX9_copyFrom 61 = .ok (.aload_n 1, 1) := by decide +kernel
theorem dX9_copyFrom_62 : decode cX9_copyFrom 62 = .ok (.getfield 21, 3) := by decide +kernel
theorem dX9_copyFrom_65 : decode cX9_copyFrom 65 = .ok (.iconst 0, 1) := by decide +kernel
theorem dX9_copyFrom_66 : decode cX9_copyFrom 66 = .ok (.aload_n 0, 1) := by decide +kernel
theorem dX9_copyFrom_67 : decode cX9_copyFrom 67 = .ok (.getfield 21, 3) := by decide +kernel
theorem dX9_copyFrom_70 : decode cX9_copyFrom 70 = .ok (.iconst 0, 1) := by decide +kernel
theorem dX9_copyFrom_71 : decode cX9_copyFrom 71 = .ok (.bipush 6, 2) := by decide +kernel
theorem dX9_copyFrom_73 : decode cX9_copyFrom 73 = .ok (.invokestatic 35, 3) := by decide +kernel
theorem dX9_copyFrom_76 : decode cX9_copyFrom 76 = .ok (.aload_n 1, 1) := by decide +kernel
theorem dX9_copyFrom_77 : decode cX9_copyFrom 77 = .ok (.getfield 24, 3) := by decide +kernel
theorem dX9_copyFrom_80 : decode cX9_copyFrom 80 = .ok (.iconst 0, 1) := by decide +kernel
theorem dX9_copyFrom_81 : decode cX9_copyFrom 81 = .ok (.aload_n 0, 1) := by decide +kernel
theorem dX9_copyFrom_82 : decode cX9_copyFrom 82 = .ok (.getfield 24, 3) := by decide +kernel
theorem dX9_copyFrom_85 : decode cX9_copyFrom 85 = .ok (.iconst 0, 1) := by decide +kernel
theorem dX9_copyFrom_86 : decode cX9_copyFrom 86 = .ok (.bipush 6, 2) := by decide +kernel
theorem dX9_copyFrom_88 : decode cX9_copyFrom 88 = .ok (.invokestatic 35, 3) := by decide +kernel
theorem dX9_copyFrom_91 : decode cX9_copyFrom 91 = .ok (.return_, 1) := by decide +kernel
theorem dX9_kindOf_0 : decode cX9_kindOf 0 = .ok (.aload_n 0, 1) := by decide +kernel
theorem dX9_kindOf_1 : decode cX9_kindOf 1 = .ok (.getfield 27, 3) := by decide +kernel
theorem dX9_kindOf_4 : decode cX9_kindOf 4 = .ok (.iload_n 1, 1) := by decide +kernel
theorem dX9_kindOf_5 : decode cX9_kindOf 5 = .ok (.iconst 0, 1) := by decide +kernel
theorem dX9_kindOf_6 : decode cX9_kindOf 6 = .ok (.aload_n 0, 1) := by decide +kernel
theorem dX9_kindOf_7 : decode cX9_kindOf 7 = .ok (.getfield 27, 3) := by decide +kernel
theorem dX9_kindOf_10 : decode cX9_kindOf 10 = .ok (.arraylength, 1) := by decide +kernel
theorem dX9_kindOf_11 : decode cX9_kindOf 11 = .ok (.iconst 1, 1) := by decide +kernel
theorem dX9_kindOf_12 : decode cX9_kindOf 12 = .ok (.isub, 1) := by decide +kernel
theorem dX9_kindOf_13 : decode cX9_kindOf 13 = .ok (.invokestatic 44, 3) := by decide +kernel
theorem dX9_kindOf_16 : decode cX9_kindOf 16 = .ok (.ifCond .eq 7, 3) := by decide +kernel
theorem dX9_kindOf_19 : decode cX9_kindOf 19 = .ok (.iload_n 1, 1) := by decide +kernel
theorem dX9_kindOf_20 : decode cX9_kindOf 20 = .ok (.goto 4, 3) := by decide +kernel
theorem dX9_kindOf_23 : decode cX9_kindOf 23 = .ok (.iconst 0, 1) := by decide +kernel
theorem dX9_kindOf_24 : decode cX9_kindOf 24 = .ok (.aaload, 1) := by decide +kernel
theorem dX9_kindOf_25 : decode cX9_kindOf 25 = .ok (.areturn, 1) := by decide +kernel
theorem dX9_ledgeBelow_0 : decode cX9_ledgeBelow 0 = .ok (.iload_n 1, 1) := by decide +kernel
theorem dX9_ledgeBelow_1 : decode cX9_ledgeBelow 1 = .ok (.iconst 0, 1) := by decide +kernel
theorem dX9_ledgeBelow_2 : decode cX9_ledgeBelow 2 = .ok (.aload_n 0, 1) := by decide +kernel
theorem dX9_ledgeBelow_3 : decode cX9_ledgeBelow 3 = .ok (.getfield 31, 3) := by decide +kernel
theorem dX9_ledgeBelow_6 : decode cX9_ledgeBelow 6 = .ok (.iconst 1, 1) := by decide +kernel
theorem dX9_ledgeBelow_7 : decode cX9_ledgeBelow 7 = .ok (.isub, 1) := by decide +kernel
theorem dX9_ledgeBelow_8 : decode cX9_ledgeBelow 8 = .ok (.invokestatic 44, 3) := by decide +kernel
theorem dX9_ledgeBelow_11 : decode cX9_ledgeBelow 11 = .ok (.ifCond .eq 12, 3) := by decide +kernel
theorem dX9_ledgeBelow_14 : decode cX9_ledgeBelow 14 = .ok (.aload_n 0, 1) := by decide +kernel
theorem dX9_ledgeBelow_15 : decode cX9_ledgeBelow 15 = .ok (.getfield 15, 3) := by decide +kernel
theorem dX9_ledgeBelow_18 : decode cX9_ledgeBelow 18 = .ok (.iload_n 1, 1) := by decide +kernel
theorem dX9_ledgeBelow_19 : decode cX9_ledgeBelow 19 = .ok (.iaload, 1) := by decide +kernel
theorem dX9_ledgeBelow_20 : decode cX9_ledgeBelow 20 = .ok (.goto 4, 3) := by decide +kernel
theorem dX9_ledgeBelow_23 : decode cX9_ledgeBelow 23 = .ok (.iconst (-1), 1) := by decide +kernel
theorem dX9_ledgeBelow_24 : decode cX9_ledgeBelow 24 = .ok (.ireturn, 1) := by decide +kernel
theorem dX9_bitsAbove_0 : decode cX9_bitsAbove 0 = .ok (.iconst 1, 1) := by decide +kernel
theorem dX9_bitsAbove_1 : decode cX9_bitsAbove 1 = .ok (.iload_n 1, 1) := by decide +kernel
theorem dX9_bitsAbove_2 : decode cX9_bitsAbove 2 = .ok (.ishl, 1) := by decide +kernel
theorem dX9_bitsAbove_3 : decode cX9_bitsAbove 3 = .ok (.istore_n 2, 1) := by decide +kernel
theorem dX9_bitsAbove_4 : decode cX9_bitsAbove 4 = .ok (.iload_n 1, 1) := by decide +kernel
theorem dX9_bitsAbove_5 : decode cX9_bitsAbove 5 = .ok (.iconst 1, 1) := by decide +kernel
theorem dX9_bitsAbove_6 : decode cX9_bitsAbove 6 = .ok (.iadd, 1) := by decide +kernel
theorem dX9_bitsAbove_7 : decode cX9_bitsAbove 7 = .ok (.istore_n 3, 1) := by decide +kernel
theorem dX9_bitsAbove_8 : decode cX9_bitsAbove 8 = .ok (.iload_n 3, 1) := by decide +kernel
theorem dX9_bitsAbove_9 : decode cX9_bitsAbove 9 = .ok (.aload_n 0, 1) := by decide +kernel
theorem dX9_bitsAbove_10 : decode cX9_bitsAbove 10 = .ok (.getfield 31, 3) := by decide +kernel
theorem dX9_bitsAbove_13 : decode cX9_bitsAbove 13 = .ok (.if_icmp .ge 38, 3) := by decide +kernel
theorem dX9_bitsAbove_16 : decode cX9_bitsAbove 16 = .ok (.aload_n 0, 1) := by decide +kernel
theorem dX9_bitsAbove_17 : decode cX9_bitsAbove 17 = .ok (.getfield 15, 3) := by decide +kernel
theorem dX9_bitsAbove_20 : decode cX9_bitsAbove 20 = .ok (.iload_n 3, 1) := by decide +kernel
theorem dX9_bitsAbove_21 : decode cX9_bitsAbove 21 = .ok (.iaload, 1) := by decide +kernel
theorem dX9_bitsAbove_22 : decode cX9_bitsAbove 22 = .ok (.iconst (-1), 1) := by decide +kernel
theorem dX9_bitsAbove_23 : decode cX9_bitsAbove 23 = .ok (.if_icmp .eq 22, 3) := by decide +kernel
theorem dX9_bitsAbove_26 : decode cX9_bitsAbove 26 = .ok (.iload_n 2, 1) := by decide +kernel
theorem dX9_bitsAbove_27 : decode cX9_bitsAbove 27 = .ok (.aload_n 0, 1) := by decide +kernel
theorem dX9_bitsAbove_28 : decode cX9_bitsAbove 28 = .ok (.getfield 15, 3) := by decide +kernel
theorem dX9_bitsAbove_31 : decode cX9_bitsAbove 31 = .ok (.iload_n 3, 1) := by decide +kernel
theorem dX9_bitsAbove_32 : decode cX9_bitsAbove 32 = .ok (.iaload, 1) := by decide +kernel
theorem dX9_bitsAbove_33 : decode cX9_bitsAbove 33 = .ok (.invokestatic 48, 3) := by decide +kernel
theorem dX9_bitsAbove_36 : decode cX9_bitsAbove 36 = .ok (.ifCond .eq 9, 3) := by decide +kernel
theorem dX9_bitsAbove_39 : decode cX9_bitsAbove 39 = .ok (.iload_n 2, 1) := by decide +kernel
theorem dX9_bitsAbove_40 : decode cX9_bitsAbove 40 = .ok (.iconst 1, 1) := by decide +kernel
theorem dX9_bitsAbove_41 : decode cX9_bitsAbove 41 = .ok (.iload_n 3, 1) := by decide +kernel
theorem dX9_bitsAbove_42 : decode cX9_bitsAbove 42 = .ok (.ishl, 1) := by decide +kernel
theorem dX9_bitsAbove_43 : decode cX9_bitsAbove 43 = .ok (.ior, 1) := by decide +kernel
theorem dX9_bitsAbove_44 : decode cX9_bitsAbove 44 = .ok (.istore_n 2, 1) := by decide +kernel
theorem dX9_bitsAbove_45 : decode cX9_bitsAbove 45 = .ok (.iinc 3 1, 3) := by decide +kernel
theorem dX9_bitsAbove_48 : decode cX9_bitsAbove 48 = .ok (.goto (-40), 3) := by decide +kernel
theorem dX9_bitsAbove_51 : decode cX9_bitsAbove 51 = .ok (.iload_n 2, 1) := by decide +kernel
theorem dX9_bitsAbove_52 : decode cX9_bitsAbove 52 = .ok (.ireturn, 1) := by decide +kernel
theorem dX10_init_0 : decode cX10_init 0 = .ok (.aload_n 0, 1) := by decide +kernel
theorem dX10_init_1 : decode cX10_init 1 = .ok (.invokespecial 1, 3) := by decide +kernel
theorem dX10_init_4 : decode cX10_init 4 = .ok (.return_, 1) := by decide +kernel
theorem dX10_place_0 : decode cX10_place 0 = .ok (.aload_n 1, 1) := by decide +kernel
theorem dX10_place_1 : decode cX10_place 1 = .ok (.getfield 7, 3) := by decide +kernel
theorem dX10_place_4 : decode cX10_place 4 = .ok (.iconst 2, 1) := by decide +kernel
theorem dX10_place_5 : decode cX10_place 5 = .ok (.irem, 1) := by decide +kernel
theorem dX10_place_6 : decode cX10_place 6 = .ok (.ifCond .eq 10, 3) := by decide +kernel
theorem dX10_place_9 : decode cX10_place 9 = .ok (.aload_n 1, 1) := by decide +kernel
theorem dX10_place_10 : decode cX10_place 10 = .ok (.invokevirtual 13, 3) := by decide +kernel
theorem dX10_place_13 : decode cX10_place 13 = .ok (.goto 10, 3) := by decide +kernel
theorem dX10_place_16 : decode cX10_place 16 = .ok (.aload_n 0, 1) := by decide +kernel
theorem dX10_place_17 : decode cX10_place 17 = .ok (.aload_n 1, 1) := by decide +kernel
theorem dX10_place_18 : decode cX10_place 18 = .ok (.iload_n 2, 1) := by decide +kernel
theorem dX10_place_19 : decode cX10_place 19 = .ok (.iload_n 3, 1) := by decide +kernel
theorem dX10_place_20 : decode cX10_place 20 = .ok (.invokespecial 17, 3) := by decide +kernel
theorem dX10_place_23 : decode cX10_place 23 = .ok (.ireturn, 1) := by decide +kernel
theorem dX11_init_0 : decode cX11_init 0 = .ok (.aload_n 0, 1) := by decide +kernel
theorem dX11_init_1 : decode cX11_init 1 = .ok (.invokespecial 3, 3) := by decide +kernel
theorem dX11_init_4 : decode cX11_init 4 = .ok (.bipush 6, 2) := by decide +kernel
theorem dX11_init_6 : decode cX11_init 6 = .ok (.anewarray 9, 3) := by decide +kernel
theorem dX11_init_9 : decode cX11_init 9 = .ok (.dup, 1) := by decide +kernel
theorem dX11_init_10 : decode cX11_init 10 = .ok (.iconst 0, 1) := by decide +kernel
theorem dX11_init_11 : decode cX11_init 11 = .ok (.new 9, 3) := by decide +kernel
theorem dX11_init_14 : decode cX11_init 14 = .ok (.dup, 1) := by decide +kernel
theorem dX11_init_15 : decode cX11_init 15 = .ok (.invokespecial 11, 3) := by decide +kernel
theorem dX11_init_18 : decode cX11_init 18 = .ok (.aastore, 1) := by decide +kernel
theorem dX11_init_19 : decode cX11_init 19 = .ok (.dup, 1) := by decide +kernel
theorem dX11_init_20 : decode cX11_init 20 = .ok (.iconst 1, 1) := by decide +kernel
theorem dX11_init_21 : decode cX11_init 21 = .ok (.new 12, 3) := by decide +kernel
theorem dX11_init_24 : decode cX11_init 24 = .ok (.dup, 1) := by decide +kernel
theorem dX11_init_25 : decode cX11_init 25 = .ok (.invokespecial 14, 3) := by decide +kernel
theorem dX11_init_28 : decode cX11_init 28 = .ok (.aastore, 1) := by decide +kernel
theorem dX11_init_29 : decode cX11_init 29 = .ok (.dup, 1) := by decide +kernel
theorem dX11_init_30 : decode cX11_init 30 = .ok (.iconst 2, 1) := by decide +kernel
theorem dX11_init_31 : decode cX11_init 31 = .ok (.new 15, 3) := by decide +kernel
theorem dX11_init_34 : decode cX11_init 34 = .ok (.dup, 1) := by decide +kernel
theorem dX11_init_35 : decode cX11_init 35 = .ok (.invokespecial 17, 3) := by decide +kernel
theorem dX11_init_38 : decode cX11_init 38 = .ok (.aastore, 1) := by decide +kernel
theorem dX11_init_39 : decode cX11_init 39 = .ok (.dup, 1) := by decide +kernel
theorem dX11_init_40 : decode cX11_init 40 = .ok (.iconst 3, 1) := by decide +kernel
theorem dX11_init_41 : decode cX11_init 41 = .ok (.new 18, 3) := by decide +kernel
theorem dX11_init_44 : decode cX11_init 44 = .ok (.dup, 1) := by decide +kernel
theorem dX11_init_45 : decode cX11_init 45 = .ok (.invokespecial 20, 3) := by decide +kernel
theorem dX11_init_48 : decode cX11_init 48 = .ok (.aastore, 1) := by decide +kernel
theorem dX11_init_49 : decode cX11_init 49 = .ok (.dup, 1) := by decide +kernel
theorem dX11_init_50 : decode cX11_init 50 = .ok (.iconst 4, 1) := by decide +kernel
theorem dX11_init_51 : decode cX11_init 51 = .ok (.new 21, 3) := by decide +kernel
theorem dX11_init_54 : decode cX11_init 54 = .ok (.dup, 1) := by decide +kernel
theorem dX11_init_55 : decode cX11_init 55 = .ok (.invokespecial 23, 3) := by decide +kernel
theorem dX11_init_58 : decode cX11_init 58 = .ok (.aastore, 1) := by decide +kernel
theorem dX11_init_59 : decode cX11_init 59 = .ok (.dup, 1) := by decide +kernel
theorem dX11_init_60 : decode cX11_init 60 = .ok (.iconst 5, 1) := by decide +kernel
theorem dX11_init_61 : decode cX11_init 61 = .ok (.new 24, 3) := by decide +kernel
theorem dX11_init_64 : decode cX11_init 64 = .ok (.dup, 1) := by decide +kernel
theorem dX11_init_65 : decode cX11_init 65 = .ok (.invokespecial 26, 3) := by decide +kernel
theorem dX11_init_68 : decode cX11_init 68 = .ok (.aastore, 1) := by decide +kernel
theorem dX11_init_69 : decode cX11_init 69 = .ok (.astore_n 1, 1) := by decide +kernel
theorem dX11_init_70 : decode cX11_init 70 = .ok (.aload_n 0, 1) := by decide +kernel
theorem dX11_init_71 : decode cX11_init 71 = .ok (.new 27, 3) := by decide +kernel
theorem dX11_init_74 : decode cX11_init 74 = .ok (.dup, 1) := by decide +kernel
theorem dX11_init_75 : decode cX11_init 75 = .ok (.aload_n 1, 1) := by decide +kernel
theorem dX11_init_76 : decode cX11_init 76 = .ok (.invokespecial 29, 3) := by decide +kernel
theorem dX11_init_79 : decode cX11_init 79 = .ok (.putfield 32, 3) := by decide +kernel
theorem dX11_init_82 : decode cX11_init 82 = .ok (.aload_n 0, 1) := by decide +kernel
theorem dX11_init_83 : decode cX11_init 83 = .ok (.new 27, 3) := by decide +kernel
theorem dX11_init_86 : decode cX11_init 86 = .ok (.dup, 1) := by decide +kernel
theorem dX11_init_87 : decode cX11_init 87 = .ok (.aload_n 1, 1) := by decide +kernel
theorem dX11_init_88 : decode cX11_init 88 = .ok (.invokespecial 29, 3) := by decide +kernel
theorem dX11_init_91 : decode cX11_init 91 = .ok (.putfield 36, 3) := by decide +kernel
theorem dX11_init_94 : decode cX11_init 94 = .ok (.aload_n 0, 1) := by decide +kernel
theorem dX11_init_95 : decode cX11_init 95 = .ok (.iconst 2, 1) := by decide +kernel
theorem dX11_init_96 : decode cX11_init 96 = .ok (.anewarray 27, 3) := by decide +kernel
theorem dX11_init_99 : decode cX11_init 99 = .ok (.putfield 39, 3) := by decide +kernel
theorem dX11_init_102 : decode cX11_init 102 = .ok (.iconst 0, 1) := by decide +kernel
theorem dX11_init_103 : decode cX11_init 103 = .ok (.istore_n 2, 1) := by decide +kernel
theorem dX11_init_104 : decode cX11_init 104 = .ok (.iload_n 2, 1) := by decide +kernel
theorem dX11_init_105 : decode cX11_init 105 = .ok (.iconst 2, 1) := by decide +kernel
theorem dX11_init_106 : decode cX11_init 106 = .ok (.if_icmp .ge 23, 3) := by decide +kernel
theorem dX11_init_109 : decode cX11_init 109 = .ok (.aload_n 0, 1) := by decide +kernel
theorem dX11_init_110 : decode cX11_init 110 = .ok (.getfield 39, 3) := by decide +kernel
theorem dX11_init_113 : decode cX11_init 113 = .ok (.iload_n 2, 1) := by decide +kernel
theorem dX11_init_114 : decode cX11_init 114 = .ok (.new 27, 3) := by decide +kernel
theorem dX11_init_117 : decode cX11_init 117 = .ok (.dup, 1) := by decide +kernel
theorem dX11_init_118 : decode cX11_init 118 = .ok (.aload_n 1, 1) := by decide +kernel
theorem dX11_init_119 : decode cX11_init 119 = .ok (.invokespecial 29, 3) := by decide +kernel
theorem dX11_init_122 : decode cX11_init 122 = .ok (.aastore, 1) := by decide +kernel
theorem dX11_init_123 : decode cX11_init 123 = .ok (.iinc 2 1, 3) := by decide +kernel
theorem dX11_init_126 : decode cX11_init 126 = .ok (.goto (-22), 3) := by decide +kernel
theorem dX11_init_129 : decode cX11_init 129 = .ok (.aload_n 0, 1) := by decide +kernel
theorem dX11_init_130 : decode cX11_init 130 = .ok (.new 43, 3) := by decide +kernel
theorem dX11_init_133 : decode cX11_init 133 = .ok (.dup, 1) := by decide +kernel
theorem dX11_init_134 : decode cX11_init 134 = .ok (.invokespecial 45, 3) := by decide +kernel
theorem dX11_init_137 : decode cX11_init 137 = .ok (.putfield 46, 3) := by decide +kernel
theorem dX11_init_140 : decode cX11_init 140 = .ok (.aload_n 0, 1) := by decide +kernel
theorem dX11_init_141 : decode cX11_init 141 = .ok (.new 50, 3) := by decide +kernel
theorem dX11_init_144 : decode cX11_init 144 = .ok (.dup, 1) := by decide +kernel
theorem dX11_init_145 : decode cX11_init 145 = .ok (.aload_n 0, 1) := by decide +kernel
theorem dX11_init_146 : decode cX11_init 146 = .ok (.getfield 32, 3) := by decide +kernel
theorem dX11_init_149 : decode cX11_init 149 = .ok (.invokespecial 52, 3) := by decide +kernel
theorem dX11_init_152 : decode cX11_init 152 = .ok (.putfield 55, 3) := by decide +kernel
theorem dX11_init_155 : decode cX11_init 155 = .ok (.aload_n 0, 1) := by decide +kernel
theorem dX11_init_156 : decode cX11_init 156 = .ok (.lconst 1, 1) := by decide +kernel
theorem dX11_init_157 : decode cX11_init 157 = .ok (.putfield 59, 3) := by decide +kernel
theorem dX11_init_160 : decode cX11_init 160 = .ok (.return_, 1) := by decide +kernel
theorem dX11_mountain_0 : decode cX11_mountain 0 = .ok (.aload_n 0, 1) := by decide +kernel
theorem dX11_mountain_1 : decode cX11_mountain 1 = .ok (.getfield 32, 3) := by decide +kernel
theorem dX11_mountain_4 : decode cX11_mountain 4 = .ok (.getfield 63, 3) := by decide +kernel
theorem dX11_mountain_7 : decode cX11_mountain 7 = .ok (.getfield 67, 3) := by decide +kernel
theorem dX11_mountain_10 : decode cX11_mountain 10 = .ok (.istore_n 1, 1) := by decide +kernel
theorem dX11_mountain_11 : decode cX11_mountain 11 = .ok (.aload_n 0, 1) := by decide +kernel
theorem dX11_mountain_12 : decode cX11_mountain 12 = .ok (.getfield 32, 3) := by decide +kernel
theorem dX11_mountain_15 : decode cX11_mountain 15 = .ok (.invokevirtual 73, 3) := by decide +kernel
theorem dX11_mountain_18 : decode cX11_mountain 18 = .ok (.iload_n 1, 1) := by decide +kernel
theorem dX11_mountain_19 : decode cX11_mountain 19 = .ok (.ireturn, 1) := by decide +kernel
theorem dX11_ledge_0 : decode cX11_ledge 0 = .ok (.iload_n 1, 1) := by decide +kernel
theorem dX11_ledge_1 : decode cX11_ledge 1 = .ok (.iconst 1, 1) := by decide +kernel
theorem dX11_ledge_2 : decode cX11_ledge 2 = .ok (.bipush 60, 2) := by decide +kernel
theorem dX11_ledge_4 : decode cX11_ledge 4 = .ok (.invokestatic 76, 3) := by decide +kernel
theorem dX11_ledge_7 : decode cX11_ledge 7 = .ok (.ifCond .eq 33, 3) := by decide +kernel
theorem dX11_ledge_10 : decode cX11_ledge 10 = .ok (.iload_n 2, 1) := by decide +kernel
theorem dX11_ledge_11 : decode cX11_ledge 11 = .ok (.iconst 0, 1) := by decide +kernel
theorem dX11_ledge_12 : decode cX11_ledge 12 = .ok (.bipush 30, 2) := by decide +kernel
theorem dX11_ledge_14 : decode cX11_ledge 14 = .ok (.invokestatic 76, 3) := by decide +kernel
theorem dX11_ledge_17 : decode cX11_ledge 17 = .ok (.ifCond .eq 23, 3) := by decide +kernel
theorem dX11_ledge_20 : decode cX11_ledge 20 = .ok (.iload_n 3, 1) := by decide +kernel
theorem dX11_ledge_21 : decode cX11_ledge 21 = .ok (.iconst (-1), 1) := by decide +kernel
theorem dX11_ledge_22 : decode cX11_ledge 22 = .ok (.aload_n 0, 1) := by decide +kernel
theorem dX11_ledge_23 : decode cX11_ledge 23 = .ok (.getfield 32, 3) := by decide +kernel
theorem dX11_ledge_26 : decode cX11_ledge 26 = .ok (.getfield 63, 3) := by decide +kernel
theorem dX11_ledge_29 : decode cX11_ledge 29 = .ok (.getfield 67, 3) := by decide +kernel
theorem dX11_ledge_32 : decode cX11_ledge 32 = .ok (.iconst 1, 1) := by decide +kernel
theorem dX11_ledge_33 : decode cX11_ledge 33 = .ok (.isub, 1) := by decide +kernel
theorem dX11_ledge_34 : decode cX11_ledge 34 = .ok (.invokestatic 76, 3) := by decide +kernel
theorem dX11_ledge_37 : decode cX11_ledge 37 = .ok (.ifCond .ne 10, 3) := by decide +kernel
theorem dX11_ledge_40 : decode cX11_ledge 40 = .ok (.aload_n 0, 1) := by decide +kernel
theorem dX11_ledge_41 : decode cX11_ledge 41 = .ok (.bipush (-2), 2) := by decide +kernel
theorem dX11_ledge_43 : decode cX11_ledge 43 = .ok (.invokevirtual 80, 3) := by decide +kernel
theorem dX11_ledge_46 : decode cX11_ledge 46 = .ok (.ireturn, 1) := by decide +kernel
theorem dX11_ledge_47 : decode cX11_ledge 47 = .ok (.aload_n 0, 1) := by decide +kernel
theorem dX11_ledge_48 : decode cX11_ledge 48 = .ok (.getfield 32, 3) := by decide +kernel
theorem dX11_ledge_51 : decode cX11_ledge 51 = .ok (.getfield 63, 3) := by decide +kernel
theorem dX11_ledge_54 : decode cX11_ledge 54 = .ok (.getfield 67, 3) := by decide +kernel
theorem dX11_ledge_57 : decode cX11_ledge 57 = .ok (.bipush 8, 2) := by decide +kernel
theorem dX11_ledge_59 : decode cX11_ledge 59 = .ok (.if_icmp .lt 8, 3) := by decide +kernel
theorem dX11_ledge_62 : decode cX11_ledge 62 = .ok (.aload_n 0, 1) := by decide +kernel
theorem dX11_ledge_63 : decode cX11_ledge 63 = .ok (.invokevirtual 84, 3) := by decide +kernel
theorem dX11_ledge_66 : decode cX11_ledge 66 = .ok (.ireturn, 1) := by decide +kernel
theorem dX11_ledge_67 : decode cX11_ledge 67 = .ok (.aload_n 0, 1) := by decide +kernel
theorem dX11_ledge_68 : decode cX11_ledge 68 = .ok (.getfield 32, 3) := by decide +kernel
theorem dX11_ledge_71 : decode cX11_ledge 71 = .ok (.iload_n 1, 1) := by decide +kernel
theorem dX11_ledge_72 : decode cX11_ledge 72 = .ok (.iload_n 2, 1) := by decide +kernel
theorem dX11_ledge_73 : decode cX11_ledge 73 = .ok (.iload_n 3, 1) := by decide +kernel
theorem dX11_ledge_74 : decode cX11_ledge 74 = .ok (.invokevirtual 88, 3) := by decide +kernel
theorem dX11_ledge_77 : decode cX11_ledge 77 = .ok (.ireturn, 1) := by decide +kernel
theorem dX11_voter_0 : decode cX11_voter 0 = .ok (.iload_n 1, 1) := by decide +kernel
theorem dX11_voter_1 : decode cX11_voter 1 = .ok (.iconst 0, 1) := by decide +kernel
theorem dX11_voter_2 : decode cX11_voter 2 = .ok (.iconst 5, 1) := by decide +kernel
theorem dX11_voter_3 : decode cX11_voter 3 = .ok (.invokestatic 76, 3) := by decide +kernel
theorem dX11_voter_6 : decode cX11_voter 6 = .ok (.ifCond .eq 21, 3) := by decide +kernel
theorem dX11_voter_9 : decode cX11_voter 9 = .ok (.aload_n 0, 1) := by decide +kernel
theorem dX11_voter_10 : decode cX11_voter 10 = .ok (.iload_n 2, 1) := by decide +kernel
theorem dX11_voter_11 : decode cX11_voter 11 = .ok (.invokevirtual 92, 3) := by decide +kernel
theorem dX11_voter_14 : decode cX11_voter 14 = .ok (.ifCond .eq 13, 3) := by decide +kernel
theorem dX11_voter_17 : decode cX11_voter 17 = .ok (.iload_n 3, 1) := by decide +kernel
theorem dX11_voter_18 : decode cX11_voter 18 = .ok (.iconst 1, 1) := by decide +kernel
theorem dX11_voter_19 : decode cX11_voter 19 = .ok (.bipush 9, 2) := by decide +kernel
theorem dX11_voter_21 : decode cX11_voter 21 = .ok (.invokestatic 76, 3) := by decide +kernel
theorem dX11_voter_24 : decode cX11_voter 24 = .ok (.ifCond .ne 10, 3) := by decide +kernel
theorem dX11_voter_27 : decode cX11_voter 27 = .ok (.aload_n 0, 1) := by decide +kernel
theorem dX11_voter_28 : decode cX11_voter 28 = .ok (.bipush (-2), 2) := by decide +kernel
theorem dX11_voter_30 : decode cX11_voter 30 = .ok (.invokevirtual 80, 3) := by decide +kernel
theorem dX11_voter_33 : decode cX11_voter 33 = .ok (.ireturn, 1) := by decide +kernel
theorem dX11_voter_34 : decode cX11_voter 34 = .ok (.aload_n 0, 1) := by decide +kernel
theorem dX11_voter_35 : decode cX11_voter 35 = .ok (.getfield 32, 3) := by decide +kernel
theorem dX11_voter_38 : decode cX11_voter 38 = .ok (.getfield 63, 3) := by decide +kernel
theorem dX11_voter_41 : decode cX11_voter 41 = .ok (.getfield 96, 3) := by decide +kernel
theorem dX11_voter_44 : decode cX11_voter 44 = .ok (.bipush 6, 2) := by decide +kernel
theorem dX11_voter_46 : decode cX11_voter 46 = .ok (.if_icmp .lt 8, 3) := by decide +kernel
theorem dX11_voter_49 : decode cX11_voter 49 = .ok (.aload_n 0, 1) := by decide +kernel
theorem dX11_voter_50 : decode cX11_voter 50 = .ok (.invokevirtual 84, 3) := by decide +kernel
theorem dX11_voter_53 : decode cX11_voter 53 = .ok (.ireturn, 1) := by decide +kernel
theorem dX11_voter_54 : decode cX11_voter 54 = .ok (.aload_n 0, 1) := by decide +kernel
theorem dX11_voter_55 : decode cX11_voter 55 = .ok (.getfield 32, 3) := by decide +kernel
theorem dX11_voter_58 : decode cX11_voter 58 = .ok (.iload_n 1, 1) := by decide +kernel
theorem dX11_voter_59 : decode cX11_voter 59 = .ok (.iload_n 2, 1) := by decide +kernel
theorem dX11_voter_60 : decode cX11_voter 60 = .ok (.iload_n 3, 1) := by decide +kernel
theorem dX11_voter_61 : decode cX11_voter 61 = .ok (.invokevirtual 99, 3) := by decide +kernel
theorem dX11_voter_64 : decode cX11_voter 64 = .ok (.ireturn, 1) := by decide +kernel
theorem dX11_type_0 : decode cX11_type 0 = .ok (.iload_n 1, 1) := by decide +kernel
theorem dX11_type_1 : decode cX11_type 1 = .ok (.iconst 0, 1) := by decide +kernel
theorem dX11_type_2 : decode cX11_type 2 = .ok (.bipush 127, 2) := by decide +kernel
theorem dX11_type_4 : decode cX11_type 4 = .ok (.invokestatic 76, 3) := by decide +kernel
theorem dX11_type_7 : decode cX11_type 7 = .ok (.ifCond .ne 10, 3) := by decide +kernel
theorem dX11_type_10 : decode cX11_type 10 = .ok (.aload_n 0, 1) := by decide +kernel
theorem dX11_type_11 : decode cX11_type 11 = .ok (.bipush (-2), 2) := by decide +kernel
theorem dX11_type_13 : decode cX11_type 13 = .ok (.invokevirtual 80, 3) := by decide +kernel
theorem dX11_type_16 : decode cX11_type 16 = .ok (.ireturn, 1) := by decide +kernel
theorem dX11_type_17 : decode cX11_type 17 = .ok (.aload_n 0, 1) := by decide +kernel
theorem dX11_type_18 : decode cX11_type 18 = .ok (.getfield 46, 3) := by decide +kernel
theorem dX11_type_21 : decode cX11_type 21 = .ok (.getfield 102, 3) := by decide +kernel
theorem dX11_type_24 : decode cX11_type 24 = .ok (.sipush 150, 3) := by decide +kernel
theorem dX11_type_27 : decode cX11_type 27 = .ok (.if_icmp .lt 8, 3) := by decide +kernel
theorem dX11_type_30 : decode cX11_type 30 = .ok (.aload_n 0, 1) := by decide +kernel
theorem dX11_type_31 : decode cX11_type 31 = .ok (.invokevirtual 84, 3) := by decide +kernel
theorem dX11_type_34 : decode cX11_type 34 = .ok (.ireturn, 1) := by decide +kernel
theorem dX11_type_35 : decode cX11_type 35 = .ok (.aload_n 0, 1) := by decide +kernel
theorem dX11_type_36 : decode cX11_type 36 = .ok (.getfield 46, 3) := by decide +kernel
theorem dX11_type_39 : decode cX11_type 39 = .ok (.iload_n 1, 1) := by decide +kernel
theorem dX11_type_40 : decode cX11_type 40 = .ok (.invokevirtual 105, 3) := by decide +kernel
theorem dX11_type_43 : decode cX11_type 43 = .ok (.aload_n 0, 1) := by decide +kernel
theorem dX11_type_44 : decode cX11_type 44 = .ok (.getfield 46, 3) := by decide +kernel
theorem dX11_type_47 : decode cX11_type 47 = .ok (.getfield 102, 3) := by decide +kernel
theorem dX11_type_50 : decode cX11_type 50 = .ok (.ireturn, 1) := by decide +kernel
theorem dX11_clear_0 : decode cX11_clear 0 = .ok (.aload_n 0, 1) := by decide +kernel
theorem dX11_clear_1 : decode cX11_clear 1 = .ok (.getfield 46, 3) := by decide +kernel
theorem dX11_clear_4 : decode cX11_clear 4 = .ok (.getfield 102, 3) := by decide +kernel
theorem dX11_clear_7 : decode cX11_clear 7 = .ok (.istore_n 1, 1) := by decide +kernel
theorem dX11_clear_8 : decode cX11_clear 8 = .ok (.aload_n 0, 1) := by decide +kernel
theorem dX11_clear_9 : decode cX11_clear 9 = .ok (.getfield 46, 3) := by decide +kernel
theorem dX11_clear_12 : decode cX11_clear 12 = .ok (.iconst 0, 1) := by decide +kernel
theorem dX11_clear_13 : decode cX11_clear 13 = .ok (.putfield 102, 3) := by decide +kernel
theorem dX11_clear_16 : decode cX11_clear 16 = .ok (.iload_n 1, 1) := by decide +kernel
theorem dX11_clear_17 : decode cX11_clear 17 = .ok (.ireturn, 1) := by decide +kernel
theorem dX11_read_0 : decode cX11_read 0 = .ok (.aload_n 0, 1) := by decide +kernel
theorem dX11_read_1 : decode cX11_read 1 = .ok (.getfield 46, 3) := by decide +kernel
theorem dX11_read_4 : decode cX11_read 4 = .ok (.aload_n 0, 1) := by decide +kernel
theorem dX11_read_5 : decode cX11_read 5 = .ok (.getfield 36, 3) := by decide +kernel
theorem dX11_read_8 : decode cX11_read 8 = .ok (.invokevirtual 109, 3) := by decide +kernel
theorem dX11_read_11 : decode cX11_read 11 = .ok (.istore_n 1, 1) := by decide +kernel
theorem dX11_read_12 : decode cX11_read 12 = .ok (.aload_n 0, 1) := by decide +kernel
theorem dX11_read_13 : decode cX11_read 13 = .ok (.getfield 46, 3) := by decide +kernel
theorem dX11_read_16 : decode cX11_read 16 = .ok (.getfield 113, 3) := by decide +kernel
theorem dX11_read_19 : decode cX11_read 19 = .ok (.iconst (-1), 1) := by decide +kernel
theorem dX11_read_20 : decode cX11_read 20 = .ok (.if_icmp .eq 14, 3) := by decide +kernel
theorem dX11_read_23 : decode cX11_read 23 = .ok (.bipush (-10), 2) := by decide +kernel
theorem dX11_read_25 : decode cX11_read 25 = .ok (.aload_n 0, 1) := by decide +kernel
theorem dX11_read_26 : decode cX11_read 26 = .ok (.getfield 46, 3) := by decide +kernel
theorem dX11_read_29 : decode cX11_read 29 = .ok (.getfield 113, 3) := by decide +kernel
theorem dX11_read_32 : decode cX11_read 32 = .ok (.isub, 1) := by decide +kernel
theorem dX11_read_33 : decode cX11_read 33 = .ok (.ireturn, 1) := by decide +kernel
theorem dX11_read_34 : decode cX11_read 34 = .ok (.aload_n 0, 1) := by decide +kernel
theorem dX11_read_35 : decode cX11_read 35 = .ok (.getfield 32, 3) := by decide +kernel
theorem dX11_read_38 : decode cX11_read 38 = .ok (.aload_n 0, 1) := by decide +kernel
theorem dX11_read_39 : decode cX11_read 39 = .ok (.getfield 36, 3) := by decide +kernel
theorem dX11_read_42 : decode cX11_read 42 = .ok (.invokevirtual 116, 3) := by decide +kernel
theorem dX11_read_45 : decode cX11_read 45 = .ok (.iload_n 1, 1) := by decide +kernel
theorem dX11_read_46 : decode cX11_read 46 = .ok (.ireturn, 1) := by decide +kernel
theorem dX11_vote_0 : decode cX11_vote 0 = .ok (.aload_n 0, 1) := by decide +kernel
theorem dX11_vote_1 : decode cX11_vote 1 = .ok (.iload_n 1, 1) := by decide +kernel
theorem dX11_vote_2 : decode cX11_vote 2 = .ok (.invokevirtual 119, 3) := by decide +kernel
theorem dX11_vote_5 : decode cX11_vote 5 = .ok (.ifCond .ne 10, 3) := by decide +kernel
theorem dX11_vote_8 : decode cX11_vote 8 = .ok (.aload_n 0, 1) := by decide +kernel
theorem dX11_vote_9 : decode cX11_vote 9 = .ok (.bipush (-2), 2) := by decide +kernel
theorem dX11_vote_11 : decode cX11_vote 11 = .ok (.invokevirtual 80, 3) := by decide +kernel
theorem dX11_vote_14 : decode cX11_vote 14 = .ok (.ireturn, 1) := by decide +kernel
theorem dX11_vote_15 : decode cX11_vote 15 = .ok (.aload_n 0, 1) := by decide +kernel
theorem dX11_vote_16 : decode cX11_vote 16 = .ok (.getfield 32, 3) := by decide +kernel
theorem dX11_vote_19 : decode cX11_vote 19 = .ok (.invokevirtual 122, 3) := by decide +kernel
theorem dX11_vote_22 : decode cX11_vote 22 = .ok (.aload_n 0, 1) := by decide +kernel
theorem dX11_vote_23 : decode cX11_vote 23 = .ok (.getfield 32, 3) := by decide +kernel
theorem dX11_vote_26 : decode cX11_vote 26 = .ok (.getfield 125, 3) := by decide +kernel
theorem dX11_vote_29 : decode cX11_vote 29 = .ok (.iload_n 1, 1) := by decide +kernel
theorem dX11_vote_30 : decode cX11_vote 30 = .ok (.invokevirtual 129, 3) := by decide +kernel
theorem dX11_vote_33 : decode cX11_vote 33 = .ok (.aload_n 0, 1) := by decide +kernel
theorem dX11_vote_34 : decode cX11_vote 34 = .ok (.getfield 32, 3) := by decide +kernel
theorem dX11_vote_37 : decode cX11_vote 37 = .ok (.getfield 125, 3) := by decide +kernel
theorem dX11_vote_40 : decode cX11_vote 40 = .ok (.getfield 134, 3) := by decide +kernel
theorem dX11_vote_43 : decode cX11_vote 43 = .ok (.ireturn, 1) := by decide +kernel
theorem dX11_night_0 : decode cX11_night 0 = .ok (.iload_n 1, 1) := by decide +kernel
theorem dX11_night_1 : decode cX11_night 1 = .ok (.iconst 1, 1) := by decide +kernel
theorem dX11_night_2 : decode cX11_night 2 = .ok (.bipush 9, 2) := by decide +kernel
theorem dX11_night_4 : decode cX11_night 4 = .ok (.invokestatic 76, 3) := by decide +kernel
theorem dX11_night_7 : decode cX11_night 7 = .ok (.ifCond .ne 10, 3) := by decide +kernel
theorem dX11_night_10 : decode cX11_night 10 = .ok (.aload_n 0, 1) := by decide +kernel
theorem dX11_night_11 : decode cX11_night 11 = .ok (.bipush (-2), 2) := by decide +kernel
theorem dX11_night_13 : decode cX11_night 13 = .ok (.invokevirtual 80, 3) := by decide +kernel
theorem dX11_night_16 : decode cX11_night 16 = .ok (.ireturn, 1) := by decide +kernel
theorem dX11_night_17 : decode cX11_night 17 = .ok (.aload_n 0, 1) := by decide +kernel
theorem dX11_night_18 : decode cX11_night 18 = .ok (.getfield 32, 3) := by decide +kernel
theorem dX11_night_21 : decode cX11_night 21 = .ok (.invokevirtual 122, 3) := by decide +kernel
theorem dX11_night_24 : decode cX11_night 24 = .ok (.aload_n 0, 1) := by decide +kernel
theorem dX11_night_25 : decode cX11_night 25 = .ok (.getfield 32, 3) := by decide +kernel
theorem dX11_night_28 : decode cX11_night 28 = .ok (.getfield 125, 3) := by decide +kernel
theorem dX11_night_31 : decode cX11_night 31 = .ok (.iload_n 1, 1) := by decide +kernel
theorem dX11_night_32 : decode cX11_night 32 = .ok (.invokevirtual 137, 3) := by decide +kernel
theorem dX11_night_35 : decode cX11_night 35 = .ok (.aload_n 0, 1) := by decide +kernel
theorem dX11_night_36 : decode cX11_night 36 = .ok (.getfield 32, 3) := by decide +kernel
theorem dX11_night_39 : decode cX11_night 39 = .ok (.getfield 125, 3) := by decide +kernel
theorem dX11_night_42 : decode cX11_night 42 = .ok (.getfield 134, 3) := by decide +kernel
theorem dX11_night_45 : decode cX11_night 45 = .ok (.ireturn, 1) := by decide +kernel
theorem dX11_undo_0 : decode cX11_undo 0 = .ok (.aload_n 0, 1) := by decide +kernel
theorem dX11_undo_1 : decode cX11_undo 1 = .ok (.getfield 32, 3) := by decide +kernel
theorem dX11_undo_4 : decode cX11_undo 4 = .ok (.getfield 140, 3) := by decide +kernel
theorem dX11_undo_7 : decode cX11_undo 7 = .ok (.ifCond .gt 8, 3) := by decide +kernel
theorem dX11_undo_10 : decode cX11_undo 10 = .ok (.aload_n 0, 1) := by decide +kernel
theorem dX11_undo_11 : decode cX11_undo 11 = .ok (.invokevirtual 143, 3) := by decide +kernel
theorem dX11_undo_14 : decode cX11_undo 14 = .ok (.ireturn, 1) := by decide +kernel
theorem dX11_undo_15 : decode cX11_undo 15 = .ok (.aload_n 0, 1) := by decide +kernel
theorem dX11_undo_16 : decode cX11_undo 16 = .ok (.getfield 32, 3) := by decide +kernel
theorem dX11_undo_19 : decode cX11_undo 19 = .ok (.invokevirtual 146, 3) := by decide +kernel
theorem dX11_undo_22 : decode cX11_undo 22 = .ok (.aload_n 0, 1) := by decide +kernel
theorem dX11_undo_23 : decode cX11_undo 23 = .ok (.getfield 32, 3) := by decide +kernel
theorem dX11_undo_26 : decode cX11_undo 26 = .ok (.getfield 125, 3) := by decide +kernel
theorem dX11_undo_29 : decode cX11_undo 29 = .ok (.getfield 149, 3) := by decide +kernel
theorem dX11_undo_32 : decode cX11_undo 32 = .ok (.ireturn, 1) := by decide +kernel
theorem dX11_of_0 : decode cX11_of 0 = .ok (.aload_n 0, 1) := by decide +kernel
theorem dX11_of_1 : decode cX11_of 1 = .ok (.iload_n 1, 1) := by decide +kernel
theorem dX11_of_2 : decode cX11_of 2 = .ok (.invokevirtual 92, 3) := by decide +kernel
theorem dX11_of_5 : decode cX11_of 5 = .ok (.ifCond .ne 10, 3) := by decide +kernel
theorem dX11_of_8 : decode cX11_of 8 = .ok (.aload_n 0, 1) := by decide +kernel
theorem dX11_of_9 : decode cX11_of 9 = .ok (.bipush (-10), 2) := by decide +kernel
theorem dX11_of_11 : decode cX11_of 11 = .ok (.invokevirtual 80, 3) := by decide +kernel
theorem dX11_of_14 : decode cX11_of 14 = .ok (.ireturn, 1) := by decide +kernel
theorem dX11_of_15 : decode cX11_of 15 = .ok (.iload_n 2, 1) := by decide +kernel
theorem dX11_of_16 : decode cX11_of 16 = .ok (.tableswitch 84 0 3 #[32, 45, 58, 71], 32) := by decide +kernel
theorem dX11_of_48 : decode cX11_of 48 = .ok (.aload_n 0, 1) := by decide +kernel
theorem dX11_of_49 : decode cX11_of 49 = .ok (.getfield 32, 3) := by decide +kernel
theorem dX11_of_52 : decode cX11_of 52 = .ok (.getfield 63, 3) := by decide +kernel
theorem dX11_of_55 : decode cX11_of 55 = .ok (.getfield 152, 3) := by decide +kernel
theorem dX11_of_58 : decode cX11_of 58 = .ok (.iload_n 1, 1) := by decide +kernel
theorem dX11_of_59 : decode cX11_of 59 = .ok (.iaload, 1) := by decide +kernel
theorem dX11_of_60 : decode cX11_of 60 = .ok (.ireturn, 1) := by decide +kernel
theorem dX11_of_61 : decode cX11_of 61 = .ok (.aload_n 0, 1) := by decide +kernel
theorem dX11_of_62 : decode cX11_of 62 = .ok (.getfield 32, 3) := by decide +kernel
theorem dX11_of_65 : decode cX11_of 65 = .ok (.getfield 125, 3) := by decide +kernel
theorem dX11_of_68 : decode cX11_of 68 = .ok (.getfield 156, 3) := by decide +kernel
theorem dX11_of_71 : decode cX11_of 71 = .ok (.iload_n 1, 1) := by decide +kernel
theorem dX11_of_72 : decode cX11_of 72 = .ok (.iaload, 1) := by decide +kernel
theorem dX11_of_73 : decode cX11_of 73 = .ok (.ireturn, 1) := by decide +kernel
theorem dX11_of_74 : decode cX11_of 74 = .ok (.aload_n 0, 1) := by decide +kernel
theorem dX11_of_75 : decode cX11_of 75 = .ok (.getfield 32, 3) := by decide +kernel
theorem dX11_of_78 : decode cX11_of 78 = .ok (.getfield 125, 3) := by decide +kernel
theorem dX11_of_81 : decode cX11_of 81 = .ok (.getfield 159, 3) := by decide +kernel
theorem dX11_of_84 : decode cX11_of 84 = .ok (.iload_n 1, 1) := by decide +kernel
theorem dX11_of_85 : decode cX11_of 85 = .ok (.iaload, 1) := by decide +kernel
theorem dX11_of_86 : decode cX11_of 86 = .ok (.ireturn, 1) := by decide +kernel
theorem dX11_of_87 : decode cX11_of 87 = .ok (.aload_n 0, 1) := by decide +kernel
theorem dX11_of_88 : decode cX11_of 88 = .ok (.getfield 32, 3) := by decide +kernel
theorem dX11_of_91 : decode cX11_of 91 = .ok (.getfield 63, 3) := by decide +kernel
theorem dX11_of_94 : decode cX11_of 94 = .ok (.getfield 162, 3) := by decide +kernel
theorem dX11_of_97 : decode cX11_of 97 = .ok (.iload_n 1, 1) := by decide +kernel
theorem dX11_of_98 : decode cX11_of 98 = .ok (.iaload, 1) := by decide +kernel
theorem dX11_of_99 : decode cX11_of 99 = .ok (.ireturn, 1) := by decide +kernel
theorem dX11_of_100 : decode cX11_of 100 = .ok (.aload_n 0, 1) := by decide +kernel
theorem dX11_of_101 : decode cX11_of 101 = .ok (.bipush (-10), 2) := by decide +kernel
theorem dX11_of_103 : decode cX11_of 103 = .ok (.invokevirtual 80, 3) := by decide +kernel
theorem dX11_of_106 : decode cX11_of 106 = .ok (.ireturn, 1) := by decide +kernel
theorem dX11_about_0 : decode cX11_about 0 = .ok (.aload_n 0, 1) := by decide +kernel
theorem dX11_about_1 : decode cX11_about 1 = .ok (.iload_n 1, 1) := by decide +kernel
theorem dX11_about_2 : decode cX11_about 2 = .ok (.invokevirtual 119, 3) := by decide +kernel
theorem dX11_about_5 : decode cX11_about 5 = .ok (.ifCond .ne 10, 3) := by decide +kernel
theorem dX11_about_8 : decode cX11_about 8 = .ok (.aload_n 0, 1) := by decide +kernel
theorem dX11_about_9 : decode cX11_about 9 = .ok (.bipush (-2), 2) := by decide +kernel
theorem dX11_about_11 : decode cX11_about 11 = .ok (.invokevirtual 80, 3) := by decide +kernel
theorem dX11_about_14 : decode cX11_about 14 = .ok (.ireturn, 1) := by decide +kernel
theorem dX11_about_15 : decode cX11_about 15 = .ok (.iload_n 2, 1) := by decide +kernel
theorem dX11_about_16 : decode cX11_about 16 = .ok (.tableswitch 111 0 4 #[36, 49, 62, 75, 93], 36) := by decide +kernel
theorem dX11_about_52 : decode cX11_about 52 = .ok (.aload_n 0, 1) := by decide +kernel
theorem dX11_about_53 : decode cX11_about 53 = .ok (.getfield 32, 3) := by decide +kernel
theorem dX11_about_56 : decode cX11_about 56 = .ok (.getfield 63, 3) := by decide +kernel
theorem dX11_about_59 : decode cX11_about 59 = .ok (.getfield 165, 3) := by decide +kernel
theorem dX11_about_62 : decode cX11_about 62 = .ok (.iload_n 1, 1) := by decide +kernel
theorem dX11_about_63 : decode cX11_about 63 = .ok (.iaload, 1) := by decide +kernel
theorem dX11_about_64 : decode cX11_about 64 = .ok (.ireturn, 1) := by decide +kernel
theorem dX11_about_65 : decode cX11_about 65 = .ok (.aload_n 0, 1) := by decide +kernel
theorem dX11_about_66 : decode cX11_about 66 = .ok (.getfield 32, 3) := by decide +kernel
theorem dX11_about_69 : decode cX11_about 69 = .ok (.getfield 63, 3) := by decide +kernel
theorem dX11_about_72 : decode cX11_about 72 = .ok (.getfield 168, 3) := by decide +kernel
theorem dX11_about_75 : decode cX11_about 75 = .ok (.iload_n 1, 1) := by decide +kernel
theorem dX11_about_76 : decode cX11_about 76 = .ok (.iaload, 1) := by decide +kernel
theorem dX11_about_77 : decode cX11_about 77 = .ok (.ireturn, 1) := by decide +kernel
theorem dX11_about_78 : decode cX11_about 78 = .ok (.aload_n 0, 1) := by decide +kernel
theorem dX11_about_79 : decode cX11_about 79 = .ok (.getfield 32, 3) := by decide +kernel
theorem dX11_about_82 : decode cX11_about 82 = .ok (.getfield 63, 3) := by decide +kernel
theorem dX11_about_85 : decode cX11_about 85 = .ok (.getfield 171, 3) := by decide +kernel
theorem dX11_about_88 : decode cX11_about 88 = .ok (.iload_n 1, 1) := by decide +kernel
theorem dX11_about_89 : decode cX11_about 89 = .ok (.iaload, 1) := by decide +kernel
theorem dX11_about_90 : decode cX11_about 90 = .ok (.ireturn, 1) := by decide +kernel
theorem dX11_about_91 : decode cX11_about 91 = .ok (.aload_n 0, 1) := by decide +kernel
theorem dX11_about_92 : decode cX11_about 92 = .ok (.aload_n 0, 1) := by decide +kernel
theorem dX11_about_93 : decode cX11_about 93 = .ok (.getfield 32, 3) := by decide +kernel
theorem dX11_about_96 : decode cX11_about 96 = .ok (.getfield 63, 3) := by decide +kernel
theorem dX11_about_99 : decode cX11_about 99 = .ok (.getfield 165, 3) := by decide +kernel
theorem dX11_about_102 : decode cX11_about 102 = .ok (.iload_n 1, 1) := by decide +kernel
theorem dX11_about_103 : decode cX11_about 103 = .ok (.iaload, 1) := by decide +kernel
theorem dX11_about_104 : decode cX11_about 104 = .ok (.iload_n 1, 1) := by decide +kernel
theorem dX11_about_105 : decode cX11_about 105 = .ok (.invokevirtual 174, 3) := by decide +kernel
theorem dX11_about_108 : decode cX11_about 108 = .ok (.ireturn, 1) := by decide +kernel
theorem dX11_about_109 : decode cX11_about 109 = .ok (.aload_n 0, 1) := by decide +kernel
theorem dX11_about_110 : decode cX11_about 110 = .ok (.aload_n 0, 1) := by decide +kernel
theorem dX11_about_111 : decode cX11_about 111 = .ok (.getfield 32, 3) := by decide +kernel
theorem dX11_about_114 : decode cX11_about 114 = .ok (.getfield 63, 3) := by decide +kernel
theorem dX11_about_117 : decode cX11_about 117 = .ok (.getfield 165, 3) := by decide +kernel
theorem dX11_about_120 : decode cX11_about 120 = .ok (.iload_n 1, 1) := by decide +kernel
theorem dX11_about_121 : decode cX11_about 121 = .ok (.iaload, 1) := by decide +kernel
theorem dX11_about_122 : decode cX11_about 122 = .ok (.iload_n 1, 1) := by decide +kernel
theorem dX11_about_123 : decode cX11_about 123 = .ok (.invokevirtual 178, 3) := by decide +kernel
theorem dX11_about_126 : decode cX11_about 126 = .ok (.ireturn, 1) := by decide +kernel
theorem dX11_about_127 : decode cX11_about 127 = .ok (.aload_n 0, 1) := by decide +kernel
theorem dX11_about_128 : decode cX11_about 128 = .ok (.bipush (-2), 2) := by decide +kernel
theorem dX11_about_130 : decode cX11_about 130 = .ok (.invokevirtual 80, 3) := by decide +kernel
theorem dX11_about_133 : decode cX11_about 133 = .ok (.ireturn, 1) := by decide +kernel
theorem dX11_winner_0 : decode cX11_winner 0 = .ok (.aload_n 0, 1) := by decide +kernel
theorem dX11_winner_1 : decode cX11_winner 1 = .ok (.getfield 32, 3) := by decide +kernel
theorem dX11_winner_4 : decode cX11_winner 4 = .ok (.getfield 125, 3) := by decide +kernel
theorem dX11_winner_7 : decode cX11_winner 7 = .ok (.getfield 181, 3) := by decide +kernel
theorem dX11_winner_10 : decode cX11_winner 10 = .ok (.ireturn, 1) := by decide +kernel
theorem dX11_coalition_0 : decode cX11_coalition 0 = .ok (.aload_n 0, 1) := by decide +kernel
theorem dX11_coalition_1 : decode cX11_coalition 1 = .ok (.getfield 32, 3) := by decide +kernel
theorem dX11_coalition_4 : decode cX11_coalition 4 = .ok (.getfield 125, 3) := by decide +kernel
theorem dX11_coalition_7 : decode cX11_coalition 7 = .ok (.getfield 184, 3) := by decide +kernel
theorem dX11_coalition_10 : decode cX11_coalition 10 = .ok (.ireturn, 1) := by decide +kernel
theorem dX11_february_0 : decode cX11_february 0 = .ok (.iload_n 1, 1) := by decide +kernel
theorem dX11_february_1 : decode cX11_february 1 = .ok (.iconst 0, 1) := by decide +kernel
theorem dX11_february_2 : decode cX11_february 2 = .ok (.iconst 1, 1) := by decide +kernel
theorem dX11_february_3 : decode cX11_february 3 = .ok (.invokestatic 76, 3) := by decide +kernel
theorem dX11_february_6 : decode cX11_february 6 = .ok (.ifCond .ne 10, 3) := by decide +kernel
theorem dX11_february_9 : decode cX11_february 9 = .ok (.aload_n 0, 1) := by decide +kernel
theorem dX11_february_10 : decode cX11_february 10 = .ok (.bipush (-2), 2) := by decide +kernel
theorem dX11_february_12 : decode cX11_february 12 = .ok (.invokevirtual 80, 3) := by decide +kernel
theorem dX11_february_15 : decode cX11_february 15 = .ok (.ireturn, 1) := by decide +kernel
theorem dX11_february_16 : decode cX11_february 16 = .ok (.aload_n 0, 1) := by decide +kernel
theorem dX11_february_17 : decode cX11_february 17 = .ok (.getfield 55, 3) := by decide +kernel
theorem dX11_february_20 : decode cX11_february 20 = .ok (.invokevirtual 187, 3) := by decide +kernel
theorem dX11_february_23 : decode cX11_february 23 = .ok (.astore_n 2, 1) := by decide +kernel
theorem dX11_february_24 : decode cX11_february 24 = .ok (.iload_n 1, 1) := by decide +kernel
theorem dX11_february_25 : decode cX11_february 25 = .ok (.ifCond .ne 10, 3) := by decide +kernel
theorem dX11_february_28 : decode cX11_february 28 = .ok (.aload_n 2, 1) := by decide +kernel
theorem dX11_february_29 : decode cX11_february 29 = .ok (.getfield 181, 3) := by decide +kernel
theorem dX11_february_32 : decode cX11_february 32 = .ok (.goto 7, 3) := by decide +kernel
theorem dX11_february_35 : decode cX11_february 35 = .ok (.aload_n 2, 1) := by decide +kernel
theorem dX11_february_36 : decode cX11_february 36 = .ok (.getfield 184, 3) := by decide +kernel
theorem dX11_february_39 : decode cX11_february 39 = .ok (.ireturn, 1) := by decide +kernel
theorem dX11_orders_0 : decode cX11_orders 0 = .ok (.aload_n 0, 1) := by decide +kernel
theorem dX11_orders_1 : decode cX11_orders 1 = .ok (.iload_n 1, 1) := by decide +kernel
theorem dX11_orders_2 : decode cX11_orders 2 = .ok (.invokevirtual 92, 3) := by decide +kernel
theorem dX11_orders_5 : decode cX11_orders 5 = .ok (.ifCond .eq 8, 3) := by decide +kernel
theorem dX11_orders_8 : decode cX11_orders 8 = .ok (.iload_n 2, 1) := by decide +kernel
theorem dX11_orders_9 : decode cX11_orders 9 = .ok (.iconst (-1), 1) := by decide +kernel
theorem dX11_orders_10 : decode cX11_orders 10 = .ok (.if_icmp .ge 10, 3) := by decide +kernel
theorem dX11_orders_13 : decode cX11_orders 13 = .ok (.aload_n 0, 1) := by decide +kernel
theorem dX11_orders_14 : decode cX11_orders 14 = .ok (.bipush (-10), 2) := by decide +kernel
theorem dX11_orders_16 : decode cX11_orders 16 = .ok (.invokevirtual 80, 3) := by decide +kernel
theorem dX11_orders_19 : decode cX11_orders 19 = .ok (.ireturn, 1) := by decide +kernel
theorem dX11_orders_20 : decode cX11_orders 20 = .ok (.aload_n 0, 1) := by decide +kernel
theorem dX11_orders_21 : decode cX11_orders 21 = .ok (.getfield 32, 3) := by decide +kernel
theorem dX11_orders_24 : decode cX11_orders 24 = .ok (.getfield 125, 3) := by decide +kernel
theorem dX11_orders_27 : decode cX11_orders 27 = .ok (.getfield 181, 3) := by decide +kernel
theorem dX11_orders_30 : decode cX11_orders 30 = .ok (.iconst (-1), 1) := by decide +kernel
theorem dX11_orders_31 : decode cX11_orders 31 = .ok (.if_icmp .eq 8, 3) := by decide +kernel
theorem dX11_orders_34 : decode cX11_orders 34 = .ok (.aload_n 0, 1) := by decide +kernel
theorem dX11_orders_35 : decode cX11_orders 35 = .ok (.invokevirtual 143, 3) := by decide +kernel
theorem dX11_orders_38 : decode cX11_orders 38 = .ok (.ireturn, 1) := by decide +kernel
theorem dX11_orders_39 : decode cX11_orders 39 = .ok (.aload_n 0, 1) := by decide +kernel
theorem dX11_orders_40 : decode cX11_orders 40 = .ok (.getfield 55, 3) := by decide +kernel
theorem dX11_orders_43 : decode cX11_orders 43 = .ok (.iload_n 1, 1) := by decide +kernel
theorem dX11_orders_44 : decode cX11_orders 44 = .ok (.invokevirtual 191, 3) := by decide +kernel
theorem dX11_orders_47 : decode cX11_orders 47 = .ok (.istore_n 3, 1) := by decide +kernel
theorem dX11_orders_48 : decode cX11_orders 48 = .ok (.iload_n 2, 1) := by decide +kernel
theorem dX11_orders_49 : decode cX11_orders 49 = .ok (.iconst (-1), 1) := by decide +kernel
theorem dX11_orders_50 : decode cX11_orders 50 = .ok (.if_icmp .ne 5, 3) := by decide +kernel
theorem dX11_orders_53 : decode cX11_orders 53 = .ok (.iload_n 3, 1) := by decide +kernel
theorem dX11_orders_54 : decode cX11_orders 54 = .ok (.ireturn, 1) := by decide +kernel
theorem dX11_orders_55 : decode cX11_orders 55 = .ok (.iload_n 3, 1) := by decide +kernel
theorem dX11_orders_56 : decode cX11_orders 56 = .ok (.ifCond .ne 5, 3) := by decide +kernel
theorem dX11_orders_59 : decode cX11_orders 59 = .ok (.iconst (-1), 1) := by decide +kernel
theorem dX11_orders_60 : decode cX11_orders 60 = .ok (.ireturn, 1) := by decide +kernel
theorem dX11_orders_61 : decode cX11_orders 61 = .ok (.iload_n 2, 1) := by decide +kernel
theorem dX11_orders_62 : decode cX11_orders 62 = .ok (.aload_n 0, 1) := by decide +kernel
theorem dX11_orders_63 : decode cX11_orders 63 = .ok (.getfield 32, 3) := by decide +kernel
theorem dX11_orders_66 : decode cX11_orders 66 = .ok (.getfield 63, 3) := by decide +kernel
theorem dX11_orders_69 : decode cX11_orders 69 = .ok (.getfield 96, 3) := by decide +kernel
theorem dX11_orders_72 : decode cX11_orders 72 = .ok (.if_icmp .ge 21, 3) := by decide +kernel
theorem dX11_orders_75 : decode cX11_orders 75 = .ok (.iload_n 2, 1) := by decide +kernel
theorem dX11_orders_76 : decode cX11_orders 76 = .ok (.bipush 6, 2) := by decide +kernel
theorem dX11_orders_78 : decode cX11_orders 78 = .ok (.if_icmp .ge 15, 3) := by decide +kernel
theorem dX11_orders_81 : decode cX11_orders 81 = .ok (.aload_n 0, 1) := by decide +kernel
theorem dX11_orders_82 : decode cX11_orders 82 = .ok (.getfield 55, 3) := by decide +kernel
theorem dX11_orders_85 : decode cX11_orders 85 = .ok (.getfield 194, 3) := by decide +kernel
theorem dX11_orders_88 : decode cX11_orders 88 = .ok (.iload_n 2, 1) := by decide +kernel
theorem dX11_orders_89 : decode cX11_orders 89 = .ok (.iaload, 1) := by decide +kernel
theorem dX11_orders_90 : decode cX11_orders 90 = .ok (.goto 5, 3) := by decide +kernel
theorem dX11_orders_93 : decode cX11_orders 93 = .ok (.bipush (-5), 2) := by decide +kernel
theorem dX11_orders_95 : decode cX11_orders 95 = .ok (.ireturn, 1) := by decide +kernel
theorem dX11_stones_0 : decode cX11_stones 0 = .ok (.aload_n 0, 1) := by decide +kernel
theorem dX11_stones_1 : decode cX11_stones 1 = .ok (.iload_n 1, 1) := by decide +kernel
theorem dX11_stones_2 : decode cX11_stones 2 = .ok (.invokevirtual 92, 3) := by decide +kernel
theorem dX11_stones_5 : decode cX11_stones 5 = .ok (.ifCond .eq 12, 3) := by decide +kernel
theorem dX11_stones_8 : decode cX11_stones 8 = .ok (.iload_n 2, 1) := by decide +kernel
theorem dX11_stones_9 : decode cX11_stones 9 = .ok (.iconst 0, 1) := by decide +kernel
theorem dX11_stones_10 : decode cX11_stones 10 = .ok (.iconst 1, 1) := by decide +kernel
theorem dX11_stones_11 : decode cX11_stones 11 = .ok (.invokestatic 76, 3) := by decide +kernel
theorem dX11_stones_14 : decode cX11_stones 14 = .ok (.ifCond .ne 10, 3) := by decide +kernel
theorem dX11_stones_17 : decode cX11_stones 17 = .ok (.aload_n 0, 1) := by decide +kernel
theorem dX11_stones_18 : decode cX11_stones 18 = .ok (.bipush (-2), 2) := by decide +kernel
theorem dX11_stones_20 : decode cX11_stones 20 = .ok (.invokevirtual 80, 3) := by decide +kernel
theorem dX11_stones_23 : decode cX11_stones 23 = .ok (.ireturn, 1) := by decide +kernel
theorem dX11_stones_24 : decode cX11_stones 24 = .ok (.aload_n 0, 1) := by decide +kernel
theorem dX11_stones_25 : decode cX11_stones 25 = .ok (.getfield 55, 3) := by decide +kernel
theorem dX11_stones_28 : decode cX11_stones 28 = .ok (.iload_n 1, 1) := by decide +kernel
theorem dX11_stones_29 : decode cX11_stones 29 = .ok (.invokevirtual 197, 3) := by decide +kernel
theorem dX11_stones_32 : decode cX11_stones 32 = .ok (.istore_n 3, 1) := by decide +kernel
theorem dX11_stones_33 : decode cX11_stones 33 = .ok (.iload_n 2, 1) := by decide +kernel
theorem dX11_stones_34 : decode cX11_stones 34 = .ok (.ifCond .ne 7, 3) := by decide +kernel
theorem dX11_stones_37 : decode cX11_stones 37 = .ok (.iload_n 3, 1) := by decide +kernel
theorem dX11_stones_38 : decode cX11_stones 38 = .ok (.goto 10, 3) := by decide +kernel
theorem dX11_stones_41 : decode cX11_stones 41 = .ok (.aload_n 0, 1) := by decide +kernel
theorem dX11_stones_42 : decode cX11_stones 42 = .ok (.getfield 55, 3) := by decide +kernel
theorem dX11_stones_45 : decode cX11_stones 45 = .ok (.getfield 200, 3) := by decide +kernel
theorem dX11_stones_48 : decode cX11_stones 48 = .ok (.ireturn, 1) := by decide +kernel
theorem dX11_buried_0 : decode cX11_buried 0 = .ok (.aload_n 0, 1) := by decide +kernel
theorem dX11_buried_1 : decode cX11_buried 1 = .ok (.iload_n 1, 1) := by decide +kernel
theorem dX11_buried_2 : decode cX11_buried 2 = .ok (.invokevirtual 92, 3) := by decide +kernel
theorem dX11_buried_5 : decode cX11_buried 5 = .ok (.ifCond .eq 13, 3) := by decide +kernel
theorem dX11_buried_8 : decode cX11_buried 8 = .ok (.iload_n 2, 1) := by decide +kernel
theorem dX11_buried_9 : decode cX11_buried 9 = .ok (.iconst 1, 1) := by decide +kernel
theorem dX11_buried_10 : decode cX11_buried 10 = .ok (.bipush 20, 2) := by decide +kernel
theorem dX11_buried_12 : decode cX11_buried 12 = .ok (.invokestatic 76, 3) := by decide +kernel
theorem dX11_buried_15 : decode cX11_buried 15 = .ok (.ifCond .ne 10, 3) := by decide +kernel
theorem dX11_buried_18 : decode cX11_buried 18 = .ok (.aload_n 0, 1) := by decide +kernel
theorem dX11_buried_19 : decode cX11_buried 19 = .ok (.bipush (-2), 2) := by decide +kernel
theorem dX11_buried_21 : decode cX11_buried 21 = .ok (.invokevirtual 80, 3) := by decide +kernel
theorem dX11_buried_24 : decode cX11_buried 24 = .ok (.ireturn, 1) := by decide +kernel
theorem dX11_buried_25 : decode cX11_buried 25 = .ok (.aload_n 0, 1) := by decide +kernel
theorem dX11_buried_26 : decode cX11_buried 26 = .ok (.getfield 55, 3) := by decide +kernel
theorem dX11_buried_29 : decode cX11_buried 29 = .ok (.iload_n 1, 1) := by decide +kernel
theorem dX11_buried_30 : decode cX11_buried 30 = .ok (.iload_n 2, 1) := by decide +kernel
theorem dX11_buried_31 : decode cX11_buried 31 = .ok (.invokevirtual 203, 3) := by decide +kernel
theorem dX11_buried_34 : decode cX11_buried 34 = .ok (.ireturn, 1) := by decide +kernel
theorem dX11_nights_0 : decode cX11_nights 0 = .ok (.aload_n 0, 1) := by decide +kernel
theorem dX11_nights_1 : decode cX11_nights 1 = .ok (.iload_n 1, 1) := by decide +kernel
theorem dX11_nights_2 : decode cX11_nights 2 = .ok (.invokevirtual 92, 3) := by decide +kernel
theorem dX11_nights_5 : decode cX11_nights 5 = .ok (.ifCond .eq 13, 3) := by decide +kernel
theorem dX11_nights_8 : decode cX11_nights 8 = .ok (.iload_n 2, 1) := by decide +kernel
theorem dX11_nights_9 : decode cX11_nights 9 = .ok (.iconst 1, 1) := by decide +kernel
theorem dX11_nights_10 : decode cX11_nights 10 = .ok (.bipush 9, 2) := by decide +kernel
theorem dX11_nights_12 : decode cX11_nights 12 = .ok (.invokestatic 76, 3) := by decide +kernel
theorem dX11_nights_15 : decode cX11_nights 15 = .ok (.ifCond .ne 10, 3) := by decide +kernel
theorem dX11_nights_18 : decode cX11_nights 18 = .ok (.aload_n 0, 1) := by decide +kernel
theorem dX11_nights_19 : decode cX11_nights 19 = .ok (.bipush (-2), 2) := by decide +kernel
theorem dX11_nights_21 : decode cX11_nights 21 = .ok (.invokevirtual 80, 3) := by decide +kernel
theorem dX11_nights_24 : decode cX11_nights 24 = .ok (.ireturn, 1) := by decide +kernel
theorem dX11_nights_25 : decode cX11_nights 25 = .ok (.aload_n 0, 1) := by decide +kernel
theorem dX11_nights_26 : decode cX11_nights 26 = .ok (.getfield 55, 3) := by decide +kernel
theorem dX11_nights_29 : decode cX11_nights 29 = .ok (.iload_n 1, 1) := by decide +kernel
theorem dX11_nights_30 : decode cX11_nights 30 = .ok (.iload_n 2, 1) := by decide +kernel
theorem dX11_nights_31 : decode cX11_nights 31 = .ok (.invokevirtual 206, 3) := by decide +kernel
theorem dX11_nights_34 : decode cX11_nights 34 = .ok (.ireturn, 1) := by decide +kernel
theorem dX11_parties_0 : decode cX11_parties 0 = .ok (.aload_n 0, 1) := by decide +kernel
theorem dX11_parties_1 : decode cX11_parties 1 = .ok (.iload_n 1, 1) := by decide +kernel
theorem dX11_parties_2 : decode cX11_parties 2 = .ok (.invokevirtual 92, 3) := by decide +kernel
theorem dX11_parties_5 : decode cX11_parties 5 = .ok (.ifCond .eq 35, 3) := by decide +kernel
theorem dX11_parties_8 : decode cX11_parties 8 = .ok (.aload_n 0, 1) := by decide +kernel
theorem dX11_parties_9 : decode cX11_parties 9 = .ok (.iload_n 2, 1) := by decide +kernel
theorem dX11_parties_10 : decode cX11_parties 10 = .ok (.invokevirtual 92, 3) := by decide +kernel
theorem dX11_parties_13 : decode cX11_parties 13 = .ok (.ifCond .eq 27, 3) := by decide +kernel
theorem dX11_parties_16 : decode cX11_parties 16 = .ok (.iload_n 1, 1) := by decide +kernel
theorem dX11_parties_17 : decode cX11_parties 17 = .ok (.iload_n 2, 1) := by decide +kernel
theorem dX11_parties_18 : decode cX11_parties 18 = .ok (.if_icmp .eq 22, 3) := by decide +kernel
theorem dX11_parties_21 : decode cX11_parties 21 = .ok (.iload_n 3, 1) := by decide +kernel
theorem dX11_parties_22 : decode cX11_parties 22 = .ok (.iconst 1, 1) := by decide +kernel
theorem dX11_parties_23 : decode cX11_parties 23 = .ok (.iconst 4, 1) := by decide +kernel
theorem dX11_parties_24 : decode cX11_parties 24 = .ok (.invokestatic 76, 3) := by decide +kernel
theorem dX11_parties_27 : decode cX11_parties 27 = .ok (.ifCond .eq 13, 3) := by decide +kernel
theorem dX11_parties_30 : decode cX11_parties 30 = .ok (.iload 4, 2) := by decide +kernel
theorem dX11_parties_32 : decode cX11_parties 32 = .ok (.iconst 0, 1) := by decide +kernel
theorem dX11_parties_33 : decode cX11_parties 33 = .ok (.iconst 1, 1) := by decide +kernel
theorem dX11_parties_34 : decode cX11_parties 34 = .ok (.invokestatic 76, 3) := by decide +kernel
theorem dX11_parties_37 : decode cX11_parties 37 = .ok (.ifCond .ne 10, 3) := by decide +kernel
theorem dX11_parties_40 : decode cX11_parties 40 = .ok (.aload_n 0, 1) := by decide +kernel
theorem dX11_parties_41 : decode cX11_parties 41 = .ok (.bipush (-10), 2) := by decide +kernel
theorem dX11_parties_43 : decode cX11_parties 43 = .ok (.invokevirtual 80, 3) := by decide +kernel
theorem dX11_parties_46 : decode cX11_parties 46 = .ok (.ireturn, 1) := by decide +kernel
theorem dX11_parties_47 : decode cX11_parties 47 = .ok (.aload_n 0, 1) := by decide +kernel
theorem dX11_parties_48 : decode cX11_parties 48 = .ok (.getfield 55, 3) := by decide +kernel
theorem dX11_parties_51 : decode cX11_parties 51 = .ok (.iload_n 1, 1) := by decide +kernel
theorem dX11_parties_52 : decode cX11_parties 52 = .ok (.iload_n 2, 1) := by decide +kernel
theorem dX11_parties_53 : decode cX11_parties 53 = .ok (.iload_n 3, 1) := by decide +kernel
theorem dX11_parties_54 : decode cX11_parties 54 = .ok (.invokevirtual 209, 3) := by decide +kernel
theorem dX11_parties_57 : decode cX11_parties 57 = .ok (.istore 5, 2) := by decide +kernel
theorem dX11_parties_59 : decode cX11_parties 59 = .ok (.iload 4, 2) := by decide +kernel
theorem dX11_parties_61 : decode cX11_parties 61 = .ok (.ifCond .ne 8, 3) := by decide +kernel
theorem dX11_parties_64 : decode cX11_parties 64 = .ok (.iload 5, 2) := by decide +kernel
theorem dX11_parties_66 : decode cX11_parties 66 = .ok (.goto 10, 3) := by decide +kernel
theorem dX11_parties_69 : decode cX11_parties 69 = .ok (.aload_n 0, 1) := by decide +kernel
theorem dX11_parties_70 : decode cX11_parties 70 = .ok (.getfield 55, 3) := by decide +kernel
theorem dX11_parties_73 : decode cX11_parties 73 = .ok (.getfield 200, 3) := by decide +kernel
theorem dX11_parties_76 : decode cX11_parties 76 = .ok (.ireturn, 1) := by decide +kernel
theorem dX11_seen_0 : decode cX11_seen 0 = .ok (.iload_n 1, 1) := by decide +kernel
theorem dX11_seen_1 : decode cX11_seen 1 = .ok (.iconst 0, 1) := by decide +kernel
theorem dX11_seen_2 : decode cX11_seen 2 = .ok (.bipush 99, 2) := by decide +kernel
theorem dX11_seen_4 : decode cX11_seen 4 = .ok (.invokestatic 76, 3) := by decide +kernel
theorem dX11_seen_7 : decode cX11_seen 7 = .ok (.ifCond .eq 12, 3) := by decide +kernel
theorem dX11_seen_10 : decode cX11_seen 10 = .ok (.iload_n 2, 1) := by decide +kernel
theorem dX11_seen_11 : decode cX11_seen 11 = .ok (.iconst 0, 1) := by decide +kernel
theorem dX11_seen_12 : decode cX11_seen 12 = .ok (.iconst 1, 1) := by decide +kernel
theorem dX11_seen_13 : decode cX11_seen 13 = .ok (.invokestatic 76, 3) := by decide +kernel
theorem dX11_seen_16 : decode cX11_seen 16 = .ok (.ifCond .ne 10, 3) := by decide +kernel
theorem dX11_seen_19 : decode cX11_seen 19 = .ok (.aload_n 0, 1) := by decide +kernel
theorem dX11_seen_20 : decode cX11_seen 20 = .ok (.bipush (-2), 2) := by decide +kernel
theorem dX11_seen_22 : decode cX11_seen 22 = .ok (.invokevirtual 80, 3) := by decide +kernel
theorem dX11_seen_25 : decode cX11_seen 25 = .ok (.ireturn, 1) := by decide +kernel
theorem dX11_seen_26 : decode cX11_seen 26 = .ok (.aload_n 0, 1) := by decide +kernel
theorem dX11_seen_27 : decode cX11_seen 27 = .ok (.getfield 32, 3) := by decide +kernel
theorem dX11_seen_30 : decode cX11_seen 30 = .ok (.getfield 212, 3) := by decide +kernel
theorem dX11_seen_33 : decode cX11_seen 33 = .ok (.bipush 6, 2) := by decide +kernel
theorem dX11_seen_35 : decode cX11_seen 35 = .ok (.if_icmp .lt 8, 3) := by decide +kernel
theorem dX11_seen_38 : decode cX11_seen 38 = .ok (.aload_n 0, 1) := by decide +kernel
theorem dX11_seen_39 : decode cX11_seen 39 = .ok (.invokevirtual 84, 3) := by decide +kernel
theorem dX11_seen_42 : decode cX11_seen 42 = .ok (.ireturn, 1) := by decide +kernel
theorem dX11_seen_43 : decode cX11_seen 43 = .ok (.aload_n 0, 1) := by decide +kernel
theorem dX11_seen_44 : decode cX11_seen 44 = .ok (.getfield 32, 3) := by decide +kernel
theorem dX11_seen_47 : decode cX11_seen 47 = .ok (.iload_n 1, 1) := by decide +kernel
theorem dX11_seen_48 : decode cX11_seen 48 = .ok (.iload_n 2, 1) := by decide +kernel
theorem dX11_seen_49 : decode cX11_seen 49 = .ok (.invokevirtual 215, 3) := by decide +kernel
theorem dX11_seen_52 : decode cX11_seen 52 = .ok (.ireturn, 1) := by decide +kernel
theorem dX11_forget_0 : decode cX11_forget 0 = .ok (.aload_n 0, 1) := by decide +kernel
theorem dX11_forget_1 : decode cX11_forget 1 = .ok (.getfield 32, 3) := by decide +kernel
theorem dX11_forget_4 : decode cX11_forget 4 = .ok (.getfield 212, 3) := by decide +kernel
theorem dX11_forget_7 : decode cX11_forget 7 = .ok (.istore_n 1, 1) := by decide +kernel
theorem dX11_forget_8 : decode cX11_forget 8 = .ok (.aload_n 0, 1) := by decide +kernel
theorem dX11_forget_9 : decode cX11_forget 9 = .ok (.getfield 32, 3) := by decide +kernel
theorem dX11_forget_12 : decode cX11_forget 12 = .ok (.iconst 0, 1) := by decide +kernel
theorem dX11_forget_13 : decode cX11_forget 13 = .ok (.putfield 212, 3) := by decide +kernel
theorem dX11_forget_16 : decode cX11_forget 16 = .ok (.iload_n 1, 1) := by decide +kernel
theorem dX11_forget_17 : decode cX11_forget 17 = .ok (.ireturn, 1) := by decide +kernel
theorem dX11_hold_0 : decode cX11_hold 0 = .ok (.iload_n 1, 1) := by decide +kernel
theorem dX11_hold_1 : decode cX11_hold 1 = .ok (.iconst 0, 1) := by decide +kernel
theorem dX11_hold_2 : decode cX11_hold 2 = .ok (.iconst 1, 1) := by decide +kernel
theorem dX11_hold_3 : decode cX11_hold 3 = .ok (.invokestatic 76, 3) := by decide +kernel
theorem dX11_hold_6 : decode cX11_hold 6 = .ok (.ifCond .ne 10, 3) := by decide +kernel
theorem dX11_hold_9 : decode cX11_hold 9 = .ok (.aload_n 0, 1) := by decide +kernel
theorem dX11_hold_10 : decode cX11_hold 10 = .ok (.bipush (-10), 2) := by decide +kernel
theorem dX11_hold_12 : decode cX11_hold 12 = .ok (.invokevirtual 80, 3) := by decide +kernel
theorem dX11_hold_15 : decode cX11_hold 15 = .ok (.ireturn, 1) := by decide +kernel
theorem dX11_hold_16 : decode cX11_hold 16 = .ok (.aload_n 0, 1) := by decide +kernel
theorem dX11_hold_17 : decode cX11_hold 17 = .ok (.getfield 32, 3) := by decide +kernel
theorem dX11_hold_20 : decode cX11_hold 20 = .ok (.invokevirtual 218, 3) := by decide +kernel
theorem dX11_hold_23 : decode cX11_hold 23 = .ok (.istore_n 2, 1) := by decide +kernel
theorem dX11_hold_24 : decode cX11_hold 24 = .ok (.iload_n 2, 1) := by decide +kernel
theorem dX11_hold_25 : decode cX11_hold 25 = .ok (.aload_n 0, 1) := by decide +kernel
theorem dX11_hold_26 : decode cX11_hold 26 = .ok (.getfield 32, 3) := by decide +kernel
theorem dX11_hold_29 : decode cX11_hold 29 = .ok (.invokevirtual 221, 3) := by decide +kernel
theorem dX11_hold_32 : decode cX11_hold 32 = .ok (.invokestatic 224, 3) := by decide +kernel
theorem dX11_hold_35 : decode cX11_hold 35 = .ok (.istore_n 3, 1) := by decide +kernel
theorem dX11_hold_36 : decode cX11_hold 36 = .ok (.iload_n 1, 1) := by decide +kernel
theorem dX11_hold_37 : decode cX11_hold 37 = .ok (.ifCond .ne 5, 3) := by decide +kernel
theorem dX11_hold_40 : decode cX11_hold 40 = .ok (.iload_n 3, 1) := by decide +kernel
theorem dX11_hold_41 : decode cX11_hold 41 = .ok (.ireturn, 1) := by decide +kernel
theorem dX11_hold_42 : decode cX11_hold 42 = .ok (.iload_n 3, 1) := by decide +kernel
theorem dX11_hold_43 : decode cX11_hold 43 = .ok (.ifCond .le 7, 3) := by decide +kernel
theorem dX11_hold_46 : decode cX11_hold 46 = .ok (.iload_n 2, 1) := by decide +kernel
theorem dX11_hold_47 : decode cX11_hold 47 = .ok (.goto 4, 3) := by decide +kernel
theorem dX11_hold_50 : decode cX11_hold 50 = .ok (.iconst (-1), 1) := by decide +kernel
theorem dX11_hold_51 : decode cX11_hold 51 = .ok (.ireturn, 1) := by decide +kernel
theorem dX11_stick_0 : decode cX11_stick 0 = .ok (.aload_n 0, 1) := by decide +kernel
theorem dX11_stick_1 : decode cX11_stick 1 = .ok (.getfield 32, 3) := by decide +kernel
theorem dX11_stick_4 : decode cX11_stick 4 = .ok (.invokevirtual 218, 3) := by decide +kernel
theorem dX11_stick_7 : decode cX11_stick 7 = .ok (.istore_n 1, 1) := by decide +kernel
theorem dX11_stick_8 : decode cX11_stick 8 = .ok (.aload_n 0, 1) := by decide +kernel
theorem dX11_stick_9 : decode cX11_stick 9 = .ok (.getfield 32, 3) := by decide +kernel
theorem dX11_stick_12 : decode cX11_stick 12 = .ok (.invokevirtual 221, 3) := by decide +kernel
theorem dX11_stick_15 : decode cX11_stick 15 = .ok (.istore_n 2, 1) := by decide +kernel
theorem dX11_stick_16 : decode cX11_stick 16 = .ok (.iload_n 1, 1) := by decide +kernel
theorem dX11_stick_17 : decode cX11_stick 17 = .ok (.iload_n 2, 1) := by decide +kernel
theorem dX11_stick_18 : decode cX11_stick 18 = .ok (.invokestatic 224, 3) := by decide +kernel
theorem dX11_stick_21 : decode cX11_stick 21 = .ok (.istore_n 3, 1) := by decide +kernel
theorem dX11_stick_22 : decode cX11_stick 22 = .ok (.iload_n 3, 1) := by decide +kernel
theorem dX11_stick_23 : decode cX11_stick 23 = .ok (.ifCond .ne 5, 3) := by decide +kernel
theorem dX11_stick_26 : decode cX11_stick 26 = .ok (.iconst (-1), 1) := by decide +kernel
theorem dX11_stick_27 : decode cX11_stick 27 = .ok (.ireturn, 1) := by decide +kernel
theorem dX11_stick_28 : decode cX11_stick 28 = .ok (.iconst 0, 1) := by decide +kernel
theorem dX11_stick_29 : decode cX11_stick 29 = .ok (.istore 4, 2) := by decide +kernel
theorem dX11_stick_31 : decode cX11_stick 31 = .ok (.iload_n 3, 1) := by decide +kernel
theorem dX11_stick_32 : decode cX11_stick 32 = .ok (.istore 5, 2) := by decide +kernel
theorem dX11_stick_34 : decode cX11_stick 34 = .ok (.iconst 0, 1) := by decide +kernel
theorem dX11_stick_35 : decode cX11_stick 35 = .ok (.istore 6, 2) := by decide +kernel
theorem dX11_stick_37 : decode cX11_stick 37 = .ok (.iload 6, 2) := by decide +kernel
theorem dX11_stick_39 : decode cX11_stick 39 = .ok (.bipush 60, 2) := by decide +kernel
theorem dX11_stick_41 : decode cX11_stick 41 = .ok (.if_icmp .gt 47, 3) := by decide +kernel
theorem dX11_stick_44 : decode cX11_stick 44 = .ok (.iload_n 1, 1) := by decide +kernel
theorem dX11_stick_45 : decode cX11_stick 45 = .ok (.iload 6, 2) := by decide +kernel
theorem dX11_stick_47 : decode cX11_stick 47 = .ok (.invokestatic 227, 3) := by decide +kernel
theorem dX11_stick_50 : decode cX11_stick 50 = .ok (.iload_n 2, 1) := by decide +kernel
theorem dX11_stick_51 : decode cX11_stick 51 = .ok (.invokestatic 224, 3) := by decide +kernel
theorem dX11_stick_54 : decode cX11_stick 54 = .ok (.istore 7, 2) := by decide +kernel
theorem dX11_stick_56 : decode cX11_stick 56 = .ok (.iload 7, 2) := by decide +kernel
theorem dX11_stick_58 : decode cX11_stick 58 = .ok (.iload_n 3, 1) := by decide +kernel
theorem dX11_stick_59 : decode cX11_stick 59 = .ok (.iload 7, 2) := by decide +kernel
theorem dX11_stick_61 : decode cX11_stick 61 = .ok (.isub, 1) := by decide +kernel
theorem dX11_stick_62 : decode cX11_stick 62 = .ok (.invokestatic 227, 3) := by decide +kernel
theorem dX11_stick_65 : decode cX11_stick 65 = .ok (.istore 8, 2) := by decide +kernel
theorem dX11_stick_67 : decode cX11_stick 67 = .ok (.iload 8, 2) := by decide +kernel
theorem dX11_stick_69 : decode cX11_stick 69 = .ok (.iload 5, 2) := by decide +kernel
theorem dX11_stick_71 : decode cX11_stick 71 = .ok (.if_icmp .ge 11, 3) := by decide +kernel
theorem dX11_stick_74 : decode cX11_stick 74 = .ok (.iload 8, 2) := by decide +kernel
theorem dX11_stick_76 : decode cX11_stick 76 = .ok (.istore 5, 2) := by decide +kernel
theorem dX11_stick_78 : decode cX11_stick 78 = .ok (.iload 6, 2) := by decide +kernel
theorem dX11_stick_80 : decode cX11_stick 80 = .ok (.istore 4, 2) := by decide +kernel
theorem dX11_stick_82 : decode cX11_stick 82 = .ok (.iinc 6 1, 3) := by decide +kernel
theorem dX11_stick_85 : decode cX11_stick 85 = .ok (.goto (-48), 3) := by decide +kernel
theorem dX11_stick_88 : decode cX11_stick 88 = .ok (.iload 4, 2) := by decide +kernel
theorem dX11_stick_90 : decode cX11_stick 90 = .ok (.ireturn, 1) := by decide +kernel
theorem dX11_is_0 : decode cX11_is 0 = .ok (.aload_n 0, 1) := by decide +kernel
theorem dX11_is_1 : decode cX11_is 1 = .ok (.iload_n 1, 1) := by decide +kernel
theorem dX11_is_2 : decode cX11_is 2 = .ok (.invokevirtual 119, 3) := by decide +kernel
theorem dX11_is_5 : decode cX11_is 5 = .ok (.ifCond .eq 21, 3) := by decide +kernel
theorem dX11_is_8 : decode cX11_is 8 = .ok (.aload_n 0, 1) := by decide +kernel
theorem dX11_is_9 : decode cX11_is 9 = .ok (.iload_n 2, 1) := by decide +kernel
theorem dX11_is_10 : decode cX11_is 10 = .ok (.invokevirtual 92, 3) := by decide +kernel
theorem dX11_is_13 : decode cX11_is 13 = .ok (.ifCond .eq 13, 3) := by decide +kernel
theorem dX11_is_16 : decode cX11_is 16 = .ok (.iload_n 3, 1) := by decide +kernel
theorem dX11_is_17 : decode cX11_is 17 = .ok (.iconst 1, 1) := by decide +kernel
theorem dX11_is_18 : decode cX11_is 18 = .ok (.bipush 20, 2) := by decide +kernel
theorem dX11_is_20 : decode cX11_is 20 = .ok (.invokestatic 76, 3) := by decide +kernel
theorem dX11_is_23 : decode cX11_is 23 = .ok (.ifCond .ne 10, 3) := by decide +kernel
theorem dX11_is_26 : decode cX11_is 26 = .ok (.aload_n 0, 1) := by decide +kernel
theorem dX11_is_27 : decode cX11_is 27 = .ok (.bipush (-2), 2) := by decide +kernel
theorem dX11_is_29 : decode cX11_is 29 = .ok (.invokevirtual 80, 3) := by decide +kernel
theorem dX11_is_32 : decode cX11_is 32 = .ok (.ireturn, 1) := by decide +kernel
theorem dX11_is_33 : decode cX11_is 33 = .ok (.iconst 0, 1) := by decide +kernel
theorem dX11_is_34 : decode cX11_is 34 = .ok (.istore 4, 2) := by decide +kernel
theorem dX11_is_36 : decode cX11_is 36 = .ok (.iconst 0, 1) := by decide +kernel
theorem dX11_is_37 : decode cX11_is 37 = .ok (.istore 5, 2) := by decide +kernel
theorem dX11_is_39 : decode cX11_is 39 = .ok (.iload 5, 2) := by decide +kernel
theorem dX11_is_41 : decode cX11_is 41 = .ok (.iconst 5, 1) := by decide +kernel
theorem dX11_is_42 : decode cX11_is 42 = .ok (.if_icmp .gt 40, 3) := by decide +kernel
theorem dX11_is_45 : decode cX11_is 45 = .ok (.aload_n 0, 1) := by decide +kernel
theorem dX11_is_46 : decode cX11_is 46 = .ok (.iload 5, 2) := by decide +kernel
theorem dX11_is_48 : decode cX11_is 48 = .ok (.iload_n 1, 1) := by decide +kernel
theorem dX11_is_49 : decode cX11_is 49 = .ok (.invokevirtual 174, 3) := by decide +kernel
theorem dX11_is_52 : decode cX11_is 52 = .ok (.iload_n 2, 1) := by decide +kernel
theorem dX11_is_53 : decode cX11_is 53 = .ok (.if_icmp .ne 23, 3) := by decide +kernel
theorem dX11_is_56 : decode cX11_is 56 = .ok (.aload_n 0, 1) := by decide +kernel
theorem dX11_is_57 : decode cX11_is 57 = .ok (.iload 5, 2) := by decide +kernel
theorem dX11_is_59 : decode cX11_is 59 = .ok (.iload_n 1, 1) := by decide +kernel
theorem dX11_is_60 : decode cX11_is 60 = .ok (.invokevirtual 178, 3) := by decide +kernel
theorem dX11_is_63 : decode cX11_is 63 = .ok (.iload_n 3, 1) := by decide +kernel
theorem dX11_is_64 : decode cX11_is 64 = .ok (.if_icmp .ne 12, 3) := by decide +kernel
theorem dX11_is_67 : decode cX11_is 67 = .ok (.iload 4, 2) := by decide +kernel
theorem dX11_is_69 : decode cX11_is 69 = .ok (.iconst 1, 1) := by decide +kernel
theorem dX11_is_70 : decode cX11_is 70 = .ok (.iload 5, 2) := by decide +kernel
theorem dX11_is_72 : decode cX11_is 72 = .ok (.ishl, 1) := by decide +kernel
theorem dX11_is_73 : decode cX11_is 73 = .ok (.ior, 1) := by decide +kernel
theorem dX11_is_74 : decode cX11_is 74 = .ok (.istore 4, 2) := by decide +kernel
theorem dX11_is_76 : decode cX11_is 76 = .ok (.iinc 5 1, 3) := by decide +kernel
theorem dX11_is_79 : decode cX11_is 79 = .ok (.goto (-40), 3) := by decide +kernel
theorem dX11_is_82 : decode cX11_is 82 = .ok (.iload 4, 2) := by decide +kernel
theorem dX11_is_84 : decode cX11_is 84 = .ok (.ireturn, 1) := by decide +kernel
theorem dX11_sneeze_0 : decode cX11_sneeze 0 = .ok (.aload_n 0, 1) := by decide +kernel
theorem dX11_sneeze_1 : decode cX11_sneeze 1 = .ok (.iload_n 1, 1) := by decide +kernel
theorem dX11_sneeze_2 : decode cX11_sneeze 2 = .ok (.invokevirtual 92, 3) := by decide +kernel
theorem dX11_sneeze_5 : decode cX11_sneeze 5 = .ok (.ifCond .eq 13, 3) := by decide +kernel
theorem dX11_sneeze_8 : decode cX11_sneeze 8 = .ok (.iload_n 2, 1) := by decide +kernel
theorem dX11_sneeze_9 : decode cX11_sneeze 9 = .ok (.iconst 0, 1) := by decide +kernel
theorem dX11_sneeze_10 : decode cX11_sneeze 10 = .ok (.bipush 10, 2) := by decide +kernel
theorem dX11_sneeze_12 : decode cX11_sneeze 12 = .ok (.invokestatic 76, 3) := by decide +kernel
theorem dX11_sneeze_15 : decode cX11_sneeze 15 = .ok (.ifCond .ne 10, 3) := by decide +kernel
theorem dX11_sneeze_18 : decode cX11_sneeze 18 = .ok (.aload_n 0, 1) := by decide +kernel
theorem dX11_sneeze_19 : decode cX11_sneeze 19 = .ok (.bipush (-2), 2) := by decide +kernel
theorem dX11_sneeze_21 : decode cX11_sneeze 21 = .ok (.invokevirtual 80, 3) := by decide +kernel
theorem dX11_sneeze_24 : decode cX11_sneeze 24 = .ok (.ireturn, 1) := by decide +kernel
theorem dX11_sneeze_25 : decode cX11_sneeze 25 = .ok (.aload_n 0, 1) := by decide +kernel
theorem dX11_sneeze_26 : decode cX11_sneeze 26 = .ok (.getfield 55, 3) := by decide +kernel
theorem dX11_sneeze_29 : decode cX11_sneeze 29 = .ok (.iload_n 1, 1) := by decide +kernel
theorem dX11_sneeze_30 : decode cX11_sneeze 30 = .ok (.iload_n 2, 1) := by decide +kernel
theorem dX11_sneeze_31 : decode cX11_sneeze 31 = .ok (.invokevirtual 232, 3) := by decide +kernel
theorem dX11_sneeze_34 : decode cX11_sneeze 34 = .ok (.lstore_n 3, 1) := by decide +kernel
theorem dX11_sneeze_35 : decode cX11_sneeze 35 = .ok (.aload_n 0, 1) := by decide +kernel
theorem dX11_sneeze_36 : decode cX11_sneeze 36 = .ok (.getfield 32, 3) := by decide +kernel
theorem dX11_sneeze_39 : decode cX11_sneeze 39 = .ok (.getfield 63, 3) := by decide +kernel
theorem dX11_sneeze_42 : decode cX11_sneeze 42 = .ok (.getfield 96, 3) := by decide +kernel
theorem dX11_sneeze_45 : decode cX11_sneeze 45 = .ok (.invokestatic 236, 3) := by decide +kernel
theorem dX11_sneeze_48 : decode cX11_sneeze 48 = .ok (.lstore 5, 2) := by decide +kernel
theorem dX11_sneeze_50 : decode cX11_sneeze 50 = .ok (.lload_n 3, 1) := by decide +kernel
theorem dX11_sneeze_51 : decode cX11_sneeze 51 = .ok (.lload 5, 2) := by decide +kernel
theorem dX11_sneeze_53 : decode cX11_sneeze 53 = .ok (.invokestatic 240, 3) := by decide +kernel
theorem dX11_sneeze_56 : decode cX11_sneeze 56 = .ok (.lstore 7, 2) := by decide +kernel
theorem dX11_sneeze_58 : decode cX11_sneeze 58 = .ok (.lload 7, 2) := by decide +kernel
theorem dX11_sneeze_60 : decode cX11_sneeze 60 = .ok (.lconst 0, 1) := by decide +kernel
theorem dX11_sneeze_61 : decode cX11_sneeze 61 = .ok (.lcmp, 1) := by decide +kernel
theorem dX11_sneeze_62 : decode cX11_sneeze 62 = .ok (.ifCond .le 20, 3) := by decide +kernel
theorem dX11_sneeze_65 : decode cX11_sneeze 65 = .ok (.aload_n 0, 1) := by decide +kernel
theorem dX11_sneeze_66 : decode cX11_sneeze 66 = .ok (.lload_n 3, 1) := by decide +kernel
theorem dX11_sneeze_67 : decode cX11_sneeze 67 = .ok (.lload 7, 2) := by decide +kernel
theorem dX11_sneeze_69 : decode cX11_sneeze 69 = .ok (.ldiv, 1) := by decide +kernel
theorem dX11_sneeze_70 : decode cX11_sneeze 70 = .ok (.putfield 244, 3) := by decide +kernel
theorem dX11_sneeze_73 : decode cX11_sneeze 73 = .ok (.aload_n 0, 1) := by decide +kernel
theorem dX11_sneeze_74 : decode cX11_sneeze 74 = .ok (.lload 5, 2) := by decide +kernel
theorem dX11_sneeze_76 : decode cX11_sneeze 76 = .ok (.lload 7, 2) := by decide +kernel
theorem dX11_sneeze_78 : decode cX11_sneeze 78 = .ok (.ldiv, 1) := by decide +kernel
theorem dX11_sneeze_79 : decode cX11_sneeze 79 = .ok (.putfield 59, 3) := by decide +kernel
theorem dX11_sneeze_82 : decode cX11_sneeze 82 = .ok (.iconst 1, 1) := by decide +kernel
theorem dX11_sneeze_83 : decode cX11_sneeze 83 = .ok (.ireturn, 1) := by decide +kernel
theorem dX11_februaries_0 : decode cX11_februaries 0 = .ok (.iload_n 1, 1) := by decide +kernel
theorem dX11_februaries_1 : decode cX11_februaries 1 = .ok (.iconst 0, 1) := by decide +kernel
theorem dX11_februaries_2 : decode cX11_februaries 2 = .ok (.ldc 247, 2) := by decide +kernel
theorem dX11_februaries_4 : decode cX11_februaries 4 = .ok (.invokestatic 76, 3) := by decide +kernel
theorem dX11_februaries_7 : decode cX11_februaries 7 = .ok (.ifCond .eq 13, 3) := by decide +kernel
theorem dX11_februaries_10 : decode cX11_februaries 10 = .ok (.iload_n 2, 1) := by decide +kernel
theorem dX11_februaries_11 : decode cX11_februaries 11 = .ok (.iconst 0, 1) := by decide +kernel
theorem dX11_februaries_12 : decode cX11_februaries 12 = .ok (.bipush 60, 2) := by decide +kernel
theorem dX11_februaries_14 : decode cX11_februaries 14 = .ok (.invokestatic 76, 3) := by decide +kernel
theorem dX11_februaries_17 : decode cX11_februaries 17 = .ok (.ifCond .ne 10, 3) := by decide +kernel
theorem dX11_februaries_20 : decode cX11_februaries 20 = .ok (.aload_n 0, 1) := by decide +kernel
theorem dX11_februaries_21 : decode cX11_februaries 21 = .ok (.bipush (-2), 2) := by decide +kernel
theorem dX11_februaries_23 : decode cX11_februaries 23 = .ok (.invokevirtual 80, 3) := by decide +kernel
theorem dX11_februaries_26 : decode cX11_februaries 26 = .ok (.ireturn, 1) := by decide +kernel
theorem dX11_februaries_27 : decode cX11_februaries 27 = .ok (.aload_n 0, 1) := by decide +kernel
theorem dX11_februaries_28 : decode cX11_februaries 28 = .ok (.getfield 32, 3) := by decide +kernel
theorem dX11_februaries_31 : decode cX11_februaries 31 = .ok (.getfield 63, 3) := by decide +kernel
theorem dX11_februaries_34 : decode cX11_februaries 34 = .ok (.getfield 96, 3) := by decide +kernel
theorem dX11_februaries_37 : decode cX11_februaries 37 = .ok (.ifCond .le 16, 3) := by decide +kernel
theorem dX11_februaries_40 : decode cX11_februaries 40 = .ok (.aload_n 0, 1) := by decide +kernel
theorem dX11_februaries_41 : decode cX11_februaries 41 = .ok (.getfield 32, 3) := by decide +kernel
theorem dX11_februaries_44 : decode cX11_februaries 44 = .ok (.getfield 63, 3) := by decide +kernel
theorem dX11_februaries_47 : decode cX11_februaries 47 = .ok (.getfield 67, 3) := by decide +kernel
theorem dX11_februaries_50 : decode cX11_februaries 50 = .ok (.ifCond .gt 8, 3) := by decide +kernel
theorem dX11_februaries_53 : decode cX11_februaries 53 = .ok (.aload_n 0, 1) := by decide +kernel
theorem dX11_februaries_54 : decode cX11_februaries 54 = .ok (.invokevirtual 143, 3) := by decide +kernel
theorem dX11_februaries_57 : decode cX11_februaries 57 = .ok (.ireturn, 1) := by decide +kernel
theorem dX11_februaries_58 : decode cX11_februaries 58 = .ok (.aload_n 0, 1) := by decide +kernel
theorem dX11_februaries_59 : decode cX11_februaries 59 = .ok (.getfield 55, 3) := by decide +kernel
theorem dX11_februaries_62 : decode cX11_februaries 62 = .ok (.iload_n 1, 1) := by decide +kernel
theorem dX11_februaries_63 : decode cX11_februaries 63 = .ok (.iload_n 2, 1) := by decide +kernel
theorem dX11_februaries_64 : decode cX11_februaries 64 = .ok (.invokevirtual 248, 3) := by decide +kernel
theorem dX11_februaries_67 : decode cX11_februaries 67 = .ok (.ireturn, 1) := by decide +kernel
theorem dX11_part_0 : decode cX11_part 0 = .ok (.iload_n 1, 1) := by decide +kernel
theorem dX11_part_1 : decode cX11_part 1 = .ok (.iconst 0, 1) := by decide +kernel
theorem dX11_part_2 : decode cX11_part 2 = .ok (.iconst 1, 1) := by decide +kernel
theorem dX11_part_3 : decode cX11_part 3 = .ok (.invokestatic 76, 3) := by decide +kernel
theorem dX11_part_6 : decode cX11_part 6 = .ok (.ifCond .ne 11, 3) := by decide +kernel
theorem dX11_part_9 : decode cX11_part 9 = .ok (.aload_n 0, 1) := by decide +kernel
theorem dX11_part_10 : decode cX11_part 10 = .ok (.bipush (-2), 2) := by decide +kernel
theorem dX11_part_12 : decode cX11_part 12 = .ok (.invokevirtual 80, 3) := by decide +kernel
theorem dX11_part_15 : decode cX11_part 15 = .ok (.i2l, 1) := by decide +kernel
theorem dX11_part_16 : decode cX11_part 16 = .ok (.lreturn, 1) := by decide +kernel
theorem dX11_part_17 : decode cX11_part 17 = .ok (.iload_n 1, 1) := by decide +kernel
theorem dX11_part_18 : decode cX11_part 18 = .ok (.ifCond .ne 10, 3) := by decide +kernel
theorem dX11_part_21 : decode cX11_part 21 = .ok (.aload_n 0, 1) := by decide +kernel
theorem dX11_part_22 : decode cX11_part 22 = .ok (.getfield 244, 3) := by decide +kernel
theorem dX11_part_25 : decode cX11_part 25 = .ok (.goto 7, 3) := by decide +kernel
theorem dX11_part_28 : decode cX11_part 28 = .ok (.aload_n 0, 1) := by decide +kernel
theorem dX11_part_29 : decode cX11_part 29 = .ok (.getfield 59, 3) := by decide +kernel
theorem dX11_part_32 : decode cX11_part 32 = .ok (.lreturn, 1) := by decide +kernel
theorem dX11_image_0 : decode cX11_image 0 = .ok (.iload_n 1, 1) := by decide +kernel
theorem dX11_image_1 : decode cX11_image 1 = .ok (.iconst 0, 1) := by decide +kernel
theorem dX11_image_2 : decode cX11_image 2 = .ok (.iconst 1, 1) := by decide +kernel
theorem dX11_image_3 : decode cX11_image 3 = .ok (.invokestatic 76, 3) := by decide +kernel
theorem dX11_image_6 : decode cX11_image 6 = .ok (.ifCond .ne 10, 3) := by decide +kernel
theorem dX11_image_9 : decode cX11_image 9 = .ok (.aload_n 0, 1) := by decide +kernel
theorem dX11_image_10 : decode cX11_image 10 = .ok (.bipush (-2), 2) := by decide +kernel
theorem dX11_image_12 : decode cX11_image 12 = .ok (.invokevirtual 80, 3) := by decide +kernel
theorem dX11_image_15 : decode cX11_image 15 = .ok (.ireturn, 1) := by decide +kernel
theorem dX11_image_16 : decode cX11_image 16 = .ok (.aload_n 0, 1) := by decide +kernel
theorem dX11_image_17 : decode cX11_image 17 = .ok (.getfield 39, 3) := by decide +kernel
theorem dX11_image_20 : decode cX11_image 20 = .ok (.iload_n 1, 1) := by decide +kernel
theorem dX11_image_21 : decode cX11_image 21 = .ok (.aaload, 1) := by decide +kernel
theorem dX11_image_22 : decode cX11_image 22 = .ok (.aload_n 0, 1) := by decide +kernel
theorem dX11_image_23 : decode cX11_image 23 = .ok (.getfield 32, 3) := by decide +kernel
theorem dX11_image_26 : decode cX11_image 26 = .ok (.invokevirtual 116, 3) := by decide +kernel
theorem dX11_image_29 : decode cX11_image 29 = .ok (.aload_n 0, 1) := by decide +kernel
theorem dX11_image_30 : decode cX11_image 30 = .ok (.dup, 1) := by decide +kernel
theorem dX11_image_31 : decode cX11_image 31 = .ok (.getfield 251, 3) := by decide +kernel
theorem dX11_image_34 : decode cX11_image 34 = .ok (.iconst 1, 1) := by decide +kernel
theorem dX11_image_35 : decode cX11_image 35 = .ok (.iload_n 1, 1) := by decide +kernel
theorem dX11_image_36 : decode cX11_image 36 = .ok (.ishl, 1) := by decide +kernel
theorem dX11_image_37 : decode cX11_image 37 = .ok (.ior, 1) := by decide +kernel
theorem dX11_image_38 : decode cX11_image 38 = .ok (.putfield 251, 3) := by decide +kernel
theorem dX11_image_41 : decode cX11_image 41 = .ok (.iconst 1, 1) := by decide +kernel
theorem dX11_image_42 : decode cX11_image 42 = .ok (.ireturn, 1) := by decide +kernel
theorem dX11_from_0 : decode cX11_from 0 = .ok (.iload_n 1, 1) := by decide +kernel
theorem dX11_from_1 : decode cX11_from 1 = .ok (.iconst 0, 1) := by decide +kernel
theorem dX11_from_2 : decode cX11_from 2 = .ok (.iconst 1, 1) := by decide +kernel
theorem dX11_from_3 : decode cX11_from 3 = .ok (.invokestatic 76, 3) := by decide +kernel
theorem dX11_from_6 : decode cX11_from 6 = .ok (.ifCond .ne 10, 3) := by decide +kernel
theorem dX11_from_9 : decode cX11_from 9 = .ok (.aload_n 0, 1) := by decide +kernel
theorem dX11_from_10 : decode cX11_from 10 = .ok (.bipush (-2), 2) := by decide +kernel
theorem dX11_from_12 : decode cX11_from 12 = .ok (.invokevirtual 80, 3) := by decide +kernel
theorem dX11_from_15 : decode cX11_from 15 = .ok (.ireturn, 1) := by decide +kernel
theorem dX11_from_16 : decode cX11_from 16 = .ok (.aload_n 0, 1) := by decide +kernel
theorem dX11_from_17 : decode cX11_from 17 = .ok (.getfield 251, 3) := by decide +kernel
theorem dX11_from_20 : decode cX11_from 20 = .ok (.iload_n 1, 1) := by decide +kernel
theorem dX11_from_21 : decode cX11_from 21 = .ok (.invokestatic 254, 3) := by decide +kernel
theorem dX11_from_24 : decode cX11_from 24 = .ok (.ifCond .ne 8, 3) := by decide +kernel
theorem dX11_from_27 : decode cX11_from 27 = .ok (.aload_n 0, 1) := by decide +kernel
theorem dX11_from_28 : decode cX11_from 28 = .ok (.invokevirtual 143, 3) := by decide +kernel
theorem dX11_from_31 : decode cX11_from 31 = .ok (.ireturn, 1) := by decide +kernel
theorem dX11_from_32 : decode cX11_from 32 = .ok (.aload_n 0, 1) := by decide +kernel
theorem dX11_from_33 : decode cX11_from 33 = .ok (.getfield 32, 3) := by decide +kernel
theorem dX11_from_36 : decode cX11_from 36 = .ok (.aload_n 0, 1) := by decide +kernel
theorem dX11_from_37 : decode cX11_from 37 = .ok (.getfield 39, 3) := by decide +kernel
theorem dX11_from_40 : decode cX11_from 40 = .ok (.iload_n 1, 1) := by decide +kernel
theorem dX11_from_41 : decode cX11_from 41 = .ok (.aaload, 1) := by decide +kernel
theorem dX11_from_42 : decode cX11_from 42 = .ok (.invokevirtual 116, 3) := by decide +kernel
theorem dX11_from_45 : decode cX11_from 45 = .ok (.iconst 1, 1) := by decide +kernel
theorem dX11_from_46 : decode cX11_from 46 = .ok (.ireturn, 1) := by decide +kernel
theorem dX11_status_0 : decode cX11_status 0 = .ok (.iload_n 1, 1) := by decide +kernel
theorem dX11_status_1 : decode cX11_status 1 = .ok (.tableswitch 42 0 2 #[27, 32, 37], 27) := by decide +kernel
theorem dX11_status_28 : decode cX11_status 28 = .ok (.aload_n 0, 1) := by decide +kernel
theorem dX11_status_29 : decode cX11_status 29 = .ok (.getfield 258, 3) := by decide +kernel
theorem dX11_status_32 : decode cX11_status 32 = .ok (.ireturn, 1) := by decide +kernel
theorem dX11_status_33 : decode cX11_status 33 = .ok (.aload_n 0, 1) := by decide +kernel
theorem dX11_status_34 : decode cX11_status 34 = .ok (.getfield 261, 3) := by decide +kernel
theorem dX11_status_37 : decode cX11_status 37 = .ok (.ireturn, 1) := by decide +kernel
theorem dX11_status_38 : decode cX11_status 38 = .ok (.aload_n 0, 1) := by decide +kernel
theorem dX11_status_39 : decode cX11_status 39 = .ok (.getfield 264, 3) := by decide +kernel
theorem dX11_status_42 : decode cX11_status 42 = .ok (.ireturn, 1) := by decide +kernel
theorem dX11_status_43 : decode cX11_status 43 = .ok (.aload_n 0, 1) := by decide +kernel
theorem dX11_status_44 : decode cX11_status 44 = .ok (.iconst (-1), 1) := by decide +kernel
theorem dX11_status_45 : decode cX11_status 45 = .ok (.invokevirtual 80, 3) := by decide +kernel
theorem dX11_status_48 : decode cX11_status 48 = .ok (.ireturn, 1) := by decide +kernel
theorem dX11_count_0 : decode cX11_count 0 = .ok (.iload_n 1, 1) := by decide +kernel
theorem dX11_count_1 : decode cX11_count 1 = .ok (.iconst 0, 1) := by decide +kernel
theorem dX11_count_2 : decode cX11_count 2 = .ok (.bipush 6, 2) := by decide +kernel
theorem dX11_count_4 : decode cX11_count 4 = .ok (.invokestatic 76, 3) := by decide +kernel
theorem dX11_count_7 : decode cX11_count 7 = .ok (.ifCond .eq 11, 3) := by decide +kernel
theorem dX11_count_10 : decode cX11_count 10 = .ok (.aload_n 0, 1) := by decide +kernel
theorem dX11_count_11 : decode cX11_count 11 = .ok (.iload_n 1, 1) := by decide +kernel
theorem dX11_count_12 : decode cX11_count 12 = .ok (.invokevirtual 267, 3) := by decide +kernel
theorem dX11_count_15 : decode cX11_count 15 = .ok (.goto 9, 3) := by decide +kernel
theorem dX11_count_18 : decode cX11_count 18 = .ok (.aload_n 0, 1) := by decide +kernel
theorem dX11_count_19 : decode cX11_count 19 = .ok (.bipush (-2), 2) := by decide +kernel
theorem dX11_count_21 : decode cX11_count 21 = .ok (.invokevirtual 80, 3) := by decide +kernel
theorem dX11_count_24 : decode cX11_count 24 = .ok (.ireturn, 1) := by decide +kernel
theorem dX11_digest_0 : decode cX11_digest 0 = .ok (.ldc2_w 270, 3) := by decide +kernel
theorem dX11_digest_3 : decode cX11_digest 3 = .ok (.lstore_n 1, 1) := by decide +kernel
theorem dX11_digest_4 : decode cX11_digest 4 = .ok (.iconst 0, 1) := by decide +kernel
theorem dX11_digest_5 : decode cX11_digest 5 = .ok (.istore_n 3, 1) := by decide +kernel
theorem dX11_digest_6 : decode cX11_digest 6 = .ok (.iload_n 3, 1) := by decide +kernel
theorem dX11_digest_7 : decode cX11_digest 7 = .ok (.bipush 6, 2) := by decide +kernel
theorem dX11_digest_9 : decode cX11_digest 9 = .ok (.if_icmp .gt 22, 3) := by decide +kernel
theorem dX11_digest_12 : decode cX11_digest 12 = .ok (.ldc2_w 272, 3) := by decide +kernel
theorem dX11_digest_15 : decode cX11_digest 15 = .ok (.lload_n 1, 1) := by decide +kernel
theorem dX11_digest_16 : decode cX11_digest 16 = .ok (.lmul, 1) := by decide +kernel
theorem dX11_digest_17 : decode cX11_digest 17 = .ok (.aload_n 0, 1) := by decide +kernel
theorem dX11_digest_18 : decode cX11_digest 18 = .ok (.iload_n 3, 1) := by decide +kernel
theorem dX11_digest_19 : decode cX11_digest 19 = .ok (.invokevirtual 267, 3) := by decide +kernel
theorem dX11_digest_22 : decode cX11_digest 22 = .ok (.i2l, 1) := by decide +kernel
theorem dX11_digest_23 : decode cX11_digest 23 = .ok (.ladd, 1) := by decide +kernel
theorem dX11_digest_24 : decode cX11_digest 24 = .ok (.lstore_n 1, 1) := by decide +kernel
theorem dX11_digest_25 : decode cX11_digest 25 = .ok (.iinc 3 1, 3) := by decide +kernel
theorem dX11_digest_28 : decode cX11_digest 28 = .ok (.goto (-22), 3) := by decide +kernel
theorem dX11_digest_31 : decode cX11_digest 31 = .ok (.aload_n 0, 1) := by decide +kernel
theorem dX11_digest_32 : decode cX11_digest 32 = .ok (.getfield 32, 3) := by decide +kernel
theorem dX11_digest_35 : decode cX11_digest 35 = .ok (.lload_n 1, 1) := by decide +kernel
theorem dX11_digest_36 : decode cX11_digest 36 = .ok (.invokevirtual 274, 3) := by decide +kernel
theorem dX11_digest_39 : decode cX11_digest 39 = .ok (.lstore_n 1, 1) := by decide +kernel
theorem dX11_digest_40 : decode cX11_digest 40 = .ok (.ldc2_w 272, 3) := by decide +kernel
theorem dX11_digest_43 : decode cX11_digest 43 = .ok (.lload_n 1, 1) := by decide +kernel
theorem dX11_digest_44 : decode cX11_digest 44 = .ok (.lmul, 1) := by decide +kernel
theorem dX11_digest_45 : decode cX11_digest 45 = .ok (.aload_n 0, 1) := by decide +kernel
theorem dX11_digest_46 : decode cX11_digest 46 = .ok (.getfield 244, 3) := by decide +kernel
theorem dX11_digest_49 : decode cX11_digest 49 = .ok (.ladd, 1) := by decide +kernel
theorem dX11_digest_50 : decode cX11_digest 50 = .ok (.lstore_n 1, 1) := by decide +kernel
theorem dX11_digest_51 : decode cX11_digest 51 = .ok (.ldc2_w 272, 3) := by decide +kernel
theorem dX11_digest_54 : decode cX11_digest 54 = .ok (.lload_n 1, 1) := by decide +kernel
theorem dX11_digest_55 : decode cX11_digest 55 = .ok (.lmul, 1) := by decide +kernel
theorem dX11_digest_56 : decode cX11_digest 56 = .ok (.aload_n 0, 1) := by decide +kernel
theorem dX11_digest_57 : decode cX11_digest 57 = .ok (.getfield 59, 3) := by decide +kernel
theorem dX11_digest_60 : decode cX11_digest 60 = .ok (.ladd, 1) := by decide +kernel
theorem dX11_digest_61 : decode cX11_digest 61 = .ok (.lreturn, 1) := by decide +kernel
theorem dX11_howMany_0 : decode cX11_howMany 0 = .ok (.iload_n 1, 1) := by decide +kernel
theorem dX11_howMany_1 : decode cX11_howMany 1 = .ok (.tableswitch 99 0 5 #[39, 50, 61, 72, 83, 91], 39) := by decide +kernel
theorem dX11_howMany_40 : decode cX11_howMany 40 = .ok (.aload_n 0, 1) := by decide +kernel
theorem dX11_howMany_41 : decode cX11_howMany 41 = .ok (.getfield 32, 3) := by decide +kernel
theorem dX11_howMany_44 : decode cX11_howMany 44 = .ok (.getfield 63, 3) := by decide +kernel
theorem dX11_howMany_47 : decode cX11_howMany 47 = .ok (.getfield 67, 3) := by decide +kernel
theorem dX11_howMany_50 : decode cX11_howMany 50 = .ok (.ireturn, 1) := by decide +kernel
theorem dX11_howMany_51 : decode cX11_howMany 51 = .ok (.aload_n 0, 1) := by decide +kernel
theorem dX11_howMany_52 : decode cX11_howMany 52 = .ok (.getfield 32, 3) := by decide +kernel
theorem dX11_howMany_55 : decode cX11_howMany 55 = .ok (.getfield 63, 3) := by decide +kernel
theorem dX11_howMany_58 : decode cX11_howMany 58 = .ok (.getfield 96, 3) := by decide +kernel
theorem dX11_howMany_61 : decode cX11_howMany 61 = .ok (.ireturn, 1) := by decide +kernel
theorem dX11_howMany_62 : decode cX11_howMany 62 = .ok (.aload_n 0, 1) := by decide +kernel
theorem dX11_howMany_63 : decode cX11_howMany 63 = .ok (.getfield 32, 3) := by decide +kernel
theorem dX11_howMany_66 : decode cX11_howMany 66 = .ok (.getfield 125, 3) := by decide +kernel
theorem dX11_howMany_69 : decode cX11_howMany 69 = .ok (.getfield 149, 3) := by decide +kernel
theorem dX11_howMany_72 : decode cX11_howMany 72 = .ok (.ireturn, 1) := by decide +kernel
theorem dX11_howMany_73 : decode cX11_howMany 73 = .ok (.aload_n 0, 1) := by decide +kernel
theorem dX11_howMany_74 : decode cX11_howMany 74 = .ok (.getfield 32, 3) := by decide +kernel
theorem dX11_howMany_77 : decode cX11_howMany 77 = .ok (.getfield 125, 3) := by decide +kernel
theorem dX11_howMany_80 : decode cX11_howMany 80 = .ok (.invokevirtual 278, 3) := by decide +kernel
theorem dX11_howMany_83 : decode cX11_howMany 83 = .ok (.ireturn, 1) := by decide +kernel
theorem dX11_howMany_84 : decode cX11_howMany 84 = .ok (.aload_n 0, 1) := by decide +kernel
theorem dX11_howMany_85 : decode cX11_howMany 85 = .ok (.getfield 32, 3) := by decide +kernel
theorem dX11_howMany_88 : decode cX11_howMany 88 = .ok (.getfield 212, 3) := by decide +kernel
theorem dX11_howMany_91 : decode cX11_howMany 91 = .ok (.ireturn, 1) := by decide +kernel
theorem dX11_howMany_92 : decode cX11_howMany 92 = .ok (.aload_n 0, 1) := by decide +kernel
theorem dX11_howMany_93 : decode cX11_howMany 93 = .ok (.getfield 32, 3) := by decide +kernel
theorem dX11_howMany_96 : decode cX11_howMany 96 = .ok (.getfield 140, 3) := by decide +kernel
theorem dX11_howMany_99 : decode cX11_howMany 99 = .ok (.ireturn, 1) := by decide +kernel
theorem dX11_howMany_100 : decode cX11_howMany 100 = .ok (.aload_n 0, 1) := by decide +kernel
theorem dX11_howMany_101 : decode cX11_howMany 101 = .ok (.getfield 46, 3) := by decide +kernel
theorem dX11_howMany_104 : decode cX11_howMany 104 = .ok (.getfield 102, 3) := by decide +kernel
theorem dX11_howMany_107 : decode cX11_howMany 107 = .ok (.ireturn, 1) := by decide +kernel
theorem dX11_placeAs_0 : decode cX11_placeAs 0 = .ok (.aload_n 0, 1) := by decide +kernel
theorem dX11_placeAs_1 : decode cX11_placeAs 1 = .ok (.getfield 32, 3) := by decide +kernel
theorem dX11_placeAs_4 : decode cX11_placeAs 4 = .ok (.getfield 63, 3) := by decide +kernel
theorem dX11_placeAs_7 : decode cX11_placeAs 7 = .ok (.iload_n 1, 1) := by decide +kernel
theorem dX11_placeAs_8 : decode cX11_placeAs 8 = .ok (.invokevirtual 281, 3) := by decide +kernel
theorem dX11_placeAs_11 : decode cX11_placeAs 11 = .ok (.aload_n 0, 1) := by decide +kernel
theorem dX11_placeAs_12 : decode cX11_placeAs 12 = .ok (.getfield 32, 3) := by decide +kernel
theorem dX11_placeAs_15 : decode cX11_placeAs 15 = .ok (.getfield 125, 3) := by decide +kernel
theorem dX11_placeAs_18 : decode cX11_placeAs 18 = .ok (.aload_n 0, 1) := by decide +kernel
theorem dX11_placeAs_19 : decode cX11_placeAs 19 = .ok (.getfield 32, 3) := by decide +kernel
theorem dX11_placeAs_22 : decode cX11_placeAs 22 = .ok (.getfield 63, 3) := by decide +kernel
theorem dX11_placeAs_25 : decode cX11_placeAs 25 = .ok (.getfield 168, 3) := by decide +kernel
theorem dX11_placeAs_28 : decode cX11_placeAs 28 = .ok (.iload_n 2, 1) := by decide +kernel
theorem dX11_placeAs_29 : decode cX11_placeAs 29 = .ok (.iaload, 1) := by decide +kernel
theorem dX11_placeAs_30 : decode cX11_placeAs 30 = .ok (.aload_n 0, 1) := by decide +kernel
theorem dX11_placeAs_31 : decode cX11_placeAs 31 = .ok (.getfield 32, 3) := by decide +kernel
theorem dX11_placeAs_34 : decode cX11_placeAs 34 = .ok (.getfield 63, 3) := by decide +kernel
theorem dX11_placeAs_37 : decode cX11_placeAs 37 = .ok (.getfield 171, 3) := by decide +kernel
theorem dX11_placeAs_40 : decode cX11_placeAs 40 = .ok (.iload_n 2, 1) := by decide +kernel
theorem dX11_placeAs_41 : decode cX11_placeAs 41 = .ok (.iaload, 1) := by decide +kernel
theorem dX11_placeAs_42 : decode cX11_placeAs 42 = .ok (.invokevirtual 285, 3) := by decide +kernel
theorem dX11_placeAs_45 : decode cX11_placeAs 45 = .ok (.ireturn, 1) := by decide +kernel
theorem dX11_heftAs_0 : decode cX11_heftAs 0 = .ok (.aload_n 0, 1) := by decide +kernel
theorem dX11_heftAs_1 : decode cX11_heftAs 1 = .ok (.getfield 32, 3) := by decide +kernel
theorem dX11_heftAs_4 : decode cX11_heftAs 4 = .ok (.getfield 63, 3) := by decide +kernel
theorem dX11_heftAs_7 : decode cX11_heftAs 7 = .ok (.iload_n 1, 1) := by decide +kernel
theorem dX11_heftAs_8 : decode cX11_heftAs 8 = .ok (.invokevirtual 281, 3) := by decide +kernel
theorem dX11_heftAs_11 : decode cX11_heftAs 11 = .ok (.aload_n 0, 1) := by decide +kernel
theorem dX11_heftAs_12 : decode cX11_heftAs 12 = .ok (.getfield 32, 3) := by decide +kernel
theorem dX11_heftAs_15 : decode cX11_heftAs 15 = .ok (.getfield 63, 3) := by decide +kernel
theorem dX11_heftAs_18 : decode cX11_heftAs 18 = .ok (.getfield 171, 3) := by decide +kernel
theorem dX11_heftAs_21 : decode cX11_heftAs 21 = .ok (.iload_n 2, 1) := by decide +kernel
theorem dX11_heftAs_22 : decode cX11_heftAs 22 = .ok (.iaload, 1) := by decide +kernel
theorem dX11_heftAs_23 : decode cX11_heftAs 23 = .ok (.invokevirtual 289, 3) := by decide +kernel
theorem dX11_heftAs_26 : decode cX11_heftAs 26 = .ok (.ireturn, 1) := by decide +kernel
theorem dX11_isLedge_0 : decode cX11_isLedge 0 = .ok (.iload_n 1, 1) := by decide +kernel
theorem dX11_isLedge_1 : decode cX11_isLedge 1 = .ok (.iconst 0, 1) := by decide +kernel
theorem dX11_isLedge_2 : decode cX11_isLedge 2 = .ok (.aload_n 0, 1) := by decide +kernel
theorem dX11_isLedge_3 : decode cX11_isLedge 3 = .ok (.getfield 32, 3) := by decide +kernel
theorem dX11_isLedge_6 : decode cX11_isLedge 6 = .ok (.getfield 63, 3) := by decide +kernel
theorem dX11_isLedge_9 : decode cX11_isLedge 9 = .ok (.getfield 67, 3) := by decide +kernel
theorem dX11_isLedge_12 : decode cX11_isLedge 12 = .ok (.iconst 1, 1) := by decide +kernel
theorem dX11_isLedge_13 : decode cX11_isLedge 13 = .ok (.isub, 1) := by decide +kernel
theorem dX11_isLedge_14 : decode cX11_isLedge 14 = .ok (.invokestatic 76, 3) := by decide +kernel
theorem dX11_isLedge_17 : decode cX11_isLedge 17 = .ok (.ireturn, 1) := by decide +kernel
theorem dX11_isVoter_0 : decode cX11_isVoter 0 = .ok (.iload_n 1, 1) := by decide +kernel
theorem dX11_isVoter_1 : decode cX11_isVoter 1 = .ok (.iconst 0, 1) := by decide +kernel
theorem dX11_isVoter_2 : decode cX11_isVoter 2 = .ok (.aload_n 0, 1) := by decide +kernel
theorem dX11_isVoter_3 : decode cX11_isVoter 3 = .ok (.getfield 32, 3) := by decide +kernel
theorem dX11_isVoter_6 : decode cX11_isVoter 6 = .ok (.getfield 63, 3) := by decide +kernel
theorem dX11_isVoter_9 : decode cX11_isVoter 9 = .ok (.getfield 96, 3) := by decide +kernel
theorem dX11_isVoter_12 : decode cX11_isVoter 12 = .ok (.iconst 1, 1) := by decide +kernel
theorem dX11_isVoter_13 : decode cX11_isVoter 13 = .ok (.isub, 1) := by decide +kernel
theorem dX11_isVoter_14 : decode cX11_isVoter 14 = .ok (.invokestatic 76, 3) := by decide +kernel
theorem dX11_isVoter_17 : decode cX11_isVoter 17 = .ok (.ireturn, 1) := by decide +kernel
theorem dX11_bad_0 : decode cX11_bad 0 = .ok (.aload_n 0, 1) := by decide +kernel
theorem dX11_bad_1 : decode cX11_bad 1 = .ok (.dup, 1) := by decide +kernel
theorem dX11_bad_2 : decode cX11_bad 2 = .ok (.getfield 258, 3) := by decide +kernel
theorem dX11_bad_5 : decode cX11_bad 5 = .ok (.iconst 1, 1) := by decide +kernel
theorem dX11_bad_6 : decode cX11_bad 6 = .ok (.iadd, 1) := by decide +kernel
theorem dX11_bad_7 : decode cX11_bad 7 = .ok (.putfield 258, 3) := by decide +kernel
theorem dX11_bad_10 : decode cX11_bad 10 = .ok (.iload_n 1, 1) := by decide +kernel
theorem dX11_bad_11 : decode cX11_bad 11 = .ok (.ireturn, 1) := by decide +kernel
theorem dX11_no_0 : decode cX11_no 0 = .ok (.aload_n 0, 1) := by decide +kernel
theorem dX11_no_1 : decode cX11_no 1 = .ok (.dup, 1) := by decide +kernel
theorem dX11_no_2 : decode cX11_no 2 = .ok (.getfield 261, 3) := by decide +kernel
theorem dX11_no_5 : decode cX11_no 5 = .ok (.iconst 1, 1) := by decide +kernel
theorem dX11_no_6 : decode cX11_no 6 = .ok (.iadd, 1) := by decide +kernel
theorem dX11_no_7 : decode cX11_no 7 = .ok (.putfield 261, 3) := by decide +kernel
theorem dX11_no_10 : decode cX11_no 10 = .ok (.bipush (-3), 2) := by decide +kernel
theorem dX11_no_12 : decode cX11_no 12 = .ok (.ireturn, 1) := by decide +kernel
theorem dX11_full_0 : decode cX11_full 0 = .ok (.aload_n 0, 1) := by decide +kernel
theorem dX11_full_1 : decode cX11_full 1 = .ok (.dup, 1) := by decide +kernel
theorem dX11_full_2 : decode cX11_full 2 = .ok (.getfield 264, 3) := by decide +kernel
theorem dX11_full_5 : decode cX11_full 5 = .ok (.iconst 1, 1) := by decide +kernel
theorem dX11_full_6 : decode cX11_full 6 = .ok (.iadd, 1) := by decide +kernel
theorem dX11_full_7 : decode cX11_full 7 = .ok (.putfield 264, 3) := by decide +kernel
theorem dX11_full_10 : decode cX11_full 10 = .ok (.bipush (-4), 2) := by decide +kernel
theorem dX11_full_12 : decode cX11_full 12 = .ok (.ireturn, 1) := by decide +kernel
theorem dX11_within_0 : decode cX11_within 0 = .ok (.iload_n 0, 1) := by decide +kernel
theorem dX11_within_1 : decode cX11_within 1 = .ok (.iload_n 1, 1) := by decide +kernel
theorem dX11_within_2 : decode cX11_within 2 = .ok (.if_icmp .lt 12, 3) := by decide +kernel
theorem dX11_within_5 : decode cX11_within 5 = .ok (.iload_n 0, 1) := by decide +kernel
theorem dX11_within_6 : decode cX11_within 6 = .ok (.iload_n 2, 1) := by decide +kernel
theorem dX11_within_7 : decode cX11_within 7 = .ok (.if_icmp .gt 7, 3) := by decide +kernel
theorem dX11_within_10 : decode cX11_within 10 = .ok (.iconst 1, 1) := by decide +kernel
theorem dX11_within_11 : decode cX11_within 11 = .ok (.goto 4, 3) := by decide +kernel
theorem dX11_within_14 : decode cX11_within 14 = .ok (.iconst 0, 1) := by decide +kernel
theorem dX11_within_15 : decode cX11_within 15 = .ok (.ireturn, 1) := by decide +kernel
theorem dX11_hasBit_0 : decode cX11_hasBit 0 = .ok (.iload_n 0, 1) := by decide +kernel
theorem dX11_hasBit_1 : decode cX11_hasBit 1 = .ok (.iload_n 1, 1) := by decide +kernel
theorem dX11_hasBit_2 : decode cX11_hasBit 2 = .ok (.ishr, 1) := by decide +kernel
theorem dX11_hasBit_3 : decode cX11_hasBit 3 = .ok (.iconst 1, 1) := by decide +kernel
theorem dX11_hasBit_4 : decode cX11_hasBit 4 = .ok (.iand, 1) := by decide +kernel
theorem dX11_hasBit_5 : decode cX11_hasBit 5 = .ok (.ifCond .eq 7, 3) := by decide +kernel
theorem dX11_hasBit_8 : decode cX11_hasBit 8 = .ok (.iconst 1, 1) := by decide +kernel
theorem dX11_hasBit_9 : decode cX11_hasBit 9 = .ok (.goto 4, 3) := by decide +kernel
theorem dX11_hasBit_12 : decode cX11_hasBit 12 = .ok (.iconst 0, 1) := by decide +kernel
theorem dX11_hasBit_13 : decode cX11_hasBit 13 = .ok (.ireturn, 1) := by decide +kernel
theorem dX11_spread_0 : decode cX11_spread 0 = .ok (.iconst 0, 1) := by decide +kernel
theorem dX11_spread_1 : decode cX11_spread 1 = .ok (.iload_n 1, 1) := by decide +kernel
theorem dX11_spread_2 : decode cX11_spread 2 = .ok (.iload_n 0, 1) := by decide +kernel
theorem dX11_spread_3 : decode cX11_spread 3 = .ok (.isub, 1) := by decide +kernel
theorem dX11_spread_4 : decode cX11_spread 4 = .ok (.iconst 1, 1) := by decide +kernel
theorem dX11_spread_5 : decode cX11_spread 5 = .ok (.iadd, 1) := by decide +kernel
theorem dX11_spread_6 : decode cX11_spread 6 = .ok (.invokestatic 227, 3) := by decide +kernel
theorem dX11_spread_9 : decode cX11_spread 9 = .ok (.ireturn, 1) := by decide +kernel
theorem dX11_tenTo_0 : decode cX11_tenTo 0 = .ok (.lconst 1, 1) := by decide +kernel
theorem dX11_tenTo_1 : decode cX11_tenTo 1 = .ok (.lstore_n 1, 1) := by decide +kernel
theorem dX11_tenTo_2 : decode cX11_tenTo 2 = .ok (.iconst 0, 1) := by decide +kernel
theorem dX11_tenTo_3 : decode cX11_tenTo 3 = .ok (.istore_n 3, 1) := by decide +kernel
theorem dX11_tenTo_4 : decode cX11_tenTo 4 = .ok (.iload_n 3, 1) := by decide +kernel
theorem dX11_tenTo_5 : decode cX11_tenTo 5 = .ok (.iload_n 0, 1) := by decide +kernel
theorem dX11_tenTo_6 : decode cX11_tenTo 6 = .ok (.if_icmp .ge 15, 3) := by decide +kernel
theorem dX11_tenTo_9 : decode cX11_tenTo 9 = .ok (.lload_n 1, 1) := by decide +kernel
theorem dX11_tenTo_10 : decode cX11_tenTo 10 = .ok (.ldc2_w 292, 3) := by decide +kernel
theorem dX11_tenTo_13 : decode cX11_tenTo 13 = .ok (.lmul, 1) := by decide +kernel
theorem dX11_tenTo_14 : decode cX11_tenTo 14 = .ok (.lstore_n 1, 1) := by decide +kernel
theorem dX11_tenTo_15 : decode cX11_tenTo 15 = .ok (.iinc 3 1, 3) := by decide +kernel
theorem dX11_tenTo_18 : decode cX11_tenTo 18 = .ok (.goto (-14), 3) := by decide +kernel
theorem dX11_tenTo_21 : decode cX11_tenTo 21 = .ok (.lload_n 1, 1) := by decide +kernel
theorem dX11_tenTo_22 : decode cX11_tenTo 22 = .ok (.lreturn, 1) := by decide +kernel
theorem dX11_commonDivisor_0 : decode cX11_commonDivisor 0 = .ok (.lload_n 0, 1) := by decide +kernel
theorem dX11_commonDivisor_1 : decode cX11_commonDivisor 1 = .ok (.lstore 4, 2) := by decide +kernel
theorem dX11_commonDivisor_3 : decode cX11_commonDivisor 3 = .ok (.lload_n 2, 1) := by decide +kernel
theorem dX11_commonDivisor_4 : decode cX11_commonDivisor 4 = .ok (.lstore 6, 2) := by decide +kernel
theorem dX11_commonDivisor_6 : decode cX11_commonDivisor 6 = .ok (.iconst 0, 1) := by decide +kernel
theorem dX11_commonDivisor_7 : decode cX11_commonDivisor 7 = .ok (.istore 8, 2) := by decide +kernel
theorem dX11_commonDivisor_9 : decode cX11_commonDivisor 9 = .ok (.iload 8, 2) := by decide +kernel
theorem dX11_commonDivisor_11 : decode cX11_commonDivisor 11 = .ok (.bipush 100, 2) := by decide +kernel
theorem dX11_commonDivisor_13 : decode cX11_commonDivisor 13 = .ok (.if_icmp .ge 31, 3) := by decide +kernel
theorem dX11_commonDivisor_16 : decode cX11_commonDivisor 16 = .ok (.lload 6, 2) := by decide +kernel
theorem dX11_commonDivisor_18 : decode cX11_commonDivisor 18 = .ok (.lconst 0, 1) := by decide +kernel
theorem dX11_commonDivisor_19 : decode cX11_commonDivisor 19 = .ok (.lcmp, 1) := by decide +kernel
theorem dX11_commonDivisor_20 : decode cX11_commonDivisor 20 = .ok (.ifCond .eq 24, 3) := by decide +kernel
theorem dX11_commonDivisor_23 : decode cX11_commonDivisor 23 = .ok (.lload 4, 2) := by decide +kernel
theorem dX11_commonDivisor_25 : decode cX11_commonDivisor 25 = .ok (.lload 6, 2) := by decide +kernel
theorem dX11_commonDivisor_27 : decode cX11_commonDivisor 27 = .ok (.lrem, 1) := by decide +kernel
theorem dX11_commonDivisor_28 : decode cX11_commonDivisor 28 = .ok (.lstore 9, 2) := by decide +kernel
theorem dX11_commonDivisor_30 : decode cX11_commonDivisor 30 = .ok (.lload 6, 2) := by decide +kernel
theorem dX11_commonDivisor_32 : decode cX11_commonDivisor 32 = .ok (.lstore 4, 2) := by decide +kernel
theorem dX11_commonDivisor_34 : decode cX11_commonDivisor 34 = .ok (.lload 9, 2) := by decide +kernel
theorem dX11_commonDivisor_36 : decode cX11_commonDivisor 36 = .ok (.lstore 6, 2) := by decide +kernel
theorem dX11_commonDivisor_38 : decode cX11_commonDivisor 38 = .ok (.iinc 8 1, 3) := by decide +kernel
theorem dX11_commonDivisor_41 : decode cX11_commonDivisor 41 = .ok (.goto (-32), 3) := by decide +kernel
theorem dX11_commonDivisor_44 : decode cX11_commonDivisor 44 = .ok (.lload 4, 2) := by decide +kernel
theorem dX11_commonDivisor_46 : decode cX11_commonDivisor 46 = .ok (.lreturn, 1) := by decide +kernel
end
section
/-- the words that hold over calls too, and those of nest mates -/
def av_gw : List Cond := lw_tbl.filter goodWord
def av_isN : Cond → Bool
  | .fieldLinkNest .. => true
  | .methodLinkNest .. => true
  | .castable .. => true
  | _ => false
def av_nw : List Cond := lw_tbl.filter av_isN
theorem av_gwm (i : Nat) {w : Cond} (h : (decide (lw_tbl[i]? = some w) && goodWord w) = true) : w ∈ av_gw := by
  simp only [Bool.and_eq_true, decide_eq_true_eq] at h
  exact List.mem_filter.mpr ⟨List.mem_of_getElem? h.1, h.2⟩
theorem av_nwm (i : Nat) {w : Cond} (h : (decide (lw_tbl[i]? = some w) && av_isN w) = true) : w ∈ av_nw := by
  simp only [Bool.and_eq_true, decide_eq_true_eq] at h
  exact List.mem_filter.mpr ⟨List.mem_of_getElem? h.1, h.2⟩
theorem kS_X11_X11_bad_X11_bad : Cond.selects RX11 yX11_bad yX11_bad ∈ av_gw := av_gwm 0 (by decide +kernel)
theorem kS_X11_X11_full_X11_full : Cond.selects RX11 yX11_full yX11_full ∈ av_gw := av_gwm 1 (by decide +kernel)
theorem kS_X11_X11_isLedge_X11_isLedge : Cond.selects RX11 yX11_isLedge yX11_isLedge ∈ av_gw := av_gwm 2 (by decide +kernel)
theorem kS_X5_X5_readItem_X5_readItem : Cond.selects RX5 yX5_readItem yX5_readItem ∈ av_gw := av_gwm 3 (by decide +kernel)
theorem kS_X5_X5_takeWord_X5_takeWord : Cond.selects RX5 yX5_takeWord yX5_takeWord ∈ av_gw := av_gwm 4 (by decide +kernel)
theorem kS_X5_X5_skipBlanks_X5_skipBlanks : Cond.selects RX5 yX5_skipBlanks yX5_skipBlanks ∈ av_gw := av_gwm 5 (by decide +kernel)
theorem kS_X5_X5_isBetween_X5_isBetween : Cond.selects RX5 yX5_isBetween yX5_isBetween ∈ av_gw := av_gwm 6 (by decide +kernel)
theorem kS_X5_X5_wordIs_X5_wordIs : Cond.selects RX5 yX5_wordIs yX5_wordIs ∈ av_gw := av_gwm 7 (by decide +kernel)
theorem kS_X5_X5_readLedge_X5_readLedge : Cond.selects RX5 yX5_readLedge yX5_readLedge ∈ av_gw := av_gwm 8 (by decide +kernel)
theorem kS_X5_X5_takeNumber_X5_takeNumber : Cond.selects RX5 yX5_takeNumber yX5_takeNumber ∈ av_gw := av_gwm 9 (by decide +kernel)
theorem kS_X5_X5_readVoter_X5_readVoter : Cond.selects RX5 yX5_readVoter yX5_readVoter ∈ av_gw := av_gwm 10 (by decide +kernel)
theorem kS_X5_X5_takeEnd_X5_takeEnd : Cond.selects RX5 yX5_takeEnd yX5_takeEnd ∈ av_gw := av_gwm 11 (by decide +kernel)
theorem kS_X11_X11_isVoter_X11_isVoter : Cond.selects RX11 yX11_isVoter yX11_isVoter ∈ av_gw := av_gwm 12 (by decide +kernel)
theorem kS_X7_X7_drop_X7_drop : Cond.selects RX7 yX7_drop yX7_drop ∈ av_gw := av_gwm 13 (by decide +kernel)
theorem kS_X11_X11_no_X11_no : Cond.selects RX11 yX11_no yX11_no ∈ av_gw := av_gwm 14 (by decide +kernel)
theorem kS_X11_X11_placeAs_X11_placeAs : Cond.selects RX11 yX11_placeAs yX11_placeAs ∈ av_gw := av_gwm 15 (by decide +kernel)
theorem kS_X11_X11_heftAs_X11_heftAs : Cond.selects RX11 yX11_heftAs yX11_heftAs ∈ av_gw := av_gwm 16 (by decide +kernel)
theorem kS_X1_X1_fresh_X1_fresh : Cond.selects RX1 yX1_fresh yX1_fresh ∈ av_gw := av_gwm 17 (by decide +kernel)
theorem kS_X1_X1_countOrders_X1_countOrders : Cond.selects RX1 yX1_countOrders yX1_countOrders ∈ av_gw := av_gwm 18 (by decide +kernel)
theorem kS_X1_X1_isDeepest_X1_isDeepest : Cond.selects RX1 yX1_isDeepest yX1_isDeepest ∈ av_gw := av_gwm 19 (by decide +kernel)
theorem kS_X1_X1_fillOrder_X1_fillOrder : Cond.selects RX1 yX1_fillOrder yX1_fillOrder ∈ av_gw := av_gwm 20 (by decide +kernel)
theorem kS_X1_X1_fallsBy_X1_fallsBy : Cond.selects RX1 yX1_fallsBy yX1_fallsBy ∈ av_gw := av_gwm 21 (by decide +kernel)
theorem kS_X1_X1_afterStone_X1_afterStone : Cond.selects RX1 yX1_afterStone yX1_afterStone ∈ av_gw := av_gwm 22 (by decide +kernel)
theorem kS_X1_X1_fallsWithin_X1_fallsWithin : Cond.selects RX1 yX1_fallsWithin yX1_fallsWithin ∈ av_gw := av_gwm 23 (by decide +kernel)
theorem kS_X1_X1_outcomeOf_X1_outcomeOf : Cond.selects RX1 yX1_outcomeOf yX1_outcomeOf ∈ av_gw := av_gwm 24 (by decide +kernel)
theorem kS_X1_X1_bestOutcome_X1_bestOutcome : Cond.selects RX1 yX1_bestOutcome yX1_bestOutcome ∈ av_gw := av_gwm 25 (by decide +kernel)
theorem kS_X1_X1_partsFrom_X1_partsFrom : Cond.selects RX1 yX1_partsFrom yX1_partsFrom ∈ av_gw := av_gwm 26 (by decide +kernel)
theorem kS_X11_X11_howMany_X11_howMany : Cond.selects RX11 yX11_howMany yX11_howMany ∈ av_gw := av_gwm 27 (by decide +kernel)
theorem kS_X12_X12_ledges_X12_ledges : Cond.selects RX12 yX12_ledges yX12_ledges ∈ av_gw := av_gwm 28 (by decide +kernel)
theorem kS_X12_X12_bad_X12_bad : Cond.selects RX12 yX12_bad yX12_bad ∈ av_gw := av_gwm 29 (by decide +kernel)
theorem kS_X12_X12_full_X12_full : Cond.selects RX12 yX12_full yX12_full ∈ av_gw := av_gwm 30 (by decide +kernel)
theorem kS_X12_X12_isLedge_X12_isLedge : Cond.selects RX12 yX12_isLedge yX12_isLedge ∈ av_gw := av_gwm 31 (by decide +kernel)
theorem kS_X12_X12_voters_X12_voters : Cond.selects RX12 yX12_voters yX12_voters ∈ av_gw := av_gwm 32 (by decide +kernel)
theorem kS_X12_X12_isVoter_X12_isVoter : Cond.selects RX12 yX12_isVoter yX12_isVoter ∈ av_gw := av_gwm 33 (by decide +kernel)
theorem kS_X12_X12_keep_X12_keep : Cond.selects RX12 yX12_keep yX12_keep ∈ av_gw := av_gwm 34 (by decide +kernel)
theorem kS_X12_X12_get_X12_get : Cond.selects RX12 yX12_get yX12_get ∈ av_gw := av_gwm 35 (by decide +kernel)
theorem kS_X12_X12_layHand_X12_layHand : Cond.selects RX12 yX12_layHand yX12_layHand ∈ av_gw := av_gwm 36 (by decide +kernel)
theorem kS_X12_X12_goVote_X12_goVote : Cond.selects RX12 yX12_goVote yX12_goVote ∈ av_gw := av_gwm 37 (by decide +kernel)
theorem kS_X12_X12_whereBy_X12_whereBy : Cond.selects RX12 yX12_whereBy yX12_whereBy ∈ av_gw := av_gwm 38 (by decide +kernel)
theorem kS_X12_X12_tells_X12_tells : Cond.selects RX12 yX12_tells yX12_tells ∈ av_gw := av_gwm 39 (by decide +kernel)
theorem kS_X12_X12_where_X12_where : Cond.selects RX12 yX12_where yX12_where ∈ av_gw := av_gwm 40 (by decide +kernel)
theorem kS_X12_X12_load_X12_load : Cond.selects RX12 yX12_load yX12_load ∈ av_gw := av_gwm 41 (by decide +kernel)
theorem kS_X12_X12_heavy_X12_heavy : Cond.selects RX12 yX12_heavy yX12_heavy ∈ av_gw := av_gwm 42 (by decide +kernel)
theorem kS_X12_X12_byLoad_X12_byLoad : Cond.selects RX12 yX12_byLoad yX12_byLoad ∈ av_gw := av_gwm 43 (by decide +kernel)
theorem kS_X12_X12_heavyBy_X12_heavyBy : Cond.selects RX12 yX12_heavyBy yX12_heavyBy ∈ av_gw := av_gwm 44 (by decide +kernel)
theorem kS_X12_X12_goStone_X12_goStone : Cond.selects RX12 yX12_goStone yX12_goStone ∈ av_gw := av_gwm 45 (by decide +kernel)
theorem kS_X12_X12_comesDown_X12_comesDown : Cond.selects RX12 yX12_comesDown yX12_comesDown ∈ av_gw := av_gwm 46 (by decide +kernel)
theorem kS_X12_X12_firstOver_X12_firstOver : Cond.selects RX12 yX12_firstOver yX12_firstOver ∈ av_gw := av_gwm 47 (by decide +kernel)
theorem kS_X12_X12_layNow_X12_layNow : Cond.selects RX12 yX12_layNow yX12_layNow ∈ av_gw := av_gwm 48 (by decide +kernel)
theorem kS_X12_X12_goNight_X12_goNight : Cond.selects RX12 yX12_goNight yX12_goNight ∈ av_gw := av_gwm 49 (by decide +kernel)
theorem kS_X12_X12_no_X12_no : Cond.selects RX12 yX12_no yX12_no ∈ av_gw := av_gwm 50 (by decide +kernel)
theorem kS_X12_X12_layRow_X12_layRow : Cond.selects RX12 yX12_layRow yX12_layRow ∈ av_gw := av_gwm 51 (by decide +kernel)
theorem kS_X12_X12_areUnlike_X12_areUnlike : Cond.selects RX12 yX12_areUnlike yX12_areUnlike ∈ av_gw := av_gwm 52 (by decide +kernel)
theorem kS_X12_X12_layParties_X12_layParties : Cond.selects RX12 yX12_layParties yX12_layParties ∈ av_gw := av_gwm 53 (by decide +kernel)
theorem kS_X12_X12_layTurn_X12_layTurn : Cond.selects RX12 yX12_layTurn yX12_layTurn ∈ av_gw := av_gwm 54 (by decide +kernel)
theorem kS_X12_X12_backTo_X12_backTo : Cond.selects RX12 yX12_backTo yX12_backTo ∈ av_gw := av_gwm 55 (by decide +kernel)
theorem kS_X12_X12_judge_X12_judge : Cond.selects RX12 yX12_judge yX12_judge ∈ av_gw := av_gwm 56 (by decide +kernel)
theorem kS_X12_X12_goParty_X12_goParty : Cond.selects RX12 yX12_goParty yX12_goParty ∈ av_gw := av_gwm 57 (by decide +kernel)
theorem kS_X12_X12_manyFrom_X12_manyFrom : Cond.selects RX12 yX12_manyFrom yX12_manyFrom ∈ av_gw := av_gwm 58 (by decide +kernel)
theorem kS_X12_X12_canHold_X12_canHold : Cond.selects RX12 yX12_canHold yX12_canHold ∈ av_gw := av_gwm 59 (by decide +kernel)
theorem kS_X12_X12_leastHold_X12_leastHold : Cond.selects RX12 yX12_leastHold yX12_leastHold ∈ av_gw := av_gwm 60 (by decide +kernel)
theorem kS_X12_X12_fraction_X12_fraction : Cond.selects RX12 yX12_fraction yX12_fraction ∈ av_gw := av_gwm 61 (by decide +kernel)
theorem kS_X12_X12_lookAt_X12_lookAt : Cond.selects RX12 yX12_lookAt yX12_lookAt ∈ av_gw := av_gwm 62 (by decide +kernel)
theorem kS_X12_X12_isWord_X12_isWord : Cond.selects RX12 yX12_isWord yX12_isWord ∈ av_gw := av_gwm 63 (by decide +kernel)
theorem kS_X12_X12_goBehind_X12_goBehind : Cond.selects RX12 yX12_goBehind yX12_goBehind ∈ av_gw := av_gwm 64 (by decide +kernel)
theorem kS_X12_X12_takesItem_X12_takesItem : Cond.selects RX12 yX12_takesItem yX12_takesItem ∈ av_gw := av_gwm 65 (by decide +kernel)
theorem kS_X12_X12_takesLedge_X12_takesLedge : Cond.selects RX12 yX12_takesLedge yX12_takesLedge ∈ av_gw := av_gwm 66 (by decide +kernel)
theorem kS_X12_X12_takes_X12_takes : Cond.selects RX12 yX12_takes yX12_takes ∈ av_gw := av_gwm 67 (by decide +kernel)
theorem kS_X12_X12_takesVoter_X12_takesVoter : Cond.selects RX12 yX12_takesVoter yX12_takesVoter ∈ av_gw := av_gwm 68 (by decide +kernel)
theorem kS_X12_X12_counted_X12_counted : Cond.selects RX12 yX12_counted yX12_counted ∈ av_gw := av_gwm 69 (by decide +kernel)
theorem kS_X12_X12_allLoads_X12_allLoads : Cond.selects RX12 yX12_allLoads yX12_allLoads ∈ av_gw := av_gwm 70 (by decide +kernel)
theorem kS_X12_X12_sums_X12_sums : Cond.selects RX12 yX12_sums yX12_sums ∈ av_gw := av_gwm 71 (by decide +kernel)
theorem kZ_L : Cond.initialized RL ∈ av_gw := av_gwm 72 (by decide +kernel)
theorem kZ_X11 : Cond.initialized RX11 ∈ av_gw := av_gwm 73 (by decide +kernel)
theorem kZ_X4 : Cond.initialized RX4 ∈ av_gw := av_gwm 74 (by decide +kernel)
theorem kZ_X0 : Cond.initialized RX0 ∈ av_gw := av_gwm 75 (by decide +kernel)
theorem kZ_X3 : Cond.initialized RX3 ∈ av_gw := av_gwm 76 (by decide +kernel)
theorem kZ_X6 : Cond.initialized RX6 ∈ av_gw := av_gwm 77 (by decide +kernel)
theorem kZ_X2 : Cond.initialized RX2 ∈ av_gw := av_gwm 78 (by decide +kernel)
theorem kZ_X10 : Cond.initialized RX10 ∈ av_gw := av_gwm 79 (by decide +kernel)
theorem kZ_X8 : Cond.initialized RX8 ∈ av_gw := av_gwm 80 (by decide +kernel)
theorem kZ_X9 : Cond.initialized RX9 ∈ av_gw := av_gwm 81 (by decide +kernel)
theorem kZ_X7 : Cond.initialized RX7 ∈ av_gw := av_gwm 82 (by decide +kernel)
theorem kZ_X5 : Cond.initialized RX5 ∈ av_gw := av_gwm 83 (by decide +kernel)
theorem kZ_X1 : Cond.initialized RX1 ∈ av_gw := av_gwm 84 (by decide +kernel)
theorem kZ_X12 : Cond.initialized RX12 ∈ av_gw := av_gwm 85 (by decide +kernel)
theorem kZ_J7 : Cond.initialized RJ7 ∈ av_gw := av_gwm 86 (by decide +kernel)
theorem kZ_J0 : Cond.initialized RJ0 ∈ av_gw := av_gwm 87 (by decide +kernel)
theorem kZ_J1 : Cond.initialized RJ1 ∈ av_gw := av_gwm 88 (by decide +kernel)
theorem kZ_J3 : Cond.initialized RJ3 ∈ av_gw := av_gwm 89 (by decide +kernel)
theorem kZ_J2 : Cond.initialized RJ2 ∈ av_gw := av_gwm 90 (by decide +kernel)
theorem kZ_J10 : Cond.initialized RJ10 ∈ av_gw := av_gwm 91 (by decide +kernel)
theorem kZ_J6 : Cond.initialized RJ6 ∈ av_gw := av_gwm 92 (by decide +kernel)
theorem kZ_J9 : Cond.initialized RJ9 ∈ av_gw := av_gwm 93 (by decide +kernel)
theorem kD_L_7 : Cond.classLink RL 7 RX11 ∈ av_gw := av_gwm 94 (by decide +kernel)
theorem kO_X11 : Cond.instantiable RX11 11 ∈ av_gw := av_gwm 95 (by decide +kernel)
theorem kM_L_9 : Cond.methodLink RL 9 yX11_init ∈ av_gw := av_gwm 96 (by decide +kernel)
theorem kI_X11_init : Cond.instanceMethod yX11_init ∈ av_gw := av_gwm 97 (by decide +kernel)
theorem kC_X11_init : Cond.code yX11_init cX11_init 3 none ∈ av_gw := av_gwm 98 (by decide +kernel)
theorem kM_X11_3 : Cond.methodLink RX11 3 objectInit ∈ av_gw := av_gwm 99 (by decide +kernel)
theorem kI_objectInit : Cond.instanceMethod objectInit ∈ av_gw := av_gwm 100 (by decide +kernel)
theorem kC_objectInit : Cond.code objectInit ⟨#[0xb1]⟩ 1 none ∈ av_gw := av_gwm 101 (by decide +kernel)
theorem kD_X11_9 : Cond.classLink RX11 9 RX4 ∈ av_gw := av_gwm 102 (by decide +kernel)
theorem kO_X4 : Cond.instantiable RX4 0 ∈ av_gw := av_gwm 104 (by decide +kernel)
theorem kQ_X11_11 : Cond.methodLinkNest RX11 11 yX4_init "AvalancheVote" ∈ av_nw := av_nwm 105 (by decide +kernel)
theorem kI_X4_init : Cond.instanceMethod yX4_init ∈ av_gw := av_gwm 106 (by decide +kernel)
theorem kC_X4_init : Cond.code yX4_init cX4_init 1 none ∈ av_gw := av_gwm 107 (by decide +kernel)
theorem kM_X4_1 : Cond.methodLink RX4 1 objectInit ∈ av_gw := av_gwm 108 (by decide +kernel)
theorem kU_X4 : Cond.superclass RX4 "java/lang/Object" ∈ av_gw := av_gwm 109 (by decide +kernel)
theorem kD_X11_12 : Cond.classLink RX11 12 RX0 ∈ av_gw := av_gwm 110 (by decide +kernel)
theorem kO_X0 : Cond.instantiable RX0 0 ∈ av_gw := av_gwm 111 (by decide +kernel)
theorem kQ_X11_14 : Cond.methodLinkNest RX11 14 yX0_init "AvalancheVote" ∈ av_nw := av_nwm 112 (by decide +kernel)
theorem kI_X0_init : Cond.instanceMethod yX0_init ∈ av_gw := av_gwm 113 (by decide +kernel)
theorem kC_X0_init : Cond.code yX0_init cX0_init 1 none ∈ av_gw := av_gwm 114 (by decide +kernel)
theorem kQ_X0_1 : Cond.methodLinkNest RX0 1 yX4_init "AvalancheVote" ∈ av_nw := av_nwm 115 (by decide +kernel)
theorem kU_X0 : Cond.superclass RX0 RX4 ∈ av_gw := av_gwm 116 (by decide +kernel)
theorem kD_X11_15 : Cond.classLink RX11 15 RX3 ∈ av_gw := av_gwm 117 (by decide +kernel)
theorem kO_X3 : Cond.instantiable RX3 0 ∈ av_gw := av_gwm 118 (by decide +kernel)
theorem kQ_X11_17 : Cond.methodLinkNest RX11 17 yX3_init "AvalancheVote" ∈ av_nw := av_nwm 119 (by decide +kernel)
theorem kI_X3_init : Cond.instanceMethod yX3_init ∈ av_gw := av_gwm 120 (by decide +kernel)
theorem kC_X3_init : Cond.code yX3_init cX3_init 1 none ∈ av_gw := av_gwm 121 (by decide +kernel)
theorem kQ_X3_1 : Cond.methodLinkNest RX3 1 yX4_init "AvalancheVote" ∈ av_nw := av_nwm 122 (by decide +kernel)
theorem kU_X3 : Cond.superclass RX3 RX4 ∈ av_gw := av_gwm 123 (by decide +kernel)
theorem kD_X11_18 : Cond.classLink RX11 18 RX6 ∈ av_gw := av_gwm 124 (by decide +kernel)
theorem kO_X6 : Cond.instantiable RX6 0 ∈ av_gw := av_gwm 125 (by decide +kernel)
theorem kQ_X11_20 : Cond.methodLinkNest RX11 20 yX6_init "AvalancheVote" ∈ av_nw := av_nwm 126 (by decide +kernel)
theorem kI_X6_init : Cond.instanceMethod yX6_init ∈ av_gw := av_gwm 127 (by decide +kernel)
theorem kC_X6_init : Cond.code yX6_init cX6_init 1 none ∈ av_gw := av_gwm 128 (by decide +kernel)
theorem kQ_X6_1 : Cond.methodLinkNest RX6 1 yX0_init "AvalancheVote" ∈ av_nw := av_nwm 129 (by decide +kernel)
theorem kU_X6 : Cond.superclass RX6 RX0 ∈ av_gw := av_gwm 130 (by decide +kernel)
theorem kD_X11_21 : Cond.classLink RX11 21 RX2 ∈ av_gw := av_gwm 131 (by decide +kernel)
theorem kO_X2 : Cond.instantiable RX2 0 ∈ av_gw := av_gwm 132 (by decide +kernel)
theorem kQ_X11_23 : Cond.methodLinkNest RX11 23 yX2_init "AvalancheVote" ∈ av_nw := av_nwm 133 (by decide +kernel)
theorem kI_X2_init : Cond.instanceMethod yX2_init ∈ av_gw := av_gwm 134 (by decide +kernel)
theorem kC_X2_init : Cond.code yX2_init cX2_init 1 none ∈ av_gw := av_gwm 135 (by decide +kernel)
theorem kQ_X2_3 : Cond.methodLinkNest RX2 3 yX4_init "AvalancheVote" ∈ av_nw := av_nwm 136 (by decide +kernel)
theorem kU_X2 : Cond.superclass RX2 RX4 ∈ av_gw := av_gwm 137 (by decide +kernel)
theorem kD_X11_24 : Cond.classLink RX11 24 RX10 ∈ av_gw := av_gwm 138 (by decide +kernel)
theorem kO_X10 : Cond.instantiable RX10 0 ∈ av_gw := av_gwm 139 (by decide +kernel)
theorem kQ_X11_26 : Cond.methodLinkNest RX11 26 yX10_init "AvalancheVote" ∈ av_nw := av_nwm 140 (by decide +kernel)
theorem kI_X10_init : Cond.instanceMethod yX10_init ∈ av_gw := av_gwm 141 (by decide +kernel)
theorem kC_X10_init : Cond.code yX10_init cX10_init 1 none ∈ av_gw := av_gwm 142 (by decide +kernel)
theorem kQ_X10_1 : Cond.methodLinkNest RX10 1 yX3_init "AvalancheVote" ∈ av_nw := av_nwm 143 (by decide +kernel)
theorem kU_X10 : Cond.superclass RX10 RX3 ∈ av_gw := av_gwm 144 (by decide +kernel)
theorem kD_X11_27 : Cond.classLink RX11 27 RX8 ∈ av_gw := av_gwm 145 (by decide +kernel)
theorem kO_X8 : Cond.instantiable RX8 7 ∈ av_gw := av_gwm 146 (by decide +kernel)
theorem kM_X11_29 : Cond.methodLink RX11 29 yX8_init ∈ av_gw := av_gwm 147 (by decide +kernel)
theorem kI_X8_init : Cond.instanceMethod yX8_init ∈ av_gw := av_gwm 148 (by decide +kernel)
theorem kC_X8_init : Cond.code yX8_init cX8_init 2 none ∈ av_gw := av_gwm 149 (by decide +kernel)
theorem kM_X8_3 : Cond.methodLink RX8 3 objectInit ∈ av_gw := av_gwm 150 (by decide +kernel)
theorem kD_X8_21 : Cond.classLink RX8 21 RX9 ∈ av_gw := av_gwm 151 (by decide +kernel)
theorem kO_X9 : Cond.instantiable RX9 8 ∈ av_gw := av_gwm 152 (by decide +kernel)
theorem kM_X8_23 : Cond.methodLink RX8 23 yX9_init ∈ av_gw := av_gwm 153 (by decide +kernel)
theorem kI_X9_init : Cond.instanceMethod yX9_init ∈ av_gw := av_gwm 154 (by decide +kernel)
theorem kC_X9_init : Cond.code yX9_init cX9_init 2 none ∈ av_gw := av_gwm 155 (by decide +kernel)
theorem kM_X9_3 : Cond.methodLink RX9 3 objectInit ∈ av_gw := av_gwm 156 (by decide +kernel)
theorem kF_X9_27 : Cond.fieldLink RX9 27 "AvalancheVote$Told" "kinds" "[LAvalancheVote$Plain;" ∈ av_gw := av_gwm 157 (by decide +kernel)
theorem kF_X9_31 : Cond.fieldLink RX9 31 "AvalancheVote$Told" "ledges" "I" ∈ av_gw := av_gwm 158 (by decide +kernel)
theorem kN_X8_39 : Cond.fieldLinkNest RX8 39 "AvalancheVote$Told" "ledges" "I" "AvalancheVote" ∈ av_nw := av_nwm 159 (by decide +kernel)
theorem kN_X11_67 : Cond.fieldLinkNest RX11 67 "AvalancheVote$Told" "ledges" "I" "AvalancheVote" ∈ av_nw := av_nwm 160 (by decide +kernel)
theorem kN_X5_69 : Cond.fieldLinkNest RX5 69 "AvalancheVote$Told" "ledges" "I" "AvalancheVote" ∈ av_nw := av_nwm 161 (by decide +kernel)
theorem kN_X7_86 : Cond.fieldLinkNest RX7 86 "AvalancheVote$Told" "ledges" "I" "AvalancheVote" ∈ av_nw := av_nwm 162 (by decide +kernel)
theorem kN_X1_85 : Cond.fieldLinkNest RX1 85 "AvalancheVote$Told" "ledges" "I" "AvalancheVote" ∈ av_nw := av_nwm 163 (by decide +kernel)
theorem kF_X9_9 : Cond.fieldLink RX9 9 "AvalancheVote$Told" "holds" "[I" ∈ av_gw := av_gwm 164 (by decide +kernel)
theorem kN_X8_67 : Cond.fieldLinkNest RX8 67 "AvalancheVote$Told" "holds" "[I" "AvalancheVote" ∈ av_nw := av_nwm 165 (by decide +kernel)
theorem kN_X11_152 : Cond.fieldLinkNest RX11 152 "AvalancheVote$Told" "holds" "[I" "AvalancheVote" ∈ av_nw := av_nwm 166 (by decide +kernel)
theorem kN_X7_116 : Cond.fieldLinkNest RX7 116 "AvalancheVote$Told" "holds" "[I" "AvalancheVote" ∈ av_nw := av_nwm 167 (by decide +kernel)
theorem kF_X9_15 : Cond.fieldLink RX9 15 "AvalancheVote$Told" "below" "[I" ∈ av_gw := av_gwm 168 (by decide +kernel)
theorem kN_X8_70 : Cond.fieldLinkNest RX8 70 "AvalancheVote$Told" "below" "[I" "AvalancheVote" ∈ av_nw := av_nwm 169 (by decide +kernel)
theorem kN_X7_110 : Cond.fieldLinkNest RX7 110 "AvalancheVote$Told" "below" "[I" "AvalancheVote" ∈ av_nw := av_nwm 170 (by decide +kernel)
theorem kN_X11_162 : Cond.fieldLinkNest RX11 162 "AvalancheVote$Told" "below" "[I" "AvalancheVote" ∈ av_nw := av_nwm 171 (by decide +kernel)
theorem kN_X8_43 : Cond.fieldLinkNest RX8 43 "AvalancheVote$Told" "voters" "I" "AvalancheVote" ∈ av_nw := av_nwm 172 (by decide +kernel)
theorem kF_X9_41 : Cond.fieldLink RX9 41 "AvalancheVote$Told" "voters" "I" ∈ av_gw := av_gwm 173 (by decide +kernel)
theorem kN_X1_46 : Cond.fieldLinkNest RX1 46 "AvalancheVote$Told" "voters" "I" "AvalancheVote" ∈ av_nw := av_nwm 174 (by decide +kernel)
theorem kN_X11_96 : Cond.fieldLinkNest RX11 96 "AvalancheVote$Told" "voters" "I" "AvalancheVote" ∈ av_nw := av_nwm 175 (by decide +kernel)
theorem kN_X5_82 : Cond.fieldLinkNest RX5 82 "AvalancheVote$Told" "voters" "I" "AvalancheVote" ∈ av_nw := av_nwm 176 (by decide +kernel)
theorem kN_X7_47 : Cond.fieldLinkNest RX7 47 "AvalancheVote$Told" "voters" "I" "AvalancheVote" ∈ av_nw := av_nwm 177 (by decide +kernel)
theorem kF_X9_18 : Cond.fieldLink RX9 18 "AvalancheVote$Told" "kind" "[I" ∈ av_gw := av_gwm 178 (by decide +kernel)
theorem kN_X8_79 : Cond.fieldLinkNest RX8 79 "AvalancheVote$Told" "kind" "[I" "AvalancheVote" ∈ av_nw := av_nwm 179 (by decide +kernel)
theorem kN_X7_56 : Cond.fieldLinkNest RX7 56 "AvalancheVote$Told" "kind" "[I" "AvalancheVote" ∈ av_nw := av_nwm 180 (by decide +kernel)
theorem kN_X11_165 : Cond.fieldLinkNest RX11 165 "AvalancheVote$Told" "kind" "[I" "AvalancheVote" ∈ av_nw := av_nwm 181 (by decide +kernel)
theorem kF_X9_21 : Cond.fieldLink RX9 21 "AvalancheVote$Told" "goal" "[I" ∈ av_gw := av_gwm 182 (by decide +kernel)
theorem kN_X8_82 : Cond.fieldLinkNest RX8 82 "AvalancheVote$Told" "goal" "[I" "AvalancheVote" ∈ av_nw := av_nwm 183 (by decide +kernel)
theorem kN_X7_66 : Cond.fieldLinkNest RX7 66 "AvalancheVote$Told" "goal" "[I" "AvalancheVote" ∈ av_nw := av_nwm 184 (by decide +kernel)
theorem kN_X11_168 : Cond.fieldLinkNest RX11 168 "AvalancheVote$Told" "goal" "[I" "AvalancheVote" ∈ av_nw := av_nwm 185 (by decide +kernel)
theorem kF_X9_24 : Cond.fieldLink RX9 24 "AvalancheVote$Told" "stone" "[I" ∈ av_gw := av_gwm 186 (by decide +kernel)
theorem kN_X8_85 : Cond.fieldLinkNest RX8 85 "AvalancheVote$Told" "stone" "[I" "AvalancheVote" ∈ av_nw := av_nwm 187 (by decide +kernel)
theorem kN_X7_63 : Cond.fieldLinkNest RX7 63 "AvalancheVote$Told" "stone" "[I" "AvalancheVote" ∈ av_nw := av_nwm 188 (by decide +kernel)
theorem kN_X11_171 : Cond.fieldLinkNest RX11 171 "AvalancheVote$Told" "stone" "[I" "AvalancheVote" ∈ av_nw := av_nwm 189 (by decide +kernel)
theorem kU_X9 : Cond.superclass RX9 "java/lang/Object" ∈ av_gw := av_gwm 206 (by decide +kernel)
theorem kD_X8_30 : Cond.classLink RX8 30 RX7 ∈ av_gw := av_gwm 208 (by decide +kernel)
theorem kO_X7 : Cond.instantiable RX7 9 ∈ av_gw := av_gwm 209 (by decide +kernel)
theorem kM_X8_32 : Cond.methodLink RX8 32 yX7_init ∈ av_gw := av_gwm 210 (by decide +kernel)
theorem kI_X7_init : Cond.instanceMethod yX7_init ∈ av_gw := av_gwm 211 (by decide +kernel)
theorem kC_X7_init : Cond.code yX7_init cX7_init 2 none ∈ av_gw := av_gwm 212 (by decide +kernel)
theorem kM_X7_3 : Cond.methodLink RX7 3 objectInit ∈ av_gw := av_gwm 213 (by decide +kernel)
theorem kF_X7_25 : Cond.fieldLink RX7 25 "AvalancheVote$Slope" "told" "LAvalancheVote$Told;" ∈ av_gw := av_gwm 214 (by decide +kernel)
theorem kN_X2_13 : Cond.fieldLinkNest RX2 13 "AvalancheVote$Slope" "told" "LAvalancheVote$Told;" "AvalancheVote" ∈ av_nw := av_nwm 215 (by decide +kernel)
theorem kF_X7_9 : Cond.fieldLink RX7 9 "AvalancheVote$Slope" "snow" "[I" ∈ av_gw := av_gwm 216 (by decide +kernel)
theorem kN_X8_73 : Cond.fieldLinkNest RX8 73 "AvalancheVote$Slope" "snow" "[I" "AvalancheVote" ∈ av_nw := av_nwm 217 (by decide +kernel)
theorem kN_X11_156 : Cond.fieldLinkNest RX11 156 "AvalancheVote$Slope" "snow" "[I" "AvalancheVote" ∈ av_nw := av_nwm 218 (by decide +kernel)
theorem kF_X7_15 : Cond.fieldLink RX7 15 "AvalancheVote$Slope" "stones" "[I" ∈ av_gw := av_gwm 219 (by decide +kernel)
theorem kN_X8_76 : Cond.fieldLinkNest RX8 76 "AvalancheVote$Slope" "stones" "[I" "AvalancheVote" ∈ av_nw := av_nwm 220 (by decide +kernel)
theorem kN_X11_159 : Cond.fieldLinkNest RX11 159 "AvalancheVote$Slope" "stones" "[I" "AvalancheVote" ∈ av_nw := av_nwm 221 (by decide +kernel)
theorem kN_X10_7 : Cond.fieldLinkNest RX10 7 "AvalancheVote$Slope" "votes" "I" "AvalancheVote" ∈ av_nw := av_nwm 222 (by decide +kernel)
theorem kF_X7_35 : Cond.fieldLink RX7 35 "AvalancheVote$Slope" "votes" "I" ∈ av_gw := av_gwm 223 (by decide +kernel)
theorem kN_X11_149 : Cond.fieldLinkNest RX11 149 "AvalancheVote$Slope" "votes" "I" "AvalancheVote" ∈ av_nw := av_nwm 224 (by decide +kernel)
theorem kF_X7_18 : Cond.fieldLink RX7 18 "AvalancheVote$Slope" "winner" "I" ∈ av_gw := av_gwm 225 (by decide +kernel)
theorem kN_X1_63 : Cond.fieldLinkNest RX1 63 "AvalancheVote$Slope" "winner" "I" "AvalancheVote" ∈ av_nw := av_nwm 226 (by decide +kernel)
theorem kN_X8_106 : Cond.fieldLinkNest RX8 106 "AvalancheVote$Slope" "winner" "I" "AvalancheVote" ∈ av_nw := av_nwm 227 (by decide +kernel)
theorem kN_X11_181 : Cond.fieldLinkNest RX11 181 "AvalancheVote$Slope" "winner" "I" "AvalancheVote" ∈ av_nw := av_nwm 228 (by decide +kernel)
theorem kF_X7_38 : Cond.fieldLink RX7 38 "AvalancheVote$Slope" "coalition" "I" ∈ av_gw := av_gwm 229 (by decide +kernel)
theorem kN_X8_109 : Cond.fieldLinkNest RX8 109 "AvalancheVote$Slope" "coalition" "I" "AvalancheVote" ∈ av_nw := av_nwm 230 (by decide +kernel)
theorem kN_X11_184 : Cond.fieldLinkNest RX11 184 "AvalancheVote$Slope" "coalition" "I" "AvalancheVote" ∈ av_nw := av_nwm 231 (by decide +kernel)
theorem kN_X11_134 : Cond.fieldLinkNest RX11 134 "AvalancheVote$Slope" "fell" "I" "AvalancheVote" ∈ av_nw := av_nwm 232 (by decide +kernel)
theorem kF_X7_89 : Cond.fieldLink RX7 89 "AvalancheVote$Slope" "fell" "I" ∈ av_gw := av_gwm 233 (by decide +kernel)
theorem kN_X1_99 : Cond.fieldLinkNest RX1 99 "AvalancheVote$Slope" "fell" "I" "AvalancheVote" ∈ av_nw := av_nwm 234 (by decide +kernel)
theorem kF_X7_92 : Cond.fieldLink RX7 92 "AvalancheVote$Slope" "covered" "I" ∈ av_gw := av_gwm 235 (by decide +kernel)
theorem kN_X1_115 : Cond.fieldLinkNest RX1 115 "AvalancheVote$Slope" "covered" "I" "AvalancheVote" ∈ av_nw := av_nwm 236 (by decide +kernel)
theorem kF_X7_22 : Cond.fieldLink RX7 22 "AvalancheVote$Slope" "turn" "[I" ∈ av_gw := av_gwm 237 (by decide +kernel)
theorem kU_X7 : Cond.superclass RX7 "java/lang/Object" ∈ av_gw := av_gwm 256 (by decide +kernel)
theorem kN_X1_21 : Cond.fieldLinkNest RX1 21 "AvalancheVote$State" "told" "LAvalancheVote$Told;" "AvalancheVote" ∈ av_nw := av_nwm 257 (by decide +kernel)
theorem kF_X8_26 : Cond.fieldLink RX8 26 "AvalancheVote$State" "told" "LAvalancheVote$Told;" ∈ av_gw := av_gwm 258 (by decide +kernel)
theorem kN_X11_63 : Cond.fieldLinkNest RX11 63 "AvalancheVote$State" "told" "LAvalancheVote$Told;" "AvalancheVote" ∈ av_nw := av_nwm 259 (by decide +kernel)
theorem kN_X5_65 : Cond.fieldLinkNest RX5 65 "AvalancheVote$State" "told" "LAvalancheVote$Told;" "AvalancheVote" ∈ av_nw := av_nwm 260 (by decide +kernel)
theorem kN_X1_28 : Cond.fieldLinkNest RX1 28 "AvalancheVote$State" "slope" "LAvalancheVote$Slope;" "AvalancheVote" ∈ av_nw := av_nwm 261 (by decide +kernel)
theorem kF_X8_35 : Cond.fieldLink RX8 35 "AvalancheVote$State" "slope" "LAvalancheVote$Slope;" ∈ av_gw := av_gwm 262 (by decide +kernel)
theorem kN_X11_125 : Cond.fieldLinkNest RX11 125 "AvalancheVote$State" "slope" "LAvalancheVote$Slope;" "AvalancheVote" ∈ av_nw := av_nwm 263 (by decide +kernel)
theorem kF_X8_9 : Cond.fieldLink RX8 9 "AvalancheVote$State" "past" "[I" ∈ av_gw := av_gwm 264 (by decide +kernel)
theorem kF_X8_49 : Cond.fieldLink RX8 49 "AvalancheVote$State" "pasts" "I" ∈ av_gw := av_gwm 265 (by decide +kernel)
theorem kN_X11_140 : Cond.fieldLinkNest RX11 140 "AvalancheVote$State" "pasts" "I" "AvalancheVote" ∈ av_nw := av_nwm 266 (by decide +kernel)
theorem kF_X8_15 : Cond.fieldLink RX8 15 "AvalancheVote$State" "seenLoad" "[I" ∈ av_gw := av_gwm 267 (by decide +kernel)
theorem kF_X8_18 : Cond.fieldLink RX8 18 "AvalancheVote$State" "seenBore" "[I" ∈ av_gw := av_gwm 268 (by decide +kernel)
theorem kF_X8_52 : Cond.fieldLink RX8 52 "AvalancheVote$State" "seens" "I" ∈ av_gw := av_gwm 269 (by decide +kernel)
theorem kN_X11_212 : Cond.fieldLinkNest RX11 212 "AvalancheVote$State" "seens" "I" "AvalancheVote" ∈ av_nw := av_nwm 270 (by decide +kernel)
theorem kU_X8 : Cond.superclass RX8 "java/lang/Object" ∈ av_gw := av_gwm 285 (by decide +kernel)
theorem kD_X11_43 : Cond.classLink RX11 43 RX5 ∈ av_gw := av_gwm 287 (by decide +kernel)
theorem kO_X5 : Cond.instantiable RX5 5 ∈ av_gw := av_gwm 288 (by decide +kernel)
theorem kQ_X11_45 : Cond.methodLinkNest RX11 45 yX5_init "AvalancheVote" ∈ av_nw := av_nwm 289 (by decide +kernel)
theorem kI_X5_init : Cond.instanceMethod yX5_init ∈ av_gw := av_gwm 290 (by decide +kernel)
theorem kC_X5_init : Cond.code yX5_init cX5_init 1 none ∈ av_gw := av_gwm 291 (by decide +kernel)
theorem kM_X5_3 : Cond.methodLink RX5 3 objectInit ∈ av_gw := av_gwm 292 (by decide +kernel)
theorem kF_X5_9 : Cond.fieldLink RX5 9 "AvalancheVote$Reader" "text" "[B" ∈ av_gw := av_gwm 293 (by decide +kernel)
theorem kF_X5_19 : Cond.fieldLink RX5 19 "AvalancheVote$Reader" "length" "I" ∈ av_gw := av_gwm 294 (by decide +kernel)
theorem kN_X11_102 : Cond.fieldLinkNest RX11 102 "AvalancheVote$Reader" "length" "I" "AvalancheVote" ∈ av_nw := av_nwm 295 (by decide +kernel)
theorem kF_X5_27 : Cond.fieldLink RX5 27 "AvalancheVote$Reader" "at" "I" ∈ av_gw := av_gwm 296 (by decide +kernel)
theorem kF_X5_46 : Cond.fieldLink RX5 46 "AvalancheVote$Reader" "start" "I" ∈ av_gw := av_gwm 297 (by decide +kernel)
theorem kF_X5_15 : Cond.fieldLink RX5 15 "AvalancheVote$Reader" "fault" "I" ∈ av_gw := av_gwm 298 (by decide +kernel)
theorem kN_X11_113 : Cond.fieldLinkNest RX11 113 "AvalancheVote$Reader" "fault" "I" "AvalancheVote" ∈ av_nw := av_nwm 299 (by decide +kernel)
theorem kU_X5 : Cond.superclass RX5 "java/lang/Object" ∈ av_gw := av_gwm 310 (by decide +kernel)
theorem kD_X11_50 : Cond.classLink RX11 50 RX1 ∈ av_gw := av_gwm 312 (by decide +kernel)
theorem kO_X1 : Cond.instantiable RX1 6 ∈ av_gw := av_gwm 313 (by decide +kernel)
theorem kM_X11_52 : Cond.methodLink RX11 52 yX1_init ∈ av_gw := av_gwm 314 (by decide +kernel)
theorem kI_X1_init : Cond.instanceMethod yX1_init ∈ av_gw := av_gwm 315 (by decide +kernel)
theorem kC_X1_init : Cond.code yX1_init cX1_init 3 none ∈ av_gw := av_gwm 316 (by decide +kernel)
theorem kM_X1_3 : Cond.methodLink RX1 3 objectInit ∈ av_gw := av_gwm 317 (by decide +kernel)
theorem kD_X1_9 : Cond.classLink RX1 9 RX7 ∈ av_gw := av_gwm 318 (by decide +kernel)
theorem kM_X1_35 : Cond.methodLink RX1 35 yX7_init ∈ av_gw := av_gwm 320 (by decide +kernel)
theorem kF_X1_27 : Cond.fieldLink RX1 27 "AvalancheVote$Foresight" "told" "LAvalancheVote$Told;" ∈ av_gw := av_gwm 321 (by decide +kernel)
theorem kF_X1_32 : Cond.fieldLink RX1 32 "AvalancheVote$Foresight" "real" "LAvalancheVote$Slope;" ∈ av_gw := av_gwm 322 (by decide +kernel)
theorem kF_X1_11 : Cond.fieldLink RX1 11 "AvalancheVote$Foresight" "rows" "[LAvalancheVote$Slope;" ∈ av_gw := av_gwm 323 (by decide +kernel)
theorem kF_X1_17 : Cond.fieldLink RX1 17 "AvalancheVote$Foresight" "order" "[I" ∈ av_gw := av_gwm 324 (by decide +kernel)
theorem kN_X11_194 : Cond.fieldLinkNest RX11 194 "AvalancheVote$Foresight" "order" "[I" "AvalancheVote" ∈ av_nw := av_nwm 325 (by decide +kernel)
theorem kF_X1_56 : Cond.fieldLink RX1 56 "AvalancheVote$Foresight" "won" "I" ∈ av_gw := av_gwm 326 (by decide +kernel)
theorem kF_X1_92 : Cond.fieldLink RX1 92 "AvalancheVote$Foresight" "firstLedge" "I" ∈ av_gw := av_gwm 327 (by decide +kernel)
theorem kN_X11_200 : Cond.fieldLinkNest RX11 200 "AvalancheVote$Foresight" "firstLedge" "I" "AvalancheVote" ∈ av_nw := av_nwm 328 (by decide +kernel)
theorem kU_X1 : Cond.superclass RX1 "java/lang/Object" ∈ av_gw := av_gwm 341 (by decide +kernel)
theorem kF_X11_32 : Cond.fieldLink RX11 32 "AvalancheVote" "now" "LAvalancheVote$State;" ∈ av_gw := av_gwm 342 (by decide +kernel)
theorem kF_X11_36 : Cond.fieldLink RX11 36 "AvalancheVote" "draft" "LAvalancheVote$State;" ∈ av_gw := av_gwm 343 (by decide +kernel)
theorem kF_X11_39 : Cond.fieldLink RX11 39 "AvalancheVote" "images" "[LAvalancheVote$State;" ∈ av_gw := av_gwm 344 (by decide +kernel)
theorem kF_X11_251 : Cond.fieldLink RX11 251 "AvalancheVote" "keptImages" "I" ∈ av_gw := av_gwm 345 (by decide +kernel)
theorem kF_X11_46 : Cond.fieldLink RX11 46 "AvalancheVote" "reader" "LAvalancheVote$Reader;" ∈ av_gw := av_gwm 346 (by decide +kernel)
theorem kF_X11_55 : Cond.fieldLink RX11 55 "AvalancheVote" "foresight" "LAvalancheVote$Foresight;" ∈ av_gw := av_gwm 347 (by decide +kernel)
theorem kF_X11_244 : Cond.fieldLink RX11 244 "AvalancheVote" "fractionAbove" "J" ∈ av_gw := av_gwm 348 (by decide +kernel)
theorem kF_X11_59 : Cond.fieldLink RX11 59 "AvalancheVote" "fractionBelow" "J" ∈ av_gw := av_gwm 349 (by decide +kernel)
theorem kF_X11_258 : Cond.fieldLink RX11 258 "AvalancheVote" "bads" "I" ∈ av_gw := av_gwm 350 (by decide +kernel)
theorem kF_X11_261 : Cond.fieldLink RX11 261 "AvalancheVote" "nos" "I" ∈ av_gw := av_gwm 351 (by decide +kernel)
theorem kF_X11_264 : Cond.fieldLink RX11 264 "AvalancheVote" "fulls" "I" ∈ av_gw := av_gwm 352 (by decide +kernel)
theorem kU_X11 : Cond.superclass RX11 "java/lang/Object" ∈ av_gw := av_gwm 375 (by decide +kernel)
theorem kM_L_13 : Cond.methodLink RL 13 yX11_mountain ∈ av_gw := av_gwm 376 (by decide +kernel)
theorem kI_X11_mountain : Cond.instanceMethod yX11_mountain ∈ av_gw := av_gwm 377 (by decide +kernel)
theorem kS_X11_X11_mountain_X11_mountain : Cond.selects RX11 yX11_mountain yX11_mountain ∈ av_gw := av_gwm 378 (by decide +kernel)
theorem kC_X11_mountain : Cond.code yX11_mountain cX11_mountain 2 (some .int) ∈ av_gw := av_gwm 379 (by decide +kernel)
theorem kM_X11_73 : Cond.methodLink RX11 73 yX8_startAnew ∈ av_gw := av_gwm 380 (by decide +kernel)
theorem kI_X8_startAnew : Cond.instanceMethod yX8_startAnew ∈ av_gw := av_gwm 381 (by decide +kernel)
theorem kS_X8_X8_startAnew_X8_startAnew : Cond.selects RX8 yX8_startAnew yX8_startAnew ∈ av_gw := av_gwm 382 (by decide +kernel)
theorem kC_X8_startAnew : Cond.code yX8_startAnew cX8_startAnew 1 none ∈ av_gw := av_gwm 383 (by decide +kernel)
theorem kM_X8_46 : Cond.methodLink RX8 46 yX7_startAnew ∈ av_gw := av_gwm 384 (by decide +kernel)
theorem kI_X7_startAnew : Cond.instanceMethod yX7_startAnew ∈ av_gw := av_gwm 385 (by decide +kernel)
theorem kS_X7_X7_startAnew_X7_startAnew : Cond.selects RX7 yX7_startAnew yX7_startAnew ∈ av_gw := av_gwm 386 (by decide +kernel)
theorem kC_X7_startAnew : Cond.code yX7_startAnew cX7_startAnew 1 none ∈ av_gw := av_gwm 387 (by decide +kernel)
theorem kM_X7_41 : Cond.methodLink RX7 41 yJ7_fill_53178 ∈ av_gw := av_gwm 388 (by decide +kernel)
theorem kT_J7_fill_53178 : Cond.static yJ7_fill_53178 ∈ av_gw := av_gwm 389 (by decide +kernel)
theorem kC_J7_fill_53178 : Cond.code yJ7_fill_53178 cJ7_fill_53178 4 none ∈ av_gw := av_gwm 390 (by decide +kernel)
theorem kM_L_18 : Cond.methodLink RL 18 yX11_ledge ∈ av_gw := av_gwm 391 (by decide +kernel)
theorem kI_X11_ledge : Cond.instanceMethod yX11_ledge ∈ av_gw := av_gwm 392 (by decide +kernel)
theorem kS_X11_X11_ledge_X11_ledge : Cond.selects RX11 yX11_ledge yX11_ledge ∈ av_gw := av_gwm 393 (by decide +kernel)
theorem kC_X11_ledge : Cond.code yX11_ledge cX11_ledge 4 (some .int) ∈ av_gw := av_gwm 394 (by decide +kernel)
theorem kM_X11_76 : Cond.methodLink RX11 76 yX11_within ∈ av_gw := av_gwm 395 (by decide +kernel)
theorem kT_X11_within : Cond.static yX11_within ∈ av_gw := av_gwm 396 (by decide +kernel)
theorem kC_X11_within : Cond.code yX11_within cX11_within 3 (some .boolean) ∈ av_gw := av_gwm 397 (by decide +kernel)
theorem kM_X11_80 : Cond.methodLink RX11 80 yX11_bad ∈ av_gw := av_gwm 398 (by decide +kernel)
theorem kI_X11_bad : Cond.instanceMethod yX11_bad ∈ av_gw := av_gwm 400 (by decide +kernel)
theorem kC_X11_bad : Cond.code yX11_bad cX11_bad 2 (some .int) ∈ av_gw := av_gwm 401 (by decide +kernel)
theorem kM_X11_84 : Cond.methodLink RX11 84 yX11_full ∈ av_gw := av_gwm 402 (by decide +kernel)
theorem kI_X11_full : Cond.instanceMethod yX11_full ∈ av_gw := av_gwm 404 (by decide +kernel)
theorem kC_X11_full : Cond.code yX11_full cX11_full 1 (some .int) ∈ av_gw := av_gwm 405 (by decide +kernel)
theorem kM_X11_88 : Cond.methodLink RX11 88 yX8_addLedge ∈ av_gw := av_gwm 406 (by decide +kernel)
theorem kI_X8_addLedge : Cond.instanceMethod yX8_addLedge ∈ av_gw := av_gwm 407 (by decide +kernel)
theorem kS_X8_X8_addLedge_X8_addLedge : Cond.selects RX8 yX8_addLedge yX8_addLedge ∈ av_gw := av_gwm 408 (by decide +kernel)
theorem kC_X8_addLedge : Cond.code yX8_addLedge cX8_addLedge 5 (some .int) ∈ av_gw := av_gwm 409 (by decide +kernel)
theorem kM_L_23 : Cond.methodLink RL 23 yX11_voter ∈ av_gw := av_gwm 410 (by decide +kernel)
theorem kI_X11_voter : Cond.instanceMethod yX11_voter ∈ av_gw := av_gwm 411 (by decide +kernel)
theorem kS_X11_X11_voter_X11_voter : Cond.selects RX11 yX11_voter yX11_voter ∈ av_gw := av_gwm 412 (by decide +kernel)
theorem kC_X11_voter : Cond.code yX11_voter cX11_voter 4 (some .int) ∈ av_gw := av_gwm 413 (by decide +kernel)
theorem kM_X11_92 : Cond.methodLink RX11 92 yX11_isLedge ∈ av_gw := av_gwm 414 (by decide +kernel)
theorem kI_X11_isLedge : Cond.instanceMethod yX11_isLedge ∈ av_gw := av_gwm 416 (by decide +kernel)
theorem kC_X11_isLedge : Cond.code yX11_isLedge cX11_isLedge 2 (some .boolean) ∈ av_gw := av_gwm 417 (by decide +kernel)
theorem kM_X11_99 : Cond.methodLink RX11 99 yX8_addVoter ∈ av_gw := av_gwm 418 (by decide +kernel)
theorem kI_X8_addVoter : Cond.instanceMethod yX8_addVoter ∈ av_gw := av_gwm 419 (by decide +kernel)
theorem kS_X8_X8_addVoter_X8_addVoter : Cond.selects RX8 yX8_addVoter yX8_addVoter ∈ av_gw := av_gwm 420 (by decide +kernel)
theorem kC_X8_addVoter : Cond.code yX8_addVoter cX8_addVoter 5 (some .int) ∈ av_gw := av_gwm 421 (by decide +kernel)
theorem kM_L_27 : Cond.methodLink RL 27 yX11_type ∈ av_gw := av_gwm 422 (by decide +kernel)
theorem kI_X11_type : Cond.instanceMethod yX11_type ∈ av_gw := av_gwm 423 (by decide +kernel)
theorem kS_X11_X11_type_X11_type : Cond.selects RX11 yX11_type yX11_type ∈ av_gw := av_gwm 424 (by decide +kernel)
theorem kC_X11_type : Cond.code yX11_type cX11_type 2 (some .int) ∈ av_gw := av_gwm 425 (by decide +kernel)
theorem kM_X11_105 : Cond.methodLink RX11 105 yX5_append ∈ av_gw := av_gwm 426 (by decide +kernel)
theorem kI_X5_append : Cond.instanceMethod yX5_append ∈ av_gw := av_gwm 427 (by decide +kernel)
theorem kS_X5_X5_append_X5_append : Cond.selects RX5 yX5_append yX5_append ∈ av_gw := av_gwm 428 (by decide +kernel)
theorem kC_X5_append : Cond.code yX5_append cX5_append 2 none ∈ av_gw := av_gwm 429 (by decide +kernel)
theorem kM_L_32 : Cond.methodLink RL 32 yX11_clear ∈ av_gw := av_gwm 430 (by decide +kernel)
theorem kI_X11_clear : Cond.instanceMethod yX11_clear ∈ av_gw := av_gwm 431 (by decide +kernel)
theorem kS_X11_X11_clear_X11_clear : Cond.selects RX11 yX11_clear yX11_clear ∈ av_gw := av_gwm 432 (by decide +kernel)
theorem kC_X11_clear : Cond.code yX11_clear cX11_clear 2 (some .int) ∈ av_gw := av_gwm 433 (by decide +kernel)
theorem kM_L_36 : Cond.methodLink RL 36 yX11_read ∈ av_gw := av_gwm 434 (by decide +kernel)
theorem kI_X11_read : Cond.instanceMethod yX11_read ∈ av_gw := av_gwm 435 (by decide +kernel)
theorem kS_X11_X11_read_X11_read : Cond.selects RX11 yX11_read yX11_read ∈ av_gw := av_gwm 436 (by decide +kernel)
theorem kC_X11_read : Cond.code yX11_read cX11_read 2 (some .int) ∈ av_gw := av_gwm 437 (by decide +kernel)
theorem kM_X11_109 : Cond.methodLink RX11 109 yX5_readInto ∈ av_gw := av_gwm 438 (by decide +kernel)
theorem kI_X5_readInto : Cond.instanceMethod yX5_readInto ∈ av_gw := av_gwm 439 (by decide +kernel)
theorem kS_X5_X5_readInto_X5_readInto : Cond.selects RX5 yX5_readInto yX5_readInto ∈ av_gw := av_gwm 440 (by decide +kernel)
theorem kC_X5_readInto : Cond.code yX5_readInto cX5_readInto 4 (some .int) ∈ av_gw := av_gwm 441 (by decide +kernel)
theorem kM_X5_22 : Cond.methodLink RX5 22 yX8_startAnew ∈ av_gw := av_gwm 442 (by decide +kernel)
theorem kM_X5_30 : Cond.methodLink RX5 30 yX5_readItem ∈ av_gw := av_gwm 443 (by decide +kernel)
theorem kI_X5_readItem : Cond.instanceMethod yX5_readItem ∈ av_gw := av_gwm 445 (by decide +kernel)
theorem kC_X5_readItem : Cond.code yX5_readItem cX5_readItem 3 none ∈ av_gw := av_gwm 446 (by decide +kernel)
theorem kM_X5_37 : Cond.methodLink RX5 37 yX5_takeWord ∈ av_gw := av_gwm 447 (by decide +kernel)
theorem kI_X5_takeWord : Cond.instanceMethod yX5_takeWord ∈ av_gw := av_gwm 449 (by decide +kernel)
theorem kC_X5_takeWord : Cond.code yX5_takeWord cX5_takeWord 1 none ∈ av_gw := av_gwm 450 (by decide +kernel)
theorem kM_X5_34 : Cond.methodLink RX5 34 yX5_skipBlanks ∈ av_gw := av_gwm 451 (by decide +kernel)
theorem kI_X5_skipBlanks : Cond.instanceMethod yX5_skipBlanks ∈ av_gw := av_gwm 453 (by decide +kernel)
theorem kC_X5_skipBlanks : Cond.code yX5_skipBlanks cX5_skipBlanks 1 none ∈ av_gw := av_gwm 454 (by decide +kernel)
theorem kM_X5_88 : Cond.methodLink RX5 88 yX5_isBetween ∈ av_gw := av_gwm 455 (by decide +kernel)
theorem kI_X5_isBetween : Cond.instanceMethod yX5_isBetween ∈ av_gw := av_gwm 457 (by decide +kernel)
theorem kC_X5_isBetween : Cond.code yX5_isBetween cX5_isBetween 3 (some .boolean) ∈ av_gw := av_gwm 458 (by decide +kernel)
theorem kM_X5_42 : Cond.methodLink RX5 42 yX5_wordIs ∈ av_gw := av_gwm 460 (by decide +kernel)
theorem kI_X5_wordIs : Cond.instanceMethod yX5_wordIs ∈ av_gw := av_gwm 462 (by decide +kernel)
theorem kC_X5_wordIs : Cond.code yX5_wordIs cX5_wordIs 3 (some .boolean) ∈ av_gw := av_gwm 463 (by decide +kernel)
theorem kM_X5_92 : Cond.methodLink RX5 92 yJ0_length_8abf5 ∈ av_gw := av_gwm 464 (by decide +kernel)
theorem kI_J0_length_8abf5 : Cond.instanceMethod yJ0_length_8abf5 ∈ av_gw := av_gwm 465 (by decide +kernel)
theorem kS_J0_J0_length_8abf5_J0_length_8abf5 : Cond.selects RJ0 yJ0_length_8abf5 yJ0_length_8abf5 ∈ av_gw := av_gwm 466 (by decide +kernel)
theorem kC_J0_length_8abf5 : Cond.code yJ0_length_8abf5 cJ0_length_8abf5 1 (some .int) ∈ av_gw := av_gwm 467 (by decide +kernel)
theorem kM_J0_335 : Cond.methodLink RJ0 335 yJ0_coder_7d493 ∈ av_gw := av_gwm 468 (by decide +kernel)
theorem kI_J0_coder_7d493 : Cond.instanceMethod yJ0_coder_7d493 ∈ av_gw := av_gwm 469 (by decide +kernel)
theorem kS_J0_J0_coder_7d493_J0_coder_7d493 : Cond.selects RJ0 yJ0_coder_7d493 yJ0_coder_7d493 ∈ av_gw := av_gwm 470 (by decide +kernel)
theorem kC_J0_coder_7d493 : Cond.code yJ0_coder_7d493 cJ0_coder_7d493 1 (some .byte) ∈ av_gw := av_gwm 471 (by decide +kernel)
theorem kF_J0_38 : Cond.fieldLink RJ0 38 "java/lang/String" "COMPACT_STRINGS" "Z" ∈ av_gw := av_gwm 472 (by decide +kernel)
theorem kM_X5_97 : Cond.methodLink RX5 97 yJ0_charAt_5068e ∈ av_gw := av_gwm 474 (by decide +kernel)
theorem kI_J0_charAt_5068e : Cond.instanceMethod yJ0_charAt_5068e ∈ av_gw := av_gwm 475 (by decide +kernel)
theorem kS_J0_J0_charAt_5068e_J0_charAt_5068e : Cond.selects RJ0 yJ0_charAt_5068e yJ0_charAt_5068e ∈ av_gw := av_gwm 476 (by decide +kernel)
theorem kC_J0_charAt_5068e : Cond.code yJ0_charAt_5068e cJ0_charAt_5068e 2 (some .char) ∈ av_gw := av_gwm 477 (by decide +kernel)
theorem kM_J0_492 : Cond.methodLink RJ0 492 yJ0_isLatin1_aae02 ∈ av_gw := av_gwm 478 (by decide +kernel)
theorem kI_J0_isLatin1_aae02 : Cond.instanceMethod yJ0_isLatin1_aae02 ∈ av_gw := av_gwm 479 (by decide +kernel)
theorem kS_J0_J0_isLatin1_aae02_J0_isLatin1_aae02 : Cond.selects RJ0 yJ0_isLatin1_aae02 yJ0_isLatin1_aae02 ∈ av_gw := av_gwm 480 (by decide +kernel)
theorem kC_J0_isLatin1_aae02 : Cond.code yJ0_isLatin1_aae02 cJ0_isLatin1_aae02 1 (some .boolean) ∈ av_gw := av_gwm 481 (by decide +kernel)
theorem kM_J0_495 : Cond.methodLink RJ0 495 yJ1_charAt_3b067 ∈ av_gw := av_gwm 482 (by decide +kernel)
theorem kT_J1_charAt_3b067 : Cond.static yJ1_charAt_3b067 ∈ av_gw := av_gwm 483 (by decide +kernel)
theorem kC_J1_charAt_3b067 : Cond.code yJ1_charAt_3b067 cJ1_charAt_3b067 2 (some .char) ∈ av_gw := av_gwm 484 (by decide +kernel)
theorem kM_J1_9 : Cond.methodLink RJ1 9 yJ0_checkIndex_df160 ∈ av_gw := av_gwm 485 (by decide +kernel)
theorem kT_J0_checkIndex_df160 : Cond.static yJ0_checkIndex_df160 ∈ av_gw := av_gwm 486 (by decide +kernel)
theorem kC_J0_checkIndex_df160 : Cond.code yJ0_checkIndex_df160 cJ0_checkIndex_df160 2 none ∈ av_gw := av_gwm 487 (by decide +kernel)
theorem kF_J0_1053 : Cond.fieldLink RJ0 1053 "jdk/internal/util/Preconditions" "SIOOBE_FORMATTER" "Ljava/util/function/BiFunction;" ∈ av_gw := av_gwm 488 (by decide +kernel)
theorem kM_J0_1059 : Cond.methodLink RJ0 1059 yJ3_checkIndex_8e157 ∈ av_gw := av_gwm 490 (by decide +kernel)
theorem kT_J3_checkIndex_8e157 : Cond.static yJ3_checkIndex_8e157 ∈ av_gw := av_gwm 491 (by decide +kernel)
theorem kC_J3_checkIndex_8e157 : Cond.code yJ3_checkIndex_8e157 cJ3_checkIndex_8e157 3 (some .int) ∈ av_gw := av_gwm 492 (by decide +kernel)
theorem kM_J0_498 : Cond.methodLink RJ0 498 yJ2_charAt_3b067 ∈ av_gw := av_gwm 493 (by decide +kernel)
theorem kT_J2_charAt_3b067 : Cond.static yJ2_charAt_3b067 ∈ av_gw := av_gwm 494 (by decide +kernel)
theorem kC_J2_charAt_3b067 : Cond.code yJ2_charAt_3b067 cJ2_charAt_3b067 2 (some .char) ∈ av_gw := av_gwm 495 (by decide +kernel)
theorem kM_J2_67 : Cond.methodLink RJ2 67 yJ2_checkIndex_2214a ∈ av_gw := av_gwm 496 (by decide +kernel)
theorem kT_J2_checkIndex_2214a : Cond.static yJ2_checkIndex_2214a ∈ av_gw := av_gwm 497 (by decide +kernel)
theorem kC_J2_checkIndex_2214a : Cond.code yJ2_checkIndex_2214a cJ2_checkIndex_2214a 2 none ∈ av_gw := av_gwm 498 (by decide +kernel)
theorem kM_J2_48 : Cond.methodLink RJ2 48 yJ2_length_9d52b ∈ av_gw := av_gwm 499 (by decide +kernel)
theorem kT_J2_length_9d52b : Cond.static yJ2_length_9d52b ∈ av_gw := av_gwm 500 (by decide +kernel)
theorem kC_J2_length_9d52b : Cond.code yJ2_length_9d52b cJ2_length_9d52b 1 (some .int) ∈ av_gw := av_gwm 501 (by decide +kernel)
theorem kM_J2_414 : Cond.methodLink RJ2 414 yJ0_checkIndex_df160 ∈ av_gw := av_gwm 502 (by decide +kernel)
theorem kM_J2_71 : Cond.methodLink RJ2 71 yJ2_getChar_3b067 ∈ av_gw := av_gwm 503 (by decide +kernel)
theorem kT_J2_getChar_3b067 : Cond.static yJ2_getChar_3b067 ∈ av_gw := av_gwm 504 (by decide +kernel)
theorem kC_J2_getChar_3b067 : Cond.code yJ2_getChar_3b067 cJ2_getChar_3b067 2 (some .char) ∈ av_gw := av_gwm 505 (by decide +kernel)
theorem kF_J2_44 : Cond.fieldLink RJ2 44 "java/lang/StringUTF16" "$assertionsDisabled" "Z" ∈ av_gw := av_gwm 506 (by decide +kernel)
theorem kF_J2_59 : Cond.fieldLink RJ2 59 "java/lang/StringUTF16" "HI_BYTE_SHIFT" "I" ∈ av_gw := av_gwm 508 (by decide +kernel)
theorem kF_J2_63 : Cond.fieldLink RJ2 63 "java/lang/StringUTF16" "LO_BYTE_SHIFT" "I" ∈ av_gw := av_gwm 510 (by decide +kernel)
theorem kM_X5_51 : Cond.methodLink RX5 51 yX5_readLedge ∈ av_gw := av_gwm 513 (by decide +kernel)
theorem kI_X5_readLedge : Cond.instanceMethod yX5_readLedge ∈ av_gw := av_gwm 515 (by decide +kernel)
theorem kC_X5_readLedge : Cond.code yX5_readLedge cX5_readLedge 6 none ∈ av_gw := av_gwm 516 (by decide +kernel)
theorem kM_X5_74 : Cond.methodLink RX5 74 yX5_takeNumber ∈ av_gw := av_gwm 517 (by decide +kernel)
theorem kI_X5_takeNumber : Cond.instanceMethod yX5_takeNumber ∈ av_gw := av_gwm 519 (by decide +kernel)
theorem kC_X5_takeNumber : Cond.code yX5_takeNumber cX5_takeNumber 5 (some .int) ∈ av_gw := av_gwm 520 (by decide +kernel)
theorem kQ_X5_101 : Cond.methodLinkNest RX5 101 yX11_within "AvalancheVote" ∈ av_nw := av_nwm 521 (by decide +kernel)
theorem kM_X5_78 : Cond.methodLink RX5 78 yX8_addLedge ∈ av_gw := av_gwm 522 (by decide +kernel)
theorem kM_X5_58 : Cond.methodLink RX5 58 yX5_readVoter ∈ av_gw := av_gwm 525 (by decide +kernel)
theorem kI_X5_readVoter : Cond.instanceMethod yX5_readVoter ∈ av_gw := av_gwm 527 (by decide +kernel)
theorem kC_X5_readVoter : Cond.code yX5_readVoter cX5_readVoter 5 none ∈ av_gw := av_gwm 528 (by decide +kernel)
theorem kM_X5_85 : Cond.methodLink RX5 85 yX8_addVoter ∈ av_gw := av_gwm 529 (by decide +kernel)
theorem kM_X5_62 : Cond.methodLink RX5 62 yX5_takeEnd ∈ av_gw := av_gwm 530 (by decide +kernel)
theorem kI_X5_takeEnd : Cond.instanceMethod yX5_takeEnd ∈ av_gw := av_gwm 532 (by decide +kernel)
theorem kC_X5_takeEnd : Cond.code yX5_takeEnd cX5_takeEnd 1 none ∈ av_gw := av_gwm 533 (by decide +kernel)
theorem kM_X11_116 : Cond.methodLink RX11 116 yX8_copyFrom ∈ av_gw := av_gwm 534 (by decide +kernel)
theorem kI_X8_copyFrom : Cond.instanceMethod yX8_copyFrom ∈ av_gw := av_gwm 535 (by decide +kernel)
theorem kS_X8_X8_copyFrom_X8_copyFrom : Cond.selects RX8 yX8_copyFrom yX8_copyFrom ∈ av_gw := av_gwm 536 (by decide +kernel)
theorem kC_X8_copyFrom : Cond.code yX8_copyFrom cX8_copyFrom 2 none ∈ av_gw := av_gwm 537 (by decide +kernel)
theorem kM_X8_55 : Cond.methodLink RX8 55 yX9_copyFrom ∈ av_gw := av_gwm 538 (by decide +kernel)
theorem kI_X9_copyFrom : Cond.instanceMethod yX9_copyFrom ∈ av_gw := av_gwm 539 (by decide +kernel)
theorem kS_X9_X9_copyFrom_X9_copyFrom : Cond.selects RX9 yX9_copyFrom yX9_copyFrom ∈ av_gw := av_gwm 540 (by decide +kernel)
theorem kC_X9_copyFrom : Cond.code yX9_copyFrom cX9_copyFrom 2 none ∈ av_gw := av_gwm 541 (by decide +kernel)
theorem kM_X9_35 : Cond.methodLink RX9 35 arraycopyName ∈ av_gw := av_gwm 542 (by decide +kernel)
theorem kT_arraycopyName : Cond.static arraycopyName ∈ av_gw := av_gwm 543 (by decide +kernel)
theorem kA_java_lang_Systemarraycopy : Cond.native arraycopyName ∈ av_gw := av_gwm 544 (by decide +kernel)
theorem kM_X8_58 : Cond.methodLink RX8 58 yX7_copyFrom ∈ av_gw := av_gwm 545 (by decide +kernel)
theorem kI_X7_copyFrom : Cond.instanceMethod yX7_copyFrom ∈ av_gw := av_gwm 546 (by decide +kernel)
theorem kS_X7_X7_copyFrom_X7_copyFrom : Cond.selects RX7 yX7_copyFrom yX7_copyFrom ∈ av_gw := av_gwm 547 (by decide +kernel)
theorem kC_X7_copyFrom : Cond.code yX7_copyFrom cX7_copyFrom 2 none ∈ av_gw := av_gwm 548 (by decide +kernel)
theorem kM_X7_29 : Cond.methodLink RX7 29 arraycopyName ∈ av_gw := av_gwm 549 (by decide +kernel)
theorem kM_X8_61 : Cond.methodLink RX8 61 arraycopyName ∈ av_gw := av_gwm 550 (by decide +kernel)
theorem kM_L_40 : Cond.methodLink RL 40 yX11_vote ∈ av_gw := av_gwm 551 (by decide +kernel)
theorem kI_X11_vote : Cond.instanceMethod yX11_vote ∈ av_gw := av_gwm 552 (by decide +kernel)
theorem kS_X11_X11_vote_X11_vote : Cond.selects RX11 yX11_vote yX11_vote ∈ av_gw := av_gwm 553 (by decide +kernel)
theorem kC_X11_vote : Cond.code yX11_vote cX11_vote 2 (some .int) ∈ av_gw := av_gwm 554 (by decide +kernel)
theorem kM_X11_119 : Cond.methodLink RX11 119 yX11_isVoter ∈ av_gw := av_gwm 555 (by decide +kernel)
theorem kI_X11_isVoter : Cond.instanceMethod yX11_isVoter ∈ av_gw := av_gwm 557 (by decide +kernel)
theorem kC_X11_isVoter : Cond.code yX11_isVoter cX11_isVoter 2 (some .boolean) ∈ av_gw := av_gwm 558 (by decide +kernel)
theorem kM_X11_122 : Cond.methodLink RX11 122 yX8_keepPast ∈ av_gw := av_gwm 559 (by decide +kernel)
theorem kI_X8_keepPast : Cond.instanceMethod yX8_keepPast ∈ av_gw := av_gwm 560 (by decide +kernel)
theorem kS_X8_X8_keepPast_X8_keepPast : Cond.selects RX8 yX8_keepPast yX8_keepPast ∈ av_gw := av_gwm 561 (by decide +kernel)
theorem kC_X8_keepPast : Cond.code yX8_keepPast cX8_keepPast 1 none ∈ av_gw := av_gwm 562 (by decide +kernel)
theorem kM_X8_88 : Cond.methodLink RX8 88 yX7_saveTo ∈ av_gw := av_gwm 563 (by decide +kernel)
theorem kI_X7_saveTo : Cond.instanceMethod yX7_saveTo ∈ av_gw := av_gwm 564 (by decide +kernel)
theorem kS_X7_X7_saveTo_X7_saveTo : Cond.selects RX7 yX7_saveTo yX7_saveTo ∈ av_gw := av_gwm 565 (by decide +kernel)
theorem kC_X7_saveTo : Cond.code yX7_saveTo cX7_saveTo 3 none ∈ av_gw := av_gwm 566 (by decide +kernel)
theorem kM_X11_129 : Cond.methodLink RX11 129 yX7_cast ∈ av_gw := av_gwm 567 (by decide +kernel)
theorem kI_X7_cast : Cond.instanceMethod yX7_cast ∈ av_gw := av_gwm 568 (by decide +kernel)
theorem kS_X7_X7_cast_X7_cast : Cond.selects RX7 yX7_cast yX7_cast ∈ av_gw := av_gwm 569 (by decide +kernel)
theorem kC_X7_cast : Cond.code yX7_cast cX7_cast 4 none ∈ av_gw := av_gwm 570 (by decide +kernel)
theorem kQ_X7_52 : Cond.methodLinkNest RX7 52 yX11_within "AvalancheVote" ∈ av_nw := av_nwm 571 (by decide +kernel)
theorem kM_X7_59 : Cond.methodLink RX7 59 yX9_kindOf ∈ av_gw := av_gwm 572 (by decide +kernel)
theorem kI_X9_kindOf : Cond.instanceMethod yX9_kindOf ∈ av_gw := av_gwm 573 (by decide +kernel)
theorem kS_X9_X9_kindOf_X9_kindOf : Cond.selects RX9 yX9_kindOf yX9_kindOf ∈ av_gw := av_gwm 574 (by decide +kernel)
theorem kC_X9_kindOf : Cond.code yX9_kindOf cX9_kindOf 2 (some (.object "AvalancheVote$Plain")) ∈ av_gw := av_gwm 575 (by decide +kernel)
theorem kQ_X9_44 : Cond.methodLinkNest RX9 44 yX11_within "AvalancheVote" ∈ av_nw := av_nwm 576 (by decide +kernel)
theorem kM_X7_69 : Cond.methodLink RX7 69 yX4_place ∈ av_gw := av_gwm 577 (by decide +kernel)
theorem kI_X4_place : Cond.instanceMethod yX4_place ∈ av_gw := av_gwm 578 (by decide +kernel)
theorem kS_X4_X4_place_X4_place : Cond.selects RX4 yX4_place yX4_place ∈ av_gw := av_gwm 579 (by decide +kernel)
theorem kE_X4_place_AvalancheVote_Plain : Cond.sameMethod RX4 "AvalancheVote$Plain" "place" "(LAvalancheVote$Slope;II)I" ∈ av_gw := av_gwm 580 (by decide +kernel)
theorem kS_X0_X4_place_X0_place : Cond.selects RX0 yX4_place yX0_place ∈ av_gw := av_gwm 581 (by decide +kernel)
theorem kI_X0_place : Cond.instanceMethod yX0_place ∈ av_gw := av_gwm 582 (by decide +kernel)
theorem kC_X0_place : Cond.code yX0_place cX0_place 5 (some .int) ∈ av_gw := av_gwm 583 (by decide +kernel)
theorem kM_X0_7 : Cond.methodLink RX0 7 yX4_place ∈ av_gw := av_gwm 584 (by decide +kernel)
theorem kM_X0_11 : Cond.methodLink RX0 11 (⟨"AvalancheVote$Cautious", "heft", "(I)I"⟩ : MethodName) ∈ av_gw := av_gwm 585 (by decide +kernel)
theorem kE_X0_heft_AvalancheVote_Plain : Cond.sameMethod RX0 "AvalancheVote$Plain" "heft" "(I)I" ∈ av_gw := av_gwm 586 (by decide +kernel)
theorem kS_X0_AvalancheVote_Cautiousheft_X4_heft : Cond.selects RX0 (⟨"AvalancheVote$Cautious", "heft", "(I)I"⟩ : MethodName) yX4_heft ∈ av_gw := av_gwm 588 (by decide +kernel)
theorem kS_X6_AvalancheVote_Cautiousheft_X6_heft : Cond.selects RX6 (⟨"AvalancheVote$Cautious", "heft", "(I)I"⟩ : MethodName) yX6_heft ∈ av_gw := av_gwm 589 (by decide +kernel)
theorem kI_X6_heft : Cond.instanceMethod yX6_heft ∈ av_gw := av_gwm 590 (by decide +kernel)
theorem kC_X6_heft : Cond.code yX6_heft cX6_heft 2 (some .int) ∈ av_gw := av_gwm 591 (by decide +kernel)
theorem kI_X4_heft : Cond.instanceMethod yX4_heft ∈ av_gw := av_gwm 592 (by decide +kernel)
theorem kC_X4_heft : Cond.code yX4_heft cX4_heft 2 (some .int) ∈ av_gw := av_gwm 593 (by decide +kernel)
theorem kM_X0_17 : Cond.methodLink RX0 17 yX7_bears ∈ av_gw := av_gwm 594 (by decide +kernel)
theorem kI_X7_bears : Cond.instanceMethod yX7_bears ∈ av_gw := av_gwm 595 (by decide +kernel)
theorem kS_X7_X7_bears_X7_bears : Cond.selects RX7 yX7_bears yX7_bears ∈ av_gw := av_gwm 596 (by decide +kernel)
theorem kC_X7_bears : Cond.code yX7_bears cX7_bears 3 (some .boolean) ∈ av_gw := av_gwm 597 (by decide +kernel)
theorem kM_X7_113 : Cond.methodLink RX7 113 yX7_loadOf ∈ av_gw := av_gwm 598 (by decide +kernel)
theorem kI_X7_loadOf : Cond.instanceMethod yX7_loadOf ∈ av_gw := av_gwm 599 (by decide +kernel)
theorem kS_X7_X7_loadOf_X7_loadOf : Cond.selects RX7 yX7_loadOf yX7_loadOf ∈ av_gw := av_gwm 600 (by decide +kernel)
theorem kC_X7_loadOf : Cond.code yX7_loadOf cX7_loadOf 2 (some .int) ∈ av_gw := av_gwm 601 (by decide +kernel)
theorem kM_X0_23 : Cond.methodLink RX0 23 yX7_lightest ∈ av_gw := av_gwm 602 (by decide +kernel)
theorem kI_X7_lightest : Cond.instanceMethod yX7_lightest ∈ av_gw := av_gwm 603 (by decide +kernel)
theorem kS_X7_X7_lightest_X7_lightest : Cond.selects RX7 yX7_lightest yX7_lightest ∈ av_gw := av_gwm 604 (by decide +kernel)
theorem kC_X7_lightest : Cond.code yX7_lightest cX7_lightest 3 (some .int) ∈ av_gw := av_gwm 605 (by decide +kernel)
theorem kS_X2_X4_place_X2_place : Cond.selects RX2 yX4_place yX2_place ∈ av_gw := av_gwm 606 (by decide +kernel)
theorem kI_X2_place : Cond.instanceMethod yX2_place ∈ av_gw := av_gwm 607 (by decide +kernel)
theorem kC_X2_place : Cond.code yX2_place cX2_place 6 (some .int) ∈ av_gw := av_gwm 608 (by decide +kernel)
theorem kM_X2_9 : Cond.methodLink RX2 9 yX4_place ∈ av_gw := av_gwm 609 (by decide +kernel)
theorem kM_X2_19 : Cond.methodLink RX2 19 yX9_ledgeBelow ∈ av_gw := av_gwm 610 (by decide +kernel)
theorem kI_X9_ledgeBelow : Cond.instanceMethod yX9_ledgeBelow ∈ av_gw := av_gwm 611 (by decide +kernel)
theorem kS_X9_X9_ledgeBelow_X9_ledgeBelow : Cond.selects RX9 yX9_ledgeBelow yX9_ledgeBelow ∈ av_gw := av_gwm 612 (by decide +kernel)
theorem kC_X9_ledgeBelow : Cond.code yX9_ledgeBelow cX9_ledgeBelow 2 (some .int) ∈ av_gw := av_gwm 613 (by decide +kernel)
theorem kS_X3_X4_place_X4_place : Cond.selects RX3 yX4_place yX4_place ∈ av_gw := av_gwm 614 (by decide +kernel)
theorem kS_X6_X4_place_X0_place : Cond.selects RX6 yX4_place yX0_place ∈ av_gw := av_gwm 615 (by decide +kernel)
theorem kS_X10_X4_place_X10_place : Cond.selects RX10 yX4_place yX10_place ∈ av_gw := av_gwm 616 (by decide +kernel)
theorem kI_X10_place : Cond.instanceMethod yX10_place ∈ av_gw := av_gwm 617 (by decide +kernel)
theorem kC_X10_place : Cond.code yX10_place cX10_place 4 (some .int) ∈ av_gw := av_gwm 618 (by decide +kernel)
theorem kM_X10_13 : Cond.methodLink RX10 13 yX7_heaviest ∈ av_gw := av_gwm 619 (by decide +kernel)
theorem kI_X7_heaviest : Cond.instanceMethod yX7_heaviest ∈ av_gw := av_gwm 620 (by decide +kernel)
theorem kS_X7_X7_heaviest_X7_heaviest : Cond.selects RX7 yX7_heaviest yX7_heaviest ∈ av_gw := av_gwm 621 (by decide +kernel)
theorem kC_X7_heaviest : Cond.code yX7_heaviest cX7_heaviest 3 (some .int) ∈ av_gw := av_gwm 622 (by decide +kernel)
theorem kM_X10_17 : Cond.methodLink RX10 17 (⟨"AvalancheVote$Loud", "place", "(LAvalancheVote$Slope;II)I"⟩ : MethodName) ∈ av_gw := av_gwm 623 (by decide +kernel)
theorem kE_X3_place_AvalancheVote_Plain : Cond.sameMethod RX3 "AvalancheVote$Plain" "place" "(LAvalancheVote$Slope;II)I" ∈ av_gw := av_gwm 624 (by decide +kernel)
theorem kC_X4_place : Cond.code yX4_place cX4_place 4 (some .int) ∈ av_gw := av_gwm 626 (by decide +kernel)
theorem kM_X7_75 : Cond.methodLink RX7 75 yX4_heft ∈ av_gw := av_gwm 627 (by decide +kernel)
theorem kI_X3_heft : Cond.instanceMethod yX3_heft ∈ av_gw := av_gwm 628 (by decide +kernel)
theorem kC_X3_heft : Cond.code yX3_heft cX3_heft 2 (some .int) ∈ av_gw := av_gwm 629 (by decide +kernel)
theorem kM_X7_79 : Cond.methodLink RX7 79 yX7_lay ∈ av_gw := av_gwm 630 (by decide +kernel)
theorem kI_X7_lay : Cond.instanceMethod yX7_lay ∈ av_gw := av_gwm 631 (by decide +kernel)
theorem kS_X7_X7_lay_X7_lay : Cond.selects RX7 yX7_lay yX7_lay ∈ av_gw := av_gwm 632 (by decide +kernel)
theorem kC_X7_lay : Cond.code yX7_lay cX7_lay 3 none ∈ av_gw := av_gwm 633 (by decide +kernel)
theorem kM_X7_83 : Cond.methodLink RX7 83 yX7_comeDown ∈ av_gw := av_gwm 634 (by decide +kernel)
theorem kI_X7_comeDown : Cond.instanceMethod yX7_comeDown ∈ av_gw := av_gwm 635 (by decide +kernel)
theorem kS_X7_X7_comeDown_X7_comeDown : Cond.selects RX7 yX7_comeDown yX7_comeDown ∈ av_gw := av_gwm 636 (by decide +kernel)
theorem kC_X7_comeDown : Cond.code yX7_comeDown cX7_comeDown 5 none ∈ av_gw := av_gwm 637 (by decide +kernel)
theorem kM_X7_95 : Cond.methodLink RX7 95 yX7_bears ∈ av_gw := av_gwm 638 (by decide +kernel)
theorem kM_X7_99 : Cond.methodLink RX7 99 yX7_drop ∈ av_gw := av_gwm 639 (by decide +kernel)
theorem kI_X7_drop : Cond.instanceMethod yX7_drop ∈ av_gw := av_gwm 641 (by decide +kernel)
theorem kC_X7_drop : Cond.code yX7_drop cX7_drop 3 (some .int) ∈ av_gw := av_gwm 642 (by decide +kernel)
theorem kQ_X7_102 : Cond.methodLinkNest RX7 102 yX11_hasBit "AvalancheVote" ∈ av_nw := av_nwm 643 (by decide +kernel)
theorem kT_X11_hasBit : Cond.static yX11_hasBit ∈ av_gw := av_gwm 644 (by decide +kernel)
theorem kC_X11_hasBit : Cond.code yX11_hasBit cX11_hasBit 2 (some .boolean) ∈ av_gw := av_gwm 645 (by decide +kernel)
theorem kM_X7_105 : Cond.methodLink RX7 105 yJ6_bitCount_0f7a4 ∈ av_gw := av_gwm 646 (by decide +kernel)
theorem kT_J6_bitCount_0f7a4 : Cond.static yJ6_bitCount_0f7a4 ∈ av_gw := av_gwm 647 (by decide +kernel)
theorem kC_J6_bitCount_0f7a4 : Cond.code yJ6_bitCount_0f7a4 cJ6_bitCount_0f7a4 1 (some .int) ∈ av_gw := av_gwm 648 (by decide +kernel)
theorem kK_J6_265 : Cond.constant RJ6 265 (1431655765) ∈ av_gw := av_gwm 649 (by decide +kernel)
theorem kK_J6_266 : Cond.constant RJ6 266 (858993459) ∈ av_gw := av_gwm 650 (by decide +kernel)
theorem kK_J6_267 : Cond.constant RJ6 267 (252645135) ∈ av_gw := av_gwm 651 (by decide +kernel)
theorem kM_L_44 : Cond.methodLink RL 44 yX11_night ∈ av_gw := av_gwm 652 (by decide +kernel)
theorem kI_X11_night : Cond.instanceMethod yX11_night ∈ av_gw := av_gwm 653 (by decide +kernel)
theorem kS_X11_X11_night_X11_night : Cond.selects RX11 yX11_night yX11_night ∈ av_gw := av_gwm 654 (by decide +kernel)
theorem kC_X11_night : Cond.code yX11_night cX11_night 2 (some .int) ∈ av_gw := av_gwm 655 (by decide +kernel)
theorem kM_X11_137 : Cond.methodLink RX11 137 yX7_snowOver ∈ av_gw := av_gwm 656 (by decide +kernel)
theorem kI_X7_snowOver : Cond.instanceMethod yX7_snowOver ∈ av_gw := av_gwm 657 (by decide +kernel)
theorem kS_X7_X7_snowOver_X7_snowOver : Cond.selects RX7 yX7_snowOver yX7_snowOver ∈ av_gw := av_gwm 658 (by decide +kernel)
theorem kC_X7_snowOver : Cond.code yX7_snowOver cX7_snowOver 3 none ∈ av_gw := av_gwm 659 (by decide +kernel)
theorem kM_L_48 : Cond.methodLink RL 48 yX11_undo ∈ av_gw := av_gwm 660 (by decide +kernel)
theorem kI_X11_undo : Cond.instanceMethod yX11_undo ∈ av_gw := av_gwm 661 (by decide +kernel)
theorem kS_X11_X11_undo_X11_undo : Cond.selects RX11 yX11_undo yX11_undo ∈ av_gw := av_gwm 662 (by decide +kernel)
theorem kC_X11_undo : Cond.code yX11_undo cX11_undo 1 (some .int) ∈ av_gw := av_gwm 663 (by decide +kernel)
theorem kM_X11_143 : Cond.methodLink RX11 143 yX11_no ∈ av_gw := av_gwm 664 (by decide +kernel)
theorem kI_X11_no : Cond.instanceMethod yX11_no ∈ av_gw := av_gwm 666 (by decide +kernel)
theorem kC_X11_no : Cond.code yX11_no cX11_no 1 (some .int) ∈ av_gw := av_gwm 667 (by decide +kernel)
theorem kM_X11_146 : Cond.methodLink RX11 146 yX8_goBack ∈ av_gw := av_gwm 668 (by decide +kernel)
theorem kI_X8_goBack : Cond.instanceMethod yX8_goBack ∈ av_gw := av_gwm 669 (by decide +kernel)
theorem kS_X8_X8_goBack_X8_goBack : Cond.selects RX8 yX8_goBack yX8_goBack ∈ av_gw := av_gwm 670 (by decide +kernel)
theorem kC_X8_goBack : Cond.code yX8_goBack cX8_goBack 1 none ∈ av_gw := av_gwm 671 (by decide +kernel)
theorem kM_X8_92 : Cond.methodLink RX8 92 yX7_loadFrom ∈ av_gw := av_gwm 672 (by decide +kernel)
theorem kI_X7_loadFrom : Cond.instanceMethod yX7_loadFrom ∈ av_gw := av_gwm 673 (by decide +kernel)
theorem kS_X7_X7_loadFrom_X7_loadFrom : Cond.selects RX7 yX7_loadFrom yX7_loadFrom ∈ av_gw := av_gwm 674 (by decide +kernel)
theorem kC_X7_loadFrom : Cond.code yX7_loadFrom cX7_loadFrom 3 none ∈ av_gw := av_gwm 675 (by decide +kernel)
theorem kM_L_52 : Cond.methodLink RL 52 yX11_of ∈ av_gw := av_gwm 676 (by decide +kernel)
theorem kI_X11_of : Cond.instanceMethod yX11_of ∈ av_gw := av_gwm 677 (by decide +kernel)
theorem kS_X11_X11_of_X11_of : Cond.selects RX11 yX11_of yX11_of ∈ av_gw := av_gwm 678 (by decide +kernel)
theorem kC_X11_of : Cond.code yX11_of cX11_of 3 (some .int) ∈ av_gw := av_gwm 679 (by decide +kernel)
theorem kM_L_57 : Cond.methodLink RL 57 yX11_about ∈ av_gw := av_gwm 680 (by decide +kernel)
theorem kI_X11_about : Cond.instanceMethod yX11_about ∈ av_gw := av_gwm 681 (by decide +kernel)
theorem kS_X11_X11_about_X11_about : Cond.selects RX11 yX11_about yX11_about ∈ av_gw := av_gwm 682 (by decide +kernel)
theorem kC_X11_about : Cond.code yX11_about cX11_about 3 (some .int) ∈ av_gw := av_gwm 683 (by decide +kernel)
theorem kM_X11_174 : Cond.methodLink RX11 174 yX11_placeAs ∈ av_gw := av_gwm 684 (by decide +kernel)
theorem kI_X11_placeAs : Cond.instanceMethod yX11_placeAs ∈ av_gw := av_gwm 686 (by decide +kernel)
theorem kC_X11_placeAs : Cond.code yX11_placeAs cX11_placeAs 3 (some .int) ∈ av_gw := av_gwm 687 (by decide +kernel)
theorem kM_X11_281 : Cond.methodLink RX11 281 yX9_kindOf ∈ av_gw := av_gwm 688 (by decide +kernel)
theorem kM_X11_285 : Cond.methodLink RX11 285 yX4_place ∈ av_gw := av_gwm 689 (by decide +kernel)
theorem kM_X11_178 : Cond.methodLink RX11 178 yX11_heftAs ∈ av_gw := av_gwm 690 (by decide +kernel)
theorem kI_X11_heftAs : Cond.instanceMethod yX11_heftAs ∈ av_gw := av_gwm 692 (by decide +kernel)
theorem kC_X11_heftAs : Cond.code yX11_heftAs cX11_heftAs 3 (some .int) ∈ av_gw := av_gwm 693 (by decide +kernel)
theorem kM_X11_289 : Cond.methodLink RX11 289 yX4_heft ∈ av_gw := av_gwm 694 (by decide +kernel)
theorem kM_L_61 : Cond.methodLink RL 61 yX11_winner ∈ av_gw := av_gwm 695 (by decide +kernel)
theorem kI_X11_winner : Cond.instanceMethod yX11_winner ∈ av_gw := av_gwm 696 (by decide +kernel)
theorem kS_X11_X11_winner_X11_winner : Cond.selects RX11 yX11_winner yX11_winner ∈ av_gw := av_gwm 697 (by decide +kernel)
theorem kC_X11_winner : Cond.code yX11_winner cX11_winner 1 (some .int) ∈ av_gw := av_gwm 698 (by decide +kernel)
theorem kM_L_65 : Cond.methodLink RL 65 yX11_coalition ∈ av_gw := av_gwm 699 (by decide +kernel)
theorem kI_X11_coalition : Cond.instanceMethod yX11_coalition ∈ av_gw := av_gwm 700 (by decide +kernel)
theorem kS_X11_X11_coalition_X11_coalition : Cond.selects RX11 yX11_coalition yX11_coalition ∈ av_gw := av_gwm 701 (by decide +kernel)
theorem kC_X11_coalition : Cond.code yX11_coalition cX11_coalition 1 (some .int) ∈ av_gw := av_gwm 702 (by decide +kernel)
theorem kM_L_69 : Cond.methodLink RL 69 yX11_february ∈ av_gw := av_gwm 703 (by decide +kernel)
theorem kI_X11_february : Cond.instanceMethod yX11_february ∈ av_gw := av_gwm 704 (by decide +kernel)
theorem kS_X11_X11_february_X11_february : Cond.selects RX11 yX11_february yX11_february ∈ av_gw := av_gwm 705 (by decide +kernel)
theorem kC_X11_february : Cond.code yX11_february cX11_february 3 (some .int) ∈ av_gw := av_gwm 706 (by decide +kernel)
theorem kM_X11_187 : Cond.methodLink RX11 187 yX1_afterFebruary ∈ av_gw := av_gwm 707 (by decide +kernel)
theorem kI_X1_afterFebruary : Cond.instanceMethod yX1_afterFebruary ∈ av_gw := av_gwm 708 (by decide +kernel)
theorem kS_X1_X1_afterFebruary_X1_afterFebruary : Cond.selects RX1 yX1_afterFebruary yX1_afterFebruary ∈ av_gw := av_gwm 709 (by decide +kernel)
theorem kC_X1_afterFebruary : Cond.code yX1_afterFebruary cX1_afterFebruary 3 (some (.object "AvalancheVote$Slope")) ∈ av_gw := av_gwm 710 (by decide +kernel)
theorem kM_X1_42 : Cond.methodLink RX1 42 yX1_fresh ∈ av_gw := av_gwm 711 (by decide +kernel)
theorem kI_X1_fresh : Cond.instanceMethod yX1_fresh ∈ av_gw := av_gwm 713 (by decide +kernel)
theorem kC_X1_fresh : Cond.code yX1_fresh cX1_fresh 1 (some (.object "AvalancheVote$Slope")) ∈ av_gw := av_gwm 714 (by decide +kernel)
theorem kM_X1_38 : Cond.methodLink RX1 38 yX7_copyFrom ∈ av_gw := av_gwm 715 (by decide +kernel)
theorem kM_X1_52 : Cond.methodLink RX1 52 yX7_cast ∈ av_gw := av_gwm 716 (by decide +kernel)
theorem kM_L_73 : Cond.methodLink RL 73 yX11_orders ∈ av_gw := av_gwm 717 (by decide +kernel)
theorem kI_X11_orders : Cond.instanceMethod yX11_orders ∈ av_gw := av_gwm 718 (by decide +kernel)
theorem kS_X11_X11_orders_X11_orders : Cond.selects RX11 yX11_orders yX11_orders ∈ av_gw := av_gwm 719 (by decide +kernel)
theorem kC_X11_orders : Cond.code yX11_orders cX11_orders 4 (some .int) ∈ av_gw := av_gwm 720 (by decide +kernel)
theorem kM_X11_191 : Cond.methodLink RX11 191 yX1_ordersWon ∈ av_gw := av_gwm 721 (by decide +kernel)
theorem kI_X1_ordersWon : Cond.instanceMethod yX1_ordersWon ∈ av_gw := av_gwm 722 (by decide +kernel)
theorem kS_X1_X1_ordersWon_X1_ordersWon : Cond.selects RX1 yX1_ordersWon yX1_ordersWon ∈ av_gw := av_gwm 723 (by decide +kernel)
theorem kC_X1_ordersWon : Cond.code yX1_ordersWon cX1_ordersWon 2 (some .int) ∈ av_gw := av_gwm 724 (by decide +kernel)
theorem kM_X1_59 : Cond.methodLink RX1 59 yX1_countOrders ∈ av_gw := av_gwm 725 (by decide +kernel)
theorem kI_X1_countOrders : Cond.instanceMethod yX1_countOrders ∈ av_gw := av_gwm 727 (by decide +kernel)
theorem kC_X1_countOrders : Cond.code yX1_countOrders cX1_countOrders 6 none ∈ av_gw := av_gwm 728 (by decide +kernel)
theorem kM_X1_66 : Cond.methodLink RX1 66 yX1_isDeepest ∈ av_gw := av_gwm 729 (by decide +kernel)
theorem kI_X1_isDeepest : Cond.instanceMethod yX1_isDeepest ∈ av_gw := av_gwm 731 (by decide +kernel)
theorem kC_X1_isDeepest : Cond.code yX1_isDeepest cX1_isDeepest 2 (some .boolean) ∈ av_gw := av_gwm 732 (by decide +kernel)
theorem kM_X1_70 : Cond.methodLink RX1 70 yX1_fillOrder ∈ av_gw := av_gwm 733 (by decide +kernel)
theorem kI_X1_fillOrder : Cond.instanceMethod yX1_fillOrder ∈ av_gw := av_gwm 735 (by decide +kernel)
theorem kC_X1_fillOrder : Cond.code yX1_fillOrder cX1_fillOrder 5 none ∈ av_gw := av_gwm 736 (by decide +kernel)
theorem kQ_X1_78 : Cond.methodLinkNest RX1 78 yX11_hasBit "AvalancheVote" ∈ av_nw := av_nwm 737 (by decide +kernel)
theorem kM_X1_74 : Cond.methodLink RX1 74 yX1_ordersOf ∈ av_gw := av_gwm 738 (by decide +kernel)
theorem kT_X1_ordersOf : Cond.static yX1_ordersOf ∈ av_gw := av_gwm 739 (by decide +kernel)
theorem kC_X1_ordersOf : Cond.code yX1_ordersOf cX1_ordersOf 3 (some .int) ∈ av_gw := av_gwm 740 (by decide +kernel)
theorem kM_L_77 : Cond.methodLink RL 77 yX11_stones ∈ av_gw := av_gwm 741 (by decide +kernel)
theorem kI_X11_stones : Cond.instanceMethod yX11_stones ∈ av_gw := av_gwm 742 (by decide +kernel)
theorem kS_X11_X11_stones_X11_stones : Cond.selects RX11 yX11_stones yX11_stones ∈ av_gw := av_gwm 743 (by decide +kernel)
theorem kC_X11_stones : Cond.code yX11_stones cX11_stones 4 (some .int) ∈ av_gw := av_gwm 744 (by decide +kernel)
theorem kM_X11_197 : Cond.methodLink RX11 197 yX1_fewestStones ∈ av_gw := av_gwm 745 (by decide +kernel)
theorem kI_X1_fewestStones : Cond.instanceMethod yX1_fewestStones ∈ av_gw := av_gwm 746 (by decide +kernel)
theorem kS_X1_X1_fewestStones_X1_fewestStones : Cond.selects RX1 yX1_fewestStones yX1_fewestStones ∈ av_gw := av_gwm 747 (by decide +kernel)
theorem kC_X1_fewestStones : Cond.code yX1_fewestStones cX1_fewestStones 5 (some .int) ∈ av_gw := av_gwm 748 (by decide +kernel)
theorem kM_X1_82 : Cond.methodLink RX1 82 yX9_bitsAbove ∈ av_gw := av_gwm 749 (by decide +kernel)
theorem kI_X9_bitsAbove : Cond.instanceMethod yX9_bitsAbove ∈ av_gw := av_gwm 750 (by decide +kernel)
theorem kS_X9_X9_bitsAbove_X9_bitsAbove : Cond.selects RX9 yX9_bitsAbove yX9_bitsAbove ∈ av_gw := av_gwm 751 (by decide +kernel)
theorem kC_X9_bitsAbove : Cond.code yX9_bitsAbove cX9_bitsAbove 4 (some .int) ∈ av_gw := av_gwm 752 (by decide +kernel)
theorem kQ_X9_48 : Cond.methodLinkNest RX9 48 yX11_hasBit "AvalancheVote" ∈ av_nw := av_nwm 753 (by decide +kernel)
theorem kM_X1_88 : Cond.methodLink RX1 88 yX1_fallsBy ∈ av_gw := av_gwm 754 (by decide +kernel)
theorem kI_X1_fallsBy : Cond.instanceMethod yX1_fallsBy ∈ av_gw := av_gwm 756 (by decide +kernel)
theorem kC_X1_fallsBy : Cond.code yX1_fallsBy cX1_fallsBy 7 (some .boolean) ∈ av_gw := av_gwm 757 (by decide +kernel)
theorem kM_X1_95 : Cond.methodLink RX1 95 yX1_afterStone ∈ av_gw := av_gwm 758 (by decide +kernel)
theorem kI_X1_afterStone : Cond.instanceMethod yX1_afterStone ∈ av_gw := av_gwm 760 (by decide +kernel)
theorem kC_X1_afterStone : Cond.code yX1_afterStone cX1_afterStone 4 (some (.object "AvalancheVote$Slope")) ∈ av_gw := av_gwm 761 (by decide +kernel)
theorem kM_X1_109 : Cond.methodLink RX1 109 yX7_lay ∈ av_gw := av_gwm 762 (by decide +kernel)
theorem kM_X1_112 : Cond.methodLink RX1 112 yX7_comeDown ∈ av_gw := av_gwm 763 (by decide +kernel)
theorem kM_X1_102 : Cond.methodLink RX1 102 yX1_fallsWithin ∈ av_gw := av_gwm 764 (by decide +kernel)
theorem kI_X1_fallsWithin : Cond.instanceMethod yX1_fallsWithin ∈ av_gw := av_gwm 766 (by decide +kernel)
theorem kC_X1_fallsWithin : Cond.code yX1_fallsWithin cX1_fallsWithin 6 (some .boolean) ∈ av_gw := av_gwm 767 (by decide +kernel)
theorem kM_X1_106 : Cond.methodLink RX1 106 yX7_mayStart ∈ av_gw := av_gwm 768 (by decide +kernel)
theorem kI_X7_mayStart : Cond.instanceMethod yX7_mayStart ∈ av_gw := av_gwm 769 (by decide +kernel)
theorem kS_X7_X7_mayStart_X7_mayStart : Cond.selects RX7 yX7_mayStart yX7_mayStart ∈ av_gw := av_gwm 770 (by decide +kernel)
theorem kC_X7_mayStart : Cond.code yX7_mayStart cX7_mayStart 4 (some .boolean) ∈ av_gw := av_gwm 771 (by decide +kernel)
theorem kM_L_81 : Cond.methodLink RL 81 yX11_buried ∈ av_gw := av_gwm 772 (by decide +kernel)
theorem kI_X11_buried : Cond.instanceMethod yX11_buried ∈ av_gw := av_gwm 773 (by decide +kernel)
theorem kS_X11_X11_buried_X11_buried : Cond.selects RX11 yX11_buried yX11_buried ∈ av_gw := av_gwm 774 (by decide +kernel)
theorem kC_X11_buried : Cond.code yX11_buried cX11_buried 3 (some .int) ∈ av_gw := av_gwm 775 (by decide +kernel)
theorem kM_X11_203 : Cond.methodLink RX11 203 yX1_buriedBy ∈ av_gw := av_gwm 776 (by decide +kernel)
theorem kI_X1_buriedBy : Cond.instanceMethod yX1_buriedBy ∈ av_gw := av_gwm 777 (by decide +kernel)
theorem kS_X1_X1_buriedBy_X1_buriedBy : Cond.selects RX1 yX1_buriedBy yX1_buriedBy ∈ av_gw := av_gwm 778 (by decide +kernel)
theorem kC_X1_buriedBy : Cond.code yX1_buriedBy cX1_buriedBy 4 (some .int) ∈ av_gw := av_gwm 779 (by decide +kernel)
theorem kM_L_85 : Cond.methodLink RL 85 yX11_nights ∈ av_gw := av_gwm 780 (by decide +kernel)
theorem kI_X11_nights : Cond.instanceMethod yX11_nights ∈ av_gw := av_gwm 781 (by decide +kernel)
theorem kS_X11_X11_nights_X11_nights : Cond.selects RX11 yX11_nights yX11_nights ∈ av_gw := av_gwm 782 (by decide +kernel)
theorem kC_X11_nights : Cond.code yX11_nights cX11_nights 3 (some .int) ∈ av_gw := av_gwm 783 (by decide +kernel)
theorem kM_X11_206 : Cond.methodLink RX11 206 yX1_nightsTill ∈ av_gw := av_gwm 784 (by decide +kernel)
theorem kI_X1_nightsTill : Cond.instanceMethod yX1_nightsTill ∈ av_gw := av_gwm 785 (by decide +kernel)
theorem kS_X1_X1_nightsTill_X1_nightsTill : Cond.selects RX1 yX1_nightsTill yX1_nightsTill ∈ av_gw := av_gwm 786 (by decide +kernel)
theorem kC_X1_nightsTill : Cond.code yX1_nightsTill cX1_nightsTill 5 (some .int) ∈ av_gw := av_gwm 787 (by decide +kernel)
theorem kM_X1_118 : Cond.methodLink RX1 118 yX7_snowOver ∈ av_gw := av_gwm 788 (by decide +kernel)
theorem kM_L_89 : Cond.methodLink RL 89 yX11_parties ∈ av_gw := av_gwm 789 (by decide +kernel)
theorem kI_X11_parties : Cond.instanceMethod yX11_parties ∈ av_gw := av_gwm 790 (by decide +kernel)
theorem kS_X11_X11_parties_X11_parties : Cond.selects RX11 yX11_parties yX11_parties ∈ av_gw := av_gwm 791 (by decide +kernel)
theorem kC_X11_parties : Cond.code yX11_parties cX11_parties 6 (some .int) ∈ av_gw := av_gwm 792 (by decide +kernel)
theorem kM_X11_209 : Cond.methodLink RX11 209 yX1_play ∈ av_gw := av_gwm 793 (by decide +kernel)
theorem kI_X1_play : Cond.instanceMethod yX1_play ∈ av_gw := av_gwm 794 (by decide +kernel)
theorem kS_X1_X1_play_X1_play : Cond.selects RX1 yX1_play yX1_play ∈ av_gw := av_gwm 795 (by decide +kernel)
theorem kC_X1_play : Cond.code yX1_play cX1_play 7 (some .int) ∈ av_gw := av_gwm 796 (by decide +kernel)
theorem kM_X1_121 : Cond.methodLink RX1 121 yX1_outcomeOf ∈ av_gw := av_gwm 797 (by decide +kernel)
theorem kI_X1_outcomeOf : Cond.instanceMethod yX1_outcomeOf ∈ av_gw := av_gwm 799 (by decide +kernel)
theorem kC_X1_outcomeOf : Cond.code yX1_outcomeOf cX1_outcomeOf 7 (some .int) ∈ av_gw := av_gwm 800 (by decide +kernel)
theorem kM_X1_125 : Cond.methodLink RX1 125 yX7_fellAhead ∈ av_gw := av_gwm 801 (by decide +kernel)
theorem kI_X7_fellAhead : Cond.instanceMethod yX7_fellAhead ∈ av_gw := av_gwm 802 (by decide +kernel)
theorem kS_X7_X7_fellAhead_X7_fellAhead : Cond.selects RX7 yX7_fellAhead yX7_fellAhead ∈ av_gw := av_gwm 803 (by decide +kernel)
theorem kC_X7_fellAhead : Cond.code yX7_fellAhead cX7_fellAhead 3 (some .boolean) ∈ av_gw := av_gwm 804 (by decide +kernel)
theorem kM_X1_128 : Cond.methodLink RX1 128 yX1_bestOutcome ∈ av_gw := av_gwm 805 (by decide +kernel)
theorem kI_X1_bestOutcome : Cond.instanceMethod yX1_bestOutcome ∈ av_gw := av_gwm 807 (by decide +kernel)
theorem kC_X1_bestOutcome : Cond.code yX1_bestOutcome cX1_bestOutcome 10 (some .int) ∈ av_gw := av_gwm 808 (by decide +kernel)
theorem kM_X1_132 : Cond.methodLink RX1 132 yJ9_max_7cf53 ∈ av_gw := av_gwm 809 (by decide +kernel)
theorem kT_J9_max_7cf53 : Cond.static yJ9_max_7cf53 ∈ av_gw := av_gwm 810 (by decide +kernel)
theorem kC_J9_max_7cf53 : Cond.code yJ9_max_7cf53 cJ9_max_7cf53 2 (some .int) ∈ av_gw := av_gwm 811 (by decide +kernel)
theorem kM_X1_138 : Cond.methodLink RX1 138 yJ9_min_7cf53 ∈ av_gw := av_gwm 812 (by decide +kernel)
theorem kT_J9_min_7cf53 : Cond.static yJ9_min_7cf53 ∈ av_gw := av_gwm 813 (by decide +kernel)
theorem kC_J9_min_7cf53 : Cond.code yJ9_min_7cf53 cJ9_min_7cf53 2 (some .int) ∈ av_gw := av_gwm 814 (by decide +kernel)
theorem kM_L_94 : Cond.methodLink RL 94 yX11_seen ∈ av_gw := av_gwm 815 (by decide +kernel)
theorem kI_X11_seen : Cond.instanceMethod yX11_seen ∈ av_gw := av_gwm 816 (by decide +kernel)
theorem kS_X11_X11_seen_X11_seen : Cond.selects RX11 yX11_seen yX11_seen ∈ av_gw := av_gwm 817 (by decide +kernel)
theorem kC_X11_seen : Cond.code yX11_seen cX11_seen 3 (some .int) ∈ av_gw := av_gwm 818 (by decide +kernel)
theorem kM_X11_215 : Cond.methodLink RX11 215 yX8_addSeen ∈ av_gw := av_gwm 819 (by decide +kernel)
theorem kI_X8_addSeen : Cond.instanceMethod yX8_addSeen ∈ av_gw := av_gwm 820 (by decide +kernel)
theorem kS_X8_X8_addSeen_X8_addSeen : Cond.selects RX8 yX8_addSeen yX8_addSeen ∈ av_gw := av_gwm 821 (by decide +kernel)
theorem kC_X8_addSeen : Cond.code yX8_addSeen cX8_addSeen 3 (some .int) ∈ av_gw := av_gwm 822 (by decide +kernel)
theorem kM_L_98 : Cond.methodLink RL 98 yX11_forget ∈ av_gw := av_gwm 823 (by decide +kernel)
theorem kI_X11_forget : Cond.instanceMethod yX11_forget ∈ av_gw := av_gwm 824 (by decide +kernel)
theorem kS_X11_X11_forget_X11_forget : Cond.selects RX11 yX11_forget yX11_forget ∈ av_gw := av_gwm 825 (by decide +kernel)
theorem kC_X11_forget : Cond.code yX11_forget cX11_forget 2 (some .int) ∈ av_gw := av_gwm 826 (by decide +kernel)
theorem kM_L_102 : Cond.methodLink RL 102 yX11_hold ∈ av_gw := av_gwm 827 (by decide +kernel)
theorem kI_X11_hold : Cond.instanceMethod yX11_hold ∈ av_gw := av_gwm 828 (by decide +kernel)
theorem kS_X11_X11_hold_X11_hold : Cond.selects RX11 yX11_hold yX11_hold ∈ av_gw := av_gwm 829 (by decide +kernel)
theorem kC_X11_hold : Cond.code yX11_hold cX11_hold 4 (some .int) ∈ av_gw := av_gwm 830 (by decide +kernel)
theorem kM_X11_218 : Cond.methodLink RX11 218 yX8_leastHold ∈ av_gw := av_gwm 831 (by decide +kernel)
theorem kI_X8_leastHold : Cond.instanceMethod yX8_leastHold ∈ av_gw := av_gwm 832 (by decide +kernel)
theorem kS_X8_X8_leastHold_X8_leastHold : Cond.selects RX8 yX8_leastHold yX8_leastHold ∈ av_gw := av_gwm 833 (by decide +kernel)
theorem kC_X8_leastHold : Cond.code yX8_leastHold cX8_leastHold 3 (some .int) ∈ av_gw := av_gwm 834 (by decide +kernel)
theorem kM_X8_95 : Cond.methodLink RX8 95 yJ9_max_7cf53 ∈ av_gw := av_gwm 835 (by decide +kernel)
theorem kM_X11_221 : Cond.methodLink RX11 221 yX8_greatestHold ∈ av_gw := av_gwm 836 (by decide +kernel)
theorem kI_X8_greatestHold : Cond.instanceMethod yX8_greatestHold ∈ av_gw := av_gwm 837 (by decide +kernel)
theorem kS_X8_X8_greatestHold_X8_greatestHold : Cond.selects RX8 yX8_greatestHold yX8_greatestHold ∈ av_gw := av_gwm 838 (by decide +kernel)
theorem kC_X8_greatestHold : Cond.code yX8_greatestHold cX8_greatestHold 3 (some .int) ∈ av_gw := av_gwm 839 (by decide +kernel)
theorem kM_X8_101 : Cond.methodLink RX8 101 yJ9_min_7cf53 ∈ av_gw := av_gwm 840 (by decide +kernel)
theorem kM_X11_224 : Cond.methodLink RX11 224 yX11_spread ∈ av_gw := av_gwm 841 (by decide +kernel)
theorem kT_X11_spread : Cond.static yX11_spread ∈ av_gw := av_gwm 842 (by decide +kernel)
theorem kC_X11_spread : Cond.code yX11_spread cX11_spread 2 (some .int) ∈ av_gw := av_gwm 843 (by decide +kernel)
theorem kM_X11_227 : Cond.methodLink RX11 227 yJ9_max_7cf53 ∈ av_gw := av_gwm 844 (by decide +kernel)
theorem kM_L_106 : Cond.methodLink RL 106 yX11_stick ∈ av_gw := av_gwm 845 (by decide +kernel)
theorem kI_X11_stick : Cond.instanceMethod yX11_stick ∈ av_gw := av_gwm 846 (by decide +kernel)
theorem kS_X11_X11_stick_X11_stick : Cond.selects RX11 yX11_stick yX11_stick ∈ av_gw := av_gwm 847 (by decide +kernel)
theorem kC_X11_stick : Cond.code yX11_stick cX11_stick 9 (some .int) ∈ av_gw := av_gwm 848 (by decide +kernel)
theorem kM_L_110 : Cond.methodLink RL 110 yX11_is ∈ av_gw := av_gwm 849 (by decide +kernel)
theorem kI_X11_is : Cond.instanceMethod yX11_is ∈ av_gw := av_gwm 850 (by decide +kernel)
theorem kS_X11_X11_is_X11_is : Cond.selects RX11 yX11_is yX11_is ∈ av_gw := av_gwm 851 (by decide +kernel)
theorem kC_X11_is : Cond.code yX11_is cX11_is 6 (some .int) ∈ av_gw := av_gwm 852 (by decide +kernel)
theorem kM_L_114 : Cond.methodLink RL 114 yX11_sneeze ∈ av_gw := av_gwm 853 (by decide +kernel)
theorem kI_X11_sneeze : Cond.instanceMethod yX11_sneeze ∈ av_gw := av_gwm 854 (by decide +kernel)
theorem kS_X11_X11_sneeze_X11_sneeze : Cond.selects RX11 yX11_sneeze yX11_sneeze ∈ av_gw := av_gwm 855 (by decide +kernel)
theorem kC_X11_sneeze : Cond.code yX11_sneeze cX11_sneeze 9 (some .int) ∈ av_gw := av_gwm 856 (by decide +kernel)
theorem kM_X11_232 : Cond.methodLink RX11 232 yX1_partsWon ∈ av_gw := av_gwm 857 (by decide +kernel)
theorem kI_X1_partsWon : Cond.instanceMethod yX1_partsWon ∈ av_gw := av_gwm 858 (by decide +kernel)
theorem kS_X1_X1_partsWon_X1_partsWon : Cond.selects RX1 yX1_partsWon yX1_partsWon ∈ av_gw := av_gwm 859 (by decide +kernel)
theorem kC_X1_partsWon : Cond.code yX1_partsWon cX1_partsWon 3 (some .long) ∈ av_gw := av_gwm 860 (by decide +kernel)
theorem kM_X1_141 : Cond.methodLink RX1 141 yX1_partsFrom ∈ av_gw := av_gwm 861 (by decide +kernel)
theorem kI_X1_partsFrom : Cond.instanceMethod yX1_partsFrom ∈ av_gw := av_gwm 863 (by decide +kernel)
theorem kC_X1_partsFrom : Cond.code yX1_partsFrom cX1_partsFrom 9 (some .long) ∈ av_gw := av_gwm 864 (by decide +kernel)
theorem kQ_X1_145 : Cond.methodLinkNest RX1 145 yX11_tenTo "AvalancheVote" ∈ av_nw := av_nwm 865 (by decide +kernel)
theorem kT_X11_tenTo : Cond.static yX11_tenTo ∈ av_gw := av_gwm 866 (by decide +kernel)
theorem kC_X11_tenTo : Cond.code yX11_tenTo cX11_tenTo 4 (some .long) ∈ av_gw := av_gwm 867 (by decide +kernel)
theorem kL_X11_292 : Cond.constantLong RX11 292 (10) ∈ av_gw := av_gwm 868 (by decide +kernel)
theorem kM_X11_236 : Cond.methodLink RX11 236 yX11_tenTo ∈ av_gw := av_gwm 869 (by decide +kernel)
theorem kM_X11_240 : Cond.methodLink RX11 240 yX11_commonDivisor ∈ av_gw := av_gwm 870 (by decide +kernel)
theorem kT_X11_commonDivisor : Cond.static yX11_commonDivisor ∈ av_gw := av_gwm 871 (by decide +kernel)
theorem kC_X11_commonDivisor : Cond.code yX11_commonDivisor cX11_commonDivisor 11 (some .long) ∈ av_gw := av_gwm 872 (by decide +kernel)
theorem kM_L_118 : Cond.methodLink RL 118 yX11_februaries ∈ av_gw := av_gwm 873 (by decide +kernel)
theorem kI_X11_februaries : Cond.instanceMethod yX11_februaries ∈ av_gw := av_gwm 874 (by decide +kernel)
theorem kS_X11_X11_februaries_X11_februaries : Cond.selects RX11 yX11_februaries yX11_februaries ∈ av_gw := av_gwm 875 (by decide +kernel)
theorem kC_X11_februaries : Cond.code yX11_februaries cX11_februaries 3 (some .int) ∈ av_gw := av_gwm 876 (by decide +kernel)
theorem kK_X11_247 : Cond.constant RX11 247 (999999) ∈ av_gw := av_gwm 877 (by decide +kernel)
theorem kM_X11_248 : Cond.methodLink RX11 248 yX1_loadAfter ∈ av_gw := av_gwm 878 (by decide +kernel)
theorem kI_X1_loadAfter : Cond.instanceMethod yX1_loadAfter ∈ av_gw := av_gwm 879 (by decide +kernel)
theorem kS_X1_X1_loadAfter_X1_loadAfter : Cond.selects RX1 yX1_loadAfter yX1_loadAfter ∈ av_gw := av_gwm 880 (by decide +kernel)
theorem kC_X1_loadAfter : Cond.code yX1_loadAfter cX1_loadAfter 7 (some .int) ∈ av_gw := av_gwm 881 (by decide +kernel)
theorem kL_X1_149 : Cond.constantLong RX1 149 (1103515245) ∈ av_gw := av_gwm 882 (by decide +kernel)
theorem kL_X1_151 : Cond.constantLong RX1 151 (12345) ∈ av_gw := av_gwm 883 (by decide +kernel)
theorem kL_X1_153 : Cond.constantLong RX1 153 (2147483648) ∈ av_gw := av_gwm 884 (by decide +kernel)
theorem kL_X1_155 : Cond.constantLong RX1 155 (65536) ∈ av_gw := av_gwm 885 (by decide +kernel)
theorem kM_X1_157 : Cond.methodLink RX1 157 yX7_loadOfAll ∈ av_gw := av_gwm 886 (by decide +kernel)
theorem kI_X7_loadOfAll : Cond.instanceMethod yX7_loadOfAll ∈ av_gw := av_gwm 887 (by decide +kernel)
theorem kS_X7_X7_loadOfAll_X7_loadOfAll : Cond.selects RX7 yX7_loadOfAll yX7_loadOfAll ∈ av_gw := av_gwm 888 (by decide +kernel)
theorem kC_X7_loadOfAll : Cond.code yX7_loadOfAll cX7_loadOfAll 3 (some .int) ∈ av_gw := av_gwm 889 (by decide +kernel)
theorem kM_L_122 : Cond.methodLink RL 122 yX11_part ∈ av_gw := av_gwm 890 (by decide +kernel)
theorem kI_X11_part : Cond.instanceMethod yX11_part ∈ av_gw := av_gwm 891 (by decide +kernel)
theorem kS_X11_X11_part_X11_part : Cond.selects RX11 yX11_part yX11_part ∈ av_gw := av_gwm 892 (by decide +kernel)
theorem kC_X11_part : Cond.code yX11_part cX11_part 2 (some .long) ∈ av_gw := av_gwm 893 (by decide +kernel)
theorem kM_L_127 : Cond.methodLink RL 127 yX11_image ∈ av_gw := av_gwm 894 (by decide +kernel)
theorem kI_X11_image : Cond.instanceMethod yX11_image ∈ av_gw := av_gwm 895 (by decide +kernel)
theorem kS_X11_X11_image_X11_image : Cond.selects RX11 yX11_image yX11_image ∈ av_gw := av_gwm 896 (by decide +kernel)
theorem kC_X11_image : Cond.code yX11_image cX11_image 2 (some .int) ∈ av_gw := av_gwm 897 (by decide +kernel)
theorem kM_L_131 : Cond.methodLink RL 131 yX11_from ∈ av_gw := av_gwm 898 (by decide +kernel)
theorem kI_X11_from : Cond.instanceMethod yX11_from ∈ av_gw := av_gwm 899 (by decide +kernel)
theorem kS_X11_X11_from_X11_from : Cond.selects RX11 yX11_from yX11_from ∈ av_gw := av_gwm 900 (by decide +kernel)
theorem kC_X11_from : Cond.code yX11_from cX11_from 2 (some .int) ∈ av_gw := av_gwm 901 (by decide +kernel)
theorem kM_X11_254 : Cond.methodLink RX11 254 yX11_hasBit ∈ av_gw := av_gwm 902 (by decide +kernel)
theorem kM_L_135 : Cond.methodLink RL 135 yX11_status ∈ av_gw := av_gwm 903 (by decide +kernel)
theorem kI_X11_status : Cond.instanceMethod yX11_status ∈ av_gw := av_gwm 904 (by decide +kernel)
theorem kS_X11_X11_status_X11_status : Cond.selects RX11 yX11_status yX11_status ∈ av_gw := av_gwm 905 (by decide +kernel)
theorem kC_X11_status : Cond.code yX11_status cX11_status 2 (some .int) ∈ av_gw := av_gwm 906 (by decide +kernel)
theorem kM_L_139 : Cond.methodLink RL 139 yX11_count ∈ av_gw := av_gwm 907 (by decide +kernel)
theorem kI_X11_count : Cond.instanceMethod yX11_count ∈ av_gw := av_gwm 908 (by decide +kernel)
theorem kS_X11_X11_count_X11_count : Cond.selects RX11 yX11_count yX11_count ∈ av_gw := av_gwm 909 (by decide +kernel)
theorem kC_X11_count : Cond.code yX11_count cX11_count 2 (some .int) ∈ av_gw := av_gwm 910 (by decide +kernel)
theorem kM_X11_267 : Cond.methodLink RX11 267 yX11_howMany ∈ av_gw := av_gwm 911 (by decide +kernel)
theorem kI_X11_howMany : Cond.instanceMethod yX11_howMany ∈ av_gw := av_gwm 913 (by decide +kernel)
theorem kC_X11_howMany : Cond.code yX11_howMany cX11_howMany 2 (some .int) ∈ av_gw := av_gwm 914 (by decide +kernel)
theorem kM_X11_278 : Cond.methodLink RX11 278 yX7_loadOfAll ∈ av_gw := av_gwm 915 (by decide +kernel)
theorem kM_L_143 : Cond.methodLink RL 143 yX11_digest ∈ av_gw := av_gwm 916 (by decide +kernel)
theorem kI_X11_digest : Cond.instanceMethod yX11_digest ∈ av_gw := av_gwm 917 (by decide +kernel)
theorem kS_X11_X11_digest_X11_digest : Cond.selects RX11 yX11_digest yX11_digest ∈ av_gw := av_gwm 918 (by decide +kernel)
theorem kC_X11_digest : Cond.code yX11_digest cX11_digest 4 (some .long) ∈ av_gw := av_gwm 919 (by decide +kernel)
theorem kL_X11_270 : Cond.constantLong RX11 270 (1151) ∈ av_gw := av_gwm 920 (by decide +kernel)
theorem kL_X11_272 : Cond.constantLong RX11 272 (31) ∈ av_gw := av_gwm 921 (by decide +kernel)
theorem kM_X11_274 : Cond.methodLink RX11 274 yX8_digestFrom ∈ av_gw := av_gwm 922 (by decide +kernel)
theorem kI_X8_digestFrom : Cond.instanceMethod yX8_digestFrom ∈ av_gw := av_gwm 923 (by decide +kernel)
theorem kS_X8_X8_digestFrom_X8_digestFrom : Cond.selects RX8 yX8_digestFrom yX8_digestFrom ∈ av_gw := av_gwm 924 (by decide +kernel)
theorem kC_X8_digestFrom : Cond.code yX8_digestFrom cX8_digestFrom 6 (some .long) ∈ av_gw := av_gwm 925 (by decide +kernel)
theorem kL_X8_104 : Cond.constantLong RX8 104 (31) ∈ av_gw := av_gwm 926 (by decide +kernel)
theorem kD_L_10 : Cond.classLink RL 10 RX12 ∈ av_gw := av_gwm 927 (by decide +kernel)
theorem kO_X12 : Cond.instantiable RX12 29 ∈ av_gw := av_gwm 928 (by decide +kernel)
theorem kM_L_12 : Cond.methodLink RL 12 yX12_init ∈ av_gw := av_gwm 929 (by decide +kernel)
theorem kI_X12_init : Cond.instanceMethod yX12_init ∈ av_gw := av_gwm 930 (by decide +kernel)
theorem kC_X12_init : Cond.code yX12_init cX12_init 1 none ∈ av_gw := av_gwm 931 (by decide +kernel)
theorem kM_X12_1 : Cond.methodLink RX12 1 objectInit ∈ av_gw := av_gwm 932 (by decide +kernel)
theorem kM_X12_60 : Cond.methodLink RX12 60 yX12_begin ∈ av_gw := av_gwm 933 (by decide +kernel)
theorem kT_X12_begin : Cond.static yX12_begin ∈ av_gw := av_gwm 934 (by decide +kernel)
theorem kC_X12_begin : Cond.code yX12_begin cX12_begin 2 none ∈ av_gw := av_gwm 935 (by decide +kernel)
theorem kF_X12_7 : Cond.fieldLink RX12 7 "AvalancheVoteModel" "now" "[I" ∈ av_gw := av_gwm 936 (by decide +kernel)
theorem kF_X12_13 : Cond.fieldLink RX12 13 "AvalancheVoteModel" "kept" "[I" ∈ av_gw := av_gwm 937 (by decide +kernel)
theorem kF_X12_16 : Cond.fieldLink RX12 16 "AvalancheVoteModel" "isKept" "[Z" ∈ av_gw := av_gwm 938 (by decide +kernel)
theorem kF_X12_20 : Cond.fieldLink RX12 20 "AvalancheVoteModel" "refused" "[I" ∈ av_gw := av_gwm 939 (by decide +kernel)
theorem kF_X12_228 : Cond.fieldLink RX12 228 "AvalancheVoteModel" "above" "J" ∈ av_gw := av_gwm 940 (by decide +kernel)
theorem kF_X12_23 : Cond.fieldLink RX12 23 "AvalancheVoteModel" "below" "J" ∈ av_gw := av_gwm 941 (by decide +kernel)
theorem kF_X12_27 : Cond.fieldLink RX12 27 "AvalancheVoteModel" "snow" "[I" ∈ av_gw := av_gwm 942 (by decide +kernel)
theorem kF_X12_30 : Cond.fieldLink RX12 30 "AvalancheVoteModel" "laid" "[I" ∈ av_gw := av_gwm 943 (by decide +kernel)
theorem kF_X12_107 : Cond.fieldLink RX12 107 "AvalancheVoteModel" "votes" "I" ∈ av_gw := av_gwm 944 (by decide +kernel)
theorem kF_X12_111 : Cond.fieldLink RX12 111 "AvalancheVoteModel" "won" "I" ∈ av_gw := av_gwm 945 (by decide +kernel)
theorem kF_X12_114 : Cond.fieldLink RX12 114 "AvalancheVoteModel" "together" "I" ∈ av_gw := av_gwm 946 (by decide +kernel)
theorem kF_X12_120 : Cond.fieldLink RX12 120 "AvalancheVoteModel" "firstDown" "I" ∈ av_gw := av_gwm 947 (by decide +kernel)
theorem kF_X12_123 : Cond.fieldLink RX12 123 "AvalancheVoteModel" "buriedBits" "I" ∈ av_gw := av_gwm 948 (by decide +kernel)
theorem kF_X12_33 : Cond.fieldLink RX12 33 "AvalancheVoteModel" "row" "[I" ∈ av_gw := av_gwm 949 (by decide +kernel)
theorem kF_X12_36 : Cond.fieldLink RX12 36 "AvalancheVoteModel" "firstRow" "[I" ∈ av_gw := av_gwm 950 (by decide +kernel)
theorem kF_X12_39 : Cond.fieldLink RX12 39 "AvalancheVoteModel" "tries" "[I" ∈ av_gw := av_gwm 951 (by decide +kernel)
theorem kF_X12_42 : Cond.fieldLink RX12 42 "AvalancheVoteModel" "bests" "[I" ∈ av_gw := av_gwm 952 (by decide +kernel)
theorem kF_X12_45 : Cond.fieldLink RX12 45 "AvalancheVoteModel" "snowAt" "[I" ∈ av_gw := av_gwm 953 (by decide +kernel)
theorem kF_X12_48 : Cond.fieldLink RX12 48 "AvalancheVoteModel" "stonesAt" "[I" ∈ av_gw := av_gwm 954 (by decide +kernel)
theorem kF_X12_193 : Cond.fieldLink RX12 193 "AvalancheVoteModel" "bestFirst" "I" ∈ av_gw := av_gwm 955 (by decide +kernel)
theorem kF_X12_196 : Cond.fieldLink RX12 196 "AvalancheVoteModel" "firstOfTwo" "I" ∈ av_gw := av_gwm 956 (by decide +kernel)
theorem kF_X12_51 : Cond.fieldLink RX12 51 "AvalancheVoteModel" "bytes" "[I" ∈ av_gw := av_gwm 957 (by decide +kernel)
theorem kF_X12_253 : Cond.fieldLink RX12 253 "AvalancheVoteModel" "bytesLong" "I" ∈ av_gw := av_gwm 958 (by decide +kernel)
theorem kF_X12_264 : Cond.fieldLink RX12 264 "AvalancheVoteModel" "tokenAt" "I" ∈ av_gw := av_gwm 959 (by decide +kernel)
theorem kF_X12_267 : Cond.fieldLink RX12 267 "AvalancheVoteModel" "tokenLong" "I" ∈ av_gw := av_gwm 960 (by decide +kernel)
theorem kF_X12_270 : Cond.fieldLink RX12 270 "AvalancheVoteModel" "token" "I" ∈ av_gw := av_gwm 961 (by decide +kernel)
theorem kF_X12_273 : Cond.fieldLink RX12 273 "AvalancheVoteModel" "value" "I" ∈ av_gw := av_gwm 962 (by decide +kernel)
theorem kF_X12_54 : Cond.fieldLink RX12 54 "AvalancheVoteModel" "anew" "[I" ∈ av_gw := av_gwm 963 (by decide +kernel)
theorem kF_X12_57 : Cond.fieldLink RX12 57 "AvalancheVoteModel" "values" "[I" ∈ av_gw := av_gwm 964 (by decide +kernel)
theorem kU_X12 : Cond.superclass RX12 "java/lang/Object" ∈ av_gw := av_gwm 1023 (by decide +kernel)
theorem kM_L_17 : Cond.methodLink RL 17 yX12_mountain ∈ av_gw := av_gwm 1025 (by decide +kernel)
theorem kI_X12_mountain : Cond.instanceMethod yX12_mountain ∈ av_gw := av_gwm 1026 (by decide +kernel)
theorem kS_X12_X12_mountain_X12_mountain : Cond.selects RX12 yX12_mountain yX12_mountain ∈ av_gw := av_gwm 1027 (by decide +kernel)
theorem kC_X12_mountain : Cond.code yX12_mountain cX12_mountain 2 (some .int) ∈ av_gw := av_gwm 1028 (by decide +kernel)
theorem kM_X12_64 : Cond.methodLink RX12 64 yX12_ledges ∈ av_gw := av_gwm 1029 (by decide +kernel)
theorem kI_X12_ledges : Cond.instanceMethod yX12_ledges ∈ av_gw := av_gwm 1031 (by decide +kernel)
theorem kC_X12_ledges : Cond.code yX12_ledges cX12_ledges 1 (some .int) ∈ av_gw := av_gwm 1032 (by decide +kernel)
theorem kM_L_22 : Cond.methodLink RL 22 yX12_ledge ∈ av_gw := av_gwm 1033 (by decide +kernel)
theorem kI_X12_ledge : Cond.instanceMethod yX12_ledge ∈ av_gw := av_gwm 1034 (by decide +kernel)
theorem kS_X12_X12_ledge_X12_ledge : Cond.selects RX12 yX12_ledge yX12_ledge ∈ av_gw := av_gwm 1035 (by decide +kernel)
theorem kC_X12_ledge : Cond.code yX12_ledge cX12_ledge 4 (some .int) ∈ av_gw := av_gwm 1036 (by decide +kernel)
theorem kL_X12_75 : Cond.constantLong RX12 75 (60) ∈ av_gw := av_gwm 1037 (by decide +kernel)
theorem kM_X12_68 : Cond.methodLink RX12 68 yX12_in ∈ av_gw := av_gwm 1038 (by decide +kernel)
theorem kT_X12_in : Cond.static yX12_in ∈ av_gw := av_gwm 1039 (by decide +kernel)
theorem kC_X12_in : Cond.code yX12_in cX12_in 6 (some .boolean) ∈ av_gw := av_gwm 1040 (by decide +kernel)
theorem kL_X12_77 : Cond.constantLong RX12 77 (30) ∈ av_gw := av_gwm 1041 (by decide +kernel)
theorem kL_X12_79 : Cond.constantLong RX12 79 (-1) ∈ av_gw := av_gwm 1042 (by decide +kernel)
theorem kM_X12_81 : Cond.methodLink RX12 81 yX12_bad ∈ av_gw := av_gwm 1043 (by decide +kernel)
theorem kI_X12_bad : Cond.instanceMethod yX12_bad ∈ av_gw := av_gwm 1045 (by decide +kernel)
theorem kC_X12_bad : Cond.code yX12_bad cX12_bad 2 (some .int) ∈ av_gw := av_gwm 1046 (by decide +kernel)
theorem kM_X12_85 : Cond.methodLink RX12 85 yX12_full ∈ av_gw := av_gwm 1047 (by decide +kernel)
theorem kI_X12_full : Cond.instanceMethod yX12_full ∈ av_gw := av_gwm 1049 (by decide +kernel)
theorem kC_X12_full : Cond.code yX12_full cX12_full 1 (some .int) ∈ av_gw := av_gwm 1050 (by decide +kernel)
theorem kM_X12_88 : Cond.methodLink RX12 88 yX12_layLedge ∈ av_gw := av_gwm 1051 (by decide +kernel)
theorem kT_X12_layLedge : Cond.static yX12_layLedge ∈ av_gw := av_gwm 1052 (by decide +kernel)
theorem kC_X12_layLedge : Cond.code yX12_layLedge cX12_layLedge 5 none ∈ av_gw := av_gwm 1053 (by decide +kernel)
theorem kM_L_26 : Cond.methodLink RL 26 yX12_voter ∈ av_gw := av_gwm 1054 (by decide +kernel)
theorem kI_X12_voter : Cond.instanceMethod yX12_voter ∈ av_gw := av_gwm 1055 (by decide +kernel)
theorem kS_X12_X12_voter_X12_voter : Cond.selects RX12 yX12_voter yX12_voter ∈ av_gw := av_gwm 1056 (by decide +kernel)
theorem kC_X12_voter : Cond.code yX12_voter cX12_voter 4 (some .int) ∈ av_gw := av_gwm 1057 (by decide +kernel)
theorem kL_X12_92 : Cond.constantLong RX12 92 (5) ∈ av_gw := av_gwm 1058 (by decide +kernel)
theorem kM_X12_94 : Cond.methodLink RX12 94 yX12_isLedge ∈ av_gw := av_gwm 1059 (by decide +kernel)
theorem kI_X12_isLedge : Cond.instanceMethod yX12_isLedge ∈ av_gw := av_gwm 1061 (by decide +kernel)
theorem kC_X12_isLedge : Cond.code yX12_isLedge cX12_isLedge 2 (some .boolean) ∈ av_gw := av_gwm 1062 (by decide +kernel)
theorem kL_X12_98 : Cond.constantLong RX12 98 (9) ∈ av_gw := av_gwm 1063 (by decide +kernel)
theorem kM_X12_72 : Cond.methodLink RX12 72 yX12_voters ∈ av_gw := av_gwm 1064 (by decide +kernel)
theorem kI_X12_voters : Cond.instanceMethod yX12_voters ∈ av_gw := av_gwm 1066 (by decide +kernel)
theorem kC_X12_voters : Cond.code yX12_voters cX12_voters 1 (some .int) ∈ av_gw := av_gwm 1067 (by decide +kernel)
theorem kM_X12_100 : Cond.methodLink RX12 100 yX12_layVoter ∈ av_gw := av_gwm 1068 (by decide +kernel)
theorem kT_X12_layVoter : Cond.static yX12_layVoter ∈ av_gw := av_gwm 1069 (by decide +kernel)
theorem kC_X12_layVoter : Cond.code yX12_layVoter cX12_layVoter 5 none ∈ av_gw := av_gwm 1070 (by decide +kernel)
theorem kM_L_43 : Cond.methodLink RL 43 yX12_vote ∈ av_gw := av_gwm 1071 (by decide +kernel)
theorem kI_X12_vote : Cond.instanceMethod yX12_vote ∈ av_gw := av_gwm 1072 (by decide +kernel)
theorem kS_X12_X12_vote_X12_vote : Cond.selects RX12 yX12_vote yX12_vote ∈ av_gw := av_gwm 1073 (by decide +kernel)
theorem kC_X12_vote : Cond.code yX12_vote cX12_vote 3 (some .int) ∈ av_gw := av_gwm 1074 (by decide +kernel)
theorem kM_X12_155 : Cond.methodLink RX12 155 yX12_isVoter ∈ av_gw := av_gwm 1075 (by decide +kernel)
theorem kI_X12_isVoter : Cond.instanceMethod yX12_isVoter ∈ av_gw := av_gwm 1077 (by decide +kernel)
theorem kC_X12_isVoter : Cond.code yX12_isVoter cX12_isVoter 2 (some .boolean) ∈ av_gw := av_gwm 1078 (by decide +kernel)
theorem kM_X12_158 : Cond.methodLink RX12 158 yX12_keep ∈ av_gw := av_gwm 1079 (by decide +kernel)
theorem kI_X12_keep : Cond.instanceMethod yX12_keep ∈ av_gw := av_gwm 1081 (by decide +kernel)
theorem kC_X12_keep : Cond.code yX12_keep cX12_keep 3 none ∈ av_gw := av_gwm 1082 (by decide +kernel)
theorem kM_X12_103 : Cond.methodLink RX12 103 yX12_get ∈ av_gw := av_gwm 1083 (by decide +kernel)
theorem kI_X12_get : Cond.instanceMethod yX12_get ∈ av_gw := av_gwm 1085 (by decide +kernel)
theorem kC_X12_get : Cond.code yX12_get cX12_get 3 (some .int) ∈ av_gw := av_gwm 1086 (by decide +kernel)
theorem kM_X12_161 : Cond.methodLink RX12 161 yX12_layHand ∈ av_gw := av_gwm 1087 (by decide +kernel)
theorem kI_X12_layHand : Cond.instanceMethod yX12_layHand ∈ av_gw := av_gwm 1089 (by decide +kernel)
theorem kC_X12_layHand : Cond.code yX12_layHand cX12_layHand 2 none ∈ av_gw := av_gwm 1090 (by decide +kernel)
theorem kM_X12_164 : Cond.methodLink RX12 164 yX12_goVote ∈ av_gw := av_gwm 1091 (by decide +kernel)
theorem kI_X12_goVote : Cond.instanceMethod yX12_goVote ∈ av_gw := av_gwm 1093 (by decide +kernel)
theorem kC_X12_goVote : Cond.code yX12_goVote cX12_goVote 3 (some .int) ∈ av_gw := av_gwm 1094 (by decide +kernel)
theorem kM_X12_146 : Cond.methodLink RX12 146 yX12_whereBy ∈ av_gw := av_gwm 1095 (by decide +kernel)
theorem kI_X12_whereBy : Cond.instanceMethod yX12_whereBy ∈ av_gw := av_gwm 1097 (by decide +kernel)
theorem kC_X12_whereBy : Cond.code yX12_whereBy cX12_whereBy 2 (some .int) ∈ av_gw := av_gwm 1098 (by decide +kernel)
theorem kM_X12_136 : Cond.methodLink RX12 136 yX12_tells ∈ av_gw := av_gwm 1099 (by decide +kernel)
theorem kI_X12_tells : Cond.instanceMethod yX12_tells ∈ av_gw := av_gwm 1101 (by decide +kernel)
theorem kC_X12_tells : Cond.code yX12_tells cX12_tells 3 (some .int) ∈ av_gw := av_gwm 1102 (by decide +kernel)
theorem kM_X12_139 : Cond.methodLink RX12 139 yX12_where ∈ av_gw := av_gwm 1103 (by decide +kernel)
theorem kI_X12_where : Cond.instanceMethod yX12_where ∈ av_gw := av_gwm 1105 (by decide +kernel)
theorem kC_X12_where : Cond.code yX12_where cX12_where 4 (some .int) ∈ av_gw := av_gwm 1106 (by decide +kernel)
theorem kM_X12_117 : Cond.methodLink RX12 117 yX12_load ∈ av_gw := av_gwm 1107 (by decide +kernel)
theorem kI_X12_load : Cond.instanceMethod yX12_load ∈ av_gw := av_gwm 1109 (by decide +kernel)
theorem kC_X12_load : Cond.code yX12_load cX12_load 2 (some .int) ∈ av_gw := av_gwm 1110 (by decide +kernel)
theorem kM_X12_129 : Cond.methodLink RX12 129 yX12_heavy ∈ av_gw := av_gwm 1111 (by decide +kernel)
theorem kI_X12_heavy : Cond.instanceMethod yX12_heavy ∈ av_gw := av_gwm 1113 (by decide +kernel)
theorem kC_X12_heavy : Cond.code yX12_heavy cX12_heavy 3 (some .int) ∈ av_gw := av_gwm 1114 (by decide +kernel)
theorem kM_X12_132 : Cond.methodLink RX12 132 yX12_byLoad ∈ av_gw := av_gwm 1115 (by decide +kernel)
theorem kI_X12_byLoad : Cond.instanceMethod yX12_byLoad ∈ av_gw := av_gwm 1117 (by decide +kernel)
theorem kC_X12_byLoad : Cond.code yX12_byLoad cX12_byLoad 5 (some .int) ∈ av_gw := av_gwm 1118 (by decide +kernel)
theorem kM_X12_149 : Cond.methodLink RX12 149 yX12_heavyBy ∈ av_gw := av_gwm 1119 (by decide +kernel)
theorem kI_X12_heavyBy : Cond.instanceMethod yX12_heavyBy ∈ av_gw := av_gwm 1121 (by decide +kernel)
theorem kC_X12_heavyBy : Cond.code yX12_heavyBy cX12_heavyBy 2 (some .int) ∈ av_gw := av_gwm 1122 (by decide +kernel)
theorem kM_X12_152 : Cond.methodLink RX12 152 yX12_goStone ∈ av_gw := av_gwm 1123 (by decide +kernel)
theorem kI_X12_goStone : Cond.instanceMethod yX12_goStone ∈ av_gw := av_gwm 1125 (by decide +kernel)
theorem kC_X12_goStone : Cond.code yX12_goStone cX12_goStone 3 (some .int) ∈ av_gw := av_gwm 1126 (by decide +kernel)
theorem kM_X12_143 : Cond.methodLink RX12 143 yX12_comesDown ∈ av_gw := av_gwm 1127 (by decide +kernel)
theorem kI_X12_comesDown : Cond.instanceMethod yX12_comesDown ∈ av_gw := av_gwm 1129 (by decide +kernel)
theorem kC_X12_comesDown : Cond.code yX12_comesDown cX12_comesDown 4 (some .int) ∈ av_gw := av_gwm 1130 (by decide +kernel)
theorem kM_X12_126 : Cond.methodLink RX12 126 yX12_firstOver ∈ av_gw := av_gwm 1131 (by decide +kernel)
theorem kI_X12_firstOver : Cond.instanceMethod yX12_firstOver ∈ av_gw := av_gwm 1133 (by decide +kernel)
theorem kC_X12_firstOver : Cond.code yX12_firstOver cX12_firstOver 2 (some .int) ∈ av_gw := av_gwm 1134 (by decide +kernel)
theorem kM_X12_167 : Cond.methodLink RX12 167 yX12_layNow ∈ av_gw := av_gwm 1135 (by decide +kernel)
theorem kI_X12_layNow : Cond.instanceMethod yX12_layNow ∈ av_gw := av_gwm 1137 (by decide +kernel)
theorem kC_X12_layNow : Cond.code yX12_layNow cX12_layNow 2 none ∈ av_gw := av_gwm 1138 (by decide +kernel)
theorem kM_L_47 : Cond.methodLink RL 47 yX12_night ∈ av_gw := av_gwm 1139 (by decide +kernel)
theorem kI_X12_night : Cond.instanceMethod yX12_night ∈ av_gw := av_gwm 1140 (by decide +kernel)
theorem kS_X12_X12_night_X12_night : Cond.selects RX12 yX12_night yX12_night ∈ av_gw := av_gwm 1141 (by decide +kernel)
theorem kC_X12_night : Cond.code yX12_night cX12_night 3 (some .int) ∈ av_gw := av_gwm 1142 (by decide +kernel)
theorem kM_X12_170 : Cond.methodLink RX12 170 yX12_goNight ∈ av_gw := av_gwm 1143 (by decide +kernel)
theorem kI_X12_goNight : Cond.instanceMethod yX12_goNight ∈ av_gw := av_gwm 1145 (by decide +kernel)
theorem kC_X12_goNight : Cond.code yX12_goNight cX12_goNight 3 (some .int) ∈ av_gw := av_gwm 1146 (by decide +kernel)
theorem kM_L_51 : Cond.methodLink RL 51 yX12_undo ∈ av_gw := av_gwm 1147 (by decide +kernel)
theorem kI_X12_undo : Cond.instanceMethod yX12_undo ∈ av_gw := av_gwm 1148 (by decide +kernel)
theorem kS_X12_X12_undo_X12_undo : Cond.selects RX12 yX12_undo yX12_undo ∈ av_gw := av_gwm 1149 (by decide +kernel)
theorem kC_X12_undo : Cond.code yX12_undo cX12_undo 3 (some .int) ∈ av_gw := av_gwm 1150 (by decide +kernel)
theorem kM_X12_173 : Cond.methodLink RX12 173 yX12_no ∈ av_gw := av_gwm 1151 (by decide +kernel)
theorem kI_X12_no : Cond.instanceMethod yX12_no ∈ av_gw := av_gwm 1153 (by decide +kernel)
theorem kC_X12_no : Cond.code yX12_no cX12_no 1 (some .int) ∈ av_gw := av_gwm 1154 (by decide +kernel)
theorem kM_L_56 : Cond.methodLink RL 56 yX12_of ∈ av_gw := av_gwm 1155 (by decide +kernel)
theorem kI_X12_of : Cond.instanceMethod yX12_of ∈ av_gw := av_gwm 1156 (by decide +kernel)
theorem kS_X12_X12_of_X12_of : Cond.selects RX12 yX12_of yX12_of ∈ av_gw := av_gwm 1157 (by decide +kernel)
theorem kC_X12_of : Cond.code yX12_of cX12_of 3 (some .int) ∈ av_gw := av_gwm 1158 (by decide +kernel)
theorem kL_X12_176 : Cond.constantLong RX12 176 (3) ∈ av_gw := av_gwm 1159 (by decide +kernel)
theorem kM_L_60 : Cond.methodLink RL 60 yX12_about ∈ av_gw := av_gwm 1160 (by decide +kernel)
theorem kI_X12_about : Cond.instanceMethod yX12_about ∈ av_gw := av_gwm 1161 (by decide +kernel)
theorem kS_X12_X12_about_X12_about : Cond.selects RX12 yX12_about yX12_about ∈ av_gw := av_gwm 1162 (by decide +kernel)
theorem kC_X12_about : Cond.code yX12_about cX12_about 3 (some .int) ∈ av_gw := av_gwm 1163 (by decide +kernel)
theorem kL_X12_178 : Cond.constantLong RX12 178 (4) ∈ av_gw := av_gwm 1164 (by decide +kernel)
theorem kM_L_64 : Cond.methodLink RL 64 yX12_winner ∈ av_gw := av_gwm 1165 (by decide +kernel)
theorem kI_X12_winner : Cond.instanceMethod yX12_winner ∈ av_gw := av_gwm 1166 (by decide +kernel)
theorem kS_X12_X12_winner_X12_winner : Cond.selects RX12 yX12_winner yX12_winner ∈ av_gw := av_gwm 1167 (by decide +kernel)
theorem kC_X12_winner : Cond.code yX12_winner cX12_winner 1 (some .int) ∈ av_gw := av_gwm 1168 (by decide +kernel)
theorem kM_L_68 : Cond.methodLink RL 68 yX12_coalition ∈ av_gw := av_gwm 1169 (by decide +kernel)
theorem kI_X12_coalition : Cond.instanceMethod yX12_coalition ∈ av_gw := av_gwm 1170 (by decide +kernel)
theorem kS_X12_X12_coalition_X12_coalition : Cond.selects RX12 yX12_coalition yX12_coalition ∈ av_gw := av_gwm 1171 (by decide +kernel)
theorem kC_X12_coalition : Cond.code yX12_coalition cX12_coalition 1 (some .int) ∈ av_gw := av_gwm 1172 (by decide +kernel)
theorem kM_L_72 : Cond.methodLink RL 72 yX12_february ∈ av_gw := av_gwm 1173 (by decide +kernel)
theorem kI_X12_february : Cond.instanceMethod yX12_february ∈ av_gw := av_gwm 1174 (by decide +kernel)
theorem kS_X12_X12_february_X12_february : Cond.selects RX12 yX12_february yX12_february ∈ av_gw := av_gwm 1175 (by decide +kernel)
theorem kC_X12_february : Cond.code yX12_february cX12_february 4 (some .int) ∈ av_gw := av_gwm 1176 (by decide +kernel)
theorem kM_L_76 : Cond.methodLink RL 76 yX12_orders ∈ av_gw := av_gwm 1177 (by decide +kernel)
theorem kI_X12_orders : Cond.instanceMethod yX12_orders ∈ av_gw := av_gwm 1178 (by decide +kernel)
theorem kS_X12_X12_orders_X12_orders : Cond.selects RX12 yX12_orders yX12_orders ∈ av_gw := av_gwm 1179 (by decide +kernel)
theorem kC_X12_orders : Cond.code yX12_orders cX12_orders 8 (some .int) ∈ av_gw := av_gwm 1180 (by decide +kernel)
theorem kM_X12_180 : Cond.methodLink RX12 180 yX12_power ∈ av_gw := av_gwm 1181 (by decide +kernel)
theorem kT_X12_power : Cond.static yX12_power ∈ av_gw := av_gwm 1182 (by decide +kernel)
theorem kC_X12_power : Cond.code yX12_power cX12_power 4 (some .int) ∈ av_gw := av_gwm 1183 (by decide +kernel)
theorem kM_X12_183 : Cond.methodLink RX12 183 yX12_layRow ∈ av_gw := av_gwm 1184 (by decide +kernel)
theorem kI_X12_layRow : Cond.instanceMethod yX12_layRow ∈ av_gw := av_gwm 1186 (by decide +kernel)
theorem kC_X12_layRow : Cond.code yX12_layRow cX12_layRow 6 none ∈ av_gw := av_gwm 1187 (by decide +kernel)
theorem kM_X12_187 : Cond.methodLink RX12 187 yX12_areUnlike ∈ av_gw := av_gwm 1188 (by decide +kernel)
theorem kI_X12_areUnlike : Cond.instanceMethod yX12_areUnlike ∈ av_gw := av_gwm 1190 (by decide +kernel)
theorem kC_X12_areUnlike : Cond.code yX12_areUnlike cX12_areUnlike 3 (some .boolean) ∈ av_gw := av_gwm 1191 (by decide +kernel)
theorem kM_L_80 : Cond.methodLink RL 80 yX12_stones ∈ av_gw := av_gwm 1192 (by decide +kernel)
theorem kI_X12_stones : Cond.instanceMethod yX12_stones ∈ av_gw := av_gwm 1193 (by decide +kernel)
theorem kS_X12_X12_stones_X12_stones : Cond.selects RX12 yX12_stones yX12_stones ∈ av_gw := av_gwm 1194 (by decide +kernel)
theorem kC_X12_stones : Cond.code yX12_stones cX12_stones 7 (some .int) ∈ av_gw := av_gwm 1195 (by decide +kernel)
theorem kM_L_84 : Cond.methodLink RL 84 yX12_buried ∈ av_gw := av_gwm 1196 (by decide +kernel)
theorem kI_X12_buried : Cond.instanceMethod yX12_buried ∈ av_gw := av_gwm 1197 (by decide +kernel)
theorem kS_X12_X12_buried_X12_buried : Cond.selects RX12 yX12_buried yX12_buried ∈ av_gw := av_gwm 1198 (by decide +kernel)
theorem kC_X12_buried : Cond.code yX12_buried cX12_buried 4 (some .int) ∈ av_gw := av_gwm 1199 (by decide +kernel)
theorem kL_X12_191 : Cond.constantLong RX12 191 (20) ∈ av_gw := av_gwm 1200 (by decide +kernel)
theorem kM_L_88 : Cond.methodLink RL 88 yX12_nights ∈ av_gw := av_gwm 1201 (by decide +kernel)
theorem kI_X12_nights : Cond.instanceMethod yX12_nights ∈ av_gw := av_gwm 1202 (by decide +kernel)
theorem kS_X12_X12_nights_X12_nights : Cond.selects RX12 yX12_nights yX12_nights ∈ av_gw := av_gwm 1203 (by decide +kernel)
theorem kC_X12_nights : Cond.code yX12_nights cX12_nights 4 (some .int) ∈ av_gw := av_gwm 1204 (by decide +kernel)
theorem kM_L_93 : Cond.methodLink RL 93 yX12_parties ∈ av_gw := av_gwm 1205 (by decide +kernel)
theorem kI_X12_parties : Cond.instanceMethod yX12_parties ∈ av_gw := av_gwm 1206 (by decide +kernel)
theorem kS_X12_X12_parties_X12_parties : Cond.selects RX12 yX12_parties yX12_parties ∈ av_gw := av_gwm 1207 (by decide +kernel)
theorem kC_X12_parties : Cond.code yX12_parties cX12_parties 6 (some .int) ∈ av_gw := av_gwm 1208 (by decide +kernel)
theorem kM_X12_213 : Cond.methodLink RX12 213 yX12_layParties ∈ av_gw := av_gwm 1209 (by decide +kernel)
theorem kI_X12_layParties : Cond.instanceMethod yX12_layParties ∈ av_gw := av_gwm 1211 (by decide +kernel)
theorem kC_X12_layParties : Cond.code yX12_layParties cX12_layParties 6 (some .int) ∈ av_gw := av_gwm 1212 (by decide +kernel)
theorem kM_X12_199 : Cond.methodLink RX12 199 yX12_layTurn ∈ av_gw := av_gwm 1213 (by decide +kernel)
theorem kI_X12_layTurn : Cond.instanceMethod yX12_layTurn ∈ av_gw := av_gwm 1215 (by decide +kernel)
theorem kC_X12_layTurn : Cond.code yX12_layTurn cX12_layTurn 3 none ∈ av_gw := av_gwm 1216 (by decide +kernel)
theorem kM_X12_203 : Cond.methodLink RX12 203 yX12_backTo ∈ av_gw := av_gwm 1217 (by decide +kernel)
theorem kI_X12_backTo : Cond.instanceMethod yX12_backTo ∈ av_gw := av_gwm 1219 (by decide +kernel)
theorem kC_X12_backTo : Cond.code yX12_backTo cX12_backTo 3 none ∈ av_gw := av_gwm 1220 (by decide +kernel)
theorem kM_X12_206 : Cond.methodLink RX12 206 yX12_judge ∈ av_gw := av_gwm 1221 (by decide +kernel)
theorem kI_X12_judge : Cond.instanceMethod yX12_judge ∈ av_gw := av_gwm 1223 (by decide +kernel)
theorem kC_X12_judge : Cond.code yX12_judge cX12_judge 4 none ∈ av_gw := av_gwm 1224 (by decide +kernel)
theorem kM_X12_210 : Cond.methodLink RX12 210 yX12_goParty ∈ av_gw := av_gwm 1225 (by decide +kernel)
theorem kI_X12_goParty : Cond.instanceMethod yX12_goParty ∈ av_gw := av_gwm 1227 (by decide +kernel)
theorem kC_X12_goParty : Cond.code yX12_goParty cX12_goParty 6 none ∈ av_gw := av_gwm 1228 (by decide +kernel)
theorem kM_L_97 : Cond.methodLink RL 97 yX12_seen ∈ av_gw := av_gwm 1229 (by decide +kernel)
theorem kI_X12_seen : Cond.instanceMethod yX12_seen ∈ av_gw := av_gwm 1230 (by decide +kernel)
theorem kS_X12_X12_seen_X12_seen : Cond.selects RX12 yX12_seen yX12_seen ∈ av_gw := av_gwm 1231 (by decide +kernel)
theorem kC_X12_seen : Cond.code yX12_seen cX12_seen 3 (some .int) ∈ av_gw := av_gwm 1232 (by decide +kernel)
theorem kL_X12_216 : Cond.constantLong RX12 216 (99) ∈ av_gw := av_gwm 1233 (by decide +kernel)
theorem kM_L_101 : Cond.methodLink RL 101 yX12_forget ∈ av_gw := av_gwm 1234 (by decide +kernel)
theorem kI_X12_forget : Cond.instanceMethod yX12_forget ∈ av_gw := av_gwm 1235 (by decide +kernel)
theorem kS_X12_X12_forget_X12_forget : Cond.selects RX12 yX12_forget yX12_forget ∈ av_gw := av_gwm 1236 (by decide +kernel)
theorem kC_X12_forget : Cond.code yX12_forget cX12_forget 2 (some .int) ∈ av_gw := av_gwm 1237 (by decide +kernel)
theorem kM_L_105 : Cond.methodLink RL 105 yX12_hold ∈ av_gw := av_gwm 1238 (by decide +kernel)
theorem kI_X12_hold : Cond.instanceMethod yX12_hold ∈ av_gw := av_gwm 1239 (by decide +kernel)
theorem kS_X12_X12_hold_X12_hold : Cond.selects RX12 yX12_hold yX12_hold ∈ av_gw := av_gwm 1240 (by decide +kernel)
theorem kC_X12_hold : Cond.code yX12_hold cX12_hold 2 (some .int) ∈ av_gw := av_gwm 1241 (by decide +kernel)
theorem kM_X12_221 : Cond.methodLink RX12 221 yX12_manyFrom ∈ av_gw := av_gwm 1242 (by decide +kernel)
theorem kI_X12_manyFrom : Cond.instanceMethod yX12_manyFrom ∈ av_gw := av_gwm 1244 (by decide +kernel)
theorem kC_X12_manyFrom : Cond.code yX12_manyFrom cX12_manyFrom 4 (some .int) ∈ av_gw := av_gwm 1245 (by decide +kernel)
theorem kM_X12_218 : Cond.methodLink RX12 218 yX12_canHold ∈ av_gw := av_gwm 1246 (by decide +kernel)
theorem kI_X12_canHold : Cond.instanceMethod yX12_canHold ∈ av_gw := av_gwm 1248 (by decide +kernel)
theorem kC_X12_canHold : Cond.code yX12_canHold cX12_canHold 5 (some .boolean) ∈ av_gw := av_gwm 1249 (by decide +kernel)
theorem kM_X12_224 : Cond.methodLink RX12 224 yX12_leastHold ∈ av_gw := av_gwm 1250 (by decide +kernel)
theorem kI_X12_leastHold : Cond.instanceMethod yX12_leastHold ∈ av_gw := av_gwm 1252 (by decide +kernel)
theorem kC_X12_leastHold : Cond.code yX12_leastHold cX12_leastHold 2 (some .int) ∈ av_gw := av_gwm 1253 (by decide +kernel)
theorem kM_L_109 : Cond.methodLink RL 109 yX12_stick ∈ av_gw := av_gwm 1254 (by decide +kernel)
theorem kI_X12_stick : Cond.instanceMethod yX12_stick ∈ av_gw := av_gwm 1255 (by decide +kernel)
theorem kS_X12_X12_stick_X12_stick : Cond.selects RX12 yX12_stick yX12_stick ∈ av_gw := av_gwm 1256 (by decide +kernel)
theorem kC_X12_stick : Cond.code yX12_stick cX12_stick 7 (some .int) ∈ av_gw := av_gwm 1257 (by decide +kernel)
theorem kK_X12_227 : Cond.constant RX12 227 (1000000) ∈ av_gw := av_gwm 1258 (by decide +kernel)
theorem kM_L_113 : Cond.methodLink RL 113 yX12_is ∈ av_gw := av_gwm 1259 (by decide +kernel)
theorem kI_X12_is : Cond.instanceMethod yX12_is ∈ av_gw := av_gwm 1260 (by decide +kernel)
theorem kS_X12_X12_is_X12_is : Cond.selects RX12 yX12_is yX12_is ∈ av_gw := av_gwm 1261 (by decide +kernel)
theorem kC_X12_is : Cond.code yX12_is cX12_is 7 (some .int) ∈ av_gw := av_gwm 1262 (by decide +kernel)
theorem kM_L_117 : Cond.methodLink RL 117 yX12_sneeze ∈ av_gw := av_gwm 1263 (by decide +kernel)
theorem kI_X12_sneeze : Cond.instanceMethod yX12_sneeze ∈ av_gw := av_gwm 1264 (by decide +kernel)
theorem kS_X12_X12_sneeze_X12_sneeze : Cond.selects RX12 yX12_sneeze yX12_sneeze ∈ av_gw := av_gwm 1265 (by decide +kernel)
theorem kC_X12_sneeze : Cond.code yX12_sneeze cX12_sneeze 12 (some .int) ∈ av_gw := av_gwm 1266 (by decide +kernel)
theorem kL_X12_231 : Cond.constantLong RX12 231 (10) ∈ av_gw := av_gwm 1267 (by decide +kernel)
theorem kM_X12_233 : Cond.methodLink RX12 233 yX12_has ∈ av_gw := av_gwm 1268 (by decide +kernel)
theorem kT_X12_has : Cond.static yX12_has ∈ av_gw := av_gwm 1269 (by decide +kernel)
theorem kC_X12_has : Cond.code yX12_has cX12_has 2 (some .boolean) ∈ av_gw := av_gwm 1270 (by decide +kernel)
theorem kM_X12_237 : Cond.methodLink RX12 237 yX12_fraction ∈ av_gw := av_gwm 1271 (by decide +kernel)
theorem kI_X12_fraction : Cond.instanceMethod yX12_fraction ∈ av_gw := av_gwm 1273 (by decide +kernel)
theorem kC_X12_fraction : Cond.code yX12_fraction cX12_fraction 11 none ∈ av_gw := av_gwm 1274 (by decide +kernel)
theorem kM_L_121 : Cond.methodLink RL 121 yX12_februaries ∈ av_gw := av_gwm 1275 (by decide +kernel)
theorem kI_X12_februaries : Cond.instanceMethod yX12_februaries ∈ av_gw := av_gwm 1276 (by decide +kernel)
theorem kS_X12_X12_februaries_X12_februaries : Cond.selects RX12 yX12_februaries yX12_februaries ∈ av_gw := av_gwm 1277 (by decide +kernel)
theorem kC_X12_februaries : Cond.code yX12_februaries cX12_februaries 7 (some .int) ∈ av_gw := av_gwm 1278 (by decide +kernel)
theorem kL_X12_241 : Cond.constantLong RX12 241 (999999) ∈ av_gw := av_gwm 1279 (by decide +kernel)
theorem kL_X12_243 : Cond.constantLong RX12 243 (1103515245) ∈ av_gw := av_gwm 1280 (by decide +kernel)
theorem kL_X12_245 : Cond.constantLong RX12 245 (12345) ∈ av_gw := av_gwm 1281 (by decide +kernel)
theorem kL_X12_247 : Cond.constantLong RX12 247 (2147483648) ∈ av_gw := av_gwm 1282 (by decide +kernel)
theorem kL_X12_249 : Cond.constantLong RX12 249 (65536) ∈ av_gw := av_gwm 1283 (by decide +kernel)
theorem kM_L_31 : Cond.methodLink RL 31 yX12_type ∈ av_gw := av_gwm 1284 (by decide +kernel)
theorem kI_X12_type : Cond.instanceMethod yX12_type ∈ av_gw := av_gwm 1285 (by decide +kernel)
theorem kS_X12_X12_type_X12_type : Cond.selects RX12 yX12_type yX12_type ∈ av_gw := av_gwm 1286 (by decide +kernel)
theorem kC_X12_type : Cond.code yX12_type cX12_type 2 (some .int) ∈ av_gw := av_gwm 1287 (by decide +kernel)
theorem kL_X12_251 : Cond.constantLong RX12 251 (127) ∈ av_gw := av_gwm 1288 (by decide +kernel)
theorem kM_L_35 : Cond.methodLink RL 35 yX12_clear ∈ av_gw := av_gwm 1289 (by decide +kernel)
theorem kI_X12_clear : Cond.instanceMethod yX12_clear ∈ av_gw := av_gwm 1290 (by decide +kernel)
theorem kS_X12_X12_clear_X12_clear : Cond.selects RX12 yX12_clear yX12_clear ∈ av_gw := av_gwm 1291 (by decide +kernel)
theorem kC_X12_clear : Cond.code yX12_clear cX12_clear 2 (some .int) ∈ av_gw := av_gwm 1292 (by decide +kernel)
theorem kM_L_39 : Cond.methodLink RL 39 yX12_read ∈ av_gw := av_gwm 1293 (by decide +kernel)
theorem kI_X12_read : Cond.instanceMethod yX12_read ∈ av_gw := av_gwm 1294 (by decide +kernel)
theorem kS_X12_X12_read_X12_read : Cond.selects RX12 yX12_read yX12_read ∈ av_gw := av_gwm 1295 (by decide +kernel)
theorem kC_X12_read : Cond.code yX12_read cX12_read 3 (some .int) ∈ av_gw := av_gwm 1296 (by decide +kernel)
theorem kM_X12_282 : Cond.methodLink RX12 282 yX12_lookAt ∈ av_gw := av_gwm 1297 (by decide +kernel)
theorem kI_X12_lookAt : Cond.instanceMethod yX12_lookAt ∈ av_gw := av_gwm 1299 (by decide +kernel)
theorem kC_X12_lookAt : Cond.code yX12_lookAt cX12_lookAt 5 none ∈ av_gw := av_gwm 1300 (by decide +kernel)
theorem kM_X12_276 : Cond.methodLink RX12 276 yX12_isSmall ∈ av_gw := av_gwm 1301 (by decide +kernel)
theorem kT_X12_isSmall : Cond.static yX12_isSmall ∈ av_gw := av_gwm 1302 (by decide +kernel)
theorem kC_X12_isSmall : Cond.code yX12_isSmall cX12_isSmall 1 (some .boolean) ∈ av_gw := av_gwm 1303 (by decide +kernel)
theorem kL_X12_256 : Cond.constantLong RX12 256 (97) ∈ av_gw := av_gwm 1304 (by decide +kernel)
theorem kL_X12_258 : Cond.constantLong RX12 258 (122) ∈ av_gw := av_gwm 1305 (by decide +kernel)
theorem kM_X12_279 : Cond.methodLink RX12 279 yX12_isFigure ∈ av_gw := av_gwm 1306 (by decide +kernel)
theorem kT_X12_isFigure : Cond.static yX12_isFigure ∈ av_gw := av_gwm 1307 (by decide +kernel)
theorem kC_X12_isFigure : Cond.code yX12_isFigure cX12_isFigure 1 (some .boolean) ∈ av_gw := av_gwm 1308 (by decide +kernel)
theorem kL_X12_260 : Cond.constantLong RX12 260 (48) ∈ av_gw := av_gwm 1309 (by decide +kernel)
theorem kL_X12_262 : Cond.constantLong RX12 262 (57) ∈ av_gw := av_gwm 1310 (by decide +kernel)
theorem kM_X12_292 : Cond.methodLink RX12 292 yX12_isWord ∈ av_gw := av_gwm 1311 (by decide +kernel)
theorem kI_X12_isWord : Cond.instanceMethod yX12_isWord ∈ av_gw := av_gwm 1313 (by decide +kernel)
theorem kC_X12_isWord : Cond.code yX12_isWord cX12_isWord 12 (some .boolean) ∈ av_gw := av_gwm 1314 (by decide +kernel)
theorem kM_X12_285 : Cond.methodLink RX12 285 yX12_goBehind ∈ av_gw := av_gwm 1315 (by decide +kernel)
theorem kI_X12_goBehind : Cond.instanceMethod yX12_goBehind ∈ av_gw := av_gwm 1317 (by decide +kernel)
theorem kC_X12_goBehind : Cond.code yX12_goBehind cX12_goBehind 1 none ∈ av_gw := av_gwm 1318 (by decide +kernel)
theorem kM_X12_303 : Cond.methodLink RX12 303 yX12_takesItem ∈ av_gw := av_gwm 1319 (by decide +kernel)
theorem kI_X12_takesItem : Cond.instanceMethod yX12_takesItem ∈ av_gw := av_gwm 1321 (by decide +kernel)
theorem kC_X12_takesItem : Cond.code yX12_takesItem cX12_takesItem 1 (some .boolean) ∈ av_gw := av_gwm 1322 (by decide +kernel)
theorem kM_X12_296 : Cond.methodLink RX12 296 yX12_takesLedge ∈ av_gw := av_gwm 1323 (by decide +kernel)
theorem kI_X12_takesLedge : Cond.instanceMethod yX12_takesLedge ∈ av_gw := av_gwm 1325 (by decide +kernel)
theorem kC_X12_takesLedge : Cond.code yX12_takesLedge cX12_takesLedge 2 (some .boolean) ∈ av_gw := av_gwm 1326 (by decide +kernel)
theorem kM_X12_288 : Cond.methodLink RX12 288 yX12_takes ∈ av_gw := av_gwm 1327 (by decide +kernel)
theorem kI_X12_takes : Cond.instanceMethod yX12_takes ∈ av_gw := av_gwm 1329 (by decide +kernel)
theorem kC_X12_takes : Cond.code yX12_takes cX12_takes 4 (some .boolean) ∈ av_gw := av_gwm 1330 (by decide +kernel)
theorem kM_X12_300 : Cond.methodLink RX12 300 yX12_takesVoter ∈ av_gw := av_gwm 1331 (by decide +kernel)
theorem kI_X12_takesVoter : Cond.instanceMethod yX12_takesVoter ∈ av_gw := av_gwm 1333 (by decide +kernel)
theorem kC_X12_takesVoter : Cond.code yX12_takesVoter cX12_takesVoter 1 (some .boolean) ∈ av_gw := av_gwm 1334 (by decide +kernel)
theorem kM_L_126 : Cond.methodLink RL 126 yX12_part ∈ av_gw := av_gwm 1335 (by decide +kernel)
theorem kI_X12_part : Cond.instanceMethod yX12_part ∈ av_gw := av_gwm 1336 (by decide +kernel)
theorem kS_X12_X12_part_X12_part : Cond.selects RX12 yX12_part yX12_part ∈ av_gw := av_gwm 1337 (by decide +kernel)
theorem kC_X12_part : Cond.code yX12_part cX12_part 2 (some .long) ∈ av_gw := av_gwm 1338 (by decide +kernel)
theorem kM_L_130 : Cond.methodLink RL 130 yX12_image ∈ av_gw := av_gwm 1339 (by decide +kernel)
theorem kI_X12_image : Cond.instanceMethod yX12_image ∈ av_gw := av_gwm 1340 (by decide +kernel)
theorem kS_X12_X12_image_X12_image : Cond.selects RX12 yX12_image yX12_image ∈ av_gw := av_gwm 1341 (by decide +kernel)
theorem kC_X12_image : Cond.code yX12_image cX12_image 3 (some .int) ∈ av_gw := av_gwm 1342 (by decide +kernel)
theorem kM_L_134 : Cond.methodLink RL 134 yX12_from ∈ av_gw := av_gwm 1343 (by decide +kernel)
theorem kI_X12_from : Cond.instanceMethod yX12_from ∈ av_gw := av_gwm 1344 (by decide +kernel)
theorem kS_X12_X12_from_X12_from : Cond.selects RX12 yX12_from yX12_from ∈ av_gw := av_gwm 1345 (by decide +kernel)
theorem kC_X12_from : Cond.code yX12_from cX12_from 3 (some .int) ∈ av_gw := av_gwm 1346 (by decide +kernel)
theorem kM_L_138 : Cond.methodLink RL 138 yX12_status ∈ av_gw := av_gwm 1347 (by decide +kernel)
theorem kI_X12_status : Cond.instanceMethod yX12_status ∈ av_gw := av_gwm 1348 (by decide +kernel)
theorem kS_X12_X12_status_X12_status : Cond.selects RX12 yX12_status yX12_status ∈ av_gw := av_gwm 1349 (by decide +kernel)
theorem kC_X12_status : Cond.code yX12_status cX12_status 2 (some .int) ∈ av_gw := av_gwm 1350 (by decide +kernel)
theorem kL_X12_306 : Cond.constantLong RX12 306 (2) ∈ av_gw := av_gwm 1351 (by decide +kernel)
theorem kM_L_142 : Cond.methodLink RL 142 yX12_count ∈ av_gw := av_gwm 1352 (by decide +kernel)
theorem kI_X12_count : Cond.instanceMethod yX12_count ∈ av_gw := av_gwm 1353 (by decide +kernel)
theorem kS_X12_X12_count_X12_count : Cond.selects RX12 yX12_count yX12_count ∈ av_gw := av_gwm 1354 (by decide +kernel)
theorem kC_X12_count : Cond.code yX12_count cX12_count 2 (some .int) ∈ av_gw := av_gwm 1355 (by decide +kernel)
theorem kL_X12_311 : Cond.constantLong RX12 311 (6) ∈ av_gw := av_gwm 1356 (by decide +kernel)
theorem kM_X12_313 : Cond.methodLink RX12 313 yX12_counted ∈ av_gw := av_gwm 1357 (by decide +kernel)
theorem kI_X12_counted : Cond.instanceMethod yX12_counted ∈ av_gw := av_gwm 1359 (by decide +kernel)
theorem kC_X12_counted : Cond.code yX12_counted cX12_counted 2 (some .int) ∈ av_gw := av_gwm 1360 (by decide +kernel)
theorem kM_X12_308 : Cond.methodLink RX12 308 yX12_allLoads ∈ av_gw := av_gwm 1361 (by decide +kernel)
theorem kI_X12_allLoads : Cond.instanceMethod yX12_allLoads ∈ av_gw := av_gwm 1363 (by decide +kernel)
theorem kC_X12_allLoads : Cond.code yX12_allLoads cX12_allLoads 3 (some .int) ∈ av_gw := av_gwm 1364 (by decide +kernel)
theorem kM_L_147 : Cond.methodLink RL 147 yX12_digest ∈ av_gw := av_gwm 1365 (by decide +kernel)
theorem kI_X12_digest : Cond.instanceMethod yX12_digest ∈ av_gw := av_gwm 1366 (by decide +kernel)
theorem kS_X12_X12_digest_X12_digest : Cond.selects RX12 yX12_digest yX12_digest ∈ av_gw := av_gwm 1367 (by decide +kernel)
theorem kC_X12_digest : Cond.code yX12_digest cX12_digest 4 (some .long) ∈ av_gw := av_gwm 1368 (by decide +kernel)
theorem kL_X12_318 : Cond.constantLong RX12 318 (1151) ∈ av_gw := av_gwm 1369 (by decide +kernel)
theorem kL_X12_316 : Cond.constantLong RX12 316 (31) ∈ av_gw := av_gwm 1370 (by decide +kernel)
theorem kM_X12_320 : Cond.methodLink RX12 320 yX12_sums ∈ av_gw := av_gwm 1371 (by decide +kernel)
theorem kI_X12_sums : Cond.instanceMethod yX12_sums ∈ av_gw := av_gwm 1373 (by decide +kernel)
theorem kC_X12_sums : Cond.code yX12_sums cX12_sums 8 (some .long) ∈ av_gw := av_gwm 1374 (by decide +kernel)
theorem kE_X4_heft_AvalancheVote_Plain : Cond.sameMethod RX4 "AvalancheVote$Plain" "heft" "(I)I" ∈ av_gw := av_gwm 1375 (by decide +kernel)
theorem kS_X0_X4_heft_X4_heft : Cond.selects RX0 yX4_heft yX4_heft ∈ av_gw := av_gwm 1376 (by decide +kernel)
theorem kS_X2_X4_heft_X4_heft : Cond.selects RX2 yX4_heft yX4_heft ∈ av_gw := av_gwm 1377 (by decide +kernel)
theorem kS_X3_X4_heft_X3_heft : Cond.selects RX3 yX4_heft yX3_heft ∈ av_gw := av_gwm 1378 (by decide +kernel)
theorem kS_X4_X4_heft_X4_heft : Cond.selects RX4 yX4_heft yX4_heft ∈ av_gw := av_gwm 1379 (by decide +kernel)
theorem kS_X6_X4_heft_X6_heft : Cond.selects RX6 yX4_heft yX6_heft ∈ av_gw := av_gwm 1380 (by decide +kernel)
theorem kS_X10_X4_heft_X3_heft : Cond.selects RX10 yX4_heft yX3_heft ∈ av_gw := av_gwm 1381 (by decide +kernel)
theorem kB_X0_X4 : Cond.castable RX0 RX4 ∈ av_nw := av_nwm 1382 (by decide +kernel)
theorem kB_X3_X4 : Cond.castable RX3 RX4 ∈ av_nw := av_nwm 1383 (by decide +kernel)
theorem kB_X6_X4 : Cond.castable RX6 RX4 ∈ av_nw := av_nwm 1384 (by decide +kernel)
theorem kB_X2_X4 : Cond.castable RX2 RX4 ∈ av_nw := av_nwm 1385 (by decide +kernel)
theorem kB_X10_X4 : Cond.castable RX10 RX4 ∈ av_nw := av_nwm 1386 (by decide +kernel)
theorem kF_J0_9 : Cond.fieldLink RJ0 9 "java/lang/String" "value" "[B" ∈ av_gw := av_gwm 1387 (by decide +kernel)
theorem kF_J0_15 : Cond.fieldLink RJ0 15 "java/lang/String" "coder" "B" ∈ av_gw := av_gwm 1388 (by decide +kernel)
theorem kW_X0 : ∀ w ∈ u_ws RX0 TX0 0, w ∈ av_gw := by decide +kernel
theorem kW_X1 : ∀ w ∈ u_ws RX1 TX1 6, w ∈ av_gw := by decide +kernel
theorem kW_X2 : ∀ w ∈ u_ws RX2 TX2 0, w ∈ av_gw := by decide +kernel
theorem kW_X3 : ∀ w ∈ u_ws RX3 TX3 0, w ∈ av_gw := by decide +kernel
theorem kW_X4 : ∀ w ∈ u_ws RX4 TX4 0, w ∈ av_gw := by decide +kernel
theorem kW_X5 : ∀ w ∈ u_ws RX5 TX5 5, w ∈ av_gw := by decide +kernel
theorem kW_X6 : ∀ w ∈ u_ws RX6 TX6 0, w ∈ av_gw := by decide +kernel
theorem kW_X7 : ∀ w ∈ u_ws RX7 TX7 9, w ∈ av_gw := by decide +kernel
theorem kW_X8 : ∀ w ∈ u_ws RX8 TX8 7, w ∈ av_gw := by decide +kernel
theorem kW_X9 : ∀ w ∈ u_ws RX9 TX9 8, w ∈ av_gw := by decide +kernel
theorem kW_X10 : ∀ w ∈ u_ws RX10 TX10 0, w ∈ av_gw := by decide +kernel
theorem kW_X11 : ∀ w ∈ u_ws RX11 TX11 11, w ∈ av_gw := by decide +kernel
theorem kW_X12 : ∀ w ∈ u_ws RX12 TX12 29, w ∈ av_gw := by decide +kernel
end
section
/-- the memory of a world: whole numbers of objects (by cell and place), long ones, contents of arrays -/
abbrev Mem : Type := (Nat → Nat → Int32) × (Nat → Nat → Int64) × (Nat → Nat → Int32)
/-- what the launch chose: classes and slots, classes of arrays, addresses -/
abbrev Gl : Type := va_G × (Nat → ClassId) × (Nat → Nat)
def gF (μ : Mem) (q k : Nat) : Int32 := μ.1 q k
def gL (μ : Mem) (q k : Nat) : Int64 := μ.2.1 q k
def gA (μ : Mem) (q : Nat) : Nat → Int32 := μ.2.2 q
def sF (μ : Mem) (q k : Nat) (v : Int32) : Mem := (fun a b => if a = q then (if b = k then v else μ.1 a b) else μ.1 a b, μ.2)
def sL (μ : Mem) (q k : Nat) (v : Int64) : Mem := (μ.1, fun a b => if a = q then (if b = k then v else μ.2.1 a b) else μ.2.1 a b, μ.2.2)
def sA (μ : Mem) (q : Nat) (f : Nat → Int32) : Mem := (μ.1, μ.2.1, fun a => if a = q then f else μ.2.2 a)
/-- the cells: class (0 .. 12; arrays: 13 int, 14 byte, 15 boolean, 16 Plain, 17 State, 18 Slope), length, references -/
def av_skl : List (Nat × Nat × List Nat) := [(11, 0, [14, 28, 8, 0, 9, 11, 0, 0, 0, 0, 0]), (16, 6, [2, 3, 4, 5, 6, 7]), (4, 0, []), (0, 0, []), (3, 0, []), (6, 0, []), (2, 0, []), (10, 0, []), (17, 2, [42, 56]), (5, 0, [10, 0, 0, 0, 0]), (14, 150, []), (1, 0, [15, 21, 12, 13, 0, 0]), (18, 7, [70, 74, 78, 82, 86, 90, 94]), (13, 6, []), (8, 0, [15, 21, 25, 0, 26, 27, 0]), (9, 0, [1, 0, 16, 17, 0, 18, 19, 20]), (13, 8, []), (13, 8, []), (13, 6, []), (13, 6, []), (13, 6, []), (7, 0, [15, 22, 23, 0, 0, 0, 0, 0, 24]), (13, 8, []), (13, 8, []), (13, 8, []), (13, 152, []), (13, 6, []), (13, 6, []), (8, 0, [29, 35, 39, 0, 40, 41, 0]), (9, 0, [1, 0, 30, 31, 0, 32, 33, 34]), (13, 8, []), (13, 8, []), (13, 6, []), (13, 6, []), (13, 6, []), (7, 0, [29, 36, 37, 0, 0, 0, 0, 0, 38]), (13, 8, []), (13, 8, []), (13, 8, []), (13, 152, []), (13, 6, []), (13, 6, []), (8, 0, [43, 49, 53, 0, 54, 55, 0]), (9, 0, [1, 0, 44, 45, 0, 46, 47, 48]), (13, 8, []), (13, 8, []), (13, 6, []), (13, 6, []), (13, 6, []), (7, 0, [43, 50, 51, 0, 0, 0, 0, 0, 52]), (13, 8, []), (13, 8, []), (13, 8, []), (13, 152, []), (13, 6, []), (13, 6, []), (8, 0, [57, 63, 67, 0, 68, 69, 0]), (9, 0, [1, 0, 58, 59, 0, 60, 61, 62]), (13, 8, []), (13, 8, []), (13, 6, []), (13, 6, []), (13, 6, []), (7, 0, [57, 64, 65, 0, 0, 0, 0, 0, 66]), (13, 8, []), (13, 8, []), (13, 8, []), (13, 152, []), (13, 6, []), (13, 6, []), (7, 0, [15, 71, 72, 0, 0, 0, 0, 0, 73]), (13, 8, []), (13, 8, []), (13, 8, []), (7, 0, [15, 75, 76, 0, 0, 0, 0, 0, 77]), (13, 8, []), (13, 8, []), (13, 8, []), (7, 0, [15, 79, 80, 0, 0, 0, 0, 0, 81]), (13, 8, []), (13, 8, []), (13, 8, []), (7, 0, [15, 83, 84, 0, 0, 0, 0, 0, 85]), (13, 8, []), (13, 8, []), (13, 8, []), (7, 0, [15, 87, 88, 0, 0, 0, 0, 0, 89]), (13, 8, []), (13, 8, []), (13, 8, []), (7, 0, [15, 91, 92, 0, 0, 0, 0, 0, 93]), (13, 8, []), (13, 8, []), (13, 8, []), (7, 0, [15, 95, 96, 0, 0, 0, 0, 0, 97]), (13, 8, []), (13, 8, []), (13, 8, []), (12, 0, [99, 100, 101, 102, 0, 0, 103, 104, 0, 0, 0, 0, 0, 105, 106, 107, 108, 109, 110, 0, 0, 111, 0, 0, 0, 0, 0, 112, 113]), (13, 221, []), (13, 442, []), (15, 2, []), (13, 3, []), (13, 8, []), (13, 8, []), (13, 6, []), (13, 6, []), (13, 5, []), (13, 5, []), (13, 40, []), (13, 40, []), (13, 150, []), (13, 69, []), (13, 3, [])]
def av_cls (q : Nat) : Nat := (av_skl.getD q (99, 0, [])).1
def av_ln (q : Nat) : Nat := (av_skl.getD q (99, 0, [])).2.1
def av_rf (q k : Nat) : Nat := ((av_skl.getD q (99, 0, [])).2.2).getD k 0
def av_fl (g : Gl) (μ : Mem) (q : Nat) (ci : Nat) : List Value := match ci with
  | 1 => [.ref (g.2.2 (av_rf q 0)), .ref (g.2.2 (av_rf q 1)), .ref (g.2.2 (av_rf q 2)), .ref (g.2.2 (av_rf q 3)), .int (gF μ q 4), .int (gF μ q 5)]
  | 5 => [.ref (g.2.2 (av_rf q 0)), .int (gF μ q 1), .int (gF μ q 2), .int (gF μ q 3), .int (gF μ q 4)]
  | 7 => [.ref (g.2.2 (av_rf q 0)), .ref (g.2.2 (av_rf q 1)), .ref (g.2.2 (av_rf q 2)), .int (gF μ q 3), .int (gF μ q 4), .int (gF μ q 5), .int (gF μ q 6), .int (gF μ q 7), .ref (g.2.2 (av_rf q 8))]
  | 8 => [.ref (g.2.2 (av_rf q 0)), .ref (g.2.2 (av_rf q 1)), .ref (g.2.2 (av_rf q 2)), .int (gF μ q 3), .ref (g.2.2 (av_rf q 4)), .ref (g.2.2 (av_rf q 5)), .int (gF μ q 6)]
  | 9 => [.ref (g.2.2 (av_rf q 0)), .int (gF μ q 1), .ref (g.2.2 (av_rf q 2)), .ref (g.2.2 (av_rf q 3)), .int (gF μ q 4), .ref (g.2.2 (av_rf q 5)), .ref (g.2.2 (av_rf q 6)), .ref (g.2.2 (av_rf q 7))]
  | 11 => [.ref (g.2.2 (av_rf q 0)), .ref (g.2.2 (av_rf q 1)), .ref (g.2.2 (av_rf q 2)), .int (gF μ q 3), .ref (g.2.2 (av_rf q 4)), .ref (g.2.2 (av_rf q 5)), .long (gL μ q 6), .long (gL μ q 7), .int (gF μ q 8), .int (gF μ q 9), .int (gF μ q 10)]
  | 12 => [.ref (g.2.2 (av_rf q 0)), .ref (g.2.2 (av_rf q 1)), .ref (g.2.2 (av_rf q 2)), .ref (g.2.2 (av_rf q 3)), .long (gL μ q 4), .long (gL μ q 5), .ref (g.2.2 (av_rf q 6)), .ref (g.2.2 (av_rf q 7)), .int (gF μ q 8), .int (gF μ q 9), .int (gF μ q 10), .int (gF μ q 11), .int (gF μ q 12), .ref (g.2.2 (av_rf q 13)), .ref (g.2.2 (av_rf q 14)), .ref (g.2.2 (av_rf q 15)), .ref (g.2.2 (av_rf q 16)), .ref (g.2.2 (av_rf q 17)), .ref (g.2.2 (av_rf q 18)), .int (gF μ q 19), .int (gF μ q 20), .ref (g.2.2 (av_rf q 21)), .int (gF μ q 22), .int (gF μ q 23), .int (gF μ q 24), .int (gF μ q 25), .int (gF μ q 26), .ref (g.2.2 (av_rf q 27)), .ref (g.2.2 (av_rf q 28))]
  | _ => []
theorem av_fl_0 (g : Gl) (μ : Mem) (q : Nat) : av_fl g μ q 0 = [] := rfl
theorem av_fl_1 (g : Gl) (μ : Mem) (q : Nat) : av_fl g μ q 1 = [.ref (g.2.2 (av_rf q 0)), .ref (g.2.2 (av_rf q 1)), .ref (g.2.2 (av_rf q 2)), .ref (g.2.2 (av_rf q 3)), .int (gF μ q 4), .int (gF μ q 5)] := rfl
theorem av_fs_1_4 (g : Gl) (μ : Mem) (q : Nat) (v : Int32) : av_fl g (sF μ q 4 v) q 1 = (av_fl g μ q 1).set 4 (.int v) := by simp [av_fl, sF, gF, gL]
theorem av_fs_1_5 (g : Gl) (μ : Mem) (q : Nat) (v : Int32) : av_fl g (sF μ q 5 v) q 1 = (av_fl g μ q 1).set 5 (.int v) := by simp [av_fl, sF, gF, gL]
theorem av_fl_2 (g : Gl) (μ : Mem) (q : Nat) : av_fl g μ q 2 = [] := rfl
theorem av_fl_3 (g : Gl) (μ : Mem) (q : Nat) : av_fl g μ q 3 = [] := rfl
theorem av_fl_4 (g : Gl) (μ : Mem) (q : Nat) : av_fl g μ q 4 = [] := rfl
theorem av_fl_5 (g : Gl) (μ : Mem) (q : Nat) : av_fl g μ q 5 = [.ref (g.2.2 (av_rf q 0)), .int (gF μ q 1), .int (gF μ q 2), .int (gF μ q 3), .int (gF μ q 4)] := rfl
theorem av_fs_5_1 (g : Gl) (μ : Mem) (q : Nat) (v : Int32) : av_fl g (sF μ q 1 v) q 5 = (av_fl g μ q 5).set 1 (.int v) := by simp [av_fl, sF, gF, gL]
theorem av_fs_5_2 (g : Gl) (μ : Mem) (q : Nat) (v : Int32) : av_fl g (sF μ q 2 v) q 5 = (av_fl g μ q 5).set 2 (.int v) := by simp [av_fl, sF, gF, gL]
theorem av_fs_5_3 (g : Gl) (μ : Mem) (q : Nat) (v : Int32) : av_fl g (sF μ q 3 v) q 5 = (av_fl g μ q 5).set 3 (.int v) := by simp [av_fl, sF, gF, gL]
theorem av_fs_5_4 (g : Gl) (μ : Mem) (q : Nat) (v : Int32) : av_fl g (sF μ q 4 v) q 5 = (av_fl g μ q 5).set 4 (.int v) := by simp [av_fl, sF, gF, gL]
theorem av_fl_6 (g : Gl) (μ : Mem) (q : Nat) : av_fl g μ q 6 = [] := rfl
theorem av_fl_7 (g : Gl) (μ : Mem) (q : Nat) : av_fl g μ q 7 = [.ref (g.2.2 (av_rf q 0)), .ref (g.2.2 (av_rf q 1)), .ref (g.2.2 (av_rf q 2)), .int (gF μ q 3), .int (gF μ q 4), .int (gF μ q 5), .int (gF μ q 6), .int (gF μ q 7), .ref (g.2.2 (av_rf q 8))] := rfl
theorem av_fs_7_3 (g : Gl) (μ : Mem) (q : Nat) (v : Int32) : av_fl g (sF μ q 3 v) q 7 = (av_fl g μ q 7).set 3 (.int v) := by simp [av_fl, sF, gF, gL]
theorem av_fs_7_4 (g : Gl) (μ : Mem) (q : Nat) (v : Int32) : av_fl g (sF μ q 4 v) q 7 = (av_fl g μ q 7).set 4 (.int v) := by simp [av_fl, sF, gF, gL]
theorem av_fs_7_5 (g : Gl) (μ : Mem) (q : Nat) (v : Int32) : av_fl g (sF μ q 5 v) q 7 = (av_fl g μ q 7).set 5 (.int v) := by simp [av_fl, sF, gF, gL]
theorem av_fs_7_6 (g : Gl) (μ : Mem) (q : Nat) (v : Int32) : av_fl g (sF μ q 6 v) q 7 = (av_fl g μ q 7).set 6 (.int v) := by simp [av_fl, sF, gF, gL]
theorem av_fs_7_7 (g : Gl) (μ : Mem) (q : Nat) (v : Int32) : av_fl g (sF μ q 7 v) q 7 = (av_fl g μ q 7).set 7 (.int v) := by simp [av_fl, sF, gF, gL]
theorem av_fl_8 (g : Gl) (μ : Mem) (q : Nat) : av_fl g μ q 8 = [.ref (g.2.2 (av_rf q 0)), .ref (g.2.2 (av_rf q 1)), .ref (g.2.2 (av_rf q 2)), .int (gF μ q 3), .ref (g.2.2 (av_rf q 4)), .ref (g.2.2 (av_rf q 5)), .int (gF μ q 6)] := rfl
theorem av_fs_8_3 (g : Gl) (μ : Mem) (q : Nat) (v : Int32) : av_fl g (sF μ q 3 v) q 8 = (av_fl g μ q 8).set 3 (.int v) := by simp [av_fl, sF, gF, gL]
theorem av_fs_8_6 (g : Gl) (μ : Mem) (q : Nat) (v : Int32) : av_fl g (sF μ q 6 v) q 8 = (av_fl g μ q 8).set 6 (.int v) := by simp [av_fl, sF, gF, gL]
theorem av_fl_9 (g : Gl) (μ : Mem) (q : Nat) : av_fl g μ q 9 = [.ref (g.2.2 (av_rf q 0)), .int (gF μ q 1), .ref (g.2.2 (av_rf q 2)), .ref (g.2.2 (av_rf q 3)), .int (gF μ q 4), .ref (g.2.2 (av_rf q 5)), .ref (g.2.2 (av_rf q 6)), .ref (g.2.2 (av_rf q 7))] := rfl
theorem av_fs_9_1 (g : Gl) (μ : Mem) (q : Nat) (v : Int32) : av_fl g (sF μ q 1 v) q 9 = (av_fl g μ q 9).set 1 (.int v) := by simp [av_fl, sF, gF, gL]
theorem av_fs_9_4 (g : Gl) (μ : Mem) (q : Nat) (v : Int32) : av_fl g (sF μ q 4 v) q 9 = (av_fl g μ q 9).set 4 (.int v) := by simp [av_fl, sF, gF, gL]
theorem av_fl_10 (g : Gl) (μ : Mem) (q : Nat) : av_fl g μ q 10 = [] := rfl
theorem av_fl_11 (g : Gl) (μ : Mem) (q : Nat) : av_fl g μ q 11 = [.ref (g.2.2 (av_rf q 0)), .ref (g.2.2 (av_rf q 1)), .ref (g.2.2 (av_rf q 2)), .int (gF μ q 3), .ref (g.2.2 (av_rf q 4)), .ref (g.2.2 (av_rf q 5)), .long (gL μ q 6), .long (gL μ q 7), .int (gF μ q 8), .int (gF μ q 9), .int (gF μ q 10)] := rfl
theorem av_fs_11_3 (g : Gl) (μ : Mem) (q : Nat) (v : Int32) : av_fl g (sF μ q 3 v) q 11 = (av_fl g μ q 11).set 3 (.int v) := by simp [av_fl, sF, gF, gL]
theorem av_fs_11_6 (g : Gl) (μ : Mem) (q : Nat) (v : Int64) : av_fl g (sL μ q 6 v) q 11 = (av_fl g μ q 11).set 6 (.long v) := by simp [av_fl, sL, gF, gL]
theorem av_fs_11_7 (g : Gl) (μ : Mem) (q : Nat) (v : Int64) : av_fl g (sL μ q 7 v) q 11 = (av_fl g μ q 11).set 7 (.long v) := by simp [av_fl, sL, gF, gL]
theorem av_fs_11_8 (g : Gl) (μ : Mem) (q : Nat) (v : Int32) : av_fl g (sF μ q 8 v) q 11 = (av_fl g μ q 11).set 8 (.int v) := by simp [av_fl, sF, gF, gL]
theorem av_fs_11_9 (g : Gl) (μ : Mem) (q : Nat) (v : Int32) : av_fl g (sF μ q 9 v) q 11 = (av_fl g μ q 11).set 9 (.int v) := by simp [av_fl, sF, gF, gL]
theorem av_fs_11_10 (g : Gl) (μ : Mem) (q : Nat) (v : Int32) : av_fl g (sF μ q 10 v) q 11 = (av_fl g μ q 11).set 10 (.int v) := by simp [av_fl, sF, gF, gL]
theorem av_fl_12 (g : Gl) (μ : Mem) (q : Nat) : av_fl g μ q 12 = [.ref (g.2.2 (av_rf q 0)), .ref (g.2.2 (av_rf q 1)), .ref (g.2.2 (av_rf q 2)), .ref (g.2.2 (av_rf q 3)), .long (gL μ q 4), .long (gL μ q 5), .ref (g.2.2 (av_rf q 6)), .ref (g.2.2 (av_rf q 7)), .int (gF μ q 8), .int (gF μ q 9), .int (gF μ q 10), .int (gF μ q 11), .int (gF μ q 12), .ref (g.2.2 (av_rf q 13)), .ref (g.2.2 (av_rf q 14)), .ref (g.2.2 (av_rf q 15)), .ref (g.2.2 (av_rf q 16)), .ref (g.2.2 (av_rf q 17)), .ref (g.2.2 (av_rf q 18)), .int (gF μ q 19), .int (gF μ q 20), .ref (g.2.2 (av_rf q 21)), .int (gF μ q 22), .int (gF μ q 23), .int (gF μ q 24), .int (gF μ q 25), .int (gF μ q 26), .ref (g.2.2 (av_rf q 27)), .ref (g.2.2 (av_rf q 28))] := rfl
theorem av_fs_12_4 (g : Gl) (μ : Mem) (q : Nat) (v : Int64) : av_fl g (sL μ q 4 v) q 12 = (av_fl g μ q 12).set 4 (.long v) := by simp [av_fl, sL, gF, gL]
theorem av_fs_12_5 (g : Gl) (μ : Mem) (q : Nat) (v : Int64) : av_fl g (sL μ q 5 v) q 12 = (av_fl g μ q 12).set 5 (.long v) := by simp [av_fl, sL, gF, gL]
theorem av_fs_12_8 (g : Gl) (μ : Mem) (q : Nat) (v : Int32) : av_fl g (sF μ q 8 v) q 12 = (av_fl g μ q 12).set 8 (.int v) := by simp [av_fl, sF, gF, gL]
theorem av_fs_12_9 (g : Gl) (μ : Mem) (q : Nat) (v : Int32) : av_fl g (sF μ q 9 v) q 12 = (av_fl g μ q 12).set 9 (.int v) := by simp [av_fl, sF, gF, gL]
theorem av_fs_12_10 (g : Gl) (μ : Mem) (q : Nat) (v : Int32) : av_fl g (sF μ q 10 v) q 12 = (av_fl g μ q 12).set 10 (.int v) := by simp [av_fl, sF, gF, gL]
theorem av_fs_12_11 (g : Gl) (μ : Mem) (q : Nat) (v : Int32) : av_fl g (sF μ q 11 v) q 12 = (av_fl g μ q 12).set 11 (.int v) := by simp [av_fl, sF, gF, gL]
theorem av_fs_12_12 (g : Gl) (μ : Mem) (q : Nat) (v : Int32) : av_fl g (sF μ q 12 v) q 12 = (av_fl g μ q 12).set 12 (.int v) := by simp [av_fl, sF, gF, gL]
theorem av_fs_12_19 (g : Gl) (μ : Mem) (q : Nat) (v : Int32) : av_fl g (sF μ q 19 v) q 12 = (av_fl g μ q 12).set 19 (.int v) := by simp [av_fl, sF, gF, gL]
theorem av_fs_12_20 (g : Gl) (μ : Mem) (q : Nat) (v : Int32) : av_fl g (sF μ q 20 v) q 12 = (av_fl g μ q 12).set 20 (.int v) := by simp [av_fl, sF, gF, gL]
theorem av_fs_12_22 (g : Gl) (μ : Mem) (q : Nat) (v : Int32) : av_fl g (sF μ q 22 v) q 12 = (av_fl g μ q 12).set 22 (.int v) := by simp [av_fl, sF, gF, gL]
theorem av_fs_12_23 (g : Gl) (μ : Mem) (q : Nat) (v : Int32) : av_fl g (sF μ q 23 v) q 12 = (av_fl g μ q 12).set 23 (.int v) := by simp [av_fl, sF, gF, gL]
theorem av_fs_12_24 (g : Gl) (μ : Mem) (q : Nat) (v : Int32) : av_fl g (sF μ q 24 v) q 12 = (av_fl g μ q 12).set 24 (.int v) := by simp [av_fl, sF, gF, gL]
theorem av_fs_12_25 (g : Gl) (μ : Mem) (q : Nat) (v : Int32) : av_fl g (sF μ q 25 v) q 12 = (av_fl g μ q 12).set 25 (.int v) := by simp [av_fl, sF, gF, gL]
theorem av_fs_12_26 (g : Gl) (μ : Mem) (q : Nat) (v : Int32) : av_fl g (sF μ q 26 v) q 12 = (av_fl g μ q 12).set 26 (.int v) := by simp [av_fl, sF, gF, gL]
abbrev av_wc : Nat × Nat := (0, 98)
abbrev av_wm : Nat × Nat := (98, 16)
def av_t (w : Nat × Nat) (q ci : Nat) : Prop := av_cls q = ci ∧ w.1 ≤ q ∧ q < w.1 + w.2
theorem av_cls_big {q : Nat} (h : 114 ≤ q) : av_cls q = 99 := by
  unfold av_cls
  rw [List.getD_eq_getElem?_getD, List.getElem?_eq_none (by simpa [av_skl] using h)]
  rfl
theorem av_ty_1_0 {q : Nat} (h : av_t av_wc q 1) : av_t av_wc (av_rf q 0) 9 := by
  have h2 : q < 114 := by have := h.2.2; simp at this; omega
  have hd : ∀ x, x < 114 → av_cls x = 1 → av_wc.1 ≤ x → x < av_wc.1 + av_wc.2 → (av_cls (av_rf x 0) = 9 ∧ av_wc.1 ≤ av_rf x 0 ∧ av_rf x 0 < av_wc.1 + av_wc.2) := by decide +kernel
  exact hd q h2 h.1 h.2.1 h.2.2
theorem av_ty_1_1 {q : Nat} (h : av_t av_wc q 1) : av_t av_wc (av_rf q 1) 7 := by
  have h2 : q < 114 := by have := h.2.2; simp at this; omega
  have hd : ∀ x, x < 114 → av_cls x = 1 → av_wc.1 ≤ x → x < av_wc.1 + av_wc.2 → (av_cls (av_rf x 1) = 7 ∧ av_wc.1 ≤ av_rf x 1 ∧ av_rf x 1 < av_wc.1 + av_wc.2) := by decide +kernel
  exact hd q h2 h.1 h.2.1 h.2.2
theorem av_ty_1_2 {q : Nat} (h : av_t av_wc q 1) : av_t av_wc (av_rf q 2) 18 := by
  have h2 : q < 114 := by have := h.2.2; simp at this; omega
  have hd : ∀ x, x < 114 → av_cls x = 1 → av_wc.1 ≤ x → x < av_wc.1 + av_wc.2 → (av_cls (av_rf x 2) = 18 ∧ av_wc.1 ≤ av_rf x 2 ∧ av_rf x 2 < av_wc.1 + av_wc.2) := by decide +kernel
  exact hd q h2 h.1 h.2.1 h.2.2
theorem av_ll_1_2 {q : Nat} (h : av_t av_wc q 1) : av_ln (av_rf q 2) = 7 := by
  have h2 : q < 114 := by have := h.2.2; simp at this; omega
  have hd : ∀ x, x < 114 → av_cls x = 1 → av_ln (av_rf x 2) = 7 := by decide +kernel
  exact hd q h2 h.1
theorem av_ty_1_3 {q : Nat} (h : av_t av_wc q 1) : av_t av_wc (av_rf q 3) 13 := by
  have h2 : q < 114 := by have := h.2.2; simp at this; omega
  have hd : ∀ x, x < 114 → av_cls x = 1 → av_wc.1 ≤ x → x < av_wc.1 + av_wc.2 → (av_cls (av_rf x 3) = 13 ∧ av_wc.1 ≤ av_rf x 3 ∧ av_rf x 3 < av_wc.1 + av_wc.2) := by decide +kernel
  exact hd q h2 h.1 h.2.1 h.2.2
theorem av_ll_1_3 {q : Nat} (h : av_t av_wc q 1) : av_ln (av_rf q 3) = 6 := by
  have h2 : q < 114 := by have := h.2.2; simp at this; omega
  have hd : ∀ x, x < 114 → av_cls x = 1 → av_ln (av_rf x 3) = 6 := by decide +kernel
  exact hd q h2 h.1
theorem av_ty_5_0 {q : Nat} (h : av_t av_wc q 5) : av_t av_wc (av_rf q 0) 14 := by
  have h2 : q < 114 := by have := h.2.2; simp at this; omega
  have hd : ∀ x, x < 114 → av_cls x = 5 → av_wc.1 ≤ x → x < av_wc.1 + av_wc.2 → (av_cls (av_rf x 0) = 14 ∧ av_wc.1 ≤ av_rf x 0 ∧ av_rf x 0 < av_wc.1 + av_wc.2) := by decide +kernel
  exact hd q h2 h.1 h.2.1 h.2.2
theorem av_ll_5_0 {q : Nat} (h : av_t av_wc q 5) : av_ln (av_rf q 0) = 150 := by
  have h2 : q < 114 := by have := h.2.2; simp at this; omega
  have hd : ∀ x, x < 114 → av_cls x = 5 → av_ln (av_rf x 0) = 150 := by decide +kernel
  exact hd q h2 h.1
theorem av_ty_7_0 {q : Nat} (h : av_t av_wc q 7) : av_t av_wc (av_rf q 0) 9 := by
  have h2 : q < 114 := by have := h.2.2; simp at this; omega
  have hd : ∀ x, x < 114 → av_cls x = 7 → av_wc.1 ≤ x → x < av_wc.1 + av_wc.2 → (av_cls (av_rf x 0) = 9 ∧ av_wc.1 ≤ av_rf x 0 ∧ av_rf x 0 < av_wc.1 + av_wc.2) := by decide +kernel
  exact hd q h2 h.1 h.2.1 h.2.2
theorem av_ty_7_1 {q : Nat} (h : av_t av_wc q 7) : av_t av_wc (av_rf q 1) 13 := by
  have h2 : q < 114 := by have := h.2.2; simp at this; omega
  have hd : ∀ x, x < 114 → av_cls x = 7 → av_wc.1 ≤ x → x < av_wc.1 + av_wc.2 → (av_cls (av_rf x 1) = 13 ∧ av_wc.1 ≤ av_rf x 1 ∧ av_rf x 1 < av_wc.1 + av_wc.2) := by decide +kernel
  exact hd q h2 h.1 h.2.1 h.2.2
theorem av_ll_7_1 {q : Nat} (h : av_t av_wc q 7) : av_ln (av_rf q 1) = 8 := by
  have h2 : q < 114 := by have := h.2.2; simp at this; omega
  have hd : ∀ x, x < 114 → av_cls x = 7 → av_ln (av_rf x 1) = 8 := by decide +kernel
  exact hd q h2 h.1
theorem av_ty_7_2 {q : Nat} (h : av_t av_wc q 7) : av_t av_wc (av_rf q 2) 13 := by
  have h2 : q < 114 := by have := h.2.2; simp at this; omega
  have hd : ∀ x, x < 114 → av_cls x = 7 → av_wc.1 ≤ x → x < av_wc.1 + av_wc.2 → (av_cls (av_rf x 2) = 13 ∧ av_wc.1 ≤ av_rf x 2 ∧ av_rf x 2 < av_wc.1 + av_wc.2) := by decide +kernel
  exact hd q h2 h.1 h.2.1 h.2.2
theorem av_ll_7_2 {q : Nat} (h : av_t av_wc q 7) : av_ln (av_rf q 2) = 8 := by
  have h2 : q < 114 := by have := h.2.2; simp at this; omega
  have hd : ∀ x, x < 114 → av_cls x = 7 → av_ln (av_rf x 2) = 8 := by decide +kernel
  exact hd q h2 h.1
theorem av_ty_7_8 {q : Nat} (h : av_t av_wc q 7) : av_t av_wc (av_rf q 8) 13 := by
  have h2 : q < 114 := by have := h.2.2; simp at this; omega
  have hd : ∀ x, x < 114 → av_cls x = 7 → av_wc.1 ≤ x → x < av_wc.1 + av_wc.2 → (av_cls (av_rf x 8) = 13 ∧ av_wc.1 ≤ av_rf x 8 ∧ av_rf x 8 < av_wc.1 + av_wc.2) := by decide +kernel
  exact hd q h2 h.1 h.2.1 h.2.2
theorem av_ll_7_8 {q : Nat} (h : av_t av_wc q 7) : av_ln (av_rf q 8) = 8 := by
  have h2 : q < 114 := by have := h.2.2; simp at this; omega
  have hd : ∀ x, x < 114 → av_cls x = 7 → av_ln (av_rf x 8) = 8 := by decide +kernel
  exact hd q h2 h.1
theorem av_ty_8_0 {q : Nat} (h : av_t av_wc q 8) : av_t av_wc (av_rf q 0) 9 := by
  have h2 : q < 114 := by have := h.2.2; simp at this; omega
  have hd : ∀ x, x < 114 → av_cls x = 8 → av_wc.1 ≤ x → x < av_wc.1 + av_wc.2 → (av_cls (av_rf x 0) = 9 ∧ av_wc.1 ≤ av_rf x 0 ∧ av_rf x 0 < av_wc.1 + av_wc.2) := by decide +kernel
  exact hd q h2 h.1 h.2.1 h.2.2
theorem av_ty_8_1 {q : Nat} (h : av_t av_wc q 8) : av_t av_wc (av_rf q 1) 7 := by
  have h2 : q < 114 := by have := h.2.2; simp at this; omega
  have hd : ∀ x, x < 114 → av_cls x = 8 → av_wc.1 ≤ x → x < av_wc.1 + av_wc.2 → (av_cls (av_rf x 1) = 7 ∧ av_wc.1 ≤ av_rf x 1 ∧ av_rf x 1 < av_wc.1 + av_wc.2) := by decide +kernel
  exact hd q h2 h.1 h.2.1 h.2.2
theorem av_ty_8_2 {q : Nat} (h : av_t av_wc q 8) : av_t av_wc (av_rf q 2) 13 := by
  have h2 : q < 114 := by have := h.2.2; simp at this; omega
  have hd : ∀ x, x < 114 → av_cls x = 8 → av_wc.1 ≤ x → x < av_wc.1 + av_wc.2 → (av_cls (av_rf x 2) = 13 ∧ av_wc.1 ≤ av_rf x 2 ∧ av_rf x 2 < av_wc.1 + av_wc.2) := by decide +kernel
  exact hd q h2 h.1 h.2.1 h.2.2
theorem av_ll_8_2 {q : Nat} (h : av_t av_wc q 8) : av_ln (av_rf q 2) = 152 := by
  have h2 : q < 114 := by have := h.2.2; simp at this; omega
  have hd : ∀ x, x < 114 → av_cls x = 8 → av_ln (av_rf x 2) = 152 := by decide +kernel
  exact hd q h2 h.1
theorem av_ty_8_4 {q : Nat} (h : av_t av_wc q 8) : av_t av_wc (av_rf q 4) 13 := by
  have h2 : q < 114 := by have := h.2.2; simp at this; omega
  have hd : ∀ x, x < 114 → av_cls x = 8 → av_wc.1 ≤ x → x < av_wc.1 + av_wc.2 → (av_cls (av_rf x 4) = 13 ∧ av_wc.1 ≤ av_rf x 4 ∧ av_rf x 4 < av_wc.1 + av_wc.2) := by decide +kernel
  exact hd q h2 h.1 h.2.1 h.2.2
theorem av_ll_8_4 {q : Nat} (h : av_t av_wc q 8) : av_ln (av_rf q 4) = 6 := by
  have h2 : q < 114 := by have := h.2.2; simp at this; omega
  have hd : ∀ x, x < 114 → av_cls x = 8 → av_ln (av_rf x 4) = 6 := by decide +kernel
  exact hd q h2 h.1
theorem av_ty_8_5 {q : Nat} (h : av_t av_wc q 8) : av_t av_wc (av_rf q 5) 13 := by
  have h2 : q < 114 := by have := h.2.2; simp at this; omega
  have hd : ∀ x, x < 114 → av_cls x = 8 → av_wc.1 ≤ x → x < av_wc.1 + av_wc.2 → (av_cls (av_rf x 5) = 13 ∧ av_wc.1 ≤ av_rf x 5 ∧ av_rf x 5 < av_wc.1 + av_wc.2) := by decide +kernel
  exact hd q h2 h.1 h.2.1 h.2.2
theorem av_ll_8_5 {q : Nat} (h : av_t av_wc q 8) : av_ln (av_rf q 5) = 6 := by
  have h2 : q < 114 := by have := h.2.2; simp at this; omega
  have hd : ∀ x, x < 114 → av_cls x = 8 → av_ln (av_rf x 5) = 6 := by decide +kernel
  exact hd q h2 h.1
theorem av_ty_9_0 {q : Nat} (h : av_t av_wc q 9) : av_t av_wc (av_rf q 0) 16 := by
  have h2 : q < 114 := by have := h.2.2; simp at this; omega
  have hd : ∀ x, x < 114 → av_cls x = 9 → av_wc.1 ≤ x → x < av_wc.1 + av_wc.2 → (av_cls (av_rf x 0) = 16 ∧ av_wc.1 ≤ av_rf x 0 ∧ av_rf x 0 < av_wc.1 + av_wc.2) := by decide +kernel
  exact hd q h2 h.1 h.2.1 h.2.2
theorem av_ll_9_0 {q : Nat} (h : av_t av_wc q 9) : av_ln (av_rf q 0) = 6 := by
  have h2 : q < 114 := by have := h.2.2; simp at this; omega
  have hd : ∀ x, x < 114 → av_cls x = 9 → av_ln (av_rf x 0) = 6 := by decide +kernel
  exact hd q h2 h.1
theorem av_ty_9_2 {q : Nat} (h : av_t av_wc q 9) : av_t av_wc (av_rf q 2) 13 := by
  have h2 : q < 114 := by have := h.2.2; simp at this; omega
  have hd : ∀ x, x < 114 → av_cls x = 9 → av_wc.1 ≤ x → x < av_wc.1 + av_wc.2 → (av_cls (av_rf x 2) = 13 ∧ av_wc.1 ≤ av_rf x 2 ∧ av_rf x 2 < av_wc.1 + av_wc.2) := by decide +kernel
  exact hd q h2 h.1 h.2.1 h.2.2
theorem av_ll_9_2 {q : Nat} (h : av_t av_wc q 9) : av_ln (av_rf q 2) = 8 := by
  have h2 : q < 114 := by have := h.2.2; simp at this; omega
  have hd : ∀ x, x < 114 → av_cls x = 9 → av_ln (av_rf x 2) = 8 := by decide +kernel
  exact hd q h2 h.1
theorem av_ty_9_3 {q : Nat} (h : av_t av_wc q 9) : av_t av_wc (av_rf q 3) 13 := by
  have h2 : q < 114 := by have := h.2.2; simp at this; omega
  have hd : ∀ x, x < 114 → av_cls x = 9 → av_wc.1 ≤ x → x < av_wc.1 + av_wc.2 → (av_cls (av_rf x 3) = 13 ∧ av_wc.1 ≤ av_rf x 3 ∧ av_rf x 3 < av_wc.1 + av_wc.2) := by decide +kernel
  exact hd q h2 h.1 h.2.1 h.2.2
theorem av_ll_9_3 {q : Nat} (h : av_t av_wc q 9) : av_ln (av_rf q 3) = 8 := by
  have h2 : q < 114 := by have := h.2.2; simp at this; omega
  have hd : ∀ x, x < 114 → av_cls x = 9 → av_ln (av_rf x 3) = 8 := by decide +kernel
  exact hd q h2 h.1
theorem av_ty_9_5 {q : Nat} (h : av_t av_wc q 9) : av_t av_wc (av_rf q 5) 13 := by
  have h2 : q < 114 := by have := h.2.2; simp at this; omega
  have hd : ∀ x, x < 114 → av_cls x = 9 → av_wc.1 ≤ x → x < av_wc.1 + av_wc.2 → (av_cls (av_rf x 5) = 13 ∧ av_wc.1 ≤ av_rf x 5 ∧ av_rf x 5 < av_wc.1 + av_wc.2) := by decide +kernel
  exact hd q h2 h.1 h.2.1 h.2.2
theorem av_ll_9_5 {q : Nat} (h : av_t av_wc q 9) : av_ln (av_rf q 5) = 6 := by
  have h2 : q < 114 := by have := h.2.2; simp at this; omega
  have hd : ∀ x, x < 114 → av_cls x = 9 → av_ln (av_rf x 5) = 6 := by decide +kernel
  exact hd q h2 h.1
theorem av_ty_9_6 {q : Nat} (h : av_t av_wc q 9) : av_t av_wc (av_rf q 6) 13 := by
  have h2 : q < 114 := by have := h.2.2; simp at this; omega
  have hd : ∀ x, x < 114 → av_cls x = 9 → av_wc.1 ≤ x → x < av_wc.1 + av_wc.2 → (av_cls (av_rf x 6) = 13 ∧ av_wc.1 ≤ av_rf x 6 ∧ av_rf x 6 < av_wc.1 + av_wc.2) := by decide +kernel
  exact hd q h2 h.1 h.2.1 h.2.2
theorem av_ll_9_6 {q : Nat} (h : av_t av_wc q 9) : av_ln (av_rf q 6) = 6 := by
  have h2 : q < 114 := by have := h.2.2; simp at this; omega
  have hd : ∀ x, x < 114 → av_cls x = 9 → av_ln (av_rf x 6) = 6 := by decide +kernel
  exact hd q h2 h.1
theorem av_ty_9_7 {q : Nat} (h : av_t av_wc q 9) : av_t av_wc (av_rf q 7) 13 := by
  have h2 : q < 114 := by have := h.2.2; simp at this; omega
  have hd : ∀ x, x < 114 → av_cls x = 9 → av_wc.1 ≤ x → x < av_wc.1 + av_wc.2 → (av_cls (av_rf x 7) = 13 ∧ av_wc.1 ≤ av_rf x 7 ∧ av_rf x 7 < av_wc.1 + av_wc.2) := by decide +kernel
  exact hd q h2 h.1 h.2.1 h.2.2
theorem av_ll_9_7 {q : Nat} (h : av_t av_wc q 9) : av_ln (av_rf q 7) = 6 := by
  have h2 : q < 114 := by have := h.2.2; simp at this; omega
  have hd : ∀ x, x < 114 → av_cls x = 9 → av_ln (av_rf x 7) = 6 := by decide +kernel
  exact hd q h2 h.1
theorem av_ty_11_0 {q : Nat} (h : av_t av_wc q 11) : av_t av_wc (av_rf q 0) 8 := by
  have h2 : q < 114 := by have := h.2.2; simp at this; omega
  have hd : ∀ x, x < 114 → av_cls x = 11 → av_wc.1 ≤ x → x < av_wc.1 + av_wc.2 → (av_cls (av_rf x 0) = 8 ∧ av_wc.1 ≤ av_rf x 0 ∧ av_rf x 0 < av_wc.1 + av_wc.2) := by decide +kernel
  exact hd q h2 h.1 h.2.1 h.2.2
theorem av_ty_11_1 {q : Nat} (h : av_t av_wc q 11) : av_t av_wc (av_rf q 1) 8 := by
  have h2 : q < 114 := by have := h.2.2; simp at this; omega
  have hd : ∀ x, x < 114 → av_cls x = 11 → av_wc.1 ≤ x → x < av_wc.1 + av_wc.2 → (av_cls (av_rf x 1) = 8 ∧ av_wc.1 ≤ av_rf x 1 ∧ av_rf x 1 < av_wc.1 + av_wc.2) := by decide +kernel
  exact hd q h2 h.1 h.2.1 h.2.2
theorem av_ty_11_2 {q : Nat} (h : av_t av_wc q 11) : av_t av_wc (av_rf q 2) 17 := by
  have h2 : q < 114 := by have := h.2.2; simp at this; omega
  have hd : ∀ x, x < 114 → av_cls x = 11 → av_wc.1 ≤ x → x < av_wc.1 + av_wc.2 → (av_cls (av_rf x 2) = 17 ∧ av_wc.1 ≤ av_rf x 2 ∧ av_rf x 2 < av_wc.1 + av_wc.2) := by decide +kernel
  exact hd q h2 h.1 h.2.1 h.2.2
theorem av_ll_11_2 {q : Nat} (h : av_t av_wc q 11) : av_ln (av_rf q 2) = 2 := by
  have h2 : q < 114 := by have := h.2.2; simp at this; omega
  have hd : ∀ x, x < 114 → av_cls x = 11 → av_ln (av_rf x 2) = 2 := by decide +kernel
  exact hd q h2 h.1
theorem av_ty_11_4 {q : Nat} (h : av_t av_wc q 11) : av_t av_wc (av_rf q 4) 5 := by
  have h2 : q < 114 := by have := h.2.2; simp at this; omega
  have hd : ∀ x, x < 114 → av_cls x = 11 → av_wc.1 ≤ x → x < av_wc.1 + av_wc.2 → (av_cls (av_rf x 4) = 5 ∧ av_wc.1 ≤ av_rf x 4 ∧ av_rf x 4 < av_wc.1 + av_wc.2) := by decide +kernel
  exact hd q h2 h.1 h.2.1 h.2.2
theorem av_ty_11_5 {q : Nat} (h : av_t av_wc q 11) : av_t av_wc (av_rf q 5) 1 := by
  have h2 : q < 114 := by have := h.2.2; simp at this; omega
  have hd : ∀ x, x < 114 → av_cls x = 11 → av_wc.1 ≤ x → x < av_wc.1 + av_wc.2 → (av_cls (av_rf x 5) = 1 ∧ av_wc.1 ≤ av_rf x 5 ∧ av_rf x 5 < av_wc.1 + av_wc.2) := by decide +kernel
  exact hd q h2 h.1 h.2.1 h.2.2
theorem av_ty_12_0 {q : Nat} (h : av_t av_wm q 12) : av_t av_wm (av_rf q 0) 13 := by
  have h2 : q < 114 := by have := h.2.2; simp at this; omega
  have hd : ∀ x, x < 114 → av_cls x = 12 → av_wm.1 ≤ x → x < av_wm.1 + av_wm.2 → (av_cls (av_rf x 0) = 13 ∧ av_wm.1 ≤ av_rf x 0 ∧ av_rf x 0 < av_wm.1 + av_wm.2) := by decide +kernel
  exact hd q h2 h.1 h.2.1 h.2.2
theorem av_ll_12_0 {q : Nat} (h : av_t av_wm q 12) : av_ln (av_rf q 0) = 221 := by
  have h2 : q < 114 := by have := h.2.2; simp at this; omega
  have hd : ∀ x, x < 114 → av_cls x = 12 → av_ln (av_rf x 0) = 221 := by decide +kernel
  exact hd q h2 h.1
theorem av_ty_12_1 {q : Nat} (h : av_t av_wm q 12) : av_t av_wm (av_rf q 1) 13 := by
  have h2 : q < 114 := by have := h.2.2; simp at this; omega
  have hd : ∀ x, x < 114 → av_cls x = 12 → av_wm.1 ≤ x → x < av_wm.1 + av_wm.2 → (av_cls (av_rf x 1) = 13 ∧ av_wm.1 ≤ av_rf x 1 ∧ av_rf x 1 < av_wm.1 + av_wm.2) := by decide +kernel
  exact hd q h2 h.1 h.2.1 h.2.2
theorem av_ll_12_1 {q : Nat} (h : av_t av_wm q 12) : av_ln (av_rf q 1) = 442 := by
  have h2 : q < 114 := by have := h.2.2; simp at this; omega
  have hd : ∀ x, x < 114 → av_cls x = 12 → av_ln (av_rf x 1) = 442 := by decide +kernel
  exact hd q h2 h.1
theorem av_ty_12_2 {q : Nat} (h : av_t av_wm q 12) : av_t av_wm (av_rf q 2) 15 := by
  have h2 : q < 114 := by have := h.2.2; simp at this; omega
  have hd : ∀ x, x < 114 → av_cls x = 12 → av_wm.1 ≤ x → x < av_wm.1 + av_wm.2 → (av_cls (av_rf x 2) = 15 ∧ av_wm.1 ≤ av_rf x 2 ∧ av_rf x 2 < av_wm.1 + av_wm.2) := by decide +kernel
  exact hd q h2 h.1 h.2.1 h.2.2
theorem av_ll_12_2 {q : Nat} (h : av_t av_wm q 12) : av_ln (av_rf q 2) = 2 := by
  have h2 : q < 114 := by have := h.2.2; simp at this; omega
  have hd : ∀ x, x < 114 → av_cls x = 12 → av_ln (av_rf x 2) = 2 := by decide +kernel
  exact hd q h2 h.1
theorem av_ty_12_3 {q : Nat} (h : av_t av_wm q 12) : av_t av_wm (av_rf q 3) 13 := by
  have h2 : q < 114 := by have := h.2.2; simp at this; omega
  have hd : ∀ x, x < 114 → av_cls x = 12 → av_wm.1 ≤ x → x < av_wm.1 + av_wm.2 → (av_cls (av_rf x 3) = 13 ∧ av_wm.1 ≤ av_rf x 3 ∧ av_rf x 3 < av_wm.1 + av_wm.2) := by decide +kernel
  exact hd q h2 h.1 h.2.1 h.2.2
theorem av_ll_12_3 {q : Nat} (h : av_t av_wm q 12) : av_ln (av_rf q 3) = 3 := by
  have h2 : q < 114 := by have := h.2.2; simp at this; omega
  have hd : ∀ x, x < 114 → av_cls x = 12 → av_ln (av_rf x 3) = 3 := by decide +kernel
  exact hd q h2 h.1
theorem av_ty_12_6 {q : Nat} (h : av_t av_wm q 12) : av_t av_wm (av_rf q 6) 13 := by
  have h2 : q < 114 := by have := h.2.2; simp at this; omega
  have hd : ∀ x, x < 114 → av_cls x = 12 → av_wm.1 ≤ x → x < av_wm.1 + av_wm.2 → (av_cls (av_rf x 6) = 13 ∧ av_wm.1 ≤ av_rf x 6 ∧ av_rf x 6 < av_wm.1 + av_wm.2) := by decide +kernel
  exact hd q h2 h.1 h.2.1 h.2.2
theorem av_ll_12_6 {q : Nat} (h : av_t av_wm q 12) : av_ln (av_rf q 6) = 8 := by
  have h2 : q < 114 := by have := h.2.2; simp at this; omega
  have hd : ∀ x, x < 114 → av_cls x = 12 → av_ln (av_rf x 6) = 8 := by decide +kernel
  exact hd q h2 h.1
theorem av_ty_12_7 {q : Nat} (h : av_t av_wm q 12) : av_t av_wm (av_rf q 7) 13 := by
  have h2 : q < 114 := by have := h.2.2; simp at this; omega
  have hd : ∀ x, x < 114 → av_cls x = 12 → av_wm.1 ≤ x → x < av_wm.1 + av_wm.2 → (av_cls (av_rf x 7) = 13 ∧ av_wm.1 ≤ av_rf x 7 ∧ av_rf x 7 < av_wm.1 + av_wm.2) := by decide +kernel
  exact hd q h2 h.1 h.2.1 h.2.2
theorem av_ll_12_7 {q : Nat} (h : av_t av_wm q 12) : av_ln (av_rf q 7) = 8 := by
  have h2 : q < 114 := by have := h.2.2; simp at this; omega
  have hd : ∀ x, x < 114 → av_cls x = 12 → av_ln (av_rf x 7) = 8 := by decide +kernel
  exact hd q h2 h.1
theorem av_ty_12_13 {q : Nat} (h : av_t av_wm q 12) : av_t av_wm (av_rf q 13) 13 := by
  have h2 : q < 114 := by have := h.2.2; simp at this; omega
  have hd : ∀ x, x < 114 → av_cls x = 12 → av_wm.1 ≤ x → x < av_wm.1 + av_wm.2 → (av_cls (av_rf x 13) = 13 ∧ av_wm.1 ≤ av_rf x 13 ∧ av_rf x 13 < av_wm.1 + av_wm.2) := by decide +kernel
  exact hd q h2 h.1 h.2.1 h.2.2
theorem av_ll_12_13 {q : Nat} (h : av_t av_wm q 12) : av_ln (av_rf q 13) = 6 := by
  have h2 : q < 114 := by have := h.2.2; simp at this; omega
  have hd : ∀ x, x < 114 → av_cls x = 12 → av_ln (av_rf x 13) = 6 := by decide +kernel
  exact hd q h2 h.1
theorem av_ty_12_14 {q : Nat} (h : av_t av_wm q 12) : av_t av_wm (av_rf q 14) 13 := by
  have h2 : q < 114 := by have := h.2.2; simp at this; omega
  have hd : ∀ x, x < 114 → av_cls x = 12 → av_wm.1 ≤ x → x < av_wm.1 + av_wm.2 → (av_cls (av_rf x 14) = 13 ∧ av_wm.1 ≤ av_rf x 14 ∧ av_rf x 14 < av_wm.1 + av_wm.2) := by decide +kernel
  exact hd q h2 h.1 h.2.1 h.2.2
theorem av_ll_12_14 {q : Nat} (h : av_t av_wm q 12) : av_ln (av_rf q 14) = 6 := by
  have h2 : q < 114 := by have := h.2.2; simp at this; omega
  have hd : ∀ x, x < 114 → av_cls x = 12 → av_ln (av_rf x 14) = 6 := by decide +kernel
  exact hd q h2 h.1
theorem av_ty_12_15 {q : Nat} (h : av_t av_wm q 12) : av_t av_wm (av_rf q 15) 13 := by
  have h2 : q < 114 := by have := h.2.2; simp at this; omega
  have hd : ∀ x, x < 114 → av_cls x = 12 → av_wm.1 ≤ x → x < av_wm.1 + av_wm.2 → (av_cls (av_rf x 15) = 13 ∧ av_wm.1 ≤ av_rf x 15 ∧ av_rf x 15 < av_wm.1 + av_wm.2) := by decide +kernel
  exact hd q h2 h.1 h.2.1 h.2.2
theorem av_ll_12_15 {q : Nat} (h : av_t av_wm q 12) : av_ln (av_rf q 15) = 5 := by
  have h2 : q < 114 := by have := h.2.2; simp at this; omega
  have hd : ∀ x, x < 114 → av_cls x = 12 → av_ln (av_rf x 15) = 5 := by decide +kernel
  exact hd q h2 h.1
theorem av_ty_12_16 {q : Nat} (h : av_t av_wm q 12) : av_t av_wm (av_rf q 16) 13 := by
  have h2 : q < 114 := by have := h.2.2; simp at this; omega
  have hd : ∀ x, x < 114 → av_cls x = 12 → av_wm.1 ≤ x → x < av_wm.1 + av_wm.2 → (av_cls (av_rf x 16) = 13 ∧ av_wm.1 ≤ av_rf x 16 ∧ av_rf x 16 < av_wm.1 + av_wm.2) := by decide +kernel
  exact hd q h2 h.1 h.2.1 h.2.2
theorem av_ll_12_16 {q : Nat} (h : av_t av_wm q 12) : av_ln (av_rf q 16) = 5 := by
  have h2 : q < 114 := by have := h.2.2; simp at this; omega
  have hd : ∀ x, x < 114 → av_cls x = 12 → av_ln (av_rf x 16) = 5 := by decide +kernel
  exact hd q h2 h.1
theorem av_ty_12_17 {q : Nat} (h : av_t av_wm q 12) : av_t av_wm (av_rf q 17) 13 := by
  have h2 : q < 114 := by have := h.2.2; simp at this; omega
  have hd : ∀ x, x < 114 → av_cls x = 12 → av_wm.1 ≤ x → x < av_wm.1 + av_wm.2 → (av_cls (av_rf x 17) = 13 ∧ av_wm.1 ≤ av_rf x 17 ∧ av_rf x 17 < av_wm.1 + av_wm.2) := by decide +kernel
  exact hd q h2 h.1 h.2.1 h.2.2
theorem av_ll_12_17 {q : Nat} (h : av_t av_wm q 12) : av_ln (av_rf q 17) = 40 := by
  have h2 : q < 114 := by have := h.2.2; simp at this; omega
  have hd : ∀ x, x < 114 → av_cls x = 12 → av_ln (av_rf x 17) = 40 := by decide +kernel
  exact hd q h2 h.1
theorem av_ty_12_18 {q : Nat} (h : av_t av_wm q 12) : av_t av_wm (av_rf q 18) 13 := by
  have h2 : q < 114 := by have := h.2.2; simp at this; omega
  have hd : ∀ x, x < 114 → av_cls x = 12 → av_wm.1 ≤ x → x < av_wm.1 + av_wm.2 → (av_cls (av_rf x 18) = 13 ∧ av_wm.1 ≤ av_rf x 18 ∧ av_rf x 18 < av_wm.1 + av_wm.2) := by decide +kernel
  exact hd q h2 h.1 h.2.1 h.2.2
theorem av_ll_12_18 {q : Nat} (h : av_t av_wm q 12) : av_ln (av_rf q 18) = 40 := by
  have h2 : q < 114 := by have := h.2.2; simp at this; omega
  have hd : ∀ x, x < 114 → av_cls x = 12 → av_ln (av_rf x 18) = 40 := by decide +kernel
  exact hd q h2 h.1
theorem av_ty_12_21 {q : Nat} (h : av_t av_wm q 12) : av_t av_wm (av_rf q 21) 13 := by
  have h2 : q < 114 := by have := h.2.2; simp at this; omega
  have hd : ∀ x, x < 114 → av_cls x = 12 → av_wm.1 ≤ x → x < av_wm.1 + av_wm.2 → (av_cls (av_rf x 21) = 13 ∧ av_wm.1 ≤ av_rf x 21 ∧ av_rf x 21 < av_wm.1 + av_wm.2) := by decide +kernel
  exact hd q h2 h.1 h.2.1 h.2.2
theorem av_ll_12_21 {q : Nat} (h : av_t av_wm q 12) : av_ln (av_rf q 21) = 150 := by
  have h2 : q < 114 := by have := h.2.2; simp at this; omega
  have hd : ∀ x, x < 114 → av_cls x = 12 → av_ln (av_rf x 21) = 150 := by decide +kernel
  exact hd q h2 h.1
theorem av_ty_12_27 {q : Nat} (h : av_t av_wm q 12) : av_t av_wm (av_rf q 27) 13 := by
  have h2 : q < 114 := by have := h.2.2; simp at this; omega
  have hd : ∀ x, x < 114 → av_cls x = 12 → av_wm.1 ≤ x → x < av_wm.1 + av_wm.2 → (av_cls (av_rf x 27) = 13 ∧ av_wm.1 ≤ av_rf x 27 ∧ av_rf x 27 < av_wm.1 + av_wm.2) := by decide +kernel
  exact hd q h2 h.1 h.2.1 h.2.2
theorem av_ll_12_27 {q : Nat} (h : av_t av_wm q 12) : av_ln (av_rf q 27) = 69 := by
  have h2 : q < 114 := by have := h.2.2; simp at this; omega
  have hd : ∀ x, x < 114 → av_cls x = 12 → av_ln (av_rf x 27) = 69 := by decide +kernel
  exact hd q h2 h.1
theorem av_ty_12_28 {q : Nat} (h : av_t av_wm q 12) : av_t av_wm (av_rf q 28) 13 := by
  have h2 : q < 114 := by have := h.2.2; simp at this; omega
  have hd : ∀ x, x < 114 → av_cls x = 12 → av_wm.1 ≤ x → x < av_wm.1 + av_wm.2 → (av_cls (av_rf x 28) = 13 ∧ av_wm.1 ≤ av_rf x 28 ∧ av_rf x 28 < av_wm.1 + av_wm.2) := by decide +kernel
  exact hd q h2 h.1 h.2.1 h.2.2
theorem av_ll_12_28 {q : Nat} (h : av_t av_wm q 12) : av_ln (av_rf q 28) = 3 := by
  have h2 : q < 114 := by have := h.2.2; simp at this; omega
  have hd : ∀ x, x < 114 → av_cls x = 12 → av_ln (av_rf x 28) = 3 := by decide +kernel
  exact hd q h2 h.1
theorem av_t0 : av_t av_wc 0 11 := by refine ⟨?_, ?_, ?_⟩ <;> decide +kernel
theorem av_r0_0 : av_rf 0 0 = 14 := by decide +kernel
theorem av_r0_1 : av_rf 0 1 = 28 := by decide +kernel
theorem av_r0_2 : av_rf 0 2 = 8 := by decide +kernel
theorem av_r0_4 : av_rf 0 4 = 9 := by decide +kernel
theorem av_r0_5 : av_rf 0 5 = 11 := by decide +kernel
theorem av_t1 : av_t av_wc 1 16 := by refine ⟨?_, ?_, ?_⟩ <;> decide +kernel
theorem av_l1 : av_ln 1 = 6 := by decide +kernel
theorem av_r1_0 : av_rf 1 0 = 2 := by decide +kernel
theorem av_r1_1 : av_rf 1 1 = 3 := by decide +kernel
theorem av_r1_2 : av_rf 1 2 = 4 := by decide +kernel
theorem av_r1_3 : av_rf 1 3 = 5 := by decide +kernel
theorem av_r1_4 : av_rf 1 4 = 6 := by decide +kernel
theorem av_r1_5 : av_rf 1 5 = 7 := by decide +kernel
theorem av_t2 : av_t av_wc 2 4 := by refine ⟨?_, ?_, ?_⟩ <;> decide +kernel
theorem av_t3 : av_t av_wc 3 0 := by refine ⟨?_, ?_, ?_⟩ <;> decide +kernel
theorem av_t4 : av_t av_wc 4 3 := by refine ⟨?_, ?_, ?_⟩ <;> decide +kernel
theorem av_t5 : av_t av_wc 5 6 := by refine ⟨?_, ?_, ?_⟩ <;> decide +kernel
theorem av_t6 : av_t av_wc 6 2 := by refine ⟨?_, ?_, ?_⟩ <;> decide +kernel
theorem av_t7 : av_t av_wc 7 10 := by refine ⟨?_, ?_, ?_⟩ <;> decide +kernel
theorem av_t8 : av_t av_wc 8 17 := by refine ⟨?_, ?_, ?_⟩ <;> decide +kernel
theorem av_l8 : av_ln 8 = 2 := by decide +kernel
theorem av_r8_0 : av_rf 8 0 = 42 := by decide +kernel
theorem av_r8_1 : av_rf 8 1 = 56 := by decide +kernel
theorem av_t9 : av_t av_wc 9 5 := by refine ⟨?_, ?_, ?_⟩ <;> decide +kernel
theorem av_r9_0 : av_rf 9 0 = 10 := by decide +kernel
theorem av_t10 : av_t av_wc 10 14 := by refine ⟨?_, ?_, ?_⟩ <;> decide +kernel
theorem av_l10 : av_ln 10 = 150 := by decide +kernel
theorem av_t11 : av_t av_wc 11 1 := by refine ⟨?_, ?_, ?_⟩ <;> decide +kernel
theorem av_r11_0 : av_rf 11 0 = 15 := by decide +kernel
theorem av_r11_1 : av_rf 11 1 = 21 := by decide +kernel
theorem av_r11_2 : av_rf 11 2 = 12 := by decide +kernel
theorem av_r11_3 : av_rf 11 3 = 13 := by decide +kernel
theorem av_t12 : av_t av_wc 12 18 := by refine ⟨?_, ?_, ?_⟩ <;> decide +kernel
theorem av_l12 : av_ln 12 = 7 := by decide +kernel
theorem av_r12_0 : av_rf 12 0 = 70 := by decide +kernel
theorem av_r12_1 : av_rf 12 1 = 74 := by decide +kernel
theorem av_r12_2 : av_rf 12 2 = 78 := by decide +kernel
theorem av_r12_3 : av_rf 12 3 = 82 := by decide +kernel
theorem av_r12_4 : av_rf 12 4 = 86 := by decide +kernel
theorem av_r12_5 : av_rf 12 5 = 90 := by decide +kernel
theorem av_r12_6 : av_rf 12 6 = 94 := by decide +kernel
theorem av_t13 : av_t av_wc 13 13 := by refine ⟨?_, ?_, ?_⟩ <;> decide +kernel
theorem av_l13 : av_ln 13 = 6 := by decide +kernel
theorem av_t14 : av_t av_wc 14 8 := by refine ⟨?_, ?_, ?_⟩ <;> decide +kernel
theorem av_r14_0 : av_rf 14 0 = 15 := by decide +kernel
theorem av_r14_1 : av_rf 14 1 = 21 := by decide +kernel
theorem av_r14_2 : av_rf 14 2 = 25 := by decide +kernel
theorem av_r14_4 : av_rf 14 4 = 26 := by decide +kernel
theorem av_r14_5 : av_rf 14 5 = 27 := by decide +kernel
theorem av_t15 : av_t av_wc 15 9 := by refine ⟨?_, ?_, ?_⟩ <;> decide +kernel
theorem av_r15_0 : av_rf 15 0 = 1 := by decide +kernel
theorem av_r15_2 : av_rf 15 2 = 16 := by decide +kernel
theorem av_r15_3 : av_rf 15 3 = 17 := by decide +kernel
theorem av_r15_5 : av_rf 15 5 = 18 := by decide +kernel
theorem av_r15_6 : av_rf 15 6 = 19 := by decide +kernel
theorem av_r15_7 : av_rf 15 7 = 20 := by decide +kernel
theorem av_t16 : av_t av_wc 16 13 := by refine ⟨?_, ?_, ?_⟩ <;> decide +kernel
theorem av_l16 : av_ln 16 = 8 := by decide +kernel
theorem av_t17 : av_t av_wc 17 13 := by refine ⟨?_, ?_, ?_⟩ <;> decide +kernel
theorem av_l17 : av_ln 17 = 8 := by decide +kernel
theorem av_t18 : av_t av_wc 18 13 := by refine ⟨?_, ?_, ?_⟩ <;> decide +kernel
theorem av_l18 : av_ln 18 = 6 := by decide +kernel
theorem av_t19 : av_t av_wc 19 13 := by refine ⟨?_, ?_, ?_⟩ <;> decide +kernel
theorem av_l19 : av_ln 19 = 6 := by decide +kernel
theorem av_t20 : av_t av_wc 20 13 := by refine ⟨?_, ?_, ?_⟩ <;> decide +kernel
theorem av_l20 : av_ln 20 = 6 := by decide +kernel
theorem av_t21 : av_t av_wc 21 7 := by refine ⟨?_, ?_, ?_⟩ <;> decide +kernel
theorem av_r21_0 : av_rf 21 0 = 15 := by decide +kernel
theorem av_r21_1 : av_rf 21 1 = 22 := by decide +kernel
theorem av_r21_2 : av_rf 21 2 = 23 := by decide +kernel
theorem av_r21_8 : av_rf 21 8 = 24 := by decide +kernel
theorem av_t22 : av_t av_wc 22 13 := by refine ⟨?_, ?_, ?_⟩ <;> decide +kernel
theorem av_l22 : av_ln 22 = 8 := by decide +kernel
theorem av_t23 : av_t av_wc 23 13 := by refine ⟨?_, ?_, ?_⟩ <;> decide +kernel
theorem av_l23 : av_ln 23 = 8 := by decide +kernel
theorem av_t24 : av_t av_wc 24 13 := by refine ⟨?_, ?_, ?_⟩ <;> decide +kernel
theorem av_l24 : av_ln 24 = 8 := by decide +kernel
theorem av_t25 : av_t av_wc 25 13 := by refine ⟨?_, ?_, ?_⟩ <;> decide +kernel
theorem av_l25 : av_ln 25 = 152 := by decide +kernel
theorem av_t26 : av_t av_wc 26 13 := by refine ⟨?_, ?_, ?_⟩ <;> decide +kernel
theorem av_l26 : av_ln 26 = 6 := by decide +kernel
theorem av_t27 : av_t av_wc 27 13 := by refine ⟨?_, ?_, ?_⟩ <;> decide +kernel
theorem av_l27 : av_ln 27 = 6 := by decide +kernel
theorem av_t28 : av_t av_wc 28 8 := by refine ⟨?_, ?_, ?_⟩ <;> decide +kernel
theorem av_r28_0 : av_rf 28 0 = 29 := by decide +kernel
theorem av_r28_1 : av_rf 28 1 = 35 := by decide +kernel
theorem av_r28_2 : av_rf 28 2 = 39 := by decide +kernel
theorem av_r28_4 : av_rf 28 4 = 40 := by decide +kernel
theorem av_r28_5 : av_rf 28 5 = 41 := by decide +kernel
theorem av_t29 : av_t av_wc 29 9 := by refine ⟨?_, ?_, ?_⟩ <;> decide +kernel
theorem av_r29_0 : av_rf 29 0 = 1 := by decide +kernel
theorem av_r29_2 : av_rf 29 2 = 30 := by decide +kernel
theorem av_r29_3 : av_rf 29 3 = 31 := by decide +kernel
theorem av_r29_5 : av_rf 29 5 = 32 := by decide +kernel
theorem av_r29_6 : av_rf 29 6 = 33 := by decide +kernel
theorem av_r29_7 : av_rf 29 7 = 34 := by decide +kernel
theorem av_t30 : av_t av_wc 30 13 := by refine ⟨?_, ?_, ?_⟩ <;> decide +kernel
theorem av_l30 : av_ln 30 = 8 := by decide +kernel
theorem av_t31 : av_t av_wc 31 13 := by refine ⟨?_, ?_, ?_⟩ <;> decide +kernel
theorem av_l31 : av_ln 31 = 8 := by decide +kernel
theorem av_t32 : av_t av_wc 32 13 := by refine ⟨?_, ?_, ?_⟩ <;> decide +kernel
theorem av_l32 : av_ln 32 = 6 := by decide +kernel
theorem av_t33 : av_t av_wc 33 13 := by refine ⟨?_, ?_, ?_⟩ <;> decide +kernel
theorem av_l33 : av_ln 33 = 6 := by decide +kernel
theorem av_t34 : av_t av_wc 34 13 := by refine ⟨?_, ?_, ?_⟩ <;> decide +kernel
theorem av_l34 : av_ln 34 = 6 := by decide +kernel
theorem av_t35 : av_t av_wc 35 7 := by refine ⟨?_, ?_, ?_⟩ <;> decide +kernel
theorem av_r35_0 : av_rf 35 0 = 29 := by decide +kernel
theorem av_r35_1 : av_rf 35 1 = 36 := by decide +kernel
theorem av_r35_2 : av_rf 35 2 = 37 := by decide +kernel
theorem av_r35_8 : av_rf 35 8 = 38 := by decide +kernel
theorem av_t36 : av_t av_wc 36 13 := by refine ⟨?_, ?_, ?_⟩ <;> decide +kernel
theorem av_l36 : av_ln 36 = 8 := by decide +kernel
theorem av_t37 : av_t av_wc 37 13 := by refine ⟨?_, ?_, ?_⟩ <;> decide +kernel
theorem av_l37 : av_ln 37 = 8 := by decide +kernel
theorem av_t38 : av_t av_wc 38 13 := by refine ⟨?_, ?_, ?_⟩ <;> decide +kernel
theorem av_l38 : av_ln 38 = 8 := by decide +kernel
theorem av_t39 : av_t av_wc 39 13 := by refine ⟨?_, ?_, ?_⟩ <;> decide +kernel
theorem av_l39 : av_ln 39 = 152 := by decide +kernel
theorem av_t40 : av_t av_wc 40 13 := by refine ⟨?_, ?_, ?_⟩ <;> decide +kernel
theorem av_l40 : av_ln 40 = 6 := by decide +kernel
theorem av_t41 : av_t av_wc 41 13 := by refine ⟨?_, ?_, ?_⟩ <;> decide +kernel
theorem av_l41 : av_ln 41 = 6 := by decide +kernel
theorem av_t42 : av_t av_wc 42 8 := by refine ⟨?_, ?_, ?_⟩ <;> decide +kernel
theorem av_r42_0 : av_rf 42 0 = 43 := by decide +kernel
theorem av_r42_1 : av_rf 42 1 = 49 := by decide +kernel
theorem av_r42_2 : av_rf 42 2 = 53 := by decide +kernel
theorem av_r42_4 : av_rf 42 4 = 54 := by decide +kernel
theorem av_r42_5 : av_rf 42 5 = 55 := by decide +kernel
theorem av_t43 : av_t av_wc 43 9 := by refine ⟨?_, ?_, ?_⟩ <;> decide +kernel
theorem av_r43_0 : av_rf 43 0 = 1 := by decide +kernel
theorem av_r43_2 : av_rf 43 2 = 44 := by decide +kernel
theorem av_r43_3 : av_rf 43 3 = 45 := by decide +kernel
theorem av_r43_5 : av_rf 43 5 = 46 := by decide +kernel
theorem av_r43_6 : av_rf 43 6 = 47 := by decide +kernel
theorem av_r43_7 : av_rf 43 7 = 48 := by decide +kernel
theorem av_t44 : av_t av_wc 44 13 := by refine ⟨?_, ?_, ?_⟩ <;> decide +kernel
theorem av_l44 : av_ln 44 = 8 := by decide +kernel
theorem av_t45 : av_t av_wc 45 13 := by refine ⟨?_, ?_, ?_⟩ <;> decide +kernel
theorem av_l45 : av_ln 45 = 8 := by decide +kernel
theorem av_t46 : av_t av_wc 46 13 := by refine ⟨?_, ?_, ?_⟩ <;> decide +kernel
theorem av_l46 : av_ln 46 = 6 := by decide +kernel
theorem av_t47 : av_t av_wc 47 13 := by refine ⟨?_, ?_, ?_⟩ <;> decide +kernel
theorem av_l47 : av_ln 47 = 6 := by decide +kernel
theorem av_t48 : av_t av_wc 48 13 := by refine ⟨?_, ?_, ?_⟩ <;> decide +kernel
theorem av_l48 : av_ln 48 = 6 := by decide +kernel
theorem av_t49 : av_t av_wc 49 7 := by refine ⟨?_, ?_, ?_⟩ <;> decide +kernel
theorem av_r49_0 : av_rf 49 0 = 43 := by decide +kernel
theorem av_r49_1 : av_rf 49 1 = 50 := by decide +kernel
theorem av_r49_2 : av_rf 49 2 = 51 := by decide +kernel
theorem av_r49_8 : av_rf 49 8 = 52 := by decide +kernel
theorem av_t50 : av_t av_wc 50 13 := by refine ⟨?_, ?_, ?_⟩ <;> decide +kernel
theorem av_l50 : av_ln 50 = 8 := by decide +kernel
theorem av_t51 : av_t av_wc 51 13 := by refine ⟨?_, ?_, ?_⟩ <;> decide +kernel
theorem av_l51 : av_ln 51 = 8 := by decide +kernel
theorem av_t52 : av_t av_wc 52 13 := by refine ⟨?_, ?_, ?_⟩ <;> decide +kernel
theorem av_l52 : av_ln 52 = 8 := by decide +kernel
theorem av_t53 : av_t av_wc 53 13 := by refine ⟨?_, ?_, ?_⟩ <;> decide +kernel
theorem av_l53 : av_ln 53 = 152 := by decide +kernel
theorem av_t54 : av_t av_wc 54 13 := by refine ⟨?_, ?_, ?_⟩ <;> decide +kernel
theorem av_l54 : av_ln 54 = 6 := by decide +kernel
theorem av_t55 : av_t av_wc 55 13 := by refine ⟨?_, ?_, ?_⟩ <;> decide +kernel
theorem av_l55 : av_ln 55 = 6 := by decide +kernel
theorem av_t56 : av_t av_wc 56 8 := by refine ⟨?_, ?_, ?_⟩ <;> decide +kernel
theorem av_r56_0 : av_rf 56 0 = 57 := by decide +kernel
theorem av_r56_1 : av_rf 56 1 = 63 := by decide +kernel
theorem av_r56_2 : av_rf 56 2 = 67 := by decide +kernel
theorem av_r56_4 : av_rf 56 4 = 68 := by decide +kernel
theorem av_r56_5 : av_rf 56 5 = 69 := by decide +kernel
theorem av_t57 : av_t av_wc 57 9 := by refine ⟨?_, ?_, ?_⟩ <;> decide +kernel
theorem av_r57_0 : av_rf 57 0 = 1 := by decide +kernel
theorem av_r57_2 : av_rf 57 2 = 58 := by decide +kernel
theorem av_r57_3 : av_rf 57 3 = 59 := by decide +kernel
theorem av_r57_5 : av_rf 57 5 = 60 := by decide +kernel
theorem av_r57_6 : av_rf 57 6 = 61 := by decide +kernel
theorem av_r57_7 : av_rf 57 7 = 62 := by decide +kernel
theorem av_t58 : av_t av_wc 58 13 := by refine ⟨?_, ?_, ?_⟩ <;> decide +kernel
theorem av_l58 : av_ln 58 = 8 := by decide +kernel
theorem av_t59 : av_t av_wc 59 13 := by refine ⟨?_, ?_, ?_⟩ <;> decide +kernel
theorem av_l59 : av_ln 59 = 8 := by decide +kernel
theorem av_t60 : av_t av_wc 60 13 := by refine ⟨?_, ?_, ?_⟩ <;> decide +kernel
theorem av_l60 : av_ln 60 = 6 := by decide +kernel
theorem av_t61 : av_t av_wc 61 13 := by refine ⟨?_, ?_, ?_⟩ <;> decide +kernel
theorem av_l61 : av_ln 61 = 6 := by decide +kernel
theorem av_t62 : av_t av_wc 62 13 := by refine ⟨?_, ?_, ?_⟩ <;> decide +kernel
theorem av_l62 : av_ln 62 = 6 := by decide +kernel
theorem av_t63 : av_t av_wc 63 7 := by refine ⟨?_, ?_, ?_⟩ <;> decide +kernel
theorem av_r63_0 : av_rf 63 0 = 57 := by decide +kernel
theorem av_r63_1 : av_rf 63 1 = 64 := by decide +kernel
theorem av_r63_2 : av_rf 63 2 = 65 := by decide +kernel
theorem av_r63_8 : av_rf 63 8 = 66 := by decide +kernel
theorem av_t64 : av_t av_wc 64 13 := by refine ⟨?_, ?_, ?_⟩ <;> decide +kernel
theorem av_l64 : av_ln 64 = 8 := by decide +kernel
theorem av_t65 : av_t av_wc 65 13 := by refine ⟨?_, ?_, ?_⟩ <;> decide +kernel
theorem av_l65 : av_ln 65 = 8 := by decide +kernel
theorem av_t66 : av_t av_wc 66 13 := by refine ⟨?_, ?_, ?_⟩ <;> decide +kernel
theorem av_l66 : av_ln 66 = 8 := by decide +kernel
theorem av_t67 : av_t av_wc 67 13 := by refine ⟨?_, ?_, ?_⟩ <;> decide +kernel
theorem av_l67 : av_ln 67 = 152 := by decide +kernel
theorem av_t68 : av_t av_wc 68 13 := by refine ⟨?_, ?_, ?_⟩ <;> decide +kernel
theorem av_l68 : av_ln 68 = 6 := by decide +kernel
theorem av_t69 : av_t av_wc 69 13 := by refine ⟨?_, ?_, ?_⟩ <;> decide +kernel
theorem av_l69 : av_ln 69 = 6 := by decide +kernel
theorem av_t70 : av_t av_wc 70 7 := by refine ⟨?_, ?_, ?_⟩ <;> decide +kernel
theorem av_r70_0 : av_rf 70 0 = 15 := by decide +kernel
theorem av_r70_1 : av_rf 70 1 = 71 := by decide +kernel
theorem av_r70_2 : av_rf 70 2 = 72 := by decide +kernel
theorem av_r70_8 : av_rf 70 8 = 73 := by decide +kernel
theorem av_t71 : av_t av_wc 71 13 := by refine ⟨?_, ?_, ?_⟩ <;> decide +kernel
theorem av_l71 : av_ln 71 = 8 := by decide +kernel
theorem av_t72 : av_t av_wc 72 13 := by refine ⟨?_, ?_, ?_⟩ <;> decide +kernel
theorem av_l72 : av_ln 72 = 8 := by decide +kernel
theorem av_t73 : av_t av_wc 73 13 := by refine ⟨?_, ?_, ?_⟩ <;> decide +kernel
theorem av_l73 : av_ln 73 = 8 := by decide +kernel
theorem av_t74 : av_t av_wc 74 7 := by refine ⟨?_, ?_, ?_⟩ <;> decide +kernel
theorem av_r74_0 : av_rf 74 0 = 15 := by decide +kernel
theorem av_r74_1 : av_rf 74 1 = 75 := by decide +kernel
theorem av_r74_2 : av_rf 74 2 = 76 := by decide +kernel
theorem av_r74_8 : av_rf 74 8 = 77 := by decide +kernel
theorem av_t75 : av_t av_wc 75 13 := by refine ⟨?_, ?_, ?_⟩ <;> decide +kernel
theorem av_l75 : av_ln 75 = 8 := by decide +kernel
theorem av_t76 : av_t av_wc 76 13 := by refine ⟨?_, ?_, ?_⟩ <;> decide +kernel
theorem av_l76 : av_ln 76 = 8 := by decide +kernel
theorem av_t77 : av_t av_wc 77 13 := by refine ⟨?_, ?_, ?_⟩ <;> decide +kernel
theorem av_l77 : av_ln 77 = 8 := by decide +kernel
theorem av_t78 : av_t av_wc 78 7 := by refine ⟨?_, ?_, ?_⟩ <;> decide +kernel
theorem av_r78_0 : av_rf 78 0 = 15 := by decide +kernel
theorem av_r78_1 : av_rf 78 1 = 79 := by decide +kernel
theorem av_r78_2 : av_rf 78 2 = 80 := by decide +kernel
theorem av_r78_8 : av_rf 78 8 = 81 := by decide +kernel
theorem av_t79 : av_t av_wc 79 13 := by refine ⟨?_, ?_, ?_⟩ <;> decide +kernel
theorem av_l79 : av_ln 79 = 8 := by decide +kernel
theorem av_t80 : av_t av_wc 80 13 := by refine ⟨?_, ?_, ?_⟩ <;> decide +kernel
theorem av_l80 : av_ln 80 = 8 := by decide +kernel
theorem av_t81 : av_t av_wc 81 13 := by refine ⟨?_, ?_, ?_⟩ <;> decide +kernel
theorem av_l81 : av_ln 81 = 8 := by decide +kernel
theorem av_t82 : av_t av_wc 82 7 := by refine ⟨?_, ?_, ?_⟩ <;> decide +kernel
theorem av_r82_0 : av_rf 82 0 = 15 := by decide +kernel
theorem av_r82_1 : av_rf 82 1 = 83 := by decide +kernel
theorem av_r82_2 : av_rf 82 2 = 84 := by decide +kernel
theorem av_r82_8 : av_rf 82 8 = 85 := by decide +kernel
theorem av_t83 : av_t av_wc 83 13 := by refine ⟨?_, ?_, ?_⟩ <;> decide +kernel
theorem av_l83 : av_ln 83 = 8 := by decide +kernel
theorem av_t84 : av_t av_wc 84 13 := by refine ⟨?_, ?_, ?_⟩ <;> decide +kernel
theorem av_l84 : av_ln 84 = 8 := by decide +kernel
theorem av_t85 : av_t av_wc 85 13 := by refine ⟨?_, ?_, ?_⟩ <;> decide +kernel
theorem av_l85 : av_ln 85 = 8 := by decide +kernel
theorem av_t86 : av_t av_wc 86 7 := by refine ⟨?_, ?_, ?_⟩ <;> decide +kernel
theorem av_r86_0 : av_rf 86 0 = 15 := by decide +kernel
theorem av_r86_1 : av_rf 86 1 = 87 := by decide +kernel
theorem av_r86_2 : av_rf 86 2 = 88 := by decide +kernel
theorem av_r86_8 : av_rf 86 8 = 89 := by decide +kernel
theorem av_t87 : av_t av_wc 87 13 := by refine ⟨?_, ?_, ?_⟩ <;> decide +kernel
theorem av_l87 : av_ln 87 = 8 := by decide +kernel
theorem av_t88 : av_t av_wc 88 13 := by refine ⟨?_, ?_, ?_⟩ <;> decide +kernel
theorem av_l88 : av_ln 88 = 8 := by decide +kernel
theorem av_t89 : av_t av_wc 89 13 := by refine ⟨?_, ?_, ?_⟩ <;> decide +kernel
theorem av_l89 : av_ln 89 = 8 := by decide +kernel
theorem av_t90 : av_t av_wc 90 7 := by refine ⟨?_, ?_, ?_⟩ <;> decide +kernel
theorem av_r90_0 : av_rf 90 0 = 15 := by decide +kernel
theorem av_r90_1 : av_rf 90 1 = 91 := by decide +kernel
theorem av_r90_2 : av_rf 90 2 = 92 := by decide +kernel
theorem av_r90_8 : av_rf 90 8 = 93 := by decide +kernel
theorem av_t91 : av_t av_wc 91 13 := by refine ⟨?_, ?_, ?_⟩ <;> decide +kernel
theorem av_l91 : av_ln 91 = 8 := by decide +kernel
theorem av_t92 : av_t av_wc 92 13 := by refine ⟨?_, ?_, ?_⟩ <;> decide +kernel
theorem av_l92 : av_ln 92 = 8 := by decide +kernel
theorem av_t93 : av_t av_wc 93 13 := by refine ⟨?_, ?_, ?_⟩ <;> decide +kernel
theorem av_l93 : av_ln 93 = 8 := by decide +kernel
theorem av_t94 : av_t av_wc 94 7 := by refine ⟨?_, ?_, ?_⟩ <;> decide +kernel
theorem av_r94_0 : av_rf 94 0 = 15 := by decide +kernel
theorem av_r94_1 : av_rf 94 1 = 95 := by decide +kernel
theorem av_r94_2 : av_rf 94 2 = 96 := by decide +kernel
theorem av_r94_8 : av_rf 94 8 = 97 := by decide +kernel
theorem av_t95 : av_t av_wc 95 13 := by refine ⟨?_, ?_, ?_⟩ <;> decide +kernel
theorem av_l95 : av_ln 95 = 8 := by decide +kernel
theorem av_t96 : av_t av_wc 96 13 := by refine ⟨?_, ?_, ?_⟩ <;> decide +kernel
theorem av_l96 : av_ln 96 = 8 := by decide +kernel
theorem av_t97 : av_t av_wc 97 13 := by refine ⟨?_, ?_, ?_⟩ <;> decide +kernel
theorem av_l97 : av_ln 97 = 8 := by decide +kernel
theorem av_t98 : av_t av_wm 98 12 := by refine ⟨?_, ?_, ?_⟩ <;> decide +kernel
theorem av_r98_0 : av_rf 98 0 = 99 := by decide +kernel
theorem av_r98_1 : av_rf 98 1 = 100 := by decide +kernel
theorem av_r98_2 : av_rf 98 2 = 101 := by decide +kernel
theorem av_r98_3 : av_rf 98 3 = 102 := by decide +kernel
theorem av_r98_6 : av_rf 98 6 = 103 := by decide +kernel
theorem av_r98_7 : av_rf 98 7 = 104 := by decide +kernel
theorem av_r98_13 : av_rf 98 13 = 105 := by decide +kernel
theorem av_r98_14 : av_rf 98 14 = 106 := by decide +kernel
theorem av_r98_15 : av_rf 98 15 = 107 := by decide +kernel
theorem av_r98_16 : av_rf 98 16 = 108 := by decide +kernel
theorem av_r98_17 : av_rf 98 17 = 109 := by decide +kernel
theorem av_r98_18 : av_rf 98 18 = 110 := by decide +kernel
theorem av_r98_21 : av_rf 98 21 = 111 := by decide +kernel
theorem av_r98_27 : av_rf 98 27 = 112 := by decide +kernel
theorem av_r98_28 : av_rf 98 28 = 113 := by decide +kernel
theorem av_t99 : av_t av_wm 99 13 := by refine ⟨?_, ?_, ?_⟩ <;> decide +kernel
theorem av_l99 : av_ln 99 = 221 := by decide +kernel
theorem av_t100 : av_t av_wm 100 13 := by refine ⟨?_, ?_, ?_⟩ <;> decide +kernel
theorem av_l100 : av_ln 100 = 442 := by decide +kernel
theorem av_t101 : av_t av_wm 101 15 := by refine ⟨?_, ?_, ?_⟩ <;> decide +kernel
theorem av_l101 : av_ln 101 = 2 := by decide +kernel
theorem av_t102 : av_t av_wm 102 13 := by refine ⟨?_, ?_, ?_⟩ <;> decide +kernel
theorem av_l102 : av_ln 102 = 3 := by decide +kernel
theorem av_t103 : av_t av_wm 103 13 := by refine ⟨?_, ?_, ?_⟩ <;> decide +kernel
theorem av_l103 : av_ln 103 = 8 := by decide +kernel
theorem av_t104 : av_t av_wm 104 13 := by refine ⟨?_, ?_, ?_⟩ <;> decide +kernel
theorem av_l104 : av_ln 104 = 8 := by decide +kernel
theorem av_t105 : av_t av_wm 105 13 := by refine ⟨?_, ?_, ?_⟩ <;> decide +kernel
theorem av_l105 : av_ln 105 = 6 := by decide +kernel
theorem av_t106 : av_t av_wm 106 13 := by refine ⟨?_, ?_, ?_⟩ <;> decide +kernel
theorem av_l106 : av_ln 106 = 6 := by decide +kernel
theorem av_t107 : av_t av_wm 107 13 := by refine ⟨?_, ?_, ?_⟩ <;> decide +kernel
theorem av_l107 : av_ln 107 = 5 := by decide +kernel
theorem av_t108 : av_t av_wm 108 13 := by refine ⟨?_, ?_, ?_⟩ <;> decide +kernel
theorem av_l108 : av_ln 108 = 5 := by decide +kernel
theorem av_t109 : av_t av_wm 109 13 := by refine ⟨?_, ?_, ?_⟩ <;> decide +kernel
theorem av_l109 : av_ln 109 = 40 := by decide +kernel
theorem av_t110 : av_t av_wm 110 13 := by refine ⟨?_, ?_, ?_⟩ <;> decide +kernel
theorem av_l110 : av_ln 110 = 40 := by decide +kernel
theorem av_t111 : av_t av_wm 111 13 := by refine ⟨?_, ?_, ?_⟩ <;> decide +kernel
theorem av_l111 : av_ln 111 = 150 := by decide +kernel
theorem av_t112 : av_t av_wm 112 13 := by refine ⟨?_, ?_, ?_⟩ <;> decide +kernel
theorem av_l112 : av_ln 112 = 69 := by decide +kernel
theorem av_t113 : av_t av_wm 113 13 := by refine ⟨?_, ?_, ?_⟩ <;> decide +kernel
theorem av_l113 : av_ln 113 = 3 := by decide +kernel
end
section
/-! The rows of the two worlds: one memory, every method speaks of the whole of it. -/
def av_cell (g : Gl) (μ : Mem) (q : Nat) : Nat × va_E :=
  (g.2.2 q, if av_cls q < 13 then .inr (av_cls q, av_fl g μ q (av_cls q)) else if av_cls q < 16 then .inl (g.2.1 (av_cls q), av_ln q, .inl (gA μ q)) else .inl (g.2.1 (av_cls q), av_ln q, .inr (.inr (.inr (.inr (fun i => some (g.2.2 (av_rf q i))))))))
theorem av_cell_o {g : Gl} {μ : Mem} {q ci : Nat} (h : av_cls q = ci) (hl : ci < 13) : av_cell g μ q = (g.2.2 q, .inr (ci, av_fl g μ q ci)) := by
  unfold av_cell; rw [h, if_pos hl]
theorem av_cell_a {g : Gl} {μ : Mem} {q t : Nat} (h : av_cls q = t) (h1 : 13 ≤ t) (h2 : t < 16) : av_cell g μ q = (g.2.2 q, .inl (g.2.1 t, av_ln q, .inl (gA μ q))) := by
  unfold av_cell; rw [h, if_neg (by omega), if_pos h2]
theorem av_cell_r {g : Gl} {μ : Mem} {q t : Nat} (h : av_cls q = t) (h1 : 16 ≤ t) : av_cell g μ q = (g.2.2 q, .inl (g.2.1 t, av_ln q, .inr (.inr (.inr (.inr (fun i => some (g.2.2 (av_rf q i)))))))) := by
  unfold av_cell; rw [h, if_neg (by omega), if_neg (by omega)]
theorem av_fl_off {g : Gl} {μ μ' : Mem} {j ci : Nat} (h1 : ∀ k, gF μ' j k = gF μ j k) (h2 : ∀ k, gL μ' j k = gL μ j k) : av_fl g μ' j ci = av_fl g μ j ci := by
  unfold av_fl; split <;> simp only [h1, h2]
theorem av_cell_off {g : Gl} {μ μ' : Mem} {j : Nat} (h1 : ∀ k, gF μ' j k = gF μ j k) (h2 : ∀ k, gL μ' j k = gL μ j k) (h3 : gA μ' j = gA μ j) : av_cell g μ' j = av_cell g μ j := by
  unfold av_cell; rw [av_fl_off h1 h2, h3]
theorem av_off_F {g : Gl} {μ : Mem} {q k : Nat} {v : Int32} : ∀ j, j ≠ q → av_cell g (sF μ q k v) j = av_cell g μ j := fun j h => av_cell_off (fun k => by simp [gF, sF, h]) (fun k => rfl) rfl
theorem av_off_L {g : Gl} {μ : Mem} {q k : Nat} {v : Int64} : ∀ j, j ≠ q → av_cell g (sL μ q k v) j = av_cell g μ j := fun j h => av_cell_off (fun k => rfl) (fun k => by simp [gL, sL, h]) rfl
theorem av_off_A {g : Gl} {μ : Mem} {q : Nat} {f : Nat → Int32} : ∀ j, j ≠ q → av_cell g (sA μ q f) j = av_cell g μ j := fun j h => av_cell_off (fun k => rfl) (fun k => rfl) (by simp [gA, sA, h])
def av_W (w : Nat × Nat) (g : Gl) (μ : Mem) : va_W := (List.range w.2).map (fun i => av_cell g μ (w.1 + i))
theorem av_W_at {w : Nat × Nat} {g : Gl} {μ : Mem} {q : Nat} (h : w.1 ≤ q ∧ q < w.1 + w.2) : (av_W w g μ)[q - w.1]? = some (av_cell g μ q) := by
  unfold av_W
  rw [List.getElem?_map, List.getElem?_range (by omega)]
  simp only [Option.map_some]
  congr 2
  omega
theorem av_W_set {w : Nat × Nat} {g : Gl} {μ μ' : Mem} {q : Nat} {x : Nat × va_E} (hq : w.1 ≤ q ∧ q < w.1 + w.2) (h1 : av_cell g μ' q = x) (h2 : ∀ j, j ≠ q → av_cell g μ' j = av_cell g μ j) : (av_W w g μ).set (q - w.1) x = av_W w g μ' := by
  apply List.ext_getElem?
  intro i
  rw [List.getElem?_set]
  unfold av_W
  simp only [List.length_map, List.length_range, List.getElem?_map]
  by_cases hi : q - w.1 = i
  · subst hi
    rw [if_pos rfl, if_pos (by omega), List.getElem?_range (by omega)]
    simp only [Option.map_some]
    rw [← h1]
    congr 2
    omega
  · rw [if_neg hi]
    by_cases h3 : i < w.2
    · rw [List.getElem?_range h3]
      simp only [Option.map_some]
      rw [h2 (w.1 + i) (by omega)]
    · rw [List.getElem?_eq_none (by simpa using h3)]
      rfl
def av_ty (g : Gl) : List (ClassId × FieldType) := [(g.2.1 13, .int), (g.2.1 14, .byte), (g.2.1 15, .boolean), (g.2.1 16, .object "AvalancheVote$Plain"), (g.2.1 17, .object "AvalancheVote$State"), (g.2.1 18, .object "AvalancheVote$Slope")]
def av_ij (w : Nat × Nat) (g : Gl) : Prop := ∀ a b, (w.1 ≤ a ∧ a < w.1 + w.2) → (w.1 ≤ b ∧ b < w.1 + w.2) → g.2.2 a = g.2.2 b → a = b
def av_A (w : Nat × Nat) (g : Gl) : Nat → Prop := fun x => ∃ q, (w.1 ≤ q ∧ q < w.1 + w.2) ∧ x = g.2.2 q
theorem av_W_get {w : Nat × Nat} {g : Gl} {μ : Mem} {i : Nat} {x : Nat × va_E} (h : (av_W w g μ)[i]? = some x) : i < w.2 ∧ x = av_cell g μ (w.1 + i) := by
  unfold av_W at h
  rw [List.getElem?_map] at h
  by_cases hi : i < w.2
  · rw [List.getElem?_range hi] at h
    exact ⟨hi, (Option.some.inj h).symm⟩
  · rw [List.getElem?_eq_none (by simpa using hi)] at h
    cases h
theorem av_D {w : Nat × Nat} {g : Gl} (h : av_ij w g) (μ : Mem) : va_D (av_A w g) (av_W w g μ) := by
  refine ⟨fun i j x y hx hy hxy => ?_, fun k q hk => ?_⟩
  · obtain ⟨h1, rfl⟩ := av_W_get hx
    obtain ⟨h2, rfl⟩ := av_W_get hy
    have := h (w.1 + i) (w.1 + j) ⟨by omega, by omega⟩ ⟨by omega, by omega⟩ hxy
    omega
  · obtain ⟨h1, rfl⟩ := av_W_get hk
    exact ⟨w.1 + k, ⟨by omega, by omega⟩, rfl⟩
def av_N (s : State) : Prop := ∀ x ∈ av_nw, va_Nw x s
/-- the four words of the reader: cells 200 .. 203, and what the JDK's own methods read -/
def av_lenS : List Nat := [8, 5, 5, 5]
def av_bytS : List (List Int32) := [[109, 111, 117, 110, 116, 97, 105, 110], [108, 101, 100, 103, 101], [98, 101, 108, 111, 119], [118, 111, 116, 101, 114]]
def av_St (A : Nat → Prop) (g : Gl) (U : State) (H : Heap) : Prop := (∃ adV : Nat → Nat, vk_S 4 av_lenS av_bytS (fun i => g.2.2 (200 + i)) adV A U H) ∧ (vk_R RX5 40 "mountain" (g.2.2 200) U ∧ vk_R RX5 49 "ledge" (g.2.2 201) U ∧ vk_R RX5 54 "below" (g.2.2 202) U ∧ vk_R RX5 56 "voter" (g.2.2 203) U) ∧ va_Z "java/lang/String" "COMPACT_STRINGS" "Z" (.int 1) A U H ∧ va_Zq "jdk/internal/util/Preconditions" "SIOOBE_FORMATTER" "Ljava/util/function/BiFunction;" A U H
theorem av_St.at {A : Nat → Prop} {g : Gl} {s U : State} {H : Heap} (h : av_St A g s s.heap) (hq : ∀ a : Nat, a < s.heap.size → ¬ A a → H[a]? = s.heap[a]?) (hU : U.heap = H) (hW : s.WarmedH U.vm) : av_St A g U U.heap := by
  obtain ⟨⟨adV, h1⟩, ⟨r1, r2, r3, r4⟩, h2, h3⟩ := h
  rw [hU]
  exact ⟨⟨adV, (h1.kept hq).moved hW.alike⟩, ⟨r1.warm hW, r2.warm hW, r3.warm hW, r4.warm hW⟩, (h2.kept hq).moved hW.alike, (h3.kept hq).moved hW.alike⟩
theorem av_St.same {A : Nat → Prop} {g : Gl} {s U : State} (h : av_St A g s s.heap) (hU : U.heap = s.heap) (hv : U.vm = s.vm) : av_St A g U U.heap := by
  obtain ⟨⟨adV, h1⟩, ⟨r1, r2, r3, r4⟩, h2, h3⟩ := h
  rw [hU]
  have ha : s.vm.Alike U.vm := by rw [hv]; exact Vm.Alike.refl _
  exact ⟨⟨adV, h1.moved ha⟩, ⟨r1.same hv, r2.same hv, r3.same hv, r4.same hv⟩, h2.moved ha, h3.moved ha⟩
def av_X (w : Nat × Nat) (g : Gl) (s : State) : Prop := va_K g.1 vwCl (av_ty g) s ∧ av_N s ∧ av_ij w g ∧ av_St (av_A w g) g s s.heap
def av_R (w : Nat × Nat) (g : Gl) (μ : Mem) (s : State) (H : Heap) (locs : List Loc) : Prop := va_P g.1 vwCl (av_W w g μ) H ∧ va_S (av_A w g) s.heap H locs
def av_E (p : Program) (s : State) (m : MethodId) (args : Array Value) (meth : Method) (c : Code) (cc : ByteArray) (own : String) (nL : Nat) (ret : Option FieldType) : Prop :=
  p.tables.exec = Jvm.exec ∧ c.code = cc ∧ meth.sig.returnType = ret ∧ c.maxLocals = nL ∧ s.vm.findClass own = some m.cls ∧ (∀ x ∈ av_gw, x.before args s = true) ∧ meth.locks = false
def av_Pr (w : Nat × Nat) (g : Gl) (μ : Mem) (U : State) : Prop := va_P g.1 vwCl (av_W w g μ) U.heap ∧ av_X w g U
def av_B (w : Nat × Nat) (g : Gl) (u : Mem) (t : State) : Prop := va_P g.1 vwCl (av_W w g u) t.heap
def rmN (n : Nat) : Room := { frames := n, cells := 0, slots := 0, locals := 60 * n }
theorem av_N.warm {s U : State} (hW : s.WarmedH U.vm) (h : av_N s) : av_N U := by
  intro x hx
  have h1 := h x hx
  have h2 := (List.mem_filter.mp hx).2
  cases x <;> simp only [av_isN] at h2 <;> first | exact va_Nw.warmF hW h1 | exact va_Nw.warmM hW h1 | exact va_Nw.warmC hW h1 | cases h2
theorem av_N.same {s U : State} (hv : s.vm = U.vm) (h : av_N s) : av_N U := by
  intro x hx
  have h1 := h x hx
  have h2 := (List.mem_filter.mp hx).2
  refine va_Nw.same ?_ hv h1
  cases x <;> simp only [av_isN] at h2 <;> first | rfl | cases h2
theorem av_X.warm {w : Nat × Nat} {g : Gl} {s U : State} {H : Heap} {locs : List Loc} (h : av_X w g s) (hS : va_S (av_A w g) s.heap H locs) (hU : U.heap = H) (hW : s.WarmedH U.vm) : av_X w g U := ⟨va_K.moved hW.alike h.1, av_N.warm hW h.2.1, h.2.2.1, h.2.2.2.at hS.2.1 hU hW⟩
theorem av_blind {w : Nat × Nat} {g : Gl} {μ : Mem} {vs : List Value} : FrameBlind (va_Pc vs (av_Pr w g μ)) := fun a U gg mk h => ⟨h.1, h.2.1, va_K.moved (u := U) (U := U.calling gg mk a) (Vm.Alike.refl U.vm) h.2.2.1, av_N.same (s := U) rfl h.2.2.2.1, h.2.2.2.2.1, h.2.2.2.2.2.same rfl rfl⟩
theorem av_good {y : MethodName} {cy : ByteArray} {n : Nat} {r : Option FieldType} (h : Cond.code y cy n r ∈ av_gw) : GoodIn av_gw (.code y cy n r :: av_gw) := by
  intro x hx
  have hx2 : x ∈ av_gw := by
    rcases List.mem_cons.mp hx with e | e
    · rw [e]; exact h
    · exact e
  exact ⟨hx2, good_of_word (List.mem_filter.mp hx2).2⟩
section
variable {p : Program} {l : Launch} {e : Env} {R : Room} {s : State} {m : MethodId} {args : Array Value} {below : List Frame} {meth : Method} {c : Code} {H : Heap} {locs : List Loc} {cells slots : Nat} {Q : State → Prop}
variable {cc : ByteArray} {pc : Nat} {ls : Array Slot} {rest : List Value} {w : Nat × Nat} {g : Gl} {μ : Mem} {own : String} {nL : Nat} {ret : Option FieldType}
theorem av_g (E : av_E p s m args meth c cc own nL ret) (X : av_X w g s) (hR : av_R w g μ s H locs) {q ci k N index : Nat} {C ref : String} {Tt : u_T} (ht : av_t w q ci) (hl : ci < 13) (hcl : vwCl[ci]? = some (C, Tt, N)) (hin : ∀ x ∈ u_ws C Tt N, x ∈ av_gw) (hk : k < N) (hlink : Cond.fieldLink own index ref (Tt k).2.1 (Tt k).2.2.1 ∈ av_gw) (hrf : (Tt k).1 = ref) {v : Value} (hv : (av_fl g μ q ci)[k]? = some v) (hdg : decode cc pc = .ok (.getfield index, 3))
    (kk : W p l e R s m args below meth c H locs cells slots Q (F0 m (pc + 3) ls (v :: rest))) : W p l e R s m args below meth c H locs cells slots Q (F0 m pc ls (.ref (g.2.2 q) :: rest)) :=
  va_get E.1 E.2.1 E.2.2.2.2.2.1 hin E.2.2.2.2.1 X.1 hR.1 (q - w.1) (by rw [av_W_at ht.2, av_cell_o ht.1 hl]) hcl k hk (E.2.2.2.2.2.1 _ hlink) (fun _ h => by rw [← hrf]; exact h) hv hdg kk
theorem av_gn (E : av_E p s m args meth c cc own nL ret) (X : av_X w g s) (hR : av_R w g μ s H locs) {q ci k N index : Nat} {C ref host : String} {Tt : u_T} (ht : av_t w q ci) (hl : ci < 13) (hcl : vwCl[ci]? = some (C, Tt, N)) (hin : ∀ x ∈ u_ws C Tt N, x ∈ av_gw) (hk : k < N) (hlink : Cond.fieldLinkNest own index ref (Tt k).2.1 (Tt k).2.2.1 host ∈ av_nw) (hrf : (Tt k).1 = ref) {v : Value} (hv : (av_fl g μ q ci)[k]? = some v) (hdg : decode cc pc = .ok (.getfield index, 3))
    (kk : W p l e R s m args below meth c H locs cells slots Q (F0 m (pc + 3) ls (v :: rest))) : W p l e R s m args below meth c H locs cells slots Q (F0 m pc ls (.ref (g.2.2 q) :: rest)) :=
  va_getN E.1 E.2.1 E.2.2.2.2.2.1 hin E.2.2.2.2.1 X.1 hR.1 (q - w.1) (by rw [av_W_at ht.2, av_cell_o ht.1 hl]) hcl k hk (va_Nw.use rfl (X.2.1 _ hlink)) (fun _ h => by rw [← hrf]; exact h) hv hdg kk
theorem av_p (E : av_E p s m args meth c cc own nL ret) (X : av_X w g s) (hR : av_R w g μ s H locs) {μ' : Mem} {q ci k N index : Nat} {C ref : String} {Tt : u_T} (ht : av_t w q ci) (hl : ci < 13) (hcl : vwCl[ci]? = some (C, Tt, N)) (hin : ∀ x ∈ u_ws C Tt N, x ∈ av_gw) (ty0 : Nat → FieldType) (hty : ∀ k, k < N → parseFieldDescriptor (Tt k).2.2.1 = some (ty0 k)) (hnm : ∀ a, a < N → ∀ b, b < N → a ≠ b → (Tt a).2.1 ≠ (Tt b).2.1) (hk : k < N) (hlink : Cond.fieldLink own index ref (Tt k).2.1 (Tt k).2.2.1 ∈ av_gw) (hrf : (Tt k).1 = ref) (hfin : (Tt k).2.2.2 = false) {ty : FieldType} {v : Value} (hd : parseFieldDescriptor (Tt k).2.2.1 = some ty) (hn : narrow ty v = v) (hfit : fits ty v = true) (hlen : k < (av_fl g μ q ci).length) (hset : av_fl g μ' q ci = (av_fl g μ q ci).set k v) (hoff : ∀ j, j ≠ q → av_cell g μ' j = av_cell g μ j) (hdg : decode cc pc = .ok (.putfield index, 3))
    (kk : ∀ (H : Heap) (locs : List Loc), av_R w g μ' s H locs → W p l e R s m args below meth c H locs cells slots Q (F0 m (pc + 3) ls rest)) : W p l e R s m args below meth c H locs cells slots Q (F0 m pc ls (v :: .ref (g.2.2 q) :: rest)) :=
  va_put E.1 E.2.1 E.2.2.2.2.2.1 hin ty0 hty hnm E.2.2.2.2.1 X.1 hR.1 (av_D X.2.2.1 μ) hR.2 (q - w.1) (by rw [av_W_at ht.2, av_cell_o ht.1 hl]) hcl k hk (E.2.2.2.2.2.1 _ hlink) (fun _ h => by rw [← hrf]; exact h) hfin hd hn hfit hlen hdg (fun H1 locs1 hP _ hS => kk H1 locs1 ⟨by rw [av_W_set ht.2 (by rw [av_cell_o ht.1 hl, hset]) hoff] at hP; exact hP, hS⟩)
theorem av_pn (E : av_E p s m args meth c cc own nL ret) (X : av_X w g s) (hR : av_R w g μ s H locs) {μ' : Mem} {q ci k N index : Nat} {C ref host : String} {Tt : u_T} (ht : av_t w q ci) (hl : ci < 13) (hcl : vwCl[ci]? = some (C, Tt, N)) (hin : ∀ x ∈ u_ws C Tt N, x ∈ av_gw) (ty0 : Nat → FieldType) (hty : ∀ k, k < N → parseFieldDescriptor (Tt k).2.2.1 = some (ty0 k)) (hnm : ∀ a, a < N → ∀ b, b < N → a ≠ b → (Tt a).2.1 ≠ (Tt b).2.1) (hk : k < N) (hlink : Cond.fieldLinkNest own index ref (Tt k).2.1 (Tt k).2.2.1 host ∈ av_nw) (hrf : (Tt k).1 = ref) (hfin : (Tt k).2.2.2 = false) {ty : FieldType} {v : Value} (hd : parseFieldDescriptor (Tt k).2.2.1 = some ty) (hn : narrow ty v = v) (hfit : fits ty v = true) (hlen : k < (av_fl g μ q ci).length) (hset : av_fl g μ' q ci = (av_fl g μ q ci).set k v) (hoff : ∀ j, j ≠ q → av_cell g μ' j = av_cell g μ j) (hdg : decode cc pc = .ok (.putfield index, 3))
    (kk : ∀ (H : Heap) (locs : List Loc), av_R w g μ' s H locs → W p l e R s m args below meth c H locs cells slots Q (F0 m (pc + 3) ls rest)) : W p l e R s m args below meth c H locs cells slots Q (F0 m pc ls (v :: .ref (g.2.2 q) :: rest)) :=
  va_putN E.1 E.2.1 E.2.2.2.2.2.1 hin ty0 hty hnm E.2.2.2.2.1 X.1 hR.1 (av_D X.2.2.1 μ) hR.2 (q - w.1) (by rw [av_W_at ht.2, av_cell_o ht.1 hl]) hcl k hk (va_Nw.use rfl (X.2.1 _ hlink)) (fun _ h => by rw [← hrf]; exact h) hfin hd hn hfit hlen hdg (fun H1 locs1 hP _ hS => kk H1 locs1 ⟨by rw [av_W_set ht.2 (by rw [av_cell_o ht.1 hl, hset]) hoff] at hP; exact hP, hS⟩)
/-- reading and writing arrays: none where the machine would throw -/
def rd (μ : Mem) (q : Nat) (i : Int32) : Option Int32 := if i < 0 ∨ av_ln q ≤ i.toNatClampNeg then none else some (gA μ q i.toNatClampNeg)
def wr (μ : Mem) (q : Nat) (i v : Int32) : Option Mem := if i < 0 ∨ av_ln q ≤ i.toNatClampNeg then none else some (sA μ q (upd (gA μ q) i.toNatClampNeg v))
def rdr (q : Nat) (i : Int32) : Option Nat := if i < 0 ∨ av_ln q ≤ i.toNatClampNeg then none else some (av_rf q i.toNatClampNeg)
def wrb (μ : Mem) (q : Nat) (i v : Int32) : Option Mem := wr μ q i (vp_nar .byte v)
def wrz (μ : Mem) (q : Nat) (i v : Int32) : Option Mem := wr μ q i (vp_nar .boolean v)
def cpy (μ : Mem) (a : Nat) (sp : Int32) (b : Nat) (dp n : Int32) : Option Mem := if (sp < 0 ∨ dp < 0) ∨ n < 0 ∨ av_ln a < sp.toNatClampNeg + n.toNatClampNeg ∨ av_ln b < dp.toNatClampNeg + n.toNatClampNeg then none else some (sA μ b (va_cpy (gA μ a) (gA μ b) sp.toNatClampNeg dp.toNatClampNeg n.toNatClampNeg))
theorem av_il (E : av_E p s m args meth c cc own nL ret) (X : av_X w g s) (hR : av_R w g μ s H locs) {q : Nat} {i x : Int32} (ht : av_t w q 13) (h : rd μ q i = some x) (hdg : decode cc pc = .ok (.iaload, 1))
    (kk : W p l e R s m args below meth c H locs cells slots Q (F0 m (pc + 1) ls (.int x :: rest))) : W p l e R s m args below meth c H locs cells slots Q (F0 m pc ls (.int i :: .ref (g.2.2 q) :: rest)) := by
  unfold rd at h
  split at h
  · cases h
  · rename_i hin
    cases h
    exact va_iald E.1 E.2.1 X.1 hR.1 (q - w.1) 0 (by rw [av_W_at ht.2, av_cell_a ht.1 (by decide) (by decide)]) rfl hin hdg kk
theorem av_bl (E : av_E p s m args meth c cc own nL ret) (X : av_X w g s) (hR : av_R w g μ s H locs) {q : Nat} {i x : Int32} (ht : av_t w q 14) (h : rd μ q i = some x) (hdg : decode cc pc = .ok (.baload, 1))
    (kk : W p l e R s m args below meth c H locs cells slots Q (F0 m (pc + 1) ls (.int x :: rest))) : W p l e R s m args below meth c H locs cells slots Q (F0 m pc ls (.int i :: .ref (g.2.2 q) :: rest)) := by
  unfold rd at h
  split at h
  · cases h
  · rename_i hin
    cases h
    exact va_bald E.1 E.2.1 X.1 hR.1 (q - w.1) 1 (by rw [av_W_at ht.2, av_cell_a ht.1 (by decide) (by decide)]) rfl hin hdg kk
theorem av_zl (E : av_E p s m args meth c cc own nL ret) (X : av_X w g s) (hR : av_R w g μ s H locs) {q : Nat} {i x : Int32} (ht : av_t w q 15) (h : rd μ q i = some x) (hdg : decode cc pc = .ok (.baload, 1))
    (kk : W p l e R s m args below meth c H locs cells slots Q (F0 m (pc + 1) ls (.int x :: rest))) : W p l e R s m args below meth c H locs cells slots Q (F0 m pc ls (.int i :: .ref (g.2.2 q) :: rest)) := by
  unfold rd at h
  split at h
  · cases h
  · rename_i hin
    cases h
    exact va_zald E.1 E.2.1 X.1 hR.1 (q - w.1) 2 (by rw [av_W_at ht.2, av_cell_a ht.1 (by decide) (by decide)]) rfl hin hdg kk
theorem av_is (E : av_E p s m args meth c cc own nL ret) (X : av_X w g s) (hR : av_R w g μ s H locs) {q : Nat} {i x : Int32} {μ' : Mem} (ht : av_t w q 13) (h : wr μ q i x = some μ') (hdg : decode cc pc = .ok (.iastore, 1))
    (kk : ∀ (H : Heap) (locs : List Loc), av_R w g μ' s H locs → W p l e R s m args below meth c H locs cells slots Q (F0 m (pc + 1) ls rest)) : W p l e R s m args below meth c H locs cells slots Q (F0 m pc ls (.int x :: .int i :: .ref (g.2.2 q) :: rest)) := by
  unfold wr at h
  split at h
  · cases h
  · rename_i hin
    cases h
    refine va_iast E.1 E.2.1 X.1 hR.1 (av_D X.2.2.1 μ) hR.2 (q - w.1) 0 (by rw [av_W_at ht.2, av_cell_a ht.1 (by decide) (by decide)]) rfl hin hdg (fun H1 locs1 hP _ hS => kk H1 locs1 ⟨?_, hS⟩)
    rw [av_W_set ht.2 (by rw [av_cell_a ht.1 (by decide) (by decide)]; simp [gA, sA]) (av_off_A (f := upd (gA μ q) i.toNatClampNeg x))] at hP
    exact hP
theorem av_bs (E : av_E p s m args meth c cc own nL ret) (X : av_X w g s) (hR : av_R w g μ s H locs) {q : Nat} {i x : Int32} {μ' : Mem} (ht : av_t w q 14) (h : wrb μ q i x = some μ') (hdg : decode cc pc = .ok (.bastore, 1))
    (kk : ∀ (H : Heap) (locs : List Loc), av_R w g μ' s H locs → W p l e R s m args below meth c H locs cells slots Q (F0 m (pc + 1) ls rest)) : W p l e R s m args below meth c H locs cells slots Q (F0 m pc ls (.int x :: .int i :: .ref (g.2.2 q) :: rest)) := by
  unfold wrb wr at h
  split at h
  · cases h
  · rename_i hin
    cases h
    refine va_bast E.1 E.2.1 X.1 hR.1 (av_D X.2.2.1 μ) hR.2 (q - w.1) 1 (by rw [av_W_at ht.2, av_cell_a ht.1 (by decide) (by decide)]) rfl hin hdg (fun H1 locs1 hP _ hS => kk H1 locs1 ⟨?_, hS⟩)
    rw [av_W_set ht.2 (by rw [av_cell_a ht.1 (by decide) (by decide)]; simp [gA, sA]) (av_off_A (f := upd (gA μ q) i.toNatClampNeg (vp_nar .byte x)))] at hP
    exact hP
theorem av_zs (E : av_E p s m args meth c cc own nL ret) (X : av_X w g s) (hR : av_R w g μ s H locs) {q : Nat} {i x : Int32} {μ' : Mem} (ht : av_t w q 15) (h : wrz μ q i x = some μ') (hdg : decode cc pc = .ok (.bastore, 1))
    (kk : ∀ (H : Heap) (locs : List Loc), av_R w g μ' s H locs → W p l e R s m args below meth c H locs cells slots Q (F0 m (pc + 1) ls rest)) : W p l e R s m args below meth c H locs cells slots Q (F0 m pc ls (.int x :: .int i :: .ref (g.2.2 q) :: rest)) := by
  unfold wrz wr at h
  split at h
  · cases h
  · rename_i hin
    cases h
    refine va_zast E.1 E.2.1 X.1 hR.1 (av_D X.2.2.1 μ) hR.2 (q - w.1) 2 (by rw [av_W_at ht.2, av_cell_a ht.1 (by decide) (by decide)]) rfl hin hdg (fun H1 locs1 hP _ hS => kk H1 locs1 ⟨?_, hS⟩)
    rw [av_W_set ht.2 (by rw [av_cell_a ht.1 (by decide) (by decide)]; simp [gA, sA]) (av_off_A (f := upd (gA μ q) i.toNatClampNeg (vp_nar .boolean x)))] at hP
    exact hP
theorem av_al (E : av_E p s m args meth c cc own nL ret) (X : av_X w g s) (hR : av_R w g μ s H locs) {q t t0 q' : Nat} {C : String} {i : Int32} (ht : av_t w q t) (h16 : 16 ≤ t) (hty : (av_ty g)[t0]? = some (g.2.1 t, .object C)) (h : rdr q i = some q') (hdg : decode cc pc = .ok (.aaload, 1))
    (kk : W p l e R s m args below meth c H locs cells slots Q (F0 m (pc + 1) ls (.ref (g.2.2 q') :: rest))) : W p l e R s m args below meth c H locs cells slots Q (F0 m pc ls (.int i :: .ref (g.2.2 q) :: rest)) := by
  unfold rdr at h
  split at h
  · cases h
  · rename_i hin
    cases h
    exact va_aldq (f := fun i => some (g.2.2 (av_rf q i))) E.1 E.2.1 X.1 hR.1 (q - w.1) t0 (by rw [av_W_at ht.2, av_cell_r ht.1 h16]) hty hin hdg kk
theorem av_len (E : av_E p s m args meth c cc own nL ret) (X : av_X w g s) (hR : av_R w g μ s H locs) {q t t0 : Nat} {ty : FieldType} (ht : av_t w q t) (h13 : 13 ≤ t) (hty : (av_ty g)[t0]? = some (g.2.1 t, ty)) (hdg : decode cc pc = .ok (.arraylength, 1))
    (kk : W p l e R s m args below meth c H locs cells slots Q (F0 m (pc + 1) ls (.int (nI (av_ln q)) :: rest))) : W p l e R s m args below meth c H locs cells slots Q (F0 m pc ls (.ref (g.2.2 q) :: rest)) := by
  by_cases h16 : t < 16
  · exact va_alen (x := (av_ln q, .inl (gA μ q))) E.1 E.2.1 X.1 hR.1 (q - w.1) t0 (by rw [av_W_at ht.2, av_cell_a ht.1 h13 h16]) hty rfl hdg kk
  · exact va_alen (x := (av_ln q, .inr (.inr (.inr (.inr (fun i => some (g.2.2 (av_rf q i)))))))) E.1 E.2.1 X.1 hR.1 (q - w.1) t0 (by rw [av_W_at ht.2, av_cell_r ht.1 (by omega)]) hty rfl hdg kk
theorem av_cp (E : av_E p s m args meth c cc own nL ret) (X : av_X w g s) (hR : av_R w g μ s H locs) (hls : ls.size = nL) {a b index : Nat} {sp dp n : Int32} {μ' : Mem} (hlink : Cond.methodLink own index arraycopyName ∈ av_gw) (hta : av_t w a 13) (htb : av_t w b 13) (h : cpy μ a sp b dp n = some μ') (hframes : 1 ≤ R.frames) (hlocals : (rest.map fun v => v.category).sum + (nativeFrameWords "java/lang/System" "arraycopy" 5 + 11) ≤ R.locals) (hdg : decode cc pc = .ok (.invokestatic index, 3))
    (kk : ∀ (H : Heap) (locs : List Loc), av_R w g μ' s H locs → W p l e R s m args below meth c H locs cells slots Q (F0 m (pc + 3) ls rest)) : W p l e R s m args below meth c H locs cells slots Q (F0 m pc ls (.int n :: .int dp :: .ref (g.2.2 b) :: .int sp :: .ref (g.2.2 a) :: rest)) := by
  unfold cpy at h
  split at h
  · cases h
  · rename_i hin
    cases h
    simp only [not_or, Nat.not_lt] at hin
    obtain ⟨⟨h1, h2⟩, h3, h4, h5⟩ := hin
    refine va_copyi E.1 E.2.1 (by rw [E.2.2.2.1, hls]) E.2.2.2.2.1 (E.2.2.2.2.2.1 _ hlink) (E.2.2.2.2.2.1 _ kA_java_lang_Systemarraycopy) (E.2.2.2.2.2.1 _ kT_arraycopyName) (E.2.2.2.2.2.1 _ kZ_J10) X.1 hR.1 (av_D X.2.2.1 μ) hR.2 (a - w.1) (b - w.1) 0 0 (by rw [av_W_at hta.2, av_cell_a hta.1 (by decide) (by decide)]) (by rw [av_W_at htb.2, av_cell_a htb.1 (by decide) (by decide)]) rfl rfl rfl h1 h2 h3 h4 h5 (fun _ _ => rfl) hframes hlocals hdg (fun H1 locs1 hP _ hS => kk H1 locs1 ⟨?_, hS⟩)
    rw [av_W_set htb.2 (by rw [av_cell_a htb.1 (by decide) (by decide)]; simp [gA, sA]) (av_off_A (f := va_cpy (gA μ a) (gA μ b) sp.toNatClampNeg dp.toNatClampNeg n.toNatClampNeg))] at hP
    exact hP
/-- returns -/
theorem av_ri (E : av_E p s m args meth c cc own nL (some .int)) (hR : av_R w g μ s H locs) {v r : Int32} {μ' : Mem} (hz : v = r ∧ μ = μ') (hdg : decode cc pc = .ok (.ireturn, 1)) : W p l e R s m args below meth c H locs cells slots (MQ below (va_Qi (fun r1 u => r1 = r ∧ u = μ') (av_B w g) (av_A w g)) args s cells slots (av_A w g)) (F0 m pc ls [.int v]) :=
  W.iret E.1 E.2.1 E.2.2.1 (fun t ht _ => ⟨⟨v, μ, rfl, hz, by unfold av_B; rw [ht]; exact hR.1⟩, hR.2.F ht⟩) hR.2.2.2 hdg (hlocks := E.2.2.2.2.2.2)
theorem av_rz (E : av_E p s m args meth c cc own nL (some .boolean)) (hR : av_R w g μ s H locs) {v r : Int32} {μ' : Mem} (hn : narrow .boolean (.int v) = .int v) (hz : v = r ∧ μ = μ') (hdg : decode cc pc = .ok (.ireturn, 1)) : W p l e R s m args below meth c H locs cells slots (MQ below (va_Qi (fun r1 u => r1 = r ∧ u = μ') (av_B w g) (av_A w g)) args s cells slots (av_A w g)) (F0 m pc ls [.int v]) :=
  W.zret E.1 E.2.1 E.2.2.1 hn (fun t ht _ => ⟨⟨v, μ, rfl, hz, by unfold av_B; rw [ht]; exact hR.1⟩, hR.2.F ht⟩) hR.2.2.2 hdg (hlocks := E.2.2.2.2.2.2)
theorem av_rl (E : av_E p s m args meth c cc own nL (some .long)) (hR : av_R w g μ s H locs) {v r : Int64} {μ' : Mem} (hz : v = r ∧ μ = μ') (hdg : decode cc pc = .ok (.lreturn, 1)) : W p l e R s m args below meth c H locs cells slots (MQ below (va_Ql (fun r1 u => r1 = r ∧ u = μ') (av_B w g) (av_A w g)) args s cells slots (av_A w g)) (F0 m pc ls [.long v]) :=
  W.lret E.1 E.2.1 E.2.2.1 (fun t ht _ => ⟨⟨v, μ, rfl, hz, by unfold av_B; rw [ht]; exact hR.1⟩, hR.2.F ht⟩) hR.2.2.2 hdg (hlocks := E.2.2.2.2.2.2)
theorem av_rv (E : av_E p s m args meth c cc own nL none) (hR : av_R w g μ s H locs) {μ' : Mem} (hz : μ = μ') (hdg : decode cc pc = .ok (.return_, 1)) : W p l e R s m args below meth c H locs cells slots (MQ below (va_Qv (fun u => u = μ') (av_B w g) (av_A w g)) args s cells slots (av_A w g)) (F0 m pc ls []) :=
  W.vret E.1 E.2.1 E.2.2.1 (fun t ht _ => ⟨⟨μ, rfl, hz, by unfold av_B; rw [ht]; exact hR.1⟩, hR.2.F ht⟩) hR.2.2.2 hdg (hlocks := E.2.2.2.2.2.2)
end
end
section
/-! Calls, entries: contracts over a world. -/
abbrev av_MI (l : Launch) (y : MethodName) (cy : ByteArray) (nL N : Nat) (ret : Option FieldType) (w : Nat × Nat) (g : Gl) (vs : List Value) (μ : Mem) (r : Int32) (μ' : Mem) : Prop :=
  Met l y (.code y cy nL ret :: av_gw) (rmN N) (va_Pc vs (av_Pr w g μ)) (va_Qi (fun r1 u => r1 = r ∧ u = μ') (av_B w g) (av_A w g)) 0 0 (av_A w g)
abbrev av_ML (l : Launch) (y : MethodName) (cy : ByteArray) (nL N : Nat) (ret : Option FieldType) (w : Nat × Nat) (g : Gl) (vs : List Value) (μ : Mem) (r : Int64) (μ' : Mem) : Prop :=
  Met l y (.code y cy nL ret :: av_gw) (rmN N) (va_Pc vs (av_Pr w g μ)) (va_Ql (fun r1 u => r1 = r ∧ u = μ') (av_B w g) (av_A w g)) 0 0 (av_A w g)
abbrev av_MV (l : Launch) (y : MethodName) (cy : ByteArray) (nL N : Nat) (ret : Option FieldType) (w : Nat × Nat) (g : Gl) (vs : List Value) (μ : Mem) (μ' : Mem) : Prop :=
  Met l y (.code y cy nL ret :: av_gw) (rmN N) (va_Pc vs (av_Pr w g μ)) (va_Qv (fun u => u = μ') (av_B w g) (av_A w g)) 0 0 (av_A w g)
abbrev av_MR (l : Launch) (y : MethodName) (cy : ByteArray) (nL N : Nat) (ret : Option FieldType) (w : Nat × Nat) (g : Gl) (vs : List Value) (μ : Mem) (r : Nat) (μ' : Mem) : Prop :=
  Met l y (.code y cy nL ret :: av_gw) (rmN N) (va_Pc vs (av_Pr w g μ)) (va_Qr (fun u => u = μ') (fun u a t => a = g.2.2 r ∧ av_B w g u t) (av_A w g)) 0 0 (av_A w g)
/-- what a call's instruction and the tables say of the callee, by words -/
def av_kV (own : String) (index : Nat) (C : String) (y : MethodName) (cy : ByteArray) (nLy : Nat) (retY : Option FieldType) (n : Nat) : Prop :=
  Cond.methodLink own index y ∈ av_gw ∧ Cond.instanceMethod y ∈ av_gw ∧ Cond.selects C y y ∈ av_gw ∧ Cond.initialized y.cls ∈ av_gw ∧ Cond.code y cy nLy retY ∈ av_gw ∧ y.cls ≠ "java/lang/invoke/MethodHandle" ∧ y.cls ≠ "java/lang/invoke/VarHandle" ∧ (parseMethodDescriptor y.desc).map (fun d => d.parameters.length) = some n
def av_kVN (own : String) (index : Nat) (C host : String) (y : MethodName) (cy : ByteArray) (nLy : Nat) (retY : Option FieldType) (n : Nat) : Prop :=
  Cond.methodLinkNest own index y host ∈ av_nw ∧ Cond.instanceMethod y ∈ av_gw ∧ Cond.selects C y y ∈ av_gw ∧ Cond.initialized y.cls ∈ av_gw ∧ Cond.code y cy nLy retY ∈ av_gw ∧ y.cls ≠ "java/lang/invoke/MethodHandle" ∧ y.cls ≠ "java/lang/invoke/VarHandle" ∧ (parseMethodDescriptor y.desc).map (fun d => d.parameters.length) = some n
def av_kS (own : String) (index : Nat) (y : MethodName) (cy : ByteArray) (nLy : Nat) (retY : Option FieldType) (n : Nat) : Prop :=
  Cond.methodLink own index y ∈ av_gw ∧ Cond.static y ∈ av_gw ∧ Cond.initialized y.cls ∈ av_gw ∧ Cond.code y cy nLy retY ∈ av_gw ∧ y.cls ≠ "java/lang/invoke/MethodHandle" ∧ y.cls ≠ "java/lang/invoke/VarHandle" ∧ (parseMethodDescriptor y.desc).map (fun d => d.parameters.length) = some n
def av_kSN (own : String) (index : Nat) (host : String) (y : MethodName) (cy : ByteArray) (nLy : Nat) (retY : Option FieldType) (n : Nat) : Prop :=
  Cond.methodLinkNest own index y host ∈ av_nw ∧ Cond.static y ∈ av_gw ∧ Cond.initialized y.cls ∈ av_gw ∧ Cond.code y cy nLy retY ∈ av_gw ∧ y.cls ≠ "java/lang/invoke/MethodHandle" ∧ y.cls ≠ "java/lang/invoke/VarHandle" ∧ (parseMethodDescriptor y.desc).map (fun d => d.parameters.length) = some n
/-- inherited or overridden: the instruction names x, found in owner; an object of C runs y -/
def av_kU (own : String) (index : Nat) (C owner : String) (x y : MethodName) (cy : ByteArray) (nLy : Nat) (retY : Option FieldType) (n : Nat) : Prop :=
  (Cond.methodLink own index x ∈ av_gw ∧ Cond.sameMethod x.cls owner x.name x.desc ∈ av_gw ∧ Cond.selects C x y ∈ av_gw ∧ Cond.instanceMethod y ∈ av_gw ∧ Cond.initialized y.cls ∈ av_gw ∧ Cond.code y cy nLy retY ∈ av_gw) ∧ (∃ b0 m0 r0, Cond.code ⟨owner, x.name, x.desc⟩ b0 m0 r0 ∈ av_gw ∧ Cond.instanceMethod ⟨owner, x.name, x.desc⟩ ∈ av_gw) ∧ owner ≠ "java/lang/invoke/MethodHandle" ∧ owner ≠ "java/lang/invoke/VarHandle" ∧ (parseMethodDescriptor x.desc).map (fun d => d.parameters.length) = some n
def av_kSU (own : String) (index : Nat) (y : MethodName) (cy : ByteArray) (nLy : Nat) (retY : Option FieldType) (n : Nat) : Prop :=
  Cond.methodLink own index y ∈ av_gw ∧ Cond.sameMethod y.cls y.cls y.name y.desc ∈ av_gw ∧ Cond.superclass own y.cls ∈ av_gw ∧ Cond.instanceMethod y ∈ av_gw ∧ Cond.initialized y.cls ∈ av_gw ∧ Cond.code y cy nLy retY ∈ av_gw ∧ y.name ≠ "<init>" ∧ (parseMethodDescriptor y.desc).map (fun d => d.parameters.length) = some n
theorem av_len_of {d : String} {n : Nat} (h : (parseMethodDescriptor d).map (fun d => d.parameters.length) = some n) : ∀ sig, parseMethodDescriptor d = some sig → n = sig.parameters.length := by
  intro sig hs
  rw [hs] at h
  exact (Option.some.inj h).symm
section
variable {p : Program} {l : Launch} {e : Env} {R : Room} {s : State} {m : MethodId} {args : Array Value} {below : List Frame} {meth : Method} {c : Code} {H : Heap} {locs : List Loc} {cells slots : Nat} {Q : State → Prop}
variable {cc : ByteArray} {pc : Nat} {ls : Array Slot} {rest : List Value} {w : Nat × Nat} {g : Gl} {μ : Mem} {own : String} {nL : Nat} {ret : Option FieldType}
variable {y x : MethodName} {cy : ByteArray} {nLy N n index : Nat} {retY : Option FieldType} {As : List Value} {Qc : Array Value → State → Outcome → State → Prop} {q ci : Nat} {C host owner : String} {Tt : u_T} {NN : Nat}
theorem av_preV (X : av_X w g s) (hR : av_R w g μ s H locs) (ht : av_t w q ci) (hl : ci < 13) (hcl : vwCl[ci]? = some (C, Tt, NN)) : PreV s H C (g.2.2 q) (va_Pc (.ref (g.2.2 q) :: As) (av_Pr w g μ)) As :=
  ⟨av_blind, va_recv (q := (C, Tt, NN)) (fs := av_fl g μ q ci) X.1 hR.1 hcl (q0 := q - w.1) (by rw [av_W_at ht.2, av_cell_o ht.1 hl]), fun U hU hW => ⟨rfl, by rw [hU]; exact hR.1, X.warm hR.2 hU hW⟩⟩
theorem av_preS (X : av_X w g s) (hR : av_R w g μ s H locs) : PreS s H (va_Pc As (av_Pr w g μ)) As :=
  ⟨av_blind, fun U hU hW => ⟨rfl, by rw [hU]; exact hR.1, X.warm hR.2 hU hW⟩⟩
theorem av_cV (E : av_E p s m args meth c cc own nL ret) (X : av_X w g s) (hR : av_R w g μ s H locs) (hls : ls.size = nL) (hM : Met l y (.code y cy nLy retY :: av_gw) (rmN N) (va_Pc (.ref (g.2.2 q) :: As) (av_Pr w g μ)) Qc 0 0 (av_A w g)) (hk : av_kV own index C y cy nLy retY n) (hroom : N + 1 ≤ R.frames ∧ 8 + (nLy + 11) + 60 * N ≤ R.locals) (ht : av_t w q ci) (hl : ci < 13) (hcl : vwCl[ci]? = some (C, Tt, NN)) (hn : As.length = n) (hrm : (rest.map fun v => v.category).sum ≤ 8) (hf : cells ≤ R.cells ∧ slots ≤ R.slots) (hdg : decode cc pc = .ok (.invokevirtual index, 3)) :
    va_Run p l e R s m args below meth c H locs cells slots 0 0 (F0 m pc ls (As.reverse ++ .ref (g.2.2 q) :: rest)) rest (Qc (Value.ref (g.2.2 q) :: As).toArray) (av_A w g) := by
  have hts := E.2.2.2.2.2.1
  obtain ⟨k1, k2, k3, k4, k5, k6, k7, k8⟩ := hk
  exact va_runV (Ts := av_gw) (n := n) ⟨E.1, E.2.1, E.2.2.2.1, E.2.2.2.2.1, hts⟩ hM ⟨callB_of n hts (av_good k5) rfl rfl rfl (hts _ k4) (hts _ k1) ⟨k6, k7, k8⟩ hroom, hts _ k2, hts _ k3⟩ (av_preV X hR ht hl hcl) rfl hn hls rfl (lv_room hrm) hdg hf
theorem av_cVN (E : av_E p s m args meth c cc own nL ret) (X : av_X w g s) (hR : av_R w g μ s H locs) (hls : ls.size = nL) (hM : Met l y (.code y cy nLy retY :: av_gw) (rmN N) (va_Pc (.ref (g.2.2 q) :: As) (av_Pr w g μ)) Qc 0 0 (av_A w g)) (hk : av_kVN own index C host y cy nLy retY n) (hroom : N + 1 ≤ R.frames ∧ 8 + (nLy + 11) + 60 * N ≤ R.locals) (ht : av_t w q ci) (hl : ci < 13) (hcl : vwCl[ci]? = some (C, Tt, NN)) (hn : As.length = n) (hrm : (rest.map fun v => v.category).sum ≤ 8) (hf : cells ≤ R.cells ∧ slots ≤ R.slots) (hdg : decode cc pc = .ok (.invokevirtual index, 3)) :
    va_Run p l e R s m args below meth c H locs cells slots 0 0 (F0 m pc ls (As.reverse ++ .ref (g.2.2 q) :: rest)) rest (Qc (Value.ref (g.2.2 q) :: As).toArray) (av_A w g) := by
  have hts := E.2.2.2.2.2.1
  obtain ⟨k1, k2, k3, k4, k5, k6, k7, k8⟩ := hk
  exact va_runVN (Ts := av_gw) (n := n) ⟨E.1, E.2.1, E.2.2.2.1, E.2.2.2.2.1, hts⟩ hM ⟨va_cnB n hts (av_good k5) rfl rfl rfl (X.2.1 _ k1) (hts _ k4) ⟨k6, k7, k8⟩ hroom, hts _ k2, hts _ k3⟩ (av_preV X hR ht hl hcl) rfl hn hls rfl (lv_room hrm) hdg hf
theorem av_cS (E : av_E p s m args meth c cc own nL ret) (X : av_X w g s) (hR : av_R w g μ s H locs) (hls : ls.size = nL) (hM : Met l y (.code y cy nLy retY :: av_gw) (rmN N) (va_Pc As (av_Pr w g μ)) Qc 0 0 (av_A w g)) (hk : av_kS own index y cy nLy retY n) (hroom : N + 1 ≤ R.frames ∧ 8 + (nLy + 11) + 60 * N ≤ R.locals) (hn : As.length = n) (hrm : (rest.map fun v => v.category).sum ≤ 8) (hf : cells ≤ R.cells ∧ slots ≤ R.slots) (hdg : decode cc pc = .ok (.invokestatic index, 3)) :
    va_Run p l e R s m args below meth c H locs cells slots 0 0 (F0 m pc ls (As.reverse ++ rest)) rest (Qc As.toArray) (av_A w g) := by
  have hts := E.2.2.2.2.2.1
  obtain ⟨k1, k2, k4, k5, k6, k7, k8⟩ := hk
  exact va_runS (Ts := av_gw) (n := n) ⟨E.1, E.2.1, E.2.2.2.1, E.2.2.2.2.1, hts⟩ hM ⟨callB_of n hts (av_good k5) rfl rfl rfl (hts _ k4) (hts _ k1) ⟨k6, k7, k8⟩ hroom, hts _ k2⟩ (av_preS X hR) rfl hn hls rfl (lv_room hrm) hdg hf
theorem av_cSN (E : av_E p s m args meth c cc own nL ret) (X : av_X w g s) (hR : av_R w g μ s H locs) (hls : ls.size = nL) (hM : Met l y (.code y cy nLy retY :: av_gw) (rmN N) (va_Pc As (av_Pr w g μ)) Qc 0 0 (av_A w g)) (hk : av_kSN own index host y cy nLy retY n) (hroom : N + 1 ≤ R.frames ∧ 8 + (nLy + 11) + 60 * N ≤ R.locals) (hn : As.length = n) (hrm : (rest.map fun v => v.category).sum ≤ 8) (hf : cells ≤ R.cells ∧ slots ≤ R.slots) (hdg : decode cc pc = .ok (.invokestatic index, 3)) :
    va_Run p l e R s m args below meth c H locs cells slots 0 0 (F0 m pc ls (As.reverse ++ rest)) rest (Qc As.toArray) (av_A w g) := by
  have hts := E.2.2.2.2.2.1
  obtain ⟨k1, k2, k4, k5, k6, k7, k8⟩ := hk
  exact va_runSN (Ts := av_gw) (n := n) ⟨E.1, E.2.1, E.2.2.2.1, E.2.2.2.2.1, hts⟩ hM ⟨va_cnB n hts (av_good k5) rfl rfl rfl (X.2.1 _ k1) (hts _ k4) ⟨k6, k7, k8⟩ hroom, hts _ k2, trivial⟩ (av_preS X hR) rfl hn hls rfl (lv_room hrm) hdg hf
theorem av_cU (E : av_E p s m args meth c cc own nL ret) (X : av_X w g s) (hR : av_R w g μ s H locs) (hls : ls.size = nL) (hM : Met l y (.code y cy nLy retY :: av_gw) (rmN N) (va_Pc (.ref (g.2.2 q) :: As) (av_Pr w g μ)) Qc 0 0 (av_A w g)) (hk : av_kU own index C owner x y cy nLy retY n) (hroom : N + 1 ≤ R.frames ∧ 8 + (nLy + 11) + 60 * N ≤ R.locals) (ht : av_t w q ci) (hl : ci < 13) (hcl : vwCl[ci]? = some (C, Tt, NN)) (hn : As.length = n) (hrm : (rest.map fun v => v.category).sum ≤ 8) (hf : cells ≤ R.cells ∧ slots ≤ R.slots) (hdg : decode cc pc = .ok (.invokevirtual index, 3)) :
    va_Run p l e R s m args below meth c H locs cells slots 0 0 (F0 m pc ls (As.reverse ++ .ref (g.2.2 q) :: rest)) rest (Qc (Value.ref (g.2.2 q) :: As).toArray) (av_A w g) := by
  have hts := E.2.2.2.2.2.1
  obtain ⟨⟨k1, k2, k3, k4, k5, k6⟩, ⟨b0, m0, r0, k7, k8⟩, k9, k10, k11⟩ := hk
  refine va_runU (Ts := av_gw) (n := n) (x := x) (owner := owner) ⟨E.1, E.2.1, E.2.2.2.1, E.2.2.2.2.1, hts⟩ hM ⟨⟨rfl, rfl, hroom.1, hroom.2, pay_in hts (av_good k6), List.mem_cons_self⟩, hts _ k6, hts _ k5, ⟨k9, k10⟩, av_len_of k11, hts _ k1, hts _ k2, va_Decl.of (hts _ k8) (hts _ k7), hts _ k3, hts _ k4⟩ (av_preV X hR ht hl hcl) rfl hn hls rfl (lv_room hrm) hdg hf
theorem av_cSU (E : av_E p s m args meth c cc own nL ret) (X : av_X w g s) (hR : av_R w g μ s H locs) (hls : ls.size = nL) (hM : Met l y (.code y cy nLy retY :: av_gw) (rmN N) (va_Pc (.ref (g.2.2 q) :: As) (av_Pr w g μ)) Qc 0 0 (av_A w g)) (hk : av_kSU own index y cy nLy retY n) (hroom : N + 1 ≤ R.frames ∧ 8 + (nLy + 11) + 60 * N ≤ R.locals) (ht : av_t w q ci) (hl : ci < 13) (hcl : vwCl[ci]? = some (C, Tt, NN)) (hn : As.length = n) (hrm : (rest.map fun v => v.category).sum ≤ 8) (hf : cells ≤ R.cells ∧ slots ≤ R.slots) (hdg : decode cc pc = .ok (.invokespecial index, 3)) :
    va_Run p l e R s m args below meth c H locs cells slots 0 0 (F0 m pc ls (As.reverse ++ .ref (g.2.2 q) :: rest)) rest (Qc (Value.ref (g.2.2 q) :: As).toArray) (av_A w g) := by
  have hts := E.2.2.2.2.2.1
  obtain ⟨k1, k2, k3, k4, k5, k6, k7, k8⟩ := hk
  exact va_runSU (Ts := av_gw) (n := n) (C := C) (X.1.1 ci _ hcl).2 ⟨E.1, E.2.1, E.2.2.2.1, E.2.2.2.2.1, hts⟩ hM ⟨⟨rfl, rfl, hroom.1, hroom.2, pay_in hts (av_good k6), List.mem_cons_self⟩, hts _ k1, hts _ k2, hts _ k3, hts _ k4, hts _ k5, hts _ k6, k7, av_len_of k8⟩ (av_preV X hR ht hl hcl) rfl hn hls rfl (lv_room hrm) hdg hf
variable {a : Array Value} {st0 : List Value} {μ' : Mem}
theorem av_goI (hR : av_R w g μ s H locs) {r : Int32} (hr : va_Run p l e R s m args below meth c H locs cells slots 0 0 (F0 m pc ls st0) rest (va_Qi (fun r1 u => r1 = r ∧ u = μ') (av_B w g) (av_A w g) a) (av_A w g))
    (kk : ∀ (H : Heap) (locs : List Loc), av_R w g μ' s H locs → W p l e R s m args below meth c H locs cells slots Q (F0 m (pc + 3) ls (.int r :: rest))) : W p l e R s m args below meth c H locs cells slots Q (F0 m pc ls st0) := by
  refine va_calli hr hR.2 (fun q _ h => h) (fun q h => h) (fun r1 u t H1 locs1 ht hvm hw hB hz hk hS => ?_)
  obtain ⟨rfl, rfl⟩ := hw
  exact kk H1 locs1 ⟨by rw [← ht]; exact hB, hS⟩
theorem av_goL (hR : av_R w g μ s H locs) {r : Int64} (hr : va_Run p l e R s m args below meth c H locs cells slots 0 0 (F0 m pc ls st0) rest (va_Ql (fun r1 u => r1 = r ∧ u = μ') (av_B w g) (av_A w g) a) (av_A w g))
    (kk : ∀ (H : Heap) (locs : List Loc), av_R w g μ' s H locs → W p l e R s m args below meth c H locs cells slots Q (F0 m (pc + 3) ls (.long r :: rest))) : W p l e R s m args below meth c H locs cells slots Q (F0 m pc ls st0) := by
  refine va_calll hr hR.2 (fun q _ h => h) (fun q h => h) (fun r1 u t H1 locs1 ht hvm hw hB hz hk hS => ?_)
  obtain ⟨rfl, rfl⟩ := hw
  exact kk H1 locs1 ⟨by rw [← ht]; exact hB, hS⟩
theorem av_goV (hR : av_R w g μ s H locs) (hr : va_Run p l e R s m args below meth c H locs cells slots 0 0 (F0 m pc ls st0) rest (va_Qv (fun u => u = μ') (av_B w g) (av_A w g) a) (av_A w g))
    (kk : ∀ (H : Heap) (locs : List Loc), av_R w g μ' s H locs → W p l e R s m args below meth c H locs cells slots Q (F0 m (pc + 3) ls rest)) : W p l e R s m args below meth c H locs cells slots Q (F0 m pc ls st0) := by
  refine va_callv hr hR.2 (fun q _ h => h) (fun q h => h) (fun u t H1 locs1 ht hvm hw hB hz hk hS => ?_)
  subst hw
  exact kk H1 locs1 ⟨by rw [← ht]; exact hB, hS⟩
theorem av_goR (hR : av_R w g μ s H locs) {r : Nat} (hr : va_Run p l e R s m args below meth c H locs cells slots 0 0 (F0 m pc ls st0) rest (va_Qr (fun u => u = μ') (fun u a t => a = g.2.2 r ∧ av_B w g u t) (av_A w g) a) (av_A w g))
    (kk : ∀ (H : Heap) (locs : List Loc), av_R w g μ' s H locs → W p l e R s m args below meth c H locs cells slots Q (F0 m (pc + 3) ls (.ref (g.2.2 r) :: rest))) : W p l e R s m args below meth c H locs cells slots Q (F0 m pc ls st0) := by
  refine va_callr hr hR.2 (fun q _ h => h) (fun q h => h) (fun u ra t H1 locs1 ht hvm hw hB hz hk hS => ?_)
  subst hw
  obtain ⟨rfl, hB⟩ := hB
  exact kk H1 locs1 ⟨by rw [← ht]; exact hB, hS⟩
theorem av_rr (E : av_E p s m args meth c cc own nL (some (.object C))) (hR : av_R w g μ s H locs) {v r : Nat} (hz : v = r ∧ μ = μ') (hdg : decode cc pc = .ok (.areturn, 1)) : W p l e R s m args below meth c H locs cells slots (MQ below (va_Qr (fun u => u = μ') (fun u a t => a = g.2.2 r ∧ av_B w g u t) (av_A w g)) args s cells slots (av_A w g)) (F0 m pc ls [.ref (g.2.2 v)]) :=
  W.aret E.1 E.2.1 E.2.2.1 (Or.inl ⟨C, rfl⟩) (Or.inr ⟨_, rfl⟩) (fun t ht _ => ⟨⟨μ, g.2.2 v, rfl, hz.2, by rw [hz.1], by unfold av_B; rw [ht]; exact hR.1⟩, hR.2.F ht⟩) hR.2.2.2 hdg (hlocks := E.2.2.2.2.2.2)
theorem av_ent {vs : List Value} (hy : plainName y.cls = true) (hlen : (lg_sl vs).length ≤ nLy) (hown : y.cls = own)
    (body : ∀ (p : Program) (e : Env) (s : State) (m : MethodId) (args : Array Value) (below : List Frame) (meth : Method) (c : Code), av_E p s m args meth c cy own nLy ret → av_X w g s → av_R w g μ s s.heap [] → ∀ ls : Array Slot, lv_has ls nLy (lv_args 0 vs) → W p l e (rmN N) s m args below meth c s.heap [] 0 0 (MQ below Qc args s 0 0 (av_A w g)) (F0 m 0 ls [])) : Met l y (.code y cy nLy ret :: av_gw) (rmN N) (va_Pc vs (av_Pr w g μ)) Qc 0 0 (av_A w g) := by
  refine Met.ofW (cc := cy) (maxL := nLy) (ret := ret) hy rfl ?_
  intro p e s m args below meth c s₁ B hml hv
  obtain ⟨rfl, hP, hX⟩ := hv
  have hl := lv_entry vs (n := nLy) hlen
  have hts := atoms_spec (ws := .code y cy nLy ret :: av_gw) B.pre
  rw [lg_entry_eq]
  exact body _ _ _ _ _ _ _ _ ⟨B.exec, B.bytes, B.returns, hml, hown ▸ findClass_of_methodNamed B.named, fun x hx => hts x (List.mem_cons_of_mem _ hx), B.notSynchronized⟩ hX ⟨hP, va_S.rf⟩ _ hl
end
/-- taking apart what a definition says -/
theorem av_bd {α β : Type} {o : Option α} {f : α → Option β} {z : β} (h : o.bind f = some z) : ∃ x, o = some x ∧ f x = some z := by
  cases o with
  | none => cases h
  | some x => exact ⟨x, rfl, h⟩
theorem av_it {α : Type} {c : Prop} {_ : Decidable c} {a b z : α} (hc : c) (h : (if c then a else b) = z) : a = z := by rw [if_pos hc] at h; exact h
theorem av_if {α : Type} {c : Prop} {_ : Decidable c} {a b z : α} (hc : ¬ c) (h : (if c then a else b) = z) : b = z := by rw [if_neg hc] at h; exact h
/-- a bind whose answer is a value and a memory -/
def av_b2 {α β γ : Type} (o : Option (α × β)) (f : α → β → Option γ) : Option γ := match o with
  | none => none
  | some q => f q.1 q.2
theorem av_bd2 {α β γ : Type} {o : Option (α × β)} {f : α → β → Option γ} {z : γ} (h : av_b2 o f = some z) : ∃ x y, o = some (x, y) ∧ f x y = some z := by
  cases o with
  | none => cases h
  | some x => exact ⟨x.1, x.2, rfl, h⟩
theorem av_r2 {α β : Type} {a c : α} {b d : β} (h : some (a, b) = some (c, d)) : a = c ∧ b = d := by cases h; exact ⟨rfl, rfl⟩
theorem av_r1 {α : Type} {a c : α} {μ : Mem} (h : some a = some c) : a = c ∧ μ = μ := ⟨Option.some.inj h, rfl⟩
def av_big : Nat := 1000000
/-- a boolean on its way out -/
def av_z (v : Int32) : Option Int32 := if v = 0 then some v else if v = 1 then some v else none
theorem av_z_e {v x : Int32} (h : av_z v = some x) : v = x ∧ narrow .boolean (.int v) = .int v := by
  unfold av_z at h
  split at h
  · rename_i hv; subst hv; cases h; exact ⟨rfl, rfl⟩
  · split at h
    · rename_i hv; subst hv; cases h; exact ⟨rfl, rfl⟩
    · cases h
def av_pl (q : Nat) : Prop := av_t av_wc q 4 ∨ av_t av_wc q 0 ∨ av_t av_wc q 3 ∨ av_t av_wc q 6 ∨ av_t av_wc q 2 ∨ av_t av_wc q 10
theorem av_rd_dec {q q' : Nat} {i : Int32} (h : rdr q i = some q') : i.toNatClampNeg < av_ln q ∧ q' = av_rf q i.toNatClampNeg := by
  unfold rdr at h
  split at h
  · cases h
  · rename_i hin; cases h; exact ⟨Nat.not_le.mp fun z => hin (Or.inr z), rfl⟩
theorem av_ty16 {q q' : Nat} {i : Int32} (ht : av_t av_wc q 16) (h : rdr q i = some q') : av_pl q' := by
  obtain ⟨h1, rfl⟩ := av_rd_dec h
  have hd : ∀ x, x < 98 → av_cls x = 16 → ∀ j, j < 6 → (av_ln x ≤ j ∨ ((av_cls (av_rf x j) = 4 ∨ av_cls (av_rf x j) = 0 ∨ av_cls (av_rf x j) = 3 ∨ av_cls (av_rf x j) = 6 ∨ av_cls (av_rf x j) = 2 ∨ av_cls (av_rf x j) = 10) ∧ av_rf x j < 98)) := by decide +kernel
  have h6 : ∀ x, x < 98 → av_cls x = 16 → av_ln x ≤ 6 := by decide +kernel
  have hq : q < 98 := by have := ht.2.2; simpa using this
  have hj := Nat.lt_of_lt_of_le h1 (h6 q hq ht.1)
  rcases hd q hq ht.1 _ hj with h | ⟨h, h3⟩
  · omega
  · rcases h with h | h | h | h | h | h
    · exact Or.inl ⟨h, Nat.zero_le _, by simpa using h3⟩
    · exact Or.inr (Or.inl ⟨h, Nat.zero_le _, by simpa using h3⟩)
    · exact Or.inr (Or.inr (Or.inl ⟨h, Nat.zero_le _, by simpa using h3⟩))
    · exact Or.inr (Or.inr (Or.inr (Or.inl ⟨h, Nat.zero_le _, by simpa using h3⟩)))
    · exact Or.inr (Or.inr (Or.inr (Or.inr (Or.inl ⟨h, Nat.zero_le _, by simpa using h3⟩))))
    · exact Or.inr (Or.inr (Or.inr (Or.inr (Or.inr ⟨h, Nat.zero_le _, by simpa using h3⟩))))
theorem av_ty17 {q q' : Nat} {i : Int32} (ht : av_t av_wc q 17) (h : rdr q i = some q') : av_t av_wc q' 8 := by
  obtain ⟨h1, rfl⟩ := av_rd_dec h
  have hd : ∀ x, x < 98 → av_cls x = 17 → ∀ j, j < 2 → (av_ln x ≤ j ∨ (av_cls (av_rf x j) = 8 ∧ av_rf x j < 98)) := by decide +kernel
  have h6 : ∀ x, x < 98 → av_cls x = 17 → av_ln x ≤ 2 := by decide +kernel
  have hq : q < 98 := by have := ht.2.2; simpa using this
  have hj := Nat.lt_of_lt_of_le h1 (h6 q hq ht.1)
  rcases hd q hq ht.1 _ hj with h | ⟨h, h3⟩
  · omega
  · exact ⟨h, Nat.zero_le _, by simpa using h3⟩
theorem av_ty18 {q q' : Nat} {i : Int32} (ht : av_t av_wc q 18) (h : rdr q i = some q') : av_t av_wc q' 7 := by
  obtain ⟨h1, rfl⟩ := av_rd_dec h
  have hd : ∀ x, x < 98 → av_cls x = 18 → ∀ j, j < 7 → (av_ln x ≤ j ∨ (av_cls (av_rf x j) = 7 ∧ av_rf x j < 98)) := by decide +kernel
  have h6 : ∀ x, x < 98 → av_cls x = 18 → av_ln x ≤ 7 := by decide +kernel
  have hq : q < 98 := by have := ht.2.2; simpa using this
  have hj := Nat.lt_of_lt_of_le h1 (h6 q hq ht.1)
  rcases hd q hq ht.1 _ hj with h | ⟨h, h3⟩
  · omega
  · exact ⟨h, Nat.zero_le _, by simpa using h3⟩
theorem av_room {N M k : Nat} (h1 : N + 1 ≤ M) (h2 : k ≤ 41) : N + 1 ≤ (rmN M).frames ∧ 8 + (k + 11) + 60 * N ≤ (rmN M).locals := by
  refine ⟨h1, ?_⟩
  show 8 + (k + 11) + 60 * N ≤ 60 * M
  omega
end
