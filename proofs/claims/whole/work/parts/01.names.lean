-- ===== PART A: goes FIRST, ahead of the names: the tables' words, and 'selects' of the private methods out of them =====
/-- a private method of a class that the tables say can be made, by its rows of tables_1 -/
def lw_okq (q : MethodName × Nat) : Prop := (q.1.cls ≠ "java/lang/invoke/MethodHandle" ∧ q.1.cls ≠ "java/lang/invoke/VarHandle") ∧ Cond.instantiable q.1.cls q.2 ∈ tables_1 ∧ Cond.privateMethod q.1 ∈ tables_1 ∧ Cond.instanceMethod q.1 ∈ tables_1
theorem lw_p0 : lw_okq (⟨"TightDesk", "spoilPlan", "()V"⟩, 9) := ⟨⟨by decide +kernel, by decide +kernel⟩, List.mem_of_getElem? (i := 14) (by decide +kernel), List.mem_of_getElem? (i := 278) (by decide +kernel), List.mem_of_getElem? (i := 279) (by decide +kernel)⟩
theorem lw_p1 : lw_okq (⟨"TightDesk$Network", "hasEnd", "(I)Z"⟩, 8) := ⟨⟨by decide +kernel, by decide +kernel⟩, List.mem_of_getElem? (i := 22) (by decide +kernel), List.mem_of_getElem? (i := 290) (by decide +kernel), List.mem_of_getElem? (i := 291) (by decide +kernel)⟩
theorem lw_p2 : lw_okq (⟨"TightDesk$Times", "findFromEarliest", "()Z"⟩, 5) := ⟨⟨by decide +kernel, by decide +kernel⟩, List.mem_of_getElem? (i := 97) (by decide +kernel), List.mem_of_getElem? (i := 344) (by decide +kernel), List.mem_of_getElem? (i := 345) (by decide +kernel)⟩
theorem lw_p3 : lw_okq (⟨"TightDesk$Network", "raiseOnce", "([I)Z"⟩, 8) := ⟨⟨by decide +kernel, by decide +kernel⟩, List.mem_of_getElem? (i := 22) (by decide +kernel), List.mem_of_getElem? (i := 352) (by decide +kernel), List.mem_of_getElem? (i := 353) (by decide +kernel)⟩
theorem lw_p4 : lw_okq (⟨"TightDesk$Network", "lowerOnce", "([I)Z"⟩, 8) := ⟨⟨by decide +kernel, by decide +kernel⟩, List.mem_of_getElem? (i := 22) (by decide +kernel), List.mem_of_getElem? (i := 363) (by decide +kernel), List.mem_of_getElem? (i := 364) (by decide +kernel)⟩
theorem lw_p5 : lw_okq (⟨"TightDesk$Chain", "measure", "()V"⟩, 5) := ⟨⟨by decide +kernel, by decide +kernel⟩, List.mem_of_getElem? (i := 124) (by decide +kernel), List.mem_of_getElem? (i := 371) (by decide +kernel), List.mem_of_getElem? (i := 372) (by decide +kernel)⟩
theorem lw_p6 : lw_okq (⟨"TightDesk$Chain", "shortenOnce", "()Z"⟩, 5) := ⟨⟨by decide +kernel, by decide +kernel⟩, List.mem_of_getElem? (i := 124) (by decide +kernel), List.mem_of_getElem? (i := 375) (by decide +kernel), List.mem_of_getElem? (i := 376) (by decide +kernel)⟩
theorem lw_p7 : lw_okq (⟨"TightDesk$Chain", "isTight", "(I)Z"⟩, 5) := ⟨⟨by decide +kernel, by decide +kernel⟩, List.mem_of_getElem? (i := 124) (by decide +kernel), List.mem_of_getElem? (i := 379) (by decide +kernel), List.mem_of_getElem? (i := 380) (by decide +kernel)⟩
theorem lw_p8 : lw_okq (⟨"TightDesk$Chain", "firstTask", "()I"⟩, 5) := ⟨⟨by decide +kernel, by decide +kernel⟩, List.mem_of_getElem? (i := 124) (by decide +kernel), List.mem_of_getElem? (i := 383) (by decide +kernel), List.mem_of_getElem? (i := 384) (by decide +kernel)⟩
theorem lw_p9 : lw_okq (⟨"TightDesk$Chain", "nextTask", "(I)I"⟩, 5) := ⟨⟨by decide +kernel, by decide +kernel⟩, List.mem_of_getElem? (i := 124) (by decide +kernel), List.mem_of_getElem? (i := 387) (by decide +kernel), List.mem_of_getElem? (i := 388) (by decide +kernel)⟩
theorem lw_p10 : lw_okq (⟨"TightDesk$Circle", "gatherEdges", "()V"⟩, 11) := ⟨⟨by decide +kernel, by decide +kernel⟩, List.mem_of_getElem? (i := 147) (by decide +kernel), List.mem_of_getElem? (i := 395) (by decide +kernel), List.mem_of_getElem? (i := 396) (by decide +kernel)⟩
theorem lw_p11 : lw_okq (⟨"TightDesk$Circle", "addEdge", "(IIII)V"⟩, 11) := ⟨⟨by decide +kernel, by decide +kernel⟩, List.mem_of_getElem? (i := 147) (by decide +kernel), List.mem_of_getElem? (i := 399) (by decide +kernel), List.mem_of_getElem? (i := 400) (by decide +kernel)⟩
theorem lw_p12 : lw_okq (⟨"TightDesk$Circle", "findGoal", "(I)V"⟩, 11) := ⟨⟨by decide +kernel, by decide +kernel⟩, List.mem_of_getElem? (i := 147) (by decide +kernel), List.mem_of_getElem? (i := 406) (by decide +kernel), List.mem_of_getElem? (i := 407) (by decide +kernel)⟩
theorem lw_p13 : lw_okq (⟨"TightDesk$Circle", "measure", "(II)I"⟩, 11) := ⟨⟨by decide +kernel, by decide +kernel⟩, List.mem_of_getElem? (i := 147) (by decide +kernel), List.mem_of_getElem? (i := 410) (by decide +kernel), List.mem_of_getElem? (i := 411) (by decide +kernel)⟩
theorem lw_p14 : lw_okq (⟨"TightDesk$Circle", "addStep", "([I[I)V"⟩, 11) := ⟨⟨by decide +kernel, by decide +kernel⟩, List.mem_of_getElem? (i := 147) (by decide +kernel), List.mem_of_getElem? (i := 416) (by decide +kernel), List.mem_of_getElem? (i := 417) (by decide +kernel)⟩
theorem lw_p15 : lw_okq (⟨"TightDesk$Circle", "leastEdge", "(III)I"⟩, 11) := ⟨⟨by decide +kernel, by decide +kernel⟩, List.mem_of_getElem? (i := 147) (by decide +kernel), List.mem_of_getElem? (i := 421) (by decide +kernel), List.mem_of_getElem? (i := 422) (by decide +kernel)⟩
def lw_privs_1 : List (MethodName × Nat) := [(⟨"TightDesk", "spoilPlan", "()V"⟩, 9), (⟨"TightDesk$Network", "hasEnd", "(I)Z"⟩, 8), (⟨"TightDesk$Times", "findFromEarliest", "()Z"⟩, 5), (⟨"TightDesk$Network", "raiseOnce", "([I)Z"⟩, 8), (⟨"TightDesk$Network", "lowerOnce", "([I)Z"⟩, 8), (⟨"TightDesk$Chain", "measure", "()V"⟩, 5), (⟨"TightDesk$Chain", "shortenOnce", "()Z"⟩, 5), (⟨"TightDesk$Chain", "isTight", "(I)Z"⟩, 5), (⟨"TightDesk$Chain", "firstTask", "()I"⟩, 5), (⟨"TightDesk$Chain", "nextTask", "(I)I"⟩, 5), (⟨"TightDesk$Circle", "gatherEdges", "()V"⟩, 11), (⟨"TightDesk$Circle", "addEdge", "(IIII)V"⟩, 11), (⟨"TightDesk$Circle", "findGoal", "(I)V"⟩, 11), (⟨"TightDesk$Circle", "measure", "(II)I"⟩, 11), (⟨"TightDesk$Circle", "addStep", "([I[I)V"⟩, 11), (⟨"TightDesk$Circle", "leastEdge", "(III)I"⟩, 11)]
theorem lw_r1 : ∀ q ∈ lw_privs_1, lw_okq q := List.forall_mem_cons.mpr ⟨lw_p0, List.forall_mem_cons.mpr ⟨lw_p1, List.forall_mem_cons.mpr ⟨lw_p2, List.forall_mem_cons.mpr ⟨lw_p3, List.forall_mem_cons.mpr ⟨lw_p4, List.forall_mem_cons.mpr ⟨lw_p5, List.forall_mem_cons.mpr ⟨lw_p6, List.forall_mem_cons.mpr ⟨lw_p7, List.forall_mem_cons.mpr ⟨lw_p8, List.forall_mem_cons.mpr ⟨lw_p9, List.forall_mem_cons.mpr ⟨lw_p10, List.forall_mem_cons.mpr ⟨lw_p11, List.forall_mem_cons.mpr ⟨lw_p12, List.forall_mem_cons.mpr ⟨lw_p13, List.forall_mem_cons.mpr ⟨lw_p14, List.forall_mem_cons.mpr ⟨lw_p15, fun _ h => absurd h List.not_mem_nil⟩⟩⟩⟩⟩⟩⟩⟩⟩⟩⟩⟩⟩⟩⟩⟩
theorem lw_p16 : lw_okq (⟨"TightDesk$Circle", "trace", "()V"⟩, 11) := ⟨⟨by decide +kernel, by decide +kernel⟩, List.mem_of_getElem? (i := 147) (by decide +kernel), List.mem_of_getElem? (i := 425) (by decide +kernel), List.mem_of_getElem? (i := 426) (by decide +kernel)⟩
theorem lw_p17 : lw_okq (⟨"TightDesk", "timesFresh", "()Z"⟩, 9) := ⟨⟨by decide +kernel, by decide +kernel⟩, List.mem_of_getElem? (i := 14) (by decide +kernel), List.mem_of_getElem? (i := 433) (by decide +kernel), List.mem_of_getElem? (i := 434) (by decide +kernel)⟩
theorem lw_p18 : lw_okq (⟨"TightDesk$Match", "widen", "(I)Z"⟩, 13) := ⟨⟨by decide +kernel, by decide +kernel⟩, List.mem_of_getElem? (i := 190) (by decide +kernel), List.mem_of_getElem? (i := 503) (by decide +kernel), List.mem_of_getElem? (i := 504) (by decide +kernel)⟩
theorem lw_p19 : lw_okq (⟨"TightDesk$Match", "enqueue", "(I)V"⟩, 13) := ⟨⟨by decide +kernel, by decide +kernel⟩, List.mem_of_getElem? (i := 190) (by decide +kernel), List.mem_of_getElem? (i := 508) (by decide +kernel), List.mem_of_getElem? (i := 509) (by decide +kernel)⟩
theorem lw_p20 : lw_okq (⟨"TightDesk$Match", "seeWorkersOf", "(II)I"⟩, 13) := ⟨⟨by decide +kernel, by decide +kernel⟩, List.mem_of_getElem? (i := 190) (by decide +kernel), List.mem_of_getElem? (i := 512) (by decide +kernel), List.mem_of_getElem? (i := 513) (by decide +kernel)⟩
theorem lw_p21 : lw_okq (⟨"TightDesk$Match", "passWorkersOn", "(I)V"⟩, 13) := ⟨⟨by decide +kernel, by decide +kernel⟩, List.mem_of_getElem? (i := 190) (by decide +kernel), List.mem_of_getElem? (i := 516) (by decide +kernel), List.mem_of_getElem? (i := 517) (by decide +kernel)⟩
theorem lw_p22 : lw_okq (⟨"TightDesk$Match", "pair", "(II)V"⟩, 13) := ⟨⟨by decide +kernel, by decide +kernel⟩, List.mem_of_getElem? (i := 190) (by decide +kernel), List.mem_of_getElem? (i := 520) (by decide +kernel), List.mem_of_getElem? (i := 521) (by decide +kernel)⟩
theorem lw_p23 : lw_okq (⟨"TightDesk$Match", "keepCover", "()V"⟩, 13) := ⟨⟨by decide +kernel, by decide +kernel⟩, List.mem_of_getElem? (i := 190) (by decide +kernel), List.mem_of_getElem? (i := 524) (by decide +kernel), List.mem_of_getElem? (i := 525) (by decide +kernel)⟩
theorem lw_p24 : lw_okq (⟨"TightDesk$Match", "takeLeast", "(II)I"⟩, 13) := ⟨⟨by decide +kernel, by decide +kernel⟩, List.mem_of_getElem? (i := 190) (by decide +kernel), List.mem_of_getElem? (i := 528) (by decide +kernel), List.mem_of_getElem? (i := 529) (by decide +kernel)⟩
theorem lw_p25 : lw_okq (⟨"TightDesk$Match", "take", "(III)Z"⟩, 13) := ⟨⟨by decide +kernel, by decide +kernel⟩, List.mem_of_getElem? (i := 190) (by decide +kernel), List.mem_of_getElem? (i := 532) (by decide +kernel), List.mem_of_getElem? (i := 533) (by decide +kernel)⟩
theorem lw_p26 : lw_okq (⟨"TightDeskModel", "stales", "()V"⟩, 35) := ⟨⟨by decide +kernel, by decide +kernel⟩, List.mem_of_getElem? (i := 573) (by decide +kernel), List.mem_of_getElem? (i := 692) (by decide +kernel), List.mem_of_getElem? (i := 693) (by decide +kernel)⟩
theorem lw_p27 : lw_okq (⟨"TightDeskModel", "soonest", "(II)Z"⟩, 35) := ⟨⟨by decide +kernel, by decide +kernel⟩, List.mem_of_getElem? (i := 573) (by decide +kernel), List.mem_of_getElem? (i := 716) (by decide +kernel), List.mem_of_getElem? (i := 717) (by decide +kernel)⟩
theorem lw_p28 : lw_okq (⟨"TightDeskModel", "findCircle", "()V"⟩, 35) := ⟨⟨by decide +kernel, by decide +kernel⟩, List.mem_of_getElem? (i := 573) (by decide +kernel), List.mem_of_getElem? (i := 720) (by decide +kernel), List.mem_of_getElem? (i := 721) (by decide +kernel)⟩
theorem lw_p29 : lw_okq (⟨"TightDeskModel", "nextSums", "(I)V"⟩, 35) := ⟨⟨by decide +kernel, by decide +kernel⟩, List.mem_of_getElem? (i := 573) (by decide +kernel), List.mem_of_getElem? (i := 725) (by decide +kernel), List.mem_of_getElem? (i := 726) (by decide +kernel)⟩
theorem lw_p30 : lw_okq (⟨"TightDeskModel", "edges", "()I"⟩, 35) := ⟨⟨by decide +kernel, by decide +kernel⟩, List.mem_of_getElem? (i := 573) (by decide +kernel), List.mem_of_getElem? (i := 729) (by decide +kernel), List.mem_of_getElem? (i := 730) (by decide +kernel)⟩
theorem lw_p31 : lw_okq (⟨"TightDeskModel", "isEdge", "(I)Z"⟩, 35) := ⟨⟨by decide +kernel, by decide +kernel⟩, List.mem_of_getElem? (i := 573) (by decide +kernel), List.mem_of_getElem? (i := 733) (by decide +kernel), List.mem_of_getElem? (i := 734) (by decide +kernel)⟩
def lw_privs_2 : List (MethodName × Nat) := [(⟨"TightDesk$Circle", "trace", "()V"⟩, 11), (⟨"TightDesk", "timesFresh", "()Z"⟩, 9), (⟨"TightDesk$Match", "widen", "(I)Z"⟩, 13), (⟨"TightDesk$Match", "enqueue", "(I)V"⟩, 13), (⟨"TightDesk$Match", "seeWorkersOf", "(II)I"⟩, 13), (⟨"TightDesk$Match", "passWorkersOn", "(I)V"⟩, 13), (⟨"TightDesk$Match", "pair", "(II)V"⟩, 13), (⟨"TightDesk$Match", "keepCover", "()V"⟩, 13), (⟨"TightDesk$Match", "takeLeast", "(II)I"⟩, 13), (⟨"TightDesk$Match", "take", "(III)Z"⟩, 13), (⟨"TightDeskModel", "stales", "()V"⟩, 35), (⟨"TightDeskModel", "soonest", "(II)Z"⟩, 35), (⟨"TightDeskModel", "findCircle", "()V"⟩, 35), (⟨"TightDeskModel", "nextSums", "(I)V"⟩, 35), (⟨"TightDeskModel", "edges", "()I"⟩, 35), (⟨"TightDeskModel", "isEdge", "(I)Z"⟩, 35)]
theorem lw_r2 : ∀ q ∈ lw_privs_2, lw_okq q := List.forall_mem_cons.mpr ⟨lw_p16, List.forall_mem_cons.mpr ⟨lw_p17, List.forall_mem_cons.mpr ⟨lw_p18, List.forall_mem_cons.mpr ⟨lw_p19, List.forall_mem_cons.mpr ⟨lw_p20, List.forall_mem_cons.mpr ⟨lw_p21, List.forall_mem_cons.mpr ⟨lw_p22, List.forall_mem_cons.mpr ⟨lw_p23, List.forall_mem_cons.mpr ⟨lw_p24, List.forall_mem_cons.mpr ⟨lw_p25, List.forall_mem_cons.mpr ⟨lw_p26, List.forall_mem_cons.mpr ⟨lw_p27, List.forall_mem_cons.mpr ⟨lw_p28, List.forall_mem_cons.mpr ⟨lw_p29, List.forall_mem_cons.mpr ⟨lw_p30, List.forall_mem_cons.mpr ⟨lw_p31, fun _ h => absurd h List.not_mem_nil⟩⟩⟩⟩⟩⟩⟩⟩⟩⟩⟩⟩⟩⟩⟩⟩
theorem lw_p32 : lw_okq (⟨"TightDeskModel", "edgeFrom", "(I)I"⟩, 35) := ⟨⟨by decide +kernel, by decide +kernel⟩, List.mem_of_getElem? (i := 573) (by decide +kernel), List.mem_of_getElem? (i := 737) (by decide +kernel), List.mem_of_getElem? (i := 738) (by decide +kernel)⟩
theorem lw_p33 : lw_okq (⟨"TightDeskModel", "edgeTo", "(I)I"⟩, 35) := ⟨⟨by decide +kernel, by decide +kernel⟩, List.mem_of_getElem? (i := 573) (by decide +kernel), List.mem_of_getElem? (i := 741) (by decide +kernel), List.mem_of_getElem? (i := 742) (by decide +kernel)⟩
theorem lw_p34 : lw_okq (⟨"TightDeskModel", "edgeGap", "(I)I"⟩, 35) := ⟨⟨by decide +kernel, by decide +kernel⟩, List.mem_of_getElem? (i := 573) (by decide +kernel), List.mem_of_getElem? (i := 745) (by decide +kernel), List.mem_of_getElem? (i := 746) (by decide +kernel)⟩
theorem lw_p35 : lw_okq (⟨"TightDeskModel", "goes", "(IIIIII)Z"⟩, 35) := ⟨⟨by decide +kernel, by decide +kernel⟩, List.mem_of_getElem? (i := 573) (by decide +kernel), List.mem_of_getElem? (i := 749) (by decide +kernel), List.mem_of_getElem? (i := 750) (by decide +kernel)⟩
theorem lw_p36 : lw_okq (⟨"TightDeskModel", "longest", "()I"⟩, 35) := ⟨⟨by decide +kernel, by decide +kernel⟩, List.mem_of_getElem? (i := 573) (by decide +kernel), List.mem_of_getElem? (i := 753) (by decide +kernel), List.mem_of_getElem? (i := 754) (by decide +kernel)⟩
theorem lw_p37 : lw_okq (⟨"TightDeskModel", "latest", "(I)V"⟩, 35) := ⟨⟨by decide +kernel, by decide +kernel⟩, List.mem_of_getElem? (i := 573) (by decide +kernel), List.mem_of_getElem? (i := 757) (by decide +kernel), List.mem_of_getElem? (i := 758) (by decide +kernel)⟩
theorem lw_p38 : lw_okq (⟨"TightDeskModel", "findChain", "(I)V"⟩, 35) := ⟨⟨by decide +kernel, by decide +kernel⟩, List.mem_of_getElem? (i := 573) (by decide +kernel), List.mem_of_getElem? (i := 761) (by decide +kernel), List.mem_of_getElem? (i := 762) (by decide +kernel)⟩
theorem lw_p39 : lw_okq (⟨"TightDeskModel", "isTight", "(II)Z"⟩, 35) := ⟨⟨by decide +kernel, by decide +kernel⟩, List.mem_of_getElem? (i := 573) (by decide +kernel), List.mem_of_getElem? (i := 765) (by decide +kernel), List.mem_of_getElem? (i := 766) (by decide +kernel)⟩
theorem lw_p40 : lw_okq (⟨"TightDeskModel", "has", "()Z"⟩, 35) := ⟨⟨by decide +kernel, by decide +kernel⟩, List.mem_of_getElem? (i := 573) (by decide +kernel), List.mem_of_getElem? (i := 773) (by decide +kernel), List.mem_of_getElem? (i := 774) (by decide +kernel)⟩
theorem lw_p41 : lw_okq (⟨"TightDeskModel", "free", "(I)I"⟩, 35) := ⟨⟨by decide +kernel, by decide +kernel⟩, List.mem_of_getElem? (i := 573) (by decide +kernel), List.mem_of_getElem? (i := 777) (by decide +kernel), List.mem_of_getElem? (i := 778) (by decide +kernel)⟩
theorem lw_p42 : lw_okq (⟨"TightDeskModel", "running", "(I)I"⟩, 35) := ⟨⟨by decide +kernel, by decide +kernel⟩, List.mem_of_getElem? (i := 573) (by decide +kernel), List.mem_of_getElem? (i := 797) (by decide +kernel), List.mem_of_getElem? (i := 798) (by decide +kernel)⟩
theorem lw_p43 : lw_okq (⟨"TightDeskModel", "runs", "(II)Z"⟩, 35) := ⟨⟨by decide +kernel, by decide +kernel⟩, List.mem_of_getElem? (i := 573) (by decide +kernel), List.mem_of_getElem? (i := 801) (by decide +kernel), List.mem_of_getElem? (i := 802) (by decide +kernel)⟩
theorem lw_p44 : lw_okq (⟨"TightDeskModel", "most", "(II)I"⟩, 35) := ⟨⟨by decide +kernel, by decide +kernel⟩, List.mem_of_getElem? (i := 573) (by decide +kernel), List.mem_of_getElem? (i := 814) (by decide +kernel), List.mem_of_getElem? (i := 815) (by decide +kernel)⟩
theorem lw_p45 : lw_okq (⟨"TightDeskModel", "grows", "(II)Z"⟩, 35) := ⟨⟨by decide +kernel, by decide +kernel⟩, List.mem_of_getElem? (i := 573) (by decide +kernel), List.mem_of_getElem? (i := 818) (by decide +kernel), List.mem_of_getElem? (i := 819) (by decide +kernel)⟩
theorem lw_p46 : lw_okq (⟨"TightDeskModel", "changes", "(II)V"⟩, 35) := ⟨⟨by decide +kernel, by decide +kernel⟩, List.mem_of_getElem? (i := 573) (by decide +kernel), List.mem_of_getElem? (i := 822) (by decide +kernel), List.mem_of_getElem? (i := 823) (by decide +kernel)⟩
theorem lw_p47 : lw_okq (⟨"TightDeskModel", "checkStarts", "()I"⟩, 35) := ⟨⟨by decide +kernel, by decide +kernel⟩, List.mem_of_getElem? (i := 573) (by decide +kernel), List.mem_of_getElem? (i := 838) (by decide +kernel), List.mem_of_getElem? (i := 839) (by decide +kernel)⟩
def lw_privs_3 : List (MethodName × Nat) := [(⟨"TightDeskModel", "edgeFrom", "(I)I"⟩, 35), (⟨"TightDeskModel", "edgeTo", "(I)I"⟩, 35), (⟨"TightDeskModel", "edgeGap", "(I)I"⟩, 35), (⟨"TightDeskModel", "goes", "(IIIIII)Z"⟩, 35), (⟨"TightDeskModel", "longest", "()I"⟩, 35), (⟨"TightDeskModel", "latest", "(I)V"⟩, 35), (⟨"TightDeskModel", "findChain", "(I)V"⟩, 35), (⟨"TightDeskModel", "isTight", "(II)Z"⟩, 35), (⟨"TightDeskModel", "has", "()Z"⟩, 35), (⟨"TightDeskModel", "free", "(I)I"⟩, 35), (⟨"TightDeskModel", "running", "(I)I"⟩, 35), (⟨"TightDeskModel", "runs", "(II)Z"⟩, 35), (⟨"TightDeskModel", "most", "(II)I"⟩, 35), (⟨"TightDeskModel", "grows", "(II)Z"⟩, 35), (⟨"TightDeskModel", "changes", "(II)V"⟩, 35), (⟨"TightDeskModel", "checkStarts", "()I"⟩, 35)]
theorem lw_r3 : ∀ q ∈ lw_privs_3, lw_okq q := List.forall_mem_cons.mpr ⟨lw_p32, List.forall_mem_cons.mpr ⟨lw_p33, List.forall_mem_cons.mpr ⟨lw_p34, List.forall_mem_cons.mpr ⟨lw_p35, List.forall_mem_cons.mpr ⟨lw_p36, List.forall_mem_cons.mpr ⟨lw_p37, List.forall_mem_cons.mpr ⟨lw_p38, List.forall_mem_cons.mpr ⟨lw_p39, List.forall_mem_cons.mpr ⟨lw_p40, List.forall_mem_cons.mpr ⟨lw_p41, List.forall_mem_cons.mpr ⟨lw_p42, List.forall_mem_cons.mpr ⟨lw_p43, List.forall_mem_cons.mpr ⟨lw_p44, List.forall_mem_cons.mpr ⟨lw_p45, List.forall_mem_cons.mpr ⟨lw_p46, List.forall_mem_cons.mpr ⟨lw_p47, fun _ h => absurd h List.not_mem_nil⟩⟩⟩⟩⟩⟩⟩⟩⟩⟩⟩⟩⟩⟩⟩⟩
theorem lw_p48 : lw_okq (⟨"TightDeskModel", "checkCircle", "()I"⟩, 35) := ⟨⟨by decide +kernel, by decide +kernel⟩, List.mem_of_getElem? (i := 573) (by decide +kernel), List.mem_of_getElem? (i := 842) (by decide +kernel), List.mem_of_getElem? (i := 843) (by decide +kernel)⟩
theorem lw_p49 : lw_okq (⟨"TightDeskModel", "checkMatch", "()I"⟩, 35) := ⟨⟨by decide +kernel, by decide +kernel⟩, List.mem_of_getElem? (i := 573) (by decide +kernel), List.mem_of_getElem? (i := 846) (by decide +kernel), List.mem_of_getElem? (i := 847) (by decide +kernel)⟩
def lw_privs_4 : List (MethodName × Nat) := [(⟨"TightDeskModel", "checkCircle", "()I"⟩, 35), (⟨"TightDeskModel", "checkMatch", "()I"⟩, 35)]
theorem lw_r4 : ∀ q ∈ lw_privs_4, lw_okq q := List.forall_mem_cons.mpr ⟨lw_p48, List.forall_mem_cons.mpr ⟨lw_p49, fun _ h => absurd h List.not_mem_nil⟩⟩
def lw_privs : List (MethodName × Nat) := lw_privs_1 ++ (lw_privs_2 ++ (lw_privs_3 ++ (lw_privs_4)))
def lw_tbl : List Cond := k2_sels lw_privs ++ tables_1
theorem lw_privs_ok : ∀ q ∈ lw_privs, lw_okq q := by
  show ∀ q ∈ lw_privs_1 ++ (lw_privs_2 ++ (lw_privs_3 ++ (lw_privs_4))), lw_okq q
  exact List.forall_mem_append.mpr ⟨lw_r1, List.forall_mem_append.mpr ⟨lw_r2, List.forall_mem_append.mpr ⟨lw_r3, lw_r4⟩⟩⟩

/-! ===== BEGIN words of one list among another's, by their places ===== -/
theorem goodIn_r {big : List Cond} (ws : List Cond) (ps : List Nat) (hp : ws = ps.filterMap (fun i => big[i]?)) (h : ws.all goodWord = true) : GoodIn big ws := by
  intro w hw
  have h1 := List.all_eq_true.mp h w hw
  rw [hp] at hw
  obtain ⟨i, -, hi⟩ := List.mem_filterMap.mp hw
  have hm : w ∈ big := by first | exact List.mem_of_getElem? hi | exact List.getElem?_mem hi
  exact ⟨hm, good_of_word h1⟩
theorem goodIn_app {big a b : List Cond} (ha : GoodIn big a) (hb : GoodIn big b) : GoodIn big (a ++ b) := fun w h => (List.mem_append.mp h).elim (ha w) (hb w)
theorem goodIn_ca {big a b : List Cond} {c : Cond} (ha : GoodIn big (c :: a)) (hb : GoodIn big b) : GoodIn big (c :: (a ++ b)) := fun w h => (List.mem_cons.mp h).elim (fun e => ha w (List.mem_cons.mpr (Or.inl e))) (fun h => (List.mem_append.mp h).elim (fun h => ha w (List.mem_cons.mpr (Or.inr h))) (hb w))
theorem goodIn_sub {big ws : List Cond} (hm : ∀ w ∈ ws, w ∈ big) (h : ws.all goodWord = true) : GoodIn big ws := fun w hw => ⟨hm w hw, good_of_word (List.all_eq_true.mp h w hw)⟩
/-! ===== END ===== -/


/-! ===== BEGIN printed: names, fields, word lists, decode rows ===== -/
def RX0 : String := "TightDesk$Chain"
def TX0 : u_T := fun k => match k with
  | 0 => ("TightDesk$Chain", "network", "LTightDesk$Network;", true)
  | 1 => ("TightDesk$Chain", "times", "LTightDesk$Times;", true)
  | 2 => ("TightDesk$Chain", "tasks", "[I", true)
  | 3 => ("TightDesk$Chain", "toEnd", "[I", true)
  | _ => ("TightDesk$Chain", "size", "I", false)
def tyX0 : Nat → FieldType := fun k => match k with
  | 0 => .object "TightDesk$Network"
  | 1 => .object "TightDesk$Times"
  | 2 => .array .int
  | 3 => .array .int
  | _ => .int
abbrev wsX00 : List Cond := u_ws RX0 TX0 5
theorem nmX0 : ∀ a, a < 5 → ∀ b, b < 5 → a ≠ b → (TX0 a).2.1 ≠ (TX0 b).2.1 := by decide +kernel
theorem tyX0_ok : ∀ k, k < 5 → parseFieldDescriptor (TX0 k).2.2.1 = some (tyX0 k) := by decide +kernel
abbrev cX0_init : ByteArray := prog_2_method_1_code
def yX0_init : MethodName := ⟨RX0, "<init>", "(LTightDesk$Network;LTightDesk$Times;)V"⟩
abbrev cX0_at : ByteArray := prog_2_method_2_code
def yX0_at : MethodName := ⟨RX0, "at", "(I)I"⟩
abbrev cX0_find : ByteArray := prog_2_method_3_code
def yX0_find : MethodName := ⟨RX0, "find", "()V"⟩
abbrev cX0_measure : ByteArray := prog_2_method_4_code
def yX0_measure : MethodName := ⟨RX0, "measure", "()V"⟩
abbrev cX0_shortenOnce : ByteArray := prog_2_method_5_code
def yX0_shortenOnce : MethodName := ⟨RX0, "shortenOnce", "()Z"⟩
abbrev cX0_firstTask : ByteArray := prog_2_method_6_code
def yX0_firstTask : MethodName := ⟨RX0, "firstTask", "()I"⟩
abbrev cX0_nextTask : ByteArray := prog_2_method_7_code
def yX0_nextTask : MethodName := ⟨RX0, "nextTask", "(I)I"⟩
abbrev cX0_isTight : ByteArray := prog_2_method_8_code
def yX0_isTight : MethodName := ⟨RX0, "isTight", "(I)Z"⟩
def RX1 : String := "TightDesk$Circle"
def TX1 : u_T := fun k => match k with
  | 0 => ("TightDesk$Circle", "network", "LTightDesk$Network;", true)
  | 1 => ("TightDesk$Circle", "numbers", "[I", true)
  | 2 => ("TightDesk$Circle", "size", "I", false)
  | 3 => ("TightDesk$Circle", "edges", "I", false)
  | 4 => ("TightDesk$Circle", "number", "[I", true)
  | 5 => ("TightDesk$Circle", "from", "[I", true)
  | 6 => ("TightDesk$Circle", "to", "[I", true)
  | 7 => ("TightDesk$Circle", "gap", "[I", true)
  | 8 => ("TightDesk$Circle", "goal", "I", false)
  | 9 => ("TightDesk$Circle", "fewest", "I", false)
  | _ => ("TightDesk$Circle", "most", "[[I", true)
def tyX1 : Nat → FieldType := fun k => match k with
  | 0 => .object "TightDesk$Network"
  | 1 => .array .int
  | 2 => .int
  | 3 => .int
  | 4 => .array .int
  | 5 => .array .int
  | 6 => .array .int
  | 7 => .array .int
  | 8 => .int
  | 9 => .int
  | _ => .array (.array .int)
abbrev wsX10 : List Cond := u_ws RX1 TX1 11
theorem nmX1 : ∀ a, a < 11 → ∀ b, b < 11 → a ≠ b → (TX1 a).2.1 ≠ (TX1 b).2.1 := by decide +kernel
theorem tyX1_ok : ∀ k, k < 11 → parseFieldDescriptor (TX1 k).2.2.1 = some (tyX1 k) := by decide +kernel
abbrev cX1_init : ByteArray := prog_3_method_1_code
def yX1_init : MethodName := ⟨RX1, "<init>", "(LTightDesk$Network;)V"⟩
abbrev cX1_at : ByteArray := prog_3_method_2_code
def yX1_at : MethodName := ⟨RX1, "at", "(I)I"⟩
abbrev cX1_stands : ByteArray := prog_3_method_3_code
def yX1_stands : MethodName := ⟨RX1, "stands", "()Z"⟩
abbrev cX1_find : ByteArray := prog_3_method_4_code
def yX1_find : MethodName := ⟨RX1, "find", "()V"⟩
abbrev cX1_findGoal : ByteArray := prog_3_method_5_code
def yX1_findGoal : MethodName := ⟨RX1, "findGoal", "(I)V"⟩
abbrev cX1_gatherEdges : ByteArray := prog_3_method_6_code
def yX1_gatherEdges : MethodName := ⟨RX1, "gatherEdges", "()V"⟩
abbrev cX1_addEdge : ByteArray := prog_3_method_7_code
def yX1_addEdge : MethodName := ⟨RX1, "addEdge", "(IIII)V"⟩
abbrev cX1_measure : ByteArray := prog_3_method_8_code
def yX1_measure : MethodName := ⟨RX1, "measure", "(II)I"⟩
abbrev cX1_addStep : ByteArray := prog_3_method_9_code
def yX1_addStep : MethodName := ⟨RX1, "addStep", "([I[I)V"⟩
abbrev cX1_leastEdge : ByteArray := prog_3_method_10_code
def yX1_leastEdge : MethodName := ⟨RX1, "leastEdge", "(III)I"⟩
abbrev cX1_trace : ByteArray := prog_3_method_11_code
def yX1_trace : MethodName := ⟨RX1, "trace", "()V"⟩
def RX2 : String := "TightDesk$Crew"
def TX2 : u_T := fun k => match k with
  | 0 => ("TightDesk$Crew", "workers", "I", false)
  | 1 => ("TightDesk$Crew", "skillsTold", "I", false)
  | _ => ("TightDesk$Crew", "skills", "[I", true)
def tyX2 : Nat → FieldType := fun k => match k with
  | 0 => .int
  | 1 => .int
  | _ => .array .int
abbrev wsX20 : List Cond := u_ws RX2 TX2 3
theorem nmX2 : ∀ a, a < 3 → ∀ b, b < 3 → a ≠ b → (TX2 a).2.1 ≠ (TX2 b).2.1 := by decide +kernel
theorem tyX2_ok : ∀ k, k < 3 → parseFieldDescriptor (TX2 k).2.2.1 = some (tyX2 k) := by decide +kernel
abbrev cX2_init : ByteArray := prog_4_method_1_code
def yX2_init : MethodName := ⟨RX2, "<init>", "()V"⟩
abbrev cX2_hasWorker : ByteArray := prog_4_method_2_code
def yX2_hasWorker : MethodName := ⟨RX2, "hasWorker", "(I)Z"⟩
abbrev cX2_addWorker : ByteArray := prog_4_method_3_code
def yX2_addWorker : MethodName := ⟨RX2, "addWorker", "()I"⟩
abbrev cX2_addSkill : ByteArray := prog_4_method_4_code
def yX2_addSkill : MethodName := ⟨RX2, "addSkill", "(II)Z"⟩
def RX3 : String := "TightDesk$Match"
def TX3 : u_T := fun k => match k with
  | 0 => ("TightDesk$Match", "kept", "Z", false)
  | 1 => ("TightDesk$Match", "fresh", "Z", false)
  | 2 => ("TightDesk$Match", "time", "I", false)
  | 3 => ("TightDesk$Match", "running", "I", false)
  | 4 => ("TightDesk$Match", "coverTasks", "I", false)
  | 5 => ("TightDesk$Match", "coverWorkers", "I", false)
  | 6 => ("TightDesk$Match", "workerOfTask", "[I", true)
  | 7 => ("TightDesk$Match", "taskOfWorker", "[I", true)
  | 8 => ("TightDesk$Match", "skills", "[I", true)
  | 9 => ("TightDesk$Match", "queued", "I", false)
  | 10 => ("TightDesk$Match", "seen", "I", false)
  | 11 => ("TightDesk$Match", "queue", "[I", true)
  | _ => ("TightDesk$Match", "finder", "[I", true)
def tyX3 : Nat → FieldType := fun k => match k with
  | 0 => .boolean
  | 1 => .boolean
  | 2 => .int
  | 3 => .int
  | 4 => .int
  | 5 => .int
  | 6 => .array .int
  | 7 => .array .int
  | 8 => .array .int
  | 9 => .int
  | 10 => .int
  | 11 => .array .int
  | _ => .array .int
abbrev wsX30 : List Cond := u_ws RX3 TX3 13
theorem nmX3 : ∀ a, a < 13 → ∀ b, b < 13 → a ≠ b → (TX3 a).2.1 ≠ (TX3 b).2.1 := by decide +kernel
theorem tyX3_ok : ∀ k, k < 13 → parseFieldDescriptor (TX3 k).2.2.1 = some (tyX3 k) := by decide +kernel
abbrev cX3_init : ByteArray := prog_5_method_1_code
def yX3_init : MethodName := ⟨RX3, "<init>", "([I)V"⟩
abbrev cX3_find : ByteArray := prog_5_method_2_code
def yX3_find : MethodName := ⟨RX3, "find", "(II)I"⟩
abbrev cX3_holds : ByteArray := prog_5_method_3_code
def yX3_holds : MethodName := ⟨RX3, "holds", "(I)Z"⟩
abbrev cX3_coverSize : ByteArray := prog_5_method_4_code
def yX3_coverSize : MethodName := ⟨RX3, "coverSize", "()I"⟩
abbrev cX3_keepCover : ByteArray := prog_5_method_5_code
def yX3_keepCover : MethodName := ⟨RX3, "keepCover", "()V"⟩
abbrev cX3_widen : ByteArray := prog_5_method_6_code
def yX3_widen : MethodName := ⟨RX3, "widen", "(I)Z"⟩
abbrev cX3_seeWorkersOf : ByteArray := prog_5_method_7_code
def yX3_seeWorkersOf : MethodName := ⟨RX3, "seeWorkersOf", "(II)I"⟩
abbrev cX3_enqueue : ByteArray := prog_5_method_8_code
def yX3_enqueue : MethodName := ⟨RX3, "enqueue", "(I)V"⟩
abbrev cX3_passWorkersOn : ByteArray := prog_5_method_9_code
def yX3_passWorkersOn : MethodName := ⟨RX3, "passWorkersOn", "(I)V"⟩
abbrev cX3_pair : ByteArray := prog_5_method_10_code
def yX3_pair : MethodName := ⟨RX3, "pair", "(II)V"⟩
abbrev cX3_takeLeast : ByteArray := prog_5_method_11_code
def yX3_takeLeast : MethodName := ⟨RX3, "takeLeast", "(II)I"⟩
abbrev cX3_take : ByteArray := prog_5_method_12_code
def yX3_take : MethodName := ⟨RX3, "take", "(III)Z"⟩
def RX4 : String := "TightDesk$Network"
def TX4 : u_T := fun k => match k with
  | 0 => ("TightDesk$Network", "tasks", "I", false)
  | 1 => ("TightDesk$Network", "constraints", "I", false)
  | 2 => ("TightDesk$Network", "drops", "I", false)
  | 3 => ("TightDesk$Network", "duration", "[I", true)
  | 4 => ("TightDesk$Network", "from", "[I", true)
  | 5 => ("TightDesk$Network", "to", "[I", true)
  | 6 => ("TightDesk$Network", "gap", "[I", true)
  | _ => ("TightDesk$Network", "dropped", "[Z", true)
def tyX4 : Nat → FieldType := fun k => match k with
  | 0 => .int
  | 1 => .int
  | 2 => .int
  | 3 => .array .int
  | 4 => .array .int
  | 5 => .array .int
  | 6 => .array .int
  | _ => .array .boolean
abbrev wsX40 : List Cond := u_ws RX4 TX4 8
theorem nmX4 : ∀ a, a < 8 → ∀ b, b < 8 → a ≠ b → (TX4 a).2.1 ≠ (TX4 b).2.1 := by decide +kernel
theorem tyX4_ok : ∀ k, k < 8 → parseFieldDescriptor (TX4 k).2.2.1 = some (tyX4 k) := by decide +kernel
abbrev cX4_init : ByteArray := prog_6_method_1_code
def yX4_init : MethodName := ⟨RX4, "<init>", "()V"⟩
abbrev cX4_hasTask : ByteArray := prog_6_method_2_code
def yX4_hasTask : MethodName := ⟨RX4, "hasTask", "(I)Z"⟩
abbrev cX4_addTask : ByteArray := prog_6_method_3_code
def yX4_addTask : MethodName := ⟨RX4, "addTask", "(I)I"⟩
abbrev cX4_addConstraint : ByteArray := prog_6_method_4_code
def yX4_addConstraint : MethodName := ⟨RX4, "addConstraint", "(III)I"⟩
abbrev cX4_dropConstraint : ByteArray := prog_6_method_5_code
def yX4_dropConstraint : MethodName := ⟨RX4, "dropConstraint", "(I)Z"⟩
abbrev cX4_raiseAll : ByteArray := prog_6_method_6_code
def yX4_raiseAll : MethodName := ⟨RX4, "raiseAll", "([I)Z"⟩
abbrev cX4_raiseOnce : ByteArray := prog_6_method_7_code
def yX4_raiseOnce : MethodName := ⟨RX4, "raiseOnce", "([I)Z"⟩
abbrev cX4_lowerAll : ByteArray := prog_6_method_8_code
def yX4_lowerAll : MethodName := ⟨RX4, "lowerAll", "([I)V"⟩
abbrev cX4_lowerOnce : ByteArray := prog_6_method_9_code
def yX4_lowerOnce : MethodName := ⟨RX4, "lowerOnce", "([I)Z"⟩
abbrev cX4_hasEnd : ByteArray := prog_6_method_10_code
def yX4_hasEnd : MethodName := ⟨RX4, "hasEnd", "(I)Z"⟩
abbrev cX4_placeOf : ByteArray := prog_6_method_11_code
def yX4_placeOf : MethodName := ⟨RX4, "placeOf", "(I)I"⟩
def RX5 : String := "TightDesk$Times"
def TX5 : u_T := fun k => match k with
  | 0 => ("TightDesk$Times", "network", "LTightDesk$Network;", true)
  | 1 => ("TightDesk$Times", "tasks", "I", false)
  | 2 => ("TightDesk$Times", "projectLength", "I", false)
  | 3 => ("TightDesk$Times", "earliest", "[I", true)
  | _ => ("TightDesk$Times", "latest", "[I", true)
def tyX5 : Nat → FieldType := fun k => match k with
  | 0 => .object "TightDesk$Network"
  | 1 => .int
  | 2 => .int
  | 3 => .array .int
  | _ => .array .int
abbrev wsX50 : List Cond := u_ws RX5 TX5 5
theorem nmX5 : ∀ a, a < 5 → ∀ b, b < 5 → a ≠ b → (TX5 a).2.1 ≠ (TX5 b).2.1 := by decide +kernel
theorem tyX5_ok : ∀ k, k < 5 → parseFieldDescriptor (TX5 k).2.2.1 = some (tyX5 k) := by decide +kernel
abbrev cX5_init : ByteArray := prog_7_method_1_code
def yX5_init : MethodName := ⟨RX5, "<init>", "(LTightDesk$Network;)V"⟩
abbrev cX5_find : ByteArray := prog_7_method_2_code
def yX5_find : MethodName := ⟨RX5, "find", "()Z"⟩
abbrev cX5_findDelayed : ByteArray := prog_7_method_3_code
def yX5_findDelayed : MethodName := ⟨RX5, "findDelayed", "(LTightDesk$Times;II)Z"⟩
abbrev cX5_findFromEarliest : ByteArray := prog_7_method_4_code
def yX5_findFromEarliest : MethodName := ⟨RX5, "findFromEarliest", "()Z"⟩
abbrev cX5_sameAs : ByteArray := prog_7_method_5_code
def yX5_sameAs : MethodName := ⟨RX5, "sameAs", "(LTightDesk$Times;)Z"⟩
abbrev cX5_freeOf : ByteArray := prog_7_method_6_code
def yX5_freeOf : MethodName := ⟨RX5, "freeOf", "(I)I"⟩
abbrev cX5_runningAt : ByteArray := prog_7_method_7_code
def yX5_runningAt : MethodName := ⟨RX5, "runningAt", "(I)I"⟩
abbrev cX5_peakTime : ByteArray := prog_7_method_8_code
def yX5_peakTime : MethodName := ⟨RX5, "peakTime", "()I"⟩
def RX6 : String := "TightDesk"
def TX6 : u_T := fun k => match k with
  | 0 => ("TightDesk", "network", "LTightDesk$Network;", true)
  | 1 => ("TightDesk", "crew", "LTightDesk$Crew;", true)
  | 2 => ("TightDesk", "times", "LTightDesk$Times;", true)
  | 3 => ("TightDesk", "present", "LTightDesk$Times;", true)
  | 4 => ("TightDesk", "chain", "LTightDesk$Chain;", true)
  | 5 => ("TightDesk", "circle", "LTightDesk$Circle;", true)
  | 6 => ("TightDesk", "match", "LTightDesk$Match;", true)
  | 7 => ("TightDesk", "outcome", "I", false)
  | _ => ("TightDesk", "planFresh", "Z", false)
def tyX6 : Nat → FieldType := fun k => match k with
  | 0 => .object "TightDesk$Network"
  | 1 => .object "TightDesk$Crew"
  | 2 => .object "TightDesk$Times"
  | 3 => .object "TightDesk$Times"
  | 4 => .object "TightDesk$Chain"
  | 5 => .object "TightDesk$Circle"
  | 6 => .object "TightDesk$Match"
  | 7 => .int
  | _ => .boolean
abbrev wsX60 : List Cond := u_ws RX6 TX6 9
theorem nmX6 : ∀ a, a < 9 → ∀ b, b < 9 → a ≠ b → (TX6 a).2.1 ≠ (TX6 b).2.1 := by decide +kernel
theorem tyX6_ok : ∀ k, k < 9 → parseFieldDescriptor (TX6 k).2.2.1 = some (tyX6 k) := by decide +kernel
abbrev cX6_init : ByteArray := prog_1_method_1_code
def yX6_init : MethodName := ⟨RX6, "<init>", "()V"⟩
abbrev cX6_task : ByteArray := prog_1_method_2_code
def yX6_task : MethodName := ⟨RX6, "task", "(I)I"⟩
abbrev cX6_constrain : ByteArray := prog_1_method_3_code
def yX6_constrain : MethodName := ⟨RX6, "constrain", "(III)I"⟩
abbrev cX6_drop : ByteArray := prog_1_method_4_code
def yX6_drop : MethodName := ⟨RX6, "drop", "(I)Z"⟩
abbrev cX6_worker : ByteArray := prog_1_method_5_code
def yX6_worker : MethodName := ⟨RX6, "worker", "()I"⟩
abbrev cX6_skill : ByteArray := prog_1_method_6_code
def yX6_skill : MethodName := ⟨RX6, "skill", "(II)Z"⟩
abbrev cX6_solve : ByteArray := prog_1_method_7_code
def yX6_solve : MethodName := ⟨RX6, "solve", "()I"⟩
abbrev cX6_start : ByteArray := prog_1_method_8_code
def yX6_start : MethodName := ⟨RX6, "start", "(II)I"⟩
abbrev cX6_length : ByteArray := prog_1_method_9_code
def yX6_length : MethodName := ⟨RX6, "length", "()I"⟩
abbrev cX6_row : ByteArray := prog_1_method_10_code
def yX6_row : MethodName := ⟨RX6, "row", "(II)I"⟩
abbrev cX6_delay : ByteArray := prog_1_method_11_code
def yX6_delay : MethodName := ⟨RX6, "delay", "(II)I"⟩
abbrev cX6_busy : ByteArray := prog_1_method_12_code
def yX6_busy : MethodName := ⟨RX6, "busy", "(I)I"⟩
abbrev cX6_peak : ByteArray := prog_1_method_13_code
def yX6_peak : MethodName := ⟨RX6, "peak", "(I)I"⟩
abbrev cX6_assign : ByteArray := prog_1_method_14_code
def yX6_assign : MethodName := ⟨RX6, "assign", "(I)I"⟩
abbrev cX6_workerOf : ByteArray := prog_1_method_15_code
def yX6_workerOf : MethodName := ⟨RX6, "workerOf", "(I)I"⟩
abbrev cX6_cover : ByteArray := prog_1_method_16_code
def yX6_cover : MethodName := ⟨RX6, "cover", "(II)I"⟩
abbrev cX6_check : ByteArray := prog_1_method_17_code
def yX6_check : MethodName := ⟨RX6, "check", "(I)I"⟩
abbrev cX6_count : ByteArray := prog_1_method_18_code
def yX6_count : MethodName := ⟨RX6, "count", "(I)I"⟩
abbrev cX6_spoilPlan : ByteArray := prog_1_method_19_code
def yX6_spoilPlan : MethodName := ⟨RX6, "spoilPlan", "()V"⟩
abbrev cX6_timesFresh : ByteArray := prog_1_method_20_code
def yX6_timesFresh : MethodName := ⟨RX6, "timesFresh", "()Z"⟩
abbrev cX6_asNumber : ByteArray := prog_1_method_21_code
def yX6_asNumber : MethodName := ⟨RX6, "asNumber", "(Z)I"⟩
abbrev cX6_holdsBit : ByteArray := prog_1_method_22_code
def yX6_holdsBit : MethodName := ⟨RX6, "holdsBit", "(II)Z"⟩
def RX7 : String := "TightDeskModel"
def TX7 : u_T := fun k => match k with
  | 0 => ("TightDeskModel", "tasks", "I", false)
  | 1 => ("TightDeskModel", "gaps", "I", false)
  | 2 => ("TightDeskModel", "workers", "I", false)
  | 3 => ("TightDeskModel", "dropped", "I", false)
  | 4 => ("TightDeskModel", "duration", "[I", true)
  | 5 => ("TightDeskModel", "from", "[I", true)
  | 6 => ("TightDeskModel", "to", "[I", true)
  | 7 => ("TightDeskModel", "gap", "[I", true)
  | 8 => ("TightDeskModel", "isDropped", "[Z", true)
  | 9 => ("TightDeskModel", "skills", "[I", true)
  | 10 => ("TightDeskModel", "skillMany", "I", false)
  | 11 => ("TightDeskModel", "soon", "[I", true)
  | 12 => ("TightDeskModel", "late", "[I", true)
  | 13 => ("TightDeskModel", "sums", "[I", true)
  | 14 => ("TightDeskModel", "circle", "[I", true)
  | 15 => ("TightDeskModel", "circleMany", "I", false)
  | 16 => ("TightDeskModel", "chain", "[I", true)
  | 17 => ("TightDeskModel", "chainMany", "I", false)
  | 18 => ("TightDeskModel", "wants", "[I", true)
  | 19 => ("TightDeskModel", "solved", "I", false)
  | 20 => ("TightDeskModel", "isStale", "Z", false)
  | 21 => ("TightDeskModel", "keptSoon", "[I", true)
  | 22 => ("TightDeskModel", "keptLate", "[I", true)
  | 23 => ("TightDeskModel", "keptLength", "I", false)
  | 24 => ("TightDeskModel", "keptTasks", "I", false)
  | 25 => ("TightDeskModel", "isMatch", "Z", false)
  | 26 => ("TightDeskModel", "isMatchStale", "Z", false)
  | 27 => ("TightDeskModel", "matchTime", "I", false)
  | 28 => ("TightDeskModel", "ran", "I", false)
  | 29 => ("TightDeskModel", "coverTasks", "I", false)
  | 30 => ("TightDeskModel", "coverWorkers", "I", false)
  | 31 => ("TightDeskModel", "gets", "[I", true)
  | 32 => ("TightDeskModel", "whose", "[I", true)
  | 33 => ("TightDeskModel", "back", "[I", true)
  | _ => ("TightDeskModel", "waits", "[I", true)
def tyX7 : Nat → FieldType := fun k => match k with
  | 0 => .int
  | 1 => .int
  | 2 => .int
  | 3 => .int
  | 4 => .array .int
  | 5 => .array .int
  | 6 => .array .int
  | 7 => .array .int
  | 8 => .array .boolean
  | 9 => .array .int
  | 10 => .int
  | 11 => .array .int
  | 12 => .array .int
  | 13 => .array .int
  | 14 => .array .int
  | 15 => .int
  | 16 => .array .int
  | 17 => .int
  | 18 => .array .int
  | 19 => .int
  | 20 => .boolean
  | 21 => .array .int
  | 22 => .array .int
  | 23 => .int
  | 24 => .int
  | 25 => .boolean
  | 26 => .boolean
  | 27 => .int
  | 28 => .int
  | 29 => .int
  | 30 => .int
  | 31 => .array .int
  | 32 => .array .int
  | 33 => .array .int
  | _ => .array .int
abbrev wsX70 : List Cond := u_ws RX7 TX7 35
theorem nmX7 : ∀ a, a < 35 → ∀ b, b < 35 → a ≠ b → (TX7 a).2.1 ≠ (TX7 b).2.1 := by decide +kernel
theorem tyX7_ok : ∀ k, k < 35 → parseFieldDescriptor (TX7 k).2.2.1 = some (tyX7 k) := by decide +kernel
abbrev cX7_init : ByteArray := prog_9_method_1_code
def yX7_init : MethodName := ⟨RX7, "<init>", "()V"⟩
abbrev cX7_in : ByteArray := prog_9_method_2_code
def yX7_in : MethodName := ⟨RX7, "in", "(III)Z"⟩
abbrev cX7_task : ByteArray := prog_9_method_3_code
def yX7_task : MethodName := ⟨RX7, "task", "(I)I"⟩
abbrev cX7_constrain : ByteArray := prog_9_method_4_code
def yX7_constrain : MethodName := ⟨RX7, "constrain", "(III)I"⟩
abbrev cX7_drop : ByteArray := prog_9_method_5_code
def yX7_drop : MethodName := ⟨RX7, "drop", "(I)Z"⟩
abbrev cX7_worker : ByteArray := prog_9_method_6_code
def yX7_worker : MethodName := ⟨RX7, "worker", "()I"⟩
abbrev cX7_skill : ByteArray := prog_9_method_7_code
def yX7_skill : MethodName := ⟨RX7, "skill", "(II)Z"⟩
abbrev cX7_stales : ByteArray := prog_9_method_8_code
def yX7_stales : MethodName := ⟨RX7, "stales", "()V"⟩
abbrev cX7_soonest : ByteArray := prog_9_method_9_code
def yX7_soonest : MethodName := ⟨RX7, "soonest", "(II)Z"⟩
abbrev cX7_longest : ByteArray := prog_9_method_10_code
def yX7_longest : MethodName := ⟨RX7, "longest", "()I"⟩
abbrev cX7_latest : ByteArray := prog_9_method_11_code
def yX7_latest : MethodName := ⟨RX7, "latest", "(I)V"⟩
abbrev cX7_edges : ByteArray := prog_9_method_12_code
def yX7_edges : MethodName := ⟨RX7, "edges", "()I"⟩
abbrev cX7_edgeFrom : ByteArray := prog_9_method_13_code
def yX7_edgeFrom : MethodName := ⟨RX7, "edgeFrom", "(I)I"⟩
abbrev cX7_edgeTo : ByteArray := prog_9_method_14_code
def yX7_edgeTo : MethodName := ⟨RX7, "edgeTo", "(I)I"⟩
abbrev cX7_edgeGap : ByteArray := prog_9_method_15_code
def yX7_edgeGap : MethodName := ⟨RX7, "edgeGap", "(I)I"⟩
abbrev cX7_isEdge : ByteArray := prog_9_method_16_code
def yX7_isEdge : MethodName := ⟨RX7, "isEdge", "(I)Z"⟩
abbrev cX7_nextSums : ByteArray := prog_9_method_17_code
def yX7_nextSums : MethodName := ⟨RX7, "nextSums", "(I)V"⟩
abbrev cX7_findCircle : ByteArray := prog_9_method_18_code
def yX7_findCircle : MethodName := ⟨RX7, "findCircle", "()V"⟩
abbrev cX7_goes : ByteArray := prog_9_method_19_code
def yX7_goes : MethodName := ⟨RX7, "goes", "(IIIIII)Z"⟩
abbrev cX7_isTight : ByteArray := prog_9_method_20_code
def yX7_isTight : MethodName := ⟨RX7, "isTight", "(II)Z"⟩
abbrev cX7_findChain : ByteArray := prog_9_method_21_code
def yX7_findChain : MethodName := ⟨RX7, "findChain", "(I)V"⟩
abbrev cX7_solve : ByteArray := prog_9_method_22_code
def yX7_solve : MethodName := ⟨RX7, "solve", "()I"⟩
abbrev cX7_has : ByteArray := prog_9_method_23_code
def yX7_has : MethodName := ⟨RX7, "has", "()Z"⟩
abbrev cX7_free : ByteArray := prog_9_method_24_code
def yX7_free : MethodName := ⟨RX7, "free", "(I)I"⟩
abbrev cX7_start : ByteArray := prog_9_method_25_code
def yX7_start : MethodName := ⟨RX7, "start", "(II)I"⟩
abbrev cX7_length : ByteArray := prog_9_method_26_code
def yX7_length : MethodName := ⟨RX7, "length", "()I"⟩
abbrev cX7_row : ByteArray := prog_9_method_27_code
def yX7_row : MethodName := ⟨RX7, "row", "(II)I"⟩
abbrev cX7_delay : ByteArray := prog_9_method_28_code
def yX7_delay : MethodName := ⟨RX7, "delay", "(II)I"⟩
abbrev cX7_runs : ByteArray := prog_9_method_29_code
def yX7_runs : MethodName := ⟨RX7, "runs", "(II)Z"⟩
abbrev cX7_running : ByteArray := prog_9_method_30_code
def yX7_running : MethodName := ⟨RX7, "running", "(I)I"⟩
abbrev cX7_busy : ByteArray := prog_9_method_31_code
def yX7_busy : MethodName := ⟨RX7, "busy", "(I)I"⟩
abbrev cX7_peak : ByteArray := prog_9_method_32_code
def yX7_peak : MethodName := ⟨RX7, "peak", "(I)I"⟩
abbrev cX7_most : ByteArray := prog_9_method_33_code
def yX7_most : MethodName := ⟨RX7, "most", "(II)I"⟩
abbrev cX7_grows : ByteArray := prog_9_method_34_code
def yX7_grows : MethodName := ⟨RX7, "grows", "(II)Z"⟩
abbrev cX7_changes : ByteArray := prog_9_method_35_code
def yX7_changes : MethodName := ⟨RX7, "changes", "(II)V"⟩
abbrev cX7_assign : ByteArray := prog_9_method_36_code
def yX7_assign : MethodName := ⟨RX7, "assign", "(I)I"⟩
abbrev cX7_workerOf : ByteArray := prog_9_method_37_code
def yX7_workerOf : MethodName := ⟨RX7, "workerOf", "(I)I"⟩
abbrev cX7_cover : ByteArray := prog_9_method_38_code
def yX7_cover : MethodName := ⟨RX7, "cover", "(II)I"⟩
abbrev cX7_checkStarts : ByteArray := prog_9_method_39_code
def yX7_checkStarts : MethodName := ⟨RX7, "checkStarts", "()I"⟩
abbrev cX7_checkCircle : ByteArray := prog_9_method_40_code
def yX7_checkCircle : MethodName := ⟨RX7, "checkCircle", "()I"⟩
abbrev cX7_checkMatch : ByteArray := prog_9_method_41_code
def yX7_checkMatch : MethodName := ⟨RX7, "checkMatch", "()I"⟩
abbrev cX7_check : ByteArray := prog_9_method_42_code
def yX7_check : MethodName := ⟨RX7, "check", "(I)I"⟩
abbrev cX7_bits : ByteArray := prog_9_method_43_code
def yX7_bits : MethodName := ⟨RX7, "bits", "(I)I"⟩
abbrev cX7_count : ByteArray := prog_9_method_44_code
def yX7_count : MethodName := ⟨RX7, "count", "(I)I"⟩
def RJ6 : String := "java/lang/Integer"
def TJ6 : u_T := fun k => match k with
  | _ => ("", "", "", false)
def tyJ6 : Nat → FieldType := fun k => match k with
  | _ => .int
abbrev wsJ60 : List Cond := u_ws RJ6 TJ6 0
theorem nmJ6 : ∀ a, a < 0 → ∀ b, b < 0 → a ≠ b → (TJ6 a).2.1 ≠ (TJ6 b).2.1 := by decide +kernel
theorem tyJ6_ok : ∀ k, k < 0 → parseFieldDescriptor (TJ6 k).2.2.1 = some (tyJ6 k) := by decide +kernel
abbrev cJ6_bitCount_0f7a4 : ByteArray := prog_10_method_49_code
def yJ6_bitCount_0f7a4 : MethodName := ⟨RJ6, "bitCount", "(I)I"⟩
def RJ9 : String := "java/lang/Math"
def TJ9 : u_T := fun k => match k with
  | _ => ("", "", "", false)
def tyJ9 : Nat → FieldType := fun k => match k with
  | _ => .int
abbrev wsJ90 : List Cond := u_ws RJ9 TJ9 0
theorem nmJ9 : ∀ a, a < 0 → ∀ b, b < 0 → a ≠ b → (TJ9 a).2.1 ≠ (TJ9 b).2.1 := by decide +kernel
theorem tyJ9_ok : ∀ k, k < 0 → parseFieldDescriptor (TJ9 k).2.2.1 = some (tyJ9 k) := by decide +kernel
abbrev cJ9_max_7cf53 : ByteArray := prog_11_method_65_code
def yJ9_max_7cf53 : MethodName := ⟨RJ9, "max", "(II)I"⟩
abbrev cJ9_min_7cf53 : ByteArray := prog_11_method_69_code
def yJ9_min_7cf53 : MethodName := ⟨RJ9, "min", "(II)I"⟩
def RJ10 : String := "java/lang/System"
def TJ10 : u_T := fun k => match k with
  | _ => ("", "", "", false)
def tyJ10 : Nat → FieldType := fun k => match k with
  | _ => .int
abbrev wsJ100 : List Cond := u_ws RJ10 TJ10 0
theorem nmJ10 : ∀ a, a < 0 → ∀ b, b < 0 → a ≠ b → (TJ10 a).2.1 ≠ (TJ10 b).2.1 := by decide +kernel
theorem tyJ10_ok : ∀ k, k < 0 → parseFieldDescriptor (TJ10 k).2.2.1 = some (tyJ10 k) := by decide +kernel
def RJ7 : String := "java/util/Arrays"
def TJ7 : u_T := fun k => match k with
  | _ => ("", "", "", false)
def tyJ7 : Nat → FieldType := fun k => match k with
  | _ => .int
abbrev wsJ70 : List Cond := u_ws RJ7 TJ7 0
theorem nmJ7 : ∀ a, a < 0 → ∀ b, b < 0 → a ≠ b → (TJ7 a).2.1 ≠ (TJ7 b).2.1 := by decide +kernel
theorem tyJ7_ok : ∀ k, k < 0 → parseFieldDescriptor (TJ7 k).2.2.1 = some (tyJ7 k) := by decide +kernel
abbrev cJ7_fill_53178 : ByteArray := prog_13_method_103_code
def yJ7_fill_53178 : MethodName := ⟨RJ7, "fill", "([II)V"⟩
def RL : String := "TightDeskLaw"
abbrev cL_law : ByteArray := code
def yL_law : MethodName := ⟨RL, "law", "([I)Z"⟩
def wsL_law_r1 : List Cond := [Cond.classLink RL 7 RX6, Cond.instantiable RX6 9, Cond.initialized RX6, Cond.classLink RL 10 RX7, Cond.instantiable RX7 35, Cond.initialized RX7, Cond.methodLink RL 9 yX6_init, Cond.instanceMethod yX6_init, Cond.code yX6_init cX6_init 1 none, Cond.methodLink RX6 3 objectInit, Cond.instanceMethod objectInit, Cond.code objectInit ⟨#[0xb1]⟩ 1 none, Cond.classLink RX6 9 RX4, Cond.instantiable RX4 8, Cond.initialized RX4, Cond.fieldLink RX6 12 "TightDesk" "network" "LTightDesk$Network;", Cond.classLink RX6 16 RX2, Cond.instantiable RX2 3, Cond.initialized RX2, Cond.fieldLink RX6 19 "TightDesk" "crew" "LTightDesk$Crew;", Cond.classLink RX6 23 RX5, Cond.instantiable RX5 5, Cond.initialized RX5, Cond.fieldLink RX6 28 "TightDesk" "times" "LTightDesk$Times;"]
def wsL_law_r2 : List Cond := [Cond.fieldLink RX6 32 "TightDesk" "present" "LTightDesk$Times;", Cond.classLink RX6 35 RX0, Cond.instantiable RX0 5, Cond.initialized RX0, Cond.fieldLink RX6 40 "TightDesk" "chain" "LTightDesk$Chain;", Cond.classLink RX6 44 RX1, Cond.instantiable RX1 11, Cond.initialized RX1, Cond.fieldLink RX6 47 "TightDesk" "circle" "LTightDesk$Circle;", Cond.classLink RX6 51 RX3, Cond.instantiable RX3 13, Cond.initialized RX3, Cond.fieldLink RX6 53 "TightDesk$Crew" "skills" "[I", Cond.fieldLink RX6 60 "TightDesk" "match" "LTightDesk$Match;", Cond.fieldLink RX6 64 "TightDesk" "outcome" "I", Cond.fieldLink RX6 68 "TightDesk" "planFresh" "Z", Cond.instanceMethod yX4_init, Cond.code yX4_init cX4_init 1 none, Cond.methodLink RX4 3 objectInit, Cond.arrayClass .int, Cond.fieldLink RX4 9 "TightDesk$Network" "duration" "[I", Cond.fieldLink RX4 15 "TightDesk$Network" "from" "[I", Cond.fieldLink RX4 18 "TightDesk$Network" "to" "[I", Cond.fieldLink RX4 21 "TightDesk$Network" "gap" "[I"]
def wsL_law_r3 : List Cond := [Cond.arrayClass .boolean, Cond.fieldLink RX4 24 "TightDesk$Network" "dropped" "[Z", Cond.instanceMethod yX2_init, Cond.code yX2_init cX2_init 1 none, Cond.methodLink RX2 3 objectInit, Cond.fieldLink RX2 9 "TightDesk$Crew" "skills" "[I", Cond.methodLink RX6 25 yX5_init, Cond.instanceMethod yX5_init, Cond.code yX5_init cX5_init 2 none, Cond.methodLink RX5 3 objectInit, Cond.fieldLink RX5 9 "TightDesk$Times" "earliest" "[I", Cond.fieldLink RX5 15 "TightDesk$Times" "latest" "[I", Cond.fieldLink RX5 18 "TightDesk$Times" "network" "LTightDesk$Network;", Cond.methodLink RX6 37 yX0_init, Cond.instanceMethod yX0_init, Cond.code yX0_init cX0_init 3 none, Cond.methodLink RX0 3 objectInit, Cond.fieldLink RX0 9 "TightDesk$Chain" "tasks" "[I", Cond.fieldLink RX0 15 "TightDesk$Chain" "toEnd" "[I", Cond.fieldLink RX0 18 "TightDesk$Chain" "network" "LTightDesk$Network;", Cond.fieldLink RX0 22 "TightDesk$Chain" "times" "LTightDesk$Times;", Cond.methodLink RX6 46 yX1_init, Cond.instanceMethod yX1_init, Cond.code yX1_init cX1_init 2 none]
def wsL_law_r4 : List Cond := [Cond.methodLink RX1 3 objectInit, Cond.fieldLink RX1 9 "TightDesk$Circle" "numbers" "[I", Cond.fieldLink RX1 15 "TightDesk$Circle" "number" "[I", Cond.fieldLink RX1 18 "TightDesk$Circle" "from" "[I", Cond.fieldLink RX1 21 "TightDesk$Circle" "to" "[I", Cond.fieldLink RX1 24 "TightDesk$Circle" "gap" "[I", Cond.classLink RX1 27 "[[I", Cond.fieldLink RX1 29 "TightDesk$Circle" "most" "[[I", Cond.fieldLink RX1 32 "TightDesk$Circle" "network" "LTightDesk$Network;", Cond.methodLink RX6 57 yX3_init, Cond.instanceMethod yX3_init, Cond.code yX3_init cX3_init 2 none, Cond.methodLink RX3 3 objectInit, Cond.fieldLink RX3 9 "TightDesk$Match" "workerOfTask" "[I", Cond.fieldLink RX3 15 "TightDesk$Match" "taskOfWorker" "[I", Cond.fieldLink RX3 18 "TightDesk$Match" "queue" "[I", Cond.fieldLink RX3 21 "TightDesk$Match" "finder" "[I", Cond.fieldLink RX3 24 "TightDesk$Match" "skills" "[I", Cond.methodLink RL 12 yX7_init, Cond.instanceMethod yX7_init, Cond.code yX7_init cX7_init 1 none, Cond.methodLink RX7 1 objectInit, Cond.fieldLink RX7 7 "TightDeskModel" "duration" "[I", Cond.fieldLink RX7 13 "TightDeskModel" "from" "[I"]
def wsL_law_r5 : List Cond := [Cond.fieldLink RX7 16 "TightDeskModel" "to" "[I", Cond.fieldLink RX7 19 "TightDeskModel" "gap" "[I", Cond.fieldLink RX7 22 "TightDeskModel" "isDropped" "[Z", Cond.fieldLink RX7 26 "TightDeskModel" "skills" "[I", Cond.fieldLink RX7 29 "TightDeskModel" "soon" "[I", Cond.fieldLink RX7 32 "TightDeskModel" "late" "[I", Cond.fieldLink RX7 35 "TightDeskModel" "sums" "[I", Cond.fieldLink RX7 38 "TightDeskModel" "circle" "[I", Cond.fieldLink RX7 41 "TightDeskModel" "chain" "[I", Cond.fieldLink RX7 44 "TightDeskModel" "wants" "[I", Cond.fieldLink RX7 47 "TightDeskModel" "solved" "I", Cond.fieldLink RX7 51 "TightDeskModel" "isStale" "Z", Cond.fieldLink RX7 55 "TightDeskModel" "keptSoon" "[I", Cond.fieldLink RX7 58 "TightDeskModel" "keptLate" "[I", Cond.fieldLink RX7 61 "TightDeskModel" "isMatchStale" "Z", Cond.fieldLink RX7 64 "TightDeskModel" "gets" "[I", Cond.fieldLink RX7 67 "TightDeskModel" "whose" "[I", Cond.fieldLink RX7 70 "TightDeskModel" "back" "[I", Cond.fieldLink RX7 73 "TightDeskModel" "waits" "[I", Cond.methodLink RL 13 yX6_task, Cond.instanceMethod yX6_task, Cond.selects RX6 yX6_task yX6_task, Cond.code yX6_task cX6_task 3 (some .int), Cond.methodLink RX6 72 yX4_addTask]
def wsL_law_r6 : List Cond := [Cond.instanceMethod yX4_addTask, Cond.selects RX4 yX4_addTask yX4_addTask, Cond.code yX4_addTask cX4_addTask 2 (some .int), Cond.fieldLink RX4 28 "TightDesk$Network" "tasks" "I", Cond.methodLink RX6 76 yX6_spoilPlan, Cond.instanceMethod yX6_spoilPlan, Cond.selects RX6 yX6_spoilPlan yX6_spoilPlan, Cond.code yX6_spoilPlan cX6_spoilPlan 1 none, Cond.fieldLink RX6 91 "TightDesk$Match" "fresh" "Z", Cond.methodLink RL 17 yX7_task, Cond.instanceMethod yX7_task, Cond.selects RX7 yX7_task yX7_task, Cond.code yX7_task cX7_task 2 (some .int), Cond.fieldLink RX7 76 "TightDeskModel" "tasks" "I", Cond.methodLink RX7 79 yX7_in, Cond.static yX7_in, Cond.code yX7_in cX7_in 3 (some .boolean), Cond.methodLink RX7 83 yX7_stales, Cond.instanceMethod yX7_stales, Cond.selects RX7 yX7_stales yX7_stales, Cond.code yX7_stales cX7_stales 1 none, Cond.methodLink RL 18 yX6_constrain, Cond.instanceMethod yX6_constrain, Cond.selects RX6 yX6_constrain yX6_constrain]
def wsL_law_r7 : List Cond := [Cond.code yX6_constrain cX6_constrain 5 (some .int), Cond.methodLink RX6 79 yX4_addConstraint, Cond.instanceMethod yX4_addConstraint, Cond.selects RX4 yX4_addConstraint yX4_addConstraint, Cond.code yX4_addConstraint cX4_addConstraint 5 (some .int), Cond.fieldLink RX4 36 "TightDesk$Network" "constraints" "I", Cond.methodLink RX4 32 yX4_hasEnd, Cond.instanceMethod yX4_hasEnd, Cond.selects RX4 yX4_hasEnd yX4_hasEnd, Cond.code yX4_hasEnd cX4_hasEnd 2 (some .boolean), Cond.methodLink RX4 53 yX4_hasTask, Cond.instanceMethod yX4_hasTask, Cond.selects RX4 yX4_hasTask yX4_hasTask, Cond.code yX4_hasTask cX4_hasTask 2 (some .boolean), Cond.methodLink RX4 39 yX4_placeOf, Cond.static yX4_placeOf, Cond.code yX4_placeOf cX4_placeOf 1 (some .int), Cond.methodLink RL 22 yX7_constrain, Cond.instanceMethod yX7_constrain, Cond.selects RX7 yX7_constrain yX7_constrain, Cond.code yX7_constrain cX7_constrain 4 (some .int), Cond.fieldLink RX7 86 "TightDeskModel" "gaps" "I", Cond.methodLink RL 23 yX6_drop, Cond.instanceMethod yX6_drop]
def wsL_law_r8 : List Cond := [Cond.selects RX6 yX6_drop yX6_drop, Cond.code yX6_drop cX6_drop 3 (some .boolean), Cond.methodLink RX6 83 yX4_dropConstraint, Cond.instanceMethod yX4_dropConstraint, Cond.selects RX4 yX4_dropConstraint yX4_dropConstraint, Cond.code yX4_dropConstraint cX4_dropConstraint 2 (some .boolean), Cond.fieldLink RX4 43 "TightDesk$Network" "drops" "I", Cond.methodLink RL 27 yX7_drop, Cond.instanceMethod yX7_drop, Cond.selects RX7 yX7_drop yX7_drop, Cond.code yX7_drop cX7_drop 2 (some .boolean), Cond.fieldLink RX7 89 "TightDeskModel" "dropped" "I", Cond.methodLink RL 28 yX6_worker, Cond.instanceMethod yX6_worker, Cond.selects RX6 yX6_worker yX6_worker, Cond.code yX6_worker cX6_worker 2 (some .int), Cond.methodLink RX6 87 yX2_addWorker, Cond.instanceMethod yX2_addWorker, Cond.selects RX2 yX2_addWorker yX2_addWorker, Cond.code yX2_addWorker cX2_addWorker 1 (some .int), Cond.fieldLink RX2 15 "TightDesk$Crew" "workers" "I", Cond.methodLink RL 32 yX7_worker, Cond.instanceMethod yX7_worker, Cond.selects RX7 yX7_worker yX7_worker]
def wsL_law_r9 : List Cond := [Cond.code yX7_worker cX7_worker 1 (some .int), Cond.fieldLink RX7 92 "TightDeskModel" "workers" "I", Cond.methodLink RL 33 yX6_skill, Cond.instanceMethod yX6_skill, Cond.selects RX6 yX6_skill yX6_skill, Cond.code yX6_skill cX6_skill 4 (some .boolean), Cond.methodLink RX6 94 yX4_hasTask, Cond.methodLink RX6 97 yX2_addSkill, Cond.instanceMethod yX2_addSkill, Cond.selects RX2 yX2_addSkill yX2_addSkill, Cond.code yX2_addSkill cX2_addSkill 3 (some .boolean), Cond.fieldLink RX2 27 "TightDesk$Crew" "skillsTold" "I", Cond.methodLink RX2 19 yX2_hasWorker, Cond.instanceMethod yX2_hasWorker, Cond.selects RX2 yX2_hasWorker yX2_hasWorker, Cond.code yX2_hasWorker cX2_hasWorker 2 (some .boolean), Cond.static yX6_holdsBit, Cond.code yX6_holdsBit cX6_holdsBit 2 (some .boolean), Cond.methodLink RL 37 yX7_skill, Cond.instanceMethod yX7_skill, Cond.selects RX7 yX7_skill yX7_skill, Cond.code yX7_skill cX7_skill 3 (some .boolean), Cond.fieldLink RX7 95 "TightDeskModel" "skillMany" "I", Cond.methodLink RL 38 yX6_solve]
def wsL_law_r10 : List Cond := [Cond.instanceMethod yX6_solve, Cond.selects RX6 yX6_solve yX6_solve, Cond.code yX6_solve cX6_solve 1 (some .int), Cond.fieldLink RX6 101 "TightDesk$Chain" "size" "I", Cond.fieldLink RX6 104 "TightDesk$Circle" "size" "I", Cond.methodLink RX6 105 yX5_find, Cond.instanceMethod yX5_find, Cond.selects RX5 yX5_find yX5_find, Cond.code yX5_find cX5_find 2 (some .boolean), Cond.fieldLink RX5 32 "TightDesk$Times" "tasks" "I", Cond.fieldLink RX5 36 "TightDesk$Times" "projectLength" "I", Cond.fieldLink RX5 39 "TightDesk$Network" "duration" "[I", Cond.methodLink RX5 22 yJ7_fill_53178, Cond.static yJ7_fill_53178, Cond.initialized RJ7, Cond.code yJ7_fill_53178 cJ7_fill_53178 4 none, Cond.methodLink RX5 28 yX5_findFromEarliest, Cond.instanceMethod yX5_findFromEarliest, Cond.selects RX5 yX5_findFromEarliest yX5_findFromEarliest, Cond.code yX5_findFromEarliest cX5_findFromEarliest 2 (some .boolean), Cond.fieldLink RX5 54 "TightDesk$Network" "tasks" "I", Cond.methodLink RX5 59 Lib.Math.max.name, Cond.static Lib.Math.max.name, Cond.initialized "java/lang/Math"]
def wsL_law_r11 : List Cond := [Cond.code Lib.Math.max.name Lib.Math.max.code 2 (some .int), Cond.methodLink RX5 55 yX4_raiseAll, Cond.instanceMethod yX4_raiseAll, Cond.selects RX4 yX4_raiseAll yX4_raiseAll, Cond.code yX4_raiseAll cX4_raiseAll 3 (some .boolean), Cond.methodLink RX4 46 yX4_raiseOnce, Cond.instanceMethod yX4_raiseOnce, Cond.selects RX4 yX4_raiseOnce yX4_raiseOnce, Cond.code yX4_raiseOnce cX4_raiseOnce 5 (some .boolean), Cond.methodLink RX5 44 yX4_lowerAll, Cond.instanceMethod yX4_lowerAll, Cond.selects RX4 yX4_lowerAll yX4_lowerAll, Cond.code yX4_lowerAll cX4_lowerAll 4 none, Cond.methodLink RX4 50 yX4_lowerOnce, Cond.instanceMethod yX4_lowerOnce, Cond.selects RX4 yX4_lowerOnce yX4_lowerOnce, Cond.code yX4_lowerOnce cX4_lowerOnce 5 (some .boolean), Cond.methodLink RX6 109 yX0_find, Cond.instanceMethod yX0_find, Cond.selects RX0 yX0_find yX0_find, Cond.code yX0_find cX0_find 3 none, Cond.fieldLink RX0 26 "TightDesk$Chain" "size" "I", Cond.methodLink RX0 30 yX0_measure, Cond.instanceMethod yX0_measure]
def wsL_law_r12 : List Cond := [Cond.selects RX0 yX0_measure yX0_measure, Cond.code yX0_measure cX0_measure 3 none, Cond.fieldLink RX0 41 "TightDesk$Network" "tasks" "I", Cond.fieldLink RX0 45 "TightDesk$Times" "earliest" "[I", Cond.fieldLink RX0 50 "TightDesk$Network" "duration" "[I", Cond.fieldLink RX0 53 "TightDesk$Times" "projectLength" "I", Cond.methodLink RX0 56 yX0_shortenOnce, Cond.instanceMethod yX0_shortenOnce, Cond.selects RX0 yX0_shortenOnce yX0_shortenOnce, Cond.code yX0_shortenOnce cX0_shortenOnce 3 (some .boolean), Cond.fieldLink RX0 60 "TightDesk$Network" "constraints" "I", Cond.fieldLink RX0 67 "TightDesk$Network" "from" "[I", Cond.fieldLink RX0 70 "TightDesk$Network" "to" "[I", Cond.methodLink RX0 63 yX0_isTight, Cond.instanceMethod yX0_isTight, Cond.selects RX0 yX0_isTight yX0_isTight, Cond.code yX0_isTight cX0_isTight 4 (some .boolean), Cond.fieldLink RX0 73 "TightDesk$Network" "dropped" "[Z", Cond.fieldLink RX0 77 "TightDesk$Network" "gap" "[I", Cond.methodLink RX0 33 yX0_firstTask, Cond.instanceMethod yX0_firstTask, Cond.selects RX0 yX0_firstTask yX0_firstTask, Cond.code yX0_firstTask cX0_firstTask 4 (some .int), Cond.methodLink RX0 37 yX0_nextTask]
def wsL_law_r13 : List Cond := [Cond.instanceMethod yX0_nextTask, Cond.selects RX0 yX0_nextTask yX0_nextTask, Cond.code yX0_nextTask cX0_nextTask 6 (some .int), Cond.methodLink RX6 111 yX1_find, Cond.instanceMethod yX1_find, Cond.selects RX1 yX1_find yX1_find, Cond.code yX1_find cX1_find 2 none, Cond.fieldLink RX1 49 "TightDesk$Circle" "goal" "I", Cond.methodLink RX1 52 Lib.Math.min.name, Cond.static Lib.Math.min.name, Cond.code Lib.Math.min.name Lib.Math.min.code 2 (some .int), Cond.fieldLink RX1 62 "TightDesk$Circle" "fewest" "I", Cond.methodLink RX1 46 yX1_gatherEdges, Cond.instanceMethod yX1_gatherEdges, Cond.selects RX1 yX1_gatherEdges yX1_gatherEdges, Cond.code yX1_gatherEdges cX1_gatherEdges 2 none, Cond.fieldLink RX1 71 "TightDesk$Circle" "edges" "I", Cond.fieldLink RX1 81 "TightDesk$Network" "constraints" "I", Cond.fieldLink RX1 40 "TightDesk$Network" "dropped" "[Z", Cond.fieldLink RX1 84 "TightDesk$Network" "from" "[I", Cond.fieldLink RX1 85 "TightDesk$Network" "to" "[I", Cond.fieldLink RX1 86 "TightDesk$Network" "gap" "[I", Cond.fieldLink RX1 74 "TightDesk$Network" "tasks" "I", Cond.methodLink RX1 87 yX1_addEdge]
def wsL_law_r14 : List Cond := [Cond.instanceMethod yX1_addEdge, Cond.selects RX1 yX1_addEdge yX1_addEdge, Cond.code yX1_addEdge cX1_addEdge 5 none, Cond.methodLink RX1 58 yX1_findGoal, Cond.instanceMethod yX1_findGoal, Cond.selects RX1 yX1_findGoal yX1_findGoal, Cond.code yX1_findGoal cX1_findGoal 7 none, Cond.methodLink RX1 65 yX1_measure, Cond.instanceMethod yX1_measure, Cond.selects RX1 yX1_measure yX1_measure, Cond.code yX1_measure cX1_measure 4 (some .int), Cond.constant RX1 91 (-1000000), Cond.methodLink RX1 92 yJ7_fill_53178, Cond.methodLink RX1 98 yX1_addStep, Cond.instanceMethod yX1_addStep, Cond.selects RX1 yX1_addStep yX1_addStep, Cond.code yX1_addStep cX1_addStep 4 none, Cond.methodLink RX1 102 Lib.Math.max.name, Cond.methodLink RX1 77 yX1_leastEdge, Cond.instanceMethod yX1_leastEdge, Cond.selects RX1 yX1_leastEdge yX1_leastEdge, Cond.code yX1_leastEdge cX1_leastEdge 5 (some .int), Cond.methodLink RX1 68 yX1_trace, Cond.instanceMethod yX1_trace]
def wsL_law_r15 : List Cond := [Cond.selects RX1 yX1_trace yX1_trace, Cond.code yX1_trace cX1_trace 5 none, Cond.fieldLink RX1 36 "TightDesk$Circle" "size" "I", Cond.methodLink RL 41 yX7_solve, Cond.instanceMethod yX7_solve, Cond.selects RX7 yX7_solve yX7_solve, Cond.code yX7_solve cX7_solve 2 (some .int), Cond.fieldLink RX7 128 "TightDeskModel" "chainMany" "I", Cond.fieldLink RX7 121 "TightDeskModel" "circleMany" "I", Cond.fieldLink RX7 144 "TightDeskModel" "keptLength" "I", Cond.fieldLink RX7 147 "TightDeskModel" "keptTasks" "I", Cond.methodLink RX7 135 yX7_soonest, Cond.instanceMethod yX7_soonest, Cond.selects RX7 yX7_soonest yX7_soonest, Cond.code yX7_soonest cX7_soonest 7 (some .boolean), Cond.methodLink RX7 138 yX7_findCircle, Cond.instanceMethod yX7_findCircle, Cond.selects RX7 yX7_findCircle yX7_findCircle, Cond.code yX7_findCircle cX7_findCircle 8 none, Cond.constant RX7 98 (-100000000), Cond.methodLink RX7 117 yX7_nextSums, Cond.instanceMethod yX7_nextSums, Cond.selects RX7 yX7_nextSums yX7_nextSums, Cond.code yX7_nextSums cX7_nextSums 8 none]
def wsL_law_r16 : List Cond := [Cond.methodLink RX7 99 yX7_edges, Cond.instanceMethod yX7_edges, Cond.selects RX7 yX7_edges yX7_edges, Cond.code yX7_edges cX7_edges 1 (some .int), Cond.methodLink RX7 103 yX7_isEdge, Cond.instanceMethod yX7_isEdge, Cond.selects RX7 yX7_isEdge yX7_isEdge, Cond.code yX7_isEdge cX7_isEdge 2 (some .boolean), Cond.methodLink RX7 107 yX7_edgeFrom, Cond.instanceMethod yX7_edgeFrom, Cond.selects RX7 yX7_edgeFrom yX7_edgeFrom, Cond.code yX7_edgeFrom cX7_edgeFrom 2 (some .int), Cond.methodLink RX7 111 yX7_edgeTo, Cond.instanceMethod yX7_edgeTo, Cond.selects RX7 yX7_edgeTo yX7_edgeTo, Cond.code yX7_edgeTo cX7_edgeTo 2 (some .int), Cond.methodLink RX7 114 yX7_edgeGap, Cond.instanceMethod yX7_edgeGap, Cond.selects RX7 yX7_edgeGap yX7_edgeGap, Cond.code yX7_edgeGap cX7_edgeGap 2 (some .int), Cond.methodLink RX7 124 yX7_goes, Cond.instanceMethod yX7_goes, Cond.selects RX7 yX7_goes yX7_goes, Cond.code yX7_goes cX7_goes 9 (some .boolean)]
def wsL_law_r17 : List Cond := [Cond.methodLink RX7 141 yX7_longest, Cond.instanceMethod yX7_longest, Cond.selects RX7 yX7_longest yX7_longest, Cond.code yX7_longest cX7_longest 3 (some .int), Cond.methodLink RX7 150 yX7_latest, Cond.instanceMethod yX7_latest, Cond.selects RX7 yX7_latest yX7_latest, Cond.code yX7_latest cX7_latest 6 none, Cond.methodLink RX7 153 yX7_findChain, Cond.instanceMethod yX7_findChain, Cond.selects RX7 yX7_findChain yX7_findChain, Cond.code yX7_findChain cX7_findChain 6 none, Cond.methodLink RX7 131 yX7_isTight, Cond.instanceMethod yX7_isTight, Cond.selects RX7 yX7_isTight yX7_isTight, Cond.code yX7_isTight cX7_isTight 5 (some .boolean), Cond.methodLink RL 42 yX6_start, Cond.instanceMethod yX6_start, Cond.selects RX6 yX6_start yX6_start, Cond.code yX6_start cX6_start 3 (some .int), Cond.fieldLink RX6 115 "TightDesk$Times" "earliest" "[I", Cond.fieldLink RX6 118 "TightDesk$Times" "latest" "[I", Cond.methodLink RX6 112 yX6_timesFresh, Cond.instanceMethod yX6_timesFresh]
def wsL_law_r18 : List Cond := [Cond.selects RX6 yX6_timesFresh yX6_timesFresh, Cond.code yX6_timesFresh cX6_timesFresh 1 (some .boolean), Cond.methodLink RX6 121 yX5_freeOf, Cond.instanceMethod yX5_freeOf, Cond.selects RX5 yX5_freeOf yX5_freeOf, Cond.code yX5_freeOf cX5_freeOf 5 (some .int), Cond.fieldLink RX5 65 "TightDesk$Network" "constraints" "I", Cond.fieldLink RX5 68 "TightDesk$Network" "to" "[I", Cond.fieldLink RX5 71 "TightDesk$Network" "dropped" "[Z", Cond.fieldLink RX5 75 "TightDesk$Network" "from" "[I", Cond.fieldLink RX5 78 "TightDesk$Network" "gap" "[I", Cond.methodLink RX5 81 Lib.Math.min.name, Cond.methodLink RL 46 yX7_start, Cond.instanceMethod yX7_start, Cond.selects RX7 yX7_start yX7_start, Cond.code yX7_start cX7_start 3 (some .int), Cond.methodLink RX7 156 yX7_has, Cond.instanceMethod yX7_has, Cond.selects RX7 yX7_has yX7_has, Cond.code yX7_has cX7_has 1 (some .boolean), Cond.methodLink RX7 160 yX7_free, Cond.instanceMethod yX7_free, Cond.selects RX7 yX7_free yX7_free, Cond.code yX7_free cX7_free 5 (some .int)]
def wsL_law_r19 : List Cond := [Cond.methodLink RL 47 yX6_length, Cond.instanceMethod yX6_length, Cond.selects RX6 yX6_length yX6_length, Cond.code yX6_length cX6_length 1 (some .int), Cond.fieldLink RX6 124 "TightDesk$Times" "projectLength" "I", Cond.methodLink RL 50 yX7_length, Cond.instanceMethod yX7_length, Cond.selects RX7 yX7_length yX7_length, Cond.code yX7_length cX7_length 1 (some .int), Cond.methodLink RL 51 yX6_row, Cond.instanceMethod yX6_row, Cond.selects RX6 yX6_row yX6_row, Cond.code yX6_row cX6_row 3 (some .int), Cond.methodLink RX6 127 yX0_at, Cond.instanceMethod yX0_at, Cond.selects RX0 yX0_at yX0_at, Cond.code yX0_at cX0_at 2 (some .int), Cond.methodLink RX6 130 yX1_at, Cond.instanceMethod yX1_at, Cond.selects RX1 yX1_at yX1_at, Cond.code yX1_at cX1_at 2 (some .int), Cond.methodLink RL 54 yX7_row, Cond.instanceMethod yX7_row, Cond.selects RX7 yX7_row yX7_row]
def wsL_law_r20 : List Cond := [Cond.code yX7_row cX7_row 3 (some .int), Cond.methodLink RL 55 yX6_delay, Cond.instanceMethod yX6_delay, Cond.selects RX6 yX6_delay yX6_delay, Cond.code yX6_delay cX6_delay 3 (some .int), Cond.methodLink RX6 131 yX5_findDelayed, Cond.instanceMethod yX5_findDelayed, Cond.selects RX5 yX5_findDelayed yX5_findDelayed, Cond.code yX5_findDelayed cX5_findDelayed 4 (some .boolean), Cond.methodLink RX5 48 arraycopyName, Cond.native arraycopyName, Cond.static arraycopyName, Cond.initialized "java/lang/System", Cond.methodLink RL 58 yX7_delay, Cond.instanceMethod yX7_delay, Cond.selects RX7 yX7_delay yX7_delay, Cond.code yX7_delay cX7_delay 3 (some .int), Cond.methodLink RL 59 yX6_busy, Cond.instanceMethod yX6_busy, Cond.selects RX6 yX6_busy yX6_busy, Cond.code yX6_busy cX6_busy 2 (some .int), Cond.methodLink RX6 135 yX5_runningAt, Cond.instanceMethod yX5_runningAt, Cond.selects RX5 yX5_runningAt yX5_runningAt]
def wsL_law_r21 : List Cond := [Cond.code yX5_runningAt cX5_runningAt 4 (some .int), Cond.methodLink RX6 138 yJ6_bitCount_0f7a4, Cond.static yJ6_bitCount_0f7a4, Cond.initialized RJ6, Cond.code yJ6_bitCount_0f7a4 cJ6_bitCount_0f7a4 1 (some .int), Cond.constant RJ6 265 (1431655765), Cond.constant RJ6 266 (858993459), Cond.constant RJ6 267 (252645135), Cond.methodLink RL 62 yX7_busy, Cond.instanceMethod yX7_busy, Cond.selects RX7 yX7_busy yX7_busy, Cond.code yX7_busy cX7_busy 2 (some .int), Cond.methodLink RX7 166 yX7_running, Cond.instanceMethod yX7_running, Cond.selects RX7 yX7_running yX7_running, Cond.code yX7_running cX7_running 4 (some .int), Cond.methodLink RX7 163 yX7_runs, Cond.instanceMethod yX7_runs, Cond.selects RX7 yX7_runs yX7_runs, Cond.code yX7_runs cX7_runs 3 (some .boolean), Cond.methodLink RL 63 yX6_peak, Cond.instanceMethod yX6_peak, Cond.selects RX6 yX6_peak yX6_peak, Cond.code yX6_peak cX6_peak 3 (some .int)]
def wsL_law_r22 : List Cond := [Cond.methodLink RX6 143 yX5_peakTime, Cond.instanceMethod yX5_peakTime, Cond.selects RX5 yX5_peakTime yX5_peakTime, Cond.code yX5_peakTime cX5_peakTime 5 (some .int), Cond.methodLink RX5 84 yX5_runningAt, Cond.methodLink RX5 88 yJ6_bitCount_0f7a4, Cond.methodLink RL 66 yX7_peak, Cond.instanceMethod yX7_peak, Cond.selects RX7 yX7_peak yX7_peak, Cond.code yX7_peak cX7_peak 6 (some .int), Cond.methodLink RL 67 yX6_assign, Cond.instanceMethod yX6_assign, Cond.selects RX6 yX6_assign yX6_assign, Cond.code yX6_assign cX6_assign 2 (some .int), Cond.methodLink RX6 146 yX3_find, Cond.instanceMethod yX3_find, Cond.selects RX3 yX3_find yX3_find, Cond.code yX3_find cX3_find 6 (some .int), Cond.fieldLink RX3 27 "TightDesk$Match" "kept" "Z", Cond.fieldLink RX3 31 "TightDesk$Match" "fresh" "Z", Cond.fieldLink RX3 34 "TightDesk$Match" "time" "I", Cond.fieldLink RX3 38 "TightDesk$Match" "running" "I", Cond.constant RX3 47 (65535), Cond.methodLink RX3 41 yJ7_fill_53178]
def wsL_law_r23 : List Cond := [Cond.methodLink RX3 48 yX3_widen, Cond.instanceMethod yX3_widen, Cond.selects RX3 yX3_widen yX3_widen, Cond.code yX3_widen cX3_widen 4 (some .boolean), Cond.fieldLink RX3 75 "TightDesk$Match" "queued" "I", Cond.fieldLink RX3 78 "TightDesk$Match" "seen" "I", Cond.methodLink RX3 81 yX3_enqueue, Cond.instanceMethod yX3_enqueue, Cond.selects RX3 yX3_enqueue yX3_enqueue, Cond.code yX3_enqueue cX3_enqueue 2 none, Cond.methodLink RX3 85 yX3_seeWorkersOf, Cond.instanceMethod yX3_seeWorkersOf, Cond.selects RX3 yX3_seeWorkersOf yX3_seeWorkersOf, Cond.code yX3_seeWorkersOf cX3_seeWorkersOf 5 (some .int), Cond.methodLink RX3 88 yX3_passWorkersOn, Cond.instanceMethod yX3_passWorkersOn, Cond.selects RX3 yX3_passWorkersOn yX3_passWorkersOn, Cond.code yX3_passWorkersOn cX3_passWorkersOn 6 none, Cond.methodLink RX3 91 yX3_pair, Cond.instanceMethod yX3_pair, Cond.selects RX3 yX3_pair yX3_pair, Cond.code yX3_pair cX3_pair 3 none, Cond.methodLink RX3 52 yX3_keepCover, Cond.instanceMethod yX3_keepCover]
def wsL_law_r24 : List Cond := [Cond.selects RX3 yX3_keepCover yX3_keepCover, Cond.code yX3_keepCover cX3_keepCover 2 none, Cond.fieldLink RX3 63 "TightDesk$Match" "coverTasks" "I", Cond.fieldLink RX3 66 "TightDesk$Match" "coverWorkers" "I", Cond.methodLink RX3 59 yX3_takeLeast, Cond.instanceMethod yX3_takeLeast, Cond.selects RX3 yX3_takeLeast yX3_takeLeast, Cond.code yX3_takeLeast cX3_takeLeast 5 (some .int), Cond.methodLink RX3 95 yX3_take, Cond.instanceMethod yX3_take, Cond.selects RX3 yX3_take yX3_take, Cond.code yX3_take cX3_take 6 (some .boolean), Cond.methodLink RL 70 yX7_assign, Cond.instanceMethod yX7_assign, Cond.selects RX7 yX7_assign yX7_assign, Cond.code yX7_assign cX7_assign 9 (some .int), Cond.constant RX7 176 (65535), Cond.fieldLink RX7 181 "TightDeskModel" "isMatch" "Z", Cond.fieldLink RX7 184 "TightDeskModel" "matchTime" "I", Cond.fieldLink RX7 187 "TightDeskModel" "ran" "I", Cond.fieldLink RX7 190 "TightDeskModel" "coverTasks" "I", Cond.fieldLink RX7 193 "TightDeskModel" "coverWorkers" "I", Cond.methodLink RX7 177 yX7_most, Cond.instanceMethod yX7_most]
def wsL_law_r25 : List Cond := [Cond.selects RX7 yX7_most yX7_most, Cond.code yX7_most cX7_most 5 (some .int), Cond.methodLink RX7 169 yX7_grows, Cond.instanceMethod yX7_grows, Cond.selects RX7 yX7_grows yX7_grows, Cond.code yX7_grows cX7_grows 9 (some .boolean), Cond.methodLink RX7 172 yX7_changes, Cond.instanceMethod yX7_changes, Cond.selects RX7 yX7_changes yX7_changes, Cond.code yX7_changes cX7_changes 8 none, Cond.methodLink RL 71 yX6_workerOf, Cond.instanceMethod yX6_workerOf, Cond.selects RX6 yX6_workerOf yX6_workerOf, Cond.code yX6_workerOf cX6_workerOf 2 (some .int), Cond.fieldLink RX6 149 "TightDesk$Match" "workerOfTask" "[I", Cond.methodLink RL 74 yX7_workerOf, Cond.instanceMethod yX7_workerOf, Cond.selects RX7 yX7_workerOf yX7_workerOf, Cond.code yX7_workerOf cX7_workerOf 2 (some .int), Cond.methodLink RL 75 yX6_cover, Cond.instanceMethod yX6_cover, Cond.selects RX6 yX6_cover yX6_cover, Cond.code yX6_cover cX6_cover 3 (some .int), Cond.fieldLink RX6 152 "TightDesk$Match" "coverTasks" "I"]
def wsL_law_r26 : List Cond := [Cond.fieldLink RX6 158 "TightDesk$Match" "coverWorkers" "I", Cond.methodLink RX6 155 yX2_hasWorker, Cond.methodLink RL 78 yX7_cover, Cond.instanceMethod yX7_cover, Cond.selects RX7 yX7_cover yX7_cover, Cond.code yX7_cover cX7_cover 3 (some .int), Cond.methodLink RL 79 yX6_check, Cond.instanceMethod yX6_check, Cond.selects RX6 yX6_check yX6_check, Cond.code yX6_check cX6_check 2 (some .int), Cond.fieldLink RX6 172 "TightDesk$Match" "kept" "Z", Cond.fieldLink RX6 175 "TightDesk$Match" "time" "I", Cond.methodLink RX6 161 yX5_sameAs, Cond.instanceMethod yX5_sameAs, Cond.selects RX5 yX5_sameAs yX5_sameAs, Cond.code yX5_sameAs cX5_sameAs 3 (some .boolean), Cond.methodLink RX6 165 yX6_asNumber, Cond.static yX6_asNumber, Cond.code yX6_asNumber cX6_asNumber 1 (some .int), Cond.methodLink RX6 169 yX1_stands, Cond.instanceMethod yX1_stands, Cond.selects RX1 yX1_stands yX1_stands, Cond.code yX1_stands cX1_stands 2 (some .boolean), Cond.methodLink RX6 178 yX3_holds]
def wsL_law_r27 : List Cond := [Cond.instanceMethod yX3_holds, Cond.selects RX3 yX3_holds yX3_holds, Cond.code yX3_holds cX3_holds 6 (some .boolean), Cond.methodLink RL 82 yX7_check, Cond.instanceMethod yX7_check, Cond.selects RX7 yX7_check yX7_check, Cond.code yX7_check cX7_check 2 (some .int), Cond.methodLink RX7 196 yX7_checkStarts, Cond.instanceMethod yX7_checkStarts, Cond.selects RX7 yX7_checkStarts yX7_checkStarts, Cond.code yX7_checkStarts cX7_checkStarts 4 (some .int), Cond.methodLink RX7 199 yX7_checkCircle, Cond.instanceMethod yX7_checkCircle, Cond.selects RX7 yX7_checkCircle yX7_checkCircle, Cond.code yX7_checkCircle cX7_checkCircle 3 (some .int), Cond.methodLink RX7 202 yX7_checkMatch, Cond.instanceMethod yX7_checkMatch, Cond.selects RX7 yX7_checkMatch yX7_checkMatch, Cond.code yX7_checkMatch cX7_checkMatch 4 (some .int), Cond.methodLink RL 83 yX6_count, Cond.instanceMethod yX6_count, Cond.selects RX6 yX6_count yX6_count, Cond.code yX6_count cX6_count 2 (some .int), Cond.fieldLink RX6 181 "TightDesk$Network" "tasks" "I"]
def wsL_law_r28 : List Cond := [Cond.fieldLink RX6 184 "TightDesk$Network" "constraints" "I", Cond.fieldLink RX6 187 "TightDesk$Network" "drops" "I", Cond.fieldLink RX6 190 "TightDesk$Crew" "workers" "I", Cond.fieldLink RX6 193 "TightDesk$Crew" "skillsTold" "I", Cond.methodLink RX6 196 yX3_coverSize, Cond.instanceMethod yX3_coverSize, Cond.selects RX3 yX3_coverSize yX3_coverSize, Cond.code yX3_coverSize cX3_coverSize 1 (some .int), Cond.methodLink RX3 69 yJ6_bitCount_0f7a4, Cond.methodLink RL 86 yX7_count, Cond.instanceMethod yX7_count, Cond.selects RX7 yX7_count yX7_count, Cond.code yX7_count cX7_count 2 (some .int), Cond.methodLink RX7 205 yX7_bits, Cond.static yX7_bits, Cond.code yX7_bits cX7_bits 3 (some .int)]
def wsL_law : List Cond := (wsL_law_r1 ++ (wsL_law_r2 ++ (wsL_law_r3 ++ (wsL_law_r4 ++ (wsL_law_r5 ++ (wsL_law_r6 ++ (wsL_law_r7 ++ (wsL_law_r8 ++ (wsL_law_r9 ++ (wsL_law_r10 ++ (wsL_law_r11 ++ (wsL_law_r12 ++ (wsL_law_r13 ++ (wsL_law_r14 ++ (wsL_law_r15 ++ (wsL_law_r16 ++ (wsL_law_r17 ++ (wsL_law_r18 ++ (wsL_law_r19 ++ (wsL_law_r20 ++ (wsL_law_r21 ++ (wsL_law_r22 ++ (wsL_law_r23 ++ (wsL_law_r24 ++ (wsL_law_r25 ++ (wsL_law_r26 ++ (wsL_law_r27 ++ wsL_law_r28))))))))))))))))))))))))))) ++ wsX60 ++ wsX70 ++ wsX40 ++ wsX20 ++ wsX50 ++ wsX00 ++ wsX10 ++ wsX30 ++ ([] : List Cond)
theorem wsL_g1 : GoodIn lw_tbl wsL_law_r1 := goodIn_r _ [63, 64, 51, 622, 623, 58, 65, 66, 67, 68, 69, 70, 71, 72, 52, 291, 127, 128, 53, 292, 146, 147, 54, 293] (by decide +kernel) (by decide +kernel)
theorem wsL_g2 : GoodIn lw_tbl wsL_law_r2 := goodIn_r _ [294, 173, 174, 55, 295, 196, 197, 56, 296, 239, 240, 57, 138, 297, 298, 299, 74, 75, 76, 125, 89, 92, 96, 100] (by decide +kernel) (by decide +kernel)
theorem wsL_g3 : GoodIn lw_tbl wsL_law_r3 := goodIn_r _ [126, 104, 130, 131, 132, 137, 148, 149, 150, 151, 157, 160, 152, 175, 176, 177, 178, 181, 182, 179, 180, 198, 199, 200] (by decide +kernel) (by decide +kernel)
theorem wsL_g4 : GoodIn lw_tbl wsL_law_r4 := goodIn_r _ [201, 205, 209, 210, 211, 212, 202, 215, 204, 241, 242, 243, 244, 256, 258, 262, 263, 259, 624, 625, 626, 627, 632, 633] (by decide +kernel) (by decide +kernel)
theorem wsL_g5 : GoodIn lw_tbl wsL_law_r5 := goodIn_r _ [634, 635, 636, 637, 639, 640, 641, 642, 644, 646, 647, 648, 649, 650, 654, 659, 660, 661, 662, 319, 320, 321, 322, 323] (by decide +kernel) (by decide +kernel)
theorem wsL_g6 : GoodIn lw_tbl wsL_law_r6 := goodIn_r _ [324, 325, 326, 77, 327, 329, 0, 330, 248, 734, 735, 736, 737, 628, 738, 739, 740, 741, 743, 26, 744, 331, 332, 333] (by decide +kernel) (by decide +kernel)
theorem wsL_g7 : GoodIn lw_tbl wsL_law_r7 := goodIn_r _ [334, 335, 336, 337, 338, 82, 339, 341, 1, 342, 343, 344, 345, 346, 347, 348, 349, 745, 746, 747, 748, 629, 350, 351] (by decide +kernel) (by decide +kernel)
theorem wsL_g8 : GoodIn lw_tbl wsL_law_r8 := goodIn_r _ [352, 353, 354, 355, 356, 357, 87, 749, 750, 751, 752, 631, 358, 359, 360, 361, 362, 363, 364, 365, 133, 753, 754, 755] (by decide +kernel) (by decide +kernel)
theorem wsL_g9 : GoodIn lw_tbl wsL_law_r9 := goodIn_r _ [756, 630, 366, 367, 368, 369, 370, 371, 372, 373, 374, 135, 375, 376, 377, 378, 380, 381, 757, 758, 759, 760, 638, 382] (by decide +kernel) (by decide +kernel)
theorem wsL_g10 : GoodIn lw_tbl wsL_law_r10 := goodIn_r _ [383, 384, 385, 184, 207, 386, 387, 388, 389, 153, 154, 90, 390, 391, 59, 392, 393, 395, 2, 396, 78, 405, 406, 60] (by decide +kernel) (by decide +kernel)
theorem wsL_g11 : GoodIn lw_tbl wsL_law_r11 := goodIn_r _ [407, 397, 398, 399, 400, 401, 403, 3, 404, 408, 409, 410, 411, 412, 414, 4, 415, 416, 417, 418, 419, 183, 420, 422] (by decide +kernel) (by decide +kernel)
theorem wsL_g12 : GoodIn lw_tbl wsL_law_r12 := goodIn_r _ [5, 423, 79, 158, 91, 155, 424, 426, 6, 427, 83, 93, 97, 428, 430, 7, 431, 107, 103, 432, 434, 8, 435, 436] (by decide +kernel) (by decide +kernel)
theorem wsL_g13 : GoodIn lw_tbl wsL_law_r13 := goodIn_r _ [438, 9, 439, 440, 441, 442, 443, 213, 452, 453, 454, 214, 444, 446, 10, 447, 208, 84, 105, 94, 99, 101, 80, 448] (by decide +kernel) (by decide +kernel)
theorem wsL_g14 : GoodIn lw_tbl wsL_law_r14 := goodIn_r _ [450, 11, 451, 455, 457, 12, 458, 459, 461, 13, 462, 463, 464, 465, 467, 14, 468, 469, 470, 472, 15, 473, 474, 476] (by decide +kernel) (by decide +kernel)
theorem wsL_g15 : GoodIn lw_tbl wsL_law_r15 := goodIn_r _ [16, 477, 206, 761, 762, 763, 764, 645, 643, 651, 652, 765, 767, 27, 768, 769, 771, 28, 772, 773, 774, 776, 29, 777] (by decide +kernel) (by decide +kernel)
theorem wsL_g16 : GoodIn lw_tbl wsL_law_r16 := goodIn_r _ [778, 780, 30, 781, 782, 784, 31, 785, 786, 788, 32, 789, 790, 792, 33, 793, 794, 796, 34, 797, 798, 800, 35, 801] (by decide +kernel) (by decide +kernel)
theorem wsL_g17 : GoodIn lw_tbl wsL_law_r17 := goodIn_r _ [802, 804, 36, 805, 806, 808, 37, 809, 810, 812, 38, 813, 814, 816, 39, 817, 478, 479, 480, 481, 159, 161, 482, 484] (by decide +kernel) (by decide +kernel)
theorem wsL_g18 : GoodIn lw_tbl wsL_law_r18 := goodIn_r _ [17, 485, 486, 487, 488, 489, 85, 98, 106, 95, 102, 490, 818, 819, 820, 821, 822, 824, 40, 825, 826, 828, 41, 829] (by decide +kernel) (by decide +kernel)
theorem wsL_g19 : GoodIn lw_tbl wsL_law_r19 := goodIn_r _ [491, 492, 493, 494, 156, 830, 831, 832, 833, 495, 496, 497, 498, 499, 500, 501, 502, 503, 504, 505, 506, 834, 835, 836] (by decide +kernel) (by decide +kernel)
theorem wsL_g20 : GoodIn lw_tbl wsL_law_r20 := goodIn_r _ [837, 507, 508, 509, 510, 511, 512, 513, 514, 515, 517, 516, 61, 838, 839, 840, 841, 518, 519, 520, 521, 522, 523, 524] (by decide +kernel) (by decide +kernel)
theorem wsL_g21 : GoodIn lw_tbl wsL_law_r21 := goodIn_r _ [525, 526, 527, 62, 528, 529, 530, 531, 842, 843, 844, 845, 846, 848, 42, 849, 850, 852, 43, 853, 532, 533, 534, 535] (by decide +kernel) (by decide +kernel)
theorem wsL_g22 : GoodIn lw_tbl wsL_law_r22 := goodIn_r _ [536, 537, 538, 539, 540, 541, 854, 855, 856, 857, 542, 543, 544, 545, 546, 547, 548, 549, 245, 247, 249, 251, 551, 550] (by decide +kernel) (by decide +kernel)
theorem wsL_g23 : GoodIn lw_tbl wsL_law_r23 := goodIn_r _ [552, 554, 18, 555, 260, 261, 557, 559, 19, 560, 561, 563, 20, 564, 565, 567, 21, 568, 569, 571, 22, 572, 573, 575] (by decide +kernel) (by decide +kernel)
theorem wsL_g24 : GoodIn lw_tbl wsL_law_r24 := goodIn_r _ [23, 576, 252, 254, 577, 579, 24, 580, 581, 583, 25, 584, 858, 859, 860, 861, 862, 653, 655, 656, 657, 658, 863, 865] (by decide +kernel) (by decide +kernel)
theorem wsL_g25 : GoodIn lw_tbl wsL_law_r25 := goodIn_r _ [44, 866, 867, 869, 45, 870, 871, 873, 46, 874, 585, 586, 587, 588, 257, 875, 876, 877, 878, 589, 590, 591, 592, 253] (by decide +kernel) (by decide +kernel)
theorem wsL_g26 : GoodIn lw_tbl wsL_law_r26 := goodIn_r _ [255, 593, 879, 880, 881, 882, 594, 595, 596, 597, 246, 250, 598, 599, 600, 601, 602, 603, 604, 605, 606, 607, 608, 609] (by decide +kernel) (by decide +kernel)
theorem wsL_g27 : GoodIn lw_tbl wsL_law_r27 := goodIn_r _ [610, 611, 612, 883, 884, 885, 886, 887, 889, 47, 890, 891, 893, 48, 894, 895, 897, 49, 898, 613, 614, 615, 616, 81] (by decide +kernel) (by decide +kernel)
theorem wsL_g28 : GoodIn lw_tbl wsL_law_r28 := goodIn_r _ [86, 88, 134, 136, 617, 618, 619, 620, 621, 899, 900, 901, 902, 903, 904, 905] (by decide +kernel) (by decide +kernel)
theorem wsL_gX6 : GoodIn lw_tbl wsX60 := goodIn_r _ [300, 302, 304, 306, 308, 310, 312, 314, 316] (by decide +kernel) (by decide +kernel)
theorem wsL_gX7 : GoodIn lw_tbl wsX70 := goodIn_r _ [663, 665, 667, 669, 671, 673, 675, 677, 679, 681, 683, 685, 687, 689, 691, 693, 695, 697, 699, 701, 703, 705, 707, 709, 711, 713, 715, 717, 719, 721, 723, 725, 727, 729, 731] (by decide +kernel) (by decide +kernel)
theorem wsL_gX4 : GoodIn lw_tbl wsX40 := goodIn_r _ [108, 110, 112, 114, 116, 118, 120, 122] (by decide +kernel) (by decide +kernel)
theorem wsL_gX2 : GoodIn lw_tbl wsX20 := goodIn_r _ [139, 141, 143] (by decide +kernel) (by decide +kernel)
theorem wsL_gX5 : GoodIn lw_tbl wsX50 := goodIn_r _ [162, 164, 166, 168, 170] (by decide +kernel) (by decide +kernel)
theorem wsL_gX0 : GoodIn lw_tbl wsX00 := goodIn_r _ [185, 187, 189, 191, 193] (by decide +kernel) (by decide +kernel)
theorem wsL_gX1 : GoodIn lw_tbl wsX10 := goodIn_r _ [216, 218, 220, 222, 224, 226, 228, 230, 232, 234, 236] (by decide +kernel) (by decide +kernel)
theorem wsL_gX3 : GoodIn lw_tbl wsX30 := goodIn_r _ [264, 266, 268, 270, 272, 274, 276, 278, 280, 282, 284, 286, 288] (by decide +kernel) (by decide +kernel)
theorem wsL_good : GoodIn lw_tbl wsL_law := goodIn_app (goodIn_app (goodIn_app (goodIn_app (goodIn_app (goodIn_app (goodIn_app (goodIn_app (goodIn_app (goodIn_app wsL_g1 (goodIn_app wsL_g2 (goodIn_app wsL_g3 (goodIn_app wsL_g4 (goodIn_app wsL_g5 (goodIn_app wsL_g6 (goodIn_app wsL_g7 (goodIn_app wsL_g8 (goodIn_app wsL_g9 (goodIn_app wsL_g10 (goodIn_app wsL_g11 (goodIn_app wsL_g12 (goodIn_app wsL_g13 (goodIn_app wsL_g14 (goodIn_app wsL_g15 (goodIn_app wsL_g16 (goodIn_app wsL_g17 (goodIn_app wsL_g18 (goodIn_app wsL_g19 (goodIn_app wsL_g20 (goodIn_app wsL_g21 (goodIn_app wsL_g22 (goodIn_app wsL_g23 (goodIn_app wsL_g24 (goodIn_app wsL_g25 (goodIn_app wsL_g26 (goodIn_app wsL_g27 (wsL_g28)))))))))))))))))))))))))))) wsL_gX6) wsL_gX7) wsL_gX4) wsL_gX2) wsL_gX5) wsL_gX0) wsL_gX1) wsL_gX3) (fun _ h => absurd h List.not_mem_nil)
theorem wsL_law_in : ∀ w ∈ wsL_law, w ∈ lw_tbl := fun w h => (wsL_good w h).1
theorem wsL_i1 {w : Cond} (h : w ∈ wsL_law_r1) : w ∈ wsL_law := List.mem_append_left _ (List.mem_append_left _ (List.mem_append_left _ (List.mem_append_left _ (List.mem_append_left _ (List.mem_append_left _ (List.mem_append_left _ (List.mem_append_left _ (List.mem_append_left _ (List.mem_append_left _ (h))))))))))
theorem wsL_i2 {w : Cond} (h : w ∈ wsL_law_r2) : w ∈ wsL_law := List.mem_append_left _ (List.mem_append_left _ (List.mem_append_left _ (List.mem_append_left _ (List.mem_append_left _ (List.mem_append_left _ (List.mem_append_left _ (List.mem_append_left _ (List.mem_append_left _ (List.mem_append_right _ (List.mem_append_left _ (h)))))))))))
theorem wsL_i3 {w : Cond} (h : w ∈ wsL_law_r3) : w ∈ wsL_law := List.mem_append_left _ (List.mem_append_left _ (List.mem_append_left _ (List.mem_append_left _ (List.mem_append_left _ (List.mem_append_left _ (List.mem_append_left _ (List.mem_append_left _ (List.mem_append_left _ (List.mem_append_right _ (List.mem_append_right _ (List.mem_append_left _ (h))))))))))))
theorem wsL_i4 {w : Cond} (h : w ∈ wsL_law_r4) : w ∈ wsL_law := List.mem_append_left _ (List.mem_append_left _ (List.mem_append_left _ (List.mem_append_left _ (List.mem_append_left _ (List.mem_append_left _ (List.mem_append_left _ (List.mem_append_left _ (List.mem_append_left _ (List.mem_append_right _ (List.mem_append_right _ (List.mem_append_right _ (List.mem_append_left _ (h)))))))))))))
theorem wsL_i5 {w : Cond} (h : w ∈ wsL_law_r5) : w ∈ wsL_law := List.mem_append_left _ (List.mem_append_left _ (List.mem_append_left _ (List.mem_append_left _ (List.mem_append_left _ (List.mem_append_left _ (List.mem_append_left _ (List.mem_append_left _ (List.mem_append_left _ (List.mem_append_right _ (List.mem_append_right _ (List.mem_append_right _ (List.mem_append_right _ (List.mem_append_left _ (h))))))))))))))
theorem wsL_i6 {w : Cond} (h : w ∈ wsL_law_r6) : w ∈ wsL_law := List.mem_append_left _ (List.mem_append_left _ (List.mem_append_left _ (List.mem_append_left _ (List.mem_append_left _ (List.mem_append_left _ (List.mem_append_left _ (List.mem_append_left _ (List.mem_append_left _ (List.mem_append_right _ (List.mem_append_right _ (List.mem_append_right _ (List.mem_append_right _ (List.mem_append_right _ (List.mem_append_left _ (h)))))))))))))))
theorem wsL_i7 {w : Cond} (h : w ∈ wsL_law_r7) : w ∈ wsL_law := List.mem_append_left _ (List.mem_append_left _ (List.mem_append_left _ (List.mem_append_left _ (List.mem_append_left _ (List.mem_append_left _ (List.mem_append_left _ (List.mem_append_left _ (List.mem_append_left _ (List.mem_append_right _ (List.mem_append_right _ (List.mem_append_right _ (List.mem_append_right _ (List.mem_append_right _ (List.mem_append_right _ (List.mem_append_left _ (h))))))))))))))))
theorem wsL_i8 {w : Cond} (h : w ∈ wsL_law_r8) : w ∈ wsL_law := List.mem_append_left _ (List.mem_append_left _ (List.mem_append_left _ (List.mem_append_left _ (List.mem_append_left _ (List.mem_append_left _ (List.mem_append_left _ (List.mem_append_left _ (List.mem_append_left _ (List.mem_append_right _ (List.mem_append_right _ (List.mem_append_right _ (List.mem_append_right _ (List.mem_append_right _ (List.mem_append_right _ (List.mem_append_right _ (List.mem_append_left _ (h)))))))))))))))))
theorem wsL_i9 {w : Cond} (h : w ∈ wsL_law_r9) : w ∈ wsL_law := List.mem_append_left _ (List.mem_append_left _ (List.mem_append_left _ (List.mem_append_left _ (List.mem_append_left _ (List.mem_append_left _ (List.mem_append_left _ (List.mem_append_left _ (List.mem_append_left _ (List.mem_append_right _ (List.mem_append_right _ (List.mem_append_right _ (List.mem_append_right _ (List.mem_append_right _ (List.mem_append_right _ (List.mem_append_right _ (List.mem_append_right _ (List.mem_append_left _ (h))))))))))))))))))
theorem wsL_i10 {w : Cond} (h : w ∈ wsL_law_r10) : w ∈ wsL_law := List.mem_append_left _ (List.mem_append_left _ (List.mem_append_left _ (List.mem_append_left _ (List.mem_append_left _ (List.mem_append_left _ (List.mem_append_left _ (List.mem_append_left _ (List.mem_append_left _ (List.mem_append_right _ (List.mem_append_right _ (List.mem_append_right _ (List.mem_append_right _ (List.mem_append_right _ (List.mem_append_right _ (List.mem_append_right _ (List.mem_append_right _ (List.mem_append_right _ (List.mem_append_left _ (h)))))))))))))))))))
theorem wsL_i11 {w : Cond} (h : w ∈ wsL_law_r11) : w ∈ wsL_law := List.mem_append_left _ (List.mem_append_left _ (List.mem_append_left _ (List.mem_append_left _ (List.mem_append_left _ (List.mem_append_left _ (List.mem_append_left _ (List.mem_append_left _ (List.mem_append_left _ (List.mem_append_right _ (List.mem_append_right _ (List.mem_append_right _ (List.mem_append_right _ (List.mem_append_right _ (List.mem_append_right _ (List.mem_append_right _ (List.mem_append_right _ (List.mem_append_right _ (List.mem_append_right _ (List.mem_append_left _ (h))))))))))))))))))))
theorem wsL_i12 {w : Cond} (h : w ∈ wsL_law_r12) : w ∈ wsL_law := List.mem_append_left _ (List.mem_append_left _ (List.mem_append_left _ (List.mem_append_left _ (List.mem_append_left _ (List.mem_append_left _ (List.mem_append_left _ (List.mem_append_left _ (List.mem_append_left _ (List.mem_append_right _ (List.mem_append_right _ (List.mem_append_right _ (List.mem_append_right _ (List.mem_append_right _ (List.mem_append_right _ (List.mem_append_right _ (List.mem_append_right _ (List.mem_append_right _ (List.mem_append_right _ (List.mem_append_right _ (List.mem_append_left _ (h)))))))))))))))))))))
theorem wsL_i13 {w : Cond} (h : w ∈ wsL_law_r13) : w ∈ wsL_law := List.mem_append_left _ (List.mem_append_left _ (List.mem_append_left _ (List.mem_append_left _ (List.mem_append_left _ (List.mem_append_left _ (List.mem_append_left _ (List.mem_append_left _ (List.mem_append_left _ (List.mem_append_right _ (List.mem_append_right _ (List.mem_append_right _ (List.mem_append_right _ (List.mem_append_right _ (List.mem_append_right _ (List.mem_append_right _ (List.mem_append_right _ (List.mem_append_right _ (List.mem_append_right _ (List.mem_append_right _ (List.mem_append_right _ (List.mem_append_left _ (h))))))))))))))))))))))
theorem wsL_i14 {w : Cond} (h : w ∈ wsL_law_r14) : w ∈ wsL_law := List.mem_append_left _ (List.mem_append_left _ (List.mem_append_left _ (List.mem_append_left _ (List.mem_append_left _ (List.mem_append_left _ (List.mem_append_left _ (List.mem_append_left _ (List.mem_append_left _ (List.mem_append_right _ (List.mem_append_right _ (List.mem_append_right _ (List.mem_append_right _ (List.mem_append_right _ (List.mem_append_right _ (List.mem_append_right _ (List.mem_append_right _ (List.mem_append_right _ (List.mem_append_right _ (List.mem_append_right _ (List.mem_append_right _ (List.mem_append_right _ (List.mem_append_left _ (h)))))))))))))))))))))))
theorem wsL_i15 {w : Cond} (h : w ∈ wsL_law_r15) : w ∈ wsL_law := List.mem_append_left _ (List.mem_append_left _ (List.mem_append_left _ (List.mem_append_left _ (List.mem_append_left _ (List.mem_append_left _ (List.mem_append_left _ (List.mem_append_left _ (List.mem_append_left _ (List.mem_append_right _ (List.mem_append_right _ (List.mem_append_right _ (List.mem_append_right _ (List.mem_append_right _ (List.mem_append_right _ (List.mem_append_right _ (List.mem_append_right _ (List.mem_append_right _ (List.mem_append_right _ (List.mem_append_right _ (List.mem_append_right _ (List.mem_append_right _ (List.mem_append_right _ (List.mem_append_left _ (h))))))))))))))))))))))))
theorem wsL_i16 {w : Cond} (h : w ∈ wsL_law_r16) : w ∈ wsL_law := List.mem_append_left _ (List.mem_append_left _ (List.mem_append_left _ (List.mem_append_left _ (List.mem_append_left _ (List.mem_append_left _ (List.mem_append_left _ (List.mem_append_left _ (List.mem_append_left _ (List.mem_append_right _ (List.mem_append_right _ (List.mem_append_right _ (List.mem_append_right _ (List.mem_append_right _ (List.mem_append_right _ (List.mem_append_right _ (List.mem_append_right _ (List.mem_append_right _ (List.mem_append_right _ (List.mem_append_right _ (List.mem_append_right _ (List.mem_append_right _ (List.mem_append_right _ (List.mem_append_right _ (List.mem_append_left _ (h)))))))))))))))))))))))))
theorem wsL_i17 {w : Cond} (h : w ∈ wsL_law_r17) : w ∈ wsL_law := List.mem_append_left _ (List.mem_append_left _ (List.mem_append_left _ (List.mem_append_left _ (List.mem_append_left _ (List.mem_append_left _ (List.mem_append_left _ (List.mem_append_left _ (List.mem_append_left _ (List.mem_append_right _ (List.mem_append_right _ (List.mem_append_right _ (List.mem_append_right _ (List.mem_append_right _ (List.mem_append_right _ (List.mem_append_right _ (List.mem_append_right _ (List.mem_append_right _ (List.mem_append_right _ (List.mem_append_right _ (List.mem_append_right _ (List.mem_append_right _ (List.mem_append_right _ (List.mem_append_right _ (List.mem_append_right _ (List.mem_append_left _ (h))))))))))))))))))))))))))
theorem wsL_i18 {w : Cond} (h : w ∈ wsL_law_r18) : w ∈ wsL_law := List.mem_append_left _ (List.mem_append_left _ (List.mem_append_left _ (List.mem_append_left _ (List.mem_append_left _ (List.mem_append_left _ (List.mem_append_left _ (List.mem_append_left _ (List.mem_append_left _ (List.mem_append_right _ (List.mem_append_right _ (List.mem_append_right _ (List.mem_append_right _ (List.mem_append_right _ (List.mem_append_right _ (List.mem_append_right _ (List.mem_append_right _ (List.mem_append_right _ (List.mem_append_right _ (List.mem_append_right _ (List.mem_append_right _ (List.mem_append_right _ (List.mem_append_right _ (List.mem_append_right _ (List.mem_append_right _ (List.mem_append_right _ (List.mem_append_left _ (h)))))))))))))))))))))))))))
theorem wsL_i19 {w : Cond} (h : w ∈ wsL_law_r19) : w ∈ wsL_law := List.mem_append_left _ (List.mem_append_left _ (List.mem_append_left _ (List.mem_append_left _ (List.mem_append_left _ (List.mem_append_left _ (List.mem_append_left _ (List.mem_append_left _ (List.mem_append_left _ (List.mem_append_right _ (List.mem_append_right _ (List.mem_append_right _ (List.mem_append_right _ (List.mem_append_right _ (List.mem_append_right _ (List.mem_append_right _ (List.mem_append_right _ (List.mem_append_right _ (List.mem_append_right _ (List.mem_append_right _ (List.mem_append_right _ (List.mem_append_right _ (List.mem_append_right _ (List.mem_append_right _ (List.mem_append_right _ (List.mem_append_right _ (List.mem_append_right _ (List.mem_append_left _ (h))))))))))))))))))))))))))))
theorem wsL_i20 {w : Cond} (h : w ∈ wsL_law_r20) : w ∈ wsL_law := List.mem_append_left _ (List.mem_append_left _ (List.mem_append_left _ (List.mem_append_left _ (List.mem_append_left _ (List.mem_append_left _ (List.mem_append_left _ (List.mem_append_left _ (List.mem_append_left _ (List.mem_append_right _ (List.mem_append_right _ (List.mem_append_right _ (List.mem_append_right _ (List.mem_append_right _ (List.mem_append_right _ (List.mem_append_right _ (List.mem_append_right _ (List.mem_append_right _ (List.mem_append_right _ (List.mem_append_right _ (List.mem_append_right _ (List.mem_append_right _ (List.mem_append_right _ (List.mem_append_right _ (List.mem_append_right _ (List.mem_append_right _ (List.mem_append_right _ (List.mem_append_right _ (List.mem_append_left _ (h)))))))))))))))))))))))))))))
theorem wsL_i21 {w : Cond} (h : w ∈ wsL_law_r21) : w ∈ wsL_law := List.mem_append_left _ (List.mem_append_left _ (List.mem_append_left _ (List.mem_append_left _ (List.mem_append_left _ (List.mem_append_left _ (List.mem_append_left _ (List.mem_append_left _ (List.mem_append_left _ (List.mem_append_right _ (List.mem_append_right _ (List.mem_append_right _ (List.mem_append_right _ (List.mem_append_right _ (List.mem_append_right _ (List.mem_append_right _ (List.mem_append_right _ (List.mem_append_right _ (List.mem_append_right _ (List.mem_append_right _ (List.mem_append_right _ (List.mem_append_right _ (List.mem_append_right _ (List.mem_append_right _ (List.mem_append_right _ (List.mem_append_right _ (List.mem_append_right _ (List.mem_append_right _ (List.mem_append_right _ (List.mem_append_left _ (h))))))))))))))))))))))))))))))
theorem wsL_i22 {w : Cond} (h : w ∈ wsL_law_r22) : w ∈ wsL_law := List.mem_append_left _ (List.mem_append_left _ (List.mem_append_left _ (List.mem_append_left _ (List.mem_append_left _ (List.mem_append_left _ (List.mem_append_left _ (List.mem_append_left _ (List.mem_append_left _ (List.mem_append_right _ (List.mem_append_right _ (List.mem_append_right _ (List.mem_append_right _ (List.mem_append_right _ (List.mem_append_right _ (List.mem_append_right _ (List.mem_append_right _ (List.mem_append_right _ (List.mem_append_right _ (List.mem_append_right _ (List.mem_append_right _ (List.mem_append_right _ (List.mem_append_right _ (List.mem_append_right _ (List.mem_append_right _ (List.mem_append_right _ (List.mem_append_right _ (List.mem_append_right _ (List.mem_append_right _ (List.mem_append_right _ (List.mem_append_left _ (h)))))))))))))))))))))))))))))))
theorem wsL_i23 {w : Cond} (h : w ∈ wsL_law_r23) : w ∈ wsL_law := List.mem_append_left _ (List.mem_append_left _ (List.mem_append_left _ (List.mem_append_left _ (List.mem_append_left _ (List.mem_append_left _ (List.mem_append_left _ (List.mem_append_left _ (List.mem_append_left _ (List.mem_append_right _ (List.mem_append_right _ (List.mem_append_right _ (List.mem_append_right _ (List.mem_append_right _ (List.mem_append_right _ (List.mem_append_right _ (List.mem_append_right _ (List.mem_append_right _ (List.mem_append_right _ (List.mem_append_right _ (List.mem_append_right _ (List.mem_append_right _ (List.mem_append_right _ (List.mem_append_right _ (List.mem_append_right _ (List.mem_append_right _ (List.mem_append_right _ (List.mem_append_right _ (List.mem_append_right _ (List.mem_append_right _ (List.mem_append_right _ (List.mem_append_left _ (h))))))))))))))))))))))))))))))))
theorem wsL_i24 {w : Cond} (h : w ∈ wsL_law_r24) : w ∈ wsL_law := List.mem_append_left _ (List.mem_append_left _ (List.mem_append_left _ (List.mem_append_left _ (List.mem_append_left _ (List.mem_append_left _ (List.mem_append_left _ (List.mem_append_left _ (List.mem_append_left _ (List.mem_append_right _ (List.mem_append_right _ (List.mem_append_right _ (List.mem_append_right _ (List.mem_append_right _ (List.mem_append_right _ (List.mem_append_right _ (List.mem_append_right _ (List.mem_append_right _ (List.mem_append_right _ (List.mem_append_right _ (List.mem_append_right _ (List.mem_append_right _ (List.mem_append_right _ (List.mem_append_right _ (List.mem_append_right _ (List.mem_append_right _ (List.mem_append_right _ (List.mem_append_right _ (List.mem_append_right _ (List.mem_append_right _ (List.mem_append_right _ (List.mem_append_right _ (List.mem_append_left _ (h)))))))))))))))))))))))))))))))))
theorem wsL_i25 {w : Cond} (h : w ∈ wsL_law_r25) : w ∈ wsL_law := List.mem_append_left _ (List.mem_append_left _ (List.mem_append_left _ (List.mem_append_left _ (List.mem_append_left _ (List.mem_append_left _ (List.mem_append_left _ (List.mem_append_left _ (List.mem_append_left _ (List.mem_append_right _ (List.mem_append_right _ (List.mem_append_right _ (List.mem_append_right _ (List.mem_append_right _ (List.mem_append_right _ (List.mem_append_right _ (List.mem_append_right _ (List.mem_append_right _ (List.mem_append_right _ (List.mem_append_right _ (List.mem_append_right _ (List.mem_append_right _ (List.mem_append_right _ (List.mem_append_right _ (List.mem_append_right _ (List.mem_append_right _ (List.mem_append_right _ (List.mem_append_right _ (List.mem_append_right _ (List.mem_append_right _ (List.mem_append_right _ (List.mem_append_right _ (List.mem_append_right _ (List.mem_append_left _ (h))))))))))))))))))))))))))))))))))
theorem wsL_i26 {w : Cond} (h : w ∈ wsL_law_r26) : w ∈ wsL_law := List.mem_append_left _ (List.mem_append_left _ (List.mem_append_left _ (List.mem_append_left _ (List.mem_append_left _ (List.mem_append_left _ (List.mem_append_left _ (List.mem_append_left _ (List.mem_append_left _ (List.mem_append_right _ (List.mem_append_right _ (List.mem_append_right _ (List.mem_append_right _ (List.mem_append_right _ (List.mem_append_right _ (List.mem_append_right _ (List.mem_append_right _ (List.mem_append_right _ (List.mem_append_right _ (List.mem_append_right _ (List.mem_append_right _ (List.mem_append_right _ (List.mem_append_right _ (List.mem_append_right _ (List.mem_append_right _ (List.mem_append_right _ (List.mem_append_right _ (List.mem_append_right _ (List.mem_append_right _ (List.mem_append_right _ (List.mem_append_right _ (List.mem_append_right _ (List.mem_append_right _ (List.mem_append_right _ (List.mem_append_left _ (h)))))))))))))))))))))))))))))))))))
theorem wsL_i27 {w : Cond} (h : w ∈ wsL_law_r27) : w ∈ wsL_law := List.mem_append_left _ (List.mem_append_left _ (List.mem_append_left _ (List.mem_append_left _ (List.mem_append_left _ (List.mem_append_left _ (List.mem_append_left _ (List.mem_append_left _ (List.mem_append_left _ (List.mem_append_right _ (List.mem_append_right _ (List.mem_append_right _ (List.mem_append_right _ (List.mem_append_right _ (List.mem_append_right _ (List.mem_append_right _ (List.mem_append_right _ (List.mem_append_right _ (List.mem_append_right _ (List.mem_append_right _ (List.mem_append_right _ (List.mem_append_right _ (List.mem_append_right _ (List.mem_append_right _ (List.mem_append_right _ (List.mem_append_right _ (List.mem_append_right _ (List.mem_append_right _ (List.mem_append_right _ (List.mem_append_right _ (List.mem_append_right _ (List.mem_append_right _ (List.mem_append_right _ (List.mem_append_right _ (List.mem_append_right _ (List.mem_append_left _ (h))))))))))))))))))))))))))))))))))))
theorem wsL_i28 {w : Cond} (h : w ∈ wsL_law_r28) : w ∈ wsL_law := List.mem_append_left _ (List.mem_append_left _ (List.mem_append_left _ (List.mem_append_left _ (List.mem_append_left _ (List.mem_append_left _ (List.mem_append_left _ (List.mem_append_left _ (List.mem_append_left _ (List.mem_append_right _ (List.mem_append_right _ (List.mem_append_right _ (List.mem_append_right _ (List.mem_append_right _ (List.mem_append_right _ (List.mem_append_right _ (List.mem_append_right _ (List.mem_append_right _ (List.mem_append_right _ (List.mem_append_right _ (List.mem_append_right _ (List.mem_append_right _ (List.mem_append_right _ (List.mem_append_right _ (List.mem_append_right _ (List.mem_append_right _ (List.mem_append_right _ (List.mem_append_right _ (List.mem_append_right _ (List.mem_append_right _ (List.mem_append_right _ (List.mem_append_right _ (List.mem_append_right _ (List.mem_append_right _ (List.mem_append_right _ (List.mem_append_right _ (h))))))))))))))))))))))))))))))))))))
theorem inlX0 : ∀ w ∈ wsX00, w ∈ wsL_law := fun _ h => List.mem_append_left _ (List.mem_append_left _ (List.mem_append_left _ (List.mem_append_right _ h)))
theorem inX0 : ∀ w ∈ wsX00, w ∈ lw_tbl := fun w h => wsL_law_in w (inlX0 w h)
theorem inlX1 : ∀ w ∈ wsX10, w ∈ wsL_law := fun _ h => List.mem_append_left _ (List.mem_append_left _ (List.mem_append_right _ h))
theorem inX1 : ∀ w ∈ wsX10, w ∈ lw_tbl := fun w h => wsL_law_in w (inlX1 w h)
theorem inlX2 : ∀ w ∈ wsX20, w ∈ wsL_law := fun _ h => List.mem_append_left _ (List.mem_append_left _ (List.mem_append_left _ (List.mem_append_left _ (List.mem_append_left _ (List.mem_append_right _ h)))))
theorem inX2 : ∀ w ∈ wsX20, w ∈ lw_tbl := fun w h => wsL_law_in w (inlX2 w h)
theorem inlX3 : ∀ w ∈ wsX30, w ∈ wsL_law := fun _ h => List.mem_append_left _ (List.mem_append_right _ h)
theorem inX3 : ∀ w ∈ wsX30, w ∈ lw_tbl := fun w h => wsL_law_in w (inlX3 w h)
theorem inlX4 : ∀ w ∈ wsX40, w ∈ wsL_law := fun _ h => List.mem_append_left _ (List.mem_append_left _ (List.mem_append_left _ (List.mem_append_left _ (List.mem_append_left _ (List.mem_append_left _ (List.mem_append_right _ h))))))
theorem inX4 : ∀ w ∈ wsX40, w ∈ lw_tbl := fun w h => wsL_law_in w (inlX4 w h)
theorem inlX5 : ∀ w ∈ wsX50, w ∈ wsL_law := fun _ h => List.mem_append_left _ (List.mem_append_left _ (List.mem_append_left _ (List.mem_append_left _ (List.mem_append_right _ h))))
theorem inX5 : ∀ w ∈ wsX50, w ∈ lw_tbl := fun w h => wsL_law_in w (inlX5 w h)
theorem inlX6 : ∀ w ∈ wsX60, w ∈ wsL_law := fun _ h => List.mem_append_left _ (List.mem_append_left _ (List.mem_append_left _ (List.mem_append_left _ (List.mem_append_left _ (List.mem_append_left _ (List.mem_append_left _ (List.mem_append_left _ (List.mem_append_right _ h))))))))
theorem inX6 : ∀ w ∈ wsX60, w ∈ lw_tbl := fun w h => wsL_law_in w (inlX6 w h)
theorem inlX7 : ∀ w ∈ wsX70, w ∈ wsL_law := fun _ h => List.mem_append_left _ (List.mem_append_left _ (List.mem_append_left _ (List.mem_append_left _ (List.mem_append_left _ (List.mem_append_left _ (List.mem_append_left _ (List.mem_append_right _ h)))))))
theorem inX7 : ∀ w ∈ wsX70, w ∈ lw_tbl := fun w h => wsL_law_in w (inlX7 w h)
theorem dX0_init_0 : decode cX0_init 0 = .ok (.aload_n 0, 1) := by decide +kernel
theorem dX0_init_1 : decode cX0_init 1 = .ok (.invokespecial 3, 3) := by decide +kernel
theorem dX0_init_4 : decode cX0_init 4 = .ok (.aload_n 0, 1) := by decide +kernel
theorem dX0_init_5 : decode cX0_init 5 = .ok (.bipush 30, 2) := by decide +kernel
theorem dX0_init_7 : decode cX0_init 7 = .ok (.newarray .int, 2) := by decide +kernel
theorem dX0_init_9 : decode cX0_init 9 = .ok (.putfield 9, 3) := by decide +kernel
theorem dX0_init_12 : decode cX0_init 12 = .ok (.aload_n 0, 1) := by decide +kernel
theorem dX0_init_13 : decode cX0_init 13 = .ok (.bipush 30, 2) := by decide +kernel
theorem dX0_init_15 : decode cX0_init 15 = .ok (.newarray .int, 2) := by decide +kernel
theorem dX0_init_17 : decode cX0_init 17 = .ok (.putfield 15, 3) := by decide +kernel
theorem dX0_init_20 : decode cX0_init 20 = .ok (.aload_n 0, 1) := by decide +kernel
theorem dX0_init_21 : decode cX0_init 21 = .ok (.aload_n 1, 1) := by decide +kernel
theorem dX0_init_22 : decode cX0_init 22 = .ok (.putfield 18, 3) := by decide +kernel
theorem dX0_init_25 : decode cX0_init 25 = .ok (.aload_n 0, 1) := by decide +kernel
theorem dX0_init_26 : decode cX0_init 26 = .ok (.aload_n 2, 1) := by decide +kernel
theorem dX0_init_27 : decode cX0_init 27 = .ok (.putfield 22, 3) := by decide +kernel
theorem dX0_init_30 : decode cX0_init 30 = .ok (.return_, 1) := by decide +kernel
theorem dX1_init_0 : decode cX1_init 0 = .ok (.aload_n 0, 1) := by decide +kernel
theorem dX1_init_1 : decode cX1_init 1 = .ok (.invokespecial 3, 3) := by decide +kernel
theorem dX1_init_4 : decode cX1_init 4 = .ok (.aload_n 0, 1) := by decide +kernel
theorem dX1_init_5 : decode cX1_init 5 = .ok (.bipush 31, 2) := by decide +kernel
theorem dX1_init_7 : decode cX1_init 7 = .ok (.newarray .int, 2) := by decide +kernel
theorem dX1_init_9 : decode cX1_init 9 = .ok (.putfield 9, 3) := by decide +kernel
theorem dX1_init_12 : decode cX1_init 12 = .ok (.aload_n 0, 1) := by decide +kernel
theorem dX1_init_13 : decode cX1_init 13 = .ok (.sipush 150, 3) := by decide +kernel
theorem dX1_init_16 : decode cX1_init 16 = .ok (.newarray .int, 2) := by decide +kernel
theorem dX1_init_18 : decode cX1_init 18 = .ok (.putfield 15, 3) := by decide +kernel
theorem dX1_init_21 : decode cX1_init 21 = .ok (.aload_n 0, 1) := by decide +kernel
theorem dX1_init_22 : decode cX1_init 22 = .ok (.sipush 150, 3) := by decide +kernel
theorem dX1_init_25 : decode cX1_init 25 = .ok (.newarray .int, 2) := by decide +kernel
theorem dX1_init_27 : decode cX1_init 27 = .ok (.putfield 18, 3) := by decide +kernel
theorem dX1_init_30 : decode cX1_init 30 = .ok (.aload_n 0, 1) := by decide +kernel
theorem dX1_init_31 : decode cX1_init 31 = .ok (.sipush 150, 3) := by decide +kernel
theorem dX1_init_34 : decode cX1_init 34 = .ok (.newarray .int, 2) := by decide +kernel
theorem dX1_init_36 : decode cX1_init 36 = .ok (.putfield 21, 3) := by decide +kernel
theorem dX1_init_39 : decode cX1_init 39 = .ok (.aload_n 0, 1) := by decide +kernel
theorem dX1_init_40 : decode cX1_init 40 = .ok (.sipush 150, 3) := by decide +kernel
theorem dX1_init_43 : decode cX1_init 43 = .ok (.newarray .int, 2) := by decide +kernel
theorem dX1_init_45 : decode cX1_init 45 = .ok (.putfield 24, 3) := by decide +kernel
theorem dX1_init_48 : decode cX1_init 48 = .ok (.aload_n 0, 1) := by decide +kernel
theorem dX1_init_49 : decode cX1_init 49 = .ok (.bipush 32, 2) := by decide +kernel
theorem dX1_init_51 : decode cX1_init 51 = .ok (.bipush 31, 2) := by decide +kernel
theorem dX1_init_53 : decode cX1_init 53 = .ok (.multianewarray 27 2, 4) := by decide +kernel
theorem dX1_init_57 : decode cX1_init 57 = .ok (.putfield 29, 3) := by decide +kernel
theorem dX1_init_60 : decode cX1_init 60 = .ok (.aload_n 0, 1) := by decide +kernel
theorem dX1_init_61 : decode cX1_init 61 = .ok (.aload_n 1, 1) := by decide +kernel
theorem dX1_init_62 : decode cX1_init 62 = .ok (.putfield 32, 3) := by decide +kernel
theorem dX1_init_65 : decode cX1_init 65 = .ok (.return_, 1) := by decide +kernel
theorem dX2_init_0 : decode cX2_init 0 = .ok (.aload_n 0, 1) := by decide +kernel
theorem dX2_init_1 : decode cX2_init 1 = .ok (.invokespecial 3, 3) := by decide +kernel
theorem dX2_init_4 : decode cX2_init 4 = .ok (.aload_n 0, 1) := by decide +kernel
theorem dX2_init_5 : decode cX2_init 5 = .ok (.bipush 30, 2) := by decide +kernel
theorem dX2_init_7 : decode cX2_init 7 = .ok (.newarray .int, 2) := by decide +kernel
theorem dX2_init_9 : decode cX2_init 9 = .ok (.putfield 9, 3) := by decide +kernel
theorem dX2_init_12 : decode cX2_init 12 = .ok (.return_, 1) := by decide +kernel
theorem dX3_init_0 : decode cX3_init 0 = .ok (.aload_n 0, 1) := by decide +kernel
theorem dX3_init_1 : decode cX3_init 1 = .ok (.invokespecial 3, 3) := by decide +kernel
theorem dX3_init_4 : decode cX3_init 4 = .ok (.aload_n 0, 1) := by decide +kernel
theorem dX3_init_5 : decode cX3_init 5 = .ok (.bipush 30, 2) := by decide +kernel
theorem dX3_init_7 : decode cX3_init 7 = .ok (.newarray .int, 2) := by decide +kernel
theorem dX3_init_9 : decode cX3_init 9 = .ok (.putfield 9, 3) := by decide +kernel
theorem dX3_init_12 : decode cX3_init 12 = .ok (.aload_n 0, 1) := by decide +kernel
theorem dX3_init_13 : decode cX3_init 13 = .ok (.bipush 16, 2) := by decide +kernel
theorem dX3_init_15 : decode cX3_init 15 = .ok (.newarray .int, 2) := by decide +kernel
theorem dX3_init_17 : decode cX3_init 17 = .ok (.putfield 15, 3) := by decide +kernel
theorem dX3_init_20 : decode cX3_init 20 = .ok (.aload_n 0, 1) := by decide +kernel
theorem dX3_init_21 : decode cX3_init 21 = .ok (.bipush 30, 2) := by decide +kernel
theorem dX3_init_23 : decode cX3_init 23 = .ok (.newarray .int, 2) := by decide +kernel
theorem dX3_init_25 : decode cX3_init 25 = .ok (.putfield 18, 3) := by decide +kernel
theorem dX3_init_28 : decode cX3_init 28 = .ok (.aload_n 0, 1) := by decide +kernel
theorem dX3_init_29 : decode cX3_init 29 = .ok (.bipush 16, 2) := by decide +kernel
theorem dX3_init_31 : decode cX3_init 31 = .ok (.newarray .int, 2) := by decide +kernel
theorem dX3_init_33 : decode cX3_init 33 = .ok (.putfield 21, 3) := by decide +kernel
theorem dX3_init_36 : decode cX3_init 36 = .ok (.aload_n 0, 1) := by decide +kernel
theorem dX3_init_37 : decode cX3_init 37 = .ok (.aload_n 1, 1) := by decide +kernel
theorem dX3_init_38 : decode cX3_init 38 = .ok (.putfield 24, 3) := by decide +kernel
theorem dX3_init_41 : decode cX3_init 41 = .ok (.return_, 1) := by decide +kernel
theorem dX4_init_0 : decode cX4_init 0 = .ok (.aload_n 0, 1) := by decide +kernel
theorem dX4_init_1 : decode cX4_init 1 = .ok (.invokespecial 3, 3) := by decide +kernel
theorem dX4_init_4 : decode cX4_init 4 = .ok (.aload_n 0, 1) := by decide +kernel
theorem dX4_init_5 : decode cX4_init 5 = .ok (.bipush 30, 2) := by decide +kernel
theorem dX4_init_7 : decode cX4_init 7 = .ok (.newarray .int, 2) := by decide +kernel
theorem dX4_init_9 : decode cX4_init 9 = .ok (.putfield 9, 3) := by decide +kernel
theorem dX4_init_12 : decode cX4_init 12 = .ok (.aload_n 0, 1) := by decide +kernel
theorem dX4_init_13 : decode cX4_init 13 = .ok (.bipush 120, 2) := by decide +kernel
theorem dX4_init_15 : decode cX4_init 15 = .ok (.newarray .int, 2) := by decide +kernel
theorem dX4_init_17 : decode cX4_init 17 = .ok (.putfield 15, 3) := by decide +kernel
theorem dX4_init_20 : decode cX4_init 20 = .ok (.aload_n 0, 1) := by decide +kernel
theorem dX4_init_21 : decode cX4_init 21 = .ok (.bipush 120, 2) := by decide +kernel
theorem dX4_init_23 : decode cX4_init 23 = .ok (.newarray .int, 2) := by decide +kernel
theorem dX4_init_25 : decode cX4_init 25 = .ok (.putfield 18, 3) := by decide +kernel
theorem dX4_init_28 : decode cX4_init 28 = .ok (.aload_n 0, 1) := by decide +kernel
theorem dX4_init_29 : decode cX4_init 29 = .ok (.bipush 120, 2) := by decide +kernel
theorem dX4_init_31 : decode cX4_init 31 = .ok (.newarray .int, 2) := by decide +kernel
theorem dX4_init_33 : decode cX4_init 33 = .ok (.putfield 21, 3) := by decide +kernel
theorem dX4_init_36 : decode cX4_init 36 = .ok (.aload_n 0, 1) := by decide +kernel
theorem dX4_init_37 : decode cX4_init 37 = .ok (.bipush 120, 2) := by decide +kernel
theorem dX4_init_39 : decode cX4_init 39 = .ok (.newarray .boolean, 2) := by decide +kernel
theorem dX4_init_41 : decode cX4_init 41 = .ok (.putfield 24, 3) := by decide +kernel
theorem dX4_init_44 : decode cX4_init 44 = .ok (.return_, 1) := by decide +kernel
theorem dX5_init_0 : decode cX5_init 0 = .ok (.aload_n 0, 1) := by decide +kernel
theorem dX5_init_1 : decode cX5_init 1 = .ok (.invokespecial 3, 3) := by decide +kernel
theorem dX5_init_4 : decode cX5_init 4 = .ok (.aload_n 0, 1) := by decide +kernel
theorem dX5_init_5 : decode cX5_init 5 = .ok (.bipush 31, 2) := by decide +kernel
theorem dX5_init_7 : decode cX5_init 7 = .ok (.newarray .int, 2) := by decide +kernel
theorem dX5_init_9 : decode cX5_init 9 = .ok (.putfield 9, 3) := by decide +kernel
theorem dX5_init_12 : decode cX5_init 12 = .ok (.aload_n 0, 1) := by decide +kernel
theorem dX5_init_13 : decode cX5_init 13 = .ok (.bipush 31, 2) := by decide +kernel
theorem dX5_init_15 : decode cX5_init 15 = .ok (.newarray .int, 2) := by decide +kernel
theorem dX5_init_17 : decode cX5_init 17 = .ok (.putfield 15, 3) := by decide +kernel
theorem dX5_init_20 : decode cX5_init 20 = .ok (.aload_n 0, 1) := by decide +kernel
theorem dX5_init_21 : decode cX5_init 21 = .ok (.aload_n 1, 1) := by decide +kernel
theorem dX5_init_22 : decode cX5_init 22 = .ok (.putfield 18, 3) := by decide +kernel
theorem dX5_init_25 : decode cX5_init 25 = .ok (.return_, 1) := by decide +kernel
theorem dX6_init_0 : decode cX6_init 0 = .ok (.aload_n 0, 1) := by decide +kernel
theorem dX6_init_1 : decode cX6_init 1 = .ok (.invokespecial 3, 3) := by decide +kernel
theorem dX6_init_4 : decode cX6_init 4 = .ok (.aload_n 0, 1) := by decide +kernel
theorem dX6_init_5 : decode cX6_init 5 = .ok (.new 9, 3) := by decide +kernel
theorem dX6_init_8 : decode cX6_init 8 = .ok (.dup, 1) := by decide +kernel
theorem dX6_init_9 : decode cX6_init 9 = .ok (.invokespecial 11, 3) := by decide +kernel
theorem dX6_init_12 : decode cX6_init 12 = .ok (.putfield 12, 3) := by decide +kernel
theorem dX6_init_15 : decode cX6_init 15 = .ok (.aload_n 0, 1) := by decide +kernel
theorem dX6_init_16 : decode cX6_init 16 = .ok (.new 16, 3) := by decide +kernel
theorem dX6_init_19 : decode cX6_init 19 = .ok (.dup, 1) := by decide +kernel
theorem dX6_init_20 : decode cX6_init 20 = .ok (.invokespecial 18, 3) := by decide +kernel
theorem dX6_init_23 : decode cX6_init 23 = .ok (.putfield 19, 3) := by decide +kernel
theorem dX6_init_26 : decode cX6_init 26 = .ok (.aload_n 0, 1) := by decide +kernel
theorem dX6_init_27 : decode cX6_init 27 = .ok (.new 23, 3) := by decide +kernel
theorem dX6_init_30 : decode cX6_init 30 = .ok (.dup, 1) := by decide +kernel
theorem dX6_init_31 : decode cX6_init 31 = .ok (.aload_n 0, 1) := by decide +kernel
theorem dX6_init_32 : decode cX6_init 32 = .ok (.getfield 12, 3) := by decide +kernel
theorem dX6_init_35 : decode cX6_init 35 = .ok (.invokespecial 25, 3) := by decide +kernel
theorem dX6_init_38 : decode cX6_init 38 = .ok (.putfield 28, 3) := by decide +kernel
theorem dX6_init_41 : decode cX6_init 41 = .ok (.aload_n 0, 1) := by decide +kernel
theorem dX6_init_42 : decode cX6_init 42 = .ok (.new 23, 3) := by decide +kernel
theorem dX6_init_45 : decode cX6_init 45 = .ok (.dup, 1) := by decide +kernel
theorem dX6_init_46 : decode cX6_init 46 = .ok (.aload_n 0, 1) := by decide +kernel
theorem dX6_init_47 : decode cX6_init 47 = .ok (.getfield 12, 3) := by decide +kernel
theorem dX6_init_50 : decode cX6_init 50 = .ok (.invokespecial 25, 3) := by decide +kernel
theorem dX6_init_53 : decode cX6_init 53 = .ok (.putfield 32, 3) := by decide +kernel
theorem dX6_init_56 : decode cX6_init 56 = .ok (.aload_n 0, 1) := by decide +kernel
theorem dX6_init_57 : decode cX6_init 57 = .ok (.new 35, 3) := by decide +kernel
theorem dX6_init_60 : decode cX6_init 60 = .ok (.dup, 1) := by decide +kernel
theorem dX6_init_61 : decode cX6_init 61 = .ok (.aload_n 0, 1) := by decide +kernel
theorem dX6_init_62 : decode cX6_init 62 = .ok (.getfield 12, 3) := by decide +kernel
theorem dX6_init_65 : decode cX6_init 65 = .ok (.aload_n 0, 1) := by decide +kernel
theorem dX6_init_66 : decode cX6_init 66 = .ok (.getfield 28, 3) := by decide +kernel
theorem dX6_init_69 : decode cX6_init 69 = .ok (.invokespecial 37, 3) := by decide +kernel
theorem dX6_init_72 : decode cX6_init 72 = .ok (.putfield 40, 3) := by decide +kernel
theorem dX6_init_75 : decode cX6_init 75 = .ok (.aload_n 0, 1) := by decide +kernel
theorem dX6_init_76 : decode cX6_init 76 = .ok (.new 44, 3) := by decide +kernel
theorem dX6_init_79 : decode cX6_init 79 = .ok (.dup, 1) := by decide +kernel
theorem dX6_init_80 : decode cX6_init 80 = .ok (.aload_n 0, 1) := by decide +kernel
theorem dX6_init_81 : decode cX6_init 81 = .ok (.getfield 12, 3) := by decide +kernel
theorem dX6_init_84 : decode cX6_init 84 = .ok (.invokespecial 46, 3) := by decide +kernel
theorem dX6_init_87 : decode cX6_init 87 = .ok (.putfield 47, 3) := by decide +kernel
theorem dX6_init_90 : decode cX6_init 90 = .ok (.aload_n 0, 1) := by decide +kernel
theorem dX6_init_91 : decode cX6_init 91 = .ok (.new 51, 3) := by decide +kernel
theorem dX6_init_94 : decode cX6_init 94 = .ok (.dup, 1) := by decide +kernel
theorem dX6_init_95 : decode cX6_init 95 = .ok (.aload_n 0, 1) := by decide +kernel
theorem dX6_init_96 : decode cX6_init 96 = .ok (.getfield 19, 3) := by decide +kernel
theorem dX6_init_99 : decode cX6_init 99 = .ok (.getfield 53, 3) := by decide +kernel
theorem dX6_init_102 : decode cX6_init 102 = .ok (.invokespecial 57, 3) := by decide +kernel
theorem dX6_init_105 : decode cX6_init 105 = .ok (.putfield 60, 3) := by decide +kernel
theorem dX6_init_108 : decode cX6_init 108 = .ok (.aload_n 0, 1) := by decide +kernel
theorem dX6_init_109 : decode cX6_init 109 = .ok (.iconst (-1), 1) := by decide +kernel
theorem dX6_init_110 : decode cX6_init 110 = .ok (.putfield 64, 3) := by decide +kernel
theorem dX6_init_113 : decode cX6_init 113 = .ok (.aload_n 0, 1) := by decide +kernel
theorem dX6_init_114 : decode cX6_init 114 = .ok (.iconst 0, 1) := by decide +kernel
theorem dX6_init_115 : decode cX6_init 115 = .ok (.putfield 68, 3) := by decide +kernel
theorem dX6_init_118 : decode cX6_init 118 = .ok (.return_, 1) := by decide +kernel
theorem dX7_init_0 : decode cX7_init 0 = .ok (.aload_n 0, 1) := by decide +kernel
theorem dX7_init_1 : decode cX7_init 1 = .ok (.invokespecial 1, 3) := by decide +kernel
theorem dX7_init_4 : decode cX7_init 4 = .ok (.aload_n 0, 1) := by decide +kernel
theorem dX7_init_5 : decode cX7_init 5 = .ok (.bipush 30, 2) := by decide +kernel
theorem dX7_init_7 : decode cX7_init 7 = .ok (.newarray .int, 2) := by decide +kernel
theorem dX7_init_9 : decode cX7_init 9 = .ok (.putfield 7, 3) := by decide +kernel
theorem dX7_init_12 : decode cX7_init 12 = .ok (.aload_n 0, 1) := by decide +kernel
theorem dX7_init_13 : decode cX7_init 13 = .ok (.bipush 120, 2) := by decide +kernel
theorem dX7_init_15 : decode cX7_init 15 = .ok (.newarray .int, 2) := by decide +kernel
theorem dX7_init_17 : decode cX7_init 17 = .ok (.putfield 13, 3) := by decide +kernel
theorem dX7_init_20 : decode cX7_init 20 = .ok (.aload_n 0, 1) := by decide +kernel
theorem dX7_init_21 : decode cX7_init 21 = .ok (.bipush 120, 2) := by decide +kernel
theorem dX7_init_23 : decode cX7_init 23 = .ok (.newarray .int, 2) := by decide +kernel
theorem dX7_init_25 : decode cX7_init 25 = .ok (.putfield 16, 3) := by decide +kernel
theorem dX7_init_28 : decode cX7_init 28 = .ok (.aload_n 0, 1) := by decide +kernel
theorem dX7_init_29 : decode cX7_init 29 = .ok (.bipush 120, 2) := by decide +kernel
theorem dX7_init_31 : decode cX7_init 31 = .ok (.newarray .int, 2) := by decide +kernel
theorem dX7_init_33 : decode cX7_init 33 = .ok (.putfield 19, 3) := by decide +kernel
theorem dX7_init_36 : decode cX7_init 36 = .ok (.aload_n 0, 1) := by decide +kernel
theorem dX7_init_37 : decode cX7_init 37 = .ok (.bipush 120, 2) := by decide +kernel
theorem dX7_init_39 : decode cX7_init 39 = .ok (.newarray .boolean, 2) := by decide +kernel
theorem dX7_init_41 : decode cX7_init 41 = .ok (.putfield 22, 3) := by decide +kernel
theorem dX7_init_44 : decode cX7_init 44 = .ok (.aload_n 0, 1) := by decide +kernel
theorem dX7_init_45 : decode cX7_init 45 = .ok (.bipush 30, 2) := by decide +kernel
theorem dX7_init_47 : decode cX7_init 47 = .ok (.newarray .int, 2) := by decide +kernel
theorem dX7_init_49 : decode cX7_init 49 = .ok (.putfield 26, 3) := by decide +kernel
theorem dX7_init_52 : decode cX7_init 52 = .ok (.aload_n 0, 1) := by decide +kernel
theorem dX7_init_53 : decode cX7_init 53 = .ok (.bipush 30, 2) := by decide +kernel
theorem dX7_init_55 : decode cX7_init 55 = .ok (.newarray .int, 2) := by decide +kernel
theorem dX7_init_57 : decode cX7_init 57 = .ok (.putfield 29, 3) := by decide +kernel
theorem dX7_init_60 : decode cX7_init 60 = .ok (.aload_n 0, 1) := by decide +kernel
theorem dX7_init_61 : decode cX7_init 61 = .ok (.bipush 30, 2) := by decide +kernel
theorem dX7_init_63 : decode cX7_init 63 = .ok (.newarray .int, 2) := by decide +kernel
theorem dX7_init_65 : decode cX7_init 65 = .ok (.putfield 32, 3) := by decide +kernel
theorem dX7_init_68 : decode cX7_init 68 = .ok (.aload_n 0, 1) := by decide +kernel
theorem dX7_init_69 : decode cX7_init 69 = .ok (.sipush 30752, 3) := by decide +kernel
theorem dX7_init_72 : decode cX7_init 72 = .ok (.newarray .int, 2) := by decide +kernel
theorem dX7_init_74 : decode cX7_init 74 = .ok (.putfield 35, 3) := by decide +kernel
theorem dX7_init_77 : decode cX7_init 77 = .ok (.aload_n 0, 1) := by decide +kernel
theorem dX7_init_78 : decode cX7_init 78 = .ok (.bipush 40, 2) := by decide +kernel
theorem dX7_init_80 : decode cX7_init 80 = .ok (.newarray .int, 2) := by decide +kernel
theorem dX7_init_82 : decode cX7_init 82 = .ok (.putfield 38, 3) := by decide +kernel
theorem dX7_init_85 : decode cX7_init 85 = .ok (.aload_n 0, 1) := by decide +kernel
theorem dX7_init_86 : decode cX7_init 86 = .ok (.bipush 30, 2) := by decide +kernel
theorem dX7_init_88 : decode cX7_init 88 = .ok (.newarray .int, 2) := by decide +kernel
theorem dX7_init_90 : decode cX7_init 90 = .ok (.putfield 41, 3) := by decide +kernel
theorem dX7_init_93 : decode cX7_init 93 = .ok (.aload_n 0, 1) := by decide +kernel
theorem dX7_init_94 : decode cX7_init 94 = .ok (.bipush 30, 2) := by decide +kernel
theorem dX7_init_96 : decode cX7_init 96 = .ok (.newarray .int, 2) := by decide +kernel
theorem dX7_init_98 : decode cX7_init 98 = .ok (.putfield 44, 3) := by decide +kernel
theorem dX7_init_101 : decode cX7_init 101 = .ok (.aload_n 0, 1) := by decide +kernel
theorem dX7_init_102 : decode cX7_init 102 = .ok (.iconst (-1), 1) := by decide +kernel
theorem dX7_init_103 : decode cX7_init 103 = .ok (.putfield 47, 3) := by decide +kernel
theorem dX7_init_106 : decode cX7_init 106 = .ok (.aload_n 0, 1) := by decide +kernel
theorem dX7_init_107 : decode cX7_init 107 = .ok (.iconst 1, 1) := by decide +kernel
theorem dX7_init_108 : decode cX7_init 108 = .ok (.putfield 51, 3) := by decide +kernel
theorem dX7_init_111 : decode cX7_init 111 = .ok (.aload_n 0, 1) := by decide +kernel
theorem dX7_init_112 : decode cX7_init 112 = .ok (.bipush 30, 2) := by decide +kernel
theorem dX7_init_114 : decode cX7_init 114 = .ok (.newarray .int, 2) := by decide +kernel
theorem dX7_init_116 : decode cX7_init 116 = .ok (.putfield 55, 3) := by decide +kernel
theorem dX7_init_119 : decode cX7_init 119 = .ok (.aload_n 0, 1) := by decide +kernel
theorem dX7_init_120 : decode cX7_init 120 = .ok (.bipush 30, 2) := by decide +kernel
theorem dX7_init_122 : decode cX7_init 122 = .ok (.newarray .int, 2) := by decide +kernel
theorem dX7_init_124 : decode cX7_init 124 = .ok (.putfield 58, 3) := by decide +kernel
theorem dX7_init_127 : decode cX7_init 127 = .ok (.aload_n 0, 1) := by decide +kernel
theorem dX7_init_128 : decode cX7_init 128 = .ok (.iconst 1, 1) := by decide +kernel
theorem dX7_init_129 : decode cX7_init 129 = .ok (.putfield 61, 3) := by decide +kernel
theorem dX7_init_132 : decode cX7_init 132 = .ok (.aload_n 0, 1) := by decide +kernel
theorem dX7_init_133 : decode cX7_init 133 = .ok (.bipush 30, 2) := by decide +kernel
theorem dX7_init_135 : decode cX7_init 135 = .ok (.newarray .int, 2) := by decide +kernel
theorem dX7_init_137 : decode cX7_init 137 = .ok (.putfield 64, 3) := by decide +kernel
theorem dX7_init_140 : decode cX7_init 140 = .ok (.aload_n 0, 1) := by decide +kernel
theorem dX7_init_141 : decode cX7_init 141 = .ok (.bipush 16, 2) := by decide +kernel
theorem dX7_init_143 : decode cX7_init 143 = .ok (.newarray .int, 2) := by decide +kernel
theorem dX7_init_145 : decode cX7_init 145 = .ok (.putfield 67, 3) := by decide +kernel
theorem dX7_init_148 : decode cX7_init 148 = .ok (.aload_n 0, 1) := by decide +kernel
theorem dX7_init_149 : decode cX7_init 149 = .ok (.bipush 16, 2) := by decide +kernel
theorem dX7_init_151 : decode cX7_init 151 = .ok (.newarray .int, 2) := by decide +kernel
theorem dX7_init_153 : decode cX7_init 153 = .ok (.putfield 70, 3) := by decide +kernel
theorem dX7_init_156 : decode cX7_init 156 = .ok (.aload_n 0, 1) := by decide +kernel
theorem dX7_init_157 : decode cX7_init 157 = .ok (.bipush 40, 2) := by decide +kernel
theorem dX7_init_159 : decode cX7_init 159 = .ok (.newarray .int, 2) := by decide +kernel
theorem dX7_init_161 : decode cX7_init 161 = .ok (.putfield 73, 3) := by decide +kernel
theorem dX7_init_164 : decode cX7_init 164 = .ok (.return_, 1) := by decide +kernel
theorem dL_law_0 : decode cL_law 0 = .ok (.new 7, 3) := by decide +kernel
theorem dL_law_3 : decode cL_law 3 = .ok (.dup, 1) := by decide +kernel
theorem dL_law_4 : decode cL_law 4 = .ok (.invokespecial 9, 3) := by decide +kernel
theorem dL_law_7 : decode cL_law 7 = .ok (.astore_n 1, 1) := by decide +kernel
theorem dL_law_8 : decode cL_law 8 = .ok (.new 10, 3) := by decide +kernel
theorem dL_law_11 : decode cL_law 11 = .ok (.dup, 1) := by decide +kernel
theorem dL_law_12 : decode cL_law 12 = .ok (.invokespecial 12, 3) := by decide +kernel
theorem dL_law_15 : decode cL_law 15 = .ok (.astore_n 2, 1) := by decide +kernel
theorem dL_law_16 : decode cL_law 16 = .ok (.iconst 0, 1) := by decide +kernel
theorem dL_law_17 : decode cL_law 17 = .ok (.istore_n 3, 1) := by decide +kernel
theorem dL_law_18 : decode cL_law 18 = .ok (.iload_n 3, 1) := by decide +kernel
theorem dL_law_19 : decode cL_law 19 = .ok (.aload_n 0, 1) := by decide +kernel
theorem dL_law_20 : decode cL_law 20 = .ok (.arraylength, 1) := by decide +kernel
theorem dL_law_21 : decode cL_law 21 = .ok (.iconst 4, 1) := by decide +kernel
theorem dL_law_22 : decode cL_law 22 = .ok (.isub, 1) := by decide +kernel
theorem dL_law_23 : decode cL_law 23 = .ok (.if_icmp .gt 530, 3) := by decide +kernel
theorem dL_law_26 : decode cL_law 26 = .ok (.aload_n 0, 1) := by decide +kernel
theorem dL_law_27 : decode cL_law 27 = .ok (.iload_n 3, 1) := by decide +kernel
theorem dL_law_28 : decode cL_law 28 = .ok (.iaload, 1) := by decide +kernel
theorem dL_law_29 : decode cL_law 29 = .ok (.bipush 31, 2) := by decide +kernel
theorem dL_law_31 : decode cL_law 31 = .ok (.iand, 1) := by decide +kernel
theorem dL_law_32 : decode cL_law 32 = .ok (.tableswitch 515 0 16 #[84, 107, 150, 173, 186, 219, 232, 265, 278, 311, 344, 367, 390, 413, 436, 469, 492], 84) := by decide +kernel
theorem dL_law_116 : decode cL_law 116 = .ok (.aload_n 1, 1) := by decide +kernel
theorem dL_law_117 : decode cL_law 117 = .ok (.aload_n 0, 1) := by decide +kernel
theorem dL_law_118 : decode cL_law 118 = .ok (.iload_n 3, 1) := by decide +kernel
theorem dL_law_119 : decode cL_law 119 = .ok (.iconst 1, 1) := by decide +kernel
theorem dL_law_120 : decode cL_law 120 = .ok (.iadd, 1) := by decide +kernel
theorem dL_law_121 : decode cL_law 121 = .ok (.iaload, 1) := by decide +kernel
theorem dL_law_122 : decode cL_law 122 = .ok (.invokevirtual 13, 3) := by decide +kernel
theorem dL_law_125 : decode cL_law 125 = .ok (.aload_n 2, 1) := by decide +kernel
theorem dL_law_126 : decode cL_law 126 = .ok (.aload_n 0, 1) := by decide +kernel
theorem dL_law_127 : decode cL_law 127 = .ok (.iload_n 3, 1) := by decide +kernel
theorem dL_law_128 : decode cL_law 128 = .ok (.iconst 1, 1) := by decide +kernel
theorem dL_law_129 : decode cL_law 129 = .ok (.iadd, 1) := by decide +kernel
theorem dL_law_130 : decode cL_law 130 = .ok (.iaload, 1) := by decide +kernel
theorem dL_law_131 : decode cL_law 131 = .ok (.invokevirtual 17, 3) := by decide +kernel
theorem dL_law_134 : decode cL_law 134 = .ok (.if_icmp .eq 413, 3) := by decide +kernel
theorem dL_law_137 : decode cL_law 137 = .ok (.iconst 0, 1) := by decide +kernel
theorem dL_law_138 : decode cL_law 138 = .ok (.ireturn, 1) := by decide +kernel
theorem dL_law_139 : decode cL_law 139 = .ok (.aload_n 1, 1) := by decide +kernel
theorem dL_law_140 : decode cL_law 140 = .ok (.aload_n 0, 1) := by decide +kernel
theorem dL_law_141 : decode cL_law 141 = .ok (.iload_n 3, 1) := by decide +kernel
theorem dL_law_142 : decode cL_law 142 = .ok (.iconst 1, 1) := by decide +kernel
theorem dL_law_143 : decode cL_law 143 = .ok (.iadd, 1) := by decide +kernel
theorem dL_law_144 : decode cL_law 144 = .ok (.iaload, 1) := by decide +kernel
theorem dL_law_145 : decode cL_law 145 = .ok (.aload_n 0, 1) := by decide +kernel
theorem dL_law_146 : decode cL_law 146 = .ok (.iload_n 3, 1) := by decide +kernel
theorem dL_law_147 : decode cL_law 147 = .ok (.iconst 2, 1) := by decide +kernel
theorem dL_law_148 : decode cL_law 148 = .ok (.iadd, 1) := by decide +kernel
theorem dL_law_149 : decode cL_law 149 = .ok (.iaload, 1) := by decide +kernel
theorem dL_law_150 : decode cL_law 150 = .ok (.aload_n 0, 1) := by decide +kernel
theorem dL_law_151 : decode cL_law 151 = .ok (.iload_n 3, 1) := by decide +kernel
theorem dL_law_152 : decode cL_law 152 = .ok (.iconst 3, 1) := by decide +kernel
theorem dL_law_153 : decode cL_law 153 = .ok (.iadd, 1) := by decide +kernel
theorem dL_law_154 : decode cL_law 154 = .ok (.iaload, 1) := by decide +kernel
theorem dL_law_155 : decode cL_law 155 = .ok (.invokevirtual 18, 3) := by decide +kernel
theorem dL_law_158 : decode cL_law 158 = .ok (.aload_n 2, 1) := by decide +kernel
theorem dL_law_159 : decode cL_law 159 = .ok (.aload_n 0, 1) := by decide +kernel
theorem dL_law_160 : decode cL_law 160 = .ok (.iload_n 3, 1) := by decide +kernel
theorem dL_law_161 : decode cL_law 161 = .ok (.iconst 1, 1) := by decide +kernel
theorem dL_law_162 : decode cL_law 162 = .ok (.iadd, 1) := by decide +kernel
theorem dL_law_163 : decode cL_law 163 = .ok (.iaload, 1) := by decide +kernel
theorem dL_law_164 : decode cL_law 164 = .ok (.aload_n 0, 1) := by decide +kernel
theorem dL_law_165 : decode cL_law 165 = .ok (.iload_n 3, 1) := by decide +kernel
theorem dL_law_166 : decode cL_law 166 = .ok (.iconst 2, 1) := by decide +kernel
theorem dL_law_167 : decode cL_law 167 = .ok (.iadd, 1) := by decide +kernel
theorem dL_law_168 : decode cL_law 168 = .ok (.iaload, 1) := by decide +kernel
theorem dL_law_169 : decode cL_law 169 = .ok (.aload_n 0, 1) := by decide +kernel
theorem dL_law_170 : decode cL_law 170 = .ok (.iload_n 3, 1) := by decide +kernel
theorem dL_law_171 : decode cL_law 171 = .ok (.iconst 3, 1) := by decide +kernel
theorem dL_law_172 : decode cL_law 172 = .ok (.iadd, 1) := by decide +kernel
theorem dL_law_173 : decode cL_law 173 = .ok (.iaload, 1) := by decide +kernel
theorem dL_law_174 : decode cL_law 174 = .ok (.invokevirtual 22, 3) := by decide +kernel
theorem dL_law_177 : decode cL_law 177 = .ok (.if_icmp .eq 370, 3) := by decide +kernel
theorem dL_law_180 : decode cL_law 180 = .ok (.iconst 0, 1) := by decide +kernel
theorem dL_law_181 : decode cL_law 181 = .ok (.ireturn, 1) := by decide +kernel
theorem dL_law_182 : decode cL_law 182 = .ok (.aload_n 1, 1) := by decide +kernel
theorem dL_law_183 : decode cL_law 183 = .ok (.aload_n 0, 1) := by decide +kernel
theorem dL_law_184 : decode cL_law 184 = .ok (.iload_n 3, 1) := by decide +kernel
theorem dL_law_185 : decode cL_law 185 = .ok (.iconst 1, 1) := by decide +kernel
theorem dL_law_186 : decode cL_law 186 = .ok (.iadd, 1) := by decide +kernel
theorem dL_law_187 : decode cL_law 187 = .ok (.iaload, 1) := by decide +kernel
theorem dL_law_188 : decode cL_law 188 = .ok (.invokevirtual 23, 3) := by decide +kernel
theorem dL_law_191 : decode cL_law 191 = .ok (.aload_n 2, 1) := by decide +kernel
theorem dL_law_192 : decode cL_law 192 = .ok (.aload_n 0, 1) := by decide +kernel
theorem dL_law_193 : decode cL_law 193 = .ok (.iload_n 3, 1) := by decide +kernel
theorem dL_law_194 : decode cL_law 194 = .ok (.iconst 1, 1) := by decide +kernel
theorem dL_law_195 : decode cL_law 195 = .ok (.iadd, 1) := by decide +kernel
theorem dL_law_196 : decode cL_law 196 = .ok (.iaload, 1) := by decide +kernel
theorem dL_law_197 : decode cL_law 197 = .ok (.invokevirtual 27, 3) := by decide +kernel
theorem dL_law_200 : decode cL_law 200 = .ok (.if_icmp .eq 347, 3) := by decide +kernel
theorem dL_law_203 : decode cL_law 203 = .ok (.iconst 0, 1) := by decide +kernel
theorem dL_law_204 : decode cL_law 204 = .ok (.ireturn, 1) := by decide +kernel
theorem dL_law_205 : decode cL_law 205 = .ok (.aload_n 1, 1) := by decide +kernel
theorem dL_law_206 : decode cL_law 206 = .ok (.invokevirtual 28, 3) := by decide +kernel
theorem dL_law_209 : decode cL_law 209 = .ok (.aload_n 2, 1) := by decide +kernel
theorem dL_law_210 : decode cL_law 210 = .ok (.invokevirtual 32, 3) := by decide +kernel
theorem dL_law_213 : decode cL_law 213 = .ok (.if_icmp .eq 334, 3) := by decide +kernel
theorem dL_law_216 : decode cL_law 216 = .ok (.iconst 0, 1) := by decide +kernel
theorem dL_law_217 : decode cL_law 217 = .ok (.ireturn, 1) := by decide +kernel
theorem dL_law_218 : decode cL_law 218 = .ok (.aload_n 1, 1) := by decide +kernel
theorem dL_law_219 : decode cL_law 219 = .ok (.aload_n 0, 1) := by decide +kernel
theorem dL_law_220 : decode cL_law 220 = .ok (.iload_n 3, 1) := by decide +kernel
theorem dL_law_221 : decode cL_law 221 = .ok (.iconst 1, 1) := by decide +kernel
theorem dL_law_222 : decode cL_law 222 = .ok (.iadd, 1) := by decide +kernel
theorem dL_law_223 : decode cL_law 223 = .ok (.iaload, 1) := by decide +kernel
theorem dL_law_224 : decode cL_law 224 = .ok (.aload_n 0, 1) := by decide +kernel
theorem dL_law_225 : decode cL_law 225 = .ok (.iload_n 3, 1) := by decide +kernel
theorem dL_law_226 : decode cL_law 226 = .ok (.iconst 2, 1) := by decide +kernel
theorem dL_law_227 : decode cL_law 227 = .ok (.iadd, 1) := by decide +kernel
theorem dL_law_228 : decode cL_law 228 = .ok (.iaload, 1) := by decide +kernel
theorem dL_law_229 : decode cL_law 229 = .ok (.invokevirtual 33, 3) := by decide +kernel
theorem dL_law_232 : decode cL_law 232 = .ok (.aload_n 2, 1) := by decide +kernel
theorem dL_law_233 : decode cL_law 233 = .ok (.aload_n 0, 1) := by decide +kernel
theorem dL_law_234 : decode cL_law 234 = .ok (.iload_n 3, 1) := by decide +kernel
theorem dL_law_235 : decode cL_law 235 = .ok (.iconst 1, 1) := by decide +kernel
theorem dL_law_236 : decode cL_law 236 = .ok (.iadd, 1) := by decide +kernel
theorem dL_law_237 : decode cL_law 237 = .ok (.iaload, 1) := by decide +kernel
theorem dL_law_238 : decode cL_law 238 = .ok (.aload_n 0, 1) := by decide +kernel
theorem dL_law_239 : decode cL_law 239 = .ok (.iload_n 3, 1) := by decide +kernel
theorem dL_law_240 : decode cL_law 240 = .ok (.iconst 2, 1) := by decide +kernel
theorem dL_law_241 : decode cL_law 241 = .ok (.iadd, 1) := by decide +kernel
theorem dL_law_242 : decode cL_law 242 = .ok (.iaload, 1) := by decide +kernel
theorem dL_law_243 : decode cL_law 243 = .ok (.invokevirtual 37, 3) := by decide +kernel
theorem dL_law_246 : decode cL_law 246 = .ok (.if_icmp .eq 301, 3) := by decide +kernel
theorem dL_law_249 : decode cL_law 249 = .ok (.iconst 0, 1) := by decide +kernel
theorem dL_law_250 : decode cL_law 250 = .ok (.ireturn, 1) := by decide +kernel
theorem dL_law_251 : decode cL_law 251 = .ok (.aload_n 1, 1) := by decide +kernel
theorem dL_law_252 : decode cL_law 252 = .ok (.invokevirtual 38, 3) := by decide +kernel
theorem dL_law_255 : decode cL_law 255 = .ok (.aload_n 2, 1) := by decide +kernel
theorem dL_law_256 : decode cL_law 256 = .ok (.invokevirtual 41, 3) := by decide +kernel
theorem dL_law_259 : decode cL_law 259 = .ok (.if_icmp .eq 288, 3) := by decide +kernel
theorem dL_law_262 : decode cL_law 262 = .ok (.iconst 0, 1) := by decide +kernel
theorem dL_law_263 : decode cL_law 263 = .ok (.ireturn, 1) := by decide +kernel
theorem dL_law_264 : decode cL_law 264 = .ok (.aload_n 1, 1) := by decide +kernel
theorem dL_law_265 : decode cL_law 265 = .ok (.aload_n 0, 1) := by decide +kernel
theorem dL_law_266 : decode cL_law 266 = .ok (.iload_n 3, 1) := by decide +kernel
theorem dL_law_267 : decode cL_law 267 = .ok (.iconst 1, 1) := by decide +kernel
theorem dL_law_268 : decode cL_law 268 = .ok (.iadd, 1) := by decide +kernel
theorem dL_law_269 : decode cL_law 269 = .ok (.iaload, 1) := by decide +kernel
theorem dL_law_270 : decode cL_law 270 = .ok (.aload_n 0, 1) := by decide +kernel
theorem dL_law_271 : decode cL_law 271 = .ok (.iload_n 3, 1) := by decide +kernel
theorem dL_law_272 : decode cL_law 272 = .ok (.iconst 2, 1) := by decide +kernel
theorem dL_law_273 : decode cL_law 273 = .ok (.iadd, 1) := by decide +kernel
theorem dL_law_274 : decode cL_law 274 = .ok (.iaload, 1) := by decide +kernel
theorem dL_law_275 : decode cL_law 275 = .ok (.invokevirtual 42, 3) := by decide +kernel
theorem dL_law_278 : decode cL_law 278 = .ok (.aload_n 2, 1) := by decide +kernel
theorem dL_law_279 : decode cL_law 279 = .ok (.aload_n 0, 1) := by decide +kernel
theorem dL_law_280 : decode cL_law 280 = .ok (.iload_n 3, 1) := by decide +kernel
theorem dL_law_281 : decode cL_law 281 = .ok (.iconst 1, 1) := by decide +kernel
theorem dL_law_282 : decode cL_law 282 = .ok (.iadd, 1) := by decide +kernel
theorem dL_law_283 : decode cL_law 283 = .ok (.iaload, 1) := by decide +kernel
theorem dL_law_284 : decode cL_law 284 = .ok (.aload_n 0, 1) := by decide +kernel
theorem dL_law_285 : decode cL_law 285 = .ok (.iload_n 3, 1) := by decide +kernel
theorem dL_law_286 : decode cL_law 286 = .ok (.iconst 2, 1) := by decide +kernel
theorem dL_law_287 : decode cL_law 287 = .ok (.iadd, 1) := by decide +kernel
theorem dL_law_288 : decode cL_law 288 = .ok (.iaload, 1) := by decide +kernel
theorem dL_law_289 : decode cL_law 289 = .ok (.invokevirtual 46, 3) := by decide +kernel
theorem dL_law_292 : decode cL_law 292 = .ok (.if_icmp .eq 255, 3) := by decide +kernel
theorem dL_law_295 : decode cL_law 295 = .ok (.iconst 0, 1) := by decide +kernel
theorem dL_law_296 : decode cL_law 296 = .ok (.ireturn, 1) := by decide +kernel
theorem dL_law_297 : decode cL_law 297 = .ok (.aload_n 1, 1) := by decide +kernel
theorem dL_law_298 : decode cL_law 298 = .ok (.invokevirtual 47, 3) := by decide +kernel
theorem dL_law_301 : decode cL_law 301 = .ok (.aload_n 2, 1) := by decide +kernel
theorem dL_law_302 : decode cL_law 302 = .ok (.invokevirtual 50, 3) := by decide +kernel
theorem dL_law_305 : decode cL_law 305 = .ok (.if_icmp .eq 242, 3) := by decide +kernel
theorem dL_law_308 : decode cL_law 308 = .ok (.iconst 0, 1) := by decide +kernel
theorem dL_law_309 : decode cL_law 309 = .ok (.ireturn, 1) := by decide +kernel
theorem dL_law_310 : decode cL_law 310 = .ok (.aload_n 1, 1) := by decide +kernel
theorem dL_law_311 : decode cL_law 311 = .ok (.aload_n 0, 1) := by decide +kernel
theorem dL_law_312 : decode cL_law 312 = .ok (.iload_n 3, 1) := by decide +kernel
theorem dL_law_313 : decode cL_law 313 = .ok (.iconst 1, 1) := by decide +kernel
theorem dL_law_314 : decode cL_law 314 = .ok (.iadd, 1) := by decide +kernel
theorem dL_law_315 : decode cL_law 315 = .ok (.iaload, 1) := by decide +kernel
theorem dL_law_316 : decode cL_law 316 = .ok (.aload_n 0, 1) := by decide +kernel
theorem dL_law_317 : decode cL_law 317 = .ok (.iload_n 3, 1) := by decide +kernel
theorem dL_law_318 : decode cL_law 318 = .ok (.iconst 2, 1) := by decide +kernel
theorem dL_law_319 : decode cL_law 319 = .ok (.iadd, 1) := by decide +kernel
theorem dL_law_320 : decode cL_law 320 = .ok (.iaload, 1) := by decide +kernel
theorem dL_law_321 : decode cL_law 321 = .ok (.invokevirtual 51, 3) := by decide +kernel
theorem dL_law_324 : decode cL_law 324 = .ok (.aload_n 2, 1) := by decide +kernel
theorem dL_law_325 : decode cL_law 325 = .ok (.aload_n 0, 1) := by decide +kernel
theorem dL_law_326 : decode cL_law 326 = .ok (.iload_n 3, 1) := by decide +kernel
theorem dL_law_327 : decode cL_law 327 = .ok (.iconst 1, 1) := by decide +kernel
theorem dL_law_328 : decode cL_law 328 = .ok (.iadd, 1) := by decide +kernel
theorem dL_law_329 : decode cL_law 329 = .ok (.iaload, 1) := by decide +kernel
theorem dL_law_330 : decode cL_law 330 = .ok (.aload_n 0, 1) := by decide +kernel
theorem dL_law_331 : decode cL_law 331 = .ok (.iload_n 3, 1) := by decide +kernel
theorem dL_law_332 : decode cL_law 332 = .ok (.iconst 2, 1) := by decide +kernel
theorem dL_law_333 : decode cL_law 333 = .ok (.iadd, 1) := by decide +kernel
theorem dL_law_334 : decode cL_law 334 = .ok (.iaload, 1) := by decide +kernel
theorem dL_law_335 : decode cL_law 335 = .ok (.invokevirtual 54, 3) := by decide +kernel
theorem dL_law_338 : decode cL_law 338 = .ok (.if_icmp .eq 209, 3) := by decide +kernel
theorem dL_law_341 : decode cL_law 341 = .ok (.iconst 0, 1) := by decide +kernel
theorem dL_law_342 : decode cL_law 342 = .ok (.ireturn, 1) := by decide +kernel
theorem dL_law_343 : decode cL_law 343 = .ok (.aload_n 1, 1) := by decide +kernel
theorem dL_law_344 : decode cL_law 344 = .ok (.aload_n 0, 1) := by decide +kernel
theorem dL_law_345 : decode cL_law 345 = .ok (.iload_n 3, 1) := by decide +kernel
theorem dL_law_346 : decode cL_law 346 = .ok (.iconst 1, 1) := by decide +kernel
theorem dL_law_347 : decode cL_law 347 = .ok (.iadd, 1) := by decide +kernel
theorem dL_law_348 : decode cL_law 348 = .ok (.iaload, 1) := by decide +kernel
theorem dL_law_349 : decode cL_law 349 = .ok (.aload_n 0, 1) := by decide +kernel
theorem dL_law_350 : decode cL_law 350 = .ok (.iload_n 3, 1) := by decide +kernel
theorem dL_law_351 : decode cL_law 351 = .ok (.iconst 2, 1) := by decide +kernel
theorem dL_law_352 : decode cL_law 352 = .ok (.iadd, 1) := by decide +kernel
theorem dL_law_353 : decode cL_law 353 = .ok (.iaload, 1) := by decide +kernel
theorem dL_law_354 : decode cL_law 354 = .ok (.invokevirtual 55, 3) := by decide +kernel
theorem dL_law_357 : decode cL_law 357 = .ok (.aload_n 2, 1) := by decide +kernel
theorem dL_law_358 : decode cL_law 358 = .ok (.aload_n 0, 1) := by decide +kernel
theorem dL_law_359 : decode cL_law 359 = .ok (.iload_n 3, 1) := by decide +kernel
theorem dL_law_360 : decode cL_law 360 = .ok (.iconst 1, 1) := by decide +kernel
theorem dL_law_361 : decode cL_law 361 = .ok (.iadd, 1) := by decide +kernel
theorem dL_law_362 : decode cL_law 362 = .ok (.iaload, 1) := by decide +kernel
theorem dL_law_363 : decode cL_law 363 = .ok (.aload_n 0, 1) := by decide +kernel
theorem dL_law_364 : decode cL_law 364 = .ok (.iload_n 3, 1) := by decide +kernel
theorem dL_law_365 : decode cL_law 365 = .ok (.iconst 2, 1) := by decide +kernel
theorem dL_law_366 : decode cL_law 366 = .ok (.iadd, 1) := by decide +kernel
theorem dL_law_367 : decode cL_law 367 = .ok (.iaload, 1) := by decide +kernel
theorem dL_law_368 : decode cL_law 368 = .ok (.invokevirtual 58, 3) := by decide +kernel
theorem dL_law_371 : decode cL_law 371 = .ok (.if_icmp .eq 176, 3) := by decide +kernel
theorem dL_law_374 : decode cL_law 374 = .ok (.iconst 0, 1) := by decide +kernel
theorem dL_law_375 : decode cL_law 375 = .ok (.ireturn, 1) := by decide +kernel
theorem dL_law_376 : decode cL_law 376 = .ok (.aload_n 1, 1) := by decide +kernel
theorem dL_law_377 : decode cL_law 377 = .ok (.aload_n 0, 1) := by decide +kernel
theorem dL_law_378 : decode cL_law 378 = .ok (.iload_n 3, 1) := by decide +kernel
theorem dL_law_379 : decode cL_law 379 = .ok (.iconst 1, 1) := by decide +kernel
theorem dL_law_380 : decode cL_law 380 = .ok (.iadd, 1) := by decide +kernel
theorem dL_law_381 : decode cL_law 381 = .ok (.iaload, 1) := by decide +kernel
theorem dL_law_382 : decode cL_law 382 = .ok (.invokevirtual 59, 3) := by decide +kernel
theorem dL_law_385 : decode cL_law 385 = .ok (.aload_n 2, 1) := by decide +kernel
theorem dL_law_386 : decode cL_law 386 = .ok (.aload_n 0, 1) := by decide +kernel
theorem dL_law_387 : decode cL_law 387 = .ok (.iload_n 3, 1) := by decide +kernel
theorem dL_law_388 : decode cL_law 388 = .ok (.iconst 1, 1) := by decide +kernel
theorem dL_law_389 : decode cL_law 389 = .ok (.iadd, 1) := by decide +kernel
theorem dL_law_390 : decode cL_law 390 = .ok (.iaload, 1) := by decide +kernel
theorem dL_law_391 : decode cL_law 391 = .ok (.invokevirtual 62, 3) := by decide +kernel
theorem dL_law_394 : decode cL_law 394 = .ok (.if_icmp .eq 153, 3) := by decide +kernel
theorem dL_law_397 : decode cL_law 397 = .ok (.iconst 0, 1) := by decide +kernel
theorem dL_law_398 : decode cL_law 398 = .ok (.ireturn, 1) := by decide +kernel
theorem dL_law_399 : decode cL_law 399 = .ok (.aload_n 1, 1) := by decide +kernel
theorem dL_law_400 : decode cL_law 400 = .ok (.aload_n 0, 1) := by decide +kernel
theorem dL_law_401 : decode cL_law 401 = .ok (.iload_n 3, 1) := by decide +kernel
theorem dL_law_402 : decode cL_law 402 = .ok (.iconst 1, 1) := by decide +kernel
theorem dL_law_403 : decode cL_law 403 = .ok (.iadd, 1) := by decide +kernel
theorem dL_law_404 : decode cL_law 404 = .ok (.iaload, 1) := by decide +kernel
theorem dL_law_405 : decode cL_law 405 = .ok (.invokevirtual 63, 3) := by decide +kernel
theorem dL_law_408 : decode cL_law 408 = .ok (.aload_n 2, 1) := by decide +kernel
theorem dL_law_409 : decode cL_law 409 = .ok (.aload_n 0, 1) := by decide +kernel
theorem dL_law_410 : decode cL_law 410 = .ok (.iload_n 3, 1) := by decide +kernel
theorem dL_law_411 : decode cL_law 411 = .ok (.iconst 1, 1) := by decide +kernel
theorem dL_law_412 : decode cL_law 412 = .ok (.iadd, 1) := by decide +kernel
theorem dL_law_413 : decode cL_law 413 = .ok (.iaload, 1) := by decide +kernel
theorem dL_law_414 : decode cL_law 414 = .ok (.invokevirtual 66, 3) := by decide +kernel
theorem dL_law_417 : decode cL_law 417 = .ok (.if_icmp .eq 130, 3) := by decide +kernel
theorem dL_law_420 : decode cL_law 420 = .ok (.iconst 0, 1) := by decide +kernel
theorem dL_law_421 : decode cL_law 421 = .ok (.ireturn, 1) := by decide +kernel
theorem dL_law_422 : decode cL_law 422 = .ok (.aload_n 1, 1) := by decide +kernel
theorem dL_law_423 : decode cL_law 423 = .ok (.aload_n 0, 1) := by decide +kernel
theorem dL_law_424 : decode cL_law 424 = .ok (.iload_n 3, 1) := by decide +kernel
theorem dL_law_425 : decode cL_law 425 = .ok (.iconst 1, 1) := by decide +kernel
theorem dL_law_426 : decode cL_law 426 = .ok (.iadd, 1) := by decide +kernel
theorem dL_law_427 : decode cL_law 427 = .ok (.iaload, 1) := by decide +kernel
theorem dL_law_428 : decode cL_law 428 = .ok (.invokevirtual 67, 3) := by decide +kernel
theorem dL_law_431 : decode cL_law 431 = .ok (.aload_n 2, 1) := by decide +kernel
theorem dL_law_432 : decode cL_law 432 = .ok (.aload_n 0, 1) := by decide +kernel
theorem dL_law_433 : decode cL_law 433 = .ok (.iload_n 3, 1) := by decide +kernel
theorem dL_law_434 : decode cL_law 434 = .ok (.iconst 1, 1) := by decide +kernel
theorem dL_law_435 : decode cL_law 435 = .ok (.iadd, 1) := by decide +kernel
theorem dL_law_436 : decode cL_law 436 = .ok (.iaload, 1) := by decide +kernel
theorem dL_law_437 : decode cL_law 437 = .ok (.invokevirtual 70, 3) := by decide +kernel
theorem dL_law_440 : decode cL_law 440 = .ok (.if_icmp .eq 107, 3) := by decide +kernel
theorem dL_law_443 : decode cL_law 443 = .ok (.iconst 0, 1) := by decide +kernel
theorem dL_law_444 : decode cL_law 444 = .ok (.ireturn, 1) := by decide +kernel
theorem dL_law_445 : decode cL_law 445 = .ok (.aload_n 1, 1) := by decide +kernel
theorem dL_law_446 : decode cL_law 446 = .ok (.aload_n 0, 1) := by decide +kernel
theorem dL_law_447 : decode cL_law 447 = .ok (.iload_n 3, 1) := by decide +kernel
theorem dL_law_448 : decode cL_law 448 = .ok (.iconst 1, 1) := by decide +kernel
theorem dL_law_449 : decode cL_law 449 = .ok (.iadd, 1) := by decide +kernel
theorem dL_law_450 : decode cL_law 450 = .ok (.iaload, 1) := by decide +kernel
theorem dL_law_451 : decode cL_law 451 = .ok (.invokevirtual 71, 3) := by decide +kernel
theorem dL_law_454 : decode cL_law 454 = .ok (.aload_n 2, 1) := by decide +kernel
theorem dL_law_455 : decode cL_law 455 = .ok (.aload_n 0, 1) := by decide +kernel
theorem dL_law_456 : decode cL_law 456 = .ok (.iload_n 3, 1) := by decide +kernel
theorem dL_law_457 : decode cL_law 457 = .ok (.iconst 1, 1) := by decide +kernel
theorem dL_law_458 : decode cL_law 458 = .ok (.iadd, 1) := by decide +kernel
theorem dL_law_459 : decode cL_law 459 = .ok (.iaload, 1) := by decide +kernel
theorem dL_law_460 : decode cL_law 460 = .ok (.invokevirtual 74, 3) := by decide +kernel
theorem dL_law_463 : decode cL_law 463 = .ok (.if_icmp .eq 84, 3) := by decide +kernel
theorem dL_law_466 : decode cL_law 466 = .ok (.iconst 0, 1) := by decide +kernel
theorem dL_law_467 : decode cL_law 467 = .ok (.ireturn, 1) := by decide +kernel
theorem dL_law_468 : decode cL_law 468 = .ok (.aload_n 1, 1) := by decide +kernel
theorem dL_law_469 : decode cL_law 469 = .ok (.aload_n 0, 1) := by decide +kernel
theorem dL_law_470 : decode cL_law 470 = .ok (.iload_n 3, 1) := by decide +kernel
theorem dL_law_471 : decode cL_law 471 = .ok (.iconst 1, 1) := by decide +kernel
theorem dL_law_472 : decode cL_law 472 = .ok (.iadd, 1) := by decide +kernel
theorem dL_law_473 : decode cL_law 473 = .ok (.iaload, 1) := by decide +kernel
theorem dL_law_474 : decode cL_law 474 = .ok (.aload_n 0, 1) := by decide +kernel
theorem dL_law_475 : decode cL_law 475 = .ok (.iload_n 3, 1) := by decide +kernel
theorem dL_law_476 : decode cL_law 476 = .ok (.iconst 2, 1) := by decide +kernel
theorem dL_law_477 : decode cL_law 477 = .ok (.iadd, 1) := by decide +kernel
theorem dL_law_478 : decode cL_law 478 = .ok (.iaload, 1) := by decide +kernel
theorem dL_law_479 : decode cL_law 479 = .ok (.invokevirtual 75, 3) := by decide +kernel
theorem dL_law_482 : decode cL_law 482 = .ok (.aload_n 2, 1) := by decide +kernel
theorem dL_law_483 : decode cL_law 483 = .ok (.aload_n 0, 1) := by decide +kernel
theorem dL_law_484 : decode cL_law 484 = .ok (.iload_n 3, 1) := by decide +kernel
theorem dL_law_485 : decode cL_law 485 = .ok (.iconst 1, 1) := by decide +kernel
theorem dL_law_486 : decode cL_law 486 = .ok (.iadd, 1) := by decide +kernel
theorem dL_law_487 : decode cL_law 487 = .ok (.iaload, 1) := by decide +kernel
theorem dL_law_488 : decode cL_law 488 = .ok (.aload_n 0, 1) := by decide +kernel
theorem dL_law_489 : decode cL_law 489 = .ok (.iload_n 3, 1) := by decide +kernel
theorem dL_law_490 : decode cL_law 490 = .ok (.iconst 2, 1) := by decide +kernel
theorem dL_law_491 : decode cL_law 491 = .ok (.iadd, 1) := by decide +kernel
theorem dL_law_492 : decode cL_law 492 = .ok (.iaload, 1) := by decide +kernel
theorem dL_law_493 : decode cL_law 493 = .ok (.invokevirtual 78, 3) := by decide +kernel
theorem dL_law_496 : decode cL_law 496 = .ok (.if_icmp .eq 51, 3) := by decide +kernel
theorem dL_law_499 : decode cL_law 499 = .ok (.iconst 0, 1) := by decide +kernel
theorem dL_law_500 : decode cL_law 500 = .ok (.ireturn, 1) := by decide +kernel
theorem dL_law_501 : decode cL_law 501 = .ok (.aload_n 1, 1) := by decide +kernel
theorem dL_law_502 : decode cL_law 502 = .ok (.aload_n 0, 1) := by decide +kernel
theorem dL_law_503 : decode cL_law 503 = .ok (.iload_n 3, 1) := by decide +kernel
theorem dL_law_504 : decode cL_law 504 = .ok (.iconst 1, 1) := by decide +kernel
theorem dL_law_505 : decode cL_law 505 = .ok (.iadd, 1) := by decide +kernel
theorem dL_law_506 : decode cL_law 506 = .ok (.iaload, 1) := by decide +kernel
theorem dL_law_507 : decode cL_law 507 = .ok (.invokevirtual 79, 3) := by decide +kernel
theorem dL_law_510 : decode cL_law 510 = .ok (.aload_n 2, 1) := by decide +kernel
theorem dL_law_511 : decode cL_law 511 = .ok (.aload_n 0, 1) := by decide +kernel
theorem dL_law_512 : decode cL_law 512 = .ok (.iload_n 3, 1) := by decide +kernel
theorem dL_law_513 : decode cL_law 513 = .ok (.iconst 1, 1) := by decide +kernel
theorem dL_law_514 : decode cL_law 514 = .ok (.iadd, 1) := by decide +kernel
theorem dL_law_515 : decode cL_law 515 = .ok (.iaload, 1) := by decide +kernel
theorem dL_law_516 : decode cL_law 516 = .ok (.invokevirtual 82, 3) := by decide +kernel
theorem dL_law_519 : decode cL_law 519 = .ok (.if_icmp .eq 28, 3) := by decide +kernel
theorem dL_law_522 : decode cL_law 522 = .ok (.iconst 0, 1) := by decide +kernel
theorem dL_law_523 : decode cL_law 523 = .ok (.ireturn, 1) := by decide +kernel
theorem dL_law_524 : decode cL_law 524 = .ok (.aload_n 1, 1) := by decide +kernel
theorem dL_law_525 : decode cL_law 525 = .ok (.aload_n 0, 1) := by decide +kernel
theorem dL_law_526 : decode cL_law 526 = .ok (.iload_n 3, 1) := by decide +kernel
theorem dL_law_527 : decode cL_law 527 = .ok (.iconst 1, 1) := by decide +kernel
theorem dL_law_528 : decode cL_law 528 = .ok (.iadd, 1) := by decide +kernel
theorem dL_law_529 : decode cL_law 529 = .ok (.iaload, 1) := by decide +kernel
theorem dL_law_530 : decode cL_law 530 = .ok (.invokevirtual 83, 3) := by decide +kernel
theorem dL_law_533 : decode cL_law 533 = .ok (.aload_n 2, 1) := by decide +kernel
theorem dL_law_534 : decode cL_law 534 = .ok (.aload_n 0, 1) := by decide +kernel
theorem dL_law_535 : decode cL_law 535 = .ok (.iload_n 3, 1) := by decide +kernel
theorem dL_law_536 : decode cL_law 536 = .ok (.iconst 1, 1) := by decide +kernel
theorem dL_law_537 : decode cL_law 537 = .ok (.iadd, 1) := by decide +kernel
theorem dL_law_538 : decode cL_law 538 = .ok (.iaload, 1) := by decide +kernel
theorem dL_law_539 : decode cL_law 539 = .ok (.invokevirtual 86, 3) := by decide +kernel
theorem dL_law_542 : decode cL_law 542 = .ok (.if_icmp .eq 5, 3) := by decide +kernel
theorem dL_law_545 : decode cL_law 545 = .ok (.iconst 0, 1) := by decide +kernel
theorem dL_law_546 : decode cL_law 546 = .ok (.ireturn, 1) := by decide +kernel
theorem dL_law_547 : decode cL_law 547 = .ok (.iinc 3 4, 3) := by decide +kernel
theorem dL_law_550 : decode cL_law 550 = .ok (.goto (-532), 3) := by decide +kernel
theorem dL_law_553 : decode cL_law 553 = .ok (.iconst 1, 1) := by decide +kernel
theorem dL_law_554 : decode cL_law 554 = .ok (.ireturn, 1) := by decide +kernel
abbrev vwCl : List vw_C := [(RX0, TX0, 5), (RX1, TX1, 11), (RX2, TX2, 3), (RX3, TX3, 13), (RX4, TX4, 8), (RX5, TX5, 5), (RX6, TX6, 9), (RX7, TX7, 35)]
