section
-- ===== PART A: goes FIRST, ahead of the names: the tables' words, and 'selects' of the private methods out of them =====
/-- a private method of a class that the tables say can be made, by its rows of tables_1 -/
def lw_okq (q : MethodName × Nat) : Prop := (q.1.cls ≠ "java/lang/invoke/MethodHandle" ∧ q.1.cls ≠ "java/lang/invoke/VarHandle") ∧ Cond.instantiable q.1.cls q.2 ∈ tables_1 ∧ Cond.privateMethod q.1 ∈ tables_1 ∧ Cond.instanceMethod q.1 ∈ tables_1
theorem lw_p0 : lw_okq (⟨"CallingLooms$History", "dropOldest", "()V"⟩, 2) := ⟨⟨by decide +kernel, by decide +kernel⟩, List.mem_of_getElem? (i := 191) (by decide +kernel), List.mem_of_getElem? (i := 258) (by decide +kernel), List.mem_of_getElem? (i := 259) (by decide +kernel)⟩
theorem lw_p1 : lw_okq (⟨"CallingLooms$TextReader", "takes", "(II)Z"⟩, 13) := ⟨⟨by decide +kernel, by decide +kernel⟩, List.mem_of_getElem? (i := 39) (by decide +kernel), List.mem_of_getElem? (i := 295) (by decide +kernel), List.mem_of_getElem? (i := 296) (by decide +kernel)⟩
theorem lw_p2 : lw_okq (⟨"CallingLooms$TextReader", "takesStep", "(II)Z"⟩, 13) := ⟨⟨by decide +kernel, by decide +kernel⟩, List.mem_of_getElem? (i := 39) (by decide +kernel), List.mem_of_getElem? (i := 299) (by decide +kernel), List.mem_of_getElem? (i := 300) (by decide +kernel)⟩
theorem lw_p3 : lw_okq (⟨"CallingLooms$TextReader", "takesEnd", "(I)Z"⟩, 13) := ⟨⟨by decide +kernel, by decide +kernel⟩, List.mem_of_getElem? (i := 39) (by decide +kernel), List.mem_of_getElem? (i := 303) (by decide +kernel), List.mem_of_getElem? (i := 304) (by decide +kernel)⟩
theorem lw_p4 : lw_okq (⟨"CallingLooms$TextReader", "takesPickCount", "(II)Z"⟩, 13) := ⟨⟨by decide +kernel, by decide +kernel⟩, List.mem_of_getElem? (i := 39) (by decide +kernel), List.mem_of_getElem? (i := 310) (by decide +kernel), List.mem_of_getElem? (i := 311) (by decide +kernel)⟩
theorem lw_p5 : lw_okq (⟨"CallingLooms$TextReader", "takesPartCount", "(I)Z"⟩, 13) := ⟨⟨by decide +kernel, by decide +kernel⟩, List.mem_of_getElem? (i := 39) (by decide +kernel), List.mem_of_getElem? (i := 314) (by decide +kernel), List.mem_of_getElem? (i := 315) (by decide +kernel)⟩
theorem lw_p6 : lw_okq (⟨"CallingLooms$TextReader", "takesDigit", "(II)Z"⟩, 13) := ⟨⟨by decide +kernel, by decide +kernel⟩, List.mem_of_getElem? (i := 39) (by decide +kernel), List.mem_of_getElem? (i := 318) (by decide +kernel), List.mem_of_getElem? (i := 319) (by decide +kernel)⟩
theorem lw_p7 : lw_okq (⟨"CallingLooms$TextReader", "takesBracket", "(II)Z"⟩, 13) := ⟨⟨by decide +kernel, by decide +kernel⟩, List.mem_of_getElem? (i := 39) (by decide +kernel), List.mem_of_getElem? (i := 322) (by decide +kernel), List.mem_of_getElem? (i := 323) (by decide +kernel)⟩
theorem lw_p8 : lw_okq (⟨"CallingLooms$Loom", "layOnStack", "(II)V"⟩, 13) := ⟨⟨by decide +kernel, by decide +kernel⟩, List.mem_of_getElem? (i := 95) (by decide +kernel), List.mem_of_getElem? (i := 396) (by decide +kernel), List.mem_of_getElem? (i := 397) (by decide +kernel)⟩
theorem lw_p9 : lw_okq (⟨"CallingLooms$Loom", "weaveNext", "()I"⟩, 13) := ⟨⟨by decide +kernel, by decide +kernel⟩, List.mem_of_getElem? (i := 95) (by decide +kernel), List.mem_of_getElem? (i := 417) (by decide +kernel), List.mem_of_getElem? (i := 418) (by decide +kernel)⟩
theorem lw_p10 : lw_okq (⟨"CallingLooms$Loom", "hindranceAfter", "(I)I"⟩, 13) := ⟨⟨by decide +kernel, by decide +kernel⟩, List.mem_of_getElem? (i := 95) (by decide +kernel), List.mem_of_getElem? (i := 421) (by decide +kernel), List.mem_of_getElem? (i := 422) (by decide +kernel)⟩
theorem lw_p11 : lw_okq (⟨"CallingLooms$CardStack", "spotOf", "(I)I"⟩, 7) := ⟨⟨by decide +kernel, by decide +kernel⟩, List.mem_of_getElem? (i := 103) (by decide +kernel), List.mem_of_getElem? (i := 429) (by decide +kernel), List.mem_of_getElem? (i := 430) (by decide +kernel)⟩
theorem lw_p12 : lw_okq (⟨"CallingLooms$Loom", "weavePick", "()V"⟩, 13) := ⟨⟨by decide +kernel, by decide +kernel⟩, List.mem_of_getElem? (i := 95) (by decide +kernel), List.mem_of_getElem? (i := 449) (by decide +kernel), List.mem_of_getElem? (i := 450) (by decide +kernel)⟩
theorem lw_p13 : lw_okq (⟨"CallingLooms$CardStack", "placeBehind", "()I"⟩, 7) := ⟨⟨by decide +kernel, by decide +kernel⟩, List.mem_of_getElem? (i := 103) (by decide +kernel), List.mem_of_getElem? (i := 458) (by decide +kernel), List.mem_of_getElem? (i := 459) (by decide +kernel)⟩
theorem lw_p14 : lw_okq (⟨"CallingLooms$CardStack", "arriveAt", "(I)V"⟩, 7) := ⟨⟨by decide +kernel, by decide +kernel⟩, List.mem_of_getElem? (i := 103) (by decide +kernel), List.mem_of_getElem? (i := 466) (by decide +kernel), List.mem_of_getElem? (i := 467) (by decide +kernel)⟩
theorem lw_p15 : lw_okq (⟨"CallingLooms$Loom", "doStep", "(I)V"⟩, 13) := ⟨⟨by decide +kernel, by decide +kernel⟩, List.mem_of_getElem? (i := 95) (by decide +kernel), List.mem_of_getElem? (i := 470) (by decide +kernel), List.mem_of_getElem? (i := 471) (by decide +kernel)⟩
def lw_privs_1 : List (MethodName × Nat) := [(⟨"CallingLooms$History", "dropOldest", "()V"⟩, 2), (⟨"CallingLooms$TextReader", "takes", "(II)Z"⟩, 13), (⟨"CallingLooms$TextReader", "takesStep", "(II)Z"⟩, 13), (⟨"CallingLooms$TextReader", "takesEnd", "(I)Z"⟩, 13), (⟨"CallingLooms$TextReader", "takesPickCount", "(II)Z"⟩, 13), (⟨"CallingLooms$TextReader", "takesPartCount", "(I)Z"⟩, 13), (⟨"CallingLooms$TextReader", "takesDigit", "(II)Z"⟩, 13), (⟨"CallingLooms$TextReader", "takesBracket", "(II)Z"⟩, 13), (⟨"CallingLooms$Loom", "layOnStack", "(II)V"⟩, 13), (⟨"CallingLooms$Loom", "weaveNext", "()I"⟩, 13), (⟨"CallingLooms$Loom", "hindranceAfter", "(I)I"⟩, 13), (⟨"CallingLooms$CardStack", "spotOf", "(I)I"⟩, 7), (⟨"CallingLooms$Loom", "weavePick", "()V"⟩, 13), (⟨"CallingLooms$CardStack", "placeBehind", "()I"⟩, 7), (⟨"CallingLooms$CardStack", "arriveAt", "(I)V"⟩, 7), (⟨"CallingLooms$Loom", "doStep", "(I)V"⟩, 13)]
theorem lw_r1 : ∀ q ∈ lw_privs_1, lw_okq q := List.forall_mem_cons.mpr ⟨lw_p0, List.forall_mem_cons.mpr ⟨lw_p1, List.forall_mem_cons.mpr ⟨lw_p2, List.forall_mem_cons.mpr ⟨lw_p3, List.forall_mem_cons.mpr ⟨lw_p4, List.forall_mem_cons.mpr ⟨lw_p5, List.forall_mem_cons.mpr ⟨lw_p6, List.forall_mem_cons.mpr ⟨lw_p7, List.forall_mem_cons.mpr ⟨lw_p8, List.forall_mem_cons.mpr ⟨lw_p9, List.forall_mem_cons.mpr ⟨lw_p10, List.forall_mem_cons.mpr ⟨lw_p11, List.forall_mem_cons.mpr ⟨lw_p12, List.forall_mem_cons.mpr ⟨lw_p13, List.forall_mem_cons.mpr ⟨lw_p14, List.forall_mem_cons.mpr ⟨lw_p15, fun _ h => absurd h List.not_mem_nil⟩⟩⟩⟩⟩⟩⟩⟩⟩⟩⟩⟩⟩⟩⟩⟩
theorem lw_p16 : lw_okq (⟨"CallingLooms$Loom", "isShort", "(I)Z"⟩, 13) := ⟨⟨by decide +kernel, by decide +kernel⟩, List.mem_of_getElem? (i := 95) (by decide +kernel), List.mem_of_getElem? (i := 486) (by decide +kernel), List.mem_of_getElem? (i := 487) (by decide +kernel)⟩
theorem lw_p17 : lw_okq (⟨"CallingLooms$Finder", "weighCard", "(LCallingLooms$CardText;II)V"⟩, 2) := ⟨⟨by decide +kernel, by decide +kernel⟩, List.mem_of_getElem? (i := 208) (by decide +kernel), List.mem_of_getElem? (i := 601) (by decide +kernel), List.mem_of_getElem? (i := 602) (by decide +kernel)⟩
theorem lw_p18 : lw_okq (⟨"CallingLooms$Finder", "highestOf", "(I)I"⟩, 2) := ⟨⟨by decide +kernel, by decide +kernel⟩, List.mem_of_getElem? (i := 208) (by decide +kernel), List.mem_of_getElem? (i := 626) (by decide +kernel), List.mem_of_getElem? (i := 627) (by decide +kernel)⟩
theorem lw_p19 : lw_okq (⟨"CallingLoomsModel", "record", "()V"⟩, 14) := ⟨⟨by decide +kernel, by decide +kernel⟩, List.mem_of_getElem? (i := 681) (by decide +kernel), List.mem_of_getElem? (i := 748) (by decide +kernel), List.mem_of_getElem? (i := 749) (by decide +kernel)⟩
theorem lw_p20 : lw_okq (⟨"CallingLoomsModel", "putAside", "()V"⟩, 14) := ⟨⟨by decide +kernel, by decide +kernel⟩, List.mem_of_getElem? (i := 681) (by decide +kernel), List.mem_of_getElem? (i := 752) (by decide +kernel), List.mem_of_getElem? (i := 753) (by decide +kernel)⟩
theorem lw_p21 : lw_okq (⟨"CallingLoomsModel", "push", "()V"⟩, 14) := ⟨⟨by decide +kernel, by decide +kernel⟩, List.mem_of_getElem? (i := 681) (by decide +kernel), List.mem_of_getElem? (i := 756) (by decide +kernel), List.mem_of_getElem? (i := 757) (by decide +kernel)⟩
theorem lw_p22 : lw_okq (⟨"CallingLoomsModel", "findFault", "()I"⟩, 14) := ⟨⟨by decide +kernel, by decide +kernel⟩, List.mem_of_getElem? (i := 681) (by decide +kernel), List.mem_of_getElem? (i := 764) (by decide +kernel), List.mem_of_getElem? (i := 765) (by decide +kernel)⟩
theorem lw_p23 : lw_okq (⟨"CallingLoomsModel", "code", "()I"⟩, 14) := ⟨⟨by decide +kernel, by decide +kernel⟩, List.mem_of_getElem? (i := 681) (by decide +kernel), List.mem_of_getElem? (i := 768) (by decide +kernel), List.mem_of_getElem? (i := 769) (by decide +kernel)⟩
theorem lw_p24 : lw_okq (⟨"CallingLoomsModel", "readsStep", "()Z"⟩, 14) := ⟨⟨by decide +kernel, by decide +kernel⟩, List.mem_of_getElem? (i := 681) (by decide +kernel), List.mem_of_getElem? (i := 772) (by decide +kernel), List.mem_of_getElem? (i := 773) (by decide +kernel)⟩
theorem lw_p25 : lw_okq (⟨"CallingLoomsModel", "takesDigit", "(II)Z"⟩, 14) := ⟨⟨by decide +kernel, by decide +kernel⟩, List.mem_of_getElem? (i := 681) (by decide +kernel), List.mem_of_getElem? (i := 776) (by decide +kernel), List.mem_of_getElem? (i := 777) (by decide +kernel)⟩
theorem lw_p26 : lw_okq (⟨"CallingLoomsModel", "opens", "()Z"⟩, 14) := ⟨⟨by decide +kernel, by decide +kernel⟩, List.mem_of_getElem? (i := 681) (by decide +kernel), List.mem_of_getElem? (i := 780) (by decide +kernel), List.mem_of_getElem? (i := 781) (by decide +kernel)⟩
theorem lw_p27 : lw_okq (⟨"CallingLoomsModel", "hasText", "(I)Z"⟩, 14) := ⟨⟨by decide +kernel, by decide +kernel⟩, List.mem_of_getElem? (i := 681) (by decide +kernel), List.mem_of_getElem? (i := 806) (by decide +kernel), List.mem_of_getElem? (i := 807) (by decide +kernel)⟩
theorem lw_p28 : lw_okq (⟨"CallingLoomsModel", "textAt", "(II)I"⟩, 14) := ⟨⟨by decide +kernel, by decide +kernel⟩, List.mem_of_getElem? (i := 681) (by decide +kernel), List.mem_of_getElem? (i := 810) (by decide +kernel), List.mem_of_getElem? (i := 811) (by decide +kernel)⟩
theorem lw_p29 : lw_okq (⟨"CallingLoomsModel", "reached", "(I)I"⟩, 14) := ⟨⟨by decide +kernel, by decide +kernel⟩, List.mem_of_getElem? (i := 681) (by decide +kernel), List.mem_of_getElem? (i := 822) (by decide +kernel), List.mem_of_getElem? (i := 823) (by decide +kernel)⟩
theorem lw_p30 : lw_okq (⟨"CallingLoomsModel", "calls", "(I)I"⟩, 14) := ⟨⟨by decide +kernel, by decide +kernel⟩, List.mem_of_getElem? (i := 681) (by decide +kernel), List.mem_of_getElem? (i := 826) (by decide +kernel), List.mem_of_getElem? (i := 827) (by decide +kernel)⟩
theorem lw_p31 : lw_okq (⟨"CallingLoomsModel", "steps", "(I)I"⟩, 14) := ⟨⟨by decide +kernel, by decide +kernel⟩, List.mem_of_getElem? (i := 681) (by decide +kernel), List.mem_of_getElem? (i := 834) (by decide +kernel), List.mem_of_getElem? (i := 835) (by decide +kernel)⟩
def lw_privs_2 : List (MethodName × Nat) := [(⟨"CallingLooms$Loom", "isShort", "(I)Z"⟩, 13), (⟨"CallingLooms$Finder", "weighCard", "(LCallingLooms$CardText;II)V"⟩, 2), (⟨"CallingLooms$Finder", "highestOf", "(I)I"⟩, 2), (⟨"CallingLoomsModel", "record", "()V"⟩, 14), (⟨"CallingLoomsModel", "putAside", "()V"⟩, 14), (⟨"CallingLoomsModel", "push", "()V"⟩, 14), (⟨"CallingLoomsModel", "findFault", "()I"⟩, 14), (⟨"CallingLoomsModel", "code", "()I"⟩, 14), (⟨"CallingLoomsModel", "readsStep", "()Z"⟩, 14), (⟨"CallingLoomsModel", "takesDigit", "(II)Z"⟩, 14), (⟨"CallingLoomsModel", "opens", "()Z"⟩, 14), (⟨"CallingLoomsModel", "hasText", "(I)Z"⟩, 14), (⟨"CallingLoomsModel", "textAt", "(II)I"⟩, 14), (⟨"CallingLoomsModel", "reached", "(I)I"⟩, 14), (⟨"CallingLoomsModel", "calls", "(I)I"⟩, 14), (⟨"CallingLoomsModel", "steps", "(I)I"⟩, 14)]
theorem lw_r2 : ∀ q ∈ lw_privs_2, lw_okq q := List.forall_mem_cons.mpr ⟨lw_p16, List.forall_mem_cons.mpr ⟨lw_p17, List.forall_mem_cons.mpr ⟨lw_p18, List.forall_mem_cons.mpr ⟨lw_p19, List.forall_mem_cons.mpr ⟨lw_p20, List.forall_mem_cons.mpr ⟨lw_p21, List.forall_mem_cons.mpr ⟨lw_p22, List.forall_mem_cons.mpr ⟨lw_p23, List.forall_mem_cons.mpr ⟨lw_p24, List.forall_mem_cons.mpr ⟨lw_p25, List.forall_mem_cons.mpr ⟨lw_p26, List.forall_mem_cons.mpr ⟨lw_p27, List.forall_mem_cons.mpr ⟨lw_p28, List.forall_mem_cons.mpr ⟨lw_p29, List.forall_mem_cons.mpr ⟨lw_p30, List.forall_mem_cons.mpr ⟨lw_p31, fun _ h => absurd h List.not_mem_nil⟩⟩⟩⟩⟩⟩⟩⟩⟩⟩⟩⟩⟩⟩⟩⟩
theorem lw_p32 : lw_okq (⟨"CallingLoomsModel", "callers", "(I)I"⟩, 14) := ⟨⟨by decide +kernel, by decide +kernel⟩, List.mem_of_getElem? (i := 681) (by decide +kernel), List.mem_of_getElem? (i := 845) (by decide +kernel), List.mem_of_getElem? (i := 846) (by decide +kernel)⟩
theorem lw_p33 : lw_okq (⟨"CallingLoomsModel", "lay", "(II)V"⟩, 14) := ⟨⟨by decide +kernel, by decide +kernel⟩, List.mem_of_getElem? (i := 681) (by decide +kernel), List.mem_of_getElem? (i := 860) (by decide +kernel), List.mem_of_getElem? (i := 861) (by decide +kernel)⟩
theorem lw_p34 : lw_okq (⟨"CallingLoomsModel", "setTop", "(II)V"⟩, 14) := ⟨⟨by decide +kernel, by decide +kernel⟩, List.mem_of_getElem? (i := 681) (by decide +kernel), List.mem_of_getElem? (i := 864) (by decide +kernel), List.mem_of_getElem? (i := 865) (by decide +kernel)⟩
theorem lw_p35 : lw_okq (⟨"CallingLoomsModel", "frame", "(I)I"⟩, 14) := ⟨⟨by decide +kernel, by decide +kernel⟩, List.mem_of_getElem? (i := 681) (by decide +kernel), List.mem_of_getElem? (i := 868) (by decide +kernel), List.mem_of_getElem? (i := 869) (by decide +kernel)⟩
theorem lw_p36 : lw_okq (⟨"CallingLoomsModel", "weaves", "(I)I"⟩, 14) := ⟨⟨by decide +kernel, by decide +kernel⟩, List.mem_of_getElem? (i := 681) (by decide +kernel), List.mem_of_getElem? (i := 876) (by decide +kernel), List.mem_of_getElem? (i := 877) (by decide +kernel)⟩
theorem lw_p37 : lw_okq (⟨"CallingLoomsModel", "reason", "(I)I"⟩, 14) := ⟨⟨by decide +kernel, by decide +kernel⟩, List.mem_of_getElem? (i := 681) (by decide +kernel), List.mem_of_getElem? (i := 880) (by decide +kernel), List.mem_of_getElem? (i := 881) (by decide +kernel)⟩
theorem lw_p38 : lw_okq (⟨"CallingLoomsModel", "onTop", "(I)I"⟩, 14) := ⟨⟨by decide +kernel, by decide +kernel⟩, List.mem_of_getElem? (i := 681) (by decide +kernel), List.mem_of_getElem? (i := 884) (by decide +kernel), List.mem_of_getElem? (i := 885) (by decide +kernel)⟩
theorem lw_p39 : lw_okq (⟨"CallingLoomsModel", "signAt", "(I)I"⟩, 14) := ⟨⟨by decide +kernel, by decide +kernel⟩, List.mem_of_getElem? (i := 681) (by decide +kernel), List.mem_of_getElem? (i := 888) (by decide +kernel), List.mem_of_getElem? (i := 889) (by decide +kernel)⟩
theorem lw_p40 : lw_okq (⟨"CallingLoomsModel", "reasonOfPick", "()I"⟩, 14) := ⟨⟨by decide +kernel, by decide +kernel⟩, List.mem_of_getElem? (i := 681) (by decide +kernel), List.mem_of_getElem? (i := 892) (by decide +kernel), List.mem_of_getElem? (i := 893) (by decide +kernel)⟩
theorem lw_p41 : lw_okq (⟨"CallingLoomsModel", "reasonOfCall", "()I"⟩, 14) := ⟨⟨by decide +kernel, by decide +kernel⟩, List.mem_of_getElem? (i := 681) (by decide +kernel), List.mem_of_getElem? (i := 896) (by decide +kernel), List.mem_of_getElem? (i := 897) (by decide +kernel)⟩
theorem lw_p42 : lw_okq (⟨"CallingLoomsModel", "doStep", "()Z"⟩, 14) := ⟨⟨by decide +kernel, by decide +kernel⟩, List.mem_of_getElem? (i := 681) (by decide +kernel), List.mem_of_getElem? (i := 900) (by decide +kernel), List.mem_of_getElem? (i := 901) (by decide +kernel)⟩
theorem lw_p43 : lw_okq (⟨"CallingLoomsModel", "weavePick", "()V"⟩, 14) := ⟨⟨by decide +kernel, by decide +kernel⟩, List.mem_of_getElem? (i := 681) (by decide +kernel), List.mem_of_getElem? (i := 904) (by decide +kernel), List.mem_of_getElem? (i := 905) (by decide +kernel)⟩
theorem lw_p44 : lw_okq (⟨"CallingLoomsModel", "donePick", "()V"⟩, 14) := ⟨⟨by decide +kernel, by decide +kernel⟩, List.mem_of_getElem? (i := 681) (by decide +kernel), List.mem_of_getElem? (i := 908) (by decide +kernel), List.mem_of_getElem? (i := 909) (by decide +kernel)⟩
theorem lw_p45 : lw_okq (⟨"CallingLoomsModel", "leftHere", "()I"⟩, 14) := ⟨⟨by decide +kernel, by decide +kernel⟩, List.mem_of_getElem? (i := 681) (by decide +kernel), List.mem_of_getElem? (i := 912) (by decide +kernel), List.mem_of_getElem? (i := 913) (by decide +kernel)⟩
theorem lw_p46 : lw_okq (⟨"CallingLoomsModel", "countAt", "(I)I"⟩, 14) := ⟨⟨by decide +kernel, by decide +kernel⟩, List.mem_of_getElem? (i := 681) (by decide +kernel), List.mem_of_getElem? (i := 916) (by decide +kernel), List.mem_of_getElem? (i := 917) (by decide +kernel)⟩
theorem lw_p47 : lw_okq (⟨"CallingLoomsModel", "go", "(I)V"⟩, 14) := ⟨⟨by decide +kernel, by decide +kernel⟩, List.mem_of_getElem? (i := 681) (by decide +kernel), List.mem_of_getElem? (i := 920) (by decide +kernel), List.mem_of_getElem? (i := 921) (by decide +kernel)⟩
def lw_privs_3 : List (MethodName × Nat) := [(⟨"CallingLoomsModel", "callers", "(I)I"⟩, 14), (⟨"CallingLoomsModel", "lay", "(II)V"⟩, 14), (⟨"CallingLoomsModel", "setTop", "(II)V"⟩, 14), (⟨"CallingLoomsModel", "frame", "(I)I"⟩, 14), (⟨"CallingLoomsModel", "weaves", "(I)I"⟩, 14), (⟨"CallingLoomsModel", "reason", "(I)I"⟩, 14), (⟨"CallingLoomsModel", "onTop", "(I)I"⟩, 14), (⟨"CallingLoomsModel", "signAt", "(I)I"⟩, 14), (⟨"CallingLoomsModel", "reasonOfPick", "()I"⟩, 14), (⟨"CallingLoomsModel", "reasonOfCall", "()I"⟩, 14), (⟨"CallingLoomsModel", "doStep", "()Z"⟩, 14), (⟨"CallingLoomsModel", "weavePick", "()V"⟩, 14), (⟨"CallingLoomsModel", "donePick", "()V"⟩, 14), (⟨"CallingLoomsModel", "leftHere", "()I"⟩, 14), (⟨"CallingLoomsModel", "countAt", "(I)I"⟩, 14), (⟨"CallingLoomsModel", "go", "(I)V"⟩, 14)]
theorem lw_r3 : ∀ q ∈ lw_privs_3, lw_okq q := List.forall_mem_cons.mpr ⟨lw_p32, List.forall_mem_cons.mpr ⟨lw_p33, List.forall_mem_cons.mpr ⟨lw_p34, List.forall_mem_cons.mpr ⟨lw_p35, List.forall_mem_cons.mpr ⟨lw_p36, List.forall_mem_cons.mpr ⟨lw_p37, List.forall_mem_cons.mpr ⟨lw_p38, List.forall_mem_cons.mpr ⟨lw_p39, List.forall_mem_cons.mpr ⟨lw_p40, List.forall_mem_cons.mpr ⟨lw_p41, List.forall_mem_cons.mpr ⟨lw_p42, List.forall_mem_cons.mpr ⟨lw_p43, List.forall_mem_cons.mpr ⟨lw_p44, List.forall_mem_cons.mpr ⟨lw_p45, List.forall_mem_cons.mpr ⟨lw_p46, List.forall_mem_cons.mpr ⟨lw_p47, fun _ h => absurd h List.not_mem_nil⟩⟩⟩⟩⟩⟩⟩⟩⟩⟩⟩⟩⟩⟩⟩⟩
theorem lw_p48 : lw_okq (⟨"CallingLoomsModel", "doPart", "(I)V"⟩, 14) := ⟨⟨by decide +kernel, by decide +kernel⟩, List.mem_of_getElem? (i := 681) (by decide +kernel), List.mem_of_getElem? (i := 924) (by decide +kernel), List.mem_of_getElem? (i := 925) (by decide +kernel)⟩
theorem lw_p49 : lw_okq (⟨"CallingLoomsModel", "open", "(I)V"⟩, 14) := ⟨⟨by decide +kernel, by decide +kernel⟩, List.mem_of_getElem? (i := 681) (by decide +kernel), List.mem_of_getElem? (i := 928) (by decide +kernel), List.mem_of_getElem? (i := 929) (by decide +kernel)⟩
theorem lw_p50 : lw_okq (⟨"CallingLoomsModel", "isShort", "()Z"⟩, 14) := ⟨⟨by decide +kernel, by decide +kernel⟩, List.mem_of_getElem? (i := 681) (by decide +kernel), List.mem_of_getElem? (i := 932) (by decide +kernel), List.mem_of_getElem? (i := 933) (by decide +kernel)⟩
theorem lw_p51 : lw_okq (⟨"CallingLoomsModel", "passPart", "(I)V"⟩, 14) := ⟨⟨by decide +kernel, by decide +kernel⟩, List.mem_of_getElem? (i := 681) (by decide +kernel), List.mem_of_getElem? (i := 936) (by decide +kernel), List.mem_of_getElem? (i := 937) (by decide +kernel)⟩
theorem lw_p52 : lw_okq (⟨"CallingLoomsModel", "settle", "()V"⟩, 14) := ⟨⟨by decide +kernel, by decide +kernel⟩, List.mem_of_getElem? (i := 681) (by decide +kernel), List.mem_of_getElem? (i := 940) (by decide +kernel), List.mem_of_getElem? (i := 941) (by decide +kernel)⟩
theorem lw_p53 : lw_okq (⟨"CallingLoomsModel", "close", "()V"⟩, 14) := ⟨⟨by decide +kernel, by decide +kernel⟩, List.mem_of_getElem? (i := 681) (by decide +kernel), List.mem_of_getElem? (i := 944) (by decide +kernel), List.mem_of_getElem? (i := 945) (by decide +kernel)⟩
theorem lw_p54 : lw_okq (⟨"CallingLoomsModel", "timesOnStack", "(I)I"⟩, 14) := ⟨⟨by decide +kernel, by decide +kernel⟩, List.mem_of_getElem? (i := 681) (by decide +kernel), List.mem_of_getElem? (i := 967) (by decide +kernel), List.mem_of_getElem? (i := 968) (by decide +kernel)⟩
theorem lw_p55 : lw_okq (⟨"CallingLoomsModel", "nested", "(I)I"⟩, 14) := ⟨⟨by decide +kernel, by decide +kernel⟩, List.mem_of_getElem? (i := 681) (by decide +kernel), List.mem_of_getElem? (i := 971) (by decide +kernel), List.mem_of_getElem? (i := 972) (by decide +kernel)⟩
theorem lw_p56 : lw_okq (⟨"CallingLoomsModel", "inCloth", "(I)I"⟩, 14) := ⟨⟨by decide +kernel, by decide +kernel⟩, List.mem_of_getElem? (i := 681) (by decide +kernel), List.mem_of_getElem? (i := 983) (by decide +kernel), List.mem_of_getElem? (i := 984) (by decide +kernel)⟩
theorem lw_p57 : lw_okq (⟨"CallingLoomsModel", "longestRow", "(I)I"⟩, 14) := ⟨⟨by decide +kernel, by decide +kernel⟩, List.mem_of_getElem? (i := 681) (by decide +kernel), List.mem_of_getElem? (i := 987) (by decide +kernel), List.mem_of_getElem? (i := 988) (by decide +kernel)⟩
theorem lw_p58 : lw_okq (⟨"CallingLoomsModel", "aheadByEnd", "(I)I"⟩, 14) := ⟨⟨by decide +kernel, by decide +kernel⟩, List.mem_of_getElem? (i := 681) (by decide +kernel), List.mem_of_getElem? (i := 999) (by decide +kernel), List.mem_of_getElem? (i := 1000) (by decide +kernel)⟩
theorem lw_p59 : lw_okq (⟨"CallingLoomsModel", "aheadByCloth", "(I)I"⟩, 14) := ⟨⟨by decide +kernel, by decide +kernel⟩, List.mem_of_getElem? (i := 681) (by decide +kernel), List.mem_of_getElem? (i := 1007) (by decide +kernel), List.mem_of_getElem? (i := 1008) (by decide +kernel)⟩
theorem lw_p60 : lw_okq (⟨"CallingLoomsModel", "withTexts", "()I"⟩, 14) := ⟨⟨by decide +kernel, by decide +kernel⟩, List.mem_of_getElem? (i := 681) (by decide +kernel), List.mem_of_getElem? (i := 1015) (by decide +kernel), List.mem_of_getElem? (i := 1016) (by decide +kernel)⟩
theorem lw_p61 : lw_okq (⟨"CallingLoomsModel", "sumOf", "(I)I"⟩, 14) := ⟨⟨by decide +kernel, by decide +kernel⟩, List.mem_of_getElem? (i := 681) (by decide +kernel), List.mem_of_getElem? (i := 1019) (by decide +kernel), List.mem_of_getElem? (i := 1020) (by decide +kernel)⟩
theorem lw_p62 : lw_okq (⟨"CallingLoomsModel", "whyNot", "(I)I"⟩, 14) := ⟨⟨by decide +kernel, by decide +kernel⟩, List.mem_of_getElem? (i := 681) (by decide +kernel), List.mem_of_getElem? (i := 1027) (by decide +kernel), List.mem_of_getElem? (i := 1028) (by decide +kernel)⟩
theorem lw_p63 : lw_okq (⟨"CallingLoomsModel", "tellsPicks", "(II)I"⟩, 14) := ⟨⟨by decide +kernel, by decide +kernel⟩, List.mem_of_getElem? (i := 681) (by decide +kernel), List.mem_of_getElem? (i := 1031) (by decide +kernel), List.mem_of_getElem? (i := 1032) (by decide +kernel)⟩
def lw_privs_4 : List (MethodName × Nat) := [(⟨"CallingLoomsModel", "doPart", "(I)V"⟩, 14), (⟨"CallingLoomsModel", "open", "(I)V"⟩, 14), (⟨"CallingLoomsModel", "isShort", "()Z"⟩, 14), (⟨"CallingLoomsModel", "passPart", "(I)V"⟩, 14), (⟨"CallingLoomsModel", "settle", "()V"⟩, 14), (⟨"CallingLoomsModel", "close", "()V"⟩, 14), (⟨"CallingLoomsModel", "timesOnStack", "(I)I"⟩, 14), (⟨"CallingLoomsModel", "nested", "(I)I"⟩, 14), (⟨"CallingLoomsModel", "inCloth", "(I)I"⟩, 14), (⟨"CallingLoomsModel", "longestRow", "(I)I"⟩, 14), (⟨"CallingLoomsModel", "aheadByEnd", "(I)I"⟩, 14), (⟨"CallingLoomsModel", "aheadByCloth", "(I)I"⟩, 14), (⟨"CallingLoomsModel", "withTexts", "()I"⟩, 14), (⟨"CallingLoomsModel", "sumOf", "(I)I"⟩, 14), (⟨"CallingLoomsModel", "whyNot", "(I)I"⟩, 14), (⟨"CallingLoomsModel", "tellsPicks", "(II)I"⟩, 14)]
theorem lw_r4 : ∀ q ∈ lw_privs_4, lw_okq q := List.forall_mem_cons.mpr ⟨lw_p48, List.forall_mem_cons.mpr ⟨lw_p49, List.forall_mem_cons.mpr ⟨lw_p50, List.forall_mem_cons.mpr ⟨lw_p51, List.forall_mem_cons.mpr ⟨lw_p52, List.forall_mem_cons.mpr ⟨lw_p53, List.forall_mem_cons.mpr ⟨lw_p54, List.forall_mem_cons.mpr ⟨lw_p55, List.forall_mem_cons.mpr ⟨lw_p56, List.forall_mem_cons.mpr ⟨lw_p57, List.forall_mem_cons.mpr ⟨lw_p58, List.forall_mem_cons.mpr ⟨lw_p59, List.forall_mem_cons.mpr ⟨lw_p60, List.forall_mem_cons.mpr ⟨lw_p61, List.forall_mem_cons.mpr ⟨lw_p62, List.forall_mem_cons.mpr ⟨lw_p63, fun _ h => absurd h List.not_mem_nil⟩⟩⟩⟩⟩⟩⟩⟩⟩⟩⟩⟩⟩⟩⟩⟩
theorem lw_p64 : lw_okq (⟨"CallingLoomsModel", "countAll", "()V"⟩, 14) := ⟨⟨by decide +kernel, by decide +kernel⟩, List.mem_of_getElem? (i := 681) (by decide +kernel), List.mem_of_getElem? (i := 1035) (by decide +kernel), List.mem_of_getElem? (i := 1036) (by decide +kernel)⟩
theorem lw_p65 : lw_okq (⟨"CallingLoomsModel", "areKnown", "(I)Z"⟩, 14) := ⟨⟨by decide +kernel, by decide +kernel⟩, List.mem_of_getElem? (i := 681) (by decide +kernel), List.mem_of_getElem? (i := 1039) (by decide +kernel), List.mem_of_getElem? (i := 1040) (by decide +kernel)⟩
theorem lw_p66 : lw_okq (⟨"CallingLoomsModel", "countCard", "(II)V"⟩, 14) := ⟨⟨by decide +kernel, by decide +kernel⟩, List.mem_of_getElem? (i := 681) (by decide +kernel), List.mem_of_getElem? (i := 1043) (by decide +kernel), List.mem_of_getElem? (i := 1044) (by decide +kernel)⟩
theorem lw_p67 : lw_okq (⟨"CallingLoomsModel", "digitAt", "(II)I"⟩, 14) := ⟨⟨by decide +kernel, by decide +kernel⟩, List.mem_of_getElem? (i := 681) (by decide +kernel), List.mem_of_getElem? (i := 1047) (by decide +kernel), List.mem_of_getElem? (i := 1048) (by decide +kernel)⟩
theorem lw_p68 : lw_okq (⟨"CallingLoomsModel", "countPicks", "(III)V"⟩, 14) := ⟨⟨by decide +kernel, by decide +kernel⟩, List.mem_of_getElem? (i := 681) (by decide +kernel), List.mem_of_getElem? (i := 1051) (by decide +kernel), List.mem_of_getElem? (i := 1052) (by decide +kernel)⟩
theorem lw_p69 : lw_okq (⟨"CallingLoomsModel", "addCalled", "(II)V"⟩, 14) := ⟨⟨by decide +kernel, by decide +kernel⟩, List.mem_of_getElem? (i := 681) (by decide +kernel), List.mem_of_getElem? (i := 1060) (by decide +kernel), List.mem_of_getElem? (i := 1061) (by decide +kernel)⟩
theorem lw_p70 : lw_okq (⟨"CallingLoomsModel", "behindPart", "(II)I"⟩, 14) := ⟨⟨by decide +kernel, by decide +kernel⟩, List.mem_of_getElem? (i := 681) (by decide +kernel), List.mem_of_getElem? (i := 1064) (by decide +kernel), List.mem_of_getElem? (i := 1065) (by decide +kernel)⟩
theorem lw_p71 : lw_okq (⟨"CallingLoomsModel", "deepest", "(I)I"⟩, 14) := ⟨⟨by decide +kernel, by decide +kernel⟩, List.mem_of_getElem? (i := 681) (by decide +kernel), List.mem_of_getElem? (i := 1068) (by decide +kernel), List.mem_of_getElem? (i := 1069) (by decide +kernel)⟩
theorem lw_p72 : lw_okq (⟨"CallingLoomsModel", "tellsDepth", "(I)I"⟩, 14) := ⟨⟨by decide +kernel, by decide +kernel⟩, List.mem_of_getElem? (i := 681) (by decide +kernel), List.mem_of_getElem? (i := 1076) (by decide +kernel), List.mem_of_getElem? (i := 1077) (by decide +kernel)⟩
theorem lw_p73 : lw_okq (⟨"CallingLoomsModel", "tellsStop", "(I)I"⟩, 14) := ⟨⟨by decide +kernel, by decide +kernel⟩, List.mem_of_getElem? (i := 681) (by decide +kernel), List.mem_of_getElem? (i := 1084) (by decide +kernel), List.mem_of_getElem? (i := 1085) (by decide +kernel)⟩
theorem lw_p74 : lw_okq (⟨"CallingLoomsModel", "takeBack", "()V"⟩, 14) := ⟨⟨by decide +kernel, by decide +kernel⟩, List.mem_of_getElem? (i := 681) (by decide +kernel), List.mem_of_getElem? (i := 1088) (by decide +kernel), List.mem_of_getElem? (i := 1089) (by decide +kernel)⟩
theorem lw_p75 : lw_okq (⟨"CallingLoomsModel", "tellsAhead", "(I)I"⟩, 14) := ⟨⟨by decide +kernel, by decide +kernel⟩, List.mem_of_getElem? (i := 681) (by decide +kernel), List.mem_of_getElem? (i := 1096) (by decide +kernel), List.mem_of_getElem? (i := 1097) (by decide +kernel)⟩
def lw_privs_5 : List (MethodName × Nat) := [(⟨"CallingLoomsModel", "countAll", "()V"⟩, 14), (⟨"CallingLoomsModel", "areKnown", "(I)Z"⟩, 14), (⟨"CallingLoomsModel", "countCard", "(II)V"⟩, 14), (⟨"CallingLoomsModel", "digitAt", "(II)I"⟩, 14), (⟨"CallingLoomsModel", "countPicks", "(III)V"⟩, 14), (⟨"CallingLoomsModel", "addCalled", "(II)V"⟩, 14), (⟨"CallingLoomsModel", "behindPart", "(II)I"⟩, 14), (⟨"CallingLoomsModel", "deepest", "(I)I"⟩, 14), (⟨"CallingLoomsModel", "tellsDepth", "(I)I"⟩, 14), (⟨"CallingLoomsModel", "tellsStop", "(I)I"⟩, 14), (⟨"CallingLoomsModel", "takeBack", "()V"⟩, 14), (⟨"CallingLoomsModel", "tellsAhead", "(I)I"⟩, 14)]
theorem lw_r5 : ∀ q ∈ lw_privs_5, lw_okq q := List.forall_mem_cons.mpr ⟨lw_p64, List.forall_mem_cons.mpr ⟨lw_p65, List.forall_mem_cons.mpr ⟨lw_p66, List.forall_mem_cons.mpr ⟨lw_p67, List.forall_mem_cons.mpr ⟨lw_p68, List.forall_mem_cons.mpr ⟨lw_p69, List.forall_mem_cons.mpr ⟨lw_p70, List.forall_mem_cons.mpr ⟨lw_p71, List.forall_mem_cons.mpr ⟨lw_p72, List.forall_mem_cons.mpr ⟨lw_p73, List.forall_mem_cons.mpr ⟨lw_p74, List.forall_mem_cons.mpr ⟨lw_p75, fun _ h => absurd h List.not_mem_nil⟩⟩⟩⟩⟩⟩⟩⟩⟩⟩⟩⟩
def lw_privs : List (MethodName × Nat) := lw_privs_1 ++ (lw_privs_2 ++ (lw_privs_3 ++ (lw_privs_4 ++ (lw_privs_5))))
def lw_tbl : List Cond := k2_sels lw_privs ++ tables_1
theorem lw_privs_ok : ∀ q ∈ lw_privs, lw_okq q := by
  show ∀ q ∈ lw_privs_1 ++ (lw_privs_2 ++ (lw_privs_3 ++ (lw_privs_4 ++ (lw_privs_5)))), lw_okq q
  exact List.forall_mem_append.mpr ⟨lw_r1, List.forall_mem_append.mpr ⟨lw_r2, List.forall_mem_append.mpr ⟨lw_r3, List.forall_mem_append.mpr ⟨lw_r4, lw_r5⟩⟩⟩⟩
-- ===== end of PART A; then your names; then what follows =====
/-! ===== BEGIN words of one list among another's, by their places ===== -/
theorem goodIn_r {big : List Cond} (ws : List Cond) (ps : List Nat) (hp : ws = ps.filterMap (fun i => big[i]?)) (h : ws.all goodWord = true) : GoodIn big ws := by
  intro w hw
  have h1 := List.all_eq_true.mp h w hw
  rw [hp] at hw
  obtain ⟨i, -, hi⟩ := List.mem_filterMap.mp hw
  have hm : w ∈ big := by first | exact List.mem_of_getElem? hi | exact List.getElem?_mem hi
  exact ⟨hm, good_of_word h1⟩
theorem goodIn_app {big a b : List Cond} (ha : GoodIn big a) (hb : GoodIn big b) : GoodIn big (a ++ b) := fun w h => (List.mem_append.mp h).elim (ha w) (hb w)
theorem goodIn_ca {big a b : List Cond} {c : Cond} (ha : GoodIn big (c :: a)) (hb : GoodIn big b) : GoodIn big (c :: (a ++ b)) := fun w h => (List.mem_cons.mp h).elim (fun e => ha w (List.mem_cons.mpr (Or.inl e))) (fun h => (List.mem_append.mp h).elim (fun h => ha w (List.mem_cons.mpr (Or.inr h))) (hb w))
theorem goodIn_sub {big ws : List Cond} (hm : ∀ w ∈ ws, w ∈ big) (h : ws.all goodWord = true) : GoodIn big ws := fun w hw => ⟨hm w hw, good_of_word (List.all_eq_true.mp h w hw)⟩
/-! ===== END ===== -/

/-! ===== BEGIN printed: names, fields, word lists, decode rows ===== -/
def RX0 : String := "CallingLooms$CardStack"
def TX0 : u_T := fun k => match k with
  | 0 => ("CallingLooms$CardStack", "cards", "[I", true)
  | 1 => ("CallingLooms$CardStack", "colours", "[I", true)
  | 2 => ("CallingLooms$CardStack", "parts", "[I", true)
  | 3 => ("CallingLooms$CardStack", "places", "[I", true)
  | 4 => ("CallingLooms$CardStack", "left", "[I", true)
  | 5 => ("CallingLooms$CardStack", "texts", "[LCallingLooms$CardText;", true)
  | _ => ("CallingLooms$CardStack", "size", "I", false)
def tyX0 : Nat → FieldType := fun k => match k with
  | 0 => .array .int
  | 1 => .array .int
  | 2 => .array .int
  | 3 => .array .int
  | 4 => .array .int
  | 5 => .array (.object "CallingLooms$CardText")
  | _ => .int
abbrev wsX00 : List Cond := u_ws RX0 TX0 7
theorem nmX0 : ∀ a, a < 7 → ∀ b, b < 7 → a ≠ b → (TX0 a).2.1 ≠ (TX0 b).2.1 := by decide +kernel
theorem tyX0_ok : ∀ k, k < 7 → parseFieldDescriptor (TX0 k).2.2.1 = some (tyX0 k) := by decide +kernel
abbrev cX0_init : ByteArray := prog_2_method_1_code
def yX0_init : MethodName := ⟨RX0, "<init>", "()V"⟩
abbrev cX0_copyFrom : ByteArray := prog_2_method_2_code
def yX0_copyFrom : MethodName := ⟨RX0, "copyFrom", "(LCallingLooms$CardStack;)V"⟩
abbrev cX0_timesOn : ByteArray := prog_2_method_3_code
def yX0_timesOn : MethodName := ⟨RX0, "timesOn", "(I)I"⟩
abbrev cX0_placeOf : ByteArray := prog_2_method_4_code
def yX0_placeOf : MethodName := ⟨RX0, "placeOf", "(I)I"⟩
abbrev cX0_topColour : ByteArray := prog_2_method_5_code
def yX0_topColour : MethodName := ⟨RX0, "topColour", "()I"⟩
abbrev cX0_stepLetter : ByteArray := prog_2_method_6_code
def yX0_stepLetter : MethodName := ⟨RX0, "stepLetter", "()I"⟩
abbrev cX0_stepDigit : ByteArray := prog_2_method_7_code
def yX0_stepDigit : MethodName := ⟨RX0, "stepDigit", "()I"⟩
abbrev cX0_layOn : ByteArray := prog_2_method_8_code
def yX0_layOn : MethodName := ⟨RX0, "layOn", "(ILCallingLooms$CardText;I)V"⟩
abbrev cX0_dye : ByteArray := prog_2_method_9_code
def yX0_dye : MethodName := ⟨RX0, "dye", "(I)V"⟩
abbrev cX0_passOver : ByteArray := prog_2_method_10_code
def yX0_passOver : MethodName := ⟨RX0, "passOver", "()V"⟩
abbrev cX0_beginPart : ByteArray := prog_2_method_11_code
def yX0_beginPart : MethodName := ⟨RX0, "beginPart", "()V"⟩
abbrev cX0_leaveEnds : ByteArray := prog_2_method_12_code
def yX0_leaveEnds : MethodName := ⟨RX0, "leaveEnds", "()V"⟩
abbrev cX0_placeBehind : ByteArray := prog_2_method_13_code
def yX0_placeBehind : MethodName := ⟨RX0, "placeBehind", "()I"⟩
abbrev cX0_arriveAt : ByteArray := prog_2_method_14_code
def yX0_arriveAt : MethodName := ⟨RX0, "arriveAt", "(I)V"⟩
abbrev cX0_spotOf : ByteArray := prog_2_method_15_code
def yX0_spotOf : MethodName := ⟨RX0, "spotOf", "(I)I"⟩
def RX1 : String := "CallingLooms$CardText"
def TX1 : u_T := fun k => match k with
  | 0 => ("CallingLooms$CardText", "length", "I", true)
  | 1 => ("CallingLooms$CardText", "steps", "I", true)
  | 2 => ("CallingLooms$CardText", "calls", "I", true)
  | 3 => ("CallingLooms$CardText", "nesting", "I", true)
  | 4 => ("CallingLooms$CardText", "signs", "[C", true)
  | 5 => ("CallingLooms$CardText", "times", "[I", true)
  | 6 => ("CallingLooms$CardText", "digits", "[I", true)
  | 7 => ("CallingLooms$CardText", "insides", "[I", true)
  | _ => ("CallingLooms$CardText", "behinds", "[I", true)
def tyX1 : Nat → FieldType := fun k => match k with
  | 0 => .int
  | 1 => .int
  | 2 => .int
  | 3 => .int
  | 4 => .array .char
  | 5 => .array .int
  | 6 => .array .int
  | 7 => .array .int
  | _ => .array .int
abbrev wsX10 : List Cond := u_ws RX1 TX1 9
theorem nmX1 : ∀ a, a < 9 → ∀ b, b < 9 → a ≠ b → (TX1 a).2.1 ≠ (TX1 b).2.1 := by decide +kernel
theorem tyX1_ok : ∀ k, k < 9 → parseFieldDescriptor (TX1 k).2.2.1 = some (tyX1 k) := by decide +kernel
abbrev cX1_init : ByteArray := prog_3_method_1_code
def yX1_init : MethodName := ⟨RX1, "<init>", "(LCallingLooms$TextReader;)V"⟩
abbrev cX1_signAt : ByteArray := prog_3_method_2_code
def yX1_signAt : MethodName := ⟨RX1, "signAt", "(I)I"⟩
abbrev cX1_timesAt : ByteArray := prog_3_method_3_code
def yX1_timesAt : MethodName := ⟨RX1, "timesAt", "(I)I"⟩
abbrev cX1_digitAt : ByteArray := prog_3_method_4_code
def yX1_digitAt : MethodName := ⟨RX1, "digitAt", "(I)I"⟩
abbrev cX1_insideOf : ByteArray := prog_3_method_5_code
def yX1_insideOf : MethodName := ⟨RX1, "insideOf", "(I)I"⟩
abbrev cX1_behind : ByteArray := prog_3_method_6_code
def yX1_behind : MethodName := ⟨RX1, "behind", "(I)I"⟩
def RX2 : String := "CallingLooms$Finder"
def TX2 : u_T := fun k => match k with
  | 0 => ("CallingLooms$Finder", "heights", "[I", true)
  | _ => ("CallingLooms$Finder", "woven", "[I", true)
def tyX2 : Nat → FieldType := fun k => match k with
  | 0 => .array .int
  | _ => .array .int
abbrev wsX20 : List Cond := u_ws RX2 TX2 2
theorem nmX2 : ∀ a, a < 2 → ∀ b, b < 2 → a ≠ b → (TX2 a).2.1 ≠ (TX2 b).2.1 := by decide +kernel
theorem tyX2_ok : ∀ k, k < 2 → parseFieldDescriptor (TX2 k).2.2.1 = some (tyX2 k) := by decide +kernel
abbrev cX2_init : ByteArray := prog_4_method_1_code
def yX2_init : MethodName := ⟨RX2, "<init>", "()V"⟩
abbrev cX2_written : ByteArray := prog_4_method_2_code
def yX2_written : MethodName := ⟨RX2, "written", "([LCallingLooms$CardText;)I"⟩
abbrev cX2_callersOf : ByteArray := prog_4_method_3_code
def yX2_callersOf : MethodName := ⟨RX2, "callersOf", "([LCallingLooms$CardText;I)I"⟩
abbrev cX2_calledBy : ByteArray := prog_4_method_4_code
def yX2_calledBy : MethodName := ⟨RX2, "calledBy", "([LCallingLooms$CardText;I)I"⟩
abbrev cX2_holds : ByteArray := prog_4_method_5_code
def yX2_holds : MethodName := ⟨RX2, "holds", "(II)Z"⟩
abbrev cX2_reachedFrom : ByteArray := prog_4_method_6_code
def yX2_reachedFrom : MethodName := ⟨RX2, "reachedFrom", "([LCallingLooms$CardText;I)I"⟩
abbrev cX2_troubleOf : ByteArray := prog_4_method_7_code
def yX2_troubleOf : MethodName := ⟨RX2, "troubleOf", "([LCallingLooms$CardText;I)I"⟩
abbrev cX2_depthOf : ByteArray := prog_4_method_8_code
def yX2_depthOf : MethodName := ⟨RX2, "depthOf", "([LCallingLooms$CardText;I)I"⟩
abbrev cX2_highestOf : ByteArray := prog_4_method_9_code
def yX2_highestOf : MethodName := ⟨RX2, "highestOf", "(I)I"⟩
abbrev cX2_picksOf : ByteArray := prog_4_method_10_code
def yX2_picksOf : MethodName := ⟨RX2, "picksOf", "([LCallingLooms$CardText;II)I"⟩
abbrev cX2_weighCard : ByteArray := prog_4_method_11_code
def yX2_weighCard : MethodName := ⟨RX2, "weighCard", "(LCallingLooms$CardText;II)V"⟩
abbrev cX2_weigh : ByteArray := prog_4_method_12_code
def yX2_weigh : MethodName := ⟨RX2, "weigh", "(LCallingLooms$CardText;III[II)I"⟩
abbrev cX2_colourBehind : ByteArray := prog_4_method_13_code
def yX2_colourBehind : MethodName := ⟨RX2, "colourBehind", "(LCallingLooms$CardText;II)I"⟩
def RX3 : String := "CallingLooms$History"
def TX3 : u_T := fun k => match k with
  | 0 => ("CallingLooms$History", "states", "[LCallingLooms$Loom;", true)
  | _ => ("CallingLooms$History", "size", "I", false)
def tyX3 : Nat → FieldType := fun k => match k with
  | 0 => .array (.object "CallingLooms$Loom")
  | _ => .int
abbrev wsX30 : List Cond := u_ws RX3 TX3 2
theorem nmX3 : ∀ a, a < 2 → ∀ b, b < 2 → a ≠ b → (TX3 a).2.1 ≠ (TX3 b).2.1 := by decide +kernel
theorem tyX3_ok : ∀ k, k < 2 → parseFieldDescriptor (TX3 k).2.2.1 = some (tyX3 k) := by decide +kernel
abbrev cX3_init : ByteArray := prog_5_method_1_code
def yX3_init : MethodName := ⟨RX3, "<init>", "()V"⟩
abbrev cX3_keep : ByteArray := prog_5_method_2_code
def yX3_keep : MethodName := ⟨RX3, "keep", "(LCallingLooms$Loom;)V"⟩
abbrev cX3_dropOldest : ByteArray := prog_5_method_3_code
def yX3_dropOldest : MethodName := ⟨RX3, "dropOldest", "()V"⟩
abbrev cX3_takeBack : ByteArray := prog_5_method_4_code
def yX3_takeBack : MethodName := ⟨RX3, "takeBack", "(LCallingLooms$Loom;)V"⟩
def RX4 : String := "CallingLooms$Loom"
def TX4 : u_T := fun k => match k with
  | 0 => ("CallingLooms$Loom", "texts", "[LCallingLooms$CardText;", true)
  | 1 => ("CallingLooms$Loom", "begun", "[I", true)
  | 2 => ("CallingLooms$Loom", "settings", "[I", true)
  | 3 => ("CallingLooms$Loom", "ells", "[I", true)
  | 4 => ("CallingLooms$Loom", "strain", "[I", true)
  | 5 => ("CallingLooms$Loom", "knots", "[I", true)
  | 6 => ("CallingLooms$Loom", "woven", "[I", true)
  | 7 => ("CallingLooms$Loom", "cloth", "[B", true)
  | 8 => ("CallingLooms$Loom", "stack", "LCallingLooms$CardStack;", true)
  | 9 => ("CallingLooms$Loom", "clothLength", "I", false)
  | 10 => ("CallingLooms$Loom", "mostOnStack", "I", false)
  | 11 => ("CallingLooms$Loom", "calls", "I", false)
  | _ => ("CallingLooms$Loom", "reason", "I", false)
def tyX4 : Nat → FieldType := fun k => match k with
  | 0 => .array (.object "CallingLooms$CardText")
  | 1 => .array .int
  | 2 => .array .int
  | 3 => .array .int
  | 4 => .array .int
  | 5 => .array .int
  | 6 => .array .int
  | 7 => .array .byte
  | 8 => .object "CallingLooms$CardStack"
  | 9 => .int
  | 10 => .int
  | 11 => .int
  | _ => .int
abbrev wsX40 : List Cond := u_ws RX4 TX4 13
theorem nmX4 : ∀ a, a < 13 → ∀ b, b < 13 → a ≠ b → (TX4 a).2.1 ≠ (TX4 b).2.1 := by decide +kernel
theorem tyX4_ok : ∀ k, k < 13 → parseFieldDescriptor (TX4 k).2.2.1 = some (tyX4 k) := by decide +kernel
abbrev cX4_init : ByteArray := prog_6_method_1_code
def yX4_init : MethodName := ⟨RX4, "<init>", "()V"⟩
abbrev cX4_copyFrom : ByteArray := prog_6_method_2_code
def yX4_copyFrom : MethodName := ⟨RX4, "copyFrom", "(LCallingLooms$Loom;)V"⟩
abbrev cX4_beginWith : ByteArray := prog_6_method_3_code
def yX4_beginWith : MethodName := ⟨RX4, "beginWith", "(I)I"⟩
abbrev cX4_layOnStack : ByteArray := prog_6_method_4_code
def yX4_layOnStack : MethodName := ⟨RX4, "layOnStack", "(II)V"⟩
abbrev cX4_tieThread : ByteArray := prog_6_method_5_code
def yX4_tieThread : MethodName := ⟨RX4, "tieThread", "(II)I"⟩
abbrev cX4_goOn : ByteArray := prog_6_method_6_code
def yX4_goOn : MethodName := ⟨RX4, "goOn", "(I)I"⟩
abbrev cX4_weaveNext : ByteArray := prog_6_method_7_code
def yX4_weaveNext : MethodName := ⟨RX4, "weaveNext", "()I"⟩
abbrev cX4_hindranceAfter : ByteArray := prog_6_method_8_code
def yX4_hindranceAfter : MethodName := ⟨RX4, "hindranceAfter", "(I)I"⟩
abbrev cX4_weavePick : ByteArray := prog_6_method_9_code
def yX4_weavePick : MethodName := ⟨RX4, "weavePick", "()V"⟩
abbrev cX4_doStep : ByteArray := prog_6_method_10_code
def yX4_doStep : MethodName := ⟨RX4, "doStep", "(I)V"⟩
abbrev cX4_isShort : ByteArray := prog_6_method_11_code
def yX4_isShort : MethodName := ⟨RX4, "isShort", "(I)Z"⟩
abbrev cX4_clothPicks : ByteArray := prog_6_method_12_code
def yX4_clothPicks : MethodName := ⟨RX4, "clothPicks", "(I)I"⟩
abbrev cX4_longestRow : ByteArray := prog_6_method_13_code
def yX4_longestRow : MethodName := ⟨RX4, "longestRow", "(I)I"⟩
abbrev cX4_endRank : ByteArray := prog_6_method_14_code
def yX4_endRank : MethodName := ⟨RX4, "endRank", "(I)I"⟩
abbrev cX4_clothRank : ByteArray := prog_6_method_15_code
def yX4_clothRank : MethodName := ⟨RX4, "clothRank", "(I)I"⟩
def RX5 : String := "CallingLooms$Pad"
def TX5 : u_T := fun k => match k with
  | 0 => ("CallingLooms$Pad", "signs", "[C", true)
  | _ => ("CallingLooms$Pad", "length", "I", false)
def tyX5 : Nat → FieldType := fun k => match k with
  | 0 => .array .char
  | _ => .int
abbrev wsX50 : List Cond := u_ws RX5 TX5 2
theorem nmX5 : ∀ a, a < 2 → ∀ b, b < 2 → a ≠ b → (TX5 a).2.1 ≠ (TX5 b).2.1 := by decide +kernel
theorem tyX5_ok : ∀ k, k < 2 → parseFieldDescriptor (TX5 k).2.2.1 = some (tyX5 k) := by decide +kernel
abbrev cX5_init : ByteArray := prog_7_method_1_code
def yX5_init : MethodName := ⟨RX5, "<init>", "()V"⟩
abbrev cX5_charactersIn : ByteArray := prog_7_method_2_code
def yX5_charactersIn : MethodName := ⟨RX5, "charactersIn", "(J)I"⟩
abbrev cX5_append : ByteArray := prog_7_method_3_code
def yX5_append : MethodName := ⟨RX5, "append", "(JI)V"⟩
abbrev cX5_takeOver : ByteArray := prog_7_method_4_code
def yX5_takeOver : MethodName := ⟨RX5, "takeOver", "(LCallingLooms$CardText;)V"⟩
def RX6 : String := "CallingLooms$TextReader"
def TX6 : u_T := fun k => match k with
  | 0 => ("CallingLooms$TextReader", "signs", "[C", true)
  | 1 => ("CallingLooms$TextReader", "times", "[I", true)
  | 2 => ("CallingLooms$TextReader", "digits", "[I", true)
  | 3 => ("CallingLooms$TextReader", "insides", "[I", true)
  | 4 => ("CallingLooms$TextReader", "behinds", "[I", true)
  | 5 => ("CallingLooms$TextReader", "length", "I", false)
  | 6 => ("CallingLooms$TextReader", "steps", "I", false)
  | 7 => ("CallingLooms$TextReader", "calls", "I", false)
  | 8 => ("CallingLooms$TextReader", "nesting", "I", false)
  | 9 => ("CallingLooms$TextReader", "opened", "[I", true)
  | 10 => ("CallingLooms$TextReader", "open", "I", false)
  | 11 => ("CallingLooms$TextReader", "wanted", "I", false)
  | _ => ("CallingLooms$TextReader", "step", "I", false)
def tyX6 : Nat → FieldType := fun k => match k with
  | 0 => .array .char
  | 1 => .array .int
  | 2 => .array .int
  | 3 => .array .int
  | 4 => .array .int
  | 5 => .int
  | 6 => .int
  | 7 => .int
  | 8 => .int
  | 9 => .array .int
  | 10 => .int
  | 11 => .int
  | _ => .int
abbrev wsX60 : List Cond := u_ws RX6 TX6 13
theorem nmX6 : ∀ a, a < 13 → ∀ b, b < 13 → a ≠ b → (TX6 a).2.1 ≠ (TX6 b).2.1 := by decide +kernel
theorem tyX6_ok : ∀ k, k < 13 → parseFieldDescriptor (TX6 k).2.2.1 = some (tyX6 k) := by decide +kernel
abbrev cX6_init : ByteArray := prog_8_method_1_code
def yX6_init : MethodName := ⟨RX6, "<init>", "()V"⟩
abbrev cX6_faultOf : ByteArray := prog_8_method_2_code
def yX6_faultOf : MethodName := ⟨RX6, "faultOf", "(LCallingLooms$Pad;)I"⟩
abbrev cX6_readText : ByteArray := prog_8_method_3_code
def yX6_readText : MethodName := ⟨RX6, "readText", "()LCallingLooms$CardText;"⟩
abbrev cX6_takes : ByteArray := prog_8_method_4_code
def yX6_takes : MethodName := ⟨RX6, "takes", "(II)Z"⟩
abbrev cX6_takesStep : ByteArray := prog_8_method_5_code
def yX6_takesStep : MethodName := ⟨RX6, "takesStep", "(II)Z"⟩
abbrev cX6_isCount : ByteArray := prog_8_method_6_code
def yX6_isCount : MethodName := ⟨RX6, "isCount", "(I)Z"⟩
abbrev cX6_takesPickCount : ByteArray := prog_8_method_7_code
def yX6_takesPickCount : MethodName := ⟨RX6, "takesPickCount", "(II)Z"⟩
abbrev cX6_takesPartCount : ByteArray := prog_8_method_8_code
def yX6_takesPartCount : MethodName := ⟨RX6, "takesPartCount", "(I)Z"⟩
abbrev cX6_takesDigit : ByteArray := prog_8_method_9_code
def yX6_takesDigit : MethodName := ⟨RX6, "takesDigit", "(II)Z"⟩
abbrev cX6_takesBracket : ByteArray := prog_8_method_10_code
def yX6_takesBracket : MethodName := ⟨RX6, "takesBracket", "(II)Z"⟩
abbrev cX6_takesEnd : ByteArray := prog_8_method_11_code
def yX6_takesEnd : MethodName := ⟨RX6, "takesEnd", "(I)Z"⟩
def RX7 : String := "CallingLooms"
def TX7 : u_T := fun k => match k with
  | 0 => ("CallingLooms", "pad", "LCallingLooms$Pad;", true)
  | 1 => ("CallingLooms", "reader", "LCallingLooms$TextReader;", true)
  | 2 => ("CallingLooms", "loom", "LCallingLooms$Loom;", true)
  | 3 => ("CallingLooms", "trial", "LCallingLooms$Loom;", true)
  | 4 => ("CallingLooms", "history", "LCallingLooms$History;", true)
  | 5 => ("CallingLooms", "slots", "[LCallingLooms$Loom;", true)
  | _ => ("CallingLooms", "finder", "LCallingLooms$Finder;", true)
def tyX7 : Nat → FieldType := fun k => match k with
  | 0 => .object "CallingLooms$Pad"
  | 1 => .object "CallingLooms$TextReader"
  | 2 => .object "CallingLooms$Loom"
  | 3 => .object "CallingLooms$Loom"
  | 4 => .object "CallingLooms$History"
  | 5 => .array (.object "CallingLooms$Loom")
  | _ => .object "CallingLooms$Finder"
abbrev wsX70 : List Cond := u_ws RX7 TX7 7
theorem nmX7 : ∀ a, a < 7 → ∀ b, b < 7 → a ≠ b → (TX7 a).2.1 ≠ (TX7 b).2.1 := by decide +kernel
theorem tyX7_ok : ∀ k, k < 7 → parseFieldDescriptor (TX7 k).2.2.1 = some (tyX7 k) := by decide +kernel
abbrev cX7_init : ByteArray := prog_1_method_1_code
def yX7_init : MethodName := ⟨RX7, "<init>", "()V"⟩
abbrev cX7_set : ByteArray := prog_1_method_2_code
def yX7_set : MethodName := ⟨RX7, "set", "(II)I"⟩
abbrev cX7_card : ByteArray := prog_1_method_3_code
def yX7_card : MethodName := ⟨RX7, "card", "(I)I"⟩
abbrev cX7_blank : ByteArray := prog_1_method_4_code
def yX7_blank : MethodName := ⟨RX7, "blank", "(I)I"⟩
abbrev cX7_begin : ByteArray := prog_1_method_5_code
def yX7_begin : MethodName := ⟨RX7, "begin", "(I)I"⟩
abbrev cX7_weave : ByteArray := prog_1_method_6_code
def yX7_weave : MethodName := ⟨RX7, "weave", "(I)I"⟩
abbrev cX7_skip : ByteArray := prog_1_method_7_code
def yX7_skip : MethodName := ⟨RX7, "skip", "()I"⟩
abbrev cX7_tie : ByteArray := prog_1_method_8_code
def yX7_tie : MethodName := ⟨RX7, "tie", "(II)I"⟩
abbrev cX7_cut : ByteArray := prog_1_method_9_code
def yX7_cut : MethodName := ⟨RX7, "cut", "()I"⟩
abbrev cX7_of : ByteArray := prog_1_method_10_code
def yX7_of : MethodName := ⟨RX7, "of", "(II)I"⟩
abbrev cX7_stack : ByteArray := prog_1_method_11_code
def yX7_stack : MethodName := ⟨RX7, "stack", "(II)I"⟩
abbrev cX7_thread : ByteArray := prog_1_method_12_code
def yX7_thread : MethodName := ⟨RX7, "thread", "(II)I"⟩
abbrev cX7_pick : ByteArray := prog_1_method_13_code
def yX7_pick : MethodName := ⟨RX7, "pick", "(I)I"⟩
abbrev cX7_byEnd : ByteArray := prog_1_method_14_code
def yX7_byEnd : MethodName := ⟨RX7, "byEnd", "(I)I"⟩
abbrev cX7_byCloth : ByteArray := prog_1_method_15_code
def yX7_byCloth : MethodName := ⟨RX7, "byCloth", "(I)I"⟩
abbrev cX7_write : ByteArray := prog_1_method_16_code
def yX7_write : MethodName := ⟨RX7, "write", "(I)I"⟩
abbrev cX7_sign : ByteArray := prog_1_method_17_code
def yX7_sign : MethodName := ⟨RX7, "sign", "(I)I"⟩
abbrev cX7_count : ByteArray := prog_1_method_18_code
def yX7_count : MethodName := ⟨RX7, "count", "(I)I"⟩
abbrev cX7_picks : ByteArray := prog_1_method_19_code
def yX7_picks : MethodName := ⟨RX7, "picks", "(II)I"⟩
abbrev cX7_depth : ByteArray := prog_1_method_20_code
def yX7_depth : MethodName := ⟨RX7, "depth", "(I)I"⟩
abbrev cX7_reaches : ByteArray := prog_1_method_21_code
def yX7_reaches : MethodName := ⟨RX7, "reaches", "(I)I"⟩
abbrev cX7_stop : ByteArray := prog_1_method_22_code
def yX7_stop : MethodName := ⟨RX7, "stop", "(I)I"⟩
abbrev cX7_ahead : ByteArray := prog_1_method_23_code
def yX7_ahead : MethodName := ⟨RX7, "ahead", "(I)I"⟩
abbrev cX7_put : ByteArray := prog_1_method_24_code
def yX7_put : MethodName := ⟨RX7, "put", "(J)I"⟩
abbrev cX7_wipe : ByteArray := prog_1_method_25_code
def yX7_wipe : MethodName := ⟨RX7, "wipe", "()I"⟩
abbrev cX7_fault : ByteArray := prog_1_method_26_code
def yX7_fault : MethodName := ⟨RX7, "fault", "()I"⟩
abbrev cX7_undo : ByteArray := prog_1_method_27_code
def yX7_undo : MethodName := ⟨RX7, "undo", "()I"⟩
abbrev cX7_save : ByteArray := prog_1_method_28_code
def yX7_save : MethodName := ⟨RX7, "save", "(I)I"⟩
abbrev cX7_restore : ByteArray := prog_1_method_29_code
def yX7_restore : MethodName := ⟨RX7, "restore", "(I)I"⟩
abbrev cX7_inRange : ByteArray := prog_1_method_30_code
def yX7_inRange : MethodName := ⟨RX7, "inRange", "(II)Z"⟩
abbrev cX7_sum : ByteArray := prog_1_method_31_code
def yX7_sum : MethodName := ⟨RX7, "sum", "([I)I"⟩
abbrev cX7_copyRow : ByteArray := prog_1_method_32_code
def yX7_copyRow : MethodName := ⟨RX7, "copyRow", "([I[I)V"⟩
abbrev cX7_copyTexts : ByteArray := prog_1_method_33_code
def yX7_copyTexts : MethodName := ⟨RX7, "copyTexts", "([LCallingLooms$CardText;[LCallingLooms$CardText;)V"⟩
def RX8 : String := "CallingLoomsModel"
def TX8 : u_T := fun k => match k with
  | 0 => ("CallingLoomsModel", "state", "[I", true)
  | 1 => ("CallingLoomsModel", "spare", "[I", true)
  | 2 => ("CallingLoomsModel", "history", "[I", true)
  | 3 => ("CallingLoomsModel", "states", "I", false)
  | 4 => ("CallingLoomsModel", "slots", "[I", true)
  | 5 => ("CallingLoomsModel", "isSaved", "[I", true)
  | 6 => ("CallingLoomsModel", "pad", "[I", true)
  | 7 => ("CallingLoomsModel", "length", "I", false)
  | 8 => ("CallingLoomsModel", "at", "I", false)
  | 9 => ("CallingLoomsModel", "brackets", "I", false)
  | 10 => ("CallingLoomsModel", "counts", "[I", true)
  | 11 => ("CallingLoomsModel", "deep", "[I", true)
  | 12 => ("CallingLoomsModel", "began", "[I", true)
  | _ => ("CallingLoomsModel", "times", "[I", true)
def tyX8 : Nat → FieldType := fun k => match k with
  | 0 => .array .int
  | 1 => .array .int
  | 2 => .array .int
  | 3 => .int
  | 4 => .array .int
  | 5 => .array .int
  | 6 => .array .int
  | 7 => .int
  | 8 => .int
  | 9 => .int
  | 10 => .array .int
  | 11 => .array .int
  | 12 => .array .int
  | _ => .array .int
abbrev wsX80 : List Cond := u_ws RX8 TX8 14
theorem nmX8 : ∀ a, a < 14 → ∀ b, b < 14 → a ≠ b → (TX8 a).2.1 ≠ (TX8 b).2.1 := by decide +kernel
theorem tyX8_ok : ∀ k, k < 14 → parseFieldDescriptor (TX8 k).2.2.1 = some (tyX8 k) := by decide +kernel
abbrev cX8_init : ByteArray := prog_10_method_1_code
def yX8_init : MethodName := ⟨RX8, "<init>", "()V"⟩
abbrev cX8_within : ByteArray := prog_10_method_2_code
def yX8_within : MethodName := ⟨RX8, "within", "(III)Z"⟩
abbrev cX8_isCard : ByteArray := prog_10_method_3_code
def yX8_isCard : MethodName := ⟨RX8, "isCard", "(I)Z"⟩
abbrev cX8_isColour : ByteArray := prog_10_method_4_code
def yX8_isColour : MethodName := ⟨RX8, "isColour", "(I)Z"⟩
abbrev cX8_hasText : ByteArray := prog_10_method_5_code
def yX8_hasText : MethodName := ⟨RX8, "hasText", "(I)Z"⟩
abbrev cX8_textAt : ByteArray := prog_10_method_6_code
def yX8_textAt : MethodName := ⟨RX8, "textAt", "(II)I"⟩
abbrev cX8_putAside : ByteArray := prog_10_method_8_code
def yX8_putAside : MethodName := ⟨RX8, "putAside", "()V"⟩
abbrev cX8_takeBack : ByteArray := prog_10_method_9_code
def yX8_takeBack : MethodName := ⟨RX8, "takeBack", "()V"⟩
abbrev cX8_push : ByteArray := prog_10_method_10_code
def yX8_push : MethodName := ⟨RX8, "push", "()V"⟩
abbrev cX8_record : ByteArray := prog_10_method_11_code
def yX8_record : MethodName := ⟨RX8, "record", "()V"⟩
abbrev cX8_undo : ByteArray := prog_10_method_12_code
def yX8_undo : MethodName := ⟨RX8, "undo", "()I"⟩
abbrev cX8_isSlot : ByteArray := prog_10_method_13_code
def yX8_isSlot : MethodName := ⟨RX8, "isSlot", "(I)Z"⟩
abbrev cX8_save : ByteArray := prog_10_method_14_code
def yX8_save : MethodName := ⟨RX8, "save", "(I)I"⟩
abbrev cX8_restore : ByteArray := prog_10_method_15_code
def yX8_restore : MethodName := ⟨RX8, "restore", "(I)I"⟩
abbrev cX8_code : ByteArray := prog_10_method_16_code
def yX8_code : MethodName := ⟨RX8, "code", "()I"⟩
abbrev cX8_takesDigit : ByteArray := prog_10_method_17_code
def yX8_takesDigit : MethodName := ⟨RX8, "takesDigit", "(II)Z"⟩
abbrev cX8_opens : ByteArray := prog_10_method_18_code
def yX8_opens : MethodName := ⟨RX8, "opens", "()Z"⟩
abbrev cX8_readsStep : ByteArray := prog_10_method_19_code
def yX8_readsStep : MethodName := ⟨RX8, "readsStep", "()Z"⟩
abbrev cX8_findFault : ByteArray := prog_10_method_20_code
def yX8_findFault : MethodName := ⟨RX8, "findFault", "()I"⟩
abbrev cX8_fault : ByteArray := prog_10_method_21_code
def yX8_fault : MethodName := ⟨RX8, "fault", "()I"⟩
abbrev cX8_isCharacter : ByteArray := prog_10_method_22_code
def yX8_isCharacter : MethodName := ⟨RX8, "isCharacter", "(I)Z"⟩
abbrev cX8_charactersIn : ByteArray := prog_10_method_23_code
def yX8_charactersIn : MethodName := ⟨RX8, "charactersIn", "(J)I"⟩
abbrev cX8_put : ByteArray := prog_10_method_24_code
def yX8_put : MethodName := ⟨RX8, "put", "(J)I"⟩
abbrev cX8_wipe : ByteArray := prog_10_method_25_code
def yX8_wipe : MethodName := ⟨RX8, "wipe", "()I"⟩
abbrev cX8_write : ByteArray := prog_10_method_26_code
def yX8_write : MethodName := ⟨RX8, "write", "(I)I"⟩
abbrev cX8_sign : ByteArray := prog_10_method_27_code
def yX8_sign : MethodName := ⟨RX8, "sign", "(I)I"⟩
abbrev cX8_isLetter : ByteArray := prog_10_method_28_code
def yX8_isLetter : MethodName := ⟨RX8, "isLetter", "(I)Z"⟩
abbrev cX8_steps : ByteArray := prog_10_method_29_code
def yX8_steps : MethodName := ⟨RX8, "steps", "(I)I"⟩
abbrev cX8_calls : ByteArray := prog_10_method_30_code
def yX8_calls : MethodName := ⟨RX8, "calls", "(I)I"⟩
abbrev cX8_callers : ByteArray := prog_10_method_31_code
def yX8_callers : MethodName := ⟨RX8, "callers", "(I)I"⟩
abbrev cX8_nested : ByteArray := prog_10_method_32_code
def yX8_nested : MethodName := ⟨RX8, "nested", "(I)I"⟩
abbrev cX8_reached : ByteArray := prog_10_method_33_code
def yX8_reached : MethodName := ⟨RX8, "reached", "(I)I"⟩
abbrev cX8_reaches : ByteArray := prog_10_method_34_code
def yX8_reaches : MethodName := ⟨RX8, "reaches", "(I)I"⟩
abbrev cX8_card : ByteArray := prog_10_method_35_code
def yX8_card : MethodName := ⟨RX8, "card", "(I)I"⟩
abbrev cX8_blank : ByteArray := prog_10_method_36_code
def yX8_blank : MethodName := ⟨RX8, "blank", "(I)I"⟩
abbrev cX8_leastOf : ByteArray := prog_10_method_37_code
def yX8_leastOf : MethodName := ⟨RX8, "leastOf", "(I)I"⟩
abbrev cX8_set : ByteArray := prog_10_method_38_code
def yX8_set : MethodName := ⟨RX8, "set", "(II)I"⟩
abbrev cX8_frame : ByteArray := prog_10_method_39_code
def yX8_frame : MethodName := ⟨RX8, "frame", "(I)I"⟩
abbrev cX8_onTop : ByteArray := prog_10_method_40_code
def yX8_onTop : MethodName := ⟨RX8, "onTop", "(I)I"⟩
abbrev cX8_setTop : ByteArray := prog_10_method_41_code
def yX8_setTop : MethodName := ⟨RX8, "setTop", "(II)V"⟩
abbrev cX8_signAt : ByteArray := prog_10_method_42_code
def yX8_signAt : MethodName := ⟨RX8, "signAt", "(I)I"⟩
abbrev cX8_go : ByteArray := prog_10_method_43_code
def yX8_go : MethodName := ⟨RX8, "go", "(I)V"⟩
abbrev cX8_lay : ByteArray := prog_10_method_44_code
def yX8_lay : MethodName := ⟨RX8, "lay", "(II)V"⟩
abbrev cX8_open : ByteArray := prog_10_method_45_code
def yX8_open : MethodName := ⟨RX8, "open", "(I)V"⟩
abbrev cX8_close : ByteArray := prog_10_method_46_code
def yX8_close : MethodName := ⟨RX8, "close", "()V"⟩
abbrev cX8_settle : ByteArray := prog_10_method_47_code
def yX8_settle : MethodName := ⟨RX8, "settle", "()V"⟩
abbrev cX8_passPart : ByteArray := prog_10_method_48_code
def yX8_passPart : MethodName := ⟨RX8, "passPart", "(I)V"⟩
abbrev cX8_isShort : ByteArray := prog_10_method_49_code
def yX8_isShort : MethodName := ⟨RX8, "isShort", "()Z"⟩
abbrev cX8_countAt : ByteArray := prog_10_method_50_code
def yX8_countAt : MethodName := ⟨RX8, "countAt", "(I)I"⟩
abbrev cX8_leftHere : ByteArray := prog_10_method_51_code
def yX8_leftHere : MethodName := ⟨RX8, "leftHere", "()I"⟩
abbrev cX8_donePick : ByteArray := prog_10_method_52_code
def yX8_donePick : MethodName := ⟨RX8, "donePick", "()V"⟩
abbrev cX8_weavePick : ByteArray := prog_10_method_53_code
def yX8_weavePick : MethodName := ⟨RX8, "weavePick", "()V"⟩
abbrev cX8_reasonOfPick : ByteArray := prog_10_method_54_code
def yX8_reasonOfPick : MethodName := ⟨RX8, "reasonOfPick", "()I"⟩
abbrev cX8_reasonOfCall : ByteArray := prog_10_method_55_code
def yX8_reasonOfCall : MethodName := ⟨RX8, "reasonOfCall", "()I"⟩
abbrev cX8_reason : ByteArray := prog_10_method_56_code
def yX8_reason : MethodName := ⟨RX8, "reason", "(I)I"⟩
abbrev cX8_doPart : ByteArray := prog_10_method_57_code
def yX8_doPart : MethodName := ⟨RX8, "doPart", "(I)V"⟩
abbrev cX8_doStep : ByteArray := prog_10_method_58_code
def yX8_doStep : MethodName := ⟨RX8, "doStep", "()Z"⟩
abbrev cX8_weaves : ByteArray := prog_10_method_59_code
def yX8_weaves : MethodName := ⟨RX8, "weaves", "(I)I"⟩
abbrev cX8_begin : ByteArray := prog_10_method_60_code
def yX8_begin : MethodName := ⟨RX8, "begin", "(I)I"⟩
abbrev cX8_weave : ByteArray := prog_10_method_61_code
def yX8_weave : MethodName := ⟨RX8, "weave", "(I)I"⟩
abbrev cX8_skip : ByteArray := prog_10_method_62_code
def yX8_skip : MethodName := ⟨RX8, "skip", "()I"⟩
abbrev cX8_tie : ByteArray := prog_10_method_63_code
def yX8_tie : MethodName := ⟨RX8, "tie", "(II)I"⟩
abbrev cX8_cut : ByteArray := prog_10_method_64_code
def yX8_cut : MethodName := ⟨RX8, "cut", "()I"⟩
abbrev cX8_timesOnStack : ByteArray := prog_10_method_65_code
def yX8_timesOnStack : MethodName := ⟨RX8, "timesOnStack", "(I)I"⟩
abbrev cX8_of : ByteArray := prog_10_method_66_code
def yX8_of : MethodName := ⟨RX8, "of", "(II)I"⟩
abbrev cX8_stack : ByteArray := prog_10_method_67_code
def yX8_stack : MethodName := ⟨RX8, "stack", "(II)I"⟩
abbrev cX8_inCloth : ByteArray := prog_10_method_68_code
def yX8_inCloth : MethodName := ⟨RX8, "inCloth", "(I)I"⟩
abbrev cX8_longestRow : ByteArray := prog_10_method_69_code
def yX8_longestRow : MethodName := ⟨RX8, "longestRow", "(I)I"⟩
abbrev cX8_thread : ByteArray := prog_10_method_70_code
def yX8_thread : MethodName := ⟨RX8, "thread", "(II)I"⟩
abbrev cX8_pick : ByteArray := prog_10_method_71_code
def yX8_pick : MethodName := ⟨RX8, "pick", "(I)I"⟩
abbrev cX8_aheadByEnd : ByteArray := prog_10_method_72_code
def yX8_aheadByEnd : MethodName := ⟨RX8, "aheadByEnd", "(I)I"⟩
abbrev cX8_byEnd : ByteArray := prog_10_method_73_code
def yX8_byEnd : MethodName := ⟨RX8, "byEnd", "(I)I"⟩
abbrev cX8_aheadByCloth : ByteArray := prog_10_method_74_code
def yX8_aheadByCloth : MethodName := ⟨RX8, "aheadByCloth", "(I)I"⟩
abbrev cX8_byCloth : ByteArray := prog_10_method_75_code
def yX8_byCloth : MethodName := ⟨RX8, "byCloth", "(I)I"⟩
abbrev cX8_withTexts : ByteArray := prog_10_method_76_code
def yX8_withTexts : MethodName := ⟨RX8, "withTexts", "()I"⟩
abbrev cX8_sumOf : ByteArray := prog_10_method_77_code
def yX8_sumOf : MethodName := ⟨RX8, "sumOf", "(I)I"⟩
abbrev cX8_count : ByteArray := prog_10_method_78_code
def yX8_count : MethodName := ⟨RX8, "count", "(I)I"⟩
abbrev cX8_bounded : ByteArray := prog_10_method_79_code
def yX8_bounded : MethodName := ⟨RX8, "bounded", "(I)I"⟩
abbrev cX8_countPicks : ByteArray := prog_10_method_80_code
def yX8_countPicks : MethodName := ⟨RX8, "countPicks", "(III)V"⟩
abbrev cX8_behindPart : ByteArray := prog_10_method_81_code
def yX8_behindPart : MethodName := ⟨RX8, "behindPart", "(II)I"⟩
abbrev cX8_digitAt : ByteArray := prog_10_method_82_code
def yX8_digitAt : MethodName := ⟨RX8, "digitAt", "(II)I"⟩
abbrev cX8_countCard : ByteArray := prog_10_method_83_code
def yX8_countCard : MethodName := ⟨RX8, "countCard", "(II)V"⟩
abbrev cX8_addCalled : ByteArray := prog_10_method_84_code
def yX8_addCalled : MethodName := ⟨RX8, "addCalled", "(II)V"⟩
abbrev cX8_areKnown : ByteArray := prog_10_method_85_code
def yX8_areKnown : MethodName := ⟨RX8, "areKnown", "(I)Z"⟩
abbrev cX8_deepest : ByteArray := prog_10_method_86_code
def yX8_deepest : MethodName := ⟨RX8, "deepest", "(I)I"⟩
abbrev cX8_countAll : ByteArray := prog_10_method_87_code
def yX8_countAll : MethodName := ⟨RX8, "countAll", "()V"⟩
abbrev cX8_whyNot : ByteArray := prog_10_method_88_code
def yX8_whyNot : MethodName := ⟨RX8, "whyNot", "(I)I"⟩
abbrev cX8_tellsPicks : ByteArray := prog_10_method_89_code
def yX8_tellsPicks : MethodName := ⟨RX8, "tellsPicks", "(II)I"⟩
abbrev cX8_picks : ByteArray := prog_10_method_90_code
def yX8_picks : MethodName := ⟨RX8, "picks", "(II)I"⟩
abbrev cX8_tellsDepth : ByteArray := prog_10_method_91_code
def yX8_tellsDepth : MethodName := ⟨RX8, "tellsDepth", "(I)I"⟩
abbrev cX8_depth : ByteArray := prog_10_method_92_code
def yX8_depth : MethodName := ⟨RX8, "depth", "(I)I"⟩
abbrev cX8_tellsStop : ByteArray := prog_10_method_93_code
def yX8_tellsStop : MethodName := ⟨RX8, "tellsStop", "(I)I"⟩
abbrev cX8_stop : ByteArray := prog_10_method_94_code
def yX8_stop : MethodName := ⟨RX8, "stop", "(I)I"⟩
abbrev cX8_tellsAhead : ByteArray := prog_10_method_95_code
def yX8_tellsAhead : MethodName := ⟨RX8, "tellsAhead", "(I)I"⟩
abbrev cX8_ahead : ByteArray := prog_10_method_96_code
def yX8_ahead : MethodName := ⟨RX8, "ahead", "(I)I"⟩
def RJ9 : String := "java/lang/Math"
def TJ9 : u_T := fun k => match k with
  | _ => ("", "", "", false)
def tyJ9 : Nat → FieldType := fun k => match k with
  | _ => .int
abbrev wsJ90 : List Cond := u_ws RJ9 TJ9 0
theorem nmJ9 : ∀ a, a < 0 → ∀ b, b < 0 → a ≠ b → (TJ9 a).2.1 ≠ (TJ9 b).2.1 := by decide +kernel
theorem tyJ9_ok : ∀ k, k < 0 → parseFieldDescriptor (TJ9 k).2.2.1 = some (tyJ9 k) := by decide +kernel
abbrev cJ9_max_7cf53 : ByteArray := prog_11_method_65_code
def yJ9_max_7cf53 : MethodName := ⟨RJ9, "max", "(II)I"⟩
abbrev cJ9_min_7cf53 : ByteArray := prog_11_method_69_code
def yJ9_min_7cf53 : MethodName := ⟨RJ9, "min", "(II)I"⟩
def RJ10 : String := "java/lang/System"
def TJ10 : u_T := fun k => match k with
  | _ => ("", "", "", false)
def tyJ10 : Nat → FieldType := fun k => match k with
  | _ => .int
abbrev wsJ100 : List Cond := u_ws RJ10 TJ10 0
theorem nmJ10 : ∀ a, a < 0 → ∀ b, b < 0 → a ≠ b → (TJ10 a).2.1 ≠ (TJ10 b).2.1 := by decide +kernel
theorem tyJ10_ok : ∀ k, k < 0 → parseFieldDescriptor (TJ10 k).2.2.1 = some (tyJ10 k) := by decide +kernel
def RL : String := "CallingLoomsLaw"
abbrev cL_law : ByteArray := code
def yL_law : MethodName := ⟨RL, "law", "([I)Z"⟩
abbrev vwCl : List vw_C := [(RX0, TX0, 7), (RX1, TX1, 9), (RX2, TX2, 2), (RX3, TX3, 2), (RX4, TX4, 13), (RX5, TX5, 2), (RX6, TX6, 13), (RX7, TX7, 7), (RX8, TX8, 14)]
/-! the words, each by its place in the tables -/
def gALL : List Cond := lw_tbl.filter goodWord
theorem gmem {w : Cond} (i : Nat) (h : lw_tbl[i]? = some w) (g : goodWord w = true) : w ∈ gALL := List.mem_filter.mpr ⟨List.mem_of_getElem? h, g⟩
theorem gall {w : Cond} (h : w ∈ gALL) : w ∈ lw_tbl ∧ goodWord w = true := List.mem_filter.mp h
theorem gmemL {ws : List Cond} (ps : List Nat) (hp : ws = ps.filterMap (fun i => lw_tbl[i]?)) (h : ws.all goodWord = true) : ∀ w ∈ ws, w ∈ gALL := fun w hw => List.mem_filter.mpr ⟨(goodIn_r ws ps hp h w hw).1, List.all_eq_true.mp h w hw⟩
theorem inlX7 : ∀ w ∈ wsX70, w ∈ gALL := gmemL [303, 305, 307, 309, 311, 313, 315] (by decide +kernel) (by decide +kernel)
theorem inlX8 : ∀ w ∈ wsX80, w ∈ gALL := gmemL [776, 778, 780, 782, 784, 786, 788, 790, 792, 794, 796, 798, 800, 802] (by decide +kernel) (by decide +kernel)
theorem inlX5 : ∀ w ∈ wsX50, w ∈ gALL := gmemL [108, 110] (by decide +kernel) (by decide +kernel)
theorem inlX6 : ∀ w ∈ wsX60, w ∈ gALL := gmemL [142, 144, 146, 148, 150, 152, 154, 156, 158, 160, 162, 164, 166] (by decide +kernel) (by decide +kernel)
theorem inlX4 : ∀ w ∈ wsX40, w ∈ gALL := gmemL [239, 241, 243, 245, 247, 249, 251, 253, 255, 257, 259, 261, 263] (by decide +kernel) (by decide +kernel)
theorem inlX3 : ∀ w ∈ wsX30, w ∈ gALL := gmemL [278, 280] (by decide +kernel) (by decide +kernel)
theorem inlX2 : ∀ w ∈ wsX20, w ∈ gALL := gmemL [291, 293] (by decide +kernel) (by decide +kernel)
theorem inlX0 : ∀ w ∈ wsX00, w ∈ gALL := gmemL [197, 199, 201, 203, 205, 207, 209] (by decide +kernel) (by decide +kernel)
theorem inlX1 : ∀ w ∈ wsX10, w ∈ gALL := gmemL [431, 433, 435, 437, 439, 441, 443, 445, 447] (by decide +kernel) (by decide +kernel)
theorem wd_0 : Cond.classLink RL 7 RX7 ∈ gALL := gmem 88 (by decide +kernel) rfl
theorem wd_1 : Cond.instantiable RX7 7 ∈ gALL := gmem 89 (by decide +kernel) rfl
theorem wd_2 : Cond.initialized RX7 ∈ gALL := gmem 77 (by decide +kernel) rfl
theorem wd_3 : Cond.classLink RL 10 RX8 ∈ gALL := gmem 756 (by decide +kernel) rfl
theorem wd_4 : Cond.instantiable RX8 14 ∈ gALL := gmem 757 (by decide +kernel) rfl
theorem wd_5 : Cond.initialized RX8 ∈ gALL := gmem 84 (by decide +kernel) rfl
theorem wd_6 : Cond.constantLong RL 104 (4294967295) ∈ gALL := gmem 1175 (by decide +kernel) rfl
theorem wd_7 : Cond.methodLink RL 9 yX7_init ∈ gALL := gmem 90 (by decide +kernel) rfl
theorem wd_8 : Cond.instanceMethod yX7_init ∈ gALL := gmem 91 (by decide +kernel) rfl
theorem wd_9 : Cond.code yX7_init cX7_init 1 none ∈ gALL := gmem 92 (by decide +kernel) rfl
theorem wd_10 : Cond.methodLink RX7 1 objectInit ∈ gALL := gmem 93 (by decide +kernel) rfl
theorem wd_11 : Cond.instanceMethod objectInit ∈ gALL := gmem 94 (by decide +kernel) rfl
theorem wd_12 : Cond.code objectInit ⟨#[0xb1]⟩ 1 none ∈ gALL := gmem 95 (by decide +kernel) rfl
theorem wd_13 : Cond.classLink RX7 7 RX5 ∈ gALL := gmem 96 (by decide +kernel) rfl
theorem wd_14 : Cond.instantiable RX5 2 ∈ gALL := gmem 97 (by decide +kernel) rfl
theorem wd_15 : Cond.initialized RX5 ∈ gALL := gmem 78 (by decide +kernel) rfl
theorem wd_16 : Cond.fieldLink RX7 10 "CallingLooms" "pad" "LCallingLooms$Pad;" ∈ gALL := gmem 296 (by decide +kernel) rfl
theorem wd_17 : Cond.classLink RX7 16 RX6 ∈ gALL := gmem 114 (by decide +kernel) rfl
theorem wd_18 : Cond.instantiable RX6 13 ∈ gALL := gmem 115 (by decide +kernel) rfl
theorem wd_19 : Cond.initialized RX6 ∈ gALL := gmem 79 (by decide +kernel) rfl
theorem wd_20 : Cond.fieldLink RX7 19 "CallingLooms" "reader" "LCallingLooms$TextReader;" ∈ gALL := gmem 297 (by decide +kernel) rfl
theorem wd_21 : Cond.classLink RX7 23 RX4 ∈ gALL := gmem 170 (by decide +kernel) rfl
theorem wd_22 : Cond.instantiable RX4 13 ∈ gALL := gmem 171 (by decide +kernel) rfl
theorem wd_23 : Cond.initialized RX4 ∈ gALL := gmem 80 (by decide +kernel) rfl
theorem wd_24 : Cond.fieldLink RX7 26 "CallingLooms" "loom" "LCallingLooms$Loom;" ∈ gALL := gmem 298 (by decide +kernel) rfl
theorem wd_25 : Cond.fieldLink RX7 30 "CallingLooms" "trial" "LCallingLooms$Loom;" ∈ gALL := gmem 299 (by decide +kernel) rfl
theorem wd_26 : Cond.classLink RX7 33 RX3 ∈ gALL := gmem 266 (by decide +kernel) rfl
theorem wd_27 : Cond.instantiable RX3 2 ∈ gALL := gmem 267 (by decide +kernel) rfl
theorem wd_28 : Cond.initialized RX3 ∈ gALL := gmem 82 (by decide +kernel) rfl
theorem wd_29 : Cond.fieldLink RX7 36 "CallingLooms" "history" "LCallingLooms$History;" ∈ gALL := gmem 300 (by decide +kernel) rfl
theorem wd_30 : Cond.fieldLink RX7 40 "CallingLooms" "slots" "[LCallingLooms$Loom;" ∈ gALL := gmem 301 (by decide +kernel) rfl
theorem wd_31 : Cond.classLink RX7 44 RX2 ∈ gALL := gmem 283 (by decide +kernel) rfl
theorem wd_32 : Cond.instantiable RX2 2 ∈ gALL := gmem 284 (by decide +kernel) rfl
theorem wd_33 : Cond.initialized RX2 ∈ gALL := gmem 83 (by decide +kernel) rfl
theorem wd_34 : Cond.fieldLink RX7 47 "CallingLooms" "finder" "LCallingLooms$Finder;" ∈ gALL := gmem 302 (by decide +kernel) rfl
theorem wd_35 : Cond.instanceMethod yX5_init ∈ gALL := gmem 99 (by decide +kernel) rfl
theorem wd_36 : Cond.code yX5_init cX5_init 1 none ∈ gALL := gmem 100 (by decide +kernel) rfl
theorem wd_37 : Cond.methodLink RX5 3 objectInit ∈ gALL := gmem 101 (by decide +kernel) rfl
theorem wd_38 : Cond.arrayClass .char ∈ gALL := gmem 113 (by decide +kernel) rfl
theorem wd_39 : Cond.fieldLink RX5 9 "CallingLooms$Pad" "signs" "[C" ∈ gALL := gmem 102 (by decide +kernel) rfl
theorem wd_40 : Cond.fieldLink RX5 15 "CallingLooms$Pad" "length" "I" ∈ gALL := gmem 105 (by decide +kernel) rfl
theorem wd_41 : Cond.instanceMethod yX6_init ∈ gALL := gmem 117 (by decide +kernel) rfl
theorem wd_42 : Cond.code yX6_init cX6_init 1 none ∈ gALL := gmem 118 (by decide +kernel) rfl
theorem wd_43 : Cond.methodLink RX6 3 objectInit ∈ gALL := gmem 119 (by decide +kernel) rfl
theorem wd_44 : Cond.fieldLink RX6 9 "CallingLooms$TextReader" "signs" "[C" ∈ gALL := gmem 120 (by decide +kernel) rfl
theorem wd_45 : Cond.arrayClass .int ∈ gALL := gmem 169 (by decide +kernel) rfl
theorem wd_46 : Cond.fieldLink RX6 15 "CallingLooms$TextReader" "times" "[I" ∈ gALL := gmem 122 (by decide +kernel) rfl
theorem wd_47 : Cond.fieldLink RX6 19 "CallingLooms$TextReader" "digits" "[I" ∈ gALL := gmem 124 (by decide +kernel) rfl
theorem wd_48 : Cond.fieldLink RX6 22 "CallingLooms$TextReader" "insides" "[I" ∈ gALL := gmem 126 (by decide +kernel) rfl
theorem wd_49 : Cond.fieldLink RX6 25 "CallingLooms$TextReader" "behinds" "[I" ∈ gALL := gmem 128 (by decide +kernel) rfl
theorem wd_50 : Cond.fieldLink RX6 28 "CallingLooms$TextReader" "opened" "[I" ∈ gALL := gmem 138 (by decide +kernel) rfl
theorem wd_51 : Cond.methodLink RX7 25 yX4_init ∈ gALL := gmem 172 (by decide +kernel) rfl
theorem wd_52 : Cond.instanceMethod yX4_init ∈ gALL := gmem 173 (by decide +kernel) rfl
theorem wd_53 : Cond.code yX4_init cX4_init 2 none ∈ gALL := gmem 174 (by decide +kernel) rfl
theorem wd_54 : Cond.methodLink RX4 3 objectInit ∈ gALL := gmem 175 (by decide +kernel) rfl
theorem wd_55 : Cond.classLink RX4 9 RX1 ∈ gALL := gmem 176 (by decide +kernel) rfl
theorem wd_56 : Cond.fieldLink RX4 11 "CallingLooms$Loom" "texts" "[LCallingLooms$CardText;" ∈ gALL := gmem 213 (by decide +kernel) rfl
theorem wd_57 : Cond.fieldLink RX4 17 "CallingLooms$Loom" "begun" "[I" ∈ gALL := gmem 215 (by decide +kernel) rfl
theorem wd_58 : Cond.fieldLink RX4 21 "CallingLooms$Loom" "settings" "[I" ∈ gALL := gmem 217 (by decide +kernel) rfl
theorem wd_59 : Cond.fieldLink RX4 24 "CallingLooms$Loom" "ells" "[I" ∈ gALL := gmem 219 (by decide +kernel) rfl
theorem wd_60 : Cond.fieldLink RX4 27 "CallingLooms$Loom" "strain" "[I" ∈ gALL := gmem 221 (by decide +kernel) rfl
theorem wd_61 : Cond.fieldLink RX4 30 "CallingLooms$Loom" "knots" "[I" ∈ gALL := gmem 223 (by decide +kernel) rfl
theorem wd_62 : Cond.fieldLink RX4 33 "CallingLooms$Loom" "woven" "[I" ∈ gALL := gmem 225 (by decide +kernel) rfl
theorem wd_63 : Cond.arrayClass .byte ∈ gALL := gmem 212 (by decide +kernel) rfl
theorem wd_64 : Cond.fieldLink RX4 36 "CallingLooms$Loom" "cloth" "[B" ∈ gALL := gmem 227 (by decide +kernel) rfl
theorem wd_65 : Cond.classLink RX4 40 RX0 ∈ gALL := gmem 178 (by decide +kernel) rfl
theorem wd_66 : Cond.instantiable RX0 7 ∈ gALL := gmem 179 (by decide +kernel) rfl
theorem wd_67 : Cond.initialized RX0 ∈ gALL := gmem 81 (by decide +kernel) rfl
theorem wd_68 : Cond.fieldLink RX4 43 "CallingLooms$Loom" "stack" "LCallingLooms$CardStack;" ∈ gALL := gmem 229 (by decide +kernel) rfl
theorem wd_69 : Cond.fieldLink RX4 47 "CallingLooms$Loom" "clothLength" "I" ∈ gALL := gmem 231 (by decide +kernel) rfl
theorem wd_70 : Cond.fieldLink RX4 51 "CallingLooms$Loom" "mostOnStack" "I" ∈ gALL := gmem 233 (by decide +kernel) rfl
theorem wd_71 : Cond.fieldLink RX4 54 "CallingLooms$Loom" "calls" "I" ∈ gALL := gmem 235 (by decide +kernel) rfl
theorem wd_72 : Cond.fieldLink RX4 57 "CallingLooms$Loom" "reason" "I" ∈ gALL := gmem 237 (by decide +kernel) rfl
theorem wd_73 : Cond.instanceMethod yX0_init ∈ gALL := gmem 181 (by decide +kernel) rfl
theorem wd_74 : Cond.code yX0_init cX0_init 1 none ∈ gALL := gmem 182 (by decide +kernel) rfl
theorem wd_75 : Cond.methodLink RX0 5 objectInit ∈ gALL := gmem 183 (by decide +kernel) rfl
theorem wd_76 : Cond.fieldLink RX0 11 "CallingLooms$CardStack" "cards" "[I" ∈ gALL := gmem 185 (by decide +kernel) rfl
theorem wd_77 : Cond.fieldLink RX0 15 "CallingLooms$CardStack" "colours" "[I" ∈ gALL := gmem 187 (by decide +kernel) rfl
theorem wd_78 : Cond.fieldLink RX0 18 "CallingLooms$CardStack" "parts" "[I" ∈ gALL := gmem 189 (by decide +kernel) rfl
theorem wd_79 : Cond.fieldLink RX0 21 "CallingLooms$CardStack" "places" "[I" ∈ gALL := gmem 191 (by decide +kernel) rfl
theorem wd_80 : Cond.fieldLink RX0 24 "CallingLooms$CardStack" "left" "[I" ∈ gALL := gmem 192 (by decide +kernel) rfl
theorem wd_81 : Cond.classLink RX0 27 RX1 ∈ gALL := gmem 184 (by decide +kernel) rfl
theorem wd_82 : Cond.fieldLink RX0 29 "CallingLooms$CardStack" "texts" "[LCallingLooms$CardText;" ∈ gALL := gmem 193 (by decide +kernel) rfl
theorem wd_83 : Cond.fieldLink RX0 33 "CallingLooms$CardStack" "size" "I" ∈ gALL := gmem 194 (by decide +kernel) rfl
theorem wd_84 : Cond.methodLink RX7 35 yX3_init ∈ gALL := gmem 268 (by decide +kernel) rfl
theorem wd_85 : Cond.instanceMethod yX3_init ∈ gALL := gmem 269 (by decide +kernel) rfl
theorem wd_86 : Cond.code yX3_init cX3_init 2 none ∈ gALL := gmem 270 (by decide +kernel) rfl
theorem wd_87 : Cond.methodLink RX3 1 objectInit ∈ gALL := gmem 271 (by decide +kernel) rfl
theorem wd_88 : Cond.classLink RX3 9 RX4 ∈ gALL := gmem 272 (by decide +kernel) rfl
theorem wd_89 : Cond.fieldLink RX3 11 "CallingLooms$History" "states" "[LCallingLooms$Loom;" ∈ gALL := gmem 275 (by decide +kernel) rfl
theorem wd_90 : Cond.fieldLink RX3 15 "CallingLooms$History" "size" "I" ∈ gALL := gmem 276 (by decide +kernel) rfl
theorem wd_91 : Cond.methodLink RX3 19 yX4_init ∈ gALL := gmem 274 (by decide +kernel) rfl
theorem wd_92 : Cond.instanceMethod yX2_init ∈ gALL := gmem 286 (by decide +kernel) rfl
theorem wd_93 : Cond.code yX2_init cX2_init 1 none ∈ gALL := gmem 287 (by decide +kernel) rfl
theorem wd_94 : Cond.methodLink RX2 3 objectInit ∈ gALL := gmem 288 (by decide +kernel) rfl
theorem wd_95 : Cond.fieldLink RX2 9 "CallingLooms$Finder" "heights" "[I" ∈ gALL := gmem 289 (by decide +kernel) rfl
theorem wd_96 : Cond.fieldLink RX2 15 "CallingLooms$Finder" "woven" "[I" ∈ gALL := gmem 290 (by decide +kernel) rfl
theorem wd_97 : Cond.methodLink RL 12 yX8_init ∈ gALL := gmem 758 (by decide +kernel) rfl
theorem wd_98 : Cond.instanceMethod yX8_init ∈ gALL := gmem 759 (by decide +kernel) rfl
theorem wd_99 : Cond.code yX8_init cX8_init 2 none ∈ gALL := gmem 760 (by decide +kernel) rfl
theorem wd_100 : Cond.methodLink RX8 1 objectInit ∈ gALL := gmem 761 (by decide +kernel) rfl
theorem wd_101 : Cond.fieldLink RX8 7 "CallingLoomsModel" "state" "[I" ∈ gALL := gmem 762 (by decide +kernel) rfl
theorem wd_102 : Cond.fieldLink RX8 13 "CallingLoomsModel" "spare" "[I" ∈ gALL := gmem 763 (by decide +kernel) rfl
theorem wd_103 : Cond.fieldLink RX8 16 "CallingLoomsModel" "history" "[I" ∈ gALL := gmem 764 (by decide +kernel) rfl
theorem wd_104 : Cond.fieldLink RX8 19 "CallingLoomsModel" "slots" "[I" ∈ gALL := gmem 766 (by decide +kernel) rfl
theorem wd_105 : Cond.fieldLink RX8 22 "CallingLoomsModel" "isSaved" "[I" ∈ gALL := gmem 767 (by decide +kernel) rfl
theorem wd_106 : Cond.fieldLink RX8 25 "CallingLoomsModel" "pad" "[I" ∈ gALL := gmem 768 (by decide +kernel) rfl
theorem wd_107 : Cond.fieldLink RX8 28 "CallingLoomsModel" "counts" "[I" ∈ gALL := gmem 772 (by decide +kernel) rfl
theorem wd_108 : Cond.fieldLink RX8 31 "CallingLoomsModel" "deep" "[I" ∈ gALL := gmem 773 (by decide +kernel) rfl
theorem wd_109 : Cond.fieldLink RX8 34 "CallingLoomsModel" "began" "[I" ∈ gALL := gmem 774 (by decide +kernel) rfl
theorem wd_110 : Cond.fieldLink RX8 37 "CallingLoomsModel" "times" "[I" ∈ gALL := gmem 775 (by decide +kernel) rfl
theorem wd_111 : Cond.methodLink RL 13 yX7_set ∈ gALL := gmem 318 (by decide +kernel) rfl
theorem wd_112 : Cond.instanceMethod yX7_set ∈ gALL := gmem 319 (by decide +kernel) rfl
theorem wd_113 : Cond.selects RX7 yX7_set yX7_set ∈ gALL := gmem 320 (by decide +kernel) rfl
theorem wd_114 : Cond.code yX7_set cX7_set 4 (some .int) ∈ gALL := gmem 321 (by decide +kernel) rfl
theorem wd_115 : Cond.fieldLink RX7 55 "CallingLooms" "SETTING_LOWEST" "[I" ∈ gALL := gmem 325 (by decide +kernel) rfl
theorem wd_116 : Cond.fieldLink RX7 59 "CallingLooms" "SETTING_HIGHEST" "[I" ∈ gALL := gmem 327 (by decide +kernel) rfl
theorem wd_117 : Cond.fieldLink RX7 66 "CallingLooms$Loom" "settings" "[I" ∈ gALL := gmem 218 (by decide +kernel) rfl
theorem wd_118 : Cond.methodLink RX7 51 yX7_inRange ∈ gALL := gmem 322 (by decide +kernel) rfl
theorem wd_119 : Cond.static yX7_inRange ∈ gALL := gmem 323 (by decide +kernel) rfl
theorem wd_120 : Cond.code yX7_inRange cX7_inRange 2 (some .boolean) ∈ gALL := gmem 324 (by decide +kernel) rfl
theorem wd_121 : Cond.methodLink RX7 62 yX3_keep ∈ gALL := gmem 329 (by decide +kernel) rfl
theorem wd_122 : Cond.instanceMethod yX3_keep ∈ gALL := gmem 330 (by decide +kernel) rfl
theorem wd_123 : Cond.selects RX3 yX3_keep yX3_keep ∈ gALL := gmem 331 (by decide +kernel) rfl
theorem wd_124 : Cond.code yX3_keep cX3_keep 2 none ∈ gALL := gmem 332 (by decide +kernel) rfl
theorem wd_125 : Cond.methodLink RX3 20 yX3_dropOldest ∈ gALL := gmem 333 (by decide +kernel) rfl
theorem wd_126 : Cond.instanceMethod yX3_dropOldest ∈ gALL := gmem 335 (by decide +kernel) rfl
theorem wd_127 : Cond.selects RX3 yX3_dropOldest yX3_dropOldest ∈ gALL := gmem 0 (by decide +kernel) rfl
theorem wd_128 : Cond.code yX3_dropOldest cX3_dropOldest 3 none ∈ gALL := gmem 336 (by decide +kernel) rfl
theorem wd_129 : Cond.methodLink RX3 23 yX4_copyFrom ∈ gALL := gmem 337 (by decide +kernel) rfl
theorem wd_130 : Cond.instanceMethod yX4_copyFrom ∈ gALL := gmem 338 (by decide +kernel) rfl
theorem wd_131 : Cond.selects RX4 yX4_copyFrom yX4_copyFrom ∈ gALL := gmem 339 (by decide +kernel) rfl
theorem wd_132 : Cond.code yX4_copyFrom cX4_copyFrom 2 none ∈ gALL := gmem 340 (by decide +kernel) rfl
theorem wd_133 : Cond.methodLink RX4 68 Lib.Math.min.name ∈ gALL := gmem 353 (by decide +kernel) rfl
theorem wd_134 : Cond.static Lib.Math.min.name ∈ gALL := gmem 345 (by decide +kernel) rfl
theorem wd_135 : Cond.initialized "java/lang/Math" ∈ gALL := gmem 85 (by decide +kernel) rfl
theorem wd_136 : Cond.code Lib.Math.min.name Lib.Math.min.code 2 (some .int) ∈ gALL := gmem 346 (by decide +kernel) rfl
theorem wd_137 : Cond.methodLink RX4 74 arraycopyName ∈ gALL := gmem 354 (by decide +kernel) rfl
theorem wd_138 : Cond.native arraycopyName ∈ gALL := gmem 352 (by decide +kernel) rfl
theorem wd_139 : Cond.static arraycopyName ∈ gALL := gmem 351 (by decide +kernel) rfl
theorem wd_140 : Cond.initialized "java/lang/System" ∈ gALL := gmem 86 (by decide +kernel) rfl
theorem wd_141 : Cond.static yX7_copyTexts ∈ gALL := gmem 342 (by decide +kernel) rfl
theorem wd_142 : Cond.code yX7_copyTexts cX7_copyTexts 4 none ∈ gALL := gmem 343 (by decide +kernel) rfl
theorem wd_143 : Cond.methodLink RX7 227 Lib.Math.min.name ∈ gALL := gmem 344 (by decide +kernel) rfl
theorem wd_144 : Cond.static yX7_copyRow ∈ gALL := gmem 348 (by decide +kernel) rfl
theorem wd_145 : Cond.code yX7_copyRow cX7_copyRow 2 none ∈ gALL := gmem 349 (by decide +kernel) rfl
theorem wd_146 : Cond.methodLink RX7 232 arraycopyName ∈ gALL := gmem 350 (by decide +kernel) rfl
theorem wd_147 : Cond.methodLink RX4 80 yX0_copyFrom ∈ gALL := gmem 355 (by decide +kernel) rfl
theorem wd_148 : Cond.instanceMethod yX0_copyFrom ∈ gALL := gmem 356 (by decide +kernel) rfl
theorem wd_149 : Cond.selects RX0 yX0_copyFrom yX0_copyFrom ∈ gALL := gmem 357 (by decide +kernel) rfl
theorem wd_150 : Cond.code yX0_copyFrom cX0_copyFrom 2 none ∈ gALL := gmem 358 (by decide +kernel) rfl
theorem wd_151 : Cond.methodLink RL 17 yX8_set ∈ gALL := gmem 924 (by decide +kernel) rfl
theorem wd_152 : Cond.instanceMethod yX8_set ∈ gALL := gmem 925 (by decide +kernel) rfl
theorem wd_153 : Cond.selects RX8 yX8_set yX8_set ∈ gALL := gmem 926 (by decide +kernel) rfl
theorem wd_154 : Cond.code yX8_set cX8_set 4 (some .int) ∈ gALL := gmem 927 (by decide +kernel) rfl
theorem wd_155 : Cond.methodLink RX8 40 yX8_within ∈ gALL := gmem 816 (by decide +kernel) rfl
theorem wd_156 : Cond.static yX8_within ∈ gALL := gmem 817 (by decide +kernel) rfl
theorem wd_157 : Cond.code yX8_within cX8_within 3 (some .boolean) ∈ gALL := gmem 818 (by decide +kernel) rfl
theorem wd_158 : Cond.methodLink RX8 123 yX8_leastOf ∈ gALL := gmem 928 (by decide +kernel) rfl
theorem wd_159 : Cond.static yX8_leastOf ∈ gALL := gmem 929 (by decide +kernel) rfl
theorem wd_160 : Cond.code yX8_leastOf cX8_leastOf 1 (some .int) ∈ gALL := gmem 930 (by decide +kernel) rfl
theorem wd_161 : Cond.methodLink RX8 58 yX8_record ∈ gALL := gmem 823 (by decide +kernel) rfl
theorem wd_162 : Cond.instanceMethod yX8_record ∈ gALL := gmem 825 (by decide +kernel) rfl
theorem wd_163 : Cond.selects RX8 yX8_record yX8_record ∈ gALL := gmem 19 (by decide +kernel) rfl
theorem wd_164 : Cond.code yX8_record cX8_record 1 none ∈ gALL := gmem 826 (by decide +kernel) rfl
theorem wd_165 : Cond.methodLink RX8 48 yX8_putAside ∈ gALL := gmem 827 (by decide +kernel) rfl
theorem wd_166 : Cond.instanceMethod yX8_putAside ∈ gALL := gmem 829 (by decide +kernel) rfl
theorem wd_167 : Cond.selects RX8 yX8_putAside yX8_putAside ∈ gALL := gmem 20 (by decide +kernel) rfl
theorem wd_168 : Cond.code yX8_putAside cX8_putAside 2 none ∈ gALL := gmem 830 (by decide +kernel) rfl
theorem wd_169 : Cond.methodLink RX8 51 yX8_push ∈ gALL := gmem 831 (by decide +kernel) rfl
theorem wd_170 : Cond.instanceMethod yX8_push ∈ gALL := gmem 833 (by decide +kernel) rfl
theorem wd_171 : Cond.selects RX8 yX8_push yX8_push ∈ gALL := gmem 21 (by decide +kernel) rfl
theorem wd_172 : Cond.code yX8_push cX8_push 2 none ∈ gALL := gmem 834 (by decide +kernel) rfl
theorem wd_173 : Cond.fieldLink RX8 44 "CallingLoomsModel" "states" "I" ∈ gALL := gmem 765 (by decide +kernel) rfl
theorem wd_174 : Cond.methodLink RL 18 yX7_card ∈ gALL := gmem 361 (by decide +kernel) rfl
theorem wd_175 : Cond.instanceMethod yX7_card ∈ gALL := gmem 362 (by decide +kernel) rfl
theorem wd_176 : Cond.selects RX7 yX7_card yX7_card ∈ gALL := gmem 363 (by decide +kernel) rfl
theorem wd_177 : Cond.code yX7_card cX7_card 3 (some .int) ∈ gALL := gmem 364 (by decide +kernel) rfl
theorem wd_178 : Cond.fieldLink RX7 77 "CallingLooms$Loom" "texts" "[LCallingLooms$CardText;" ∈ gALL := gmem 214 (by decide +kernel) rfl
theorem wd_179 : Cond.fieldLink RX7 81 "CallingLooms$Pad" "length" "I" ∈ gALL := gmem 107 (by decide +kernel) rfl
theorem wd_180 : Cond.fieldLink RX7 85 "CallingLooms$CardText" "steps" "I" ∈ gALL := gmem 419 (by decide +kernel) rfl
theorem wd_181 : Cond.methodLink RX7 69 yX6_faultOf ∈ gALL := gmem 365 (by decide +kernel) rfl
theorem wd_182 : Cond.instanceMethod yX6_faultOf ∈ gALL := gmem 366 (by decide +kernel) rfl
theorem wd_183 : Cond.selects RX6 yX6_faultOf yX6_faultOf ∈ gALL := gmem 367 (by decide +kernel) rfl
theorem wd_184 : Cond.code yX6_faultOf cX6_faultOf 4 (some .int) ∈ gALL := gmem 368 (by decide +kernel) rfl
theorem wd_185 : Cond.fieldLink RX6 31 "CallingLooms$TextReader" "length" "I" ∈ gALL := gmem 131 (by decide +kernel) rfl
theorem wd_186 : Cond.fieldLink RX6 35 "CallingLooms$TextReader" "steps" "I" ∈ gALL := gmem 133 (by decide +kernel) rfl
theorem wd_187 : Cond.fieldLink RX6 38 "CallingLooms$TextReader" "calls" "I" ∈ gALL := gmem 135 (by decide +kernel) rfl
theorem wd_188 : Cond.fieldLink RX6 41 "CallingLooms$TextReader" "nesting" "I" ∈ gALL := gmem 137 (by decide +kernel) rfl
theorem wd_189 : Cond.fieldLink RX6 44 "CallingLooms$TextReader" "open" "I" ∈ gALL := gmem 139 (by decide +kernel) rfl
theorem wd_190 : Cond.fieldLink RX6 47 "CallingLooms$TextReader" "step" "I" ∈ gALL := gmem 141 (by decide +kernel) rfl
theorem wd_191 : Cond.fieldLink RX6 50 "CallingLooms$TextReader" "wanted" "I" ∈ gALL := gmem 140 (by decide +kernel) rfl
theorem wd_192 : Cond.fieldLink RX6 53 "CallingLooms$Pad" "length" "I" ∈ gALL := gmem 106 (by decide +kernel) rfl
theorem wd_193 : Cond.methodLink RX6 56 Lib.Math.min.name ∈ gALL := gmem 369 (by decide +kernel) rfl
theorem wd_194 : Cond.fieldLink RX6 62 "CallingLooms$Pad" "signs" "[C" ∈ gALL := gmem 103 (by decide +kernel) rfl
theorem wd_195 : Cond.methodLink RX6 63 yX6_takes ∈ gALL := gmem 370 (by decide +kernel) rfl
theorem wd_196 : Cond.instanceMethod yX6_takes ∈ gALL := gmem 372 (by decide +kernel) rfl
theorem wd_197 : Cond.selects RX6 yX6_takes yX6_takes ∈ gALL := gmem 1 (by decide +kernel) rfl
theorem wd_198 : Cond.code yX6_takes cX6_takes 3 (some .boolean) ∈ gALL := gmem 373 (by decide +kernel) rfl
theorem wd_199 : Cond.methodLink RX6 72 yX6_takesStep ∈ gALL := gmem 374 (by decide +kernel) rfl
theorem wd_200 : Cond.instanceMethod yX6_takesStep ∈ gALL := gmem 376 (by decide +kernel) rfl
theorem wd_201 : Cond.selects RX6 yX6_takesStep yX6_takesStep ∈ gALL := gmem 2 (by decide +kernel) rfl
theorem wd_202 : Cond.code yX6_takesStep cX6_takesStep 3 (some .boolean) ∈ gALL := gmem 377 (by decide +kernel) rfl
theorem wd_203 : Cond.methodLink RX6 75 yX6_takesEnd ∈ gALL := gmem 378 (by decide +kernel) rfl
theorem wd_204 : Cond.instanceMethod yX6_takesEnd ∈ gALL := gmem 380 (by decide +kernel) rfl
theorem wd_205 : Cond.selects RX6 yX6_takesEnd yX6_takesEnd ∈ gALL := gmem 3 (by decide +kernel) rfl
theorem wd_206 : Cond.code yX6_takesEnd cX6_takesEnd 2 (some .boolean) ∈ gALL := gmem 381 (by decide +kernel) rfl
theorem wd_207 : Cond.methodLink RX6 79 yX6_isCount ∈ gALL := gmem 382 (by decide +kernel) rfl
theorem wd_208 : Cond.static yX6_isCount ∈ gALL := gmem 383 (by decide +kernel) rfl
theorem wd_209 : Cond.code yX6_isCount cX6_isCount 1 (some .boolean) ∈ gALL := gmem 384 (by decide +kernel) rfl
theorem wd_210 : Cond.methodLink RX6 82 yX6_takesPickCount ∈ gALL := gmem 385 (by decide +kernel) rfl
theorem wd_211 : Cond.instanceMethod yX6_takesPickCount ∈ gALL := gmem 387 (by decide +kernel) rfl
theorem wd_212 : Cond.selects RX6 yX6_takesPickCount yX6_takesPickCount ∈ gALL := gmem 4 (by decide +kernel) rfl
theorem wd_213 : Cond.code yX6_takesPickCount cX6_takesPickCount 3 (some .boolean) ∈ gALL := gmem 388 (by decide +kernel) rfl
theorem wd_214 : Cond.methodLink RX6 85 yX6_takesPartCount ∈ gALL := gmem 389 (by decide +kernel) rfl
theorem wd_215 : Cond.instanceMethod yX6_takesPartCount ∈ gALL := gmem 391 (by decide +kernel) rfl
theorem wd_216 : Cond.selects RX6 yX6_takesPartCount yX6_takesPartCount ∈ gALL := gmem 5 (by decide +kernel) rfl
theorem wd_217 : Cond.code yX6_takesPartCount cX6_takesPartCount 2 (some .boolean) ∈ gALL := gmem 392 (by decide +kernel) rfl
theorem wd_218 : Cond.methodLink RX6 88 yX6_takesDigit ∈ gALL := gmem 393 (by decide +kernel) rfl
theorem wd_219 : Cond.instanceMethod yX6_takesDigit ∈ gALL := gmem 395 (by decide +kernel) rfl
theorem wd_220 : Cond.selects RX6 yX6_takesDigit yX6_takesDigit ∈ gALL := gmem 6 (by decide +kernel) rfl
theorem wd_221 : Cond.code yX6_takesDigit cX6_takesDigit 3 (some .boolean) ∈ gALL := gmem 396 (by decide +kernel) rfl
theorem wd_222 : Cond.methodLink RX6 91 yX6_takesBracket ∈ gALL := gmem 397 (by decide +kernel) rfl
theorem wd_223 : Cond.instanceMethod yX6_takesBracket ∈ gALL := gmem 399 (by decide +kernel) rfl
theorem wd_224 : Cond.selects RX6 yX6_takesBracket yX6_takesBracket ∈ gALL := gmem 7 (by decide +kernel) rfl
theorem wd_225 : Cond.code yX6_takesBracket cX6_takesBracket 3 (some .boolean) ∈ gALL := gmem 400 (by decide +kernel) rfl
theorem wd_226 : Cond.methodLink RX6 94 Lib.Math.max.name ∈ gALL := gmem 401 (by decide +kernel) rfl
theorem wd_227 : Cond.static Lib.Math.max.name ∈ gALL := gmem 402 (by decide +kernel) rfl
theorem wd_228 : Cond.code Lib.Math.max.name Lib.Math.max.code 2 (some .int) ∈ gALL := gmem 403 (by decide +kernel) rfl
theorem wd_229 : Cond.methodLink RX7 73 yX6_readText ∈ gALL := gmem 404 (by decide +kernel) rfl
theorem wd_230 : Cond.instanceMethod yX6_readText ∈ gALL := gmem 405 (by decide +kernel) rfl
theorem wd_231 : Cond.selects RX6 yX6_readText yX6_readText ∈ gALL := gmem 406 (by decide +kernel) rfl
theorem wd_232 : Cond.code yX6_readText cX6_readText 1 (some (.object "CallingLooms$CardText")) ∈ gALL := gmem 407 (by decide +kernel) rfl
theorem wd_233 : Cond.classLink RX6 67 RX1 ∈ gALL := gmem 408 (by decide +kernel) rfl
theorem wd_234 : Cond.instantiable RX1 9 ∈ gALL := gmem 409 (by decide +kernel) rfl
theorem wd_235 : Cond.initialized RX1 ∈ gALL := gmem 87 (by decide +kernel) rfl
theorem wd_236 : Cond.methodLink RX6 69 yX1_init ∈ gALL := gmem 410 (by decide +kernel) rfl
theorem wd_237 : Cond.instanceMethod yX1_init ∈ gALL := gmem 411 (by decide +kernel) rfl
theorem wd_238 : Cond.code yX1_init cX1_init 2 none ∈ gALL := gmem 412 (by decide +kernel) rfl
theorem wd_239 : Cond.methodLink RX1 1 objectInit ∈ gALL := gmem 413 (by decide +kernel) rfl
theorem wd_240 : Cond.fieldLink RX1 7 "CallingLooms$TextReader" "length" "I" ∈ gALL := gmem 130 (by decide +kernel) rfl
theorem wd_241 : Cond.fieldLink RX1 13 "CallingLooms$CardText" "length" "I" ∈ gALL := gmem 415 (by decide +kernel) rfl
theorem wd_242 : Cond.fieldLink RX1 16 "CallingLooms$TextReader" "steps" "I" ∈ gALL := gmem 132 (by decide +kernel) rfl
theorem wd_243 : Cond.fieldLink RX1 19 "CallingLooms$CardText" "steps" "I" ∈ gALL := gmem 418 (by decide +kernel) rfl
theorem wd_244 : Cond.fieldLink RX1 20 "CallingLooms$TextReader" "calls" "I" ∈ gALL := gmem 134 (by decide +kernel) rfl
theorem wd_245 : Cond.fieldLink RX1 23 "CallingLooms$CardText" "calls" "I" ∈ gALL := gmem 420 (by decide +kernel) rfl
theorem wd_246 : Cond.fieldLink RX1 24 "CallingLooms$TextReader" "nesting" "I" ∈ gALL := gmem 136 (by decide +kernel) rfl
theorem wd_247 : Cond.fieldLink RX1 27 "CallingLooms$CardText" "nesting" "I" ∈ gALL := gmem 423 (by decide +kernel) rfl
theorem wd_248 : Cond.fieldLink RX1 28 "CallingLooms$CardText" "signs" "[C" ∈ gALL := gmem 425 (by decide +kernel) rfl
theorem wd_249 : Cond.fieldLink RX1 32 "CallingLooms$CardText" "times" "[I" ∈ gALL := gmem 427 (by decide +kernel) rfl
theorem wd_250 : Cond.fieldLink RX1 36 "CallingLooms$CardText" "digits" "[I" ∈ gALL := gmem 428 (by decide +kernel) rfl
theorem wd_251 : Cond.fieldLink RX1 39 "CallingLooms$CardText" "insides" "[I" ∈ gALL := gmem 429 (by decide +kernel) rfl
theorem wd_252 : Cond.fieldLink RX1 42 "CallingLooms$CardText" "behinds" "[I" ∈ gALL := gmem 430 (by decide +kernel) rfl
theorem wd_253 : Cond.fieldLink RX1 45 "CallingLooms$TextReader" "signs" "[C" ∈ gALL := gmem 121 (by decide +kernel) rfl
theorem wd_254 : Cond.methodLink RX1 46 arraycopyName ∈ gALL := gmem 414 (by decide +kernel) rfl
theorem wd_255 : Cond.fieldLink RX1 52 "CallingLooms$TextReader" "times" "[I" ∈ gALL := gmem 123 (by decide +kernel) rfl
theorem wd_256 : Cond.fieldLink RX1 53 "CallingLooms$TextReader" "digits" "[I" ∈ gALL := gmem 125 (by decide +kernel) rfl
theorem wd_257 : Cond.fieldLink RX1 54 "CallingLooms$TextReader" "insides" "[I" ∈ gALL := gmem 127 (by decide +kernel) rfl
theorem wd_258 : Cond.fieldLink RX1 55 "CallingLooms$TextReader" "behinds" "[I" ∈ gALL := gmem 129 (by decide +kernel) rfl
theorem wd_259 : Cond.methodLink RL 22 yX8_card ∈ gALL := gmem 905 (by decide +kernel) rfl
theorem wd_260 : Cond.instanceMethod yX8_card ∈ gALL := gmem 906 (by decide +kernel) rfl
theorem wd_261 : Cond.selects RX8 yX8_card yX8_card ∈ gALL := gmem 907 (by decide +kernel) rfl
theorem wd_262 : Cond.code yX8_card cX8_card 3 (some .int) ∈ gALL := gmem 908 (by decide +kernel) rfl
theorem wd_263 : Cond.fieldLink RX8 64 "CallingLoomsModel" "length" "I" ∈ gALL := gmem 769 (by decide +kernel) rfl
theorem wd_264 : Cond.methodLink RX8 97 yX8_isCard ∈ gALL := gmem 878 (by decide +kernel) rfl
theorem wd_265 : Cond.static yX8_isCard ∈ gALL := gmem 879 (by decide +kernel) rfl
theorem wd_266 : Cond.code yX8_isCard cX8_isCard 1 (some .boolean) ∈ gALL := gmem 880 (by decide +kernel) rfl
theorem wd_267 : Cond.methodLink RX8 85 yX8_findFault ∈ gALL := gmem 839 (by decide +kernel) rfl
theorem wd_268 : Cond.instanceMethod yX8_findFault ∈ gALL := gmem 841 (by decide +kernel) rfl
theorem wd_269 : Cond.selects RX8 yX8_findFault yX8_findFault ∈ gALL := gmem 22 (by decide +kernel) rfl
theorem wd_270 : Cond.code yX8_findFault cX8_findFault 2 (some .int) ∈ gALL := gmem 842 (by decide +kernel) rfl
theorem wd_271 : Cond.fieldLink RX8 61 "CallingLoomsModel" "at" "I" ∈ gALL := gmem 770 (by decide +kernel) rfl
theorem wd_272 : Cond.fieldLink RX8 71 "CallingLoomsModel" "brackets" "I" ∈ gALL := gmem 771 (by decide +kernel) rfl
theorem wd_273 : Cond.methodLink RX8 67 yX8_code ∈ gALL := gmem 843 (by decide +kernel) rfl
theorem wd_274 : Cond.instanceMethod yX8_code ∈ gALL := gmem 845 (by decide +kernel) rfl
theorem wd_275 : Cond.selects RX8 yX8_code yX8_code ∈ gALL := gmem 23 (by decide +kernel) rfl
theorem wd_276 : Cond.code yX8_code cX8_code 1 (some .int) ∈ gALL := gmem 846 (by decide +kernel) rfl
theorem wd_277 : Cond.methodLink RX8 82 yX8_readsStep ∈ gALL := gmem 847 (by decide +kernel) rfl
theorem wd_278 : Cond.instanceMethod yX8_readsStep ∈ gALL := gmem 849 (by decide +kernel) rfl
theorem wd_279 : Cond.selects RX8 yX8_readsStep yX8_readsStep ∈ gALL := gmem 24 (by decide +kernel) rfl
theorem wd_280 : Cond.code yX8_readsStep cX8_readsStep 2 (some .boolean) ∈ gALL := gmem 850 (by decide +kernel) rfl
theorem wd_281 : Cond.methodLink RX8 74 yX8_takesDigit ∈ gALL := gmem 851 (by decide +kernel) rfl
theorem wd_282 : Cond.instanceMethod yX8_takesDigit ∈ gALL := gmem 853 (by decide +kernel) rfl
theorem wd_283 : Cond.selects RX8 yX8_takesDigit yX8_takesDigit ∈ gALL := gmem 25 (by decide +kernel) rfl
theorem wd_284 : Cond.code yX8_takesDigit cX8_takesDigit 4 (some .boolean) ∈ gALL := gmem 854 (by decide +kernel) rfl
theorem wd_285 : Cond.methodLink RX8 78 yX8_opens ∈ gALL := gmem 855 (by decide +kernel) rfl
theorem wd_286 : Cond.instanceMethod yX8_opens ∈ gALL := gmem 857 (by decide +kernel) rfl
theorem wd_287 : Cond.selects RX8 yX8_opens yX8_opens ∈ gALL := gmem 26 (by decide +kernel) rfl
theorem wd_288 : Cond.code yX8_opens cX8_opens 2 (some .boolean) ∈ gALL := gmem 858 (by decide +kernel) rfl
theorem wd_289 : Cond.methodLink RX8 117 yX8_steps ∈ gALL := gmem 909 (by decide +kernel) rfl
theorem wd_290 : Cond.instanceMethod yX8_steps ∈ gALL := gmem 911 (by decide +kernel) rfl
theorem wd_291 : Cond.selects RX8 yX8_steps yX8_steps ∈ gALL := gmem 31 (by decide +kernel) rfl
theorem wd_292 : Cond.code yX8_steps cX8_steps 4 (some .int) ∈ gALL := gmem 912 (by decide +kernel) rfl
theorem wd_293 : Cond.methodLink RX8 103 yX8_textAt ∈ gALL := gmem 885 (by decide +kernel) rfl
theorem wd_294 : Cond.instanceMethod yX8_textAt ∈ gALL := gmem 887 (by decide +kernel) rfl
theorem wd_295 : Cond.selects RX8 yX8_textAt yX8_textAt ∈ gALL := gmem 28 (by decide +kernel) rfl
theorem wd_296 : Cond.code yX8_textAt cX8_textAt 3 (some .int) ∈ gALL := gmem 888 (by decide +kernel) rfl
theorem wd_297 : Cond.methodLink RX8 107 yX8_isLetter ∈ gALL := gmem 913 (by decide +kernel) rfl
theorem wd_298 : Cond.static yX8_isLetter ∈ gALL := gmem 914 (by decide +kernel) rfl
theorem wd_299 : Cond.code yX8_isLetter cX8_isLetter 1 (some .boolean) ∈ gALL := gmem 915 (by decide +kernel) rfl
theorem wd_300 : Cond.methodLink RL 23 yX7_blank ∈ gALL := gmem 450 (by decide +kernel) rfl
theorem wd_301 : Cond.instanceMethod yX7_blank ∈ gALL := gmem 451 (by decide +kernel) rfl
theorem wd_302 : Cond.selects RX7 yX7_blank yX7_blank ∈ gALL := gmem 452 (by decide +kernel) rfl
theorem wd_303 : Cond.code yX7_blank cX7_blank 2 (some .int) ∈ gALL := gmem 453 (by decide +kernel) rfl
theorem wd_304 : Cond.methodLink RX7 90 yX2_callersOf ∈ gALL := gmem 454 (by decide +kernel) rfl
theorem wd_305 : Cond.static yX2_callersOf ∈ gALL := gmem 455 (by decide +kernel) rfl
theorem wd_306 : Cond.code yX2_callersOf cX2_callersOf 4 (some .int) ∈ gALL := gmem 456 (by decide +kernel) rfl
theorem wd_307 : Cond.methodLink RX2 18 yX2_calledBy ∈ gALL := gmem 457 (by decide +kernel) rfl
theorem wd_308 : Cond.static yX2_calledBy ∈ gALL := gmem 458 (by decide +kernel) rfl
theorem wd_309 : Cond.code yX2_calledBy cX2_calledBy 2 (some .int) ∈ gALL := gmem 459 (by decide +kernel) rfl
theorem wd_310 : Cond.fieldLink RX2 26 "CallingLooms$CardText" "calls" "I" ∈ gALL := gmem 421 (by decide +kernel) rfl
theorem wd_311 : Cond.methodLink RX2 22 yX2_holds ∈ gALL := gmem 460 (by decide +kernel) rfl
theorem wd_312 : Cond.static yX2_holds ∈ gALL := gmem 461 (by decide +kernel) rfl
theorem wd_313 : Cond.code yX2_holds cX2_holds 2 (some .boolean) ∈ gALL := gmem 462 (by decide +kernel) rfl
theorem wd_314 : Cond.methodLink RL 26 yX8_blank ∈ gALL := gmem 916 (by decide +kernel) rfl
theorem wd_315 : Cond.instanceMethod yX8_blank ∈ gALL := gmem 917 (by decide +kernel) rfl
theorem wd_316 : Cond.selects RX8 yX8_blank yX8_blank ∈ gALL := gmem 918 (by decide +kernel) rfl
theorem wd_317 : Cond.code yX8_blank cX8_blank 2 (some .int) ∈ gALL := gmem 919 (by decide +kernel) rfl
theorem wd_318 : Cond.methodLink RX8 100 yX8_hasText ∈ gALL := gmem 881 (by decide +kernel) rfl
theorem wd_319 : Cond.instanceMethod yX8_hasText ∈ gALL := gmem 883 (by decide +kernel) rfl
theorem wd_320 : Cond.selects RX8 yX8_hasText yX8_hasText ∈ gALL := gmem 27 (by decide +kernel) rfl
theorem wd_321 : Cond.code yX8_hasText cX8_hasText 2 (some .boolean) ∈ gALL := gmem 884 (by decide +kernel) rfl
theorem wd_322 : Cond.methodLink RX8 120 yX8_callers ∈ gALL := gmem 920 (by decide +kernel) rfl
theorem wd_323 : Cond.instanceMethod yX8_callers ∈ gALL := gmem 922 (by decide +kernel) rfl
theorem wd_324 : Cond.selects RX8 yX8_callers yX8_callers ∈ gALL := gmem 32 (by decide +kernel) rfl
theorem wd_325 : Cond.code yX8_callers cX8_callers 4 (some .int) ∈ gALL := gmem 923 (by decide +kernel) rfl
theorem wd_326 : Cond.methodLink RX8 110 yX8_calls ∈ gALL := gmem 901 (by decide +kernel) rfl
theorem wd_327 : Cond.instanceMethod yX8_calls ∈ gALL := gmem 903 (by decide +kernel) rfl
theorem wd_328 : Cond.selects RX8 yX8_calls yX8_calls ∈ gALL := gmem 30 (by decide +kernel) rfl
theorem wd_329 : Cond.code yX8_calls cX8_calls 4 (some .int) ∈ gALL := gmem 904 (by decide +kernel) rfl
theorem wd_330 : Cond.methodLink RL 27 yX7_begin ∈ gALL := gmem 463 (by decide +kernel) rfl
theorem wd_331 : Cond.instanceMethod yX7_begin ∈ gALL := gmem 464 (by decide +kernel) rfl
theorem wd_332 : Cond.selects RX7 yX7_begin yX7_begin ∈ gALL := gmem 465 (by decide +kernel) rfl
theorem wd_333 : Cond.code yX7_begin cX7_begin 2 (some .int) ∈ gALL := gmem 466 (by decide +kernel) rfl
theorem wd_334 : Cond.methodLink RX7 94 yX4_beginWith ∈ gALL := gmem 467 (by decide +kernel) rfl
theorem wd_335 : Cond.instanceMethod yX4_beginWith ∈ gALL := gmem 468 (by decide +kernel) rfl
theorem wd_336 : Cond.selects RX4 yX4_beginWith yX4_beginWith ∈ gALL := gmem 469 (by decide +kernel) rfl
theorem wd_337 : Cond.code yX4_beginWith cX4_beginWith 3 (some .int) ∈ gALL := gmem 470 (by decide +kernel) rfl
theorem wd_338 : Cond.fieldLink RX4 84 "CallingLooms$CardStack" "size" "I" ∈ gALL := gmem 195 (by decide +kernel) rfl
theorem wd_339 : Cond.methodLink RX4 87 yX4_layOnStack ∈ gALL := gmem 471 (by decide +kernel) rfl
theorem wd_340 : Cond.instanceMethod yX4_layOnStack ∈ gALL := gmem 473 (by decide +kernel) rfl
theorem wd_341 : Cond.selects RX4 yX4_layOnStack yX4_layOnStack ∈ gALL := gmem 8 (by decide +kernel) rfl
theorem wd_342 : Cond.code yX4_layOnStack cX4_layOnStack 3 none ∈ gALL := gmem 474 (by decide +kernel) rfl
theorem wd_343 : Cond.methodLink RX4 95 Lib.Math.max.name ∈ gALL := gmem 483 (by decide +kernel) rfl
theorem wd_344 : Cond.methodLink RX4 91 yX0_layOn ∈ gALL := gmem 475 (by decide +kernel) rfl
theorem wd_345 : Cond.instanceMethod yX0_layOn ∈ gALL := gmem 476 (by decide +kernel) rfl
theorem wd_346 : Cond.selects RX0 yX0_layOn yX0_layOn ∈ gALL := gmem 477 (by decide +kernel) rfl
theorem wd_347 : Cond.code yX0_layOn cX0_layOn 4 none ∈ gALL := gmem 478 (by decide +kernel) rfl
theorem wd_348 : Cond.methodLink RX0 59 yX1_timesAt ∈ gALL := gmem 479 (by decide +kernel) rfl
theorem wd_349 : Cond.instanceMethod yX1_timesAt ∈ gALL := gmem 480 (by decide +kernel) rfl
theorem wd_350 : Cond.selects RX1 yX1_timesAt yX1_timesAt ∈ gALL := gmem 481 (by decide +kernel) rfl
theorem wd_351 : Cond.code yX1_timesAt cX1_timesAt 2 (some .int) ∈ gALL := gmem 482 (by decide +kernel) rfl
theorem wd_352 : Cond.methodLink RL 30 yX8_begin ∈ gALL := gmem 931 (by decide +kernel) rfl
theorem wd_353 : Cond.instanceMethod yX8_begin ∈ gALL := gmem 932 (by decide +kernel) rfl
theorem wd_354 : Cond.selects RX8 yX8_begin yX8_begin ∈ gALL := gmem 933 (by decide +kernel) rfl
theorem wd_355 : Cond.code yX8_begin cX8_begin 3 (some .int) ∈ gALL := gmem 934 (by decide +kernel) rfl
theorem wd_356 : Cond.methodLink RX8 173 yX8_lay ∈ gALL := gmem 935 (by decide +kernel) rfl
theorem wd_357 : Cond.instanceMethod yX8_lay ∈ gALL := gmem 937 (by decide +kernel) rfl
theorem wd_358 : Cond.selects RX8 yX8_lay yX8_lay ∈ gALL := gmem 33 (by decide +kernel) rfl
theorem wd_359 : Cond.code yX8_lay cX8_lay 4 none ∈ gALL := gmem 938 (by decide +kernel) rfl
theorem wd_360 : Cond.methodLink RX8 132 yX8_setTop ∈ gALL := gmem 939 (by decide +kernel) rfl
theorem wd_361 : Cond.instanceMethod yX8_setTop ∈ gALL := gmem 941 (by decide +kernel) rfl
theorem wd_362 : Cond.selects RX8 yX8_setTop yX8_setTop ∈ gALL := gmem 34 (by decide +kernel) rfl
theorem wd_363 : Cond.code yX8_setTop cX8_setTop 3 none ∈ gALL := gmem 942 (by decide +kernel) rfl
theorem wd_364 : Cond.methodLink RX8 126 yX8_frame ∈ gALL := gmem 943 (by decide +kernel) rfl
theorem wd_365 : Cond.instanceMethod yX8_frame ∈ gALL := gmem 945 (by decide +kernel) rfl
theorem wd_366 : Cond.selects RX8 yX8_frame yX8_frame ∈ gALL := gmem 35 (by decide +kernel) rfl
theorem wd_367 : Cond.code yX8_frame cX8_frame 2 (some .int) ∈ gALL := gmem 946 (by decide +kernel) rfl
theorem wd_368 : Cond.methodLink RL 31 yX7_weave ∈ gALL := gmem 484 (by decide +kernel) rfl
theorem wd_369 : Cond.instanceMethod yX7_weave ∈ gALL := gmem 485 (by decide +kernel) rfl
theorem wd_370 : Cond.selects RX7 yX7_weave yX7_weave ∈ gALL := gmem 486 (by decide +kernel) rfl
theorem wd_371 : Cond.code yX7_weave cX7_weave 2 (some .int) ∈ gALL := gmem 487 (by decide +kernel) rfl
theorem wd_372 : Cond.methodLink RX7 98 yX4_goOn ∈ gALL := gmem 488 (by decide +kernel) rfl
theorem wd_373 : Cond.instanceMethod yX4_goOn ∈ gALL := gmem 489 (by decide +kernel) rfl
theorem wd_374 : Cond.selects RX4 yX4_goOn yX4_goOn ∈ gALL := gmem 490 (by decide +kernel) rfl
theorem wd_375 : Cond.code yX4_goOn cX4_goOn 3 (some .int) ∈ gALL := gmem 491 (by decide +kernel) rfl
theorem wd_376 : Cond.methodLink RX4 98 yX4_weaveNext ∈ gALL := gmem 492 (by decide +kernel) rfl
theorem wd_377 : Cond.instanceMethod yX4_weaveNext ∈ gALL := gmem 494 (by decide +kernel) rfl
theorem wd_378 : Cond.selects RX4 yX4_weaveNext yX4_weaveNext ∈ gALL := gmem 9 (by decide +kernel) rfl
theorem wd_379 : Cond.code yX4_weaveNext cX4_weaveNext 4 (some .int) ∈ gALL := gmem 495 (by decide +kernel) rfl
theorem wd_380 : Cond.methodLink RX4 102 yX4_hindranceAfter ∈ gALL := gmem 496 (by decide +kernel) rfl
theorem wd_381 : Cond.instanceMethod yX4_hindranceAfter ∈ gALL := gmem 498 (by decide +kernel) rfl
theorem wd_382 : Cond.selects RX4 yX4_hindranceAfter yX4_hindranceAfter ∈ gALL := gmem 10 (by decide +kernel) rfl
theorem wd_383 : Cond.code yX4_hindranceAfter cX4_hindranceAfter 4 (some .int) ∈ gALL := gmem 499 (by decide +kernel) rfl
theorem wd_384 : Cond.methodLink RX4 106 yX0_stepLetter ∈ gALL := gmem 500 (by decide +kernel) rfl
theorem wd_385 : Cond.instanceMethod yX0_stepLetter ∈ gALL := gmem 501 (by decide +kernel) rfl
theorem wd_386 : Cond.selects RX0 yX0_stepLetter yX0_stepLetter ∈ gALL := gmem 502 (by decide +kernel) rfl
theorem wd_387 : Cond.code yX0_stepLetter cX0_stepLetter 1 (some .int) ∈ gALL := gmem 503 (by decide +kernel) rfl
theorem wd_388 : Cond.methodLink RX0 49 yX0_spotOf ∈ gALL := gmem 504 (by decide +kernel) rfl
theorem wd_389 : Cond.instanceMethod yX0_spotOf ∈ gALL := gmem 506 (by decide +kernel) rfl
theorem wd_390 : Cond.selects RX0 yX0_spotOf yX0_spotOf ∈ gALL := gmem 11 (by decide +kernel) rfl
theorem wd_391 : Cond.code yX0_spotOf cX0_spotOf 2 (some .int) ∈ gALL := gmem 507 (by decide +kernel) rfl
theorem wd_392 : Cond.methodLink RX0 53 yX1_signAt ∈ gALL := gmem 508 (by decide +kernel) rfl
theorem wd_393 : Cond.instanceMethod yX1_signAt ∈ gALL := gmem 509 (by decide +kernel) rfl
theorem wd_394 : Cond.selects RX1 yX1_signAt yX1_signAt ∈ gALL := gmem 510 (by decide +kernel) rfl
theorem wd_395 : Cond.code yX1_signAt cX1_signAt 2 (some .int) ∈ gALL := gmem 511 (by decide +kernel) rfl
theorem wd_396 : Cond.methodLink RX4 119 yX0_topColour ∈ gALL := gmem 512 (by decide +kernel) rfl
theorem wd_397 : Cond.instanceMethod yX0_topColour ∈ gALL := gmem 513 (by decide +kernel) rfl
theorem wd_398 : Cond.selects RX0 yX0_topColour yX0_topColour ∈ gALL := gmem 514 (by decide +kernel) rfl
theorem wd_399 : Cond.code yX0_topColour cX0_topColour 1 (some .int) ∈ gALL := gmem 515 (by decide +kernel) rfl
theorem wd_400 : Cond.methodLink RX4 122 yX0_stepDigit ∈ gALL := gmem 516 (by decide +kernel) rfl
theorem wd_401 : Cond.instanceMethod yX0_stepDigit ∈ gALL := gmem 517 (by decide +kernel) rfl
theorem wd_402 : Cond.selects RX0 yX0_stepDigit yX0_stepDigit ∈ gALL := gmem 518 (by decide +kernel) rfl
theorem wd_403 : Cond.code yX0_stepDigit cX0_stepDigit 1 (some .int) ∈ gALL := gmem 519 (by decide +kernel) rfl
theorem wd_404 : Cond.methodLink RX0 56 yX1_digitAt ∈ gALL := gmem 520 (by decide +kernel) rfl
theorem wd_405 : Cond.instanceMethod yX1_digitAt ∈ gALL := gmem 521 (by decide +kernel) rfl
theorem wd_406 : Cond.selects RX1 yX1_digitAt yX1_digitAt ∈ gALL := gmem 522 (by decide +kernel) rfl
theorem wd_407 : Cond.code yX1_digitAt cX1_digitAt 2 (some .int) ∈ gALL := gmem 523 (by decide +kernel) rfl
theorem wd_408 : Cond.methodLink RX4 109 yX4_weavePick ∈ gALL := gmem 524 (by decide +kernel) rfl
theorem wd_409 : Cond.instanceMethod yX4_weavePick ∈ gALL := gmem 526 (by decide +kernel) rfl
theorem wd_410 : Cond.selects RX4 yX4_weavePick yX4_weavePick ∈ gALL := gmem 12 (by decide +kernel) rfl
theorem wd_411 : Cond.code yX4_weavePick cX4_weavePick 2 none ∈ gALL := gmem 527 (by decide +kernel) rfl
theorem wd_412 : Cond.methodLink RX4 125 yX0_passOver ∈ gALL := gmem 528 (by decide +kernel) rfl
theorem wd_413 : Cond.instanceMethod yX0_passOver ∈ gALL := gmem 529 (by decide +kernel) rfl
theorem wd_414 : Cond.selects RX0 yX0_passOver yX0_passOver ∈ gALL := gmem 530 (by decide +kernel) rfl
theorem wd_415 : Cond.code yX0_passOver cX0_passOver 2 none ∈ gALL := gmem 531 (by decide +kernel) rfl
theorem wd_416 : Cond.methodLink RX0 62 yX0_stepLetter ∈ gALL := gmem 532 (by decide +kernel) rfl
theorem wd_417 : Cond.methodLink RX0 66 yX0_placeBehind ∈ gALL := gmem 533 (by decide +kernel) rfl
theorem wd_418 : Cond.instanceMethod yX0_placeBehind ∈ gALL := gmem 535 (by decide +kernel) rfl
theorem wd_419 : Cond.selects RX0 yX0_placeBehind yX0_placeBehind ∈ gALL := gmem 13 (by decide +kernel) rfl
theorem wd_420 : Cond.code yX0_placeBehind cX0_placeBehind 1 (some .int) ∈ gALL := gmem 536 (by decide +kernel) rfl
theorem wd_421 : Cond.methodLink RX0 76 yX1_behind ∈ gALL := gmem 537 (by decide +kernel) rfl
theorem wd_422 : Cond.instanceMethod yX1_behind ∈ gALL := gmem 538 (by decide +kernel) rfl
theorem wd_423 : Cond.selects RX1 yX1_behind yX1_behind ∈ gALL := gmem 539 (by decide +kernel) rfl
theorem wd_424 : Cond.code yX1_behind cX1_behind 2 (some .int) ∈ gALL := gmem 540 (by decide +kernel) rfl
theorem wd_425 : Cond.methodLink RX0 69 yX0_arriveAt ∈ gALL := gmem 541 (by decide +kernel) rfl
theorem wd_426 : Cond.instanceMethod yX0_arriveAt ∈ gALL := gmem 543 (by decide +kernel) rfl
theorem wd_427 : Cond.selects RX0 yX0_arriveAt yX0_arriveAt ∈ gALL := gmem 14 (by decide +kernel) rfl
theorem wd_428 : Cond.code yX0_arriveAt cX0_arriveAt 3 none ∈ gALL := gmem 544 (by decide +kernel) rfl
theorem wd_429 : Cond.methodLink RX4 112 yX4_doStep ∈ gALL := gmem 545 (by decide +kernel) rfl
theorem wd_430 : Cond.instanceMethod yX4_doStep ∈ gALL := gmem 547 (by decide +kernel) rfl
theorem wd_431 : Cond.selects RX4 yX4_doStep yX4_doStep ∈ gALL := gmem 15 (by decide +kernel) rfl
theorem wd_432 : Cond.code yX4_doStep cX4_doStep 2 none ∈ gALL := gmem 548 (by decide +kernel) rfl
theorem wd_433 : Cond.methodLink RX4 128 yX0_dye ∈ gALL := gmem 549 (by decide +kernel) rfl
theorem wd_434 : Cond.instanceMethod yX0_dye ∈ gALL := gmem 550 (by decide +kernel) rfl
theorem wd_435 : Cond.selects RX0 yX0_dye yX0_dye ∈ gALL := gmem 551 (by decide +kernel) rfl
theorem wd_436 : Cond.code yX0_dye cX0_dye 2 none ∈ gALL := gmem 552 (by decide +kernel) rfl
theorem wd_437 : Cond.methodLink RX4 131 yX0_beginPart ∈ gALL := gmem 553 (by decide +kernel) rfl
theorem wd_438 : Cond.instanceMethod yX0_beginPart ∈ gALL := gmem 554 (by decide +kernel) rfl
theorem wd_439 : Cond.selects RX0 yX0_beginPart yX0_beginPart ∈ gALL := gmem 555 (by decide +kernel) rfl
theorem wd_440 : Cond.code yX0_beginPart cX0_beginPart 2 none ∈ gALL := gmem 556 (by decide +kernel) rfl
theorem wd_441 : Cond.methodLink RX0 73 yX1_insideOf ∈ gALL := gmem 557 (by decide +kernel) rfl
theorem wd_442 : Cond.instanceMethod yX1_insideOf ∈ gALL := gmem 558 (by decide +kernel) rfl
theorem wd_443 : Cond.selects RX1 yX1_insideOf yX1_insideOf ∈ gALL := gmem 559 (by decide +kernel) rfl
theorem wd_444 : Cond.code yX1_insideOf cX1_insideOf 2 (some .int) ∈ gALL := gmem 560 (by decide +kernel) rfl
theorem wd_445 : Cond.methodLink RX4 134 yX4_isShort ∈ gALL := gmem 561 (by decide +kernel) rfl
theorem wd_446 : Cond.instanceMethod yX4_isShort ∈ gALL := gmem 563 (by decide +kernel) rfl
theorem wd_447 : Cond.selects RX4 yX4_isShort yX4_isShort ∈ gALL := gmem 16 (by decide +kernel) rfl
theorem wd_448 : Cond.code yX4_isShort cX4_isShort 2 (some .boolean) ∈ gALL := gmem 564 (by decide +kernel) rfl
theorem wd_449 : Cond.methodLink RX4 116 yX0_leaveEnds ∈ gALL := gmem 565 (by decide +kernel) rfl
theorem wd_450 : Cond.instanceMethod yX0_leaveEnds ∈ gALL := gmem 566 (by decide +kernel) rfl
theorem wd_451 : Cond.selects RX0 yX0_leaveEnds yX0_leaveEnds ∈ gALL := gmem 567 (by decide +kernel) rfl
theorem wd_452 : Cond.code yX0_leaveEnds cX0_leaveEnds 3 none ∈ gALL := gmem 568 (by decide +kernel) rfl
theorem wd_453 : Cond.methodLink RL 34 yX8_weave ∈ gALL := gmem 947 (by decide +kernel) rfl
theorem wd_454 : Cond.instanceMethod yX8_weave ∈ gALL := gmem 948 (by decide +kernel) rfl
theorem wd_455 : Cond.selects RX8 yX8_weave yX8_weave ∈ gALL := gmem 949 (by decide +kernel) rfl
theorem wd_456 : Cond.code yX8_weave cX8_weave 2 (some .int) ∈ gALL := gmem 950 (by decide +kernel) rfl
theorem wd_457 : Cond.methodLink RX8 188 yX8_weaves ∈ gALL := gmem 951 (by decide +kernel) rfl
theorem wd_458 : Cond.instanceMethod yX8_weaves ∈ gALL := gmem 953 (by decide +kernel) rfl
theorem wd_459 : Cond.selects RX8 yX8_weaves yX8_weaves ∈ gALL := gmem 36 (by decide +kernel) rfl
theorem wd_460 : Cond.code yX8_weaves cX8_weaves 6 (some .int) ∈ gALL := gmem 954 (by decide +kernel) rfl
theorem wd_461 : Cond.methodLink RX8 182 yX8_reason ∈ gALL := gmem 955 (by decide +kernel) rfl
theorem wd_462 : Cond.instanceMethod yX8_reason ∈ gALL := gmem 957 (by decide +kernel) rfl
theorem wd_463 : Cond.selects RX8 yX8_reason yX8_reason ∈ gALL := gmem 37 (by decide +kernel) rfl
theorem wd_464 : Cond.code yX8_reason cX8_reason 4 (some .int) ∈ gALL := gmem 958 (by decide +kernel) rfl
theorem wd_465 : Cond.methodLink RX8 129 yX8_onTop ∈ gALL := gmem 959 (by decide +kernel) rfl
theorem wd_466 : Cond.instanceMethod yX8_onTop ∈ gALL := gmem 961 (by decide +kernel) rfl
theorem wd_467 : Cond.selects RX8 yX8_onTop yX8_onTop ∈ gALL := gmem 38 (by decide +kernel) rfl
theorem wd_468 : Cond.code yX8_onTop cX8_onTop 2 (some .int) ∈ gALL := gmem 962 (by decide +kernel) rfl
theorem wd_469 : Cond.methodLink RX8 140 yX8_signAt ∈ gALL := gmem 963 (by decide +kernel) rfl
theorem wd_470 : Cond.instanceMethod yX8_signAt ∈ gALL := gmem 965 (by decide +kernel) rfl
theorem wd_471 : Cond.selects RX8 yX8_signAt yX8_signAt ∈ gALL := gmem 39 (by decide +kernel) rfl
theorem wd_472 : Cond.code yX8_signAt cX8_signAt 2 (some .int) ∈ gALL := gmem 966 (by decide +kernel) rfl
theorem wd_473 : Cond.methodLink RX8 155 yX8_reasonOfPick ∈ gALL := gmem 967 (by decide +kernel) rfl
theorem wd_474 : Cond.instanceMethod yX8_reasonOfPick ∈ gALL := gmem 969 (by decide +kernel) rfl
theorem wd_475 : Cond.selects RX8 yX8_reasonOfPick yX8_reasonOfPick ∈ gALL := gmem 40 (by decide +kernel) rfl
theorem wd_476 : Cond.code yX8_reasonOfPick cX8_reasonOfPick 2 (some .int) ∈ gALL := gmem 970 (by decide +kernel) rfl
theorem wd_477 : Cond.methodLink RX8 158 yX8_reasonOfCall ∈ gALL := gmem 971 (by decide +kernel) rfl
theorem wd_478 : Cond.instanceMethod yX8_reasonOfCall ∈ gALL := gmem 973 (by decide +kernel) rfl
theorem wd_479 : Cond.selects RX8 yX8_reasonOfCall yX8_reasonOfCall ∈ gALL := gmem 41 (by decide +kernel) rfl
theorem wd_480 : Cond.code yX8_reasonOfCall cX8_reasonOfCall 2 (some .int) ∈ gALL := gmem 974 (by decide +kernel) rfl
theorem wd_481 : Cond.methodLink RX8 185 yX8_doStep ∈ gALL := gmem 975 (by decide +kernel) rfl
theorem wd_482 : Cond.instanceMethod yX8_doStep ∈ gALL := gmem 977 (by decide +kernel) rfl
theorem wd_483 : Cond.selects RX8 yX8_doStep yX8_doStep ∈ gALL := gmem 42 (by decide +kernel) rfl
theorem wd_484 : Cond.code yX8_doStep cX8_doStep 2 (some .boolean) ∈ gALL := gmem 978 (by decide +kernel) rfl
theorem wd_485 : Cond.methodLink RX8 170 yX8_weavePick ∈ gALL := gmem 979 (by decide +kernel) rfl
theorem wd_486 : Cond.instanceMethod yX8_weavePick ∈ gALL := gmem 981 (by decide +kernel) rfl
theorem wd_487 : Cond.selects RX8 yX8_weavePick yX8_weavePick ∈ gALL := gmem 43 (by decide +kernel) rfl
theorem wd_488 : Cond.code yX8_weavePick cX8_weavePick 2 none ∈ gALL := gmem 982 (by decide +kernel) rfl
theorem wd_489 : Cond.methodLink RX8 152 yX8_donePick ∈ gALL := gmem 983 (by decide +kernel) rfl
theorem wd_490 : Cond.instanceMethod yX8_donePick ∈ gALL := gmem 985 (by decide +kernel) rfl
theorem wd_491 : Cond.selects RX8 yX8_donePick yX8_donePick ∈ gALL := gmem 44 (by decide +kernel) rfl
theorem wd_492 : Cond.code yX8_donePick cX8_donePick 2 none ∈ gALL := gmem 986 (by decide +kernel) rfl
theorem wd_493 : Cond.methodLink RX8 149 yX8_leftHere ∈ gALL := gmem 987 (by decide +kernel) rfl
theorem wd_494 : Cond.instanceMethod yX8_leftHere ∈ gALL := gmem 989 (by decide +kernel) rfl
theorem wd_495 : Cond.selects RX8 yX8_leftHere yX8_leftHere ∈ gALL := gmem 45 (by decide +kernel) rfl
theorem wd_496 : Cond.code yX8_leftHere cX8_leftHere 1 (some .int) ∈ gALL := gmem 990 (by decide +kernel) rfl
theorem wd_497 : Cond.methodLink RX8 146 yX8_countAt ∈ gALL := gmem 991 (by decide +kernel) rfl
theorem wd_498 : Cond.instanceMethod yX8_countAt ∈ gALL := gmem 993 (by decide +kernel) rfl
theorem wd_499 : Cond.selects RX8 yX8_countAt yX8_countAt ∈ gALL := gmem 46 (by decide +kernel) rfl
theorem wd_500 : Cond.code yX8_countAt cX8_countAt 3 (some .int) ∈ gALL := gmem 994 (by decide +kernel) rfl
theorem wd_501 : Cond.methodLink RX8 136 yX8_go ∈ gALL := gmem 995 (by decide +kernel) rfl
theorem wd_502 : Cond.instanceMethod yX8_go ∈ gALL := gmem 997 (by decide +kernel) rfl
theorem wd_503 : Cond.selects RX8 yX8_go yX8_go ∈ gALL := gmem 47 (by decide +kernel) rfl
theorem wd_504 : Cond.code yX8_go cX8_go 2 none ∈ gALL := gmem 998 (by decide +kernel) rfl
theorem wd_505 : Cond.methodLink RX8 176 yX8_doPart ∈ gALL := gmem 999 (by decide +kernel) rfl
theorem wd_506 : Cond.instanceMethod yX8_doPart ∈ gALL := gmem 1001 (by decide +kernel) rfl
theorem wd_507 : Cond.selects RX8 yX8_doPart yX8_doPart ∈ gALL := gmem 48 (by decide +kernel) rfl
theorem wd_508 : Cond.code yX8_doPart cX8_doPart 3 none ∈ gALL := gmem 1002 (by decide +kernel) rfl
theorem wd_509 : Cond.methodLink RX8 161 yX8_open ∈ gALL := gmem 1003 (by decide +kernel) rfl
theorem wd_510 : Cond.instanceMethod yX8_open ∈ gALL := gmem 1005 (by decide +kernel) rfl
theorem wd_511 : Cond.selects RX8 yX8_open yX8_open ∈ gALL := gmem 49 (by decide +kernel) rfl
theorem wd_512 : Cond.code yX8_open cX8_open 2 none ∈ gALL := gmem 1006 (by decide +kernel) rfl
theorem wd_513 : Cond.methodLink RX8 164 yX8_isShort ∈ gALL := gmem 1007 (by decide +kernel) rfl
theorem wd_514 : Cond.instanceMethod yX8_isShort ∈ gALL := gmem 1009 (by decide +kernel) rfl
theorem wd_515 : Cond.selects RX8 yX8_isShort yX8_isShort ∈ gALL := gmem 50 (by decide +kernel) rfl
theorem wd_516 : Cond.code yX8_isShort cX8_isShort 1 (some .boolean) ∈ gALL := gmem 1010 (by decide +kernel) rfl
theorem wd_517 : Cond.methodLink RX8 167 yX8_passPart ∈ gALL := gmem 1011 (by decide +kernel) rfl
theorem wd_518 : Cond.instanceMethod yX8_passPart ∈ gALL := gmem 1013 (by decide +kernel) rfl
theorem wd_519 : Cond.selects RX8 yX8_passPart yX8_passPart ∈ gALL := gmem 51 (by decide +kernel) rfl
theorem wd_520 : Cond.code yX8_passPart cX8_passPart 4 none ∈ gALL := gmem 1014 (by decide +kernel) rfl
theorem wd_521 : Cond.methodLink RX8 179 yX8_settle ∈ gALL := gmem 1015 (by decide +kernel) rfl
theorem wd_522 : Cond.instanceMethod yX8_settle ∈ gALL := gmem 1017 (by decide +kernel) rfl
theorem wd_523 : Cond.selects RX8 yX8_settle yX8_settle ∈ gALL := gmem 52 (by decide +kernel) rfl
theorem wd_524 : Cond.code yX8_settle cX8_settle 2 none ∈ gALL := gmem 1018 (by decide +kernel) rfl
theorem wd_525 : Cond.methodLink RX8 143 yX8_close ∈ gALL := gmem 1019 (by decide +kernel) rfl
theorem wd_526 : Cond.instanceMethod yX8_close ∈ gALL := gmem 1021 (by decide +kernel) rfl
theorem wd_527 : Cond.selects RX8 yX8_close yX8_close ∈ gALL := gmem 53 (by decide +kernel) rfl
theorem wd_528 : Cond.code yX8_close cX8_close 2 none ∈ gALL := gmem 1022 (by decide +kernel) rfl
theorem wd_529 : Cond.methodLink RL 35 yX7_skip ∈ gALL := gmem 569 (by decide +kernel) rfl
theorem wd_530 : Cond.instanceMethod yX7_skip ∈ gALL := gmem 570 (by decide +kernel) rfl
theorem wd_531 : Cond.selects RX7 yX7_skip yX7_skip ∈ gALL := gmem 571 (by decide +kernel) rfl
theorem wd_532 : Cond.code yX7_skip cX7_skip 1 (some .int) ∈ gALL := gmem 572 (by decide +kernel) rfl
theorem wd_533 : Cond.fieldLink RX7 101 "CallingLooms$Loom" "stack" "LCallingLooms$CardStack;" ∈ gALL := gmem 230 (by decide +kernel) rfl
theorem wd_534 : Cond.fieldLink RX7 105 "CallingLooms$CardStack" "size" "I" ∈ gALL := gmem 196 (by decide +kernel) rfl
theorem wd_535 : Cond.methodLink RX7 110 yX0_passOver ∈ gALL := gmem 573 (by decide +kernel) rfl
theorem wd_536 : Cond.methodLink RX7 113 yX0_leaveEnds ∈ gALL := gmem 574 (by decide +kernel) rfl
theorem wd_537 : Cond.methodLink RL 39 yX8_skip ∈ gALL := gmem 1023 (by decide +kernel) rfl
theorem wd_538 : Cond.instanceMethod yX8_skip ∈ gALL := gmem 1024 (by decide +kernel) rfl
theorem wd_539 : Cond.selects RX8 yX8_skip yX8_skip ∈ gALL := gmem 1025 (by decide +kernel) rfl
theorem wd_540 : Cond.code yX8_skip cX8_skip 2 (some .int) ∈ gALL := gmem 1026 (by decide +kernel) rfl
theorem wd_541 : Cond.methodLink RL 40 yX7_tie ∈ gALL := gmem 575 (by decide +kernel) rfl
theorem wd_542 : Cond.instanceMethod yX7_tie ∈ gALL := gmem 576 (by decide +kernel) rfl
theorem wd_543 : Cond.selects RX7 yX7_tie yX7_tie ∈ gALL := gmem 577 (by decide +kernel) rfl
theorem wd_544 : Cond.code yX7_tie cX7_tie 3 (some .int) ∈ gALL := gmem 578 (by decide +kernel) rfl
theorem wd_545 : Cond.methodLink RX7 116 yX4_tieThread ∈ gALL := gmem 579 (by decide +kernel) rfl
theorem wd_546 : Cond.instanceMethod yX4_tieThread ∈ gALL := gmem 580 (by decide +kernel) rfl
theorem wd_547 : Cond.selects RX4 yX4_tieThread yX4_tieThread ∈ gALL := gmem 581 (by decide +kernel) rfl
theorem wd_548 : Cond.code yX4_tieThread cX4_tieThread 3 (some .int) ∈ gALL := gmem 582 (by decide +kernel) rfl
theorem wd_549 : Cond.methodLink RL 43 yX8_tie ∈ gALL := gmem 1027 (by decide +kernel) rfl
theorem wd_550 : Cond.instanceMethod yX8_tie ∈ gALL := gmem 1028 (by decide +kernel) rfl
theorem wd_551 : Cond.selects RX8 yX8_tie yX8_tie ∈ gALL := gmem 1029 (by decide +kernel) rfl
theorem wd_552 : Cond.code yX8_tie cX8_tie 4 (some .int) ∈ gALL := gmem 1030 (by decide +kernel) rfl
theorem wd_553 : Cond.methodLink RX8 191 yX8_isColour ∈ gALL := gmem 1031 (by decide +kernel) rfl
theorem wd_554 : Cond.static yX8_isColour ∈ gALL := gmem 1032 (by decide +kernel) rfl
theorem wd_555 : Cond.code yX8_isColour cX8_isColour 1 (some .boolean) ∈ gALL := gmem 1033 (by decide +kernel) rfl
theorem wd_556 : Cond.methodLink RL 44 yX7_cut ∈ gALL := gmem 583 (by decide +kernel) rfl
theorem wd_557 : Cond.instanceMethod yX7_cut ∈ gALL := gmem 584 (by decide +kernel) rfl
theorem wd_558 : Cond.selects RX7 yX7_cut yX7_cut ∈ gALL := gmem 585 (by decide +kernel) rfl
theorem wd_559 : Cond.code yX7_cut cX7_cut 2 (some .int) ∈ gALL := gmem 586 (by decide +kernel) rfl
theorem wd_560 : Cond.fieldLink RX7 120 "CallingLooms$Loom" "clothLength" "I" ∈ gALL := gmem 232 (by decide +kernel) rfl
theorem wd_561 : Cond.methodLink RL 47 yX8_cut ∈ gALL := gmem 1034 (by decide +kernel) rfl
theorem wd_562 : Cond.instanceMethod yX8_cut ∈ gALL := gmem 1035 (by decide +kernel) rfl
theorem wd_563 : Cond.selects RX8 yX8_cut yX8_cut ∈ gALL := gmem 1036 (by decide +kernel) rfl
theorem wd_564 : Cond.code yX8_cut cX8_cut 2 (some .int) ∈ gALL := gmem 1037 (by decide +kernel) rfl
theorem wd_565 : Cond.methodLink RL 48 yX7_of ∈ gALL := gmem 587 (by decide +kernel) rfl
theorem wd_566 : Cond.instanceMethod yX7_of ∈ gALL := gmem 588 (by decide +kernel) rfl
theorem wd_567 : Cond.selects RX7 yX7_of yX7_of ∈ gALL := gmem 589 (by decide +kernel) rfl
theorem wd_568 : Cond.code yX7_of cX7_of 4 (some .int) ∈ gALL := gmem 590 (by decide +kernel) rfl
theorem wd_569 : Cond.fieldLink RX7 123 "CallingLooms$CardText" "length" "I" ∈ gALL := gmem 417 (by decide +kernel) rfl
theorem wd_570 : Cond.fieldLink RX7 124 "CallingLooms$CardText" "calls" "I" ∈ gALL := gmem 422 (by decide +kernel) rfl
theorem wd_571 : Cond.fieldLink RX7 127 "CallingLooms$Loom" "begun" "[I" ∈ gALL := gmem 216 (by decide +kernel) rfl
theorem wd_572 : Cond.fieldLink RX7 133 "CallingLooms$CardText" "nesting" "I" ∈ gALL := gmem 424 (by decide +kernel) rfl
theorem wd_573 : Cond.methodLink RX7 130 yX0_timesOn ∈ gALL := gmem 591 (by decide +kernel) rfl
theorem wd_574 : Cond.instanceMethod yX0_timesOn ∈ gALL := gmem 592 (by decide +kernel) rfl
theorem wd_575 : Cond.selects RX0 yX0_timesOn yX0_timesOn ∈ gALL := gmem 593 (by decide +kernel) rfl
theorem wd_576 : Cond.code yX0_timesOn cX0_timesOn 4 (some .int) ∈ gALL := gmem 594 (by decide +kernel) rfl
theorem wd_577 : Cond.methodLink RL 51 yX8_of ∈ gALL := gmem 1038 (by decide +kernel) rfl
theorem wd_578 : Cond.instanceMethod yX8_of ∈ gALL := gmem 1039 (by decide +kernel) rfl
theorem wd_579 : Cond.selects RX8 yX8_of yX8_of ∈ gALL := gmem 1040 (by decide +kernel) rfl
theorem wd_580 : Cond.code yX8_of cX8_of 3 (some .int) ∈ gALL := gmem 1041 (by decide +kernel) rfl
theorem wd_581 : Cond.methodLink RX8 194 yX8_timesOnStack ∈ gALL := gmem 1042 (by decide +kernel) rfl
theorem wd_582 : Cond.instanceMethod yX8_timesOnStack ∈ gALL := gmem 1044 (by decide +kernel) rfl
theorem wd_583 : Cond.selects RX8 yX8_timesOnStack yX8_timesOnStack ∈ gALL := gmem 54 (by decide +kernel) rfl
theorem wd_584 : Cond.code yX8_timesOnStack cX8_timesOnStack 4 (some .int) ∈ gALL := gmem 1045 (by decide +kernel) rfl
theorem wd_585 : Cond.methodLink RX8 197 yX8_nested ∈ gALL := gmem 1046 (by decide +kernel) rfl
theorem wd_586 : Cond.instanceMethod yX8_nested ∈ gALL := gmem 1048 (by decide +kernel) rfl
theorem wd_587 : Cond.selects RX8 yX8_nested yX8_nested ∈ gALL := gmem 55 (by decide +kernel) rfl
theorem wd_588 : Cond.code yX8_nested cX8_nested 5 (some .int) ∈ gALL := gmem 1049 (by decide +kernel) rfl
theorem wd_589 : Cond.methodLink RL 52 yX7_stack ∈ gALL := gmem 595 (by decide +kernel) rfl
theorem wd_590 : Cond.instanceMethod yX7_stack ∈ gALL := gmem 596 (by decide +kernel) rfl
theorem wd_591 : Cond.selects RX7 yX7_stack yX7_stack ∈ gALL := gmem 597 (by decide +kernel) rfl
theorem wd_592 : Cond.code yX7_stack cX7_stack 4 (some .int) ∈ gALL := gmem 598 (by decide +kernel) rfl
theorem wd_593 : Cond.fieldLink RX7 136 "CallingLooms$CardStack" "cards" "[I" ∈ gALL := gmem 186 (by decide +kernel) rfl
theorem wd_594 : Cond.fieldLink RX7 139 "CallingLooms$CardStack" "colours" "[I" ∈ gALL := gmem 188 (by decide +kernel) rfl
theorem wd_595 : Cond.fieldLink RX7 145 "CallingLooms$CardStack" "parts" "[I" ∈ gALL := gmem 190 (by decide +kernel) rfl
theorem wd_596 : Cond.methodLink RX7 142 yX0_placeOf ∈ gALL := gmem 599 (by decide +kernel) rfl
theorem wd_597 : Cond.instanceMethod yX0_placeOf ∈ gALL := gmem 600 (by decide +kernel) rfl
theorem wd_598 : Cond.selects RX0 yX0_placeOf yX0_placeOf ∈ gALL := gmem 601 (by decide +kernel) rfl
theorem wd_599 : Cond.code yX0_placeOf cX0_placeOf 2 (some .int) ∈ gALL := gmem 602 (by decide +kernel) rfl
theorem wd_600 : Cond.methodLink RL 55 yX8_stack ∈ gALL := gmem 1050 (by decide +kernel) rfl
theorem wd_601 : Cond.instanceMethod yX8_stack ∈ gALL := gmem 1051 (by decide +kernel) rfl
theorem wd_602 : Cond.selects RX8 yX8_stack yX8_stack ∈ gALL := gmem 1052 (by decide +kernel) rfl
theorem wd_603 : Cond.code yX8_stack cX8_stack 3 (some .int) ∈ gALL := gmem 1053 (by decide +kernel) rfl
theorem wd_604 : Cond.methodLink RL 56 yX7_thread ∈ gALL := gmem 604 (by decide +kernel) rfl
theorem wd_605 : Cond.instanceMethod yX7_thread ∈ gALL := gmem 605 (by decide +kernel) rfl
theorem wd_606 : Cond.selects RX7 yX7_thread yX7_thread ∈ gALL := gmem 606 (by decide +kernel) rfl
theorem wd_607 : Cond.code yX7_thread cX7_thread 3 (some .int) ∈ gALL := gmem 607 (by decide +kernel) rfl
theorem wd_608 : Cond.fieldLink RX7 148 "CallingLooms$Loom" "ells" "[I" ∈ gALL := gmem 220 (by decide +kernel) rfl
theorem wd_609 : Cond.fieldLink RX7 151 "CallingLooms$Loom" "strain" "[I" ∈ gALL := gmem 222 (by decide +kernel) rfl
theorem wd_610 : Cond.fieldLink RX7 154 "CallingLooms$Loom" "knots" "[I" ∈ gALL := gmem 224 (by decide +kernel) rfl
theorem wd_611 : Cond.fieldLink RX7 157 "CallingLooms$Loom" "woven" "[I" ∈ gALL := gmem 226 (by decide +kernel) rfl
theorem wd_612 : Cond.methodLink RX7 160 yX4_clothPicks ∈ gALL := gmem 608 (by decide +kernel) rfl
theorem wd_613 : Cond.instanceMethod yX4_clothPicks ∈ gALL := gmem 609 (by decide +kernel) rfl
theorem wd_614 : Cond.selects RX4 yX4_clothPicks yX4_clothPicks ∈ gALL := gmem 610 (by decide +kernel) rfl
theorem wd_615 : Cond.code yX4_clothPicks cX4_clothPicks 4 (some .int) ∈ gALL := gmem 611 (by decide +kernel) rfl
theorem wd_616 : Cond.methodLink RX7 163 yX4_longestRow ∈ gALL := gmem 612 (by decide +kernel) rfl
theorem wd_617 : Cond.instanceMethod yX4_longestRow ∈ gALL := gmem 613 (by decide +kernel) rfl
theorem wd_618 : Cond.selects RX4 yX4_longestRow yX4_longestRow ∈ gALL := gmem 614 (by decide +kernel) rfl
theorem wd_619 : Cond.code yX4_longestRow cX4_longestRow 5 (some .int) ∈ gALL := gmem 615 (by decide +kernel) rfl
theorem wd_620 : Cond.methodLink RL 59 yX8_thread ∈ gALL := gmem 1054 (by decide +kernel) rfl
theorem wd_621 : Cond.instanceMethod yX8_thread ∈ gALL := gmem 1055 (by decide +kernel) rfl
theorem wd_622 : Cond.selects RX8 yX8_thread yX8_thread ∈ gALL := gmem 1056 (by decide +kernel) rfl
theorem wd_623 : Cond.code yX8_thread cX8_thread 3 (some .int) ∈ gALL := gmem 1057 (by decide +kernel) rfl
theorem wd_624 : Cond.methodLink RX8 200 yX8_inCloth ∈ gALL := gmem 1058 (by decide +kernel) rfl
theorem wd_625 : Cond.instanceMethod yX8_inCloth ∈ gALL := gmem 1060 (by decide +kernel) rfl
theorem wd_626 : Cond.selects RX8 yX8_inCloth yX8_inCloth ∈ gALL := gmem 56 (by decide +kernel) rfl
theorem wd_627 : Cond.code yX8_inCloth cX8_inCloth 4 (some .int) ∈ gALL := gmem 1061 (by decide +kernel) rfl
theorem wd_628 : Cond.methodLink RX8 203 yX8_longestRow ∈ gALL := gmem 1062 (by decide +kernel) rfl
theorem wd_629 : Cond.instanceMethod yX8_longestRow ∈ gALL := gmem 1064 (by decide +kernel) rfl
theorem wd_630 : Cond.selects RX8 yX8_longestRow yX8_longestRow ∈ gALL := gmem 57 (by decide +kernel) rfl
theorem wd_631 : Cond.code yX8_longestRow cX8_longestRow 5 (some .int) ∈ gALL := gmem 1065 (by decide +kernel) rfl
theorem wd_632 : Cond.methodLink RL 60 yX7_pick ∈ gALL := gmem 616 (by decide +kernel) rfl
theorem wd_633 : Cond.instanceMethod yX7_pick ∈ gALL := gmem 617 (by decide +kernel) rfl
theorem wd_634 : Cond.selects RX7 yX7_pick yX7_pick ∈ gALL := gmem 618 (by decide +kernel) rfl
theorem wd_635 : Cond.code yX7_pick cX7_pick 2 (some .int) ∈ gALL := gmem 619 (by decide +kernel) rfl
theorem wd_636 : Cond.fieldLink RX7 166 "CallingLooms$Loom" "cloth" "[B" ∈ gALL := gmem 228 (by decide +kernel) rfl
theorem wd_637 : Cond.methodLink RL 63 yX8_pick ∈ gALL := gmem 1066 (by decide +kernel) rfl
theorem wd_638 : Cond.instanceMethod yX8_pick ∈ gALL := gmem 1067 (by decide +kernel) rfl
theorem wd_639 : Cond.selects RX8 yX8_pick yX8_pick ∈ gALL := gmem 1068 (by decide +kernel) rfl
theorem wd_640 : Cond.code yX8_pick cX8_pick 2 (some .int) ∈ gALL := gmem 1069 (by decide +kernel) rfl
theorem wd_641 : Cond.methodLink RL 64 yX7_byEnd ∈ gALL := gmem 620 (by decide +kernel) rfl
theorem wd_642 : Cond.instanceMethod yX7_byEnd ∈ gALL := gmem 621 (by decide +kernel) rfl
theorem wd_643 : Cond.selects RX7 yX7_byEnd yX7_byEnd ∈ gALL := gmem 622 (by decide +kernel) rfl
theorem wd_644 : Cond.code yX7_byEnd cX7_byEnd 3 (some .int) ∈ gALL := gmem 623 (by decide +kernel) rfl
theorem wd_645 : Cond.methodLink RX7 170 yX4_endRank ∈ gALL := gmem 624 (by decide +kernel) rfl
theorem wd_646 : Cond.instanceMethod yX4_endRank ∈ gALL := gmem 625 (by decide +kernel) rfl
theorem wd_647 : Cond.selects RX4 yX4_endRank yX4_endRank ∈ gALL := gmem 626 (by decide +kernel) rfl
theorem wd_648 : Cond.code yX4_endRank cX4_endRank 5 (some .int) ∈ gALL := gmem 627 (by decide +kernel) rfl
theorem wd_649 : Cond.methodLink RL 67 yX8_byEnd ∈ gALL := gmem 1070 (by decide +kernel) rfl
theorem wd_650 : Cond.instanceMethod yX8_byEnd ∈ gALL := gmem 1071 (by decide +kernel) rfl
theorem wd_651 : Cond.selects RX8 yX8_byEnd yX8_byEnd ∈ gALL := gmem 1072 (by decide +kernel) rfl
theorem wd_652 : Cond.code yX8_byEnd cX8_byEnd 3 (some .int) ∈ gALL := gmem 1073 (by decide +kernel) rfl
theorem wd_653 : Cond.methodLink RX8 206 yX8_aheadByEnd ∈ gALL := gmem 1074 (by decide +kernel) rfl
theorem wd_654 : Cond.instanceMethod yX8_aheadByEnd ∈ gALL := gmem 1076 (by decide +kernel) rfl
theorem wd_655 : Cond.selects RX8 yX8_aheadByEnd yX8_aheadByEnd ∈ gALL := gmem 58 (by decide +kernel) rfl
theorem wd_656 : Cond.code yX8_aheadByEnd cX8_aheadByEnd 5 (some .int) ∈ gALL := gmem 1077 (by decide +kernel) rfl
theorem wd_657 : Cond.methodLink RL 68 yX7_byCloth ∈ gALL := gmem 628 (by decide +kernel) rfl
theorem wd_658 : Cond.instanceMethod yX7_byCloth ∈ gALL := gmem 629 (by decide +kernel) rfl
theorem wd_659 : Cond.selects RX7 yX7_byCloth yX7_byCloth ∈ gALL := gmem 630 (by decide +kernel) rfl
theorem wd_660 : Cond.code yX7_byCloth cX7_byCloth 3 (some .int) ∈ gALL := gmem 631 (by decide +kernel) rfl
theorem wd_661 : Cond.methodLink RX7 173 yX4_clothRank ∈ gALL := gmem 632 (by decide +kernel) rfl
theorem wd_662 : Cond.instanceMethod yX4_clothRank ∈ gALL := gmem 633 (by decide +kernel) rfl
theorem wd_663 : Cond.selects RX4 yX4_clothRank yX4_clothRank ∈ gALL := gmem 634 (by decide +kernel) rfl
theorem wd_664 : Cond.code yX4_clothRank cX4_clothRank 6 (some .int) ∈ gALL := gmem 635 (by decide +kernel) rfl
theorem wd_665 : Cond.methodLink RX4 138 yX4_clothPicks ∈ gALL := gmem 636 (by decide +kernel) rfl
theorem wd_666 : Cond.methodLink RL 71 yX8_byCloth ∈ gALL := gmem 1078 (by decide +kernel) rfl
theorem wd_667 : Cond.instanceMethod yX8_byCloth ∈ gALL := gmem 1079 (by decide +kernel) rfl
theorem wd_668 : Cond.selects RX8 yX8_byCloth yX8_byCloth ∈ gALL := gmem 1080 (by decide +kernel) rfl
theorem wd_669 : Cond.code yX8_byCloth cX8_byCloth 3 (some .int) ∈ gALL := gmem 1081 (by decide +kernel) rfl
theorem wd_670 : Cond.methodLink RX8 209 yX8_aheadByCloth ∈ gALL := gmem 1082 (by decide +kernel) rfl
theorem wd_671 : Cond.instanceMethod yX8_aheadByCloth ∈ gALL := gmem 1084 (by decide +kernel) rfl
theorem wd_672 : Cond.selects RX8 yX8_aheadByCloth yX8_aheadByCloth ∈ gALL := gmem 59 (by decide +kernel) rfl
theorem wd_673 : Cond.code yX8_aheadByCloth cX8_aheadByCloth 5 (some .int) ∈ gALL := gmem 1085 (by decide +kernel) rfl
theorem wd_674 : Cond.methodLink RL 72 yX7_write ∈ gALL := gmem 637 (by decide +kernel) rfl
theorem wd_675 : Cond.instanceMethod yX7_write ∈ gALL := gmem 638 (by decide +kernel) rfl
theorem wd_676 : Cond.selects RX7 yX7_write yX7_write ∈ gALL := gmem 639 (by decide +kernel) rfl
theorem wd_677 : Cond.code yX7_write cX7_write 3 (some .int) ∈ gALL := gmem 640 (by decide +kernel) rfl
theorem wd_678 : Cond.methodLink RX7 176 yX5_takeOver ∈ gALL := gmem 641 (by decide +kernel) rfl
theorem wd_679 : Cond.instanceMethod yX5_takeOver ∈ gALL := gmem 642 (by decide +kernel) rfl
theorem wd_680 : Cond.selects RX5 yX5_takeOver yX5_takeOver ∈ gALL := gmem 643 (by decide +kernel) rfl
theorem wd_681 : Cond.code yX5_takeOver cX5_takeOver 2 none ∈ gALL := gmem 644 (by decide +kernel) rfl
theorem wd_682 : Cond.fieldLink RX5 21 "CallingLooms$CardText" "length" "I" ∈ gALL := gmem 416 (by decide +kernel) rfl
theorem wd_683 : Cond.methodLink RX5 24 Lib.Math.min.name ∈ gALL := gmem 645 (by decide +kernel) rfl
theorem wd_684 : Cond.fieldLink RX5 30 "CallingLooms$CardText" "signs" "[C" ∈ gALL := gmem 426 (by decide +kernel) rfl
theorem wd_685 : Cond.methodLink RX5 31 arraycopyName ∈ gALL := gmem 646 (by decide +kernel) rfl
theorem wd_686 : Cond.methodLink RL 75 yX8_write ∈ gALL := gmem 874 (by decide +kernel) rfl
theorem wd_687 : Cond.instanceMethod yX8_write ∈ gALL := gmem 875 (by decide +kernel) rfl
theorem wd_688 : Cond.selects RX8 yX8_write yX8_write ∈ gALL := gmem 876 (by decide +kernel) rfl
theorem wd_689 : Cond.code yX8_write cX8_write 3 (some .int) ∈ gALL := gmem 877 (by decide +kernel) rfl
theorem wd_690 : Cond.methodLink RL 76 yX7_sign ∈ gALL := gmem 647 (by decide +kernel) rfl
theorem wd_691 : Cond.instanceMethod yX7_sign ∈ gALL := gmem 648 (by decide +kernel) rfl
theorem wd_692 : Cond.selects RX7 yX7_sign yX7_sign ∈ gALL := gmem 649 (by decide +kernel) rfl
theorem wd_693 : Cond.code yX7_sign cX7_sign 2 (some .int) ∈ gALL := gmem 650 (by decide +kernel) rfl
theorem wd_694 : Cond.fieldLink RX7 180 "CallingLooms$Pad" "signs" "[C" ∈ gALL := gmem 104 (by decide +kernel) rfl
theorem wd_695 : Cond.methodLink RL 79 yX8_sign ∈ gALL := gmem 889 (by decide +kernel) rfl
theorem wd_696 : Cond.instanceMethod yX8_sign ∈ gALL := gmem 890 (by decide +kernel) rfl
theorem wd_697 : Cond.selects RX8 yX8_sign yX8_sign ∈ gALL := gmem 891 (by decide +kernel) rfl
theorem wd_698 : Cond.code yX8_sign cX8_sign 2 (some .int) ∈ gALL := gmem 892 (by decide +kernel) rfl
theorem wd_699 : Cond.methodLink RL 80 yX7_count ∈ gALL := gmem 651 (by decide +kernel) rfl
theorem wd_700 : Cond.instanceMethod yX7_count ∈ gALL := gmem 652 (by decide +kernel) rfl
theorem wd_701 : Cond.selects RX7 yX7_count yX7_count ∈ gALL := gmem 653 (by decide +kernel) rfl
theorem wd_702 : Cond.code yX7_count cX7_count 2 (some .int) ∈ gALL := gmem 654 (by decide +kernel) rfl
theorem wd_703 : Cond.fieldLink RX7 192 "CallingLooms$Loom" "mostOnStack" "I" ∈ gALL := gmem 234 (by decide +kernel) rfl
theorem wd_704 : Cond.fieldLink RX7 195 "CallingLooms$Loom" "calls" "I" ∈ gALL := gmem 236 (by decide +kernel) rfl
theorem wd_705 : Cond.fieldLink RX7 196 "CallingLooms$Loom" "reason" "I" ∈ gALL := gmem 238 (by decide +kernel) rfl
theorem wd_706 : Cond.fieldLink RX7 199 "CallingLooms$History" "size" "I" ∈ gALL := gmem 277 (by decide +kernel) rfl
theorem wd_707 : Cond.methodLink RX7 184 yX2_written ∈ gALL := gmem 655 (by decide +kernel) rfl
theorem wd_708 : Cond.static yX2_written ∈ gALL := gmem 656 (by decide +kernel) rfl
theorem wd_709 : Cond.code yX2_written cX2_written 3 (some .int) ∈ gALL := gmem 657 (by decide +kernel) rfl
theorem wd_710 : Cond.methodLink RX7 188 yX7_sum ∈ gALL := gmem 658 (by decide +kernel) rfl
theorem wd_711 : Cond.static yX7_sum ∈ gALL := gmem 659 (by decide +kernel) rfl
theorem wd_712 : Cond.code yX7_sum cX7_sum 6 (some .int) ∈ gALL := gmem 660 (by decide +kernel) rfl
theorem wd_713 : Cond.methodLink RL 83 yX8_count ∈ gALL := gmem 1086 (by decide +kernel) rfl
theorem wd_714 : Cond.instanceMethod yX8_count ∈ gALL := gmem 1087 (by decide +kernel) rfl
theorem wd_715 : Cond.selects RX8 yX8_count yX8_count ∈ gALL := gmem 1088 (by decide +kernel) rfl
theorem wd_716 : Cond.code yX8_count cX8_count 2 (some .int) ∈ gALL := gmem 1089 (by decide +kernel) rfl
theorem wd_717 : Cond.methodLink RX8 212 yX8_withTexts ∈ gALL := gmem 1090 (by decide +kernel) rfl
theorem wd_718 : Cond.instanceMethod yX8_withTexts ∈ gALL := gmem 1092 (by decide +kernel) rfl
theorem wd_719 : Cond.selects RX8 yX8_withTexts yX8_withTexts ∈ gALL := gmem 60 (by decide +kernel) rfl
theorem wd_720 : Cond.code yX8_withTexts cX8_withTexts 3 (some .int) ∈ gALL := gmem 1093 (by decide +kernel) rfl
theorem wd_721 : Cond.methodLink RX8 215 yX8_sumOf ∈ gALL := gmem 1094 (by decide +kernel) rfl
theorem wd_722 : Cond.instanceMethod yX8_sumOf ∈ gALL := gmem 1096 (by decide +kernel) rfl
theorem wd_723 : Cond.selects RX8 yX8_sumOf yX8_sumOf ∈ gALL := gmem 61 (by decide +kernel) rfl
theorem wd_724 : Cond.code yX8_sumOf cX8_sumOf 4 (some .int) ∈ gALL := gmem 1097 (by decide +kernel) rfl
theorem wd_725 : Cond.methodLink RL 84 yX7_picks ∈ gALL := gmem 661 (by decide +kernel) rfl
theorem wd_726 : Cond.instanceMethod yX7_picks ∈ gALL := gmem 662 (by decide +kernel) rfl
theorem wd_727 : Cond.selects RX7 yX7_picks yX7_picks ∈ gALL := gmem 663 (by decide +kernel) rfl
theorem wd_728 : Cond.code yX7_picks cX7_picks 4 (some .int) ∈ gALL := gmem 664 (by decide +kernel) rfl
theorem wd_729 : Cond.methodLink RX7 200 yX2_troubleOf ∈ gALL := gmem 665 (by decide +kernel) rfl
theorem wd_730 : Cond.static yX2_troubleOf ∈ gALL := gmem 666 (by decide +kernel) rfl
theorem wd_731 : Cond.code yX2_troubleOf cX2_troubleOf 4 (some .int) ∈ gALL := gmem 667 (by decide +kernel) rfl
theorem wd_732 : Cond.methodLink RX2 32 yX2_reachedFrom ∈ gALL := gmem 668 (by decide +kernel) rfl
theorem wd_733 : Cond.static yX2_reachedFrom ∈ gALL := gmem 669 (by decide +kernel) rfl
theorem wd_734 : Cond.code yX2_reachedFrom cX2_reachedFrom 5 (some .int) ∈ gALL := gmem 670 (by decide +kernel) rfl
theorem wd_735 : Cond.methodLink RX2 35 yX2_written ∈ gALL := gmem 671 (by decide +kernel) rfl
theorem wd_736 : Cond.methodLink RX7 203 yX2_picksOf ∈ gALL := gmem 672 (by decide +kernel) rfl
theorem wd_737 : Cond.instanceMethod yX2_picksOf ∈ gALL := gmem 673 (by decide +kernel) rfl
theorem wd_738 : Cond.selects RX2 yX2_picksOf yX2_picksOf ∈ gALL := gmem 674 (by decide +kernel) rfl
theorem wd_739 : Cond.code yX2_picksOf cX2_picksOf 9 (some .int) ∈ gALL := gmem 675 (by decide +kernel) rfl
theorem wd_740 : Cond.methodLink RX2 49 yX2_weighCard ∈ gALL := gmem 676 (by decide +kernel) rfl
theorem wd_741 : Cond.instanceMethod yX2_weighCard ∈ gALL := gmem 678 (by decide +kernel) rfl
theorem wd_742 : Cond.selects RX2 yX2_weighCard yX2_weighCard ∈ gALL := gmem 17 (by decide +kernel) rfl
theorem wd_743 : Cond.code yX2_weighCard cX2_weighCard 5 none ∈ gALL := gmem 679 (by decide +kernel) rfl
theorem wd_744 : Cond.methodLink RX2 53 yX2_weigh ∈ gALL := gmem 680 (by decide +kernel) rfl
theorem wd_745 : Cond.static yX2_weigh ∈ gALL := gmem 681 (by decide +kernel) rfl
theorem wd_746 : Cond.code yX2_weigh cX2_weigh 12 (some .int) ∈ gALL := gmem 682 (by decide +kernel) rfl
theorem wd_747 : Cond.constant RX2 73 (1000000) ∈ gALL := gmem 691 (by decide +kernel) rfl
theorem wd_748 : Cond.methodLink RX2 74 Lib.Math.min.name ∈ gALL := gmem 692 (by decide +kernel) rfl
theorem wd_749 : Cond.methodLink RX2 57 yX1_signAt ∈ gALL := gmem 683 (by decide +kernel) rfl
theorem wd_750 : Cond.methodLink RX2 60 yX1_insideOf ∈ gALL := gmem 684 (by decide +kernel) rfl
theorem wd_751 : Cond.methodLink RX2 63 yX1_timesAt ∈ gALL := gmem 685 (by decide +kernel) rfl
theorem wd_752 : Cond.methodLink RX2 66 yX1_digitAt ∈ gALL := gmem 686 (by decide +kernel) rfl
theorem wd_753 : Cond.methodLink RX2 69 yX2_colourBehind ∈ gALL := gmem 687 (by decide +kernel) rfl
theorem wd_754 : Cond.static yX2_colourBehind ∈ gALL := gmem 688 (by decide +kernel) rfl
theorem wd_755 : Cond.code yX2_colourBehind cX2_colourBehind 8 (some .int) ∈ gALL := gmem 689 (by decide +kernel) rfl
theorem wd_756 : Cond.methodLink RX2 77 yX1_behind ∈ gALL := gmem 690 (by decide +kernel) rfl
theorem wd_757 : Cond.methodLink RL 87 yX8_picks ∈ gALL := gmem 1098 (by decide +kernel) rfl
theorem wd_758 : Cond.instanceMethod yX8_picks ∈ gALL := gmem 1099 (by decide +kernel) rfl
theorem wd_759 : Cond.selects RX8 yX8_picks yX8_picks ∈ gALL := gmem 1100 (by decide +kernel) rfl
theorem wd_760 : Cond.code yX8_picks cX8_picks 4 (some .int) ∈ gALL := gmem 1101 (by decide +kernel) rfl
theorem wd_761 : Cond.methodLink RX8 248 yX8_whyNot ∈ gALL := gmem 1102 (by decide +kernel) rfl
theorem wd_762 : Cond.instanceMethod yX8_whyNot ∈ gALL := gmem 1104 (by decide +kernel) rfl
theorem wd_763 : Cond.selects RX8 yX8_whyNot yX8_whyNot ∈ gALL := gmem 62 (by decide +kernel) rfl
theorem wd_764 : Cond.code yX8_whyNot cX8_whyNot 5 (some .int) ∈ gALL := gmem 1105 (by decide +kernel) rfl
theorem wd_765 : Cond.methodLink RX8 114 yX8_reached ∈ gALL := gmem 897 (by decide +kernel) rfl
theorem wd_766 : Cond.instanceMethod yX8_reached ∈ gALL := gmem 899 (by decide +kernel) rfl
theorem wd_767 : Cond.selects RX8 yX8_reached yX8_reached ∈ gALL := gmem 29 (by decide +kernel) rfl
theorem wd_768 : Cond.code yX8_reached cX8_reached 5 (some .int) ∈ gALL := gmem 900 (by decide +kernel) rfl
theorem wd_769 : Cond.methodLink RX8 251 yX8_tellsPicks ∈ gALL := gmem 1106 (by decide +kernel) rfl
theorem wd_770 : Cond.instanceMethod yX8_tellsPicks ∈ gALL := gmem 1108 (by decide +kernel) rfl
theorem wd_771 : Cond.selects RX8 yX8_tellsPicks yX8_tellsPicks ∈ gALL := gmem 63 (by decide +kernel) rfl
theorem wd_772 : Cond.code yX8_tellsPicks cX8_tellsPicks 5 (some .int) ∈ gALL := gmem 1109 (by decide +kernel) rfl
theorem wd_773 : Cond.constant RX8 218 (1000000) ∈ gALL := gmem 1133 (by decide +kernel) rfl
theorem wd_774 : Cond.methodLink RX8 245 yX8_countAll ∈ gALL := gmem 1110 (by decide +kernel) rfl
theorem wd_775 : Cond.instanceMethod yX8_countAll ∈ gALL := gmem 1112 (by decide +kernel) rfl
theorem wd_776 : Cond.selects RX8 yX8_countAll yX8_countAll ∈ gALL := gmem 64 (by decide +kernel) rfl
theorem wd_777 : Cond.code yX8_countAll cX8_countAll 4 none ∈ gALL := gmem 1113 (by decide +kernel) rfl
theorem wd_778 : Cond.methodLink RX8 236 yX8_areKnown ∈ gALL := gmem 1114 (by decide +kernel) rfl
theorem wd_779 : Cond.instanceMethod yX8_areKnown ∈ gALL := gmem 1116 (by decide +kernel) rfl
theorem wd_780 : Cond.selects RX8 yX8_areKnown yX8_areKnown ∈ gALL := gmem 65 (by decide +kernel) rfl
theorem wd_781 : Cond.code yX8_areKnown cX8_areKnown 4 (some .boolean) ∈ gALL := gmem 1117 (by decide +kernel) rfl
theorem wd_782 : Cond.methodLink RX8 239 yX8_countCard ∈ gALL := gmem 1118 (by decide +kernel) rfl
theorem wd_783 : Cond.instanceMethod yX8_countCard ∈ gALL := gmem 1120 (by decide +kernel) rfl
theorem wd_784 : Cond.selects RX8 yX8_countCard yX8_countCard ∈ gALL := gmem 66 (by decide +kernel) rfl
theorem wd_785 : Cond.code yX8_countCard cX8_countCard 10 none ∈ gALL := gmem 1121 (by decide +kernel) rfl
theorem wd_786 : Cond.methodLink RX8 223 yX8_digitAt ∈ gALL := gmem 1122 (by decide +kernel) rfl
theorem wd_787 : Cond.instanceMethod yX8_digitAt ∈ gALL := gmem 1124 (by decide +kernel) rfl
theorem wd_788 : Cond.selects RX8 yX8_digitAt yX8_digitAt ∈ gALL := gmem 67 (by decide +kernel) rfl
theorem wd_789 : Cond.code yX8_digitAt cX8_digitAt 3 (some .int) ∈ gALL := gmem 1125 (by decide +kernel) rfl
theorem wd_790 : Cond.methodLink RX8 226 yX8_countPicks ∈ gALL := gmem 1126 (by decide +kernel) rfl
theorem wd_791 : Cond.instanceMethod yX8_countPicks ∈ gALL := gmem 1128 (by decide +kernel) rfl
theorem wd_792 : Cond.selects RX8 yX8_countPicks yX8_countPicks ∈ gALL := gmem 68 (by decide +kernel) rfl
theorem wd_793 : Cond.code yX8_countPicks cX8_countPicks 4 none ∈ gALL := gmem 1129 (by decide +kernel) rfl
theorem wd_794 : Cond.methodLink RX8 220 yX8_bounded ∈ gALL := gmem 1130 (by decide +kernel) rfl
theorem wd_795 : Cond.static yX8_bounded ∈ gALL := gmem 1131 (by decide +kernel) rfl
theorem wd_796 : Cond.code yX8_bounded cX8_bounded 1 (some .int) ∈ gALL := gmem 1132 (by decide +kernel) rfl
theorem wd_797 : Cond.constant RX8 219 (1000001) ∈ gALL := gmem 1134 (by decide +kernel) rfl
theorem wd_798 : Cond.methodLink RX8 230 yX8_addCalled ∈ gALL := gmem 1135 (by decide +kernel) rfl
theorem wd_799 : Cond.instanceMethod yX8_addCalled ∈ gALL := gmem 1137 (by decide +kernel) rfl
theorem wd_800 : Cond.selects RX8 yX8_addCalled yX8_addCalled ∈ gALL := gmem 69 (by decide +kernel) rfl
theorem wd_801 : Cond.code yX8_addCalled cX8_addCalled 4 none ∈ gALL := gmem 1138 (by decide +kernel) rfl
theorem wd_802 : Cond.methodLink RX8 233 yX8_behindPart ∈ gALL := gmem 1139 (by decide +kernel) rfl
theorem wd_803 : Cond.instanceMethod yX8_behindPart ∈ gALL := gmem 1141 (by decide +kernel) rfl
theorem wd_804 : Cond.selects RX8 yX8_behindPart yX8_behindPart ∈ gALL := gmem 70 (by decide +kernel) rfl
theorem wd_805 : Cond.code yX8_behindPart cX8_behindPart 5 (some .int) ∈ gALL := gmem 1142 (by decide +kernel) rfl
theorem wd_806 : Cond.methodLink RX8 242 yX8_deepest ∈ gALL := gmem 1143 (by decide +kernel) rfl
theorem wd_807 : Cond.instanceMethod yX8_deepest ∈ gALL := gmem 1145 (by decide +kernel) rfl
theorem wd_808 : Cond.selects RX8 yX8_deepest yX8_deepest ∈ gALL := gmem 71 (by decide +kernel) rfl
theorem wd_809 : Cond.code yX8_deepest cX8_deepest 4 (some .int) ∈ gALL := gmem 1146 (by decide +kernel) rfl
theorem wd_810 : Cond.methodLink RL 88 yX7_depth ∈ gALL := gmem 693 (by decide +kernel) rfl
theorem wd_811 : Cond.instanceMethod yX7_depth ∈ gALL := gmem 694 (by decide +kernel) rfl
theorem wd_812 : Cond.selects RX7 yX7_depth yX7_depth ∈ gALL := gmem 695 (by decide +kernel) rfl
theorem wd_813 : Cond.code yX7_depth cX7_depth 3 (some .int) ∈ gALL := gmem 696 (by decide +kernel) rfl
theorem wd_814 : Cond.methodLink RX7 207 yX2_depthOf ∈ gALL := gmem 697 (by decide +kernel) rfl
theorem wd_815 : Cond.instanceMethod yX2_depthOf ∈ gALL := gmem 698 (by decide +kernel) rfl
theorem wd_816 : Cond.selects RX2 yX2_depthOf yX2_depthOf ∈ gALL := gmem 699 (by decide +kernel) rfl
theorem wd_817 : Cond.code yX2_depthOf cX2_depthOf 5 (some .int) ∈ gALL := gmem 700 (by decide +kernel) rfl
theorem wd_818 : Cond.methodLink RX2 39 yX2_highestOf ∈ gALL := gmem 701 (by decide +kernel) rfl
theorem wd_819 : Cond.instanceMethod yX2_highestOf ∈ gALL := gmem 703 (by decide +kernel) rfl
theorem wd_820 : Cond.selects RX2 yX2_highestOf yX2_highestOf ∈ gALL := gmem 18 (by decide +kernel) rfl
theorem wd_821 : Cond.code yX2_highestOf cX2_highestOf 4 (some .int) ∈ gALL := gmem 704 (by decide +kernel) rfl
theorem wd_822 : Cond.methodLink RX2 43 Lib.Math.max.name ∈ gALL := gmem 705 (by decide +kernel) rfl
theorem wd_823 : Cond.methodLink RL 91 yX8_depth ∈ gALL := gmem 1147 (by decide +kernel) rfl
theorem wd_824 : Cond.instanceMethod yX8_depth ∈ gALL := gmem 1148 (by decide +kernel) rfl
theorem wd_825 : Cond.selects RX8 yX8_depth yX8_depth ∈ gALL := gmem 1149 (by decide +kernel) rfl
theorem wd_826 : Cond.code yX8_depth cX8_depth 3 (some .int) ∈ gALL := gmem 1150 (by decide +kernel) rfl
theorem wd_827 : Cond.methodLink RX8 254 yX8_tellsDepth ∈ gALL := gmem 1151 (by decide +kernel) rfl
theorem wd_828 : Cond.instanceMethod yX8_tellsDepth ∈ gALL := gmem 1153 (by decide +kernel) rfl
theorem wd_829 : Cond.selects RX8 yX8_tellsDepth yX8_tellsDepth ∈ gALL := gmem 72 (by decide +kernel) rfl
theorem wd_830 : Cond.code yX8_tellsDepth cX8_tellsDepth 2 (some .int) ∈ gALL := gmem 1154 (by decide +kernel) rfl
theorem wd_831 : Cond.methodLink RL 92 yX7_reaches ∈ gALL := gmem 706 (by decide +kernel) rfl
theorem wd_832 : Cond.instanceMethod yX7_reaches ∈ gALL := gmem 707 (by decide +kernel) rfl
theorem wd_833 : Cond.selects RX7 yX7_reaches yX7_reaches ∈ gALL := gmem 708 (by decide +kernel) rfl
theorem wd_834 : Cond.code yX7_reaches cX7_reaches 2 (some .int) ∈ gALL := gmem 709 (by decide +kernel) rfl
theorem wd_835 : Cond.methodLink RX7 210 yX2_reachedFrom ∈ gALL := gmem 710 (by decide +kernel) rfl
theorem wd_836 : Cond.methodLink RL 95 yX8_reaches ∈ gALL := gmem 893 (by decide +kernel) rfl
theorem wd_837 : Cond.instanceMethod yX8_reaches ∈ gALL := gmem 894 (by decide +kernel) rfl
theorem wd_838 : Cond.selects RX8 yX8_reaches yX8_reaches ∈ gALL := gmem 895 (by decide +kernel) rfl
theorem wd_839 : Cond.code yX8_reaches cX8_reaches 2 (some .int) ∈ gALL := gmem 896 (by decide +kernel) rfl
theorem wd_840 : Cond.methodLink RL 96 yX7_stop ∈ gALL := gmem 711 (by decide +kernel) rfl
theorem wd_841 : Cond.instanceMethod yX7_stop ∈ gALL := gmem 712 (by decide +kernel) rfl
theorem wd_842 : Cond.selects RX7 yX7_stop yX7_stop ∈ gALL := gmem 713 (by decide +kernel) rfl
theorem wd_843 : Cond.code yX7_stop cX7_stop 3 (some .int) ∈ gALL := gmem 714 (by decide +kernel) rfl
theorem wd_844 : Cond.methodLink RX7 213 yX4_copyFrom ∈ gALL := gmem 715 (by decide +kernel) rfl
theorem wd_845 : Cond.methodLink RL 99 yX8_stop ∈ gALL := gmem 1155 (by decide +kernel) rfl
theorem wd_846 : Cond.instanceMethod yX8_stop ∈ gALL := gmem 1156 (by decide +kernel) rfl
theorem wd_847 : Cond.selects RX8 yX8_stop yX8_stop ∈ gALL := gmem 1157 (by decide +kernel) rfl
theorem wd_848 : Cond.code yX8_stop cX8_stop 2 (some .int) ∈ gALL := gmem 1158 (by decide +kernel) rfl
theorem wd_849 : Cond.methodLink RX8 260 yX8_tellsStop ∈ gALL := gmem 1159 (by decide +kernel) rfl
theorem wd_850 : Cond.instanceMethod yX8_tellsStop ∈ gALL := gmem 1161 (by decide +kernel) rfl
theorem wd_851 : Cond.selects RX8 yX8_tellsStop yX8_tellsStop ∈ gALL := gmem 73 (by decide +kernel) rfl
theorem wd_852 : Cond.code yX8_tellsStop cX8_tellsStop 5 (some .int) ∈ gALL := gmem 1162 (by decide +kernel) rfl
theorem wd_853 : Cond.methodLink RX8 257 yX8_takeBack ∈ gALL := gmem 1163 (by decide +kernel) rfl
theorem wd_854 : Cond.instanceMethod yX8_takeBack ∈ gALL := gmem 1165 (by decide +kernel) rfl
theorem wd_855 : Cond.selects RX8 yX8_takeBack yX8_takeBack ∈ gALL := gmem 74 (by decide +kernel) rfl
theorem wd_856 : Cond.code yX8_takeBack cX8_takeBack 2 none ∈ gALL := gmem 1166 (by decide +kernel) rfl
theorem wd_857 : Cond.methodLink RL 100 yX7_ahead ∈ gALL := gmem 716 (by decide +kernel) rfl
theorem wd_858 : Cond.instanceMethod yX7_ahead ∈ gALL := gmem 717 (by decide +kernel) rfl
theorem wd_859 : Cond.selects RX7 yX7_ahead yX7_ahead ∈ gALL := gmem 718 (by decide +kernel) rfl
theorem wd_860 : Cond.code yX7_ahead cX7_ahead 3 (some .int) ∈ gALL := gmem 719 (by decide +kernel) rfl
theorem wd_861 : Cond.methodLink RL 103 yX8_ahead ∈ gALL := gmem 1167 (by decide +kernel) rfl
theorem wd_862 : Cond.instanceMethod yX8_ahead ∈ gALL := gmem 1168 (by decide +kernel) rfl
theorem wd_863 : Cond.selects RX8 yX8_ahead yX8_ahead ∈ gALL := gmem 1169 (by decide +kernel) rfl
theorem wd_864 : Cond.code yX8_ahead cX8_ahead 2 (some .int) ∈ gALL := gmem 1170 (by decide +kernel) rfl
theorem wd_865 : Cond.methodLink RX8 263 yX8_tellsAhead ∈ gALL := gmem 1171 (by decide +kernel) rfl
theorem wd_866 : Cond.instanceMethod yX8_tellsAhead ∈ gALL := gmem 1173 (by decide +kernel) rfl
theorem wd_867 : Cond.selects RX8 yX8_tellsAhead yX8_tellsAhead ∈ gALL := gmem 75 (by decide +kernel) rfl
theorem wd_868 : Cond.code yX8_tellsAhead cX8_tellsAhead 4 (some .int) ∈ gALL := gmem 1174 (by decide +kernel) rfl
theorem wd_869 : Cond.methodLink RL 106 yX7_put ∈ gALL := gmem 720 (by decide +kernel) rfl
theorem wd_870 : Cond.instanceMethod yX7_put ∈ gALL := gmem 721 (by decide +kernel) rfl
theorem wd_871 : Cond.selects RX7 yX7_put yX7_put ∈ gALL := gmem 722 (by decide +kernel) rfl
theorem wd_872 : Cond.code yX7_put cX7_put 4 (some .int) ∈ gALL := gmem 723 (by decide +kernel) rfl
theorem wd_873 : Cond.methodLink RX7 216 yX5_charactersIn ∈ gALL := gmem 724 (by decide +kernel) rfl
theorem wd_874 : Cond.static yX5_charactersIn ∈ gALL := gmem 725 (by decide +kernel) rfl
theorem wd_875 : Cond.code yX5_charactersIn cX5_charactersIn 7 (some .int) ∈ gALL := gmem 726 (by decide +kernel) rfl
theorem wd_876 : Cond.constantLong RX5 19 (255) ∈ gALL := gmem 727 (by decide +kernel) rfl
theorem wd_877 : Cond.methodLink RX7 220 yX5_append ∈ gALL := gmem 728 (by decide +kernel) rfl
theorem wd_878 : Cond.instanceMethod yX5_append ∈ gALL := gmem 729 (by decide +kernel) rfl
theorem wd_879 : Cond.selects RX5 yX5_append yX5_append ∈ gALL := gmem 730 (by decide +kernel) rfl
theorem wd_880 : Cond.code yX5_append cX5_append 5 none ∈ gALL := gmem 731 (by decide +kernel) rfl
theorem wd_881 : Cond.methodLink RL 110 yX8_put ∈ gALL := gmem 859 (by decide +kernel) rfl
theorem wd_882 : Cond.instanceMethod yX8_put ∈ gALL := gmem 860 (by decide +kernel) rfl
theorem wd_883 : Cond.selects RX8 yX8_put yX8_put ∈ gALL := gmem 861 (by decide +kernel) rfl
theorem wd_884 : Cond.code yX8_put cX8_put 5 (some .int) ∈ gALL := gmem 862 (by decide +kernel) rfl
theorem wd_885 : Cond.constantLong RX8 88 (255) ∈ gALL := gmem 866 (by decide +kernel) rfl
theorem wd_886 : Cond.methodLink RX8 93 yX8_charactersIn ∈ gALL := gmem 863 (by decide +kernel) rfl
theorem wd_887 : Cond.static yX8_charactersIn ∈ gALL := gmem 864 (by decide +kernel) rfl
theorem wd_888 : Cond.code yX8_charactersIn cX8_charactersIn 5 (some .int) ∈ gALL := gmem 865 (by decide +kernel) rfl
theorem wd_889 : Cond.methodLink RX8 90 yX8_isCharacter ∈ gALL := gmem 867 (by decide +kernel) rfl
theorem wd_890 : Cond.static yX8_isCharacter ∈ gALL := gmem 868 (by decide +kernel) rfl
theorem wd_891 : Cond.code yX8_isCharacter cX8_isCharacter 1 (some .boolean) ∈ gALL := gmem 869 (by decide +kernel) rfl
theorem wd_892 : Cond.methodLink RL 111 yX7_wipe ∈ gALL := gmem 732 (by decide +kernel) rfl
theorem wd_893 : Cond.instanceMethod yX7_wipe ∈ gALL := gmem 733 (by decide +kernel) rfl
theorem wd_894 : Cond.selects RX7 yX7_wipe yX7_wipe ∈ gALL := gmem 734 (by decide +kernel) rfl
theorem wd_895 : Cond.code yX7_wipe cX7_wipe 2 (some .int) ∈ gALL := gmem 735 (by decide +kernel) rfl
theorem wd_896 : Cond.methodLink RL 114 yX8_wipe ∈ gALL := gmem 870 (by decide +kernel) rfl
theorem wd_897 : Cond.instanceMethod yX8_wipe ∈ gALL := gmem 871 (by decide +kernel) rfl
theorem wd_898 : Cond.selects RX8 yX8_wipe yX8_wipe ∈ gALL := gmem 872 (by decide +kernel) rfl
theorem wd_899 : Cond.code yX8_wipe cX8_wipe 2 (some .int) ∈ gALL := gmem 873 (by decide +kernel) rfl
theorem wd_900 : Cond.methodLink RL 115 yX7_fault ∈ gALL := gmem 736 (by decide +kernel) rfl
theorem wd_901 : Cond.instanceMethod yX7_fault ∈ gALL := gmem 737 (by decide +kernel) rfl
theorem wd_902 : Cond.selects RX7 yX7_fault yX7_fault ∈ gALL := gmem 738 (by decide +kernel) rfl
theorem wd_903 : Cond.code yX7_fault cX7_fault 1 (some .int) ∈ gALL := gmem 739 (by decide +kernel) rfl
theorem wd_904 : Cond.methodLink RL 118 yX8_fault ∈ gALL := gmem 835 (by decide +kernel) rfl
theorem wd_905 : Cond.instanceMethod yX8_fault ∈ gALL := gmem 836 (by decide +kernel) rfl
theorem wd_906 : Cond.selects RX8 yX8_fault yX8_fault ∈ gALL := gmem 837 (by decide +kernel) rfl
theorem wd_907 : Cond.code yX8_fault cX8_fault 1 (some .int) ∈ gALL := gmem 838 (by decide +kernel) rfl
theorem wd_908 : Cond.methodLink RL 119 yX7_undo ∈ gALL := gmem 740 (by decide +kernel) rfl
theorem wd_909 : Cond.instanceMethod yX7_undo ∈ gALL := gmem 741 (by decide +kernel) rfl
theorem wd_910 : Cond.selects RX7 yX7_undo yX7_undo ∈ gALL := gmem 742 (by decide +kernel) rfl
theorem wd_911 : Cond.code yX7_undo cX7_undo 1 (some .int) ∈ gALL := gmem 743 (by decide +kernel) rfl
theorem wd_912 : Cond.methodLink RX7 224 yX3_takeBack ∈ gALL := gmem 744 (by decide +kernel) rfl
theorem wd_913 : Cond.instanceMethod yX3_takeBack ∈ gALL := gmem 745 (by decide +kernel) rfl
theorem wd_914 : Cond.selects RX3 yX3_takeBack yX3_takeBack ∈ gALL := gmem 746 (by decide +kernel) rfl
theorem wd_915 : Cond.code yX3_takeBack cX3_takeBack 2 none ∈ gALL := gmem 747 (by decide +kernel) rfl
theorem wd_916 : Cond.methodLink RL 122 yX8_undo ∈ gALL := gmem 805 (by decide +kernel) rfl
theorem wd_917 : Cond.instanceMethod yX8_undo ∈ gALL := gmem 806 (by decide +kernel) rfl
theorem wd_918 : Cond.selects RX8 yX8_undo yX8_undo ∈ gALL := gmem 807 (by decide +kernel) rfl
theorem wd_919 : Cond.code yX8_undo cX8_undo 2 (some .int) ∈ gALL := gmem 808 (by decide +kernel) rfl
theorem wd_920 : Cond.methodLink RL 123 yX7_save ∈ gALL := gmem 748 (by decide +kernel) rfl
theorem wd_921 : Cond.instanceMethod yX7_save ∈ gALL := gmem 749 (by decide +kernel) rfl
theorem wd_922 : Cond.selects RX7 yX7_save yX7_save ∈ gALL := gmem 750 (by decide +kernel) rfl
theorem wd_923 : Cond.code yX7_save cX7_save 2 (some .int) ∈ gALL := gmem 751 (by decide +kernel) rfl
theorem wd_924 : Cond.methodLink RL 126 yX8_save ∈ gALL := gmem 809 (by decide +kernel) rfl
theorem wd_925 : Cond.instanceMethod yX8_save ∈ gALL := gmem 810 (by decide +kernel) rfl
theorem wd_926 : Cond.selects RX8 yX8_save yX8_save ∈ gALL := gmem 811 (by decide +kernel) rfl
theorem wd_927 : Cond.code yX8_save cX8_save 3 (some .int) ∈ gALL := gmem 812 (by decide +kernel) rfl
theorem wd_928 : Cond.methodLink RX8 54 yX8_isSlot ∈ gALL := gmem 813 (by decide +kernel) rfl
theorem wd_929 : Cond.static yX8_isSlot ∈ gALL := gmem 814 (by decide +kernel) rfl
theorem wd_930 : Cond.code yX8_isSlot cX8_isSlot 1 (some .boolean) ∈ gALL := gmem 815 (by decide +kernel) rfl
theorem wd_931 : Cond.methodLink RL 127 yX7_restore ∈ gALL := gmem 752 (by decide +kernel) rfl
theorem wd_932 : Cond.instanceMethod yX7_restore ∈ gALL := gmem 753 (by decide +kernel) rfl
theorem wd_933 : Cond.selects RX7 yX7_restore yX7_restore ∈ gALL := gmem 754 (by decide +kernel) rfl
theorem wd_934 : Cond.code yX7_restore cX7_restore 2 (some .int) ∈ gALL := gmem 755 (by decide +kernel) rfl
theorem wd_935 : Cond.methodLink RL 130 yX8_restore ∈ gALL := gmem 819 (by decide +kernel) rfl
theorem wd_936 : Cond.instanceMethod yX8_restore ∈ gALL := gmem 820 (by decide +kernel) rfl
theorem wd_937 : Cond.selects RX8 yX8_restore yX8_restore ∈ gALL := gmem 821 (by decide +kernel) rfl
theorem wd_938 : Cond.code yX8_restore cX8_restore 3 (some .int) ∈ gALL := gmem 822 (by decide +kernel) rfl
end
section
/-! THE ABSTRACT MEMORY of the class (ints by address and place, references by address and place, kinds) and of the reference (rows of ints) -/
abbrev GM : Type := (Nat → Nat → Int32) × (Nat → Nat → Option Nat)
abbrev GK : Type := (Nat → Nat × Nat) × Nat
abbrev GS : Type := Nat → Nat → Int32
abbrev GW : Type := va_G × (Nat → ClassId) × Nat × Nat
def gI (g : GM) (a k : Nat) : Int32 := g.1 a k
def gR (g : GM) (a k : Nat) : Option Nat := g.2 a k
def gsI (g : GM) (a k : Nat) (v : Int32) : GM := (va_up g.1 a (upd (g.1 a) k v), g.2)
def gsR (g : GM) (a k : Nat) (v : Option Nat) : GM := (g.1, va_up g.2 a (va_up (g.2 a) k v))
def gsC (g : GM) (a : Nat) (f : Nat → Int32) : GM := (va_up g.1 a f, g.2)
def ssI (S : GS) (k j : Nat) (v : Int32) : GS := va_up S k (upd (S k) j v)
def gkd (K : GK) (a : Nat) : Nat := (K.1 a).1
def gkn (K : GK) (a : Nat) : Nat := (K.1 a).2
def gok (i : Int32) (n : Nat) : Bool := decide (0 ≤ i.toInt ∧ i.toInt < n)
theorem gok_in {i : Int32} {n : Nat} (h : gok i n = true) : vp_in i n := vp_in_iff.mpr (of_decide_eq_true h)
/-- a guard -/
def gd {α : Type} (c : Bool) (x : Option α) : Option α := match c with
  | true => x
  | false => none
theorem gd_some {α : Type} {c : Bool} {x : Option α} {r : α} (h : gd c x = some r) : c = true ∧ x = some r := by
  cases c with
  | true => exact ⟨rfl, h⟩
  | false => cases h
theorem gbind {α β : Type} {x : Option α} {f : α → Option β} {r : β} (h : x.bind f = some r) : ∃ v, x = some v ∧ f v = some r := Option.bind_eq_some_iff.mp h
theorem gif {α : Type} {c : Prop} [Decidable c] {x y : Option α} {r : α} (h : (if c then x else y) = some r) : (c → x = some r) ∧ (¬ c → y = some r) :=
  ⟨fun hc => by rw [if_pos hc] at h; exact h, fun hc => by rw [if_neg hc] at h; exact h⟩
/-- what lies behind an object of a kind: (how far, kind, length) -/
def gsubs (k n : Nat) : List (Nat × Nat × Nat) := match k with
  | 1 => [(1, 10, 9), (2, 10, 9), (3, 10, 9), (4, 10, 36), (5, 10, 36), (6, 13, 9)]
  | 2 => [(1, 11, n), (2, 10, n), (3, 10, n), (4, 10, n), (5, 10, n)]
  | 3 => [(1, 10, 10), (2, 10, 60)]
  | 4 => [(1, 14, 6)]
  | 5 => [(1, 13, 10), (2, 10, 10), (3, 10, 3), (4, 10, 6), (5, 10, 6), (6, 10, 6), (7, 10, 6), (8, 12, 400), (9, 1, 0)]
  | 6 => [(1, 11, 80)]
  | 7 => [(1, 11, 80), (2, 10, 80), (3, 10, 80), (4, 10, 80), (5, 10, 80), (6, 10, 3)]
  | 8 => [(1, 6, 0), (3, 7, 0), (10, 5, 0), (26, 5, 0), (42, 4, 0), (140, 14, 2), (141, 3, 0)]
  | _ => []
abbrev go1 (g : GM) (a : Nat) : List Value := [.ref (a + 1), .ref (a + 2), .ref (a + 3), .ref (a + 4), .ref (a + 5), .ref (a + 6), .int (gI g a 6)]
abbrev go2 (g : GM) (a : Nat) : List Value := [.int (gI g a 0), .int (gI g a 1), .int (gI g a 2), .int (gI g a 3), .ref (a + 1), .ref (a + 2), .ref (a + 3), .ref (a + 4), .ref (a + 5)]
abbrev go3 (_ : GM) (a : Nat) : List Value := [.ref (a + 1), .ref (a + 2)]
abbrev go4 (g : GM) (a : Nat) : List Value := [.ref (a + 1), .int (gI g a 1)]
abbrev go5 (g : GM) (a : Nat) : List Value := [.ref (a + 1), .ref (a + 2), .ref (a + 3), .ref (a + 4), .ref (a + 5), .ref (a + 6), .ref (a + 7), .ref (a + 8), .ref (a + 9), .int (gI g a 9), .int (gI g a 10), .int (gI g a 11), .int (gI g a 12)]
abbrev go6 (g : GM) (a : Nat) : List Value := [.ref (a + 1), .int (gI g a 1)]
abbrev go7 (g : GM) (a : Nat) : List Value := [.ref (a + 1), .ref (a + 2), .ref (a + 3), .ref (a + 4), .ref (a + 5), .int (gI g a 5), .int (gI g a 6), .int (gI g a 7), .int (gI g a 8), .ref (a + 6), .int (gI g a 10), .int (gI g a 11), .int (gI g a 12)]
abbrev go8 (_ : GM) (a : Nat) : List Value := [.ref (a + 1), .ref (a + 3), .ref (a + 10), .ref (a + 26), .ref (a + 42), .ref (a + 140), .ref (a + 141)]
def gcell (w : GW) (K : GK) (g : GM) (a : Nat) : Option va_E := match gkd K a with
  | 1 => some (.inr (0, go1 g a))
  | 2 => some (.inr (1, go2 g a))
  | 3 => some (.inr (2, go3 g a))
  | 4 => some (.inr (3, go4 g a))
  | 5 => some (.inr (4, go5 g a))
  | 6 => some (.inr (5, go6 g a))
  | 7 => some (.inr (6, go7 g a))
  | 8 => some (.inr (7, go8 g a))
  | 10 => some (.inl (w.2.1 0, gkn K a, .inl (g.1 a)))
  | 11 => some (.inl (w.2.1 1, gkn K a, .inl (g.1 a)))
  | 12 => some (.inl (w.2.1 2, gkn K a, .inl (g.1 a)))
  | 13 => some (.inl (w.2.1 3, gkn K a, .inr (.inr (.inr (.inr (g.2 a))))))
  | 14 => some (.inl (w.2.1 4, gkn K a, .inr (.inr (.inr (.inr (g.2 a))))))
  | _ => none
abbrev gmo (m : Nat) (S : GS) : List Value := [.ref (m + 1), .ref (m + 2), .ref (m + 3), .int (S 0 3), .ref (m + 4), .ref (m + 5), .ref (m + 6), .int (S 0 7), .int (S 0 8), .int (S 0 9), .ref (m + 7), .ref (m + 8), .ref (m + 9), .ref (m + 10)]
abbrev gmlen : Nat → Nat := fun k => match k with
  | 1 => 2081 | 2 => 2081 | 3 => 12486 | 4 => 4162 | 5 => 2 | 6 => 80 | 7 => 360 | 8 => 10 | 9 => 3 | _ => 3
def gmcell (w : GW) (S : GS) (k : Nat) : va_E := match k with
  | 0 => .inr (8, gmo w.2.2.2 S)
  | k => .inl (w.2.1 0, gmlen k, .inl (S k))
abbrev gtys (w : GW) : List (ClassId × FieldType) := [(w.2.1 0, .int), (w.2.1 1, .char), (w.2.1 2, .byte), (w.2.1 3, .object "CallingLooms$CardText"), (w.2.1 4, .object "CallingLooms$Loom")]
/-- the layout: what lies where -/
def LY (w : GW) (K : GK) : Prop := w.2.2.1 ≤ w.2.2.2 ∧ (∀ a, gkd K a ≠ 0 → w.2.2.1 ≤ a ∧ (a < w.2.2.2 ∨ w.2.2.2 + 11 ≤ a)) ∧ ∀ a, ∀ t ∈ gsubs (gkd K a) (gkn K a), K.1 (a + t.1) = t.2
def HR (w : GW) (K : GK) (g : GM) (S : GS) (H : Heap) : Prop :=
  H.size = K.2 ∧ (∀ a e, gcell w K g a = some e → va_at w.1 vwCl (a, e) H) ∧ (∀ k, k < 11 → va_at w.1 vwCl (w.2.2.2 + k, gmcell w S k) H) ∧ LY w K
abbrev KR (w : GW) (s : State) : Prop := va_K w.1 vwCl (gtys w) s
/-- the cells that a method may change -/
abbrev FR (w : GW) : Nat → Prop := fun q => w.2.2.1 ≤ q
theorem one_P {D : va_G} {cl : List vw_C} {H : Heap} {a : Nat} {e : va_E} (h : va_at D cl (a, e) H) : va_P D cl [(a, e)] H := by
  intro k q hk
  have hz : k < 1 := (List.getElem?_eq_some_iff.mp hk).1
  rw [show k = 0 by omega] at hk
  cases hk
  exact h
section WORLD
variable {w : GW} {K : GK} {g : GM} {S : GS} {H : Heap} {a n : Nat}
theorem HR.sub (hH : HR w K g S H) {k : Nat} (h : gkd K a = k) (i : Nat) {t : Nat × Nat × Nat} (ht : (gsubs k (gkn K a))[i]? = some t) : K.1 (a + t.1) = t.2 :=
  hH.2.2.2.2.2 a t (List.mem_of_getElem? (by rw [h]; exact ht))
theorem HR.o1 (hH : HR w K g S H) (h : gkd K a = 1) : va_at w.1 vwCl (a, .inr (0, go1 g a)) H := hH.2.1 a _ (by unfold gcell; rw [h]; rfl)
theorem HR.o2 (hH : HR w K g S H) (h : gkd K a = 2) : va_at w.1 vwCl (a, .inr (1, go2 g a)) H := hH.2.1 a _ (by unfold gcell; rw [h]; rfl)
theorem HR.o3 (hH : HR w K g S H) (h : gkd K a = 3) : va_at w.1 vwCl (a, .inr (2, go3 g a)) H := hH.2.1 a _ (by unfold gcell; rw [h]; rfl)
theorem HR.o4 (hH : HR w K g S H) (h : gkd K a = 4) : va_at w.1 vwCl (a, .inr (3, go4 g a)) H := hH.2.1 a _ (by unfold gcell; rw [h]; rfl)
theorem HR.o5 (hH : HR w K g S H) (h : gkd K a = 5) : va_at w.1 vwCl (a, .inr (4, go5 g a)) H := hH.2.1 a _ (by unfold gcell; rw [h]; rfl)
theorem HR.o6 (hH : HR w K g S H) (h : gkd K a = 6) : va_at w.1 vwCl (a, .inr (5, go6 g a)) H := hH.2.1 a _ (by unfold gcell; rw [h]; rfl)
theorem HR.o7 (hH : HR w K g S H) (h : gkd K a = 7) : va_at w.1 vwCl (a, .inr (6, go7 g a)) H := hH.2.1 a _ (by unfold gcell; rw [h]; rfl)
theorem HR.o8 (hH : HR w K g S H) (h : gkd K a = 8) : va_at w.1 vwCl (a, .inr (7, go8 g a)) H := hH.2.1 a _ (by unfold gcell; rw [h]; rfl)
theorem HR.r10 (hH : HR w K g S H) (h : K.1 a = (10, n)) : va_at w.1 vwCl (a, .inl (w.2.1 0, n, .inl (g.1 a))) H := hH.2.1 a _ (by unfold gcell gkd gkn; rw [h]; rfl)
theorem HR.r11 (hH : HR w K g S H) (h : K.1 a = (11, n)) : va_at w.1 vwCl (a, .inl (w.2.1 1, n, .inl (g.1 a))) H := hH.2.1 a _ (by unfold gcell gkd gkn; rw [h]; rfl)
theorem HR.r12 (hH : HR w K g S H) (h : K.1 a = (12, n)) : va_at w.1 vwCl (a, .inl (w.2.1 2, n, .inl (g.1 a))) H := hH.2.1 a _ (by unfold gcell gkd gkn; rw [h]; rfl)
theorem HR.r13 (hH : HR w K g S H) (h : K.1 a = (13, n)) : va_at w.1 vwCl (a, .inl (w.2.1 3, n, .inr (.inr (.inr (.inr (g.2 a)))))) H := hH.2.1 a _ (by unfold gcell gkd gkn; rw [h]; rfl)
theorem HR.r14 (hH : HR w K g S H) (h : K.1 a = (14, n)) : va_at w.1 vwCl (a, .inl (w.2.1 4, n, .inr (.inr (.inr (.inr (g.2 a)))))) H := hH.2.1 a _ (by unfold gcell gkd gkn; rw [h]; rfl)
theorem HR.ob (hH : HR w K g S H) : va_at w.1 vwCl (w.2.2.2, .inr (8, gmo w.2.2.2 S)) H := hH.2.2.1 0 (by omega)
theorem HR.rw (hH : HR w K g S H) (k : Nat) (h0 : 0 < k) (h : k < 11) : va_at w.1 vwCl (w.2.2.2 + k, .inl (w.2.1 0, gmlen k, .inl (S k))) H := by
  have := hH.2.2.1 k h
  rwa [show gmcell w S k = .inl (w.2.1 0, gmlen k, .inl (S k)) by cases k with | zero => omega | succ k => rfl] at this
/-- one cell of the class's changes -/
theorem HR.upd {g' : GM} {H1 : Heap} {e : va_E} (hH : HR w K g S H) (ha : gkd K a ≠ 0) (hne : ∀ b, b ≠ a → gcell w K g' b = gcell w K g b) (he : gcell w K g' a = some e) (hat : va_at w.1 vwCl (a, e) H1) (hz : H1.size = H.size) (hq : ∀ q, q ≠ a → H1[q]? = H[q]?) : HR w K g' S H1 := by
  obtain ⟨h1, h2, h3, h4⟩ := hH
  refine ⟨hz.trans h1, fun b x hx => ?_, fun k hk => (h3 k hk).kept (hq _ ?_), h4⟩
  · by_cases hb : b = a
    · subst hb
      rw [he] at hx
      cases hx
      exact hat
    · rw [hne b hb] at hx
      exact (h2 b x hx).kept (hq b hb)
  · have := (h4.2.1 a ha).2
    show w.2.2.2 + k ≠ a
    omega
theorem gne_I {g : GM} {k : Nat} {v : Int32} : ∀ b, b ≠ a → gcell w K (gsI g a k v) b = gcell w K g b := by
  intro b hb
  have e : (gsI g a k v).1 b = g.1 b := by simp [gsI, va_up, hb]
  unfold gcell go1 go2 go3 go4 go5 go6 go7 go8 gI
  rw [e]
  rfl
theorem gne_C {g : GM} {f : Nat → Int32} : ∀ b, b ≠ a → gcell w K (gsC g a f) b = gcell w K g b := by
  intro b hb
  have e : (gsC g a f).1 b = g.1 b := by simp [gsC, va_up, hb]
  unfold gcell go1 go2 go3 go4 go5 go6 go7 go8 gI
  rw [e]
  rfl
theorem gne_R {g : GM} {k : Nat} {v : Option Nat} : ∀ b, b ≠ a → gcell w K (gsR g a k v) b = gcell w K g b := by
  intro b hb
  have e : (gsR g a k v).2 b = g.2 b := by simp [gsR, va_up, hb]
  unfold gcell go1 go2 go3 go4 go5 go6 go7 go8 gI
  rw [e]
  rfl
/-- one cell of the reference's changes -/
theorem HR.updM {S' : GS} {H1 : Heap} {k : Nat} (hH : HR w K g S H) (hk : k < 11) (hne : ∀ j, j < 11 → j ≠ k → gmcell w S' j = gmcell w S j) (hat : va_at w.1 vwCl (w.2.2.2 + k, gmcell w S' k) H1) (hz : H1.size = H.size) (hq : ∀ q, q ≠ w.2.2.2 + k → H1[q]? = H[q]?) : HR w K g S' H1 := by
  obtain ⟨h1, h2, h3, h4⟩ := hH
  refine ⟨hz.trans h1, fun b x hx => (h2 b x hx).kept (hq b ?_), fun j hj => ?_, h4⟩
  · have hb : gkd K b ≠ 0 := by
      intro h0
      unfold gcell at hx
      rw [h0] at hx
      cases hx
    have := (h4.2.1 b hb).2
    omega
  · by_cases hjk : j = k
    · subst hjk
      exact hat
    · rw [hne j hj hjk]
      exact (h3 j hj).kept (hq _ (by show w.2.2.2 + j ≠ _; omega))
theorem gmne {j k i : Nat} {v : Int32} (hjk : j ≠ k) : gmcell w (ssI S k i v) j = gmcell w S j := by
  have e : (ssI S k i v) j = S j := by simp [ssI, va_up, hjk]
  cases j with
  | zero =>
    show (Sum.inr (8, gmo w.2.2.2 (ssI S k i v)) : va_E) = Sum.inr (8, gmo w.2.2.2 S)
    unfold gmo
    rw [e]
  | succ j =>
    show (Sum.inl (w.2.1 0, gmlen (j + 1), Sum.inl ((ssI S k i v) (j + 1))) : va_E) = Sum.inl (w.2.1 0, gmlen (j + 1), Sum.inl (S (j + 1)))
    rw [e]
end WORLD
end
section
/-! CONTRACTS over the abstract memory, and the rows that change it -/
def gnests : List Cond := [.methodLinkNest RX0 37 yX7_copyRow "CallingLooms", .methodLinkNest RX0 41 yX7_copyTexts "CallingLooms", .methodLinkNest RX0 45 yX7_inRange "CallingLooms", .methodLinkNest RX4 60 yX7_copyTexts "CallingLooms", .methodLinkNest RX4 64 yX7_copyRow "CallingLooms", .methodLinkNest RX4 42 yX0_init "CallingLooms", .methodLinkNest RX7 9 yX5_init "CallingLooms", .methodLinkNest RX7 18 yX6_init "CallingLooms", .methodLinkNest RX7 46 yX2_init "CallingLooms"]
def KN (w : GW) (s : State) : Prop := KR w s ∧ ∀ x ∈ gnests, va_Nw x s
theorem KN.moved {w : GW} {s U : State} (hW : s.WarmedH U.vm) (h : KN w s) : KN w U := by
  refine ⟨va_K.moved hW.alike h.1, fun x hx => ?_⟩
  have hz := h.2 x hx
  simp only [gnests, List.mem_cons, List.not_mem_nil, or_false] at hx
  rcases hx with rfl | rfl | rfl | rfl | rfl | rfl | rfl | rfl | rfl <;> exact va_Nw.warmM hW hz
theorem KN.calling {w : GW} {U : State} {G : JFrame} {mk : MethodId} {a : Array Value} (h : KN w U) : KN w (U.calling G mk a) := by
  refine ⟨va_K.moved (u := U) (U := U.calling G mk a) (Vm.Alike.refl U.vm) h.1, fun x hx => ?_⟩
  have hz := h.2 x hx
  simp only [gnests, List.mem_cons, List.not_mem_nil, or_false] at hx
  rcases hx with rfl | rfl | rfl | rfl | rfl | rfl | rfl | rfl | rfl <;> exact va_Nw.same (u := U) (U := U.calling G mk a) rfl rfl hz
abbrev PRE (w : GW) (K : GK) (g : GM) (S : GS) (av : List Value) : Array Value → State → Prop := va_Pc av (fun U => HR w K g S U.heap ∧ KN w U)
theorem PRE.blind {w : GW} {K : GK} {g : GM} {S : GS} {av : List Value} : FrameBlind (PRE w K g S av) := fun _ _ _ _ q => ⟨q.1, q.2.1, q.2.2.calling⟩
abbrev QI (w : GW) (K : GK) (g : GM) (S : GS) (r : Int32) : Array Value → State → Outcome → State → Prop := va_Qi (fun (r0 : Int32) (_ : Unit) => r0 = r) (fun _ t => HR w K g S t.heap) (FR w)
abbrev QV (w : GW) (K : GK) (g : GM) (S : GS) : Array Value → State → Outcome → State → Prop := va_Qv (fun (_ : Unit) => True) (fun _ t => HR w K g S t.heap) (FR w)
abbrev QA (w : GW) (K : GK) (g : GM) (S : GS) (r : Nat) : Array Value → State → Outcome → State → Prop := va_Qr (fun (_ : Unit) => True) (fun _ ra t => ra = r ∧ HR w K g S t.heap) (FR w)
section CALLS
variable {p : Program} {l : Launch} {e : Env} {R : Room} {s : State} {m : MethodId} {args : Array Value} {below : List Frame} {meth : Method} {c : Code} {H : Heap} {locs : List Loc} {cells slots : Nat} {Q : State → Prop}
variable {y : MethodName} {bytes cc : ByteArray} {maxL nL n index pc mc ms : Nat} {ret : Option FieldType} {wsc : List Cond} {rm : Room} {Ts : List Cond} {own C : String} {b : Addr} {As rest st : List Value} {ls : Array Slot}
variable {w : GW} {K K' : GK} {g g' : GM} {S S' : GS}
abbrev gRecv (s : State) (H : Heap) (C : String) (b : Addr) : Prop := ∃ cellB : Cell, H[b]? = some cellB ∧ cellB.vm.isStatics = false ∧ s.vm.findClass C = some cellB.cls
theorem g_Vi {r : Int32} (S0 : CallFix p m c cc nL s args Ts own) (hM : Met l y wsc rm (PRE w K g S (.ref b :: As)) (QI w K' g' S' r) mc ms (FR w)) (cw : CallW R s args own C index y bytes maxL ret wsc rm mc ms n) (hrc : gRecv s H C b) (hH : HR w K g S H) (hK : KN w s) (hS : va_S (FR w) s.heap H locs)
    (hls : ls.size = nL) (hn : As.length = n) (hst : st = As.reverse ++ .ref b :: rest) (hW : (rest.map fun v => v.category).sum ≤ 8) (hdg : decode cc pc = .ok (.invokevirtual index, 3)) (hf : cells + mc ≤ R.cells ∧ slots + ms ≤ R.slots)
    (kk : ∀ (H1 : Heap) (locs1 : List Loc), HR w K' g' S' H1 → va_S (FR w) s.heap H1 locs1 → W p l e R s m args below meth c H1 locs1 (cells + mc) (slots + ms) Q (F0 m (pc + 3) ls (.int r :: rest))) : W p l e R s m args below meth c H locs cells slots Q (F0 m pc ls st) := by
  subst hst
  refine va_calli (va_runV (As := As) (rest := rest) S0 hM cw ⟨PRE.blind, hrc, fun U hU hW => ⟨rfl, by rw [hU]; exact hH, hK.moved hW⟩⟩ rfl hn hls rfl (lv_room hW) hdg hf) hS (fun q _ h => h) (fun q h => h) (fun r0 u t H1 locs1 ht hvm hr hB hz hk hS1 => ?_)
  subst hr
  rw [ht] at hB
  exact kk H1 locs1 hB hS1
theorem g_Vv (S0 : CallFix p m c cc nL s args Ts own) (hM : Met l y wsc rm (PRE w K g S (.ref b :: As)) (QV w K' g' S') mc ms (FR w)) (cw : CallW R s args own C index y bytes maxL ret wsc rm mc ms n) (hrc : gRecv s H C b) (hH : HR w K g S H) (hK : KN w s) (hS : va_S (FR w) s.heap H locs)
    (hls : ls.size = nL) (hn : As.length = n) (hst : st = As.reverse ++ .ref b :: rest) (hW : (rest.map fun v => v.category).sum ≤ 8) (hdg : decode cc pc = .ok (.invokevirtual index, 3)) (hf : cells + mc ≤ R.cells ∧ slots + ms ≤ R.slots)
    (kk : ∀ (H1 : Heap) (locs1 : List Loc), HR w K' g' S' H1 → va_S (FR w) s.heap H1 locs1 → W p l e R s m args below meth c H1 locs1 (cells + mc) (slots + ms) Q (F0 m (pc + 3) ls rest)) : W p l e R s m args below meth c H locs cells slots Q (F0 m pc ls st) := by
  subst hst
  refine va_callv (va_runV (As := As) (rest := rest) S0 hM cw ⟨PRE.blind, hrc, fun U hU hW => ⟨rfl, by rw [hU]; exact hH, hK.moved hW⟩⟩ rfl hn hls rfl (lv_room hW) hdg hf) hS (fun q _ h => h) (fun q h => h) (fun u t H1 locs1 ht hvm hr hB hz hk hS1 => ?_)
  rw [ht] at hB
  exact kk H1 locs1 hB hS1
theorem g_Va {r : Nat} (S0 : CallFix p m c cc nL s args Ts own) (hM : Met l y wsc rm (PRE w K g S (.ref b :: As)) (QA w K' g' S' r) mc ms (FR w)) (cw : CallW R s args own C index y bytes maxL ret wsc rm mc ms n) (hrc : gRecv s H C b) (hH : HR w K g S H) (hK : KN w s) (hS : va_S (FR w) s.heap H locs)
    (hls : ls.size = nL) (hn : As.length = n) (hst : st = As.reverse ++ .ref b :: rest) (hW : (rest.map fun v => v.category).sum ≤ 8) (hdg : decode cc pc = .ok (.invokevirtual index, 3)) (hf : cells + mc ≤ R.cells ∧ slots + ms ≤ R.slots)
    (kk : ∀ (H1 : Heap) (locs1 : List Loc), HR w K' g' S' H1 → va_S (FR w) s.heap H1 locs1 → W p l e R s m args below meth c H1 locs1 (cells + mc) (slots + ms) Q (F0 m (pc + 3) ls (.ref r :: rest))) : W p l e R s m args below meth c H locs cells slots Q (F0 m pc ls st) := by
  subst hst
  refine va_callr (va_runV (As := As) (rest := rest) S0 hM cw ⟨PRE.blind, hrc, fun U hU hW => ⟨rfl, by rw [hU]; exact hH, hK.moved hW⟩⟩ rfl hn hls rfl (lv_room hW) hdg hf) hS (fun q _ h => h) (fun q h => h) (fun u ra t H1 locs1 ht hvm hr hB hz hk hS1 => ?_)
  obtain ⟨rfl, hB⟩ := hB
  rw [ht] at hB
  exact kk H1 locs1 hB hS1
theorem g_Si {r : Int32} (S0 : CallFix p m c cc nL s args Ts own) (hM : Met l y wsc rm (PRE w K g S As) (QI w K' g' S' r) mc ms (FR w)) (cw : CallB R s args own index y bytes maxL ret wsc rm mc ms n ∧ (Cond.static y).before args s = true) (hH : HR w K g S H) (hK : KN w s) (hS : va_S (FR w) s.heap H locs)
    (hls : ls.size = nL) (hn : As.length = n) (hst : st = As.reverse ++ rest) (hW : (rest.map fun v => v.category).sum ≤ 8) (hdg : decode cc pc = .ok (.invokestatic index, 3)) (hf : cells + mc ≤ R.cells ∧ slots + ms ≤ R.slots)
    (kk : ∀ (H1 : Heap) (locs1 : List Loc), HR w K' g' S' H1 → va_S (FR w) s.heap H1 locs1 → W p l e R s m args below meth c H1 locs1 (cells + mc) (slots + ms) Q (F0 m (pc + 3) ls (.int r :: rest))) : W p l e R s m args below meth c H locs cells slots Q (F0 m pc ls st) := by
  subst hst
  refine va_calli (va_runS (As := As) (rest := rest) S0 hM cw ⟨PRE.blind, fun U hU hW => ⟨rfl, by rw [hU]; exact hH, hK.moved hW⟩⟩ rfl hn hls rfl (lv_room hW) hdg hf) hS (fun q _ h => h) (fun q h => h) (fun r0 u t H1 locs1 ht hvm hr hB hz hk hS1 => ?_)
  subst hr
  rw [ht] at hB
  exact kk H1 locs1 hB hS1
theorem g_SiN {r : Int32} {host : String} (S0 : CallFix p m c cc nL s args Ts own) (hM : Met l y wsc rm (PRE w K g S As) (QI w K' g' S' r) mc ms (FR w)) (cw : va_CN R s args own index y host bytes maxL ret wsc rm mc ms n ∧ (Cond.static y).before args s = true ∧ True) (hH : HR w K g S H) (hK : KN w s) (hS : va_S (FR w) s.heap H locs)
    (hls : ls.size = nL) (hn : As.length = n) (hst : st = As.reverse ++ rest) (hW : (rest.map fun v => v.category).sum ≤ 8) (hdg : decode cc pc = .ok (.invokestatic index, 3)) (hf : cells + mc ≤ R.cells ∧ slots + ms ≤ R.slots)
    (kk : ∀ (H1 : Heap) (locs1 : List Loc), HR w K' g' S' H1 → va_S (FR w) s.heap H1 locs1 → W p l e R s m args below meth c H1 locs1 (cells + mc) (slots + ms) Q (F0 m (pc + 3) ls (.int r :: rest))) : W p l e R s m args below meth c H locs cells slots Q (F0 m pc ls st) := by
  subst hst
  refine va_calli (va_runSN (As := As) (rest := rest) S0 hM cw ⟨PRE.blind, fun U hU hW => ⟨rfl, by rw [hU]; exact hH, hK.moved hW⟩⟩ rfl hn hls rfl (lv_room hW) hdg hf) hS (fun q _ h => h) (fun q h => h) (fun r0 u t H1 locs1 ht hvm hr hB hz hk hS1 => ?_)
  subst hr
  rw [ht] at hB
  exact kk H1 locs1 hB hS1
theorem g_SvN {host : String} (S0 : CallFix p m c cc nL s args Ts own) (hM : Met l y wsc rm (PRE w K g S As) (QV w K' g' S') mc ms (FR w)) (cw : va_CN R s args own index y host bytes maxL ret wsc rm mc ms n ∧ (Cond.static y).before args s = true ∧ True) (hH : HR w K g S H) (hK : KN w s) (hS : va_S (FR w) s.heap H locs)
    (hls : ls.size = nL) (hn : As.length = n) (hst : st = As.reverse ++ rest) (hW : (rest.map fun v => v.category).sum ≤ 8) (hdg : decode cc pc = .ok (.invokestatic index, 3)) (hf : cells + mc ≤ R.cells ∧ slots + ms ≤ R.slots)
    (kk : ∀ (H1 : Heap) (locs1 : List Loc), HR w K' g' S' H1 → va_S (FR w) s.heap H1 locs1 → W p l e R s m args below meth c H1 locs1 (cells + mc) (slots + ms) Q (F0 m (pc + 3) ls rest)) : W p l e R s m args below meth c H locs cells slots Q (F0 m pc ls st) := by
  subst hst
  refine va_callv (va_runSN (As := As) (rest := rest) S0 hM cw ⟨PRE.blind, fun U hU hW => ⟨rfl, by rw [hU]; exact hH, hK.moved hW⟩⟩ rfl hn hls rfl (lv_room hW) hdg hf) hS (fun q _ h => h) (fun q h => h) (fun u t H1 locs1 ht hvm hr hB hz hk hS1 => ?_)
  rw [ht] at hB
  exact kk H1 locs1 hB hS1
end CALLS
theorem gRecv.of {w : GW} {s : State} {H : Heap} {a ci : Nat} {q : vw_C} {fs : List Value} (hK : KN w s) (hc : vwCl[ci]? = some q) (h : va_at w.1 vwCl (a, .inr (ci, fs)) H) : gRecv s H q.1 a := va_recv hK.1 (one_P h) hc (q0 := 0) rfl
section ROWS
variable {p : Program} {l : Launch} {e : Env} {R : Room} {s : State} {m : MethodId} {args : Array Value} {below : List Frame} {meth : Method} {c : Code} {H : Heap} {locs : List Loc} {cells slots : Nat} {Q : State → Prop}
variable {cc : ByteArray} {pc : Nat} {ls : Array Slot} {rest : List Value} {a n : Nat} {w : GW} {K : GK} {g : GM} {S : GS}
/-- a field that isn't final, of an object of class ci -/
theorem g_put (hexec : p.tables.exec = Jvm.exec) (hb : c.code = cc) {own C : String} {T : u_T} {N ci index : Nat} {Ts : List Cond} (hts : ∀ w ∈ Ts, w.before args s = true) (hin : ∀ w ∈ u_ws C T N, w ∈ Ts) (ty0 : Nat → FieldType) (hty : ∀ k, k < N → parseFieldDescriptor (T k).2.2.1 = some (ty0 k)) (hnm : ∀ a, a < N → ∀ b, b < N → a ≠ b → (T a).2.1 ≠ (T b).2.1) (hown : s.vm.findClass own = some m.cls) (hK : KN w s) {fs : List Value} (hat : va_at w.1 vwCl (a, .inr (ci, fs)) H) (hc : vwCl[ci]? = some (C, T, N)) (k : Nat) (hk : k < N) (hlink : (Cond.fieldLink own index (T k).1 (T k).2.1 (T k).2.2.1).before args s = true) (hfin : (T k).2.2.2 = false) {ty : FieldType} {v : Value} (hd : parseFieldDescriptor (T k).2.2.1 = some ty) (hn : narrow ty v = v) (hfit : fits ty v = true) (hl : k < fs.length)
    (hS0 : va_S (FR w) s.heap H locs) (ha : w.2.2.1 ≤ a)
    (hdg : decode cc pc = .ok (.putfield index, 3)) (kk : ∀ (H1 : Heap) (locs1 : List Loc), va_at w.1 vwCl (a, .inr (ci, fs.set k v)) H1 → H1.size = H.size → (∀ q, q ≠ a → H1[q]? = H[q]?) → va_S (FR w) s.heap H1 locs1 → W p l e R s m args below meth c H1 locs1 cells slots Q (F0 m (pc + 3) ls rest)) : W p l e R s m args below meth c H locs cells slots Q (F0 m pc ls (v :: .ref a :: rest)) := by
  have hap := va_apart (own := own) hts hin ty0 hty hnm hK.1 hc
  obtain ⟨r, h1, cell, q1, q2, q3, q4⟩ := hat
  have hr : r = (C, T, N) := Option.some.inj (h1.symm.trans hc)
  subst hr
  obtain ⟨hSl, hfc, kC, hkC, hkind⟩ := hK.1.1 ci _ hc
  obtain ⟨cf, kf, fi, f, hi, hsl⟩ := hSl k hk
  have hlay := hts _ (hin _ (u_in_lay hk))
  unfold u_lay at hlay
  rw [if_neg (by rw [hfin]; decide)] at hlay
  have hst := (u_facts hfc hkC (u_lays hts hin hk) hi).1
  have h6 := u_store hfc hkC hkind hlay hi hd hn hfit
  refine W.putK hexec hb (f := f) ⟨hown, hlink, ⟨_, _, _, hi⟩, hst⟩ (by rw [q2]; exact h6) q1 q3 (by rw [hsl]; exact k2_hasslot (q4 k hk)) rfl rfl hdg fun H' e1 e2 e3 => ?_
  rw [hsl] at e1 ⊢
  exact kk H' _ ⟨_, hc, t_OB.to (V := updV (vp_V fs) k v) ⟨_, e1, q2, q3, t_set q4 hap hk v⟩ (fun j _ => vp_updV_set hl v j)⟩ e2 e3 (hS0.put e2 e3 ha)
theorem HR.lo (hH : HR w K g S H) (h : gkd K a ≠ 0) : w.2.2.1 ≤ a := (hH.2.2.2.2.1 a h).1
theorem HR.loM (hH : HR w K g S H) {k : Nat} : w.2.2.1 ≤ w.2.2.2 + k := Nat.le_trans hH.2.2.2.1 (Nat.le_add_right _ _)
/-- an int field of an object of the class's -/
theorem g_putI (hexec : p.tables.exec = Jvm.exec) (hb : c.code = cc) {own C : String} {T : u_T} {N ci kc index : Nat} {Ts : List Cond} (hts : ∀ w ∈ Ts, w.before args s = true) (hin : ∀ w ∈ u_ws C T N, w ∈ Ts) (ty0 : Nat → FieldType) (hty : ∀ k, k < N → parseFieldDescriptor (T k).2.2.1 = some (ty0 k)) (hnm : ∀ a, a < N → ∀ b, b < N → a ≠ b → (T a).2.1 ≠ (T b).2.1) (hown : s.vm.findClass own = some m.cls) (hK : KN w s) (hH : HR w K g S H) (hS0 : va_S (FR w) s.heap H locs) {fs : List Value} (hkc : gkd K a = kc) (hk0 : kc ≠ 0) {v : Int32} (k : Nat) (he : gcell w K g a = some (.inr (ci, fs))) (he' : gcell w K (gsI g a k v) a = some (.inr (ci, fs.set k (.int v)))) (hc : vwCl[ci]? = some (C, T, N)) (hk : k < N) (hlink : (Cond.fieldLink own index (T k).1 (T k).2.1 (T k).2.2.1).before args s = true) (hfin : (T k).2.2.2 = false) (hd : parseFieldDescriptor (T k).2.2.1 = some .int) (hl : k < fs.length)
    (hdg : decode cc pc = .ok (.putfield index, 3)) (kk : ∀ (H1 : Heap) (locs1 : List Loc), HR w K (gsI g a k v) S H1 → va_S (FR w) s.heap H1 locs1 → W p l e R s m args below meth c H1 locs1 cells slots Q (F0 m (pc + 3) ls rest)) : W p l e R s m args below meth c H locs cells slots Q (F0 m pc ls (.int v :: .ref a :: rest)) := by
  have h0 : gkd K a ≠ 0 := by rw [hkc]; exact hk0
  exact g_put hexec hb hts hin ty0 hty hnm hown hK (hH.2.1 a _ he) hc k hk hlink hfin hd rfl rfl hl hS0 (hH.lo h0) hdg (fun H1 locs1 h1 h2 h3 h4 => kk H1 locs1 (hH.upd h0 gne_I he' h1 h2 h3) h4)
theorem g_get (hexec : p.tables.exec = Jvm.exec) (hb : c.code = cc) {own C : String} {T : u_T} {N ci index : Nat} {Ts : List Cond} (hts : ∀ w ∈ Ts, w.before args s = true) (hin : ∀ w ∈ u_ws C T N, w ∈ Ts) (hown : s.vm.findClass own = some m.cls) (hK : KN w s) {fs : List Value} (hat : va_at w.1 vwCl (a, .inr (ci, fs)) H) (hc : vwCl[ci]? = some (C, T, N)) (k : Nat) (hk : k < N) (hlink : (Cond.fieldLink own index (T k).1 (T k).2.1 (T k).2.2.1).before args s = true) {v : Value} (hv : fs[k]? = some v) (hdg : decode cc pc = .ok (.getfield index, 3))
    (kk : W p l e R s m args below meth c H locs cells slots Q (F0 m (pc + 3) ls (v :: rest))) : W p l e R s m args below meth c H locs cells slots Q (F0 m pc ls (.ref a :: rest)) :=
  va_get hexec hb hts hin hown hK.1 (one_P hat) 0 rfl hc k hk hlink (fun _ h => h) hv hdg kk
theorem g_iald (hexec : p.tables.exec = Jvm.exec) (hb : c.code = cc) (hK : KN w s) (hH : HR w K g S H) (hk : K.1 a = (10, n)) {i : Int32} (hin : gok i n = true) (hdg : decode cc pc = .ok (.iaload, 1))
    (kk : W p l e R s m args below meth c H locs cells slots Q (F0 m (pc + 1) ls (.int (gI g a i.toNatClampNeg) :: rest))) : W p l e R s m args below meth c H locs cells slots Q (F0 m pc ls (.int i :: .ref a :: rest)) :=
  va_iald hexec hb hK.1 (one_P (hH.r10 hk)) 0 0 rfl rfl (gok_in hin) hdg kk
theorem g_cald (hexec : p.tables.exec = Jvm.exec) (hb : c.code = cc) (hK : KN w s) (hH : HR w K g S H) (hk : K.1 a = (11, n)) {i : Int32} (hin : gok i n = true) (hdg : decode cc pc = .ok (.caload, 1))
    (kk : W p l e R s m args below meth c H locs cells slots Q (F0 m (pc + 1) ls (.int (gI g a i.toNatClampNeg) :: rest))) : W p l e R s m args below meth c H locs cells slots Q (F0 m pc ls (.int i :: .ref a :: rest)) :=
  va_cald hexec hb hK.1 (one_P (hH.r11 hk)) 0 1 rfl rfl (gok_in hin) hdg kk
theorem g_bald (hexec : p.tables.exec = Jvm.exec) (hb : c.code = cc) (hK : KN w s) (hH : HR w K g S H) (hk : K.1 a = (12, n)) {i : Int32} (hin : gok i n = true) (hdg : decode cc pc = .ok (.baload, 1))
    (kk : W p l e R s m args below meth c H locs cells slots Q (F0 m (pc + 1) ls (.int (gI g a i.toNatClampNeg) :: rest))) : W p l e R s m args below meth c H locs cells slots Q (F0 m pc ls (.int i :: .ref a :: rest)) :=
  va_bald hexec hb hK.1 (one_P (hH.r12 hk)) 0 2 rfl rfl (gok_in hin) hdg kk
theorem g_tald (hexec : p.tables.exec = Jvm.exec) (hb : c.code = cc) (hK : KN w s) (hH : HR w K g S H) (hk : K.1 a = (13, n)) {i : Int32} (hin : gok i n = true) (hdg : decode cc pc = .ok (.aaload, 1))
    (kk : W p l e R s m args below meth c H locs cells slots Q (F0 m (pc + 1) ls (va_rf (gR g a i.toNatClampNeg) :: rest))) : W p l e R s m args below meth c H locs cells slots Q (F0 m pc ls (.int i :: .ref a :: rest)) :=
  va_aldq hexec hb hK.1 (one_P (hH.r13 hk)) 0 3 rfl rfl (gok_in hin) hdg kk
theorem g_lald (hexec : p.tables.exec = Jvm.exec) (hb : c.code = cc) (hK : KN w s) (hH : HR w K g S H) (hk : K.1 a = (14, n)) {i : Int32} (hin : gok i n = true) (hdg : decode cc pc = .ok (.aaload, 1))
    (kk : W p l e R s m args below meth c H locs cells slots Q (F0 m (pc + 1) ls (va_rf (gR g a i.toNatClampNeg) :: rest))) : W p l e R s m args below meth c H locs cells slots Q (F0 m pc ls (.int i :: .ref a :: rest)) :=
  va_aldq hexec hb hK.1 (one_P (hH.r14 hk)) 0 4 rfl rfl (gok_in hin) hdg kk
theorem g_alen {kc : Nat} (hexec : p.tables.exec = Jvm.exec) (hb : c.code = cc) (hK : KN w s) (hH : HR w K g S H) (hk : K.1 a = (kc, n)) (h3 : kc = 10 ∨ kc = 13) (hdg : decode cc pc = .ok (.arraylength, 1))
    (kk : W p l e R s m args below meth c H locs cells slots Q (F0 m (pc + 1) ls (.int (nI n) :: rest))) : W p l e R s m args below meth c H locs cells slots Q (F0 m pc ls (.ref a :: rest)) := by
  rcases h3 with rfl | rfl
  · exact va_alen hexec hb hK.1 (one_P (hH.r10 hk)) 0 0 rfl rfl rfl hdg kk
  · exact va_alen hexec hb hK.1 (one_P (hH.r13 hk)) 0 3 rfl rfl rfl hdg kk
theorem cell_upd {cA : ClassId} {n k : Nat} {f : Nat → Int32} {x : Int32} : (vp_cell cA (n, .inl f)).setSlot k (.int x) = vp_cell cA (n, .inl (upd f k x)) := by
  rw [vp_cell_i, vp_cell_i, arrV_store]
  congr 1
  funext q
  by_cases hq : q = k
  · subst hq; simp [updV, upd]
  · simp [updV, upd, hq]
theorem cell_updR {cA : ClassId} {n k : Nat} {f : Nat → Option Nat} {x : Option Nat} : (vp_cell cA (n, .inr (.inr (.inr (.inr f))))).setSlot k (va_rf x) = vp_cell cA (n, .inr (.inr (.inr (.inr (va_up f k x))))) := by
  rw [vp_cell_q, vp_cell_q, arrV_store]
  congr 1
  funext q
  by_cases hq : q = k
  · subst hq; simp [updV, va_up]
  · simp [updV, va_up, hq]
theorem gup_I {g : GM} {k : Nat} {v : Int32} : (gsI g a k v).1 a = upd (g.1 a) k v := by simp [gsI, va_up]
theorem gup_R {g : GM} {k : Nat} {v : Option Nat} : (gsR g a k v).2 a = va_up (g.2 a) k v := by simp [gsR, va_up]
theorem gcell10 (h : K.1 a = (10, n)) : gcell w K g a = some (.inl (w.2.1 0, n, .inl (g.1 a))) := by unfold gcell gkd gkn; rw [h]; rfl
theorem gcell11 (h : K.1 a = (11, n)) : gcell w K g a = some (.inl (w.2.1 1, n, .inl (g.1 a))) := by unfold gcell gkd gkn; rw [h]; rfl
theorem gcell12 (h : K.1 a = (12, n)) : gcell w K g a = some (.inl (w.2.1 2, n, .inl (g.1 a))) := by unfold gcell gkd gkn; rw [h]; rfl
theorem gcell13 (h : K.1 a = (13, n)) : gcell w K g a = some (.inl (w.2.1 3, n, .inr (.inr (.inr (.inr (g.2 a)))))) := by unfold gcell gkd gkn; rw [h]; rfl
theorem gcell14 (h : K.1 a = (14, n)) : gcell w K g a = some (.inl (w.2.1 4, n, .inr (.inr (.inr (.inr (g.2 a)))))) := by unfold gcell gkd gkn; rw [h]; rfl
theorem gkd_ne {k : Nat} (h : K.1 a = (k, n)) (h0 : k ≠ 0) : gkd K a ≠ 0 := by unfold gkd; rw [h]; exact h0
theorem gsz {cA : ClassId} {i : Int32} {f : Nat → Int32} (h : gok i n = true) : ¬ (i < 0 ∨ (vp_cell cA (n, .inl f)).slots.size ≤ i.toNatClampNeg) := by
  show ¬ (i < 0 ∨ (arrV _ _ _).slots.size ≤ _)
  rw [arrV_size]
  exact gok_in h
theorem gszR {cA : ClassId} {i : Int32} {f : Nat → Option Nat} (h : gok i n = true) : ¬ (i < 0 ∨ (vp_cell cA (n, .inr (.inr (.inr (.inr f))))).slots.size ≤ i.toNatClampNeg) := by
  show ¬ (i < 0 ∨ (arrV _ _ _).slots.size ≤ _)
  rw [arrV_size]
  exact gok_in h
theorem g_iast (hexec : p.tables.exec = Jvm.exec) (hb : c.code = cc) (hK : KN w s) (hH : HR w K g S H) (hS : va_S (FR w) s.heap H locs) (hk : K.1 a = (10, n)) {i x : Int32} (hin : gok i n = true) (hdg : decode cc pc = .ok (.iastore, 1))
    (kk : ∀ (H1 : Heap) (locs1 : List Loc), HR w K (gsI g a i.toNatClampNeg x) S H1 → va_S (FR w) s.heap H1 locs1 → W p l e R s m args below meth c H1 locs1 cells slots Q (F0 m (pc + 1) ls rest)) : W p l e R s m args below meth c H locs cells slots Q (F0 m pc ls (.int x :: .int i :: .ref a :: rest)) := by
  have h0 : gkd K a ≠ 0 := gkd_ne hk (by decide)
  refine W.iast hexec hb (hH.r10 hk) ((hK.1.2 0 _ rfl).1 n (fun j => .int (g.1 a j))) (fun q => by cases q) (gsz hin) rfl rfl hdg fun H1 e z oq => kk H1 _ ?_ (hS.put z oq (hH.lo h0))
  refine hH.upd h0 gne_I (gcell10 hk) ?_ z oq
  rw [cell_upd] at e
  rw [gup_I]
  exact e
theorem g_bast (hexec : p.tables.exec = Jvm.exec) (hb : c.code = cc) (hK : KN w s) (hH : HR w K g S H) (hS : va_S (FR w) s.heap H locs) (hk : K.1 a = (12, n)) {i x : Int32} (hin : gok i n = true) (hdg : decode cc pc = .ok (.bastore, 1))
    (kk : ∀ (H1 : Heap) (locs1 : List Loc), HR w K (gsI g a i.toNatClampNeg x.toInt8.toInt32) S H1 → va_S (FR w) s.heap H1 locs1 → W p l e R s m args below meth c H1 locs1 cells slots Q (F0 m (pc + 1) ls rest)) : W p l e R s m args below meth c H locs cells slots Q (F0 m pc ls (.int x :: .int i :: .ref a :: rest)) := by
  have h0 : gkd K a ≠ 0 := gkd_ne hk (by decide)
  refine W.bast hexec hb (hH.r12 hk) ((hK.1.2 2 _ rfl).1 n (fun j => .int (g.1 a j))) (fun q => by cases q) (gsz hin) rfl rfl hdg fun H1 e z oq => kk H1 _ ?_ (hS.put z oq (hH.lo h0))
  refine hH.upd h0 gne_I (gcell12 hk) ?_ z oq
  have e : H1[a]? = some ((vp_cell (w.2.1 2) (n, .inl (g.1 a))).setSlot i.toNatClampNeg (.int x.toInt8.toInt32)) := e
  rw [cell_upd] at e
  rw [gup_I]
  exact e
theorem g_cast (hexec : p.tables.exec = Jvm.exec) (hb : c.code = cc) (hK : KN w s) (hH : HR w K g S H) (hS : va_S (FR w) s.heap H locs) (hk : K.1 a = (11, n)) {i x : Int32} (hin : gok i n = true) (hdg : decode cc pc = .ok (.castore, 1))
    (kk : ∀ (H1 : Heap) (locs1 : List Loc), HR w K (gsI g a i.toNatClampNeg (vp_nar .char x)) S H1 → va_S (FR w) s.heap H1 locs1 → W p l e R s m args below meth c H1 locs1 cells slots Q (F0 m (pc + 1) ls rest)) : W p l e R s m args below meth c H locs cells slots Q (F0 m pc ls (.int x :: .int i :: .ref a :: rest)) := by
  have h0 : gkd K a ≠ 0 := gkd_ne hk (by decide)
  refine W.cast hexec hb (hH.r11 hk) ((hK.1.2 1 _ rfl).1 n (fun j => .int (g.1 a j))) (fun q => by cases q) (gsz hin) rfl rfl hdg fun H1 e z oq => kk H1 _ ?_ (hS.put z oq (hH.lo h0))
  refine hH.upd h0 gne_I (gcell11 hk) ?_ z oq
  have e : H1[a]? = some ((vp_cell (w.2.1 1) (n, .inl (g.1 a))).setSlot i.toNatClampNeg (.int (vp_nar .char x))) := e
  rw [cell_upd] at e
  rw [gup_I]
  exact e
end ROWS
section ROWS2
variable {p : Program} {l : Launch} {e : Env} {R : Room} {s : State} {m : MethodId} {args : Array Value} {below : List Frame} {meth : Method} {c : Code} {H : Heap} {locs : List Loc} {cells slots : Nat} {Q : State → Prop}
variable {cc : ByteArray} {pc : Nat} {ls : Array Slot} {rest : List Value} {a n : Nat} {w : GW} {K : GK} {g : GM} {S : GS}
/-- a reference into a row: the value is an object of class r, which the row is made for -/
theorem g_astq (hexec : p.tables.exec = Jvm.exec) (hb : c.code = cc) (hK : KN w s) (hH : HR w K g S H) (hS : va_S (FR w) s.heap H locs) {kr t0 ci v : Nat} {r : vw_C} {vs : List Value} (hk : K.1 a = (kr, n)) (hcell : ∀ g : GM, gcell w K g a = some (.inl (w.2.1 t0, n, .inr (.inr (.inr (.inr (g.2 a))))))) (h0 : kr ≠ 0) (ht : (gtys w)[t0]? = some (w.2.1 t0, .object r.1)) (hv : va_at w.1 vwCl (v, .inr (ci, vs)) H) (hc : vwCl[ci]? = some r) {i : Int32} (hin : gok i n = true) (hdg : decode cc pc = .ok (.aastore, 1))
    (kk : ∀ (H1 : Heap) (locs1 : List Loc), HR w K (gsR g a i.toNatClampNeg (some v)) S H1 → va_S (FR w) s.heap H1 locs1 → W p l e R s m args below meth c H1 locs1 cells slots Q (F0 m (pc + 1) ls rest)) : W p l e R s m args below meth c H locs cells slots Q (F0 m pc ls (.ref v :: .int i :: .ref a :: rest)) := by
  have hh : gkd K a ≠ 0 := gkd_ne hk h0
  have hlt : i.toNatClampNeg < n := Nat.not_le.mp fun q => gok_in hin (Or.inr q)
  have h00 : ¬ i < 0 := fun q => gok_in hin (Or.inl q)
  obtain ⟨r', hr', cellV, g1, g2, g3, -⟩ := hv
  have hcls := (hK.1.1 ci r hc).2
  obtain ⟨kA, comp, k1, k2, k3, -⟩ := (hK.1.2 t0 _ ht).2
  have hcomp : comp = w.1.1 ci := Option.some.inj (k3.symm.trans hcls.1)
  subst hcomp
  obtain ⟨kC, hkC, -⟩ := hcls.2
  have hat : va_at w.1 vwCl (a, .inl (w.2.1 t0, n, .inr (.inr (.inr (.inr (g.2 a)))))) H := hH.2.1 a _ (hcell g)
  refine W.aast hexec hb hat (fun q h => by cases h) (fun h => by cases h) k1 k2 rfl hkC ⟨h00, by show _ < (arrV _ _ _).slots.size; rw [arrV_size]; exact hlt⟩ g1 (fun q h => by rw [g3] at h; cases h) (by rw [g2]; exact hkC) (by rw [g2]; exact va_assign hcls) rfl rfl hdg fun H1 e z oq => kk H1 _ ?_ (hS.put z oq (hH.lo hh))
  refine hH.upd hh gne_R (hcell _) ?_ z oq
  have e : H1[a]? = some ((vp_cell (w.2.1 t0) (n, .inr (.inr (.inr (.inr (g.2 a)))))).setSlot i.toNatClampNeg (va_rf (some v))) := e
  rw [cell_updR] at e
  rw [gup_R]
  exact e
theorem g_astqN (hexec : p.tables.exec = Jvm.exec) (hb : c.code = cc) (hK : KN w s) (hH : HR w K g S H) (hS : va_S (FR w) s.heap H locs) {kr t0 : Nat} {E : String} (hk : K.1 a = (kr, n)) (hcell : ∀ g : GM, gcell w K g a = some (.inl (w.2.1 t0, n, .inr (.inr (.inr (.inr (g.2 a))))))) (h0 : kr ≠ 0) (ht : (gtys w)[t0]? = some (w.2.1 t0, .object E)) {i : Int32} (hin : gok i n = true) (hdg : decode cc pc = .ok (.aastore, 1))
    (kk : ∀ (H1 : Heap) (locs1 : List Loc), HR w K (gsR g a i.toNatClampNeg none) S H1 → va_S (FR w) s.heap H1 locs1 → W p l e R s m args below meth c H1 locs1 cells slots Q (F0 m (pc + 1) ls rest)) : W p l e R s m args below meth c H locs cells slots Q (F0 m pc ls (.null :: .int i :: .ref a :: rest)) := by
  have hh : gkd K a ≠ 0 := gkd_ne hk h0
  have hat : va_at w.1 vwCl (a, .inl (w.2.1 t0, n, .inr (.inr (.inr (.inr (g.2 a)))))) H := hH.2.1 a _ (hcell g)
  refine va_WaastN (C := E) hexec hb hat ((hK.1.2 t0 _ ht).1 n (fun j => va_rf (g.2 a j))) (fun h => by cases h) (gszR hin) rfl rfl hdg fun H1 e z oq => kk H1 _ ?_ (hS.put z oq (hH.lo hh))
  refine hH.upd hh gne_R (hcell _) ?_ z oq
  have e : H1[a]? = some ((vp_cell (w.2.1 t0) (n, .inr (.inr (.inr (.inr (g.2 a)))))).setSlot i.toNatClampNeg (va_rf none)) := e
  rw [cell_updR] at e
  rw [gup_R]
  exact e
/-- a CardText, or null, into a row of CardTexts; a Loom into a row of Looms -/
theorem g_tast (hexec : p.tables.exec = Jvm.exec) (hb : c.code = cc) (hK : KN w s) (hH : HR w K g S H) (hS : va_S (FR w) s.heap H locs) {v : Nat} (hk : K.1 a = (13, n)) (hv : gkd K v = 2) {i : Int32} (hin : gok i n = true) (hdg : decode cc pc = .ok (.aastore, 1))
    (kk : ∀ (H1 : Heap) (locs1 : List Loc), HR w K (gsR g a i.toNatClampNeg (some v)) S H1 → va_S (FR w) s.heap H1 locs1 → W p l e R s m args below meth c H1 locs1 cells slots Q (F0 m (pc + 1) ls rest)) : W p l e R s m args below meth c H locs cells slots Q (F0 m pc ls (.ref v :: .int i :: .ref a :: rest)) :=
  g_astq hexec hb hK hH hS (t0 := 3) (ci := 1) hk (fun _ => gcell13 hk) (by decide) rfl (hH.o2 hv) rfl hin hdg kk
theorem g_tastN (hexec : p.tables.exec = Jvm.exec) (hb : c.code = cc) (hK : KN w s) (hH : HR w K g S H) (hS : va_S (FR w) s.heap H locs) (hk : K.1 a = (13, n)) {i : Int32} (hin : gok i n = true) (hdg : decode cc pc = .ok (.aastore, 1))
    (kk : ∀ (H1 : Heap) (locs1 : List Loc), HR w K (gsR g a i.toNatClampNeg none) S H1 → va_S (FR w) s.heap H1 locs1 → W p l e R s m args below meth c H1 locs1 cells slots Q (F0 m (pc + 1) ls rest)) : W p l e R s m args below meth c H locs cells slots Q (F0 m pc ls (.null :: .int i :: .ref a :: rest)) :=
  g_astqN hexec hb hK hH hS (t0 := 3) hk (fun _ => gcell13 hk) (by decide) rfl hin hdg kk
theorem g_last (hexec : p.tables.exec = Jvm.exec) (hb : c.code = cc) (hK : KN w s) (hH : HR w K g S H) (hS : va_S (FR w) s.heap H locs) {v : Nat} (hk : K.1 a = (14, n)) (hv : gkd K v = 5) {i : Int32} (hin : gok i n = true) (hdg : decode cc pc = .ok (.aastore, 1))
    (kk : ∀ (H1 : Heap) (locs1 : List Loc), HR w K (gsR g a i.toNatClampNeg (some v)) S H1 → va_S (FR w) s.heap H1 locs1 → W p l e R s m args below meth c H1 locs1 cells slots Q (F0 m (pc + 1) ls rest)) : W p l e R s m args below meth c H locs cells slots Q (F0 m pc ls (.ref v :: .int i :: .ref a :: rest)) :=
  g_astq hexec hb hK hH hS (t0 := 4) (ci := 4) hk (fun _ => gcell14 hk) (by decide) rfl (hH.o5 hv) rfl hin hdg kk
theorem g_lastN (hexec : p.tables.exec = Jvm.exec) (hb : c.code = cc) (hK : KN w s) (hH : HR w K g S H) (hS : va_S (FR w) s.heap H locs) (hk : K.1 a = (14, n)) {i : Int32} (hin : gok i n = true) (hdg : decode cc pc = .ok (.aastore, 1))
    (kk : ∀ (H1 : Heap) (locs1 : List Loc), HR w K (gsR g a i.toNatClampNeg none) S H1 → va_S (FR w) s.heap H1 locs1 → W p l e R s m args below meth c H1 locs1 cells slots Q (F0 m (pc + 1) ls rest)) : W p l e R s m args below meth c H locs cells slots Q (F0 m pc ls (.null :: .int i :: .ref a :: rest)) :=
  g_astqN hexec hb hK hH hS (t0 := 4) hk (fun _ => gcell14 hk) (by decide) rfl hin hdg kk
/-- the reference's rows -/
theorem m_get (hexec : p.tables.exec = Jvm.exec) (hb : c.code = cc) {own : String} {index : Nat} {Ts : List Cond} (hts : ∀ w ∈ Ts, w.before args s = true) (hin : ∀ w ∈ wsX80, w ∈ Ts) (hown : s.vm.findClass own = some m.cls) (hK : KN w s) (hH : HR w K g S H) (k : Nat) (hk : k < 14) (hlink : (Cond.fieldLink own index (TX8 k).1 (TX8 k).2.1 (TX8 k).2.2.1).before args s = true) {v : Value} (hv : (gmo w.2.2.2 S)[k]? = some v) (hdg : decode cc pc = .ok (.getfield index, 3))
    (kk : W p l e R s m args below meth c H locs cells slots Q (F0 m (pc + 3) ls (v :: rest))) : W p l e R s m args below meth c H locs cells slots Q (F0 m pc ls (.ref w.2.2.2 :: rest)) :=
  g_get hexec hb hts hin hown hK hH.ob rfl k hk hlink hv hdg kk
theorem m_put (hexec : p.tables.exec = Jvm.exec) (hb : c.code = cc) {own : String} {index : Nat} {Ts : List Cond} (hts : ∀ w ∈ Ts, w.before args s = true) (hin : ∀ w ∈ wsX80, w ∈ Ts) (hown : s.vm.findClass own = some m.cls) (hK : KN w s) (hH : HR w K g S H) (hS0 : va_S (FR w) s.heap H locs) {v : Int32} (k : Nat) (he : (gmo w.2.2.2 S).set k (.int v) = gmo w.2.2.2 (ssI S 0 k v)) (hk : k < 14) (hlink : (Cond.fieldLink own index (TX8 k).1 (TX8 k).2.1 (TX8 k).2.2.1).before args s = true) (hfin : (TX8 k).2.2.2 = false) (hd : parseFieldDescriptor (TX8 k).2.2.1 = some .int)
    (hdg : decode cc pc = .ok (.putfield index, 3)) (kk : ∀ (H1 : Heap) (locs1 : List Loc), HR w K g (ssI S 0 k v) H1 → va_S (FR w) s.heap H1 locs1 → W p l e R s m args below meth c H1 locs1 cells slots Q (F0 m (pc + 3) ls rest)) : W p l e R s m args below meth c H locs cells slots Q (F0 m pc ls (.int v :: .ref w.2.2.2 :: rest)) := by
  refine g_put hexec hb hts hin tyX8 tyX8_ok nmX8 hown hK hH.ob rfl k hk hlink hfin hd rfl rfl hk hS0 (hH.2.2.2.1) hdg (fun H1 locs1 h1 h2 h3 h4 => kk H1 locs1 ?_ h4)
  refine hH.updM (k := 0) (by omega) (fun j hj hne => gmne hne) ?_ h2 h3
  show va_at w.1 vwCl (w.2.2.2, .inr (8, gmo w.2.2.2 (ssI S 0 k v))) H1
  rw [← he]
  exact h1
theorem m_iald (hexec : p.tables.exec = Jvm.exec) (hb : c.code = cc) (hK : KN w s) (hH : HR w K g S H) (k : Nat) (h0 : 0 < k) (h11 : k < 11) {i : Int32} (hl : gmlen k = n) (hin : gok i n = true) (hdg : decode cc pc = .ok (.iaload, 1))
    (kk : W p l e R s m args below meth c H locs cells slots Q (F0 m (pc + 1) ls (.int (S k i.toNatClampNeg) :: rest))) : W p l e R s m args below meth c H locs cells slots Q (F0 m pc ls (.int i :: .ref (w.2.2.2 + k) :: rest)) := by
  subst hl
  exact va_iald hexec hb hK.1 (one_P (hH.rw k h0 h11)) 0 0 rfl rfl (gok_in hin) hdg kk
theorem m_iast (hexec : p.tables.exec = Jvm.exec) (hb : c.code = cc) (hK : KN w s) (hH : HR w K g S H) (hS : va_S (FR w) s.heap H locs) (k : Nat) (h0 : 0 < k) (h11 : k < 11) {i x : Int32} (hl : gmlen k = n) (hin : gok i n = true) (hdg : decode cc pc = .ok (.iastore, 1))
    (kk : ∀ (H1 : Heap) (locs1 : List Loc), HR w K g (ssI S k i.toNatClampNeg x) H1 → va_S (FR w) s.heap H1 locs1 → W p l e R s m args below meth c H1 locs1 cells slots Q (F0 m (pc + 1) ls rest)) : W p l e R s m args below meth c H locs cells slots Q (F0 m pc ls (.int x :: .int i :: .ref (w.2.2.2 + k) :: rest)) := by
  subst hl
  refine W.iast hexec hb (hH.rw k h0 h11) ((hK.1.2 0 _ rfl).1 (gmlen k) (fun j => .int (S k j))) (fun q => by cases q) (gsz hin) rfl rfl hdg fun H1 e z oq => kk H1 _ ?_ (hS.put z oq hH.loM)
  refine hH.updM h11 (fun j hj hne => gmne hne) ?_ z oq
  have e : H1[w.2.2.2 + k]? = some ((vp_cell (w.2.1 0) (gmlen k, .inl (S k))).setSlot i.toNatClampNeg (.int x)) := e
  rw [cell_upd] at e
  rw [show gmcell w (ssI S k i.toNatClampNeg x) k = .inl (w.2.1 0, gmlen k, .inl (upd (S k) i.toNatClampNeg x)) by
    cases k with
    | zero => omega
    | succ k => simp [gmcell, ssI, va_up]]
  exact e
end ROWS2
section ROWS3
variable {p : Program} {l : Launch} {e : Env} {R : Room} {s : State} {m : MethodId} {args : Array Value} {below : List Frame} {meth : Method} {c : Code} {H : Heap} {locs : List Loc} {cells slots : Nat} {Q : State → Prop}
variable {cc : ByteArray} {pc : Nat} {ls : Array Slot} {rest : List Value} {a n : Nat} {w : GW} {K : GK} {g : GM} {S : GS}
theorem gne0 (z : Int32) (hz : ¬ z < 0) : z.toInt = (z.toNatClampNeg : Int) := by
  have hz0 : (0 : Int) ≤ z.toInt := by
    have := Int32.not_lt.mp hz
    simpa using Int32.le_iff_toInt_le.mp this
  show z.toInt = ((z.toInt.toNat : Nat) : Int)
  omega
/-- System.arraycopy between two rows of one kind of numbers -/
theorem g_copy (hexec : p.tables.exec = Jvm.exec) (hb : c.code = cc) (hml : c.maxLocals = ls.size) {own : String} {index : Nat} (hown : s.vm.findClass own = some m.cls) (hlink : (Cond.methodLink own index arraycopyName).before args s = true) (hnat : (Cond.native arraycopyName).before args s = true) (hstat : (Cond.static arraycopyName).before args s = true) (hini : (Cond.initialized "java/lang/System").before args s = true)
    (hK : KN w s) (hH : HR w K g S H) (hS : va_S (FR w) s.heap H locs) {t kr a0 n0 n1 : Nat} {ty : FieldType} (hk0 : K.1 a0 = (kr, n0)) (hk1 : K.1 a = (kr, n1)) (hcell : ∀ (a n : Nat) (g : GM), K.1 a = (kr, n) → gcell w K g a = some (.inl (w.2.1 t, n, .inl (g.1 a)))) (hr0 : kr ≠ 0) (ht : (gtys w)[t]? = some (w.2.1 t, ty)) (hprim : refKind ty = false)
    {sp dp n : Int32} (h1 : ¬ sp < 0) (h2 : ¬ dp < 0) (h3 : ¬ n < 0) (h4 : sp.toNatClampNeg + n.toNatClampNeg ≤ n0) (h5 : dp.toNatClampNeg + n.toNatClampNeg ≤ n1) (hfit : ∀ i, i < n.toNatClampNeg → fits ty (.int (gI g a0 (sp.toNatClampNeg + i))) = true)
    (hframes : 1 ≤ R.frames) (hlocals : (rest.map fun v => v.category).sum + (nativeFrameWords "java/lang/System" "arraycopy" 5 + 11) ≤ R.locals) (hdg : decode cc pc = .ok (.invokestatic index, 3))
    (kk : ∀ (H1 : Heap) (locs1 : List Loc), HR w K (gsC g a (va_cpy (g.1 a0) (g.1 a) sp.toNatClampNeg dp.toNatClampNeg n.toNatClampNeg)) S H1 → va_S (FR w) s.heap H1 locs1 → W p l e R s m args below meth c H1 locs1 cells slots Q (F0 m (pc + 3) ls rest)) : W p l e R s m args below meth c H locs cells slots Q (F0 m pc ls (.int n :: .int dp :: .ref a :: .int sp :: .ref a0 :: rest)) := by
  intro T hT X
  have hc0 : H[a0]? = some (vp_cell (w.2.1 t) (n0, .inl (g.1 a0))) := hH.2.1 a0 _ (hcell a0 n0 g hk0)
  have hc1 : H[a]? = some (vp_cell (w.2.1 t) (n1, .inl (g.1 a))) := hH.2.1 a _ (hcell a n1 g hk1)
  obtain ⟨-, k0, hk0', cm0, hkk0⟩ := (hK.1.2 t _ ht).1 n0 (fun j => .int (g.1 a0 j))
  obtain ⟨-, k1, hk1', cm1, hkk1⟩ := (hK.1.2 t _ ht).1 n1 (fun j => .int (g.1 a j))
  obtain ⟨vm', X', step⟩ := X.arraycopy hexec hown hlink hnat hstat hini (src := a0) (dst := a) (cs := vp_cell (w.2.1 t) (n0, .inl (g.1 a0))) (cd := vp_cell (w.2.1 t) (n1, .inl (g.1 a))) (srcPos := sp) (destPos := dp) (n := n) (by rw [hT]; exact hc0) (by rw [hT]; exact hc1)
    (fun _ h => by cases h) (fun _ h => by cases h) (fun h => by cases h) (fun h => by cases h) hk0' hk1' hkk0 hkk1 (by simp [hprim]) h1 h2 h3
    (by rw [gne0 sp h1, gne0 n h3]; show ¬ _ > ((arrV (w.2.1 t) n0 (fun j => .int (g.1 a0 j))).slots.size : Int); rw [arrV_size]; omega)
    (by rw [gne0 dp h2, gne0 n h3]; show ¬ _ > ((arrV (w.2.1 t) n1 (fun j => .int (g.1 a j))).slots.size : Int); rw [arrV_size]; omega)
    (fun vm₁ _ i hi => by
      have e : (vp_cell (w.2.1 t) (n0, .inl (g.1 a0))).slots.getD (sp.toNatClampNeg + i) .null = .int (g.1 a0 (sp.toNatClampNeg + i)) := by
        show (arrV (w.2.1 t) n0 (fun j => .int (g.1 a0 j))).slots.getD _ _ = _
        rw [Array.getD_eq_getD_getElem?, arrV_read _ _ (by omega)]
        rfl
      refine ⟨?_, ?_⟩
      · rw [e]
        exact hfit i hi
      · rw [e]
        exact trivial)
    (g := F0 m pc ls (.int n :: .int dp :: .ref a :: .int sp :: .ref a0 :: rest)) rfl (by rw [hml]) (rest := rest) rfl (by rw [hb]; exact hdg) hframes (by show 2 * 0 + _ + _ ≤ _; omega)
  have e1 : copied (vp_cell (w.2.1 t) (n0, .inl (g.1 a0))) (vp_cell (w.2.1 t) (n1, .inl (g.1 a))) sp dp n = vp_cell (w.2.1 t) (n1, .inl (va_cpy (g.1 a0) (g.1 a) sp.toNatClampNeg dp.toNatClampNeg n.toNatClampNeg)) := va_copied (fun z => .int z) (w.2.1 t) (w.2.1 t) (g.1 a0) (g.1 a) h4
  rw [e1] at X' step
  have hl : a < H.size := (Array.getElem?_eq_some_iff.mp hc1).1
  have hh : gkd K a ≠ 0 := gkd_ne hk1 hr0
  have hheap : ((T.setVm vm').setCell a (vp_cell (w.2.1 t) (n1, .inl (va_cpy (g.1 a0) (g.1 a) sp.toNatClampNeg dp.toNatClampNeg n.toNatClampNeg)))).heap = H.setIfInBounds a (vp_cell (w.2.1 t) (n1, .inl (va_cpy (g.1 a0) (g.1 a) sp.toNatClampNeg dp.toNatClampNeg n.toNatClampNeg))) := by rw [← hT]; rfl
  have oq : ∀ q : Nat, q ≠ a → (H.setIfInBounds a (vp_cell (w.2.1 t) (n1, .inl (va_cpy (g.1 a0) (g.1 a) sp.toNatClampNeg dp.toNatClampNeg n.toNatClampNeg))))[q]? = H[q]? := fun q hq => by simp [Array.getElem?_setIfInBounds, Ne.symm hq]
  have hz : (H.setIfInBounds a (vp_cell (w.2.1 t) (n1, .inl (va_cpy (g.1 a0) (g.1 a) sp.toNatClampNeg dp.toNatClampNeg n.toNatClampNeg)))).size = H.size := by simp
  have hat : va_at w.1 vwCl (a, .inl (w.2.1 t, n1, .inl ((gsC g a (va_cpy (g.1 a0) (g.1 a) sp.toNatClampNeg dp.toNatClampNeg n.toNatClampNeg)).1 a))) (H.setIfInBounds a (vp_cell (w.2.1 t) (n1, .inl (va_cpy (g.1 a0) (g.1 a) sp.toNatClampNeg dp.toNatClampNeg n.toNatClampNeg)))) := by
    show (H.setIfInBounds a _)[a]? = some _
    simp [Array.getElem?_setIfInBounds, hl, gsC, va_up]
  obtain ⟨t', a1, b1⟩ := kk _ _ (hH.upd hh gne_C (hcell a n1 _ hk1) hat hz oq) ⟨by rw [hz]; exact hS.1, fun q g1 g2 => by
      rw [oq q (fun e => g2 (by rw [e]; exact hH.lo hh))]
      exact hS.2.1 q g1 g2, fun q hq => by
      rcases List.mem_append.mp hq with h | h
      · exact hS.2.2 q h
      · obtain ⟨z, -, hz⟩ := List.mem_map.mp h
        rw [← hz]
        exact hH.lo hh⟩ _ hheap X'
  exact ⟨t', step t' a1, b1⟩
end ROWS3
end
section
/-! helpers of the printed functions -/
def FU : Nat := 1000000
def gl {α β : Type} (x : α) (f : α → β) : β := f x
theorem gl_at {α β : Type} {x v : α} {f : α → Option β} {r : β} (h : gl x f = some r) (e : v = x) : f v = some r := by subst e; exact h
def gopt {β : Type} (x : Option Nat) (A : Option β) (B : Nat → Option β) : Option β := match x with
  | none => A
  | some t => B t
theorem gopt_c {β : Type} {x : Option Nat} {A : Option β} {B : Nat → Option β} {r : β} (h : gopt x A B = some r) : (x = none ∧ A = some r) ∨ ∃ t, x = some t ∧ B t = some r := by
  cases x with
  | none => exact Or.inl ⟨rfl, h⟩
  | some t => exact Or.inr ⟨t, rfl, h⟩
theorem gk_arr {K : GK} {p k : Nat} (h : decide ((K.1 p).1 = k) = true) : K.1 p = (k, gkn K p) := Prod.ext (of_decide_eq_true h) rfl
theorem gk_obj {K : GK} {p k : Nat} (h : decide (gkd K p = k) = true) : gkd K p = k := of_decide_eq_true h
/-- what arraycopy asks -/
def gcp (sp dp n : Int32) (n0 n1 : Nat) : Bool := decide (¬ sp < 0 ∧ ¬ dp < 0 ∧ ¬ n < 0 ∧ sp.toNatClampNeg + n.toNatClampNeg ≤ n0 ∧ dp.toNatClampNeg + n.toNatClampNeg ≤ n1)
def gft (ty : FieldType) (f : Nat → Int32) (sp n : Int32) : Bool := (List.range n.toNatClampNeg).all fun i => fits ty (.int (f (sp.toNatClampNeg + i)))
theorem gft_at {ty : FieldType} {f : Nat → Int32} {sp n : Int32} (h : gft ty f sp n = true) : ∀ i, i < n.toNatClampNeg → fits ty (.int (f (sp.toNatClampNeg + i))) = true := fun i hi => List.all_eq_true.mp h i (List.mem_range.mpr hi)
def gbl (v : Int32) : Bool := decide (v = 0 ∨ v = 1)
theorem gbl_n {v : Int32} (h : gbl v = true) : narrow .boolean (.int v) = .int v := by
  rcases of_decide_eq_true h with rfl | rfl <;> rfl
abbrev wA (y : MethodName) (b : ByteArray) (n : Nat) (r : Option FieldType) : List Cond := Cond.code y b n r :: gALL
theorem gG {y : MethodName} {b : ByteArray} {n : Nat} {r : Option FieldType} (h : Cond.code y b n r ∈ gALL) : GoodIn gALL (wA y b n r) := fun w hw => by
  have hm : w ∈ gALL := (List.mem_cons.mp hw).elim (fun e => e ▸ h) id
  exact ⟨hm, good_of_word (gall hm).2⟩
/-- what the tables say of an instance method, of a static one -/
def MV (y : MethodName) (b : ByteArray) (n : Nat) (r : Option FieldType) (k : Nat) : Prop := Cond.code y b n r ∈ gALL ∧ Cond.instanceMethod y ∈ gALL ∧ Cond.selects y.cls y y ∈ gALL ∧ Cond.initialized y.cls ∈ gALL ∧ (y.cls ≠ "java/lang/invoke/MethodHandle" ∧ y.cls ≠ "java/lang/invoke/VarHandle" ∧ (parseMethodDescriptor y.desc).map (fun d => d.parameters.length) = some k)
def MS (y : MethodName) (b : ByteArray) (n : Nat) (r : Option FieldType) (k : Nat) : Prop := Cond.code y b n r ∈ gALL ∧ Cond.static y ∈ gALL ∧ Cond.initialized y.cls ∈ gALL ∧ (y.cls ≠ "java/lang/invoke/MethodHandle" ∧ y.cls ≠ "java/lang/invoke/VarHandle" ∧ (parseMethodDescriptor y.desc).map (fun d => d.parameters.length) = some k)
section CWS
variable {s : State} {args : Array Value} {own : String} {index mL mc ms k : Nat} {y : MethodName} {b : ByteArray} {r : Option FieldType} {rm R : Room}
theorem gcwV (hts : ∀ w ∈ gALL, w.before args s = true) (h : MV y b mL r k) (hl : Cond.methodLink own index y ∈ gALL) (hrc : rm.cells = mc) (hrs : rm.slots = ms) (hR : rm.frames + 1 ≤ R.frames ∧ 8 + (mL + 11) + rm.locals ≤ R.locals) : CallW R s args own y.cls index y b mL r (wA y b mL r) rm mc ms k :=
  ⟨callB_of k hts (gG h.1) rfl hrc hrs (hts _ h.2.2.2.1) (hts _ hl) h.2.2.2.2 hR, hts _ h.2.1, hts _ h.2.2.1⟩
theorem gcwS (hts : ∀ w ∈ gALL, w.before args s = true) (h : MS y b mL r k) (hl : Cond.methodLink own index y ∈ gALL) (hrc : rm.cells = mc) (hrs : rm.slots = ms) (hR : rm.frames + 1 ≤ R.frames ∧ 8 + (mL + 11) + rm.locals ≤ R.locals) : CallB R s args own index y b mL r (wA y b mL r) rm mc ms k ∧ (Cond.static y).before args s = true :=
  ⟨callB_of k hts (gG h.1) rfl hrc hrs (hts _ h.2.2.1) (hts _ hl) h.2.2.2 hR, hts _ h.2.1⟩
theorem gcwSN {w : GW} {host : String} (hts : ∀ w ∈ gALL, w.before args s = true) (h : MS y b mL r k) (hK : KN w s) (hl : Cond.methodLinkNest own index y host ∈ gnests) (hrc : rm.cells = mc) (hrs : rm.slots = ms) (hR : rm.frames + 1 ≤ R.frames ∧ 8 + (mL + 11) + rm.locals ≤ R.locals) : va_CN R s args own index y host b mL r (wA y b mL r) rm mc ms k ∧ (Cond.static y).before args s = true ∧ True :=
  ⟨va_cnB k hts (gG h.1) rfl hrc hrs (hK.2 _ hl) (hts _ h.2.2.1) h.2.2.2 hR, hts _ h.2.1, trivial⟩
end CWS
section ROWS4
variable {p : Program} {l : Launch} {e : Env} {R : Room} {s : State} {m : MethodId} {args : Array Value} {below : List Frame} {meth : Method} {c : Code} {H : Heap} {locs : List Loc} {cells slots : Nat} {Q : State → Prop}
variable {cc : ByteArray} {pc : Nat} {ls : Array Slot} {rest : List Value} {a n : Nat} {w : GW} {K : GK} {g : GM} {S : GS}
theorem g_rfS {x : Option Nat} {t : Nat} (h : x = some t) (k : W p l e R s m args below meth c H locs cells slots Q (F0 m pc ls (.ref t :: rest))) : W p l e R s m args below meth c H locs cells slots Q (F0 m pc ls (va_rf x :: rest)) := by subst h; exact k
theorem g_rfN {x : Option Nat} (h : x = none) (k : W p l e R s m args below meth c H locs cells slots Q (F0 m pc ls (.null :: rest))) : W p l e R s m args below meth c H locs cells slots Q (F0 m pc ls (va_rf x :: rest)) := by subst h; exact k
theorem g_ne {x k : Int32} {z : Int} (h : ¬ x = k) (hz : k.toInt = z) : x.toInt ≠ z := fun e => h (Int32.toInt_inj.mp (e.trans hz.symm))
end ROWS4
theorem gset_I {g : GM} {a k : Nat} {v : Int32} {j : Nat} : gI (gsI g a k v) a j = if j = k then v else gI g a j := by simp [gI, gsI, va_up, upd]
section FIELDS
variable {p : Program} {l : Launch} {e : Env} {R : Room} {s : State} {m : MethodId} {args : Array Value} {below : List Frame} {meth : Method} {c : Code} {H : Heap} {locs : List Loc} {cells slots : Nat} {Q : State → Prop}
variable {cc : ByteArray} {pc index : Nat} {own : String} {ls : Array Slot} {rest : List Value} {a n : Nat} {w : GW} {K : GK} {g : GM} {S : GS}
theorem gc_0 (h : gkd K a = 1) : gcell w K g a = some (.inr (0, go1 g a)) := by unfold gcell; rw [h]; rfl
theorem e_0_0 (hx : p.tables.exec = Jvm.exec) (hb : c.code = cc) (hts : ∀ w ∈ gALL, w.before args s = true) (hown : s.vm.findClass own = some m.cls) (hK : KN w s) (hH : HR w K g S H) (hk : gkd K a = 1) (hl : (Cond.fieldLink own index "CallingLooms$CardStack" "cards" "[I").before args s = true) (hdg : decode cc pc = .ok (.getfield index, 3)) (kk : W p l e R s m args below meth c H locs cells slots Q (F0 m (pc + 3) ls (.ref (a + 1) :: rest))) : W p l e R s m args below meth c H locs cells slots Q (F0 m pc ls (.ref a :: rest)) := g_get hx hb hts inlX0 hown hK (hH.o1 hk) rfl 0 (by decide) hl rfl hdg kk
theorem e_0_1 (hx : p.tables.exec = Jvm.exec) (hb : c.code = cc) (hts : ∀ w ∈ gALL, w.before args s = true) (hown : s.vm.findClass own = some m.cls) (hK : KN w s) (hH : HR w K g S H) (hk : gkd K a = 1) (hl : (Cond.fieldLink own index "CallingLooms$CardStack" "colours" "[I").before args s = true) (hdg : decode cc pc = .ok (.getfield index, 3)) (kk : W p l e R s m args below meth c H locs cells slots Q (F0 m (pc + 3) ls (.ref (a + 2) :: rest))) : W p l e R s m args below meth c H locs cells slots Q (F0 m pc ls (.ref a :: rest)) := g_get hx hb hts inlX0 hown hK (hH.o1 hk) rfl 1 (by decide) hl rfl hdg kk
theorem e_0_2 (hx : p.tables.exec = Jvm.exec) (hb : c.code = cc) (hts : ∀ w ∈ gALL, w.before args s = true) (hown : s.vm.findClass own = some m.cls) (hK : KN w s) (hH : HR w K g S H) (hk : gkd K a = 1) (hl : (Cond.fieldLink own index "CallingLooms$CardStack" "parts" "[I").before args s = true) (hdg : decode cc pc = .ok (.getfield index, 3)) (kk : W p l e R s m args below meth c H locs cells slots Q (F0 m (pc + 3) ls (.ref (a + 3) :: rest))) : W p l e R s m args below meth c H locs cells slots Q (F0 m pc ls (.ref a :: rest)) := g_get hx hb hts inlX0 hown hK (hH.o1 hk) rfl 2 (by decide) hl rfl hdg kk
theorem e_0_3 (hx : p.tables.exec = Jvm.exec) (hb : c.code = cc) (hts : ∀ w ∈ gALL, w.before args s = true) (hown : s.vm.findClass own = some m.cls) (hK : KN w s) (hH : HR w K g S H) (hk : gkd K a = 1) (hl : (Cond.fieldLink own index "CallingLooms$CardStack" "places" "[I").before args s = true) (hdg : decode cc pc = .ok (.getfield index, 3)) (kk : W p l e R s m args below meth c H locs cells slots Q (F0 m (pc + 3) ls (.ref (a + 4) :: rest))) : W p l e R s m args below meth c H locs cells slots Q (F0 m pc ls (.ref a :: rest)) := g_get hx hb hts inlX0 hown hK (hH.o1 hk) rfl 3 (by decide) hl rfl hdg kk
theorem e_0_4 (hx : p.tables.exec = Jvm.exec) (hb : c.code = cc) (hts : ∀ w ∈ gALL, w.before args s = true) (hown : s.vm.findClass own = some m.cls) (hK : KN w s) (hH : HR w K g S H) (hk : gkd K a = 1) (hl : (Cond.fieldLink own index "CallingLooms$CardStack" "left" "[I").before args s = true) (hdg : decode cc pc = .ok (.getfield index, 3)) (kk : W p l e R s m args below meth c H locs cells slots Q (F0 m (pc + 3) ls (.ref (a + 5) :: rest))) : W p l e R s m args below meth c H locs cells slots Q (F0 m pc ls (.ref a :: rest)) := g_get hx hb hts inlX0 hown hK (hH.o1 hk) rfl 4 (by decide) hl rfl hdg kk
theorem e_0_5 (hx : p.tables.exec = Jvm.exec) (hb : c.code = cc) (hts : ∀ w ∈ gALL, w.before args s = true) (hown : s.vm.findClass own = some m.cls) (hK : KN w s) (hH : HR w K g S H) (hk : gkd K a = 1) (hl : (Cond.fieldLink own index "CallingLooms$CardStack" "texts" "[LCallingLooms$CardText;").before args s = true) (hdg : decode cc pc = .ok (.getfield index, 3)) (kk : W p l e R s m args below meth c H locs cells slots Q (F0 m (pc + 3) ls (.ref (a + 6) :: rest))) : W p l e R s m args below meth c H locs cells slots Q (F0 m pc ls (.ref a :: rest)) := g_get hx hb hts inlX0 hown hK (hH.o1 hk) rfl 5 (by decide) hl rfl hdg kk
theorem e_0_6 (hx : p.tables.exec = Jvm.exec) (hb : c.code = cc) (hts : ∀ w ∈ gALL, w.before args s = true) (hown : s.vm.findClass own = some m.cls) (hK : KN w s) (hH : HR w K g S H) (hk : gkd K a = 1) (hl : (Cond.fieldLink own index "CallingLooms$CardStack" "size" "I").before args s = true) (hdg : decode cc pc = .ok (.getfield index, 3)) (kk : W p l e R s m args below meth c H locs cells slots Q (F0 m (pc + 3) ls (.int (gI g a 6) :: rest))) : W p l e R s m args below meth c H locs cells slots Q (F0 m pc ls (.ref a :: rest)) := g_get hx hb hts inlX0 hown hK (hH.o1 hk) rfl 6 (by decide) hl rfl hdg kk
theorem p_0_6 {v : Int32} (hx : p.tables.exec = Jvm.exec) (hb : c.code = cc) (hts : ∀ w ∈ gALL, w.before args s = true) (hown : s.vm.findClass own = some m.cls) (hK : KN w s) (hH : HR w K g S H) (hS : va_S (FR w) s.heap H locs) (hk : gkd K a = 1) (hl : (Cond.fieldLink own index "CallingLooms$CardStack" "size" "I").before args s = true) (hdg : decode cc pc = .ok (.putfield index, 3)) (kk : ∀ (H1 : Heap) (locs1 : List Loc), HR w K (gsI g a 6 v) S H1 → va_S (FR w) s.heap H1 locs1 → W p l e R s m args below meth c H1 locs1 cells slots Q (F0 m (pc + 3) ls rest)) : W p l e R s m args below meth c H locs cells slots Q (F0 m pc ls (.int v :: .ref a :: rest)) := g_putI hx hb hts inlX0 tyX0 tyX0_ok nmX0 hown hK hH hS hk (by decide) 6 (gc_0 hk) (by rw [gc_0 hk]; simp [gset_I]) rfl (by decide) hl rfl (by decide +kernel) (Nat.le_of_ble_eq_true rfl) hdg kk
theorem gc_1 (h : gkd K a = 2) : gcell w K g a = some (.inr (1, go2 g a)) := by unfold gcell; rw [h]; rfl
theorem e_1_0 (hx : p.tables.exec = Jvm.exec) (hb : c.code = cc) (hts : ∀ w ∈ gALL, w.before args s = true) (hown : s.vm.findClass own = some m.cls) (hK : KN w s) (hH : HR w K g S H) (hk : gkd K a = 2) (hl : (Cond.fieldLink own index "CallingLooms$CardText" "length" "I").before args s = true) (hdg : decode cc pc = .ok (.getfield index, 3)) (kk : W p l e R s m args below meth c H locs cells slots Q (F0 m (pc + 3) ls (.int (gI g a 0) :: rest))) : W p l e R s m args below meth c H locs cells slots Q (F0 m pc ls (.ref a :: rest)) := g_get hx hb hts inlX1 hown hK (hH.o2 hk) rfl 0 (by decide) hl rfl hdg kk
theorem e_1_1 (hx : p.tables.exec = Jvm.exec) (hb : c.code = cc) (hts : ∀ w ∈ gALL, w.before args s = true) (hown : s.vm.findClass own = some m.cls) (hK : KN w s) (hH : HR w K g S H) (hk : gkd K a = 2) (hl : (Cond.fieldLink own index "CallingLooms$CardText" "steps" "I").before args s = true) (hdg : decode cc pc = .ok (.getfield index, 3)) (kk : W p l e R s m args below meth c H locs cells slots Q (F0 m (pc + 3) ls (.int (gI g a 1) :: rest))) : W p l e R s m args below meth c H locs cells slots Q (F0 m pc ls (.ref a :: rest)) := g_get hx hb hts inlX1 hown hK (hH.o2 hk) rfl 1 (by decide) hl rfl hdg kk
theorem e_1_2 (hx : p.tables.exec = Jvm.exec) (hb : c.code = cc) (hts : ∀ w ∈ gALL, w.before args s = true) (hown : s.vm.findClass own = some m.cls) (hK : KN w s) (hH : HR w K g S H) (hk : gkd K a = 2) (hl : (Cond.fieldLink own index "CallingLooms$CardText" "calls" "I").before args s = true) (hdg : decode cc pc = .ok (.getfield index, 3)) (kk : W p l e R s m args below meth c H locs cells slots Q (F0 m (pc + 3) ls (.int (gI g a 2) :: rest))) : W p l e R s m args below meth c H locs cells slots Q (F0 m pc ls (.ref a :: rest)) := g_get hx hb hts inlX1 hown hK (hH.o2 hk) rfl 2 (by decide) hl rfl hdg kk
theorem e_1_3 (hx : p.tables.exec = Jvm.exec) (hb : c.code = cc) (hts : ∀ w ∈ gALL, w.before args s = true) (hown : s.vm.findClass own = some m.cls) (hK : KN w s) (hH : HR w K g S H) (hk : gkd K a = 2) (hl : (Cond.fieldLink own index "CallingLooms$CardText" "nesting" "I").before args s = true) (hdg : decode cc pc = .ok (.getfield index, 3)) (kk : W p l e R s m args below meth c H locs cells slots Q (F0 m (pc + 3) ls (.int (gI g a 3) :: rest))) : W p l e R s m args below meth c H locs cells slots Q (F0 m pc ls (.ref a :: rest)) := g_get hx hb hts inlX1 hown hK (hH.o2 hk) rfl 3 (by decide) hl rfl hdg kk
theorem e_1_4 (hx : p.tables.exec = Jvm.exec) (hb : c.code = cc) (hts : ∀ w ∈ gALL, w.before args s = true) (hown : s.vm.findClass own = some m.cls) (hK : KN w s) (hH : HR w K g S H) (hk : gkd K a = 2) (hl : (Cond.fieldLink own index "CallingLooms$CardText" "signs" "[C").before args s = true) (hdg : decode cc pc = .ok (.getfield index, 3)) (kk : W p l e R s m args below meth c H locs cells slots Q (F0 m (pc + 3) ls (.ref (a + 1) :: rest))) : W p l e R s m args below meth c H locs cells slots Q (F0 m pc ls (.ref a :: rest)) := g_get hx hb hts inlX1 hown hK (hH.o2 hk) rfl 4 (by decide) hl rfl hdg kk
theorem e_1_5 (hx : p.tables.exec = Jvm.exec) (hb : c.code = cc) (hts : ∀ w ∈ gALL, w.before args s = true) (hown : s.vm.findClass own = some m.cls) (hK : KN w s) (hH : HR w K g S H) (hk : gkd K a = 2) (hl : (Cond.fieldLink own index "CallingLooms$CardText" "times" "[I").before args s = true) (hdg : decode cc pc = .ok (.getfield index, 3)) (kk : W p l e R s m args below meth c H locs cells slots Q (F0 m (pc + 3) ls (.ref (a + 2) :: rest))) : W p l e R s m args below meth c H locs cells slots Q (F0 m pc ls (.ref a :: rest)) := g_get hx hb hts inlX1 hown hK (hH.o2 hk) rfl 5 (by decide) hl rfl hdg kk
theorem e_1_6 (hx : p.tables.exec = Jvm.exec) (hb : c.code = cc) (hts : ∀ w ∈ gALL, w.before args s = true) (hown : s.vm.findClass own = some m.cls) (hK : KN w s) (hH : HR w K g S H) (hk : gkd K a = 2) (hl : (Cond.fieldLink own index "CallingLooms$CardText" "digits" "[I").before args s = true) (hdg : decode cc pc = .ok (.getfield index, 3)) (kk : W p l e R s m args below meth c H locs cells slots Q (F0 m (pc + 3) ls (.ref (a + 3) :: rest))) : W p l e R s m args below meth c H locs cells slots Q (F0 m pc ls (.ref a :: rest)) := g_get hx hb hts inlX1 hown hK (hH.o2 hk) rfl 6 (by decide) hl rfl hdg kk
theorem e_1_7 (hx : p.tables.exec = Jvm.exec) (hb : c.code = cc) (hts : ∀ w ∈ gALL, w.before args s = true) (hown : s.vm.findClass own = some m.cls) (hK : KN w s) (hH : HR w K g S H) (hk : gkd K a = 2) (hl : (Cond.fieldLink own index "CallingLooms$CardText" "insides" "[I").before args s = true) (hdg : decode cc pc = .ok (.getfield index, 3)) (kk : W p l e R s m args below meth c H locs cells slots Q (F0 m (pc + 3) ls (.ref (a + 4) :: rest))) : W p l e R s m args below meth c H locs cells slots Q (F0 m pc ls (.ref a :: rest)) := g_get hx hb hts inlX1 hown hK (hH.o2 hk) rfl 7 (by decide) hl rfl hdg kk
theorem e_1_8 (hx : p.tables.exec = Jvm.exec) (hb : c.code = cc) (hts : ∀ w ∈ gALL, w.before args s = true) (hown : s.vm.findClass own = some m.cls) (hK : KN w s) (hH : HR w K g S H) (hk : gkd K a = 2) (hl : (Cond.fieldLink own index "CallingLooms$CardText" "behinds" "[I").before args s = true) (hdg : decode cc pc = .ok (.getfield index, 3)) (kk : W p l e R s m args below meth c H locs cells slots Q (F0 m (pc + 3) ls (.ref (a + 5) :: rest))) : W p l e R s m args below meth c H locs cells slots Q (F0 m pc ls (.ref a :: rest)) := g_get hx hb hts inlX1 hown hK (hH.o2 hk) rfl 8 (by decide) hl rfl hdg kk
theorem gc_2 (h : gkd K a = 3) : gcell w K g a = some (.inr (2, go3 g a)) := by unfold gcell; rw [h]; rfl
theorem e_2_0 (hx : p.tables.exec = Jvm.exec) (hb : c.code = cc) (hts : ∀ w ∈ gALL, w.before args s = true) (hown : s.vm.findClass own = some m.cls) (hK : KN w s) (hH : HR w K g S H) (hk : gkd K a = 3) (hl : (Cond.fieldLink own index "CallingLooms$Finder" "heights" "[I").before args s = true) (hdg : decode cc pc = .ok (.getfield index, 3)) (kk : W p l e R s m args below meth c H locs cells slots Q (F0 m (pc + 3) ls (.ref (a + 1) :: rest))) : W p l e R s m args below meth c H locs cells slots Q (F0 m pc ls (.ref a :: rest)) := g_get hx hb hts inlX2 hown hK (hH.o3 hk) rfl 0 (by decide) hl rfl hdg kk
theorem e_2_1 (hx : p.tables.exec = Jvm.exec) (hb : c.code = cc) (hts : ∀ w ∈ gALL, w.before args s = true) (hown : s.vm.findClass own = some m.cls) (hK : KN w s) (hH : HR w K g S H) (hk : gkd K a = 3) (hl : (Cond.fieldLink own index "CallingLooms$Finder" "woven" "[I").before args s = true) (hdg : decode cc pc = .ok (.getfield index, 3)) (kk : W p l e R s m args below meth c H locs cells slots Q (F0 m (pc + 3) ls (.ref (a + 2) :: rest))) : W p l e R s m args below meth c H locs cells slots Q (F0 m pc ls (.ref a :: rest)) := g_get hx hb hts inlX2 hown hK (hH.o3 hk) rfl 1 (by decide) hl rfl hdg kk
theorem gc_3 (h : gkd K a = 4) : gcell w K g a = some (.inr (3, go4 g a)) := by unfold gcell; rw [h]; rfl
theorem e_3_0 (hx : p.tables.exec = Jvm.exec) (hb : c.code = cc) (hts : ∀ w ∈ gALL, w.before args s = true) (hown : s.vm.findClass own = some m.cls) (hK : KN w s) (hH : HR w K g S H) (hk : gkd K a = 4) (hl : (Cond.fieldLink own index "CallingLooms$History" "states" "[LCallingLooms$Loom;").before args s = true) (hdg : decode cc pc = .ok (.getfield index, 3)) (kk : W p l e R s m args below meth c H locs cells slots Q (F0 m (pc + 3) ls (.ref (a + 1) :: rest))) : W p l e R s m args below meth c H locs cells slots Q (F0 m pc ls (.ref a :: rest)) := g_get hx hb hts inlX3 hown hK (hH.o4 hk) rfl 0 (by decide) hl rfl hdg kk
theorem e_3_1 (hx : p.tables.exec = Jvm.exec) (hb : c.code = cc) (hts : ∀ w ∈ gALL, w.before args s = true) (hown : s.vm.findClass own = some m.cls) (hK : KN w s) (hH : HR w K g S H) (hk : gkd K a = 4) (hl : (Cond.fieldLink own index "CallingLooms$History" "size" "I").before args s = true) (hdg : decode cc pc = .ok (.getfield index, 3)) (kk : W p l e R s m args below meth c H locs cells slots Q (F0 m (pc + 3) ls (.int (gI g a 1) :: rest))) : W p l e R s m args below meth c H locs cells slots Q (F0 m pc ls (.ref a :: rest)) := g_get hx hb hts inlX3 hown hK (hH.o4 hk) rfl 1 (by decide) hl rfl hdg kk
theorem p_3_1 {v : Int32} (hx : p.tables.exec = Jvm.exec) (hb : c.code = cc) (hts : ∀ w ∈ gALL, w.before args s = true) (hown : s.vm.findClass own = some m.cls) (hK : KN w s) (hH : HR w K g S H) (hS : va_S (FR w) s.heap H locs) (hk : gkd K a = 4) (hl : (Cond.fieldLink own index "CallingLooms$History" "size" "I").before args s = true) (hdg : decode cc pc = .ok (.putfield index, 3)) (kk : ∀ (H1 : Heap) (locs1 : List Loc), HR w K (gsI g a 1 v) S H1 → va_S (FR w) s.heap H1 locs1 → W p l e R s m args below meth c H1 locs1 cells slots Q (F0 m (pc + 3) ls rest)) : W p l e R s m args below meth c H locs cells slots Q (F0 m pc ls (.int v :: .ref a :: rest)) := g_putI hx hb hts inlX3 tyX3 tyX3_ok nmX3 hown hK hH hS hk (by decide) 1 (gc_3 hk) (by rw [gc_3 hk]; simp [gset_I]) rfl (by decide) hl rfl (by decide +kernel) (Nat.le_of_ble_eq_true rfl) hdg kk
theorem gc_4 (h : gkd K a = 5) : gcell w K g a = some (.inr (4, go5 g a)) := by unfold gcell; rw [h]; rfl
theorem e_4_0 (hx : p.tables.exec = Jvm.exec) (hb : c.code = cc) (hts : ∀ w ∈ gALL, w.before args s = true) (hown : s.vm.findClass own = some m.cls) (hK : KN w s) (hH : HR w K g S H) (hk : gkd K a = 5) (hl : (Cond.fieldLink own index "CallingLooms$Loom" "texts" "[LCallingLooms$CardText;").before args s = true) (hdg : decode cc pc = .ok (.getfield index, 3)) (kk : W p l e R s m args below meth c H locs cells slots Q (F0 m (pc + 3) ls (.ref (a + 1) :: rest))) : W p l e R s m args below meth c H locs cells slots Q (F0 m pc ls (.ref a :: rest)) := g_get hx hb hts inlX4 hown hK (hH.o5 hk) rfl 0 (by decide) hl rfl hdg kk
theorem e_4_1 (hx : p.tables.exec = Jvm.exec) (hb : c.code = cc) (hts : ∀ w ∈ gALL, w.before args s = true) (hown : s.vm.findClass own = some m.cls) (hK : KN w s) (hH : HR w K g S H) (hk : gkd K a = 5) (hl : (Cond.fieldLink own index "CallingLooms$Loom" "begun" "[I").before args s = true) (hdg : decode cc pc = .ok (.getfield index, 3)) (kk : W p l e R s m args below meth c H locs cells slots Q (F0 m (pc + 3) ls (.ref (a + 2) :: rest))) : W p l e R s m args below meth c H locs cells slots Q (F0 m pc ls (.ref a :: rest)) := g_get hx hb hts inlX4 hown hK (hH.o5 hk) rfl 1 (by decide) hl rfl hdg kk
theorem e_4_2 (hx : p.tables.exec = Jvm.exec) (hb : c.code = cc) (hts : ∀ w ∈ gALL, w.before args s = true) (hown : s.vm.findClass own = some m.cls) (hK : KN w s) (hH : HR w K g S H) (hk : gkd K a = 5) (hl : (Cond.fieldLink own index "CallingLooms$Loom" "settings" "[I").before args s = true) (hdg : decode cc pc = .ok (.getfield index, 3)) (kk : W p l e R s m args below meth c H locs cells slots Q (F0 m (pc + 3) ls (.ref (a + 3) :: rest))) : W p l e R s m args below meth c H locs cells slots Q (F0 m pc ls (.ref a :: rest)) := g_get hx hb hts inlX4 hown hK (hH.o5 hk) rfl 2 (by decide) hl rfl hdg kk
theorem e_4_3 (hx : p.tables.exec = Jvm.exec) (hb : c.code = cc) (hts : ∀ w ∈ gALL, w.before args s = true) (hown : s.vm.findClass own = some m.cls) (hK : KN w s) (hH : HR w K g S H) (hk : gkd K a = 5) (hl : (Cond.fieldLink own index "CallingLooms$Loom" "ells" "[I").before args s = true) (hdg : decode cc pc = .ok (.getfield index, 3)) (kk : W p l e R s m args below meth c H locs cells slots Q (F0 m (pc + 3) ls (.ref (a + 4) :: rest))) : W p l e R s m args below meth c H locs cells slots Q (F0 m pc ls (.ref a :: rest)) := g_get hx hb hts inlX4 hown hK (hH.o5 hk) rfl 3 (by decide) hl rfl hdg kk
theorem e_4_4 (hx : p.tables.exec = Jvm.exec) (hb : c.code = cc) (hts : ∀ w ∈ gALL, w.before args s = true) (hown : s.vm.findClass own = some m.cls) (hK : KN w s) (hH : HR w K g S H) (hk : gkd K a = 5) (hl : (Cond.fieldLink own index "CallingLooms$Loom" "strain" "[I").before args s = true) (hdg : decode cc pc = .ok (.getfield index, 3)) (kk : W p l e R s m args below meth c H locs cells slots Q (F0 m (pc + 3) ls (.ref (a + 5) :: rest))) : W p l e R s m args below meth c H locs cells slots Q (F0 m pc ls (.ref a :: rest)) := g_get hx hb hts inlX4 hown hK (hH.o5 hk) rfl 4 (by decide) hl rfl hdg kk
theorem e_4_5 (hx : p.tables.exec = Jvm.exec) (hb : c.code = cc) (hts : ∀ w ∈ gALL, w.before args s = true) (hown : s.vm.findClass own = some m.cls) (hK : KN w s) (hH : HR w K g S H) (hk : gkd K a = 5) (hl : (Cond.fieldLink own index "CallingLooms$Loom" "knots" "[I").before args s = true) (hdg : decode cc pc = .ok (.getfield index, 3)) (kk : W p l e R s m args below meth c H locs cells slots Q (F0 m (pc + 3) ls (.ref (a + 6) :: rest))) : W p l e R s m args below meth c H locs cells slots Q (F0 m pc ls (.ref a :: rest)) := g_get hx hb hts inlX4 hown hK (hH.o5 hk) rfl 5 (by decide) hl rfl hdg kk
theorem e_4_6 (hx : p.tables.exec = Jvm.exec) (hb : c.code = cc) (hts : ∀ w ∈ gALL, w.before args s = true) (hown : s.vm.findClass own = some m.cls) (hK : KN w s) (hH : HR w K g S H) (hk : gkd K a = 5) (hl : (Cond.fieldLink own index "CallingLooms$Loom" "woven" "[I").before args s = true) (hdg : decode cc pc = .ok (.getfield index, 3)) (kk : W p l e R s m args below meth c H locs cells slots Q (F0 m (pc + 3) ls (.ref (a + 7) :: rest))) : W p l e R s m args below meth c H locs cells slots Q (F0 m pc ls (.ref a :: rest)) := g_get hx hb hts inlX4 hown hK (hH.o5 hk) rfl 6 (by decide) hl rfl hdg kk
theorem e_4_7 (hx : p.tables.exec = Jvm.exec) (hb : c.code = cc) (hts : ∀ w ∈ gALL, w.before args s = true) (hown : s.vm.findClass own = some m.cls) (hK : KN w s) (hH : HR w K g S H) (hk : gkd K a = 5) (hl : (Cond.fieldLink own index "CallingLooms$Loom" "cloth" "[B").before args s = true) (hdg : decode cc pc = .ok (.getfield index, 3)) (kk : W p l e R s m args below meth c H locs cells slots Q (F0 m (pc + 3) ls (.ref (a + 8) :: rest))) : W p l e R s m args below meth c H locs cells slots Q (F0 m pc ls (.ref a :: rest)) := g_get hx hb hts inlX4 hown hK (hH.o5 hk) rfl 7 (by decide) hl rfl hdg kk
theorem e_4_8 (hx : p.tables.exec = Jvm.exec) (hb : c.code = cc) (hts : ∀ w ∈ gALL, w.before args s = true) (hown : s.vm.findClass own = some m.cls) (hK : KN w s) (hH : HR w K g S H) (hk : gkd K a = 5) (hl : (Cond.fieldLink own index "CallingLooms$Loom" "stack" "LCallingLooms$CardStack;").before args s = true) (hdg : decode cc pc = .ok (.getfield index, 3)) (kk : W p l e R s m args below meth c H locs cells slots Q (F0 m (pc + 3) ls (.ref (a + 9) :: rest))) : W p l e R s m args below meth c H locs cells slots Q (F0 m pc ls (.ref a :: rest)) := g_get hx hb hts inlX4 hown hK (hH.o5 hk) rfl 8 (by decide) hl rfl hdg kk
theorem e_4_9 (hx : p.tables.exec = Jvm.exec) (hb : c.code = cc) (hts : ∀ w ∈ gALL, w.before args s = true) (hown : s.vm.findClass own = some m.cls) (hK : KN w s) (hH : HR w K g S H) (hk : gkd K a = 5) (hl : (Cond.fieldLink own index "CallingLooms$Loom" "clothLength" "I").before args s = true) (hdg : decode cc pc = .ok (.getfield index, 3)) (kk : W p l e R s m args below meth c H locs cells slots Q (F0 m (pc + 3) ls (.int (gI g a 9) :: rest))) : W p l e R s m args below meth c H locs cells slots Q (F0 m pc ls (.ref a :: rest)) := g_get hx hb hts inlX4 hown hK (hH.o5 hk) rfl 9 (by decide) hl rfl hdg kk
theorem p_4_9 {v : Int32} (hx : p.tables.exec = Jvm.exec) (hb : c.code = cc) (hts : ∀ w ∈ gALL, w.before args s = true) (hown : s.vm.findClass own = some m.cls) (hK : KN w s) (hH : HR w K g S H) (hS : va_S (FR w) s.heap H locs) (hk : gkd K a = 5) (hl : (Cond.fieldLink own index "CallingLooms$Loom" "clothLength" "I").before args s = true) (hdg : decode cc pc = .ok (.putfield index, 3)) (kk : ∀ (H1 : Heap) (locs1 : List Loc), HR w K (gsI g a 9 v) S H1 → va_S (FR w) s.heap H1 locs1 → W p l e R s m args below meth c H1 locs1 cells slots Q (F0 m (pc + 3) ls rest)) : W p l e R s m args below meth c H locs cells slots Q (F0 m pc ls (.int v :: .ref a :: rest)) := g_putI hx hb hts inlX4 tyX4 tyX4_ok nmX4 hown hK hH hS hk (by decide) 9 (gc_4 hk) (by rw [gc_4 hk]; simp [gset_I]) rfl (by decide) hl rfl (by decide +kernel) (Nat.le_of_ble_eq_true rfl) hdg kk
theorem e_4_10 (hx : p.tables.exec = Jvm.exec) (hb : c.code = cc) (hts : ∀ w ∈ gALL, w.before args s = true) (hown : s.vm.findClass own = some m.cls) (hK : KN w s) (hH : HR w K g S H) (hk : gkd K a = 5) (hl : (Cond.fieldLink own index "CallingLooms$Loom" "mostOnStack" "I").before args s = true) (hdg : decode cc pc = .ok (.getfield index, 3)) (kk : W p l e R s m args below meth c H locs cells slots Q (F0 m (pc + 3) ls (.int (gI g a 10) :: rest))) : W p l e R s m args below meth c H locs cells slots Q (F0 m pc ls (.ref a :: rest)) := g_get hx hb hts inlX4 hown hK (hH.o5 hk) rfl 10 (by decide) hl rfl hdg kk
theorem p_4_10 {v : Int32} (hx : p.tables.exec = Jvm.exec) (hb : c.code = cc) (hts : ∀ w ∈ gALL, w.before args s = true) (hown : s.vm.findClass own = some m.cls) (hK : KN w s) (hH : HR w K g S H) (hS : va_S (FR w) s.heap H locs) (hk : gkd K a = 5) (hl : (Cond.fieldLink own index "CallingLooms$Loom" "mostOnStack" "I").before args s = true) (hdg : decode cc pc = .ok (.putfield index, 3)) (kk : ∀ (H1 : Heap) (locs1 : List Loc), HR w K (gsI g a 10 v) S H1 → va_S (FR w) s.heap H1 locs1 → W p l e R s m args below meth c H1 locs1 cells slots Q (F0 m (pc + 3) ls rest)) : W p l e R s m args below meth c H locs cells slots Q (F0 m pc ls (.int v :: .ref a :: rest)) := g_putI hx hb hts inlX4 tyX4 tyX4_ok nmX4 hown hK hH hS hk (by decide) 10 (gc_4 hk) (by rw [gc_4 hk]; simp [gset_I]) rfl (by decide) hl rfl (by decide +kernel) (Nat.le_of_ble_eq_true rfl) hdg kk
theorem e_4_11 (hx : p.tables.exec = Jvm.exec) (hb : c.code = cc) (hts : ∀ w ∈ gALL, w.before args s = true) (hown : s.vm.findClass own = some m.cls) (hK : KN w s) (hH : HR w K g S H) (hk : gkd K a = 5) (hl : (Cond.fieldLink own index "CallingLooms$Loom" "calls" "I").before args s = true) (hdg : decode cc pc = .ok (.getfield index, 3)) (kk : W p l e R s m args below meth c H locs cells slots Q (F0 m (pc + 3) ls (.int (gI g a 11) :: rest))) : W p l e R s m args below meth c H locs cells slots Q (F0 m pc ls (.ref a :: rest)) := g_get hx hb hts inlX4 hown hK (hH.o5 hk) rfl 11 (by decide) hl rfl hdg kk
theorem p_4_11 {v : Int32} (hx : p.tables.exec = Jvm.exec) (hb : c.code = cc) (hts : ∀ w ∈ gALL, w.before args s = true) (hown : s.vm.findClass own = some m.cls) (hK : KN w s) (hH : HR w K g S H) (hS : va_S (FR w) s.heap H locs) (hk : gkd K a = 5) (hl : (Cond.fieldLink own index "CallingLooms$Loom" "calls" "I").before args s = true) (hdg : decode cc pc = .ok (.putfield index, 3)) (kk : ∀ (H1 : Heap) (locs1 : List Loc), HR w K (gsI g a 11 v) S H1 → va_S (FR w) s.heap H1 locs1 → W p l e R s m args below meth c H1 locs1 cells slots Q (F0 m (pc + 3) ls rest)) : W p l e R s m args below meth c H locs cells slots Q (F0 m pc ls (.int v :: .ref a :: rest)) := g_putI hx hb hts inlX4 tyX4 tyX4_ok nmX4 hown hK hH hS hk (by decide) 11 (gc_4 hk) (by rw [gc_4 hk]; simp [gset_I]) rfl (by decide) hl rfl (by decide +kernel) (Nat.le_of_ble_eq_true rfl) hdg kk
theorem e_4_12 (hx : p.tables.exec = Jvm.exec) (hb : c.code = cc) (hts : ∀ w ∈ gALL, w.before args s = true) (hown : s.vm.findClass own = some m.cls) (hK : KN w s) (hH : HR w K g S H) (hk : gkd K a = 5) (hl : (Cond.fieldLink own index "CallingLooms$Loom" "reason" "I").before args s = true) (hdg : decode cc pc = .ok (.getfield index, 3)) (kk : W p l e R s m args below meth c H locs cells slots Q (F0 m (pc + 3) ls (.int (gI g a 12) :: rest))) : W p l e R s m args below meth c H locs cells slots Q (F0 m pc ls (.ref a :: rest)) := g_get hx hb hts inlX4 hown hK (hH.o5 hk) rfl 12 (by decide) hl rfl hdg kk
theorem p_4_12 {v : Int32} (hx : p.tables.exec = Jvm.exec) (hb : c.code = cc) (hts : ∀ w ∈ gALL, w.before args s = true) (hown : s.vm.findClass own = some m.cls) (hK : KN w s) (hH : HR w K g S H) (hS : va_S (FR w) s.heap H locs) (hk : gkd K a = 5) (hl : (Cond.fieldLink own index "CallingLooms$Loom" "reason" "I").before args s = true) (hdg : decode cc pc = .ok (.putfield index, 3)) (kk : ∀ (H1 : Heap) (locs1 : List Loc), HR w K (gsI g a 12 v) S H1 → va_S (FR w) s.heap H1 locs1 → W p l e R s m args below meth c H1 locs1 cells slots Q (F0 m (pc + 3) ls rest)) : W p l e R s m args below meth c H locs cells slots Q (F0 m pc ls (.int v :: .ref a :: rest)) := g_putI hx hb hts inlX4 tyX4 tyX4_ok nmX4 hown hK hH hS hk (by decide) 12 (gc_4 hk) (by rw [gc_4 hk]; simp [gset_I]) rfl (by decide) hl rfl (by decide +kernel) (Nat.le_of_ble_eq_true rfl) hdg kk
theorem gc_5 (h : gkd K a = 6) : gcell w K g a = some (.inr (5, go6 g a)) := by unfold gcell; rw [h]; rfl
theorem e_5_0 (hx : p.tables.exec = Jvm.exec) (hb : c.code = cc) (hts : ∀ w ∈ gALL, w.before args s = true) (hown : s.vm.findClass own = some m.cls) (hK : KN w s) (hH : HR w K g S H) (hk : gkd K a = 6) (hl : (Cond.fieldLink own index "CallingLooms$Pad" "signs" "[C").before args s = true) (hdg : decode cc pc = .ok (.getfield index, 3)) (kk : W p l e R s m args below meth c H locs cells slots Q (F0 m (pc + 3) ls (.ref (a + 1) :: rest))) : W p l e R s m args below meth c H locs cells slots Q (F0 m pc ls (.ref a :: rest)) := g_get hx hb hts inlX5 hown hK (hH.o6 hk) rfl 0 (by decide) hl rfl hdg kk
theorem e_5_1 (hx : p.tables.exec = Jvm.exec) (hb : c.code = cc) (hts : ∀ w ∈ gALL, w.before args s = true) (hown : s.vm.findClass own = some m.cls) (hK : KN w s) (hH : HR w K g S H) (hk : gkd K a = 6) (hl : (Cond.fieldLink own index "CallingLooms$Pad" "length" "I").before args s = true) (hdg : decode cc pc = .ok (.getfield index, 3)) (kk : W p l e R s m args below meth c H locs cells slots Q (F0 m (pc + 3) ls (.int (gI g a 1) :: rest))) : W p l e R s m args below meth c H locs cells slots Q (F0 m pc ls (.ref a :: rest)) := g_get hx hb hts inlX5 hown hK (hH.o6 hk) rfl 1 (by decide) hl rfl hdg kk
theorem p_5_1 {v : Int32} (hx : p.tables.exec = Jvm.exec) (hb : c.code = cc) (hts : ∀ w ∈ gALL, w.before args s = true) (hown : s.vm.findClass own = some m.cls) (hK : KN w s) (hH : HR w K g S H) (hS : va_S (FR w) s.heap H locs) (hk : gkd K a = 6) (hl : (Cond.fieldLink own index "CallingLooms$Pad" "length" "I").before args s = true) (hdg : decode cc pc = .ok (.putfield index, 3)) (kk : ∀ (H1 : Heap) (locs1 : List Loc), HR w K (gsI g a 1 v) S H1 → va_S (FR w) s.heap H1 locs1 → W p l e R s m args below meth c H1 locs1 cells slots Q (F0 m (pc + 3) ls rest)) : W p l e R s m args below meth c H locs cells slots Q (F0 m pc ls (.int v :: .ref a :: rest)) := g_putI hx hb hts inlX5 tyX5 tyX5_ok nmX5 hown hK hH hS hk (by decide) 1 (gc_5 hk) (by rw [gc_5 hk]; simp [gset_I]) rfl (by decide) hl rfl (by decide +kernel) (Nat.le_of_ble_eq_true rfl) hdg kk
theorem gc_6 (h : gkd K a = 7) : gcell w K g a = some (.inr (6, go7 g a)) := by unfold gcell; rw [h]; rfl
theorem e_6_0 (hx : p.tables.exec = Jvm.exec) (hb : c.code = cc) (hts : ∀ w ∈ gALL, w.before args s = true) (hown : s.vm.findClass own = some m.cls) (hK : KN w s) (hH : HR w K g S H) (hk : gkd K a = 7) (hl : (Cond.fieldLink own index "CallingLooms$TextReader" "signs" "[C").before args s = true) (hdg : decode cc pc = .ok (.getfield index, 3)) (kk : W p l e R s m args below meth c H locs cells slots Q (F0 m (pc + 3) ls (.ref (a + 1) :: rest))) : W p l e R s m args below meth c H locs cells slots Q (F0 m pc ls (.ref a :: rest)) := g_get hx hb hts inlX6 hown hK (hH.o7 hk) rfl 0 (by decide) hl rfl hdg kk
theorem e_6_1 (hx : p.tables.exec = Jvm.exec) (hb : c.code = cc) (hts : ∀ w ∈ gALL, w.before args s = true) (hown : s.vm.findClass own = some m.cls) (hK : KN w s) (hH : HR w K g S H) (hk : gkd K a = 7) (hl : (Cond.fieldLink own index "CallingLooms$TextReader" "times" "[I").before args s = true) (hdg : decode cc pc = .ok (.getfield index, 3)) (kk : W p l e R s m args below meth c H locs cells slots Q (F0 m (pc + 3) ls (.ref (a + 2) :: rest))) : W p l e R s m args below meth c H locs cells slots Q (F0 m pc ls (.ref a :: rest)) := g_get hx hb hts inlX6 hown hK (hH.o7 hk) rfl 1 (by decide) hl rfl hdg kk
theorem e_6_2 (hx : p.tables.exec = Jvm.exec) (hb : c.code = cc) (hts : ∀ w ∈ gALL, w.before args s = true) (hown : s.vm.findClass own = some m.cls) (hK : KN w s) (hH : HR w K g S H) (hk : gkd K a = 7) (hl : (Cond.fieldLink own index "CallingLooms$TextReader" "digits" "[I").before args s = true) (hdg : decode cc pc = .ok (.getfield index, 3)) (kk : W p l e R s m args below meth c H locs cells slots Q (F0 m (pc + 3) ls (.ref (a + 3) :: rest))) : W p l e R s m args below meth c H locs cells slots Q (F0 m pc ls (.ref a :: rest)) := g_get hx hb hts inlX6 hown hK (hH.o7 hk) rfl 2 (by decide) hl rfl hdg kk
theorem e_6_3 (hx : p.tables.exec = Jvm.exec) (hb : c.code = cc) (hts : ∀ w ∈ gALL, w.before args s = true) (hown : s.vm.findClass own = some m.cls) (hK : KN w s) (hH : HR w K g S H) (hk : gkd K a = 7) (hl : (Cond.fieldLink own index "CallingLooms$TextReader" "insides" "[I").before args s = true) (hdg : decode cc pc = .ok (.getfield index, 3)) (kk : W p l e R s m args below meth c H locs cells slots Q (F0 m (pc + 3) ls (.ref (a + 4) :: rest))) : W p l e R s m args below meth c H locs cells slots Q (F0 m pc ls (.ref a :: rest)) := g_get hx hb hts inlX6 hown hK (hH.o7 hk) rfl 3 (by decide) hl rfl hdg kk
theorem e_6_4 (hx : p.tables.exec = Jvm.exec) (hb : c.code = cc) (hts : ∀ w ∈ gALL, w.before args s = true) (hown : s.vm.findClass own = some m.cls) (hK : KN w s) (hH : HR w K g S H) (hk : gkd K a = 7) (hl : (Cond.fieldLink own index "CallingLooms$TextReader" "behinds" "[I").before args s = true) (hdg : decode cc pc = .ok (.getfield index, 3)) (kk : W p l e R s m args below meth c H locs cells slots Q (F0 m (pc + 3) ls (.ref (a + 5) :: rest))) : W p l e R s m args below meth c H locs cells slots Q (F0 m pc ls (.ref a :: rest)) := g_get hx hb hts inlX6 hown hK (hH.o7 hk) rfl 4 (by decide) hl rfl hdg kk
theorem e_6_5 (hx : p.tables.exec = Jvm.exec) (hb : c.code = cc) (hts : ∀ w ∈ gALL, w.before args s = true) (hown : s.vm.findClass own = some m.cls) (hK : KN w s) (hH : HR w K g S H) (hk : gkd K a = 7) (hl : (Cond.fieldLink own index "CallingLooms$TextReader" "length" "I").before args s = true) (hdg : decode cc pc = .ok (.getfield index, 3)) (kk : W p l e R s m args below meth c H locs cells slots Q (F0 m (pc + 3) ls (.int (gI g a 5) :: rest))) : W p l e R s m args below meth c H locs cells slots Q (F0 m pc ls (.ref a :: rest)) := g_get hx hb hts inlX6 hown hK (hH.o7 hk) rfl 5 (by decide) hl rfl hdg kk
theorem p_6_5 {v : Int32} (hx : p.tables.exec = Jvm.exec) (hb : c.code = cc) (hts : ∀ w ∈ gALL, w.before args s = true) (hown : s.vm.findClass own = some m.cls) (hK : KN w s) (hH : HR w K g S H) (hS : va_S (FR w) s.heap H locs) (hk : gkd K a = 7) (hl : (Cond.fieldLink own index "CallingLooms$TextReader" "length" "I").before args s = true) (hdg : decode cc pc = .ok (.putfield index, 3)) (kk : ∀ (H1 : Heap) (locs1 : List Loc), HR w K (gsI g a 5 v) S H1 → va_S (FR w) s.heap H1 locs1 → W p l e R s m args below meth c H1 locs1 cells slots Q (F0 m (pc + 3) ls rest)) : W p l e R s m args below meth c H locs cells slots Q (F0 m pc ls (.int v :: .ref a :: rest)) := g_putI hx hb hts inlX6 tyX6 tyX6_ok nmX6 hown hK hH hS hk (by decide) 5 (gc_6 hk) (by rw [gc_6 hk]; simp [gset_I]) rfl (by decide) hl rfl (by decide +kernel) (Nat.le_of_ble_eq_true rfl) hdg kk
theorem e_6_6 (hx : p.tables.exec = Jvm.exec) (hb : c.code = cc) (hts : ∀ w ∈ gALL, w.before args s = true) (hown : s.vm.findClass own = some m.cls) (hK : KN w s) (hH : HR w K g S H) (hk : gkd K a = 7) (hl : (Cond.fieldLink own index "CallingLooms$TextReader" "steps" "I").before args s = true) (hdg : decode cc pc = .ok (.getfield index, 3)) (kk : W p l e R s m args below meth c H locs cells slots Q (F0 m (pc + 3) ls (.int (gI g a 6) :: rest))) : W p l e R s m args below meth c H locs cells slots Q (F0 m pc ls (.ref a :: rest)) := g_get hx hb hts inlX6 hown hK (hH.o7 hk) rfl 6 (by decide) hl rfl hdg kk
theorem p_6_6 {v : Int32} (hx : p.tables.exec = Jvm.exec) (hb : c.code = cc) (hts : ∀ w ∈ gALL, w.before args s = true) (hown : s.vm.findClass own = some m.cls) (hK : KN w s) (hH : HR w K g S H) (hS : va_S (FR w) s.heap H locs) (hk : gkd K a = 7) (hl : (Cond.fieldLink own index "CallingLooms$TextReader" "steps" "I").before args s = true) (hdg : decode cc pc = .ok (.putfield index, 3)) (kk : ∀ (H1 : Heap) (locs1 : List Loc), HR w K (gsI g a 6 v) S H1 → va_S (FR w) s.heap H1 locs1 → W p l e R s m args below meth c H1 locs1 cells slots Q (F0 m (pc + 3) ls rest)) : W p l e R s m args below meth c H locs cells slots Q (F0 m pc ls (.int v :: .ref a :: rest)) := g_putI hx hb hts inlX6 tyX6 tyX6_ok nmX6 hown hK hH hS hk (by decide) 6 (gc_6 hk) (by rw [gc_6 hk]; simp [gset_I]) rfl (by decide) hl rfl (by decide +kernel) (Nat.le_of_ble_eq_true rfl) hdg kk
theorem e_6_7 (hx : p.tables.exec = Jvm.exec) (hb : c.code = cc) (hts : ∀ w ∈ gALL, w.before args s = true) (hown : s.vm.findClass own = some m.cls) (hK : KN w s) (hH : HR w K g S H) (hk : gkd K a = 7) (hl : (Cond.fieldLink own index "CallingLooms$TextReader" "calls" "I").before args s = true) (hdg : decode cc pc = .ok (.getfield index, 3)) (kk : W p l e R s m args below meth c H locs cells slots Q (F0 m (pc + 3) ls (.int (gI g a 7) :: rest))) : W p l e R s m args below meth c H locs cells slots Q (F0 m pc ls (.ref a :: rest)) := g_get hx hb hts inlX6 hown hK (hH.o7 hk) rfl 7 (by decide) hl rfl hdg kk
theorem p_6_7 {v : Int32} (hx : p.tables.exec = Jvm.exec) (hb : c.code = cc) (hts : ∀ w ∈ gALL, w.before args s = true) (hown : s.vm.findClass own = some m.cls) (hK : KN w s) (hH : HR w K g S H) (hS : va_S (FR w) s.heap H locs) (hk : gkd K a = 7) (hl : (Cond.fieldLink own index "CallingLooms$TextReader" "calls" "I").before args s = true) (hdg : decode cc pc = .ok (.putfield index, 3)) (kk : ∀ (H1 : Heap) (locs1 : List Loc), HR w K (gsI g a 7 v) S H1 → va_S (FR w) s.heap H1 locs1 → W p l e R s m args below meth c H1 locs1 cells slots Q (F0 m (pc + 3) ls rest)) : W p l e R s m args below meth c H locs cells slots Q (F0 m pc ls (.int v :: .ref a :: rest)) := g_putI hx hb hts inlX6 tyX6 tyX6_ok nmX6 hown hK hH hS hk (by decide) 7 (gc_6 hk) (by rw [gc_6 hk]; simp [gset_I]) rfl (by decide) hl rfl (by decide +kernel) (Nat.le_of_ble_eq_true rfl) hdg kk
theorem e_6_8 (hx : p.tables.exec = Jvm.exec) (hb : c.code = cc) (hts : ∀ w ∈ gALL, w.before args s = true) (hown : s.vm.findClass own = some m.cls) (hK : KN w s) (hH : HR w K g S H) (hk : gkd K a = 7) (hl : (Cond.fieldLink own index "CallingLooms$TextReader" "nesting" "I").before args s = true) (hdg : decode cc pc = .ok (.getfield index, 3)) (kk : W p l e R s m args below meth c H locs cells slots Q (F0 m (pc + 3) ls (.int (gI g a 8) :: rest))) : W p l e R s m args below meth c H locs cells slots Q (F0 m pc ls (.ref a :: rest)) := g_get hx hb hts inlX6 hown hK (hH.o7 hk) rfl 8 (by decide) hl rfl hdg kk
theorem p_6_8 {v : Int32} (hx : p.tables.exec = Jvm.exec) (hb : c.code = cc) (hts : ∀ w ∈ gALL, w.before args s = true) (hown : s.vm.findClass own = some m.cls) (hK : KN w s) (hH : HR w K g S H) (hS : va_S (FR w) s.heap H locs) (hk : gkd K a = 7) (hl : (Cond.fieldLink own index "CallingLooms$TextReader" "nesting" "I").before args s = true) (hdg : decode cc pc = .ok (.putfield index, 3)) (kk : ∀ (H1 : Heap) (locs1 : List Loc), HR w K (gsI g a 8 v) S H1 → va_S (FR w) s.heap H1 locs1 → W p l e R s m args below meth c H1 locs1 cells slots Q (F0 m (pc + 3) ls rest)) : W p l e R s m args below meth c H locs cells slots Q (F0 m pc ls (.int v :: .ref a :: rest)) := g_putI hx hb hts inlX6 tyX6 tyX6_ok nmX6 hown hK hH hS hk (by decide) 8 (gc_6 hk) (by rw [gc_6 hk]; simp [gset_I]) rfl (by decide) hl rfl (by decide +kernel) (Nat.le_of_ble_eq_true rfl) hdg kk
theorem e_6_9 (hx : p.tables.exec = Jvm.exec) (hb : c.code = cc) (hts : ∀ w ∈ gALL, w.before args s = true) (hown : s.vm.findClass own = some m.cls) (hK : KN w s) (hH : HR w K g S H) (hk : gkd K a = 7) (hl : (Cond.fieldLink own index "CallingLooms$TextReader" "opened" "[I").before args s = true) (hdg : decode cc pc = .ok (.getfield index, 3)) (kk : W p l e R s m args below meth c H locs cells slots Q (F0 m (pc + 3) ls (.ref (a + 6) :: rest))) : W p l e R s m args below meth c H locs cells slots Q (F0 m pc ls (.ref a :: rest)) := g_get hx hb hts inlX6 hown hK (hH.o7 hk) rfl 9 (by decide) hl rfl hdg kk
theorem e_6_10 (hx : p.tables.exec = Jvm.exec) (hb : c.code = cc) (hts : ∀ w ∈ gALL, w.before args s = true) (hown : s.vm.findClass own = some m.cls) (hK : KN w s) (hH : HR w K g S H) (hk : gkd K a = 7) (hl : (Cond.fieldLink own index "CallingLooms$TextReader" "open" "I").before args s = true) (hdg : decode cc pc = .ok (.getfield index, 3)) (kk : W p l e R s m args below meth c H locs cells slots Q (F0 m (pc + 3) ls (.int (gI g a 10) :: rest))) : W p l e R s m args below meth c H locs cells slots Q (F0 m pc ls (.ref a :: rest)) := g_get hx hb hts inlX6 hown hK (hH.o7 hk) rfl 10 (by decide) hl rfl hdg kk
theorem p_6_10 {v : Int32} (hx : p.tables.exec = Jvm.exec) (hb : c.code = cc) (hts : ∀ w ∈ gALL, w.before args s = true) (hown : s.vm.findClass own = some m.cls) (hK : KN w s) (hH : HR w K g S H) (hS : va_S (FR w) s.heap H locs) (hk : gkd K a = 7) (hl : (Cond.fieldLink own index "CallingLooms$TextReader" "open" "I").before args s = true) (hdg : decode cc pc = .ok (.putfield index, 3)) (kk : ∀ (H1 : Heap) (locs1 : List Loc), HR w K (gsI g a 10 v) S H1 → va_S (FR w) s.heap H1 locs1 → W p l e R s m args below meth c H1 locs1 cells slots Q (F0 m (pc + 3) ls rest)) : W p l e R s m args below meth c H locs cells slots Q (F0 m pc ls (.int v :: .ref a :: rest)) := g_putI hx hb hts inlX6 tyX6 tyX6_ok nmX6 hown hK hH hS hk (by decide) 10 (gc_6 hk) (by rw [gc_6 hk]; simp [gset_I]) rfl (by decide) hl rfl (by decide +kernel) (Nat.le_of_ble_eq_true rfl) hdg kk
theorem e_6_11 (hx : p.tables.exec = Jvm.exec) (hb : c.code = cc) (hts : ∀ w ∈ gALL, w.before args s = true) (hown : s.vm.findClass own = some m.cls) (hK : KN w s) (hH : HR w K g S H) (hk : gkd K a = 7) (hl : (Cond.fieldLink own index "CallingLooms$TextReader" "wanted" "I").before args s = true) (hdg : decode cc pc = .ok (.getfield index, 3)) (kk : W p l e R s m args below meth c H locs cells slots Q (F0 m (pc + 3) ls (.int (gI g a 11) :: rest))) : W p l e R s m args below meth c H locs cells slots Q (F0 m pc ls (.ref a :: rest)) := g_get hx hb hts inlX6 hown hK (hH.o7 hk) rfl 11 (by decide) hl rfl hdg kk
theorem p_6_11 {v : Int32} (hx : p.tables.exec = Jvm.exec) (hb : c.code = cc) (hts : ∀ w ∈ gALL, w.before args s = true) (hown : s.vm.findClass own = some m.cls) (hK : KN w s) (hH : HR w K g S H) (hS : va_S (FR w) s.heap H locs) (hk : gkd K a = 7) (hl : (Cond.fieldLink own index "CallingLooms$TextReader" "wanted" "I").before args s = true) (hdg : decode cc pc = .ok (.putfield index, 3)) (kk : ∀ (H1 : Heap) (locs1 : List Loc), HR w K (gsI g a 11 v) S H1 → va_S (FR w) s.heap H1 locs1 → W p l e R s m args below meth c H1 locs1 cells slots Q (F0 m (pc + 3) ls rest)) : W p l e R s m args below meth c H locs cells slots Q (F0 m pc ls (.int v :: .ref a :: rest)) := g_putI hx hb hts inlX6 tyX6 tyX6_ok nmX6 hown hK hH hS hk (by decide) 11 (gc_6 hk) (by rw [gc_6 hk]; simp [gset_I]) rfl (by decide) hl rfl (by decide +kernel) (Nat.le_of_ble_eq_true rfl) hdg kk
theorem e_6_12 (hx : p.tables.exec = Jvm.exec) (hb : c.code = cc) (hts : ∀ w ∈ gALL, w.before args s = true) (hown : s.vm.findClass own = some m.cls) (hK : KN w s) (hH : HR w K g S H) (hk : gkd K a = 7) (hl : (Cond.fieldLink own index "CallingLooms$TextReader" "step" "I").before args s = true) (hdg : decode cc pc = .ok (.getfield index, 3)) (kk : W p l e R s m args below meth c H locs cells slots Q (F0 m (pc + 3) ls (.int (gI g a 12) :: rest))) : W p l e R s m args below meth c H locs cells slots Q (F0 m pc ls (.ref a :: rest)) := g_get hx hb hts inlX6 hown hK (hH.o7 hk) rfl 12 (by decide) hl rfl hdg kk
theorem p_6_12 {v : Int32} (hx : p.tables.exec = Jvm.exec) (hb : c.code = cc) (hts : ∀ w ∈ gALL, w.before args s = true) (hown : s.vm.findClass own = some m.cls) (hK : KN w s) (hH : HR w K g S H) (hS : va_S (FR w) s.heap H locs) (hk : gkd K a = 7) (hl : (Cond.fieldLink own index "CallingLooms$TextReader" "step" "I").before args s = true) (hdg : decode cc pc = .ok (.putfield index, 3)) (kk : ∀ (H1 : Heap) (locs1 : List Loc), HR w K (gsI g a 12 v) S H1 → va_S (FR w) s.heap H1 locs1 → W p l e R s m args below meth c H1 locs1 cells slots Q (F0 m (pc + 3) ls rest)) : W p l e R s m args below meth c H locs cells slots Q (F0 m pc ls (.int v :: .ref a :: rest)) := g_putI hx hb hts inlX6 tyX6 tyX6_ok nmX6 hown hK hH hS hk (by decide) 12 (gc_6 hk) (by rw [gc_6 hk]; simp [gset_I]) rfl (by decide) hl rfl (by decide +kernel) (Nat.le_of_ble_eq_true rfl) hdg kk
theorem gc_7 (h : gkd K a = 8) : gcell w K g a = some (.inr (7, go8 g a)) := by unfold gcell; rw [h]; rfl
theorem e_7_0 (hx : p.tables.exec = Jvm.exec) (hb : c.code = cc) (hts : ∀ w ∈ gALL, w.before args s = true) (hown : s.vm.findClass own = some m.cls) (hK : KN w s) (hH : HR w K g S H) (hk : gkd K a = 8) (hl : (Cond.fieldLink own index "CallingLooms" "pad" "LCallingLooms$Pad;").before args s = true) (hdg : decode cc pc = .ok (.getfield index, 3)) (kk : W p l e R s m args below meth c H locs cells slots Q (F0 m (pc + 3) ls (.ref (a + 1) :: rest))) : W p l e R s m args below meth c H locs cells slots Q (F0 m pc ls (.ref a :: rest)) := g_get hx hb hts inlX7 hown hK (hH.o8 hk) rfl 0 (by decide) hl rfl hdg kk
theorem e_7_1 (hx : p.tables.exec = Jvm.exec) (hb : c.code = cc) (hts : ∀ w ∈ gALL, w.before args s = true) (hown : s.vm.findClass own = some m.cls) (hK : KN w s) (hH : HR w K g S H) (hk : gkd K a = 8) (hl : (Cond.fieldLink own index "CallingLooms" "reader" "LCallingLooms$TextReader;").before args s = true) (hdg : decode cc pc = .ok (.getfield index, 3)) (kk : W p l e R s m args below meth c H locs cells slots Q (F0 m (pc + 3) ls (.ref (a + 3) :: rest))) : W p l e R s m args below meth c H locs cells slots Q (F0 m pc ls (.ref a :: rest)) := g_get hx hb hts inlX7 hown hK (hH.o8 hk) rfl 1 (by decide) hl rfl hdg kk
theorem e_7_2 (hx : p.tables.exec = Jvm.exec) (hb : c.code = cc) (hts : ∀ w ∈ gALL, w.before args s = true) (hown : s.vm.findClass own = some m.cls) (hK : KN w s) (hH : HR w K g S H) (hk : gkd K a = 8) (hl : (Cond.fieldLink own index "CallingLooms" "loom" "LCallingLooms$Loom;").before args s = true) (hdg : decode cc pc = .ok (.getfield index, 3)) (kk : W p l e R s m args below meth c H locs cells slots Q (F0 m (pc + 3) ls (.ref (a + 10) :: rest))) : W p l e R s m args below meth c H locs cells slots Q (F0 m pc ls (.ref a :: rest)) := g_get hx hb hts inlX7 hown hK (hH.o8 hk) rfl 2 (by decide) hl rfl hdg kk
theorem e_7_3 (hx : p.tables.exec = Jvm.exec) (hb : c.code = cc) (hts : ∀ w ∈ gALL, w.before args s = true) (hown : s.vm.findClass own = some m.cls) (hK : KN w s) (hH : HR w K g S H) (hk : gkd K a = 8) (hl : (Cond.fieldLink own index "CallingLooms" "trial" "LCallingLooms$Loom;").before args s = true) (hdg : decode cc pc = .ok (.getfield index, 3)) (kk : W p l e R s m args below meth c H locs cells slots Q (F0 m (pc + 3) ls (.ref (a + 26) :: rest))) : W p l e R s m args below meth c H locs cells slots Q (F0 m pc ls (.ref a :: rest)) := g_get hx hb hts inlX7 hown hK (hH.o8 hk) rfl 3 (by decide) hl rfl hdg kk
theorem e_7_4 (hx : p.tables.exec = Jvm.exec) (hb : c.code = cc) (hts : ∀ w ∈ gALL, w.before args s = true) (hown : s.vm.findClass own = some m.cls) (hK : KN w s) (hH : HR w K g S H) (hk : gkd K a = 8) (hl : (Cond.fieldLink own index "CallingLooms" "history" "LCallingLooms$History;").before args s = true) (hdg : decode cc pc = .ok (.getfield index, 3)) (kk : W p l e R s m args below meth c H locs cells slots Q (F0 m (pc + 3) ls (.ref (a + 42) :: rest))) : W p l e R s m args below meth c H locs cells slots Q (F0 m pc ls (.ref a :: rest)) := g_get hx hb hts inlX7 hown hK (hH.o8 hk) rfl 4 (by decide) hl rfl hdg kk
theorem e_7_5 (hx : p.tables.exec = Jvm.exec) (hb : c.code = cc) (hts : ∀ w ∈ gALL, w.before args s = true) (hown : s.vm.findClass own = some m.cls) (hK : KN w s) (hH : HR w K g S H) (hk : gkd K a = 8) (hl : (Cond.fieldLink own index "CallingLooms" "slots" "[LCallingLooms$Loom;").before args s = true) (hdg : decode cc pc = .ok (.getfield index, 3)) (kk : W p l e R s m args below meth c H locs cells slots Q (F0 m (pc + 3) ls (.ref (a + 140) :: rest))) : W p l e R s m args below meth c H locs cells slots Q (F0 m pc ls (.ref a :: rest)) := g_get hx hb hts inlX7 hown hK (hH.o8 hk) rfl 5 (by decide) hl rfl hdg kk
theorem e_7_6 (hx : p.tables.exec = Jvm.exec) (hb : c.code = cc) (hts : ∀ w ∈ gALL, w.before args s = true) (hown : s.vm.findClass own = some m.cls) (hK : KN w s) (hH : HR w K g S H) (hk : gkd K a = 8) (hl : (Cond.fieldLink own index "CallingLooms" "finder" "LCallingLooms$Finder;").before args s = true) (hdg : decode cc pc = .ok (.getfield index, 3)) (kk : W p l e R s m args below meth c H locs cells slots Q (F0 m (pc + 3) ls (.ref (a + 141) :: rest))) : W p l e R s m args below meth c H locs cells slots Q (F0 m pc ls (.ref a :: rest)) := g_get hx hb hts inlX7 hown hK (hH.o8 hk) rfl 6 (by decide) hl rfl hdg kk
theorem e_8_0 (hx : p.tables.exec = Jvm.exec) (hb : c.code = cc) (hts : ∀ w ∈ gALL, w.before args s = true) (hown : s.vm.findClass own = some m.cls) (hK : KN w s) (hH : HR w K g S H) (hl : (Cond.fieldLink own index "CallingLoomsModel" "state" "[I").before args s = true) (hdg : decode cc pc = .ok (.getfield index, 3)) (kk : W p l e R s m args below meth c H locs cells slots Q (F0 m (pc + 3) ls (.ref (w.2.2.2 + 1) :: rest))) : W p l e R s m args below meth c H locs cells slots Q (F0 m pc ls (.ref w.2.2.2 :: rest)) := m_get hx hb hts inlX8 hown hK hH 0 (by decide) hl rfl hdg kk
theorem e_8_1 (hx : p.tables.exec = Jvm.exec) (hb : c.code = cc) (hts : ∀ w ∈ gALL, w.before args s = true) (hown : s.vm.findClass own = some m.cls) (hK : KN w s) (hH : HR w K g S H) (hl : (Cond.fieldLink own index "CallingLoomsModel" "spare" "[I").before args s = true) (hdg : decode cc pc = .ok (.getfield index, 3)) (kk : W p l e R s m args below meth c H locs cells slots Q (F0 m (pc + 3) ls (.ref (w.2.2.2 + 2) :: rest))) : W p l e R s m args below meth c H locs cells slots Q (F0 m pc ls (.ref w.2.2.2 :: rest)) := m_get hx hb hts inlX8 hown hK hH 1 (by decide) hl rfl hdg kk
theorem e_8_2 (hx : p.tables.exec = Jvm.exec) (hb : c.code = cc) (hts : ∀ w ∈ gALL, w.before args s = true) (hown : s.vm.findClass own = some m.cls) (hK : KN w s) (hH : HR w K g S H) (hl : (Cond.fieldLink own index "CallingLoomsModel" "history" "[I").before args s = true) (hdg : decode cc pc = .ok (.getfield index, 3)) (kk : W p l e R s m args below meth c H locs cells slots Q (F0 m (pc + 3) ls (.ref (w.2.2.2 + 3) :: rest))) : W p l e R s m args below meth c H locs cells slots Q (F0 m pc ls (.ref w.2.2.2 :: rest)) := m_get hx hb hts inlX8 hown hK hH 2 (by decide) hl rfl hdg kk
theorem e_8_3 (hx : p.tables.exec = Jvm.exec) (hb : c.code = cc) (hts : ∀ w ∈ gALL, w.before args s = true) (hown : s.vm.findClass own = some m.cls) (hK : KN w s) (hH : HR w K g S H) (hl : (Cond.fieldLink own index "CallingLoomsModel" "states" "I").before args s = true) (hdg : decode cc pc = .ok (.getfield index, 3)) (kk : W p l e R s m args below meth c H locs cells slots Q (F0 m (pc + 3) ls (.int (S 0 3) :: rest))) : W p l e R s m args below meth c H locs cells slots Q (F0 m pc ls (.ref w.2.2.2 :: rest)) := m_get hx hb hts inlX8 hown hK hH 3 (by decide) hl rfl hdg kk
theorem p_8_3 {v : Int32} (hx : p.tables.exec = Jvm.exec) (hb : c.code = cc) (hts : ∀ w ∈ gALL, w.before args s = true) (hown : s.vm.findClass own = some m.cls) (hK : KN w s) (hH : HR w K g S H) (hS : va_S (FR w) s.heap H locs) (hl : (Cond.fieldLink own index "CallingLoomsModel" "states" "I").before args s = true) (hdg : decode cc pc = .ok (.putfield index, 3)) (kk : ∀ (H1 : Heap) (locs1 : List Loc), HR w K g (ssI S 0 3 v) H1 → va_S (FR w) s.heap H1 locs1 → W p l e R s m args below meth c H1 locs1 cells slots Q (F0 m (pc + 3) ls rest)) : W p l e R s m args below meth c H locs cells slots Q (F0 m pc ls (.int v :: .ref w.2.2.2 :: rest)) := m_put hx hb hts inlX8 hown hK hH hS 3 (by simp [ssI, va_up, upd]) (by decide) hl rfl (by decide +kernel) hdg kk
theorem e_8_4 (hx : p.tables.exec = Jvm.exec) (hb : c.code = cc) (hts : ∀ w ∈ gALL, w.before args s = true) (hown : s.vm.findClass own = some m.cls) (hK : KN w s) (hH : HR w K g S H) (hl : (Cond.fieldLink own index "CallingLoomsModel" "slots" "[I").before args s = true) (hdg : decode cc pc = .ok (.getfield index, 3)) (kk : W p l e R s m args below meth c H locs cells slots Q (F0 m (pc + 3) ls (.ref (w.2.2.2 + 4) :: rest))) : W p l e R s m args below meth c H locs cells slots Q (F0 m pc ls (.ref w.2.2.2 :: rest)) := m_get hx hb hts inlX8 hown hK hH 4 (by decide) hl rfl hdg kk
theorem e_8_5 (hx : p.tables.exec = Jvm.exec) (hb : c.code = cc) (hts : ∀ w ∈ gALL, w.before args s = true) (hown : s.vm.findClass own = some m.cls) (hK : KN w s) (hH : HR w K g S H) (hl : (Cond.fieldLink own index "CallingLoomsModel" "isSaved" "[I").before args s = true) (hdg : decode cc pc = .ok (.getfield index, 3)) (kk : W p l e R s m args below meth c H locs cells slots Q (F0 m (pc + 3) ls (.ref (w.2.2.2 + 5) :: rest))) : W p l e R s m args below meth c H locs cells slots Q (F0 m pc ls (.ref w.2.2.2 :: rest)) := m_get hx hb hts inlX8 hown hK hH 5 (by decide) hl rfl hdg kk
theorem e_8_6 (hx : p.tables.exec = Jvm.exec) (hb : c.code = cc) (hts : ∀ w ∈ gALL, w.before args s = true) (hown : s.vm.findClass own = some m.cls) (hK : KN w s) (hH : HR w K g S H) (hl : (Cond.fieldLink own index "CallingLoomsModel" "pad" "[I").before args s = true) (hdg : decode cc pc = .ok (.getfield index, 3)) (kk : W p l e R s m args below meth c H locs cells slots Q (F0 m (pc + 3) ls (.ref (w.2.2.2 + 6) :: rest))) : W p l e R s m args below meth c H locs cells slots Q (F0 m pc ls (.ref w.2.2.2 :: rest)) := m_get hx hb hts inlX8 hown hK hH 6 (by decide) hl rfl hdg kk
theorem e_8_7 (hx : p.tables.exec = Jvm.exec) (hb : c.code = cc) (hts : ∀ w ∈ gALL, w.before args s = true) (hown : s.vm.findClass own = some m.cls) (hK : KN w s) (hH : HR w K g S H) (hl : (Cond.fieldLink own index "CallingLoomsModel" "length" "I").before args s = true) (hdg : decode cc pc = .ok (.getfield index, 3)) (kk : W p l e R s m args below meth c H locs cells slots Q (F0 m (pc + 3) ls (.int (S 0 7) :: rest))) : W p l e R s m args below meth c H locs cells slots Q (F0 m pc ls (.ref w.2.2.2 :: rest)) := m_get hx hb hts inlX8 hown hK hH 7 (by decide) hl rfl hdg kk
theorem p_8_7 {v : Int32} (hx : p.tables.exec = Jvm.exec) (hb : c.code = cc) (hts : ∀ w ∈ gALL, w.before args s = true) (hown : s.vm.findClass own = some m.cls) (hK : KN w s) (hH : HR w K g S H) (hS : va_S (FR w) s.heap H locs) (hl : (Cond.fieldLink own index "CallingLoomsModel" "length" "I").before args s = true) (hdg : decode cc pc = .ok (.putfield index, 3)) (kk : ∀ (H1 : Heap) (locs1 : List Loc), HR w K g (ssI S 0 7 v) H1 → va_S (FR w) s.heap H1 locs1 → W p l e R s m args below meth c H1 locs1 cells slots Q (F0 m (pc + 3) ls rest)) : W p l e R s m args below meth c H locs cells slots Q (F0 m pc ls (.int v :: .ref w.2.2.2 :: rest)) := m_put hx hb hts inlX8 hown hK hH hS 7 (by simp [ssI, va_up, upd]) (by decide) hl rfl (by decide +kernel) hdg kk
theorem e_8_8 (hx : p.tables.exec = Jvm.exec) (hb : c.code = cc) (hts : ∀ w ∈ gALL, w.before args s = true) (hown : s.vm.findClass own = some m.cls) (hK : KN w s) (hH : HR w K g S H) (hl : (Cond.fieldLink own index "CallingLoomsModel" "at" "I").before args s = true) (hdg : decode cc pc = .ok (.getfield index, 3)) (kk : W p l e R s m args below meth c H locs cells slots Q (F0 m (pc + 3) ls (.int (S 0 8) :: rest))) : W p l e R s m args below meth c H locs cells slots Q (F0 m pc ls (.ref w.2.2.2 :: rest)) := m_get hx hb hts inlX8 hown hK hH 8 (by decide) hl rfl hdg kk
theorem p_8_8 {v : Int32} (hx : p.tables.exec = Jvm.exec) (hb : c.code = cc) (hts : ∀ w ∈ gALL, w.before args s = true) (hown : s.vm.findClass own = some m.cls) (hK : KN w s) (hH : HR w K g S H) (hS : va_S (FR w) s.heap H locs) (hl : (Cond.fieldLink own index "CallingLoomsModel" "at" "I").before args s = true) (hdg : decode cc pc = .ok (.putfield index, 3)) (kk : ∀ (H1 : Heap) (locs1 : List Loc), HR w K g (ssI S 0 8 v) H1 → va_S (FR w) s.heap H1 locs1 → W p l e R s m args below meth c H1 locs1 cells slots Q (F0 m (pc + 3) ls rest)) : W p l e R s m args below meth c H locs cells slots Q (F0 m pc ls (.int v :: .ref w.2.2.2 :: rest)) := m_put hx hb hts inlX8 hown hK hH hS 8 (by simp [ssI, va_up, upd]) (by decide) hl rfl (by decide +kernel) hdg kk
theorem e_8_9 (hx : p.tables.exec = Jvm.exec) (hb : c.code = cc) (hts : ∀ w ∈ gALL, w.before args s = true) (hown : s.vm.findClass own = some m.cls) (hK : KN w s) (hH : HR w K g S H) (hl : (Cond.fieldLink own index "CallingLoomsModel" "brackets" "I").before args s = true) (hdg : decode cc pc = .ok (.getfield index, 3)) (kk : W p l e R s m args below meth c H locs cells slots Q (F0 m (pc + 3) ls (.int (S 0 9) :: rest))) : W p l e R s m args below meth c H locs cells slots Q (F0 m pc ls (.ref w.2.2.2 :: rest)) := m_get hx hb hts inlX8 hown hK hH 9 (by decide) hl rfl hdg kk
theorem p_8_9 {v : Int32} (hx : p.tables.exec = Jvm.exec) (hb : c.code = cc) (hts : ∀ w ∈ gALL, w.before args s = true) (hown : s.vm.findClass own = some m.cls) (hK : KN w s) (hH : HR w K g S H) (hS : va_S (FR w) s.heap H locs) (hl : (Cond.fieldLink own index "CallingLoomsModel" "brackets" "I").before args s = true) (hdg : decode cc pc = .ok (.putfield index, 3)) (kk : ∀ (H1 : Heap) (locs1 : List Loc), HR w K g (ssI S 0 9 v) H1 → va_S (FR w) s.heap H1 locs1 → W p l e R s m args below meth c H1 locs1 cells slots Q (F0 m (pc + 3) ls rest)) : W p l e R s m args below meth c H locs cells slots Q (F0 m pc ls (.int v :: .ref w.2.2.2 :: rest)) := m_put hx hb hts inlX8 hown hK hH hS 9 (by simp [ssI, va_up, upd]) (by decide) hl rfl (by decide +kernel) hdg kk
theorem e_8_10 (hx : p.tables.exec = Jvm.exec) (hb : c.code = cc) (hts : ∀ w ∈ gALL, w.before args s = true) (hown : s.vm.findClass own = some m.cls) (hK : KN w s) (hH : HR w K g S H) (hl : (Cond.fieldLink own index "CallingLoomsModel" "counts" "[I").before args s = true) (hdg : decode cc pc = .ok (.getfield index, 3)) (kk : W p l e R s m args below meth c H locs cells slots Q (F0 m (pc + 3) ls (.ref (w.2.2.2 + 7) :: rest))) : W p l e R s m args below meth c H locs cells slots Q (F0 m pc ls (.ref w.2.2.2 :: rest)) := m_get hx hb hts inlX8 hown hK hH 10 (by decide) hl rfl hdg kk
theorem e_8_11 (hx : p.tables.exec = Jvm.exec) (hb : c.code = cc) (hts : ∀ w ∈ gALL, w.before args s = true) (hown : s.vm.findClass own = some m.cls) (hK : KN w s) (hH : HR w K g S H) (hl : (Cond.fieldLink own index "CallingLoomsModel" "deep" "[I").before args s = true) (hdg : decode cc pc = .ok (.getfield index, 3)) (kk : W p l e R s m args below meth c H locs cells slots Q (F0 m (pc + 3) ls (.ref (w.2.2.2 + 8) :: rest))) : W p l e R s m args below meth c H locs cells slots Q (F0 m pc ls (.ref w.2.2.2 :: rest)) := m_get hx hb hts inlX8 hown hK hH 11 (by decide) hl rfl hdg kk
theorem e_8_12 (hx : p.tables.exec = Jvm.exec) (hb : c.code = cc) (hts : ∀ w ∈ gALL, w.before args s = true) (hown : s.vm.findClass own = some m.cls) (hK : KN w s) (hH : HR w K g S H) (hl : (Cond.fieldLink own index "CallingLoomsModel" "began" "[I").before args s = true) (hdg : decode cc pc = .ok (.getfield index, 3)) (kk : W p l e R s m args below meth c H locs cells slots Q (F0 m (pc + 3) ls (.ref (w.2.2.2 + 9) :: rest))) : W p l e R s m args below meth c H locs cells slots Q (F0 m pc ls (.ref w.2.2.2 :: rest)) := m_get hx hb hts inlX8 hown hK hH 12 (by decide) hl rfl hdg kk
theorem e_8_13 (hx : p.tables.exec = Jvm.exec) (hb : c.code = cc) (hts : ∀ w ∈ gALL, w.before args s = true) (hown : s.vm.findClass own = some m.cls) (hK : KN w s) (hH : HR w K g S H) (hl : (Cond.fieldLink own index "CallingLoomsModel" "times" "[I").before args s = true) (hdg : decode cc pc = .ok (.getfield index, 3)) (kk : W p l e R s m args below meth c H locs cells slots Q (F0 m (pc + 3) ls (.ref (w.2.2.2 + 10) :: rest))) : W p l e R s m args below meth c H locs cells slots Q (F0 m pc ls (.ref w.2.2.2 :: rest)) := m_get hx hb hts inlX8 hown hK hH 13 (by decide) hl rfl hdg kk
end FIELDS
theorem i0_copyFrom : MV yX0_copyFrom cX0_copyFrom 2 none 1 := ⟨wd_150, wd_148, wd_149, wd_67, by decide +kernel, by decide +kernel, by decide +kernel⟩
theorem i0_timesOn : MV yX0_timesOn cX0_timesOn 4 (some .int) 1 := ⟨wd_576, wd_574, wd_575, wd_67, by decide +kernel, by decide +kernel, by decide +kernel⟩
theorem i0_placeOf : MV yX0_placeOf cX0_placeOf 2 (some .int) 1 := ⟨wd_599, wd_597, wd_598, wd_67, by decide +kernel, by decide +kernel, by decide +kernel⟩
theorem i0_topColour : MV yX0_topColour cX0_topColour 1 (some .int) 0 := ⟨wd_399, wd_397, wd_398, wd_67, by decide +kernel, by decide +kernel, by decide +kernel⟩
theorem i0_stepLetter : MV yX0_stepLetter cX0_stepLetter 1 (some .int) 0 := ⟨wd_387, wd_385, wd_386, wd_67, by decide +kernel, by decide +kernel, by decide +kernel⟩
theorem i0_stepDigit : MV yX0_stepDigit cX0_stepDigit 1 (some .int) 0 := ⟨wd_403, wd_401, wd_402, wd_67, by decide +kernel, by decide +kernel, by decide +kernel⟩
theorem i0_layOn : MV yX0_layOn cX0_layOn 4 none 3 := ⟨wd_347, wd_345, wd_346, wd_67, by decide +kernel, by decide +kernel, by decide +kernel⟩
theorem i0_dye : MV yX0_dye cX0_dye 2 none 1 := ⟨wd_436, wd_434, wd_435, wd_67, by decide +kernel, by decide +kernel, by decide +kernel⟩
theorem i0_passOver : MV yX0_passOver cX0_passOver 2 none 0 := ⟨wd_415, wd_413, wd_414, wd_67, by decide +kernel, by decide +kernel, by decide +kernel⟩
theorem i0_beginPart : MV yX0_beginPart cX0_beginPart 2 none 0 := ⟨wd_440, wd_438, wd_439, wd_67, by decide +kernel, by decide +kernel, by decide +kernel⟩
theorem i0_leaveEnds : MV yX0_leaveEnds cX0_leaveEnds 3 none 0 := ⟨wd_452, wd_450, wd_451, wd_67, by decide +kernel, by decide +kernel, by decide +kernel⟩
theorem i0_placeBehind : MV yX0_placeBehind cX0_placeBehind 1 (some .int) 0 := ⟨wd_420, wd_418, wd_419, wd_67, by decide +kernel, by decide +kernel, by decide +kernel⟩
theorem i0_arriveAt : MV yX0_arriveAt cX0_arriveAt 3 none 1 := ⟨wd_428, wd_426, wd_427, wd_67, by decide +kernel, by decide +kernel, by decide +kernel⟩
theorem i0_spotOf : MV yX0_spotOf cX0_spotOf 2 (some .int) 1 := ⟨wd_391, wd_389, wd_390, wd_67, by decide +kernel, by decide +kernel, by decide +kernel⟩
theorem i1_signAt : MV yX1_signAt cX1_signAt 2 (some .int) 1 := ⟨wd_395, wd_393, wd_394, wd_235, by decide +kernel, by decide +kernel, by decide +kernel⟩
theorem i1_timesAt : MV yX1_timesAt cX1_timesAt 2 (some .int) 1 := ⟨wd_351, wd_349, wd_350, wd_235, by decide +kernel, by decide +kernel, by decide +kernel⟩
theorem i1_digitAt : MV yX1_digitAt cX1_digitAt 2 (some .int) 1 := ⟨wd_407, wd_405, wd_406, wd_235, by decide +kernel, by decide +kernel, by decide +kernel⟩
theorem i1_insideOf : MV yX1_insideOf cX1_insideOf 2 (some .int) 1 := ⟨wd_444, wd_442, wd_443, wd_235, by decide +kernel, by decide +kernel, by decide +kernel⟩
theorem i1_behind : MV yX1_behind cX1_behind 2 (some .int) 1 := ⟨wd_424, wd_422, wd_423, wd_235, by decide +kernel, by decide +kernel, by decide +kernel⟩
theorem i2_written : MS yX2_written cX2_written 3 (some .int) 1 := ⟨wd_709, wd_708, wd_33, by decide +kernel, by decide +kernel, by decide +kernel⟩
theorem i2_callersOf : MS yX2_callersOf cX2_callersOf 4 (some .int) 2 := ⟨wd_306, wd_305, wd_33, by decide +kernel, by decide +kernel, by decide +kernel⟩
theorem i2_calledBy : MS yX2_calledBy cX2_calledBy 2 (some .int) 2 := ⟨wd_309, wd_308, wd_33, by decide +kernel, by decide +kernel, by decide +kernel⟩
theorem i2_holds : MS yX2_holds cX2_holds 2 (some .boolean) 2 := ⟨wd_313, wd_312, wd_33, by decide +kernel, by decide +kernel, by decide +kernel⟩
theorem i2_reachedFrom : MS yX2_reachedFrom cX2_reachedFrom 5 (some .int) 2 := ⟨wd_734, wd_733, wd_33, by decide +kernel, by decide +kernel, by decide +kernel⟩
theorem i2_troubleOf : MS yX2_troubleOf cX2_troubleOf 4 (some .int) 2 := ⟨wd_731, wd_730, wd_33, by decide +kernel, by decide +kernel, by decide +kernel⟩
theorem i2_depthOf : MV yX2_depthOf cX2_depthOf 5 (some .int) 2 := ⟨wd_817, wd_815, wd_816, wd_33, by decide +kernel, by decide +kernel, by decide +kernel⟩
theorem i2_highestOf : MV yX2_highestOf cX2_highestOf 4 (some .int) 1 := ⟨wd_821, wd_819, wd_820, wd_33, by decide +kernel, by decide +kernel, by decide +kernel⟩
theorem i2_picksOf : MV yX2_picksOf cX2_picksOf 9 (some .int) 3 := ⟨wd_739, wd_737, wd_738, wd_33, by decide +kernel, by decide +kernel, by decide +kernel⟩
theorem i2_weighCard : MV yX2_weighCard cX2_weighCard 5 none 3 := ⟨wd_743, wd_741, wd_742, wd_33, by decide +kernel, by decide +kernel, by decide +kernel⟩
theorem i2_weigh : MS yX2_weigh cX2_weigh 12 (some .int) 6 := ⟨wd_746, wd_745, wd_33, by decide +kernel, by decide +kernel, by decide +kernel⟩
theorem i2_colourBehind : MS yX2_colourBehind cX2_colourBehind 8 (some .int) 3 := ⟨wd_755, wd_754, wd_33, by decide +kernel, by decide +kernel, by decide +kernel⟩
theorem i3_keep : MV yX3_keep cX3_keep 2 none 1 := ⟨wd_124, wd_122, wd_123, wd_28, by decide +kernel, by decide +kernel, by decide +kernel⟩
theorem i3_dropOldest : MV yX3_dropOldest cX3_dropOldest 3 none 0 := ⟨wd_128, wd_126, wd_127, wd_28, by decide +kernel, by decide +kernel, by decide +kernel⟩
theorem i3_takeBack : MV yX3_takeBack cX3_takeBack 2 none 1 := ⟨wd_915, wd_913, wd_914, wd_28, by decide +kernel, by decide +kernel, by decide +kernel⟩
theorem i4_copyFrom : MV yX4_copyFrom cX4_copyFrom 2 none 1 := ⟨wd_132, wd_130, wd_131, wd_23, by decide +kernel, by decide +kernel, by decide +kernel⟩
theorem i4_beginWith : MV yX4_beginWith cX4_beginWith 3 (some .int) 1 := ⟨wd_337, wd_335, wd_336, wd_23, by decide +kernel, by decide +kernel, by decide +kernel⟩
theorem i4_layOnStack : MV yX4_layOnStack cX4_layOnStack 3 none 2 := ⟨wd_342, wd_340, wd_341, wd_23, by decide +kernel, by decide +kernel, by decide +kernel⟩
theorem i4_tieThread : MV yX4_tieThread cX4_tieThread 3 (some .int) 2 := ⟨wd_548, wd_546, wd_547, wd_23, by decide +kernel, by decide +kernel, by decide +kernel⟩
theorem i4_goOn : MV yX4_goOn cX4_goOn 3 (some .int) 1 := ⟨wd_375, wd_373, wd_374, wd_23, by decide +kernel, by decide +kernel, by decide +kernel⟩
theorem i4_weaveNext : MV yX4_weaveNext cX4_weaveNext 4 (some .int) 0 := ⟨wd_379, wd_377, wd_378, wd_23, by decide +kernel, by decide +kernel, by decide +kernel⟩
theorem i4_hindranceAfter : MV yX4_hindranceAfter cX4_hindranceAfter 4 (some .int) 1 := ⟨wd_383, wd_381, wd_382, wd_23, by decide +kernel, by decide +kernel, by decide +kernel⟩
theorem i4_weavePick : MV yX4_weavePick cX4_weavePick 2 none 0 := ⟨wd_411, wd_409, wd_410, wd_23, by decide +kernel, by decide +kernel, by decide +kernel⟩
theorem i4_doStep : MV yX4_doStep cX4_doStep 2 none 1 := ⟨wd_432, wd_430, wd_431, wd_23, by decide +kernel, by decide +kernel, by decide +kernel⟩
theorem i4_isShort : MV yX4_isShort cX4_isShort 2 (some .boolean) 1 := ⟨wd_448, wd_446, wd_447, wd_23, by decide +kernel, by decide +kernel, by decide +kernel⟩
theorem i4_clothPicks : MV yX4_clothPicks cX4_clothPicks 4 (some .int) 1 := ⟨wd_615, wd_613, wd_614, wd_23, by decide +kernel, by decide +kernel, by decide +kernel⟩
theorem i4_longestRow : MV yX4_longestRow cX4_longestRow 5 (some .int) 1 := ⟨wd_619, wd_617, wd_618, wd_23, by decide +kernel, by decide +kernel, by decide +kernel⟩
theorem i4_endRank : MV yX4_endRank cX4_endRank 5 (some .int) 1 := ⟨wd_648, wd_646, wd_647, wd_23, by decide +kernel, by decide +kernel, by decide +kernel⟩
theorem i4_clothRank : MV yX4_clothRank cX4_clothRank 6 (some .int) 1 := ⟨wd_664, wd_662, wd_663, wd_23, by decide +kernel, by decide +kernel, by decide +kernel⟩
theorem i5_charactersIn : MS yX5_charactersIn cX5_charactersIn 7 (some .int) 1 := ⟨wd_875, wd_874, wd_15, by decide +kernel, by decide +kernel, by decide +kernel⟩
theorem i5_append : MV yX5_append cX5_append 5 none 2 := ⟨wd_880, wd_878, wd_879, wd_15, by decide +kernel, by decide +kernel, by decide +kernel⟩
theorem i5_takeOver : MV yX5_takeOver cX5_takeOver 2 none 1 := ⟨wd_681, wd_679, wd_680, wd_15, by decide +kernel, by decide +kernel, by decide +kernel⟩
theorem i6_faultOf : MV yX6_faultOf cX6_faultOf 4 (some .int) 1 := ⟨wd_184, wd_182, wd_183, wd_19, by decide +kernel, by decide +kernel, by decide +kernel⟩
theorem i6_readText : MV yX6_readText cX6_readText 1 (some (.object "CallingLooms$CardText")) 0 := ⟨wd_232, wd_230, wd_231, wd_19, by decide +kernel, by decide +kernel, by decide +kernel⟩
theorem i6_takes : MV yX6_takes cX6_takes 3 (some .boolean) 2 := ⟨wd_198, wd_196, wd_197, wd_19, by decide +kernel, by decide +kernel, by decide +kernel⟩
theorem i6_takesStep : MV yX6_takesStep cX6_takesStep 3 (some .boolean) 2 := ⟨wd_202, wd_200, wd_201, wd_19, by decide +kernel, by decide +kernel, by decide +kernel⟩
theorem i6_isCount : MS yX6_isCount cX6_isCount 1 (some .boolean) 1 := ⟨wd_209, wd_208, wd_19, by decide +kernel, by decide +kernel, by decide +kernel⟩
theorem i6_takesPickCount : MV yX6_takesPickCount cX6_takesPickCount 3 (some .boolean) 2 := ⟨wd_213, wd_211, wd_212, wd_19, by decide +kernel, by decide +kernel, by decide +kernel⟩
theorem i6_takesPartCount : MV yX6_takesPartCount cX6_takesPartCount 2 (some .boolean) 1 := ⟨wd_217, wd_215, wd_216, wd_19, by decide +kernel, by decide +kernel, by decide +kernel⟩
theorem i6_takesDigit : MV yX6_takesDigit cX6_takesDigit 3 (some .boolean) 2 := ⟨wd_221, wd_219, wd_220, wd_19, by decide +kernel, by decide +kernel, by decide +kernel⟩
theorem i6_takesBracket : MV yX6_takesBracket cX6_takesBracket 3 (some .boolean) 2 := ⟨wd_225, wd_223, wd_224, wd_19, by decide +kernel, by decide +kernel, by decide +kernel⟩
theorem i6_takesEnd : MV yX6_takesEnd cX6_takesEnd 2 (some .boolean) 1 := ⟨wd_206, wd_204, wd_205, wd_19, by decide +kernel, by decide +kernel, by decide +kernel⟩
theorem i7_set : MV yX7_set cX7_set 4 (some .int) 2 := ⟨wd_114, wd_112, wd_113, wd_2, by decide +kernel, by decide +kernel, by decide +kernel⟩
theorem i7_card : MV yX7_card cX7_card 3 (some .int) 1 := ⟨wd_177, wd_175, wd_176, wd_2, by decide +kernel, by decide +kernel, by decide +kernel⟩
theorem i7_blank : MV yX7_blank cX7_blank 2 (some .int) 1 := ⟨wd_303, wd_301, wd_302, wd_2, by decide +kernel, by decide +kernel, by decide +kernel⟩
theorem i7_begin : MV yX7_begin cX7_begin 2 (some .int) 1 := ⟨wd_333, wd_331, wd_332, wd_2, by decide +kernel, by decide +kernel, by decide +kernel⟩
theorem i7_weave : MV yX7_weave cX7_weave 2 (some .int) 1 := ⟨wd_371, wd_369, wd_370, wd_2, by decide +kernel, by decide +kernel, by decide +kernel⟩
theorem i7_skip : MV yX7_skip cX7_skip 1 (some .int) 0 := ⟨wd_532, wd_530, wd_531, wd_2, by decide +kernel, by decide +kernel, by decide +kernel⟩
theorem i7_tie : MV yX7_tie cX7_tie 3 (some .int) 2 := ⟨wd_544, wd_542, wd_543, wd_2, by decide +kernel, by decide +kernel, by decide +kernel⟩
theorem i7_cut : MV yX7_cut cX7_cut 2 (some .int) 0 := ⟨wd_559, wd_557, wd_558, wd_2, by decide +kernel, by decide +kernel, by decide +kernel⟩
theorem i7_of : MV yX7_of cX7_of 4 (some .int) 2 := ⟨wd_568, wd_566, wd_567, wd_2, by decide +kernel, by decide +kernel, by decide +kernel⟩
theorem i7_stack : MV yX7_stack cX7_stack 4 (some .int) 2 := ⟨wd_592, wd_590, wd_591, wd_2, by decide +kernel, by decide +kernel, by decide +kernel⟩
theorem i7_thread : MV yX7_thread cX7_thread 3 (some .int) 2 := ⟨wd_607, wd_605, wd_606, wd_2, by decide +kernel, by decide +kernel, by decide +kernel⟩
theorem i7_pick : MV yX7_pick cX7_pick 2 (some .int) 1 := ⟨wd_635, wd_633, wd_634, wd_2, by decide +kernel, by decide +kernel, by decide +kernel⟩
theorem i7_byEnd : MV yX7_byEnd cX7_byEnd 3 (some .int) 1 := ⟨wd_644, wd_642, wd_643, wd_2, by decide +kernel, by decide +kernel, by decide +kernel⟩
theorem i7_byCloth : MV yX7_byCloth cX7_byCloth 3 (some .int) 1 := ⟨wd_660, wd_658, wd_659, wd_2, by decide +kernel, by decide +kernel, by decide +kernel⟩
theorem i7_write : MV yX7_write cX7_write 3 (some .int) 1 := ⟨wd_677, wd_675, wd_676, wd_2, by decide +kernel, by decide +kernel, by decide +kernel⟩
theorem i7_sign : MV yX7_sign cX7_sign 2 (some .int) 1 := ⟨wd_693, wd_691, wd_692, wd_2, by decide +kernel, by decide +kernel, by decide +kernel⟩
theorem i7_count : MV yX7_count cX7_count 2 (some .int) 1 := ⟨wd_702, wd_700, wd_701, wd_2, by decide +kernel, by decide +kernel, by decide +kernel⟩
theorem i7_picks : MV yX7_picks cX7_picks 4 (some .int) 2 := ⟨wd_728, wd_726, wd_727, wd_2, by decide +kernel, by decide +kernel, by decide +kernel⟩
theorem i7_depth : MV yX7_depth cX7_depth 3 (some .int) 1 := ⟨wd_813, wd_811, wd_812, wd_2, by decide +kernel, by decide +kernel, by decide +kernel⟩
theorem i7_reaches : MV yX7_reaches cX7_reaches 2 (some .int) 1 := ⟨wd_834, wd_832, wd_833, wd_2, by decide +kernel, by decide +kernel, by decide +kernel⟩
theorem i7_stop : MV yX7_stop cX7_stop 3 (some .int) 1 := ⟨wd_843, wd_841, wd_842, wd_2, by decide +kernel, by decide +kernel, by decide +kernel⟩
theorem i7_ahead : MV yX7_ahead cX7_ahead 3 (some .int) 1 := ⟨wd_860, wd_858, wd_859, wd_2, by decide +kernel, by decide +kernel, by decide +kernel⟩
theorem i7_put : MV yX7_put cX7_put 4 (some .int) 1 := ⟨wd_872, wd_870, wd_871, wd_2, by decide +kernel, by decide +kernel, by decide +kernel⟩
theorem i7_wipe : MV yX7_wipe cX7_wipe 2 (some .int) 0 := ⟨wd_895, wd_893, wd_894, wd_2, by decide +kernel, by decide +kernel, by decide +kernel⟩
theorem i7_fault : MV yX7_fault cX7_fault 1 (some .int) 0 := ⟨wd_903, wd_901, wd_902, wd_2, by decide +kernel, by decide +kernel, by decide +kernel⟩
theorem i7_undo : MV yX7_undo cX7_undo 1 (some .int) 0 := ⟨wd_911, wd_909, wd_910, wd_2, by decide +kernel, by decide +kernel, by decide +kernel⟩
theorem i7_save : MV yX7_save cX7_save 2 (some .int) 1 := ⟨wd_923, wd_921, wd_922, wd_2, by decide +kernel, by decide +kernel, by decide +kernel⟩
theorem i7_restore : MV yX7_restore cX7_restore 2 (some .int) 1 := ⟨wd_934, wd_932, wd_933, wd_2, by decide +kernel, by decide +kernel, by decide +kernel⟩
theorem i7_inRange : MS yX7_inRange cX7_inRange 2 (some .boolean) 2 := ⟨wd_120, wd_119, wd_2, by decide +kernel, by decide +kernel, by decide +kernel⟩
theorem i7_sum : MS yX7_sum cX7_sum 6 (some .int) 1 := ⟨wd_712, wd_711, wd_2, by decide +kernel, by decide +kernel, by decide +kernel⟩
theorem i7_copyRow : MS yX7_copyRow cX7_copyRow 2 none 2 := ⟨wd_145, wd_144, wd_2, by decide +kernel, by decide +kernel, by decide +kernel⟩
theorem i7_copyTexts : MS yX7_copyTexts cX7_copyTexts 4 none 2 := ⟨wd_142, wd_141, wd_2, by decide +kernel, by decide +kernel, by decide +kernel⟩
theorem i8_within : MS yX8_within cX8_within 3 (some .boolean) 3 := ⟨wd_157, wd_156, wd_5, by decide +kernel, by decide +kernel, by decide +kernel⟩
theorem i8_isCard : MS yX8_isCard cX8_isCard 1 (some .boolean) 1 := ⟨wd_266, wd_265, wd_5, by decide +kernel, by decide +kernel, by decide +kernel⟩
theorem i8_isColour : MS yX8_isColour cX8_isColour 1 (some .boolean) 1 := ⟨wd_555, wd_554, wd_5, by decide +kernel, by decide +kernel, by decide +kernel⟩
theorem i8_hasText : MV yX8_hasText cX8_hasText 2 (some .boolean) 1 := ⟨wd_321, wd_319, wd_320, wd_5, by decide +kernel, by decide +kernel, by decide +kernel⟩
theorem i8_textAt : MV yX8_textAt cX8_textAt 3 (some .int) 2 := ⟨wd_296, wd_294, wd_295, wd_5, by decide +kernel, by decide +kernel, by decide +kernel⟩
theorem i8_putAside : MV yX8_putAside cX8_putAside 2 none 0 := ⟨wd_168, wd_166, wd_167, wd_5, by decide +kernel, by decide +kernel, by decide +kernel⟩
theorem i8_takeBack : MV yX8_takeBack cX8_takeBack 2 none 0 := ⟨wd_856, wd_854, wd_855, wd_5, by decide +kernel, by decide +kernel, by decide +kernel⟩
theorem i8_push : MV yX8_push cX8_push 2 none 0 := ⟨wd_172, wd_170, wd_171, wd_5, by decide +kernel, by decide +kernel, by decide +kernel⟩
theorem i8_record : MV yX8_record cX8_record 1 none 0 := ⟨wd_164, wd_162, wd_163, wd_5, by decide +kernel, by decide +kernel, by decide +kernel⟩
theorem i8_undo : MV yX8_undo cX8_undo 2 (some .int) 0 := ⟨wd_919, wd_917, wd_918, wd_5, by decide +kernel, by decide +kernel, by decide +kernel⟩
theorem i8_isSlot : MS yX8_isSlot cX8_isSlot 1 (some .boolean) 1 := ⟨wd_930, wd_929, wd_5, by decide +kernel, by decide +kernel, by decide +kernel⟩
theorem i8_save : MV yX8_save cX8_save 3 (some .int) 1 := ⟨wd_927, wd_925, wd_926, wd_5, by decide +kernel, by decide +kernel, by decide +kernel⟩
theorem i8_restore : MV yX8_restore cX8_restore 3 (some .int) 1 := ⟨wd_938, wd_936, wd_937, wd_5, by decide +kernel, by decide +kernel, by decide +kernel⟩
theorem i8_code : MV yX8_code cX8_code 1 (some .int) 0 := ⟨wd_276, wd_274, wd_275, wd_5, by decide +kernel, by decide +kernel, by decide +kernel⟩
theorem i8_takesDigit : MV yX8_takesDigit cX8_takesDigit 4 (some .boolean) 2 := ⟨wd_284, wd_282, wd_283, wd_5, by decide +kernel, by decide +kernel, by decide +kernel⟩
theorem i8_opens : MV yX8_opens cX8_opens 2 (some .boolean) 0 := ⟨wd_288, wd_286, wd_287, wd_5, by decide +kernel, by decide +kernel, by decide +kernel⟩
theorem i8_readsStep : MV yX8_readsStep cX8_readsStep 2 (some .boolean) 0 := ⟨wd_280, wd_278, wd_279, wd_5, by decide +kernel, by decide +kernel, by decide +kernel⟩
theorem i8_findFault : MV yX8_findFault cX8_findFault 2 (some .int) 0 := ⟨wd_270, wd_268, wd_269, wd_5, by decide +kernel, by decide +kernel, by decide +kernel⟩
theorem i8_fault : MV yX8_fault cX8_fault 1 (some .int) 0 := ⟨wd_907, wd_905, wd_906, wd_5, by decide +kernel, by decide +kernel, by decide +kernel⟩
theorem i8_isCharacter : MS yX8_isCharacter cX8_isCharacter 1 (some .boolean) 1 := ⟨wd_891, wd_890, wd_5, by decide +kernel, by decide +kernel, by decide +kernel⟩
theorem i8_charactersIn : MS yX8_charactersIn cX8_charactersIn 5 (some .int) 1 := ⟨wd_888, wd_887, wd_5, by decide +kernel, by decide +kernel, by decide +kernel⟩
theorem i8_put : MV yX8_put cX8_put 5 (some .int) 1 := ⟨wd_884, wd_882, wd_883, wd_5, by decide +kernel, by decide +kernel, by decide +kernel⟩
theorem i8_wipe : MV yX8_wipe cX8_wipe 2 (some .int) 0 := ⟨wd_899, wd_897, wd_898, wd_5, by decide +kernel, by decide +kernel, by decide +kernel⟩
theorem i8_write : MV yX8_write cX8_write 3 (some .int) 1 := ⟨wd_689, wd_687, wd_688, wd_5, by decide +kernel, by decide +kernel, by decide +kernel⟩
theorem i8_sign : MV yX8_sign cX8_sign 2 (some .int) 1 := ⟨wd_698, wd_696, wd_697, wd_5, by decide +kernel, by decide +kernel, by decide +kernel⟩
theorem i8_isLetter : MS yX8_isLetter cX8_isLetter 1 (some .boolean) 1 := ⟨wd_299, wd_298, wd_5, by decide +kernel, by decide +kernel, by decide +kernel⟩
theorem i8_steps : MV yX8_steps cX8_steps 4 (some .int) 1 := ⟨wd_292, wd_290, wd_291, wd_5, by decide +kernel, by decide +kernel, by decide +kernel⟩
theorem i8_calls : MV yX8_calls cX8_calls 4 (some .int) 1 := ⟨wd_329, wd_327, wd_328, wd_5, by decide +kernel, by decide +kernel, by decide +kernel⟩
theorem i8_callers : MV yX8_callers cX8_callers 4 (some .int) 1 := ⟨wd_325, wd_323, wd_324, wd_5, by decide +kernel, by decide +kernel, by decide +kernel⟩
theorem i8_nested : MV yX8_nested cX8_nested 5 (some .int) 1 := ⟨wd_588, wd_586, wd_587, wd_5, by decide +kernel, by decide +kernel, by decide +kernel⟩
theorem i8_reached : MV yX8_reached cX8_reached 5 (some .int) 1 := ⟨wd_768, wd_766, wd_767, wd_5, by decide +kernel, by decide +kernel, by decide +kernel⟩
theorem i8_reaches : MV yX8_reaches cX8_reaches 2 (some .int) 1 := ⟨wd_839, wd_837, wd_838, wd_5, by decide +kernel, by decide +kernel, by decide +kernel⟩
theorem i8_card : MV yX8_card cX8_card 3 (some .int) 1 := ⟨wd_262, wd_260, wd_261, wd_5, by decide +kernel, by decide +kernel, by decide +kernel⟩
theorem i8_blank : MV yX8_blank cX8_blank 2 (some .int) 1 := ⟨wd_317, wd_315, wd_316, wd_5, by decide +kernel, by decide +kernel, by decide +kernel⟩
theorem i8_leastOf : MS yX8_leastOf cX8_leastOf 1 (some .int) 1 := ⟨wd_160, wd_159, wd_5, by decide +kernel, by decide +kernel, by decide +kernel⟩
theorem i8_set : MV yX8_set cX8_set 4 (some .int) 2 := ⟨wd_154, wd_152, wd_153, wd_5, by decide +kernel, by decide +kernel, by decide +kernel⟩
theorem i8_frame : MV yX8_frame cX8_frame 2 (some .int) 1 := ⟨wd_367, wd_365, wd_366, wd_5, by decide +kernel, by decide +kernel, by decide +kernel⟩
theorem i8_onTop : MV yX8_onTop cX8_onTop 2 (some .int) 1 := ⟨wd_468, wd_466, wd_467, wd_5, by decide +kernel, by decide +kernel, by decide +kernel⟩
theorem i8_setTop : MV yX8_setTop cX8_setTop 3 none 2 := ⟨wd_363, wd_361, wd_362, wd_5, by decide +kernel, by decide +kernel, by decide +kernel⟩
theorem i8_signAt : MV yX8_signAt cX8_signAt 2 (some .int) 1 := ⟨wd_472, wd_470, wd_471, wd_5, by decide +kernel, by decide +kernel, by decide +kernel⟩
theorem i8_go : MV yX8_go cX8_go 2 none 1 := ⟨wd_504, wd_502, wd_503, wd_5, by decide +kernel, by decide +kernel, by decide +kernel⟩
theorem i8_lay : MV yX8_lay cX8_lay 4 none 2 := ⟨wd_359, wd_357, wd_358, wd_5, by decide +kernel, by decide +kernel, by decide +kernel⟩
theorem i8_open : MV yX8_open cX8_open 2 none 1 := ⟨wd_512, wd_510, wd_511, wd_5, by decide +kernel, by decide +kernel, by decide +kernel⟩
theorem i8_close : MV yX8_close cX8_close 2 none 0 := ⟨wd_528, wd_526, wd_527, wd_5, by decide +kernel, by decide +kernel, by decide +kernel⟩
theorem i8_settle : MV yX8_settle cX8_settle 2 none 0 := ⟨wd_524, wd_522, wd_523, wd_5, by decide +kernel, by decide +kernel, by decide +kernel⟩
theorem i8_passPart : MV yX8_passPart cX8_passPart 4 none 1 := ⟨wd_520, wd_518, wd_519, wd_5, by decide +kernel, by decide +kernel, by decide +kernel⟩
theorem i8_isShort : MV yX8_isShort cX8_isShort 1 (some .boolean) 0 := ⟨wd_516, wd_514, wd_515, wd_5, by decide +kernel, by decide +kernel, by decide +kernel⟩
theorem i8_countAt : MV yX8_countAt cX8_countAt 3 (some .int) 1 := ⟨wd_500, wd_498, wd_499, wd_5, by decide +kernel, by decide +kernel, by decide +kernel⟩
theorem i8_leftHere : MV yX8_leftHere cX8_leftHere 1 (some .int) 0 := ⟨wd_496, wd_494, wd_495, wd_5, by decide +kernel, by decide +kernel, by decide +kernel⟩
theorem i8_donePick : MV yX8_donePick cX8_donePick 2 none 0 := ⟨wd_492, wd_490, wd_491, wd_5, by decide +kernel, by decide +kernel, by decide +kernel⟩
theorem i8_weavePick : MV yX8_weavePick cX8_weavePick 2 none 0 := ⟨wd_488, wd_486, wd_487, wd_5, by decide +kernel, by decide +kernel, by decide +kernel⟩
theorem i8_reasonOfPick : MV yX8_reasonOfPick cX8_reasonOfPick 2 (some .int) 0 := ⟨wd_476, wd_474, wd_475, wd_5, by decide +kernel, by decide +kernel, by decide +kernel⟩
theorem i8_reasonOfCall : MV yX8_reasonOfCall cX8_reasonOfCall 2 (some .int) 0 := ⟨wd_480, wd_478, wd_479, wd_5, by decide +kernel, by decide +kernel, by decide +kernel⟩
theorem i8_reason : MV yX8_reason cX8_reason 4 (some .int) 1 := ⟨wd_464, wd_462, wd_463, wd_5, by decide +kernel, by decide +kernel, by decide +kernel⟩
theorem i8_doPart : MV yX8_doPart cX8_doPart 3 none 1 := ⟨wd_508, wd_506, wd_507, wd_5, by decide +kernel, by decide +kernel, by decide +kernel⟩
theorem i8_doStep : MV yX8_doStep cX8_doStep 2 (some .boolean) 0 := ⟨wd_484, wd_482, wd_483, wd_5, by decide +kernel, by decide +kernel, by decide +kernel⟩
theorem i8_weaves : MV yX8_weaves cX8_weaves 6 (some .int) 1 := ⟨wd_460, wd_458, wd_459, wd_5, by decide +kernel, by decide +kernel, by decide +kernel⟩
theorem i8_begin : MV yX8_begin cX8_begin 3 (some .int) 1 := ⟨wd_355, wd_353, wd_354, wd_5, by decide +kernel, by decide +kernel, by decide +kernel⟩
theorem i8_weave : MV yX8_weave cX8_weave 2 (some .int) 1 := ⟨wd_456, wd_454, wd_455, wd_5, by decide +kernel, by decide +kernel, by decide +kernel⟩
theorem i8_skip : MV yX8_skip cX8_skip 2 (some .int) 0 := ⟨wd_540, wd_538, wd_539, wd_5, by decide +kernel, by decide +kernel, by decide +kernel⟩
theorem i8_tie : MV yX8_tie cX8_tie 4 (some .int) 2 := ⟨wd_552, wd_550, wd_551, wd_5, by decide +kernel, by decide +kernel, by decide +kernel⟩
theorem i8_cut : MV yX8_cut cX8_cut 2 (some .int) 0 := ⟨wd_564, wd_562, wd_563, wd_5, by decide +kernel, by decide +kernel, by decide +kernel⟩
theorem i8_timesOnStack : MV yX8_timesOnStack cX8_timesOnStack 4 (some .int) 1 := ⟨wd_584, wd_582, wd_583, wd_5, by decide +kernel, by decide +kernel, by decide +kernel⟩
theorem i8_of : MV yX8_of cX8_of 3 (some .int) 2 := ⟨wd_580, wd_578, wd_579, wd_5, by decide +kernel, by decide +kernel, by decide +kernel⟩
theorem i8_stack : MV yX8_stack cX8_stack 3 (some .int) 2 := ⟨wd_603, wd_601, wd_602, wd_5, by decide +kernel, by decide +kernel, by decide +kernel⟩
theorem i8_inCloth : MV yX8_inCloth cX8_inCloth 4 (some .int) 1 := ⟨wd_627, wd_625, wd_626, wd_5, by decide +kernel, by decide +kernel, by decide +kernel⟩
theorem i8_longestRow : MV yX8_longestRow cX8_longestRow 5 (some .int) 1 := ⟨wd_631, wd_629, wd_630, wd_5, by decide +kernel, by decide +kernel, by decide +kernel⟩
theorem i8_thread : MV yX8_thread cX8_thread 3 (some .int) 2 := ⟨wd_623, wd_621, wd_622, wd_5, by decide +kernel, by decide +kernel, by decide +kernel⟩
theorem i8_pick : MV yX8_pick cX8_pick 2 (some .int) 1 := ⟨wd_640, wd_638, wd_639, wd_5, by decide +kernel, by decide +kernel, by decide +kernel⟩
theorem i8_aheadByEnd : MV yX8_aheadByEnd cX8_aheadByEnd 5 (some .int) 1 := ⟨wd_656, wd_654, wd_655, wd_5, by decide +kernel, by decide +kernel, by decide +kernel⟩
theorem i8_byEnd : MV yX8_byEnd cX8_byEnd 3 (some .int) 1 := ⟨wd_652, wd_650, wd_651, wd_5, by decide +kernel, by decide +kernel, by decide +kernel⟩
theorem i8_aheadByCloth : MV yX8_aheadByCloth cX8_aheadByCloth 5 (some .int) 1 := ⟨wd_673, wd_671, wd_672, wd_5, by decide +kernel, by decide +kernel, by decide +kernel⟩
theorem i8_byCloth : MV yX8_byCloth cX8_byCloth 3 (some .int) 1 := ⟨wd_669, wd_667, wd_668, wd_5, by decide +kernel, by decide +kernel, by decide +kernel⟩
theorem i8_withTexts : MV yX8_withTexts cX8_withTexts 3 (some .int) 0 := ⟨wd_720, wd_718, wd_719, wd_5, by decide +kernel, by decide +kernel, by decide +kernel⟩
theorem i8_sumOf : MV yX8_sumOf cX8_sumOf 4 (some .int) 1 := ⟨wd_724, wd_722, wd_723, wd_5, by decide +kernel, by decide +kernel, by decide +kernel⟩
theorem i8_count : MV yX8_count cX8_count 2 (some .int) 1 := ⟨wd_716, wd_714, wd_715, wd_5, by decide +kernel, by decide +kernel, by decide +kernel⟩
theorem i8_bounded : MS yX8_bounded cX8_bounded 1 (some .int) 1 := ⟨wd_796, wd_795, wd_5, by decide +kernel, by decide +kernel, by decide +kernel⟩
theorem i8_countPicks : MV yX8_countPicks cX8_countPicks 4 none 3 := ⟨wd_793, wd_791, wd_792, wd_5, by decide +kernel, by decide +kernel, by decide +kernel⟩
theorem i8_behindPart : MV yX8_behindPart cX8_behindPart 5 (some .int) 2 := ⟨wd_805, wd_803, wd_804, wd_5, by decide +kernel, by decide +kernel, by decide +kernel⟩
theorem i8_digitAt : MV yX8_digitAt cX8_digitAt 3 (some .int) 2 := ⟨wd_789, wd_787, wd_788, wd_5, by decide +kernel, by decide +kernel, by decide +kernel⟩
theorem i8_countCard : MV yX8_countCard cX8_countCard 10 none 2 := ⟨wd_785, wd_783, wd_784, wd_5, by decide +kernel, by decide +kernel, by decide +kernel⟩
theorem i8_addCalled : MV yX8_addCalled cX8_addCalled 4 none 2 := ⟨wd_801, wd_799, wd_800, wd_5, by decide +kernel, by decide +kernel, by decide +kernel⟩
theorem i8_areKnown : MV yX8_areKnown cX8_areKnown 4 (some .boolean) 1 := ⟨wd_781, wd_779, wd_780, wd_5, by decide +kernel, by decide +kernel, by decide +kernel⟩
theorem i8_deepest : MV yX8_deepest cX8_deepest 4 (some .int) 1 := ⟨wd_809, wd_807, wd_808, wd_5, by decide +kernel, by decide +kernel, by decide +kernel⟩
theorem i8_countAll : MV yX8_countAll cX8_countAll 4 none 0 := ⟨wd_777, wd_775, wd_776, wd_5, by decide +kernel, by decide +kernel, by decide +kernel⟩
theorem i8_whyNot : MV yX8_whyNot cX8_whyNot 5 (some .int) 1 := ⟨wd_764, wd_762, wd_763, wd_5, by decide +kernel, by decide +kernel, by decide +kernel⟩
theorem i8_tellsPicks : MV yX8_tellsPicks cX8_tellsPicks 5 (some .int) 2 := ⟨wd_772, wd_770, wd_771, wd_5, by decide +kernel, by decide +kernel, by decide +kernel⟩
theorem i8_picks : MV yX8_picks cX8_picks 4 (some .int) 2 := ⟨wd_760, wd_758, wd_759, wd_5, by decide +kernel, by decide +kernel, by decide +kernel⟩
theorem i8_tellsDepth : MV yX8_tellsDepth cX8_tellsDepth 2 (some .int) 1 := ⟨wd_830, wd_828, wd_829, wd_5, by decide +kernel, by decide +kernel, by decide +kernel⟩
theorem i8_depth : MV yX8_depth cX8_depth 3 (some .int) 1 := ⟨wd_826, wd_824, wd_825, wd_5, by decide +kernel, by decide +kernel, by decide +kernel⟩
theorem i8_tellsStop : MV yX8_tellsStop cX8_tellsStop 5 (some .int) 1 := ⟨wd_852, wd_850, wd_851, wd_5, by decide +kernel, by decide +kernel, by decide +kernel⟩
theorem i8_stop : MV yX8_stop cX8_stop 2 (some .int) 1 := ⟨wd_848, wd_846, wd_847, wd_5, by decide +kernel, by decide +kernel, by decide +kernel⟩
theorem i8_tellsAhead : MV yX8_tellsAhead cX8_tellsAhead 4 (some .int) 1 := ⟨wd_868, wd_866, wd_867, wd_5, by decide +kernel, by decide +kernel, by decide +kernel⟩
theorem i8_ahead : MV yX8_ahead cX8_ahead 2 (some .int) 1 := ⟨wd_864, wd_862, wd_863, wd_5, by decide +kernel, by decide +kernel, by decide +kernel⟩
end
